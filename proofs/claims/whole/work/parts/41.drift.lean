/-! DRIFT: both -/
theorem dogs_15 (u : wU) (s x : Int32) : ∀ n, dogsA (u.1, u.2.1, upd u.2.2 15 x) s n = ((dogsA u s n).1, (dogsA u s n).2.1, upd (dogsA u s n).2.2 15 x) ∧ mskA (u.1, u.2.1, upd u.2.2 15 x) s n = mskA u s n
  | 0 => ⟨rfl, rfl⟩
  | n + 1 => by
    obtain ⟨i1, i2⟩ := dogs_15 u s x n
    rw [dogsA, dogsA, mskA, mskA, i1, i2]
    dsimp only
    by_cases hq : nI n = u.2.2 13
    · have hq' : nI n = upd u.2.2 15 x 13 := hq
      simp only [if_pos hq, if_pos hq', and_self]
    · have hq' : ¬ nI n = upd u.2.2 15 x 13 := hq
      simp only [if_neg hq, if_neg hq', and_true]
      rw [dogA, dogA]
      dsimp only
      rw [upd_n (show (16 : Nat) ≠ 15 by decide), upd_n (show (17 : Nat) ≠ 15 by decide), upd_comm _ (show (15 : Nat) ≠ 16 by decide), upd_comm _ (show (15 : Nat) ≠ 17 by decide)]
theorem tik_15 (u : wU) (s x : Int32) : tikA (u.1, u.2.1, upd u.2.2 15 x) s = ((tikA u s).1, (tikA u s).2.1, upd (tikA u s).2.2 15 x) := by
  obtain ⟨i1, i2⟩ := dogs_15 u s x (dN u.1)
  simp only [tikA, i1, i2]
  rw [upd_comm _ (show (15 : Nat) ≠ 18 by decide)]
  split
  · simp only [rstA]
    rw [upd_n (show (14 : Nat) ≠ 15 by decide), upd_comm _ (show (15 : Nat) ≠ 14 by decide)]
  · rfl
def dvA (seed : Int32) : Nat → Int32
  | 0 => seed
  | k + 1 => dvA seed k * 1103515245 + 12345
def gtA (x : Int32) : Nat := x.toBitVec.toNat / 65536 % 32768
def dgS (n : wRow) (x : Int32) : Int32 := if isStk n = true then 0 else nI (gtA x % 16)
def duA (u : wU) (seed : Int32) : Nat → wU
  | 0 => u
  | k + 1 => tikA (duA u seed k) (dgS (duA u seed k).1 (dvA seed (k + 1)))
def csA (n : wRow) : Nat → Int32
  | 0 => 0
  | d + 1 => csA n d + n (4 * d + 2)
def aDrift (P : wRow) (seed n w : Int32) : Int32 := if inB n 1 200 = true ∧ inB w 0 1 = true then (if P 16 = 0 then -2 else if w = 0 then (duA (stP P (-4)) seed n.toNatClampNeg).2.2 14 else csA (duA (stP P (-4)) seed n.toNatClampNeg).1 (dN P)) else -1
theorem gt_u (x : Int32) : (x.toUInt32 >>> (Int32.toUInt32 16 &&& Int32.toUInt32 31)).toInt32 &&& 32767 = nI (gtA x) := by
  rw [pk_and _ 15 (by decide), pk_ushr x 16 16 (by decide)]
  rfl
theorem gt_s (x : Int32) : (x >>> (16 &&& 31)) &&& 32767 = nI (gtA x) := by
  rw [pk_and _ 15 (by decide)]
  have h := pk_shr x (16 &&& 31) 16 (by decide)
  congr 1
  have e1 : (x >>> (16 &&& 31)).toInt = (x >>> (16 &&& 31)).toBitVec.toInt := rfl
  have e2 : x.toInt = x.toBitVec.toInt := rfl
  rw [e1, e2, BitVec.toInt_eq_toNat_cond, BitVec.toInt_eq_toNat_cond, Int.shiftRight_eq_div_pow] at h
  have h1 := (x >>> (16 &&& 31)).toBitVec.isLt
  have h2 := x.toBitVec.isLt
  rw [gtA]
  generalize (x >>> (16 &&& 31)).toBitVec.toNat = a at *
  generalize x.toBitVec.toNat = b at *
  have e3 : ((2 ^ 16 : Nat) : Int) = 65536 := by decide
  rw [e3] at h
  split at h <;> split at h <;> omega
theorem gt_rem (x : Int32) : nI (gtA x) - nI (gtA x) / 16 * 16 = nI (gtA x % 16) := by
  have : gtA x < 32768 := Nat.mod_lt _ (by decide)
  exact pk_rem (d := 16) (by omega) (by decide) (by decide)
theorem du_wf {u : wU} {seed : Int32} (hw : wf u.1) : ∀ n, wf (duA u seed n).1 ∧ dN (duA u seed n).1 = dN u.1
  | 0 => ⟨hw, rfl⟩
  | n + 1 => by
    obtain ⟨h1, h2⟩ := du_wf (seed := seed) hw n
    obtain ⟨g1, g2, _⟩ := tik_wf (s := dgS (duA u seed n).1 (dvA seed (n + 1))) h1
    exact ⟨g1, g2.trans h2⟩
theorem eq_du {u v : wU} {seed : Int32} (hw : wf u.1) (h : eqU u v) : ∀ n, eqU (duA u seed n) (duA v seed n)
  | 0 => h
  | n + 1 => by
    have i := eq_du (seed := seed) hw h n
    have hwn := (du_wf (seed := seed) hw n).1
    rw [duA, duA]
    have e : dgS (duA u seed n).1 (dvA seed (n + 1)) = dgS (duA v seed n).1 (dvA seed (n + 1)) := by
      rw [dgS, dgS, eq_isStk i.1 hwn]
    rw [e]
    exact (eq_tikA hwn.1.2 i).1
theorem du_o {u : wU} {seed : Int32} {k : Nat} (h4 : k ≠ 14) (h6 : k ≠ 16) (h7 : k ≠ 17) (h8 : k ≠ 18) : ∀ n, (duA u seed n).2.2 k = u.2.2 k
  | 0 => rfl
  | n + 1 => (tik_o h4 h6 h7 h8).trans (du_o h4 h6 h7 h8 n)
theorem eq_cs {n m : wRow} (h : ∀ j, j < 61 → n j = m j) : ∀ d, d ≤ 4 → csA n d = csA m d
  | 0, _ => rfl
  | d + 1, hd => by rw [csA, csA, eq_cs h d (by omega), h _ (by omega)]
section R
variable {G : wd_G} {τ : wd_T} {Q : wd_P}
theorem l_R_drift1 {σ : wd_S} {u : wU} {seed w c : Int32} {n : Nat} (hw : wf u.1) (hn : n < 2 ^ 31) (h : ∀ l7, Run wR G M_R_drift 102 [some (.ref 0), some (.int seed), some (.int (nI n)), some (.int w), some (.int (dvA seed n)), some (.int c), some (.int (nI n)), l7] [] (mR σ (duA u seed n)) τ Q) : ∀ (m k : Nat) (l7 : Option Value), n = k + m → Run wR G M_R_drift 47 [some (.ref 0), some (.int seed), some (.int (nI n)), some (.int w), some (.int (dvA seed k)), some (.int c), some (.int (nI k)), l7] [] (mR σ (duA u seed k)) τ Q := by
  intro m
  induction m with
  | zero =>
    intro k l7 hk
    have e : k = n := by omega
    subst e
    refine wd_go ok_R_drift [47, 102] 20 (fun R hR => ?_)
    conv => whnf
    try dsimp only
    refine br_t (nI_le (Nat.le_refl _) hn) ?_
    conv => whnf
    try dsimp only
    exact hR (h l7)
  | succ m ih =>
    intro k l7 hk
    have hwk := (du_wf (seed := seed) hw k).1
    have nxt := fun l7 => ih (k + 1) l7 (by omega)
    simp only [nI_succ] at nxt
    refine wd_go ok_R_drift [47, 102] 30 (fun R hR => ?_)
    conv => whnf
    try dsimp only
    refine br_f (nI_ge (by omega) hn) ?_
    conv => whnf
    try dsimp only
    refine fL_to ?_
    conv => whnf
    try dsimp only
    rw [gt_s]
    refine hR (k_R_drift_78 (Nat.le_of_ble_eq_true rfl) rfl (s_R_isStuck hwk ?_))
    rw [mR_2]
    have e1 : dvA seed (k + 1) = dvA seed k * 1103515245 + 12345 := rfl
    cases hb : isStk (duA u seed k).1 with
    | true =>
      refine wd_go ok_R_drift [47, 102] 30 (fun R hR => ?_)
      conv => whnf
      try dsimp only
      refine br_f (by decide) ?_
      conv => whnf
      try dsimp only
      refine hR (k_R_drift_93 (Nat.le_of_ble_eq_true rfl) rfl (s_R_dogsGo hwk ?_))
      refine wd_go ok_R_drift [47, 102] 30 (fun R hR => ?_)
      conv => whnf
      try dsimp only
      refine hR ?_
      have := nxt (some (.int (nI (gtA (dvA seed (k + 1))))))
      rw [duA, dgS, if_pos hb] at this
      exact this
    | false =>
      refine wd_go ok_R_drift [47, 102] 30 (fun R hR => ?_)
      conv => whnf
      try dsimp only
      refine br_t rfl ?_
      conv => whnf
      try dsimp only
      refine ⟨by decide, ?_⟩
      rw [gt_rem]
      conv => whnf
      try dsimp only
      refine hR (k_R_drift_93 (Nat.le_of_ble_eq_true rfl) rfl (s_R_dogsGo hwk ?_))
      refine wd_go ok_R_drift [47, 102] 30 (fun R hR => ?_)
      conv => whnf
      try dsimp only
      refine hR ?_
      have := nxt (some (.int (nI (gtA (dvA seed (k + 1))))))
      rw [duA, dgS, if_neg (by rw [hb]; decide)] at this
      exact this
theorem l_R_drift2 {σ : wd_S} {D : Nat} {s n v w : Int32} {l7 : Option Value} (h16 : σ 1 16 = nI D) (hD : D ≤ 4) (h : Q (some (.int (if w = 0 then σ 0 14 else csA (σ 2) D))) σ τ) : ∀ (m k : Nat), D = k + m → Run wR G M_R_drift 105 [some (.ref 0), some (.int s), some (.int n), some (.int w), some (.int v), some (.int (csA (σ 2) k)), some (.int (nI k)), l7] [] σ τ Q := by
  have e16 : σ 1 (Int32.toNatClampNeg 16) = nI D := h16
  intro m
  induction m with
  | zero =>
    intro k hk
    have e : k = D := by omega
    subst e
    refine wd_go ok_R_drift [105] 20 (fun R hR => ?_)
    conv => whnf
    try dsimp only
    refine ⟨vp_in_nI (by first | decide | omega) (by first | decide | omega), ?_⟩
    conv => whnf
    try dsimp only
    rw [e16]
    refine br_t (nI_le (Nat.le_refl _) (by omega)) ?_
    conv => whnf
    try dsimp only
    by_cases hz : w = 0
    · rw [if_pos hz] at h
      refine nb_f hz ?_
      conv => whnf
      try dsimp only
      exact h
    · rw [if_neg hz] at h
      refine nb_t hz ?_
      conv => whnf
      try dsimp only
      exact h
  | succ m ih =>
    intro k hk
    refine wd_go ok_R_drift [105] 20 (fun R hR => ?_)
    conv => whnf
    try dsimp only
    refine ⟨vp_in_nI (by first | decide | omega) (by first | decide | omega), ?_⟩
    conv => whnf
    try dsimp only
    rw [e16]
    refine br_f (nI_ge (by omega) (by omega)) ?_
    conv => whnf
    try dsimp only
    refine hR (k_R_drift_123 (Nat.le_of_ble_eq_true rfl) rfl (s_R_of2 (by omega) ?_))
    refine wd_go ok_R_drift [105] 20 (fun R hR => ?_)
    conv => whnf
    try dsimp only
    refine fL_to ?_
    conv => whnf
    try dsimp only
    refine fL_to ?_
    conv => whnf
    try dsimp only
    refine hR ?_
    have := ih (k + 1) (by omega)
    rw [csA, nI_succ] at this
    exact this
theorem s_R_drift {σ : wd_S} {s n w : Int32} (hw : wf (σ 1)) (h : ∀ σ', frR σ σ' → Q (some (.int (aDrift (σ 1) s n w))) σ' τ) : Run wR G M_R_drift 0 [some (.ref 0), some (.int s), some (.int n), some (.int w), none, none, none, none] [] σ τ Q := by
  have hD4 := hw.1.2
  rw [aDrift] at h
  refine wd_go ok_R_drift [47] 20 (fun R hR => ?_)
  conv => whnf
  try dsimp only
  refine hR (k_R_drift_6 (Nat.le_of_ble_eq_true rfl) (s_R_in2 (a := 1) (b := 200) rfl rfl ?_))
  cases hn : inB n 1 200 with
  | false =>
    refine wd_go ok_R_drift [47] 20 (fun R hR => ?_)
    conv => whnf
    try dsimp only
    refine br_t rfl ?_
    conv => whnf
    try dsimp only
    rw [if_neg (fun z => by rw [hn] at z; cases z.1)] at h
    exact h σ frR.rf
  | true =>
    refine wd_go ok_R_drift [47] 20 (fun R hR => ?_)
    conv => whnf
    try dsimp only
    refine br_f (by decide) ?_
    conv => whnf
    try dsimp only
    refine hR (k_R_drift_13 (Nat.le_of_ble_eq_true rfl) (s_R_isPart ?_))
    cases hp : inB w 0 1 with
    | false =>
      refine wd_go ok_R_drift [47] 20 (fun R hR => ?_)
      conv => whnf
      try dsimp only
      refine nb_f rfl ?_
      conv => whnf
      try dsimp only
      rw [if_neg (fun z => by rw [hp] at z; cases z.2)] at h
      exact h σ frR.rf
    | true =>
      rw [if_pos ⟨hn, hp⟩] at h
      obtain ⟨n, _, hnn, rfl⟩ := inM (M := 1) (N := 200) (by decide) (by decide) hn
      rw [nI_clamp (by omega)] at h
      refine wd_go ok_R_drift [47] 20 (fun R hR => ?_)
      conv => whnf
      try dsimp only
      refine nb_t (by decide) ?_
      conv => whnf
      try dsimp only
      refine ⟨vp_in_nI (by first | decide | omega) (by first | decide | omega), ?_⟩
      conv => whnf
      try dsimp only
      by_cases hz : σ 1 16 = 0
      · rw [if_pos hz] at h
        refine nb_f hz ?_
        conv => whnf
        try dsimp only
        exact h σ frR.rf
      · rw [if_neg hz] at h
        refine nb_t hz ?_
        conv => whnf
        try dsimp only
        refine hR (k_R_drift_41 (Nat.le_of_ble_eq_true rfl) rfl (s_R_starts ?_))
        refine wd_go ok_R_drift [47] 20 (fun R hR => ?_)
        conv => whnf
        try dsimp only
        refine hR (l_R_drift1 (u := stU σ) (stU_wf hw) (by omega) (fun l7 => ?_) n 0 none (by omega))
        have q := eq_du (seed := s) (stU_wf hw) (stU_eq σ) n
        have fr : frR σ (mR σ (duA (stU σ) s n)) := mR_fr (fun k hk => by
          rw [du_o (by omega) (by omega) (by omega) (by omega)]
          exact stU_o hk)
        refine wd_go ok_R_drift [105] 20 (fun R hR => ?_)
        conv => whnf
        try dsimp only
        refine fL_to ?_
        conv => whnf
        try dsimp only
        refine hR (l_R_drift2 (σ := mR σ (duA (stU σ) s n)) (D := dN (σ 1)) hw.1.1 hD4 ?_ (dN (σ 1)) 0 (by omega))
        rw [mR_0, mR_2, q.2.2 14 (by decide) (by decide), eq_cs q.1 _ hD4]
        exact h _ fr
end R
section C
variable {G : wd_G} {τ : wd_T} {Q : wd_P} {P : wRow}
theorem l_D_drift {σ0 : wd_S} {u : wU} {seed w : Int32} {n : Nat} (hw : wf u.1) (hn : n < 2 ^ 31) (h : ∀ σ y l6, relT σ ((duA u seed n).1, (duA u seed n).2.1, upd (duA u seed n).2.2 15 y) → frT σ0 σ → Run wC G M_D_drift 117 [some (.ref 0), some (.int seed), some (.int (nI n)), some (.int w), some (.int (dvA seed n)), some (.int (nI n)), l6] [] σ τ Q) : ∀ (m k : Nat) (σ : wd_S) (y : Int32) (l6 : Option Value), n = k + m → relT σ ((duA u seed k).1, (duA u seed k).2.1, upd (duA u seed k).2.2 15 y) → frT σ0 σ → Run wC G M_D_drift 52 [some (.ref 0), some (.int seed), some (.int (nI n)), some (.int w), some (.int (dvA seed k)), some (.int (nI k)), l6] [] σ τ Q := by
  intro m
  induction m with
  | zero =>
    intro k σ y l6 hk hr hf
    have e : k = n := by omega
    subst e
    refine wd_go ok_D_drift [52, 117] 20 (fun R hR => ?_)
    conv => whnf
    try dsimp only
    refine br_t (nI_le (Nat.le_refl _) hn) ?_
    conv => whnf
    try dsimp only
    exact hR (h σ y l6 hr hf)
  | succ m ih =>
    intro k σ y l6 hk hr hf
    have hwk := (du_wf (seed := seed) hw k).1
    refine wd_go ok_D_drift [52, 117] 30 (fun R hR => ?_)
    conv => whnf
    try dsimp only
    refine br_f (nI_ge (by omega) hn) ?_
    conv => whnf
    try dsimp only
    refine fL_to ?_
    conv => whnf
    try dsimp only
    rw [gt_u]
    have e1 : dvA seed (k + 1) = dvA seed k * 1103515245 + 12345 := rfl
    have fin : ∀ sg σ', sg = dgS (duA u seed k).1 (dvA seed (k + 1)) → relT σ' (stpA ((duA u seed k).1, (duA u seed k).2.1, upd (duA u seed k).2.2 15 y) sg) → frT σ σ' → Run wC G M_D_drift 52 [some (.ref 0), some (.int seed), some (.int (nI n)), some (.int w), some (.int (dvA seed (k + 1))), some (.int (nI k + 1)), some (.int (nI (gtA (dvA seed (k + 1)))))] [] σ' τ Q := by
      intro sg σ' hsg hr' hf'
      rw [stpA] at hr'
      dsimp only at hr'
      rw [upd_upd, tik_15, hsg] at hr'
      rw [← nI_succ]
      exact ih (k + 1) σ' _ _ (by omega) hr' (hf.tr hf')
    refine hR (k_D_drift_92 (Nat.le_of_ble_eq_true rfl) rfl (s_stuck_20 hr.1 hwk.2.2.1 ?_))
    dsimp only
    cases hb : isStk (duA u seed k).1 with
    | true =>
      refine wd_go ok_D_drift [52, 117] 30 (fun R hR => ?_)
      conv => whnf
      try dsimp only
      refine br_f (by decide) ?_
      conv => whnf
      try dsimp only
      refine hR (k_D_drift_107 (Nat.le_of_ble_eq_true rfl) rfl (s_T_step hr hwk (fun σ' hr' hf' => ?_)))
      refine wd_go ok_D_drift [52, 117] 30 (fun R hR => ?_)
      conv => whnf
      try dsimp only
      refine hR ?_
      exact fin 0 σ' (by rw [dgS, if_pos hb]) hr' hf'
    | false =>
      refine wd_go ok_D_drift [52, 117] 30 (fun R hR => ?_)
      conv => whnf
      try dsimp only
      refine br_t rfl ?_
      conv => whnf
      try dsimp only
      refine ⟨by decide, ?_⟩
      rw [gt_rem]
      conv => whnf
      try dsimp only
      refine hR (k_D_drift_107 (Nat.le_of_ble_eq_true rfl) rfl (s_T_step hr hwk (fun σ' hr' hf' => ?_)))
      refine wd_go ok_D_drift [52, 117] 30 (fun R hR => ?_)
      conv => whnf
      try dsimp only
      refine hR ?_
      exact fin _ σ' (by rw [dgS, if_neg (by rw [hb]; decide)]; rfl) hr' hf'
theorem l_P_counts {σ : wd_S} {n : wRow} (hr : relC σ 20 n) (hw : wf n) (h : Q (some (.int (csA n (dN n)))) σ τ) : ∀ (m k : Nat), dN n = k + m → Run wC G M_P_countsSummed 4 [some (.ref 20), some (.int (csA n k)), some (.int (nI k))] [] σ τ Q := by
  have hD4 := hw.1.2
  intro m
  induction m with
  | zero =>
    intro k hk
    have e : k = dN n := by omega
    subst e
    refine wd_go ok_P_countsSummed [4] 20 (fun R hR => ?_)
    conv => whnf
    try dsimp only
    rw [hr.1.1, hw.1.1]
    refine br_t (nI_le (Nat.le_refl _) (by omega)) ?_
    conv => whnf
    try dsimp only
    exact h
  | succ m ih =>
    intro k hk
    refine wd_go ok_P_countsSummed [4] 20 (fun R hR => ?_)
    conv => whnf
    try dsimp only
    rw [hr.1.1, hw.1.1]
    refine br_f (nI_ge (by omega) (by omega)) ?_
    conv => whnf
    try dsimp only
    refine ⟨vp_in_nI (by first | decide | omega) (by first | decide | omega), ?_⟩
    conv => whnf
    try dsimp only
    rw [nI_clamp (by omega), (hr.2.1 k (by omega)).2.2.1]
    refine hR ?_
    have := ih (k + 1) (by omega)
    rw [csA, nI_succ] at this
    exact this
theorem s_D_drift {σ : wd_S} {s n w : Int32} (hr : relC σ 10 P) (hw : wf P) (h : ∀ σ', frD σ σ' → Q (some (.int (aDrift P s n w))) σ' τ) : Run wC G M_D_drift 0 [some (.ref 0), some (.int s), some (.int n), some (.int w), none, none, none] [] σ τ Q := by
  have hD4 := hw.1.2
  rw [aDrift] at h
  refine wd_go ok_D_drift [52] 20 (fun R hR => ?_)
  conv => whnf
  try dsimp only
  refine hR (k_D_drift_5 (Nat.le_of_ble_eq_true rfl) (s_D_outside ?_))
  cases hn : inB n 1 200 with
  | false =>
    refine wd_go ok_D_drift [52] 20 (fun R hR => ?_)
    conv => whnf
    try dsimp only
    refine nb_t (by decide) ?_
    conv => whnf
    try dsimp only
    rw [if_neg (fun z => by rw [hn] at z; cases z.1)] at h
    exact h σ frD.rf
  | true =>
    refine wd_go ok_D_drift [52] 20 (fun R hR => ?_)
    conv => whnf
    try dsimp only
    refine nb_f rfl ?_
    conv => whnf
    try dsimp only
    refine hR (k_D_drift_14 (Nat.le_of_ble_eq_true rfl) (s_D_outside ?_))
    cases hp : inB w 0 1 with
    | false =>
      refine wd_go ok_D_drift [52] 20 (fun R hR => ?_)
      conv => whnf
      try dsimp only
      refine br_f (by decide) ?_
      conv => whnf
      try dsimp only
      rw [if_neg (fun z => by rw [hp] at z; cases z.2)] at h
      exact h σ frD.rf
    | true =>
      rw [if_pos ⟨hn, hp⟩] at h
      obtain ⟨n, _, hnn, rfl⟩ := inM (M := 1) (N := 200) (by decide) (by decide) hn
      rw [nI_clamp (by omega)] at h
      refine wd_go ok_D_drift [52] 20 (fun R hR => ?_)
      conv => whnf
      try dsimp only
      refine br_t rfl ?_
      conv => whnf
      try dsimp only
      rw [hr.1.1]
      by_cases hz : P 16 = 0
      · rw [if_pos hz] at h
        refine nb_f hz ?_
        conv => whnf
        try dsimp only
        exact h σ frD.rf
      · rw [if_neg hz] at h
        refine nb_t hz ?_
        conv => whnf
        try dsimp only
        refine hR (k_D_drift_43 (Nat.le_of_ble_eq_true rfl) rfl (s_T_begin hr (wf_bd hw) (stP_is P) (fun σ1 r1 f1 => ?_)))
        refine wd_go ok_D_drift [52] 20 (fun R hR => ?_)
        conv => whnf
        try dsimp only
        refine hR (l_D_drift (u := stP P (-4)) hw (by omega) (fun σ2 y l6 r2 f2 => ?_) n 0 σ1 0 none (by omega) ?_ frT.rf)
        · have hwn := du_wf (u := stP P (-4)) (seed := s) hw n
          have h := h σ2 (f1.tr f2).D
          refine wd_go ok_D_drift [] 20 (fun R hR => ?_)
          conv => whnf
          try dsimp only
          by_cases h0 : w = 0
          · rw [if_pos h0] at h
            refine nb_f h0 ?_
            conv => whnf
            try dsimp only
            rw [r2.2.1]
            exact h
          · rw [if_neg h0] at h
            refine nb_t h0 ?_
            conv => whnf
            try dsimp only
            have hdn : dN (duA (stP P (-4)) s n).1 = dN P := hwn.2
            refine hR (k_D_drift_138 (Nat.le_of_ble_eq_true rfl) rfl ?_)
            refine wd_go ok_P_countsSummed [4] 20 (fun R hR => ?_)
            conv => whnf
            try dsimp only
            refine hR (l_P_counts r2.1 hwn.1 ?_ (dN _) 0 (Nat.zero_add _).symm)
            dsimp only
            rw [hdn]
            refine wd_go ok_D_drift [] 20 (fun R hR => ?_)
            conv => whnf
            try dsimp only
            exact h
        · have e : upd (stP P (-4)).2.2 15 0 = (stP P (-4)).2.2 := upd_self (stP P (-4)).2.2 15
          show relT σ1 ((stP P (-4)).1, (stP P (-4)).2.1, upd (stP P (-4)).2.2 15 0)
          rw [e]
          exact r1
end C
