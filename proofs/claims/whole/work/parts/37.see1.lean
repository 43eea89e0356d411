/-! KINDS, LIMITS, ASK: the reference -/
/-- whether there is a RESET in a tick -/
def rsB (X : wRow) (t : Nat) : Bool := decide (¬ (tksA (t + 1) (stP X (-4))).2.2 18 = 0)
theorem rs_is (X : wRow) (t : Nat) : (tksA (t + 1) (stP X (-4))).2.2 18 = bI (rsB X t) := by
  rcases tk_18 (lost := false) (u := tksA t (stP X (-4))) with ⟨h1, _⟩ | ⟨h1, _⟩
  · have h1 : (tksA (t + 1) (stP X (-4))).2.2 18 = 0 := h1
    rw [rsB, h1]
    rfl
  · have h1 : (tksA (t + 1) (stP X (-4))).2.2 18 = 1 := h1
    rw [rsB, h1]
    rfl
def soA (P X : wRow) : Nat → Bool
  | 0 => true
  | i + 1 => soA P X i && decide (bI (rsB X (P (49 + 2 * i)).toNatClampNeg) = P (50 + 2 * i))
def isSo (P X : wRow) : Bool := soA P X (eN P)
def wbA (P : wRow) (d w lo : Nat) : Nat → Int32
  | 0 => 0
  | m + 1 => wbA P d w lo m ||| (bI (isSo P (upd P (4 * d + w) (nI (lo + m)))) <<< (nI (lo + m) &&& 31))
def aKinds (P : wRow) (d : Int32) : Int32 := if inB d 0 (P 16 - 1) = true then wbA P d.toNatClampNeg 0 0 4 else -1
def aLimits (P : wRow) (d : Int32) : Int32 := if inB d 0 (P 16 - 1) = true then wbA P d.toNatClampNeg 1 1 20 else -1
def asM (P : wRow) (d : Nat) : Nat → Nat
  | 0 => 0
  | v + 1 => asM P d v + (isSo P (upd P (4 * d + 1) (nI (1 + v)))).toNat
def asB (P : wRow) (d t : Nat) : Nat → Nat
  | 0 => 0
  | v + 1 => asB P d t v + (isSo P (upd P (4 * d + 1) (nI (1 + v))) && rsB (upd P (4 * d + 1) (nI (1 + v))) t).toNat
theorem tN_le (b : Bool) : b.toNat ≤ 1 := by cases b <;> decide
theorem as_le {P : wRow} {d t : Nat} : ∀ v, asB P d t v ≤ asM P d v ∧ asM P d v ≤ v
  | 0 => ⟨Nat.le_refl 0, Nat.le_refl 0⟩
  | v + 1 => by
    obtain ⟨h1, h2⟩ := as_le (P := P) (d := d) (t := t) v
    rw [asB, asM]
    cases isSo P (upd P (4 * d + 1) (nI (1 + v))) with
    | false =>
      simp only [Bool.false_and, Bool.toNat_false]
      omega
    | true =>
      have := tN_le (rsB (upd P (4 * d + 1) (nI (1 + v))) t)
      simp only [Bool.true_and, Bool.toNat_true]
      omega
def asJ (P : wRow) (d : Nat) : Nat → Int32 × Int32
  | 0 => (-4, nI (asM P d 20))
  | t + 1 => jgS (asJ P d t) (nI t) (nI (max (asB P d t 20) (asM P d 20 - asB P d t 20)))
def aAsk (P : wRow) (d w : Int32) : Int32 := if inB d 0 (P 16 - 1) = true ∧ inB w 0 1 = true then jgA (asJ P d.toNatClampNeg 41) w else -1
section R
variable {G : wd_G} {τ : wd_T} {Q : wd_P}
theorem l_R_so2 {σ0 : wd_S} {X : wRow} {d w v : Int32} (hw : wf (σ0 1)) (h7 : ∀ t, t < 41 → σ0 7 t = bI (rsB X t)) (h : Q (some (.int (bI (isSo (σ0 1) X)))) σ0 τ) : ∀ (m i : Nat), eN (σ0 1) = i + m → Run wR G M_R_isSoWith 52 [some (.ref 0), some (.int d), some (.int w), some (.int v), some (.int (bI (soA (σ0 1) X i))), some (.int (nI i))] [] σ0 τ Q := by
  have he6 := hw.2.2.2.1.2
  have e48 : σ0 1 (Int32.toNatClampNeg 48) = nI (eN (σ0 1)) := hw.2.2.2.1.1
  intro m
  induction m with
  | zero =>
    intro i hi
    have e : i = eN (σ0 1) := by omega
    subst e
    refine wd_go ok_R_isSoWith [52] 20 (fun R hR => ?_)
    conv => whnf
    try dsimp only
    refine ⟨vp_in_nI (by first | decide | omega) (by first | decide | omega), ?_⟩
    conv => whnf
    try dsimp only
    rw [e48]
    refine br_t (nI_le (Nat.le_refl _) (by omega)) ?_
    conv => whnf
    try dsimp only
    exact ⟨bI_bit _, h⟩
  | succ m ih =>
    intro i hi
    have st : ∀ b, b = soA (σ0 1) X (i + 1) → Run wR G M_R_isSoWith 52 [some (.ref 0), some (.int d), some (.int w), some (.int v), some (.int (bI b)), some (.int (nI i + 1))] [] σ0 τ Q := by
      intro b hb
      rw [hb, ← nI_succ]
      exact ih (i + 1) (by omega)
    rw [soA] at st
    obtain ⟨t, ht, ht40⟩ := hw.2.2.2.2.2.2.2 i (by omega)
    refine wd_go ok_R_isSoWith [52] 40 (fun R hR => ?_)
    conv => whnf
    try dsimp only
    refine ⟨vp_in_nI (by first | decide | omega) (by first | decide | omega), ?_⟩
    conv => whnf
    try dsimp only
    rw [e48]
    refine br_f (nI_ge (by omega) (by omega)) ?_
    conv => whnf
    try dsimp only
    cases hb : soA (σ0 1) X i with
    | false =>
      rw [hb] at st
      refine br_t rfl ?_
      conv => whnf
      try dsimp only
      exact hR (st false rfl)
    | true =>
      rw [hb, Bool.true_and, ht, nI_clamp (by omega)] at st
      refine br_f (by decide) ?_
      conv => whnf
      try dsimp only
      rw [il49, il2, pk_mul, nI_add]
      refine ⟨vp_in_nI (by first | decide | omega) (by first | decide | omega), ?_⟩
      conv => whnf
      try dsimp only
      rw [nI_clamp (by omega), ht]
      refine ⟨vp_in_nI (by first | decide | omega) (by first | decide | omega), ?_⟩
      conv => whnf
      try dsimp only
      rw [il49, il2, pk_mul, nI_add, il1, nI_add]
      refine ⟨vp_in_nI (by first | decide | omega) (by first | decide | omega), ?_⟩
      conv => whnf
      try dsimp only
      rw [nI_clamp (by omega), nI_clamp (by omega), show 49 + 2 * i + 1 = 50 + 2 * i by omega, h7 t (by omega)]
      by_cases hz : bI (rsB X t) = σ0 1 (50 + 2 * i)
      · refine nb_f hz ?_
        conv => whnf
        try dsimp only
        exact hR (st true (by rw [decide_eq_true hz]))
      · refine nb_t hz ?_
        conv => whnf
        try dsimp only
        exact hR (st false (by rw [decide_eq_false hz]))
theorem mR_w7 (σ : wd_S) (u : wU) (x : wRow) : wd_uc (mR σ u) 7 x = mR (wd_uc σ 7 x) u := by
  unfold mR
  rw [uc_comm _ (show (0 : Nat) ≠ 7 by decide), uc_comm _ (show (6 : Nat) ≠ 7 by decide), uc_comm _ (show (2 : Nat) ≠ 7 by decide)]
theorem l_R_so1 {σ : wd_S} {u : wU} {X : wRow} {d w v : Int32} (hwu : wf u.1) (hu : eqU u (stP X (-4))) (h : Run wR G M_R_isSoWith 46 [some (.ref 0), some (.int d), some (.int w), some (.int v), some (.int (nI 41)), none] [] (mR (wd_uc σ 7 (fil (fun t => bI (rsB X t)) (σ 7) 41)) (tksA 41 u)) τ Q) : ∀ (m i : Nat), 41 = i + m → Run wR G M_R_isSoWith 14 [some (.ref 0), some (.int d), some (.int w), some (.int v), some (.int (nI i)), none] [] (mR (wd_uc σ 7 (fil (fun t => bI (rsB X t)) (σ 7) i)) (tksA i u)) τ Q := by
  intro m
  induction m with
  | zero =>
    intro i hi
    have e : i = 41 := by omega
    subst e
    refine wd_go ok_R_isSoWith [14, 46] 20 (fun R hR => ?_)
    conv => whnf
    try dsimp only
    refine br_t (by decide) ?_
    conv => whnf
    try dsimp only
    exact hR h
  | succ m ih =>
    intro i hi
    refine wd_go ok_R_isSoWith [14, 46] 20 (fun R hR => ?_)
    conv => whnf
    try dsimp only
    rw [il40]
    refine br_f (nI_nlt (by omega) (by decide)) ?_
    conv => whnf
    try dsimp only
    refine hR (k_R_isSoWith_23 (Nat.le_of_ble_eq_true rfl) rfl (s_R_tickGoes (lost := false) (tks_wf hwu i).1 ?_))
    have e18 : (tkA false (tksA i u)).2.2 18 = bI (rsB X i) := ((eq_tksA hwu hu (i + 1)).2 (by omega)).trans (rs_is X i)
    refine wd_go ok_R_isSoWith [14, 46] 20 (fun R hR => ?_)
    conv => whnf
    try dsimp only
    rw [mR_0, e18]
    refine hR (k_R_isSoWith_36 (Nat.le_of_ble_eq_true rfl) (s_R_flag (bI_bit _) ?_))
    refine wd_go ok_R_isSoWith [14, 46] 20 (fun R hR => ?_)
    conv => whnf
    try dsimp only
    refine ⟨vp_in_nI (by first | decide | omega) (by first | decide | omega), ?_⟩
    conv => whnf
    try dsimp only
    rw [nI_clamp (by omega), mR_w7, mR_n (c := 7) (by decide) (by decide) (by decide), uc_s, uc_uc, fil_s (fun t => bI (rsB X t))]
    refine hR ?_
    have := ih (i + 1) (by omega)
    rw [nI_succ] at this
    exact this
theorem s_R_isSoWith {σ : wd_S} {d w : Nat} {v : Int32} (hw : wf (σ 1)) (hX : wf (upd (σ 1) (4 * d + w) v)) (hd : d < 4) (hw2 : w < 4) (h : ∀ σ', frR σ σ' → σ' 8 = σ 8 → (∀ t, t < 41 → σ' 7 t = bI (rsB (upd (σ 1) (4 * d + w) v) t)) → Q (some (.int (bI (isSo (σ 1) (upd (σ 1) (4 * d + w) v))))) σ' τ) : Run wR G M_R_isSoWith 0 [some (.ref 0), some (.int (nI d)), some (.int (nI w)), some (.int v), none, none] [] σ τ Q := by
  refine wd_go ok_R_isSoWith [14, 46] 20 (fun R hR => ?_)
  conv => whnf
  try dsimp only
  refine hR (k_R_isSoWith_1 (Nat.le_of_ble_eq_true rfl) rfl (s_R_starts ?_))
  refine wd_go ok_R_isSoWith [14, 46] 20 (fun R hR => ?_)
  conv => whnf
  try dsimp only
  refine hR (k_R_isSoWith_8 (Nat.le_of_ble_eq_true rfl) rfl (s_R_becomesOf hd hw2 ?_))
  rw [mR_2, mR_w2]
  have hu := stU_mod (σ := σ) (j := 4 * d + w) (v := v) (by omega)
  have hwu : wf (upd (stU σ).1 (4 * d + w) v) := wf_cong (fun j hj => hu.1 j hj) hX
  refine wd_go ok_R_isSoWith [14, 46] 20 (fun R hR => ?_)
  conv => whnf
  try dsimp only
  have key := l_R_so1 (G := G) (τ := τ) (Q := Q) (σ := σ) (u := (upd (stU σ).1 (4 * d + w) v, (stU σ).2.1, (stU σ).2.2)) (X := upd (σ 1) (4 * d + w) v) (d := nI d) (w := nI w) (v := v) hwu hu ?_ 41 0 (by omega)
  · rw [fil_0, uc_self] at key
    exact hR key
  · refine wd_go ok_R_isSoWith [52] 20 (fun R hR => ?_)
    conv => whnf
    try dsimp only
    have fr : frR σ (mR (wd_uc σ 7 (fil (fun t => bI (rsB (upd (σ 1) (4 * d + w) v) t)) (σ 7) 41)) (tksA 41 (upd (stU σ).1 (4 * d + w) v, (stU σ).2.1, (stU σ).2.2))) := by
      rw [← mR_w7]
      have f := frR_st (σ := σ) (n := 41) (x := upd (stU σ).1 (4 * d + w) v) (b := (stU σ).2.1)
      refine ⟨fun c h0 h2 h6 h7 h8 => ?_, fun k hk => ?_⟩
      · rw [uc_n h7]
        exact f.1 c h0 h2 h6 h7 h8
      · rw [uc_n (by decide)]
        exact f.2 k hk
    have h7 : ∀ t, t < 41 → (mR (wd_uc σ 7 (fil (fun t => bI (rsB (upd (σ 1) (4 * d + w) v) t)) (σ 7) 41)) (tksA 41 (upd (stU σ).1 (4 * d + w) v, (stU σ).2.1, (stU σ).2.2))) 7 t = bI (rsB (upd (σ 1) (4 * d + w) v) t) := fun t ht => by
      rw [mR_n (c := 7) (by decide) (by decide) (by decide), uc_s, fil_lt ht]
    have h8 : (mR (wd_uc σ 7 (fil (fun t => bI (rsB (upd (σ 1) (4 * d + w) v) t)) (σ 7) 41)) (tksA 41 (upd (stU σ).1 (4 * d + w) v, (stU σ).2.1, (stU σ).2.2))) 8 = σ 8 := by
      rw [mR_n (c := 8) (by decide) (by decide) (by decide), uc_n (by decide)]
    have h := h _ fr h8 h7
    rw [← fr.e1] at h
    exact hR (l_R_so2 (X := upd (σ 1) (4 * d + w) v) (by rw [fr.e1]; exact hw) h7 h _ 0 (Nat.zero_add _).symm)
theorem wf_w {P : wRow} {d w k : Nat} (hw : wf P) (hd : d < 4) (hc : (w = 0 ∧ k ≤ 3) ∨ w = 1) : wf (upd P (4 * d + w) (nI k)) := by
  rcases hc with ⟨rfl, hk⟩ | rfl
  · exact wf_knd hd hk hw
  · exact wf_lim hd hw
theorem l_R_which {σ0 : wd_S} {d w lo hi : Nat} (hw : wf (σ0 1)) (hd : d < 4) (hc : (w = 0 ∧ hi ≤ 3) ∨ w = 1) (hh : hi < 2 ^ 30) (hw2 : w < 4) (h : ∀ σ', frR σ0 σ' → Q (some (.int (wbA (σ0 1) d w lo (hi + 1 - lo)))) σ' τ) : ∀ (m k : Nat) (σ : wd_S), hi + 1 = lo + k + m → frR σ0 σ → Run wR G M_R_which 16 [some (.ref 0), some (.int (nI d)), some (.int (nI w)), some (.int (nI lo)), some (.int (nI hi)), some (.int (wbA (σ0 1) d w lo k)), some (.int (nI (lo + k)))] [] σ τ Q := by
  intro m
  induction m with
  | zero =>
    intro k σ hk hf
    have e : k = hi + 1 - lo := by omega
    refine wd_go ok_R_which [16] 20 (fun R hR => ?_)
    conv => whnf
    try dsimp only
    refine br_t (nI_lt (by omega) (by omega)) ?_
    conv => whnf
    try dsimp only
    rw [e]
    exact h σ hf
  | succ m ih =>
    intro k σ hk hf
    have hw1 : wf (σ 1) := by rw [hf.e1]; exact hw
    refine wd_go ok_R_which [16] 20 (fun R hR => ?_)
    conv => whnf
    try dsimp only
    refine br_f (nI_nlt (by omega) (by omega)) ?_
    conv => whnf
    try dsimp only
    refine hR (k_R_which_30 (Nat.le_of_ble_eq_true rfl) rfl (s_R_isSoWith hw1 (wf_w hw1 hd (by omega)) hd hw2 (fun σ' f' _ _ => ?_)))
    rw [hf.e1]
    refine k_R_which_33 (st := [.int (wbA (σ0 1) d w lo k)]) (Nat.le_of_ble_eq_true rfl) (s_R_flag (bI_bit _) ?_)
    refine wd_go ok_R_which [16] 20 (fun R hR => ?_)
    conv => whnf
    try dsimp only
    refine hR ?_
    have := ih (k + 1) σ' (by omega) (hf.tr f')
    rw [← Nat.add_assoc, nI_succ] at this
    exact this
theorem s_R_which {σ : wd_S} {d : Int32} {w lo hi : Nat} (hw : wf (σ 1)) (hc : (w = 0 ∧ hi ≤ 3) ∨ w = 1) (hh : hi < 2 ^ 30) (hl : lo ≤ hi) (hw2 : w < 4) (h : ∀ σ', frR σ σ' → Q (some (.int (if inB d 0 (σ 1 16 - 1) = true then wbA (σ 1) d.toNatClampNeg w lo (hi + 1 - lo) else -1))) σ' τ) : Run wR G M_R_which 0 [some (.ref 0), some (.int d), some (.int (nI w)), some (.int (nI lo)), some (.int (nI hi)), none, none] [] σ τ Q := by
  refine wd_go ok_R_which [16] 20 (fun R hR => ?_)
  conv => whnf
  try dsimp only
  refine hR (k_R_which_2 (Nat.le_of_ble_eq_true rfl) rfl (s_R_isDog ?_))
  cases hd : inB d 0 (σ 1 16 - 1) with
  | false =>
    refine wd_go ok_R_which [16] 20 (fun R hR => ?_)
    conv => whnf
    try dsimp only
    refine nb_f rfl ?_
    conv => whnf
    try dsimp only
    rw [if_neg (by rw [hd]; decide)] at h
    exact h σ frR.rf
  | true =>
    rw [if_pos hd] at h
    rw [hw.1.1] at hd
    have hD4 := hw.1.2
    obtain ⟨d, hdd, rfl⟩ := inD (by omega) hd
    rw [nI_clamp (by omega)] at h
    refine wd_go ok_R_which [16] 20 (fun R hR => ?_)
    conv => whnf
    try dsimp only
    refine nb_t (by decide) ?_
    conv => whnf
    try dsimp only
    exact hR (l_R_which hw (by omega) hc hh hw2 h (hi + 1 - lo) 0 σ (by omega) frR.rf)
theorem s_R_kinds {σ : wd_S} {d : Int32} (hw : wf (σ 1)) (h : ∀ σ', frR σ σ' → Q (some (.int (aKinds (σ 1) d))) σ' τ) : Run wR G M_R_kinds 0 [some (.ref 0), some (.int d)] [] σ τ Q := by
  refine wd_go ok_R_kinds [] 20 (fun R hR => ?_)
  conv => whnf
  try dsimp only
  refine hR (k_R_kinds_5 (Nat.le_of_ble_eq_true rfl) rfl (s_R_which (w := 0) (lo := 0) (hi := 3) hw (by omega) (by decide) (by decide) (by decide) (fun σ' f' => ?_)))
  refine wd_go ok_R_kinds [] 20 (fun R hR => ?_)
  conv => whnf
  try dsimp only
  exact h σ' f'
theorem s_R_limits {σ : wd_S} {d : Int32} (hw : wf (σ 1)) (h : ∀ σ', frR σ σ' → Q (some (.int (aLimits (σ 1) d))) σ' τ) : Run wR G M_R_limits 0 [some (.ref 0), some (.int d)] [] σ τ Q := by
  refine wd_go ok_R_limits [] 20 (fun R hR => ?_)
  conv => whnf
  try dsimp only
  refine hR (k_R_limits_6 (Nat.le_of_ble_eq_true rfl) rfl (s_R_which (w := 1) (lo := 1) (hi := 20) hw (by omega) (by decide) (by decide) (by decide) (fun σ' f' => ?_)))
  refine wd_go ok_R_limits [] 20 (fun R hR => ?_)
  conv => whnf
  try dsimp only
  exact h σ' f'
end R
