/-! KINDS, LIMITS, ASK: the class -/
def rbA (X : wRow) : Nat → Nat
  | 0 => 0
  | t + 1 => 2 ^ t * (rsB X t).toNat + rbA X t
theorem rb_lt (X : wRow) : ∀ n, rbA X n < 2 ^ n
  | 0 => Nat.one_pos
  | n + 1 => by
    have := rb_lt X n
    rw [rbA, Nat.pow_succ]
    cases rsB X n <;> simp only [Bool.toNat_true, Bool.toNat_false] <;> omega
theorem rb_bit {X : wRow} {t : Nat} : ∀ {n : Nat}, t < n → rbA X n / 2 ^ t % 2 = (rsB X t).toNat
  | 0, h => absurd h (Nat.not_lt_zero _)
  | n + 1, h => by
    rw [rbA]
    by_cases e : t = n
    · subst e
      rw [Nat.mul_add_div (Nat.two_pow_pos t), Nat.div_eq_of_lt (rb_lt X t)]
      cases rsB X t <;> rfl
    · obtain ⟨k, rfl⟩ : ∃ k, n = t + 1 + k := ⟨n - (t + 1), by omega⟩
      have i := rb_bit (X := X) (t := t) (n := t + 1 + k) (by omega)
      rw [Nat.pow_add, Nat.pow_succ, Nat.mul_assoc, Nat.mul_assoc, Nat.mul_add_div (Nat.two_pow_pos t), Nat.mul_add_mod]
      exact i
theorem l63 {k : Nat} (hk : k < 64) : (((nI k).toInt64 &&& 63).toBitVec.smod 64).toNat = k := co_dec (N := 64) (P := fun k => (((nI k).toInt64 &&& 63).toBitVec.smod 64).toNat = k) (by decide +kernel) hk
theorem l_shr {n k : Nat} (h : n < 2 ^ 63) (hk : k < 64) : lN n >>> ((nI k).toInt64 &&& 63) = lN (n / 2 ^ k) := by
  apply Int64.toInt_inj.mp
  have h2 : n / 2 ^ k ≤ n := Nat.div_le_self _ _
  have e : (lN n >>> ((nI k).toInt64 &&& 63)).toInt = (lN n).toInt >>> k := by
    show ((lN n).toBitVec.sshiftRight (((nI k).toInt64 &&& 63).toBitVec.smod 64).toNat).toInt = _
    rw [l63 hk, BitVec.toInt_sshiftRight]
    rfl
  rw [e, pk_lT h, pk_lT (by omega), Int.shiftRight_eq_div_pow]
  rfl
theorem l_tn {n : Nat} (h : n < 2 ^ 64) : (lN n).toBitVec.toNat = n := by
  show (BitVec.ofNat 64 n).toNat = n
  rw [BitVec.toNat_ofNat]
  exact Nat.mod_eq_of_lt h
theorem l_and1 {n : Nat} (h : n < 2 ^ 63) : lN n &&& 1 = lN (n % 2) := by
  apply Int64.toBitVec_inj.mp
  apply BitVec.eq_of_toNat_eq
  have e1 : (1 : Int64).toBitVec.toNat = 2 ^ 1 - 1 := by decide
  rw [Int64.toBitVec_and, BitVec.toNat_and, e1, Nat.and_two_pow_sub_one_eq_mod, l_tn (by omega), l_tn (by omega)]
theorem l_shl {k : Nat} (hk : k < 41) : (1 : Int64) <<< ((nI k).toInt64 &&& 63) = lN (2 ^ k) := co_dec (N := 41) (P := fun k => (1 : Int64) <<< ((nI k).toInt64 &&& 63) = lN (2 ^ k)) (by decide +kernel) hk
theorem l_or {a k : Nat} (ha : a < 2 ^ k) (hk : k < 63) : lN a ||| lN (2 ^ k) = lN (2 ^ k + a) := by
  have h2 : 2 ^ k * 2 ≤ 2 ^ 63 := by
    rw [← Nat.pow_succ]
    exact Nat.pow_le_pow_right (by decide) hk
  apply Int64.toBitVec_inj.mp
  apply BitVec.eq_of_toNat_eq
  rw [Int64.toBitVec_or, BitVec.toNat_or, l_tn (by omega), l_tn (by omega), l_tn (by omega), Nat.or_comm]
  have := Nat.two_pow_add_eq_or_of_lt ha 1
  rw [Nat.mul_one] at this
  exact this.symm
theorem w_inj {a b : Int32} : a.toInt64 = b.toInt64 ↔ a = b := by
  refine ⟨fun e => ?_, fun e => by rw [e]⟩
  exact Int32.le_antisymm ((w_le a b).mp (by rw [e]; exact Int64.le_refl _)) ((w_le b a).mp (by rw [e]; exact Int64.le_refl _))
theorem b_l (b : Bool) : lN b.toNat = (bI b).toInt64 := by cases b <;> decide
theorem bits_at {X : wRow} {t : Nat} (ht : t < 41) : (lN (rbA X 41) >>> ((nI t).toInt64 &&& 63)) &&& 1 = (bI (rsB X t)).toInt64 := by
  have h := rb_lt X 41
  have h2 : rbA X 41 / 2 ^ t ≤ rbA X 41 := Nat.div_le_self _ _
  rw [l_shr (by omega) (by omega), l_and1 (by omega), rb_bit ht, b_l]
theorem so_false {P X : wRow} {i : Nat} (h : soA P X i = false) : ∀ m, soA P X (i + m) = false
  | 0 => h
  | m + 1 => by
    rw [← Nat.add_assoc, soA, so_false h m]
    rfl
section C
variable {G : wd_G} {τ : wd_T} {Q : wd_P} {P : wRow}
theorem l_T_bits {σ0 : wd_S} {X : wRow} (hw : wf X) (h : ∀ σ', frT σ0 σ' → Q (some (.long (lN (rbA X 41)))) σ' τ) : ∀ (m t : Nat) (σ : wd_S), 41 = t + m → relT σ (tksA t (stP X (-4))) → frT σ0 σ → Run wC G M_T_resetBits 4 [some (.ref 1), some (.long (lN (rbA X t))), none, some (.int (nI t))] [] σ τ Q := by
  intro m
  induction m with
  | zero =>
    intro t σ ht hr hf
    have e : t = 41 := by omega
    subst e
    refine wd_go ok_T_resetBits [4] 20 (fun R hR => ?_)
    conv => whnf
    try dsimp only
    refine br_t (by decide) ?_
    conv => whnf
    try dsimp only
    exact ⟨rfl, h σ hf⟩
  | succ m ih =>
    intro t σ ht hr hf
    have hwi := (tks_wf (u := stP X (-4)) hw t).1
    refine wd_go ok_T_resetBits [4] 20 (fun R hR => ?_)
    conv => whnf
    try dsimp only
    rw [il40]
    refine br_f (nI_nlt (by omega) (by decide)) ?_
    conv => whnf
    try dsimp only
    refine hR (k_T_resetBits_15 (Nat.le_of_ble_eq_true rfl) rfl (s_next hr.1 hwi ?_))
    refine k_T_resetBits_18 (st := []) (Nat.le_of_ble_eq_true rfl) rfl (s_T_step (relT_plc hwi hr) (plc_wf hwi).1 (fun σ' hr' hf' => ?_))
    rw [stp_tk] at hr' ⊢
    have hf2 : frT σ0 σ' := hf.tr ((frT.rf.uc (by omega)).tr hf')
    have e18 : (tkA false (tksA t (stP X (-4)))).2.2 18 = bI (rsB X t) := rs_is X t
    rw [e18]
    have nxt : ∀ x, x = lN (rbA X (t + 1)) → Run wC G M_T_resetBits 4 [some (.ref 1), some (.long x), none, some (.int (nI t + 1))] [] σ' τ Q := by
      intro x hx
      rw [hx, ← nI_succ]
      exact ih (t + 1) σ' (by omega) hr' hf2
    rw [rbA] at nxt
    cases hb : rsB X t with
    | false =>
      rw [hb] at nxt
      refine wd_go ok_T_resetBits [4] 20 (fun R hR => ?_)
      conv => whnf
      try dsimp only
      refine br_t rfl ?_
      conv => whnf
      try dsimp only
      exact hR (nxt _ (by rw [Bool.toNat_false, Nat.mul_zero, Nat.zero_add]))
    | true =>
      rw [hb] at nxt
      refine wd_go ok_T_resetBits [4] 20 (fun R hR => ?_)
      conv => whnf
      try dsimp only
      refine br_f (by decide) ?_
      conv => whnf
      try dsimp only
      rw [l_shl (by omega), l_or (rb_lt X t) (by omega)]
      exact hR (nxt _ (by rw [Bool.toNat_true, Nat.mul_one]))
theorem s_T_bits {σ : wd_S} {X : wRow} (hr : relT σ (stP X (-4))) (hw : wf X) (h : ∀ σ', frT σ σ' → Q (some (.long (lN (rbA X 41)))) σ' τ) : Run wC G M_T_resetBits 0 [some (.ref 1), none, none, none] [] σ τ Q := by
  refine wd_go ok_T_resetBits [4] 20 (fun R hR => ?_)
  conv => whnf
  try dsimp only
  exact hR (l_T_bits hw h 41 0 σ (by omega) hr frT.rf)
theorem l_P_seen {σ : wd_S} {X : wRow} (hr : relC σ 10 P) (hw : wf P) (h : Q (some (.int (bI (isSo P X)))) σ τ) : ∀ (m i : Nat), eN P = i + m → soA P X i = true → Run wC G M_P_isAsSeen 2 [some (.ref 10), some (.long (lN (rbA X 41))), none, some (.int (nI i))] [] σ τ Q := by
  have he6 := hw.2.2.2.1.2
  intro m
  induction m with
  | zero =>
    intro i hi hs
    have e : i = eN P := by omega
    subst e
    rw [isSo, hs] at h
    refine wd_go ok_P_isAsSeen [2] 20 (fun R hR => ?_)
    conv => whnf
    try dsimp only
    rw [hr.1.2.2.2.1, hw.2.2.2.1.1]
    refine br_t (nI_le (Nat.le_refl _) (by omega)) ?_
    conv => whnf
    try dsimp only
    exact ⟨Or.inr rfl, h⟩
  | succ m ih =>
    intro i hi hs
    obtain ⟨t, ht, ht40⟩ := hw.2.2.2.2.2.2.2 i (by omega)
    have hse := hr.2.2.2.2 i (by omega)
    have nx : soA P X (i + 1) = decide (bI (rsB X t) = P (50 + 2 * i)) := by
      rw [soA, hs, ht, nI_clamp (by omega)]
      rfl
    refine wd_go ok_P_isAsSeen [2] 30 (fun R hR => ?_)
    conv => whnf
    try dsimp only
    rw [hr.1.2.2.2.1, hw.2.2.2.1.1]
    refine br_f (nI_ge (by omega) (by omega)) ?_
    conv => whnf
    try dsimp only
    refine ⟨vp_in_nI (by first | decide | omega) (by first | decide | omega), ?_⟩
    conv => whnf
    try dsimp only
    rw [nI_clamp (by omega), hse.1, ht, bits_at (by omega)]
    refine ⟨vp_in_nI (by first | decide | omega) (by first | decide | omega), ?_⟩
    conv => whnf
    try dsimp only
    rw [hse.2]
    by_cases hz : bI (rsB X t) = P (50 + 2 * i)
    · refine br_t ((lg_cmp_eq _ _).mpr (w_inj.mpr hz)) ?_
      conv => whnf
      try dsimp only
      refine hR ?_
      have := ih (i + 1) (by omega) (by rw [nx]; exact decide_eq_true hz)
      rw [nI_succ] at this
      exact this
    · refine br_f (fun z => hz (w_inj.mp ((lg_cmp_eq _ _).mp z))) ?_
      conv => whnf
      try dsimp only
      have := so_false (P := P) (X := X) (i := i + 1) (by rw [nx]; exact decide_eq_false hz) m
      rw [show i + 1 + m = eN P by omega] at this
      rw [isSo, this] at h
      exact ⟨Or.inl rfl, h⟩
theorem s_P_seen {σ : wd_S} {X : wRow} (hr : relC σ 10 P) (hw : wf P) (h : Q (some (.int (bI (isSo P X)))) σ τ) : Run wC G M_P_isAsSeen 0 [some (.ref 10), some (.long (lN (rbA X 41))), none, none] [] σ τ Q := by
  refine wd_go ok_P_isAsSeen [2] 20 (fun R hR => ?_)
  conv => whnf
  try dsimp only
  exact hR (l_P_seen hr hw h (eN P) 0 (by omega) rfl)
theorem or_z (x s : Int32) : x ||| (bI false <<< s) = x := by
  show x ||| ((0 : Int32) <<< s) = x
  rw [Int32.zero_shiftLeft, Int32.or_zero]
theorem l_D_kinds {σ0 : wd_S} {d : Nat} (hr : relC σ0 10 P) (hw : wf P) (hd : d < dN P) (h : ∀ σ', frD σ0 σ' → Q (some (.int (wbA P d 0 0 4))) σ' τ) : ∀ (m k : Nat) (σ : wd_S), 4 = k + m → frD σ0 σ → Run wC G M_D_kinds 14 [some (.ref 0), some (.int (nI d)), some (.int (wbA P d 0 0 k)), some (.int (nI k))] [] σ τ Q := by
  have hD4 := hw.1.2
  intro m
  induction m with
  | zero =>
    intro k σ hk hf
    have e : k = 4 := by omega
    subst e
    refine wd_go ok_D_kinds [14] 20 (fun R hR => ?_)
    conv => whnf
    try dsimp only
    refine br_t (by decide) ?_
    conv => whnf
    try dsimp only
    exact h σ hf
  | succ m ih =>
    intro k σ hk hf
    refine wd_go ok_D_kinds [14] 20 (fun R hR => ?_)
    conv => whnf
    try dsimp only
    rw [il3]
    refine br_f (nI_nlt (by omega) (by decide)) ?_
    conv => whnf
    try dsimp only
    refine hR (k_D_kinds_27 (Nat.le_of_ble_eq_true rfl) rfl (s_T_begin (hf.C hr) (wf_bd hw) (stP_is P) (fun σ1 r1 f1 => ?_)))
    refine wd_go ok_D_kinds [14] 20 (fun R hR => ?_)
    conv => whnf
    try dsimp only
    refine ⟨vp_in_nI (by first | decide | omega) (by first | decide | omega), ?_⟩
    conv => whnf
    try dsimp only
    rw [nI_clamp (by omega)]
    have r2 := relT_knd (x := nI k) hw hd r1
    have hwu : wf (upd P (4 * d) (nI k)) := wf_knd (by omega) (by omega) hw
    refine hR (k_D_kinds_51 (Nat.le_of_ble_eq_true rfl) rfl (s_T_bits r2 hwu (fun σ2 f2 => ?_)))
    have hf2 : frD σ0 σ2 := hf.tr ((f1.uc (by omega)).tr f2).D
    refine k_D_kinds_54 (st := []) (Nat.le_of_ble_eq_true rfl) rfl (s_P_seen (hf2.C hr) hw ?_)
    have nxt := ih (k + 1) σ2 (by omega) hf2
    rw [wbA, nI_succ, Nat.zero_add] at nxt
    cases hb : isSo P (upd P (4 * d) (nI k)) with
    | false =>
      have hb' : isSo P (upd P (4 * d + 0) (nI k)) = false := hb
      rw [hb', or_z] at nxt
      refine wd_go ok_D_kinds [14] 20 (fun R hR => ?_)
      conv => whnf
      try dsimp only
      refine br_t rfl ?_
      conv => whnf
      try dsimp only
      exact hR nxt
    | true =>
      have hb' : isSo P (upd P (4 * d + 0) (nI k)) = true := hb
      rw [hb'] at nxt
      refine wd_go ok_D_kinds [14] 20 (fun R hR => ?_)
      conv => whnf
      try dsimp only
      refine br_f (by decide) ?_
      conv => whnf
      try dsimp only
      exact hR nxt
theorem s_D_byLimit {σ : wd_S} {d v : Nat} (hr : relC σ 10 P) (hw : wf P) (hd : d < dN P) (h : ∀ σ', frD σ σ' → Q (some (.long (lN (rbA (upd P (4 * d + 1) (nI v)) 41)))) σ' τ) : Run wC G M_D_resetBitsByLimit 0 [some (.ref 0), some (.int (nI d)), some (.int (nI v))] [] σ τ Q := by
  have hD4 := hw.1.2
  refine wd_go ok_D_resetBitsByLimit [] 20 (fun R hR => ?_)
  conv => whnf
  try dsimp only
  refine hR (k_D_resetBitsByLimit_8 (Nat.le_of_ble_eq_true rfl) rfl (s_T_begin hr (wf_bd hw) (stP_is P) (fun σ1 r1 f1 => ?_)))
  refine wd_go ok_D_resetBitsByLimit [] 20 (fun R hR => ?_)
  conv => whnf
  try dsimp only
  refine ⟨vp_in_nI (by first | decide | omega) (by first | decide | omega), ?_⟩
  conv => whnf
  try dsimp only
  rw [nI_clamp (by omega)]
  have r2 := relT_lim (x := nI v) hw hd r1
  have hwu : wf (upd P (4 * d + 1) (nI v)) := wf_lim (by omega) hw
  refine hR (k_D_resetBitsByLimit_28 (Nat.le_of_ble_eq_true rfl) rfl (s_T_bits r2 hwu (fun σ2 f2 => ?_)))
  refine wd_go ok_D_resetBitsByLimit [] 20 (fun R hR => ?_)
  conv => whnf
  try dsimp only
  exact ⟨rfl, h σ2 ((f1.uc (by omega)).tr f2).D⟩
theorem l_D_limits {σ0 : wd_S} {d : Nat} (hr : relC σ0 10 P) (hw : wf P) (hd : d < dN P) (h : ∀ σ', frD σ0 σ' → Q (some (.int (wbA P d 1 1 20))) σ' τ) : ∀ (m k : Nat) (σ : wd_S), 20 = k + m → frD σ0 σ → Run wC G M_D_limits 14 [some (.ref 0), some (.int (nI d)), some (.int (wbA P d 1 1 k)), some (.int (nI (1 + k)))] [] σ τ Q := by
  have hD4 := hw.1.2
  intro m
  induction m with
  | zero =>
    intro k σ hk hf
    have e : k = 20 := by omega
    subst e
    refine wd_go ok_D_limits [14] 20 (fun R hR => ?_)
    conv => whnf
    try dsimp only
    refine br_t (by decide) ?_
    conv => whnf
    try dsimp only
    exact h σ hf
  | succ m ih =>
    intro k σ hk hf
    refine wd_go ok_D_limits [14] 20 (fun R hR => ?_)
    conv => whnf
    try dsimp only
    rw [il20]
    refine br_f (nI_nlt (by omega) (by decide)) ?_
    conv => whnf
    try dsimp only
    refine hR (k_D_limits_27 (Nat.le_of_ble_eq_true rfl) rfl (s_D_byLimit (hf.C hr) hw hd (fun σ2 f2 => ?_)))
    have hf2 : frD σ0 σ2 := hf.tr f2
    refine k_D_limits_30 (st := []) (Nat.le_of_ble_eq_true rfl) rfl (s_P_seen (hf2.C hr) hw ?_)
    have nxt := ih (k + 1) σ2 (by omega) hf2
    rw [wbA, ← Nat.add_assoc, nI_succ (n := 1 + k)] at nxt
    cases hb : isSo P (upd P (4 * d + 1) (nI (1 + k))) with
    | false =>
      rw [hb, or_z] at nxt
      refine wd_go ok_D_limits [14] 20 (fun R hR => ?_)
      conv => whnf
      try dsimp only
      refine br_t rfl ?_
      conv => whnf
      try dsimp only
      exact hR nxt
    | true =>
      rw [hb] at nxt
      refine wd_go ok_D_limits [14] 20 (fun R hR => ?_)
      conv => whnf
      try dsimp only
      refine br_f (by decide) ?_
      conv => whnf
      try dsimp only
      exact hR nxt
theorem s_D_kinds {σ : wd_S} {d : Int32} (hr : relC σ 10 P) (hw : wf P) (h : ∀ σ', frD σ σ' → Q (some (.int (aKinds P d))) σ' τ) : Run wC G M_D_kinds 0 [some (.ref 0), some (.int d), none, none] [] σ τ Q := by
  have hD4 := hw.1.2
  rw [aKinds] at h
  refine wd_go ok_D_kinds [14] 20 (fun R hR => ?_)
  conv => whnf
  try dsimp only
  refine hR (k_D_kinds_2 (Nat.le_of_ble_eq_true rfl) rfl (s_D_noDog hr ?_))
  cases hd : inB d 0 (P 16 - 1) with
  | false =>
    refine wd_go ok_D_kinds [14] 20 (fun R hR => ?_)
    conv => whnf
    try dsimp only
    refine br_f (by decide) ?_
    conv => whnf
    try dsimp only
    rw [if_neg (by rw [hd]; decide)] at h
    exact h σ frD.rf
  | true =>
    rw [if_pos hd] at h
    rw [hw.1.1] at hd
    obtain ⟨d, hdd, rfl⟩ := inD (by omega) hd
    rw [nI_clamp (by omega)] at h
    refine wd_go ok_D_kinds [14] 20 (fun R hR => ?_)
    conv => whnf
    try dsimp only
    refine br_t rfl ?_
    conv => whnf
    try dsimp only
    exact hR (l_D_kinds hr hw hdd h _ 0 σ (Nat.zero_add _).symm frD.rf)
theorem s_D_limits {σ : wd_S} {d : Int32} (hr : relC σ 10 P) (hw : wf P) (h : ∀ σ', frD σ σ' → Q (some (.int (aLimits P d))) σ' τ) : Run wC G M_D_limits 0 [some (.ref 0), some (.int d), none, none] [] σ τ Q := by
  have hD4 := hw.1.2
  rw [aLimits] at h
  refine wd_go ok_D_limits [14] 20 (fun R hR => ?_)
  conv => whnf
  try dsimp only
  refine hR (k_D_limits_2 (Nat.le_of_ble_eq_true rfl) rfl (s_D_noDog hr ?_))
  cases hd : inB d 0 (P 16 - 1) with
  | false =>
    refine wd_go ok_D_limits [14] 20 (fun R hR => ?_)
    conv => whnf
    try dsimp only
    refine br_f (by decide) ?_
    conv => whnf
    try dsimp only
    rw [if_neg (by rw [hd]; decide)] at h
    exact h σ frD.rf
  | true =>
    rw [if_pos hd] at h
    rw [hw.1.1] at hd
    obtain ⟨d, hdd, rfl⟩ := inD (by omega) hd
    rw [nI_clamp (by omega)] at h
    refine wd_go ok_D_limits [14] 20 (fun R hR => ?_)
    conv => whnf
    try dsimp only
    refine br_t rfl ?_
    conv => whnf
    try dsimp only
    exact hR (l_D_limits hr hw hdd h _ 0 σ (Nat.zero_add _).symm frD.rf)
end C
