/-! READ: the reference -/
theorem cSet_hi {g : wRow} {a b : Int32} (hw : wf g) : ∀ j, 61 ≤ j → (cSet g a b).2 j = g j := by
  intro j hj
  rw [cSet]
  split
  · rename_i hc
    have hd := hc.1
    have h16 := hw.2.1.2
    rw [hw.2.1.1] at hd
    obtain ⟨d, hdd, e⟩ := inD (by omega) hd
    dsimp only
    rw [e, nI_clamp (by omega), upd_n (by omega)]
  · rfl
theorem eq_cSet {g m : wRow} {a b : Int32} (hw : wf g) (h : ∀ j, j < 61 → g j = m j) : (cSet g a b).1 = (cSet m a b).1 ∧ ∀ j, j < 61 → (cSet g a b).2 j = (cSet m a b).2 j := by
  rw [cSet, cSet, h 33 (by decide)]
  by_cases hc : inB a 0 (m 33 - 1) = true ∧ inB b 0 15 = true
  · rw [if_pos hc, if_pos hc]
    have hd := hc.1
    have h16 := hw.2.1.2
    rw [← h 33 (by decide), hw.2.1.1] at hd
    obtain ⟨d, hdd, e⟩ := inD (by omega) hd
    refine ⟨?_, fun j hj => upd_eq (fun _ => h j hj) rfl⟩
    rw [e, nI_clamp (by omega)]
    exact h _ (by omega)
  · rw [if_neg hc, if_neg hc]
    exact ⟨rfl, h⟩
theorem sg_cSet {P : wRow} {a b : Int32} (hw : wf P) (h : sgO P) : sgO (cSet P a b).2 := by
  rw [cSet]
  split
  · rename_i hc
    have hd := hc.1
    have h16 := hw.2.1.2
    rw [hw.2.1.1] at hd
    obtain ⟨d, hdd, e⟩ := inD (by omega) hd
    obtain ⟨v, hv, e2⟩ := inN (N := 15) (by decide) hc.2
    dsimp only
    rw [e, nI_clamp (by omega)]
    intro i hi
    have hs : sN (upd P (17 + d) b) = sN P := by
      unfold sN
      rw [upd_n (by omega)]
    rw [hs] at hi
    by_cases e3 : i = d
    · subst e3
      rw [upd_s]
      exact ⟨v, e2, hv⟩
    · rw [upd_n (by omega)]
      exact h i hi
  · exact h
theorem rdP_sg {P c : wRow} {F : Nat} (hw : wf P) (h : sgO P) : ∀ i, sgO (rdP P c F i)
  | 0 => h
  | i + 1 => sg_cSet (rdP_33 hw i).1 (rdP_sg hw h i)
section R
variable {G : wd_G} {τ : wd_T} {Q : wd_P}
theorem l_R_readX {σ : wd_S} {a b f n x w j : Int32} {l8 l9 l10 : Option Value} (hx : ¬ x = 0) (h : Q (some (.int w)) (wd_uc σ 0 (upd (σ 0) 30 x)) τ) : Run wR G M_R_read 62 [some (.ref 0), some (.int a), some (.int b), some (.int f), some (.int n), some (.int x), some (.int w), some (.int j), l8, l9, l10] [] σ τ Q := by
  refine wd_go ok_R_read [62] 20 (fun R hR => ?_)
  conv => whnf
  try dsimp only
  refine ⟨fun hb => ?_, fun hb => ?_⟩
  · conv => whnf
    try dsimp only
    exact h
  · conv => whnf
    try dsimp only
    refine nb_t hx ?_
    conv => whnf
    try dsimp only
    exact h
theorem s_R_setE {σ : wd_S} {i v : Int32} (hw : wf (σ 1)) (h : Q (some (.int (cSet (σ 1) i v).1)) (wd_uc σ 1 (cSet (σ 1) i v).2) τ) : Run wR G M_R_set 0 [some (.ref 0), some (.int i), some (.int v)] [] σ τ Q := by
  have hs16 := hw.2.1.2
  refine wd_go ok_R_set [] 20 (fun R hR => ?_)
  conv => whnf
  try dsimp only
  refine hR (k_R_set_2 (Nat.le_of_ble_eq_true rfl) rfl (s_R_isSign ?_))
  cases hi : inB i 0 (σ 1 33 - 1) with
  | false =>
    refine wd_go ok_R_set [] 20 (fun R hR => ?_)
    conv => whnf
    try dsimp only
    refine br_t rfl ?_
    conv => whnf
    try dsimp only
    rw [cSet, if_neg (fun z => by rw [hi] at z; cases z.1)] at h
    rw [uc_self] at h
    exact h
  | true =>
    refine wd_go ok_R_set [] 20 (fun R hR => ?_)
    conv => whnf
    try dsimp only
    refine br_f (by decide) ?_
    conv => whnf
    try dsimp only
    refine hR (k_R_set_14 (Nat.le_of_ble_eq_true rfl) (s_R_in2 (a := 0) (b := 15) rfl rfl ?_))
    cases hv : inB v 0 15 with
    | false =>
      refine wd_go ok_R_set [] 20 (fun R hR => ?_)
      conv => whnf
      try dsimp only
      refine br_t rfl ?_
      conv => whnf
      try dsimp only
      rw [cSet, if_neg (fun z => by rw [hv] at z; cases z.2)] at h
      rw [uc_self] at h
      exact h
    | true =>
      rw [cSet, if_pos ⟨hi, hv⟩] at h
      rw [hw.2.1.1] at hi
      obtain ⟨i, hii, rfl⟩ := inD (by omega) hi
      rw [nI_clamp (by omega)] at h
      refine wd_go ok_R_set [] 20 (fun R hR => ?_)
      conv => whnf
      try dsimp only
      refine br_f (by decide) ?_
      conv => whnf
      try dsimp only
      rw [il17, nI_add]
      refine hR (k_R_set_26 (Nat.le_of_ble_eq_true rfl) rfl (s_R_becomes (by omega) ?_))
      refine wd_go ok_R_set [] 20 (fun R hR => ?_)
      conv => whnf
      try dsimp only
      exact h
theorem l_R_readA {σ : wd_S} {k lane f n : Int32} (h : Run wR G M_R_read 53 [some (.ref 0), some (.int k), some (.int lane), some (.int f), some (.int n), some (.int (nI 61)), none, none, none, none, none] [] (wd_uc σ 12 (fil (σ 1) (σ 12) 61)) τ Q) : ∀ (m i : Nat), 61 = i + m → Run wR G M_R_read 26 [some (.ref 0), some (.int k), some (.int lane), some (.int f), some (.int n), some (.int (nI i)), none, none, none, none, none] [] (wd_uc σ 12 (fil (σ 1) (σ 12) i)) τ Q := by
  intro m
  induction m with
  | zero =>
    intro i hi
    have e : i = 61 := by omega
    subst e
    refine wd_go ok_R_read [26, 53] 20 (fun R hR => ?_)
    conv => whnf
    try dsimp only
    refine br_t (by decide) ?_
    conv => whnf
    try dsimp only
    exact hR h
  | succ m ih =>
    intro i hi
    refine wd_go ok_R_read [26, 53] 20 (fun R hR => ?_)
    conv => whnf
    try dsimp only
    rw [il61]
    refine br_f (nI_ge (by omega) (by decide)) ?_
    conv => whnf
    try dsimp only
    refine ⟨vp_in_nI (by first | decide | omega) (by first | decide | omega), ?_⟩
    conv => whnf
    try dsimp only
    refine ⟨vp_in_nI (by first | decide | omega) (by first | decide | omega), ?_⟩
    conv => whnf
    try dsimp only
    rw [nI_clamp (by omega), uc_s, uc_uc, uc_n (c' := 1) (c := 12) (by decide), fil_s]
    refine hR ?_
    have := ih (i + 1) (by omega)
    rw [nI_succ] at this
    exact this
/-- one cell of a pair -/
theorem l_R_readC {σ : wd_S} {k i q : Nat} {lane f n w x : Int32} {l9 l10 : Option Value} (hk : k < 4) (hq : q < 2) (hp : (¬ f.toInt64 + ((2 : Int32) * nI i).toInt64 + (nI q).toInt64 < 0 ∧ f.toInt64 + ((2 : Int32) * nI i).toInt64 + (nI q).toInt64 < (σ 10 k).toInt64) ↔ inB x 0 (σ 10 k - 1) = true) (h : ∀ l9 l10, Run wR G M_R_read 77 [some (.ref 0), some (.int (nI k)), some (.int lane), some (.int f), some (.int n), some (.int (faA (σ 9 k) (σ 10 k) lane x)), some (.int w), some (.int (nI i)), some (.int (nI q + 1)), l9, l10] [] σ τ Q) : Run wR G M_R_read 77 [some (.ref 0), some (.int (nI k)), some (.int lane), some (.int f), some (.int n), some (.int 0), some (.int w), some (.int (nI i)), some (.int (nI q)), l9, l10] [] σ τ Q := by
  rw [faA] at h
  refine wd_go ok_R_read [77] 60 (fun R hR => ?_)
  conv => whnf
  try dsimp only
  rw [il2]
  refine br_f (nI_ge (by omega) (by decide)) ?_
  conv => whnf
  try dsimp only
  refine nb_f rfl ?_
  conv => whnf
  try dsimp only
  refine ⟨vp_in_nI (by first | decide | omega) (by first | decide | omega), ?_⟩
  conv => whnf
  try dsimp only
  rw [nI_clamp (by omega)]
  by_cases hz : σ 9 k = -4
  · rw [if_pos hz] at h
    refine nb_f hz ?_
    conv => whnf
    try dsimp only
    exact hR (h _ _)
  · rw [if_neg hz] at h
    refine nb_t hz ?_
    conv => whnf
    try dsimp only
    refine ⟨vp_in_nI (by first | decide | omega) (by first | decide | omega), ?_⟩
    conv => whnf
    try dsimp only
    rw [nI_clamp (by omega)]
    by_cases hl : σ 9 k = lane
    · rw [if_pos hl] at h
      refine br_t hl ?_
      conv => whnf
      try dsimp only
      by_cases h0 : f.toInt64 + ((2 : Int32) * nI i).toInt64 + (nI q).toInt64 < 0
      · rw [if_neg (fun z => (hp.mpr z).1 h0)] at h
        refine br_t ((lg_cmp_lt _ _).mpr h0) ?_
        conv => whnf
        try dsimp only
        exact hR (h _ _)
      · refine br_f (fun z => h0 ((lg_cmp_lt _ _).mp z)) ?_
        conv => whnf
        try dsimp only
        refine ⟨vp_in_nI (by first | decide | omega) (by first | decide | omega), ?_⟩
        conv => whnf
        try dsimp only
        rw [nI_clamp (by omega)]
        by_cases h1 : f.toInt64 + ((2 : Int32) * nI i).toInt64 + (nI q).toInt64 < (σ 10 k).toInt64
        · rw [if_pos (hp.mp ⟨h0, h1⟩)] at h
          refine br_t ((lg_cmp_lt _ _).mpr h1) ?_
          conv => whnf
          try dsimp only
          exact hR (h _ _)
        · rw [if_neg (fun z => h1 (hp.mpr z).2)] at h
          refine br_f (fun z => h1 ((lg_cmp_lt _ _).mp z)) ?_
          conv => whnf
          try dsimp only
          exact hR (h _ _)
    · rw [if_neg hl] at h
      refine br_f hl ?_
      conv => whnf
      try dsimp only
      exact hR (h _ _)
theorem l_R_readE {σ : wd_S} {k lane f n r w i c : Int32} {l9 l10 : Option Value} (hc : ¬ r = 0 ∨ 2 ≤ c) (h : Run wR G M_R_read 164 [some (.ref 0), some (.int k), some (.int lane), some (.int f), some (.int n), some (.int r), some (.int w), some (.int i), some (.int c), l9, l10] [] σ τ Q) : Run wR G M_R_read 77 [some (.ref 0), some (.int k), some (.int lane), some (.int f), some (.int n), some (.int r), some (.int w), some (.int i), some (.int c), l9, l10] [] σ τ Q := by
  refine wd_go ok_R_read [77, 164] 20 (fun R hR => ?_)
  conv => whnf
  try dsimp only
  refine ⟨fun hb => ?_, fun hb => ?_⟩
  · conv => whnf
    try dsimp only
    exact hR h
  · conv => whnf
    try dsimp only
    refine nb_t ?_ ?_
    · rcases hc with z | z
      · exact z
      · exact absurd z hb
    conv => whnf
    try dsimp only
    exact hR h
theorem fa_iff {F i q S : Nat} (hF : F < 40) (hi : i ≤ 20) (hq : q < 2) (hS : S ≤ 40) : (¬ (nI F).toInt64 + ((2 : Int32) * nI i).toInt64 + (nI q).toInt64 < 0 ∧ (nI F).toInt64 + ((2 : Int32) * nI i).toInt64 + (nI q).toInt64 < (nI S).toInt64) ↔ inB (nI (F + 2 * i + q)) 0 (nI S - 1) = true := by
  rw [il2, pk_mul, nI_l (by omega), nI_l (by omega), nI_l (by omega), nI_l (by omega), lN_add, lN_add, inB_lt (by omega) (by omega), decide_eq_true_iff, pk_lLT (by omega) (by omega), l0, pk_lLT (by omega) (by omega)]
  omega
theorem l_R_readP {σ : wd_S} {k F i S : Nat} {lane n w : Int32} {l8 l9 l10 : Option Value} (hk : k < 4) (hF : F < 40) (hi : i ≤ 20) (hS : σ 10 k = nI S) (hS40 : S ≤ 40) (h : ∀ l8 l9 l10, Run wR G M_R_read 164 [some (.ref 0), some (.int (nI k)), some (.int lane), some (.int (nI F)), some (.int n), some (.int (paA (σ 9 k) (nI S) lane (nI (F + 2 * i)))), some (.int w), some (.int (nI i)), l8, l9, l10] [] σ τ Q) : Run wR G M_R_read 77 [some (.ref 0), some (.int (nI k)), some (.int lane), some (.int (nI F)), some (.int n), some (.int 0), some (.int w), some (.int (nI i)), some (.int (nI 0)), l9, l10] [] σ τ Q := by
  rw [paA] at h
  refine l_R_readC (q := 0) (x := nI (F + 2 * i + 0)) hk (by decide) (by rw [hS]; exact fa_iff hF hi (by decide) hS40) (fun l9 l10 => ?_)
  rw [hS, Nat.add_zero]
  by_cases hz : faA (σ 9 k) (nI S) lane (nI (F + 2 * i)) = 0
  · rw [if_pos hz] at h
    rw [hz]
    refine l_R_readC (q := 1) (x := nI (F + 2 * i + 1)) hk (by decide) (by rw [hS]; exact fa_iff hF hi (by decide) hS40) (fun l9 l10 => ?_)
    rw [hS]
    refine l_R_readE (Or.inr (by decide)) ?_
    rw [nI_1] at h
    exact h _ _ _
  · rw [if_neg hz] at h
    exact l_R_readE (Or.inl hz) (h _ _ _)
theorem l_R_readD {σ : wd_S} {k lane f n r w i c : Int32} {l10 : Option Value} (h : Q (some (.int (-20 - i))) (wd_uc σ 1 (fil (σ 12) (σ 1) 61)) τ) : ∀ (m q : Nat), 61 = q + m → Run wR G M_R_read 208 [some (.ref 0), some (.int k), some (.int lane), some (.int f), some (.int n), some (.int r), some (.int w), some (.int i), some (.int c), some (.int (nI q)), l10] [] (wd_uc σ 1 (fil (σ 12) (σ 1) q)) τ Q := by
  intro m
  induction m with
  | zero =>
    intro q hq
    have e : q = 61 := by omega
    subst e
    refine wd_go ok_R_read [208] 20 (fun R hR => ?_)
    conv => whnf
    try dsimp only
    refine br_t (by decide) ?_
    conv => whnf
    try dsimp only
    exact h
  | succ m ih =>
    intro q hq
    refine wd_go ok_R_read [208] 20 (fun R hR => ?_)
    conv => whnf
    try dsimp only
    rw [il61]
    refine br_f (nI_ge (by omega) (by decide)) ?_
    conv => whnf
    try dsimp only
    refine ⟨vp_in_nI (by first | decide | omega) (by first | decide | omega), ?_⟩
    conv => whnf
    try dsimp only
    refine ⟨vp_in_nI (by first | decide | omega) (by first | decide | omega), ?_⟩
    conv => whnf
    try dsimp only
    rw [nI_clamp (by omega), uc_s, uc_uc, uc_n (c' := 12) (c := 1) (by decide), fil_s]
    refine fL_to ?_
    conv => whnf
    try dsimp only
    refine hR ?_
    have := ih (q + 1) (by omega)
    rw [nI_succ] at this
    exact this
/-- pairs are read: only the row of now changes -/
theorem l_R_readB {σ0 : wd_S} {c : wRow} {lane : Int32} {k F S N : Nat} {P : wRow} (hw : wf P) (hsg : sgO P) (hk : k < 4) (hS : σ0 10 k = nI S) (hS40 : S ≤ 40) (hc : ∀ j, j < 40 → σ0 11 (40 * k + j) = c j) (hF : F < 40) (hN : N ≤ 20) (hb : ∀ j, j < 61 → σ0 12 j = P j) (o : Bool × Nat × Int32)
    (h : ∀ g, (∀ j, j < 61 → g j = rdP P c F o.2.1 j) → (∀ j, 61 ≤ j → g j = σ0 1 j) → o.1 = true → Q (some (.int (nI o.2.1))) (wd_uc (wd_uc σ0 1 g) 0 (upd (σ0 0) 30 o.2.2)) τ) (h2 : ∀ g, (∀ j, j < 61 → g j = P j) → (∀ j, 61 ≤ j → g j = σ0 1 j) → o.1 = false → Q (some (.int (-20 - nI o.2.1))) (wd_uc σ0 1 g) τ) :
    ∀ (m i : Nat) (g : wRow) (l8 l9 l10 : Option Value), N = i + m → rdO P c (σ0 9 k) (nI S) lane F m i = o → (∀ j, j < 61 → g j = rdP P c F i j) → (∀ j, 61 ≤ j → g j = σ0 1 j) → Run wR G M_R_read 62 [some (.ref 0), some (.int (nI k)), some (.int lane), some (.int (nI F)), some (.int (nI N)), some (.int 0), some (.int (nI i)), some (.int (nI i)), l8, l9, l10] [] (wd_uc σ0 1 g) τ Q := by
  intro m
  induction m with
  | zero =>
    intro i g l8 l9 l10 hi ho hg hg2
    have e : i = N := by omega
    rw [rdO] at ho
    subst ho
    refine wd_go ok_R_read [62] 20 (fun R hR => ?_)
    conv => whnf
    try dsimp only
    refine br_t (nI_le (by omega) (by omega)) ?_
    conv => whnf
    try dsimp only
    exact h g hg hg2 rfl
  | succ m ih =>
    intro i g l8 l9 l10 hi ho hg hg2
    have hwg : wf g := wf_cong hg (rdP_33 hw i).1
    rw [rdO] at ho
    refine wd_go ok_R_read [62, 77] 20 (fun R hR => ?_)
    conv => whnf
    try dsimp only
    refine br_f (nI_ge (by omega) (by omega)) ?_
    conv => whnf
    try dsimp only
    refine nb_f rfl ?_
    conv => whnf
    try dsimp only
    refine fL_to ?_
    conv => whnf
    try dsimp only
    refine hR (l_R_readP (l8 := none) (S := S) hk hF (by omega) hS hS40 (fun l8 l9 l10 => ?_))
    have e9 : (wd_uc σ0 1 g) 9 k = σ0 9 k := rfl
    rw [e9]
    by_cases hz : paA (σ0 9 k) (nI S) lane (nI (F + 2 * i)) = 0
    · rw [if_pos hz] at ho
      have hp := pa_0 (by omega) (by omega) hz
      rw [hz]
      refine wd_go ok_R_read [62, 208] 40 (fun R hR => ?_)
      conv => whnf
      try dsimp only
      refine nb_f rfl ?_
      conv => whnf
      try dsimp only
      rw [il40, pk_mul, nI_add, il2, pk_mul, nI_add]
      refine fL_to ?_
      conv => whnf
      try dsimp only
      refine ⟨vp_in_nI (by first | decide | omega) (by first | decide | omega), ?_⟩
      conv => whnf
      try dsimp only
      rw [nI_1]
      refine ⟨vp_in_nI (by first | decide | omega) (by first | decide | omega), ?_⟩
      conv => whnf
      try dsimp only
      rw [nI_clamp (by omega), nI_clamp (by omega)]
      have c1 : (wd_uc σ0 1 g) 11 (40 * k + F + 2 * i) = c (F + 2 * i) := by
        rw [← hc (F + 2 * i) (by omega), uc_n (by decide), Nat.add_assoc]
      have c2 : (wd_uc σ0 1 g) 11 (40 * k + F + 2 * i + 1) = c (F + 2 * i + 1) := by
        rw [← hc (F + 2 * i + 1) (by omega), uc_n (by decide)]
        congr 1
        omega
      rw [c1, c2]
      refine hR (k_R_read_199 (Nat.le_of_ble_eq_true rfl) rfl (s_R_setE (σ := wd_uc σ0 1 g) hwg ?_))
      rw [uc_s, uc_uc]
      obtain ⟨q1, q2⟩ := eq_cSet (a := c (F + 2 * i)) (b := c (F + 2 * i + 1)) hwg hg
      have q3 := cSet_hi (a := c (F + 2 * i)) (b := c (F + 2 * i + 1)) hwg
      have h33 := (rdP_33 (c := c) (F := F) hw i).2
      have hwi := (rdP_33 (c := c) (F := F) hw i).1
      rw [q1]
      cases hgd : rdG P c F i with
      | false =>
        rw [hgd, if_neg (by decide)] at ho
        subst ho
        have nb : ¬ (inB (c (F + 2 * i)) 0 (rdP P c F i 33 - 1) = true ∧ inB (c (F + 2 * i + 1)) 0 15 = true) := by
          rw [h33]
          intro z
          rw [rdG, z.1, z.2] at hgd
          cases hgd
        rw [cSet, if_neg nb]
        have gk : (cSet g (c (F + 2 * i)) (c (F + 2 * i + 1))).2 = g := by
          rw [cSet, hg 33 (by decide), if_neg nb]
        rw [gk]
        refine wd_go ok_R_read [62, 208] 40 (fun R hR => ?_)
        conv => whnf
        try dsimp only
        refine br_f (by decide) ?_
        conv => whnf
        try dsimp only
        refine fL_to ?_
        conv => whnf
        try dsimp only
        have key := l_R_readD (G := G) (τ := τ) (Q := Q) (σ := wd_uc σ0 1 g) (k := nI k) (lane := lane) (f := nI F) (n := nI N) (r := 0) (w := nI i) (i := nI i) (c := nI (40 * k + F + 2 * i)) (l10 := l10) ?_ 61 0 (by omega)
        · rw [fil_0, uc_self] at key
          exact hR key
        · rw [uc_uc, uc_s, uc_n (c' := 12) (c := 1) (by decide)]
          refine h2 _ (fun j hj => ?_) (fun j hj => ?_) rfl
          · rw [fil_lt hj]
            exact hb j hj
          · rw [fil, if_neg (by omega)]
            exact hg2 j hj
      | true =>
        rw [hgd, if_pos rfl] at ho
        have nb : inB (c (F + 2 * i)) 0 (rdP P c F i 33 - 1) = true ∧ inB (c (F + 2 * i + 1)) 0 15 = true := by
          rw [h33]
          rw [rdG, Bool.and_eq_true] at hgd
          exact hgd
        have nn : 0 ≤ (cSet (rdP P c F i) (c (F + 2 * i)) (c (F + 2 * i + 1))).1 := by
          rw [cSet, if_pos nb]
          have hd := nb.1
          have h16 := hwi.2.1.2
          rw [hwi.2.1.1] at hd
          obtain ⟨d, hdd, e⟩ := inD (by omega) hd
          dsimp only
          rw [e, nI_clamp (by omega)]
          obtain ⟨b, hb1, hb2⟩ := rdP_sg (c := c) (F := F) hw hsg i d hdd
          rw [hb1]
          exact nI_pos' (by omega)
        refine wd_go ok_R_read [62, 208] 40 (fun R hR => ?_)
        conv => whnf
        try dsimp only
        refine br_t nn ?_
        conv => whnf
        try dsimp only
        refine fL_to ?_
        conv => whnf
        try dsimp only
        refine fL_to ?_
        conv => whnf
        try dsimp only
        refine hR ?_
        have := ih (i + 1) (cSet g (c (F + 2 * i)) (c (F + 2 * i + 1))).2 (some (.int (nI (40 * k + F + 2 * i)))) l9 l10 (by omega) ho q2 (fun j hj => (q3 j hj).trans (hg2 j hj))
        rw [nI_succ] at this
        exact this
    · rw [if_neg hz] at ho
      subst ho
      refine wd_go ok_R_read [62, 208] 40 (fun R hR => ?_)
      conv => whnf
      try dsimp only
      refine nb_t hz ?_
      conv => whnf
      try dsimp only
      refine fL_to ?_
      conv => whnf
      try dsimp only
      exact hR (l_R_readX hz (h g hg hg2 rfl))
theorem s_R_read {σ : wd_S} {k lane f n : Int32} {S : Nat → Nat} (hw : wf (σ 1)) (hsg : sgO (σ 1)) (hsz : ∀ k, k < 4 → σ 10 k = nI (S k) ∧ S k ≤ 40) {c : wRow} (hc : ∀ j, j < 40 → σ 11 (40 * k.toNatClampNeg + j) = c j)
    (h : ∀ σ', (∀ c, c ≠ 0 → c ≠ 1 → c ≠ 12 → σ' c = σ c) → (∀ k, k ≠ 30 → σ' 0 k = σ 0 k) → σ' 0 30 = tRead (σ 1) c k (σ 9 k.toNatClampNeg) (σ 10 k.toNatClampNeg) lane f n (σ 0 30) → (∀ j, j < 61 → σ' 1 j = cRead (σ 1) c k (σ 9 k.toNatClampNeg) (σ 10 k.toNatClampNeg) lane f n j) → (∀ j, 61 ≤ j → σ' 1 j = σ 1 j) → Q (some (.int (aRead (σ 1) c k (σ 9 k.toNatClampNeg) (σ 10 k.toNatClampNeg) lane f n))) σ' τ) : Run wR G M_R_read 0 [some (.ref 0), some (.int k), some (.int lane), some (.int f), some (.int n), none, none, none, none, none, none] [] σ τ Q := by
  rw [aRead, cRead, tRead] at h
  have bad : ¬ (inB k 0 3 = true ∧ inB lane 0 2 = true ∧ inB n 0 20 = true) → Q (some (.int (-1))) σ τ := by
    intro hz
    rw [if_neg hz, if_neg hz, if_neg hz] at h
    exact h σ (fun _ _ _ _ => rfl) (fun _ _ => rfl) rfl (fun _ _ => rfl) (fun _ _ => rfl)
  refine wd_go ok_R_read [26] 20 (fun R hR => ?_)
  conv => whnf
  try dsimp only
  refine hR (k_R_read_2 (Nat.le_of_ble_eq_true rfl) (s_R_isSheet ?_))
  cases hkl : (inB k 0 3 && inB lane 0 2) with
  | false =>
    refine wd_go ok_R_read [26] 20 (fun R hR => ?_)
    conv => whnf
    try dsimp only
    refine br_t rfl ?_
    conv => whnf
    try dsimp only
    exact bad (fun z => by rw [z.1, z.2.1] at hkl; cases hkl)
  | true =>
    rw [Bool.and_eq_true] at hkl
    obtain ⟨hk, hl⟩ := hkl
    refine wd_go ok_R_read [26] 20 (fun R hR => ?_)
    conv => whnf
    try dsimp only
    refine br_f (by decide) ?_
    conv => whnf
    try dsimp only
    refine hR (k_R_read_15 (Nat.le_of_ble_eq_true rfl) (s_R_in2 (a := 0) (b := 20) rfl rfl ?_))
    cases hn : inB n 0 20 with
    | false =>
      refine wd_go ok_R_read [26] 20 (fun R hR => ?_)
      conv => whnf
      try dsimp only
      refine nb_f rfl ?_
      conv => whnf
      try dsimp only
      exact bad (fun z => by rw [hn] at z; cases z.2.2)
    | true =>
      rw [if_pos ⟨hk, hl, hn⟩, if_pos ⟨hk, hl, hn⟩, if_pos ⟨hk, hl, hn⟩] at h
      obtain ⟨n, hnn, rfl⟩ := inN (N := 20) (by decide) hn
      obtain ⟨k, hkk, rfl⟩ := inN (N := 3) (by decide) hk
      rw [nI_clamp (by omega), nI_clamp (by omega)] at h
      rw [nI_clamp (by omega)] at hc
      obtain ⟨hS, hS40⟩ := hsz k (by omega)
      refine wd_go ok_R_read [26] 20 (fun R hR => ?_)
      conv => whnf
      try dsimp only
      refine nb_t (by decide) ?_
      conv => whnf
      try dsimp only
      have key := l_R_readA (G := G) (τ := τ) (Q := Q) (σ := σ) (k := nI k) (lane := lane) (f := f) (n := nI n) ?_ 61 0 (by omega)
      · rw [fil_0, uc_self] at key
        exact hR key
      refine wd_go ok_R_read [62] 20 (fun R hR => ?_)
      conv => whnf
      try dsimp only
      refine hR ?_
      have hcl : ∀ (g x : wRow) c, c ≠ 0 → c ≠ 1 → c ≠ 12 → wd_uc (wd_uc (wd_uc σ 12 (fil (σ 1) (σ 12) 61)) 1 g) 0 x c = σ c := fun g x c h0 h1 h12 => by rw [uc_n h0, uc_n h1, uc_n h12]
      by_cases hf : inB f 0 39 = true
      · obtain ⟨F, hFF, rfl⟩ := inN (N := 39) (by decide) hf
        rw [rdX, if_pos hf, nI_clamp (by omega), hS] at h
        have key := l_R_readB (G := G) (τ := τ) (Q := Q) (σ0 := wd_uc σ 12 (fil (σ 1) (σ 12) 61)) (c := c) (lane := lane) (k := k) (F := F) (S := S k) (N := n) (P := σ 1) hw hsg (by omega) hS hS40 hc (by omega) hnn (fun j hj => fil_lt hj) (rdO (σ 1) c (σ 9 k) (nI (S k)) lane F n 0) (fun g hg hg2 ho => ?_) (fun g hg hg2 ho => ?_) n 0 (σ 1) none none none (by omega) rfl (fun _ _ => rfl) (fun _ _ => rfl)
        · have e1 : wd_uc (wd_uc σ 12 (fil (σ 1) (σ 12) 61)) 1 (σ 1) = wd_uc σ 12 (fil (σ 1) (σ 12) 61) := uc_self (wd_uc σ 12 (fil (σ 1) (σ 12) 61)) 1
          rw [e1] at key
          exact key
        · rw [rdA, ho] at h
          simp only [cond_true] at h
          refine h _ (hcl _ _) (fun q hq => ?_) rfl hg hg2
          rw [uc_s, upd_n hq, uc_n (by decide)]
        · rw [rdA, ho] at h
          simp only [cond_false] at h
          refine h _ (fun c h0 h1 h12 => ?_) (fun q hq => rfl) rfl hg hg2
          rw [uc_n h1, uc_n h12]
      · rw [rdX, if_neg hf] at h
        have f39 : ∀ S, S ≤ 40 → inB f 0 (nI S - 1) = false := fun S hS => by
          cases hq : inB f 0 (nI S - 1) with
          | false => rfl
          | true =>
            obtain ⟨j, hj, rfl⟩ := inD (by omega) hq
            exact absurd (inB_nI (j := j) (N := 39) (by omega) (by decide)) hf
        by_cases hn0 : n = 0
        · subst hn0
          rw [if_pos rfl] at h
          refine wd_go ok_R_read [62] 20 (fun R hR => ?_)
          conv => whnf
          try dsimp only
          refine br_t (by decide) ?_
          conv => whnf
          try dsimp only
          refine h _ (fun c h0 h1 h12 => ?_) (fun q hq => ?_) rfl (fun j hj => rfl) (fun j hj => rfl)
          · rw [uc_n h0, uc_n h12]
          · rw [uc_s, upd_n hq, uc_n (by decide)]
        · rw [if_neg hn0] at h
          have hfa : ¬ faA (σ 9 k) (σ 10 k) lane f = 0 := by
            rw [faA, hS, f39 _ hS40]
            split
            · decide
            · split
              · decide
              · decide
          refine wd_go ok_R_read [62, 77] 20 (fun R hR => ?_)
          conv => whnf
          try dsimp only
          refine br_f (nI_ge (a := 0) (by omega) (by omega)) ?_
          conv => whnf
          try dsimp only
          refine nb_f rfl ?_
          conv => whnf
          try dsimp only
          have e0 : f.toInt64 + ((2 : Int32) * nI 0).toInt64 + (nI 0).toInt64 = f.toInt64 := by
            rw [show ((2 : Int32) * nI 0).toInt64 = 0 by decide, show (nI 0).toInt64 = 0 by decide, Int64.add_zero, Int64.add_zero]
          refine hR (l_R_readC (σ := wd_uc σ 12 (fil (σ 1) (σ 12) 61)) (k := k) (i := 0) (q := 0) (x := f) (by omega) (by decide) ?_ (fun l9 l10 => ?_))
          · rw [e0]
            have e1 : (wd_uc σ 12 (fil (σ 1) (σ 12) 61)) 10 k = σ 10 k := rfl
            rw [e1, hS, f39 _ hS40]
            refine ⟨fun z => ?_, fun z => by cases z⟩
            have z1 : ¬ f < 0 := fun y => z.1 ((w_lt f 0).mpr y)
            have z2 : f < nI (S k) := (w_lt f _).mp z.2
            obtain ⟨j, hj, ej⟩ := nI_of z1
            rw [ej, nI_ltI hj (by omega)] at z2
            refine absurd ?_ hf
            rw [ej]
            exact inB_nI (N := 39) (by omega) (by decide)
          · refine l_R_readE (Or.inl hfa) ?_
            refine wd_go ok_R_read [62] 20 (fun R hR => ?_)
            conv => whnf
            try dsimp only
            refine nb_t hfa ?_
            conv => whnf
            try dsimp only
            refine fL_to ?_
            conv => whnf
            try dsimp only
            refine hR (l_R_readX hfa ?_)
            refine h _ (fun c h0 h1 h12 => ?_) (fun q hq => ?_) rfl (fun j hj => rfl) (fun j hj => rfl)
            · rw [uc_n h0, uc_n h12]
            · rw [uc_s, upd_n hq, uc_n (by decide)]
end R
