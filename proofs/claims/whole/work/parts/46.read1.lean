/-! READ: the class -/
def sgO (P : wRow) : Prop := ∀ i, i < sN P → ∃ b : Nat, P (17 + i) = nI b ∧ b ≤ 15
def rdG (P c : wRow) (F i : Nat) : Bool := inB (c (F + 2 * i)) 0 (P 33 - 1) && inB (c (F + 2 * i + 1)) 0 15
def rdO (P c : wRow) (ln sz lane : Int32) (F : Nat) : Nat → Nat → Bool × Nat × Int32
  | 0, i => (true, i, 0)
  | m + 1, i => if paA ln sz lane (nI (F + 2 * i)) = 0 then (if rdG P c F i = true then rdO P c ln sz lane F m (i + 1) else (false, i, 0)) else (true, i, paA ln sz lane (nI (F + 2 * i)))
def rdP (P c : wRow) (F : Nat) : Nat → wRow
  | 0 => P
  | i + 1 => (cSet (rdP P c F i) (c (F + 2 * i)) (c (F + 2 * i + 1))).2
def rdX (P c : wRow) (ln sz lane f : Int32) (n : Nat) : Bool × Nat × Int32 := if inB f 0 39 = true then rdO P c ln sz lane f.toNatClampNeg n 0 else if n = 0 then (true, 0, 0) else (true, 0, faA ln sz lane f)
def rdA (o : Bool × Nat × Int32) : Int32 := cond o.1 (nI o.2.1) (-20 - nI o.2.1)
def aRead (P c : wRow) (k ln sz lane f n : Int32) : Int32 := if inB k 0 3 = true ∧ inB lane 0 2 = true ∧ inB n 0 20 = true then rdA (rdX P c ln sz lane f n.toNatClampNeg) else -1
def cRead (P c : wRow) (k ln sz lane f n : Int32) : wRow := if inB k 0 3 = true ∧ inB lane 0 2 = true ∧ inB n 0 20 = true then cond (rdX P c ln sz lane f n.toNatClampNeg).1 (rdP P c f.toNatClampNeg (rdX P c ln sz lane f n.toNatClampNeg).2.1) P else P
def tRead (P c : wRow) (k ln sz lane f n t : Int32) : Int32 := if inB k 0 3 = true ∧ inB lane 0 2 = true ∧ inB n 0 20 = true then cond (rdX P c ln sz lane f n.toNatClampNeg).1 (rdX P c ln sz lane f n.toNatClampNeg).2.2 t else t
theorem inB_lt {x S : Nat} (hx : x < 2 ^ 30) (hS : S < 2 ^ 30) : inB (nI x) 0 (nI S - 1) = decide (x < S) := by
  rcases Nat.eq_zero_or_pos S with e | e
  · subst e
    rw [decide_eq_false (show ¬ x < 0 by omega), inB]
    refine decide_eq_false ?_
    rintro ⟨_, h2⟩
    have e1 : nI 0 - 1 = (-1 : Int32) := by decide
    have h3 := Int32.le_trans (nI_pos' (n := x) (by omega)) (e1 ▸ h2)
    exact absurd h3 (by decide)
  · obtain ⟨s, rfl⟩ : ∃ s, S = s + 1 := ⟨S - 1, by omega⟩
    rw [nI_pred, inB]
    by_cases h : x < s + 1
    · rw [decide_eq_true h, decide_eq_true ⟨nI_pos' (by omega), nI_le (by omega) (by omega)⟩]
    · rw [decide_eq_false h, decide_eq_false (fun z => absurd z.2 (nI_ge (by omega) (by omega)))]
theorem fa_0 {ln lane : Int32} {S x : Nat} (hx : x < 2 ^ 30) (hS : S < 2 ^ 30) (h : faA ln (nI S) lane (nI x) = 0) : x < S := by
  rw [faA] at h
  split at h
  · exact absurd h (by decide)
  · split at h
    · rw [inB_lt hx hS] at h
      by_cases e : x < S
      · exact e
      · rw [decide_eq_false e] at h
        exact absurd h (by decide)
    · exact absurd h (by decide)
theorem pa_0 {ln lane : Int32} {S x : Nat} (hx : x < 2 ^ 29) (hS : S < 2 ^ 30) (h : paA ln (nI S) lane (nI x) = 0) : x + 1 < S := by
  rw [paA] at h
  split at h
  · rw [nI_1] at h
    exact fa_0 (by omega) hS h
  · rename_i h2
    exact absurd h h2
/-- what stays of a pack while pairs are set -/
theorem rdP_33 {P c : wRow} {F : Nat} (hw : wf P) : ∀ i, wf (rdP P c F i) ∧ rdP P c F i 33 = P 33
  | 0 => ⟨hw, rfl⟩
  | i + 1 => by
    obtain ⟨h1, h2⟩ := rdP_33 (c := c) (F := F) hw i
    refine ⟨wf_cSet h1, ?_⟩
    rw [rdP, cSet]
    split
    · rename_i hc
      have hd := hc.1
      have h16 := h1.2.1.2
      rw [h1.2.1.1] at hd
      obtain ⟨d, hdd, e⟩ := inD (by omega) hd
      dsimp only
      rw [e, nI_clamp (by omega), upd_n (by omega)]
      exact h2
    · exact h2
section C
variable {G : wd_G} {τ : wd_T} {Q : wd_P} {P : wRow}
theorem l_D_readX {σ : wd_S} {a b f n x w j : Int32} (hx : ¬ x = 0) (h : ∀ l7, Run wC G M_D_read 135 [some (.ref 0), some (.int a), some (.int b), some (.int f), some (.int n), some (.int x), some (.int w), l7] [] σ τ Q) : Run wC G M_D_read 36 [some (.ref 0), some (.int a), some (.int b), some (.int f), some (.int n), some (.int x), some (.int w), some (.int j)] [] σ τ Q := by
  refine wd_go ok_D_read [36, 135] 20 (fun R hR => ?_)
  conv => whnf
  try dsimp only
  refine ⟨fun hb => ?_, fun hb => ?_⟩
  · conv => whnf
    try dsimp only
    exact hR (h _)
  · conv => whnf
    try dsimp only
    refine nb_t hx ?_
    conv => whnf
    try dsimp only
    exact hR (h _)
theorem l_D_read1_0 {σ : wd_S} {c : wRow} {lane : Int32} {F S N : Nat} (hr : relC σ 10 P) (hS : σ 9 0 = nI S) (hS40 : S ≤ 40) (hc : ∀ j, j < 40 → σ 60 j = c j) (hF : F < 40) (hN : N ≤ 20) (o : Bool × Nat × Int32) (h : ∀ l7, o.1 = true → Run wC G M_D_read 135 [some (.ref 0), some (.int (nI 0)), some (.int lane), some (.int (nI F)), some (.int (nI N)), some (.int o.2.2), some (.int (nI o.2.1)), l7] [] σ τ Q) (h2 : o.1 = false → Q (some (.int (-20 - nI o.2.1))) σ τ) :
    ∀ (m i : Nat), N = i + m → rdO P c (σ 8 0) (nI S) lane F m i = o → Run wC G M_D_read 36 [some (.ref 0), some (.int (nI 0)), some (.int lane), some (.int (nI F)), some (.int (nI N)), some (.int 0), some (.int (nI i)), some (.int (nI i))] [] σ τ Q := by
  intro m
  induction m with
  | zero =>
    intro i hi ho
    have e : i = N := by omega
    rw [rdO] at ho
    subst ho
    refine wd_go ok_D_read [36, 135] 20 (fun R hR => ?_)
    conv => whnf
    try dsimp only
    refine br_t (nI_le (by omega) (by omega)) ?_
    conv => whnf
    try dsimp only
    exact hR (h _ rfl)
  | succ m ih =>
    intro i hi ho
    rw [rdO] at ho
    refine wd_go ok_D_read [36, 135] 30 (fun R hR => ?_)
    conv => whnf
    try dsimp only
    refine br_f (nI_ge (by omega) (by omega)) ?_
    conv => whnf
    try dsimp only
    refine nb_f rfl ?_
    conv => whnf
    try dsimp only
    rw [il2, pk_mul, nI_add]
    refine hR (k_D_read_60 (Nat.le_of_ble_eq_true rfl) rfl (s_S_faultOfPair (k := 0) (by decide) ?_))
    rw [hS]
    refine wd_go ok_D_read [36, 135] 30 (fun R hR => ?_)
    conv => whnf
    try dsimp only
    by_cases hz : paA (σ 8 0) (nI S) lane (nI (F + 2 * i)) = 0
    · rw [if_pos hz, rdG] at ho
      have hp := pa_0 (by omega) (by omega) hz
      refine nb_f hz ?_
      conv => whnf
      try dsimp only
      rw [hz]
      refine ⟨vp_in_nI (by first | decide | omega) (by first | decide | omega), ?_⟩
      conv => whnf
      try dsimp only
      refine ⟨fun _ => ?_, ⟨fun e => absurd e (by decide), ⟨fun e => absurd e (by decide), ⟨fun e => absurd e (by decide), trivial⟩⟩⟩⟩
      conv => whnf
      try dsimp only
      rw [il2, pk_mul, nI_add]
      refine ⟨vp_in_nI (by first | decide | omega) (by first | decide | omega), ?_⟩
      conv => whnf
      try dsimp only
      rw [nI_clamp (by omega), hc _ (by omega)]
      refine hR (k_D_read_87 (Nat.le_of_ble_eq_true rfl) rfl (s_D_noSign hr ?_))
      cases hg : inB (c (F + 2 * i)) 0 (P 33 - 1) with
      | false =>
        rw [hg, Bool.false_and, if_neg (by decide)] at ho
        subst ho
        refine wd_go ok_D_read [36, 135] 30 (fun R hR => ?_)
        conv => whnf
        try dsimp only
        refine nb_t (by decide) ?_
        conv => whnf
        try dsimp only
        exact h2 rfl
      | true =>
        rw [hg, Bool.true_and] at ho
        refine wd_go ok_D_read [36, 135] 30 (fun R hR => ?_)
        conv => whnf
        try dsimp only
        refine nb_f rfl ?_
        conv => whnf
        try dsimp only
        refine ⟨vp_in_nI (by first | decide | omega) (by first | decide | omega), ?_⟩
        conv => whnf
        try dsimp only
        refine ⟨fun _ => ?_, ⟨fun e => absurd e (by decide), ⟨fun e => absurd e (by decide), ⟨fun e => absurd e (by decide), trivial⟩⟩⟩⟩
        conv => whnf
        try dsimp only
        rw [il2, pk_mul, nI_add, il1, nI_add]
        refine ⟨vp_in_nI (by first | decide | omega) (by first | decide | omega), ?_⟩
        conv => whnf
        try dsimp only
        rw [nI_clamp (by omega), hc _ (by omega)]
        refine hR (k_D_read_114 (Nat.le_of_ble_eq_true rfl) (s_D_outside ?_))
        cases hq : inB (c (F + 2 * i + 1)) 0 15 with
        | false =>
          rw [hq, if_neg (by decide)] at ho
          subst ho
          refine wd_go ok_D_read [36, 135] 30 (fun R hR => ?_)
          conv => whnf
          try dsimp only
          refine br_f (by decide) ?_
          conv => whnf
          try dsimp only
          exact h2 rfl
        | true =>
          rw [hq, if_pos rfl] at ho
          refine wd_go ok_D_read [36, 135] 30 (fun R hR => ?_)
          conv => whnf
          try dsimp only
          refine br_t rfl ?_
          conv => whnf
          try dsimp only
          refine hR ?_
          have := ih (i + 1) (by omega) ho
          rw [nI_succ i] at this
          exact this
    · rw [if_neg hz] at ho
      subst ho
      refine nb_t hz ?_
      conv => whnf
      try dsimp only
      exact hR (l_D_readX hz (fun l7 => h l7 rfl))
theorem l_D_read2_0 {σ0 : wd_S} {c : wRow} {lane N5 : Int32} {F W N : Nat} (hw : wf P) (hc : ∀ j, j < 40 → σ0 60 j = c j) (hW : W ≤ 20) (hF : F + 2 * W ≤ 40) (h : ∀ σ l7, frC σ0 σ → relC σ 10 (rdP P c F W) → Run wC G M_D_read 190 [some (.ref 0), some (.int (nI 0)), some (.int lane), some (.int (nI F)), some (.int (nI N)), some (.int N5), some (.int (nI W)), l7] [] σ τ Q) :
    ∀ (m i : Nat) (σ : wd_S), W = i + m → frC σ0 σ → relC σ 10 (rdP P c F i) → Run wC G M_D_read 138 [some (.ref 0), some (.int (nI 0)), some (.int lane), some (.int (nI F)), some (.int (nI N)), some (.int N5), some (.int (nI W)), some (.int (nI i))] [] σ τ Q := by
  intro m
  induction m with
  | zero =>
    intro i σ hi hf hr
    have e : i = W := by omega
    subst e
    refine wd_go ok_D_read [138, 190] 20 (fun R hR => ?_)
    conv => whnf
    try dsimp only
    refine br_t (nI_le (Nat.le_refl _) (by omega)) ?_
    conv => whnf
    try dsimp only
    exact hR (h σ _ hf hr)
  | succ m ih =>
    intro i σ hi hf hr
    have hcc : ∀ j, j < 40 → σ 60 j = c j := fun j hj => by
      rw [hf 60 (by omega)]
      exact hc j hj
    refine wd_go ok_D_read [138, 190] 30 (fun R hR => ?_)
    conv => whnf
    try dsimp only
    refine br_f (nI_ge (by omega) (by omega)) ?_
    conv => whnf
    try dsimp only
    refine ⟨vp_in_nI (by first | decide | omega) (by first | decide | omega), ?_⟩
    conv => whnf
    try dsimp only
    refine ⟨fun _ => ?_, ⟨fun e => absurd e (by decide), ⟨fun e => absurd e (by decide), ⟨fun e => absurd e (by decide), trivial⟩⟩⟩⟩
    conv => whnf
    try dsimp only
    rw [il2, pk_mul, nI_add]
    refine ⟨vp_in_nI (by first | decide | omega) (by first | decide | omega), ?_⟩
    conv => whnf
    try dsimp only
    rw [nI_clamp (by omega), hcc _ (by omega)]
    refine ⟨vp_in_nI (by first | decide | omega) (by first | decide | omega), ?_⟩
    conv => whnf
    try dsimp only
    refine ⟨fun _ => ?_, ⟨fun e => absurd e (by decide), ⟨fun e => absurd e (by decide), ⟨fun e => absurd e (by decide), trivial⟩⟩⟩⟩
    conv => whnf
    try dsimp only
    rw [il2, pk_mul, nI_add, il1, nI_add]
    refine ⟨vp_in_nI (by first | decide | omega) (by first | decide | omega), ?_⟩
    conv => whnf
    try dsimp only
    rw [nI_clamp (by omega), hcc _ (by omega)]
    refine hR (k_D_read_180 (Nat.le_of_ble_eq_true rfl) rfl (s_D_set hr (rdP_33 hw i).1 (fun σ' s' => ?_)))
    refine wd_go ok_D_read [138, 190] 30 (fun R hR => ?_)
    conv => whnf
    try dsimp only
    refine hR ?_
    have := ih (i + 1) σ' (by omega) (hf.tr s'.1) s'.2
    rw [nI_succ i] at this
    exact this
theorem l_D_read1_1 {σ : wd_S} {c : wRow} {lane : Int32} {F S N : Nat} (hr : relC σ 10 P) (hS : σ 9 1 = nI S) (hS40 : S ≤ 40) (hc : ∀ j, j < 40 → σ 61 j = c j) (hF : F < 40) (hN : N ≤ 20) (o : Bool × Nat × Int32) (h : ∀ l7, o.1 = true → Run wC G M_D_read 135 [some (.ref 0), some (.int (nI 1)), some (.int lane), some (.int (nI F)), some (.int (nI N)), some (.int o.2.2), some (.int (nI o.2.1)), l7] [] σ τ Q) (h2 : o.1 = false → Q (some (.int (-20 - nI o.2.1))) σ τ) :
    ∀ (m i : Nat), N = i + m → rdO P c (σ 8 1) (nI S) lane F m i = o → Run wC G M_D_read 36 [some (.ref 0), some (.int (nI 1)), some (.int lane), some (.int (nI F)), some (.int (nI N)), some (.int 0), some (.int (nI i)), some (.int (nI i))] [] σ τ Q := by
  intro m
  induction m with
  | zero =>
    intro i hi ho
    have e : i = N := by omega
    rw [rdO] at ho
    subst ho
    refine wd_go ok_D_read [36, 135] 20 (fun R hR => ?_)
    conv => whnf
    try dsimp only
    refine br_t (nI_le (by omega) (by omega)) ?_
    conv => whnf
    try dsimp only
    exact hR (h _ rfl)
  | succ m ih =>
    intro i hi ho
    rw [rdO] at ho
    refine wd_go ok_D_read [36, 135] 30 (fun R hR => ?_)
    conv => whnf
    try dsimp only
    refine br_f (nI_ge (by omega) (by omega)) ?_
    conv => whnf
    try dsimp only
    refine nb_f rfl ?_
    conv => whnf
    try dsimp only
    rw [il2, pk_mul, nI_add]
    refine hR (k_D_read_60 (Nat.le_of_ble_eq_true rfl) rfl (s_S_faultOfPair (k := 1) (by decide) ?_))
    rw [hS]
    refine wd_go ok_D_read [36, 135] 30 (fun R hR => ?_)
    conv => whnf
    try dsimp only
    by_cases hz : paA (σ 8 1) (nI S) lane (nI (F + 2 * i)) = 0
    · rw [if_pos hz, rdG] at ho
      have hp := pa_0 (by omega) (by omega) hz
      refine nb_f hz ?_
      conv => whnf
      try dsimp only
      rw [hz]
      refine ⟨vp_in_nI (by first | decide | omega) (by first | decide | omega), ?_⟩
      conv => whnf
      try dsimp only
      refine ⟨fun e => absurd e (by decide), ⟨fun _ => ?_, ⟨fun e => absurd e (by decide), ⟨fun e => absurd e (by decide), trivial⟩⟩⟩⟩
      conv => whnf
      try dsimp only
      rw [il2, pk_mul, nI_add]
      refine ⟨vp_in_nI (by first | decide | omega) (by first | decide | omega), ?_⟩
      conv => whnf
      try dsimp only
      rw [nI_clamp (by omega), hc _ (by omega)]
      refine hR (k_D_read_87 (Nat.le_of_ble_eq_true rfl) rfl (s_D_noSign hr ?_))
      cases hg : inB (c (F + 2 * i)) 0 (P 33 - 1) with
      | false =>
        rw [hg, Bool.false_and, if_neg (by decide)] at ho
        subst ho
        refine wd_go ok_D_read [36, 135] 30 (fun R hR => ?_)
        conv => whnf
        try dsimp only
        refine nb_t (by decide) ?_
        conv => whnf
        try dsimp only
        exact h2 rfl
      | true =>
        rw [hg, Bool.true_and] at ho
        refine wd_go ok_D_read [36, 135] 30 (fun R hR => ?_)
        conv => whnf
        try dsimp only
        refine nb_f rfl ?_
        conv => whnf
        try dsimp only
        refine ⟨vp_in_nI (by first | decide | omega) (by first | decide | omega), ?_⟩
        conv => whnf
        try dsimp only
        refine ⟨fun e => absurd e (by decide), ⟨fun _ => ?_, ⟨fun e => absurd e (by decide), ⟨fun e => absurd e (by decide), trivial⟩⟩⟩⟩
        conv => whnf
        try dsimp only
        rw [il2, pk_mul, nI_add, il1, nI_add]
        refine ⟨vp_in_nI (by first | decide | omega) (by first | decide | omega), ?_⟩
        conv => whnf
        try dsimp only
        rw [nI_clamp (by omega), hc _ (by omega)]
        refine hR (k_D_read_114 (Nat.le_of_ble_eq_true rfl) (s_D_outside ?_))
        cases hq : inB (c (F + 2 * i + 1)) 0 15 with
        | false =>
          rw [hq, if_neg (by decide)] at ho
          subst ho
          refine wd_go ok_D_read [36, 135] 30 (fun R hR => ?_)
          conv => whnf
          try dsimp only
          refine br_f (by decide) ?_
          conv => whnf
          try dsimp only
          exact h2 rfl
        | true =>
          rw [hq, if_pos rfl] at ho
          refine wd_go ok_D_read [36, 135] 30 (fun R hR => ?_)
          conv => whnf
          try dsimp only
          refine br_t rfl ?_
          conv => whnf
          try dsimp only
          refine hR ?_
          have := ih (i + 1) (by omega) ho
          rw [nI_succ i] at this
          exact this
    · rw [if_neg hz] at ho
      subst ho
      refine nb_t hz ?_
      conv => whnf
      try dsimp only
      exact hR (l_D_readX hz (fun l7 => h l7 rfl))
theorem l_D_read2_1 {σ0 : wd_S} {c : wRow} {lane N5 : Int32} {F W N : Nat} (hw : wf P) (hc : ∀ j, j < 40 → σ0 61 j = c j) (hW : W ≤ 20) (hF : F + 2 * W ≤ 40) (h : ∀ σ l7, frC σ0 σ → relC σ 10 (rdP P c F W) → Run wC G M_D_read 190 [some (.ref 0), some (.int (nI 1)), some (.int lane), some (.int (nI F)), some (.int (nI N)), some (.int N5), some (.int (nI W)), l7] [] σ τ Q) :
    ∀ (m i : Nat) (σ : wd_S), W = i + m → frC σ0 σ → relC σ 10 (rdP P c F i) → Run wC G M_D_read 138 [some (.ref 0), some (.int (nI 1)), some (.int lane), some (.int (nI F)), some (.int (nI N)), some (.int N5), some (.int (nI W)), some (.int (nI i))] [] σ τ Q := by
  intro m
  induction m with
  | zero =>
    intro i σ hi hf hr
    have e : i = W := by omega
    subst e
    refine wd_go ok_D_read [138, 190] 20 (fun R hR => ?_)
    conv => whnf
    try dsimp only
    refine br_t (nI_le (Nat.le_refl _) (by omega)) ?_
    conv => whnf
    try dsimp only
    exact hR (h σ _ hf hr)
  | succ m ih =>
    intro i σ hi hf hr
    have hcc : ∀ j, j < 40 → σ 61 j = c j := fun j hj => by
      rw [hf 61 (by omega)]
      exact hc j hj
    refine wd_go ok_D_read [138, 190] 30 (fun R hR => ?_)
    conv => whnf
    try dsimp only
    refine br_f (nI_ge (by omega) (by omega)) ?_
    conv => whnf
    try dsimp only
    refine ⟨vp_in_nI (by first | decide | omega) (by first | decide | omega), ?_⟩
    conv => whnf
    try dsimp only
    refine ⟨fun e => absurd e (by decide), ⟨fun _ => ?_, ⟨fun e => absurd e (by decide), ⟨fun e => absurd e (by decide), trivial⟩⟩⟩⟩
    conv => whnf
    try dsimp only
    rw [il2, pk_mul, nI_add]
    refine ⟨vp_in_nI (by first | decide | omega) (by first | decide | omega), ?_⟩
    conv => whnf
    try dsimp only
    rw [nI_clamp (by omega), hcc _ (by omega)]
    refine ⟨vp_in_nI (by first | decide | omega) (by first | decide | omega), ?_⟩
    conv => whnf
    try dsimp only
    refine ⟨fun e => absurd e (by decide), ⟨fun _ => ?_, ⟨fun e => absurd e (by decide), ⟨fun e => absurd e (by decide), trivial⟩⟩⟩⟩
    conv => whnf
    try dsimp only
    rw [il2, pk_mul, nI_add, il1, nI_add]
    refine ⟨vp_in_nI (by first | decide | omega) (by first | decide | omega), ?_⟩
    conv => whnf
    try dsimp only
    rw [nI_clamp (by omega), hcc _ (by omega)]
    refine hR (k_D_read_180 (Nat.le_of_ble_eq_true rfl) rfl (s_D_set hr (rdP_33 hw i).1 (fun σ' s' => ?_)))
    refine wd_go ok_D_read [138, 190] 30 (fun R hR => ?_)
    conv => whnf
    try dsimp only
    refine hR ?_
    have := ih (i + 1) σ' (by omega) (hf.tr s'.1) s'.2
    rw [nI_succ i] at this
    exact this
theorem l_D_read1_2 {σ : wd_S} {c : wRow} {lane : Int32} {F S N : Nat} (hr : relC σ 10 P) (hS : σ 9 2 = nI S) (hS40 : S ≤ 40) (hc : ∀ j, j < 40 → σ 62 j = c j) (hF : F < 40) (hN : N ≤ 20) (o : Bool × Nat × Int32) (h : ∀ l7, o.1 = true → Run wC G M_D_read 135 [some (.ref 0), some (.int (nI 2)), some (.int lane), some (.int (nI F)), some (.int (nI N)), some (.int o.2.2), some (.int (nI o.2.1)), l7] [] σ τ Q) (h2 : o.1 = false → Q (some (.int (-20 - nI o.2.1))) σ τ) :
    ∀ (m i : Nat), N = i + m → rdO P c (σ 8 2) (nI S) lane F m i = o → Run wC G M_D_read 36 [some (.ref 0), some (.int (nI 2)), some (.int lane), some (.int (nI F)), some (.int (nI N)), some (.int 0), some (.int (nI i)), some (.int (nI i))] [] σ τ Q := by
  intro m
  induction m with
  | zero =>
    intro i hi ho
    have e : i = N := by omega
    rw [rdO] at ho
    subst ho
    refine wd_go ok_D_read [36, 135] 20 (fun R hR => ?_)
    conv => whnf
    try dsimp only
    refine br_t (nI_le (by omega) (by omega)) ?_
    conv => whnf
    try dsimp only
    exact hR (h _ rfl)
  | succ m ih =>
    intro i hi ho
    rw [rdO] at ho
    refine wd_go ok_D_read [36, 135] 30 (fun R hR => ?_)
    conv => whnf
    try dsimp only
    refine br_f (nI_ge (by omega) (by omega)) ?_
    conv => whnf
    try dsimp only
    refine nb_f rfl ?_
    conv => whnf
    try dsimp only
    rw [il2, pk_mul, nI_add]
    refine hR (k_D_read_60 (Nat.le_of_ble_eq_true rfl) rfl (s_S_faultOfPair (k := 2) (by decide) ?_))
    rw [hS]
    refine wd_go ok_D_read [36, 135] 30 (fun R hR => ?_)
    conv => whnf
    try dsimp only
    by_cases hz : paA (σ 8 2) (nI S) lane (nI (F + 2 * i)) = 0
    · rw [if_pos hz, rdG] at ho
      have hp := pa_0 (by omega) (by omega) hz
      refine nb_f hz ?_
      conv => whnf
      try dsimp only
      rw [hz]
      refine ⟨vp_in_nI (by first | decide | omega) (by first | decide | omega), ?_⟩
      conv => whnf
      try dsimp only
      refine ⟨fun e => absurd e (by decide), ⟨fun e => absurd e (by decide), ⟨fun _ => ?_, ⟨fun e => absurd e (by decide), trivial⟩⟩⟩⟩
      conv => whnf
      try dsimp only
      rw [il2, pk_mul, nI_add]
      refine ⟨vp_in_nI (by first | decide | omega) (by first | decide | omega), ?_⟩
      conv => whnf
      try dsimp only
      rw [nI_clamp (by omega), hc _ (by omega)]
      refine hR (k_D_read_87 (Nat.le_of_ble_eq_true rfl) rfl (s_D_noSign hr ?_))
      cases hg : inB (c (F + 2 * i)) 0 (P 33 - 1) with
      | false =>
        rw [hg, Bool.false_and, if_neg (by decide)] at ho
        subst ho
        refine wd_go ok_D_read [36, 135] 30 (fun R hR => ?_)
        conv => whnf
        try dsimp only
        refine nb_t (by decide) ?_
        conv => whnf
        try dsimp only
        exact h2 rfl
      | true =>
        rw [hg, Bool.true_and] at ho
        refine wd_go ok_D_read [36, 135] 30 (fun R hR => ?_)
        conv => whnf
        try dsimp only
        refine nb_f rfl ?_
        conv => whnf
        try dsimp only
        refine ⟨vp_in_nI (by first | decide | omega) (by first | decide | omega), ?_⟩
        conv => whnf
        try dsimp only
        refine ⟨fun e => absurd e (by decide), ⟨fun e => absurd e (by decide), ⟨fun _ => ?_, ⟨fun e => absurd e (by decide), trivial⟩⟩⟩⟩
        conv => whnf
        try dsimp only
        rw [il2, pk_mul, nI_add, il1, nI_add]
        refine ⟨vp_in_nI (by first | decide | omega) (by first | decide | omega), ?_⟩
        conv => whnf
        try dsimp only
        rw [nI_clamp (by omega), hc _ (by omega)]
        refine hR (k_D_read_114 (Nat.le_of_ble_eq_true rfl) (s_D_outside ?_))
        cases hq : inB (c (F + 2 * i + 1)) 0 15 with
        | false =>
          rw [hq, if_neg (by decide)] at ho
          subst ho
          refine wd_go ok_D_read [36, 135] 30 (fun R hR => ?_)
          conv => whnf
          try dsimp only
          refine br_f (by decide) ?_
          conv => whnf
          try dsimp only
          exact h2 rfl
        | true =>
          rw [hq, if_pos rfl] at ho
          refine wd_go ok_D_read [36, 135] 30 (fun R hR => ?_)
          conv => whnf
          try dsimp only
          refine br_t rfl ?_
          conv => whnf
          try dsimp only
          refine hR ?_
          have := ih (i + 1) (by omega) ho
          rw [nI_succ i] at this
          exact this
    · rw [if_neg hz] at ho
      subst ho
      refine nb_t hz ?_
      conv => whnf
      try dsimp only
      exact hR (l_D_readX hz (fun l7 => h l7 rfl))
theorem l_D_read2_2 {σ0 : wd_S} {c : wRow} {lane N5 : Int32} {F W N : Nat} (hw : wf P) (hc : ∀ j, j < 40 → σ0 62 j = c j) (hW : W ≤ 20) (hF : F + 2 * W ≤ 40) (h : ∀ σ l7, frC σ0 σ → relC σ 10 (rdP P c F W) → Run wC G M_D_read 190 [some (.ref 0), some (.int (nI 2)), some (.int lane), some (.int (nI F)), some (.int (nI N)), some (.int N5), some (.int (nI W)), l7] [] σ τ Q) :
    ∀ (m i : Nat) (σ : wd_S), W = i + m → frC σ0 σ → relC σ 10 (rdP P c F i) → Run wC G M_D_read 138 [some (.ref 0), some (.int (nI 2)), some (.int lane), some (.int (nI F)), some (.int (nI N)), some (.int N5), some (.int (nI W)), some (.int (nI i))] [] σ τ Q := by
  intro m
  induction m with
  | zero =>
    intro i σ hi hf hr
    have e : i = W := by omega
    subst e
    refine wd_go ok_D_read [138, 190] 20 (fun R hR => ?_)
    conv => whnf
    try dsimp only
    refine br_t (nI_le (Nat.le_refl _) (by omega)) ?_
    conv => whnf
    try dsimp only
    exact hR (h σ _ hf hr)
  | succ m ih =>
    intro i σ hi hf hr
    have hcc : ∀ j, j < 40 → σ 62 j = c j := fun j hj => by
      rw [hf 62 (by omega)]
      exact hc j hj
    refine wd_go ok_D_read [138, 190] 30 (fun R hR => ?_)
    conv => whnf
    try dsimp only
    refine br_f (nI_ge (by omega) (by omega)) ?_
    conv => whnf
    try dsimp only
    refine ⟨vp_in_nI (by first | decide | omega) (by first | decide | omega), ?_⟩
    conv => whnf
    try dsimp only
    refine ⟨fun e => absurd e (by decide), ⟨fun e => absurd e (by decide), ⟨fun _ => ?_, ⟨fun e => absurd e (by decide), trivial⟩⟩⟩⟩
    conv => whnf
    try dsimp only
    rw [il2, pk_mul, nI_add]
    refine ⟨vp_in_nI (by first | decide | omega) (by first | decide | omega), ?_⟩
    conv => whnf
    try dsimp only
    rw [nI_clamp (by omega), hcc _ (by omega)]
    refine ⟨vp_in_nI (by first | decide | omega) (by first | decide | omega), ?_⟩
    conv => whnf
    try dsimp only
    refine ⟨fun e => absurd e (by decide), ⟨fun e => absurd e (by decide), ⟨fun _ => ?_, ⟨fun e => absurd e (by decide), trivial⟩⟩⟩⟩
    conv => whnf
    try dsimp only
    rw [il2, pk_mul, nI_add, il1, nI_add]
    refine ⟨vp_in_nI (by first | decide | omega) (by first | decide | omega), ?_⟩
    conv => whnf
    try dsimp only
    rw [nI_clamp (by omega), hcc _ (by omega)]
    refine hR (k_D_read_180 (Nat.le_of_ble_eq_true rfl) rfl (s_D_set hr (rdP_33 hw i).1 (fun σ' s' => ?_)))
    refine wd_go ok_D_read [138, 190] 30 (fun R hR => ?_)
    conv => whnf
    try dsimp only
    refine hR ?_
    have := ih (i + 1) σ' (by omega) (hf.tr s'.1) s'.2
    rw [nI_succ i] at this
    exact this
theorem l_D_read1_3 {σ : wd_S} {c : wRow} {lane : Int32} {F S N : Nat} (hr : relC σ 10 P) (hS : σ 9 3 = nI S) (hS40 : S ≤ 40) (hc : ∀ j, j < 40 → σ 63 j = c j) (hF : F < 40) (hN : N ≤ 20) (o : Bool × Nat × Int32) (h : ∀ l7, o.1 = true → Run wC G M_D_read 135 [some (.ref 0), some (.int (nI 3)), some (.int lane), some (.int (nI F)), some (.int (nI N)), some (.int o.2.2), some (.int (nI o.2.1)), l7] [] σ τ Q) (h2 : o.1 = false → Q (some (.int (-20 - nI o.2.1))) σ τ) :
    ∀ (m i : Nat), N = i + m → rdO P c (σ 8 3) (nI S) lane F m i = o → Run wC G M_D_read 36 [some (.ref 0), some (.int (nI 3)), some (.int lane), some (.int (nI F)), some (.int (nI N)), some (.int 0), some (.int (nI i)), some (.int (nI i))] [] σ τ Q := by
  intro m
  induction m with
  | zero =>
    intro i hi ho
    have e : i = N := by omega
    rw [rdO] at ho
    subst ho
    refine wd_go ok_D_read [36, 135] 20 (fun R hR => ?_)
    conv => whnf
    try dsimp only
    refine br_t (nI_le (by omega) (by omega)) ?_
    conv => whnf
    try dsimp only
    exact hR (h _ rfl)
  | succ m ih =>
    intro i hi ho
    rw [rdO] at ho
    refine wd_go ok_D_read [36, 135] 30 (fun R hR => ?_)
    conv => whnf
    try dsimp only
    refine br_f (nI_ge (by omega) (by omega)) ?_
    conv => whnf
    try dsimp only
    refine nb_f rfl ?_
    conv => whnf
    try dsimp only
    rw [il2, pk_mul, nI_add]
    refine hR (k_D_read_60 (Nat.le_of_ble_eq_true rfl) rfl (s_S_faultOfPair (k := 3) (by decide) ?_))
    rw [hS]
    refine wd_go ok_D_read [36, 135] 30 (fun R hR => ?_)
    conv => whnf
    try dsimp only
    by_cases hz : paA (σ 8 3) (nI S) lane (nI (F + 2 * i)) = 0
    · rw [if_pos hz, rdG] at ho
      have hp := pa_0 (by omega) (by omega) hz
      refine nb_f hz ?_
      conv => whnf
      try dsimp only
      rw [hz]
      refine ⟨vp_in_nI (by first | decide | omega) (by first | decide | omega), ?_⟩
      conv => whnf
      try dsimp only
      refine ⟨fun e => absurd e (by decide), ⟨fun e => absurd e (by decide), ⟨fun e => absurd e (by decide), ⟨fun _ => ?_, trivial⟩⟩⟩⟩
      conv => whnf
      try dsimp only
      rw [il2, pk_mul, nI_add]
      refine ⟨vp_in_nI (by first | decide | omega) (by first | decide | omega), ?_⟩
      conv => whnf
      try dsimp only
      rw [nI_clamp (by omega), hc _ (by omega)]
      refine hR (k_D_read_87 (Nat.le_of_ble_eq_true rfl) rfl (s_D_noSign hr ?_))
      cases hg : inB (c (F + 2 * i)) 0 (P 33 - 1) with
      | false =>
        rw [hg, Bool.false_and, if_neg (by decide)] at ho
        subst ho
        refine wd_go ok_D_read [36, 135] 30 (fun R hR => ?_)
        conv => whnf
        try dsimp only
        refine nb_t (by decide) ?_
        conv => whnf
        try dsimp only
        exact h2 rfl
      | true =>
        rw [hg, Bool.true_and] at ho
        refine wd_go ok_D_read [36, 135] 30 (fun R hR => ?_)
        conv => whnf
        try dsimp only
        refine nb_f rfl ?_
        conv => whnf
        try dsimp only
        refine ⟨vp_in_nI (by first | decide | omega) (by first | decide | omega), ?_⟩
        conv => whnf
        try dsimp only
        refine ⟨fun e => absurd e (by decide), ⟨fun e => absurd e (by decide), ⟨fun e => absurd e (by decide), ⟨fun _ => ?_, trivial⟩⟩⟩⟩
        conv => whnf
        try dsimp only
        rw [il2, pk_mul, nI_add, il1, nI_add]
        refine ⟨vp_in_nI (by first | decide | omega) (by first | decide | omega), ?_⟩
        conv => whnf
        try dsimp only
        rw [nI_clamp (by omega), hc _ (by omega)]
        refine hR (k_D_read_114 (Nat.le_of_ble_eq_true rfl) (s_D_outside ?_))
        cases hq : inB (c (F + 2 * i + 1)) 0 15 with
        | false =>
          rw [hq, if_neg (by decide)] at ho
          subst ho
          refine wd_go ok_D_read [36, 135] 30 (fun R hR => ?_)
          conv => whnf
          try dsimp only
          refine br_f (by decide) ?_
          conv => whnf
          try dsimp only
          exact h2 rfl
        | true =>
          rw [hq, if_pos rfl] at ho
          refine wd_go ok_D_read [36, 135] 30 (fun R hR => ?_)
          conv => whnf
          try dsimp only
          refine br_t rfl ?_
          conv => whnf
          try dsimp only
          refine hR ?_
          have := ih (i + 1) (by omega) ho
          rw [nI_succ i] at this
          exact this
    · rw [if_neg hz] at ho
      subst ho
      refine nb_t hz ?_
      conv => whnf
      try dsimp only
      exact hR (l_D_readX hz (fun l7 => h l7 rfl))
theorem l_D_read2_3 {σ0 : wd_S} {c : wRow} {lane N5 : Int32} {F W N : Nat} (hw : wf P) (hc : ∀ j, j < 40 → σ0 63 j = c j) (hW : W ≤ 20) (hF : F + 2 * W ≤ 40) (h : ∀ σ l7, frC σ0 σ → relC σ 10 (rdP P c F W) → Run wC G M_D_read 190 [some (.ref 0), some (.int (nI 3)), some (.int lane), some (.int (nI F)), some (.int (nI N)), some (.int N5), some (.int (nI W)), l7] [] σ τ Q) :
    ∀ (m i : Nat) (σ : wd_S), W = i + m → frC σ0 σ → relC σ 10 (rdP P c F i) → Run wC G M_D_read 138 [some (.ref 0), some (.int (nI 3)), some (.int lane), some (.int (nI F)), some (.int (nI N)), some (.int N5), some (.int (nI W)), some (.int (nI i))] [] σ τ Q := by
  intro m
  induction m with
  | zero =>
    intro i σ hi hf hr
    have e : i = W := by omega
    subst e
    refine wd_go ok_D_read [138, 190] 20 (fun R hR => ?_)
    conv => whnf
    try dsimp only
    refine br_t (nI_le (Nat.le_refl _) (by omega)) ?_
    conv => whnf
    try dsimp only
    exact hR (h σ _ hf hr)
  | succ m ih =>
    intro i σ hi hf hr
    have hcc : ∀ j, j < 40 → σ 63 j = c j := fun j hj => by
      rw [hf 63 (by omega)]
      exact hc j hj
    refine wd_go ok_D_read [138, 190] 30 (fun R hR => ?_)
    conv => whnf
    try dsimp only
    refine br_f (nI_ge (by omega) (by omega)) ?_
    conv => whnf
    try dsimp only
    refine ⟨vp_in_nI (by first | decide | omega) (by first | decide | omega), ?_⟩
    conv => whnf
    try dsimp only
    refine ⟨fun e => absurd e (by decide), ⟨fun e => absurd e (by decide), ⟨fun e => absurd e (by decide), ⟨fun _ => ?_, trivial⟩⟩⟩⟩
    conv => whnf
    try dsimp only
    rw [il2, pk_mul, nI_add]
    refine ⟨vp_in_nI (by first | decide | omega) (by first | decide | omega), ?_⟩
    conv => whnf
    try dsimp only
    rw [nI_clamp (by omega), hcc _ (by omega)]
    refine ⟨vp_in_nI (by first | decide | omega) (by first | decide | omega), ?_⟩
    conv => whnf
    try dsimp only
    refine ⟨fun e => absurd e (by decide), ⟨fun e => absurd e (by decide), ⟨fun e => absurd e (by decide), ⟨fun _ => ?_, trivial⟩⟩⟩⟩
    conv => whnf
    try dsimp only
    rw [il2, pk_mul, nI_add, il1, nI_add]
    refine ⟨vp_in_nI (by first | decide | omega) (by first | decide | omega), ?_⟩
    conv => whnf
    try dsimp only
    rw [nI_clamp (by omega), hcc _ (by omega)]
    refine hR (k_D_read_180 (Nat.le_of_ble_eq_true rfl) rfl (s_D_set hr (rdP_33 hw i).1 (fun σ' s' => ?_)))
    refine wd_go ok_D_read [138, 190] 30 (fun R hR => ?_)
    conv => whnf
    try dsimp only
    refine hR ?_
    have := ih (i + 1) σ' (by omega) (hf.tr s'.1) s'.2
    rw [nI_succ i] at this
    exact this
theorem rdO_bd {P c : wRow} {ln lane : Int32} {F S : Nat} (hF : F < 40) (hS : S ≤ 40) : ∀ (m i : Nat), i + m ≤ 20 → (i = 0 ∨ F + 2 * i ≤ S) → (rdO P c ln (nI S) lane F m i).2.1 ≤ i + m ∧ ((rdO P c ln (nI S) lane F m i).2.1 = 0 ∨ F + 2 * (rdO P c ln (nI S) lane F m i).2.1 ≤ S)
  | 0, i, _, h => ⟨Nat.le_refl _, h⟩
  | m + 1, i, hm, h => by
    rw [rdO]
    split
    · rename_i hz
      have hp := pa_0 (by omega) (by omega) hz
      split
      · have := rdO_bd (P := P) (c := c) (ln := ln) (lane := lane) hF hS m (i + 1) (by omega) (Or.inr (by omega))
        exact ⟨by omega, this.2⟩
      · exact ⟨Nat.le_add_right i (m + 1), h⟩
    · exact ⟨Nat.le_add_right i (m + 1), h⟩
theorem s_D_read {σ : wd_S} {k lane f n : Int32} {S : Nat → Nat} (hr : relC σ 10 P) (hw : wf P) (hsz : ∀ k, k < 4 → σ 9 k = nI (S k) ∧ S k ≤ 40) (h : ∀ σ', (∀ c, ((4 ≤ c ∧ c < 10) ∨ 30 ≤ c) → σ' c = σ c) → σ' 0 6 = tRead P (σ (60 + k.toNatClampNeg)) k (σ 8 k.toNatClampNeg) (σ 9 k.toNatClampNeg) lane f n (σ 0 6) → relC σ' 10 (cRead P (σ (60 + k.toNatClampNeg)) k (σ 8 k.toNatClampNeg) (σ 9 k.toNatClampNeg) lane f n) → Q (some (.int (aRead P (σ (60 + k.toNatClampNeg)) k (σ 8 k.toNatClampNeg) (σ 9 k.toNatClampNeg) lane f n))) σ' τ) : Run wC G M_D_read 0 [some (.ref 0), some (.int k), some (.int lane), some (.int f), some (.int n), none, none, none] [] σ τ Q := by
  rw [aRead, cRead, tRead] at h
  refine wd_go ok_D_read [36] 20 (fun R hR => ?_)
  conv => whnf
  try dsimp only
  refine hR (k_D_read_1 (Nat.le_of_ble_eq_true rfl) (s_D_noSheet ?_))
  cases hk : inB k 0 3 with
  | false =>
    rw [if_neg (fun z => by rw [hk] at z; cases z.1), if_neg (fun z => by rw [hk] at z; cases z.1), if_neg (fun z => by rw [hk] at z; cases z.1)] at h
    refine wd_go ok_D_read [36] 20 (fun R hR => ?_)
    conv => whnf
    try dsimp only
    refine nb_t (by decide) ?_
    conv => whnf
    try dsimp only
    exact h σ (fun _ _ => rfl) rfl hr
  | true =>
    refine wd_go ok_D_read [36] 20 (fun R hR => ?_)
    conv => whnf
    try dsimp only
    refine nb_f rfl ?_
    conv => whnf
    try dsimp only
    refine hR (k_D_read_8 (Nat.le_of_ble_eq_true rfl) (s_D_noLane ?_))
    cases hl : inB lane 0 2 with
    | false =>
      rw [if_neg (fun z => by rw [hl] at z; cases z.2.1), if_neg (fun z => by rw [hl] at z; cases z.2.1), if_neg (fun z => by rw [hl] at z; cases z.2.1)] at h
      refine wd_go ok_D_read [36] 20 (fun R hR => ?_)
      conv => whnf
      try dsimp only
      refine nb_t (by decide) ?_
      conv => whnf
      try dsimp only
      exact h σ (fun _ _ => rfl) rfl hr
    | true =>
      refine wd_go ok_D_read [36] 20 (fun R hR => ?_)
      conv => whnf
      try dsimp only
      refine nb_f rfl ?_
      conv => whnf
      try dsimp only
      refine hR (k_D_read_19 (Nat.le_of_ble_eq_true rfl) (s_D_outside ?_))
      cases hn : inB n 0 20 with
      | false =>
        rw [if_neg (fun z => by rw [hn] at z; cases z.2.2), if_neg (fun z => by rw [hn] at z; cases z.2.2), if_neg (fun z => by rw [hn] at z; cases z.2.2)] at h
        refine wd_go ok_D_read [36] 20 (fun R hR => ?_)
        conv => whnf
        try dsimp only
        refine br_f (by decide) ?_
        conv => whnf
        try dsimp only
        exact h σ (fun _ _ => rfl) rfl hr
      | true =>
        rw [if_pos ⟨hk, hl, hn⟩, if_pos ⟨hk, hl, hn⟩, if_pos ⟨hk, hl, hn⟩] at h
        obtain ⟨n, hnn, rfl⟩ := inN (N := 20) (by decide) hn
        obtain ⟨k, hkk, rfl⟩ := inN (N := 3) (by decide) hk
        rw [nI_clamp (by omega), nI_clamp (by omega)] at h
        obtain ⟨hS, hS40⟩ := hsz k (by omega)
        refine wd_go ok_D_read [36] 20 (fun R hR => ?_)
        conv => whnf
        try dsimp only
        refine br_t rfl ?_
        conv => whnf
        try dsimp only
        refine hR ?_
        by_cases hf : inB f 0 39 = true
        · obtain ⟨F, hFF, rfl⟩ := inN (N := 39) (by decide) hf
          rw [rdX, if_pos hf, nI_clamp (by omega), hS] at h
          have bd := rdO_bd (P := P) (c := σ (60 + k)) (ln := σ 8 k) (lane := lane) (F := F) (S := S k) (by omega) hS40 n 0 (by omega) (Or.inl rfl)
          match k, hkk with
          | 0, _ =>
            refine l_D_read1_0 (c := σ (60 + 0)) (F := F) (N := n) hr hS hS40 (fun _ _ => rfl) (by omega) hnn _ (fun l7 ho => ?_) (fun ho => ?_) n 0 (by omega) rfl
            · refine wd_go ok_D_read [138] 20 (fun R hR => ?_)
              conv => whnf
              try dsimp only
              refine hR (l_D_read2_0 (σ0 := σ) (c := σ (60 + 0)) hw (fun _ _ => rfl) (by omega) (by omega) (fun σ2 l7 f2 r2 => ?_) _ 0 σ (Nat.zero_add _).symm frC.rf hr)
              refine wd_go ok_D_read [] 20 (fun R hR => ?_)
              conv => whnf
              try dsimp only
              rw [rdA, ho] at h
              simp only [cond_true] at h
              refine h _ (fun c hc => ?_) rfl (relC_kept r2 (fun j hj => uc_n (by omega)))
              rw [uc_n (by omega)]
              exact f2 c (by omega)
            · rw [rdA, ho] at h
              simp only [cond_false] at h
              exact h σ (fun _ _ => rfl) rfl hr
          | 1, _ =>
            refine l_D_read1_1 (c := σ (60 + 1)) (F := F) (N := n) hr hS hS40 (fun _ _ => rfl) (by omega) hnn _ (fun l7 ho => ?_) (fun ho => ?_) n 0 (by omega) rfl
            · refine wd_go ok_D_read [138] 20 (fun R hR => ?_)
              conv => whnf
              try dsimp only
              refine hR (l_D_read2_1 (σ0 := σ) (c := σ (60 + 1)) hw (fun _ _ => rfl) (by omega) (by omega) (fun σ2 l7 f2 r2 => ?_) _ 0 σ (Nat.zero_add _).symm frC.rf hr)
              refine wd_go ok_D_read [] 20 (fun R hR => ?_)
              conv => whnf
              try dsimp only
              rw [rdA, ho] at h
              simp only [cond_true] at h
              refine h _ (fun c hc => ?_) rfl (relC_kept r2 (fun j hj => uc_n (by omega)))
              rw [uc_n (by omega)]
              exact f2 c (by omega)
            · rw [rdA, ho] at h
              simp only [cond_false] at h
              exact h σ (fun _ _ => rfl) rfl hr
          | 2, _ =>
            refine l_D_read1_2 (c := σ (60 + 2)) (F := F) (N := n) hr hS hS40 (fun _ _ => rfl) (by omega) hnn _ (fun l7 ho => ?_) (fun ho => ?_) n 0 (by omega) rfl
            · refine wd_go ok_D_read [138] 20 (fun R hR => ?_)
              conv => whnf
              try dsimp only
              refine hR (l_D_read2_2 (σ0 := σ) (c := σ (60 + 2)) hw (fun _ _ => rfl) (by omega) (by omega) (fun σ2 l7 f2 r2 => ?_) _ 0 σ (Nat.zero_add _).symm frC.rf hr)
              refine wd_go ok_D_read [] 20 (fun R hR => ?_)
              conv => whnf
              try dsimp only
              rw [rdA, ho] at h
              simp only [cond_true] at h
              refine h _ (fun c hc => ?_) rfl (relC_kept r2 (fun j hj => uc_n (by omega)))
              rw [uc_n (by omega)]
              exact f2 c (by omega)
            · rw [rdA, ho] at h
              simp only [cond_false] at h
              exact h σ (fun _ _ => rfl) rfl hr
          | 3, _ =>
            refine l_D_read1_3 (c := σ (60 + 3)) (F := F) (N := n) hr hS hS40 (fun _ _ => rfl) (by omega) hnn _ (fun l7 ho => ?_) (fun ho => ?_) n 0 (by omega) rfl
            · refine wd_go ok_D_read [138] 20 (fun R hR => ?_)
              conv => whnf
              try dsimp only
              refine hR (l_D_read2_3 (σ0 := σ) (c := σ (60 + 3)) hw (fun _ _ => rfl) (by omega) (by omega) (fun σ2 l7 f2 r2 => ?_) _ 0 σ (Nat.zero_add _).symm frC.rf hr)
              refine wd_go ok_D_read [] 20 (fun R hR => ?_)
              conv => whnf
              try dsimp only
              rw [rdA, ho] at h
              simp only [cond_true] at h
              refine h _ (fun c hc => ?_) rfl (relC_kept r2 (fun j hj => uc_n (by omega)))
              rw [uc_n (by omega)]
              exact f2 c (by omega)
            · rw [rdA, ho] at h
              simp only [cond_false] at h
              exact h σ (fun _ _ => rfl) rfl hr
        · rw [rdX, if_neg hf] at h
          have f39 : ∀ S, S ≤ 40 → inB f 0 (nI S - 1) = false := fun S hS => by
            cases hq : inB f 0 (nI S - 1) with
            | false => rfl
            | true =>
              obtain ⟨j, hj, rfl⟩ := inD (by omega) hq
              exact absurd (inB_nI (j := j) (N := 39) (by omega) (by decide)) hf
          by_cases hn0 : n = 0
          · subst hn0
            refine wd_go ok_D_read [138] 20 (fun R hR => ?_)
            conv => whnf
            try dsimp only
            refine br_t (by decide) ?_
            conv => whnf
            try dsimp only
            refine hR ?_
            refine wd_go ok_D_read [138] 20 (fun R hR => ?_)
            conv => whnf
            try dsimp only
            refine br_t (by decide) ?_
            conv => whnf
            try dsimp only
            rw [if_pos rfl] at h
            refine h _ (fun c hc => ?_) rfl (relC_kept hr (fun j hj => uc_n (by omega)))
            rw [uc_n (by omega)]
          · rw [if_neg hn0] at h
            refine wd_go ok_D_read [36, 135] 30 (fun R hR => ?_)
            conv => whnf
            try dsimp only
            refine br_f (nI_ge (a := 0) (by omega) (by omega)) ?_
            conv => whnf
            try dsimp only
            refine nb_f rfl ?_
            conv => whnf
            try dsimp only
            have e0 : f + 2 * 0 = f := by
              rw [show (2 : Int32) * 0 = 0 by decide, Int32.add_zero]
            rw [e0]
            have hfa : ¬ faA (σ 8 k) (σ 9 k) lane f = 0 := by
              rw [faA, hS, f39 _ hS40]
              split
              · decide
              · split
                · decide
                · decide
            refine hR (k_D_read_60 (Nat.le_of_ble_eq_true rfl) rfl (s_S_faultOfPair (k := k) (by omega) ?_))
            rw [paA, if_neg hfa]
            refine wd_go ok_D_read [36, 135] 30 (fun R hR => ?_)
            conv => whnf
            try dsimp only
            refine nb_t hfa ?_
            conv => whnf
            try dsimp only
            refine hR (l_D_readX hfa (fun l7 => ?_))
            refine wd_go ok_D_read [138] 20 (fun R hR => ?_)
            conv => whnf
            try dsimp only
            refine hR ?_
            refine wd_go ok_D_read [138] 20 (fun R hR => ?_)
            conv => whnf
            try dsimp only
            refine br_t (by decide) ?_
            conv => whnf
            try dsimp only
            refine h _ (fun c hc => ?_) rfl (relC_kept hr (fun j hj => uc_n (by omega)))
            rw [uc_n (by omega)]
end C
