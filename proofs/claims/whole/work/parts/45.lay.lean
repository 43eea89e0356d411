/-! LAY: the class; the faults of a cell -/
def faA (ln sz lane i : Int32) : Int32 := if ln = -4 then 1 else if ln = lane then (if inB i 0 (sz - 1) = true then 0 else 2) else 3
def paA (ln sz lane i : Int32) : Int32 := if faA ln sz lane i = 0 then faA ln sz lane (i + 1) else faA ln sz lane i
section C
variable {G : wd_G} {τ : wd_T} {Q : wd_P} {σ : wd_S}
theorem s_S_faultOf {k : Nat} {lane i : Int32} (hk : k < 4) (h : Q (some (.int (faA (σ 8 k) (σ 9 k) lane i))) σ τ) : Run wC G M_S_faultOf 0 [some (.ref 6), some (.int (nI k)), some (.int lane), some (.int i)] [] σ τ Q := by
  rw [faA] at h
  refine wd_go ok_S_faultOf [] 20 (fun R hR => ?_)
  conv => whnf
  try dsimp only
  refine ⟨vp_in_nI (by first | decide | omega) (by first | decide | omega), ?_⟩
  conv => whnf
  try dsimp only
  rw [nI_clamp (by omega)]
  by_cases hz : σ 8 k = -4
  · rw [if_pos hz] at h
    refine nb_f hz ?_
    conv => whnf
    try dsimp only
    exact h
  · rw [if_neg hz] at h
    refine nb_t hz ?_
    conv => whnf
    try dsimp only
    refine ⟨vp_in_nI (by first | decide | omega) (by first | decide | omega), ?_⟩
    conv => whnf
    try dsimp only
    rw [nI_clamp (by omega)]
    by_cases hl : σ 8 k = lane
    · rw [if_pos hl] at h
      refine br_t hl ?_
      conv => whnf
      try dsimp only
      refine ⟨vp_in_nI (by first | decide | omega) (by first | decide | omega), ?_⟩
      conv => whnf
      try dsimp only
      rw [nI_clamp (by omega)]
      refine hR (k_S_faultOf_35 (Nat.le_of_ble_eq_true rfl) (s_D_outside ?_))
      cases hi : inB i 0 (σ 9 k - 1) with
      | true =>
        rw [hi, if_pos rfl] at h
        refine wd_go ok_S_faultOf [] 20 (fun R hR => ?_)
        conv => whnf
        try dsimp only
        refine br_t rfl ?_
        conv => whnf
        try dsimp only
        exact h
      | false =>
        rw [hi, if_neg (by decide)] at h
        refine wd_go ok_S_faultOf [] 20 (fun R hR => ?_)
        conv => whnf
        try dsimp only
        refine br_f (by decide) ?_
        conv => whnf
        try dsimp only
        exact h
    · rw [if_neg hl] at h
      refine br_f hl ?_
      conv => whnf
      try dsimp only
      exact h
theorem s_S_faultOfPair {k : Nat} {lane i : Int32} (hk : k < 4) (h : Q (some (.int (paA (σ 8 k) (σ 9 k) lane i))) σ τ) : Run wC G M_S_faultOfPair 0 [some (.ref 6), some (.int (nI k)), some (.int lane), some (.int i), none] [] σ τ Q := by
  rw [paA] at h
  refine wd_go ok_S_faultOfPair [] 20 (fun R hR => ?_)
  conv => whnf
  try dsimp only
  refine hR (k_S_faultOfPair_4 (Nat.le_of_ble_eq_true rfl) rfl (s_S_faultOf hk ?_))
  refine wd_go ok_S_faultOfPair [] 20 (fun R hR => ?_)
  conv => whnf
  try dsimp only
  by_cases hz : faA (σ 8 k) (σ 9 k) lane i = 0
  · rw [if_pos hz] at h
    refine br_t hz ?_
    conv => whnf
    try dsimp only
    refine hR (k_S_faultOfPair_25 (Nat.le_of_ble_eq_true rfl) rfl (s_S_faultOf hk ?_))
    refine wd_go ok_S_faultOfPair [] 20 (fun R hR => ?_)
    conv => whnf
    try dsimp only
    exact h
  · rw [if_neg hz] at h
    refine br_f hz ?_
    conv => whnf
    try dsimp only
    exact h
theorem s_write_0 {i : Nat} {v : Int32} (hi : i < 40) (h : Q none (wd_uc σ 60 (upd (σ 60) i (nrA (σ 8 0) v))) τ) : Run wC G M_S_write 0 [some (.ref 6), some (.int (nI 0)), some (.int (nI i)), some (.int v)] [] σ τ Q := by
  rw [nrA] at h
  refine wd_go ok_S_write [] 20 (fun R hR => ?_)
  conv => whnf
  try dsimp only
  refine ⟨vp_in_nI (by first | decide | omega) (by first | decide | omega), ?_⟩
  conv => whnf
  try dsimp only
  by_cases l0 : σ 8 0 = 0
  · rw [if_pos l0] at h
    refine br_t l0 ?_
    conv => whnf
    try dsimp only
    refine ⟨vp_in_nI (by first | decide | omega) (by first | decide | omega), ?_⟩
    conv => whnf
    try dsimp only
    refine ⟨fun _ => ?_, ⟨fun e => absurd e (by decide), ⟨fun e => absurd e (by decide), ⟨fun e => absurd e (by decide), trivial⟩⟩⟩⟩
    conv => whnf
    try dsimp only
    refine ⟨vp_in_nI (by first | decide | omega) (by first | decide | omega), ?_⟩
    conv => whnf
    try dsimp only
    rw [nI_clamp (by omega)]
    exact ⟨rfl, h⟩
  · rw [if_neg l0] at h
    refine br_f l0 ?_
    conv => whnf
    try dsimp only
    by_cases l1 : σ 8 0 = 1
    · rw [if_pos l1] at h
      refine br_t l1 ?_
      conv => whnf
      try dsimp only
      refine ⟨vp_in_nI (by first | decide | omega) (by first | decide | omega), ?_⟩
      conv => whnf
      try dsimp only
      refine ⟨fun _ => ?_, ⟨fun e => absurd e (by decide), ⟨fun e => absurd e (by decide), ⟨fun e => absurd e (by decide), trivial⟩⟩⟩⟩
      conv => whnf
      try dsimp only
      refine ⟨vp_in_nI (by first | decide | omega) (by first | decide | omega), ?_⟩
      conv => whnf
      try dsimp only
      rw [nI_clamp (by omega)]
      exact ⟨rfl, h⟩
    · rw [if_neg l1] at h
      refine br_f l1 ?_
      conv => whnf
      try dsimp only
      refine ⟨vp_in_nI (by first | decide | omega) (by first | decide | omega), ?_⟩
      conv => whnf
      try dsimp only
      refine ⟨fun _ => ?_, ⟨fun e => absurd e (by decide), ⟨fun e => absurd e (by decide), ⟨fun e => absurd e (by decide), trivial⟩⟩⟩⟩
      conv => whnf
      try dsimp only
      refine ⟨vp_in_nI (by first | decide | omega) (by first | decide | omega), ?_⟩
      conv => whnf
      try dsimp only
      rw [nI_clamp (by omega)]
      exact ⟨rfl, h⟩
theorem s_write_1 {i : Nat} {v : Int32} (hi : i < 40) (h : Q none (wd_uc σ 61 (upd (σ 61) i (nrA (σ 8 1) v))) τ) : Run wC G M_S_write 0 [some (.ref 6), some (.int (nI 1)), some (.int (nI i)), some (.int v)] [] σ τ Q := by
  rw [nrA] at h
  refine wd_go ok_S_write [] 20 (fun R hR => ?_)
  conv => whnf
  try dsimp only
  refine ⟨vp_in_nI (by first | decide | omega) (by first | decide | omega), ?_⟩
  conv => whnf
  try dsimp only
  by_cases l0 : σ 8 1 = 0
  · rw [if_pos l0] at h
    refine br_t l0 ?_
    conv => whnf
    try dsimp only
    refine ⟨vp_in_nI (by first | decide | omega) (by first | decide | omega), ?_⟩
    conv => whnf
    try dsimp only
    refine ⟨fun e => absurd e (by decide), ⟨fun _ => ?_, ⟨fun e => absurd e (by decide), ⟨fun e => absurd e (by decide), trivial⟩⟩⟩⟩
    conv => whnf
    try dsimp only
    refine ⟨vp_in_nI (by first | decide | omega) (by first | decide | omega), ?_⟩
    conv => whnf
    try dsimp only
    rw [nI_clamp (by omega)]
    exact ⟨rfl, h⟩
  · rw [if_neg l0] at h
    refine br_f l0 ?_
    conv => whnf
    try dsimp only
    by_cases l1 : σ 8 1 = 1
    · rw [if_pos l1] at h
      refine br_t l1 ?_
      conv => whnf
      try dsimp only
      refine ⟨vp_in_nI (by first | decide | omega) (by first | decide | omega), ?_⟩
      conv => whnf
      try dsimp only
      refine ⟨fun e => absurd e (by decide), ⟨fun _ => ?_, ⟨fun e => absurd e (by decide), ⟨fun e => absurd e (by decide), trivial⟩⟩⟩⟩
      conv => whnf
      try dsimp only
      refine ⟨vp_in_nI (by first | decide | omega) (by first | decide | omega), ?_⟩
      conv => whnf
      try dsimp only
      rw [nI_clamp (by omega)]
      exact ⟨rfl, h⟩
    · rw [if_neg l1] at h
      refine br_f l1 ?_
      conv => whnf
      try dsimp only
      refine ⟨vp_in_nI (by first | decide | omega) (by first | decide | omega), ?_⟩
      conv => whnf
      try dsimp only
      refine ⟨fun e => absurd e (by decide), ⟨fun _ => ?_, ⟨fun e => absurd e (by decide), ⟨fun e => absurd e (by decide), trivial⟩⟩⟩⟩
      conv => whnf
      try dsimp only
      refine ⟨vp_in_nI (by first | decide | omega) (by first | decide | omega), ?_⟩
      conv => whnf
      try dsimp only
      rw [nI_clamp (by omega)]
      exact ⟨rfl, h⟩
theorem s_write_2 {i : Nat} {v : Int32} (hi : i < 40) (h : Q none (wd_uc σ 62 (upd (σ 62) i (nrA (σ 8 2) v))) τ) : Run wC G M_S_write 0 [some (.ref 6), some (.int (nI 2)), some (.int (nI i)), some (.int v)] [] σ τ Q := by
  rw [nrA] at h
  refine wd_go ok_S_write [] 20 (fun R hR => ?_)
  conv => whnf
  try dsimp only
  refine ⟨vp_in_nI (by first | decide | omega) (by first | decide | omega), ?_⟩
  conv => whnf
  try dsimp only
  by_cases l0 : σ 8 2 = 0
  · rw [if_pos l0] at h
    refine br_t l0 ?_
    conv => whnf
    try dsimp only
    refine ⟨vp_in_nI (by first | decide | omega) (by first | decide | omega), ?_⟩
    conv => whnf
    try dsimp only
    refine ⟨fun e => absurd e (by decide), ⟨fun e => absurd e (by decide), ⟨fun _ => ?_, ⟨fun e => absurd e (by decide), trivial⟩⟩⟩⟩
    conv => whnf
    try dsimp only
    refine ⟨vp_in_nI (by first | decide | omega) (by first | decide | omega), ?_⟩
    conv => whnf
    try dsimp only
    rw [nI_clamp (by omega)]
    exact ⟨rfl, h⟩
  · rw [if_neg l0] at h
    refine br_f l0 ?_
    conv => whnf
    try dsimp only
    by_cases l1 : σ 8 2 = 1
    · rw [if_pos l1] at h
      refine br_t l1 ?_
      conv => whnf
      try dsimp only
      refine ⟨vp_in_nI (by first | decide | omega) (by first | decide | omega), ?_⟩
      conv => whnf
      try dsimp only
      refine ⟨fun e => absurd e (by decide), ⟨fun e => absurd e (by decide), ⟨fun _ => ?_, ⟨fun e => absurd e (by decide), trivial⟩⟩⟩⟩
      conv => whnf
      try dsimp only
      refine ⟨vp_in_nI (by first | decide | omega) (by first | decide | omega), ?_⟩
      conv => whnf
      try dsimp only
      rw [nI_clamp (by omega)]
      exact ⟨rfl, h⟩
    · rw [if_neg l1] at h
      refine br_f l1 ?_
      conv => whnf
      try dsimp only
      refine ⟨vp_in_nI (by first | decide | omega) (by first | decide | omega), ?_⟩
      conv => whnf
      try dsimp only
      refine ⟨fun e => absurd e (by decide), ⟨fun e => absurd e (by decide), ⟨fun _ => ?_, ⟨fun e => absurd e (by decide), trivial⟩⟩⟩⟩
      conv => whnf
      try dsimp only
      refine ⟨vp_in_nI (by first | decide | omega) (by first | decide | omega), ?_⟩
      conv => whnf
      try dsimp only
      rw [nI_clamp (by omega)]
      exact ⟨rfl, h⟩
theorem s_write_3 {i : Nat} {v : Int32} (hi : i < 40) (h : Q none (wd_uc σ 63 (upd (σ 63) i (nrA (σ 8 3) v))) τ) : Run wC G M_S_write 0 [some (.ref 6), some (.int (nI 3)), some (.int (nI i)), some (.int v)] [] σ τ Q := by
  rw [nrA] at h
  refine wd_go ok_S_write [] 20 (fun R hR => ?_)
  conv => whnf
  try dsimp only
  refine ⟨vp_in_nI (by first | decide | omega) (by first | decide | omega), ?_⟩
  conv => whnf
  try dsimp only
  by_cases l0 : σ 8 3 = 0
  · rw [if_pos l0] at h
    refine br_t l0 ?_
    conv => whnf
    try dsimp only
    refine ⟨vp_in_nI (by first | decide | omega) (by first | decide | omega), ?_⟩
    conv => whnf
    try dsimp only
    refine ⟨fun e => absurd e (by decide), ⟨fun e => absurd e (by decide), ⟨fun e => absurd e (by decide), ⟨fun _ => ?_, trivial⟩⟩⟩⟩
    conv => whnf
    try dsimp only
    refine ⟨vp_in_nI (by first | decide | omega) (by first | decide | omega), ?_⟩
    conv => whnf
    try dsimp only
    rw [nI_clamp (by omega)]
    exact ⟨rfl, h⟩
  · rw [if_neg l0] at h
    refine br_f l0 ?_
    conv => whnf
    try dsimp only
    by_cases l1 : σ 8 3 = 1
    · rw [if_pos l1] at h
      refine br_t l1 ?_
      conv => whnf
      try dsimp only
      refine ⟨vp_in_nI (by first | decide | omega) (by first | decide | omega), ?_⟩
      conv => whnf
      try dsimp only
      refine ⟨fun e => absurd e (by decide), ⟨fun e => absurd e (by decide), ⟨fun e => absurd e (by decide), ⟨fun _ => ?_, trivial⟩⟩⟩⟩
      conv => whnf
      try dsimp only
      refine ⟨vp_in_nI (by first | decide | omega) (by first | decide | omega), ?_⟩
      conv => whnf
      try dsimp only
      rw [nI_clamp (by omega)]
      exact ⟨rfl, h⟩
    · rw [if_neg l1] at h
      refine br_f l1 ?_
      conv => whnf
      try dsimp only
      refine ⟨vp_in_nI (by first | decide | omega) (by first | decide | omega), ?_⟩
      conv => whnf
      try dsimp only
      refine ⟨fun e => absurd e (by decide), ⟨fun e => absurd e (by decide), ⟨fun e => absurd e (by decide), ⟨fun _ => ?_, trivial⟩⟩⟩⟩
      conv => whnf
      try dsimp only
      refine ⟨vp_in_nI (by first | decide | omega) (by first | decide | omega), ?_⟩
      conv => whnf
      try dsimp only
      rw [nI_clamp (by omega)]
      exact ⟨rfl, h⟩
theorem s_D_lay {k i v : Int32} {S : Nat → Nat} (hsz : ∀ k, k < 4 → σ 9 k = nI (S k) ∧ S k ≤ 40) (h : Q (some (.int (aLay k (σ 8 k.toNatClampNeg) (σ 9 k.toNatClampNeg) i))) (if aLay k (σ 8 k.toNatClampNeg) (σ 9 k.toNatClampNeg) i = 1 then wd_uc σ (60 + k.toNatClampNeg) (upd (σ (60 + k.toNatClampNeg)) i.toNatClampNeg (nrA (σ 8 k.toNatClampNeg) v)) else σ) τ) : Run wC G M_D_lay 0 [some (.ref 0), some (.int k), some (.int i), some (.int v), none] [] σ τ Q := by
  rw [aLay] at h
  refine wd_go ok_D_lay [] 20 (fun R hR => ?_)
  conv => whnf
  try dsimp only
  refine hR (k_D_lay_1 (Nat.le_of_ble_eq_true rfl) (s_D_noSheet ?_))
  cases hb : inB k 0 3 with
  | false =>
    rw [hb, if_neg (by decide), if_neg (by decide)] at h
    refine wd_go ok_D_lay [] 20 (fun R hR => ?_)
    conv => whnf
    try dsimp only
    refine br_f (by decide) ?_
    conv => whnf
    try dsimp only
    exact h
  | true =>
    rw [hb, if_pos rfl] at h
    obtain ⟨k, hk, rfl⟩ := inN (N := 3) (by decide) hb
    rw [nI_clamp (by omega)] at h
    obtain ⟨hs, hs40⟩ := hsz k (by omega)
    refine wd_go ok_D_lay [] 20 (fun R hR => ?_)
    conv => whnf
    try dsimp only
    refine br_t rfl ?_
    conv => whnf
    try dsimp only
    refine ⟨vp_in_nI (by first | decide | omega) (by first | decide | omega), ?_⟩
    conv => whnf
    try dsimp only
    rw [nI_clamp (by omega)]
    refine hR (k_D_lay_24 (Nat.le_of_ble_eq_true rfl) rfl (s_S_faultOf (by omega) ?_))
    rw [faA, if_pos (rfl : σ 8 k = σ 8 k)]
    by_cases hz : σ 8 k = -4
    · rw [if_pos hz, if_neg (by decide)] at h
      rw [if_pos hz]
      refine wd_go ok_D_lay [] 20 (fun R hR => ?_)
      conv => whnf
      try dsimp only
      refine br_f (by decide) ?_
      conv => whnf
      try dsimp only
      exact h
    · rw [if_neg hz] at h
      rw [if_neg hz]
      cases hi : inB i 0 (σ 9 k - 1) with
      | false =>
        rw [hi, if_neg (by decide), if_neg (by decide)] at h
        rw [if_neg (by decide)]
        refine wd_go ok_D_lay [] 20 (fun R hR => ?_)
        conv => whnf
        try dsimp only
        refine br_f (by decide) ?_
        conv => whnf
        try dsimp only
        exact h
      | true =>
        rw [hi, if_pos rfl, if_pos rfl] at h
        rw [if_pos rfl]
        rw [hs] at hi
        obtain ⟨i, hii, rfl⟩ := inD (by omega) hi
        rw [nI_clamp (by omega)] at h
        refine wd_go ok_D_lay [] 20 (fun R hR => ?_)
        conv => whnf
        try dsimp only
        refine br_t rfl ?_
        match k, hk with
        | 0, _ =>
          conv => whnf
          try dsimp only
          refine hR (k_D_lay_47 (Nat.le_of_ble_eq_true rfl) rfl (s_write_0 (by omega) ?_))
          refine wd_go ok_D_lay [] 20 (fun R hR => ?_)
          conv => whnf
          try dsimp only
          exact h
        | 1, _ =>
          conv => whnf
          try dsimp only
          refine hR (k_D_lay_47 (Nat.le_of_ble_eq_true rfl) rfl (s_write_1 (by omega) ?_))
          refine wd_go ok_D_lay [] 20 (fun R hR => ?_)
          conv => whnf
          try dsimp only
          exact h
        | 2, _ =>
          conv => whnf
          try dsimp only
          refine hR (k_D_lay_47 (Nat.le_of_ble_eq_true rfl) rfl (s_write_2 (by omega) ?_))
          refine wd_go ok_D_lay [] 20 (fun R hR => ?_)
          conv => whnf
          try dsimp only
          exact h
        | 3, _ =>
          conv => whnf
          try dsimp only
          refine hR (k_D_lay_47 (Nat.le_of_ble_eq_true rfl) rfl (s_write_3 (by omega) ?_))
          refine wd_go ok_D_lay [] 20 (fun R hR => ?_)
          conv => whnf
          try dsimp only
          exact h
end C
