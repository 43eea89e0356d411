/-! SHEET, LAY: both -/
def okSh (k ln n : Int32) : Bool := decide (inB k 0 3 = true ∧ inB ln 0 2 = true ∧ n ≤ 40 ∧ 0 ≤ n)
theorem okS {k ln n : Int32} : okSh k ln n = true ↔ (inB k 0 3 = true ∧ inB ln 0 2 = true ∧ n ≤ 40 ∧ 0 ≤ n) := decide_eq_true_iff
def aSheet (k ln n : Int32) : Int32 := if inB k 0 3 = true ∧ inB ln 0 2 = true ∧ n ≤ 40 then (if n < 0 then -14 else 1) else -1
def z40 (f : wRow) (k i : Nat) : wRow := fun j => if 40 * k ≤ j ∧ j < 40 * k + i then 0 else f j
theorem z40_0 (f : wRow) (k : Nat) : z40 f k 0 = f := by
  funext j
  exact if_neg (by omega)
theorem z40_s (f : wRow) (k i : Nat) : upd (z40 f k i) (40 * k + i) 0 = z40 f k (i + 1) := by
  funext j
  by_cases e : j = 40 * k + i
  · subst e
    rw [upd_s, z40, if_pos (by omega)]
  · rw [upd_n e, z40, z40]
    by_cases h : 40 * k ≤ j ∧ j < 40 * k + i
    · rw [if_pos h, if_pos (by omega)]
    · rw [if_neg h, if_neg (by omega)]
def nrA (ln v : Int32) : Int32 := if ln = 0 then v.toInt8.toInt32 else if ln = 1 then v.toInt16.toInt32 else v
def aLay (k ln sz i : Int32) : Int32 := if inB k 0 3 = true then (if ln = -4 then -11 else if inB i 0 (sz - 1) = true then 1 else -12) else -1
section R
variable {G : wd_G} {τ : wd_T} {Q : wd_P} {σ : wd_S}
theorem s_R_isSheet {k ln : Int32} (h : Q (some (.int (bI (inB k 0 3 && inB ln 0 2)))) σ τ) : Run wR G M_R_isSheet 0 [some (.int k), some (.int ln)] [] σ τ Q := by
  refine wd_go ok_R_isSheet [] 20 (fun R hR => ?_)
  conv => whnf
  try dsimp only
  refine hR (k_R_isSheet_6 (Nat.le_of_ble_eq_true rfl) (s_R_in2 (a := 0) (b := 3) rfl rfl ?_))
  cases hk : inB k 0 3 with
  | false =>
    rw [hk] at h
    refine wd_go ok_R_isSheet [] 20 (fun R hR => ?_)
    conv => whnf
    try dsimp only
    refine br_t rfl ?_
    conv => whnf
    try dsimp only
    exact ⟨Or.inl rfl, h⟩
  | true =>
    rw [hk] at h
    refine wd_go ok_R_isSheet [] 20 (fun R hR => ?_)
    conv => whnf
    try dsimp only
    refine br_f (by decide) ?_
    conv => whnf
    try dsimp only
    refine hR (k_R_isSheet_18 (Nat.le_of_ble_eq_true rfl) (s_R_in2 (a := 0) (b := 2) rfl rfl ?_))
    cases hl : inB ln 0 2 with
    | false =>
      rw [hl] at h
      refine wd_go ok_R_isSheet [] 20 (fun R hR => ?_)
      conv => whnf
      try dsimp only
      refine br_t rfl ?_
      conv => whnf
      try dsimp only
      exact ⟨Or.inl rfl, h⟩
    | true =>
      rw [hl] at h
      refine wd_go ok_R_isSheet [] 20 (fun R hR => ?_)
      conv => whnf
      try dsimp only
      refine br_f (by decide) ?_
      conv => whnf
      try dsimp only
      exact ⟨Or.inr rfl, h⟩
theorem l_R_sheet {k : Nat} {ln n : Int32} (hk : k < 4) (h : Q (some (.int 1)) (wd_uc σ 11 (z40 (σ 11) k 40)) τ) : ∀ (m i : Nat), 40 = i + m → Run wR G M_R_sheet 40 [some (.ref 0), some (.int (nI k)), some (.int ln), some (.int n), some (.int (nI i))] [] (wd_uc σ 11 (z40 (σ 11) k i)) τ Q := by
  intro m
  induction m with
  | zero =>
    intro i hi
    have e : i = 40 := by omega
    subst e
    refine wd_go ok_R_sheet [40] 20 (fun R hR => ?_)
    conv => whnf
    try dsimp only
    refine br_t (by decide) ?_
    conv => whnf
    try dsimp only
    exact h
  | succ m ih =>
    intro i hi
    refine wd_go ok_R_sheet [40] 20 (fun R hR => ?_)
    conv => whnf
    try dsimp only
    rw [il40]
    refine br_f (nI_ge (by omega) (by decide)) ?_
    conv => whnf
    try dsimp only
    rw [il40, pk_mul, nI_add]
    refine ⟨vp_in_nI (by first | decide | omega) (by first | decide | omega), ?_⟩
    conv => whnf
    try dsimp only
    rw [nI_clamp (by omega), uc_s, uc_uc, z40_s]
    refine hR ?_
    have := ih (i + 1) (by omega)
    rw [nI_succ] at this
    exact this
theorem s_R_sheet {k ln n : Int32} (h : Q (some (.int (aSheet k ln n))) (if okSh k ln n = true then wd_uc (wd_uc (wd_uc σ 9 (upd (σ 9) k.toNatClampNeg ln)) 10 (upd (σ 10) k.toNatClampNeg n)) 11 (z40 (σ 11) k.toNatClampNeg 40) else σ) τ) : Run wR G M_R_sheet 0 [some (.ref 0), some (.int k), some (.int ln), some (.int n), none] [] σ τ Q := by
  rw [aSheet] at h
  refine wd_go ok_R_sheet [40] 20 (fun R hR => ?_)
  conv => whnf
  try dsimp only
  refine hR (k_R_sheet_2 (Nat.le_of_ble_eq_true rfl) (s_R_isSheet ?_))
  by_cases hb : inB k 0 3 = true ∧ inB ln 0 2 = true
  · have e : (inB k 0 3 && inB ln 0 2) = true := by rw [hb.1, hb.2]; rfl
    rw [e]
    refine wd_go ok_R_sheet [40] 20 (fun R hR => ?_)
    conv => whnf
    try dsimp only
    refine br_f (by decide) ?_
    conv => whnf
    try dsimp only
    by_cases hn : n ≤ 40
    · rw [if_pos ⟨hb.1, hb.2, hn⟩] at h
      refine br_t hn ?_
      conv => whnf
      try dsimp only
      by_cases h0 : n < 0
      · rw [if_pos h0, if_neg (fun z => absurd (okS.mp z).2.2.2 (Int32.not_le.mpr h0))] at h
        refine br_f (Int32.not_le.mpr h0) ?_
        conv => whnf
        try dsimp only
        exact h
      · rw [if_neg h0, if_pos (okS.mpr ⟨hb.1, hb.2, hn, Int32.not_lt.mp h0⟩)] at h
        refine br_t (Int32.not_lt.mp h0) ?_
        obtain ⟨k, hk, rfl⟩ := inN (N := 3) (by decide) hb.1
        rw [nI_clamp (by omega)] at h
        conv => whnf
        try dsimp only
        refine ⟨vp_in_nI (by first | decide | omega) (by first | decide | omega), ?_⟩
        conv => whnf
        try dsimp only
        refine ⟨vp_in_nI (by first | decide | omega) (by first | decide | omega), ?_⟩
        conv => whnf
        try dsimp only
        rw [nI_clamp (by omega), uc_n (c' := 10) (c := 9) (by decide)]
        have := l_R_sheet (G := G) (τ := τ) (Q := Q) (σ := wd_uc (wd_uc σ 9 (upd (σ 9) k ln)) 10 (upd (σ 10) k n)) (k := k) (ln := ln) (n := n) (by omega) h 40 0 (by omega)
        rw [z40_0, uc_self] at this
        exact hR this
    · rw [if_neg (fun z => hn z.2.2), if_neg (fun z => hn (okS.mp z).2.2.1)] at h
      refine br_f hn ?_
      conv => whnf
      try dsimp only
      exact h
  · have e : (inB k 0 3 && inB ln 0 2) = false := by
      cases h1 : inB k 0 3 with
      | false => rfl
      | true =>
        cases h2 : inB ln 0 2 with
        | false => rfl
        | true => exact absurd ⟨h1, h2⟩ hb
    rw [e]
    rw [if_neg (fun z => hb ⟨z.1, z.2.1⟩), if_neg (fun z => hb ⟨(okS.mp z).1, (okS.mp z).2.1⟩)] at h
    refine wd_go ok_R_sheet [40] 20 (fun R hR => ?_)
    conv => whnf
    try dsimp only
    refine br_t rfl ?_
    conv => whnf
    try dsimp only
    exact h
theorem s_R_lay {k i v : Int32} {S : Nat → Nat} (hsz : ∀ k, k < 4 → σ 10 k = nI (S k) ∧ S k ≤ 40) (h : Q (some (.int (aLay k (σ 9 k.toNatClampNeg) (σ 10 k.toNatClampNeg) i))) (if aLay k (σ 9 k.toNatClampNeg) (σ 10 k.toNatClampNeg) i = 1 then wd_uc σ 11 (upd (σ 11) (40 * k.toNatClampNeg + i.toNatClampNeg) (nrA (σ 9 k.toNatClampNeg) v)) else σ) τ) : Run wR G M_R_lay 0 [some (.ref 0), some (.int k), some (.int i), some (.int v)] [] σ τ Q := by
  rw [aLay] at h
  refine wd_go ok_R_lay [] 20 (fun R hR => ?_)
  conv => whnf
  try dsimp only
  refine hR (k_R_lay_2 (Nat.le_of_ble_eq_true rfl) (s_R_isSheet ?_))
  cases hb : inB k 0 3 with
  | false =>
    rw [hb, if_neg (by decide), if_neg (by decide)] at h
    refine wd_go ok_R_lay [] 20 (fun R hR => ?_)
    conv => whnf
    try dsimp only
    refine nb_f rfl ?_
    conv => whnf
    try dsimp only
    exact h
  | true =>
    rw [hb, if_pos rfl] at h
    obtain ⟨k, hk, rfl⟩ := inN (N := 3) (by decide) hb
    rw [nI_clamp (by omega)] at h
    obtain ⟨hs, hs40⟩ := hsz k (by omega)
    refine wd_go ok_R_lay [] 20 (fun R hR => ?_)
    conv => whnf
    try dsimp only
    refine nb_t (by decide) ?_
    conv => whnf
    try dsimp only
    refine ⟨vp_in_nI (by first | decide | omega) (by first | decide | omega), ?_⟩
    conv => whnf
    try dsimp only
    rw [nI_clamp (by omega)]
    by_cases hz : σ 9 k = -4
    · rw [if_pos hz, if_neg (by decide)] at h
      refine nb_f hz ?_
      conv => whnf
      try dsimp only
      exact h
    · rw [if_neg hz] at h
      refine nb_t hz ?_
      conv => whnf
      try dsimp only
      refine ⟨vp_in_nI (by first | decide | omega) (by first | decide | omega), ?_⟩
      conv => whnf
      try dsimp only
      rw [nI_clamp (by omega)]
      refine hR (k_R_lay_36 (Nat.le_of_ble_eq_true rfl) (s_R_in2 (a := 0) (b := σ 10 k - 1) rfl rfl ?_))
      cases hi : inB i 0 (σ 10 k - 1) with
      | false =>
        rw [hi, if_neg (by decide), if_neg (by decide)] at h
        refine wd_go ok_R_lay [] 30 (fun R hR => ?_)
        conv => whnf
        try dsimp only
        refine nb_f rfl ?_
        conv => whnf
        try dsimp only
        exact h
      | true =>
        rw [hi, if_pos rfl, if_pos rfl] at h
        rw [hs] at hi
        obtain ⟨i, hii, rfl⟩ := inD (by omega) hi
        rw [nI_clamp (by omega)] at h
        rw [nrA] at h
        refine wd_go ok_R_lay [] 30 (fun R hR => ?_)
        conv => whnf
        try dsimp only
        refine nb_t (by decide) ?_
        conv => whnf
        try dsimp only
        refine ⟨vp_in_nI (by first | decide | omega) (by first | decide | omega), ?_⟩
        conv => whnf
        try dsimp only
        rw [nI_clamp (by omega)]
        by_cases l0 : σ 9 k = 0
        · rw [if_pos l0] at h
          refine nb_f l0 ?_
          conv => whnf
          try dsimp only
          rw [il40, pk_mul, nI_add]
          refine ⟨vp_in_nI (by first | decide | omega) (by first | decide | omega), ?_⟩
          conv => whnf
          try dsimp only
          rw [nI_clamp (by omega)]
          exact h
        · rw [if_neg l0] at h
          refine nb_t l0 ?_
          conv => whnf
          try dsimp only
          refine ⟨vp_in_nI (by first | decide | omega) (by first | decide | omega), ?_⟩
          conv => whnf
          try dsimp only
          rw [nI_clamp (by omega)]
          by_cases l1 : σ 9 k = 1
          · rw [if_pos l1] at h
            refine nb_f l1 ?_
            conv => whnf
            try dsimp only
            rw [il40, pk_mul, nI_add]
            refine ⟨vp_in_nI (by first | decide | omega) (by first | decide | omega), ?_⟩
            conv => whnf
            try dsimp only
            rw [nI_clamp (by omega)]
            exact h
          · rw [if_neg l1] at h
            refine nb_t l1 ?_
            conv => whnf
            try dsimp only
            rw [il40, pk_mul, nI_add]
            refine ⟨vp_in_nI (by first | decide | omega) (by first | decide | omega), ?_⟩
            conv => whnf
            try dsimp only
            rw [nI_clamp (by omega)]
            exact h
end R
section C
variable {G : wd_G} {τ : wd_T} {Q : wd_P} {σ : wd_S}
theorem s_D_noSheet {k : Int32} (h : Q (some (.int (bI (!inB k 0 3)))) σ τ) : Run wC G M_D_noSheet 0 [some (.int k)] [] σ τ Q := by
  refine wd_go ok_D_noSheet [] 20 (fun R hR => ?_)
  conv => whnf
  try dsimp only
  refine hR (k_D_noSheet_3 (Nat.le_of_ble_eq_true rfl) (s_D_outside ?_))
  refine wd_go ok_D_noSheet [] 20 (fun R hR => ?_)
  conv => whnf
  try dsimp only
  exact ⟨bI_bit _, h⟩
theorem s_D_noLane {k : Int32} (h : Q (some (.int (bI (!inB k 0 2)))) σ τ) : Run wC G M_D_noLane 0 [some (.int k)] [] σ τ Q := by
  refine wd_go ok_D_noLane [] 20 (fun R hR => ?_)
  conv => whnf
  try dsimp only
  refine hR (k_D_noLane_3 (Nat.le_of_ble_eq_true rfl) (s_D_outside ?_))
  refine wd_go ok_D_noLane [] 20 (fun R hR => ?_)
  conv => whnf
  try dsimp only
  exact ⟨bI_bit _, h⟩
theorem s_renew_0 {ln n : Int32} (h : Q none (wd_uc (wd_uc (wd_uc σ 60 (fil (fun _ => 0) (σ 60) 40)) 8 (upd (σ 8) 0 ln)) 9 (upd (σ 9) 0 n)) τ) : Run wC G M_S_renew 0 [some (.ref 6), some (.int (nI 0)), some (.int ln), some (.int n)] [] σ τ Q := by
  refine wd_go ok_S_renew [] 20 (fun R hR => ?_)
  conv => whnf
  try dsimp only
  refine ⟨vp_in_nI (by first | decide | omega) (by first | decide | omega), ?_⟩
  conv => whnf
  try dsimp only
  refine ⟨fun _ => ?_, ⟨fun e => absurd e (by decide), ⟨fun e => absurd e (by decide), ⟨fun e => absurd e (by decide), trivial⟩⟩⟩⟩
  conv => whnf
  try dsimp only
  refine hR (k_S_renew_7 (Nat.le_of_ble_eq_true rfl) (s_fill_60 ?_))
  refine wd_go ok_S_renew [] 20 (fun R hR => ?_)
  conv => whnf
  try dsimp only
  refine ⟨vp_in_nI (by first | decide | omega) (by first | decide | omega), ?_⟩
  conv => whnf
  try dsimp only
  refine ⟨vp_in_nI (by first | decide | omega) (by first | decide | omega), ?_⟩
  conv => whnf
  try dsimp only
  exact ⟨rfl, h⟩
theorem s_renew_1 {ln n : Int32} (h : Q none (wd_uc (wd_uc (wd_uc σ 61 (fil (fun _ => 0) (σ 61) 40)) 8 (upd (σ 8) 1 ln)) 9 (upd (σ 9) 1 n)) τ) : Run wC G M_S_renew 0 [some (.ref 6), some (.int (nI 1)), some (.int ln), some (.int n)] [] σ τ Q := by
  refine wd_go ok_S_renew [] 20 (fun R hR => ?_)
  conv => whnf
  try dsimp only
  refine ⟨vp_in_nI (by first | decide | omega) (by first | decide | omega), ?_⟩
  conv => whnf
  try dsimp only
  refine ⟨fun e => absurd e (by decide), ⟨fun _ => ?_, ⟨fun e => absurd e (by decide), ⟨fun e => absurd e (by decide), trivial⟩⟩⟩⟩
  conv => whnf
  try dsimp only
  refine hR (k_S_renew_7 (Nat.le_of_ble_eq_true rfl) (s_fill_61 ?_))
  refine wd_go ok_S_renew [] 20 (fun R hR => ?_)
  conv => whnf
  try dsimp only
  refine ⟨vp_in_nI (by first | decide | omega) (by first | decide | omega), ?_⟩
  conv => whnf
  try dsimp only
  refine ⟨vp_in_nI (by first | decide | omega) (by first | decide | omega), ?_⟩
  conv => whnf
  try dsimp only
  exact ⟨rfl, h⟩
theorem s_renew_2 {ln n : Int32} (h : Q none (wd_uc (wd_uc (wd_uc σ 62 (fil (fun _ => 0) (σ 62) 40)) 8 (upd (σ 8) 2 ln)) 9 (upd (σ 9) 2 n)) τ) : Run wC G M_S_renew 0 [some (.ref 6), some (.int (nI 2)), some (.int ln), some (.int n)] [] σ τ Q := by
  refine wd_go ok_S_renew [] 20 (fun R hR => ?_)
  conv => whnf
  try dsimp only
  refine ⟨vp_in_nI (by first | decide | omega) (by first | decide | omega), ?_⟩
  conv => whnf
  try dsimp only
  refine ⟨fun e => absurd e (by decide), ⟨fun e => absurd e (by decide), ⟨fun _ => ?_, ⟨fun e => absurd e (by decide), trivial⟩⟩⟩⟩
  conv => whnf
  try dsimp only
  refine hR (k_S_renew_7 (Nat.le_of_ble_eq_true rfl) (s_fill_62 ?_))
  refine wd_go ok_S_renew [] 20 (fun R hR => ?_)
  conv => whnf
  try dsimp only
  refine ⟨vp_in_nI (by first | decide | omega) (by first | decide | omega), ?_⟩
  conv => whnf
  try dsimp only
  refine ⟨vp_in_nI (by first | decide | omega) (by first | decide | omega), ?_⟩
  conv => whnf
  try dsimp only
  exact ⟨rfl, h⟩
theorem s_renew_3 {ln n : Int32} (h : Q none (wd_uc (wd_uc (wd_uc σ 63 (fil (fun _ => 0) (σ 63) 40)) 8 (upd (σ 8) 3 ln)) 9 (upd (σ 9) 3 n)) τ) : Run wC G M_S_renew 0 [some (.ref 6), some (.int (nI 3)), some (.int ln), some (.int n)] [] σ τ Q := by
  refine wd_go ok_S_renew [] 20 (fun R hR => ?_)
  conv => whnf
  try dsimp only
  refine ⟨vp_in_nI (by first | decide | omega) (by first | decide | omega), ?_⟩
  conv => whnf
  try dsimp only
  refine ⟨fun e => absurd e (by decide), ⟨fun e => absurd e (by decide), ⟨fun e => absurd e (by decide), ⟨fun _ => ?_, trivial⟩⟩⟩⟩
  conv => whnf
  try dsimp only
  refine hR (k_S_renew_7 (Nat.le_of_ble_eq_true rfl) (s_fill_63 ?_))
  refine wd_go ok_S_renew [] 20 (fun R hR => ?_)
  conv => whnf
  try dsimp only
  refine ⟨vp_in_nI (by first | decide | omega) (by first | decide | omega), ?_⟩
  conv => whnf
  try dsimp only
  refine ⟨vp_in_nI (by first | decide | omega) (by first | decide | omega), ?_⟩
  conv => whnf
  try dsimp only
  exact ⟨rfl, h⟩
theorem s_D_sheet {k ln n : Int32} (h : Q (some (.int (aSheet k ln n))) (if okSh k ln n = true then wd_uc (wd_uc (wd_uc σ (60 + k.toNatClampNeg) (fil (fun _ => 0) (σ (60 + k.toNatClampNeg)) 40)) 8 (upd (σ 8) k.toNatClampNeg ln)) 9 (upd (σ 9) k.toNatClampNeg n) else σ) τ) : Run wC G M_D_sheet 0 [some (.ref 0), some (.int k), some (.int ln), some (.int n)] [] σ τ Q := by
  rw [aSheet] at h
  refine wd_go ok_D_sheet [] 20 (fun R hR => ?_)
  conv => whnf
  try dsimp only
  refine hR (k_D_sheet_1 (Nat.le_of_ble_eq_true rfl) (s_D_noSheet ?_))
  cases hk : inB k 0 3 with
  | false =>
    rw [if_neg (fun z => by rw [hk] at z; cases z.1), if_neg (fun z => by have := (okS.mp z).1; rw [hk] at this; cases this)] at h
    refine wd_go ok_D_sheet [] 20 (fun R hR => ?_)
    conv => whnf
    try dsimp only
    refine nb_t (by decide) ?_
    conv => whnf
    try dsimp only
    exact h
  | true =>
    refine wd_go ok_D_sheet [] 20 (fun R hR => ?_)
    conv => whnf
    try dsimp only
    refine nb_f rfl ?_
    conv => whnf
    try dsimp only
    refine hR (k_D_sheet_8 (Nat.le_of_ble_eq_true rfl) (s_D_noLane ?_))
    cases hl : inB ln 0 2 with
    | false =>
      rw [if_neg (fun z => by rw [hl] at z; cases z.2.1), if_neg (fun z => by have := (okS.mp z).2.1; rw [hl] at this; cases this)] at h
      refine wd_go ok_D_sheet [] 20 (fun R hR => ?_)
      conv => whnf
      try dsimp only
      refine nb_t (by decide) ?_
      conv => whnf
      try dsimp only
      exact h
    | true =>
      refine wd_go ok_D_sheet [] 20 (fun R hR => ?_)
      conv => whnf
      try dsimp only
      refine nb_f rfl ?_
      conv => whnf
      try dsimp only
      by_cases hn : n ≤ 40
      · rw [if_pos ⟨hk, hl, hn⟩] at h
        refine br_t hn ?_
        conv => whnf
        try dsimp only
        by_cases h0 : n < 0
        · rw [if_pos h0, if_neg (fun z => absurd (okS.mp z).2.2.2 (Int32.not_le.mpr h0))] at h
          refine br_f (Int32.not_le.mpr h0) ?_
          conv => whnf
          try dsimp only
          exact h
        · rw [if_neg h0, if_pos (okS.mpr ⟨hk, hl, hn, Int32.not_lt.mp h0⟩)] at h
          refine br_t (Int32.not_lt.mp h0) ?_
          obtain ⟨k, hkk, rfl⟩ := inN (N := 3) (by decide) hk
          rw [nI_clamp (by omega)] at h
          match k, hkk with
          | 0, _ =>
            conv => whnf
            try dsimp only
            refine hR (k_D_sheet_36 (Nat.le_of_ble_eq_true rfl) rfl (s_renew_0 ?_))
            refine wd_go ok_D_sheet [] 20 (fun R hR => ?_)
            conv => whnf
            try dsimp only
            exact h
          | 1, _ =>
            conv => whnf
            try dsimp only
            refine hR (k_D_sheet_36 (Nat.le_of_ble_eq_true rfl) rfl (s_renew_1 ?_))
            refine wd_go ok_D_sheet [] 20 (fun R hR => ?_)
            conv => whnf
            try dsimp only
            exact h
          | 2, _ =>
            conv => whnf
            try dsimp only
            refine hR (k_D_sheet_36 (Nat.le_of_ble_eq_true rfl) rfl (s_renew_2 ?_))
            refine wd_go ok_D_sheet [] 20 (fun R hR => ?_)
            conv => whnf
            try dsimp only
            exact h
          | 3, _ =>
            conv => whnf
            try dsimp only
            refine hR (k_D_sheet_36 (Nat.le_of_ble_eq_true rfl) rfl (s_renew_3 ?_))
            refine wd_go ok_D_sheet [] 20 (fun R hR => ?_)
            conv => whnf
            try dsimp only
            exact h
      · rw [if_neg (fun z => hn z.2.2), if_neg (fun z => hn (okS.mp z).2.2.1)] at h
        refine br_f hn ?_
        conv => whnf
        try dsimp only
        exact h
end C
