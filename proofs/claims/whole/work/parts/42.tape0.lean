/-! FEED, END, FAULT, TORN: both -/
def aFeed (L : Nat) (c : Int32) : Int32 := if inB c 0 127 = true then (if L = 160 then -3 else nI (L + 1)) else -1
section R
variable {G : wd_G} {τ : wd_T} {Q : wd_P} {σ : wd_S}
theorem s_R_feed {L : Nat} {c : Int32} (hL : σ 0 6 = nI L) (hL2 : L ≤ 160) (h : Q (some (.int (aFeed L c))) (if inB c 0 127 = true ∧ L < 160 then wd_uc (wd_uc σ 5 (upd (σ 5) L c)) 0 (upd (σ 0) 6 (nI (L + 1))) else σ) τ) : Run wR G M_R_feed 0 [some (.ref 0), some (.int c)] [] σ τ Q := by
  rw [aFeed] at h
  refine wd_go ok_R_feed [] 20 (fun R hR => ?_)
  conv => whnf
  try dsimp only
  refine hR (k_R_feed_6 (Nat.le_of_ble_eq_true rfl) (s_R_in2 (a := 0) (b := 127) rfl rfl ?_))
  cases hv : inB c 0 127 with
  | false =>
    refine wd_go ok_R_feed [] 20 (fun R hR => ?_)
    conv => whnf
    try dsimp only
    refine nb_f rfl ?_
    conv => whnf
    try dsimp only
    rw [if_neg (by rw [hv]; decide), if_neg (fun z => by rw [hv] at z; cases z.1)] at h
    exact h
  | true =>
    rw [if_pos hv] at h
    refine wd_go ok_R_feed [] 30 (fun R hR => ?_)
    conv => whnf
    try dsimp only
    refine nb_t (by decide) ?_
    conv => whnf
    try dsimp only
    rw [hL]
    by_cases hz : L = 160
    · rw [if_pos hz, if_neg (fun z => by omega)] at h
      refine nb_f (by rw [hz]; rfl) ?_
      conv => whnf
      try dsimp only
      exact h
    · rw [if_neg hz, if_pos ⟨hv, by omega⟩] at h
      refine nb_t (fun z => hz ?_) ?_
      · exact (nI_eq (by omega) (by decide)).mp z
      conv => whnf
      try dsimp only
      rw [hL]
      refine ⟨vp_in_nI (by first | decide | omega) (by first | decide | omega), ?_⟩
      conv => whnf
      try dsimp only
      rw [nI_clamp (by omega)]
      simp only [uc_s, upd_s]
      rw [uc_n (c' := 0) (c := 5) (by decide), hL, ← nI_succ]
      exact h
theorem s_R_end {L : Nat} {n : Int32} (hL : σ 0 6 = nI L) (h : Q (some (.int (if inB n 0 (nI L) = true then nI L else -1))) (if inB n 0 (nI L) = true then wd_uc σ 0 (upd (σ 0) 6 n) else σ) τ) : Run wR G M_R_end 0 [some (.ref 0), some (.int n), none] [] σ τ Q := by
  refine wd_go ok_R_end [] 20 (fun R hR => ?_)
  conv => whnf
  try dsimp only
  rw [hL]
  refine hR (k_R_end_8 (Nat.le_of_ble_eq_true rfl) (s_R_in2 (a := 0) (b := nI L) rfl rfl ?_))
  cases hv : inB n 0 (nI L) with
  | false =>
    refine wd_go ok_R_end [] 20 (fun R hR => ?_)
    conv => whnf
    try dsimp only
    refine nb_f rfl ?_
    conv => whnf
    try dsimp only
    rw [hv, if_neg (by decide), if_neg (by decide)] at h
    exact h
  | true =>
    rw [hv, if_pos rfl, if_pos rfl] at h
    refine wd_go ok_R_end [] 30 (fun R hR => ?_)
    conv => whnf
    try dsimp only
    refine nb_t (by decide) ?_
    conv => whnf
    try dsimp only
    rw [hL]
    exact h
theorem s_R_fault (h : Q (some (.int (σ 0 11))) σ τ) : Run wR G M_R_fault 0 [some (.ref 0)] [] σ τ Q := by
  refine wd_go ok_R_fault [] 20 (fun R hR => ?_)
  conv => whnf
  try dsimp only
  exact h
theorem s_R_torn (h : Q (some (.int (σ 0 30))) σ τ) : Run wR G M_R_torn 0 [some (.ref 0)] [] σ τ Q := by
  refine wd_go ok_R_torn [] 20 (fun R hR => ?_)
  conv => whnf
  try dsimp only
  exact h
end R
section C
variable {G : wd_G} {τ : wd_T} {Q : wd_P} {σ : wd_S}
theorem byt {b : Nat} (hb : b < 128) : (nI b).toInt8.toInt32 = nI b := co_dec (N := 128) (P := fun b => (nI b).toInt8.toInt32 = nI b) (by decide +kernel) hb
theorem s_D_feed {L : Nat} {c : Int32} (hL : σ 4 2 = nI L) (hL2 : L ≤ 160) (h : Q (some (.int (aFeed L c))) (if inB c 0 127 = true ∧ L < 160 then wd_uc (wd_uc σ 5 (upd (σ 5) L c)) 4 (upd (σ 4) 2 (nI (L + 1))) else σ) τ) : Run wC G M_D_feed 0 [some (.ref 0), some (.int c)] [] σ τ Q := by
  rw [aFeed] at h
  refine wd_go ok_D_feed [] 20 (fun R hR => ?_)
  conv => whnf
  try dsimp only
  refine hR (k_D_feed_4 (Nat.le_of_ble_eq_true rfl) (s_D_outside ?_))
  cases hv : inB c 0 127 with
  | false =>
    refine wd_go ok_D_feed [] 20 (fun R hR => ?_)
    conv => whnf
    try dsimp only
    refine br_f (by decide) ?_
    conv => whnf
    try dsimp only
    rw [if_neg (by rw [hv]; decide), if_neg (fun z => by rw [hv] at z; cases z.1)] at h
    exact h
  | true =>
    rw [if_pos hv] at h
    obtain ⟨b, hb, rfl⟩ := inN (N := 127) (by decide) hv
    refine wd_go ok_D_feed [] 30 (fun R hR => ?_)
    conv => whnf
    try dsimp only
    refine br_t rfl ?_
    conv => whnf
    try dsimp only
    rw [hL]
    by_cases hz : L = 160
    · rw [if_pos hz, if_neg (fun z => by omega)] at h
      refine br_f (by rw [hz]; decide) ?_
      conv => whnf
      try dsimp only
      exact h
    · rw [if_neg hz, if_pos ⟨hv, by omega⟩] at h
      refine br_t (nI_lt (b := 160) (by omega) (by decide)) ?_
      conv => whnf
      try dsimp only
      rw [hL, byt (by omega)]
      refine ⟨vp_in_nI (by first | decide | omega) (by first | decide | omega), ?_⟩
      conv => whnf
      try dsimp only
      rw [nI_clamp (by omega), vp_nar_byte, byt (by omega)]
      simp only [uc_s, upd_s]
      rw [uc_n (c' := 4) (c := 5) (by decide), hL, ← nI_succ]
      exact h
theorem s_D_end {L : Nat} {n : Int32} (hL : σ 4 2 = nI L) (h : Q (some (.int (if inB n 0 (nI L) = true then nI L else -1))) (if inB n 0 (nI L) = true then wd_uc σ 4 (upd (σ 4) 2 n) else σ) τ) : Run wC G M_D_end 0 [some (.ref 0), some (.int n), none] [] σ τ Q := by
  refine wd_go ok_D_end [] 20 (fun R hR => ?_)
  conv => whnf
  try dsimp only
  rw [hL]
  refine hR (k_D_end_9 (Nat.le_of_ble_eq_true rfl) (s_D_outside ?_))
  cases hv : inB n 0 (nI L) with
  | false =>
    refine wd_go ok_D_end [] 20 (fun R hR => ?_)
    conv => whnf
    try dsimp only
    refine br_f (by decide) ?_
    conv => whnf
    try dsimp only
    rw [hv, if_neg (by decide), if_neg (by decide)] at h
    exact h
  | true =>
    rw [hv, if_pos rfl, if_pos rfl] at h
    refine wd_go ok_D_end [] 30 (fun R hR => ?_)
    conv => whnf
    try dsimp only
    refine br_t rfl ?_
    conv => whnf
    try dsimp only
    rw [hL]
    exact h
theorem s_D_fault (h : Q (some (.int (σ 4 3))) σ τ) : Run wC G M_D_fault 0 [some (.ref 0)] [] σ τ Q := by
  refine wd_go ok_D_fault [] 20 (fun R hR => ?_)
  conv => whnf
  try dsimp only
  exact h
theorem s_D_torn (h : Q (some (.int (σ 0 6))) σ τ) : Run wC G M_D_torn 0 [some (.ref 0)] [] σ τ Q := by
  refine wd_go ok_D_torn [] 20 (fun R hR => ?_)
  conv => whnf
  try dsimp only
  exact h
end C
