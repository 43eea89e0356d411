/-! JUDGING: kind, swap, sleep of the reference -/
def jgS (S : Int32 × Int32) (code much : Int32) : Int32 × Int32 := if much < S.2 then (code, much) else S
def jgA (S : Int32 × Int32) (w : Int32) : Int32 := if S.1 = -4 then -4 else if w = 0 then S.1 else S.2
def kdC (P : wRow) (d n k : Nat) : Int32 := (tksA n (stP (upd P (4 * d) (nI k)) (-4))).2.2 14
def kdF (P : wRow) (d n : Nat) : Nat → Int32 × Int32
  | 0 => (-4, 1000000)
  | k + 1 => jgS (kdF P d n k) (nI k) (kdC P d n k)
def aKind (P : wRow) (d n w : Int32) : Int32 := if inB d 0 (P 16 - 1) = true ∧ inB n 0 200 = true ∧ inB w 0 1 = true then jgA (kdF P d.toNatClampNeg n.toNatClampNeg 4) w else -1
def swP (P : wRow) (a b : Nat) : wRow := upd (upd P (17 + a) (P (17 + b))) (17 + b) (P (17 + a))
def swC (P : wRow) (n a b : Nat) : Int32 := (tksA n (stP (swP P a b) (-4))).2.2 14
def swI (P : wRow) (n a : Nat) (S : Int32 × Int32) : Nat → Int32 × Int32
  | 0 => S
  | m + 1 => jgS (swI P n a S m) (100 * nI a + nI (a + 1 + m)) (swC P n a (a + 1 + m))
def baC (P : wRow) (n : Nat) : Int32 := (tksA n (stP P (-4))).2.2 14
def swO (P : wRow) (n : Nat) : Nat → Int32 × Int32
  | 0 => (-4, baC P n)
  | a + 1 => swI P n a (swO P n a) (sN P - (a + 1))
def aSwap (P : wRow) (n w : Int32) : Int32 := if inB n 0 200 = true ∧ inB w 0 1 = true then jgA (swO P n.toNatClampNeg (sN P)) w else -1
def slF (P : wRow) (n : Nat) : Nat → Int32 × Int32
  | 0 => (-4, baC P n)
  | d + 1 => jgS (slF P n d) (nI d) ((tksA n (stP P (nI d))).2.2 14)
def aSleep (P : wRow) (n w : Int32) : Int32 := if inB n 0 200 = true ∧ inB w 0 1 = true then jgA (slF P n.toNatClampNeg (dN P)) w else -1
theorem frR.e1 {a b : wd_S} (h : frR a b) : b 1 = a 1 := h.1 1 (by decide) (by decide) (by decide) (by decide) (by decide)
theorem frR_st {σ : wd_S} {n : Nat} {x b : wRow} : frR σ (mR σ (tksA n (x, b, (stU σ).2.2))) := frR_tks (u := (x, b, (stU σ).2.2)) (fun k hk => stU_o hk)
theorem frR_sl {σ : wd_S} {n : Nat} {x b : wRow} {v : Int32} : frR σ (mR σ (tksA n (x, b, upd (stU σ).2.2 13 v))) := frR_tks (u := (x, b, upd (stU σ).2.2 13 v)) (fun k hk => by
  show upd (stU σ).2.2 13 v k = _
  rw [upd_n (by omega)]
  exact stU_o hk)
section R
variable {G : wd_G} {τ : wd_T} {Q : wd_P}
theorem s_R_startsJudging {σ : wd_S} {m : Int32} (h : ∀ σ', frR σ σ' → (σ' 0 20, σ' 0 21) = ((-4 : Int32), m) → Q none σ' τ) : Run wR G M_R_startsJudging 0 [some (.ref 0), some (.int m)] [] σ τ Q := by
  refine wd_go ok_R_startsJudging [] 20 (fun R hR => ?_)
  conv => whnf
  try dsimp only
  refine ⟨rfl, h _ ⟨fun c h0 _ _ _ _ => ?_, fun k hk => ?_⟩ ?_⟩
  · rw [uc_n h0, uc_n h0]
  · rw [uc_s, upd_n (by omega), uc_s, upd_n (by omega)]
  · rfl
theorem s_R_judges {σ : wd_S} {code much : Int32} (h : ∀ σ', frR σ σ' → (σ' 0 20, σ' 0 21) = jgS (σ 0 20, σ 0 21) code much → Q none σ' τ) : Run wR G M_R_judges 0 [some (.ref 0), some (.int code), some (.int much)] [] σ τ Q := by
  refine wd_go ok_R_judges [] 20 (fun R hR => ?_)
  conv => whnf
  try dsimp only
  by_cases hz : much < σ 0 21
  · refine br_f (Int32.not_le.mpr hz) ?_
    conv => whnf
    try dsimp only
    refine ⟨rfl, h _ ⟨fun c h0 _ _ _ _ => ?_, fun k hk => ?_⟩ ?_⟩
    · rw [uc_n h0, uc_n h0]
    · rw [uc_s, upd_n (by omega), uc_s, upd_n (by omega)]
    · rw [jgS, if_pos hz]
      rfl
  · refine br_t (Int32.not_lt.mp hz) ?_
    conv => whnf
    try dsimp only
    refine ⟨rfl, h σ frR.rf ?_⟩
    rw [jgS, if_neg hz]
theorem s_R_judged {σ : wd_S} {w : Int32} (h : Q (some (.int (jgA (σ 0 20, σ 0 21) w))) σ τ) : Run wR G M_R_judged 0 [some (.ref 0), some (.int w)] [] σ τ Q := by
  refine wd_go ok_R_judged [] 20 (fun R hR => ?_)
  conv => whnf
  try dsimp only
  rw [jgA] at h
  dsimp only at h
  by_cases h1 : σ 0 20 = -4
  · rw [if_pos h1] at h
    refine nb_f h1 ?_
    conv => whnf
    try dsimp only
    exact h
  · rw [if_neg h1] at h
    refine nb_t h1 ?_
    conv => whnf
    try dsimp only
    by_cases h2 : w = 0
    · rw [if_pos h2] at h
      refine nb_f h2 ?_
      conv => whnf
      try dsimp only
      exact h
    · rw [if_neg h2] at h
      refine nb_t h2 ?_
      conv => whnf
      try dsimp only
      exact h
theorem tks_20 {σ : wd_S} {u : wU} {n : Nat} (h20 : u.2.2 20 = σ 0 20) (h21 : u.2.2 21 = σ 0 21) : ((mR σ (tksA n u)) 0 20, (mR σ (tksA n u)) 0 21) = (σ 0 20, σ 0 21) := by
  rw [mR_0, tks_o (by decide) (by decide) (by decide) (by decide) (by decide), tks_o (by decide) (by decide) (by decide) (by decide) (by decide), h20, h21]
theorem l_R_kind {σ0 : wd_S} {d n : Nat} {w : Int32} (hw : wf (σ0 1)) (hd : d < 4) (hn : n < 2 ^ 31) (h : ∀ σ', frR σ0 σ' → Q (some (.int (jgA (kdF (σ0 1) d n 4) w))) σ' τ) : ∀ (m k : Nat) (σ : wd_S), 4 = k + m → (σ 0 20, σ 0 21) = kdF (σ0 1) d n k → frR σ0 σ → Run wR G M_R_kind 33 [some (.ref 0), some (.int (nI d)), some (.int (nI n)), some (.int w), some (.int (nI k))] [] σ τ Q := by
  intro m
  induction m with
  | zero =>
    intro k σ hk hS hf
    have e : k = 4 := by omega
    subst e
    refine wd_go ok_R_kind [33] 20 (fun R hR => ?_)
    conv => whnf
    try dsimp only
    refine br_t (by decide) ?_
    conv => whnf
    try dsimp only
    refine hR (k_R_kind_70 (Nat.le_of_ble_eq_true rfl) rfl (s_R_judged ?_))
    refine wd_go ok_R_kind [33] 20 (fun R hR => ?_)
    conv => whnf
    try dsimp only
    rw [hS]
    exact h σ hf
  | succ m ih =>
    intro k σ hk hS hf
    refine wd_go ok_R_kind [33] 20 (fun R hR => ?_)
    conv => whnf
    try dsimp only
    rw [il4]
    refine br_f (nI_ge (by omega) (by decide)) ?_
    conv => whnf
    try dsimp only
    refine hR (k_R_kind_40 (Nat.le_of_ble_eq_true rfl) rfl (s_R_starts ?_))
    refine wd_go ok_R_kind [33] 20 (fun R hR => ?_)
    conv => whnf
    try dsimp only
    refine hR (k_R_kind_48 (Nat.le_of_ble_eq_true rfl) rfl (s_R_becomesOf (k := 0) hd (by decide) ?_))
    rw [mR_2, mR_w2]
    refine wd_go ok_R_kind [33] 20 (fun R hR => ?_)
    conv => whnf
    try dsimp only
    have hw1 : wf (σ 1) := by rw [hf.e1]; exact hw
    have hwu : wf (upd (stU σ).1 (4 * d + 0) (nI k)) := wf_knd hd (by omega) (stU_wf hw1)
    refine hR (k_R_kind_56 (Nat.le_of_ble_eq_true rfl) rfl (s_R_resetsIn hwu hn ?_))
    refine k_R_kind_59 (st := []) (Nat.le_of_ble_eq_true rfl) rfl (s_R_judges (fun σ' hf' hS' => ?_))
    have q : (tksA n (upd (stU σ).1 (4 * d + 0) (nI k), (stU σ).2.1, (stU σ).2.2)).2.2 14 = kdC (σ0 1) d n k := by
      rw [kdC, ← hf.e1]
      exact (eq_tksA hwu (stU_mod (σ := σ) (j := 4 * d + 0) (v := nI k) (by omega)) n).1.2.2 14 (by decide) (by decide)
    rw [q, tks_20 rfl rfl, hS] at hS'
    refine wd_go ok_R_kind [33] 20 (fun R hR => ?_)
    conv => whnf
    try dsimp only
    refine hR ?_
    have := ih (k + 1) σ' (by omega) hS' (hf.tr (frR_st.tr hf'))
    rw [nI_succ] at this
    exact this
theorem s_R_kind {σ : wd_S} {d n w : Int32} (hw : wf (σ 1)) (h : ∀ σ', frR σ σ' → Q (some (.int (aKind (σ 1) d n w))) σ' τ) : Run wR G M_R_kind 0 [some (.ref 0), some (.int d), some (.int n), some (.int w), none] [] σ τ Q := by
  refine wd_go ok_R_kind [33] 20 (fun R hR => ?_)
  conv => whnf
  try dsimp only
  refine hR (k_R_kind_2 (Nat.le_of_ble_eq_true rfl) rfl (s_R_isDog ?_))
  cases hd : inB d 0 (σ 1 16 - 1) with
  | false =>
    refine wd_go ok_R_kind [33] 20 (fun R hR => ?_)
    conv => whnf
    try dsimp only
    refine br_t rfl ?_
    conv => whnf
    try dsimp only
    have h := h σ frR.rf
    rw [aKind, if_neg (fun z => by rw [hd] at z; cases z.1)] at h
    exact h
  | true =>
    refine wd_go ok_R_kind [33] 20 (fun R hR => ?_)
    conv => whnf
    try dsimp only
    refine br_f (by decide) ?_
    conv => whnf
    try dsimp only
    refine hR (k_R_kind_9 (Nat.le_of_ble_eq_true rfl) (s_R_isFar ?_))
    cases hn : inB n 0 200 with
    | false =>
      refine wd_go ok_R_kind [33] 20 (fun R hR => ?_)
      conv => whnf
      try dsimp only
      refine br_t rfl ?_
      conv => whnf
      try dsimp only
      have h := h σ frR.rf
      rw [aKind, if_neg (fun z => by rw [hn] at z; cases z.2.1)] at h
      exact h
    | true =>
      refine wd_go ok_R_kind [33] 20 (fun R hR => ?_)
      conv => whnf
      try dsimp only
      refine br_f (by decide) ?_
      conv => whnf
      try dsimp only
      refine hR (k_R_kind_16 (Nat.le_of_ble_eq_true rfl) (s_R_isPart ?_))
      cases hp : inB w 0 1 with
      | false =>
        refine wd_go ok_R_kind [33] 20 (fun R hR => ?_)
        conv => whnf
        try dsimp only
        refine nb_f rfl ?_
        conv => whnf
        try dsimp only
        have h := h σ frR.rf
        rw [aKind, if_neg (fun z => by rw [hp] at z; cases z.2.2)] at h
        exact h
      | true =>
        rw [aKind, if_pos ⟨hd, hn, hp⟩] at h
        rw [hw.1.1] at hd
        have hD4 := hw.1.2
        obtain ⟨d, hdd, rfl⟩ := inD (by omega) hd
        obtain ⟨n, hnn, rfl⟩ := inN (N := 200) (by decide) hn
        rw [nI_clamp (by omega), nI_clamp (by omega)] at h
        refine wd_go ok_R_kind [33] 20 (fun R hR => ?_)
        conv => whnf
        try dsimp only
        refine nb_t (by decide) ?_
        conv => whnf
        try dsimp only
        refine hR (k_R_kind_27 (Nat.le_of_ble_eq_true rfl) rfl (s_R_startsJudging (fun σ1 f1 hS => ?_)))
        refine wd_go ok_R_kind [33] 20 (fun R hR => ?_)
        conv => whnf
        try dsimp only
        refine hR (l_R_kind (by rw [f1.e1]; exact hw) (by omega) (by omega) (fun σ' hf' => ?_) 4 0 σ1 (by omega) hS frR.rf)
        rw [f1.e1]
        exact h σ' (f1.tr hf')
theorem stU_sw {σ : wd_S} {a b : Nat} (ha : a < 16) (hb : b < 16) : eqU (upd (upd (stU σ).1 (17 + a) (σ 1 (17 + b))) (17 + b) (σ 1 (17 + a)), (stU σ).2.1, (stU σ).2.2) (stP (swP (σ 1) a b) (-4)) := by
  obtain ⟨h1, h2, h3⟩ := stU_eq σ
  exact ⟨fun k hk => upd_eq (fun _ => upd_eq (fun _ => h1 k hk) rfl) rfl, h2, h3⟩
theorem l_R_swapI {σ0 : wd_S} {n a : Nat} {w : Int32} {S : Int32 × Int32} (hw : wf (σ0 1)) (ha : a < sN (σ0 1)) (hn : n < 2 ^ 31) (h : ∀ σ, frR σ0 σ → (σ 0 20, σ 0 21) = swI (σ0 1) n a S (sN (σ0 1) - (a + 1)) → Run wR G M_R_swap 31 [some (.ref 0), some (.int (nI n)), some (.int w), some (.int (nI (a + 1))), some (.int (nI (sN (σ0 1))))] [] σ τ Q) :
    ∀ (m k : Nat) (σ : wd_S), sN (σ0 1) = a + 1 + k + m → (σ 0 20, σ 0 21) = swI (σ0 1) n a S k → frR σ0 σ → Run wR G M_R_swap 47 [some (.ref 0), some (.int (nI n)), some (.int w), some (.int (nI a)), some (.int (nI (a + 1 + k)))] [] σ τ Q := by
  have hs := hw.2.1.1
  have hs16 := hw.2.1.2
  have e33 : ∀ {σ : wd_S}, frR σ0 σ → σ 1 (Int32.toNatClampNeg 33) = nI (sN (σ0 1)) := fun {σ} hf => by
    rw [hf.e1]
    exact hs
  intro m
  induction m with
  | zero =>
    intro k σ hk hS hf
    have e : a + 1 + k = sN (σ0 1) := by omega
    have e' : k = sN (σ0 1) - (a + 1) := by omega
    refine wd_go ok_R_swap [31, 47] 20 (fun R hR => ?_)
    conv => whnf
    try dsimp only
    refine ⟨vp_in_nI (by first | decide | omega) (by first | decide | omega), ?_⟩
    conv => whnf
    try dsimp only
    rw [e33 hf]
    refine br_t (nI_le (by omega) (by omega)) ?_
    conv => whnf
    try dsimp only
    refine hR ?_
    have := h σ hf (e' ▸ hS)
    rw [e]
    rw [nI_succ] at this
    exact this
  | succ m ih =>
    intro k σ hk hS hf
    have hw1 : wf (σ 1) := by rw [hf.e1]; exact hw
    refine wd_go ok_R_swap [31, 47] 20 (fun R hR => ?_)
    conv => whnf
    try dsimp only
    refine ⟨vp_in_nI (by first | decide | omega) (by first | decide | omega), ?_⟩
    conv => whnf
    try dsimp only
    rw [e33 hf]
    refine br_f (nI_ge (by omega) (by omega)) ?_
    conv => whnf
    try dsimp only
    refine hR (k_R_swap_60 (Nat.le_of_ble_eq_true rfl) rfl (s_R_starts ?_))
    refine wd_go ok_R_swap [31, 47] 60 (fun R hR => ?_)
    conv => whnf
    try dsimp only
    rw [il17, nI_add]
    refine ⟨vp_in_nI (by first | decide | omega) (by first | decide | omega), ?_⟩
    conv => whnf
    try dsimp only
    rw [nI_add]
    refine ⟨vp_in_nI (by first | decide | omega) (by first | decide | omega), ?_⟩
    conv => whnf
    try dsimp only
    rw [il17, nI_add]
    refine ⟨vp_in_nI (by first | decide | omega) (by first | decide | omega), ?_⟩
    conv => whnf
    try dsimp only
    rw [nI_add]
    refine ⟨vp_in_nI (by first | decide | omega) (by first | decide | omega), ?_⟩
    conv => whnf
    try dsimp only
    rw [nI_clamp (by omega), nI_clamp (by omega), mR_n (c := 1) (by decide) (by decide) (by decide), mR_2, mR_w2, mR_n (c := 1) (by decide) (by decide) (by decide), mR_2, mR_w2]
    dsimp only
    have hwu : wf (upd (upd (stU σ).1 (17 + a) (σ 1 (17 + (a + 1 + k)))) (17 + (a + 1 + k)) (σ 1 (17 + a))) := wf_sgn (by omega) (wf_sgn (by omega) (stU_wf hw1))
    refine hR (k_R_swap_111 (Nat.le_of_ble_eq_true rfl) rfl (s_R_resetsIn hwu hn ?_))
    refine k_R_swap_114 (st := []) (Nat.le_of_ble_eq_true rfl) rfl (s_R_judges (fun σ' hf' hS' => ?_))
    have q : (tksA n (upd (upd (stU σ).1 (17 + a) (σ 1 (17 + (a + 1 + k)))) (17 + (a + 1 + k)) (σ 1 (17 + a)), (stU σ).2.1, (stU σ).2.2)).2.2 14 = swC (σ0 1) n a (a + 1 + k) := by
      rw [swC, ← hf.e1]
      exact (eq_tksA hwu (stU_sw (by omega) (by omega)) n).1.2.2 14 (by decide) (by decide)
    rw [q, tks_20 rfl rfl, hS] at hS'
    refine wd_go ok_R_swap [31, 47] 20 (fun R hR => ?_)
    conv => whnf
    try dsimp only
    refine hR ?_
    have := ih (k + 1) σ' (by omega) hS' (hf.tr (frR_st.tr hf'))
    rw [← Nat.add_assoc, nI_succ (n := a + 1 + k)] at this
    exact this
theorem l_R_swap {σ0 : wd_S} {n : Nat} {w : Int32} (hw : wf (σ0 1)) (hn : n < 2 ^ 31) (h : ∀ σ', frR σ0 σ' → Q (some (.int (jgA (swO (σ0 1) n (sN (σ0 1))) w))) σ' τ) :
    ∀ (m a : Nat) (σ : wd_S) (l4 : Option Value), sN (σ0 1) = a + m → (σ 0 20, σ 0 21) = swO (σ0 1) n a → frR σ0 σ → Run wR G M_R_swap 31 [some (.ref 0), some (.int (nI n)), some (.int w), some (.int (nI a)), l4] [] σ τ Q := by
  have hs := hw.2.1.1
  have hs16 := hw.2.1.2
  have e33 : ∀ {σ : wd_S}, frR σ0 σ → σ 1 (Int32.toNatClampNeg 33) = nI (sN (σ0 1)) := fun {σ} hf => by
    rw [hf.e1]
    exact hs
  intro m
  induction m with
  | zero =>
    intro a σ l4 ha hS hf
    have e : a = sN (σ0 1) := by omega
    refine wd_go ok_R_swap [31, 47] 20 (fun R hR => ?_)
    conv => whnf
    try dsimp only
    refine ⟨vp_in_nI (by first | decide | omega) (by first | decide | omega), ?_⟩
    conv => whnf
    try dsimp only
    rw [e33 hf]
    refine br_t (nI_le (by omega) (by omega)) ?_
    conv => whnf
    try dsimp only
    refine hR (k_R_swap_131 (Nat.le_of_ble_eq_true rfl) rfl (s_R_judged ?_))
    refine wd_go ok_R_swap [31, 47] 20 (fun R hR => ?_)
    conv => whnf
    try dsimp only
    rw [hS, e]
    exact h σ hf
  | succ m ih =>
    intro a σ l4 ha hS hf
    refine wd_go ok_R_swap [31, 47] 20 (fun R hR => ?_)
    conv => whnf
    try dsimp only
    refine ⟨vp_in_nI (by first | decide | omega) (by first | decide | omega), ?_⟩
    conv => whnf
    try dsimp only
    rw [e33 hf]
    refine br_f (nI_ge (by omega) (by omega)) ?_
    conv => whnf
    try dsimp only
    rw [il1, nI_add]
    refine hR (l_R_swapI (S := swO (σ0 1) n a) hw (by omega) hn (fun σ' hf' hS' => ?_) (m) 0 σ (by omega) hS hf)
    exact ih (a + 1) σ' _ (by omega) hS' hf'
theorem stU_ba {σ : wd_S} {n : Nat} (hw : wf (σ 1)) : (tksA n (stU σ)).2.2 14 = baC (σ 1) n := (eq_tksA (stU_wf hw) (stU_eq σ) n).1.2.2 14 (by decide) (by decide)
theorem s_R_swap {σ : wd_S} {n w : Int32} (hw : wf (σ 1)) (h : ∀ σ', frR σ σ' → Q (some (.int (aSwap (σ 1) n w))) σ' τ) : Run wR G M_R_swap 0 [some (.ref 0), some (.int n), some (.int w), none, none] [] σ τ Q := by
  refine wd_go ok_R_swap [31, 47] 20 (fun R hR => ?_)
  conv => whnf
  try dsimp only
  refine hR (k_R_swap_1 (Nat.le_of_ble_eq_true rfl) (s_R_isFar ?_))
  cases hn : inB n 0 200 with
  | false =>
    refine wd_go ok_R_swap [31, 47] 20 (fun R hR => ?_)
    conv => whnf
    try dsimp only
    refine br_t rfl ?_
    conv => whnf
    try dsimp only
    have h := h σ frR.rf
    rw [aSwap, if_neg (fun z => by rw [hn] at z; cases z.1)] at h
    exact h
  | true =>
    refine wd_go ok_R_swap [31, 47] 20 (fun R hR => ?_)
    conv => whnf
    try dsimp only
    refine br_f (by decide) ?_
    conv => whnf
    try dsimp only
    refine hR (k_R_swap_8 (Nat.le_of_ble_eq_true rfl) (s_R_isPart ?_))
    cases hp : inB w 0 1 with
    | false =>
      refine wd_go ok_R_swap [31, 47] 20 (fun R hR => ?_)
      conv => whnf
      try dsimp only
      refine nb_f rfl ?_
      conv => whnf
      try dsimp only
      have h := h σ frR.rf
      rw [aSwap, if_neg (fun z => by rw [hp] at z; cases z.2)] at h
      exact h
    | true =>
      rw [aSwap, if_pos ⟨hn, hp⟩] at h
      obtain ⟨n, hnn, rfl⟩ := inN (N := 200) (by decide) hn
      rw [nI_clamp (by omega)] at h
      refine wd_go ok_R_swap [31, 47] 20 (fun R hR => ?_)
      conv => whnf
      try dsimp only
      refine nb_t (by decide) ?_
      conv => whnf
      try dsimp only
      refine hR (k_R_swap_17 (Nat.le_of_ble_eq_true rfl) rfl (s_R_starts ?_))
      refine wd_go ok_R_swap [31, 47] 20 (fun R hR => ?_)
      conv => whnf
      try dsimp only
      refine hR (k_R_swap_23 (Nat.le_of_ble_eq_true rfl) rfl (s_R_resetsIn (stU_wf hw) (by omega) ?_))
      refine k_R_swap_26 (st := []) (Nat.le_of_ble_eq_true rfl) rfl (s_R_startsJudging (fun σ1 f1 hS => ?_))
      have f0 : frR σ σ1 := (frR_tks (n := n) (u := stU σ) (fun k hk => stU_o hk)).tr f1
      rw [stU_ba hw] at hS
      refine wd_go ok_R_swap [31, 47] 20 (fun R hR => ?_)
      conv => whnf
      try dsimp only
      refine hR (l_R_swap (n := n) (by rw [f0.e1]; exact hw) (by omega) (fun σ' hf' => ?_) (sN (σ1 1)) 0 σ1 none (by omega) ?_ frR.rf)
      · rw [f0.e1]
        exact h σ' (f0.tr hf')
      · rw [hS, f0.e1]
        rfl
theorem stU_sl {σ : wd_S} {x : Int32} : eqU ((stU σ).1, (stU σ).2.1, upd (stU σ).2.2 13 x) (stP (σ 1) x) := by
  obtain ⟨h1, h2, h3⟩ := stU_eq σ
  refine ⟨h1, h2, fun k hk hk' => ?_⟩
  show upd (stU σ).2.2 13 x k = (if k = 13 then x else 0)
  by_cases e : k = 13
  · subst e
    rw [upd_s, if_pos rfl]
  · have := h3 k hk hk'
    rw [upd_n e, if_neg e, this]
    exact if_neg e
theorem l_R_sleep {σ0 : wd_S} {n : Nat} {w : Int32} (hw : wf (σ0 1)) (hn : n < 2 ^ 31) (h : ∀ σ', frR σ0 σ' → Q (some (.int (jgA (slF (σ0 1) n (dN (σ0 1))) w))) σ' τ) :
    ∀ (m a : Nat) (σ : wd_S), dN (σ0 1) = a + m → (σ 0 20, σ 0 21) = slF (σ0 1) n a → frR σ0 σ → Run wR G M_R_sleep 31 [some (.ref 0), some (.int (nI n)), some (.int w), some (.int (nI a))] [] σ τ Q := by
  have hs := hw.1.1
  have hs16 := hw.1.2
  have e16 : ∀ {σ : wd_S}, frR σ0 σ → σ 1 (Int32.toNatClampNeg 16) = nI (dN (σ0 1)) := fun {σ} hf => by
    rw [hf.e1]
    exact hs
  intro m
  induction m with
  | zero =>
    intro a σ ha hS hf
    have e : a = dN (σ0 1) := by omega
    refine wd_go ok_R_sleep [31] 20 (fun R hR => ?_)
    conv => whnf
    try dsimp only
    refine ⟨vp_in_nI (by first | decide | omega) (by first | decide | omega), ?_⟩
    conv => whnf
    try dsimp only
    rw [e16 hf]
    refine br_t (nI_le (by omega) (by omega)) ?_
    conv => whnf
    try dsimp only
    refine hR (k_R_sleep_69 (Nat.le_of_ble_eq_true rfl) rfl (s_R_judged ?_))
    refine wd_go ok_R_sleep [31] 20 (fun R hR => ?_)
    conv => whnf
    try dsimp only
    rw [hS, e]
    exact h σ hf
  | succ m ih =>
    intro a σ ha hS hf
    have hw1 : wf (σ 1) := by rw [hf.e1]; exact hw
    refine wd_go ok_R_sleep [31] 20 (fun R hR => ?_)
    conv => whnf
    try dsimp only
    refine ⟨vp_in_nI (by first | decide | omega) (by first | decide | omega), ?_⟩
    conv => whnf
    try dsimp only
    rw [e16 hf]
    refine br_f (nI_ge (by omega) (by omega)) ?_
    conv => whnf
    try dsimp only
    refine hR (k_R_sleep_43 (Nat.le_of_ble_eq_true rfl) rfl (s_R_starts ?_))
    refine wd_go ok_R_sleep [31] 20 (fun R hR => ?_)
    conv => whnf
    try dsimp only
    rw [mR_0, mR_w0]
    refine hR (k_R_sleep_55 (Nat.le_of_ble_eq_true rfl) rfl (s_R_resetsIn (u := ((stU σ).1, (stU σ).2.1, upd (stU σ).2.2 13 (nI a))) (stU_wf hw1) hn ?_))
    refine k_R_sleep_58 (st := []) (Nat.le_of_ble_eq_true rfl) rfl (s_R_judges (fun σ' hf' hS' => ?_))
    have q : (tksA n ((stU σ).1, (stU σ).2.1, upd (stU σ).2.2 13 (nI a))).2.2 14 = (tksA n (stP (σ0 1) (nI a))).2.2 14 := by
      rw [← hf.e1]
      exact (eq_tksA (u := ((stU σ).1, (stU σ).2.1, upd (stU σ).2.2 13 (nI a))) (stU_wf hw1) stU_sl n).1.2.2 14 (by decide) (by decide)
    rw [q, tks_20 rfl rfl, hS] at hS'
    refine wd_go ok_R_sleep [31] 20 (fun R hR => ?_)
    conv => whnf
    try dsimp only
    refine hR ?_
    have := ih (a + 1) σ' (by omega) hS' (hf.tr (frR_sl.tr hf'))
    rw [nI_succ] at this
    exact this
theorem s_R_sleep {σ : wd_S} {n w : Int32} (hw : wf (σ 1)) (h : ∀ σ', frR σ σ' → Q (some (.int (aSleep (σ 1) n w))) σ' τ) : Run wR G M_R_sleep 0 [some (.ref 0), some (.int n), some (.int w), none] [] σ τ Q := by
  refine wd_go ok_R_sleep [31] 20 (fun R hR => ?_)
  conv => whnf
  try dsimp only
  refine hR (k_R_sleep_1 (Nat.le_of_ble_eq_true rfl) (s_R_isFar ?_))
  cases hn : inB n 0 200 with
  | false =>
    refine wd_go ok_R_sleep [31] 20 (fun R hR => ?_)
    conv => whnf
    try dsimp only
    refine br_t rfl ?_
    conv => whnf
    try dsimp only
    have h := h σ frR.rf
    rw [aSleep, if_neg (fun z => by rw [hn] at z; cases z.1)] at h
    exact h
  | true =>
    refine wd_go ok_R_sleep [31] 20 (fun R hR => ?_)
    conv => whnf
    try dsimp only
    refine br_f (by decide) ?_
    conv => whnf
    try dsimp only
    refine hR (k_R_sleep_8 (Nat.le_of_ble_eq_true rfl) (s_R_isPart ?_))
    cases hp : inB w 0 1 with
    | false =>
      refine wd_go ok_R_sleep [31] 20 (fun R hR => ?_)
      conv => whnf
      try dsimp only
      refine nb_f rfl ?_
      conv => whnf
      try dsimp only
      have h := h σ frR.rf
      rw [aSleep, if_neg (fun z => by rw [hp] at z; cases z.2)] at h
      exact h
    | true =>
      rw [aSleep, if_pos ⟨hn, hp⟩] at h
      obtain ⟨n, hnn, rfl⟩ := inN (N := 200) (by decide) hn
      rw [nI_clamp (by omega)] at h
      refine wd_go ok_R_sleep [31] 20 (fun R hR => ?_)
      conv => whnf
      try dsimp only
      refine nb_t (by decide) ?_
      conv => whnf
      try dsimp only
      refine hR (k_R_sleep_17 (Nat.le_of_ble_eq_true rfl) rfl (s_R_starts ?_))
      refine wd_go ok_R_sleep [31] 20 (fun R hR => ?_)
      conv => whnf
      try dsimp only
      refine hR (k_R_sleep_23 (Nat.le_of_ble_eq_true rfl) rfl (s_R_resetsIn (stU_wf hw) (by omega) ?_))
      refine k_R_sleep_26 (st := []) (Nat.le_of_ble_eq_true rfl) rfl (s_R_startsJudging (fun σ1 f1 hS => ?_))
      have f0 : frR σ σ1 := (frR_tks (n := n) (u := stU σ) (fun k hk => stU_o hk)).tr f1
      rw [stU_ba hw] at hS
      refine wd_go ok_R_sleep [31] 20 (fun R hR => ?_)
      conv => whnf
      try dsimp only
      refine hR (l_R_sleep (n := n) (by rw [f0.e1]; exact hw) (by omega) (fun σ' hf' => ?_) (dN (σ1 1)) 0 σ1 (by omega) ?_ frR.rf)
      · rw [f0.e1]
        exact h σ' (f0.tr hf')
      · rw [hS, f0.e1]
        rfl
end R
