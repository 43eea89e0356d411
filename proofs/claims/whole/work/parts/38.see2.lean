/-! ASK: the reference -/
section R
variable {G : wd_G} {τ : wd_T} {Q : wd_P}
theorem s_R_startsJudging8 {σ : wd_S} {m : Int32} (h : ∀ σ', frR σ σ' → σ' 8 = σ 8 → (σ' 0 20, σ' 0 21) = ((-4 : Int32), m) → Q none σ' τ) : Run wR G M_R_startsJudging 0 [some (.ref 0), some (.int m)] [] σ τ Q := by
  refine wd_go ok_R_startsJudging [] 20 (fun R hR => ?_)
  conv => whnf
  try dsimp only
  refine ⟨rfl, h _ ⟨fun c h0 _ _ _ _ => ?_, fun k hk => ?_⟩ rfl ?_⟩
  · rw [uc_n h0, uc_n h0]
  · rw [uc_s, upd_n (by omega), uc_s, upd_n (by omega)]
  · rfl
theorem s_R_judges8 {σ : wd_S} {code much : Int32} (h : ∀ σ', frR σ σ' → σ' 8 = σ 8 → (σ' 0 20, σ' 0 21) = jgS (σ 0 20, σ 0 21) code much → Q none σ' τ) : Run wR G M_R_judges 0 [some (.ref 0), some (.int code), some (.int much)] [] σ τ Q := by
  refine wd_go ok_R_judges [] 20 (fun R hR => ?_)
  conv => whnf
  try dsimp only
  by_cases hz : much < σ 0 21
  · refine br_f (Int32.not_le.mpr hz) ?_
    conv => whnf
    try dsimp only
    refine ⟨rfl, h _ ⟨fun c h0 _ _ _ _ => ?_, fun k hk => ?_⟩ rfl ?_⟩
    · rw [uc_n h0, uc_n h0]
    · rw [uc_s, upd_n (by omega), uc_s, upd_n (by omega)]
    · rw [jgS, if_pos hz]
      rfl
  · refine br_t (Int32.not_lt.mp hz) ?_
    conv => whnf
    try dsimp only
    refine ⟨rfl, h σ frR.rf rfl ?_⟩
    rw [jgS, if_neg hz]
theorem frR.u8 {σ s : wd_S} {f : wRow} (h : frR σ s) : frR σ (wd_uc s 8 f) := ⟨fun c h0 h2 h6 h7 h8 => (uc_n h8).trans (h.1 c h0 h2 h6 h7 h8), fun k hk => (show wd_uc s 8 f 0 k = s 0 k from rfl).trans (h.2 k hk)⟩
theorem l_R_ask1 {σ : wd_S} {d w : Int32} (h : Run wR G M_R_ask 43 [some (.ref 0), some (.int d), some (.int w), some (.int 0), some (.int (nI 41)), none] [] (wd_uc σ 8 (fil (fun _ => 0) (σ 8) 41)) τ Q) : ∀ (m i : Nat), 41 = i + m → Run wR G M_R_ask 22 [some (.ref 0), some (.int d), some (.int w), some (.int 0), some (.int (nI i)), none] [] (wd_uc σ 8 (fil (fun _ => 0) (σ 8) i)) τ Q := by
  intro m
  induction m with
  | zero =>
    intro i hi
    have e : i = 41 := by omega
    subst e
    refine wd_go ok_R_ask [22, 43] 20 (fun R hR => ?_)
    conv => whnf
    try dsimp only
    refine br_t (by decide) ?_
    conv => whnf
    try dsimp only
    exact hR h
  | succ m ih =>
    intro i hi
    refine wd_go ok_R_ask [22, 43] 20 (fun R hR => ?_)
    conv => whnf
    try dsimp only
    rw [il40]
    refine br_f (nI_nlt (by omega) (by decide)) ?_
    conv => whnf
    try dsimp only
    refine ⟨vp_in_nI (by first | decide | omega) (by first | decide | omega), ?_⟩
    conv => whnf
    try dsimp only
    rw [nI_clamp (by omega), uc_s, uc_uc]
    refine hR ?_
    have := ih (i + 1) (by omega)
    rw [nI_succ, ← fil_s] at this
    exact this
theorem l_R_ask3 {σ0 σ : wd_S} {B : Nat → Nat} {b : Nat → Bool} {d w v m3 : Int32} (h7 : ∀ t, t < 41 → σ 7 t = bI (b t)) (h8 : ∀ t, t < 41 → σ 8 t = nI (B t)) (h : ∀ σ', frR σ σ' → (∀ t, t < 41 → σ' 8 t = nI (B t + (b t).toNat)) → Run wR G M_R_ask 97 [some (.ref 0), some (.int d), some (.int w), some (.int m3), some (.int v), some (.int (nI 41))] [] σ' τ Q) : ∀ (m i : Nat), 41 = i + m → Run wR G M_R_ask 67 [some (.ref 0), some (.int d), some (.int w), some (.int m3), some (.int v), some (.int (nI i))] [] (wd_uc σ 8 (fil (fun t => nI (B t + (b t).toNat)) (σ 8) i)) τ Q := by
  intro m
  induction m with
  | zero =>
    intro i hi
    have e : i = 41 := by omega
    subst e
    refine wd_go ok_R_ask [67, 97] 20 (fun R hR => ?_)
    conv => whnf
    try dsimp only
    refine br_t (by decide) ?_
    conv => whnf
    try dsimp only
    refine hR (h _ frR.rf.u8 (fun t ht => ?_))
    rw [uc_s, fil_lt ht]
  | succ m ih =>
    intro i hi
    refine wd_go ok_R_ask [67, 97] 20 (fun R hR => ?_)
    conv => whnf
    try dsimp only
    rw [il40]
    refine br_f (nI_nlt (by omega) (by decide)) ?_
    conv => whnf
    try dsimp only
    refine ⟨vp_in_nI (by first | decide | omega) (by first | decide | omega), ?_⟩
    conv => whnf
    try dsimp only
    refine ⟨vp_in_nI (by first | decide | omega) (by first | decide | omega), ?_⟩
    conv => whnf
    try dsimp only
    refine ⟨vp_in_nI (by first | decide | omega) (by first | decide | omega), ?_⟩
    conv => whnf
    try dsimp only
    have e1 : (wd_uc σ 8 (fil (fun t => nI (B t + (b t).toNat)) (σ 8) i)) 8 i + (wd_uc σ 8 (fil (fun t => nI (B t + (b t).toNat)) (σ 8) i)) 7 i = nI (B i + (b i).toNat) := by
      rw [uc_s, fil, if_neg (by omega), h8 i (by omega), uc_n (by decide), h7 i (by omega)]
      cases b i
      · show nI (B i) + nI 0 = _
        rw [nI_add]
        rfl
      · show nI (B i) + nI 1 = _
        rw [nI_add]
        rfl
    rw [nI_clamp (by omega), e1, uc_s, uc_uc, fil_s (fun t => nI (B t + (b t).toNat))]
    refine hR ?_
    have := ih (i + 1) (by omega)
    rw [nI_succ] at this
    exact this
theorem l_R_ask2 {σ0 : wd_S} {d : Nat} {w : Int32} (hw : wf (σ0 1)) (hd : d < 4) (h : ∀ σ l5, frR σ0 σ → (∀ t, t < 41 → σ 8 t = nI (asB (σ0 1) d t 20)) → Run wR G M_R_ask 106 [some (.ref 0), some (.int (nI d)), some (.int w), some (.int (nI (asM (σ0 1) d 20))), some (.int (nI 21)), l5] [] σ τ Q) : ∀ (m k : Nat) (σ : wd_S) (l5 : Option Value), 20 = k + m → frR σ0 σ → (∀ t, t < 41 → σ 8 t = nI (asB (σ0 1) d t k)) → Run wR G M_R_ask 46 [some (.ref 0), some (.int (nI d)), some (.int w), some (.int (nI (asM (σ0 1) d k))), some (.int (nI (1 + k))), l5] [] σ τ Q := by
  intro m
  induction m with
  | zero =>
    intro k σ l5 hk hf h8
    have e : k = 20 := by omega
    subst e
    refine wd_go ok_R_ask [46, 106] 20 (fun R hR => ?_)
    conv => whnf
    try dsimp only
    refine br_t (by decide) ?_
    conv => whnf
    try dsimp only
    exact hR (h σ l5 hf h8)
  | succ m ih =>
    intro k σ l5 hk hf h8
    have hw1 : wf (σ 1) := by rw [hf.e1]; exact hw
    refine wd_go ok_R_ask [46, 106] 20 (fun R hR => ?_)
    conv => whnf
    try dsimp only
    rw [il20]
    refine br_f (nI_nlt (by omega) (by decide)) ?_
    conv => whnf
    try dsimp only
    refine hR (k_R_ask_58 (Nat.le_of_ble_eq_true rfl) rfl (s_R_isSoWith (w := 1) hw1 (wf_w hw1 hd (by omega)) hd (by decide) (fun σ' f' g8 g7 => ?_)))
    rw [hf.e1] at g7 ⊢
    have nxt : ∀ σ2 l5, frR σ' σ2 → (∀ t, t < 41 → σ2 8 t = nI (asB (σ0 1) d t (k + 1))) → Run wR G M_R_ask 46 [some (.ref 0), some (.int (nI d)), some (.int w), some (.int (nI (asM (σ0 1) d (k + 1)))), some (.int (nI (1 + k) + 1)), l5] [] σ2 τ Q := by
      intro σ2 l5 f2 h82
      rw [← nI_succ]
      exact ih (k + 1) σ2 l5 (by omega) (hf.tr (f'.tr f2)) h82
    have a1 : asM (σ0 1) d (k + 1) = asM (σ0 1) d k + (isSo (σ0 1) (upd (σ0 1) (4 * d + 1) (nI (1 + k)))).toNat := rfl
    cases hb : isSo (σ0 1) (upd (σ0 1) (4 * d + 1) (nI (1 + k))) with
    | false =>
      rw [a1, hb] at nxt
      refine wd_go ok_R_ask [46, 67] 20 (fun R hR => ?_)
      conv => whnf
      try dsimp only
      refine br_t rfl ?_
      conv => whnf
      try dsimp only
      refine fL_to ?_
      conv => whnf
      try dsimp only
      refine hR (nxt σ' l5 frR.rf (fun t ht => ?_))
      rw [asB, hb, g8]
      exact h8 t ht
    | true =>
      rw [a1, hb] at nxt
      refine wd_go ok_R_ask [46, 67] 20 (fun R hR => ?_)
      conv => whnf
      try dsimp only
      refine br_f (by decide) ?_
      conv => whnf
      try dsimp only
      have key := l_R_ask3 (G := G) (τ := τ) (Q := Q) (σ0 := σ') (σ := σ') (B := fun t => asB (σ0 1) d t k) (b := fun t => rsB (upd (σ0 1) (4 * d + 1) (nI (1 + k))) t) (d := nI d) (w := w) (v := nI (1 + k)) (m3 := nI (asM (σ0 1) d k)) g7 (fun t ht => by rw [g8]; exact h8 t ht) (fun σ2 f2 h82 => ?_) 41 0 (by omega)
      · rw [fil_0, uc_self] at key
        exact hR key
      · refine wd_go ok_R_ask [46] 20 (fun R hR => ?_)
        conv => whnf
        try dsimp only
        refine hR ?_
        have := nxt σ2 (some (.int (nI 41))) f2 (fun t ht => by rw [asB, hb, Bool.true_and]; exact h82 t ht)
        rw [Bool.toNat_true, nI_succ] at this
        exact this
theorem max_is {b m : Nat} (h : b ≤ m) (hm : m < 2 ^ 30) : (if nI b ≤ nI m - nI b then nI m - nI b else nI b) = nI (max b (m - b)) := by
  rw [pk_sub h]
  by_cases hz : b ≤ m - b
  · rw [if_pos (nI_le hz (by omega)), Nat.max_eq_right hz]
  · rw [if_neg (nI_ge (by omega) (by omega)), Nat.max_eq_left (by omega)]
theorem l_R_ask4 {σ0 : wd_S} {d : Nat} {w : Int32} {l5 : Option Value} (h : ∀ σ', frR σ0 σ' → Q (some (.int (jgA (asJ (σ0 1) d 41) w))) σ' τ) : ∀ (m t : Nat) (σ : wd_S), 41 = t + m → frR σ0 σ → (∀ t, t < 41 → σ 8 t = nI (asB (σ0 1) d t 20)) → (σ 0 20, σ 0 21) = asJ (σ0 1) d t → Run wR G M_R_ask 114 [some (.ref 0), some (.int (nI d)), some (.int w), some (.int (nI (asM (σ0 1) d 20))), some (.int (nI t)), l5] [] σ τ Q := by
  intro m
  induction m with
  | zero =>
    intro t σ ht hf h8 hS
    have e : t = 41 := by omega
    subst e
    refine wd_go ok_R_ask [114] 20 (fun R hR => ?_)
    conv => whnf
    try dsimp only
    refine br_t (by decide) ?_
    conv => whnf
    try dsimp only
    refine hR (k_R_ask_173 (Nat.le_of_ble_eq_true rfl) rfl (s_R_judged ?_))
    refine wd_go ok_R_ask [114] 20 (fun R hR => ?_)
    conv => whnf
    try dsimp only
    rw [hS]
    exact h σ hf
  | succ m ih =>
    intro t σ ht hf h8 hS
    have ha := as_le (P := σ0 1) (d := d) (t := t) 20
    have hm := max_is ha.1 (by omega)
    refine wd_go ok_R_ask [114] 40 (fun R hR => ?_)
    conv => whnf
    try dsimp only
    rw [il40]
    refine br_f (nI_nlt (by omega) (by decide)) ?_
    conv => whnf
    try dsimp only
    refine ⟨vp_in_nI (by first | decide | omega) (by first | decide | omega), ?_⟩
    conv => whnf
    try dsimp only
    refine ⟨vp_in_nI (by first | decide | omega) (by first | decide | omega), ?_⟩
    conv => whnf
    try dsimp only
    rw [nI_clamp (by omega), h8 t (by omega)]
    have nxt : ∀ x, x = nI (max (asB (σ0 1) d t 20) (asM (σ0 1) d 20 - asB (σ0 1) d t 20)) → Run wR G M_R_ask 162 [some (.ref 0), some (.int (nI d)), some (.int w), some (.int (nI (asM (σ0 1) d 20))), some (.int (nI t)), l5] [.int x, .int (nI t), .ref 0] σ τ Q := by
      intro x hx
      refine k_R_ask_162 (st := []) (Nat.le_of_ble_eq_true rfl) rfl (s_R_judges8 (fun σ' f' g8 hS' => ?_))
      rw [hS, hx] at hS'
      refine wd_go ok_R_ask [114] 20 (fun R hR => ?_)
      conv => whnf
      try dsimp only
      refine fL_to ?_
      conv => whnf
      try dsimp only
      refine hR ?_
      have := ih (t + 1) σ' (by omega) (hf.tr f') (by rw [g8]; exact h8) hS'
      rw [nI_succ] at this
      exact this
    by_cases hz : nI (asB (σ0 1) d t 20) ≤ nI (asM (σ0 1) d 20) - nI (asB (σ0 1) d t 20)
    · rw [if_pos hz] at hm
      refine br_t hz ?_
      conv => whnf
      try dsimp only
      refine ⟨vp_in_nI (by first | decide | omega) (by first | decide | omega), ?_⟩
      conv => whnf
      try dsimp only
      rw [nI_clamp (by omega), h8 t (by omega)]
      exact hR (nxt _ hm)
    · rw [if_neg hz] at hm
      refine br_f hz ?_
      conv => whnf
      try dsimp only
      refine ⟨vp_in_nI (by first | decide | omega) (by first | decide | omega), ?_⟩
      conv => whnf
      try dsimp only
      rw [nI_clamp (by omega), h8 t (by omega)]
      exact hR (nxt _ hm)
theorem s_R_ask {σ : wd_S} {d w : Int32} (hw : wf (σ 1)) (h : ∀ σ', frR σ σ' → Q (some (.int (aAsk (σ 1) d w))) σ' τ) : Run wR G M_R_ask 0 [some (.ref 0), some (.int d), some (.int w), none, none, none] [] σ τ Q := by
  rw [aAsk] at h
  refine wd_go ok_R_ask [22] 20 (fun R hR => ?_)
  conv => whnf
  try dsimp only
  refine hR (k_R_ask_2 (Nat.le_of_ble_eq_true rfl) rfl (s_R_isDog ?_))
  cases hd : inB d 0 (σ 1 16 - 1) with
  | false =>
    refine wd_go ok_R_ask [22] 20 (fun R hR => ?_)
    conv => whnf
    try dsimp only
    refine br_t rfl ?_
    conv => whnf
    try dsimp only
    rw [if_neg (fun z => by rw [hd] at z; cases z.1)] at h
    exact h σ frR.rf
  | true =>
    refine wd_go ok_R_ask [22] 20 (fun R hR => ?_)
    conv => whnf
    try dsimp only
    refine br_f (by decide) ?_
    conv => whnf
    try dsimp only
    refine hR (k_R_ask_9 (Nat.le_of_ble_eq_true rfl) (s_R_isPart ?_))
    cases hp : inB w 0 1 with
    | false =>
      refine wd_go ok_R_ask [22] 20 (fun R hR => ?_)
      conv => whnf
      try dsimp only
      refine nb_f rfl ?_
      conv => whnf
      try dsimp only
      rw [if_neg (fun z => by rw [hp] at z; cases z.2)] at h
      exact h σ frR.rf
    | true =>
      rw [if_pos ⟨hd, hp⟩] at h
      rw [hw.1.1] at hd
      have hD4 := hw.1.2
      obtain ⟨d, hdd, rfl⟩ := inD (by omega) hd
      rw [nI_clamp (by omega)] at h
      refine wd_go ok_R_ask [22] 20 (fun R hR => ?_)
      conv => whnf
      try dsimp only
      refine nb_t (by decide) ?_
      conv => whnf
      try dsimp only
      have key := l_R_ask1 (G := G) (τ := τ) (Q := Q) (σ := σ) (d := nI d) (w := w) ?_ 41 0 (by omega)
      · rw [fil_0, uc_self] at key
        exact hR key
      have f1 : frR σ (wd_uc σ 8 (fil (fun _ => 0) (σ 8) 41)) := frR.rf.u8
      refine wd_go ok_R_ask [46] 20 (fun R hR => ?_)
      conv => whnf
      try dsimp only
      refine hR (l_R_ask2 (σ0 := wd_uc σ 8 (fil (fun _ => 0) (σ 8) 41)) (d := d) hw (by omega) (fun σ2 l5 f2 h8 => ?_) 20 0 _ _ (by omega) frR.rf (fun t ht => fil_lt (f := fun _ => 0) ht))
      refine wd_go ok_R_ask [114] 20 (fun R hR => ?_)
      conv => whnf
      try dsimp only
      refine hR (k_R_ask_108 (Nat.le_of_ble_eq_true rfl) rfl (s_R_startsJudging8 (fun σ3 f3 g8 hS => ?_)))
      refine wd_go ok_R_ask [114] 20 (fun R hR => ?_)
      conv => whnf
      try dsimp only
      refine fL_to ?_
      conv => whnf
      try dsimp only
      exact hR (l_R_ask4 (σ0 := wd_uc σ 8 (fil (fun _ => 0) (σ 8) 41)) (d := d) (fun σ' hf' => h σ' (f1.tr hf')) 41 0 σ3 (by omega) (f2.tr f3) (by rw [g8]; exact h8) hS)
end R
