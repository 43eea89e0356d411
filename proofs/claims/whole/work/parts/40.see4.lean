/-! ASK: the class -/
section C
variable {G : wd_G} {τ : wd_T} {Q : wd_P} {P : wRow}
theorem frD.u3 {σ s : wd_S} {f : wRow} (h : frD σ s) : frD σ (wd_uc s 3 f) := fun c hc => (uc_n (by omega)).trans (h c hc)
theorem l2i_b (b : Bool) : ((bI b).toInt64).toInt32 = nI b.toNat := by cases b <;> decide
theorem l_T_gath3 {σ : wd_S} {X : wRow} {B : Nat → Nat} {d a v : Int32} (h3 : ∀ t, t < 41 → σ 3 t = nI (B t)) (h : ∀ σ', frD σ σ' → (∀ t, t < 41 → σ' 3 t = nI (B t + (rsB X t).toNat)) → Run wC G M_T_gatherLimits 88 [some (.ref 1), some (.ref 10), some (.int d), some (.int a), some (.int v), some (.long (lN (rbA X 41))), none, some (.int (nI 41))] [] σ' τ Q) : ∀ (m i : Nat), 41 = i + m → Run wC G M_T_gatherLimits 57 [some (.ref 1), some (.ref 10), some (.int d), some (.int a), some (.int v), some (.long (lN (rbA X 41))), none, some (.int (nI i))] [] (wd_uc σ 3 (fil (fun t => nI (B t + (rsB X t).toNat)) (σ 3) i)) τ Q := by
  intro m
  induction m with
  | zero =>
    intro i hi
    have e : i = 41 := by omega
    subst e
    refine wd_go ok_T_gatherLimits [57, 88] 20 (fun R hR => ?_)
    conv => whnf
    try dsimp only
    refine br_t (by decide) ?_
    conv => whnf
    try dsimp only
    refine hR (h _ frD.rf.u3 (fun t ht => ?_))
    rw [uc_s, fil_lt ht]
  | succ m ih =>
    intro i hi
    refine wd_go ok_T_gatherLimits [57, 88] 30 (fun R hR => ?_)
    conv => whnf
    try dsimp only
    rw [il40]
    refine br_f (nI_nlt (by omega) (by decide)) ?_
    conv => whnf
    try dsimp only
    refine ⟨vp_in_nI (by first | decide | omega) (by first | decide | omega), ?_⟩
    conv => whnf
    try dsimp only
    rw [bits_at (by omega), l2i_b]
    refine ⟨vp_in_nI (by first | decide | omega) (by first | decide | omega), ?_⟩
    conv => whnf
    try dsimp only
    have e1 : (wd_uc σ 3 (fil (fun t => nI (B t + (rsB X t).toNat)) (σ 3) i)) 3 i + nI (rsB X i).toNat = nI (B i + (rsB X i).toNat) := by
      rw [uc_s, fil, if_neg (by omega), h3 i (by omega), nI_add]
    rw [nI_clamp (by omega), e1, uc_s, uc_uc, fil_s (fun t => nI (B t + (rsB X t).toNat))]
    refine hR ?_
    have := ih (i + 1) (by omega)
    rw [nI_succ] at this
    exact this
theorem l_T_gath2 {σ0 : wd_S} {d : Nat} (hr : relC σ0 10 P) (hw : wf P) (hd : d < dN P) (h : ∀ σ, frD σ0 σ → (∀ t, t < 41 → σ 3 t = nI (asB P d t 20)) → Q (some (.int (nI (asM P d 20)))) σ τ) : ∀ (m k : Nat) (σ : wd_S) (l5 l6 l7 : Option Value), 20 = k + m → frD σ0 σ → (∀ t, t < 41 → σ 3 t = nI (asB P d t k)) → Run wC G M_T_gatherLimits 13 [some (.ref 1), some (.ref 10), some (.int (nI d)), some (.int (nI (asM P d k))), some (.int (nI (1 + k))), l5, l6, l7] [] σ τ Q := by
  have hD4 := hw.1.2
  intro m
  induction m with
  | zero =>
    intro k σ l5 l6 l7 hk hf h3
    have e : k = 20 := by omega
    subst e
    refine wd_go ok_T_gatherLimits [13] 20 (fun R hR => ?_)
    conv => whnf
    try dsimp only
    refine br_t (by decide) ?_
    conv => whnf
    try dsimp only
    exact h σ hf h3
  | succ m ih =>
    intro k σ l5 l6 l7 hk hf h3
    refine wd_go ok_T_gatherLimits [13] 20 (fun R hR => ?_)
    conv => whnf
    try dsimp only
    rw [il20]
    refine br_f (nI_nlt (by omega) (by decide)) ?_
    conv => whnf
    try dsimp only
    refine hR (k_T_gatherLimits_22 (Nat.le_of_ble_eq_true rfl) rfl (s_T_begin (hf.C hr) (wf_bd hw) (stP_is P) (fun σ1 r1 f1 => ?_)))
    refine wd_go ok_T_gatherLimits [13] 20 (fun R hR => ?_)
    conv => whnf
    try dsimp only
    refine ⟨vp_in_nI (by first | decide | omega) (by first | decide | omega), ?_⟩
    conv => whnf
    try dsimp only
    rw [nI_clamp (by omega)]
    have r2 := relT_lim (x := nI (1 + k)) hw hd r1
    have hwu : wf (upd P (4 * d + 1) (nI (1 + k))) := wf_lim (by omega) hw
    refine hR (k_T_gatherLimits_37 (Nat.le_of_ble_eq_true rfl) rfl (s_T_bits r2 hwu (fun σ2 f2 => ?_)))
    have ft : frT σ σ2 := (f1.uc (by omega)).tr f2
    have hf2 : frD σ0 σ2 := hf.tr ft.D
    have h32 : ∀ t, t < 41 → σ2 3 t = nI (asB P d t k) := fun t ht => by
      rw [ft 3 (by omega)]
      exact h3 t ht
    refine wd_go ok_T_gatherLimits [13] 20 (fun R hR => ?_)
    conv => whnf
    try dsimp only
    refine fL_to ?_
    conv => whnf
    try dsimp only
    refine hR (k_T_gatherLimits_45 (Nat.le_of_ble_eq_true rfl) rfl (s_P_seen (hf2.C hr) hw ?_))
    have nxt : ∀ σ3 l7, frD σ2 σ3 → (∀ t, t < 41 → σ3 3 t = nI (asB P d t (k + 1))) → Run wC G M_T_gatherLimits 13 [some (.ref 1), some (.ref 10), some (.int (nI d)), some (.int (nI (asM P d (k + 1)))), some (.int (nI (1 + k) + 1)), some (.long (lN (rbA (upd P (4 * d + 1) (nI (1 + k))) 41))), none, l7] [] σ3 τ Q := by
      intro σ3 l7 f3 h33
      rw [← nI_succ]
      exact ih (k + 1) σ3 _ _ l7 (by omega) (hf2.tr f3) h33
    have a1 : asM P d (k + 1) = asM P d k + (isSo P (upd P (4 * d + 1) (nI (1 + k)))).toNat := rfl
    cases hb : isSo P (upd P (4 * d + 1) (nI (1 + k))) with
    | false =>
      rw [a1, hb] at nxt
      refine wd_go ok_T_gatherLimits [13, 57] 20 (fun R hR => ?_)
      conv => whnf
      try dsimp only
      refine br_t rfl ?_
      conv => whnf
      try dsimp only
      refine fL_to ?_
      conv => whnf
      try dsimp only
      refine hR (nxt σ2 l7 frD.rf (fun t ht => ?_))
      rw [asB, hb]
      exact h32 t ht
    | true =>
      rw [a1, hb] at nxt
      refine wd_go ok_T_gatherLimits [13, 57] 20 (fun R hR => ?_)
      conv => whnf
      try dsimp only
      refine br_f (by decide) ?_
      conv => whnf
      try dsimp only
      refine fL_to ?_
      conv => whnf
      try dsimp only
      have key := l_T_gath3 (G := G) (τ := τ) (Q := Q) (σ := σ2) (X := upd P (4 * d + 1) (nI (1 + k))) (B := fun t => asB P d t k) (d := nI d) (a := nI (asM P d k) + 1) (v := nI (1 + k)) h32 (fun σ3 f3 h33 => ?_) 41 0 (by omega)
      · rw [fil_0, uc_self] at key
        exact hR key
      · refine wd_go ok_T_gatherLimits [13] 20 (fun R hR => ?_)
        conv => whnf
        try dsimp only
        refine hR ?_
        have := nxt σ3 (some (.int (nI 41))) f3 (fun t ht => by rw [asB, hb, Bool.true_and]; exact h33 t ht)
        rw [Bool.toNat_true, nI_succ] at this
        exact this
theorem s_T_gather {σ : wd_S} {d : Nat} (hr : relC σ 10 P) (hw : wf P) (hd : d < dN P) (h : ∀ σ', frD σ σ' → (∀ t, t < 41 → σ' 3 t = nI (asB P d t 20)) → Q (some (.int (nI (asM P d 20)))) σ' τ) : Run wC G M_T_gatherLimits 0 [some (.ref 1), some (.ref 10), some (.int (nI d)), none, none, none, none, none] [] σ τ Q := by
  refine wd_go ok_T_gatherLimits [13] 20 (fun R hR => ?_)
  conv => whnf
  try dsimp only
  refine hR (k_T_gatherLimits_7 (Nat.le_of_ble_eq_true rfl) (s_fill_3 ?_))
  refine wd_go ok_T_gatherLimits [13] 20 (fun R hR => ?_)
  conv => whnf
  try dsimp only
  exact hR (l_T_gath2 hr hw hd h 20 0 _ none none none (by omega) frD.rf.u3 (fun t ht => fil_lt (f := fun _ => 0) ht))
theorem max_is2 {b m : Nat} (h : b ≤ m) (hm : m < 2 ^ 30) : (if nI b < nI m - nI b then nI m - nI b else nI b) = nI (max b (m - b)) := by
  rw [pk_sub h]
  by_cases hz : b < m - b
  · rw [if_pos (nI_lt hz (by omega)), Nat.max_eq_right (by omega)]
  · rw [if_neg (nI_nlt (by omega) (by omega)), Nat.max_eq_left (by omega)]
theorem l_D_ask {σ0 : wd_S} {d : Nat} {w : Int32} (h : ∀ σ', frD σ0 σ' → Q (some (.int (jgA (asJ P d 41) w))) σ' τ) : ∀ (m t : Nat) (σ : wd_S) (l7 l8 : Option Value), 41 = t + m → frD σ0 σ → (∀ t, t < 41 → σ 3 t = nI (asB P d t 20)) → Run wC G M_D_ask 42 [some (.ref 0), some (.int (nI d)), some (.int w), some (.int (nI (asM P d 20))), some (.int (asJ P d t).1), some (.int (asJ P d t).2), some (.int (nI t)), l7, l8] [] σ τ Q := by
  intro m
  induction m with
  | zero =>
    intro t σ l7 l8 ht hf h3
    have e : t = 41 := by omega
    subst e
    have h := h σ hf
    rw [jgA] at h
    refine wd_go ok_D_ask [42] 20 (fun R hR => ?_)
    conv => whnf
    try dsimp only
    refine br_t (by decide) ?_
    conv => whnf
    try dsimp only
    by_cases h1 : (asJ P d 41).1 = -4
    · rw [if_pos h1] at h
      refine br_t h1 ?_
      conv => whnf
      try dsimp only
      rw [h1]
      exact h
    · rw [if_neg h1] at h
      refine br_f h1 ?_
      conv => whnf
      try dsimp only
      by_cases hz : w = 0
      · rw [if_pos hz] at h
        refine nb_f hz ?_
        conv => whnf
        try dsimp only
        exact h
      · rw [if_neg hz] at h
        refine nb_t hz ?_
        conv => whnf
        try dsimp only
        exact h
  | succ m ih =>
    intro t σ l7 l8 ht hf h3
    have ha := as_le (P := P) (d := d) (t := t) 20
    have hm := max_is2 ha.1 (by omega)
    have q : asJ P d (t + 1) = jgS (asJ P d t) (nI t) (nI (max (asB P d t 20) (asM P d 20 - asB P d t 20))) := rfl
    rw [jgS] at q
    refine wd_go ok_D_ask [42] 30 (fun R hR => ?_)
    conv => whnf
    try dsimp only
    rw [il40]
    refine br_f (nI_nlt (by omega) (by decide)) ?_
    conv => whnf
    try dsimp only
    refine ⟨vp_in_nI (by first | decide | omega) (by first | decide | omega), ?_⟩
    conv => whnf
    try dsimp only
    rw [nI_clamp (by omega), h3 t (by omega)]
    refine fL_to ?_
    conv => whnf
    try dsimp only
    refine ⟨Nat.le_of_ble_eq_true rfl, ?_⟩
    rw [hm]
    conv => whnf
    try dsimp only
    by_cases hz : nI (max (asB P d t 20) (asM P d 20 - asB P d t 20)) < (asJ P d t).2
    · rw [if_pos hz] at q
      refine br_f (Int32.not_le.mpr hz) ?_
      conv => whnf
      try dsimp only
      refine hR ?_
      have := ih (t + 1) σ (some (.int (nI (asB P d t 20)))) (some (.int (nI (max (asB P d t 20) (asM P d 20 - asB P d t 20))))) (by omega) hf h3
      rw [q, nI_succ] at this
      exact this
    · rw [if_neg hz] at q
      refine br_t (Int32.not_lt.mp hz) ?_
      conv => whnf
      try dsimp only
      refine hR ?_
      have := ih (t + 1) σ (some (.int (nI (asB P d t 20)))) (some (.int (nI (max (asB P d t 20) (asM P d 20 - asB P d t 20))))) (by omega) hf h3
      rw [q, nI_succ] at this
      exact this
theorem s_D_ask {σ : wd_S} {d w : Int32} (hr : relC σ 10 P) (hw : wf P) (h : ∀ σ', frD σ σ' → Q (some (.int (aAsk P d w))) σ' τ) : Run wC G M_D_ask 0 [some (.ref 0), some (.int d), some (.int w), none, none, none, none, none, none] [] σ τ Q := by
  have hD4 := hw.1.2
  rw [aAsk] at h
  refine wd_go ok_D_ask [42] 20 (fun R hR => ?_)
  conv => whnf
  try dsimp only
  refine hR (k_D_ask_2 (Nat.le_of_ble_eq_true rfl) rfl (s_D_noDog hr ?_))
  cases hd : inB d 0 (P 16 - 1) with
  | false =>
    refine wd_go ok_D_ask [42] 20 (fun R hR => ?_)
    conv => whnf
    try dsimp only
    refine nb_t (by decide) ?_
    conv => whnf
    try dsimp only
    rw [if_neg (fun z => by rw [hd] at z; cases z.1)] at h
    exact h σ frD.rf
  | true =>
    refine wd_go ok_D_ask [42] 20 (fun R hR => ?_)
    conv => whnf
    try dsimp only
    refine nb_f rfl ?_
    conv => whnf
    try dsimp only
    refine hR (k_D_ask_11 (Nat.le_of_ble_eq_true rfl) (s_D_outside ?_))
    cases hp : inB w 0 1 with
    | false =>
      refine wd_go ok_D_ask [42] 20 (fun R hR => ?_)
      conv => whnf
      try dsimp only
      refine br_f (by decide) ?_
      conv => whnf
      try dsimp only
      rw [if_neg (fun z => by rw [hp] at z; cases z.2)] at h
      exact h σ frD.rf
    | true =>
      rw [if_pos ⟨hd, hp⟩] at h
      rw [hw.1.1] at hd
      obtain ⟨d, hdd, rfl⟩ := inD (by omega) hd
      rw [nI_clamp (by omega)] at h
      refine wd_go ok_D_ask [42] 20 (fun R hR => ?_)
      conv => whnf
      try dsimp only
      refine br_t rfl ?_
      conv => whnf
      try dsimp only
      refine hR (k_D_ask_28 (Nat.le_of_ble_eq_true rfl) rfl (s_T_gather hr hw hdd (fun σ1 f1 h3 => ?_)))
      refine wd_go ok_D_ask [42] 20 (fun R hR => ?_)
      conv => whnf
      try dsimp only
      exact hR (l_D_ask (σ0 := σ) h 41 0 σ1 none none (by omega) f1 h3)
end C
