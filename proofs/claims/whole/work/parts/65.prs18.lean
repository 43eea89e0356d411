/-! THE TEXT: a line of the class -/
def frW (σ σ' : wd_S) : Prop := (∀ c, c ≠ 4 → (c < 30 ∨ 40 ≤ c) → σ' c = σ c) ∧ (∀ k, (k < 3 ∨ 9 < k) → σ' 4 k = σ 4 k) ∧ (∀ k, 12 ≤ k → σ' 30 k = σ 30 k) ∧ σ' 33 = σ 33 ∧ σ' 34 = σ 34
theorem frW.rf {σ : wd_S} : frW σ σ := ⟨fun _ _ _ => rfl, fun _ _ => rfl, fun _ _ => rfl, rfl, rfl⟩
theorem frW.tr {a b c : wd_S} (h : frW a b) (g : frW b c) : frW a c := ⟨fun q hq hr => (g.1 q hq hr).trans (h.1 q hq hr), fun k hk => (g.2.1 k hk).trans (h.2.1 k hk), fun k hk => (g.2.2.1 k hk).trans (h.2.2.1 k hk), g.2.2.2.1.trans h.2.2.2.1, g.2.2.2.2.trans h.2.2.2.2⟩
theorem frP.W {a b : wd_S} (h : frP a b) : frW a b := ⟨h.1, fun k hk => h.2.1 k (by omega), h.2.2⟩
theorem frW.t {a c : wd_S} {b : Nat → Nat} {L : Nat} (h : frW a c) (t : tpC a b L) : tpC c b L := ⟨(h.2.1 2 (by omega)).trans t.1, t.2.1, fun i hi => by rw [h.1 5 (by decide) (by decide)]; exact t.2.2 i hi⟩
theorem frW.d {a c : wd_S} (h : frW a c) (t : dfC a) : dfC c := fun d hd => by rw [h.2.2.2.1, h.2.2.2.2]; exact t d hd
theorem frW_5 {σ : wd_S} {v : Int32} : frW σ (wd_uc σ 4 (upd (σ 4) 5 v)) := ⟨fun c hc _ => uc_n hc, fun k hk => by rw [uc_s, upd_n (by omega)], fun k _ => by rw [uc_n (by decide)], rfl, rfl⟩
theorem cX_5 {σ : wd_S} {v : Int32} {x : pX} (h : cX σ x) : cX (wd_uc σ 4 (upd (σ 4) 5 v)) x := by
  cases x with
  | inl e => exact h
  | inr y => exact ⟨h.1, h.2.1, h.2.2.1, h.2.2.2.1, h.2.2.2.2.1, relC_kept h.2.2.2.2.2 (fun j hj => uc_n (by omega))⟩
section C
variable {G : wd_G} {τ : wd_T} {Q : wd_P} {b : Nat → Nat} {L : Nat} {σ : wd_S}
theorem s_A_readLine {y : pY} (ht : tpC σ b L) (hz : dfC σ) (hy : okY L y) (hx : cX σ (.inr y)) (h : ∀ σ', frW σ σ' → cX σ' (liL b L y) → σ' 4 5 = σ 4 5 + 1 → Q none σ' τ) : Run wC G M_A_readLine 0 [some (.ref 4)] [] σ τ Q := by
  have end_ : ∀ {σ1 : wd_S}, frP σ σ1 → cX σ1 (liL b L y) → Run wC G M_A_readLine 109 [some (.ref 4)] [] σ1 τ Q := by
    intro σ1 f1 x1
    refine wd_go ok_A_readLine [] 20 (fun R hR => ?_)
    conv => whnf
    try dsimp only
    refine ⟨rfl, h _ (f1.W.tr frW_5) (cX_5 x1) ?_⟩
    rw [uc_s, upd_s, f1.2.1 5 (by omega)]
  have fin : ∀ {σ1 : wd_S} {x : pX}, frP σ σ1 → cX σ1 x → okX L 0 x → bnd x (smL b L) = liL b L y → Run wC G M_A_readLine 105 [some (.ref 4)] [] σ1 τ Q := by
    intro σ1 x f1 x1 o1 e1
    refine wd_go ok_A_readLine [] 20 (fun R hR => ?_)
    conv => whnf
    try dsimp only
    cases x with
    | inl e =>
      refine hR (k_A_readLine_106 (Nat.le_of_ble_eq_true rfl) rfl (s_A_semiF x1.2.1 ?_))
      refine end_ f1 ?_
      rw [← e1]
      exact x1
    | inr z =>
      have h3 := o1.2.2.2.2.1
      have e7 : σ1 4 7 = 3 ↔ z.2.1 = 3 := by
        rw [x1.2.2.1]
        exact nI_eq (b := 3) (by omega) (by decide)
      simp only [bnd, smL] at e1
      refine hR (k_A_readLine_106 (Nat.le_of_ble_eq_true rfl) rfl (s_A_semi (f1.t ht) x1.2.1 o1.2.2.1 x1.1 (fun n7 => ?_) (fun n7 σ2 t2 => ?_)))
      · rw [if_neg (fun q => n7 (e7.mpr q))] at e1
        have q := cX_f (c := 2) (n := 2) x1 rfl (by decide)
        refine end_ (f1.tr q.1.P) ?_
        rw [← e1]
        exact q.2
      · rw [if_pos (e7.mp n7)] at e1
        have q := tokC_X t2 x1.2.2.2.2.2
        refine end_ (f1.tr q.1.P) ?_
        rw [← e1]
        exact q.2
  have r100 : bnd (.inl (2, y.1)) (smL b L) = liL b L y → Run wC G M_A_readLine 100 [some (.ref 4)] [] σ τ Q := by
    intro e
    refine wd_go ok_A_readLine [] 20 (fun R hR => ?_)
    conv => whnf
    try dsimp only
    refine hR (k_A_readLine_102 (Nat.le_of_ble_eq_true rfl) rfl (s_A_refuse ?_))
    rw [if_pos hx.1]
    have q := cX_f (c := 2) (n := 2) hx rfl (by decide)
    exact fin q.1.P q.2 (ok_f (by decide) (by decide) (okY_s hy)) e
  by_cases e1 : y.2.1 = 1
  · have lk : liL b L y = bnd (lnL b L (lnK b y.1 y.2.2.1) y) (smL b L) := by rw [liL, if_pos e1]
    unfold lnK at lk
    have r84 : bnd (lnL b L (if lnB b y.1 y.2.2.1 [106, 97, 109] = true then 5 else -4) y) (smL b L) = liL b L y → Run wC G M_A_readLine 84 [some (.ref 4)] [] σ τ Q := by
      intro e
      refine wd_go ok_A_readLine [] 20 (fun R hR => ?_)
      conv => whnf
      try dsimp only
      refine hR (k_A_readLine_87 (Nat.le_of_ble_eq_true rfl) rfl (s_A_isName (i := 5) (by decide) ht hy hx ?_))
      rw [decide_eq_true e1, Bool.true_and, show wdN.getD 5 [] = [106, 97, 109] from rfl]
      cases hb : lnB b y.1 y.2.2.1 [106, 97, 109] with
      | true =>
        rw [if_pos hb, lnL, if_neg (by decide), if_neg (by decide), if_pos rfl] at e
        refine wd_go ok_A_readLine [] 20 (fun R hR => ?_)
        conv => whnf
        try dsimp only
        refine br_f (by decide) ?_
        conv => whnf
        try dsimp only
        refine hR (k_A_readLine_94 (Nat.le_of_ble_eq_true rfl) rfl (s_A_readJam ht hy hx (fun σ1 f1 x1 => ?_)))
        refine wd_go ok_A_readLine [105] 20 (fun R hR => ?_)
        conv => whnf
        try dsimp only
        exact hR (fin f1 x1 (okX_le (ok_jmL hy) (Nat.zero_le _)) e)
      | false =>
        rw [if_neg (by rw [hb]; decide), lnL, if_pos rfl] at e
        refine wd_go ok_A_readLine [100] 20 (fun R hR => ?_)
        conv => whnf
        try dsimp only
        refine br_t rfl ?_
        conv => whnf
        try dsimp only
        exact hR (r100 e)
    have r68 : bnd (lnL b L (if lnB b y.1 y.2.2.1 [115, 105, 103, 110, 115] = true then 4 else if lnB b y.1 y.2.2.1 [106, 97, 109] = true then 5 else -4) y) (smL b L) = liL b L y → Run wC G M_A_readLine 68 [some (.ref 4)] [] σ τ Q := by
      intro e
      refine wd_go ok_A_readLine [] 20 (fun R hR => ?_)
      conv => whnf
      try dsimp only
      refine hR (k_A_readLine_71 (Nat.le_of_ble_eq_true rfl) rfl (s_A_isName (i := 4) (by decide) ht hy hx ?_))
      rw [decide_eq_true e1, Bool.true_and, show wdN.getD 4 [] = [115, 105, 103, 110, 115] from rfl]
      cases hb : lnB b y.1 y.2.2.1 [115, 105, 103, 110, 115] with
      | true =>
        rw [if_pos hb, lnL, if_neg (by decide), if_pos rfl] at e
        refine wd_go ok_A_readLine [] 20 (fun R hR => ?_)
        conv => whnf
        try dsimp only
        refine br_f (by decide) ?_
        conv => whnf
        try dsimp only
        refine hR (k_A_readLine_78 (Nat.le_of_ble_eq_true rfl) rfl (s_A_readSigns ht hy hx (fun σ1 f1 x1 => ?_)))
        refine wd_go ok_A_readLine [105] 20 (fun R hR => ?_)
        conv => whnf
        try dsimp only
        exact hR (fin f1 x1 (okX_le (ok_sgL hy) (Nat.zero_le _)) e)
      | false =>
        rw [if_neg (by rw [hb]; decide)] at e
        refine wd_go ok_A_readLine [84] 20 (fun R hR => ?_)
        conv => whnf
        try dsimp only
        refine br_t rfl ?_
        conv => whnf
        try dsimp only
        exact hR (r84 e)
    have r51 : bnd (lnL b L (if lnB b y.1 y.2.2.1 [104, 97, 108, 102] = true then 3 else if lnB b y.1 y.2.2.1 [115, 105, 103, 110, 115] = true then 4 else if lnB b y.1 y.2.2.1 [106, 97, 109] = true then 5 else -4) y) (smL b L) = liL b L y → Run wC G M_A_readLine 51 [some (.ref 4)] [] σ τ Q := by
      intro e
      refine wd_go ok_A_readLine [] 20 (fun R hR => ?_)
      conv => whnf
      try dsimp only
      refine hR (k_A_readLine_54 (Nat.le_of_ble_eq_true rfl) rfl (s_A_isName (i := 3) (by decide) ht hy hx ?_))
      rw [decide_eq_true e1, Bool.true_and, show wdN.getD 3 [] = [104, 97, 108, 102] from rfl]
      cases hb : lnB b y.1 y.2.2.1 [104, 97, 108, 102] with
      | true =>
        rw [if_pos hb, lnL, if_neg (by decide), if_neg (by decide), if_neg (by decide)] at e
        refine wd_go ok_A_readLine [] 20 (fun R hR => ?_)
        conv => whnf
        try dsimp only
        refine br_f (by decide) ?_
        conv => whnf
        try dsimp only
        refine hR (k_A_readLine_62 (Nat.le_of_ble_eq_true rfl) rfl (s_A_readDog (k := 3) (by decide) ht hz hy hx (fun σ1 f1 x1 => ?_)))
        refine wd_go ok_A_readLine [105] 20 (fun R hR => ?_)
        conv => whnf
        try dsimp only
        exact hR (fin f1 x1 (okX_le (ok_dgL (by decide) hy) (Nat.zero_le _)) e)
      | false =>
        rw [if_neg (by rw [hb]; decide)] at e
        refine wd_go ok_A_readLine [68] 20 (fun R hR => ?_)
        conv => whnf
        try dsimp only
        refine br_t rfl ?_
        conv => whnf
        try dsimp only
        exact hR (r68 e)
    have r34 : bnd (lnL b L (if lnB b y.1 y.2.2.1 [116, 119, 105, 99, 101] = true then 2 else if lnB b y.1 y.2.2.1 [104, 97, 108, 102] = true then 3 else if lnB b y.1 y.2.2.1 [115, 105, 103, 110, 115] = true then 4 else if lnB b y.1 y.2.2.1 [106, 97, 109] = true then 5 else -4) y) (smL b L) = liL b L y → Run wC G M_A_readLine 34 [some (.ref 4)] [] σ τ Q := by
      intro e
      refine wd_go ok_A_readLine [] 20 (fun R hR => ?_)
      conv => whnf
      try dsimp only
      refine hR (k_A_readLine_37 (Nat.le_of_ble_eq_true rfl) rfl (s_A_isName (i := 2) (by decide) ht hy hx ?_))
      rw [decide_eq_true e1, Bool.true_and, show wdN.getD 2 [] = [116, 119, 105, 99, 101] from rfl]
      cases hb : lnB b y.1 y.2.2.1 [116, 119, 105, 99, 101] with
      | true =>
        rw [if_pos hb, lnL, if_neg (by decide), if_neg (by decide), if_neg (by decide)] at e
        refine wd_go ok_A_readLine [] 20 (fun R hR => ?_)
        conv => whnf
        try dsimp only
        refine br_f (by decide) ?_
        conv => whnf
        try dsimp only
        refine hR (k_A_readLine_45 (Nat.le_of_ble_eq_true rfl) rfl (s_A_readDog (k := 2) (by decide) ht hz hy hx (fun σ1 f1 x1 => ?_)))
        refine wd_go ok_A_readLine [105] 20 (fun R hR => ?_)
        conv => whnf
        try dsimp only
        exact hR (fin f1 x1 (okX_le (ok_dgL (by decide) hy) (Nat.zero_le _)) e)
      | false =>
        rw [if_neg (by rw [hb]; decide)] at e
        refine wd_go ok_A_readLine [51] 20 (fun R hR => ?_)
        conv => whnf
        try dsimp only
        refine br_t rfl ?_
        conv => whnf
        try dsimp only
        exact hR (r51 e)
    have r17 : bnd (lnL b L (if lnB b y.1 y.2.2.1 [119, 105, 110, 100, 111, 119] = true then 1 else if lnB b y.1 y.2.2.1 [116, 119, 105, 99, 101] = true then 2 else if lnB b y.1 y.2.2.1 [104, 97, 108, 102] = true then 3 else if lnB b y.1 y.2.2.1 [115, 105, 103, 110, 115] = true then 4 else if lnB b y.1 y.2.2.1 [106, 97, 109] = true then 5 else -4) y) (smL b L) = liL b L y → Run wC G M_A_readLine 17 [some (.ref 4)] [] σ τ Q := by
      intro e
      refine wd_go ok_A_readLine [] 20 (fun R hR => ?_)
      conv => whnf
      try dsimp only
      refine hR (k_A_readLine_20 (Nat.le_of_ble_eq_true rfl) rfl (s_A_isName (i := 1) (by decide) ht hy hx ?_))
      rw [decide_eq_true e1, Bool.true_and, show wdN.getD 1 [] = [119, 105, 110, 100, 111, 119] from rfl]
      cases hb : lnB b y.1 y.2.2.1 [119, 105, 110, 100, 111, 119] with
      | true =>
        rw [if_pos hb, lnL, if_neg (by decide), if_neg (by decide), if_neg (by decide)] at e
        refine wd_go ok_A_readLine [] 20 (fun R hR => ?_)
        conv => whnf
        try dsimp only
        refine br_f (by decide) ?_
        conv => whnf
        try dsimp only
        refine hR (k_A_readLine_28 (Nat.le_of_ble_eq_true rfl) rfl (s_A_readDog (k := 1) (by decide) ht hz hy hx (fun σ1 f1 x1 => ?_)))
        refine wd_go ok_A_readLine [105] 20 (fun R hR => ?_)
        conv => whnf
        try dsimp only
        exact hR (fin f1 x1 (okX_le (ok_dgL (by decide) hy) (Nat.zero_le _)) e)
      | false =>
        rw [if_neg (by rw [hb]; decide)] at e
        refine wd_go ok_A_readLine [34] 20 (fun R hR => ?_)
        conv => whnf
        try dsimp only
        refine br_t rfl ?_
        conv => whnf
        try dsimp only
        exact hR (r34 e)
    have r0 : bnd (lnL b L (if lnB b y.1 y.2.2.1 [112, 108, 97, 105, 110] = true then 0 else if lnB b y.1 y.2.2.1 [119, 105, 110, 100, 111, 119] = true then 1 else if lnB b y.1 y.2.2.1 [116, 119, 105, 99, 101] = true then 2 else if lnB b y.1 y.2.2.1 [104, 97, 108, 102] = true then 3 else if lnB b y.1 y.2.2.1 [115, 105, 103, 110, 115] = true then 4 else if lnB b y.1 y.2.2.1 [106, 97, 109] = true then 5 else -4) y) (smL b L) = liL b L y → Run wC G M_A_readLine 0 [some (.ref 4)] [] σ τ Q := by
      intro e
      refine wd_go ok_A_readLine [] 20 (fun R hR => ?_)
      conv => whnf
      try dsimp only
      refine hR (k_A_readLine_3 (Nat.le_of_ble_eq_true rfl) rfl (s_A_isName (i := 0) (by decide) ht hy hx ?_))
      rw [decide_eq_true e1, Bool.true_and, show wdN.getD 0 [] = [112, 108, 97, 105, 110] from rfl]
      cases hb : lnB b y.1 y.2.2.1 [112, 108, 97, 105, 110] with
      | true =>
        rw [if_pos hb, lnL, if_neg (by decide), if_neg (by decide), if_neg (by decide)] at e
        refine wd_go ok_A_readLine [] 20 (fun R hR => ?_)
        conv => whnf
        try dsimp only
        refine br_f (by decide) ?_
        conv => whnf
        try dsimp only
        refine hR (k_A_readLine_11 (Nat.le_of_ble_eq_true rfl) rfl (s_A_readDog (k := 0) (by decide) ht hz hy hx (fun σ1 f1 x1 => ?_)))
        refine wd_go ok_A_readLine [105] 20 (fun R hR => ?_)
        conv => whnf
        try dsimp only
        exact hR (fin f1 x1 (okX_le (ok_dgL (by decide) hy) (Nat.zero_le _)) e)
      | false =>
        rw [if_neg (by rw [hb]; decide)] at e
        refine wd_go ok_A_readLine [17] 20 (fun R hR => ?_)
        conv => whnf
        try dsimp only
        refine br_t rfl ?_
        conv => whnf
        try dsimp only
        exact hR (r17 e)
    exact r0 lk.symm
  · have lk : bnd (.inl (2, y.1)) (smL b L) = liL b L y := by rw [liL, if_neg e1]
    have r84 : Run wC G M_A_readLine 84 [some (.ref 4)] [] σ τ Q := by
      refine wd_go ok_A_readLine [] 20 (fun R hR => ?_)
      conv => whnf
      try dsimp only
      refine hR (k_A_readLine_87 (Nat.le_of_ble_eq_true rfl) rfl (s_A_isName (i := 5) (by decide) ht hy hx ?_))
      rw [decide_eq_false e1, Bool.false_and]
      refine wd_go ok_A_readLine [100] 20 (fun R hR => ?_)
      conv => whnf
      try dsimp only
      refine br_t rfl ?_
      conv => whnf
      try dsimp only
      exact hR (r100 lk)
    have r68 : Run wC G M_A_readLine 68 [some (.ref 4)] [] σ τ Q := by
      refine wd_go ok_A_readLine [] 20 (fun R hR => ?_)
      conv => whnf
      try dsimp only
      refine hR (k_A_readLine_71 (Nat.le_of_ble_eq_true rfl) rfl (s_A_isName (i := 4) (by decide) ht hy hx ?_))
      rw [decide_eq_false e1, Bool.false_and]
      refine wd_go ok_A_readLine [84] 20 (fun R hR => ?_)
      conv => whnf
      try dsimp only
      refine br_t rfl ?_
      conv => whnf
      try dsimp only
      exact hR r84
    have r51 : Run wC G M_A_readLine 51 [some (.ref 4)] [] σ τ Q := by
      refine wd_go ok_A_readLine [] 20 (fun R hR => ?_)
      conv => whnf
      try dsimp only
      refine hR (k_A_readLine_54 (Nat.le_of_ble_eq_true rfl) rfl (s_A_isName (i := 3) (by decide) ht hy hx ?_))
      rw [decide_eq_false e1, Bool.false_and]
      refine wd_go ok_A_readLine [68] 20 (fun R hR => ?_)
      conv => whnf
      try dsimp only
      refine br_t rfl ?_
      conv => whnf
      try dsimp only
      exact hR r68
    have r34 : Run wC G M_A_readLine 34 [some (.ref 4)] [] σ τ Q := by
      refine wd_go ok_A_readLine [] 20 (fun R hR => ?_)
      conv => whnf
      try dsimp only
      refine hR (k_A_readLine_37 (Nat.le_of_ble_eq_true rfl) rfl (s_A_isName (i := 2) (by decide) ht hy hx ?_))
      rw [decide_eq_false e1, Bool.false_and]
      refine wd_go ok_A_readLine [51] 20 (fun R hR => ?_)
      conv => whnf
      try dsimp only
      refine br_t rfl ?_
      conv => whnf
      try dsimp only
      exact hR r51
    have r17 : Run wC G M_A_readLine 17 [some (.ref 4)] [] σ τ Q := by
      refine wd_go ok_A_readLine [] 20 (fun R hR => ?_)
      conv => whnf
      try dsimp only
      refine hR (k_A_readLine_20 (Nat.le_of_ble_eq_true rfl) rfl (s_A_isName (i := 1) (by decide) ht hy hx ?_))
      rw [decide_eq_false e1, Bool.false_and]
      refine wd_go ok_A_readLine [34] 20 (fun R hR => ?_)
      conv => whnf
      try dsimp only
      refine br_t rfl ?_
      conv => whnf
      try dsimp only
      exact hR r34
    have r0 : Run wC G M_A_readLine 0 [some (.ref 4)] [] σ τ Q := by
      refine wd_go ok_A_readLine [] 20 (fun R hR => ?_)
      conv => whnf
      try dsimp only
      refine hR (k_A_readLine_3 (Nat.le_of_ble_eq_true rfl) rfl (s_A_isName (i := 0) (by decide) ht hy hx ?_))
      rw [decide_eq_false e1, Bool.false_and]
      refine wd_go ok_A_readLine [17] 20 (fun R hR => ?_)
      conv => whnf
      try dsimp only
      refine br_t rfl ?_
      conv => whnf
      try dsimp only
      exact hR r17
    exact r0
end C
