/-! THE REFERENCE: a tick whole, ticks; what is sure stays sure -/
theorem dg_bit {k l c b : Int32} {fed : Bool} (hb : wd_bit b) (hx : dgX k l c b fed = false) : wd_bit (dgB k l c b fed) := by
  unfold dgB
  unfold dgX at hx
  cases fed with
  | true =>
    simp only [if_true] at hx ⊢
    split
    · exact hb
    · split
      · exact Or.inl rfl
      · exact hb
  | false =>
    simp only [Bool.false_eq_true, if_false] at hx ⊢
    split
    · exact hb
    · rename_i h1
      rw [if_neg h1] at hx
      split
      · exact hb
      · rename_i h2
        rw [if_neg h2] at hx
        rcases hb with rfl | rfl
        · exact Or.inr rfl
        · exact absurd hx (by decide)
theorem msk_pos {u : wU} {s : Int32} {d : Nat} : ∀ {n : Nat}, d < n → ¬ nI d = u.2.2 13 → rwX u.1 d (fdA s d) = true → 0 < mskA u s n
  | 0, h, _, _ => absurd h (Nat.not_lt_zero _)
  | n + 1, h, h1, h2 => by
    rw [mskA]
    by_cases e : d = n
    · subst e
      rw [if_neg h1, h2]
      have := Nat.two_pow_pos d
      simp only [cond_true]
      omega
    · have := msk_pos (n := n) (by omega) h1 h2
      split
      · exact this
      · omega
theorem dogsA_bark {u : wU} {s : Int32} {d : Nat} : ∀ {n : Nat}, d < n → (dogsA u s n).1 (4 * d + 3) = if nI d = u.2.2 13 then u.1 (4 * d + 3) else rwB u.1 d (fdA s d)
  | 0, h => absurd h (Nat.not_lt_zero _)
  | n + 1, h => by
    rw [dogsA]
    by_cases e : d = n
    · subst e
      split
      · exact dogsA_n (fun e he => by omega)
      · rw [dogA]
        dsimp only
        rw [rwD, upd_s, (rw_same dogsA_at).2.2.1]
    · have := dogsA_bark (u := u) (s := s) (d := d) (n := n) (by omega)
      split
      · exact this
      · rw [dogA]
        dsimp only
        rw [rwD_n (by omega) (by omega)]
        exact this
theorem zerA_at {n : wRow} {d : Nat} : ∀ {k : Nat}, d < k → zerA n k (4 * d + 2) = 0 ∧ zerA n k (4 * d + 3) = 0
  | 0, h => absurd h (Nat.not_lt_zero _)
  | k + 1, h => by
    rw [zerA]
    by_cases e : d = k
    · subst e
      rw [upd_n (show 4 * d + 2 ≠ 4 * d + 3 by omega), upd_s, upd_s]
      exact ⟨rfl, rfl⟩
    · have := zerA_at (n := n) (d := d) (k := k) (by omega)
      rw [upd_n (by omega), upd_n (by omega), upd_n (by omega), upd_n (by omega)]
      exact this
/-- the rows behind a tick's dogs -/
theorem tik_0 {u : wU} {s : Int32} (h : mskA u s (dN u.1) = 0) : tikA u s = (upd (dogsA u s (dN u.1)).1 44 ((dogsA u s (dN u.1)).1 44 + 1), (dogsA u s (dN u.1)).2.1, upd (dogsA u s (dN u.1)).2.2 18 0) := by
  simp only [tikA, h]
  rfl
theorem tik_1 {u : wU} {s : Int32} (h : 0 < mskA u s (dN u.1)) : tikA u s = (upd (rstN (dogsA u s (dN u.1)).1 (nI (fstA (mskA u s (dN u.1)))) ((dogsA u s (dN u.1)).1 44 + 1)) 44 (rstN (dogsA u s (dN u.1)).1 (nI (fstA (mskA u s (dN u.1)))) ((dogsA u s (dN u.1)).1 44 + 1) 44 + 1), (dogsA u s (dN u.1)).2.1, upd (upd (dogsA u s (dN u.1)).2.2 18 1) 14 ((dogsA u s (dN u.1)).2.2 14 + 1)) := by
  simp only [tikA, if_pos h, rstA, decide_eq_true h]
  rw [upd_n (show (14 : Nat) ≠ 18 by decide)]
  rfl
theorem dogsA_dN {u : wU} {s : Int32} {n : Nat} (hn : n ≤ 4) : dN (dogsA u s n).1 = dN u.1 := by
  unfold dN
  rw [dogsA_n (fun d hd => by omega)]
theorem rstN_n {n : wRow} {d f : Int32} {j : Nat} (h4 : dN n ≤ 4) (hj : ∀ d, d < dN n → j ≠ 4 * d + 2 ∧ j ≠ 4 * d + 3) (h34 : j ≠ 34) (h45 : j ≠ 45) (h46 : j ≠ 46) (h47 : j ≠ 47) : rstN n d f j = n j := by
  rw [rstN, zerA_n hj, upd_n h46, upd_n h34, upd_n h47, upd_n h45]
theorem rstN_34 {n : wRow} {d f : Int32} (h4 : dN n ≤ 4) : rstN n d f 34 = 0 := by
  rw [rstN, zerA_hi h4 (by decide), upd_n (by decide), upd_s]
theorem rstN_45 {n : wRow} {d f : Int32} (h4 : dN n ≤ 4) : rstN n d f 45 = if n 45 < 999 then n 45 + 1 else 999 := by
  rw [rstN, zerA_hi h4 (by decide), upd_n (by decide), upd_n (by decide), upd_n (by decide), upd_s]
theorem r999 {r : Nat} (h : r ≤ 999) : ∃ q : Nat, (if nI r < 999 then nI r + 1 else 999) = nI q ∧ q ≤ 999 := by
  by_cases h1 : r < 999
  · exact ⟨r + 1, by rw [il999, if_pos (nI_lt h1 (by decide)), nI_1], by omega⟩
  · exact ⟨999, by rw [il999, if_neg (nI_nlt (by omega) (by omega))], Nat.le_refl _⟩
theorem tik_wf {u : wU} {s : Int32} (hw : wf u.1) : wf (tikA u s).1 ∧ dN (tikA u s).1 = dN u.1 ∧ sN (tikA u s).1 = sN u.1 ∧ jN (tikA u s).1 = jN u.1 ∧ eN (tikA u s).1 = eN u.1 := by
  have hD4 := hw.1.2
  have hdd := dogsA_dN (u := u) (s := s) hD4
  rcases Nat.eq_zero_or_pos (mskA u s (dN u.1)) with h | h
  · rw [tik_0 h]
    refine wf_row hw (fun j h34 hj h44 h45 h46 h47 => ?_) ?_ ?_ (fun d hd => ?_)
    · dsimp only
      rw [upd_n h44]
      exact dogsA_n hj
    · dsimp only
      have e : upd (dogsA u s (dN u.1)).1 44 ((dogsA u s (dN u.1)).1 44 + 1) 34 = u.1 34 := by
        rw [upd_n (by decide)]
        exact dogsA_n (fun d hd => by omega)
      have e2 : pN (upd (dogsA u s (dN u.1)).1 44 ((dogsA u s (dN u.1)).1 44 + 1)) = pN u.1 := by
        unfold pN
        rw [e]
      rw [e, e2]
      exact hw.2.2.2.2.1
    · dsimp only
      rw [upd_n (by decide), dogsA_n (fun d hd => by omega)]
      exact hw.2.2.2.2.2.1
    · dsimp only
      rw [upd_n (by omega), dogsA_bark hd]
      split
      · exact (hw.2.2.2.2.2.2.1 d hd).2
      · rename_i hs
        refine dg_bit (hw.2.2.2.2.2.2.1 d hd).2 ?_
        cases hx : dgX (u.1 (4 * d)) (u.1 (4 * d + 1)) (u.1 (4 * d + 2)) (u.1 (4 * d + 3)) (fdA s d) with
        | false => rfl
        | true =>
          have := msk_pos hd hs hx
          omega
  · rw [tik_1 h]
    refine wf_row hw (fun j h34 hj h44 h45 h46 h47 => ?_) ?_ ?_ (fun d hd => ?_)
    · dsimp only
      rw [upd_n h44, rstN_n (by rw [hdd]; exact hD4) (by rw [hdd]; exact hj) h34 h45 h46 h47]
      exact dogsA_n hj
    · dsimp only
      have e : ∀ x y z, upd (rstN (dogsA u s (dN u.1)).1 x y) 44 z 34 = nI 0 := fun x y z => by
        rw [upd_n (by decide), rstN_34 (by rw [hdd]; exact hD4)]
        rfl
      have e2 : ∀ x y z, pN (upd (rstN (dogsA u s (dN u.1)).1 x y) 44 z) = 0 := fun x y z => by
        unfold pN
        rw [e]
        rfl
      rw [e, e2]
      exact ⟨rfl, Or.inr rfl⟩
    · dsimp only
      rw [upd_n (by decide), rstN_45 (by rw [hdd]; exact hD4), dogsA_n (fun d hd => by omega)]
      obtain ⟨r, h1, h2⟩ := hw.2.2.2.2.2.1
      rw [h1]
      exact r999 h2
    · dsimp only
      rw [upd_n (by omega), rstN, (zerA_at (by rw [hdd]; exact hd)).2]
      exact Or.inl rfl
theorem plc_wf {n : wRow} (hw : wf n) : wf (plcA n) ∧ dN (plcA n) = dN n ∧ sN (plcA n) = sN n ∧ jN (plcA n) = jN n ∧ eN (plcA n) = eN n := by
  unfold plcA
  split
  · exact ⟨hw, rfl, rfl, rfl, rfl⟩
  · rename_i h
    have h0 : ¬ sN n = 0 := fun z => h (Or.inr z)
    have hS := hw.2.1.2
    refine wf_row hw (fun j h34 _ _ _ _ _ => upd_n h34) ?_ ?_ (fun d hd => ?_)
    · have e : ∀ q, q < sN n → (upd n 34 (nI q)) 34 = nI (pN (upd n 34 (nI q))) ∧ (pN (upd n 34 (nI q)) < sN n ∨ pN (upd n 34 (nI q)) = 0) := by
        intro q hq
        have : pN (upd n 34 (nI q)) = q := by
          unfold pN
          rw [upd_s, nI_clamp (by omega)]
        rw [this, upd_s]
        exact ⟨rfl, Or.inl hq⟩
      split
      · rename_i h1
        exact e _ h1
      · exact e 0 (by omega)
    · rw [upd_n (by decide)]
      exact hw.2.2.2.2.2.1
    · rw [upd_n (by omega)]
      exact (hw.2.2.2.2.2.2.1 d hd).2
theorem tk_wf {lost : Bool} {u : wU} (hw : wf u.1) : wf (tkA lost u).1 ∧ dN (tkA lost u).1 = dN u.1 ∧ sN (tkA lost u).1 = sN u.1 ∧ jN (tkA lost u).1 = jN u.1 ∧ eN (tkA lost u).1 = eN u.1 := by
  obtain ⟨h1, h2, h3, h4, h5⟩ := plc_wf hw
  have := tik_wf (u := (plcA u.1, u.2.1, upd u.2.2 15 (u.2.2 15 + bI (isStk u.1)))) (s := cond lost 0 (sgnA u.1)) h1
  obtain ⟨g1, g2, g3, g4, g5⟩ := this
  exact ⟨g1, g2.trans h2, g3.trans h3, g4.trans h4, g5.trans h5⟩
theorem tks_wf {u : wU} (hw : wf u.1) : ∀ n, wf (tksA n u).1 ∧ dN (tksA n u).1 = dN u.1 ∧ sN (tksA n u).1 = sN u.1 ∧ jN (tksA n u).1 = jN u.1 ∧ eN (tksA n u).1 = eN u.1
  | 0 => ⟨hw, rfl, rfl, rfl, rfl⟩
  | n + 1 => by
    obtain ⟨h1, h2, h3, h4, h5⟩ := tks_wf hw n
    obtain ⟨g1, g2, g3, g4, g5⟩ := tk_wf (lost := false) h1
    exact ⟨g1, g2.trans h2, g3.trans h3, g4.trans h4, g5.trans h5⟩
section R
variable {G : wd_G} {s : wd_S} {τ : wd_T} {Q : wd_P}
theorem l_R_first {m : Nat} {sg : Int32} {x4 x5 : Option Value} {σ : wd_S} (hm : m < 16) (h0 : 0 < m) (h : Run wR G M_R_dogsGo 139 [some (.ref 0), some (.int sg), some (.int (nI m)), some (.int (nI (fstA m))), x4, x5] [] σ τ Q) :
    ∀ (k j : Nat), fstA m = j + k → Run wR G M_R_dogsGo 125 [some (.ref 0), some (.int sg), some (.int (nI m)), some (.int (nI j)), x4, x5] [] σ τ Q := by
  intro k
  have h4 := fst_lt m
  induction k with
  | zero =>
    intro j hj
    have e : j = fstA m := by omega
    subst e
    refine wd_go ok_R_dogsGo [125, 139] 20 (fun R hR => ?_)
    conv => whnf
    try dsimp only
    refine nb_t (fst_at m hm h0) ?_
    conv => whnf
    try dsimp only
    exact hR h
  | succ k ih =>
    intro j hj
    refine wd_go ok_R_dogsGo [125, 139] 20 (fun R hR => ?_)
    conv => whnf
    try dsimp only
    refine nb_f (fst_lo m hm j (by omega) (by omega)) ?_
    conv => whnf
    try dsimp only
    refine fL_to ?_
    conv => whnf
    try dsimp only
    refine hR ?_
    have := ih (j + 1) (by omega)
    rw [nI_succ] at this
    exact this
theorem s_R_dogsGo {u : wU} {sg : Int32} (hw : wf u.1) (h : Q none (mR s (tikA u sg)) τ) : Run wR G M_R_dogsGo 0 [some (.ref 0), some (.int sg), none, none, none, none] [] (mR s u) τ Q := by
  refine wd_go ok_R_dogsGo [4] 20 (fun R hR => ?_)
  conv => whnf
  try dsimp only
  refine hR (l_R_dogs hw (fun x4 x5 => ?_) (dN u.1) 0 none none (by omega))
  have hD4 := hw.1.2
  have hm : mskA u sg (dN u.1) < 16 := Nat.lt_of_lt_of_le (mskA_lt _) (Nat.le_trans (Nat.pow_le_pow_right (by decide) hD4) (by decide))
  rcases Nat.eq_zero_or_pos (mskA u sg (dN u.1)) with h0 | h0
  · rw [tik_0 h0] at h
    rw [h0]
    refine wd_go ok_R_dogsGo [] 40 (fun R hR => ?_)
    conv => whnf
    try dsimp only
    refine br_t (by decide) ?_
    conv => whnf
    try dsimp only
    refine ⟨Or.inl rfl, ?_⟩
    conv => whnf
    try dsimp only
    refine br_t rfl ?_
    conv => whnf
    try dsimp only
    refine ⟨vp_in_nI (by first | decide | omega) (by first | decide | omega), ?_⟩
    conv => whnf
    try dsimp only
    refine ⟨vp_in_nI (by first | decide | omega) (by first | decide | omega), ?_⟩
    conv => whnf
    try dsimp only
    refine ⟨rfl, ?_⟩
    simp only [mR_w0, mR_w2, cl44]
    exact h
  · rw [tik_1 h0] at h
    refine wd_go ok_R_dogsGo [125] 40 (fun R hR => ?_)
    conv => whnf
    try dsimp only
    refine br_f (nI_nle h0 (by omega)) ?_
    conv => whnf
    try dsimp only
    refine ⟨Or.inr rfl, ?_⟩
    conv => whnf
    try dsimp only
    refine br_f (show ¬ (1 : Int32) = 0 by decide) ?_
    conv => whnf
    try dsimp only
    refine fL_to ?_
    conv => whnf
    try dsimp only
    refine hR (l_R_first hm h0 ?_ (fstA (mskA u sg (dN u.1))) 0 (by omega))
    refine wd_go ok_R_dogsGo [] 40 (fun R hR => ?_)
    conv => whnf
    try dsimp only
    refine ⟨vp_in_nI (by first | decide | omega) (by first | decide | omega), ?_⟩
    conv => whnf
    try dsimp only
    simp only [mR_w0, mR_2, cl44]
    have hdd := dogsA_dN (u := u) (s := sg) hD4
    refine hR (k_R_dogsGo_150 (Nat.le_of_ble_eq_true rfl) rfl (s_R_resets ?_ ?_))
    · rw [mR_2]
      dsimp only
      rw [hdd, dogsA_n (fun d hd => by omega)]
      exact hw.1
    · rw [mR_w0, mR_w2]
      refine wd_go ok_R_dogsGo [] 40 (fun R hR => ?_)
      conv => whnf
      try dsimp only
      refine ⟨vp_in_nI (by first | decide | omega) (by first | decide | omega), ?_⟩
      conv => whnf
      try dsimp only
      refine ⟨vp_in_nI (by first | decide | omega) (by first | decide | omega), ?_⟩
      conv => whnf
      try dsimp only
      refine ⟨rfl, ?_⟩
      simp only [mR_w2, cl44]
      dsimp only [mR_0, mR_2]
      rw [upd_n (show (14 : Nat) ≠ 18 by decide)]
      exact h
end R
