/-! CHANGES: what is sure stays sure -/
theorem wf_agree {n m : wRow} (hw : wf n) (hm : ∀ j, (j < 17 ∨ j = 33 ∨ j = 34 ∨ j = 43 ∨ j = 45 ∨ j = 48 ∨ (49 ≤ j ∧ j < 49 + 2 * eN n)) → m j = n j) : wf m := by
  obtain ⟨h1, h2, h3, h4, h5, h6, h7, h8⟩ := hw
  have d1 : dN m = dN n := by unfold dN; rw [hm 16 (by omega)]
  have d2 : sN m = sN n := by unfold sN; rw [hm 33 (by omega)]
  have d3 : jN m = jN n := by unfold jN; rw [hm 43 (by omega)]
  have d4 : eN m = eN n := by unfold eN; rw [hm 48 (by omega)]
  have d5 : pN m = pN n := by unfold pN; rw [hm 34 (by omega)]
  have hD := h1.2
  unfold wf
  rw [d1, d2, d3, d4, d5, hm 16 (by omega), hm 33 (by omega), hm 43 (by omega), hm 48 (by omega), hm 34 (by omega), hm 45 (by omega)]
  refine ⟨h1, h2, h3, h4, h5, h6, fun e he => ?_, fun i hi => ?_⟩
  · rw [hm _ (by omega), hm _ (by omega)]
    exact h7 e he
  · rw [hm _ (by omega)]
    exact h8 i hi
theorem ckN {n : wRow} {F k : Nat} (hk : k < 2 ^ 31) : (upd n F (nI k) F).toNatClampNeg = k := by rw [upd_s, nI_clamp hk]
theorem wf_n33 {n : wRow} {k : Nat} (hk : k ≤ 16) (hp : pN n < k ∨ pN n = 0) (hw : wf n) : wf (upd n 33 (nI k)) := by
  obtain ⟨h1, h2, h3, h4, h5, h6, h7, h8⟩ := hw
  have d2 : sN (upd n 33 (nI k)) = k := ckN (by omega)
  have hD := h1.2
  have hE := h4.2
  refine ⟨h1, ⟨by rw [d2, upd_s], by rw [d2]; exact hk⟩, h3, h4, ⟨h5.1, ?_⟩, h6, fun e he => ?_, fun i hi => ?_⟩
  · rw [d2]
    exact hp
  · have he : e < dN n := he
    rw [upd_n (by omega), upd_n (by omega)]
    exact h7 e he
  · have hi : i < eN n := hi
    rw [upd_n (by omega)]
    exact h8 i hi
theorem wf_n34 {n : wRow} {k : Nat} (hk : k < 2 ^ 31) (hp : k < sN n ∨ k = 0) (hw : wf n) : wf (upd n 34 (nI k)) := by
  obtain ⟨h1, h2, h3, h4, h5, h6, h7, h8⟩ := hw
  have d2 : pN (upd n 34 (nI k)) = k := ckN hk
  have hD := h1.2
  have hE := h4.2
  refine ⟨h1, h2, h3, h4, ⟨by rw [d2, upd_s], ?_⟩, h6, fun e he => ?_, fun i hi => ?_⟩
  · rw [d2]
    exact hp
  · have he : e < dN n := he
    rw [upd_n (by omega), upd_n (by omega)]
    exact h7 e he
  · have hi : i < eN n := hi
    rw [upd_n (by omega)]
    exact h8 i hi
theorem wf_n43 {n : wRow} {k : Nat} (hk : k ≤ 4) (hw : wf n) : wf (upd n 43 (nI k)) := by
  obtain ⟨h1, h2, h3, h4, h5, h6, h7, h8⟩ := hw
  have d2 : jN (upd n 43 (nI k)) = k := ckN (by omega)
  have hD := h1.2
  have hE := h4.2
  refine ⟨h1, h2, ⟨by rw [d2, upd_s], by rw [d2]; exact hk⟩, h4, h5, h6, fun e he => ?_, fun i hi => ?_⟩
  · have he : e < dN n := he
    rw [upd_n (by omega), upd_n (by omega)]
    exact h7 e he
  · have hi : i < eN n := hi
    rw [upd_n (by omega)]
    exact h8 i hi
theorem wf_n48 {n : wRow} {k : Nat} (hk : k ≤ 6) (hs : ∀ i, i < k → ∃ t : Nat, n (49 + 2 * i) = nI t ∧ t ≤ 40) (hw : wf n) : wf (upd n 48 (nI k)) := by
  obtain ⟨h1, h2, h3, h4, h5, h6, h7, h8⟩ := hw
  have d2 : eN (upd n 48 (nI k)) = k := ckN (by omega)
  have hD := h1.2
  refine ⟨h1, h2, h3, ⟨by rw [d2, upd_s], by rw [d2]; exact hk⟩, h5, h6, fun e he => ?_, fun i hi => ?_⟩
  · have he : e < dN n := he
    rw [upd_n (by omega), upd_n (by omega)]
    exact h7 e he
  · rw [d2] at hi
    rw [upd_n (by omega)]
    exact hs i hi
theorem wf_cAlter {P : wRow} (hw : wf P) {d w v : Int32} : wf (cAlter P d w v).2 := by
  have hD4 := hw.1.2
  rw [cAlter]
  by_cases hc : inB d 0 (P 16 - 1) = true ∧ ((w = 0 ∧ inB v 0 3 = true) ∨ (w = 1 ∧ inB v 1 20 = true))
  · rw [if_pos hc]
    have hd := hc.1
    rw [hw.1.1] at hd
    obtain ⟨d, hdd, rfl⟩ := inD (by omega) hd
    rw [nI_clamp (by omega)]
    rcases hc.2 with ⟨rfl, hv⟩ | ⟨rfl, hv⟩
    · obtain ⟨k, hk, rfl⟩ := inN (N := 3) (by decide) hv
      exact wf_knd (by omega) hk hw
    · exact wf_lim (by omega) hw
  · rw [if_neg hc]
    exact hw
theorem wf_cSet {P : wRow} (hw : wf P) {i v : Int32} : wf (cSet P i v).2 := by
  have hs16 := hw.2.1.2
  rw [cSet]
  by_cases hc : inB i 0 (P 33 - 1) = true ∧ inB v 0 15 = true
  · rw [if_pos hc]
    have hd := hc.1
    rw [hw.2.1.1] at hd
    obtain ⟨d, hdd, rfl⟩ := inD (by omega) hd
    rw [nI_clamp (by omega)]
    exact wf_sgn (by omega) hw
  · rw [if_neg hc]
    exact hw
theorem wf_cAdd {P : wRow} (hw : wf P) {v : Int32} : wf (cAdd P v).2 := by
  have hs := hw.2.1.1
  have hs16 := hw.2.1.2
  rw [cAdd]
  split
  · split
    · exact hw
    · rename_i hz
      have hlt : sN P < 16 := by
        refine Nat.lt_of_le_of_ne hs16 (fun e => hz ?_)
        rw [hs, e]
        rfl
      rw [hs, ← nI_succ]
      have hp : pN (upd P (17 + sN P) v) = pN P := by
        unfold pN
        rw [upd_n (by omega)]
      refine wf_n33 hlt ?_ (wf_sgn hlt hw)
      rw [hp]
      have := hw.2.2.2.2.1.2
      omega
  · exact hw
theorem wf_cCut {P : wRow} (hw : wf P) {n : Int32} : wf (cCut P n).2 := by
  have hs := hw.2.1.1
  have hs16 := hw.2.1.2
  have hp := hw.2.2.2.2.1
  rw [cCut]
  split
  · rename_i hv
    rw [hs] at hv
    obtain ⟨k, hk, rfl⟩ := inN (by omega) hv
    dsimp only
    split
    · rename_i hz
      rw [upd_self]
      refine wf_n33 (by omega) ?_ hw
      rw [hp.1] at hz
      rcases Nat.lt_or_ge (pN P) k with h | h
      · exact Or.inl h
      · exact absurd hz (nI_nlt h (by omega))
    · exact wf_n33 (by omega) (Or.inr rfl) (wf_n34 (k := 0) (by decide) (Or.inr rfl) hw)
  · exact hw
theorem wf_cClear {P : wRow} (hw : wf P) {n : Int32} : wf (cClear P n).2 := by
  have hs := hw.2.2.1.1
  have hs4 := hw.2.2.1.2
  rw [cClear]
  split
  · rename_i hv
    rw [hs] at hv
    obtain ⟨k, hk, rfl⟩ := inN (by omega) hv
    exact wf_n43 (by omega) hw
  · exact hw
theorem wf_cForget {P : wRow} (hw : wf P) {n : Int32} : wf (cForget P n).2 := by
  have hs := hw.2.2.2.1.1
  have hs4 := hw.2.2.2.1.2
  rw [cForget]
  split
  · rename_i hv
    rw [hs] at hv
    obtain ⟨k, hk, rfl⟩ := inN (by omega) hv
    exact wf_n48 (by omega) (fun i hi => hw.2.2.2.2.2.2.2 i (by omega)) hw
  · exact hw
theorem wf_cStick {P : wRow} (hw : wf P) {t n : Int32} : wf (cStick P t n).2 := by
  have hs := hw.2.2.1.1
  have hs4 := hw.2.2.1.2
  rw [cStick]
  split
  · split
    · exact hw
    · rename_i hz
      have hlt : jN P < 4 := by
        refine Nat.lt_of_le_of_ne hs4 (fun e => hz ?_)
        rw [hs, e]
        rfl
      rw [hs, ← nI_succ]
      refine wf_n43 hlt (wf_agree hw (fun j hj => ?_))
      rw [upd_n (by omega), upd_n (by omega)]
  · exact hw
theorem wf_cSee {P : wRow} (hw : wf P) {t n : Int32} : wf (cSee P t n).2 := by
  have hs := hw.2.2.2.1.1
  have hs4 := hw.2.2.2.1.2
  rw [cSee]
  split
  · rename_i hc
    split
    · exact hw
    · rename_i hz
      have hlt : eN P < 6 := by
        refine Nat.lt_of_le_of_ne hs4 (fun e => hz ?_)
        rw [hs, e]
        rfl
      rw [hs, ← nI_succ]
      obtain ⟨k, hk, rfl⟩ := inN (N := 40) (by decide) hc.1
      refine wf_n48 hlt (fun i hi => ?_) (wf_agree hw (fun j hj => ?_))
      · by_cases e : i = eN P
        · subst e
          rw [upd_n (by omega), upd_s]
          exact ⟨k, rfl, hk⟩
        · rw [upd_n (by omega), upd_n (by omega)]
          exact hw.2.2.2.2.2.2.2 i (by omega)
      · rw [upd_n (by omega), upd_n (by omega)]
  · exact hw
theorem wf_cBone {P : wRow} (hw : wf P) {d : Int32} : wf (cBone P d).2 := by
  have hD4 := hw.1.2
  rw [cBone]
  split
  · rename_i hd
    rw [hw.1.1] at hd
    obtain ⟨d, hdd, rfl⟩ := inD (by omega) hd
    rw [nI_clamp (by omega)]
    have hm : ∀ j, j ≠ 4 * d + 2 → j ≠ 4 * d + 3 → rwD P d true j = P j := fun j h1 h2 => by rw [rwD, upd_n h2, upd_n h1]
    have hdn : dN (rwD P d true) = dN P := dN_of (hm 16 (by omega) (by omega))
    have hpn : pN (rwD P d true) = pN P := by
      unfold pN
      rw [hm 34 (by omega) (by omega)]
    dsimp only
    split
    · refine (wf_row hw (fun j h34 hj h44 h45 h46 h47 => ?_) ?_ ?_ (fun e he => ?_)).1
      · rw [rstN_n (by rw [hdn]; exact hD4) (by rw [hdn]; exact hj) h34 h45 h46 h47]
        exact hm j (hj d hdd).1 (hj d hdd).2
      · have e : rstN (rwD P d true) (nI d) (P 44) 34 = nI 0 := rstN_34 (by rw [hdn]; exact hD4)
        have e2 : pN (rstN (rwD P d true) (nI d) (P 44)) = 0 := by
          unfold pN
          rw [e]
          rfl
        rw [e, e2]
        exact ⟨rfl, Or.inr rfl⟩
      · rw [rstN_45 (by rw [hdn]; exact hD4), hm 45 (by omega) (by omega)]
        obtain ⟨r, h1, h2⟩ := hw.2.2.2.2.2.1
        rw [h1]
        exact r999 h2
      · rw [rstN, (zerA_at (by rw [hdn]; exact he)).2]
        exact Or.inl rfl
    · rename_i hx
      refine (wf_row hw (fun j h34 hj h44 h45 h46 h47 => ?_) ?_ ?_ (fun e he => ?_)).1
      · exact hm j (hj d hdd).1 (hj d hdd).2
      · rw [hpn, hm 34 (by omega) (by omega)]
        exact hw.2.2.2.2.1
      · rw [hm 45 (by omega) (by omega)]
        exact hw.2.2.2.2.2.1
      · by_cases e1 : e = d
        · subst e1
          rw [rwD, upd_s]
          refine dg_bit (hw.2.2.2.2.2.2.1 e he).2 ?_
          cases hq : rwX P e true with
          | false => exact hq
          | true => exact absurd hq hx
        · rw [hm _ (by omega) (by omega)]
          exact (hw.2.2.2.2.2.2.1 e he).2
  · exact hw
theorem wf_cTicks {P : wRow} (hw : wf P) {n : Int32} : wf (cTicks P n).2 := by
  rw [cTicks]
  split
  · split
    · exact (tks_wf (u := stP P (-4)) hw _).1
    · exact hw
  · exact hw
