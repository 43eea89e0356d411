/-! SIGNS stay signs under every change -/
theorem sg_agree {n m : wRow} (hm : ∀ j, 17 ≤ j → j ≤ 33 → m j = n j) (hw : wf n) (h : sgO n) : sgO m := by
  have h16 := hw.2.1.2
  have e : sN m = sN n := by unfold sN; rw [hm 33 (by omega) (by omega)]
  intro i hi
  rw [e] at hi
  rw [hm _ (by omega) (by omega)]
  exact h i hi
theorem sg_cAlter {P : wRow} (hw : wf P) (h : sgO P) {d w v : Int32} : sgO (cAlter P d w v).2 := by
  have hD4 := hw.1.2
  rw [cAlter]
  split
  · rename_i hd
    obtain ⟨hd, hc⟩ := hd
    rw [hw.1.1] at hd
    obtain ⟨d, hdd, rfl⟩ := inD (by omega) hd
    have hw1 : w.toNatClampNeg ≤ 1 := by
      rcases hc with ⟨rfl, -⟩ | ⟨rfl, -⟩
      · exact Nat.zero_le 1
      · exact Nat.le_refl 1
    refine sg_agree (fun j h1 h2 => ?_) hw h
    dsimp only
    rw [nI_clamp (by omega), upd_n (by omega)]
  · exact h
theorem sg_cAdd {P : wRow} (hw : wf P) (h : sgO P) {v : Int32} : sgO (cAdd P v).2 := by
  have hs := hw.2.1.1
  have hs16 := hw.2.1.2
  rw [cAdd]
  split
  · rename_i hv
    split
    · exact h
    · rename_i hz
      have hlt : sN P < 16 := by
        refine Nat.lt_of_le_of_ne hs16 (fun e => hz ?_)
        rw [hs, e]
        rfl
      obtain ⟨w, hww, rfl⟩ := inN (N := 15) (by decide) hv
      dsimp only
      rw [hs, ← nI_succ]
      have hsn : sN (upd (upd P (17 + sN P) (nI w)) 33 (nI (sN P + 1))) = sN P + 1 := ckN (by omega)
      intro i hi
      rw [hsn] at hi
      rw [upd_n (by omega)]
      by_cases e : i = sN P
      · subst e
        rw [upd_s]
        exact ⟨w, rfl, hww⟩
      · rw [upd_n (by omega)]
        exact h i (by omega)
  · exact h
theorem sg_cCut {P : wRow} (hw : wf P) (h : sgO P) {n : Int32} : sgO (cCut P n).2 := by
  have hs := hw.2.1.1
  have hs16 := hw.2.1.2
  rw [cCut]
  split
  · rename_i hv
    rw [hs] at hv
    obtain ⟨k, hk, rfl⟩ := inN (by omega) hv
    intro i hi
    have hsn : sN (upd (upd P 34 (if P 34 < nI k then P 34 else 0)) 33 (nI k)) = k := ckN (by omega)
    rw [hsn] at hi
    dsimp only
    rw [upd_n (by omega), upd_n (by omega)]
    exact h i (by omega)
  · exact h
theorem sg_cClear {P : wRow} (hw : wf P) (h : sgO P) {n : Int32} : sgO (cClear P n).2 := by
  rw [cClear]
  split
  · refine sg_agree (fun j h1 h2 => ?_) hw h
    dsimp only
    rw [upd_n (by omega)]
  · exact h
theorem sg_cForget {P : wRow} (hw : wf P) (h : sgO P) {n : Int32} : sgO (cForget P n).2 := by
  rw [cForget]
  split
  · refine sg_agree (fun j h1 h2 => ?_) hw h
    dsimp only
    rw [upd_n (by omega)]
  · exact h
theorem sg_cStick {P : wRow} (hw : wf P) (h : sgO P) {t n : Int32} : sgO (cStick P t n).2 := by
  rw [cStick]
  split
  · split
    · exact h
    · refine sg_agree (fun j h1 h2 => ?_) hw h
      dsimp only
      rw [upd_n (by omega), upd_n (by omega), upd_n (by omega)]
  · exact h
theorem sg_cSee {P : wRow} (hw : wf P) (h : sgO P) {t n : Int32} : sgO (cSee P t n).2 := by
  rw [cSee]
  split
  · split
    · exact h
    · refine sg_agree (fun j h1 h2 => ?_) hw h
      dsimp only
      rw [upd_n (by omega), upd_n (by omega), upd_n (by omega)]
  · exact h
theorem sg_cBone {P : wRow} (hw : wf P) (h : sgO P) {d : Int32} : sgO (cBone P d).2 := by
  have hD4 := hw.1.2
  rw [cBone]
  split
  · rename_i hd
    rw [hw.1.1] at hd
    obtain ⟨d, hdd, rfl⟩ := inD (by omega) hd
    rw [nI_clamp (by omega)]
    have hm : ∀ j, j ≠ 4 * d + 2 → j ≠ 4 * d + 3 → rwD P d true j = P j := fun j h1 h2 => by rw [rwD, upd_n h2, upd_n h1]
    have hdn : dN (rwD P d true) = dN P := dN_of (hm 16 (by omega) (by omega))
    dsimp only
    split
    · refine sg_agree (fun j h1 h2 => ?_) hw h
      rw [rstN_n (by rw [hdn]; exact hD4) (fun e he => by rw [hdn] at he; omega) (by omega) (by omega) (by omega) (by omega)]
      exact hm j (by omega) (by omega)
    · exact sg_agree (fun j h1 h2 => hm j (by omega) (by omega)) hw h
  · exact h
theorem tik_sg {u : wU} {s : Int32} (hw : wf u.1) {j : Nat} (h1 : 17 ≤ j) (h2 : j ≤ 33) : (tikA u s).1 j = u.1 j := by
  have hD4 := hw.1.2
  have hd : (dogsA u s (dN u.1)).1 j = u.1 j := dogsA_n (fun d hd => by omega)
  rcases Nat.eq_zero_or_pos (mskA u s (dN u.1)) with h | h
  · rw [tik_0 h]
    dsimp only
    rw [upd_n (by omega)]
    exact hd
  · rw [tik_1 h]
    dsimp only
    rw [upd_n (by omega), rstN_n (by rw [dogsA_dN hD4]; exact hD4) (fun e he => by rw [dogsA_dN hD4] at he; omega) (by omega) (by omega) (by omega) (by omega)]
    exact hd
theorem tks_sg {u : wU} (hw : wf u.1) {j : Nat} (h1 : 17 ≤ j) (h2 : j ≤ 33) : ∀ n, (tksA n u).1 j = u.1 j
  | 0 => rfl
  | n + 1 => by
    have hn := tks_wf hw n
    rw [tksA, tkA, tik_sg (u := (plcA (tksA n u).1, (tksA n u).2.1, upd (tksA n u).2.2 15 ((tksA n u).2.2 15 + bI (isStk (tksA n u).1)))) (plc_wf hn.1).1 h1 h2]
    dsimp only
    unfold plcA
    split
    · exact tks_sg hw h1 h2 n
    · rw [upd_n (by omega)]
      exact tks_sg hw h1 h2 n
theorem sg_cTicks {P : wRow} (hw : wf P) (h : sgO P) {n : Int32} : sgO (cTicks P n).2 := by
  rw [cTicks]
  split
  · split
    · exact sg_agree (fun j h1 h2 => tks_sg (u := stP P (-4)) hw h1 h2 _) hw h
    · exact h
  · exact h
theorem wf_cRead {P c : wRow} {k ln sz lane f n : Int32} (hw : wf P) : wf (cRead P c k ln sz lane f n) := by
  unfold cRead
  split
  · cases (rdX P c ln sz lane f n.toNatClampNeg).1 with
    | true => exact (rdP_33 hw _).1
    | false => exact hw
  · exact hw
theorem sg_cRead {P c : wRow} {k ln sz lane f n : Int32} (hw : wf P) (h : sgO P) : sgO (cRead P c k ln sz lane f n) := by
  unfold cRead
  split
  · cases (rdX P c ln sz lane f n.toNatClampNeg).1 with
    | true => exact rdP_sg hw h _
    | false => exact h
  · exact h
