/-! BOTH: sheet, lay, read -/
theorem Inv.sh {σ ρ σ' ρ' : wd_S} (h : Inv σ ρ) (f : ∀ c, c ≠ 8 → c ≠ 9 → (c < 60 ∨ 64 ≤ c) → σ' c = σ c) (g : ∀ c, c ≠ 9 → c ≠ 10 → c ≠ 11 → ρ' c = ρ c) (hs : ∀ k, k < 4 → σ' 8 k = ρ' 9 k ∧ σ' 9 k = ρ' 10 k ∧ (∃ z : Nat, ρ' 10 k = nI z ∧ z ≤ 40) ∧ ∀ j, j < 40 → σ' (60 + k) j = ρ' 11 (40 * k + j)) : Inv σ' ρ' := by
  obtain ⟨i1, i4, ⟨b, L, i5, i6⟩, i7, -, i9, i10, i11⟩ := h
  have e1 : ρ' 1 = ρ 1 := g 1 (by decide) (by decide) (by decide)
  have eI : ∀ k, imR ρ' k = imR ρ k := im_eq (fun j _ => by rw [e1])
  refine ⟨?_, fun k hk => ?_, ⟨b, L, ⟨?_, i5.2.1, fun i hi => ?_⟩, ⟨?_, i6.2.1, fun i hi => ?_⟩⟩, ?_, hs, ?_, fun d hd => ?_, ?_⟩
  · rw [e1]
    exact ⟨relC_kept i1.1 (fun j hj => f _ (by omega) (by omega) (by omega)), i1.2⟩
  · rw [g 3 (by decide) (by decide) (by decide), f 65 (by decide) (by decide) (by decide), eI]
    exact ⟨(i4 k hk).1, (i4 k hk).2.1, fun z => ⟨relC_kept ((i4 k hk).2.2 z).1 (fun j hj => f _ (by omega) (by omega) (by omega)), ((i4 k hk).2.2 z).2⟩⟩
  · rw [f 4 (by decide) (by decide) (by decide)]
    exact i5.1
  · rw [f 5 (by decide) (by decide) (by decide)]
    exact i5.2.2 i hi
  · rw [g 0 (by decide) (by decide) (by decide)]
    exact i6.1
  · rw [g 5 (by decide) (by decide) (by decide)]
    exact i6.2.2 i hi
  · rw [f 4 (by decide) (by decide) (by decide), g 0 (by decide) (by decide) (by decide)]
    exact i7
  · rw [f 0 (by decide) (by decide) (by decide), g 0 (by decide) (by decide) (by decide)]
    exact i9
  · rw [f 33 (by decide) (by decide) (by decide), f 34 (by decide) (by decide) (by decide)]
    exact i10 d hd
  · unfold dfF
    rw [f 30 (by decide) (by decide) (by decide)]
    exact i11
theorem bo_sheet (k ln n : Int32) : BoV M_D_sheet M_R_sheet [.int k, .int ln, .int n] isI := by
  intro GC GR σ ρ τ υ h
  refine ⟨.int (aSheet k ln n), ⟨_, rfl⟩, fun σ' => σ' = (if okSh k ln n = true then wd_uc (wd_uc (wd_uc σ (60 + k.toNatClampNeg) (fil (fun _ => 0) (σ (60 + k.toNatClampNeg)) 40)) 8 (upd (σ 8) k.toNatClampNeg ln)) 9 (upd (σ 9) k.toNatClampNeg n) else σ), fun ρ' => ρ' = (if okSh k ln n = true then wd_uc (wd_uc (wd_uc ρ 9 (upd (ρ 9) k.toNatClampNeg ln)) 10 (upd (ρ 10) k.toNatClampNeg n)) 11 (z40 (ρ 11) k.toNatClampNeg 40) else ρ), s_D_sheet ⟨rfl, rfl⟩, s_R_sheet ⟨rfl, rfl⟩, fun σ' ρ' e1 e2 => ?_⟩
  subst e1
  subst e2
  by_cases hk : okSh k ln n = true
  · rw [if_pos hk, if_pos hk]
    obtain ⟨hk1, hk2, hk3, hk4⟩ := of_decide_eq_true hk
    obtain ⟨q, hq, rfl⟩ := inN (N := 3) (by decide) hk1
    obtain ⟨z, hz, rfl⟩ := inN (x := n) (N := 40) (by decide) (decide_eq_true ⟨hk4, hk3⟩)
    rw [nI_clamp (by omega)]
    refine h.sh (fun c h8 h9 hc => by rw [uc_n h9, uc_n h8, uc_n (by omega)]) (fun c h9 h10 h11 => by rw [uc_n h11, uc_n h10, uc_n h9]) (fun p hp => ?_)
    obtain ⟨a1, a2, a3, a4⟩ := h.2.2.2.2.1 p hp
    have e8 : (wd_uc (wd_uc (wd_uc σ (60 + q) (fil (fun _ => 0) (σ (60 + q)) 40)) 8 (upd (σ 8) q ln)) 9 (upd (σ 9) q (nI z))) 8 = upd (σ 8) q ln := by rw [uc_n (by decide), uc_s]
    have e9 : (wd_uc (wd_uc (wd_uc σ (60 + q) (fil (fun _ => 0) (σ (60 + q)) 40)) 8 (upd (σ 8) q ln)) 9 (upd (σ 9) q (nI z))) 9 = upd (σ 9) q (nI z) := uc_s
    have e60 : (wd_uc (wd_uc (wd_uc σ (60 + q) (fil (fun _ => 0) (σ (60 + q)) 40)) 8 (upd (σ 8) q ln)) 9 (upd (σ 9) q (nI z))) (60 + p) = wd_uc σ (60 + q) (fil (fun _ => 0) (σ (60 + q)) 40) (60 + p) := by rw [uc_n (by omega), uc_n (by omega)]
    have g9 : (wd_uc (wd_uc (wd_uc ρ 9 (upd (ρ 9) q ln)) 10 (upd (ρ 10) q (nI z))) 11 (z40 (ρ 11) q 40)) 9 = upd (ρ 9) q ln := rfl
    have g10 : (wd_uc (wd_uc (wd_uc ρ 9 (upd (ρ 9) q ln)) 10 (upd (ρ 10) q (nI z))) 11 (z40 (ρ 11) q 40)) 10 = upd (ρ 10) q (nI z) := rfl
    have g11 : (wd_uc (wd_uc (wd_uc ρ 9 (upd (ρ 9) q ln)) 10 (upd (ρ 10) q (nI z))) 11 (z40 (ρ 11) q 40)) 11 = z40 (ρ 11) q 40 := rfl
    rw [e8, e9, e60, g9, g10, g11]
    by_cases e : p = q
    · subst e
      rw [upd_s, upd_s, upd_s, upd_s, uc_s]
      refine ⟨rfl, rfl, ⟨z, rfl, hz⟩, fun j hj => ?_⟩
      rw [fil_lt hj]
      exact (if_pos ⟨by omega, by omega⟩).symm
    · rw [upd_n e, upd_n e, upd_n e, upd_n e, uc_n (by omega)]
      refine ⟨a1, a2, a3, fun j hj => ?_⟩
      rw [a4 j hj]
      exact (if_neg (fun w => by omega)).symm
  · rw [if_neg hk, if_neg hk]
    exact h
theorem shS {σ ρ : wd_S} (h : Inv σ ρ) : (∀ k, k < 4 → σ 9 k = nI (ρ 10 k).toNatClampNeg ∧ (ρ 10 k).toNatClampNeg ≤ 40) ∧ ∀ k, k < 4 → ρ 10 k = nI (ρ 10 k).toNatClampNeg ∧ (ρ 10 k).toNatClampNeg ≤ 40 := by
  have key : ∀ k, k < 4 → ρ 10 k = nI (ρ 10 k).toNatClampNeg ∧ (ρ 10 k).toNatClampNeg ≤ 40 := fun k hk => by
    obtain ⟨z, hz, hz2⟩ := (h.2.2.2.2.1 k hk).2.2.1
    rw [hz, nI_clamp (by omega)]
    exact ⟨rfl, hz2⟩
  exact ⟨fun k hk => ⟨(h.2.2.2.2.1 k hk).2.1.trans (key k hk).1, (key k hk).2⟩, key⟩
theorem bo_lay (k i v : Int32) : BoV M_D_lay M_R_lay [.int k, .int i, .int v] isI := by
  intro GC GR σ ρ τ υ h
  obtain ⟨s1, s2⟩ := shS h
  by_cases hk : inB k 0 3 = true
  · obtain ⟨q, hq, rfl⟩ := inN (N := 3) (by decide) hk
    have hc : (nI q).toNatClampNeg = q := nI_clamp (by omega)
    obtain ⟨a1, a2, a3, a4⟩ := h.2.2.2.2.1 q (by omega)
    refine ⟨.int (aLay (nI q) (ρ 9 q) (ρ 10 q) i), ⟨_, rfl⟩, fun σ' => σ' = (if aLay (nI q) (ρ 9 q) (ρ 10 q) i = 1 then wd_uc σ (60 + q) (upd (σ (60 + q)) i.toNatClampNeg (nrA (ρ 9 q) v)) else σ), fun ρ' => ρ' = (if aLay (nI q) (ρ 9 q) (ρ 10 q) i = 1 then wd_uc ρ 11 (upd (ρ 11) (40 * q + i.toNatClampNeg) (nrA (ρ 9 q) v)) else ρ), s_D_lay s1 ?_, s_R_lay s2 ?_, fun σ' ρ' e1 e2 => ?_⟩
    · rw [hc, a1, a2]
      exact ⟨rfl, rfl⟩
    · rw [hc]
      exact ⟨rfl, rfl⟩
    · subst e1
      subst e2
      by_cases hz : aLay (nI q) (ρ 9 q) (ρ 10 q) i = 1
      · rw [if_pos hz, if_pos hz]
        have hi : inB i 0 (ρ 10 q - 1) = true := by
          unfold aLay at hz
          rw [if_pos hk] at hz
          split at hz
          · exact absurd hz (by decide)
          · split at hz
            · rename_i hi
              exact hi
            · exact absurd hz (by decide)
        rw [(s2 q (by omega)).1] at hi
        have h40 := (s2 q (by omega)).2
        obtain ⟨w, hw, rfl⟩ := inD (by omega) hi
        rw [nI_clamp (by omega)]
        refine h.sh (fun c h8 h9 hc => by rw [uc_n (by omega)]) (fun c h9 h10 h11 => by rw [uc_n h11]) (fun p hp => ?_)
        obtain ⟨b1, b2, b3, b4⟩ := h.2.2.2.2.1 p hp
        refine ⟨?_, ?_, b3, fun j hj => ?_⟩
        · rw [uc_n (by omega)]
          exact b1
        · rw [uc_n (by omega)]
          exact b2
        · by_cases e : p = q
          · subst e
            rw [uc_s, uc_s]
            by_cases e2 : j = w
            · subst e2
              rw [upd_s, upd_s]
            · rw [upd_n e2, upd_n (by omega)]
              exact b4 j hj
          · rw [uc_n (by omega), uc_s, upd_n (by omega)]
            exact b4 j hj
      · rw [if_neg hz, if_neg hz]
        exact h
  · have e : ∀ a b c, aLay k a b c = -1 := fun a b c => if_neg hk
    refine ⟨.int (-1), ⟨_, rfl⟩, fun σ' => σ' = σ, fun ρ' => ρ' = ρ, s_D_lay s1 ?_, s_R_lay s2 ?_, fun σ' ρ' e1 e2 => by rw [e1, e2]; exact h⟩
    · rw [e, if_neg (by decide)]
      exact ⟨rfl, rfl⟩
    · rw [e, if_neg (by decide)]
      exact ⟨rfl, rfl⟩
theorem Inv.rd {σ ρ σ' ρ' : wd_S} {X : wRow} (h : Inv σ ρ) (f : ∀ c, ((4 ≤ c ∧ c < 10) ∨ 30 ≤ c) → σ' c = σ c) (fr : relC σ' 10 X) (g : ∀ c, c ≠ 0 → c ≠ 1 → c ≠ 12 → ρ' c = ρ c) (g0 : ∀ k, k ≠ 30 → ρ' 0 k = ρ 0 k) (g1 : ∀ j, j < 61 → ρ' 1 j = X j) (g2 : ∀ j, 61 ≤ j → ρ' 1 j = ρ 1 j) (ht : σ' 0 6 = ρ' 0 30) (hw : wf X) (hs : sgO X) : Inv σ' ρ' := by
  obtain ⟨i1, i4, ⟨b, L, i5, i6⟩, i7, i8, -, i10, i11⟩ := h
  refine ⟨⟨relC_cong (wf_bd hw) g1 fr, wf_cong g1 hw, sg_agree (fun j _ h2 => g1 j (by omega)) hw hs⟩, fun k hk => ?_, ⟨b, L, ⟨?_, i5.2.1, fun i hi => ?_⟩, ⟨?_, i6.2.1, fun i hi => ?_⟩⟩, ?_, fun k hk => ?_, ht, fun d hd => ?_, ?_⟩
  · rw [g 3 (by decide) (by decide) (by decide), f 65 (by omega), im_eq g2]
    exact ⟨(i4 k hk).1, (i4 k hk).2.1, fun z => ⟨relC_kept ((i4 k hk).2.2 z).1 (fun j hj => f _ (by omega)), ((i4 k hk).2.2 z).2⟩⟩
  · rw [f 4 (by omega)]
    exact i5.1
  · rw [f 5 (by omega)]
    exact i5.2.2 i hi
  · rw [g0 6 (by decide)]
    exact i6.1
  · rw [g 5 (by decide) (by decide) (by decide)]
    exact i6.2.2 i hi
  · rw [f 4 (by omega), g0 11 (by decide)]
    exact i7
  · rw [f 8 (by omega), f 9 (by omega), f (60 + k) (by omega), g 9 (by decide) (by decide) (by decide), g 10 (by decide) (by decide) (by decide), g 11 (by decide) (by decide) (by decide)]
    exact i8 k hk
  · rw [f 33 (by omega), f 34 (by omega)]
    exact i10 d hd
  · unfold dfF
    rw [f 30 (by omega)]
    exact i11
theorem bo_read (k lane f n : Int32) : BoV M_D_read M_R_read [.int k, .int lane, .int f, .int n] isI := by
  intro GC GR σ ρ τ υ h
  obtain ⟨s1, s2⟩ := shS h
  by_cases hk : inB k 0 3 = true
  · obtain ⟨q, hq, rfl⟩ := inN (N := 3) (by decide) hk
    have hc : (nI q).toNatClampNeg = q := nI_clamp (by omega)
    obtain ⟨a1, a2, a3, a4⟩ := h.2.2.2.2.1 q (by omega)
    refine ⟨.int (aRead (ρ 1) (σ (60 + q)) (nI q) (ρ 9 q) (ρ 10 q) lane f n), ⟨_, rfl⟩,
      fun σ' => (∀ c, ((4 ≤ c ∧ c < 10) ∨ 30 ≤ c) → σ' c = σ c) ∧ σ' 0 6 = tRead (ρ 1) (σ (60 + q)) (nI q) (ρ 9 q) (ρ 10 q) lane f n (ρ 0 30) ∧ relC σ' 10 (cRead (ρ 1) (σ (60 + q)) (nI q) (ρ 9 q) (ρ 10 q) lane f n),
      fun ρ' => (∀ c, c ≠ 0 → c ≠ 1 → c ≠ 12 → ρ' c = ρ c) ∧ (∀ k, k ≠ 30 → ρ' 0 k = ρ 0 k) ∧ ρ' 0 30 = tRead (ρ 1) (σ (60 + q)) (nI q) (ρ 9 q) (ρ 10 q) lane f n (ρ 0 30) ∧ (∀ j, j < 61 → ρ' 1 j = cRead (ρ 1) (σ (60 + q)) (nI q) (ρ 9 q) (ρ 10 q) lane f n j) ∧ (∀ j, 61 ≤ j → ρ' 1 j = ρ 1 j),
      s_D_read h.1.1 h.1.2.1 s1 (fun σ' f1 f2 f3 => ?_), s_R_read (c := σ (60 + q)) h.1.2.1 h.1.2.2 s2 (fun j hj => by rw [hc]; exact (a4 j hj).symm) (fun ρ' g1 g2 g3 g4 g5 => ?_), fun σ' ρ' f1 g1 => ?_⟩
    · rw [hc, a1, a2] at f2 f3 ⊢
      rw [h.2.2.2.2.2.1] at f2
      exact ⟨rfl, f1, f2, f3⟩
    · rw [hc] at g3 g4 ⊢
      exact ⟨rfl, g1, g2, g3, g4, g5⟩
    · exact h.rd f1.1 f1.2.2 g1.1 g1.2.1 g1.2.2.2.1 g1.2.2.2.2 (f1.2.1.trans g1.2.2.1.symm) (wf_cRead h.1.2.1) (sg_cRead h.1.2.1 h.1.2.2)
  · have hn : ¬ (inB k 0 3 = true ∧ inB lane 0 2 = true ∧ inB n 0 20 = true) := fun z => hk z.1
    have eA : ∀ P c a b, aRead P c k a b lane f n = -1 := fun P c a b => if_neg hn
    have eC : ∀ P c a b, cRead P c k a b lane f n = P := fun P c a b => if_neg hn
    have eT : ∀ P c a b t, tRead P c k a b lane f n t = t := fun P c a b t => if_neg hn
    refine ⟨.int (-1), ⟨_, rfl⟩,
      fun σ' => (∀ c, ((4 ≤ c ∧ c < 10) ∨ 30 ≤ c) → σ' c = σ c) ∧ σ' 0 6 = ρ 0 30 ∧ relC σ' 10 (ρ 1),
      fun ρ' => (∀ c, c ≠ 0 → c ≠ 1 → c ≠ 12 → ρ' c = ρ c) ∧ (∀ k, k ≠ 30 → ρ' 0 k = ρ 0 k) ∧ ρ' 0 30 = ρ 0 30 ∧ (∀ j, j < 61 → ρ' 1 j = ρ 1 j) ∧ (∀ j, 61 ≤ j → ρ' 1 j = ρ 1 j),
      s_D_read h.1.1 h.1.2.1 s1 (fun σ' f1 f2 f3 => ?_), s_R_read (c := fun j => ρ 11 (40 * k.toNatClampNeg + j)) h.1.2.1 h.1.2.2 s2 (fun j hj => rfl) (fun ρ' g1 g2 g3 g4 g5 => ?_), fun σ' ρ' f1 g1 => ?_⟩
    · rw [eT, h.2.2.2.2.2.1] at f2
      rw [eC] at f3
      rw [eA]
      exact ⟨rfl, f1, f2, f3⟩
    · rw [eT] at g3
      simp only [eC] at g4
      rw [eA]
      exact ⟨rfl, g1, g2, g3, g4, g5⟩
    · exact h.rd f1.1 f1.2.2 g1.1 g1.2.1 g1.2.2.2.1 g1.2.2.2.2 (f1.2.1.trans g1.2.2.1.symm) h.1.2.1 h.1.2.2
