/-! BOTH: feed, end, text, fault, torn, count, keep, back, sheet, lay, read -/
theorem Inv.tape {σ ρ σ' ρ' : wd_S} (h : Inv σ ρ) (f : ∀ c, c ≠ 4 → c ≠ 5 → σ' c = σ c) (g : ∀ c, c ≠ 0 → c ≠ 5 → ρ' c = ρ c) (g30 : ρ' 0 30 = ρ 0 30) (hf : σ' 4 3 = ρ' 0 11) (ht : ∃ (b : Nat → Nat) (L : Nat), tpC σ' b L ∧ tpR ρ' b L) : Inv σ' ρ' := by
  obtain ⟨i1, i4, -, -, i8, i9, i10, i11⟩ := h
  have e1 : ρ' 1 = ρ 1 := g 1 (by decide) (by decide)
  have eI : ∀ k, imR ρ' k = imR ρ k := im_eq (fun j _ => by rw [e1])
  refine ⟨?_, fun k hk => ?_, ht, hf, fun k hk => ?_, ?_, fun d hd => ?_, ?_⟩
  · rw [e1]
    exact ⟨relC_kept i1.1 (fun j hj => f _ (by omega) (by omega)), i1.2⟩
  · rw [g 3 (by decide) (by decide), f 65 (by decide) (by decide), eI]
    exact ⟨(i4 k hk).1, (i4 k hk).2.1, fun z => ⟨relC_kept ((i4 k hk).2.2 z).1 (fun j hj => f _ (by omega) (by omega)), ((i4 k hk).2.2 z).2⟩⟩
  · rw [f 8 (by decide) (by decide), f 9 (by decide) (by decide), f (60 + k) (by omega) (by omega), g 9 (by decide) (by decide), g 10 (by decide) (by decide), g 11 (by decide) (by decide)]
    exact i8 k hk
  · rw [f 0 (by decide) (by decide), g30]
    exact i9
  · rw [f 33 (by decide) (by decide), f 34 (by decide) (by decide)]
    exact i10 d hd
  · unfold dfF
    rw [f 30 (by decide) (by decide)]
    exact i11
theorem bo_feed (c : Int32) : BoV M_D_feed M_R_feed [.int c] isI := by
  intro GC GR σ ρ τ υ h
  obtain ⟨b, L, t1, t2⟩ := h.2.2.1
  refine ⟨.int (aFeed L c), ⟨_, rfl⟩, fun σ' => σ' = (if inB c 0 127 = true ∧ L < 160 then wd_uc (wd_uc σ 5 (upd (σ 5) L c)) 4 (upd (σ 4) 2 (nI (L + 1))) else σ), fun ρ' => ρ' = (if inB c 0 127 = true ∧ L < 160 then wd_uc (wd_uc ρ 5 (upd (ρ 5) L c)) 0 (upd (ρ 0) 6 (nI (L + 1))) else ρ), s_D_feed t1.1 t1.2.1 ⟨rfl, rfl⟩, s_R_feed t2.1 t2.2.1 ⟨rfl, rfl⟩, fun σ' ρ' e1 e2 => ?_⟩
  subst e1
  subst e2
  split
  · rename_i hc
    obtain ⟨k, hk, rfl⟩ := inN (N := 127) (by decide) hc.1
    refine h.tape (fun c h4 h5 => by rw [uc_n h4, uc_n h5]) (fun c h0 h5 => by rw [uc_n h0, uc_n h5]) rfl h.2.2.2.1 ⟨fun i => if i = L then k else b i, L + 1, ⟨rfl, by omega, fun i hi => ?_⟩, ⟨rfl, by omega, fun i hi => ?_⟩⟩
    · show upd (σ 5) L (nI k) i = nI (if i = L then k else b i) ∧ (if i = L then k else b i) < 128
      by_cases e : i = L
      · subst e
        rw [upd_s, if_pos rfl]
        exact ⟨rfl, by omega⟩
      · rw [upd_n e, if_neg e]
        exact t1.2.2 i (by omega)
    · show upd (ρ 5) L (nI k) i = nI (if i = L then k else b i) ∧ (if i = L then k else b i) < 128
      by_cases e : i = L
      · subst e
        rw [upd_s, if_pos rfl]
        exact ⟨rfl, by omega⟩
      · rw [upd_n e, if_neg e]
        exact t2.2.2 i (by omega)
  · exact h
theorem bo_end (n : Int32) : BoV M_D_end M_R_end [.int n] isI := by
  intro GC GR σ ρ τ υ h
  obtain ⟨b, L, t1, t2⟩ := h.2.2.1
  refine ⟨.int (if inB n 0 (nI L) = true then nI L else -1), ⟨_, rfl⟩, fun σ' => σ' = (if inB n 0 (nI L) = true then wd_uc σ 4 (upd (σ 4) 2 n) else σ), fun ρ' => ρ' = (if inB n 0 (nI L) = true then wd_uc ρ 0 (upd (ρ 0) 6 n) else ρ), s_D_end t1.1 ⟨rfl, rfl⟩, s_R_end t2.1 ⟨rfl, rfl⟩, fun σ' ρ' e1 e2 => ?_⟩
  subst e1
  subst e2
  have hL := t1.2.1
  split
  · rename_i hc
    obtain ⟨k, hk, rfl⟩ := inN (N := L) (by omega) hc
    exact h.tape (fun c h4 h5 => by rw [uc_n h4]) (fun c h0 h5 => by rw [uc_n h0]) rfl h.2.2.2.1 ⟨b, k, ⟨rfl, by omega, fun i hi => t1.2.2 i (by omega)⟩, ⟨rfl, by omega, fun i hi => t2.2.2 i (by omega)⟩⟩
  · exact h
theorem bo_fault : BoV M_D_fault M_R_fault [] isI := by
  intro GC GR σ ρ τ υ h
  refine ⟨.int (ρ 0 11), ⟨_, rfl⟩, fun σ' => σ' = σ, fun ρ' => ρ' = ρ, s_D_fault ⟨by rw [h.2.2.2.1], rfl⟩, s_R_fault ⟨rfl, rfl⟩, fun σ' ρ' e1 e2 => ?_⟩
  rw [e1, e2]
  exact h
theorem bo_torn : BoV M_D_torn M_R_torn [] isI := by
  intro GC GR σ ρ τ υ h
  refine ⟨.int (ρ 0 30), ⟨_, rfl⟩, fun σ' => σ' = σ, fun ρ' => ρ' = ρ, s_D_torn ⟨by rw [h.2.2.2.2.2.1], rfl⟩, s_R_torn ⟨rfl, rfl⟩, fun σ' ρ' e1 e2 => ?_⟩
  rw [e1, e2]
  exact h
theorem bo_text : BoV M_D_text M_R_text [] isI := by
  intro GC GR σ ρ τ υ h
  obtain ⟨b, L, t1, t2⟩ := h.2.2.1
  refine ⟨.int (aText (txA b L)), ⟨_, rfl⟩, txC σ b L, txR ρ b L, s_D_text t1 h.2.2.2.2.2.2.1 h.2.2.2.2.2.2.2 (fun σ' f => ⟨rfl, f⟩), s_R_text t2 (fun ρ' f => ⟨rfl, f⟩), fun σ' ρ' f g => ?_⟩
  obtain ⟨i1, i4, -, -, i8, i9, i10, i11⟩ := h
  have o := ok_txA (b := b) (L := L)
  unfold txC at f
  unfold txR at g
  generalize (txA b L).2 = X at f g o
  obtain ⟨f1, f2, f3, f4, f5⟩ := f
  obtain ⟨g1, g2, g3, g4⟩ := g
  have sh : ∀ k, k < 4 → σ' 8 k = ρ' 9 k ∧ σ' 9 k = ρ' 10 k ∧ (∃ z : Nat, ρ' 10 k = nI z ∧ z ≤ 40) ∧ ∀ j, j < 40 → σ' (60 + k) j = ρ' 11 (40 * k + j) := fun k hk => by
    rw [f1 8 (by decide) (by decide) (by decide) (by decide), f1 9 (by decide) (by decide) (by decide) (by decide), f1 (60 + k) (by omega) (by omega) (by omega) (by omega), g1 9 (by decide) (by decide) (by decide) (by decide), g1 10 (by decide) (by decide) (by decide) (by decide), g1 11 (by decide) (by decide) (by decide) (by decide)]
    exact i8 k hk
  have tr : σ' 0 6 = ρ' 0 30 := by
    rw [f1 0 (by decide) (by decide) (by decide) (by decide), g2 30 (by decide)]
    exact i9
  have df : dfF σ' := by
    unfold dfF
    rw [f4 12 (by decide), f4 13 (by decide), f4 14 (by decide), f4 15 (by decide), f4 16 (by decide), f4 17 (by decide)]
    exact i11
  have tp : ∃ (b : Nat → Nat) (L : Nat), tpC σ' b L ∧ tpR ρ' b L := ⟨b, 0, ⟨f2, by decide, fun i hi => absurd hi (Nat.not_lt_zero i)⟩, ⟨g3, by decide, fun i hi => absurd hi (Nat.not_lt_zero i)⟩⟩
  cases X with
  | inl e =>
    dsimp only at f5 g4
    obtain ⟨a1, a2, a3⟩ := f5
    obtain ⟨c1, c2, c3⟩ := g4
    have eI : ∀ k, imR ρ' k = imR ρ k := im_eq (fun j _ => by rw [c2])
    refine ⟨?_, fun k hk => ?_, tp, a1.trans c1.symm, sh, tr, f3, df⟩
    · rw [c2]
      exact ⟨relC_kept i1.1 (fun j hj => a2 _ (by omega) (by omega)), i1.2⟩
    · rw [c3, a3, eI]
      exact ⟨(i4 k hk).1, (i4 k hk).2.1, fun z => ⟨relC_kept ((i4 k hk).2.2 z).1 (fun j hj => f1 _ (by omega) (by omega) (by omega) (by omega)), ((i4 k hk).2.2 z).2⟩⟩
  | inr y =>
    dsimp only at f5 g4
    obtain ⟨a1, a2, a3, a4⟩ := f5
    obtain ⟨c1, c2, c3, c4, c5⟩ := g4
    obtain ⟨d1, d2, d3⟩ := o.2.2.2.2.2
    refine ⟨⟨relC_cong (wf_bd d1) c2 a2, wf_cong c2 d1, sg_agree (fun j _ h2 => c2 j (by omega)) d1 d2⟩, fun k hk => ?_, tp, a1.trans c1.symm, sh, tr, f3, df⟩
    have k0 : ρ' 3 k = 0 := by
      rcases Nat.lt_or_ge k 1 with hk1 | hk1
      · rw [show k = 0 by omega]
        exact c4
      · rw [show k = 1 by omega]
        exact c5
    have k1 : σ' 65 k = 0 := by
      rcases Nat.lt_or_ge k 1 with hk1 | hk1
      · rw [show k = 0 by omega]
        exact a3
      · rw [show k = 1 by omega]
        exact a4
    rw [k0, k1]
    exact ⟨Or.inl rfl, rfl, fun z => absurd z (by decide)⟩
theorem bo_count (w : Int32) : BoV M_D_count M_R_count [.int w] isI := by
  intro GC GR σ ρ τ υ h
  obtain ⟨b, L, t1, t2⟩ := h.2.2.1
  have k0 := h.2.1 0 (by decide)
  have k1 := h.2.1 1 (by decide)
  have s0 := h.2.2.2.2.1 0 (by decide)
  refine ⟨.int (aCount (ρ 1) (ρ 3) (ρ 0 6) (ρ 9 0) (ρ 10 0) w), ⟨_, rfl⟩, fun σ' => σ' = σ, fun ρ' => ρ' = ρ, s_D_count h.1.1 h.1.2.1 (fun k hk => by rw [(h.2.1 k hk).2.1]; exact (h.2.1 k hk).1) ⟨?_, rfl⟩, s_R_count h.1.2.1 (fun k hk => (h.2.1 k hk).1) ⟨rfl, rfl⟩, fun σ' ρ' e1 e2 => ?_⟩
  · rw [t1.1, t2.1, s0.1, s0.2.1]
    unfold aCount
    rw [k0.2.1, k1.2.1]
  · rw [e1, e2]
    exact h
theorem bo_keep (k : Int32) : BoV M_D_keep M_R_keep [.int k] isI := by
  intro GC GR σ ρ τ υ h
  refine ⟨.int (if inB k 0 1 = true then ρ 3 k.toNatClampNeg else -1), ⟨_, rfl⟩, fun σ' => (if inB k 0 1 = true then (∀ n, (dN n ≤ 4 ∧ sN n ≤ 16 ∧ jN n ≤ 4 ∧ eN n ≤ 6) → relC σ 10 n → relC σ' (40 + 10 * k.toNatClampNeg) n) ∧ σ' 65 = upd (σ 65) k.toNatClampNeg 1 ∧ ∀ c, ¬ c = 65 → (c < 40 + 10 * k.toNatClampNeg ∨ 50 + 10 * k.toNatClampNeg ≤ c) → σ' c = σ c else σ' = σ), fun ρ' => ρ' = (if inB k 0 1 = true then wd_uc (wd_uc ρ 3 (upd (ρ 3) k.toNatClampNeg 1)) 1 (va_cpy (ρ 1) (ρ 1) 0 (61 * (k.toNatClampNeg + 1)) 61) else ρ), s_D_keep (fun k hk => by rw [(h.2.1 k hk).2.1]; exact (h.2.1 k hk).1) (fun σ' f => ⟨?_, f⟩), s_R_keep (fun k hk => (h.2.1 k hk).1) ⟨rfl, rfl⟩, fun σ' ρ' f e2 => ?_⟩
  · by_cases hk : inB k 0 1 = true
    · obtain ⟨j, hj, rfl⟩ := inN (N := 1) (by decide) hk
      rw [if_pos hk, if_pos hk, nI_clamp (by omega), (h.2.1 j (by omega)).2.1]
    · rw [if_neg hk, if_neg hk]
  · dsimp only at f e2
    by_cases hk : inB k 0 1 = true
    · obtain ⟨j, hj, rfl⟩ := inN (N := 1) (by decide) hk
      rw [if_pos hk, nI_clamp (by omega)] at f e2
      obtain ⟨f1, f2, f3⟩ := f
      subst e2
      obtain ⟨⟨i1, i2, i3⟩, i4, ⟨b, L, i5, i6⟩, i7, i8, i9, i10, i11⟩ := h
      have r1 : ∀ q, q < 61 → (wd_uc (wd_uc ρ 3 (upd (ρ 3) j 1)) 1 (va_cpy (ρ 1) (ρ 1) 0 (61 * (j + 1)) 61)) 1 q = ρ 1 q := fun q hq => by
        rw [uc_s]
        exact pk_cpy_out (by omega)
      refine ⟨⟨relC_cong (wf_bd i2) r1 (relC_kept i1 (fun q hq => f3 _ (by omega) (by omega))), wf_cong r1 i2, sg_agree (fun q _ h2 => r1 q (by omega)) i2 i3⟩, fun q hq => ?_, ⟨b, L, ⟨by rw [f3 4 (by decide) (by omega)]; exact i5.1, i5.2.1, fun i hi => by rw [f3 5 (by decide) (by omega)]; exact i5.2.2 i hi⟩, i6⟩, by rw [f3 4 (by decide) (by omega)]; exact i7, fun q hq => ?_, by rw [f3 0 (by decide) (by omega)]; exact i9, fun d hd => ?_, ?_⟩
      · by_cases e : q = j
        · subst e
          have r2 : ∀ z, z < 61 → imR (wd_uc (wd_uc ρ 3 (upd (ρ 3) q 1)) 1 (va_cpy (ρ 1) (ρ 1) 0 (61 * (q + 1)) 61)) q z = ρ 1 z := fun z hz => by
            unfold imR
            rw [uc_s, pk_cpy_in (by omega) (by omega), show 0 + (61 * (q + 1) + z - 61 * (q + 1)) = z by omega]
          refine ⟨?_, ?_, fun _ => ⟨relC_cong (wf_bd i2) r2 (f1 _ (wf_bd i2) i1), wf_cong r2 i2, sg_agree (fun z _ h2 => r2 z (by omega)) i2 i3⟩⟩
          · show wd_bit (upd (ρ 3) q 1 q)
            rw [upd_s]
            exact Or.inr rfl
          · rw [f2, upd_s]
            exact (upd_s (ρ 3) q 1).symm
        · have r2 : ∀ z, z < 61 → imR (wd_uc (wd_uc ρ 3 (upd (ρ 3) j 1)) 1 (va_cpy (ρ 1) (ρ 1) 0 (61 * (j + 1)) 61)) q z = imR ρ q z := fun z hz => by
            unfold imR
            rw [uc_s, pk_cpy_out (by omega)]
          have e3 : (wd_uc (wd_uc ρ 3 (upd (ρ 3) j 1)) 1 (va_cpy (ρ 1) (ρ 1) 0 (61 * (j + 1)) 61)) 3 q = ρ 3 q := upd_n e
          rw [e3, f2, upd_n e]
          refine ⟨(i4 q hq).1, (i4 q hq).2.1, fun z => ?_⟩
          obtain ⟨a1, a2, a3⟩ := (i4 q hq).2.2 z
          exact ⟨relC_cong (wf_bd a2) r2 (relC_kept a1 (fun y hy => f3 _ (by omega) (by omega))), wf_cong r2 a2, sg_agree (fun y _ h2 => r2 y (by omega)) a2 a3⟩
      · rw [f3 8 (by decide) (by omega), f3 9 (by decide) (by omega), f3 (60 + q) (by omega) (by omega)]
        exact i8 q hq
      · rw [f3 33 (by decide) (by omega), f3 34 (by decide) (by omega)]
        exact i10 d hd
      · unfold dfF
        rw [f3 30 (by decide) (by omega)]
        exact i11
    · rw [if_neg hk] at f e2
      rw [f, e2]
      exact h
theorem bo_back (k : Int32) : BoV M_D_back M_R_back [.int k] isI := by
  intro GC GR σ ρ τ υ h
  by_cases hk : inB k 0 1 = true
  · obtain ⟨j, hj, rfl⟩ := inN (N := 1) (by decide) hk
    have hc : (nI j).toNatClampNeg = j := nI_clamp (by omega)
    have ij := h.2.1 j (by omega)
    by_cases hz : ρ 3 j = 0
    · refine ⟨.int (-2), ⟨_, rfl⟩, fun σ' => σ' = σ, fun ρ' => ρ' = ρ, s_D_back (fun σ' f => ?_), s_R_back (fun k hk => (h.2.1 k hk).1) ?_, fun σ' ρ' e1 e2 => by rw [e1, e2]; exact h⟩
      · rw [hc, ij.2.1, if_neg (fun z => z.2 hz)] at f
        rw [if_pos hk, hc, ij.2.1, if_pos hz]
        exact ⟨rfl, f⟩
      · rw [if_pos hk, hc, if_pos hz, if_neg (fun z => z.2 hz)]
        exact ⟨rfl, rfl⟩
    · have h1 : ρ 3 j = 1 := by
        rcases ij.1 with z | z
        · exact absurd z hz
        · exact z
      obtain ⟨a1, a2, a3⟩ := ij.2.2 h1
      refine ⟨.int (ρ 1 (61 * (j + 1) + 44)), ⟨_, rfl⟩, fun σ' => (∀ n, (dN n ≤ 4 ∧ sN n ≤ 16 ∧ jN n ≤ 4 ∧ eN n ≤ 6) → relC σ (40 + 10 * j) n → relC σ' 10 n) ∧ ∀ c, (c < 10 ∨ 20 ≤ c) → σ' c = σ c, fun ρ' => ρ' = wd_uc ρ 1 (va_cpy (ρ 1) (ρ 1) (61 * (j + 1)) 0 61), s_D_back (fun σ' f => ?_), s_R_back (fun k hk => (h.2.1 k hk).1) ?_, fun σ' ρ' f e2 => ?_⟩
      · rw [hc, ij.2.1, if_pos ⟨hk, hz⟩] at f
        rw [if_pos hk, hc, ij.2.1, if_neg hz, (f.1 _ (wf_bd a2) a1).1.2.2.2.2.2.1]
        exact ⟨rfl, f⟩
      · rw [if_pos hk, hc, if_neg hz, if_pos ⟨hk, hz⟩]
        exact ⟨rfl, rfl⟩
      · subst e2
        have r1 : ∀ q, q < 61 → (wd_uc ρ 1 (va_cpy (ρ 1) (ρ 1) (61 * (j + 1)) 0 61)) 1 q = imR ρ j q := fun q hq => by
          unfold imR
          rw [uc_s, pk_cpy_in (by omega) (by omega), show q - 0 = q by omega]
        refine h.ch (X := imR ρ j) ⟨fun c hc => f.2 c (by omega), f.1 _ (wf_bd a2) a1⟩ ⟨⟨fun c h0 h1 h2 h6 h7 h8 h12 => by rw [uc_n h1], fun q _ => by rw [uc_n (by decide)], fun q hq => ?_⟩, r1⟩ a2 a3
        rw [uc_s]
        exact pk_cpy_out (by omega)
  · refine ⟨.int (-1), ⟨_, rfl⟩, fun σ' => σ' = σ, fun ρ' => ρ' = ρ, s_D_back (fun σ' f => ?_), s_R_back (fun k hk => (h.2.1 k hk).1) ?_, fun σ' ρ' e1 e2 => by rw [e1, e2]; exact h⟩
    · rw [if_neg (fun z => hk z.1)] at f
      rw [if_neg hk]
      exact ⟨rfl, f⟩
    · rw [if_neg hk, if_neg (fun z => hk z.1)]
      exact ⟨rfl, rfl⟩
