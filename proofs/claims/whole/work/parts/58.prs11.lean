/-! THE TEXT: what both parsers read, as one function -/
abbrev pY : Type := Nat × Nat × Nat × Int32 × wRow
abbrev pX : Type := (Nat × Nat) ⊕ pY
def bnd (x : pX) (f : pY → pX) : pX := match x with
  | .inl e => .inl e
  | .inr y => f y
def ntk (b : Nat → Nat) (L p : Nat) (D : wRow) : pX := if (tokS b L (spS b L p)).2.2.2 = true then .inr (spS b L p, (tokS b L (spS b L p)).1, (tokS b L (spS b L p)).2.1, (tokS b L (spS b L p)).2.2.1, D) else .inl (1, spS b L p)
def nmK (b : Nat → Nat) (L : Nat) (lo hi : Int32) (g : Int32 → wRow → wRow) (y : pY) : pX := if y.2.1 = 2 then (if inB y.2.2.2.1 lo hi = true then ntk b L y.2.2.1 (g y.2.2.2.1 y.2.2.2.2) else .inl (3, y.1)) else .inl (2, y.1)
def adD (k v : Int32) (D : wRow) : wRow := upd (upd (upd D (4 * dN D) k) (4 * dN D + 1) v) 16 (nI (dN D + 1))
def adS (v : Int32) (D : wRow) : wRow := upd (upd D (17 + sN D) v) 33 (nI (sN D + 1))
def adJ (t v : Int32) (D : wRow) : wRow := upd (upd (upd D (35 + 2 * jN D) t) (36 + 2 * jN D) v) 43 (nI (jN D + 1))
def dgL (b : Nat → Nat) (L : Nat) (k : Int32) (y : pY) : pX := if dN y.2.2.2.2 < 4 then bnd (ntk b L y.2.2.1 y.2.2.2.2) (nmK b L 1 20 (adD k)) else .inl (5, y.1)
def jmL (b : Nat → Nat) (L : Nat) (y : pY) : pX := if jN y.2.2.2.2 < 4 then bnd (ntk b L y.2.2.1 y.2.2.2.2) (fun y1 => bnd (nmK b L 0 99 (fun _ D => D) y1) (nmK b L 1 40 (adJ y1.2.2.2.1))) else .inl (5, y.1)
def sgF (b : Nat → Nat) (L : Nat) : Nat → pY → pX
  | 0, y => .inr y
  | m + 1, y => if y.2.1 = 2 then (if sN y.2.2.2.2 < 16 then bnd (nmK b L 0 15 adS y) (sgF b L m) else .inl (5, y.1)) else .inr y
def sgL (b : Nat → Nat) (L : Nat) (y : pY) : pX := if sN y.2.2.2.2 = 0 then bnd (ntk b L y.2.2.1 y.2.2.2.2) (fun y1 => bnd (nmK b L 0 15 adS y1) (sgF b L 16)) else .inl (4, y.1)
def smL (b : Nat → Nat) (L : Nat) (y : pY) : pX := if y.2.1 = 3 then ntk b L y.2.2.1 y.2.2.2.2 else .inl (2, y.1)
def lnL (b : Nat → Nat) (L : Nat) (k : Int32) (y : pY) : pX := if k = -4 then .inl (2, y.1) else if k = 4 then sgL b L y else if k = 5 then jmL b L y else dgL b L k y
def liL (b : Nat → Nat) (L : Nat) (y : pY) : pX := bnd (if y.2.1 = 1 then lnL b L (lnK b y.1 y.2.2.1) y else .inl (2, y.1)) (smL b L)
def txF (b : Nat → Nat) (L : Nat) : Nat → Nat → pY → Nat × pX
  | 0, n, y => (n, .inr y)
  | m + 1, n, y => if y.2.1 = 0 then (n, .inr y) else (match liL b L y with
    | .inl e => (n + 1, .inl e)
    | .inr y' => txF b L m (n + 1) y')
def d0 : wRow := fun k => if k = 47 then -4 else 0
def txA (b : Nat → Nat) (L : Nat) : Nat × pX := match ntk b L 0 d0 with
  | .inl e => (0, .inl e)
  | .inr y => txF b L (L + 1) 0 y
/-- what is sure of a draft -/
def dOK (D : wRow) : Prop := wf D ∧ sgO D ∧ ∀ d, d < 4 → D (4 * d + 2) = 0 ∧ D (4 * d + 3) = 0
def okY (L : Nat) (y : pY) : Prop := y.1 ≤ y.2.2.1 ∧ y.2.2.1 ≤ L ∧ (¬ y.2.1 = 0 → y.1 < y.2.2.1) ∧ y.2.1 ≤ 3 ∧ dOK y.2.2.2.2
def okX (L p : Nat) (x : pX) : Prop := match x with
  | .inl e => (0 < e.1 ∧ e.1 ≤ 5) ∧ e.2 ≤ L
  | .inr y => p ≤ y.1 ∧ okY L y
theorem d0_ok : dOK d0 := by
  have h16 : dN d0 = 0 := rfl
  have h33 : sN d0 = 0 := rfl
  have h43 : jN d0 = 0 := rfl
  have h48 : eN d0 = 0 := rfl
  have h34 : pN d0 = 0 := rfl
  refine ⟨⟨⟨by rw [h16]; rfl, by omega⟩, ⟨by rw [h33]; rfl, by omega⟩, ⟨by rw [h43]; rfl, by omega⟩, ⟨by rw [h48]; rfl, by omega⟩, ⟨by rw [h34]; rfl, Or.inr h34⟩, ⟨0, rfl, by decide⟩, fun d hd => by omega, fun i hi => by omega⟩, fun i hi => by omega, fun d hd => ?_⟩
  unfold d0
  rw [if_neg (by omega), if_neg (by omega)]
  exact ⟨rfl, rfl⟩
theorem sk_gt {f : Nat → Bool} {m p : Nat} (hm : 0 < m) (h : f p = true) : p < skA f m p := by
  match m, hm with
  | m + 1, _ =>
    rw [skA, if_pos h]
    have := sk_le f m (p + 1)
    omega
theorem ok_ntk {b : Nat → Nat} {L p : Nat} {D : wRow} (hp : p ≤ L) (hD : dOK D) : okX L p (ntk b L p D) := by
  have hs := sk_le (fun i => decide (b i = 32)) (L - p) p
  unfold ntk
  have hsp : p ≤ spS b L p ∧ spS b L p ≤ L := ⟨hs.1, by have := hs.2; unfold spS; omega⟩
  generalize spS b L p = s at hsp
  split
  · refine ⟨hsp.1, ?_⟩
    unfold okY
    dsimp only
    unfold tokS
    split
    · exact ⟨Nat.le_refl s, hsp.2, fun z => absurd rfl z, Nat.zero_le 3, hD⟩
    · have h1 := sk_le (fun i => isLt (b i)) (L - s) s
      have h2 := sk_le (fun i => isFg (b i)) (L - s) s
      split
      · rename_i hl
        have := sk_gt (f := fun i => isLt (b i)) (m := L - s) (p := s) (by omega) hl
        exact ⟨by dsimp only; omega, by dsimp only; omega, fun _ => this, Nat.le_of_ble_eq_true rfl, hD⟩
      · split
        · rename_i hl
          have := sk_gt (f := fun i => isFg (b i)) (m := L - s) (p := s) (by omega) hl
          exact ⟨by dsimp only; omega, by dsimp only; omega, fun _ => this, Nat.le_of_ble_eq_true rfl, hD⟩
        · exact ⟨by dsimp only; omega, by dsimp only; omega, fun _ => by dsimp only; omega, Nat.le_of_ble_eq_true rfl, hD⟩
  · exact ⟨⟨Nat.le_of_ble_eq_true rfl, Nat.le_of_ble_eq_true rfl⟩, hsp.2⟩
theorem ok_bnd {L p q : Nat} {x : pX} {f : pY → pX} (hx : okX L p x) (h : ∀ y, p ≤ y.1 → okY L y → okX L q (f y)) : okX L q (bnd x f) := by
  cases x with
  | inl e => exact hx
  | inr y => exact h y hx.1 hx.2
theorem okX_le {L p q : Nat} {x : pX} (hx : okX L p x) (h : q ≤ p) : okX L q x := by
  cases x with
  | inl e => exact hx
  | inr y => exact ⟨Nat.le_trans h hx.1, hx.2⟩
theorem ok_f {L p c s : Nat} (h1 : 0 < c) (h2 : c ≤ 5) (h3 : s ≤ L) : okX L p (.inl (c, s)) := ⟨⟨h1, h2⟩, h3⟩
theorem okY_s {L : Nat} {y : pY} (h : okY L y) : y.1 ≤ L := Nat.le_trans h.1 h.2.1
theorem ok_nmK {b : Nat → Nat} {L : Nat} {lo hi : Int32} {g : Int32 → wRow → wRow} {y : pY} (hy : okY L y) (hg : inB y.2.2.2.1 lo hi = true → dOK (g y.2.2.2.1 y.2.2.2.2)) : okX L y.2.2.1 (nmK b L lo hi g y) := by
  unfold nmK
  split
  · split
    · rename_i hi
      exact ok_ntk hy.2.1 (hg hi)
    · exact ok_f (by decide) (by decide) (okY_s hy)
  · exact ok_f (by decide) (by decide) (okY_s hy)
theorem adS_ok {D : wRow} {v : Int32} (hD : dOK D) (hs : sN D < 16) (hv : inB v 0 15 = true) : dOK (adS v D) := by
  obtain ⟨w, hvv, rfl⟩ := inN (N := 15) (by decide) hv
  obtain ⟨h1, h2, h3⟩ := hD
  have hp := h1.2.2.2.2.1.2
  have hpn : pN (upd D (17 + sN D) (nI w)) = pN D := by
    unfold pN
    rw [upd_n (by omega)]
  have hsn : sN (adS (nI w) D) = sN D + 1 := ckN (by omega)
  refine ⟨wf_n33 hs (by rw [hpn]; omega) (wf_sgn hs h1), fun i hi => ?_, fun d hd => ?_⟩
  · rw [hsn] at hi
    unfold adS
    rw [upd_n (by omega)]
    by_cases e : i = sN D
    · subst e
      rw [upd_s]
      exact ⟨w, rfl, hvv⟩
    · rw [upd_n (by omega)]
      exact h2 i (by omega)
  · unfold adS
    rw [upd_n (by omega), upd_n (by omega), upd_n (by omega), upd_n (by omega)]
    exact h3 d hd
theorem adJ_ok {D : wRow} {t v : Int32} (hD : dOK D) (hs : jN D < 4) : dOK (adJ t v D) := by
  obtain ⟨h1, h2, h3⟩ := hD
  have h16 := h1.2.1.2
  have hsn : sN (adJ t v D) = sN D := by
    unfold adJ sN
    rw [upd_n (by omega), upd_n (by omega), upd_n (by omega)]
  refine ⟨wf_n43 hs (wf_agree h1 (fun j hj => ?_)), fun i hi => ?_, fun d hd => ?_⟩
  · rw [upd_n (by omega), upd_n (by omega)]
  · rw [hsn] at hi
    unfold adJ
    rw [upd_n (by omega), upd_n (by omega), upd_n (by omega)]
    exact h2 i hi
  · unfold adJ
    rw [upd_n (by omega), upd_n (by omega), upd_n (by omega), upd_n (by omega), upd_n (by omega), upd_n (by omega)]
    exact h3 d hd
theorem adD_ok {D : wRow} {k : Nat} {v : Int32} (hD : dOK D) (hs : dN D < 4) (hk : k ≤ 3) : dOK (adD (nI k) v D) := by
  obtain ⟨⟨h1, h2, h3, h4, h5, h6, h7, h8⟩, g2, g3⟩ := hD
  have hi : ∀ j, 17 ≤ j → adD (nI k) v D j = D j := fun j hj => by
    unfold adD
    rw [upd_n (by omega), upd_n (by omega), upd_n (by omega)]
  have d1 : dN (adD (nI k) v D) = dN D + 1 := ckN (by omega)
  have d2 : sN (adD (nI k) v D) = sN D := by unfold sN; rw [hi 33 (by omega)]
  have d3 : jN (adD (nI k) v D) = jN D := by unfold jN; rw [hi 43 (by omega)]
  have d4 : eN (adD (nI k) v D) = eN D := by unfold eN; rw [hi 48 (by omega)]
  have d5 : pN (adD (nI k) v D) = pN D := by unfold pN; rw [hi 34 (by omega)]
  have hz : ∀ d, d < 4 → adD (nI k) v D (4 * d + 2) = 0 ∧ adD (nI k) v D (4 * d + 3) = 0 := fun d hd => by
    unfold adD
    rw [upd_n (by omega), upd_n (by omega), upd_n (by omega), upd_n (by omega), upd_n (by omega), upd_n (by omega)]
    exact g3 d hd
  refine ⟨?_, fun i hh => ?_, hz⟩
  · unfold wf
    rw [d1, d2, d3, d4, d5, hi 33 (by omega), hi 43 (by omega), hi 48 (by omega), hi 34 (by omega), hi 45 (by omega)]
    refine ⟨⟨rfl, by omega⟩, h2, h3, h4, h5, h6, fun d hd => ⟨?_, ?_⟩, fun i hh => ?_⟩
    · unfold adD
      rw [upd_n (by omega), upd_n (by omega)]
      by_cases e : d = dN D
      · subst e
        rw [upd_s]
        exact ⟨k, rfl, hk⟩
      · rw [upd_n (by omega)]
        exact (h7 d (by omega)).1
    · rw [(hz d (by omega)).2]
      exact Or.inl rfl
    · rw [hi _ (by omega)]
      exact h8 i hh
  · rw [d2] at hh
    rw [hi _ (by omega)]
    exact g2 i hh
theorem ok_dgL {b : Nat → Nat} {L k : Nat} {y : pY} (hk : k ≤ 3) (hy : okY L y) : okX L y.2.2.1 (dgL b L (nI k) y) := by
  unfold dgL
  split
  · rename_i hd
    have h0 := ok_ntk (b := b) hy.2.1 hy.2.2.2.2
    generalize hx : ntk b L y.2.2.1 y.2.2.2.2 = x at h0
    cases x with
    | inl e => exact h0
    | inr y1 =>
      have e : y1.2.2.2.2 = y.2.2.2.2 := by
        unfold ntk at hx
        split at hx
        · cases hx
          rfl
        · cases hx
      refine okX_le (ok_nmK h0.2 (fun _ => ?_)) (Nat.le_trans h0.1 h0.2.1)
      refine adD_ok h0.2.2.2.2.2 ?_ hk
      rw [e]
      exact hd
  · exact ok_f (by decide) (by decide) (okY_s hy)
theorem ntk_D {b : Nat → Nat} {L p : Nat} {D : wRow} {y : pY} (h : ntk b L p D = .inr y) : y.2.2.2.2 = D := by
  unfold ntk at h
  split at h
  · cases h
    rfl
  · cases h
theorem ok_jmL {b : Nat → Nat} {L : Nat} {y : pY} (hy : okY L y) : okX L y.2.2.1 (jmL b L y) := by
  unfold jmL
  split
  · rename_i hd
    have h0 := ok_ntk (b := b) hy.2.1 hy.2.2.2.2
    generalize hx : ntk b L y.2.2.1 y.2.2.2.2 = x at h0
    cases x with
    | inl e => exact h0
    | inr y1 =>
      have e := ntk_D hx
      have h1 : okX L y1.2.2.1 (nmK b L 0 99 (fun _ D => D) y1) := ok_nmK h0.2 (fun _ => h0.2.2.2.2.2)
      show okX L y.2.2.1 (bnd (nmK b L 0 99 (fun _ D => D) y1) (nmK b L 1 40 (adJ y1.2.2.2.1)))
      generalize hx1 : nmK b L 0 99 (fun _ D => D) y1 = x1 at h1
      cases x1 with
      | inl e => exact h1
      | inr y2 =>
        have e2 : y2.2.2.2.2 = y1.2.2.2.2 := by
          unfold nmK at hx1
          split at hx1
          · split at hx1
            · exact ntk_D hx1
            · cases hx1
          · cases hx1
        have l1 := h0.1
        have l2 := h0.2.1
        have l3 := h1.1
        have l4 := h1.2.1
        refine okX_le (ok_nmK h1.2 (fun _ => adJ_ok h1.2.2.2.2.2 ?_)) (by omega)
        rw [e2, e]
        exact hd
  · exact ok_f (by decide) (by decide) (okY_s hy)
theorem nmK_D {b : Nat → Nat} {L : Nat} {lo hi : Int32} {g : Int32 → wRow → wRow} {y y' : pY} (h : nmK b L lo hi g y = .inr y') : y'.2.2.2.2 = g y.2.2.2.1 y.2.2.2.2 := by
  unfold nmK at h
  split at h
  · split at h
    · exact ntk_D h
    · cases h
  · cases h
theorem ok_sgF {b : Nat → Nat} {L : Nat} : ∀ (m : Nat) {y : pY}, okY L y → okX L y.1 (sgF b L m y)
  | 0, y, hy => ⟨Nat.le_refl _, hy⟩
  | m + 1, y, hy => by
    rw [sgF]
    split
    · split
      · rename_i hs
        have h1 : okX L y.2.2.1 (nmK b L 0 15 adS y) := ok_nmK hy (fun hv => adS_ok hy.2.2.2.2 hs hv)
        refine ok_bnd h1 (fun y' l1 o1 => okX_le (ok_sgF m o1) ?_)
        exact Nat.le_trans hy.1 l1
      · exact ok_f (by decide) (by decide) (okY_s hy)
    · exact ⟨Nat.le_refl _, hy⟩
theorem ok_sgL {b : Nat → Nat} {L : Nat} {y : pY} (hy : okY L y) : okX L y.2.2.1 (sgL b L y) := by
  unfold sgL
  split
  · rename_i hd
    have h0 := ok_ntk (b := b) hy.2.1 hy.2.2.2.2
    generalize hx : ntk b L y.2.2.1 y.2.2.2.2 = x at h0
    cases x with
    | inl e => exact h0
    | inr y1 =>
      have e := ntk_D hx
      have l1 := h0.1
      have l2 := h0.2.1
      show okX L y.2.2.1 (bnd (nmK b L 0 15 adS y1) (sgF b L 16))
      refine okX_le (p := y1.2.2.1) (ok_bnd (ok_nmK (b := b) h0.2 (fun hv => adS_ok h0.2.2.2.2.2 ?_ hv)) (fun y' m1 o1 => okX_le (ok_sgF 16 o1) m1)) (by omega)
      rw [e]
      omega
  · exact ok_f (by decide) (by decide) (okY_s hy)
theorem lnK_is (b : Nat → Nat) (p q : Nat) : lnK b p q = -4 ∨ ∃ k : Nat, k ≤ 5 ∧ lnK b p q = nI k := by
  unfold lnK
  split
  · exact Or.inr ⟨0, by decide, rfl⟩
  split
  · exact Or.inr ⟨1, by decide, rfl⟩
  split
  · exact Or.inr ⟨2, by decide, rfl⟩
  split
  · exact Or.inr ⟨3, by decide, rfl⟩
  split
  · exact Or.inr ⟨4, by decide, rfl⟩
  split
  · exact Or.inr ⟨5, by decide, rfl⟩
  · exact Or.inl rfl
theorem ok_lnL {b : Nat → Nat} {L p q : Nat} {y : pY} (hy : okY L y) : okX L y.2.2.1 (lnL b L (lnK b p q) y) := by
  unfold lnL
  split
  · exact ok_f (by decide) (by decide) (okY_s hy)
  · rename_i n4
    split
    · exact ok_sgL hy
    · rename_i n1
      split
      · exact ok_jmL hy
      · rename_i n2
        rcases lnK_is b p q with h | ⟨k, hk, h⟩
        · exact absurd h n4
        · rw [h] at n1 n2 ⊢
          refine ok_dgL ?_ hy
          have a1 : k ≠ 4 := fun z => n1 (by rw [z]; rfl)
          have a2 : k ≠ 5 := fun z => n2 (by rw [z]; rfl)
          omega
theorem ok_smL {b : Nat → Nat} {L : Nat} {y : pY} (hy : okY L y) : okX L y.2.2.1 (smL b L y) := by
  unfold smL
  split
  · exact ok_ntk hy.2.1 hy.2.2.2.2
  · exact ok_f (by decide) (by decide) (okY_s hy)
theorem ok_liL {b : Nat → Nat} {L : Nat} {y : pY} (hy : okY L y) (ht : ¬ y.2.1 = 0) : okX L (y.1 + 1) (liL b L y) := by
  have hq := hy.2.2.1 ht
  unfold liL
  refine ok_bnd (p := y.2.2.1) ?_ (fun y1 l1 o1 => okX_le (ok_smL o1) (by have := o1.1; omega))
  split
  · exact ok_lnL hy
  · exact ok_f (by decide) (by decide) (okY_s hy)
