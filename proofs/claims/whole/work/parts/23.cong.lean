/-! WHAT IS MEANT, once more: only what counts of a trial's rows is looked at -/
def eqU (u v : wU) : Prop := (∀ j, j < 61 → u.1 j = v.1 j) ∧ (∀ d, d < 4 → u.2.1 d = v.2.1 d) ∧ (∀ k, 13 ≤ k → k ≤ 17 → u.2.2 k = v.2.2 k)
theorem eqU.rf {u : wU} : eqU u u := ⟨fun _ _ => rfl, fun _ _ => rfl, fun _ _ _ => rfl⟩
theorem eqU.sym {u v : wU} (h : eqU u v) : eqU v u := ⟨fun j hj => (h.1 j hj).symm, fun d hd => (h.2.1 d hd).symm, fun k h1 h2 => (h.2.2 k h1 h2).symm⟩
theorem eqU.tr {u v w : wU} (h : eqU u v) (g : eqU v w) : eqU u w := ⟨fun j hj => (h.1 j hj).trans (g.1 j hj), fun d hd => (h.2.1 d hd).trans (g.2.1 d hd), fun k h1 h2 => (h.2.2 k h1 h2).trans (g.2.2 k h1 h2)⟩
theorem upd_eq {f g : wRow} {k j : Nat} {x y : Int32} (h : j ≠ k → f j = g j) (hx : x = y) : upd f k x j = upd g k y j := by
  by_cases e : j = k
  · subst e
    rw [upd_s, upd_s, hx]
  · rw [upd_n e, upd_n e, h e]
theorem eq_dN {n m : wRow} (h : ∀ j, j < 61 → n j = m j) : dN n = dN m ∧ sN n = sN m ∧ jN n = jN m ∧ eN n = eN m ∧ pN n = pN m := by
  unfold dN sN jN eN pN
  rw [h 16 (by decide), h 33 (by decide), h 43 (by decide), h 48 (by decide), h 34 (by decide)]
  exact ⟨rfl, rfl, rfl, rfl, rfl⟩
theorem eq_rw {n m : wRow} (h : ∀ j, j < 61 → n j = m j) {d : Nat} (hd : d < 4) (fed : Bool) : rwX n d fed = rwX m d fed ∧ rwC n d fed = rwC m d fed ∧ rwB n d fed = rwB m d fed ∧ rwK n d fed = rwK m d fed := rw_same (fun k hk => h _ (by omega))
theorem eq_dogA {u v : wU} {s : Int32} {d : Nat} (hd : d < 4) (h : eqU u v) : eqU (dogA u s d) (dogA v s d) := by
  obtain ⟨h1, h2, h3⟩ := h
  obtain ⟨r1, r2, r3, r4⟩ := eq_rw h1 hd (fdA s d)
  refine ⟨fun j hj => ?_, fun e he => ?_, fun k hk1 hk2 => ?_⟩
  · exact upd_eq (fun _ => upd_eq (fun _ => h1 j hj) r2) r3
  · exact upd_eq (fun _ => h2 e he) (by rw [r1, h2 d hd])
  · exact upd_eq (fun _ => upd_eq (fun _ => h3 k hk1 hk2) (by rw [r4, h3 16 (by decide) (by decide)])) (by rw [h3 17 (by decide) (by decide)])
theorem eq_dogsA {u v : wU} {s : Int32} (h : eqU u v) : ∀ n, n ≤ 4 → eqU (dogsA u s n) (dogsA v s n) ∧ mskA u s n = mskA v s n
  | 0, _ => ⟨h, rfl⟩
  | n + 1, hn => by
    obtain ⟨i1, i2⟩ := eq_dogsA (s := s) h n (by omega)
    rw [dogsA, dogsA, mskA, mskA, h.2.2 13 (by decide) (by decide), (eq_rw h.1 (show n < 4 by omega) (fdA s n)).1, i2]
    split
    · exact ⟨i1, rfl⟩
    · exact ⟨eq_dogA (by omega) i1, rfl⟩
theorem eq_zerA {n m : wRow} {j : Nat} (h : n j = m j) : ∀ k, zerA n k j = zerA m k j
  | 0 => h
  | k + 1 => upd_eq (fun _ => upd_eq (fun _ => eq_zerA h k) rfl) rfl
theorem eq_rstN {n m : wRow} (h : ∀ j, j < 61 → n j = m j) {x y x' y' : Int32} (hx : x = x') (hy : y = y') : ∀ j, j < 61 → rstN n x y j = rstN m x' y' j := by
  intro j hj
  unfold rstN
  rw [(eq_dN h).1]
  apply eq_zerA
  exact upd_eq (fun _ => upd_eq (fun _ => upd_eq (fun _ => upd_eq (fun _ => h j hj) (by rw [h 45 (by decide)])) hx) rfl) hy
theorem eq_tikA {u v : wU} {s : Int32} (hD : dN u.1 ≤ 4) (h : eqU u v) : eqU (tikA u s) (tikA v s) ∧ (tikA u s).2.2 18 = (tikA v s).2.2 18 := by
  obtain ⟨i1, i2⟩ := eq_dogsA (s := s) h (dN u.1) hD
  have hdd := (eq_dN h.1).1
  obtain ⟨g1, g2, g3⟩ := i1
  rw [hdd] at g1 g2 g3 i2
  rcases Nat.eq_zero_or_pos (mskA v s (dN v.1)) with h0 | h0
  · have h0' : mskA u s (dN u.1) = 0 := by rw [hdd, i2, h0]
    rw [tik_0 h0, tik_0 h0', hdd]
    refine ⟨⟨fun j hj => ?_, g2, fun k h1 h2 => ?_⟩, ?_⟩
    · exact upd_eq (fun _ => g1 j hj) (by rw [g1 44 (by decide)])
    · exact upd_eq (fun _ => g3 k h1 h2) rfl
    · dsimp only
      rw [upd_s, upd_s]
  · have h0' : 0 < mskA u s (dN u.1) := by rw [hdd, i2]; exact h0
    rw [tik_1 h0, tik_1 h0', hdd, i2]
    have e44 := g1 44 (by decide)
    refine ⟨⟨fun j hj => ?_, g2, fun k h1 h2 => ?_⟩, ?_⟩
    · refine upd_eq (fun _ => eq_rstN g1 rfl (by rw [e44]) j hj) ?_
      rw [eq_rstN g1 rfl (by rw [e44]) 44 (by decide)]
    · exact upd_eq (fun _ => upd_eq (fun _ => g3 k h1 h2) rfl) (by rw [g3 14 (by decide) (by decide)])
    · rfl
theorem eq_stkA {n m : wRow} (h : ∀ j, j < 61 → n j = m j) : ∀ k, k ≤ 4 → stkA n k = stkA m k
  | 0, _ => rfl
  | k + 1, hk => by
    rw [stkA, stkA, eq_stkA h k (by omega), h (35 + 2 * k) (by omega), h 44 (by decide), h 46 (by decide), h (36 + 2 * k) (by omega)]
theorem eq_isStk {n m : wRow} (h : ∀ j, j < 61 → n j = m j) (hw : wf n) : isStk n = isStk m := by
  unfold isStk
  rw [← (eq_dN h).2.2.1, eq_stkA h _ hw.2.2.1.2]
theorem eq_sgnA {n m : wRow} (h : ∀ j, j < 61 → n j = m j) (hw : wf n) : sgnA n = sgnA m := by
  obtain ⟨-, e2, -, -, e5⟩ := eq_dN h
  unfold sgnA
  rw [eq_isStk h hw, e2, e5]
  split
  · rfl
  · rename_i hh
    have := hw.2.2.2.2.1.2
    have := hw.2.1.2
    rw [e5, e2] at *
    exact h _ (by omega)
theorem eq_plcA {n m : wRow} (h : ∀ j, j < 61 → n j = m j) (hw : wf n) : ∀ j, j < 61 → plcA n j = plcA m j := by
  obtain ⟨-, e2, -, -, e5⟩ := eq_dN h
  intro j hj
  unfold plcA
  rw [eq_isStk h hw, e2, e5]
  split
  · exact h j hj
  · exact upd_eq (fun _ => h j hj) rfl
theorem eq_tkA {lost : Bool} {u v : wU} (hw : wf u.1) (h : eqU u v) : eqU (tkA lost u) (tkA lost v) ∧ (tkA lost u).2.2 18 = (tkA lost v).2.2 18 := by
  unfold tkA
  rw [eq_sgnA h.1 hw]
  refine eq_tikA (by rw [(plc_wf hw).2.1]; exact hw.1.2) ⟨eq_plcA h.1 hw, h.2.1, fun k h1 h2 => ?_⟩
  exact upd_eq (fun _ => h.2.2 k h1 h2) (by rw [eq_isStk h.1 hw, h.2.2 15 (by decide) (by decide)])
theorem eq_tksA {u v : wU} (hw : wf u.1) (h : eqU u v) : ∀ n, eqU (tksA n u) (tksA n v) ∧ (0 < n → (tksA n u).2.2 18 = (tksA n v).2.2 18)
  | 0 => ⟨h, fun z => absurd z (Nat.lt_irrefl 0)⟩
  | n + 1 => by
    have i := eq_tksA hw h n
    have := eq_tkA (lost := false) (tks_wf hw n).1 i.1
    exact ⟨this.1, fun _ => this.2⟩
/-- a trial's start, over a pack; who sleeps -/
def stP (P : wRow) (sl : Int32) : wU := (P, (fun _ => 0), (fun k => if k = 13 then sl else 0))
theorem isSt_eq {P : wRow} {u : wU} (h : isSt P u) : eqU u (stP P (-4)) := by
  obtain ⟨h1, h2, h3, h4, h5, h6, h7⟩ := h
  refine ⟨h1, h2, fun k k1 k2 => ?_⟩
  match k, k1, k2 with
  | 13, _, _ => exact h3
  | 14, _, _ => exact h4
  | 15, _, _ => exact h5
  | 16, _, _ => exact h6
  | 17, _, _ => exact h7
  | k + 18, _, k2 => omega
theorem stP_is (P : wRow) : isSt P (stP P (-4)) := ⟨fun _ _ => rfl, fun _ _ => rfl, rfl, rfl, rfl, rfl, rfl⟩
theorem stU_eq (σ : wd_S) : eqU (stU σ) (stP (σ 1) (-4)) := isSt_eq (stU_is σ)
theorem wf_lim {n : wRow} {d : Nat} {x : Int32} (hd : d < 4) (hw : wf n) : wf (upd n (4 * d + 1) x) := by
  have hi : ∀ j, 16 ≤ j → upd n (4 * d + 1) x j = n j := fun j hj => upd_n (by omega)
  have d1 : dN (upd n (4 * d + 1) x) = dN n := by unfold dN; rw [hi 16 (by decide)]
  have d2 : sN (upd n (4 * d + 1) x) = sN n := by unfold sN; rw [hi 33 (by decide)]
  have d3 : jN (upd n (4 * d + 1) x) = jN n := by unfold jN; rw [hi 43 (by decide)]
  have d4 : eN (upd n (4 * d + 1) x) = eN n := by unfold eN; rw [hi 48 (by decide)]
  have d5 : pN (upd n (4 * d + 1) x) = pN n := by unfold pN; rw [hi 34 (by decide)]
  obtain ⟨h1, h2, h3, h4, h5, h6, h7, h8⟩ := hw
  unfold wf
  rw [d1, d2, d3, d4, d5, hi 16 (by decide), hi 33 (by decide), hi 43 (by decide), hi 48 (by decide), hi 34 (by decide), hi 45 (by decide)]
  refine ⟨h1, h2, h3, h4, h5, h6, fun e he => ?_, fun i hh => ?_⟩
  · rw [upd_n (by omega), upd_n (by omega)]
    exact h7 e he
  · rw [hi _ (by omega)]
    exact h8 i hh
theorem wf_knd {n : wRow} {d k : Nat} (hd : d < 4) (hk : k ≤ 3) (hw : wf n) : wf (upd n (4 * d) (nI k)) := by
  have hi : ∀ j, 16 ≤ j → upd n (4 * d) (nI k) j = n j := fun j hj => upd_n (by omega)
  have d1 : dN (upd n (4 * d) (nI k)) = dN n := by unfold dN; rw [hi 16 (by decide)]
  have d2 : sN (upd n (4 * d) (nI k)) = sN n := by unfold sN; rw [hi 33 (by decide)]
  have d3 : jN (upd n (4 * d) (nI k)) = jN n := by unfold jN; rw [hi 43 (by decide)]
  have d4 : eN (upd n (4 * d) (nI k)) = eN n := by unfold eN; rw [hi 48 (by decide)]
  have d5 : pN (upd n (4 * d) (nI k)) = pN n := by unfold pN; rw [hi 34 (by decide)]
  obtain ⟨h1, h2, h3, h4, h5, h6, h7, h8⟩ := hw
  unfold wf
  rw [d1, d2, d3, d4, d5, hi 16 (by decide), hi 33 (by decide), hi 43 (by decide), hi 48 (by decide), hi 34 (by decide), hi 45 (by decide)]
  refine ⟨h1, h2, h3, h4, h5, h6, fun e he => ?_, fun i hh => ?_⟩
  · rw [upd_n (show 4 * e + 3 ≠ 4 * d by omega)]
    by_cases e1 : e = d
    · subst e1
      rw [upd_s]
      exact ⟨⟨k, rfl, hk⟩, (h7 e he).2⟩
    · rw [upd_n (by omega)]
      exact h7 e he
  · rw [hi _ (by omega)]
    exact h8 i hh
theorem wf_sgn {n : wRow} {i : Nat} {x : Int32} (hi : i < 16) (hw : wf n) : wf (upd n (17 + i) x) := by
  have hn : ∀ j, (j < 17 ∨ 33 ≤ j) → upd n (17 + i) x j = n j := fun j hj => upd_n (by omega)
  have d1 : dN (upd n (17 + i) x) = dN n := by unfold dN; rw [hn 16 (by decide)]
  have d2 : sN (upd n (17 + i) x) = sN n := by unfold sN; rw [hn 33 (by decide)]
  have d3 : jN (upd n (17 + i) x) = jN n := by unfold jN; rw [hn 43 (by decide)]
  have d4 : eN (upd n (17 + i) x) = eN n := by unfold eN; rw [hn 48 (by decide)]
  have d5 : pN (upd n (17 + i) x) = pN n := by unfold pN; rw [hn 34 (by decide)]
  obtain ⟨h1, h2, h3, h4, h5, h6, h7, h8⟩ := hw
  unfold wf
  rw [d1, d2, d3, d4, d5, hn 16 (by decide), hn 33 (by decide), hn 43 (by decide), hn 48 (by decide), hn 34 (by decide), hn 45 (by decide)]
  refine ⟨h1, h2, h3, h4, h5, h6, fun e he => ?_, fun q hq => ?_⟩
  · have := h1.2
    rw [hn _ (by omega), hn _ (by omega)]
    exact h7 e he
  · rw [hn _ (by omega)]
    exact h8 q hq
