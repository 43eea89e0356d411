/-! CHANGES of the class: alter, set, add, cut, stick, clear, see, forget, bone, ticks -/
def frC (σ σ' : wd_S) : Prop := ∀ c, (c = 0 ∨ (4 ≤ c ∧ c < 10) ∨ 30 ≤ c) → σ' c = σ c
def stC (σ : wd_S) (X : wRow) (σ' : wd_S) : Prop := frC σ σ' ∧ relC σ' 10 X
theorem frC.rf {σ : wd_S} : frC σ σ := fun _ _ => rfl
theorem frC.tr {a b c : wd_S} (h : frC a b) (g : frC b c) : frC a c := fun q hq => (g q hq).trans (h q hq)
theorem frC.uc {a b : wd_S} {q : Nat} {f : wRow} (h : frC a b) (hq : 10 ≤ q ∧ q < 20) : frC a (wd_uc b q f) := fun c hc => by
  rw [uc_n (by omega)]
  exact h c hc
theorem frD.c {a b : wd_S} (h : frD a b) : frC a b := fun c hc => h c (by omega)
theorem stC.rf {σ : wd_S} {P : wRow} (h : relC σ 10 P) : stC σ P σ := ⟨frC.rf, h⟩
theorem frD.st {σ σ' : wd_S} {P : wRow} (f : frD σ σ') (h : relC σ 10 P) : stC σ P σ' := ⟨f.c, f.C h⟩
theorem relC_n16 {σ : wd_S} {b k : Nat} {n : wRow} (hw : dN n ≤ 4 ∧ sN n ≤ 16 ∧ jN n ≤ 4 ∧ eN n ≤ 6) (hk : k ≤ 4) (h : relC σ b n) (hs : ∀ i, i < k → σ (b + 1) i = n (4 * i) ∧ σ (b + 2) i = n (4 * i + 1) ∧ σ (b + 3) i = n (4 * i + 2) ∧ σ (b + 4) i = n (4 * i + 3)) : relC (wd_uc σ b (upd (σ b) 9 (nI k))) b (upd n 16 (nI k)) := by
  obtain ⟨⟨h1, h2, h3, h4, h5, h6, h7, h8, h9⟩, h16, h33, h43, h48⟩ := h
  have ck : (upd n 16 (nI k) 16).toNatClampNeg = k := by rw [upd_s, nI_clamp (by omega)]
  have d16 : dN (upd n 16 (nI k)) = k := ck
  have d33 : sN (upd n 16 (nI k)) = sN n := rfl
  have d43 : jN (upd n 16 (nI k)) = jN n := rfl
  have d48 : eN (upd n 16 (nI k)) = eN n := rfl
  refine ⟨?_, fun d hdd => ?_, fun i hi => ?_, fun i hi => ?_, fun i hi => ?_⟩
  · rw [uc_s]
    simp [upd, h1, h2, h3, h4, h5, h6, h7, h8, h9]
  · rw [d16] at hdd
    rw [uc_n (by omega), uc_n (by omega), uc_n (by omega), uc_n (by omega), upd_n (by omega), upd_n (by omega), upd_n (by omega), upd_n (by omega)]
    exact hs d hdd
  · rw [d33] at hi
    rw [uc_n (by omega), upd_n (by omega)]
    exact h33 i hi
  · rw [d43] at hi
    rw [uc_n (by omega), uc_n (by omega), upd_n (by omega), upd_n (by omega)]
    exact h43 i hi
  · rw [d48] at hi
    rw [uc_n (by omega), uc_n (by omega), upd_n (by omega), upd_n (by omega)]
    exact h48 i hi
theorem relC_n33 {σ : wd_S} {b k : Nat} {n : wRow} (hw : dN n ≤ 4 ∧ sN n ≤ 16 ∧ jN n ≤ 4 ∧ eN n ≤ 6) (hk : k ≤ 16) (h : relC σ b n) (hs : ∀ i, i < k → σ (b + 5) i = n (17 + i)) : relC (wd_uc σ b (upd (σ b) 10 (nI k))) b (upd n 33 (nI k)) := by
  obtain ⟨⟨h1, h2, h3, h4, h5, h6, h7, h8, h9⟩, h16, h33, h43, h48⟩ := h
  have ck : (upd n 33 (nI k) 33).toNatClampNeg = k := by rw [upd_s, nI_clamp (by omega)]
  have d16 : dN (upd n 33 (nI k)) = dN n := rfl
  have d33 : sN (upd n 33 (nI k)) = k := ck
  have d43 : jN (upd n 33 (nI k)) = jN n := rfl
  have d48 : eN (upd n 33 (nI k)) = eN n := rfl
  refine ⟨?_, fun d hdd => ?_, fun i hi => ?_, fun i hi => ?_, fun i hi => ?_⟩
  · rw [uc_s]
    simp [upd, h1, h2, h3, h4, h5, h6, h7, h8, h9]
  · rw [d16] at hdd
    rw [uc_n (by omega), uc_n (by omega), uc_n (by omega), uc_n (by omega), upd_n (by omega), upd_n (by omega), upd_n (by omega), upd_n (by omega)]
    exact h16 d hdd
  · rw [d33] at hi
    rw [uc_n (by omega), upd_n (by omega)]
    exact hs i hi
  · rw [d43] at hi
    rw [uc_n (by omega), uc_n (by omega), upd_n (by omega), upd_n (by omega)]
    exact h43 i hi
  · rw [d48] at hi
    rw [uc_n (by omega), uc_n (by omega), upd_n (by omega), upd_n (by omega)]
    exact h48 i hi
theorem relC_n43 {σ : wd_S} {b k : Nat} {n : wRow} (hw : dN n ≤ 4 ∧ sN n ≤ 16 ∧ jN n ≤ 4 ∧ eN n ≤ 6) (hk : k ≤ 4) (h : relC σ b n) (hs : ∀ i, i < k → σ (b + 6) i = n (35 + 2 * i) ∧ σ (b + 7) i = n (36 + 2 * i)) : relC (wd_uc σ b (upd (σ b) 11 (nI k))) b (upd n 43 (nI k)) := by
  obtain ⟨⟨h1, h2, h3, h4, h5, h6, h7, h8, h9⟩, h16, h33, h43, h48⟩ := h
  have ck : (upd n 43 (nI k) 43).toNatClampNeg = k := by rw [upd_s, nI_clamp (by omega)]
  have d16 : dN (upd n 43 (nI k)) = dN n := rfl
  have d33 : sN (upd n 43 (nI k)) = sN n := rfl
  have d43 : jN (upd n 43 (nI k)) = k := ck
  have d48 : eN (upd n 43 (nI k)) = eN n := rfl
  refine ⟨?_, fun d hdd => ?_, fun i hi => ?_, fun i hi => ?_, fun i hi => ?_⟩
  · rw [uc_s]
    simp [upd, h1, h2, h3, h4, h5, h6, h7, h8, h9]
  · rw [d16] at hdd
    rw [uc_n (by omega), uc_n (by omega), uc_n (by omega), uc_n (by omega), upd_n (by omega), upd_n (by omega), upd_n (by omega), upd_n (by omega)]
    exact h16 d hdd
  · rw [d33] at hi
    rw [uc_n (by omega), upd_n (by omega)]
    exact h33 i hi
  · rw [d43] at hi
    rw [uc_n (by omega), uc_n (by omega), upd_n (by omega), upd_n (by omega)]
    exact hs i hi
  · rw [d48] at hi
    rw [uc_n (by omega), uc_n (by omega), upd_n (by omega), upd_n (by omega)]
    exact h48 i hi
theorem relC_n48 {σ : wd_S} {b k : Nat} {n : wRow} (hw : dN n ≤ 4 ∧ sN n ≤ 16 ∧ jN n ≤ 4 ∧ eN n ≤ 6) (hk : k ≤ 6) (h : relC σ b n) (hs : ∀ i, i < k → σ (b + 8) i = n (49 + 2 * i) ∧ σ (b + 9) i = n (50 + 2 * i)) : relC (wd_uc σ b (upd (σ b) 12 (nI k))) b (upd n 48 (nI k)) := by
  obtain ⟨⟨h1, h2, h3, h4, h5, h6, h7, h8, h9⟩, h16, h33, h43, h48⟩ := h
  have ck : (upd n 48 (nI k) 48).toNatClampNeg = k := by rw [upd_s, nI_clamp (by omega)]
  have d16 : dN (upd n 48 (nI k)) = dN n := rfl
  have d33 : sN (upd n 48 (nI k)) = sN n := rfl
  have d43 : jN (upd n 48 (nI k)) = jN n := rfl
  have d48 : eN (upd n 48 (nI k)) = k := ck
  refine ⟨?_, fun d hdd => ?_, fun i hi => ?_, fun i hi => ?_, fun i hi => ?_⟩
  · rw [uc_s]
    simp [upd, h1, h2, h3, h4, h5, h6, h7, h8, h9]
  · rw [d16] at hdd
    rw [uc_n (by omega), uc_n (by omega), uc_n (by omega), uc_n (by omega), upd_n (by omega), upd_n (by omega), upd_n (by omega), upd_n (by omega)]
    exact h16 d hdd
  · rw [d33] at hi
    rw [uc_n (by omega), upd_n (by omega)]
    exact h33 i hi
  · rw [d43] at hi
    rw [uc_n (by omega), uc_n (by omega), upd_n (by omega), upd_n (by omega)]
    exact h43 i hi
  · rw [d48] at hi
    rw [uc_n (by omega), uc_n (by omega), upd_n (by omega), upd_n (by omega)]
    exact hs i hi
/-- beyond what counts a row may be anything -/
theorem relC_far {σ σ' : wd_S} {b : Nat} {n m : wRow} (hm : ∀ j, (j = 16 ∨ j = 33 ∨ j = 43 ∨ (43 < j ∧ j < 49) ∨ j = 34) → m j = n j) (h0 : σ' b = σ b) (hd : ∀ d, d < dN n → (σ' (b + 1) d = σ (b + 1) d ∧ σ' (b + 2) d = σ (b + 2) d ∧ σ' (b + 3) d = σ (b + 3) d ∧ σ' (b + 4) d = σ (b + 4) d) ∧ (m (4 * d) = n (4 * d) ∧ m (4 * d + 1) = n (4 * d + 1) ∧ m (4 * d + 2) = n (4 * d + 2) ∧ m (4 * d + 3) = n (4 * d + 3)))
    (hs : ∀ i, i < sN n → σ' (b + 5) i = σ (b + 5) i ∧ m (17 + i) = n (17 + i)) (hj : ∀ i, i < jN n → (σ' (b + 6) i = σ (b + 6) i ∧ σ' (b + 7) i = σ (b + 7) i) ∧ m (35 + 2 * i) = n (35 + 2 * i) ∧ m (36 + 2 * i) = n (36 + 2 * i))
    (he : ∀ i, i < eN n → (σ' (b + 8) i = σ (b + 8) i ∧ σ' (b + 9) i = σ (b + 9) i) ∧ m (49 + 2 * i) = n (49 + 2 * i) ∧ m (50 + 2 * i) = n (50 + 2 * i)) (h : relC σ b n) : relC σ' b m := by
  have d1 : dN m = dN n := by unfold dN; rw [hm 16 (by decide)]
  have d2 : sN m = sN n := by unfold sN; rw [hm 33 (by decide)]
  have d3 : jN m = jN n := by unfold jN; rw [hm 43 (by decide)]
  have d4 : eN m = eN n := by unfold eN; rw [hm 48 (by decide)]
  obtain ⟨g0, g1, g2, g3, g4⟩ := h
  refine ⟨?_, fun d hdd => ?_, fun i hi => ?_, fun i hi => ?_, fun i hi => ?_⟩
  · rw [h0, hm 16 (by decide), hm 33 (by decide), hm 43 (by decide), hm 48 (by decide), hm 34 (by decide), hm 44 (by decide), hm 45 (by decide), hm 46 (by decide), hm 47 (by decide)]
    exact g0
  · rw [d1] at hdd
    obtain ⟨⟨a1, a2, a3, a4⟩, b1, b2, b3, b4⟩ := hd d hdd
    rw [a1, a2, a3, a4, b1, b2, b3, b4]
    exact g1 d hdd
  · rw [d2] at hi
    rw [(hs i hi).1, (hs i hi).2]
    exact g2 i hi
  · rw [d3] at hi
    rw [(hj i hi).1.1, (hj i hi).1.2, (hj i hi).2.1, (hj i hi).2.2]
    exact g3 i hi
  · rw [d4] at hi
    rw [(he i hi).1.1, (he i hi).1.2, (he i hi).2.1, (he i hi).2.2]
    exact g4 i hi
theorem lt_of_le9 {x : Int32} (h : x ≤ 9999) : x < 10000 := by
  rw [Int32.le_iff_toInt_le] at h
  rw [Int32.lt_iff_toInt_lt]
  have e1 : (9999 : Int32).toInt = 9999 := by decide
  have e2 : (10000 : Int32).toInt = 10000 := by decide
  omega
theorem le_of_lt9 {x : Int32} (h : x < 10000) : x ≤ 9999 := by
  rw [Int32.le_iff_toInt_le]
  rw [Int32.lt_iff_toInt_lt] at h
  have e1 : (9999 : Int32).toInt = 9999 := by decide
  have e2 : (10000 : Int32).toInt = 10000 := by decide
  omega
theorem upd_eq2 {f g : wRow} {k j : Nat} {x y : Int32} (h : j ≠ k → f j = g (17 + j)) (hx : x = y) : upd f k x j = upd g (17 + k) y (17 + j) := by
  by_cases e : j = k
  · subst e
    rw [upd_s, upd_s, hx]
  · rw [upd_n e, upd_n (by omega)]
    exact h e
theorem bd33 {P : wRow} {k : Nat} (hw : wf P) (hk : k ≤ 16) : dN (upd P 33 (nI k)) ≤ 4 ∧ sN (upd P 33 (nI k)) ≤ 16 ∧ jN (upd P 33 (nI k)) ≤ 4 ∧ eN (upd P 33 (nI k)) ≤ 6 := by
  obtain ⟨h1, h2, h3, h4⟩ := wf_bd hw
  refine ⟨h1, ?_, h3, h4⟩
  unfold sN
  rw [upd_s, nI_clamp (by omega)]
  exact hk
section C
variable {G : wd_G} {τ : wd_T} {Q : wd_P} {P : wRow} {σ : wd_S}
theorem s_addSign_10 {s : Nat} {v : Int32} (hs : σ 10 10 = nI s) (hlt : s < 16) (h : Q none (wd_uc (wd_uc σ 15 (upd (σ 15) s v)) 10 (upd (σ 10) 10 (nI (s + 1)))) τ) : Run wC G M_P_addSign 0 [some (.ref 10), some (.int v)] [] σ τ Q := by
  refine wd_go ok_P_addSign [] 20 (fun R hR => ?_)
  conv => whnf
  try dsimp only
  rw [hs]
  refine br_f (by rw [il16]; exact nI_ge hlt (by decide)) ?_
  conv => whnf
  try dsimp only
  rw [hs]
  refine ⟨vp_in_nI (by first | decide | omega) (by first | decide | omega), ?_⟩
  conv => whnf
  try dsimp only
  refine ⟨rfl, ?_⟩
  rw [nI_clamp (by omega), uc_n (by decide), hs, ← nI_succ]
  exact h
theorem s_addJam_10 {s : Nat} {v x : Int32} (hs : σ 10 11 = nI s) (hlt : s < 4) (h : Q none (wd_uc (wd_uc (wd_uc σ 16 (upd (σ 16) s v)) 17 (upd (σ 17) s x)) 10 (upd (σ 10) 11 (nI (s + 1)))) τ) : Run wC G M_P_addJam 0 [some (.ref 10), some (.int v), some (.int x)] [] σ τ Q := by
  refine wd_go ok_P_addJam [] 30 (fun R hR => ?_)
  conv => whnf
  try dsimp only
  rw [hs]
  refine br_f (by rw [il4]; exact nI_ge hlt (by decide)) ?_
  conv => whnf
  try dsimp only
  rw [hs]
  refine ⟨vp_in_nI (by first | decide | omega) (by first | decide | omega), ?_⟩
  conv => whnf
  try dsimp only
  rw [uc_n (c' := 10) (by decide), hs]
  refine ⟨vp_in_nI (by first | decide | omega) (by first | decide | omega), ?_⟩
  conv => whnf
  try dsimp only
  refine ⟨rfl, ?_⟩
  rw [nI_clamp (by omega), uc_n (c' := 10) (c := 17) (by decide), uc_n (c' := 10) (c := 16) (by decide), hs, ← nI_succ]
  exact h
theorem s_addSeen_10 {s : Nat} {v x : Int32} (hs : σ 10 12 = nI s) (hlt : s < 6) (h : Q none (wd_uc (wd_uc (wd_uc σ 18 (upd (σ 18) s v)) 19 (upd (σ 19) s x)) 10 (upd (σ 10) 12 (nI (s + 1)))) τ) : Run wC G M_P_addSeen 0 [some (.ref 10), some (.int v), some (.int x)] [] σ τ Q := by
  refine wd_go ok_P_addSeen [] 30 (fun R hR => ?_)
  conv => whnf
  try dsimp only
  rw [hs]
  refine br_f (by rw [il6]; exact nI_ge hlt (by decide)) ?_
  conv => whnf
  try dsimp only
  rw [hs]
  refine ⟨vp_in_nI (by first | decide | omega) (by first | decide | omega), ?_⟩
  conv => whnf
  try dsimp only
  rw [uc_n (c' := 10) (by decide), hs]
  refine ⟨vp_in_nI (by first | decide | omega) (by first | decide | omega), ?_⟩
  conv => whnf
  try dsimp only
  refine ⟨rfl, ?_⟩
  rw [nI_clamp (by omega), uc_n (c' := 10) (c := 19) (by decide), uc_n (c' := 10) (c := 18) (by decide), hs, ← nI_succ]
  exact h
theorem s_addSign_30 {s : Nat} {v : Int32} (hs : σ 30 10 = nI s) (hlt : s < 16) (h : Q none (wd_uc (wd_uc σ 35 (upd (σ 35) s v)) 30 (upd (σ 30) 10 (nI (s + 1)))) τ) : Run wC G M_P_addSign 0 [some (.ref 30), some (.int v)] [] σ τ Q := by
  refine wd_go ok_P_addSign [] 20 (fun R hR => ?_)
  conv => whnf
  try dsimp only
  rw [hs]
  refine br_f (by rw [il16]; exact nI_ge hlt (by decide)) ?_
  conv => whnf
  try dsimp only
  rw [hs]
  refine ⟨vp_in_nI (by first | decide | omega) (by first | decide | omega), ?_⟩
  conv => whnf
  try dsimp only
  refine ⟨rfl, ?_⟩
  rw [nI_clamp (by omega), uc_n (by decide), hs, ← nI_succ]
  exact h
theorem s_addJam_30 {s : Nat} {v x : Int32} (hs : σ 30 11 = nI s) (hlt : s < 4) (h : Q none (wd_uc (wd_uc (wd_uc σ 36 (upd (σ 36) s v)) 37 (upd (σ 37) s x)) 30 (upd (σ 30) 11 (nI (s + 1)))) τ) : Run wC G M_P_addJam 0 [some (.ref 30), some (.int v), some (.int x)] [] σ τ Q := by
  refine wd_go ok_P_addJam [] 30 (fun R hR => ?_)
  conv => whnf
  try dsimp only
  rw [hs]
  refine br_f (by rw [il4]; exact nI_ge hlt (by decide)) ?_
  conv => whnf
  try dsimp only
  rw [hs]
  refine ⟨vp_in_nI (by first | decide | omega) (by first | decide | omega), ?_⟩
  conv => whnf
  try dsimp only
  rw [uc_n (c' := 30) (by decide), hs]
  refine ⟨vp_in_nI (by first | decide | omega) (by first | decide | omega), ?_⟩
  conv => whnf
  try dsimp only
  refine ⟨rfl, ?_⟩
  rw [nI_clamp (by omega), uc_n (c' := 30) (c := 37) (by decide), uc_n (c' := 30) (c := 36) (by decide), hs, ← nI_succ]
  exact h
theorem s_addSeen_30 {s : Nat} {v x : Int32} (hs : σ 30 12 = nI s) (hlt : s < 6) (h : Q none (wd_uc (wd_uc (wd_uc σ 38 (upd (σ 38) s v)) 39 (upd (σ 39) s x)) 30 (upd (σ 30) 12 (nI (s + 1)))) τ) : Run wC G M_P_addSeen 0 [some (.ref 30), some (.int v), some (.int x)] [] σ τ Q := by
  refine wd_go ok_P_addSeen [] 30 (fun R hR => ?_)
  conv => whnf
  try dsimp only
  rw [hs]
  refine br_f (by rw [il6]; exact nI_ge hlt (by decide)) ?_
  conv => whnf
  try dsimp only
  rw [hs]
  refine ⟨vp_in_nI (by first | decide | omega) (by first | decide | omega), ?_⟩
  conv => whnf
  try dsimp only
  rw [uc_n (c' := 30) (by decide), hs]
  refine ⟨vp_in_nI (by first | decide | omega) (by first | decide | omega), ?_⟩
  conv => whnf
  try dsimp only
  refine ⟨rfl, ?_⟩
  rw [nI_clamp (by omega), uc_n (c' := 30) (c := 39) (by decide), uc_n (c' := 30) (c := 38) (by decide), hs, ← nI_succ]
  exact h
theorem s_addDog {s : Nat} {v x : Int32} (hs : σ 30 9 = nI s) (hlt : s < 4) (h : Q none (wd_uc (wd_uc (wd_uc σ 31 (upd (σ 31) s v)) 32 (upd (σ 32) s x)) 30 (upd (σ 30) 9 (nI (s + 1)))) τ) : Run wC G M_P_addDog 0 [some (.ref 30), some (.int v), some (.int x)] [] σ τ Q := by
  refine wd_go ok_P_addDog [] 30 (fun R hR => ?_)
  conv => whnf
  try dsimp only
  rw [hs]
  refine br_f (by rw [il4]; exact nI_ge hlt (by decide)) ?_
  conv => whnf
  try dsimp only
  rw [hs]
  refine ⟨vp_in_nI (by first | decide | omega) (by first | decide | omega), ?_⟩
  conv => whnf
  try dsimp only
  rw [uc_n (c' := 30) (by decide), hs]
  refine ⟨vp_in_nI (by first | decide | omega) (by first | decide | omega), ?_⟩
  conv => whnf
  try dsimp only
  refine ⟨rfl, ?_⟩
  rw [nI_clamp (by omega), uc_n (c' := 30) (c := 32) (by decide), uc_n (c' := 30) (c := 31) (by decide), hs, ← nI_succ]
  exact h
theorem s_D_set {i v : Int32} (hr : relC σ 10 P) (hw : wf P) (h : ∀ σ', stC σ (cSet P i v).2 σ' → Q (some (.int (cSet P i v).1)) σ' τ) : Run wC G M_D_set 0 [some (.ref 0), some (.int i), some (.int v), none] [] σ τ Q := by
  have hs16 := hw.2.1.2
  refine wd_go ok_D_set [] 20 (fun R hR => ?_)
  conv => whnf
  try dsimp only
  refine hR (k_D_set_2 (Nat.le_of_ble_eq_true rfl) rfl (s_D_noSign hr ?_))
  cases hi : inB i 0 (P 33 - 1) with
  | false =>
    refine wd_go ok_D_set [] 20 (fun R hR => ?_)
    conv => whnf
    try dsimp only
    refine nb_t (by decide) ?_
    conv => whnf
    try dsimp only
    rw [cSet, if_neg (fun z => by rw [hi] at z; cases z.1)] at h
    exact h σ (stC.rf hr)
  | true =>
    refine wd_go ok_D_set [] 20 (fun R hR => ?_)
    conv => whnf
    try dsimp only
    refine nb_f rfl ?_
    conv => whnf
    try dsimp only
    refine hR (k_D_set_12 (Nat.le_of_ble_eq_true rfl) (s_D_outside ?_))
    cases hv : inB v 0 15 with
    | false =>
      refine wd_go ok_D_set [] 20 (fun R hR => ?_)
      conv => whnf
      try dsimp only
      refine br_f (by decide) ?_
      conv => whnf
      try dsimp only
      rw [cSet, if_neg (fun z => by rw [hv] at z; cases z.2)] at h
      exact h σ (stC.rf hr)
    | true =>
      rw [cSet, if_pos ⟨hi, hv⟩] at h
      rw [hw.2.1.1] at hi
      obtain ⟨i, hii, rfl⟩ := inD (by omega) hi
      rw [nI_clamp (by omega)] at h
      refine wd_go ok_D_set [] 30 (fun R hR => ?_)
      conv => whnf
      try dsimp only
      refine br_t rfl ?_
      conv => whnf
      try dsimp only
      refine ⟨vp_in_nI (by first | decide | omega) (by first | decide | omega), ?_⟩
      conv => whnf
      try dsimp only
      refine ⟨vp_in_nI (by first | decide | omega) (by first | decide | omega), ?_⟩
      conv => whnf
      try dsimp only
      rw [nI_clamp (by omega), hr.2.2.1 i hii]
      exact h _ ⟨frC.rf.uc (by omega), relC_sgn (b := 10) (wf_bd hw) (by omega) hr⟩
theorem s_D_add {v : Int32} (hr : relC σ 10 P) (hw : wf P) (h : ∀ σ', stC σ (cAdd P v).2 σ' → Q (some (.int (cAdd P v).1)) σ' τ) : Run wC G M_D_add 0 [some (.ref 0), some (.int v)] [] σ τ Q := by
  have hs16 := hw.2.1.2
  have hs := hw.2.1.1
  rw [cAdd] at h
  refine wd_go ok_D_add [] 20 (fun R hR => ?_)
  conv => whnf
  try dsimp only
  refine hR (k_D_add_4 (Nat.le_of_ble_eq_true rfl) (s_D_outside ?_))
  cases hv : inB v 0 15 with
  | false =>
    refine wd_go ok_D_add [] 20 (fun R hR => ?_)
    conv => whnf
    try dsimp only
    refine br_f (by decide) ?_
    conv => whnf
    try dsimp only
    rw [if_neg (by rw [hv]; decide)] at h
    exact h σ (stC.rf hr)
  | true =>
    rw [if_pos hv] at h
    refine wd_go ok_D_add [] 20 (fun R hR => ?_)
    conv => whnf
    try dsimp only
    refine br_t rfl ?_
    conv => whnf
    try dsimp only
    rw [hr.1.2.1, hs]
    by_cases hz : P 33 = 16
    · rw [if_pos hz] at h
      refine br_f (by rw [← hs, hz]; decide) ?_
      conv => whnf
      try dsimp only
      exact h σ (stC.rf hr)
    · rw [if_neg hz] at h
      have hlt : sN P < 16 := by
        refine Nat.lt_of_le_of_ne hs16 (fun e => hz ?_)
        rw [hs, e]
        rfl
      refine br_t (by rw [il16]; exact nI_lt hlt (by decide)) ?_
      conv => whnf
      try dsimp only
      refine hR (k_D_add_32 (Nat.le_of_ble_eq_true rfl) rfl (s_addSign_10 (hr.1.2.1.trans hs) hlt ?_))
      refine wd_go ok_D_add [] 20 (fun R hR => ?_)
      conv => whnf
      try dsimp only
      rw [hs, ← nI_succ] at h
      refine h _ ⟨(frC.rf.uc (by omega)).uc (by omega), ?_⟩
      have r1 := relC_sgn (b := 10) (i := sN P) (x := v) (wf_bd hw) hlt hr
      refine relC_n33 (wf_bd (wf_sgn hlt hw)) hlt r1 (fun i hi => ?_)
      rw [uc_s]
      exact upd_eq2 (fun hn => hr.2.2.1 i (by omega)) rfl
theorem s_D_cut {n : Int32} (hr : relC σ 10 P) (hw : wf P) (h : ∀ σ', stC σ (cCut P n).2 σ' → Q (some (.int (cCut P n).1)) σ' τ) : Run wC G M_D_cut 0 [some (.ref 0), some (.int n), none] [] σ τ Q := by
  have hs16 := hw.2.1.2
  have hs := hw.2.1.1
  rw [cCut] at h
  refine wd_go ok_D_cut [] 20 (fun R hR => ?_)
  conv => whnf
  try dsimp only
  rw [hr.1.2.1]
  refine hR (k_D_cut_9 (Nat.le_of_ble_eq_true rfl) (s_D_outside ?_))
  cases hv : inB n 0 (P 33) with
  | false =>
    refine wd_go ok_D_cut [] 20 (fun R hR => ?_)
    conv => whnf
    try dsimp only
    refine br_f (by decide) ?_
    conv => whnf
    try dsimp only
    rw [if_neg (by rw [hv]; decide)] at h
    exact h σ (stC.rf hr)
  | true =>
    rw [if_pos hv] at h
    rw [hs] at hv
    obtain ⟨k, hk, rfl⟩ := inN (by omega) hv
    refine wd_go ok_D_cut [] 30 (fun R hR => ?_)
    conv => whnf
    try dsimp only
    refine br_t rfl ?_
    conv => whnf
    try dsimp only
    rw [uc_s, upd_n (by decide), hr.1.2.2.2.2.1, hr.1.2.1]
    have r1 : relC (wd_uc σ 10 (upd (σ 10) 10 (nI k))) 10 (upd P 33 (nI k)) := relC_n33 (wf_bd hw) (by omega) hr (fun i hi => hr.2.2.1 i (by omega))
    by_cases hz : P 34 < nI k
    · rw [if_pos hz, upd_self] at h
      refine br_t hz ?_
      conv => whnf
      try dsimp only
      exact h _ ⟨frC.rf.uc (by omega), r1⟩
    · rw [if_neg hz, upd_comm _ (by decide)] at h
      refine br_f hz ?_
      conv => whnf
      try dsimp only
      refine h _ ⟨(frC.rf.uc (by omega)).uc (by omega), relC_13 (bd33 hw (by omega)) r1 0⟩
theorem s_D_clear {n : Int32} (hr : relC σ 10 P) (hw : wf P) (h : ∀ σ', stC σ (cClear P n).2 σ' → Q (some (.int (cClear P n).1)) σ' τ) : Run wC G M_D_clear 0 [some (.ref 0), some (.int n), none] [] σ τ Q := by
  have hs4 := hw.2.2.1.2
  have hs := hw.2.2.1.1
  rw [cClear] at h
  refine wd_go ok_D_clear [] 20 (fun R hR => ?_)
  conv => whnf
  try dsimp only
  rw [hr.1.2.2.1]
  refine hR (k_D_clear_9 (Nat.le_of_ble_eq_true rfl) (s_D_outside ?_))
  cases hv : inB n 0 (P 43) with
  | false =>
    refine wd_go ok_D_clear [] 20 (fun R hR => ?_)
    conv => whnf
    try dsimp only
    refine br_f (by decide) ?_
    conv => whnf
    try dsimp only
    rw [if_neg (by rw [hv]; decide)] at h
    exact h σ (stC.rf hr)
  | true =>
    rw [if_pos hv] at h
    rw [hs] at hv
    obtain ⟨k, hk, rfl⟩ := inN (by omega) hv
    refine wd_go ok_D_clear [] 30 (fun R hR => ?_)
    conv => whnf
    try dsimp only
    refine br_t rfl ?_
    conv => whnf
    try dsimp only
    rw [hr.1.2.2.1]
    exact h _ ⟨frC.rf.uc (by omega), relC_n43 (wf_bd hw) (by omega) hr (fun i hi => hr.2.2.2.1 i (by omega))⟩
theorem s_D_forget {n : Int32} (hr : relC σ 10 P) (hw : wf P) (h : ∀ σ', stC σ (cForget P n).2 σ' → Q (some (.int (cForget P n).1)) σ' τ) : Run wC G M_D_forget 0 [some (.ref 0), some (.int n), none] [] σ τ Q := by
  have hs4 := hw.2.2.2.1.2
  have hs := hw.2.2.2.1.1
  rw [cForget] at h
  refine wd_go ok_D_forget [] 20 (fun R hR => ?_)
  conv => whnf
  try dsimp only
  rw [hr.1.2.2.2.1]
  refine hR (k_D_forget_9 (Nat.le_of_ble_eq_true rfl) (s_D_outside ?_))
  cases hv : inB n 0 (P 48) with
  | false =>
    refine wd_go ok_D_forget [] 20 (fun R hR => ?_)
    conv => whnf
    try dsimp only
    refine br_f (by decide) ?_
    conv => whnf
    try dsimp only
    rw [if_neg (by rw [hv]; decide)] at h
    exact h σ (stC.rf hr)
  | true =>
    rw [if_pos hv] at h
    rw [hs] at hv
    obtain ⟨k, hk, rfl⟩ := inN (by omega) hv
    refine wd_go ok_D_forget [] 30 (fun R hR => ?_)
    conv => whnf
    try dsimp only
    refine br_t rfl ?_
    conv => whnf
    try dsimp only
    rw [hr.1.2.2.2.1]
    exact h _ ⟨frC.rf.uc (by omega), relC_n48 (wf_bd hw) (by omega) hr (fun i hi => hr.2.2.2.2 i (by omega))⟩
theorem s_D_stick {t n : Int32} (hr : relC σ 10 P) (hw : wf P) (h : ∀ σ', stC σ (cStick P t n).2 σ' → Q (some (.int (cStick P t n).1)) σ' τ) : Run wC G M_D_stick 0 [some (.ref 0), some (.int t), some (.int n)] [] σ τ Q := by
  have hs4 := hw.2.2.1.2
  have hs := hw.2.2.1.1
  obtain ⟨b1, b2, b3, b4⟩ := wf_bd hw
  rw [cStick] at h
  refine wd_go ok_D_stick [] 20 (fun R hR => ?_)
  conv => whnf
  try dsimp only
  refine hR (k_D_stick_4 (Nat.le_of_ble_eq_true rfl) (s_D_outside ?_))
  cases hv : inB t 0 99 with
  | false =>
    refine wd_go ok_D_stick [] 20 (fun R hR => ?_)
    conv => whnf
    try dsimp only
    refine nb_t (by decide) ?_
    conv => whnf
    try dsimp only
    rw [if_neg (fun z => by rw [hv] at z; cases z.1)] at h
    exact h σ (stC.rf hr)
  | true =>
    refine wd_go ok_D_stick [] 20 (fun R hR => ?_)
    conv => whnf
    try dsimp only
    refine nb_f rfl ?_
    conv => whnf
    try dsimp only
    refine hR (k_D_stick_14 (Nat.le_of_ble_eq_true rfl) (s_D_outside ?_))
    cases hv2 : inB n 1 40 with
    | false =>
      refine wd_go ok_D_stick [] 20 (fun R hR => ?_)
      conv => whnf
      try dsimp only
      refine br_f (by decide) ?_
      conv => whnf
      try dsimp only
      rw [if_neg (fun z => by rw [hv2] at z; cases z.2)] at h
      exact h σ (stC.rf hr)
    | true =>
      rw [if_pos ⟨hv, hv2⟩] at h
      refine wd_go ok_D_stick [] 20 (fun R hR => ?_)
      conv => whnf
      try dsimp only
      refine br_t rfl ?_
      conv => whnf
      try dsimp only
      rw [hr.1.2.2.1, hs]
      by_cases hz : P 43 = 4
      · rw [if_pos hz] at h
        refine br_f (by rw [← hs, hz]; decide) ?_
        conv => whnf
        try dsimp only
        exact h σ (stC.rf hr)
      · rw [if_neg hz] at h
        have hlt : jN P < 4 := by
          refine Nat.lt_of_le_of_ne hs4 (fun e => hz ?_)
          rw [hs, e]
          rfl
        refine br_t (by rw [il4]; exact nI_lt hlt (by decide)) ?_
        conv => whnf
        try dsimp only
        refine hR (k_D_stick_42 (Nat.le_of_ble_eq_true rfl) rfl (s_addJam_10 (hr.1.2.2.1.trans hs) hlt ?_))
        refine wd_go ok_D_stick [] 20 (fun R hR => ?_)
        conv => whnf
        try dsimp only
        rw [hs, ← nI_succ] at h
        refine h _ ⟨((frC.rf.uc (by omega)).uc (by omega)).uc (by omega), ?_⟩
        have hm : ∀ j, (j < 35 + 2 * jN P ∨ 35 + 2 * jN P + 1 < j) → upd (upd P (35 + 2 * jN P) t) (36 + 2 * jN P) n j = P j := fun j hj => by rw [upd_n (by omega), upd_n (by omega)]
        have r1 : relC (wd_uc (wd_uc σ 16 (upd (σ 16) (jN P) t)) 17 (upd (σ 17) (jN P) n)) 10 (upd (upd P (35 + 2 * jN P) t) (36 + 2 * jN P) n) := by
          refine relC_far (σ := σ) (fun j hj => hm j (by omega)) rfl (fun d hd => ⟨⟨rfl, rfl, rfl, rfl⟩, hm _ (by omega), hm _ (by omega), hm _ (by omega), hm _ (by omega)⟩) (fun i hi => ⟨rfl, hm _ (by omega)⟩) (fun i hi => ⟨⟨?_, ?_⟩, ?_, ?_⟩) (fun i hi => ⟨⟨?_, ?_⟩, ?_, ?_⟩) hr
          · exact upd_n (Nat.ne_of_lt hi)
          · exact upd_n (Nat.ne_of_lt hi)
          · exact hm _ (by omega)
          · exact hm _ (by omega)
          · rfl
          · rfl
          · exact hm _ (by omega)
          · exact hm _ (by omega)
        refine relC_n43 (bd_of (hm 16 (by omega)) (hm 33 (by omega)) (hm 43 (by omega)) (hm 48 (by omega)) (wf_bd hw)) hlt r1 (fun i hi => ?_)
        by_cases e : i = jN P
        · subst e
          refine ⟨?_, ?_⟩
          · rw [upd_n (j := 35 + 2 * jN P) (by omega), upd_s]
            exact upd_s _ _ _
          · rw [upd_s]
            exact upd_s _ _ _
        · rw [hm _ (by omega), hm _ (by omega)]
          have := hr.2.2.2.1 i (by omega)
          refine ⟨?_, ?_⟩
          · rw [← this.1]
            exact upd_n e
          · rw [← this.2]
            exact upd_n e
theorem s_D_see {t n : Int32} (hr : relC σ 10 P) (hw : wf P) (h : ∀ σ', stC σ (cSee P t n).2 σ' → Q (some (.int (cSee P t n).1)) σ' τ) : Run wC G M_D_see 0 [some (.ref 0), some (.int t), some (.int n)] [] σ τ Q := by
  have hs4 := hw.2.2.2.1.2
  have hs := hw.2.2.2.1.1
  obtain ⟨b1, b2, b3, b4⟩ := wf_bd hw
  rw [cSee] at h
  refine wd_go ok_D_see [] 20 (fun R hR => ?_)
  conv => whnf
  try dsimp only
  refine hR (k_D_see_4 (Nat.le_of_ble_eq_true rfl) (s_D_outside ?_))
  cases hv : inB t 0 40 with
  | false =>
    refine wd_go ok_D_see [] 20 (fun R hR => ?_)
    conv => whnf
    try dsimp only
    refine nb_t (by decide) ?_
    conv => whnf
    try dsimp only
    rw [if_neg (fun z => by rw [hv] at z; cases z.1)] at h
    exact h σ (stC.rf hr)
  | true =>
    refine wd_go ok_D_see [] 20 (fun R hR => ?_)
    conv => whnf
    try dsimp only
    refine nb_f rfl ?_
    conv => whnf
    try dsimp only
    refine hR (k_D_see_13 (Nat.le_of_ble_eq_true rfl) (s_D_outside ?_))
    cases hv2 : inB n 0 1 with
    | false =>
      refine wd_go ok_D_see [] 20 (fun R hR => ?_)
      conv => whnf
      try dsimp only
      refine br_f (by decide) ?_
      conv => whnf
      try dsimp only
      rw [if_neg (fun z => by rw [hv2] at z; cases z.2)] at h
      exact h σ (stC.rf hr)
    | true =>
      rw [if_pos ⟨hv, hv2⟩] at h
      refine wd_go ok_D_see [] 20 (fun R hR => ?_)
      conv => whnf
      try dsimp only
      refine br_t rfl ?_
      conv => whnf
      try dsimp only
      rw [hr.1.2.2.2.1, hs]
      by_cases hz : P 48 = 6
      · rw [if_pos hz] at h
        refine br_f (by rw [← hs, hz]; decide) ?_
        conv => whnf
        try dsimp only
        exact h σ (stC.rf hr)
      · rw [if_neg hz] at h
        have hlt : eN P < 6 := by
          refine Nat.lt_of_le_of_ne hs4 (fun e => hz ?_)
          rw [hs, e]
          rfl
        refine br_t (by rw [il6]; exact nI_lt hlt (by decide)) ?_
        conv => whnf
        try dsimp only
        refine hR (k_D_see_42 (Nat.le_of_ble_eq_true rfl) rfl (s_addSeen_10 (hr.1.2.2.2.1.trans hs) hlt ?_))
        refine wd_go ok_D_see [] 20 (fun R hR => ?_)
        conv => whnf
        try dsimp only
        rw [hs, ← nI_succ] at h
        refine h _ ⟨((frC.rf.uc (by omega)).uc (by omega)).uc (by omega), ?_⟩
        have hm : ∀ j, (j < 49 + 2 * eN P ∨ 49 + 2 * eN P + 1 < j) → upd (upd P (49 + 2 * eN P) t) (50 + 2 * eN P) n j = P j := fun j hj => by rw [upd_n (by omega), upd_n (by omega)]
        have r1 : relC (wd_uc (wd_uc σ 18 (upd (σ 18) (eN P) t)) 19 (upd (σ 19) (eN P) n)) 10 (upd (upd P (49 + 2 * eN P) t) (50 + 2 * eN P) n) := by
          refine relC_far (σ := σ) (fun j hj => hm j (by omega)) rfl (fun d hd => ⟨⟨rfl, rfl, rfl, rfl⟩, hm _ (by omega), hm _ (by omega), hm _ (by omega), hm _ (by omega)⟩) (fun i hi => ⟨rfl, hm _ (by omega)⟩) (fun i hi => ⟨⟨?_, ?_⟩, ?_, ?_⟩) (fun i hi => ⟨⟨?_, ?_⟩, ?_, ?_⟩) hr
          · rfl
          · rfl
          · exact hm _ (by omega)
          · exact hm _ (by omega)
          · exact upd_n (Nat.ne_of_lt hi)
          · exact upd_n (Nat.ne_of_lt hi)
          · exact hm _ (by omega)
          · exact hm _ (by omega)
        refine relC_n48 (bd_of (hm 16 (by omega)) (hm 33 (by omega)) (hm 43 (by omega)) (hm 48 (by omega)) (wf_bd hw)) hlt r1 (fun i hi => ?_)
        by_cases e : i = eN P
        · subst e
          refine ⟨?_, ?_⟩
          · rw [upd_n (j := 49 + 2 * eN P) (by omega), upd_s]
            exact upd_s _ _ _
          · rw [upd_s]
            exact upd_s _ _ _
        · rw [hm _ (by omega), hm _ (by omega)]
          have := hr.2.2.2.2 i (by omega)
          refine ⟨?_, ?_⟩
          · rw [← this.1]
            exact upd_n e
          · rw [← this.2]
            exact upd_n e
theorem s_D_alterKind {d : Nat} {v : Int32} (hr : relC σ 10 P) (hw : wf P) (hd : d < dN P) (h : ∀ σ' x, (if inB v 0 3 = true then x = P (4 * d) ∧ stC σ (upd P (4 * d) v) σ' else x = -1 ∧ σ' = σ) → Q (some (.int x)) σ' τ) : Run wC G M_D_alterKind 0 [some (.ref 0), some (.int (nI d)), some (.int v), none] [] σ τ Q := by
  have hD4 := hw.1.2
  refine wd_go ok_D_alterKind [] 20 (fun R hR => ?_)
  conv => whnf
  try dsimp only
  refine hR (k_D_alterKind_3 (Nat.le_of_ble_eq_true rfl) (s_D_outside ?_))
  cases hv : inB v 0 3 with
  | false =>
    refine wd_go ok_D_alterKind [] 20 (fun R hR => ?_)
    conv => whnf
    try dsimp only
    refine br_f (by decide) ?_
    conv => whnf
    try dsimp only
    refine h σ _ ?_
    rw [if_neg (by rw [hv]; decide)]
    exact ⟨rfl, rfl⟩
  | true =>
    refine wd_go ok_D_alterKind [] 30 (fun R hR => ?_)
    conv => whnf
    try dsimp only
    refine br_t rfl ?_
    conv => whnf
    try dsimp only
    refine ⟨vp_in_nI (by first | decide | omega) (by first | decide | omega), ?_⟩
    conv => whnf
    try dsimp only
    refine ⟨vp_in_nI (by first | decide | omega) (by first | decide | omega), ?_⟩
    conv => whnf
    try dsimp only
    rw [nI_clamp (by omega)]
    refine h _ _ ?_
    rw [if_pos hv]
    exact ⟨(hr.2.1 d hd).1, frC.rf.uc (by omega), relC_knd (b := 10) (wf_bd hw) hd hr⟩
theorem s_D_alterLimit {d : Nat} {v : Int32} (hr : relC σ 10 P) (hw : wf P) (hd : d < dN P) (h : ∀ σ' x, (if inB v 1 20 = true then x = P (4 * d + 1) ∧ stC σ (upd P (4 * d + 1) v) σ' else x = -1 ∧ σ' = σ) → Q (some (.int x)) σ' τ) : Run wC G M_D_alterLimit 0 [some (.ref 0), some (.int (nI d)), some (.int v), none] [] σ τ Q := by
  have hD4 := hw.1.2
  refine wd_go ok_D_alterLimit [] 20 (fun R hR => ?_)
  conv => whnf
  try dsimp only
  refine hR (k_D_alterLimit_4 (Nat.le_of_ble_eq_true rfl) (s_D_outside ?_))
  cases hv : inB v 1 20 with
  | false =>
    refine wd_go ok_D_alterLimit [] 20 (fun R hR => ?_)
    conv => whnf
    try dsimp only
    refine br_f (by decide) ?_
    conv => whnf
    try dsimp only
    refine h σ _ ?_
    rw [if_neg (by rw [hv]; decide)]
    exact ⟨rfl, rfl⟩
  | true =>
    refine wd_go ok_D_alterLimit [] 30 (fun R hR => ?_)
    conv => whnf
    try dsimp only
    refine br_t rfl ?_
    conv => whnf
    try dsimp only
    refine ⟨vp_in_nI (by first | decide | omega) (by first | decide | omega), ?_⟩
    conv => whnf
    try dsimp only
    refine ⟨vp_in_nI (by first | decide | omega) (by first | decide | omega), ?_⟩
    conv => whnf
    try dsimp only
    rw [nI_clamp (by omega)]
    refine h _ _ ?_
    rw [if_pos hv]
    exact ⟨(hr.2.1 d hd).2.1, frC.rf.uc (by omega), relC_lim (b := 10) (wf_bd hw) hd hr⟩
theorem s_D_alter {d w v : Int32} (hr : relC σ 10 P) (hw : wf P) (h : ∀ σ', stC σ (cAlter P d w v).2 σ' → Q (some (.int (cAlter P d w v).1)) σ' τ) : Run wC G M_D_alter 0 [some (.ref 0), some (.int d), some (.int w), some (.int v)] [] σ τ Q := by
  have hD4 := hw.1.2
  rw [cAlter] at h
  refine wd_go ok_D_alter [] 20 (fun R hR => ?_)
  conv => whnf
  try dsimp only
  refine hR (k_D_alter_2 (Nat.le_of_ble_eq_true rfl) rfl (s_D_noDog hr ?_))
  cases hd : inB d 0 (P 16 - 1) with
  | false =>
    refine wd_go ok_D_alter [] 20 (fun R hR => ?_)
    conv => whnf
    try dsimp only
    refine nb_t (by decide) ?_
    conv => whnf
    try dsimp only
    rw [if_neg (fun z => by rw [hd] at z; cases z.1)] at h
    exact h σ (stC.rf hr)
  | true =>
    refine wd_go ok_D_alter [] 20 (fun R hR => ?_)
    conv => whnf
    try dsimp only
    refine nb_f rfl ?_
    conv => whnf
    try dsimp only
    refine hR (k_D_alter_11 (Nat.le_of_ble_eq_true rfl) (s_D_outside ?_))
    cases hp : inB w 0 1 with
    | false =>
      refine wd_go ok_D_alter [] 20 (fun R hR => ?_)
      conv => whnf
      try dsimp only
      refine br_f (by decide) ?_
      conv => whnf
      try dsimp only
      rw [if_neg (fun z => ?_)] at h
      · exact h σ (stC.rf hr)
      · rcases z.2 with ⟨rfl, _⟩ | ⟨rfl, _⟩ <;> exact absurd hp (by decide)
    | true =>
      have hd0 := hd
      rw [hw.1.1] at hd
      obtain ⟨d, hdd, rfl⟩ := inD (by omega) hd
      obtain ⟨k, hk, rfl⟩ := inN (N := 1) (by decide) hp
      rw [nI_clamp (by omega), nI_clamp (by omega)] at h
      refine wd_go ok_D_alter [] 20 (fun R hR => ?_)
      conv => whnf
      try dsimp only
      refine br_t rfl ?_
      conv => whnf
      try dsimp only
      match k, hk with
      | 0, _ =>
        refine nb_f rfl ?_
        conv => whnf
        try dsimp only
        refine hR (k_D_alter_26 (Nat.le_of_ble_eq_true rfl) rfl (s_D_alterKind hr hw hdd (fun σ' x hx => ?_)))
        refine wd_go ok_D_alter [] 20 (fun R hR => ?_)
        conv => whnf
        try dsimp only
        by_cases hv : inB v 0 3 = true
        · rw [if_pos hv] at hx
          rw [if_pos ⟨hd0, Or.inl ⟨rfl, hv⟩⟩] at h
          rw [hx.1]
          exact h σ' hx.2
        · rw [if_neg hv] at hx
          rw [if_neg (fun z => ?_)] at h
          · rw [hx.1, hx.2]
            exact h σ (stC.rf hr)
          · rcases z.2 with z | z
            · exact hv z.2
            · exact absurd z.1 (by decide)
      | 1, _ =>
        refine nb_t (by decide) ?_
        conv => whnf
        try dsimp only
        refine hR (k_D_alter_35 (Nat.le_of_ble_eq_true rfl) rfl (s_D_alterLimit hr hw hdd (fun σ' x hx => ?_)))
        refine wd_go ok_D_alter [] 20 (fun R hR => ?_)
        conv => whnf
        try dsimp only
        by_cases hv : inB v 1 20 = true
        · rw [if_pos hv] at hx
          rw [if_pos ⟨hd0, Or.inr ⟨rfl, hv⟩⟩] at h
          rw [hx.1]
          exact h σ' hx.2
        · rw [if_neg hv] at hx
          rw [if_neg (fun z => ?_)] at h
          · rw [hx.1, hx.2]
            exact h σ (stC.rf hr)
          · rcases z.2 with z | z
            · exact absurd z.1 (by decide)
            · exact hv z.2
theorem s_D_bone {d : Int32} (hr : relC σ 10 P) (hw : wf P) (h : ∀ σ', stC σ (cBone P d).2 σ' → Q (some (.int (cBone P d).1)) σ' τ) : Run wC G M_D_bone 0 [some (.ref 0), some (.int d)] [] σ τ Q := by
  have hD4 := hw.1.2
  rw [cBone] at h
  refine wd_go ok_D_bone [] 20 (fun R hR => ?_)
  conv => whnf
  try dsimp only
  refine hR (k_D_bone_2 (Nat.le_of_ble_eq_true rfl) rfl (s_D_noDog hr ?_))
  cases hd : inB d 0 (P 16 - 1) with
  | false =>
    refine wd_go ok_D_bone [] 20 (fun R hR => ?_)
    conv => whnf
    try dsimp only
    refine br_f (by decide) ?_
    conv => whnf
    try dsimp only
    rw [if_neg (by rw [hd]; decide)] at h
    exact h σ (stC.rf hr)
  | true =>
    rw [if_pos hd] at h
    rw [hw.1.1] at hd
    obtain ⟨d, hdd, rfl⟩ := inD (by omega) hd
    rw [nI_clamp (by omega)] at h
    refine wd_go ok_D_bone [] 20 (fun R hR => ?_)
    conv => whnf
    try dsimp only
    refine br_t rfl ?_
    conv => whnf
    try dsimp only
    refine hR (k_D_bone_15 (Nat.le_of_ble_eq_true rfl) rfl (s_fed_10 hr hD4 (hw.2.2.2.2.2.2.1 d hdd).1 hdd ?_))
    have r1 : relC (wd_uc (wd_uc σ 13 (upd (σ 13) d (rwC P d true))) 14 (upd (σ 14) d (rwB P d true))) 10 (rwD P d true) := relC_dog (b := 10) hD4 hdd hr
    cases hx : rwX P d true with
    | false =>
      rw [hx, if_neg (by decide)] at h
      refine wd_go ok_D_bone [] 20 (fun R hR => ?_)
      conv => whnf
      try dsimp only
      refine nb_f rfl ?_
      conv => whnf
      try dsimp only
      exact h _ ⟨(frC.rf.uc (by omega)).uc (by omega), r1⟩
    | true =>
      rw [hx, if_pos rfl] at h
      refine wd_go ok_D_bone [] 20 (fun R hR => ?_)
      conv => whnf
      try dsimp only
      refine nb_t (by decide) ?_
      conv => whnf
      try dsimp only
      rw [uc_n (c' := 10) (by decide), uc_n (c' := 10) (by decide), hr.1.2.2.2.2.2.1]
      refine hR (k_D_bone_35 (Nat.le_of_ble_eq_true rfl) rfl (s_anew_10 ?_))
      refine wd_go ok_D_bone [] 20 (fun R hR => ?_)
      conv => whnf
      try dsimp only
      obtain ⟨r, hr1, hr2⟩ := hw.2.2.2.2.2.1
      have hm : ∀ j, 16 ≤ j → rwD P d true j = P j := fun j hj => by rw [rwD, upd_n (by omega), upd_n (by omega)]
      refine h _ ⟨((((frC.rf.uc (by omega)).uc (by omega)).uc (by omega)).uc (by omega)).uc (by omega), ?_⟩
      exact relC_anew (b := 10) (bd_of (hm 16 (by omega)) (hm 33 (by omega)) (hm 43 (by omega)) (hm 48 (by omega)) (wf_bd hw)) ⟨(hm 45 (by omega)).trans hr1, hr2⟩ r1
theorem s_D_ticks {n : Int32} (hr : relC σ 10 P) (hw : wf P) (h : ∀ σ', stC σ (cTicks P n).2 σ' → Q (some (.int (cTicks P n).1)) σ' τ) : Run wC G M_D_ticks 0 [some (.ref 0), some (.int n)] [] σ τ Q := by
  rw [cTicks] at h
  refine wd_go ok_D_ticks [] 20 (fun R hR => ?_)
  conv => whnf
  try dsimp only
  refine hR (k_D_ticks_4 (Nat.le_of_ble_eq_true rfl) (s_D_outside ?_))
  cases hn : inB n 0 100 with
  | false =>
    refine wd_go ok_D_ticks [] 20 (fun R hR => ?_)
    conv => whnf
    try dsimp only
    refine br_f (by decide) ?_
    conv => whnf
    try dsimp only
    rw [if_neg (by rw [hn]; decide)] at h
    exact h σ (stC.rf hr)
  | true =>
    rw [if_pos hn] at h
    obtain ⟨n, hnn, rfl⟩ := inN (N := 100) (by decide) hn
    rw [nI_clamp (by omega)] at h
    refine wd_go ok_D_ticks [] 30 (fun R hR => ?_)
    conv => whnf
    try dsimp only
    refine br_t rfl ?_
    conv => whnf
    try dsimp only
    rw [hr.1.2.2.2.2.2.1]
    by_cases hz : P 44 + nI n ≤ 9999
    · rw [if_pos hz] at h
      refine br_t (lt_of_le9 hz) ?_
      conv => whnf
      try dsimp only
      refine hR (k_D_ticks_38 (Nat.le_of_ble_eq_true rfl) rfl (s_T_begin hr (wf_bd hw) (stP_is P) (fun σ1 r1 f1 => ?_)))
      refine wd_go ok_D_ticks [] 20 (fun R hR => ?_)
      conv => whnf
      try dsimp only
      refine hR (k_D_ticks_46 (Nat.le_of_ble_eq_true rfl) rfl (s_T_walk r1 hw (by omega) (fun σ2 r3 f2 => ?_)))
      refine wd_go ok_D_ticks [] 20 (fun R hR => ?_)
      conv => whnf
      try dsimp only
      refine hR (k_D_ticks_60 (Nat.le_of_ble_eq_true rfl) rfl (s_copy_10_20 (fun σ3 h1 h2 => ?_)))
      refine wd_go ok_D_ticks [] 20 (fun R hR => ?_)
      conv => whnf
      try dsimp only
      rw [h2 1 (by omega), r3.2.1]
      refine h σ3 ⟨fun c hc => ?_, h1 _ (wf_bd (tks_wf (u := stP P (-4)) hw n).1) r3.1⟩
      rw [h2 c (by omega)]
      exact (f1.tr f2) c (by omega)
    · rw [if_neg hz] at h
      refine br_f (fun z => hz (le_of_lt9 z)) ?_
      conv => whnf
      try dsimp only
      exact h σ (stC.rf hr)
end C
