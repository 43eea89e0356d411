/-! THE TEXT: lines of the class -/
/-- a token leaves all alone but its own fields -/
def frK (σ σ' : wd_S) : Prop := (∀ c, c ≠ 4 → σ' c = σ c) ∧ ∀ k, (k < 3 ∨ k = 5 ∨ 9 < k) → σ' 4 k = σ 4 k
def frP (σ σ' : wd_S) : Prop := (∀ c, c ≠ 4 → (c < 30 ∨ 40 ≤ c) → σ' c = σ c) ∧ (∀ k, (k < 3 ∨ k = 5 ∨ 9 < k) → σ' 4 k = σ 4 k) ∧ (∀ k, 12 ≤ k → σ' 30 k = σ 30 k) ∧ σ' 33 = σ 33 ∧ σ' 34 = σ 34
theorem frK.rf {σ : wd_S} : frK σ σ := ⟨fun _ _ => rfl, fun _ _ => rfl⟩
theorem frK.tr {a b c : wd_S} (h : frK a b) (g : frK b c) : frK a c := ⟨fun q hq => (g.1 q hq).trans (h.1 q hq), fun k hk => (g.2 k hk).trans (h.2 k hk)⟩
theorem frK.P {a b : wd_S} (h : frK a b) : frP a b := ⟨fun c hc _ => h.1 c hc, h.2, fun k _ => by rw [h.1 30 (by decide)], h.1 33 (by decide), h.1 34 (by decide)⟩
theorem frP.rf {σ : wd_S} : frP σ σ := ⟨fun _ _ _ => rfl, fun _ _ => rfl, fun _ _ => rfl, rfl, rfl⟩
theorem frP.tr {a b c : wd_S} (h : frP a b) (g : frP b c) : frP a c := ⟨fun q hq hr => (g.1 q hq hr).trans (h.1 q hq hr), fun k hk => (g.2.1 k hk).trans (h.2.1 k hk), fun k hk => (g.2.2.1 k hk).trans (h.2.2.1 k hk), g.2.2.2.1.trans h.2.2.2.1, g.2.2.2.2.trans h.2.2.2.2⟩
theorem frK.t {a c : wd_S} {b : Nat → Nat} {L : Nat} (h : frK a c) (t : tpC a b L) : tpC c b L := ⟨(h.2 2 (by omega)).trans t.1, t.2.1, fun i hi => by rw [h.1 5 (by decide)]; exact t.2.2 i hi⟩
theorem frP.t {a c : wd_S} {b : Nat → Nat} {L : Nat} (h : frP a c) (t : tpC a b L) : tpC c b L := ⟨(h.2.1 2 (by omega)).trans t.1, t.2.1, fun i hi => by rw [h.1 5 (by decide) (by decide)]; exact t.2.2 i hi⟩
def dfC (σ : wd_S) : Prop := ∀ d, d < 4 → σ 33 d = 0 ∧ σ 34 d = 0
theorem frP.d {a c : wd_S} (h : frP a c) (t : dfC a) : dfC c := fun d hd => by rw [h.2.2.2.1, h.2.2.2.2]; exact t d hd
def cX (σ : wd_S) (x : pX) : Prop := match x with
  | .inl e => σ 4 3 = nI e.1 ∧ (¬ σ 4 3 = 0) ∧ σ 4 4 = nI e.2
  | .inr y => σ 4 3 = 0 ∧ σ 4 6 = nI y.2.2.1 ∧ σ 4 7 = nI y.2.1 ∧ σ 4 8 = nI y.1 ∧ (y.2.1 = 2 → σ 4 9 = y.2.2.2.1) ∧ relC σ 30 y.2.2.2.2
theorem relC_K {a c : wd_S} {D : wRow} (h : frK a c) (hr : relC a 30 D) : relC c 30 D := relC_kept hr (fun j hj => h.1 (30 + j) (by omega))
theorem tokC_X {σ σ' : wd_S} {b : Nat → Nat} {L p : Nat} {D : wRow} (t : tokC σ b L p σ') (hr : relC σ 30 D) : frK σ σ' ∧ cX σ' (ntk b L p D) := by
  obtain ⟨t1, t2, t3, t4⟩ := t
  have f : frK σ σ' := ⟨t1, t2⟩
  refine ⟨f, ?_⟩
  unfold ntk
  split
  · rename_i hg
    obtain ⟨a1, a2, a3, a4, a5⟩ := t3 hg
    exact ⟨a5, a2, a1, a3, a4, relC_K f hr⟩
  · rename_i hg
    obtain ⟨a1, a2⟩ := t4 (Bool.eq_false_iff.mpr hg)
    exact ⟨a1, by rw [a1]; decide, a2⟩
theorem nmK_map {b : Nat → Nat} {L : Nat} {lo hi : Int32} {g : Int32 → wRow → wRow} {y : pY} : nmK b L lo hi g y = (match nmK b L lo hi (fun _ D => D) y with
    | .inl e => .inl e
    | .inr z => .inr (z.1, z.2.1, z.2.2.1, z.2.2.2.1, g y.2.2.2.1 y.2.2.2.2)) := by
  unfold nmK
  by_cases h1 : y.2.1 = 2
  · rw [if_pos h1, if_pos h1]
    by_cases h2 : inB y.2.2.2.1 lo hi = true
    · rw [if_pos h2, if_pos h2]
      unfold ntk
      by_cases h3 : (tokS b L (spS b L y.2.2.1)).2.2.2 = true
      · rw [if_pos h3, if_pos h3]
      · rw [if_neg h3, if_neg h3]
    · rw [if_neg h2, if_neg h2]
  · rw [if_neg h1, if_neg h1]
theorem nmK_2 {b : Nat → Nat} {L : Nat} {lo hi : Int32} {g : Int32 → wRow → wRow} {y z : pY} (h : nmK b L lo hi g y = .inr z) : y.2.1 = 2 ∧ inB y.2.2.2.1 lo hi = true := by
  unfold nmK at h
  split at h
  · rename_i h1
    split at h
    · rename_i h2
      exact ⟨h1, h2⟩
    · cases h
  · cases h
theorem relC_adS {σ : wd_S} {D : wRow} {v : Int32} (hw : wf D) (hs : sN D < 16) (hr : relC σ 30 D) : relC (wd_uc (wd_uc σ 35 (upd (σ 35) (sN D) v)) 30 (upd (σ 30) 10 (nI (sN D + 1)))) 30 (adS v D) := by
  have r1 := relC_sgn (b := 30) (i := sN D) (x := v) (wf_bd hw) hs hr
  refine relC_n33 (wf_bd (wf_sgn hs hw)) hs r1 (fun i hi => ?_)
  rw [uc_s]
  exact upd_eq2 (fun hn => hr.2.2.1 i (by omega)) rfl
theorem relC_adJ {σ : wd_S} {D : wRow} {t n : Int32} (hw : wf D) (hs : jN D < 4) (hr : relC σ 30 D) : relC (wd_uc (wd_uc (wd_uc σ 36 (upd (σ 36) (jN D) t)) 37 (upd (σ 37) (jN D) n)) 30 (upd (σ 30) 11 (nI (jN D + 1)))) 30 (adJ t n D) := by
  obtain ⟨b1, b2, b3, b4⟩ := wf_bd hw
  have hm : ∀ j, (j < 35 + 2 * jN D ∨ 35 + 2 * jN D + 1 < j) → upd (upd D (35 + 2 * jN D) t) (36 + 2 * jN D) n j = D j := fun j hj => by rw [upd_n (by omega), upd_n (by omega)]
  have r1 : relC (wd_uc (wd_uc σ 36 (upd (σ 36) (jN D) t)) 37 (upd (σ 37) (jN D) n)) 30 (upd (upd D (35 + 2 * jN D) t) (36 + 2 * jN D) n) := by
    refine relC_far (σ := σ) (fun j hj => hm j (by omega)) rfl (fun d hd => ⟨⟨rfl, rfl, rfl, rfl⟩, hm _ (by omega), hm _ (by omega), hm _ (by omega), hm _ (by omega)⟩) (fun i hi => ⟨rfl, hm _ (by omega)⟩) (fun i hi => ⟨⟨?_, ?_⟩, ?_, ?_⟩) (fun i hi => ⟨⟨?_, ?_⟩, ?_, ?_⟩) hr
    · exact upd_n (Nat.ne_of_lt hi)
    · exact upd_n (Nat.ne_of_lt hi)
    · exact hm _ (by omega)
    · exact hm _ (by omega)
    · rfl
    · rfl
    · exact hm _ (by omega)
    · exact hm _ (by omega)
  refine relC_n43 (bd_of (hm 16 (by omega)) (hm 33 (by omega)) (hm 43 (by omega)) (hm 48 (by omega)) (wf_bd hw)) hs r1 (fun i hi => ?_)
  by_cases e : i = jN D
  · subst e
    refine ⟨?_, ?_⟩
    · rw [upd_n (j := 35 + 2 * jN D) (by omega), upd_s]
      exact upd_s _ _ _
    · rw [upd_s]
      exact upd_s _ _ _
  · rw [hm _ (by omega), hm _ (by omega)]
    have := hr.2.2.2.1 i (by omega)
    refine ⟨?_, ?_⟩
    · rw [← this.1]
      exact upd_n e
    · rw [← this.2]
      exact upd_n e
theorem relC_adD {σ : wd_S} {D : wRow} {k n : Int32} (hD : dOK D) (hz : dfC σ) (hs : dN D < 4) (hr : relC σ 30 D) : relC (wd_uc (wd_uc (wd_uc σ 31 (upd (σ 31) (dN D) k)) 32 (upd (σ 32) (dN D) n)) 30 (upd (σ 30) 9 (nI (dN D + 1)))) 30 (adD k n D) := by
  have hw := hD.1
  obtain ⟨b1, b2, b3, b4⟩ := wf_bd hw
  have hm : ∀ j, (j < 4 * dN D ∨ 4 * dN D + 1 < j) → upd (upd D (4 * dN D) k) (4 * dN D + 1) n j = D j := fun j hj => by rw [upd_n (by omega), upd_n (by omega)]
  have r1 : relC (wd_uc (wd_uc σ 31 (upd (σ 31) (dN D) k)) 32 (upd (σ 32) (dN D) n)) 30 (upd (upd D (4 * dN D) k) (4 * dN D + 1) n) := by
    refine relC_far (σ := σ) (fun j hj => hm j (by omega)) rfl (fun d hd => ⟨⟨?_, ?_, rfl, rfl⟩, hm _ (by omega), hm _ (by omega), hm _ (by omega), hm _ (by omega)⟩) (fun i hi => ⟨rfl, hm _ (by omega)⟩) (fun i hi => ⟨⟨rfl, rfl⟩, hm _ (by omega), hm _ (by omega)⟩) (fun i hi => ⟨⟨rfl, rfl⟩, hm _ (by omega), hm _ (by omega)⟩) hr
    · exact upd_n (Nat.ne_of_lt hd)
    · exact upd_n (Nat.ne_of_lt hd)
  refine relC_n16 (bd_of (hm 16 (by omega)) (hm 33 (by omega)) (hm 43 (by omega)) (hm 48 (by omega)) (wf_bd hw)) hs r1 (fun i hi => ?_)
  by_cases e : i = dN D
  · subst e
    rw [hm (4 * dN D + 2) (by omega), hm (4 * dN D + 3) (by omega), (hD.2.2 _ hs).1, (hD.2.2 _ hs).2]
    refine ⟨?_, ?_, (hz _ hs).1, (hz _ hs).2⟩
    · rw [upd_n (j := 4 * dN D) (by omega), upd_s]
      exact upd_s _ _ _
    · rw [upd_s]
      exact upd_s _ _ _
  · rw [hm _ (by omega), hm _ (by omega), hm _ (by omega), hm _ (by omega)]
    have := hr.2.1 i (by omega)
    refine ⟨?_, ?_, this.2.2.1, this.2.2.2⟩
    · rw [← this.1]
      exact upd_n e
    · rw [← this.2.1]
      exact upd_n e
theorem cX_l {σ σ' : wd_S} {e : Nat × Nat} (h : cX σ (.inl e)) (h4 : σ' 4 = σ 4) : cX σ' (.inl e) := by
  unfold cX at h ⊢
  dsimp only at h ⊢
  rw [h4]
  exact h
theorem frP_30 {σ : wd_S} {x : Int32} {j : Nat} (hj : j < 12) {σ1 : wd_S} (h : frP σ σ1) (h0 : σ1 30 = σ 30) : frP σ (wd_uc σ1 30 (upd (σ 30) j x)) := by
  refine ⟨fun c hc hr => ?_, fun k hk => ?_, fun k hk => ?_, ?_, ?_⟩
  · rw [uc_n (by omega)]
    exact h.1 c hc hr
  · rw [uc_n (by decide)]
    exact h.2.1 k hk
  · rw [uc_s, upd_n (by omega)]
  · rw [uc_n (by decide)]
    exact h.2.2.2.1
  · rw [uc_n (by decide)]
    exact h.2.2.2.2
theorem frP_a {σ σ1 : wd_S} {c : Nat} {f : wRow} (hc : 30 < c ∧ c < 40 ∧ c ≠ 33 ∧ c ≠ 34) (h : frP σ σ1) : frP σ (wd_uc σ1 c f) := by
  refine ⟨fun q hq hr => ?_, fun k hk => ?_, fun k hk => ?_, ?_, ?_⟩
  · rw [uc_n (by omega)]
    exact h.1 q hq hr
  · rw [uc_n (by omega)]
    exact h.2.1 k hk
  · rw [uc_n (by omega)]
    exact h.2.2.1 k hk
  · rw [uc_n (by omega)]
    exact h.2.2.2.1
  · rw [uc_n (by omega)]
    exact h.2.2.2.2
section C
variable {G : wd_G} {τ : wd_T} {Q : wd_P} {b : Nat → Nat} {L : Nat} {σ : wd_S}
theorem s_addDogF {s : Nat} {v x : Int32} (hs : σ 30 9 = nI s) (hl : s ≤ 4) (h : ∀ σ', frP σ σ' → σ' 4 = σ 4 → Q none σ' τ) : Run wC G M_P_addDog 0 [some (.ref 30), some (.int v), some (.int x)] [] σ τ Q := by
  by_cases hlt : s < 4
  · exact s_addDog hs hlt (h _ (frP_30 (by decide) (frP_a (by decide) (frP_a (by decide) frP.rf)) rfl) rfl)
  · have e : s = 4 := by omega
    subst e
    refine wd_go ok_P_addDog [] 30 (fun R hR => ?_)
    conv => whnf
    try dsimp only
    refine br_t (by rw [hs]; decide) ?_
    conv => whnf
    try dsimp only
    exact ⟨rfl, h _ frP.rf rfl⟩
theorem s_addSignF {s : Nat} {v : Int32} (hs : σ 30 10 = nI s) (hl : s ≤ 16) (h : ∀ σ', frP σ σ' → σ' 4 = σ 4 → Q none σ' τ) : Run wC G M_P_addSign 0 [some (.ref 30), some (.int v)] [] σ τ Q := by
  by_cases hlt : s < 16
  · exact s_addSign_30 hs hlt (h _ (frP_30 (by decide) (frP_a (by decide) frP.rf) rfl) rfl)
  · have e : s = 16 := by omega
    subst e
    refine wd_go ok_P_addSign [] 30 (fun R hR => ?_)
    conv => whnf
    try dsimp only
    refine br_t (by rw [hs]; decide) ?_
    conv => whnf
    try dsimp only
    exact ⟨rfl, h _ frP.rf rfl⟩
theorem s_addJamF {s : Nat} {v x : Int32} (hs : σ 30 11 = nI s) (hl : s ≤ 4) (h : ∀ σ', frP σ σ' → σ' 4 = σ 4 → Q none σ' τ) : Run wC G M_P_addJam 0 [some (.ref 30), some (.int v), some (.int x)] [] σ τ Q := by
  by_cases hlt : s < 4
  · exact s_addJam_30 hs hlt (h _ (frP_30 (by decide) (frP_a (by decide) (frP_a (by decide) frP.rf)) rfl) rfl)
  · have e : s = 4 := by omega
    subst e
    refine wd_go ok_P_addJam [] 30 (fun R hR => ?_)
    conv => whnf
    try dsimp only
    refine br_t (by rw [hs]; decide) ?_
    conv => whnf
    try dsimp only
    exact ⟨rfl, h _ frP.rf rfl⟩
theorem s_A_tok {p : Nat} {D : wRow} (ht : tpC σ b L) (hp : σ 4 6 = nI p) (hpL : p ≤ L) (hf : σ 4 3 = 0) (hr : relC σ 30 D) (h : ∀ σ', frK σ σ' → cX σ' (ntk b L p D) → Q none σ' τ) : Run wC G M_A_readToken 0 [some (.ref 4)] [] σ τ Q :=
  s_A_readToken ht hp hpL hf (fun σ' t => h σ' (tokC_X t hr).1 (tokC_X t hr).2)
theorem cX_f {c : Int32} {n : Nat} {y : pY} (hx : cX σ (.inr y)) (hc : c = nI n) (h0 : ¬ c = 0) : frK σ (wd_uc σ 4 (upd (upd (σ 4) 3 c) 4 (σ 4 8))) ∧ cX (wd_uc σ 4 (upd (upd (σ 4) 3 c) 4 (σ 4 8))) (.inl (n, y.1)) := by
  refine ⟨⟨fun q hq => uc_n hq, fun k hk => ?_⟩, ?_, ?_, ?_⟩
  · rw [uc_s, upd_n (by omega), upd_n (by omega)]
  · show c = nI n
    exact hc
  · exact h0
  · exact hx.2.2.2.1
theorem s_A_num {y : pY} {lo hi : Int32} (ht : tpC σ b L) (hy : okY L y) (hx : cX σ (.inr y)) (h : ∀ σ' r, frK σ σ' → cX σ' (nmK b L lo hi (fun _ D => D) y) → (y.2.1 = 2 → r = y.2.2.2.1) → Q (some (.int r)) σ' τ) : Run wC G M_A_takeNumber 0 [some (.ref 4), some (.int lo), some (.int hi), none] [] σ τ Q := by
  have hy3 := hy.2.2.2.1
  have e7 : σ 4 7 = 2 ↔ y.2.1 = 2 := by
    rw [hx.2.2.1]
    exact nI_eq (b := 2) (by omega) (by decide)
  unfold nmK at h
  refine s_A_takeNumber ht hx.2.1 hy.2.1 hx.1 (fun c hc => ?_) (fun h7 hb σ' t => ?_)
  · rcases hc with ⟨h7, rfl⟩ | ⟨h7, hb, rfl⟩
    · rw [if_neg (fun z => h7 (e7.mpr z))] at h
      exact h _ _ (cX_f hx rfl (by decide)).1 (cX_f hx rfl (by decide)).2 (fun z => absurd (e7.mpr z) h7)
    · have h2 := e7.mp h7
      rw [hx.2.2.2.2.1 h2] at hb ⊢
      rw [if_pos h2, if_neg (by rw [hb]; decide)] at h
      exact h _ _ (cX_f hx rfl (by decide)).1 (cX_f hx rfl (by decide)).2 (fun _ => rfl)
  · have h2 := e7.mp h7
    rw [hx.2.2.2.2.1 h2] at hb ⊢
    rw [if_pos h2, if_pos hb] at h
    exact h _ _ (tokC_X t hx.2.2.2.2.2).1 (tokC_X t hx.2.2.2.2.2).2 (fun _ => rfl)
end C
