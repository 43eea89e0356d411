/-! THE TEXT: lines of the reference -/
def frJ (σ σ' : wd_S) : Prop := (∀ c, c ≠ 0 → σ' c = σ c) ∧ ∀ k, (k < 7 ∨ 12 < k) → σ' 0 k = σ 0 k
def frQ (σ σ' : wd_S) : Prop := (∀ c, c ≠ 0 → c ≠ 4 → σ' c = σ c) ∧ ∀ k, (k < 7 ∨ 12 < k) → σ' 0 k = σ 0 k
theorem frJ.rf {σ : wd_S} : frJ σ σ := ⟨fun _ _ => rfl, fun _ _ => rfl⟩
theorem frJ.tr {a b c : wd_S} (h : frJ a b) (g : frJ b c) : frJ a c := ⟨fun q hq => (g.1 q hq).trans (h.1 q hq), fun k hk => (g.2 k hk).trans (h.2 k hk)⟩
theorem frQ.rf {σ : wd_S} : frQ σ σ := ⟨fun _ _ _ => rfl, fun _ _ => rfl⟩
theorem frQ.tr {a b c : wd_S} (h : frQ a b) (g : frQ b c) : frQ a c := ⟨fun q hq hr => (g.1 q hq hr).trans (h.1 q hq hr), fun k hk => (g.2 k hk).trans (h.2 k hk)⟩
theorem frJ.Q {a b : wd_S} (h : frJ a b) : frQ a b := ⟨fun c hc _ => h.1 c hc, h.2⟩
theorem frQ.u4 {a b : wd_S} {f : wRow} (h : frQ a b) : frQ a (wd_uc b 4 f) := ⟨fun q hq hr => by rw [uc_n hr]; exact h.1 q hq hr, fun k hk => by rw [uc_n (by decide)]; exact h.2 k hk⟩
theorem frJ.t {a c : wd_S} {b : Nat → Nat} {L : Nat} (h : frJ a c) (t : tpR a b L) : tpR c b L := ⟨(h.2 6 (by omega)).trans t.1, t.2.1, fun i hi => by rw [h.1 5 (by decide)]; exact t.2.2 i hi⟩
theorem frQ.t {a c : wd_S} {b : Nat → Nat} {L : Nat} (h : frQ a c) (t : tpR a b L) : tpR c b L := ⟨(h.2 6 (by omega)).trans t.1, t.2.1, fun i hi => by rw [h.1 5 (by decide) (by decide)]; exact t.2.2 i hi⟩
def rT (σ : wd_S) (x : pX) : Prop := match x with
  | .inl e => σ 0 11 = nI e.1 ∧ 0 < σ 0 11 ∧ σ 0 12 = nI e.2
  | .inr y => σ 0 11 = 0 ∧ σ 0 7 = nI y.2.2.1 ∧ σ 0 8 = nI y.1 ∧ σ 0 9 = nI y.2.1 ∧ (y.2.1 = 2 → σ 0 10 = y.2.2.2.1)
def rX (σ : wd_S) (x : pX) : Prop := rT σ x ∧ match x with
  | .inl _ => True
  | .inr y => ∀ j, j < 61 → σ 4 j = y.2.2.2.2 j
theorem rT_0 {σ σ' : wd_S} {x : pX} (h : rT σ x) (h0 : σ' 0 = σ 0) : rT σ' x := by
  cases x with
  | inl e =>
    unfold rT at h ⊢
    dsimp only at h ⊢
    rw [h0]
    exact h
  | inr y =>
    unfold rT at h ⊢
    dsimp only at h ⊢
    rw [h0]
    exact h
theorem rX_l {σ σ' : wd_S} {e : Nat × Nat} (h : rT σ (.inl e)) (h0 : σ' 0 = σ 0) : rX σ' (.inl e) := ⟨rT_0 h h0, trivial⟩
theorem rT_ne {σ : wd_S} {e : Nat × Nat} (h : rT σ (.inl e)) : ¬ σ 0 11 = 0 := fun z => by
  have h1 := h.2.1
  rw [z] at h1
  exact absurd h1 (by decide)
theorem tokR_X {σ σ' : wd_S} {b : Nat → Nat} {L p : Nat} {D : wRow} (t : tokR σ b L p σ') : frJ σ σ' ∧ rT σ' (ntk b L p D) := by
  obtain ⟨t1, t2, t3, t4, t5⟩ := t
  refine ⟨⟨t1, t2⟩, ?_⟩
  unfold ntk
  split
  · rename_i hg
    obtain ⟨a1, a2, a3, a4⟩ := t4 hg
    exact ⟨a4, a2, t3, a1, a3⟩
  · rename_i hg
    obtain ⟨a1, a2⟩ := t5 (Bool.eq_false_iff.mpr hg)
    exact ⟨a1, by rw [a1]; decide, a2⟩
theorem ntk_rX {σ : wd_S} {b : Nat → Nat} {L p : Nat} {D : wRow} (h : rT σ (ntk b L p D)) (hd : ∀ j, j < 61 → σ 4 j = D j) : rX σ (ntk b L p D) := by
  refine ⟨h, ?_⟩
  generalize hx : ntk b L p D = x
  cases x with
  | inl e => trivial
  | inr y =>
    show ∀ j, j < 61 → σ 4 j = y.2.2.2.2 j
    rw [ntk_D hx]
    exact hd
theorem rT_f {σ : wd_S} {c : Int32} {n : Nat} {y : pY} (hx : rT σ (.inr y)) (hc : c = nI n) (h0 : 0 < c) : frJ σ (wd_uc σ 0 (upd (upd (σ 0) 11 c) 12 (σ 0 8))) ∧ rT (wd_uc σ 0 (upd (upd (σ 0) 11 c) 12 (σ 0 8))) (.inl (n, y.1)) := by
  refine ⟨⟨fun q hq => uc_n hq, fun k hk => ?_⟩, ?_, ?_, ?_⟩
  · rw [uc_s, upd_n (by omega), upd_n (by omega)]
  · show c = nI n
    exact hc
  · exact h0
  · exact hx.2.2.1
section R
variable {G : wd_G} {τ : wd_T} {Q : wd_P} {b : Nat → Nat} {L : Nat} {σ : wd_S}
theorem s_R_tok {p : Nat} {D : wRow} (ht : tpR σ b L) (hp : σ 0 7 = nI p) (hpL : p ≤ L) (hf : σ 0 11 = 0) (h : ∀ σ', frJ σ σ' → rT σ' (ntk b L p D) → Q none σ' τ) : Run wR G M_R_reads 0 [some (.ref 0), none] [] σ τ Q :=
  s_R_reads ht hp hpL hf (fun σ' t => h σ' (tokR_X (D := D) t).1 (tokR_X t).2)
theorem s_R_num {y : pY} {lo hi : Int32} (ht : tpR σ b L) (hq : y.2.2.1 ≤ L) (h3 : y.2.1 ≤ 3) (hx : rT σ (.inr y)) (h : ∀ σ' r, frJ σ σ' → rT σ' (nmK b L lo hi (fun _ D => D) y) → ((∃ z, nmK b L lo hi (fun _ D => D) y = .inr z) → r = y.2.2.2.1) → Q (some (.int r)) σ' τ) : Run wR G M_R_readNumber 0 [some (.ref 0), some (.int lo), some (.int hi), none] [] σ τ Q := by
  have e9 : σ 0 9 = 2 ↔ y.2.1 = 2 := by
    rw [hx.2.2.2.1]
    exact nI_eq (b := 2) (by omega) (by decide)
  unfold nmK at h
  refine s_R_readNumber ht hx.2.1 hq hx.1 (fun c hc => ?_) (fun h9 hb σ' t => ?_)
  · rcases hc with ⟨h9, rfl⟩ | ⟨h9, hb, rfl⟩
    · rw [if_neg (fun z => h9 (e9.mpr z))] at h
      exact h _ _ (rT_f hx rfl (by decide)).1 (rT_f hx rfl (by decide)).2 (fun z => by obtain ⟨z, hz⟩ := z; cases hz)
    · have h2 := e9.mp h9
      rw [hx.2.2.2.2 h2] at hb
      rw [if_pos h2, if_neg (by rw [hb]; decide)] at h
      exact h _ _ (rT_f hx rfl (by decide)).1 (rT_f hx rfl (by decide)).2 (fun z => by obtain ⟨z, hz⟩ := z; cases hz)
  · have h2 := e9.mp h9
    rw [hx.2.2.2.2 h2] at hb ⊢
    rw [if_pos h2, if_pos hb] at h
    exact h _ _ (tokR_X (D := y.2.2.2.2) t).1 (tokR_X t).2 (fun _ => rfl)
theorem s_R_numF {lo hi : Int32} (hf : ¬ σ 0 11 = 0) (hp : 0 < σ 0 11) (h : Q (some (.int 0)) σ τ) : Run wR G M_R_readNumber 0 [some (.ref 0), some (.int lo), some (.int hi), none] [] σ τ Q := by
  refine wd_go ok_R_readNumber [] 30 (fun R hR => ?_)
  conv => whnf
  try dsimp only
  refine nb_t hf ?_
  conv => whnf
  try dsimp only
  refine nb_t hf ?_
  conv => whnf
  try dsimp only
  refine nb_t hf ?_
  conv => whnf
  try dsimp only
  refine hR (k_R_readNumber_66 (Nat.le_of_ble_eq_true rfl) rfl (s_R_readsF hp ?_))
  refine wd_go ok_R_readNumber [] 30 (fun R hR => ?_)
  conv => whnf
  try dsimp only
  exact h
/-- a fault is there: the row of signs ends -/
theorem l_R_signsF (hf : ¬ σ 0 11 = 0) (h : Q none σ τ) : Run wR G M_R_readSigns 22 [some (.ref 0)] [] σ τ Q := by
  refine wd_go ok_R_readSigns [] 20 (fun R hR => ?_)
  conv => whnf
  try dsimp only
  refine nb_t hf ?_
  conv => whnf
  try dsimp only
  exact ⟨rfl, h⟩
theorem row_eq {f g : wRow} {k : Nat} {x y : Int32} (h : ∀ j, j < 61 → f j = g j) (hx : x = y) : ∀ j, j < 61 → upd f k x j = upd g k y j := fun j hj => by
  by_cases e : j = k
  · subst e
    rw [upd_s, upd_s, hx]
  · rw [upd_n e, upd_n e]
    exact h j hj
theorem l_R_signs {σ0 : wd_S} {X : pX} (ht0 : tpR σ0 b L) (h : ∀ σ', frQ σ0 σ' → rX σ' X → Q none σ' τ) : ∀ (m i : Nat) (y : pY) (σ : wd_S), 17 = i + m → sN y.2.2.2.2 = i → okY L y → rX σ (.inr y) → frQ σ0 σ → sgF b L m y = X → Run wR G M_R_readSigns 22 [some (.ref 0)] [] σ τ Q := by
  intro m
  induction m with
  | zero =>
    intro i y σ hi hs hy hx hp hX
    have := hy.2.2.2.2.1.2.1.2
    omega
  | succ m ih =>
    intro i y σ hi hs hy hx hp hX
    obtain ⟨⟨f3, f6, f8, f7, f9⟩, hr⟩ := id hx
    have hw := hy.2.2.2.2.1
    have h33 := hw.2.1
    have h16 := h33.2
    have h10 : σ 4 33 = nI i := by rw [hr 33 (by decide), h33.1, hs]
    have hy3 := hy.2.2.2.1
    rw [sgF] at hX
    refine wd_go ok_R_readSigns [22] 30 (fun R hR => ?_)
    conv => whnf
    try dsimp only
    refine nb_f f3 ?_
    conv => whnf
    try dsimp only
    rw [f7]
    by_cases h2 : y.2.1 = 2
    · rw [if_pos h2] at hX
      refine nb_f (by rw [h2]; rfl) ?_
      conv => whnf
      try dsimp only
      refine ⟨vp_in_nI (by first | decide | omega) (by first | decide | omega), ?_⟩
      conv => whnf
      try dsimp only
      rw [cl33, h10]
      by_cases h15 : i = 16
      · rw [if_neg (by omega)] at hX
        refine br_t (by rw [h15]; decide) ?_
        conv => whnf
        try dsimp only
        refine hR (k_R_readSigns_56 (Nat.le_of_ble_eq_true rfl) rfl (s_R_requires (g := false) ?_))
        rw [if_neg (fun z => z.elim (fun y => by cases y) (fun y => y f3))]
        have q := rT_f (c := 5) (n := 5) hx.1 rfl (by decide)
        generalize wd_uc σ 0 (upd (upd (σ 0) 11 5) 12 (σ 0 8)) = σ1 at q
        refine wd_go ok_R_readSigns [22] 20 (fun R hR => ?_)
        conv => whnf
        try dsimp only
        refine nb_t (rT_ne q.2) ?_
        conv => whnf
        try dsimp only
        refine hR (l_R_signsF (rT_ne q.2) (h _ (hp.tr q.1.Q) ?_))
        rw [← hX]
        exact rX_l q.2 rfl
      · rw [if_pos (by omega)] at hX
        refine br_f (show ¬ (16 : Int32) ≤ nI i from nI_ge (b := 16) (by omega) (by decide)) ?_
        conv => whnf
        try dsimp only
        refine hR (k_R_readSigns_56 (Nat.le_of_ble_eq_true rfl) rfl (s_R_requires (g := true) ?_))
        rw [if_pos (Or.inl rfl)]
        refine wd_go ok_R_readSigns [22] 20 (fun R hR => ?_)
        conv => whnf
        try dsimp only
        refine nb_f f3 ?_
        conv => whnf
        try dsimp only
        refine ⟨vp_in_nI (by first | decide | omega) (by first | decide | omega), ?_⟩
        conv => whnf
        try dsimp only
        rw [cl33, h10, il17, nI_add]
        refine hR (k_R_readSigns_84 (Nat.le_of_ble_eq_true rfl) rfl (s_R_num (hp.t ht0) hy.2.1 hy3 hx.1 (fun σ2 r k2 x2 er => ?_)))
        have hm : nmK b L 0 15 adS y = _ := nmK_map
        have o2 : okX L y.2.2.1 (nmK b L 0 15 adS y) := ok_nmK hy (fun hv => adS_ok hy.2.2.2.2 (by omega) hv)
        rw [hm] at o2 hX
        generalize hX2 : nmK b L 0 15 (fun _ D => D) y = X2 at hX x2 o2 er
        refine wd_go ok_R_readSigns [22] 20 (fun R hR => ?_)
        conv => whnf
        try dsimp only
        refine ⟨vp_in_nI (by first | decide | omega) (by first | decide | omega), ?_⟩
        conv => whnf
        try dsimp only
        refine ⟨vp_in_nI (by first | decide | omega) (by first | decide | omega), ?_⟩
        conv => whnf
        try dsimp only
        refine ⟨vp_in_nI (by first | decide | omega) (by first | decide | omega), ?_⟩
        conv => whnf
        try dsimp only
        refine hR ?_
        rw [uc_uc, uc_s, nI_clamp (by omega), cl33, upd_n (j := 33) (by omega), k2.1 4 (by decide), h10, nI_1]
        cases X2 with
        | inl e =>
          refine l_R_signsF (rT_ne (rT_0 x2 rfl)) (h _ (hp.tr k2.Q.u4) ?_)
          rw [← hX]
          exact rX_l x2 rfl
        | inr z =>
          refine ih (i + 1) (z.1, z.2.1, z.2.2.1, z.2.2.2.1, adS y.2.2.2.1 y.2.2.2.2) _ (by omega) ?_ o2.2 ⟨rT_0 (σ := σ2) x2 rfl, ?_⟩ (hp.tr k2.Q.u4) hX
          · show sN (adS y.2.2.2.1 y.2.2.2.2) = i + 1
            rw [← hs]
            exact ckN (by omega)
          · show ∀ j, j < 61 → upd (upd (σ 4) (17 + i) r) 33 (nI (i + 1)) j = adS y.2.2.2.1 y.2.2.2.2 j
            unfold adS
            rw [hs]
            exact row_eq (row_eq hr (er ⟨z, rfl⟩)) rfl
    · rw [if_neg h2] at hX
      refine nb_t (fun z => h2 ((nI_eq (b := 2) (by omega) (by decide)).mp z)) ?_
      conv => whnf
      try dsimp only
      refine ⟨rfl, h _ hp ?_⟩
      rw [← hX]
      exact hx
theorem s_R_readSigns {y : pY} (ht : tpR σ b L) (hy : okY L y) (hs : sN y.2.2.2.2 = 0) (hx : rX σ (.inr y)) (h : ∀ σ', frQ σ σ' → rX σ' (bnd (nmK b L 0 15 adS y) (sgF b L 16)) → Q none σ' τ) : Run wR G M_R_readSigns 0 [some (.ref 0)] [] σ τ Q := by
  have hr := hx.2
  have hm : nmK b L 0 15 adS y = _ := nmK_map
  have o2 : okX L y.2.2.1 (nmK b L 0 15 adS y) := ok_nmK hy (fun hv => adS_ok hy.2.2.2.2 (by omega) hv)
  rw [hm] at o2 h
  refine wd_go ok_R_readSigns [22] 20 (fun R hR => ?_)
  conv => whnf
  try dsimp only
  refine hR (k_R_readSigns_10 (Nat.le_of_ble_eq_true rfl) rfl (s_R_num ht hy.2.1 hy.2.2.2.1 hx.1 (fun σ2 r k2 x2 er => ?_)))
  generalize hX2 : nmK b L 0 15 (fun _ D => D) y = X2 at h x2 o2 er
  refine wd_go ok_R_readSigns [22] 20 (fun R hR => ?_)
  conv => whnf
  try dsimp only
  refine ⟨vp_in_nI (by first | decide | omega) (by first | decide | omega), ?_⟩
  conv => whnf
  try dsimp only
  refine ⟨vp_in_nI (by first | decide | omega) (by first | decide | omega), ?_⟩
  conv => whnf
  try dsimp only
  refine hR ?_
  rw [uc_uc, uc_s, cl17, cl33, k2.1 4 (by decide)]
  cases X2 with
  | inl e => exact l_R_signsF (rT_ne (rT_0 x2 rfl)) (h _ k2.Q.u4 (rX_l x2 rfl))
  | inr z =>
    refine l_R_signs (σ0 := σ) ht h 16 1 (z.1, z.2.1, z.2.2.1, z.2.2.2.1, adS y.2.2.2.1 y.2.2.2.2) _ (by omega) ?_ o2.2 ⟨rT_0 (σ := σ2) x2 rfl, ?_⟩ k2.Q.u4 rfl
    · show sN (adS y.2.2.2.1 y.2.2.2.2) = 1
      rw [show (1 : Nat) = sN y.2.2.2.2 + 1 by omega]
      exact ckN (by omega)
    · show ∀ j, j < 61 → upd (upd (σ 4) 17 r) 33 1 j = adS y.2.2.2.1 y.2.2.2.2 j
      unfold adS
      rw [hs]
      exact row_eq (row_eq hr (er ⟨z, rfl⟩)) rfl
theorem s_R_lineDog {y : pY} {k : Nat} (hk : k ≤ 3) (ht : tpR σ b L) (hy : okY L y) (hd : dN y.2.2.2.2 < 4) (hx : rX σ (.inr y)) (h : ∀ σ', frQ σ σ' → rX σ' (nmK b L 1 20 (adD (nI k)) y) → Q none σ' τ) : Run wR G M_R_readLineOf 0 [some (.ref 0), some (.int (nI k))] [] σ τ Q := by
  have hr : ∀ j, j < 61 → σ 4 j = y.2.2.2.2 j := hx.2
  have hw := hy.2.2.2.2.1
  have h16 : σ 4 16 = nI (dN y.2.2.2.2) := (hr 16 (by decide)).trans hw.1.1
  have hm : nmK b L 1 20 (adD (nI k)) y = _ := nmK_map
  rw [hm] at h
  refine wd_go ok_R_readLineOf [] 30 (fun R hR => ?_)
  conv => whnf
  try dsimp only
  refine br_f (fun z => by have := (nI_eq (b := 4) (by omega) (by decide)).mp z; omega) ?_
  refine br_f (fun z => by have := (nI_eq (b := 5) (by omega) (by decide)).mp z; omega) ?_
  conv => whnf
  try dsimp only
  refine ⟨vp_in_nI (by first | decide | omega) (by first | decide | omega), ?_⟩
  conv => whnf
  try dsimp only
  rw [cl16, h16, il4, pk_mul, il0, nI_add]
  refine ⟨vp_in_nI (by first | decide | omega) (by first | decide | omega), ?_⟩
  conv => whnf
  try dsimp only
  refine ⟨vp_in_nI (by first | decide | omega) (by first | decide | omega), ?_⟩
  conv => whnf
  try dsimp only
  rw [cl16, uc_s, nI_clamp (by omega), upd_n (j := 16) (by omega), h16, show (4 : Int32) * nI (dN y.2.2.2.2) + 1 = nI (4 * dN y.2.2.2.2 + 1) from ix4 _ 1]
  refine hR (k_R_readLineOf_135 (Nat.le_of_ble_eq_true rfl) rfl (s_R_num (y := y) ⟨ht.1, ht.2.1, ht.2.2⟩ hy.2.1 hy.2.2.2.1 (rT_0 hx.1 rfl) (fun σ2 r k2 x2 er => ?_)))
  generalize hX2 : nmK b L 1 20 (fun _ D => D) y = X2 at h x2 er
  have e4 : σ2 4 = upd (σ 4) (4 * dN y.2.2.2.2 + 0) (nI k) := k2.1 4 (by decide)
  have fq : frQ σ σ2 := (frQ.rf.u4).tr k2.Q
  refine wd_go ok_R_readLineOf [] 30 (fun R hR => ?_)
  conv => whnf
  try dsimp only
  refine ⟨vp_in_nI (by first | decide | omega) (by first | decide | omega), ?_⟩
  conv => whnf
  try dsimp only
  refine ⟨vp_in_nI (by first | decide | omega) (by first | decide | omega), ?_⟩
  conv => whnf
  try dsimp only
  refine ⟨vp_in_nI (by first | decide | omega) (by first | decide | omega), ?_⟩
  conv => whnf
  try dsimp only
  refine ⟨rfl, ?_⟩
  rw [uc_uc, uc_s, nI_clamp (by omega), cl16, upd_n (j := 16) (by omega), e4, upd_n (j := 16) (by omega), h16, nI_1]
  cases X2 with
  | inl e => exact h _ fq.u4 (rX_l x2 rfl)
  | inr z =>
    refine h _ fq.u4 ⟨rT_0 (σ := σ2) x2 rfl, ?_⟩
    exact row_eq (row_eq (row_eq hr rfl) (er ⟨z, rfl⟩)) rfl
theorem s_R_lineSigns {y : pY} (ht : tpR σ b L) (hy : okY L y) (hs : sN y.2.2.2.2 = 0) (hx : rX σ (.inr y)) (h : ∀ σ', frQ σ σ' → rX σ' (bnd (nmK b L 0 15 adS y) (sgF b L 16)) → Q none σ' τ) : Run wR G M_R_readLineOf 0 [some (.ref 0), some (.int 4)] [] σ τ Q := by
  refine wd_go ok_R_readLineOf [] 30 (fun R hR => ?_)
  conv => whnf
  try dsimp only
  refine br_t rfl ?_
  conv => whnf
  try dsimp only
  refine hR (k_R_readLineOf_29 (Nat.le_of_ble_eq_true rfl) rfl (s_R_readSigns ht hy hs hx (fun σ' f x => ?_)))
  refine wd_go ok_R_readLineOf [] 30 (fun R hR => ?_)
  conv => whnf
  try dsimp only
  exact ⟨rfl, h σ' f x⟩
theorem s_R_lineJam {y : pY} (ht : tpR σ b L) (hy : okY L y) (hd : jN y.2.2.2.2 < 4) (hx : rX σ (.inr y)) (h : ∀ σ', frQ σ σ' → rX σ' (bnd (nmK b L 0 99 (fun _ D => D) y) (nmK b L 1 40 (adJ y.2.2.2.1))) → Q none σ' τ) : Run wR G M_R_readLineOf 0 [some (.ref 0), some (.int 5)] [] σ τ Q := by
  have hr : ∀ j, j < 61 → σ 4 j = y.2.2.2.2 j := hx.2
  have hw := hy.2.2.2.2.1
  have h43 : σ 4 43 = nI (jN y.2.2.2.2) := (hr 43 (by decide)).trans hw.2.2.1.1
  have o1 : okX L y.2.2.1 (nmK b L 0 99 (fun _ D => D) y) := ok_nmK hy (fun _ => hy.2.2.2.2)
  refine wd_go ok_R_readLineOf [59] 30 (fun R hR => ?_)
  conv => whnf
  try dsimp only
  refine br_f (by decide) ?_
  refine br_t rfl ?_
  conv => whnf
  try dsimp only
  refine ⟨vp_in_nI (by first | decide | omega) (by first | decide | omega), ?_⟩
  conv => whnf
  try dsimp only
  rw [cl43, h43, ix35]
  refine hR (k_R_readLineOf_55 (Nat.le_of_ble_eq_true rfl) rfl (s_R_num (y := y) ht hy.2.1 hy.2.2.2.1 hx.1 (fun σ2 r k2 x2 er => ?_)))
  have e4 : σ2 4 = σ 4 := k2.1 4 (by decide)
  refine wd_go ok_R_readLineOf [59] 30 (fun R hR => ?_)
  conv => whnf
  try dsimp only
  refine ⟨vp_in_nI (by first | decide | omega) (by first | decide | omega), ?_⟩
  conv => whnf
  try dsimp only
  refine hR ?_
  rw [nI_clamp (by omega), e4]
  refine wd_go ok_R_readLineOf [] 30 (fun R hR => ?_)
  conv => whnf
  try dsimp only
  refine ⟨vp_in_nI (by first | decide | omega) (by first | decide | omega), ?_⟩
  conv => whnf
  try dsimp only
  rw [cl43, uc_s, upd_n (j := 43) (by omega), h43, ix36]
  generalize hX2 : nmK b L 0 99 (fun _ D => D) y = X2 at h x2 o1 er
  cases X2 with
  | inl e =>
    refine hR (k_R_readLineOf_81 (Nat.le_of_ble_eq_true rfl) rfl (s_R_numF (rT_ne (rT_0 x2 rfl)) (show 0 < σ2 0 11 from x2.2.1) ?_))
    refine wd_go ok_R_readLineOf [] 30 (fun R hR => ?_)
    conv => whnf
    try dsimp only
    refine ⟨vp_in_nI (by first | decide | omega) (by first | decide | omega), ?_⟩
    conv => whnf
    try dsimp only
    refine ⟨vp_in_nI (by first | decide | omega) (by first | decide | omega), ?_⟩
    conv => whnf
    try dsimp only
    refine ⟨vp_in_nI (by first | decide | omega) (by first | decide | omega), ?_⟩
    conv => whnf
    try dsimp only
    refine ⟨rfl, h _ ?_ ?_⟩
    · exact (k2.Q.u4.u4).u4
    · exact rX_l x2 rfl
  | inr z =>
    have eD : z.2.2.2.2 = y.2.2.2.2 := nmK_D hX2
    refine hR (k_R_readLineOf_81 (Nat.le_of_ble_eq_true rfl) rfl (s_R_num (y := z) ⟨(k2.t ht).1, ht.2.1, (k2.t ht).2.2⟩ o1.2.2.1 o1.2.2.2.2.1 (rT_0 x2 rfl) (fun σ3 r3 k3 x3 er3 => ?_)))
    have hm : nmK b L 1 40 (adJ y.2.2.2.1) z = _ := nmK_map
    simp only [bnd] at h
    rw [hm] at h
    generalize hX3 : nmK b L 1 40 (fun _ D => D) z = X3 at h x3 er3
    have e43 : σ3 4 = upd (σ 4) (35 + 2 * jN y.2.2.2.2) r := k3.1 4 (by decide)
    have fq : frQ σ σ3 := (k2.Q.u4).tr k3.Q
    refine wd_go ok_R_readLineOf [] 30 (fun R hR => ?_)
    conv => whnf
    try dsimp only
    refine ⟨vp_in_nI (by first | decide | omega) (by first | decide | omega), ?_⟩
    conv => whnf
    try dsimp only
    refine ⟨vp_in_nI (by first | decide | omega) (by first | decide | omega), ?_⟩
    conv => whnf
    try dsimp only
    refine ⟨vp_in_nI (by first | decide | omega) (by first | decide | omega), ?_⟩
    conv => whnf
    try dsimp only
    refine ⟨rfl, ?_⟩
    rw [uc_uc, uc_s, nI_clamp (by omega), cl43, upd_n (j := 43) (by omega), e43, upd_n (j := 43) (by omega), h43, nI_1]
    cases X3 with
    | inl e => exact h _ fq.u4 (rX_l x3 rfl)
    | inr z3 =>
      refine h _ fq.u4 ⟨rT_0 (σ := σ3) x3 rfl, ?_⟩
      show ∀ j, j < 61 → _ = adJ y.2.2.2.1 z.2.2.2.1 z.2.2.2.2 j
      rw [eD]
      exact row_eq (row_eq (row_eq hr (er ⟨z, rfl⟩)) (er3 ⟨z3, rfl⟩)) rfl
end R
