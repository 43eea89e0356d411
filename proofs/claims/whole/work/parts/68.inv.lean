/-! BOTH: what the class and the reference hold between two calls -/
def imR (ρ : wd_S) (k : Nat) : wRow := fun j => ρ 1 (61 * (k + 1) + j)
def Inv (σ ρ : wd_S) : Prop :=
  (relC σ 10 (ρ 1) ∧ wf (ρ 1) ∧ sgO (ρ 1)) ∧
  (∀ k, k < 2 → wd_bit (ρ 3 k) ∧ σ 65 k = ρ 3 k ∧ (ρ 3 k = 1 → relC σ (40 + 10 * k) (imR ρ k) ∧ wf (imR ρ k) ∧ sgO (imR ρ k))) ∧
  (∃ (b : Nat → Nat) (L : Nat), tpC σ b L ∧ tpR ρ b L) ∧
  σ 4 3 = ρ 0 11 ∧
  (∀ k, k < 4 → σ 8 k = ρ 9 k ∧ σ 9 k = ρ 10 k ∧ (∃ z : Nat, ρ 10 k = nI z ∧ z ≤ 40) ∧ ∀ j, j < 40 → σ (60 + k) j = ρ 11 (40 * k + j)) ∧
  σ 0 6 = ρ 0 30 ∧ dfC σ ∧ dfF σ
/-- a call of both: one answer, and all holds behind it -/
def BoV (MC MR : wd_M) (As : List Value) (V : Value → Prop) : Prop := ∀ (GC GR : wd_G) (σ ρ : wd_S) (τ υ : wd_T), Inv σ ρ → ∃ v : Value, V v ∧ ∃ QC QR : wd_S → Prop,
  Run wC GC MC 0 (wd_ent (.ref 0 :: As) MC.1.2.2.1) [] σ τ (fun r σ' _ => r = some v ∧ QC σ') ∧
  Run wR GR MR 0 (wd_ent (.ref 0 :: As) MR.1.2.2.1) [] ρ υ (fun r ρ' _ => r = some v ∧ QR ρ') ∧
  ∀ σ' ρ', QC σ' → QR ρ' → Inv σ' ρ'
def isI (v : Value) : Prop := ∃ x : Int32, v = .int x
def isL (v : Value) : Prop := ∃ x : Int64, v = .long x
theorem im_eq {ρ ρ' : wd_S} (h : ∀ j, 61 ≤ j → ρ' 1 j = ρ 1 j) (k : Nat) : imR ρ' k = imR ρ k := by
  funext j
  exact h _ (by omega)
theorem frR.S {ρ ρ' : wd_S} (h : frR ρ ρ') : stR ρ (ρ 1) ρ' := by
  have e1 := h.e1
  refine ⟨⟨fun c h0 h1 h2 h6 h7 h8 _ => h.1 c h0 h2 h6 h7 h8, h.2, fun j _ => by rw [e1]⟩, fun j _ => by rw [e1]⟩
/-- the row changes, all else stays -/
theorem Inv.ch {σ σ' ρ ρ' : wd_S} {X : wRow} (h : Inv σ ρ) (hC : stC σ X σ') (hR : stR ρ X ρ') (hw : wf X) (hs : sgO X) : Inv σ' ρ' := by
  obtain ⟨⟨i1, i2, i3⟩, i4, ⟨b, L, i5, i6⟩, i7, i8, i9, i10, i11⟩ := h
  obtain ⟨f1, f2⟩ := hC
  obtain ⟨⟨g1, g2, g3⟩, g4⟩ := hR
  have k3 : ρ' 3 = ρ 3 := g1 3 (by decide) (by decide) (by decide) (by decide) (by decide) (by decide) (by decide)
  have k5 : ρ' 5 = ρ 5 := g1 5 (by decide) (by decide) (by decide) (by decide) (by decide) (by decide) (by decide)
  have k9 : ρ' 9 = ρ 9 := g1 9 (by decide) (by decide) (by decide) (by decide) (by decide) (by decide) (by decide)
  have k10 : ρ' 10 = ρ 10 := g1 10 (by decide) (by decide) (by decide) (by decide) (by decide) (by decide) (by decide)
  have k11 : ρ' 11 = ρ 11 := g1 11 (by decide) (by decide) (by decide) (by decide) (by decide) (by decide) (by decide)
  refine ⟨⟨relC_cong (wf_bd hw) (fun j hj => g4 j hj) f2, wf_cong g4 hw, ?_⟩, fun k hk => ?_, ⟨b, L, ⟨?_, i5.2.1, fun i hi => ?_⟩, ⟨?_, i6.2.1, fun i hi => ?_⟩⟩, ?_, fun k hk => ?_, ?_, fun d hd => ?_, ?_⟩
  · exact sg_agree (fun j _ h2 => g4 j (by omega)) hw hs
  · rw [k3, f1 65 (by omega), im_eq g3]
    refine ⟨(i4 k hk).1, (i4 k hk).2.1, fun z => ⟨relC_kept ((i4 k hk).2.2 z).1 (fun j hj => f1 _ (by omega)), ((i4 k hk).2.2 z).2⟩⟩
  · rw [f1 4 (by omega)]
    exact i5.1
  · rw [f1 5 (by omega)]
    exact i5.2.2 i hi
  · rw [g2 6 (by omega)]
    exact i6.1
  · rw [k5]
    exact i6.2.2 i hi
  · rw [f1 4 (by omega), g2 11 (by omega)]
    exact i7
  · rw [f1 8 (by omega), f1 9 (by omega), f1 (60 + k) (by omega), k9, k10, k11]
    exact i8 k hk
  · rw [f1 0 (by omega), g2 30 (by omega)]
    exact i9
  · rw [f1 33 (by omega), f1 34 (by omega)]
    exact i10 d hd
  · unfold dfF
    rw [f1 30 (by omega)]
    exact i11
/-- a question -/
theorem bo_q {a : wRow → Int32} {MC MR : wd_M} {As : List Value} (hC : ∀ (G : wd_G) (σ : wd_S) (τ : wd_T) (Q : wd_P) (P : wRow), relC σ 10 P → wf P → (∀ σ' τ', frD σ σ' → Q (some (.int (a P))) σ' τ') → Run wC G MC 0 (wd_ent (.ref 0 :: As) MC.1.2.2.1) [] σ τ Q)
    (hR : ∀ (G : wd_G) (ρ : wd_S) (υ : wd_T) (Q : wd_P), wf (ρ 1) → (∀ ρ' υ', frR ρ ρ' → Q (some (.int (a (ρ 1)))) ρ' υ') → Run wR G MR 0 (wd_ent (.ref 0 :: As) MR.1.2.2.1) [] ρ υ Q) : BoV MC MR As isI := by
  intro GC GR σ ρ τ υ h
  refine ⟨.int (a (ρ 1)), ⟨_, rfl⟩, frD σ, frR ρ, hC _ _ _ _ (ρ 1) h.1.1 h.1.2.1 (fun σ' τ' f => ⟨rfl, f⟩), hR _ _ _ _ h.1.2.1 (fun ρ' υ' f => ⟨rfl, f⟩), fun σ' ρ' f g => h.ch (f.st h.1.1) g.S h.1.2.1 h.1.2.2⟩
theorem bo_ql {a : wRow → Int64} {MC MR : wd_M} {As : List Value} (hC : ∀ (G : wd_G) (σ : wd_S) (τ : wd_T) (Q : wd_P) (P : wRow), relC σ 10 P → wf P → (∀ σ' τ', frD σ σ' → Q (some (.long (a P))) σ' τ') → Run wC G MC 0 (wd_ent (.ref 0 :: As) MC.1.2.2.1) [] σ τ Q)
    (hR : ∀ (G : wd_G) (ρ : wd_S) (υ : wd_T) (Q : wd_P), wf (ρ 1) → (∀ ρ' υ', frR ρ ρ' → Q (some (.long (a (ρ 1)))) ρ' υ') → Run wR G MR 0 (wd_ent (.ref 0 :: As) MR.1.2.2.1) [] ρ υ Q) : BoV MC MR As isL := by
  intro GC GR σ ρ τ υ h
  refine ⟨.long (a (ρ 1)), ⟨_, rfl⟩, frD σ, frR ρ, hC _ _ _ _ (ρ 1) h.1.1 h.1.2.1 (fun σ' τ' f => ⟨rfl, f⟩), hR _ _ _ _ h.1.2.1 (fun ρ' υ' f => ⟨rfl, f⟩), fun σ' ρ' f g => h.ch (f.st h.1.1) g.S h.1.2.1 h.1.2.2⟩
/-- a change -/
theorem bo_c {c : wRow → Int32 × wRow} {MC MR : wd_M} {As : List Value} (hw : ∀ P, wf P → wf (c P).2) (hs : ∀ P, wf P → sgO P → sgO (c P).2) (hC : ∀ (G : wd_G) (σ : wd_S) (τ : wd_T) (Q : wd_P) (P : wRow), relC σ 10 P → wf P → (∀ σ' τ', stC σ (c P).2 σ' → Q (some (.int (c P).1)) σ' τ') → Run wC G MC 0 (wd_ent (.ref 0 :: As) MC.1.2.2.1) [] σ τ Q)
    (hR : ∀ (G : wd_G) (ρ : wd_S) (υ : wd_T) (Q : wd_P), wf (ρ 1) → (∀ ρ' υ', stR ρ (c (ρ 1)).2 ρ' → Q (some (.int (c (ρ 1)).1)) ρ' υ') → Run wR G MR 0 (wd_ent (.ref 0 :: As) MR.1.2.2.1) [] ρ υ Q) : BoV MC MR As isI := by
  intro GC GR σ ρ τ υ h
  refine ⟨.int (c (ρ 1)).1, ⟨_, rfl⟩, stC σ (c (ρ 1)).2, stR ρ (c (ρ 1)).2, hC _ _ _ _ (ρ 1) h.1.1 h.1.2.1 (fun σ' τ' f => ⟨rfl, f⟩), hR _ _ _ _ h.1.2.1 (fun ρ' υ' f => ⟨rfl, f⟩), fun σ' ρ' f g => h.ch f g (hw _ h.1.2.1) (hs _ h.1.2.1 h.1.2.2)⟩
theorem frD.rf' {σ : wd_S} : frD σ σ := fun _ _ => rfl
theorem frR.rf' {σ : wd_S} : frR σ σ := ⟨fun _ _ _ _ _ _ => rfl, fun _ _ => rfl⟩
theorem bo_rule (w : Int32) : BoV M_D_rule M_R_rule [.int w] isI :=
  bo_q (a := fun P => aRule P w) (fun G σ τ Q P hr hw h => s_D_rule hr hw (h σ τ frD.rf')) (fun G ρ υ Q hw h => s_R_rule hw (fun ρ' f => h ρ' υ f))
theorem bo_dog (d w : Int32) : BoV M_D_dog M_R_dog [.int d, .int w] isI :=
  bo_q (a := fun P => aDog P d w) (fun G σ τ Q P hr hw h => s_D_dog hr hw (h σ τ frD.rf')) (fun G ρ υ Q hw h => s_R_dog hw (h ρ υ frR.rf'))
theorem bo_sign (i : Int32) : BoV M_D_sign M_R_sign [.int i] isI :=
  bo_q (a := fun P => aSign P i) (fun G σ τ Q P hr hw h => s_D_sign hr hw (h σ τ frD.rf')) (fun G ρ υ Q hw h => s_R_sign hw (h ρ υ frR.rf'))
theorem bo_jam (i w : Int32) : BoV M_D_jam M_R_jam [.int i, .int w] isI :=
  bo_q (a := fun P => aJam P i w) (fun G σ τ Q P hr hw h => s_D_jam hr hw (h σ τ frD.rf')) (fun G ρ υ Q hw h => s_R_jam hw (h ρ υ frR.rf'))
theorem bo_runs (n w : Int32) : BoV M_D_runs M_R_runs [.int n, .int w] isI :=
  bo_q (a := fun P => aRuns P n w) (fun G σ τ Q P hr hw h => s_D_runs hr hw (fun σ' f => h σ' τ f)) (fun G ρ υ Q hw h => s_R_runs hw (fun ρ' f => h ρ' υ f))
theorem bo_ahead (d n w : Int32) : BoV M_D_ahead M_R_ahead [.int d, .int n, .int w] isI :=
  bo_q (a := fun P => aAhead P d n w) (fun G σ τ Q P hr hw h => s_D_ahead hr hw (fun σ' f => h σ' τ f)) (fun G ρ υ Q hw h => s_R_ahead hw (fun ρ' f => h ρ' υ f))
theorem bo_need (d n : Int32) : BoV M_D_need M_R_need [.int d, .int n] isI :=
  bo_q (a := fun P => aNeed P d n) (fun G σ τ Q P hr hw h => s_D_need hr hw (fun σ' f => h σ' τ f)) (fun G ρ υ Q hw h => s_R_need hw (fun ρ' f => h ρ' υ f))
theorem bo_most (d n : Int32) : BoV M_D_most M_R_most [.int d, .int n] isI :=
  bo_q (a := fun P => aMost P d n) (fun G σ τ Q P hr hw h => s_D_most hr hw (fun σ' f => h σ' τ f)) (fun G ρ υ Q hw h => s_R_most hw (fun ρ' f => h ρ' υ f))
theorem bo_kind (d n w : Int32) : BoV M_D_kind M_R_kind [.int d, .int n, .int w] isI :=
  bo_q (a := fun P => aKind P d n w) (fun G σ τ Q P hr hw h => s_D_kind hr hw (fun σ' f => h σ' τ f)) (fun G ρ υ Q hw h => s_R_kind hw (fun ρ' f => h ρ' υ f))
theorem bo_swap (n w : Int32) : BoV M_D_swap M_R_swap [.int n, .int w] isI :=
  bo_q (a := fun P => aSwap P n w) (fun G σ τ Q P hr hw h => s_D_swap hr hw (fun σ' f => h σ' τ f)) (fun G ρ υ Q hw h => s_R_swap hw (fun ρ' f => h ρ' υ f))
theorem bo_sleep (n w : Int32) : BoV M_D_sleep M_R_sleep [.int n, .int w] isI :=
  bo_q (a := fun P => aSleep P n w) (fun G σ τ Q P hr hw h => s_D_sleep hr hw (fun σ' f => h σ' τ f)) (fun G ρ υ Q hw h => s_R_sleep hw (fun ρ' f => h ρ' υ f))
theorem bo_kinds (d : Int32) : BoV M_D_kinds M_R_kinds [.int d] isI :=
  bo_q (a := fun P => aKinds P d) (fun G σ τ Q P hr hw h => s_D_kinds hr hw (fun σ' f => h σ' τ f)) (fun G ρ υ Q hw h => s_R_kinds hw (fun ρ' f => h ρ' υ f))
theorem bo_limits (d : Int32) : BoV M_D_limits M_R_limits [.int d] isI :=
  bo_q (a := fun P => aLimits P d) (fun G σ τ Q P hr hw h => s_D_limits hr hw (fun σ' f => h σ' τ f)) (fun G ρ υ Q hw h => s_R_limits hw (fun ρ' f => h ρ' υ f))
theorem bo_ask (d w : Int32) : BoV M_D_ask M_R_ask [.int d, .int w] isI :=
  bo_q (a := fun P => aAsk P d w) (fun G σ τ Q P hr hw h => s_D_ask hr hw (fun σ' f => h σ' τ f)) (fun G ρ υ Q hw h => s_R_ask hw (fun ρ' f => h ρ' υ f))
theorem bo_drift (s n w : Int32) : BoV M_D_drift M_R_drift [.int s, .int n, .int w] isI :=
  bo_q (a := fun P => aDrift P s n w) (fun G σ τ Q P hr hw h => s_D_drift hr hw (fun σ' f => h σ' τ f)) (fun G ρ υ Q hw h => s_R_drift hw (fun ρ' f => h ρ' υ f))
theorem bo_when : BoV M_D_when M_R_when [] isI :=
  bo_q (a := fun P => whF P 201 0) (fun G σ τ Q P hr hw h => s_D_when hr hw (fun σ' f => h σ' τ f)) (fun G ρ υ Q hw h => s_R_when hw (fun ρ' f => h ρ' υ f))
theorem bo_luck (v n w : Int32) : BoV M_D_luck M_R_luck [.int v, .int n, .int w] isL :=
  bo_ql (a := fun P => aLuck P v n w) (fun G σ τ Q P hr hw h => s_D_luck hr hw (fun σ' f => h σ' τ f)) (fun G ρ υ Q hw h => s_R_luck hw (fun ρ' υ' f => h ρ' υ' f))
theorem bo_mean (v n w : Int32) : BoV M_D_mean M_R_mean [.int v, .int n, .int w] isL :=
  bo_ql (a := fun P => aMean P v n w) (fun G σ τ Q P hr hw h => s_D_mean hr hw (fun σ' f => h σ' τ f)) (fun G ρ υ Q hw h => s_R_mean hw (fun ρ' υ' f => h ρ' υ' f))
theorem bo_alter (d w v : Int32) : BoV M_D_alter M_R_alter [.int d, .int w, .int v] isI :=
  bo_c (c := fun P => cAlter P d w v) (fun P hw => wf_cAlter hw) (fun P hw hs => sg_cAlter hw hs) (fun G σ τ Q P hr hw h => s_D_alter hr hw (fun σ' f => h σ' τ f)) (fun G ρ υ Q hw h => s_R_alter hw (fun ρ' f => h ρ' υ f))
theorem bo_set (i v : Int32) : BoV M_D_set M_R_set [.int i, .int v] isI :=
  bo_c (c := fun P => cSet P i v) (fun P hw => wf_cSet hw) (fun P hw hs => sg_cSet hw hs) (fun G σ τ Q P hr hw h => s_D_set hr hw (fun σ' f => h σ' τ f)) (fun G ρ υ Q hw h => s_R_set hw (fun ρ' f => h ρ' υ f))
theorem bo_add (v : Int32) : BoV M_D_add M_R_add [.int v] isI :=
  bo_c (c := fun P => cAdd P v) (fun P hw => wf_cAdd hw) (fun P hw hs => sg_cAdd hw hs) (fun G σ τ Q P hr hw h => s_D_add hr hw (fun σ' f => h σ' τ f)) (fun G ρ υ Q hw h => s_R_add hw (fun ρ' f => h ρ' υ f))
theorem bo_cut (n : Int32) : BoV M_D_cut M_R_cut [.int n] isI :=
  bo_c (c := fun P => cCut P n) (fun P hw => wf_cCut hw) (fun P hw hs => sg_cCut hw hs) (fun G σ τ Q P hr hw h => s_D_cut hr hw (fun σ' f => h σ' τ f)) (fun G ρ υ Q hw h => s_R_cut hw (fun ρ' f => h ρ' υ f))
theorem bo_stick (t n : Int32) : BoV M_D_stick M_R_stick [.int t, .int n] isI :=
  bo_c (c := fun P => cStick P t n) (fun P hw => wf_cStick hw) (fun P hw hs => sg_cStick hw hs) (fun G σ τ Q P hr hw h => s_D_stick hr hw (fun σ' f => h σ' τ f)) (fun G ρ υ Q hw h => s_R_stick hw (fun ρ' f => h ρ' υ f))
theorem bo_see (t n : Int32) : BoV M_D_see M_R_see [.int t, .int n] isI :=
  bo_c (c := fun P => cSee P t n) (fun P hw => wf_cSee hw) (fun P hw hs => sg_cSee hw hs) (fun G σ τ Q P hr hw h => s_D_see hr hw (fun σ' f => h σ' τ f)) (fun G ρ υ Q hw h => s_R_see hw (fun ρ' f => h ρ' υ f))
theorem bo_clear (n : Int32) : BoV M_D_clear M_R_clear [.int n] isI :=
  bo_c (c := fun P => cClear P n) (fun P hw => wf_cClear hw) (fun P hw hs => sg_cClear hw hs) (fun G σ τ Q P hr hw h => s_D_clear hr hw (fun σ' f => h σ' τ f)) (fun G ρ υ Q hw h => s_R_clear (fun ρ' f => h ρ' υ f))
theorem bo_forget (n : Int32) : BoV M_D_forget M_R_forget [.int n] isI :=
  bo_c (c := fun P => cForget P n) (fun P hw => wf_cForget hw) (fun P hw hs => sg_cForget hw hs) (fun G σ τ Q P hr hw h => s_D_forget hr hw (fun σ' f => h σ' τ f)) (fun G ρ υ Q hw h => s_R_forget (fun ρ' f => h ρ' υ f))
theorem bo_bone (d : Int32) : BoV M_D_bone M_R_bone [.int d] isI :=
  bo_c (c := fun P => cBone P d) (fun P hw => wf_cBone hw) (fun P hw hs => sg_cBone hw hs) (fun G σ τ Q P hr hw h => s_D_bone hr hw (fun σ' f => h σ' τ f)) (fun G ρ υ Q hw h => s_R_bone hw (fun ρ' f => h ρ' υ f))
theorem bo_ticks (n : Int32) : BoV M_D_ticks M_R_ticks [.int n] isI :=
  bo_c (c := fun P => cTicks P n) (fun P hw => wf_cTicks hw) (fun P hw hs => sg_cTicks hw hs) (fun G σ τ Q P hr hw h => s_D_ticks hr hw (fun σ' f => h σ' τ f)) (fun G ρ υ Q hw h => s_R_ticks hw (fun ρ' f => h ρ' υ f))
