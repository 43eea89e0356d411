/-! BOTH: as they are made -/
def rwL : wRow := fun k => cond (Nat.beq k 17) (-4) 0
def σ0C : wd_S := fun c => cond (Nat.beq c 8) (fil (fun _ => -4) (fun _ => 0) 4) (cond (Nat.beq c 10 || (Nat.beq c 20 || (Nat.beq c 30 || (Nat.beq c 40 || Nat.beq c 50)))) rwL (fun _ => 0))
def adW (h : Nat → Nat) : Nat → Nat := fun c => cond (Nat.ble 60 c && Nat.ble c 63) (h 7 + 1 + (c - 60)) (h c)
def clC (cs : FieldType → ClassId) : Nat → ClassId := fun c => cs ((wd_arr (wC_sh c)).getD .int)
def ixW (c : Nat) : Nat := cond (Nat.ble c 9) ([0, 11, 22, 23, 24, 25, 36, 37, 42, 43].getD c 0) (cond (Nat.ble c 19) (c - 9) (cond (Nat.ble c 29) (c - 8) (cond (Nat.ble c 39) (c - 4) (cond (Nat.ble c 59) (c + 6) (cond (Nat.ble c 63) (c - 22) (c - 20))))))
theorem ixW_inj : ∀ i : Nat, i < 66 → ∀ j : Nat, j < 66 → ixW i = ixW j → i = j := by decide +kernel
theorem at_q {D : va_G} {a n : Nat} {k : ClassId} {f g : Nat → Option Nat} {H : Heap} (hfg : ∀ i, i < n → f i = g i) (h : va_at D vwCl (a, .inl (k, n, .inr (.inr (.inr (.inr f))))) H) : va_at D vwCl (a, .inl (k, n, .inr (.inr (.inr (.inr g))))) H := by
  have e : vp_cell k (n, .inr (.inr (.inr (.inr f)))) = vp_cell k (n, .inr (.inr (.inr (.inr g)))) := by
    rw [vp_cell_q, vp_cell_q]
    unfold arrV
    congr 1
    congr 1
    funext j
    show va_rf (f j.val) = va_rf (g j.val)
    rw [hfg j.val j.isLt]
  show H[a]? = some (vp_cell k (n, .inr (.inr (.inr (.inr g)))))
  rw [← e]
  exact h
set_option maxHeartbeats 4000000 in
theorem cw_at (D : va_G) (cs : FieldType → ClassId) (G0 : wd_G) (h : Nat → Nat) : ∀ c, c < 66 → ∃ e : va_E, (wfW cs h)[ixW c]? = some ((mkG G0 D (adW h) (clC cs)).2.1 c, e) ∧ ∀ H : Heap, va_at D vwCl ((mkG G0 D (adW h) (clC cs)).2.1 c, e) H → va_at D vwCl ((mkG G0 D (adW h) (clC cs)).2.1 c, wd_cell wC (mkG G0 D (adW h) (clC cs)) σ0C (fun _ _ => 0) c) H := fun c hc => by
  match c, hc with
  | 0, _ => exact ⟨_, rfl, fun _ z => z⟩
  | 1, _ => exact ⟨_, rfl, fun _ z => z⟩
  | 2, _ => exact ⟨_, rfl, fun _ z => z⟩
  | 3, _ => exact ⟨_, rfl, fun _ z => z⟩
  | 4, _ => exact ⟨_, rfl, fun _ z => z⟩
  | 5, _ => exact ⟨_, rfl, fun _ z => z⟩
  | 6, _ => exact ⟨_, rfl, fun _ z => z⟩
  | 8, _ => exact ⟨_, rfl, fun _ z => z⟩
  | 9, _ => exact ⟨_, rfl, fun _ z => z⟩
  | 10, _ => exact ⟨_, rfl, fun _ z => z⟩
  | 11, _ => exact ⟨_, rfl, fun _ z => z⟩
  | 12, _ => exact ⟨_, rfl, fun _ z => z⟩
  | 13, _ => exact ⟨_, rfl, fun _ z => z⟩
  | 14, _ => exact ⟨_, rfl, fun _ z => z⟩
  | 15, _ => exact ⟨_, rfl, fun _ z => z⟩
  | 16, _ => exact ⟨_, rfl, fun _ z => z⟩
  | 17, _ => exact ⟨_, rfl, fun _ z => z⟩
  | 18, _ => exact ⟨_, rfl, fun _ z => z⟩
  | 19, _ => exact ⟨_, rfl, fun _ z => z⟩
  | 20, _ => exact ⟨_, rfl, fun _ z => z⟩
  | 21, _ => exact ⟨_, rfl, fun _ z => z⟩
  | 22, _ => exact ⟨_, rfl, fun _ z => z⟩
  | 23, _ => exact ⟨_, rfl, fun _ z => z⟩
  | 24, _ => exact ⟨_, rfl, fun _ z => z⟩
  | 25, _ => exact ⟨_, rfl, fun _ z => z⟩
  | 26, _ => exact ⟨_, rfl, fun _ z => z⟩
  | 27, _ => exact ⟨_, rfl, fun _ z => z⟩
  | 28, _ => exact ⟨_, rfl, fun _ z => z⟩
  | 29, _ => exact ⟨_, rfl, fun _ z => z⟩
  | 30, _ => exact ⟨_, rfl, fun _ z => z⟩
  | 31, _ => exact ⟨_, rfl, fun _ z => z⟩
  | 32, _ => exact ⟨_, rfl, fun _ z => z⟩
  | 33, _ => exact ⟨_, rfl, fun _ z => z⟩
  | 34, _ => exact ⟨_, rfl, fun _ z => z⟩
  | 35, _ => exact ⟨_, rfl, fun _ z => z⟩
  | 36, _ => exact ⟨_, rfl, fun _ z => z⟩
  | 37, _ => exact ⟨_, rfl, fun _ z => z⟩
  | 38, _ => exact ⟨_, rfl, fun _ z => z⟩
  | 39, _ => exact ⟨_, rfl, fun _ z => z⟩
  | 40, _ => exact ⟨_, rfl, fun _ z => z⟩
  | 41, _ => exact ⟨_, rfl, fun _ z => z⟩
  | 42, _ => exact ⟨_, rfl, fun _ z => z⟩
  | 43, _ => exact ⟨_, rfl, fun _ z => z⟩
  | 44, _ => exact ⟨_, rfl, fun _ z => z⟩
  | 45, _ => exact ⟨_, rfl, fun _ z => z⟩
  | 46, _ => exact ⟨_, rfl, fun _ z => z⟩
  | 47, _ => exact ⟨_, rfl, fun _ z => z⟩
  | 48, _ => exact ⟨_, rfl, fun _ z => z⟩
  | 49, _ => exact ⟨_, rfl, fun _ z => z⟩
  | 50, _ => exact ⟨_, rfl, fun _ z => z⟩
  | 51, _ => exact ⟨_, rfl, fun _ z => z⟩
  | 52, _ => exact ⟨_, rfl, fun _ z => z⟩
  | 53, _ => exact ⟨_, rfl, fun _ z => z⟩
  | 54, _ => exact ⟨_, rfl, fun _ z => z⟩
  | 55, _ => exact ⟨_, rfl, fun _ z => z⟩
  | 56, _ => exact ⟨_, rfl, fun _ z => z⟩
  | 57, _ => exact ⟨_, rfl, fun _ z => z⟩
  | 58, _ => exact ⟨_, rfl, fun _ z => z⟩
  | 59, _ => exact ⟨_, rfl, fun _ z => z⟩
  | 60, _ => exact ⟨_, rfl, fun _ z => z⟩
  | 61, _ => exact ⟨_, rfl, fun _ z => z⟩
  | 62, _ => exact ⟨_, rfl, fun _ z => z⟩
  | 63, _ => exact ⟨_, rfl, fun _ z => z⟩
  | 65, _ => exact ⟨_, rfl, fun _ z => z⟩
  | 7, _ =>
    refine ⟨_, rfl, fun _ z => at_q (fun i hi => ?_) z⟩
    match i, hi with
    | 0, _ => rfl
    | 1, _ => rfl
    | 2, _ => rfl
    | 3, _ => rfl
    | i + 4, hi => exact absurd hi (by show ¬ i + 4 < 4; omega)
  | 64, _ =>
    refine ⟨_, rfl, fun _ z => at_q (fun i hi => ?_) z⟩
    match i, hi with
    | 0, _ => rfl
    | 1, _ => rfl
    | i + 2, hi => exact absurd hi (by show ¬ i + 2 < 2; omega)
  | k + 66, hc => exact absurd hc (by omega)
theorem cw_P {D : va_G} {cs : FieldType → ClassId} {G0 : wd_G} {h : Nat → Nat} {H : Heap} (hP : va_P D vwCl (wfW cs h) H) : va_P D vwCl (wd_ws wC (mkG G0 D (adW h) (clC cs)) σ0C (fun _ _ => 0)) H := fun k q hk => by
  have hl : k < wC.1 := by
    have := (List.getElem?_eq_some_iff.mp hk).1
    simpa [wd_ws] using this
  rw [wd_ws_at hl] at hk
  cases hk
  obtain ⟨e, h1, h2⟩ := cw_at D cs G0 h k hl
  exact h2 H (hP _ _ h1)
theorem cw_D {D : va_G} {cs : FieldType → ClassId} {G0 : wd_G} {h : Nat → Nat} {A : Nat → Prop} (hD : va_D A (wfW cs h)) : wd_inj wC (mkG G0 D (adW h) (clC cs)) ∧ ∀ q, wd_A wC (mkG G0 D (adW h) (clC cs)) q → ∃ (k : Nat) (e : va_E), (wfW cs h)[k]? = some (q, e) := by
  refine ⟨fun i j hi hj e => ?_, fun q hq => ?_⟩
  · obtain ⟨e1, a1, _⟩ := cw_at D cs G0 h i hi
    obtain ⟨e2, a2, _⟩ := cw_at D cs G0 h j hj
    exact ixW_inj i hi j hj (hD.1 _ _ _ _ a1 a2 e)
  · obtain ⟨c, hc, rfl⟩ := hq
    obtain ⟨e1, a1, _⟩ := cw_at D cs G0 h c hc
    exact ⟨_, _, a1⟩
theorem wC_cl {cs : FieldType → ClassId} : ∀ c ty, c < wC.1 → wd_arr (wC.2.1 c) = some ty → ty ∈ cbT ∧ clC cs c = cs ty := fun c ty hc ht => by
  refine ⟨?_, by show cs ((wd_arr (wC.2.1 c)).getD .int) = cs ty; rw [ht]; rfl⟩
  have key : ∀ c : Nat, c < 66 → (match wd_arr (wC_sh c) with
    | some t => decide (t ∈ cbT)
    | none => true) = true := by decide +kernel
  have := key c hc
  rw [show wd_arr (wC_sh c) = some ty from ht] at this
  exact of_decide_eq_true this
theorem σ1R_d0 : ∀ j, j < 61 → σ1R 1 j = d0 j := fun j hj => by
  show fil (σaR 4) (σaR 1) 61 j = d0 j
  rw [fil_lt hj]
  show upd (fil (fun _ => 0) (fun _ => 0) 61) 47 (-4) j = d0 j
  unfold upd d0
  by_cases e : j = 47
  · rw [if_pos e, if_pos e]
  · rw [if_neg e, if_neg e, fil_lt hj]
theorem Inv0 : Inv σ0C σ1R := by
  have hd := d0_ok
  have hw : wf (σ1R 1) := wf_cong σ1R_d0 hd.1
  have h1 : dN (σ1R 1) = 0 := rfl
  have h2 : sN (σ1R 1) = 0 := rfl
  have h3 : jN (σ1R 1) = 0 := rfl
  have h4 : eN (σ1R 1) = 0 := rfl
  refine ⟨⟨⟨⟨rfl, rfl, rfl, rfl, rfl, rfl, rfl, rfl, rfl⟩, fun d hd => by omega, fun d hd => by omega, fun d hd => by omega, fun d hd => by omega⟩, hw, fun i hi => by omega⟩, fun k hk => ?_, ⟨fun _ => 0, 0, ⟨rfl, by decide, fun i hi => by omega⟩, ⟨rfl, by decide, fun i hi => by omega⟩⟩, rfl, fun k hk => ?_, rfl, fun d hd => ⟨rfl, rfl⟩, ⟨rfl, rfl, rfl, rfl, rfl, rfl⟩⟩
  · match k, hk with
    | 0, _ => exact ⟨Or.inl rfl, rfl, fun z => absurd z (by decide)⟩
    | 1, _ => exact ⟨Or.inl rfl, rfl, fun z => absurd z (by decide)⟩
    | k + 2, hk => exact absurd hk (by omega)
  · match k, hk with
    | 0, _ => exact ⟨rfl, rfl, ⟨0, rfl, by decide⟩, fun j hj => rfl⟩
    | 1, _ => exact ⟨rfl, rfl, ⟨0, rfl, by decide⟩, fun j hj => rfl⟩
    | 2, _ => exact ⟨rfl, rfl, ⟨0, rfl, by decide⟩, fun j hj => rfl⟩
    | 3, _ => exact ⟨rfl, rfl, ⟨0, rfl, by decide⟩, fun j hj => rfl⟩
    | k + 4, hk => exact absurd hk (by omega)
