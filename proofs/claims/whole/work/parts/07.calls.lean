/-! THE LOGIC, part 5: returns, fields, arrays; stretches; calls -/
theorem wd_al_at {i : Int32} {K : Nat → Prop} : ∀ {n : Nat} {ids : List Nat} {j t : Nat}, wd_al i K n ids → ids[j]? = some t → i = nI (n + j) → K t
  | _, [], _, _, _, h, _ => by simp at h
  | n, x :: r, 0, t, h, h1, h2 => by
    simp at h1
    subst h1
    exact h.1 h2
  | n, x :: r, j + 1, t, h, h1, h2 => by
    refine wd_al_at (n := n + 1) (j := j) h.2 (by simpa using h1) ?_
    rw [h2]
    congr 1
    omega
theorem wd_fv_none {w : wd_Wd} {σ : wd_S} {τ : wd_T} {ci c k : Nat} (h : w.2.2 c k = none) : wd_fv w σ τ ci c k = cond (wd_lg ci k) (.long (τ c k)) (.int (σ c k)) := by
  simp only [wd_fv, h]
theorem wd_put_i {w : wd_Wd} {G : wd_G} {σ : wd_S} {τ : wd_T} {c ci k : Nat} {x : Int32} (h : w.2.1 c = .inr (.inr ci)) (hr : w.2.2 c k = none) (hl : wd_lg ci k = false) : (.inr (ci, ((List.range (wd_nf ci)).map (fun k => wv G.2.1 (wd_fv w σ τ ci c k))).set k (.int x)) : va_E) = wd_cell w G (wd_uc σ c (upd (σ c) k x)) τ c := by
  rw [wd_cell_o h]
  congr 2
  apply wd_fs_set
  · rw [wd_fv_none hr, hl]
    simp [wd_uc, upd, wv]
  · intro j hj
    cases hq : w.2.2 c j with
    | some r => simp only [wd_fv, hq]
    | none =>
      rw [wd_fv_none hq, wd_fv_none hq]
      simp [wd_uc, upd, hj]
theorem wd_put_l {w : wd_Wd} {G : wd_G} {σ : wd_S} {τ : wd_T} {c ci k : Nat} {x : Int64} (h : w.2.1 c = .inr (.inr ci)) (hr : w.2.2 c k = none) (hl : wd_lg ci k = true) : (.inr (ci, ((List.range (wd_nf ci)).map (fun k => wv G.2.1 (wd_fv w σ τ ci c k))).set k (.long x)) : va_E) = wd_cell w G σ (wd_uc τ c (vp_updL (τ c) k x)) c := by
  rw [wd_cell_o h]
  congr 2
  apply wd_fs_set
  · rw [wd_fv_none hr, hl]
    simp [wd_uc, vp_updL, wv]
  · intro j hj
    cases hq : w.2.2 c j with
    | some r => simp only [wd_fv, hq]
    | none =>
      rw [wd_fv_none hq, wd_fv_none hq]
      simp [wd_uc, vp_updL, hj]
theorem wd_st_a {w : wd_Wd} {G : wd_G} {σ : wd_S} {τ : wd_T} {c n : Nat} {ty : FieldType} {f : Nat → Int32} (h : w.2.1 c = .inl (ty, n)) : (.inl (G.2.2 c, n, .inl f) : va_E) = wd_cell w G (wd_uc σ c f) τ c := by
  rw [wd_cell_p h]
  simp [wd_uc]
theorem wd_bit_nar {x : Int32} (h : wd_bit x) : narrow .boolean (.int x) = .int x ∧ fits .boolean (.int x) = true := by
  rcases h with rfl | rfl <;> exact ⟨rfl, rfl⟩
section WS
variable {w : wd_Wd} {G : wd_G} {M : wd_M} {Q : wd_P} {K : wd_C} {k nx pc : Nat} {as : List Nat} {v : Int32} {u : Int64} {lv : wd_L} {st : List Value} {σ : wd_S} {τ : wd_T}
set_option maxHeartbeats 4000000 in
theorem wd_sound5 (hd : decode M.1.2.1 pc = .ok (wd_ins k as v pc)) (hn : nx = pc + (wd_ins k as v pc).2) (hx : wd_ex M.1.1.cls M.1.2.2.1 pc k as v u M.2.1 = true) (hk : ∀ pc lv st σ τ, K pc lv st σ τ → Run w G M pc lv st σ τ Q) (h : wd_A5 w M.1.2.2.2 k nx as K Q lv st σ τ) : Run w G M pc lv st σ τ Q := by
  unfold wd_A5 at h
  intro p l e s m args below meth c H locs ls hC hP hS hL
  have hI := hC.2.2.2.2.2.2.2.1
  split at h
  · split at h
    · rename_i x
      unfold wd_ret at h
      split at h
      · rename_i hr
        exact W.iret hC.1 hC.2.1 (hC.2.2.2.1.trans hr) (fun t ht hW => ⟨some (.int x), σ, τ, rfl, h, by rw [ht]; exact hP, hS.F ht⟩) hS.2.2 hd hC.2.2.2.2.1
      · rename_i hr
        exact W.zret hC.1 hC.2.1 (hC.2.2.2.1.trans hr) (wd_bit_nar h.1).1 (fun t ht hW => ⟨some (.int x), σ, τ, rfl, h.2, by rw [ht]; exact hP, hS.F ht⟩) hS.2.2 hd hC.2.2.2.2.1
      · exact h.elim
    · exact h.elim
  · split at h
    · rename_i x
      exact W.lret hC.1 hC.2.1 (hC.2.2.2.1.trans h.1) (fun t ht hW => ⟨some (.long x), σ, τ, rfl, h.2, by rw [ht]; exact hP, hS.F ht⟩) hS.2.2 hd hC.2.2.2.2.1
    · exact h.elim
  · split at h
    · exact W.vret hC.1 hC.2.1 (hC.2.2.2.1.trans h.1) (fun t ht hW => ⟨none, σ, τ, rfl, h.2, by rw [ht]; exact hP, hS.F ht⟩) hS.2.2 hd hC.2.2.2.2.1
    · exact h.elim
  · subst hn
    replace h := wd_a2_of h
    unfold wd_get at h
    split at h
    · rename_i d r
      split at h
      · rename_i ho
        obtain ⟨h1, h2⟩ := wd_obj_is ho
        have hx' := Bool.and_eq_true_iff.mp hx
        have hx2 := Bool.and_eq_true_iff.mp hx'.2
        replace h := wd_fvK_of h
        have he := wd_ws_at (G := G) (σ := σ) (τ := τ) h1
        rw [wd_cell_o h2] at he
        exact va_get (D := G.1) (cl := vwCl) (ci := as.getD 0 0) (v := wv G.2.1 (wd_fv w σ τ (as.getD 0 0) d (as.getD 1 0))) hC.1 hC.2.1 hC.2.2.2.2.2.2.1 (wd_in (wd_blt hx'.1)) hC.2.2.2.2.2.1 hC.2.2.2.2.2.2.2.2.1 hP d he (wd_cl_at (wd_blt hx'.1)) (as.getD 1 0) (wd_blt hx2.1) (hC.2.2.2.2.2.2.1 _ (wd_at_mem hx2.2)) (fun _ z => z) (by rw [List.getElem?_map, List.getElem?_range (wd_blt hx2.1)]; rfl) hd (hk _ _ _ _ _ h p l e s m args below meth c H locs ls hC hP hS hL)
      · exact h.elim
    · exact h.elim
  · subst hn
    have hx' := Bool.and_eq_true_iff.mp hx
    have hx2 := Bool.and_eq_true_iff.mp hx'.2
    have hx3 := Bool.and_eq_true_iff.mp hx2.2
    have hx4 := Bool.and_eq_true_iff.mp hx3.2
    have hfin : ((wd_cl (as.getD 0 0)).2.1 (as.getD 1 0)).2.2.2 = false := by simpa using hx4.1
    have hty := of_decide_eq_true hx4.2
    replace h := wd_a2_of h
    unfold wd_put at h
    split at h
    · rename_i x d r
      split at h
      · rename_i ho hr hl
        obtain ⟨h1, h2⟩ := wd_obj_is ho
        have he := wd_ws_at (G := G) (σ := σ) (τ := τ) h1
        rw [wd_cell_o h2] at he
        have hpd := wd_ty_ok (wd_blt hx'.1) _ (wd_blt hx2.1)
        have hnf : narrow (wd_ty (as.getD 0 0) (as.getD 1 0)) (.int x) = .int x ∧ fits (wd_ty (as.getD 0 0) (as.getD 1 0)) (.int x) = true ∧ K (pc + (wd_ins 66 as v pc).2) lv r (wd_uc σ d (upd (σ d) (as.getD 1 0) x)) τ := by
          rw [hty, hl]
          cases hb : wd_bo (as.getD 0 0) (as.getD 1 0) with
          | false =>
            rw [hb] at h
            exact ⟨rfl, rfl, h⟩
          | true =>
            rw [hb] at h
            exact ⟨(wd_bit_nar h.1).1, (wd_bit_nar h.1).2, h.2⟩
        refine va_put (D := G.1) (cl := vwCl) (A := wd_A w G) (ci := as.getD 0 0) (v := .int x) hC.1 hC.2.1 hC.2.2.2.2.2.2.1 (wd_in (wd_blt hx'.1)) _ (wd_ty_ok (wd_blt hx'.1)) (wd_nm_ok (wd_blt hx'.1)) hC.2.2.2.2.2.1 hC.2.2.2.2.2.2.2.2.1 hP (wd_D hI) hS d he (wd_cl_at (wd_blt hx'.1)) (as.getD 1 0) (wd_blt hx2.1) (hC.2.2.2.2.2.2.1 _ (wd_at_mem hx3.1)) (fun _ z => z) hfin hpd hnf.1 hnf.2.1 (by rw [List.length_map, List.length_range]; exact wd_blt hx2.1) hd (fun H1 locs1 hP1 _ hS1 => ?_)
        rw [wd_put_i h2 hr hl, wd_ws_set wd_cell_ne] at hP1
        exact hk _ _ _ _ _ hnf.2.2 p l e s m args below meth c H1 locs1 ls hC hP1 hS1 hL
      · exact h.elim
    · rename_i x d r
      split at h
      · rename_i ho hr hl
        obtain ⟨h1, h2⟩ := wd_obj_is ho
        have he := wd_ws_at (G := G) (σ := σ) (τ := τ) h1
        rw [wd_cell_o h2] at he
        have hpd := wd_ty_ok (wd_blt hx'.1) _ (wd_blt hx2.1)
        have hnf : narrow (wd_ty (as.getD 0 0) (as.getD 1 0)) (.long x) = .long x ∧ fits (wd_ty (as.getD 0 0) (as.getD 1 0)) (.long x) = true := by
          rw [hty, hl]
          exact ⟨rfl, rfl⟩
        refine va_put (D := G.1) (cl := vwCl) (A := wd_A w G) (ci := as.getD 0 0) (v := .long x) hC.1 hC.2.1 hC.2.2.2.2.2.2.1 (wd_in (wd_blt hx'.1)) _ (wd_ty_ok (wd_blt hx'.1)) (wd_nm_ok (wd_blt hx'.1)) hC.2.2.2.2.2.1 hC.2.2.2.2.2.2.2.2.1 hP (wd_D hI) hS d he (wd_cl_at (wd_blt hx'.1)) (as.getD 1 0) (wd_blt hx2.1) (hC.2.2.2.2.2.2.1 _ (wd_at_mem hx3.1)) (fun _ z => z) hfin hpd hnf.1 hnf.2 (by rw [List.length_map, List.length_range]; exact wd_blt hx2.1) hd (fun H1 locs1 hP1 _ hS1 => ?_)
        rw [wd_put_l h2 hr hl, wd_ws_set wd_cell_neT] at hP1
        exact hk _ _ _ _ _ h p l e s m args below meth c H1 locs1 ls hC hP1 hS1 hL
      · exact h.elim
    · exact h.elim
  · subst hn
    unfold wd_ia at h
    split at h
    · rename_i i d r
      split at h
      · rename_i n ho
        obtain ⟨h1, h2⟩ := wd_pa_is ho
        have he := wd_ws_at (G := G) (σ := σ) (τ := τ) h1
        rw [wd_cell_p h2] at he
        exact va_iald (D := G.1) (cl := vwCl) hC.1 hC.2.1 (wd_K1 hC.2.2.2.2.2.2.2 h1 (by rw [h2]; rfl)) hP d 0 he rfl h.1 hd (hk _ _ _ _ _ h.2 p l e s m args below meth c H locs ls hC hP hS hL)
      · exact h.elim
    · exact h.elim
  · subst hn
    unfold wd_is at h
    split at h
    · rename_i x i d r
      split at h
      · rename_i n ho
        obtain ⟨h1, h2⟩ := wd_pa_is ho
        have he := wd_ws_at (G := G) (σ := σ) (τ := τ) h1
        rw [wd_cell_p h2] at he
        refine va_iast (D := G.1) (cl := vwCl) (A := wd_A w G) hC.1 hC.2.1 (wd_K1 hC.2.2.2.2.2.2.2 h1 (by rw [h2]; rfl)) hP (wd_D hI) hS d 0 he rfl h.1 hd (fun H1 locs1 hP1 _ hS1 => ?_)
        rw [wd_st_a (τ := τ) (σ := σ) h2, wd_ws_set wd_cell_ne] at hP1
        exact hk _ _ _ _ _ h.2 p l e s m args below meth c H1 locs1 ls hC hP1 hS1 hL
      · exact h.elim
    · exact h.elim
  · subst hn
    unfold wd_ba at h
    split at h
    · rename_i i d r
      split at h
      · rename_i n ho
        obtain ⟨h1, h2⟩ := wd_pa_is ho
        have he := wd_ws_at (G := G) (σ := σ) (τ := τ) h1
        rw [wd_cell_p h2] at he
        exact va_bald (D := G.1) (cl := vwCl) hC.1 hC.2.1 (wd_K1 hC.2.2.2.2.2.2.2 h1 (by rw [h2]; rfl)) hP d 0 he rfl h.1 hd (hk _ _ _ _ _ h.2 p l e s m args below meth c H locs ls hC hP hS hL)
      · rename_i n ho
        obtain ⟨h1, h2⟩ := wd_pa_is ho
        have he := wd_ws_at (G := G) (σ := σ) (τ := τ) h1
        rw [wd_cell_p h2] at he
        exact va_zald (D := G.1) (cl := vwCl) hC.1 hC.2.1 (wd_K1 hC.2.2.2.2.2.2.2 h1 (by rw [h2]; rfl)) hP d 0 he rfl h.1 hd (hk _ _ _ _ _ h.2 p l e s m args below meth c H locs ls hC hP hS hL)
      · exact h.elim
    · exact h.elim
  · subst hn
    unfold wd_bs at h
    split at h
    · rename_i x i d r
      split at h
      · rename_i n ho
        obtain ⟨h1, h2⟩ := wd_pa_is ho
        have he := wd_ws_at (G := G) (σ := σ) (τ := τ) h1
        rw [wd_cell_p h2] at he
        refine va_bast (D := G.1) (cl := vwCl) (A := wd_A w G) hC.1 hC.2.1 (wd_K1 hC.2.2.2.2.2.2.2 h1 (by rw [h2]; rfl)) hP (wd_D hI) hS d 0 he rfl h.1 hd (fun H1 locs1 hP1 _ hS1 => ?_)
        rw [wd_st_a (τ := τ) (σ := σ) h2, wd_ws_set wd_cell_ne] at hP1
        exact hk _ _ _ _ _ h.2 p l e s m args below meth c H1 locs1 ls hC hP1 hS1 hL
      · rename_i n ho
        obtain ⟨h1, h2⟩ := wd_pa_is ho
        have he := wd_ws_at (G := G) (σ := σ) (τ := τ) h1
        rw [wd_cell_p h2] at he
        refine va_zast (D := G.1) (cl := vwCl) (A := wd_A w G) hC.1 hC.2.1 (wd_K1 hC.2.2.2.2.2.2.2 h1 (by rw [h2]; rfl)) hP (wd_D hI) hS d 0 he rfl h.1 hd (fun H1 locs1 hP1 _ hS1 => ?_)
        rw [wd_st_a (τ := τ) (σ := σ) h2, wd_ws_set wd_cell_ne] at hP1
        exact hk _ _ _ _ _ h.2 p l e s m args below meth c H1 locs1 ls hC hP1 hS1 hL
      · exact h.elim
    · exact h.elim
  · subst hn
    unfold wd_aa at h
    split at h
    · rename_i i d r
      split at h
      · rename_i ids ho
        obtain ⟨h1, ty, hty, h2⟩ := wd_qa_is ho
        have he := wd_ws_at (G := G) (σ := σ) (τ := τ) h1
        rw [wd_cell_q h2] at he
        have hin := h.1
        have hlt : i.toNatClampNeg < ids.length := Nat.not_le.mp fun q => hin (Or.inr q)
        obtain ⟨j, hj, rfl⟩ := nI_of (fun q => hin (Or.inl q))
        rw [nI_clamp hj] at hlt
        have hK1 := wd_K1 hC.2.2.2.2.2.2.2 h1 (ty := ty) (by rw [h2]; rfl)
        have hgo := hk _ _ _ _ _ (wd_al_at (j := j) (t := ids[j]) h.2 (by simp [hlt]) (by rw [Nat.zero_add])) p l e s m args below meth c H locs ls hC hP hS hL
        refine W.aald (v := .ref (G.2.1 ids[j])) (ty := ty) hC.1 hC.2.1 (hP d _ he) ((hK1.2 0 _ rfl).1 ids.length (fun j => va_rf ((ids[j]?).map G.2.1))) hty (fun q => by cases q) (by show ¬ (nI j < 0 ∨ (arrV _ _ _).slots.size ≤ _); rw [arrV_size]; exact hin) (by show (arrV _ _ _).slots[_]? = _; rw [nI_clamp hj, arrV_read _ _ hlt]; simp [hlt, va_rf]) rfl rfl hd hgo
      · exact h.elim
    · exact h.elim
  · subst hn
    unfold wd_len_ at h
    split at h
    · rename_i d r
      split at h
      · rename_i ty n ho
        obtain ⟨h1, h2⟩ := wd_pa_is ho
        have he := wd_ws_at (G := G) (σ := σ) (τ := τ) h1
        rw [wd_cell_p h2] at he
        exact va_alen (D := G.1) (cl := vwCl) (x := (n, .inl (σ d))) (v := nI n) hC.1 hC.2.1 (wd_K1 hC.2.2.2.2.2.2.2 h1 (ty := ty) (by rw [h2]; rfl)) hP d 0 he rfl rfl hd (hk _ _ _ _ _ h p l e s m args below meth c H locs ls hC hP hS hL)
      · exact h.elim
    · exact h.elim
  · subst hn
    have hx' := Bool.and_eq_true_iff.mp hx
    have hx2 := Bool.and_eq_true_iff.mp hx'.2
    unfold wd_duo at h
    split at h
    · rename_i y x r
      exact va_mmin hC.1 hC.2.1 (hC.2.2.1.trans hL.1.symm) hC.2.2.2.2.2.1 (hC.2.2.2.2.2.2.1 _ (wd_at_mem hx'.1)) (hC.2.2.2.2.2.2.1 _ (wd_minw _ (by simp))) (hC.2.2.2.2.2.2.1 _ (wd_minw _ (by simp))) (hC.2.2.2.2.2.2.1 _ (wd_minw _ (by simp))) (Nat.le_of_ble_eq_true hx2.1) (by
        have h1 : ((r.map fun v => v.category).sum) ≤ 8 := h.1
        have h2 := Nat.le_of_ble_eq_true hx2.2
        show ((r.map (wv G.2.1)).map fun v => v.category).sum + 13 ≤ M.2.1.2
        rw [wd_cat8]
        omega) (Nat.le_refl 0) (Nat.le_refl 0) hd (hk _ _ _ _ _ h.2 p l e s m args below meth c H locs ls hC hP hS hL)
    · exact h.elim
  · subst hn
    have hx' := Bool.and_eq_true_iff.mp hx
    have hx2 := Bool.and_eq_true_iff.mp hx'.2
    unfold wd_duo at h
    split at h
    · rename_i y x r
      exact va_mmax hC.1 hC.2.1 (hC.2.2.1.trans hL.1.symm) hC.2.2.2.2.2.1 (hC.2.2.2.2.2.2.1 _ (wd_at_mem hx'.1)) (hC.2.2.2.2.2.2.1 _ (wd_maxw _ (by simp))) (hC.2.2.2.2.2.2.1 _ (wd_maxw _ (by simp))) (hC.2.2.2.2.2.2.1 _ (wd_maxw _ (by simp))) (Nat.le_of_ble_eq_true hx2.1) (by
        have h1 : ((r.map fun v => v.category).sum) ≤ 8 := h.1
        have h2 := Nat.le_of_ble_eq_true hx2.2
        show ((r.map (wv G.2.1)).map fun v => v.category).sum + 13 ≤ M.2.1.2
        rw [wd_cat8]
        omega) (Nat.le_refl 0) (Nat.le_refl 0) hd (hk _ _ _ _ _ h.2 p l e s m args below meth c H locs ls hC hP hS hL)
    · exact h.elim
  · subst hn
    have hx' := Bool.and_eq_true_iff.mp hx
    have hx2 := Bool.and_eq_true_iff.mp hx'.2
    unfold wd_cp at h
    split at h
    · rename_i n dp c1 sp c0 r
      split at h
      · rename_i n0 n1 ho0 ho1
        obtain ⟨h1, h2⟩ := wd_pa_is ho0
        obtain ⟨h3, h4⟩ := wd_pa_is ho1
        have he0 := wd_ws_at (G := G) (σ := σ) (τ := τ) h1
        rw [wd_cell_p h2] at he0
        have he1 := wd_ws_at (G := G) (σ := σ) (τ := τ) h3
        rw [wd_cell_p h4] at he1
        refine va_copyi (D := G.1) (cl := vwCl) (A := wd_A w G) (ty := .int) hC.1 hC.2.1 (hC.2.2.1.trans hL.1.symm) hC.2.2.2.2.2.1 (hC.2.2.2.2.2.2.1 _ (wd_at_mem hx'.1)) (hC.2.2.2.2.2.2.1 _ (wd_copyw _ (by simp))) (hC.2.2.2.2.2.2.1 _ (wd_copyw _ (by simp))) (hC.2.2.2.2.2.2.1 _ (wd_copyw _ (by simp))) (wd_K2 hC.2.2.2.2.2.2.2 h1 (by rw [h2]; rfl) h3 (by rw [h4]; rfl)) hP (wd_D hI) hS c0 c1 0 1 he0 he1 rfl rfl rfl h.2.1 h.2.2.1 h.2.2.2.1 h.2.2.2.2.1 h.2.2.2.2.2.1 (fun _ _ => rfl) (Nat.le_of_ble_eq_true hx2.1) (by
          have h1 : ((r.map fun v => v.category).sum) ≤ 8 := h.1
          have h2 := Nat.le_of_ble_eq_true hx2.2
          show ((r.map (wv G.2.1)).map fun v => v.category).sum + _ ≤ M.2.1.2
          rw [wd_cat8]
          omega) hd (fun H1 locs1 hP1 _ hS1 => ?_)
        rw [wd_st_a (τ := τ) (σ := σ) h4, wd_ws_set wd_cell_ne] at hP1
        exact hk _ _ _ _ _ h.2.2.2.2.2.2 p l e s m args below meth c H1 locs1 ls hC hP1 hS1 hL
      · exact h.elim
    · exact h.elim
  · exact h.elim
end WS
