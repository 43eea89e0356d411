theorem wd_in0 : ∀ x ∈ u_ws RX0 TX0 18, x ∈ wd_gw := wd_ats_mem (ps := [126, 128, 130, 132, 134, 136, 138, 140, 142, 144, 146, 148, 150, 152, 154, 156, 158, 160]) (by decide +kernel)
theorem wd_in1 : ∀ x ∈ u_ws RX1 TX1 3, x ∈ wd_gw := wd_ats_mem (ps := [268, 270, 272]) (by decide +kernel)
theorem wd_in2 : ∀ x ∈ u_ws RX2 TX2 10, x ∈ wd_gw := wd_ats_mem (ps := [229, 231, 233, 235, 237, 239, 241, 243, 245, 247]) (by decide +kernel)
theorem wd_in3 : ∀ x ∈ u_ws RX3 TX3 8, x ∈ wd_gw := wd_ats_mem (ps := [188, 190, 192, 194, 196, 198, 200, 202]) (by decide +kernel)
theorem wd_in4 : ∀ x ∈ u_ws RX4 TX4 7, x ∈ wd_gw := wd_ats_mem (ps := [283, 285, 287, 289, 291, 293, 295]) (by decide +kernel)
theorem wd_in5 : ∀ x ∈ u_ws RX5 TX5 32, x ∈ wd_gw := wd_ats_mem (ps := [809, 811, 813, 815, 817, 819, 821, 823, 825, 827, 829, 831, 833, 835, 837, 839, 841, 843, 845, 847, 849, 851, 853, 855, 857, 859, 861, 863, 865, 867, 869, 871]) (by decide +kernel)
/-! THE LOGIC, part 3: what the kinds do is what the machine does -/
theorem wd_in {ci : Nat} (h : ci < 6) : ∀ x ∈ u_ws (wd_cl ci).1 (wd_cl ci).2.1 (wd_cl ci).2.2, x ∈ wd_gw := by
  match ci, h with
  | 0, _ => exact wd_in0
  | 1, _ => exact wd_in1
  | 2, _ => exact wd_in2
  | 3, _ => exact wd_in3
  | 4, _ => exact wd_in4
  | 5, _ => exact wd_in5
  | n + 6, h => exact absurd h (by omega)
theorem wd_cl_at {ci : Nat} (h : ci < 6) : vwCl[ci]? = some ((wd_cl ci).1, (wd_cl ci).2.1, (wd_cl ci).2.2) := by
  match ci, h with
  | 0, _ => rfl
  | 1, _ => rfl
  | 2, _ => rfl
  | 3, _ => rfl
  | 4, _ => rfl
  | 5, _ => rfl
  | n + 6, h => exact absurd h (by omega)
theorem wd_ty_ok {ci : Nat} (h : ci < 6) : ∀ k, k < (wd_cl ci).2.2 → parseFieldDescriptor ((wd_cl ci).2.1 k).2.2.1 = some (wd_ty ci k) := by
  match ci, h with
  | 0, _ => exact tyX0_ok
  | 1, _ => exact tyX1_ok
  | 2, _ => exact tyX2_ok
  | 3, _ => exact tyX3_ok
  | 4, _ => exact tyX4_ok
  | 5, _ => exact tyX5_ok
  | n + 6, h => exact absurd h (by omega)
theorem wd_nm_ok {ci : Nat} (h : ci < 6) : ∀ a, a < (wd_cl ci).2.2 → ∀ b, b < (wd_cl ci).2.2 → a ≠ b → ((wd_cl ci).2.1 a).2.1 ≠ ((wd_cl ci).2.1 b).2.1 := by
  match ci, h with
  | 0, _ => exact nmX0
  | 1, _ => exact nmX1
  | 2, _ => exact nmX2
  | 3, _ => exact nmX3
  | 4, _ => exact nmX4
  | 5, _ => exact nmX5
  | n + 6, h => exact absurd h (by omega)
theorem wd_obj_is {w : wd_Wd} {c ci : Nat} (h : wd_obj w c ci = true) : c < w.1 ∧ w.2.1 c = .inr (.inr ci) := by
  simp only [wd_obj, Bool.and_eq_true] at h
  refine ⟨Nat.lt_of_succ_le (Nat.le_of_ble_eq_true h.1), ?_⟩
  have h2 := h.2
  split at h2
  · rename_i x hx
    rw [hx, Nat.eq_of_beq_eq_true h2]
  · cases h2
theorem wd_pa_is {w : wd_Wd} {c : Nat} {x : FieldType × Nat} (h : wd_pa w c = some x) : c < w.1 ∧ w.2.1 c = .inl x := by
  simp only [wd_pa] at h
  cases hb : Nat.blt c w.1 with
  | false => rw [hb] at h; cases h
  | true =>
    rw [hb] at h
    refine ⟨Nat.lt_of_succ_le (Nat.le_of_ble_eq_true hb), ?_⟩
    simp only [cond_true] at h
    split at h
    · rename_i y hy
      cases h
      exact hy
    · cases h
theorem wd_qa_is {w : wd_Wd} {c : Nat} {x : List Nat} (h : wd_qa w c = some x) : c < w.1 ∧ ∃ ty : FieldType, ty.isReference = true ∧ w.2.1 c = .inr (.inl (ty, x)) := by
  simp only [wd_qa] at h
  cases hb : Nat.blt c w.1 with
  | false => rw [hb] at h; cases h
  | true =>
    rw [hb] at h
    refine ⟨Nat.lt_of_succ_le (Nat.le_of_ble_eq_true hb), ?_⟩
    simp only [cond_true] at h
    split at h
    · rename_i y hy
      cases hr : y.1.isReference with
      | false => rw [hr] at h; cases h
      | true =>
        rw [hr] at h
        cases h
        exact ⟨y.1, hr, hy⟩
    · cases h
theorem wd_cell_o {w : wd_Wd} {G : wd_G} {σ : wd_S} {τ : wd_T} {c ci : Nat} (h : w.2.1 c = .inr (.inr ci)) : wd_cell w G σ τ c = .inr (ci, (List.range (wd_nf ci)).map (fun k => wv G.2.1 (wd_fv w σ τ ci c k))) := by
  simp only [wd_cell, h]
theorem wd_cell_p {w : wd_Wd} {G : wd_G} {σ : wd_S} {τ : wd_T} {c n : Nat} {ty : FieldType} (h : w.2.1 c = .inl (ty, n)) : wd_cell w G σ τ c = .inl (G.2.2 c, n, .inl (σ c)) := by
  simp only [wd_cell, h]
theorem wd_cell_q {w : wd_Wd} {G : wd_G} {σ : wd_S} {τ : wd_T} {c : Nat} {ty : FieldType} {ids : List Nat} (h : w.2.1 c = .inr (.inl (ty, ids))) : wd_cell w G σ τ c = .inl (G.2.2 c, ids.length, .inr (.inr (.inr (.inr (fun i => (ids[i]?).map G.2.1))))) := by
  simp only [wd_cell, h]
theorem wd_fs_set {N k : Nat} {f f' : Nat → Value} {v : Value} (hk : f' k = v) (ho : ∀ j, j ≠ k → f' j = f j) : ((List.range N).map f).set k v = (List.range N).map f' := by
  apply List.ext_getElem?
  intro j
  by_cases hj : j < N
  · by_cases e : j = k
    · subst e
      rw [List.getElem?_set_self (by simpa using hj)]
      simp [hj, hk]
    · rw [List.getElem?_set_ne (Ne.symm e)]
      simp [hj, ho j e]
  · rw [List.getElem?_eq_none (by simpa using hj), List.getElem?_eq_none (by simpa using hj)]
theorem wd_K1 {w : wd_Wd} {G : wd_G} {A : Nat → Prop} {s : State} {c : Nat} {ty : FieldType} (h : wd_K w G A s) (hc : c < w.1) (ht : wd_arr (w.2.1 c) = some ty) : va_K G.1 vwCl [(G.2.2 c, ty)] s := by
  refine ⟨h.2.1.1, fun k q hk => ?_⟩
  cases k with
  | zero =>
    simp at hk
    subst hk
    exact h.2.2.1 c ty hc ht
  | succ k => simp at hk
theorem wd_K2 {w : wd_Wd} {G : wd_G} {A : Nat → Prop} {s : State} {c d : Nat} {ty : FieldType} (h : wd_K w G A s) (hc : c < w.1) (ht : wd_arr (w.2.1 c) = some ty) (hd : d < w.1) (hu : wd_arr (w.2.1 d) = some ty) : va_K G.1 vwCl [(G.2.2 c, ty), (G.2.2 d, ty)] s := by
  refine ⟨h.2.1.1, fun k q hk => ?_⟩
  match k, hk with
  | 0, hk =>
    simp at hk
    subst hk
    exact h.2.2.1 c ty hc ht
  | 1, hk =>
    simp at hk
    subst hk
    exact h.2.2.1 d ty hd hu
  | k + 2, hk => simp at hk
theorem wd_blt {a b : Nat} (h : Nat.blt a b = true) : a < b := Nat.lt_of_succ_le (Nat.le_of_ble_eq_true h)
theorem wd_f4_eq {n : Nat} (h : n < 4) : (wd_f4 n : Nat) = n := Nat.mod_eq_of_lt h
theorem wd_toInt (v : Int32) : Int32.ofInt v.toInt = v := by simp
theorem wd_cat8 {a : Nat → Nat} {r : List Value} : ((r.map (wv a)).map fun v => v.category).sum = (r.map fun v => v.category).sum := by
  rw [List.map_map]
  congr 1
  apply List.map_congr_left
  intro v _
  exact wv_cat a v
theorem wd_minw : ∀ x ∈ [Cond.static Lib.Math.min.name, Cond.initialized "java/lang/Math", Cond.code Lib.Math.min.name Lib.Math.min.code 2 (some .int)], x ∈ wd_gw := wd_ats_mem (ps := [529, 69, 530]) (by decide +kernel)
theorem wd_maxw : ∀ x ∈ [Cond.static Lib.Math.max.name, Cond.initialized "java/lang/Math", Cond.code Lib.Math.max.name Lib.Math.max.code 2 (some .int)], x ∈ wd_gw := wd_ats_mem (ps := [691, 69, 692]) (by decide +kernel)
theorem wd_copyw : ∀ x ∈ [Cond.static arraycopyName, Cond.initialized "java/lang/System", Cond.native arraycopyName], x ∈ wd_gw := wd_ats_mem (ps := [448, 68, 449]) (by decide +kernel)
