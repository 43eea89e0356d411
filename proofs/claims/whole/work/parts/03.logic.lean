/-! THE LOGIC, part 1: a world of numbered cells. A cell's ints are a function of its number and the place; references never change. -/
abbrev wd_Sh : Type := (FieldType × Nat) ⊕ ((FieldType × List Nat) ⊕ Nat)
abbrev wd_Wd : Type := Nat × (Nat → wd_Sh) × (Nat → Nat → Option Nat)
abbrev wd_G : Type := va_G × (Nat → Nat) × (Nat → ClassId)
abbrev wd_S : Type := Nat → Nat → Int32
abbrev wd_T : Type := Nat → Nat → Int64
abbrev wd_L : Type := List (Option Value)
abbrev wd_Lf : Type := Nat × Nat × List Nat × Int32 × Int64
abbrev wd_M : Type := (MethodName × ByteArray × Nat × Option FieldType) × (Nat × Nat) × Nat × (Nat → wd_Lf)
abbrev wd_P : Type := Option Value → wd_S → wd_T → Prop
def wv (a : Nat → Nat) (v : Value) : Value := match v with
  | .ref c => .ref (a c)
  | x => x
/-- the good words of the tables -/
def wd_gw : List Cond := lw_tbl.filter goodWord
def wd_at (p : Nat) (w : Cond) : Bool := decide (lw_tbl[p]? = some w) && goodWord w
theorem wd_at_mem {p : Nat} {w : Cond} (h : wd_at p w = true) : w ∈ wd_gw := by
  simp only [wd_at, Bool.and_eq_true, decide_eq_true_eq] at h
  exact List.mem_filter.mpr ⟨List.mem_of_getElem? h.1, h.2⟩
theorem wd_good {y : MethodName} {b : ByteArray} {n : Nat} {r : Option FieldType} (h : Cond.code y b n r ∈ wd_gw) : GoodIn wd_gw (.code y b n r :: wd_gw) := by
  intro w hw
  have h1 : w ∈ wd_gw := by
    rcases List.mem_cons.mp hw with rfl | hw
    · exact h
    · exact hw
  exact ⟨h1, good_of_word (List.mem_filter.mp h1).2⟩
/-- all of these are words of the tables, at these places -/
def wd_ats : List Nat → List Cond → Bool
  | _, [] => true
  | [], _ :: _ => false
  | p :: ps, w :: ws => wd_at p w && wd_ats ps ws
theorem wd_ats_mem : ∀ {ps : List Nat} {ws : List Cond}, wd_ats ps ws = true → ∀ w ∈ ws, w ∈ wd_gw
  | _, [], _, w, h => by cases h
  | [], _ :: _, h0, _, _ => by cases h0
  | p :: ps, w0 :: ws, h0, w, h => by
    simp only [wd_ats, Bool.and_eq_true] at h0
    rcases List.mem_cons.mp h with rfl | h
    · exact wd_at_mem h0.1
    · exact wd_ats_mem h0.2 w h
/-! fields: which are longs, which booleans -/
def wd_lg (ci k : Nat) : Bool := Nat.beq ci 5 && (Nat.beq k 22 || (Nat.beq k 23 || Nat.beq k 24))
def wd_bo (ci k : Nat) : Bool := Nat.beq ci 5 && (Nat.beq k 4 || Nat.beq k 18)
def wd_cl (ci : Nat) : vw_C := vwCl.getD ci (RX0, TX0, 0)
def wd_nf (ci : Nat) : Nat := (wd_cl ci).2.2
def wd_ty (ci : Nat) : Nat → FieldType := match ci with
  | 0 => tyX0
  | 1 => tyX1
  | 2 => tyX2
  | 3 => tyX3
  | 4 => tyX4
  | _ => tyX5
def wd_fv (w : wd_Wd) (σ : wd_S) (τ : wd_T) (ci c k : Nat) : Value := match w.2.2 c k with
  | some r => .ref r
  | none => cond (wd_lg ci k) (.long (τ c k)) (.int (σ c k))
def wd_cell (w : wd_Wd) (G : wd_G) (σ : wd_S) (τ : wd_T) (c : Nat) : va_E := match w.2.1 c with
  | .inl x => .inl (G.2.2 c, x.2, .inl (σ c))
  | .inr (.inl x) => .inl (G.2.2 c, x.2.length, .inr (.inr (.inr (.inr (fun i => (x.2[i]?).map G.2.1)))))
  | .inr (.inr ci) => .inr (ci, (List.range (wd_nf ci)).map (fun k => wv G.2.1 (wd_fv w σ τ ci c k)))
def wd_ws (w : wd_Wd) (G : wd_G) (σ : wd_S) (τ : wd_T) : va_W := (List.range w.1).map (fun c => (G.2.1 c, wd_cell w G σ τ c))
def wd_A (w : wd_Wd) (G : wd_G) : Nat → Prop := fun q => ∃ c, c < w.1 ∧ q = G.2.1 c
def wd_uc {α : Type} (σ : Nat → α) (c : Nat) (f : α) : Nat → α := fun c' => if c' = c then f else σ c'
theorem wd_ws_at {w : wd_Wd} {G : wd_G} {σ : wd_S} {τ : wd_T} {c : Nat} (h : c < w.1) : (wd_ws w G σ τ)[c]? = some (G.2.1 c, wd_cell w G σ τ c) := by
  simp [wd_ws, h]
theorem wd_ws_set {w : wd_Wd} {G : wd_G} {σ σ' : wd_S} {τ τ' : wd_T} {c : Nat} (ho : ∀ c', c' ≠ c → wd_cell w G σ' τ' c' = wd_cell w G σ τ c') : (wd_ws w G σ τ).set c (G.2.1 c, wd_cell w G σ' τ' c) = wd_ws w G σ' τ' := by
  apply List.ext_getElem?
  intro i
  by_cases hi : i < w.1
  · rw [wd_ws_at hi]
    by_cases hc : i = c
    · subst hc
      rw [List.getElem?_set_self (by simp [wd_ws, hi])]
    · rw [List.getElem?_set_ne (Ne.symm hc), wd_ws_at hi, ho i hc]
  · have e1 : (wd_ws w G σ' τ')[i]? = none := List.getElem?_eq_none (by simp [wd_ws]; omega)
    have e2 : ((wd_ws w G σ τ).set c (G.2.1 c, wd_cell w G σ' τ' c))[i]? = none := List.getElem?_eq_none (by simp [wd_ws]; omega)
    rw [e1, e2]
theorem wd_cell_ne {w : wd_Wd} {G : wd_G} {σ : wd_S} {τ : wd_T} {c : Nat} {f : Nat → Int32} : ∀ c', c' ≠ c → wd_cell w G (wd_uc σ c f) τ c' = wd_cell w G σ τ c' := by
  intro c' h
  have e : wd_uc σ c f c' = σ c' := if_neg h
  unfold wd_cell wd_fv
  simp only [e]
theorem wd_cell_neT {w : wd_Wd} {G : wd_G} {σ : wd_S} {τ : wd_T} {c : Nat} {f : Nat → Int64} : ∀ c', c' ≠ c → wd_cell w G σ (wd_uc τ c f) c' = wd_cell w G σ τ c' := by
  intro c' h
  have e : wd_uc τ c f c' = τ c' := if_neg h
  unfold wd_cell wd_fv
  simp only [e]
/-- the addresses are apart -/
def wd_inj (w : wd_Wd) (G : wd_G) : Prop := ∀ i j, i < w.1 → j < w.1 → G.2.1 i = G.2.1 j → i = j
theorem wd_D {w : wd_Wd} {G : wd_G} {σ : wd_S} {τ : wd_T} (h : wd_inj w G) : va_D (wd_A w G) (wd_ws w G σ τ) := by
  have key : ∀ (k : Nat) (q : Nat × va_E), (wd_ws w G σ τ)[k]? = some q → k < w.1 ∧ q.1 = G.2.1 k := by
    intro k q hk
    have hl : k < w.1 := by
      have := (List.getElem?_eq_some_iff.mp hk).1
      simpa [wd_ws] using this
    rw [wd_ws_at hl] at hk
    cases hk
    exact ⟨hl, rfl⟩
  refine ⟨fun i j p q hi hj e => ?_, fun k q hk => ?_⟩
  · obtain ⟨h1, h2⟩ := key i p hi
    obtain ⟨h3, h4⟩ := key j q hj
    exact h i j h1 h3 (by rw [← h2, ← h4, e])
  · obtain ⟨h1, h2⟩ := key k q hk
    exact ⟨k, h1, h2⟩
/-! String constants and statics, which nothing changes -/
def wd_len : List Nat := [5, 6, 5, 4, 5, 3]
def wd_byt : List (List Int32) := [[112, 108, 97, 105, 110], [119, 105, 110, 100, 111, 119], [116, 119, 105, 99, 101], [104, 97, 108, 102], [115, 105, 103, 110, 115], [106, 97, 109]]
def wd_six : List (Nat × String) := [(41, "plain"), (51, "window"), (53, "twice"), (55, "half"), (57, "signs"), (62, "jam")]
def wd_nest : List Cond := lw_tbl.filter (fun c => match c with
  | .methodLinkNest _ _ _ _ => true
  | _ => false)
def wd_X (G : wd_G) (A : Nat → Prop) (U : State) (H : Heap) : Prop :=
  vk_S 6 wd_len wd_byt (fun i => G.2.1 (1000 + i)) (fun i => G.2.1 (1100 + i)) A U H ∧ (∀ i : Nat, i < 6 → vk_R RX2 (wd_six.getD i (0, "")).1 (wd_six.getD i (0, "")).2 (G.2.1 (1000 + i)) U) ∧ va_Z "java/lang/String" "COMPACT_STRINGS" "Z" (.int 1) A U H ∧ va_Zq "jdk/internal/util/Preconditions" "SIOOBE_FORMATTER" "Ljava/util/function/BiFunction;" A U H
theorem wd_X.kept {G : wd_G} {A : Nat → Prop} {U : State} {H H1 : Heap} (h : wd_X G A U H) (hq : ∀ a : Nat, a < H.size → ¬ A a → H1[a]? = H[a]?) : wd_X G A U H1 :=
  ⟨h.1.kept hq, h.2.1, h.2.2.1.kept hq, h.2.2.2.kept hq⟩
theorem wd_X.warm {G : wd_G} {A : Nat → Prop} {s U : State} {H : Heap} (hW : s.WarmedH U.vm) (h : wd_X G A s H) : wd_X G A U H :=
  ⟨h.1.moved hW.alike, fun i hi => (h.2.1 i hi).warm hW, h.2.2.1.moved hW.alike, h.2.2.2.moved hW.alike⟩
theorem wd_X.same {G : wd_G} {A : Nat → Prop} {s U : State} {H : Heap} (hv : U.vm = s.vm) (h : wd_X G A s H) : wd_X G A U H :=
  have ha : s.vm.Alike U.vm := by rw [hv]; exact Vm.Alike.refl s.vm
  ⟨h.1.moved ha, fun i hi => (h.2.1 i hi).same hv, h.2.2.1.moved ha, h.2.2.2.moved ha⟩
/-- what a method knows of the tables, beyond the good words -/
def wd_arr (x : wd_Sh) : Option FieldType := match x with
  | .inl y => some y.1
  | .inr (.inl y) => some y.1
  | .inr (.inr _) => none
def wd_K (w : wd_Wd) (G : wd_G) (A : Nat → Prop) (s : State) : Prop :=
  wd_inj w G ∧ va_K G.1 vwCl [] s ∧ (∀ (c : Nat) (ty : FieldType), c < w.1 → wd_arr (w.2.1 c) = some ty → ArrOfT s (G.2.2 c) ty ∧ va_RA s (G.2.2 c) ty) ∧ (∀ n ∈ wd_nest, va_Nw n s) ∧ wd_X G A s s.heap
theorem wd_nest_is {n : Cond} (h : n ∈ wd_nest) : ∃ a i x b, n = .methodLinkNest a i x b := by
  have h1 := (List.mem_filter.mp h).2
  cases n <;> first | exact ⟨_, _, _, _, rfl⟩ | exact absurd h1 (by simp)
theorem wd_K.warm {w : wd_Wd} {G : wd_G} {A : Nat → Prop} {s U : State} (hW : s.WarmedH U.vm) (hX : wd_X G A s U.heap) (h : wd_K w G A s) : wd_K w G A U := by
  refine ⟨h.1, h.2.1.moved hW.alike, fun c ty hc ht => ⟨arrOfT_moved hW.alike (h.2.2.1 c ty hc ht).1, (h.2.2.1 c ty hc ht).2.moved hW.alike⟩, fun n hn => ?_, hX.warm hW⟩
  have h1 := h.2.2.2.1 n hn
  obtain ⟨a, i, x, b, rfl⟩ := wd_nest_is hn
  exact va_Nw.warmM hW h1
theorem wd_K.same {w : wd_Wd} {G : wd_G} {A : Nat → Prop} {s U : State} (hv : U.vm = s.vm) (hh : U.heap = s.heap) (h : wd_K w G A s) : wd_K w G A U := by
  have ha : s.vm.Alike U.vm := by rw [hv]; exact Vm.Alike.refl s.vm
  refine ⟨h.1, h.2.1.moved ha, fun c ty hc ht => ⟨arrOfT_moved ha (h.2.2.1 c ty hc ht).1, (h.2.2.1 c ty hc ht).2.moved ha⟩, fun n hn => ?_, by rw [hh]; exact h.2.2.2.2.same hv⟩
  have h1 := h.2.2.2.1 n hn
  obtain ⟨a, i, x, b, rfl⟩ := wd_nest_is hn
  exact va_Nw.same rfl hv.symm h1
/-! locals by place -/
def wd_g : wd_L → Nat → Option Value
  | [], _ => none
  | x :: _, 0 => x
  | _ :: r, i + 1 => wd_g r i
theorem wd_g_at : ∀ {l : wd_L} {i : Nat} {v : Value}, wd_g l i = some v → l[i]? = some (some v)
  | [], _, _, h => by cases h
  | x :: _, 0, v, h => by simpa [wd_g] using h
  | _ :: r, i + 1, v, h => by simpa using wd_g_at (l := r) (i := i) (v := v) h
def wd_k (x : Option Value) (i : Nat) : Option Value := match i with
  | 0 => (match x with
    | some (.long _) => none
    | some (.double _) => none
    | y => y)
  | _ => x
def wd_s1 : wd_L → Nat → Value → wd_L
  | [], _, _ => []
  | _ :: r, 0, v => some v :: r
  | x :: r, i + 1, v => wd_k x i :: wd_s1 r i v
def wd_clr : wd_L → wd_L
  | [] => []
  | _ :: r => none :: r
def wd_s2 : wd_L → Nat → Value → wd_L
  | [], _, _ => []
  | _ :: r, 0, v => some v :: wd_clr r
  | x :: r, i + 1, v => wd_k x i :: wd_s2 r i v
theorem wd_k_at {x : Option Value} {i : Nat} {u : Value} (h : wd_k x i = some u) : x = some u ∧ ¬ (i = 0 ∧ u.category = 2) := by
  cases i with
  | zero =>
    cases x with
    | none => cases h
    | some y => cases y <;> simp [wd_k] at h <;> subst h <;> simp [Value.category]
  | succ n => exact ⟨h, fun z => by cases z.1⟩
theorem wd_s1_at : ∀ {l : wd_L} {i j : Nat} {v u : Value}, (wd_s1 l i v)[j]? = some (some u) → (j = i ∧ u = v) ∨ (j ≠ i ∧ l[j]? = some (some u) ∧ ¬ (j + 1 = i ∧ u.category = 2))
  | [], _, _, _, _, h => by simp [wd_s1] at h
  | x :: r, 0, 0, v, u, h => by
    simp [wd_s1] at h
    exact Or.inl ⟨rfl, h.symm⟩
  | x :: r, 0, j + 1, v, u, h => by
    simp [wd_s1] at h
    exact Or.inr ⟨by omega, by simpa using h, fun z => by omega⟩
  | x :: r, i + 1, 0, v, u, h => by
    simp [wd_s1] at h
    obtain ⟨h1, h2⟩ := wd_k_at h
    exact Or.inr ⟨by omega, by simp [h1], fun z => h2 ⟨by omega, z.2⟩⟩
  | x :: r, i + 1, j + 1, v, u, h => by
    simp [wd_s1] at h
    rcases wd_s1_at h with ⟨h1, h2⟩ | ⟨h1, h2, h3⟩
    · exact Or.inl ⟨by omega, h2⟩
    · exact Or.inr ⟨by omega, by simpa using h2, fun z => h3 ⟨by omega, z.2⟩⟩
theorem wd_clr_at {l : wd_L} {j : Nat} {u : Value} (h : (wd_clr l)[j]? = some (some u)) : j ≠ 0 ∧ l[j]? = some (some u) := by
  cases l with
  | nil => simp [wd_clr] at h
  | cons x r =>
    cases j with
    | zero => simp [wd_clr] at h
    | succ j =>
      simp [wd_clr] at h
      exact ⟨by omega, by simpa using h⟩
theorem wd_s2_at : ∀ {l : wd_L} {i j : Nat} {v u : Value}, (wd_s2 l i v)[j]? = some (some u) → (j = i ∧ u = v) ∨ (j ≠ i ∧ j ≠ i + 1 ∧ l[j]? = some (some u) ∧ ¬ (j + 1 = i ∧ u.category = 2))
  | [], _, _, _, _, h => by simp [wd_s2] at h
  | x :: r, 0, 0, v, u, h => by
    simp [wd_s2] at h
    exact Or.inl ⟨rfl, h.symm⟩
  | x :: r, 0, j + 1, v, u, h => by
    simp [wd_s2] at h
    obtain ⟨h1, h2⟩ := wd_clr_at h
    exact Or.inr ⟨by omega, by omega, by simpa using h2, fun z => by omega⟩
  | x :: r, i + 1, 0, v, u, h => by
    simp [wd_s2] at h
    obtain ⟨h1, h2⟩ := wd_k_at h
    exact Or.inr ⟨by omega, by omega, by simp [h1], fun z => h2 ⟨by omega, z.2⟩⟩
  | x :: r, i + 1, j + 1, v, u, h => by
    simp [wd_s2] at h
    rcases wd_s2_at h with ⟨h1, h2⟩ | ⟨h1, h2, h3, h4⟩
    · exact Or.inl ⟨by omega, h2⟩
    · exact Or.inr ⟨by omega, by omega, by simpa using h3, fun z => h4 ⟨by omega, z.2⟩⟩
/-- the frame's locals are these -/
def wd_lok (a : Nat → Nat) (ls : Array Slot) (n : Nat) (l : wd_L) : Prop := ls.size = n ∧ lv_wf ls ∧ ∀ (i : Nat) (v : Value), l[i]? = some (some v) → ls[i]? = some (.val (wv a v))
def wd_prs (a : Nat → Nat) (l : wd_L) : List (Nat × Value) := (List.range l.length).filterMap (fun j => match l[j]? with
  | some (some u) => some (j, wv a u)
  | _ => none)
theorem wd_prs_mem {a : Nat → Nat} {l : wd_L} {j : Nat} {u : Value} (h : l[j]? = some (some u)) : (j, wv a u) ∈ wd_prs a l := by
  refine List.mem_filterMap.mpr ⟨j, List.mem_range.mpr (List.getElem?_eq_some_iff.mp h).1, ?_⟩
  rw [h]
theorem wd_prs_has {a : Nat → Nat} {ls : Array Slot} {n : Nat} {l : wd_L} (h : wd_lok a ls n l) : lv_has ls n (wd_prs a l) := by
  refine ⟨h.1, h.2.1, fun q hq => ?_⟩
  obtain ⟨j, -, hj⟩ := List.mem_filterMap.mp hq
  split at hj
  · rename_i u hu
    cases hj
    exact h.2.2 j u hu
  · cases hj
theorem wv_cat (a : Nat → Nat) (v : Value) : (wv a v).category = v.category := by cases v <;> rfl
theorem wd_lok1 {a : Nat → Nat} {ls' : Array Slot} {n i : Nat} {l : wd_L} {v : Value} (h : lv_has ls' n ((i, wv a v) :: (wd_prs a l).filter (fun q => !(q.1 == i) && !(q.1 + 1 == i && q.2.category == 2)))) : wd_lok a ls' n (wd_s1 l i v) := by
  refine ⟨h.1, h.2.1, fun j u hj => ?_⟩
  rcases wd_s1_at hj with ⟨h1, h2⟩ | ⟨h1, h2, h3⟩
  · subst h1; subst h2
    exact h.2.2 _ List.mem_cons_self
  · refine h.2.2 (j, wv a u) (List.mem_cons_of_mem _ (List.mem_filter.mpr ⟨wd_prs_mem h2, ?_⟩))
    simp only [wv_cat]
    simp only [Bool.and_eq_true, Bool.not_eq_true', beq_eq_false_iff_ne, ne_eq, Bool.and_eq_false_iff]
    refine ⟨h1, ?_⟩
    by_cases hz : j + 1 = i
    · exact Or.inr (fun z => h3 ⟨hz, z⟩)
    · exact Or.inl hz
theorem wd_lok2 {a : Nat → Nat} {ls' : Array Slot} {n i : Nat} {l : wd_L} {v : Value} (h : lv_has ls' n ((i, wv a v) :: (wd_prs a l).filter (fun q => !(q.1 == i) && (!(q.1 == i + 1) && !(q.1 + 1 == i && q.2.category == 2))))) : wd_lok a ls' n (wd_s2 l i v) := by
  refine ⟨h.1, h.2.1, fun j u hj => ?_⟩
  rcases wd_s2_at hj with ⟨h1, h2⟩ | ⟨h1, h0, h2, h3⟩
  · subst h1; subst h2
    exact h.2.2 _ List.mem_cons_self
  · refine h.2.2 (j, wv a u) (List.mem_cons_of_mem _ (List.mem_filter.mpr ⟨wd_prs_mem h2, ?_⟩))
    simp only [wv_cat]
    simp only [Bool.and_eq_true, Bool.not_eq_true', beq_eq_false_iff_ne, ne_eq, Bool.and_eq_false_iff]
    refine ⟨h1, h0, ?_⟩
    by_cases hz : j + 1 = i
    · exact Or.inr (fun z => h3 ⟨hz, z⟩)
    · exact Or.inl hz
/-! THE JUDGEMENT -/
def wd_rm (M : wd_M) : Room := { frames := M.2.1.1, cells := 0, slots := 0, locals := M.2.1.2 }
def wd_wsM (M : wd_M) : List Cond := .code M.1.1 M.1.2.1 M.1.2.2.1 M.1.2.2.2 :: wd_gw
def wd_Cx (w : wd_Wd) (G : wd_G) (M : wd_M) (p : Program) (s : State) (m : MethodId) (args : Array Value) (meth : Method) (c : Code) : Prop :=
  p.tables.exec = Jvm.exec ∧ c.code = M.1.2.1 ∧ c.maxLocals = M.1.2.2.1 ∧ meth.sig.returnType = M.1.2.2.2 ∧ meth.locks = false ∧ s.vm.findClass M.1.1.cls = some m.cls ∧ (∀ w' ∈ wd_gw, w'.before args s = true) ∧ wd_K w G (wd_A w G) s
def wd_Qc (w : wd_Wd) (G : wd_G) (Q : wd_P) : Array Value → State → Outcome → State → Prop := fun _ st oc t =>
  ∃ (r : Option Value) (σ : wd_S) (τ : wd_T), oc = .returned (r.map (wv G.2.1)) ∧ Q r σ τ ∧ va_P G.1 vwCl (wd_ws w G σ τ) t.heap ∧ va_F (wd_A w G) st t
def Run (w : wd_Wd) (G : wd_G) (M : wd_M) (pc : Nat) (lv : wd_L) (st : List Value) (σ : wd_S) (τ : wd_T) (Q : wd_P) : Prop :=
  ∀ (p : Program) (l : Launch) (e : Env) (s : State) (m : MethodId) (args : Array Value) (below : List Frame) (meth : Method) (c : Code) (H : Heap) (locs : List Loc) (ls : Array Slot),
    wd_Cx w G M p s m args meth c → va_P G.1 vwCl (wd_ws w G σ τ) H → va_S (wd_A w G) s.heap H locs → wd_lok G.2.1 ls M.1.2.2.1 lv →
    W p l e (wd_rm M) s m args below meth c H locs 0 0 (MQ below (wd_Qc w G Q) args s 0 0 (wd_A w G)) (F0 m pc ls (st.map (wv G.2.1)))
