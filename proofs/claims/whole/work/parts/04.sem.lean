/-! THE LOGIC, part 2: what an instruction does, by its kind -/
def wd_f4 (n : Nat) : Fin 4 := ⟨n % 4, Nat.mod_lt _ (by decide)⟩
def wd_f2 (n : Nat) : Fin 2 := ⟨n % 2, Nat.mod_lt _ (by decide)⟩
def wd_pr : List Nat → List (Nat × Nat)
  | a :: b :: r => (a, b) :: wd_pr r
  | _ => []
/-- the instruction of a kind, and its length; as: its numbers -/
def wd_ins (k : Nat) (as : List Nat) (v : Int32) (pc : Nat) : Instr × Nat := match k with
  | 0 => (.iconst v.toInt, 1)
  | 1 => (.bipush v.toInt, 2)
  | 2 => (.sipush v.toInt, 3)
  | 3 => (.lconst (wd_f2 (as.getD 0 0)), 1)
  | 4 => (.ldc (as.getD 0 0), 2)
  | 5 => (.ldc_w (as.getD 0 0), 3)
  | 6 => (.ldc2_w (as.getD 0 0), 3)
  | 7 => (.ldc (as.getD 0 0), 2)
  | 8 => (.iload_n (wd_f4 (as.getD 0 0)), 1)
  | 9 => (.iload (as.getD 0 0), 2)
  | 10 => (.lload_n (wd_f4 (as.getD 0 0)), 1)
  | 11 => (.lload (as.getD 0 0), 2)
  | 12 => (.aload_n (wd_f4 (as.getD 0 0)), 1)
  | 13 => (.aload (as.getD 0 0), 2)
  | 14 => (.istore_n (wd_f4 (as.getD 0 0)), 1)
  | 15 => (.istore (as.getD 0 0), 2)
  | 16 => (.lstore_n (wd_f4 (as.getD 0 0)), 1)
  | 17 => (.lstore (as.getD 0 0), 2)
  | 18 => (.astore_n (wd_f4 (as.getD 0 0)), 1)
  | 19 => (.astore (as.getD 0 0), 2)
  | 20 => (.iinc (as.getD 0 0) v.toInt, 3)
  | 21 => (.iadd, 1)
  | 22 => (.isub, 1)
  | 23 => (.imul, 1)
  | 24 => (.iand, 1)
  | 25 => (.ior, 1)
  | 26 => (.ishl, 1)
  | 27 => (.ishr, 1)
  | 28 => (.iushr, 1)
  | 29 => (.idiv, 1)
  | 30 => (.irem, 1)
  | 31 => (.ladd, 1)
  | 32 => (.lmul, 1)
  | 33 => (.land, 1)
  | 34 => (.lor, 1)
  | 35 => (.lshl, 1)
  | 36 => (.lshr, 1)
  | 37 => (.ldiv, 1)
  | 38 => (.lrem, 1)
  | 39 => (.lcmp, 1)
  | 40 => (.i2l, 1)
  | 41 => (.l2i, 1)
  | 42 => (.i2b, 1)
  | 43 => (.i2s, 1)
  | 44 => (.dup, 1)
  | 45 => (.dup2, 1)
  | 46 => (.pop, 1)
  | 47 => (.ifCond .eq ((as.getD 0 0 : Int) - pc), 3)
  | 48 => (.ifCond .ne ((as.getD 0 0 : Int) - pc), 3)
  | 49 => (.ifCond .lt ((as.getD 0 0 : Int) - pc), 3)
  | 50 => (.ifCond .ge ((as.getD 0 0 : Int) - pc), 3)
  | 51 => (.ifCond .gt ((as.getD 0 0 : Int) - pc), 3)
  | 52 => (.ifCond .le ((as.getD 0 0 : Int) - pc), 3)
  | 53 => (.if_icmp .eq ((as.getD 0 0 : Int) - pc), 3)
  | 54 => (.if_icmp .ne ((as.getD 0 0 : Int) - pc), 3)
  | 55 => (.if_icmp .lt ((as.getD 0 0 : Int) - pc), 3)
  | 56 => (.if_icmp .ge ((as.getD 0 0 : Int) - pc), 3)
  | 57 => (.if_icmp .gt ((as.getD 0 0 : Int) - pc), 3)
  | 58 => (.if_icmp .le ((as.getD 0 0 : Int) - pc), 3)
  | 59 => (.goto ((as.getD 0 0 : Int) - pc), 3)
  | 60 => (.tableswitch ((as.getD 0 0 : Int) - pc) (as.getD 1 0 : Int) ((as.getD 1 0 + (as.drop 3).length : Nat) - 1 : Int) ((as.drop 3).map (fun t : Nat => (t : Int) - (pc : Int))).toArray, as.getD 2 0)
  | 61 => (.lookupswitch ((as.getD 0 0 : Int) - pc) ((wd_pr (as.drop 2)).map (fun q : Nat × Nat => ((q.1 : Int), (q.2 : Int) - (pc : Int)))).toArray, as.getD 1 0)
  | 62 => (.ireturn, 1)
  | 63 => (.lreturn, 1)
  | 64 => (.return_, 1)
  | 65 => (.getfield (as.getD 2 0), 3)
  | 66 => (.putfield (as.getD 2 0), 3)
  | 67 => (.iaload, 1)
  | 68 => (.iastore, 1)
  | 69 => (.baload, 1)
  | 70 => (.bastore, 1)
  | 71 => (.aaload, 1)
  | 72 => (.arraylength, 1)
  | 73 => (.invokestatic (as.getD 0 0), 3)
  | 74 => (.invokestatic (as.getD 0 0), 3)
  | 75 => (.invokestatic (as.getD 0 0), 3)
  | _ => (.nop, 1)
/-- what else must hold of an instruction in a method of the class own -/
def wd_ex (own : String) (nL pc : Nat) (k : Nat) (as : List Nat) (v : Int32) (u : Int64) (rm : Nat × Nat) : Bool := match k with
  | 1 => decide ((Int8.ofInt v.toInt).toInt32 = v)
  | 2 => decide ((Int16.ofInt v.toInt).toInt32 = v)
  | 3 => decide (Int64.ofNat (wd_f2 (as.getD 0 0) : Nat) = u)
  | 4 => wd_at (as.getD 1 0) (.constant own (as.getD 0 0) v)
  | 5 => wd_at (as.getD 1 0) (.constant own (as.getD 0 0) v)
  | 6 => wd_at (as.getD 1 0) (.constantLong own (as.getD 0 0) u)
  | 7 => Nat.blt (as.getD 1 0) 6 && (decide ((wd_six.getD (as.getD 1 0) (0, "")).1 = as.getD 0 0) && decide (own = RX2))
  | 8 => Nat.blt (as.getD 0 0) 4
  | 10 => Nat.blt (as.getD 0 0) 4
  | 12 => Nat.blt (as.getD 0 0) 4
  | 14 => Nat.blt (as.getD 0 0) 4 && Nat.blt (as.getD 0 0) nL
  | 15 => Nat.blt (as.getD 0 0) nL
  | 16 => Nat.blt (as.getD 0 0) 4 && Nat.blt (as.getD 0 0 + 1) nL
  | 17 => Nat.blt (as.getD 0 0 + 1) nL
  | 18 => Nat.blt (as.getD 0 0) 4 && Nat.blt (as.getD 0 0) nL
  | 19 => Nat.blt (as.getD 0 0) nL
  | 20 => Nat.blt (as.getD 0 0) nL
  | 60 => Nat.blt (as.getD 1 0 + (as.drop 3).length) 2147483648
  | 61 => (((wd_pr (as.drop 2)).map (fun q : Nat × Nat => ((q.1 : Int), (q.2 : Int) - (pc : Int)))).zip (((wd_pr (as.drop 2)).map (fun q : Nat × Nat => ((q.1 : Int), (q.2 : Int) - (pc : Int)))).drop 1)).all (fun (a, next) => a.1 < next.1) && (wd_pr (as.drop 2)).all (fun q => Nat.blt q.1 2147483648)
  | 65 => Nat.blt (as.getD 0 0) 6 && (Nat.blt (as.getD 1 0) (wd_nf (as.getD 0 0)) && wd_at (as.getD 3 0) (.fieldLink own (as.getD 2 0) ((wd_cl (as.getD 0 0)).2.1 (as.getD 1 0)).1 ((wd_cl (as.getD 0 0)).2.1 (as.getD 1 0)).2.1 ((wd_cl (as.getD 0 0)).2.1 (as.getD 1 0)).2.2.1))
  | 66 => Nat.blt (as.getD 0 0) 6 && (Nat.blt (as.getD 1 0) (wd_nf (as.getD 0 0)) && (wd_at (as.getD 3 0) (.fieldLink own (as.getD 2 0) ((wd_cl (as.getD 0 0)).2.1 (as.getD 1 0)).1 ((wd_cl (as.getD 0 0)).2.1 (as.getD 1 0)).2.1 ((wd_cl (as.getD 0 0)).2.1 (as.getD 1 0)).2.2.1) &&
      (!((wd_cl (as.getD 0 0)).2.1 (as.getD 1 0)).2.2.2 && decide (wd_ty (as.getD 0 0) (as.getD 1 0) = cond (wd_lg (as.getD 0 0) (as.getD 1 0)) .long (cond (wd_bo (as.getD 0 0) (as.getD 1 0)) .boolean .int)))))
  | 73 => wd_at (as.getD 1 0) (.methodLink own (as.getD 0 0) Lib.Math.min.name) && (Nat.ble 1 rm.1 && Nat.ble 21 rm.2)
  | 74 => wd_at (as.getD 1 0) (.methodLink own (as.getD 0 0) Lib.Math.max.name) && (Nat.ble 1 rm.1 && Nat.ble 21 rm.2)
  | 75 => wd_at (as.getD 1 0) (.methodLink own (as.getD 0 0) arraycopyName) && (Nat.ble 1 rm.1 && Nat.ble (8 + (nativeFrameWords "java/lang/System" "arraycopy" 5 + 11)) rm.2)
  | _ => true
def wd_chk (M : wd_M) (pc : Nat) : Bool :=
  Nat.ble 90 (M.2.2.2 pc).1 || (decide (decode M.1.2.1 pc = .ok (wd_ins (M.2.2.2 pc).1 (M.2.2.2 pc).2.2.1 (M.2.2.2 pc).2.2.2.1 pc)) && (Nat.beq (M.2.2.2 pc).2.1 (pc + (wd_ins (M.2.2.2 pc).1 (M.2.2.2 pc).2.2.1 (M.2.2.2 pc).2.2.2.1 pc).2) &&
    wd_ex M.1.1.cls M.1.2.2.1 pc (M.2.2.2 pc).1 (M.2.2.2 pc).2.2.1 (M.2.2.2 pc).2.2.2.1 (M.2.2.2 pc).2.2.2.2 M.2.1))
/-- all instructions of a method are as its table says -/
def wd_ok (M : wd_M) : Prop := ∀ pc, pc < M.2.2.1 → wd_chk M pc = true
/-! the effect, to a continuation -/
abbrev wd_C : Type := Nat → wd_L → List Value → wd_S → wd_T → Prop
def wd_bit (x : Int32) : Prop := x = 0 ∨ x = 1
def wd_obj (w : wd_Wd) (c ci : Nat) : Bool := Nat.blt c w.1 && (match w.2.1 c with
  | .inr (.inr x) => Nat.beq x ci
  | _ => false)
def wd_pa (w : wd_Wd) (c : Nat) : Option (FieldType × Nat) := cond (Nat.blt c w.1) (match w.2.1 c with
  | .inl x => some x
  | _ => none) none
def wd_qa (w : wd_Wd) (c : Nat) : Option (List Nat) := cond (Nat.blt c w.1) (match w.2.1 c with
  | .inr (.inl x) => cond x.1.isReference (some x.2) none
  | _ => none) none
def wd_sw (x : Int32) (d : Prop) (K : Nat → Prop) : Nat → List Nat → Prop
  | _, [] => d
  | n, t :: r => (x = nI n → K t) ∧ (¬ x = nI n → wd_sw x d K (n + 1) r)
def wd_lw (x : Int32) (d : Prop) (K : Nat → Prop) : List (Nat × Nat) → Prop
  | [] => d
  | q :: r => (x = nI q.1 → K q.2) ∧ (¬ x = nI q.1 → wd_lw x d K r)
def wd_al (i : Int32) (K : Nat → Prop) : Nat → List Nat → Prop
  | _, [] => True
  | n, t :: r => (i = nI n → K t) ∧ wd_al i K (n + 1) r
def wd_a1 (as : List Nat) (f : Nat → Prop) : Prop := match as with
  | i :: _ => f i
  | [] => False
def wd_a2 (as : List Nat) (f : Nat → Nat → Prop) : Prop := match as with
  | i :: j :: _ => f i j
  | _ => False
def wd_a3 (as : List Nat) (f : Nat → Nat → List Nat → Prop) : Prop := match as with
  | d :: lo :: _ :: ts => f d lo ts
  | _ => False
def wd_a4 (as : List Nat) (f : Nat → List (Nat × Nat) → Prop) : Prop := match as with
  | d :: _ :: r => f d (wd_pr r)
  | _ => False
theorem wd_a1_of {as : List Nat} {f : Nat → Prop} (h : wd_a1 as f) : f (as.getD 0 0) := by
  cases as with
  | nil => exact h.elim
  | cons i r => exact h
theorem wd_a2_of {as : List Nat} {f : Nat → Nat → Prop} (h : wd_a2 as f) : f (as.getD 0 0) (as.getD 1 0) := by
  match as, h with
  | [], h => exact h.elim
  | [_], h => exact h.elim
  | i :: j :: r, h => exact h
theorem wd_a3_of {as : List Nat} {f : Nat → Nat → List Nat → Prop} (h : wd_a3 as f) : f (as.getD 0 0) (as.getD 1 0) (as.drop 3) := by
  match as, h with
  | [], h => exact h.elim
  | [_], h => exact h.elim
  | [_, _], h => exact h.elim
  | i :: j :: q :: r, h => exact h
theorem wd_a4_of {as : List Nat} {f : Nat → List (Nat × Nat) → Prop} (h : wd_a4 as f) : f (as.getD 0 0) (wd_pr (as.drop 2)) := by
  match as, h with
  | [], h => exact h.elim
  | [_], h => exact h.elim
  | i :: j :: r, h => exact h
/-- a list of locals, its spine in sight -/
def wd_fL : wd_L → (wd_L → Prop) → Prop
  | [], K => K []
  | none :: r, K => wd_fL r (fun r => K (none :: r))
  | some v :: r, K => wd_fL r (fun r => K (some v :: r))
theorem wd_fL_of : ∀ {l : wd_L} {K : wd_L → Prop}, wd_fL l K → K l
  | [], _, h => h
  | none :: r, K, h => wd_fL_of (l := r) (K := fun r => K (none :: r)) h
  | some v :: r, K, h => wd_fL_of (l := r) (K := fun r => K (some v :: r)) h
def wd_fvK (w : wd_Wd) (σ : wd_S) (τ : wd_T) (ci c k : Nat) (K : Value → Prop) : Prop := match w.2.2 c k with
  | some r => K (.ref r)
  | none => cond (wd_lg ci k) (K (.long (τ c k))) (K (.int (σ c k)))
theorem wd_fvK_of {w : wd_Wd} {σ : wd_S} {τ : wd_T} {ci c k : Nat} {K : Value → Prop} (h : wd_fvK w σ τ ci c k K) : K (wd_fv w σ τ ci c k) := by
  unfold wd_fvK at h
  unfold wd_fv
  cases hr : w.2.2 c k with
  | some r => rw [hr] at h; exact h
  | none =>
    rw [hr] at h
    cases hb : wd_lg ci k with
    | true => rw [hb] at h; exact h
    | false => rw [hb] at h; exact h
def wd_bin (st : List Value) (f : Int32 → Int32 → Int32) (K : List Value → Prop) : Prop := match st with
  | .int y :: .int x :: r => K (.int (f x y) :: r)
  | _ => False
def wd_binl (st : List Value) (f : Int64 → Int64 → Int64) (K : List Value → Prop) : Prop := match st with
  | .long y :: .long x :: r => K (.long (f x y) :: r)
  | _ => False
def wd_ld (l : wd_L) (i : Nat) (st : List Value) (K : List Value → Prop) : Prop := match wd_g l i with
  | some (.int x) => K (.int x :: st)
  | _ => False
def wd_ldl (l : wd_L) (i : Nat) (st : List Value) (K : List Value → Prop) : Prop := match wd_g l i with
  | some (.long x) => K (.long x :: st)
  | _ => False
def wd_lda (l : wd_L) (i : Nat) (st : List Value) (K : List Value → Prop) : Prop := match wd_g l i with
  | some (.ref x) => K (.ref x :: st)
  | _ => False
def wd_sti (l : wd_L) (i : Nat) (st : List Value) (K : wd_L → List Value → Prop) : Prop := match st with
  | .int x :: r => wd_fL (wd_s1 l i (.int x)) (fun l => K l r)
  | _ => False
def wd_stl (l : wd_L) (i : Nat) (st : List Value) (K : wd_L → List Value → Prop) : Prop := match st with
  | .long x :: r => wd_fL (wd_s2 l i (.long x)) (fun l => K l r)
  | _ => False
def wd_sta (l : wd_L) (i : Nat) (st : List Value) (K : wd_L → List Value → Prop) : Prop := match st with
  | .ref x :: r => wd_fL (wd_s1 l i (.ref x)) (fun l => K l r)
  | _ => False
def wd_un (st : List Value) (K : Int32 → List Value → Prop) : Prop := match st with
  | .int x :: r => K x r
  | _ => False
def wd_unl (st : List Value) (K : Int64 → List Value → Prop) : Prop := match st with
  | .long x :: r => K x r
  | _ => False
def wd_duo (st : List Value) (K : Int32 → Int32 → List Value → Prop) : Prop := match st with
  | .int y :: .int x :: r => K x y r
  | _ => False
def wd_get (w : wd_Wd) (ci k : Nat) (st : List Value) (σ : wd_S) (τ : wd_T) (K : List Value → Prop) : Prop := match st with
  | .ref c :: r => (match wd_obj w c ci with
    | true => wd_fvK w σ τ ci c k (fun v => K (v :: r))
    | false => False)
  | _ => False
def wd_put (w : wd_Wd) (ci k : Nat) (st : List Value) (σ : wd_S) (τ : wd_T) (K : List Value → wd_S → wd_T → Prop) : Prop := match st with
  | .int x :: .ref c :: r => (match wd_obj w c ci, w.2.2 c k, wd_lg ci k with
    | true, none, false => cond (wd_bo ci k) (wd_bit x ∧ K r (wd_uc σ c (upd (σ c) k x)) τ) (K r (wd_uc σ c (upd (σ c) k x)) τ)
    | _, _, _ => False)
  | .long x :: .ref c :: r => (match wd_obj w c ci, w.2.2 c k, wd_lg ci k with
    | true, none, true => K r σ (wd_uc τ c (vp_updL (τ c) k x))
    | _, _, _ => False)
  | _ => False
def wd_ia (w : wd_Wd) (st : List Value) (σ : wd_S) (K : List Value → Prop) : Prop := match st with
  | .int i :: .ref c :: r => (match wd_pa w c with
    | some (.int, n) => vp_in i n ∧ K (.int (σ c i.toNatClampNeg) :: r)
    | _ => False)
  | _ => False
def wd_ba (w : wd_Wd) (st : List Value) (σ : wd_S) (K : List Value → Prop) : Prop := match st with
  | .int i :: .ref c :: r => (match wd_pa w c with
    | some (.byte, n) => vp_in i n ∧ K (.int (σ c i.toNatClampNeg) :: r)
    | some (.boolean, n) => vp_in i n ∧ K (.int (σ c i.toNatClampNeg) :: r)
    | _ => False)
  | _ => False
def wd_is (w : wd_Wd) (st : List Value) (σ : wd_S) (K : List Value → wd_S → Prop) : Prop := match st with
  | .int x :: .int i :: .ref c :: r => (match wd_pa w c with
    | some (.int, n) => vp_in i n ∧ K r (wd_uc σ c (upd (σ c) i.toNatClampNeg x))
    | _ => False)
  | _ => False
def wd_bs (w : wd_Wd) (st : List Value) (σ : wd_S) (K : List Value → wd_S → Prop) : Prop := match st with
  | .int x :: .int i :: .ref c :: r => (match wd_pa w c with
    | some (.byte, n) => vp_in i n ∧ K r (wd_uc σ c (upd (σ c) i.toNatClampNeg (vp_nar .byte x)))
    | some (.boolean, n) => vp_in i n ∧ K r (wd_uc σ c (upd (σ c) i.toNatClampNeg (vp_nar .boolean x)))
    | _ => False)
  | _ => False
def wd_aa (w : wd_Wd) (st : List Value) (K : List Value → Prop) : Prop := match st with
  | .int i :: .ref c :: r => (match wd_qa w c with
    | some ids => vp_in i ids.length ∧ wd_al i (fun id => K (.ref id :: r)) 0 ids
    | _ => False)
  | _ => False
def wd_len_ (w : wd_Wd) (st : List Value) (K : List Value → Prop) : Prop := match st with
  | .ref c :: r => (match wd_pa w c with
    | some (_, n) => K (.int (nI n) :: r)
    | _ => False)
  | _ => False
def wd_sm (st : List Value) : Prop := (st.map fun v => v.category).sum ≤ 8
def wd_cp (w : wd_Wd) (st : List Value) (σ : wd_S) (K : List Value → wd_S → Prop) : Prop := match st with
  | .int n :: .int dp :: .ref c1 :: .int sp :: .ref c0 :: r => (match wd_pa w c0, wd_pa w c1 with
    | some (.int, n0), some (.int, n1) => wd_sm r ∧ ¬ sp < 0 ∧ ¬ dp < 0 ∧ ¬ n < 0 ∧ sp.toNatClampNeg + n.toNatClampNeg ≤ n0 ∧ dp.toNatClampNeg + n.toNatClampNeg ≤ n1 ∧ K r (wd_uc σ c1 (va_cpy (σ c0) (σ c1) sp.toNatClampNeg dp.toNatClampNeg n.toNatClampNeg))
    | _, _ => False)
  | _ => False
def wd_A1 (k nx : Nat) (as : List Nat) (v : Int32) (u : Int64) (K : wd_C) (lv : wd_L) (st : List Value) (σ : wd_S) (τ : wd_T) : Prop := match k with
  | 0 => K nx lv (.int v :: st) σ τ
  | 1 => K nx lv (.int v :: st) σ τ
  | 2 => K nx lv (.int v :: st) σ τ
  | 3 => K nx lv (.long u :: st) σ τ
  | 4 => K nx lv (.int v :: st) σ τ
  | 5 => K nx lv (.int v :: st) σ τ
  | 6 => K nx lv (.long u :: st) σ τ
  | 7 => wd_a2 as (fun _ j => K nx lv (.ref (1000 + j) :: st) σ τ)
  | 8 => wd_a1 as (fun i => wd_ld lv i st (fun st => K nx lv st σ τ))
  | 9 => wd_a1 as (fun i => wd_ld lv i st (fun st => K nx lv st σ τ))
  | 10 => wd_a1 as (fun i => wd_ldl lv i st (fun st => K nx lv st σ τ))
  | 11 => wd_a1 as (fun i => wd_ldl lv i st (fun st => K nx lv st σ τ))
  | 12 => wd_a1 as (fun i => wd_lda lv i st (fun st => K nx lv st σ τ))
  | 13 => wd_a1 as (fun i => wd_lda lv i st (fun st => K nx lv st σ τ))
  | _ => False
def wd_A2 (k nx : Nat) (as : List Nat) (v : Int32) (K : wd_C) (lv : wd_L) (st : List Value) (σ : wd_S) (τ : wd_T) : Prop := match k with
  | 14 => wd_a1 as (fun i => wd_sti lv i st (fun lv st => K nx lv st σ τ))
  | 15 => wd_a1 as (fun i => wd_sti lv i st (fun lv st => K nx lv st σ τ))
  | 16 => wd_a1 as (fun i => wd_stl lv i st (fun lv st => K nx lv st σ τ))
  | 17 => wd_a1 as (fun i => wd_stl lv i st (fun lv st => K nx lv st σ τ))
  | 18 => wd_a1 as (fun i => wd_sta lv i st (fun lv st => K nx lv st σ τ))
  | 19 => wd_a1 as (fun i => wd_sta lv i st (fun lv st => K nx lv st σ τ))
  | 20 => wd_a1 as (fun i => match wd_g lv i with
    | some (.int x) => wd_fL (wd_s1 lv i (.int (x + v))) (fun lv => K nx lv st σ τ)
    | _ => False)
  | 21 => wd_bin st (fun x y => x + y) (fun st => K nx lv st σ τ)
  | 22 => wd_bin st (fun x y => x - y) (fun st => K nx lv st σ τ)
  | 23 => wd_bin st (fun x y => x * y) (fun st => K nx lv st σ τ)
  | 24 => wd_bin st (fun x y => x &&& y) (fun st => K nx lv st σ τ)
  | 25 => wd_bin st (fun x y => x ||| y) (fun st => K nx lv st σ τ)
  | 26 => wd_bin st (fun x y => x <<< (y &&& 31)) (fun st => K nx lv st σ τ)
  | 27 => wd_bin st (fun x y => x >>> (y &&& 31)) (fun st => K nx lv st σ τ)
  | 28 => wd_bin st (fun x y => (x.toUInt32 >>> (y.toUInt32 &&& Int32.toUInt32 31)).toInt32) (fun st => K nx lv st σ τ)
  | 29 => wd_duo st (fun x y r => ¬ y = 0 ∧ K nx lv (.int (x / y) :: r) σ τ)
  | 30 => wd_duo st (fun x y r => ¬ y = 0 ∧ K nx lv (.int (x - x / y * y) :: r) σ τ)
  | _ => False
def wd_A3 (k nx : Nat) (K : wd_C) (lv : wd_L) (st : List Value) (σ : wd_S) (τ : wd_T) : Prop := match k with
  | 31 => wd_binl st (fun x y => x + y) (fun st => K nx lv st σ τ)
  | 32 => wd_binl st (fun x y => x * y) (fun st => K nx lv st σ τ)
  | 33 => wd_binl st (fun x y => x &&& y) (fun st => K nx lv st σ τ)
  | 34 => wd_binl st (fun x y => x ||| y) (fun st => K nx lv st σ τ)
  | 35 => (match st with
    | .int y :: .long x :: r => K nx lv (.long (x <<< (y.toInt64 &&& 63)) :: r) σ τ
    | _ => False)
  | 36 => (match st with
    | .int y :: .long x :: r => K nx lv (.long (x >>> (y.toInt64 &&& 63)) :: r) σ τ
    | _ => False)
  | 37 => (match st with
    | .long y :: .long x :: r => ¬ y = 0 ∧ K nx lv (.long (x / y) :: r) σ τ
    | _ => False)
  | 38 => (match st with
    | .long y :: .long x :: r => ¬ y = 0 ∧ K nx lv (.long (x - x / y * y) :: r) σ τ
    | _ => False)
  | 39 => (match st with
    | .long y :: .long x :: r => K nx lv (.int (lg_cmp x y) :: r) σ τ
    | _ => False)
  | 40 => wd_un st (fun x r => K nx lv (.long x.toInt64 :: r) σ τ)
  | 41 => wd_unl st (fun x r => K nx lv (.int x.toInt32 :: r) σ τ)
  | 42 => wd_un st (fun x r => K nx lv (.int x.toInt8.toInt32 :: r) σ τ)
  | 43 => wd_un st (fun x r => K nx lv (.int x.toInt16.toInt32 :: r) σ τ)
  | 44 => (match st with
    | .int x :: r => K nx lv (.int x :: .int x :: r) σ τ
    | .ref x :: r => K nx lv (.ref x :: .ref x :: r) σ τ
    | _ => False)
  | 45 => (match st with
    | .int x :: .int y :: r => K nx lv (.int x :: .int y :: .int x :: .int y :: r) σ τ
    | .int x :: .ref y :: r => K nx lv (.int x :: .ref y :: .int x :: .ref y :: r) σ τ
    | _ => False)
  | 46 => (match st with
    | .int _ :: r => K nx lv r σ τ
    | _ => False)
  | _ => False
def wd_A4 (k nx : Nat) (as : List Nat) (K : wd_C) (lv : wd_L) (st : List Value) (σ : wd_S) (τ : wd_T) : Prop := match k with
  | 47 => wd_a1 as (fun t => wd_un st (fun x r => (x = 0 → K t lv r σ τ) ∧ (¬ x = 0 → K nx lv r σ τ)))
  | 48 => wd_a1 as (fun t => wd_un st (fun x r => (¬ x = 0 → K t lv r σ τ) ∧ (x = 0 → K nx lv r σ τ)))
  | 49 => wd_a1 as (fun t => wd_un st (fun x r => (x < 0 → K t lv r σ τ) ∧ (¬ x < 0 → K nx lv r σ τ)))
  | 50 => wd_a1 as (fun t => wd_un st (fun x r => (0 ≤ x → K t lv r σ τ) ∧ (¬ 0 ≤ x → K nx lv r σ τ)))
  | 51 => wd_a1 as (fun t => wd_un st (fun x r => (0 < x → K t lv r σ τ) ∧ (¬ 0 < x → K nx lv r σ τ)))
  | 52 => wd_a1 as (fun t => wd_un st (fun x r => (x ≤ 0 → K t lv r σ τ) ∧ (¬ x ≤ 0 → K nx lv r σ τ)))
  | 53 => wd_a1 as (fun t => wd_duo st (fun x y r => (x = y → K t lv r σ τ) ∧ (¬ x = y → K nx lv r σ τ)))
  | 54 => wd_a1 as (fun t => wd_duo st (fun x y r => (¬ x = y → K t lv r σ τ) ∧ (x = y → K nx lv r σ τ)))
  | 55 => wd_a1 as (fun t => wd_duo st (fun x y r => (x < y → K t lv r σ τ) ∧ (¬ x < y → K nx lv r σ τ)))
  | 56 => wd_a1 as (fun t => wd_duo st (fun x y r => (y ≤ x → K t lv r σ τ) ∧ (¬ y ≤ x → K nx lv r σ τ)))
  | 57 => wd_a1 as (fun t => wd_duo st (fun x y r => (y < x → K t lv r σ τ) ∧ (¬ y < x → K nx lv r σ τ)))
  | 58 => wd_a1 as (fun t => wd_duo st (fun x y r => (x ≤ y → K t lv r σ τ) ∧ (¬ x ≤ y → K nx lv r σ τ)))
  | 59 => wd_a1 as (fun t => K t lv st σ τ)
  | 60 => wd_a3 as (fun d lo ts => wd_un st (fun x r => wd_sw x (K d lv r σ τ) (fun t => K t lv r σ τ) lo ts))
  | 61 => wd_a4 as (fun d ps => wd_un st (fun x r => wd_lw x (K d lv r σ τ) (fun t => K t lv r σ τ) ps))
  | _ => False
def wd_ret (ret : Option FieldType) (x : Int32) (q : Prop) : Prop := match ret with
  | some .int => q
  | some .boolean => wd_bit x ∧ q
  | _ => False
def wd_A5 (w : wd_Wd) (ret : Option FieldType) (k nx : Nat) (as : List Nat) (K : wd_C) (Q : wd_P) (lv : wd_L) (st : List Value) (σ : wd_S) (τ : wd_T) : Prop := match k with
  | 62 => (match st with
    | [.int x] => wd_ret ret x (Q (some (.int x)) σ τ)
    | _ => False)
  | 63 => (match st with
    | [.long x] => ret = some .long ∧ Q (some (.long x)) σ τ
    | _ => False)
  | 64 => (match st with
    | [] => ret = none ∧ Q none σ τ
    | _ => False)
  | 65 => wd_a2 as (fun ci k => wd_get w ci k st σ τ (fun st => K nx lv st σ τ))
  | 66 => wd_a2 as (fun ci k => wd_put w ci k st σ τ (fun st σ τ => K nx lv st σ τ))
  | 67 => wd_ia w st σ (fun st => K nx lv st σ τ)
  | 68 => wd_is w st σ (fun st σ => K nx lv st σ τ)
  | 69 => wd_ba w st σ (fun st => K nx lv st σ τ)
  | 70 => wd_bs w st σ (fun st σ => K nx lv st σ τ)
  | 71 => wd_aa w st (fun st => K nx lv st σ τ)
  | 72 => wd_len_ w st (fun st => K nx lv st σ τ)
  | 73 => wd_duo st (fun x y r => wd_sm r ∧ K nx lv (.int (if y < x then y else x) :: r) σ τ)
  | 74 => wd_duo st (fun x y r => wd_sm r ∧ K nx lv (.int (if x < y then y else x) :: r) σ τ)
  | 75 => wd_cp w st σ (fun st σ => K nx lv st σ τ)
  | _ => False
def wd_sem (w : wd_Wd) (ret : Option FieldType) (f : wd_Lf) (K : wd_C) (Q : wd_P) (lv : wd_L) (st : List Value) (σ : wd_S) (τ : wd_T) : Prop := match f with
  | (k, nx, as, v, u) => cond (Nat.ble k 13) (wd_A1 k nx as v u K lv st σ τ) (cond (Nat.ble k 46) (cond (Nat.ble k 30) (wd_A2 k nx as v K lv st σ τ) (wd_A3 k nx K lv st σ τ)) (cond (Nat.ble k 61) (wd_A4 k nx as K lv st σ τ) (wd_A5 w ret k nx as K Q lv st σ τ)))
/-- a stretch of at most n instructions: it stops ahead of the places S and of calls, with R -/
def wd_blk (w : wd_Wd) (M : wd_M) (S : List Nat) (Q : wd_P) (R : wd_C) : Nat → wd_C
  | 0, pc, lv, st, σ, τ => R pc lv st σ τ
  | n + 1, pc, lv, st, σ, τ => wd_sem w M.1.2.2.2 (M.2.2.2 pc) (fun pc lv st σ τ => cond (S.elem pc || Nat.ble 90 (M.2.2.2 pc).1) (R pc lv st σ τ) (wd_blk w M S Q R n pc lv st σ τ)) Q lv st σ τ
