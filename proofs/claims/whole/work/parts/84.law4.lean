/-! THE LAW: what is known at its entry -/
theorem lw_inst : ∀ ci, ci < 6 → Cond.instantiable (wd_cl ci).1 (wd_nf ci) ∈ wd_gw := fun ci h => by
  match ci, h with
  | 0, _ => exact wd_at_mem (p := 80) (by decide +kernel)
  | 1, _ => exact wd_at_mem (p := 252) (by decide +kernel)
  | 2, _ => exact wd_at_mem (p := 206) (by decide +kernel)
  | 3, _ => exact wd_at_mem (p := 165) (by decide +kernel)
  | 4, _ => exact wd_at_mem (p := 72) (by decide +kernel)
  | 5, _ => exact wd_at_mem (p := 764) (by decide +kernel)
  | k + 6, h => exact absurd h (by omega)
theorem lw_arr {args : Array Value} {s : State} (hts0 : ∀ w ∈ lw_tbl, w.before args s = true) : ∀ ty ∈ cbT, ∃ cA : ClassId, ArrOfT s cA ty ∧ va_RA s cA ty := fun ty hty => by
  have key : ∀ t : FieldType, (Cond.arrayClass t).before args s = true → ∃ cA : ClassId, ArrOfT s cA t ∧ s.vm.findClass ("[" ++ t.toString) = some cA := fun t h => by
    obtain ⟨c, k, comp, h1, h2, h3⟩ := Cond.arrayClass_spec h
    exact ⟨c, fun n z => ⟨fun k h => (by cases h), k, h2, comp, h3⟩, h1⟩
  simp only [cbT, List.mem_cons, List.not_mem_nil, or_false] at hty
  rcases hty with rfl | rfl | rfl | rfl | rfl
  · exact key .int (hts0 _ (List.mem_of_getElem? (i := 163) (by decide +kernel)))
  · exact key .byte (hts0 _ (List.mem_of_getElem? (i := 250) (by decide +kernel)))
  · exact key .boolean (hts0 _ (List.mem_of_getElem? (i := 298) (by decide +kernel)))
  · obtain ⟨comp, c, k, h1, h2, h3, h4, h5⟩ := Cond.arrayOver_spec (hts0 (.arrayOver (.object "WatchDogs$Pack")) (List.mem_of_getElem? (i := 275) (by decide +kernel)))
    exact ⟨c, fun n z => ⟨fun k h => (by cases h), k, h3, comp, h4⟩, k, comp, h3, h4, h1, h5⟩
  · obtain ⟨comp, c, k, h1, h2, h3, h4, h5⟩ := arrayOverA_spec (hts0 (.arrayOver (.array .int)) (List.mem_of_getElem? (i := 258) (by decide +kernel)))
    exact ⟨c, fun n z => ⟨fun k h => (by cases h), k, h3, comp, h4⟩, h5⟩
def lw_tm (i : Nat) : Term := .string "WatchDogs$Tape" (wd_six.getD i (0, "")).1
def lw_fv (i : Nat) : Term := .field (lw_tm i) "java/lang/String" "value" "[B"
def lw_fl : List Cond := flatC (Jvm.Cond.and given_1 narrow_1)
theorem lw_f1 : ∀ i : Nat, i < 6 → wd_len.getD i 0 < 2 ^ 31 := by decide
theorem lw_f2 : ∀ i : Nat, i < 6 → Cond.exactly (lw_tm i) "java/lang/String" ∈ lw_fl := by decide +kernel
theorem lw_f3 : ∀ i : Nat, i < 6 → Cond.eq (.field (lw_tm i) "java/lang/String" "coder" "B") (.int 0) ∈ lw_fl := by decide +kernel
theorem lw_f4 : ∀ i : Nat, i < 6 → Cond.arrayOf (lw_fv i) .byte ∈ lw_fl := by decide +kernel
theorem lw_f5 : ∀ i : Nat, i < 6 → Cond.eq (.length (lw_fv i)) (.int (Int32.ofNat (wd_len.getD i 0))) ∈ lw_fl := by decide +kernel
theorem lw_f6 : ∀ i : Nat, i < 6 → ∀ j : Nat, j < wd_len.getD i 0 → Cond.eq (.elem (lw_fv i) (.int (Int32.ofNat j))) (.int ((wd_byt.getD i []).getD j 0)) ∈ lw_fl := by decide +kernel
theorem lw_f7 : ∀ i : Nat, i < 6 → ∀ j : Nat, j < 6 → i ≠ j → Cond.not (Cond.eq (lw_tm i) (lw_tm j)) ∈ lw_fl ∨ Cond.not (Cond.eq (lw_tm j) (lw_tm i)) ∈ lw_fl := by decide +kernel
theorem lw_f8 : Cond.eq (.static "java/lang/String" "COMPACT_STRINGS" "Z") (.int 1) ∈ lw_fl := by decide +kernel
theorem lw_f9 : Cond.isRef (.static "jdk/internal/util/Preconditions" "SIOOBE_FORMATTER" "Ljava/util/function/BiFunction;") ∈ lw_fl := by decide +kernel
theorem lw_f10 : ∀ i : Nat, i < 6 → Cond.stringRef RX2 (wd_six.getD i (0, "")).1 (wd_six.getD i (0, "")).2 ∈ lw_tbl := fun i h => by
  match i, h with
  | 0, _ => exact List.mem_of_getElem? (i := 352) (by decide +kernel)
  | 1, _ => exact List.mem_of_getElem? (i := 418) (by decide +kernel)
  | 2, _ => exact List.mem_of_getElem? (i := 419) (by decide +kernel)
  | 3, _ => exact List.mem_of_getElem? (i := 420) (by decide +kernel)
  | 4, _ => exact List.mem_of_getElem? (i := 421) (by decide +kernel)
  | 5, _ => exact List.mem_of_getElem? (i := 430) (by decide +kernel)
  | k + 6, h => exact absurd h (by omega)
theorem lw_str {args : Array Value} {s : State} (D : va_G) (hts0 : ∀ w ∈ lw_tbl, w.before args s = true) (hgv : (Jvm.Cond.and given_1 narrow_1).before args s = true) : ∃ G0 : wd_G, wd_X G0 (fun q => s.heap.size ≤ q) s s.heap := by
  have hs : ∀ c ∈ lw_fl, c.before args s = true := flat_of_before _ hgv
  have hA : ∀ a : Nat, a < s.heap.size → ¬ (fun q => s.heap.size ≤ q) a := fun a h => Nat.not_le.mpr h
  obtain ⟨adK, adV, hk, he⟩ := vk_Sof (N := 6) (tm := lw_tm) (len := wd_len) (byt := wd_byt) lw_f1 (fun i hi => hs _ (lw_f2 i hi)) (fun i hi => hs _ (lw_f3 i hi)) (fun i hi => hs _ (lw_f4 i hi)) (fun i hi => hs _ (lw_f5 i hi)) (fun i hi j hj => hs _ (lw_f6 i hi j hj)) (fun i j hi hj hij => (lw_f7 i hi j hj hij).imp (hs _) (hs _)) hA
  refine ⟨(D, (fun c => if c < 1100 then adK (c - 1000) else adV (c - 1100)), fun _ => 0), ?_, fun i hi => ?_, ?_, ?_⟩
  · have e1 : ∀ i, i < 6 → (if 1000 + i < 1100 then adK (1000 + i - 1000) else adV (1000 + i - 1100)) = adK i := fun i hi => by
      rw [if_pos (by omega), show 1000 + i - 1000 = i by omega]
    have e2 : ∀ i, i < 6 → (if 1100 + i < 1100 then adK (1100 + i - 1000) else adV (1100 + i - 1100)) = adV i := fun i hi => by
      rw [if_neg (by omega), show 1100 + i - 1100 = i by omega]
    refine ⟨fun i hi => ?_, fun i j hi hj h => ?_⟩
    · show va_O "java/lang/String" (if 1000 + i < 1100 then adK (1000 + i - 1000) else adV (1000 + i - 1100)) _ _ _ ∧ va_OF _ _ _ _ (if 1000 + i < 1100 then adK (1000 + i - 1000) else adV (1000 + i - 1100)) _ _ _ ∧ va_OF _ _ _ (.ref (if 1100 + i < 1100 then adK (1100 + i - 1000) else adV (1100 + i - 1100))) (if 1000 + i < 1100 then adK (1000 + i - 1000) else adV (1000 + i - 1100)) _ _ _ ∧ va_T _ (if 1100 + i < 1100 then adK (1100 + i - 1000) else adV (1100 + i - 1100)) _ _ _ _ _
      rw [e1 i hi, e2 i hi]
      exact hk.1 i hi
    · have h' : (if 1000 + i < 1100 then adK (1000 + i - 1000) else adV (1000 + i - 1100)) = (if 1000 + j < 1100 then adK (1000 + j - 1000) else adV (1000 + j - 1100)) := h
      rw [e1 i hi, e1 j hj] at h'
      exact hk.2 i j hi hj h'
  · show vk_R RX2 _ _ (if 1000 + i < 1100 then adK (1000 + i - 1000) else adV (1000 + i - 1100)) s
    rw [if_pos (by omega), show 1000 + i - 1000 = i by omega]
    exact vk_R.of (hts0 _ (lw_f10 i hi)) (he i hi)
  · exact va_Zof (hts0 _ (List.mem_of_getElem? (i := 366) (by decide +kernel))) (hts0 _ (List.mem_of_getElem? (i := 64) (by decide +kernel))) (va_eqt (hs _ lw_f8)) hA
  · exact va_Zqof (hts0 _ (List.mem_of_getElem? (i := 382) (by decide +kernel))) (hts0 _ (List.mem_of_getElem? (i := 66) (by decide +kernel))) (hs _ lw_f9) hA
theorem lw_cbK {args : Array Value} {s : State} (hts0 : ∀ w ∈ lw_tbl, w.before args s = true) (hgv : (Jvm.Cond.and given_1 narrow_1).before args s = true) : ∃ (D : va_G) (cs : FieldType → ClassId) (G0 : wd_G), cbK D cs G0 s.heap.size s := by
  have hts : ∀ w ∈ wd_gw, w.before args s = true := fun w hw => hts0 w (List.mem_filter.mp hw).1
  have h1 : ∀ ci : Nat, ∃ x : ClassId × (Nat → Nat), ci < 6 → u_Kn s (wd_cl ci).1 (wd_cl ci).2.1 (wd_cl ci).2.2 x.1 x.2 := fun ci => by
    by_cases h : ci < 6
    · obtain ⟨cC, iS, hk⟩ := u_known (ws := wd_gw) (n := wd_nf ci) hts (wd_in h) (hts _ (lw_inst ci h))
      exact ⟨(cC, iS), fun _ => hk⟩
    · exact ⟨(0, fun _ => 0), fun z => absurd z h⟩
  have h2 : ∀ ty : FieldType, ∃ cA : ClassId, ty ∈ cbT → ArrOfT s cA ty ∧ va_RA s cA ty := fun ty => by
    by_cases h : ty ∈ cbT
    · obtain ⟨cA, h3⟩ := lw_arr hts0 ty h
      exact ⟨cA, fun _ => h3⟩
    · exact ⟨0, fun z => absurd z h⟩
  obtain ⟨f, hf⟩ := Classical.axiomOfChoice h1
  obtain ⟨cs, hcs⟩ := Classical.axiomOfChoice h2
  obtain ⟨G0, hX⟩ := lw_str (fun ci => (f ci).1, fun ci => (f ci).2) hts0 hgv
  refine ⟨(fun ci => (f ci).1, fun ci => (f ci).2), cs, G0, ⟨fun k q hq => ?_, fun k q hq => ?_⟩, fun n hn => ?_, hX, va_AO.of (hts0 _ (List.mem_of_getElem? (i := 275) (by decide +kernel))), hts0 (.arrayOver (.array .int)) (List.mem_of_getElem? (i := 258) (by decide +kernel))⟩
  · have h6 : k < 6 := (List.getElem?_eq_some_iff.mp hq).1
    rw [wd_cl_at h6] at hq
    cases hq
    exact hf k h6
  · rw [cbY, List.getElem?_map] at hq
    obtain ⟨ty, h3, h4⟩ := Option.map_eq_some_iff.mp hq
    cases h4
    exact hcs ty (List.mem_of_getElem? h3)
  · have hm := (List.mem_filter.mp hn).1
    obtain ⟨a, i, x, b, rfl⟩ := wd_nest_is hn
    exact va_Nw.of rfl (hts0 _ hm)
