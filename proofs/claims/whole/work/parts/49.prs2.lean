/-! THE TEXT: which line it is, of the reference -/
def isB (b : Nat → Nat) (p q n x y z : Nat) : Bool := decide (q = p + n) && (decide (b p = x) && (decide (b (p + 1) = y) && decide (b (p + 2) = z)))
def enB (b : Nat → Nat) (p x y z : Nat) : Bool := decide (b (p + 3) = x) && ((decide (y = 0) || decide (b (p + 4) = y)) && (decide (z = 0) || decide (b (p + 5) = z)))
theorem ln_1 {b : Nat → Nat} {p q : Nat} : lnB b p q [112, 108, 97, 105, 110] = (isB b p q 5 112 108 97 && enB b p 105 110 0) := by
  simp [lnB, wdB, isB, enB, Bool.and_assoc]
theorem ln_2 {b : Nat → Nat} {p q : Nat} : lnB b p q [119, 105, 110, 100, 111, 119] = (isB b p q 6 119 105 110 && enB b p 100 111 119) := by
  simp [lnB, wdB, isB, enB, Bool.and_assoc]
theorem ln_3 {b : Nat → Nat} {p q : Nat} : lnB b p q [116, 119, 105, 99, 101] = (isB b p q 5 116 119 105 && enB b p 99 101 0) := by
  simp [lnB, wdB, isB, enB, Bool.and_assoc]
theorem ln_4 {b : Nat → Nat} {p q : Nat} : lnB b p q [104, 97, 108, 102] = (isB b p q 4 104 97 108 && enB b p 102 0 0) := by
  simp [lnB, wdB, isB, enB, Bool.and_assoc]
theorem ln_5 {b : Nat → Nat} {p q : Nat} : lnB b p q [115, 105, 103, 110, 115] = (isB b p q 5 115 105 103 && enB b p 110 115 0) := by
  simp [lnB, wdB, isB, enB, Bool.and_assoc]
theorem ln_6 {b : Nat → Nat} {p q : Nat} : lnB b p q [106, 97, 109] = isB b p q 3 106 97 109 := by
  simp [lnB, wdB, isB, Bool.and_assoc]
section R
variable {G : wd_G} {τ : wd_T} {Q : wd_P} {σ : wd_S} {b : Nat → Nat} {L : Nat}
theorem s_R_endsIn {p x y z : Nat} (ht : tpR σ b L) (hp : σ 0 8 = nI p) (h3 : p + 3 < L) (h4 : y ≠ 0 → p + 4 < L) (h5 : z ≠ 0 → p + 5 < L) (hx : x < 128) (hy : y < 128) (hz : z < 128) (h : Q (some (.int (bI (enB b p x y z)))) σ τ) : Run wR G M_R_endsIn 0 [some (.ref 0), some (.int (nI x)), some (.int (nI y)), some (.int (nI z))] [] σ τ Q := by
  have hL := ht.2.1
  rw [enB] at h
  have b3 := (ht.2.2 (p + 3) h3).2
  have tail : (decide (b (p + 3) = x) && (decide (y = 0) || decide (b (p + 4) = y))) = true → Run wR G M_R_endsIn 32 [some (.ref 0), some (.int (nI x)), some (.int (nI y)), some (.int (nI z))] [] σ τ Q := by
    intro e
    rw [← Bool.and_assoc, e, Bool.true_and] at h
    refine wd_go ok_R_endsIn [] 20 (fun R hR => ?_)
    conv => whnf
    try dsimp only
    by_cases ez : z = 0
    · rw [decide_eq_true ez, Bool.true_or] at h
      refine br_t (by rw [ez]; rfl) ?_
      conv => whnf
      try dsimp only
      exact ⟨Or.inr rfl, h⟩
    · rw [decide_eq_false ez, Bool.false_or] at h
      refine br_f (nI_ne0 (by omega) (by omega)) ?_
      conv => whnf
      try dsimp only
      rw [hp, il5, nI_add]
      refine hR (k_R_endsIn_43 (Nat.le_of_ble_eq_true rfl) rfl (s_R_byteAt ht (by omega) ?_))
      rw [show btA b L (p + 5) = nI (b (p + 5)) from if_pos (h5 ez)]
      have b5 := (ht.2.2 (p + 5) (h5 ez)).2
      refine wd_go ok_R_endsIn [] 20 (fun R hR => ?_)
      conv => whnf
      try dsimp only
      by_cases e5 : b (p + 5) = z
      · rw [decide_eq_true e5] at h
        refine nb_f ((nI_eq (by omega) (by omega)).mpr e5) ?_
        conv => whnf
        try dsimp only
        exact ⟨Or.inr rfl, h⟩
      · rw [decide_eq_false e5] at h
        refine nb_t (fun w => e5 ((nI_eq (by omega) (by omega)).mp w)) ?_
        conv => whnf
        try dsimp only
        exact ⟨Or.inl rfl, h⟩
  refine wd_go ok_R_endsIn [32] 20 (fun R hR => ?_)
  conv => whnf
  try dsimp only
  rw [hp, il3, nI_add]
  refine hR (k_R_endsIn_7 (Nat.le_of_ble_eq_true rfl) rfl (s_R_byteAt ht (by omega) ?_))
  rw [show btA b L (p + 3) = nI (b (p + 3)) from if_pos h3]
  refine wd_go ok_R_endsIn [32] 20 (fun R hR => ?_)
  conv => whnf
  try dsimp only
  by_cases e3 : b (p + 3) = x
  · refine nb_f ((nI_eq (by omega) (by omega)).mpr e3) ?_
    conv => whnf
    try dsimp only
    by_cases ey : y = 0
    · refine br_t (by rw [ey]; rfl) ?_
      conv => whnf
      try dsimp only
      exact hR (tail (by rw [decide_eq_true e3, decide_eq_true ey]; rfl))
    · refine br_f (nI_ne0 (by omega) (by omega)) ?_
      conv => whnf
      try dsimp only
      rw [hp, il4, nI_add]
      refine hR (k_R_endsIn_25 (Nat.le_of_ble_eq_true rfl) rfl (s_R_byteAt ht (by omega) ?_))
      rw [show btA b L (p + 4) = nI (b (p + 4)) from if_pos (h4 ey)]
      have b4 := (ht.2.2 (p + 4) (h4 ey)).2
      refine wd_go ok_R_endsIn [32] 20 (fun R hR => ?_)
      conv => whnf
      try dsimp only
      by_cases e4 : b (p + 4) = y
      · refine nb_f ((nI_eq (by omega) (by omega)).mpr e4) ?_
        conv => whnf
        try dsimp only
        exact hR (tail (by rw [decide_eq_true e3, decide_eq_true e4, Bool.or_true]; rfl))
      · refine nb_t (fun w => e4 ((nI_eq (by omega) (by omega)).mp w)) ?_
        rw [decide_eq_false ey, decide_eq_false e4, Bool.false_or, Bool.false_and, Bool.and_false] at h
        conv => whnf
        try dsimp only
        exact ⟨Or.inl rfl, h⟩
  · rw [decide_eq_false e3, Bool.false_and] at h
    refine nb_t (fun w => e3 ((nI_eq (by omega) (by omega)).mp w)) ?_
    conv => whnf
    try dsimp only
    exact ⟨Or.inl rfl, h⟩
theorem is_q {b : Nat → Nat} {p q n x y z : Nat} (h : isB b p q n x y z = true) : q = p + n := by
  rw [isB, Bool.and_eq_true] at h
  exact of_decide_eq_true h.1
theorem s_R_lineNow {p q : Nat} (ht : tpR σ b L) (hp : σ 0 8 = nI p) (hq : σ 0 7 = nI q) (hpq : p ≤ q) (hqL : q ≤ L) (h : Q (some (.int (lnK b p q))) σ τ) : Run wR G M_R_lineNow 0 [some (.ref 0)] [] σ τ Q := by
  rw [lnK, ln_1, ln_2, ln_3, ln_4, ln_5, ln_6] at h
  have is := fun {Q : wd_P} {n x y z : Nat} (hn : n < 100) (hn3 : 3 ≤ n) (hx : x < 128) (hy : y < 128) (hz : z < 128) (h : Q (some (.int (bI (isB b p q n x y z)))) σ τ) => s_R_is (G := G) ht hp hq hpq hqL hn hn3 hx hy hz h
  have r143 : Q (some (.int (if isB b p q 3 106 97 109 = true then 5 else -4))) σ τ → Run wR G M_R_lineNow 143 [some (.ref 0)] [] σ τ Q := by
    intro h
    refine wd_go ok_R_lineNow [] 20 (fun R hR => ?_)
    conv => whnf
    try dsimp only
    refine hR (k_R_lineNow_151 (Nat.le_of_ble_eq_true rfl) rfl (is (n := 3) (x := 106) (y := 97) (z := 109) (by decide) (by decide) (by decide) (by decide) (by decide) ?_))
    cases e : isB b p q 3 106 97 109 with
    | false =>
      rw [e, if_neg (by decide)] at h
      refine wd_go ok_R_lineNow [] 20 (fun R hR => ?_)
      conv => whnf
      try dsimp only
      refine br_t rfl ?_
      conv => whnf
      try dsimp only
      exact h
    | true =>
      rw [e, if_pos rfl] at h
      refine wd_go ok_R_lineNow [] 20 (fun R hR => ?_)
      conv => whnf
      try dsimp only
      refine br_f (by decide) ?_
      conv => whnf
      try dsimp only
      exact h
  have r113 : Q (some (.int (if (isB b p q 5 115 105 103 && enB b p 110 115 0) = true then 4 else if isB b p q 3 106 97 109 = true then 5 else -4))) σ τ → Run wR G M_R_lineNow 113 [some (.ref 0)] [] σ τ Q := by
    intro h
    refine wd_go ok_R_lineNow [143] 20 (fun R hR => ?_)
    conv => whnf
    try dsimp only
    refine hR (k_R_lineNow_121 (Nat.le_of_ble_eq_true rfl) rfl (is (n := 5) (x := 115) (y := 105) (z := 103) (by decide) (by decide) (by decide) (by decide) (by decide) ?_))
    cases e : isB b p q 5 115 105 103 with
    | false =>
      rw [e, Bool.false_and, if_neg (by decide)] at h
      refine wd_go ok_R_lineNow [143] 20 (fun R hR => ?_)
      conv => whnf
      try dsimp only
      refine br_t rfl ?_
      conv => whnf
      try dsimp only
      exact hR (r143 h)
    | true =>
      have hqq := is_q e
      rw [e, Bool.true_and] at h
      refine wd_go ok_R_lineNow [143] 20 (fun R hR => ?_)
      conv => whnf
      try dsimp only
      refine br_f (by decide) ?_
      conv => whnf
      try dsimp only
      refine hR (k_R_lineNow_133 (Nat.le_of_ble_eq_true rfl) rfl (s_R_endsIn (x := 110) (y := 115) (z := 0) ht hp (by omega) (by omega) (by omega) (by decide) (by decide) (by decide) ?_))
      cases e2 : enB b p 110 115 0 with
      | false =>
        rw [e2, if_neg (by decide)] at h
        refine wd_go ok_R_lineNow [143] 20 (fun R hR => ?_)
        conv => whnf
        try dsimp only
        refine br_t rfl ?_
        conv => whnf
        try dsimp only
        exact hR (r143 h)
      | true =>
        rw [e2, if_pos rfl] at h
        refine wd_go ok_R_lineNow [143] 20 (fun R hR => ?_)
        conv => whnf
        try dsimp only
        refine br_f (by decide) ?_
        conv => whnf
        try dsimp only
        exact h
  have r86 : Q (some (.int (if (isB b p q 4 104 97 108 && enB b p 102 0 0) = true then 3 else if (isB b p q 5 115 105 103 && enB b p 110 115 0) = true then 4 else if isB b p q 3 106 97 109 = true then 5 else -4))) σ τ → Run wR G M_R_lineNow 86 [some (.ref 0)] [] σ τ Q := by
    intro h
    refine wd_go ok_R_lineNow [113] 20 (fun R hR => ?_)
    conv => whnf
    try dsimp only
    refine hR (k_R_lineNow_94 (Nat.le_of_ble_eq_true rfl) rfl (is (n := 4) (x := 104) (y := 97) (z := 108) (by decide) (by decide) (by decide) (by decide) (by decide) ?_))
    cases e : isB b p q 4 104 97 108 with
    | false =>
      rw [e, Bool.false_and, if_neg (by decide)] at h
      refine wd_go ok_R_lineNow [113] 20 (fun R hR => ?_)
      conv => whnf
      try dsimp only
      refine br_t rfl ?_
      conv => whnf
      try dsimp only
      exact hR (r113 h)
    | true =>
      have hqq := is_q e
      rw [e, Bool.true_and] at h
      refine wd_go ok_R_lineNow [113] 20 (fun R hR => ?_)
      conv => whnf
      try dsimp only
      refine br_f (by decide) ?_
      conv => whnf
      try dsimp only
      refine hR (k_R_lineNow_105 (Nat.le_of_ble_eq_true rfl) rfl (s_R_endsIn (x := 102) (y := 0) (z := 0) ht hp (by omega) (by omega) (by omega) (by decide) (by decide) (by decide) ?_))
      cases e2 : enB b p 102 0 0 with
      | false =>
        rw [e2, if_neg (by decide)] at h
        refine wd_go ok_R_lineNow [113] 20 (fun R hR => ?_)
        conv => whnf
        try dsimp only
        refine br_t rfl ?_
        conv => whnf
        try dsimp only
        exact hR (r113 h)
      | true =>
        rw [e2, if_pos rfl] at h
        refine wd_go ok_R_lineNow [113] 20 (fun R hR => ?_)
        conv => whnf
        try dsimp only
        refine br_f (by decide) ?_
        conv => whnf
        try dsimp only
        exact h
  have r58 : Q (some (.int (if (isB b p q 5 116 119 105 && enB b p 99 101 0) = true then 2 else if (isB b p q 4 104 97 108 && enB b p 102 0 0) = true then 3 else if (isB b p q 5 115 105 103 && enB b p 110 115 0) = true then 4 else if isB b p q 3 106 97 109 = true then 5 else -4))) σ τ → Run wR G M_R_lineNow 58 [some (.ref 0)] [] σ τ Q := by
    intro h
    refine wd_go ok_R_lineNow [86] 20 (fun R hR => ?_)
    conv => whnf
    try dsimp only
    refine hR (k_R_lineNow_66 (Nat.le_of_ble_eq_true rfl) rfl (is (n := 5) (x := 116) (y := 119) (z := 105) (by decide) (by decide) (by decide) (by decide) (by decide) ?_))
    cases e : isB b p q 5 116 119 105 with
    | false =>
      rw [e, Bool.false_and, if_neg (by decide)] at h
      refine wd_go ok_R_lineNow [86] 20 (fun R hR => ?_)
      conv => whnf
      try dsimp only
      refine br_t rfl ?_
      conv => whnf
      try dsimp only
      exact hR (r86 h)
    | true =>
      have hqq := is_q e
      rw [e, Bool.true_and] at h
      refine wd_go ok_R_lineNow [86] 20 (fun R hR => ?_)
      conv => whnf
      try dsimp only
      refine br_f (by decide) ?_
      conv => whnf
      try dsimp only
      refine hR (k_R_lineNow_78 (Nat.le_of_ble_eq_true rfl) rfl (s_R_endsIn (x := 99) (y := 101) (z := 0) ht hp (by omega) (by omega) (by omega) (by decide) (by decide) (by decide) ?_))
      cases e2 : enB b p 99 101 0 with
      | false =>
        rw [e2, if_neg (by decide)] at h
        refine wd_go ok_R_lineNow [86] 20 (fun R hR => ?_)
        conv => whnf
        try dsimp only
        refine br_t rfl ?_
        conv => whnf
        try dsimp only
        exact hR (r86 h)
      | true =>
        rw [e2, if_pos rfl] at h
        refine wd_go ok_R_lineNow [86] 20 (fun R hR => ?_)
        conv => whnf
        try dsimp only
        refine br_f (by decide) ?_
        conv => whnf
        try dsimp only
        exact h
  have r28 : Q (some (.int (if (isB b p q 6 119 105 110 && enB b p 100 111 119) = true then 1 else if (isB b p q 5 116 119 105 && enB b p 99 101 0) = true then 2 else if (isB b p q 4 104 97 108 && enB b p 102 0 0) = true then 3 else if (isB b p q 5 115 105 103 && enB b p 110 115 0) = true then 4 else if isB b p q 3 106 97 109 = true then 5 else -4))) σ τ → Run wR G M_R_lineNow 28 [some (.ref 0)] [] σ τ Q := by
    intro h
    refine wd_go ok_R_lineNow [58] 20 (fun R hR => ?_)
    conv => whnf
    try dsimp only
    refine hR (k_R_lineNow_37 (Nat.le_of_ble_eq_true rfl) rfl (is (n := 6) (x := 119) (y := 105) (z := 110) (by decide) (by decide) (by decide) (by decide) (by decide) ?_))
    cases e : isB b p q 6 119 105 110 with
    | false =>
      rw [e, Bool.false_and, if_neg (by decide)] at h
      refine wd_go ok_R_lineNow [58] 20 (fun R hR => ?_)
      conv => whnf
      try dsimp only
      refine br_t rfl ?_
      conv => whnf
      try dsimp only
      exact hR (r58 h)
    | true =>
      have hqq := is_q e
      rw [e, Bool.true_and] at h
      refine wd_go ok_R_lineNow [58] 20 (fun R hR => ?_)
      conv => whnf
      try dsimp only
      refine br_f (by decide) ?_
      conv => whnf
      try dsimp only
      refine hR (k_R_lineNow_50 (Nat.le_of_ble_eq_true rfl) rfl (s_R_endsIn (x := 100) (y := 111) (z := 119) ht hp (by omega) (by omega) (by omega) (by decide) (by decide) (by decide) ?_))
      cases e2 : enB b p 100 111 119 with
      | false =>
        rw [e2, if_neg (by decide)] at h
        refine wd_go ok_R_lineNow [58] 20 (fun R hR => ?_)
        conv => whnf
        try dsimp only
        refine br_t rfl ?_
        conv => whnf
        try dsimp only
        exact hR (r58 h)
      | true =>
        rw [e2, if_pos rfl] at h
        refine wd_go ok_R_lineNow [58] 20 (fun R hR => ?_)
        conv => whnf
        try dsimp only
        refine br_f (by decide) ?_
        conv => whnf
        try dsimp only
        exact h
  have r0 : Q (some (.int (if (isB b p q 5 112 108 97 && enB b p 105 110 0) = true then 0 else if (isB b p q 6 119 105 110 && enB b p 100 111 119) = true then 1 else if (isB b p q 5 116 119 105 && enB b p 99 101 0) = true then 2 else if (isB b p q 4 104 97 108 && enB b p 102 0 0) = true then 3 else if (isB b p q 5 115 105 103 && enB b p 110 115 0) = true then 4 else if isB b p q 3 106 97 109 = true then 5 else -4))) σ τ → Run wR G M_R_lineNow 0 [some (.ref 0)] [] σ τ Q := by
    intro h
    refine wd_go ok_R_lineNow [28] 20 (fun R hR => ?_)
    conv => whnf
    try dsimp only
    refine hR (k_R_lineNow_8 (Nat.le_of_ble_eq_true rfl) rfl (is (n := 5) (x := 112) (y := 108) (z := 97) (by decide) (by decide) (by decide) (by decide) (by decide) ?_))
    cases e : isB b p q 5 112 108 97 with
    | false =>
      rw [e, Bool.false_and, if_neg (by decide)] at h
      refine wd_go ok_R_lineNow [28] 20 (fun R hR => ?_)
      conv => whnf
      try dsimp only
      refine br_t rfl ?_
      conv => whnf
      try dsimp only
      exact hR (r28 h)
    | true =>
      have hqq := is_q e
      rw [e, Bool.true_and] at h
      refine wd_go ok_R_lineNow [28] 20 (fun R hR => ?_)
      conv => whnf
      try dsimp only
      refine br_f (by decide) ?_
      conv => whnf
      try dsimp only
      refine hR (k_R_lineNow_20 (Nat.le_of_ble_eq_true rfl) rfl (s_R_endsIn (x := 105) (y := 110) (z := 0) ht hp (by omega) (by omega) (by omega) (by decide) (by decide) (by decide) ?_))
      cases e2 : enB b p 105 110 0 with
      | false =>
        rw [e2, if_neg (by decide)] at h
        refine wd_go ok_R_lineNow [28] 20 (fun R hR => ?_)
        conv => whnf
        try dsimp only
        refine br_t rfl ?_
        conv => whnf
        try dsimp only
        exact hR (r28 h)
      | true =>
        rw [e2, if_pos rfl] at h
        refine wd_go ok_R_lineNow [28] 20 (fun R hR => ?_)
        conv => whnf
        try dsimp only
        refine br_f (by decide) ?_
        conv => whnf
        try dsimp only
        exact h
  exact r0 h
end R
