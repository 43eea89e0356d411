/-! THE TEXT: tokens -/
def skA (f : Nat → Bool) : Nat → Nat → Nat
  | 0, p => p
  | m + 1, p => if f p = true then skA f m (p + 1) else p
theorem sk_le (f : Nat → Bool) : ∀ m p, p ≤ skA f m p ∧ skA f m p ≤ p + m
  | 0, p => ⟨Nat.le_refl p, Nat.le_refl p⟩
  | m + 1, p => by
    have := sk_le f m (p + 1)
    rw [skA]
    split
    · omega
    · omega
def isLt (c : Nat) : Bool := decide (97 ≤ c ∧ c ≤ 122)
def isFg (c : Nat) : Bool := decide (48 ≤ c ∧ c ≤ 57)
def vlA (b : Nat → Nat) (p : Nat) : Nat → Int32
  | 0 => 0
  | k + 1 => vlA b p k * 10 + nI (b (p + k)) - 48
/-- begun, sort, pos, value, good -/
def tokS (b : Nat → Nat) (L s : Nat) : Nat × Nat × Int32 × Bool := if s = L then (0, s, 0, true) else if isLt (b s) = true then (1, skA (fun i => isLt (b i)) (L - s) s, 0, true) else if isFg (b s) = true then (2, skA (fun i => isFg (b i)) (L - s) s, vlA b s (skA (fun i => isFg (b i)) (L - s) s - s), decide (skA (fun i => isFg (b i)) (L - s) s ≤ s + 2)) else (3, s + 1, 0, decide (b s = 59))
def spS (b : Nat → Nat) (L p : Nat) : Nat := skA (fun i => decide (b i = 32)) (L - p) p
/-- what the reference holds behind a token -/
def tokR (σ : wd_S) (b : Nat → Nat) (L p : Nat) (σ' : wd_S) : Prop := (∀ c, c ≠ 0 → σ' c = σ c) ∧ (∀ k, (k < 7 ∨ 12 < k) → σ' 0 k = σ 0 k) ∧ σ' 0 8 = nI (spS b L p) ∧ ((tokS b L (spS b L p)).2.2.2 = true → σ' 0 9 = nI (tokS b L (spS b L p)).1 ∧ σ' 0 7 = nI (tokS b L (spS b L p)).2.1 ∧ ((tokS b L (spS b L p)).1 = 2 → σ' 0 10 = (tokS b L (spS b L p)).2.2.1) ∧ σ' 0 11 = 0) ∧ ((tokS b L (spS b L p)).2.2.2 = false → σ' 0 11 = 1 ∧ σ' 0 12 = nI (spS b L p))
section R
variable {G : wd_G} {τ : wd_T} {Q : wd_P} {b : Nat → Nat} {L : Nat}
theorem tpR.u0 {σ : wd_S} {f : wRow} (h : tpR σ b L) (hf : f 6 = σ 0 6) : tpR (wd_uc σ 0 f) b L := ⟨(show f 6 = nI L from hf.trans h.1), h.2.1, h.2.2⟩
theorem l_R_spaces {σ0 : wd_S} {e : Nat} (ht : tpR σ0 b L) (h : Run wR G M_R_reads 34 [some (.ref 0), none] [] (wd_uc σ0 0 (upd (σ0 0) 7 (nI e))) τ Q) : ∀ (m p : Nat), L = p + m → skA (fun i => decide (b i = 32)) m p = e → Run wR G M_R_reads 8 [some (.ref 0), none] [] (wd_uc σ0 0 (upd (σ0 0) 7 (nI p))) τ Q := by
  have hL := ht.2.1
  intro m
  induction m with
  | zero =>
    intro p hp hs
    rw [skA] at hs
    subst hs
    refine wd_go ok_R_reads [8, 34] 20 (fun R hR => ?_)
    conv => whnf
    try dsimp only
    rw [uc_s, upd_s]
    refine hR (k_R_reads_13 (Nat.le_of_ble_eq_true rfl) rfl (s_R_byteAt (ht.u0 (upd_n (by decide))) (by omega) ?_))
    rw [show btA b L p = -1 from if_neg (by omega)]
    refine wd_go ok_R_reads [8, 34] 20 (fun R hR => ?_)
    conv => whnf
    try dsimp only
    refine nb_t (by decide) ?_
    conv => whnf
    try dsimp only
    exact hR h
  | succ m ih =>
    intro p hp hs
    rw [skA] at hs
    have bp := (ht.2.2 p (by omega)).2
    refine wd_go ok_R_reads [8, 34] 20 (fun R hR => ?_)
    conv => whnf
    try dsimp only
    rw [uc_s, upd_s]
    refine hR (k_R_reads_13 (Nat.le_of_ble_eq_true rfl) rfl (s_R_byteAt (ht.u0 (upd_n (by decide))) (by omega) ?_))
    rw [show btA b L p = nI (b p) from if_pos (by omega)]
    refine wd_go ok_R_reads [8, 34] 20 (fun R hR => ?_)
    conv => whnf
    try dsimp only
    by_cases hz : b p = 32
    · rw [if_pos (decide_eq_true hz)] at hs
      refine nb_f (by rw [hz]; rfl) ?_
      conv => whnf
      try dsimp only
      rw [uc_s, upd_s, uc_uc, upd_upd]
      refine hR ?_
      have := ih (p + 1) (by omega) hs
      rw [nI_succ] at this
      exact this
    · rw [if_neg (by rw [decide_eq_false hz]; decide)] at hs
      subst hs
      refine nb_t (fun z => hz ((nI_eq (b := 32) (by omega) (by decide)).mp z)) ?_
      conv => whnf
      try dsimp only
      exact hR h
theorem in_lt {c : Nat} (hc : c < 128) : inB (nI c) 97 122 = isLt c := co_dec (N := 128) (P := fun c => inB (nI c) 97 122 = isLt c) (by decide +kernel) hc
theorem in_fg {c : Nat} (hc : c < 128) : inB (nI c) 48 57 = isFg c := co_dec (N := 128) (P := fun c => inB (nI c) 48 57 = isFg c) (by decide +kernel) hc
theorem l_R_letters {σ0 : wd_S} {e : Nat} {x : Int32} (ht : tpR σ0 b L) (h : Q none (wd_uc σ0 0 (upd (σ0 0) 7 (nI e))) τ) : ∀ (m p : Nat), L = p + m → skA (fun i => isLt (b i)) m p = e → Run wR G M_R_reads 82 [some (.ref 0), some (.int x)] [] (wd_uc σ0 0 (upd (σ0 0) 7 (nI p))) τ Q := by
  have hL := ht.2.1
  intro m
  induction m with
  | zero =>
    intro p hp hs
    rw [skA] at hs
    subst hs
    refine wd_go ok_R_reads [82] 20 (fun R hR => ?_)
    conv => whnf
    try dsimp only
    rw [uc_s, upd_s]
    refine hR (k_R_reads_87 (Nat.le_of_ble_eq_true rfl) rfl (s_R_byteAt (ht.u0 (upd_n (by decide))) (by omega) ?_))
    rw [show btA b L p = -1 from if_neg (by omega)]
    refine wd_go ok_R_reads [82] 20 (fun R hR => ?_)
    conv => whnf
    try dsimp only
    refine hR (k_R_reads_97 (Nat.le_of_ble_eq_true rfl) (s_R_in2 (a := 97) (b := 122) rfl rfl ?_))
    rw [show inB (-1) 97 122 = false by decide]
    refine wd_go ok_R_reads [82] 20 (fun R hR => ?_)
    conv => whnf
    try dsimp only
    refine br_t rfl ?_
    conv => whnf
    try dsimp only
    exact ⟨rfl, h⟩
  | succ m ih =>
    intro p hp hs
    rw [skA] at hs
    have bp := (ht.2.2 p (by omega)).2
    refine wd_go ok_R_reads [82] 20 (fun R hR => ?_)
    conv => whnf
    try dsimp only
    rw [uc_s, upd_s]
    refine hR (k_R_reads_87 (Nat.le_of_ble_eq_true rfl) rfl (s_R_byteAt (ht.u0 (upd_n (by decide))) (by omega) ?_))
    rw [show btA b L p = nI (b p) from if_pos (by omega)]
    refine wd_go ok_R_reads [82] 20 (fun R hR => ?_)
    conv => whnf
    try dsimp only
    refine hR (k_R_reads_97 (Nat.le_of_ble_eq_true rfl) (s_R_in2 (a := 97) (b := 122) rfl rfl ?_))
    rw [in_lt bp]
    cases hz : isLt (b p) with
    | true =>
      rw [if_pos hz] at hs
      refine wd_go ok_R_reads [82] 20 (fun R hR => ?_)
      conv => whnf
      try dsimp only
      refine br_f (by decide) ?_
      conv => whnf
      try dsimp only
      rw [uc_s, upd_s, uc_uc, upd_upd]
      refine hR ?_
      have := ih (p + 1) (by omega) hs
      rw [nI_succ] at this
      exact this
    | false =>
      rw [if_neg (by rw [hz]; decide)] at hs
      subst hs
      refine wd_go ok_R_reads [82] 20 (fun R hR => ?_)
      conv => whnf
      try dsimp only
      refine br_t rfl ?_
      conv => whnf
      try dsimp only
      exact ⟨rfl, h⟩
theorem n710 (f : wRow) (a v c : Int32) : upd (upd (upd f 7 a) 10 v) 7 c = upd (upd f 7 c) 10 v := by
  rw [upd_comm _ (show (10 : Nat) ≠ 7 by decide), upd_upd]
theorem l_R_figures {σ0 : wd_S} {s e : Nat} {x : Int32} (ht : tpR σ0 b L) (h8 : σ0 0 8 = nI s) (h : Run wR G M_R_reads 217 [some (.ref 0), some (.int x)] [] (wd_uc σ0 0 (upd (upd (σ0 0) 7 (nI e)) 10 (vlA b s (min (e - s) 2)))) τ Q) : ∀ (m p : Nat), L = p + m → s ≤ p → skA (fun i => isFg (b i)) m p = e → Run wR G M_R_reads 140 [some (.ref 0), some (.int x)] [] (wd_uc σ0 0 (upd (upd (σ0 0) 7 (nI p)) 10 (vlA b s (min (p - s) 2)))) τ Q := by
  have hL := ht.2.1
  intro m
  induction m with
  | zero =>
    intro p hp hsp hs
    rw [skA] at hs
    subst hs
    refine wd_go ok_R_reads [140, 217] 20 (fun R hR => ?_)
    conv => whnf
    try dsimp only
    rw [uc_s, upd_n (show (7 : Nat) ≠ 10 by decide), upd_s]
    refine hR (k_R_reads_145 (Nat.le_of_ble_eq_true rfl) rfl (s_R_byteAt (ht.u0 ((upd_n (by decide)).trans (upd_n (by decide)))) (by omega) ?_))
    rw [show btA b L p = -1 from if_neg (by omega)]
    refine wd_go ok_R_reads [140, 217] 20 (fun R hR => ?_)
    conv => whnf
    try dsimp only
    refine hR (k_R_reads_155 (Nat.le_of_ble_eq_true rfl) (s_R_in2 (a := 48) (b := 57) rfl rfl ?_))
    rw [show inB (-1) 48 57 = false by decide]
    refine wd_go ok_R_reads [140, 217] 20 (fun R hR => ?_)
    conv => whnf
    try dsimp only
    refine br_t rfl ?_
    conv => whnf
    try dsimp only
    exact hR h
  | succ m ih =>
    intro p hp hsp hs
    rw [skA] at hs
    have bp := (ht.2.2 p (by omega)).2
    have tp : tpR (wd_uc σ0 0 (upd (upd (σ0 0) 7 (nI p)) 10 (vlA b s (min (p - s) 2)))) b L := ht.u0 ((upd_n (by decide)).trans (upd_n (by decide)))
    refine wd_go ok_R_reads [140, 217] 20 (fun R hR => ?_)
    conv => whnf
    try dsimp only
    rw [uc_s, upd_n (show (7 : Nat) ≠ 10 by decide), upd_s]
    refine hR (k_R_reads_145 (Nat.le_of_ble_eq_true rfl) rfl (s_R_byteAt tp (by omega) ?_))
    rw [show btA b L p = nI (b p) from if_pos (by omega)]
    refine wd_go ok_R_reads [140, 217] 20 (fun R hR => ?_)
    conv => whnf
    try dsimp only
    refine hR (k_R_reads_155 (Nat.le_of_ble_eq_true rfl) (s_R_in2 (a := 48) (b := 57) rfl rfl ?_))
    rw [in_fg bp]
    cases hz : isFg (b p) with
    | true =>
      rw [if_pos hz] at hs
      have nxt := ih (p + 1) (by omega) (by omega) hs
      refine wd_go ok_R_reads [140, 217] 30 (fun R hR => ?_)
      conv => whnf
      try dsimp only
      refine br_f (by decide) ?_
      conv => whnf
      try dsimp only
      rw [uc_s, upd_n (show (7 : Nat) ≠ 10 by decide), upd_s, upd_n (show (8 : Nat) ≠ 10 by decide), upd_n (show (8 : Nat) ≠ 7 by decide), h8, pk_sub hsp]
      by_cases h2 : p - s < 2
      · refine br_f (nI_ge (b := 2) h2 (by decide)) ?_
        conv => whnf
        try dsimp only
        rw [uc_s, upd_n (show (7 : Nat) ≠ 10 by decide), upd_s]
        refine hR (k_R_reads_187 (Nat.le_of_ble_eq_true rfl) rfl (s_R_byteAt tp (by omega) ?_))
        rw [show btA b L p = nI (b p) from if_pos (by omega)]
        refine wd_go ok_R_reads [140, 217] 30 (fun R hR => ?_)
        conv => whnf
        try dsimp only
        refine hR ?_
        have e1 : min (p + 1 - s) 2 = min (p - s) 2 + 1 := by omega
        have e2 : s + min (p - s) 2 = p := by omega
        rw [e1, vlA, e2, nI_succ] at nxt
        simp only [uc_s, uc_uc, upd_s, upd_upd]
        rw [n710, upd_n (show (7 : Nat) ≠ 10 by decide), upd_s, Int32.mul_comm 10]
        exact nxt
      · refine br_t (nI_le (a := 2) (by omega) (by omega)) ?_
        conv => whnf
        try dsimp only
        refine hR ?_
        have e1 : min (p + 1 - s) 2 = min (p - s) 2 := by omega
        rw [e1, nI_succ] at nxt
        simp only [uc_s, uc_uc, upd_s, upd_upd]
        rw [n710, upd_n (show (7 : Nat) ≠ 10 by decide), upd_s]
        exact nxt
    | false =>
      rw [if_neg (by rw [hz]; decide)] at hs
      subst hs
      refine wd_go ok_R_reads [140, 217] 20 (fun R hR => ?_)
      conv => whnf
      try dsimp only
      refine br_t rfl ?_
      conv => whnf
      try dsimp only
      exact hR h
theorem s_R_reads {σ : wd_S} {p : Nat} (ht : tpR σ b L) (hp : σ 0 7 = nI p) (hpL : p ≤ L) (hf : σ 0 11 = 0) (h : ∀ σ', tokR σ b L p σ' → Q none σ' τ) : Run wR G M_R_reads 0 [some (.ref 0), none] [] σ τ Q := by
  have hL := ht.2.1
  have hs := sk_le (fun i => decide (b i = 32)) (L - p) p
  refine wd_go ok_R_reads [8, 34] 20 (fun R hR => ?_)
  conv => whnf
  try dsimp only
  rw [hf]
  refine br_t (by decide) ?_
  conv => whnf
  try dsimp only
  refine hR ?_
  have key := l_R_spaces (G := G) (τ := τ) (Q := Q) (σ0 := σ) (e := spS b L p) ht ?_ (L - p) p (by omega) rfl
  · rw [← hp, upd_self, uc_self] at key
    exact key
  simp only [tokR, spS] at h ⊢
  generalize skA (fun i => decide (b i = 32)) (L - p) p = s at h hs ⊢
  have hs2 : s ≤ L := by omega
  have ts : tpR (wd_uc σ 0 (upd (upd (σ 0) 7 (nI s)) 8 (nI s))) b L := ht.u0 ((upd_n (by decide)).trans (upd_n (by decide)))
  have f8 : ∀ {f : wRow}, f 8 = upd (upd (σ 0) 7 (nI s)) 8 (nI s) 8 → f 8 = nI s := fun e => e.trans (upd_s _ _ _)
  refine wd_go ok_R_reads [82, 140] 30 (fun R hR => ?_)
  conv => whnf
  try dsimp only
  simp only [uc_s, uc_uc, upd_s]
  rw [upd_n (show (7 : Nat) ≠ 8 by decide), upd_s]
  refine hR (k_R_reads_47 (Nat.le_of_ble_eq_true rfl) rfl (s_R_byteAt ts (by omega) ?_))
  rw [tokS] at h
  by_cases hE : s = L
  · rw [if_pos hE] at h
    rw [show btA b L s = -1 from if_neg (by omega)]
    refine wd_go ok_R_reads [82, 140] 30 (fun R hR => ?_)
    conv => whnf
    try dsimp only
    refine br_f (by decide) ?_
    conv => whnf
    try dsimp only
    refine ⟨rfl, h _ ⟨fun c hc => ?_, fun k hk => ?_, rfl, fun _ => ⟨rfl, rfl, fun z => (by cases z), hf⟩, fun z => (by cases z)⟩⟩
    · rw [uc_n hc, uc_n hc]
    · rw [uc_s, upd_n (by omega), uc_s, upd_n (by omega), upd_n (by omega)]
  · rw [if_neg hE] at h
    have bs := (ht.2.2 s (by omega)).2
    rw [show btA b L s = nI (b s) from if_pos (by omega)]
    refine wd_go ok_R_reads [82, 140] 30 (fun R hR => ?_)
    conv => whnf
    try dsimp only
    refine br_t (nI_pos' (by omega)) ?_
    conv => whnf
    try dsimp only
    refine hR (k_R_reads_71 (Nat.le_of_ble_eq_true rfl) (s_R_in2 (a := 97) (b := 122) rfl rfl ?_))
    rw [in_lt bs]
    cases hl : isLt (b s) with
    | true =>
      rw [hl, if_pos rfl] at h
      refine wd_go ok_R_reads [82, 140] 30 (fun R hR => ?_)
      conv => whnf
      try dsimp only
      refine br_f (by decide) ?_
      conv => whnf
      try dsimp only
      refine hR ?_
      rw [uc_uc, uc_s]
      have key := l_R_letters (G := G) (τ := τ) (Q := Q) (σ0 := wd_uc σ 0 (upd (upd (upd (σ 0) 7 (nI s)) 8 (nI s)) 9 1)) (e := skA (fun i => isLt (b i)) (L - s) s) (x := nI (b s)) (ht.u0 ((upd_n (by decide)).trans ((upd_n (by decide)).trans (upd_n (by decide))))) ?_ (L - s) s (by omega) rfl
      · have e7 : upd ((wd_uc σ 0 (upd (upd (upd (σ 0) 7 (nI s)) 8 (nI s)) 9 1)) 0) 7 (nI s) = (wd_uc σ 0 (upd (upd (upd (σ 0) 7 (nI s)) 8 (nI s)) 9 1)) 0 := upd_self ((wd_uc σ 0 (upd (upd (upd (σ 0) 7 (nI s)) 8 (nI s)) 9 1)) 0) 7
        rw [e7, uc_self] at key
        exact key
      · refine h _ ⟨fun c hc => ?_, fun k hk => ?_, rfl, fun _ => ⟨rfl, rfl, fun z => (by cases z), hf⟩, fun z => (by cases z)⟩
        · rw [uc_n hc, uc_n hc]
        · rw [uc_s, upd_n (by omega), uc_s, upd_n (by omega), upd_n (by omega), upd_n (by omega)]
    | false =>
      rw [hl, if_neg (by decide)] at h
      refine wd_go ok_R_reads [82, 140] 30 (fun R hR => ?_)
      conv => whnf
      try dsimp only
      refine br_t rfl ?_
      conv => whnf
      try dsimp only
      refine hR (k_R_reads_124 (Nat.le_of_ble_eq_true rfl) (s_R_in2 (a := 48) (b := 57) rfl rfl ?_))
      rw [in_fg bs]
      cases hg : isFg (b s) with
      | true =>
        rw [hg, if_pos rfl] at h
        refine wd_go ok_R_reads [82, 140] 30 (fun R hR => ?_)
        conv => whnf
        try dsimp only
        refine br_f (by decide) ?_
        conv => whnf
        try dsimp only
        refine hR ?_
        have hse := sk_le (fun i => isFg (b i)) (L - s) s
        generalize hee : skA (fun i => isFg (b i)) (L - s) s = e at h hse
        simp only [uc_uc, uc_s]
        have key := l_R_figures (G := G) (τ := τ) (Q := Q) (σ0 := wd_uc σ 0 (upd (upd (upd (upd (σ 0) 7 (nI s)) 8 (nI s)) 9 2) 10 0)) (s := s) (e := e) (x := nI (b s)) (ht.u0 ((upd_n (by decide)).trans ((upd_n (by decide)).trans ((upd_n (by decide)).trans (upd_n (by decide)))))) rfl ?_ (L - s) s (by omega) (Nat.le_refl s) hee
        · have e7 : upd ((wd_uc σ 0 (upd (upd (upd (upd (σ 0) 7 (nI s)) 8 (nI s)) 9 2) 10 0)) 0) 7 (nI s) = (wd_uc σ 0 (upd (upd (upd (upd (σ 0) 7 (nI s)) 8 (nI s)) 9 2) 10 0)) 0 := upd_self ((wd_uc σ 0 (upd (upd (upd (upd (σ 0) 7 (nI s)) 8 (nI s)) 9 2) 10 0)) 0) 7
          have e10 : upd ((wd_uc σ 0 (upd (upd (upd (upd (σ 0) 7 (nI s)) 8 (nI s)) 9 2) 10 0)) 0) 10 0 = (wd_uc σ 0 (upd (upd (upd (upd (σ 0) 7 (nI s)) 8 (nI s)) 9 2) 10 0)) 0 := upd_self ((wd_uc σ 0 (upd (upd (upd (upd (σ 0) 7 (nI s)) 8 (nI s)) 9 2) 10 0)) 0) 10
          rw [e7, Nat.sub_self, Nat.zero_min, vlA, e10, uc_self] at key
          exact key
        · have fr : ∀ {x y : Int32} {k : Nat}, (k < 7 ∨ 12 < k) → (upd (upd (upd (upd (upd (upd (σ 0) 7 (nI s)) 8 (nI s)) 9 2) 10 0) 7 x) 10 y) k = σ 0 k := fun {x y k} hk => by rw [upd_n (by omega), upd_n (by omega), upd_n (by omega), upd_n (by omega), upd_n (by omega), upd_n (by omega)]
          refine wd_go ok_R_reads [] 30 (fun R hR => ?_)
          conv => whnf
          try dsimp only
          by_cases h2 : e ≤ s + 2
          · rw [decide_eq_true h2] at h
            refine br_f (show ¬ (2 : Int32) < nI e - nI s by rw [pk_sub (by omega)]; exact nI_nlt (a := 2) (b := e - s) (by omega) (by omega)) ?_
            conv => whnf
            try dsimp only
            refine hR (k_R_reads_237 (Nat.le_of_ble_eq_true rfl) rfl (s_R_requires (g := true) ?_))
            rw [if_pos (Or.inl rfl)]
            refine wd_go ok_R_reads [] 20 (fun R hR => ?_)
            conv => whnf
            try dsimp only
            refine ⟨rfl, h _ ⟨fun c hc => ?_, fun k hk => fr hk, rfl, fun _ => ⟨rfl, rfl, fun _ => ?_, hf⟩, fun z => (by cases z)⟩⟩
            · rw [uc_n hc, uc_n hc]
            · show vlA b s (min (e - s) 2) = vlA b s (e - s)
              rw [Nat.min_eq_left (by omega)]
          · rw [decide_eq_false h2] at h
            refine br_t (show (2 : Int32) < nI e - nI s by rw [pk_sub (by omega)]; exact nI_lt (a := 2) (b := e - s) (by omega) (by omega)) ?_
            conv => whnf
            try dsimp only
            refine hR (k_R_reads_237 (Nat.le_of_ble_eq_true rfl) rfl (s_R_requires (g := false) ?_))
            rw [if_neg (fun z => z.elim (fun y => by cases y) (fun y => y hf))]
            refine wd_go ok_R_reads [] 20 (fun R hR => ?_)
            conv => whnf
            try dsimp only
            refine ⟨rfl, h _ ⟨fun c hc => ?_, fun k hk => ?_, rfl, fun z => (by cases z), fun _ => ⟨rfl, rfl⟩⟩⟩
            · rw [uc_n hc, uc_n hc, uc_n hc]
            · rw [uc_s, upd_n (by omega), upd_n (by omega), uc_s]
              exact fr hk
      | false =>
        rw [hg, if_neg (by decide)] at h
        refine wd_go ok_R_reads [82, 140] 30 (fun R hR => ?_)
        conv => whnf
        try dsimp only
        refine br_t rfl ?_
        conv => whnf
        try dsimp only
        simp only [uc_uc, uc_s]
        have fr : ∀ {x : Int32} {k : Nat}, (k < 7 ∨ 12 < k) → (upd (upd (upd (σ 0) 7 (nI s)) 8 (nI s)) 9 x) k = σ 0 k := fun {x k} hk => by rw [upd_n (by omega), upd_n (by omega), upd_n (by omega)]
        by_cases h2 : b s = 59
        · rw [decide_eq_true h2] at h
          refine nb_f (by rw [h2]; rfl) ?_
          conv => whnf
          try dsimp only
          refine hR (k_R_reads_261 (Nat.le_of_ble_eq_true rfl) rfl (s_R_requires (g := true) ?_))
          rw [if_pos (Or.inl rfl)]
          refine wd_go ok_R_reads [] 20 (fun R hR => ?_)
          conv => whnf
          try dsimp only
          refine ⟨rfl, h _ ⟨fun c hc => ?_, fun k hk => ?_, rfl, fun _ => ⟨rfl, ?_, fun z => (by cases z), hf⟩, fun z => (by cases z)⟩⟩
          · rw [uc_n hc, uc_n hc]
          · rw [uc_s, upd_n (by omega), uc_s]
            exact fr hk
          · show nI s + 1 = nI (s + 1)
            exact nI_1 s
        · rw [decide_eq_false h2] at h
          refine nb_t (fun z => h2 ((nI_eq (b := 59) (by omega) (by decide)).mp z)) ?_
          conv => whnf
          try dsimp only
          refine hR (k_R_reads_261 (Nat.le_of_ble_eq_true rfl) rfl (s_R_requires (g := false) ?_))
          rw [if_neg (fun z => z.elim (fun y => by cases y) (fun y => y hf))]
          refine wd_go ok_R_reads [] 20 (fun R hR => ?_)
          conv => whnf
          try dsimp only
          refine ⟨rfl, h _ ⟨fun c hc => ?_, fun k hk => ?_, rfl, fun z => (by cases z), fun _ => ⟨rfl, rfl⟩⟩⟩
          · rw [uc_n hc, uc_n hc, uc_n hc]
          · rw [uc_s, upd_n (by omega), uc_s, upd_n (by omega), upd_n (by omega), uc_s]
            exact fr hk
end R
