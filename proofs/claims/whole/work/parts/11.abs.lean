/-! WHAT IS MEANT: a pack as a row of numbers (as the reference lays it), a trial as three rows: the pack, the bites by dog, the reference's own fields -/
abbrev wRow : Type := Nat → Int32
abbrev wU : Type := wRow × wRow × wRow
theorem il0 : (0 : Int32) = nI 0 := rfl
theorem cl0 : (0 : Int32).toNatClampNeg = 0 := rfl
theorem il1 : (1 : Int32) = nI 1 := rfl
theorem cl1 : (1 : Int32).toNatClampNeg = 1 := rfl
theorem il2 : (2 : Int32) = nI 2 := rfl
theorem cl2 : (2 : Int32).toNatClampNeg = 2 := rfl
theorem il3 : (3 : Int32) = nI 3 := rfl
theorem cl3 : (3 : Int32).toNatClampNeg = 3 := rfl
theorem il4 : (4 : Int32) = nI 4 := rfl
theorem cl4 : (4 : Int32).toNatClampNeg = 4 := rfl
theorem il5 : (5 : Int32) = nI 5 := rfl
theorem cl5 : (5 : Int32).toNatClampNeg = 5 := rfl
theorem il6 : (6 : Int32) = nI 6 := rfl
theorem cl6 : (6 : Int32).toNatClampNeg = 6 := rfl
theorem il7 : (7 : Int32) = nI 7 := rfl
theorem cl7 : (7 : Int32).toNatClampNeg = 7 := rfl
theorem il8 : (8 : Int32) = nI 8 := rfl
theorem cl8 : (8 : Int32).toNatClampNeg = 8 := rfl
theorem il9 : (9 : Int32) = nI 9 := rfl
theorem cl9 : (9 : Int32).toNatClampNeg = 9 := rfl
theorem il10 : (10 : Int32) = nI 10 := rfl
theorem cl10 : (10 : Int32).toNatClampNeg = 10 := rfl
theorem il11 : (11 : Int32) = nI 11 := rfl
theorem cl11 : (11 : Int32).toNatClampNeg = 11 := rfl
theorem il12 : (12 : Int32) = nI 12 := rfl
theorem cl12 : (12 : Int32).toNatClampNeg = 12 := rfl
theorem il13 : (13 : Int32) = nI 13 := rfl
theorem cl13 : (13 : Int32).toNatClampNeg = 13 := rfl
theorem il14 : (14 : Int32) = nI 14 := rfl
theorem cl14 : (14 : Int32).toNatClampNeg = 14 := rfl
theorem il15 : (15 : Int32) = nI 15 := rfl
theorem cl15 : (15 : Int32).toNatClampNeg = 15 := rfl
theorem il16 : (16 : Int32) = nI 16 := rfl
theorem cl16 : (16 : Int32).toNatClampNeg = 16 := rfl
theorem il17 : (17 : Int32) = nI 17 := rfl
theorem cl17 : (17 : Int32).toNatClampNeg = 17 := rfl
theorem il18 : (18 : Int32) = nI 18 := rfl
theorem cl18 : (18 : Int32).toNatClampNeg = 18 := rfl
theorem il19 : (19 : Int32) = nI 19 := rfl
theorem cl19 : (19 : Int32).toNatClampNeg = 19 := rfl
theorem il20 : (20 : Int32) = nI 20 := rfl
theorem cl20 : (20 : Int32).toNatClampNeg = 20 := rfl
theorem il21 : (21 : Int32) = nI 21 := rfl
theorem cl21 : (21 : Int32).toNatClampNeg = 21 := rfl
theorem il22 : (22 : Int32) = nI 22 := rfl
theorem cl22 : (22 : Int32).toNatClampNeg = 22 := rfl
theorem il23 : (23 : Int32) = nI 23 := rfl
theorem cl23 : (23 : Int32).toNatClampNeg = 23 := rfl
theorem il24 : (24 : Int32) = nI 24 := rfl
theorem cl24 : (24 : Int32).toNatClampNeg = 24 := rfl
theorem il25 : (25 : Int32) = nI 25 := rfl
theorem cl25 : (25 : Int32).toNatClampNeg = 25 := rfl
theorem il26 : (26 : Int32) = nI 26 := rfl
theorem cl26 : (26 : Int32).toNatClampNeg = 26 := rfl
theorem il27 : (27 : Int32) = nI 27 := rfl
theorem cl27 : (27 : Int32).toNatClampNeg = 27 := rfl
theorem il28 : (28 : Int32) = nI 28 := rfl
theorem cl28 : (28 : Int32).toNatClampNeg = 28 := rfl
theorem il29 : (29 : Int32) = nI 29 := rfl
theorem cl29 : (29 : Int32).toNatClampNeg = 29 := rfl
theorem il30 : (30 : Int32) = nI 30 := rfl
theorem cl30 : (30 : Int32).toNatClampNeg = 30 := rfl
theorem il31 : (31 : Int32) = nI 31 := rfl
theorem cl31 : (31 : Int32).toNatClampNeg = 31 := rfl
theorem il32 : (32 : Int32) = nI 32 := rfl
theorem cl32 : (32 : Int32).toNatClampNeg = 32 := rfl
theorem il33 : (33 : Int32) = nI 33 := rfl
theorem cl33 : (33 : Int32).toNatClampNeg = 33 := rfl
theorem il34 : (34 : Int32) = nI 34 := rfl
theorem cl34 : (34 : Int32).toNatClampNeg = 34 := rfl
theorem il35 : (35 : Int32) = nI 35 := rfl
theorem cl35 : (35 : Int32).toNatClampNeg = 35 := rfl
theorem il36 : (36 : Int32) = nI 36 := rfl
theorem cl36 : (36 : Int32).toNatClampNeg = 36 := rfl
theorem il37 : (37 : Int32) = nI 37 := rfl
theorem cl37 : (37 : Int32).toNatClampNeg = 37 := rfl
theorem il38 : (38 : Int32) = nI 38 := rfl
theorem cl38 : (38 : Int32).toNatClampNeg = 38 := rfl
theorem il39 : (39 : Int32) = nI 39 := rfl
theorem cl39 : (39 : Int32).toNatClampNeg = 39 := rfl
theorem il40 : (40 : Int32) = nI 40 := rfl
theorem cl40 : (40 : Int32).toNatClampNeg = 40 := rfl
theorem il41 : (41 : Int32) = nI 41 := rfl
theorem cl41 : (41 : Int32).toNatClampNeg = 41 := rfl
theorem il42 : (42 : Int32) = nI 42 := rfl
theorem cl42 : (42 : Int32).toNatClampNeg = 42 := rfl
theorem il43 : (43 : Int32) = nI 43 := rfl
theorem cl43 : (43 : Int32).toNatClampNeg = 43 := rfl
theorem il44 : (44 : Int32) = nI 44 := rfl
theorem cl44 : (44 : Int32).toNatClampNeg = 44 := rfl
theorem il45 : (45 : Int32) = nI 45 := rfl
theorem cl45 : (45 : Int32).toNatClampNeg = 45 := rfl
theorem il46 : (46 : Int32) = nI 46 := rfl
theorem cl46 : (46 : Int32).toNatClampNeg = 46 := rfl
theorem il47 : (47 : Int32) = nI 47 := rfl
theorem cl47 : (47 : Int32).toNatClampNeg = 47 := rfl
theorem il48 : (48 : Int32) = nI 48 := rfl
theorem cl48 : (48 : Int32).toNatClampNeg = 48 := rfl
theorem il49 : (49 : Int32) = nI 49 := rfl
theorem cl49 : (49 : Int32).toNatClampNeg = 49 := rfl
theorem il50 : (50 : Int32) = nI 50 := rfl
theorem cl50 : (50 : Int32).toNatClampNeg = 50 := rfl
theorem il51 : (51 : Int32) = nI 51 := rfl
theorem cl51 : (51 : Int32).toNatClampNeg = 51 := rfl
theorem il52 : (52 : Int32) = nI 52 := rfl
theorem cl52 : (52 : Int32).toNatClampNeg = 52 := rfl
theorem il53 : (53 : Int32) = nI 53 := rfl
theorem cl53 : (53 : Int32).toNatClampNeg = 53 := rfl
theorem il54 : (54 : Int32) = nI 54 := rfl
theorem cl54 : (54 : Int32).toNatClampNeg = 54 := rfl
theorem il55 : (55 : Int32) = nI 55 := rfl
theorem cl55 : (55 : Int32).toNatClampNeg = 55 := rfl
theorem il56 : (56 : Int32) = nI 56 := rfl
theorem cl56 : (56 : Int32).toNatClampNeg = 56 := rfl
theorem il57 : (57 : Int32) = nI 57 := rfl
theorem cl57 : (57 : Int32).toNatClampNeg = 57 := rfl
theorem il58 : (58 : Int32) = nI 58 := rfl
theorem cl58 : (58 : Int32).toNatClampNeg = 58 := rfl
theorem il59 : (59 : Int32) = nI 59 := rfl
theorem cl59 : (59 : Int32).toNatClampNeg = 59 := rfl
theorem il60 : (60 : Int32) = nI 60 := rfl
theorem cl60 : (60 : Int32).toNatClampNeg = 60 := rfl
theorem il61 : (61 : Int32) = nI 61 := rfl
theorem cl61 : (61 : Int32).toNatClampNeg = 61 := rfl
theorem il97 : (97 : Int32) = nI 97 := rfl
theorem cl97 : (97 : Int32).toNatClampNeg = 97 := rfl
theorem il99 : (99 : Int32) = nI 99 := rfl
theorem cl99 : (99 : Int32).toNatClampNeg = 99 := rfl
theorem il100 : (100 : Int32) = nI 100 := rfl
theorem cl100 : (100 : Int32).toNatClampNeg = 100 := rfl
theorem il122 : (122 : Int32) = nI 122 := rfl
theorem cl122 : (122 : Int32).toNatClampNeg = 122 := rfl
theorem il127 : (127 : Int32) = nI 127 := rfl
theorem cl127 : (127 : Int32).toNatClampNeg = 127 := rfl
theorem il160 : (160 : Int32) = nI 160 := rfl
theorem cl160 : (160 : Int32).toNatClampNeg = 160 := rfl
theorem il183 : (183 : Int32) = nI 183 := rfl
theorem cl183 : (183 : Int32).toNatClampNeg = 183 := rfl
theorem il200 : (200 : Int32) = nI 200 := rfl
theorem cl200 : (200 : Int32).toNatClampNeg = 200 := rfl
theorem il999 : (999 : Int32) = nI 999 := rfl
theorem cl999 : (999 : Int32).toNatClampNeg = 999 := rfl
theorem il9999 : (9999 : Int32) = nI 9999 := rfl
theorem cl9999 : (9999 : Int32).toNatClampNeg = 9999 := rfl
theorem il10000 : (10000 : Int32) = nI 10000 := rfl
theorem cl10000 : (10000 : Int32).toNatClampNeg = 10000 := rfl
theorem il32767 : (32767 : Int32) = nI 32767 := rfl
theorem cl32767 : (32767 : Int32).toNatClampNeg = 32767 := rfl
theorem fL_to : ∀ {l : wd_L} {K : wd_L → Prop}, K l → wd_fL l K
  | [], _, h => h
  | none :: r, K, h => fL_to (l := r) (K := fun r => K (none :: r)) h
  | some v :: r, K, h => fL_to (l := r) (K := fun r => K (some v :: r)) h
theorem nb_t {c A B : Prop} (h : ¬ c) (a : A) : (¬ c → A) ∧ (c → B) := ⟨fun _ => a, fun z => absurd z h⟩
theorem nb_f {c A B : Prop} (h : c) (b : B) : (¬ c → A) ∧ (c → B) := ⟨fun z => absurd h z, fun _ => b⟩
theorem uc_s {α : Type} {σ : Nat → α} {c : Nat} {f : α} : wd_uc σ c f c = f := if_pos rfl
theorem uc_n {α : Type} {σ : Nat → α} {c c' : Nat} {f : α} (h : c' ≠ c) : wd_uc σ c f c' = σ c' := if_neg h
theorem uc_uc {α : Type} (σ : Nat → α) (c : Nat) (f g : α) : wd_uc (wd_uc σ c f) c g = wd_uc σ c g := by
  funext c'
  simp only [wd_uc]
  split <;> rfl
theorem uc_self {α : Type} (σ : Nat → α) (c : Nat) : wd_uc σ c (σ c) = σ := by
  funext c'
  simp only [wd_uc]
  split
  · rename_i h; rw [h]
  · rfl
theorem uc_comm {α : Type} (σ : Nat → α) {c d : Nat} (h : c ≠ d) (f g : α) : wd_uc (wd_uc σ c f) d g = wd_uc (wd_uc σ d g) c f := by
  funext c'
  simp only [wd_uc]
  by_cases h1 : c' = d
  · subst h1
    rw [if_pos rfl, if_neg (fun e => h e.symm), if_pos rfl]
  · rw [if_neg h1, if_neg h1]
theorem upd_s (f : wRow) (k : Nat) (x : Int32) : upd f k x k = x := if_pos rfl
theorem upd_n {f : wRow} {k j : Nat} {x : Int32} (h : j ≠ k) : upd f k x j = f j := if_neg h
theorem upd_self (f : wRow) (k : Nat) : upd f k (f k) = f := by
  funext j
  simp only [upd]
  split
  · rename_i h; rw [h]
  · rfl
theorem upd_upd (f : wRow) (k : Nat) (x y : Int32) : upd (upd f k x) k y = upd f k y := by
  funext j
  simp only [upd]
  split <;> rfl
theorem upd_comm (f : wRow) {k j : Nat} (h : k ≠ j) (x y : Int32) : upd (upd f k x) j y = upd (upd f j y) k x := by
  funext i
  simp only [upd]
  by_cases h1 : i = j
  · subst h1
    rw [if_pos rfl, if_neg (fun e => h e.symm), if_pos rfl]
  · rw [if_neg h1, if_neg h1]
def bI (b : Bool) : Int32 := cond b 1 0
theorem bI_bit (b : Bool) : wd_bit (bI b) := by cases b <;> simp [bI, wd_bit]
/-- the reference's memory: its rows of a trial -/
def mR (σ : wd_S) (u : wU) : wd_S := wd_uc (wd_uc (wd_uc σ 2 u.1) 6 u.2.1) 0 u.2.2
theorem mR_2 (σ : wd_S) (u : wU) : mR σ u 2 = u.1 := rfl
theorem mR_6 (σ : wd_S) (u : wU) : mR σ u 6 = u.2.1 := rfl
theorem mR_0 (σ : wd_S) (u : wU) : mR σ u 0 = u.2.2 := rfl
theorem mR_n {σ : wd_S} {u : wU} {c : Nat} (h0 : c ≠ 0) (h2 : c ≠ 2) (h6 : c ≠ 6) : mR σ u c = σ c := by
  unfold mR
  rw [uc_n h0, uc_n h6, uc_n h2]
theorem mR_w2 (σ : wd_S) (u : wU) (x : wRow) : wd_uc (mR σ u) 2 x = mR σ (x, u.2.1, u.2.2) := by
  unfold mR
  rw [uc_comm (c := 0) (d := 2) _ (by decide), uc_comm (c := 6) (d := 2) _ (by decide), uc_uc]
theorem mR_w6 (σ : wd_S) (u : wU) (x : wRow) : wd_uc (mR σ u) 6 x = mR σ (u.1, x, u.2.2) := by
  unfold mR
  rw [uc_comm (c := 0) (d := 6) _ (by decide), uc_uc]
theorem mR_w0 (σ : wd_S) (u : wU) (x : wRow) : wd_uc (mR σ u) 0 x = mR σ (u.1, u.2.1, x) := by
  unfold mR
  rw [uc_uc]
theorem mR_self (σ : wd_S) : mR σ (σ 2, σ 6, σ 0) = σ := by
  unfold mR
  rw [uc_self, uc_self, uc_self]
/-! a dog: kind k, limit l, count c, barks b; fed or not -/
def dgC (k l c : Int32) (fed : Bool) : Int32 := if fed = true then (if k = 1 ∧ c < l / 2 then c else if k = 3 then c / 2 else 0) else (if c + 1 ≤ l then c + 1 else if k < 2 then c + 1 else 0)
def dgB (k l c b : Int32) (fed : Bool) : Int32 := if fed = true then (if k = 1 ∧ c < l / 2 then b else if k = 2 ∨ k = 3 then 0 else b) else (if c + 1 ≤ l then b else if k < 2 then b else b + 1)
def dgX (k l c b : Int32) (fed : Bool) : Bool := if fed = true then decide (k = 1 ∧ c < l / 2) else (if c + 1 ≤ l then false else if k < 2 then true else decide (b + 1 = 2))
def dgK (k l c : Int32) (fed : Bool) : Int32 := if fed = true then 0 else if c + 1 ≤ l then 0 else if k < 2 then 0 else 1
/-- a dog of a row -/
def rwC (n : wRow) (d : Nat) (fed : Bool) : Int32 := dgC (n (4 * d)) (n (4 * d + 1)) (n (4 * d + 2)) fed
def rwB (n : wRow) (d : Nat) (fed : Bool) : Int32 := dgB (n (4 * d)) (n (4 * d + 1)) (n (4 * d + 2)) (n (4 * d + 3)) fed
def rwX (n : wRow) (d : Nat) (fed : Bool) : Bool := dgX (n (4 * d)) (n (4 * d + 1)) (n (4 * d + 2)) (n (4 * d + 3)) fed
def rwK (n : wRow) (d : Nat) (fed : Bool) : Int32 := dgK (n (4 * d)) (n (4 * d + 1)) (n (4 * d + 2)) fed
def rwD (n : wRow) (d : Nat) (fed : Bool) : wRow := upd (upd n (4 * d + 2) (rwC n d fed)) (4 * d + 3) (rwB n d fed)
def fdA (s : Int32) (d : Nat) : Bool := decide ((s >>> (nI d &&& 31)) &&& 1 = 1)
def dN (n : wRow) : Nat := (n 16).toNatClampNeg
def sN (n : wRow) : Nat := (n 33).toNatClampNeg
def jN (n : wRow) : Nat := (n 43).toNatClampNeg
def eN (n : wRow) : Nat := (n 48).toNatClampNeg
def pN (n : wRow) : Nat := (n 34).toNatClampNeg
/-- one dog in a tick, its sign s; the field 13 is who sleeps -/
def dogA (u : wU) (s : Int32) (d : Nat) : wU := (rwD u.1 d (fdA s d), upd u.2.1 d (u.2.1 d + bI (rwX u.1 d (fdA s d))), upd (upd u.2.2 16 (u.2.2 16 + rwK u.1 d (fdA s d))) 17 (u.2.2 17 + bI (fdA s d)))
def dogsA (u : wU) (s : Int32) : Nat → wU
  | 0 => u
  | d + 1 => if nI d = u.2.2 13 then dogsA u s d else dogA (dogsA u s d) s d
/-- the bits of those that bite -/
def mskA (u : wU) (s : Int32) : Nat → Nat
  | 0 => 0
  | d + 1 => if nI d = u.2.2 13 then mskA u s d else mskA u s d + (cond (rwX u.1 d (fdA s d)) (2 ^ d) 0)
/-- the first bit -/
def fstA (m : Nat) : Nat := if m % 2 = 1 then 0 else if m / 2 % 2 = 1 then 1 else if m / 4 % 2 = 1 then 2 else 3
def zerA (n : wRow) : Nat → wRow
  | 0 => n
  | d + 1 => upd (upd (zerA n d) (4 * d + 2) 0) (4 * d + 3) 0
def rstN (n : wRow) (d fr : Int32) : wRow := zerA (upd (upd (upd (upd n 45 (if n 45 < 999 then n 45 + 1 else 999)) 47 d) 34 0) 46 fr) (dN n)
def rstA (u : wU) (d fr : Int32) : wU := (rstN u.1 d fr, u.2.1, upd u.2.2 14 (u.2.2 14 + 1))
/-- the dogs of a tick go, by a sign: RESET, TICK -/
def tikA (u : wU) (s : Int32) : wU :=
  let v := dogsA u s (dN u.1)
  let m := mskA u s (dN u.1)
  let v := (v.1, v.2.1, upd v.2.2 18 (bI (decide (0 < m))))
  let v := if 0 < m then rstA v (nI (fstA m)) (v.1 44 + 1) else v
  (upd v.1 44 (v.1 44 + 1), v.2.1, v.2.2)
def stkA (n : wRow) : Nat → Bool
  | 0 => false
  | i + 1 => stkA n i || decide (n (35 + 2 * i) ≤ n 44 ∧ n 46 ≤ n (35 + 2 * i) ∧ n 44 - n (35 + 2 * i) < n (36 + 2 * i))
def isStk (n : wRow) : Bool := stkA n (jN n)
def sgnA (n : wRow) : Int32 := if isStk n = true ∨ sN n = 0 then 0 else n (17 + pN n)
def plcA (n : wRow) : wRow := if isStk n = true ∨ sN n = 0 then n else upd n 34 (if pN n + 1 < sN n then nI (pN n + 1) else 0)
/-- a tick; lost: its sign is lost -/
def tkA (lost : Bool) (u : wU) : wU := tikA (plcA u.1, u.2.1, upd u.2.2 15 (u.2.2 15 + bI (isStk u.1))) (cond lost 0 (sgnA u.1))
def tksA : Nat → wU → wU
  | 0, u => u
  | n + 1, u => tkA false (tksA n u)
/-- what is sure of a pack -/
def wf (n : wRow) : Prop := (n 16 = nI (dN n) ∧ dN n ≤ 4) ∧ (n 33 = nI (sN n) ∧ sN n ≤ 16) ∧ (n 43 = nI (jN n) ∧ jN n ≤ 4) ∧ (n 48 = nI (eN n) ∧ eN n ≤ 6) ∧ (n 34 = nI (pN n) ∧ (pN n < sN n ∨ pN n = 0)) ∧ (∃ r : Nat, n 45 = nI r ∧ r ≤ 999) ∧
  (∀ d, d < dN n → (∃ k : Nat, n (4 * d) = nI k ∧ k ≤ 3) ∧ wd_bit (n (4 * d + 3))) ∧ (∀ i, i < eN n → ∃ t : Nat, n (49 + 2 * i) = nI t ∧ t ≤ 40)
