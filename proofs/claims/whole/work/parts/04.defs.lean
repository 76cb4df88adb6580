/-! What the methods compute, as functions of the cells' contents. -/
def zN (n : Nat) : Nat := 2 ^ n
theorem zN_le {n : Nat} (h : n ≤ 8) : zN n ≤ 256 := Nat.pow_le_pow_right (by omega) h
theorem zN_pos (n : Nat) : 0 < zN n := Nat.pow_pos (by omega)
theorem zN_sh : ∀ n, n ≤ 8 → nI 1 <<< (nI n &&& 31) = nI (zN n) := by
  intro n h
  rcases (show n = 0 ∨ n = 1 ∨ n = 2 ∨ n = 3 ∨ n = 4 ∨ n = 5 ∨ n = 6 ∨ n = 7 ∨ n = 8 by omega) with rfl | rfl | rfl | rfl | rfl | rfl | rfl | rfl | rfl <;> decide
theorem zN4_sh : ∀ n, n ≤ 8 → nI 1 <<< (nI (2 * n) &&& 31) = nI (4 ^ n) := by
  intro n h
  rcases (show n = 0 ∨ n = 1 ∨ n = 2 ∨ n = 3 ∨ n = 4 ∨ n = 5 ∨ n = 6 ∨ n = 7 ∨ n = 8 by omega) with rfl | rfl | rfl | rfl | rfl | rfl | rfl | rfl | rfl <;> decide
theorem zN4_le {n : Nat} (h : n ≤ 8) : 4 ^ n ≤ 65536 := Nat.pow_le_pow_right (n := 4) (by omega) h
/-- some j below n has P -/
def exB : Nat → (Nat → Bool) → Bool
  | 0, _ => false
  | n + 1, P => exB n P || P n
theorem exB_t {n i : Nat} {P : Nat → Bool} (hi : i < n) (h : P i = true) : exB n P = true := by
  induction n with
  | zero => omega
  | succ n ih =>
    by_cases hn : i = n
    · subst hn; simp [exB, h]
    · simp [exB, ih (by omega)]
theorem exB_f {n : Nat} {P : Nat → Bool} (h : ∀ j, j < n → P j = false) : exB n P = false := by
  induction n with
  | zero => rfl
  | succ n ih => simp [exB, ih (fun j hj => h j (by omega)), h n (by omega)]
theorem exB_iff {n : Nat} {P : Nat → Bool} : exB n P = true ↔ ∃ i, i < n ∧ P i = true := by
  constructor
  · intro h
    induction n with
    | zero => cases h
    | succ n ih =>
      simp only [exB, Bool.or_eq_true] at h
      rcases h with h | h
      · obtain ⟨i, h1, h2⟩ := ih h; exact ⟨i, by omega, h2⟩
      · exact ⟨n, by omega, h⟩
  · rintro ⟨i, h1, h2⟩; exact exB_t h1 h2
theorem exB_congr {n : Nat} {P Q : Nat → Bool} (h : ∀ j, j < n → P j = Q j) : exB n P = exB n Q := by
  induction n with
  | zero => rfl
  | succ n ih => simp [exB, ih (fun j hj => h j (by omega)), h n (by omega)]
theorem lt_sB {i : Nat} {P : Nat → Bool} (h : ∀ j, j < i → P j = false) (hi : P i = false) : ∀ j, j < i + 1 → P j = false := fun j hj => by
  by_cases e : j = i
  · rw [e]; exact hi
  · exact h j (by omega)
theorem lt_0B {P : Nat → Bool} : ∀ j, j < 0 → P j = false := fun j h => absurd h (Nat.not_lt_zero _)
/-- how many j below n have P -/
def cnB : Nat → (Nat → Bool) → Nat
  | 0, _ => 0
  | n + 1, P => cnB n P + (if P n = true then 1 else 0)
theorem cnB_le (n : Nat) (P : Nat → Bool) : cnB n P ≤ n := by
  induction n with
  | zero => exact Nat.le_refl _
  | succ n ih => simp only [cnB]; split <;> omega
theorem cnB_congr {n : Nat} {P Q : Nat → Bool} (h : ∀ j, j < n → P j = Q j) : cnB n P = cnB n Q := by
  induction n with
  | zero => rfl
  | succ n ih => simp [cnB, ih (fun j hj => h j (by omega)), h n (by omega)]
def smN : Nat → (Nat → Nat) → Nat
  | 0, _ => 0
  | n + 1, F => smN n F + F n
theorem smN_le {n b : Nat} {F : Nat → Nat} (h : ∀ j, F j ≤ b) : smN n F ≤ n * b := by
  induction n with
  | zero => simp [smN]
  | succ n ih => simp only [smN, Nat.succ_mul]; have := h n; omega
theorem smN_congr {n : Nat} {F G : Nat → Nat} (h : ∀ j, j < n → F j = G j) : smN n F = smN n G := by
  induction n with
  | zero => rfl
  | succ n ih => simp [smN, ih (fun j hj => h j (by omega)), h n (by omega)]
/-- the or of F j over those j below n that have C -/
def orI : Nat → (Nat → Bool) → (Nat → Int32) → Int32
  | 0, _, _ => 0
  | n + 1, C, F => if C n = true then orI n C F ||| F n else orI n C F
theorem orI_congr {n : Nat} {C E : Nat → Bool} {F G : Nat → Int32} (h : ∀ j, j < n → C j = E j) (hf : ∀ j, j < n → C j = true → F j = G j) : orI n C F = orI n E G := by
  induction n with
  | zero => rfl
  | succ n ih =>
    have e := ih (fun j hj => h j (by omega)) (fun j hj hc => hf j (by omega) hc)
    simp only [orI, e, ← h n (by omega)]
    split
    · rename_i hc; rw [hf n (by omega) hc]
    · rfl
-- cubes and points, the class
def zX_in (fp : Nat → Int32) (c : Int32) (p : Nat) : Bool := decide (fp p &&& (c ^^^ -1) = 0)
def zX_inL (fp : Nat → Int32) (c : Nat) (f : Nat → Int32) (p : Nat) : Bool := exB c (fun k => zX_in fp (f k) p)
def zfr (c : Int32) (i : Nat) : Int32 := c ||| nI 3 <<< (nI (2 * i) &&& 31)
def zvoid (n : Nat) (c : Int32) : Bool := exB n (fun i => decide (c >>> (nI (2 * i) &&& 31) &&& nI 3 = 0))
def ztch (n : Nat) (fk : Nat → Int32) (In : Int32 → Nat → Bool) (c : Int32) : Bool := exB (zN n) (fun p => decide (fk p = 0) && In c p)
def zcg (n : Nat) (T : Int32 → Bool) (c : Int32) : Bool := exB n (fun i => !decide (zfr c i = c) && !T (zfr c i))
def zord (n : Nat) (asc : Bool) (k : Nat) : Nat := if asc = true then k else n - 1 - k
def zwd (n : Nat) (T : Int32 → Bool) (asc : Bool) : Nat → Int32 → Int32
  | 0, c => c
  | k + 1, c => if (!decide (zfr (zwd n T asc k c) (zord n asc k) = zwd n T asc k c) && !T (zfr (zwd n T asc k c) (zord n asc k))) = true then zfr (zwd n T asc k c) (zord n asc k) else zwd n T asc k c
def zlit (n : Nat) (c : Int32) : Nat := cnB n (fun i => !decide (zfr c i = c))
def zlits (n c : Nat) (f : Nat → Int32) : Nat := smN c (fun k => zlit n (f k))
theorem zlits_le {n c : Nat} {f : Nat → Int32} (hn : n ≤ 8) (hc : c ≤ 24) : zlits n c f ≤ 192 := Nat.le_trans (smN_le (b := 8) (fun j => Nat.le_trans (cnB_le _ _) hn)) (by omega)
/-- what at(k) answers of a list -/
def zat (c : Nat) (f : Nat → Int32) (k : Int32) : Int32 := if k < 0 then -1 else if nI c ≤ k then -1 else f k.toNatClampNeg
theorem zat_nI {c : Nat} {f : Nat → Int32} {k : Nat} (hk : k < c) (hc : c ≤ 24) : zat c f (nI k) = f k := by
  have h1 : ¬ nI k < 0 := nI_pos (by omega)
  have h2 : ¬ nI c ≤ nI k := nI_ge hk (by omega)
  simp only [zat, h1, h2, if_false]
  rw [nI_clamp (by omega)]
/-- the places below i that have C become v -/
def zmk (i : Nat) (C : Nat → Bool) (v : Int32) (f : Nat → Int32) : Nat → Int32 := fun q => if (decide (q < i) && C q) = true then v else f q
theorem zmk_0 {C : Nat → Bool} {v : Int32} {f : Nat → Int32} : zmk 0 C v f = f := by funext q; simp [zmk]
theorem zmk_t {i : Nat} {C : Nat → Bool} {v : Int32} {f : Nat → Int32} (h : C i = true) : upd (zmk i C v f) i v = zmk (i + 1) C v f := by
  funext q
  by_cases e : q = i
  · subst e; simp [zmk, upd, h]
  · have : decide (q < i + 1) = decide (q < i) := by simp; omega
    simp [zmk, upd, e, this]
theorem zmk_f {i : Nat} {C : Nat → Bool} {v : Int32} {f : Nat → Int32} (h : C i = false) : zmk i C v f = zmk (i + 1) C v f := by
  funext q
  by_cases e : q = i
  · subst e; simp [zmk, h]
  · have : decide (q < i + 1) = decide (q < i) := by simp; omega
    simp [zmk, this]
theorem zmk_at {i : Nat} {C : Nat → Bool} {v : Int32} {f : Nat → Int32} : zmk i C v f i = f i := by simp [zmk]
/-- the places below i that have C grow by v -/
def zad (i : Nat) (C : Nat → Bool) (v : Int32) (f : Nat → Int32) : Nat → Int32 := fun q => if (decide (q < i) && C q) = true then f q + v else f q
theorem zad_0 {C : Nat → Bool} {v : Int32} {f : Nat → Int32} : zad 0 C v f = f := by funext q; simp [zad]
theorem zad_at {i : Nat} {C : Nat → Bool} {v : Int32} {f : Nat → Int32} : zad i C v f i = f i := by simp [zad]
theorem zad_t {i : Nat} {C : Nat → Bool} {v : Int32} {f : Nat → Int32} (h : C i = true) : upd (zad i C v f) i (zad i C v f i + v) = zad (i + 1) C v f := by
  funext q
  by_cases e : q = i
  · subst e; simp [zad, upd, h]
  · have : decide (q < i + 1) = decide (q < i) := by simp; omega
    simp [zad, upd, e, this]
theorem zad_f {i : Nat} {C : Nat → Bool} {v : Int32} {f : Nat → Int32} (h : C i = false) : zad i C v f = zad (i + 1) C v f := by
  funext q
  by_cases e : q = i
  · subst e; simp [zad, h]
  · have : decide (q < i + 1) = decide (q < i) := by simp; omega
    simp [zad, this]
/-- place j is taken out of c places: those behind it move up, as far as place m -/
def zsh (f : Nat → Int32) (j m : Nat) : Nat → Int32 := fun q => if j ≤ q ∧ q + 1 < m then f (q + 1) else f q
theorem zsh_0 {f : Nat → Int32} {j : Nat} : zsh f j (j + 1) = f := by
  funext q
  simp only [zsh]
  rw [if_neg (by omega)]
theorem zsh_s {f : Nat → Int32} {j m : Nat} (h : j < m) : upd (zsh f j m) (m - 1) (zsh f j m m) = zsh f j (m + 1) := by
  funext q
  by_cases e : q = m - 1
  · subst e
    simp only [upd, zsh, if_true]
    rw [if_neg (by omega : ¬ (j ≤ m ∧ m + 1 < m)), if_pos (by omega)]
    congr 1; omega
  · simp only [upd, zsh, if_neg e]
    by_cases h1 : j ≤ q ∧ q + 1 < m
    · rw [if_pos h1, if_pos (by omega)]
    · rw [if_neg h1, if_neg (by omega)]
/-- the first i places of g, the rest of f -/
def zcp (i : Nat) (g f : Nat → Int32) : Nat → Int32 := fun q => if q < i then g q else f q
theorem zcp_0 {g f : Nat → Int32} : zcp 0 g f = f := by funext q; simp [zcp]
theorem zcp_s {i : Nat} {g f : Nat → Int32} : upd (zcp i g f) i (g i) = zcp (i + 1) g f := by
  funext q
  by_cases e : q = i
  · subst e; simp [zcp, upd]
  · have : (q < i + 1) = (q < i) := propext (by omega)
    simp [zcp, upd, e, this]
theorem zcp_at {i : Nat} {g f : Nat → Int32} : zcp i g f i = f i := by simp [zcp]
/-- a counter that falls: its value and its number -/
theorem zdn (j : Nat) : (j = 0 ∧ nI j + -1 = -1) ∨ (1 ≤ j ∧ nI j + -1 = nI (j - 1)) := by
  cases j with
  | zero => left; exact ⟨rfl, by decide⟩
  | succ j => right; exact ⟨by omega, by rw [pk_m1]; rfl⟩
theorem zdn0 (j : Nat) : (j = 0 ∧ nI j - nI 1 = -1) ∨ (1 ≤ j ∧ nI j - nI 1 = nI (j - 1)) := by
  cases j with
  | zero => left; exact ⟨rfl, by decide⟩
  | succ j => right; exact ⟨by omega, by rw [pk_sub (by omega)]⟩
theorem zdn_neg {j : Nat} {kv : Int32} (h : (j = 0 ∧ kv = -1) ∨ (1 ≤ j ∧ kv = nI (j - 1))) (hj : j ≤ 24) (hk : kv < 0) : j = 0 := by
  rcases h with h | ⟨h1, h2⟩
  · exact h.1
  · subst h2; exact absurd hk (nI_pos (by omega))
theorem zdn_pos {j : Nat} {kv : Int32} (h : (j = 0 ∧ kv = -1) ∨ (1 ≤ j ∧ kv = nI (j - 1))) (hk : ¬ kv < 0) : ∃ i, j = i + 1 ∧ kv = nI i := by
  rcases h with ⟨h1, h2⟩ | ⟨h1, h2⟩
  · subst h2; exact absurd (by decide) hk
  · exact ⟨j - 1, by omega, h2⟩
