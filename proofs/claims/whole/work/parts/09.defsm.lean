/-! What the reference's methods compute. -/
def zb (p i : Nat) : Nat := p / 2 ^ i % 2
theorem zb_le (p i : Nat) : zb p i ≤ 1 := by have := Nat.mod_lt (p / 2 ^ i) (show 0 < 2 by omega); simp only [zb]; omega
theorem zsm8 : ∀ i, i < 8 → ((nI i &&& 31).toBitVec.smod 32).toNat = i := by
  intro i h
  rcases (show i = 0 ∨ i = 1 ∨ i = 2 ∨ i = 3 ∨ i = 4 ∨ i = 5 ∨ i = 6 ∨ i = 7 by omega) with rfl | rfl | rfl | rfl | rfl | rfl | rfl | rfl <;> decide
theorem zb_eq {p i : Nat} (hp : p < 256) (hi : i < 8) : nI p >>> (nI i &&& 31) &&& nI 1 = nI (zb p i) := by
  rw [pk_shrN (by omega) _ i (zsm8 i hi), pk_andN (Nat.lt_of_le_of_lt (Nat.div_le_self _ _) (by omega)) 1 (by decide)]
  rfl
def zin (n p : Nat) (c : Int32) : Bool := !exB n (fun i => decide (c >>> (nI (2 * i + zb p i) &&& 31) &&& nI 1 = 0))
/-- the 24 places of list L are q -/
def zput (L : Nat) (q g : Nat → Int32) : Nat → Int32 := fun k => if 24 * L ≤ k ∧ k < 24 * L + 24 then q (k - 24 * L) else g k
theorem zput_at {L j : Nat} {q g : Nat → Int32} (h : j < 24) : zput L q g (24 * L + j) = q j := by
  simp only [zput]
  rw [if_pos (by omega)]
  congr 1; omega
theorem zput_ne {L M j : Nat} {q g : Nat → Int32} (h : j < 24) (hn : L ≠ M) : zput L q g (24 * M + j) = g (24 * M + j) := by
  simp only [zput]
  rw [if_neg (by omega)]
theorem zput_upd {L j : Nat} {q g : Nat → Int32} {v : Int32} (h : j < 24) : upd (zput L q g) (24 * L + j) v = zput L (upd q j v) g := by
  funext k
  by_cases e : k = 24 * L + j
  · subst e
    simp only [upd, zput, if_true]
    rw [if_pos (by omega), if_pos (by omega)]
  · simp only [upd, zput, if_neg e]
    by_cases h1 : 24 * L ≤ k ∧ k < 24 * L + 24
    · rw [if_pos h1, if_pos h1, if_neg (by omega)]
    · rw [if_neg h1, if_neg h1]
theorem zput_id {L : Nat} {q g : Nat → Int32} (hq : ∀ j, j < 24 → g (24 * L + j) = q j) : zput L q g = g := by
  funext k
  simp only [zput]
  by_cases h1 : 24 * L ≤ k ∧ k < 24 * L + 24
  · rw [if_pos h1, ← hq _ (by omega)]
    congr 1; omega
  · rw [if_neg h1]
theorem zput_put {L : Nat} {q r g : Nat → Int32} : zput L q (zput L r g) = zput L q g := by
  funext k
  simp only [zput]
  by_cases h1 : 24 * L ≤ k ∧ k < 24 * L + 24
  · rw [if_pos h1, if_pos h1]
  · rw [if_neg h1, if_neg h1, if_neg h1]
theorem zput_comm {L M : Nat} {q r g : Nat → Int32} (h : L ≠ M) : zput L q (zput M r g) = zput M r (zput L q g) := by
  funext k
  simp only [zput]
  by_cases h1 : 24 * L ≤ k ∧ k < 24 * L + 24
  · rw [if_pos h1, if_neg (by omega), if_pos h1]
  · rw [if_neg h1, if_neg h1]
def zv (g : Nat → Int32) (L : Nat) : Nat → Int32 := fun k => g (24 * L + k)
-- sizes
theorem zsu {t : Nat → Nat} {i v : Nat} : upd (fun j => nI (t j)) i (nI v) = fun j => nI (va_up t i v j) := by
  funext j
  simp only [upd, va_up]
  split <;> rfl
def zz0 (i : Nat) (ss : Nat → Nat) : Nat → Nat := fun j => if j < i then 0 else ss j
theorem zz0_0 {ss : Nat → Nat} : zz0 0 ss = ss := by funext j; simp [zz0]
theorem zz0_s {i : Nat} {ss : Nat → Nat} : va_up (zz0 i ss) i 0 = zz0 (i + 1) ss := by
  funext j
  simp only [va_up, zz0]
  by_cases h : j = i
  · rw [if_pos h, if_pos (by omega)]
  · rw [if_neg h]
    by_cases h1 : j < i
    · rw [if_pos h1, if_pos (by omega)]
    · rw [if_neg h1, if_neg (by omega)]
theorem zup_id {ss : Nat → Nat} {L t : Nat} (h : ss L = t) : va_up ss L t = ss := by
  funext j
  simp only [va_up]
  split
  · rename_i e; rw [e, h]
  · rfl
theorem zup_up {ss : Nat → Nat} {L t u : Nat} : va_up (va_up ss L t) L u = va_up ss L u := by
  funext j
  simp only [va_up]
  split <;> rfl
theorem zup_comm {ss : Nat → Nat} {L M t u : Nat} (h : L ≠ M) : va_up (va_up ss L t) M u = va_up (va_up ss M u) L t := by
  funext j
  simp only [va_up]
  by_cases h1 : j = M
  · rw [if_pos h1, if_neg (by omega), if_pos h1]
  · rw [if_neg h1, if_neg h1]
-- lists of the reference: t cubes, q
def zM_inL (n t : Nat) (q : Nat → Int32) (p : Nat) : Bool := exB t (fun k => zin n p (q k))
def zMk (n t0 : Nat) (q0 : Nat → Int32) (t1 : Nat) (q1 : Nat → Int32) (p : Nat) : Int32 := if zM_inL n t1 q1 p = true then nI 2 else if zM_inL n t0 q0 p = true then nI 1 else nI 0
def mlit (n : Nat) (c : Int32) : Nat := cnB n (fun i => !decide (c >>> (nI (2 * i) &&& 31) &&& nI 3 = nI 3))
def mlits (n t : Nat) (q : Nat → Int32) : Nat := smN t (fun k => mlit n (q k))
theorem mlits_le {n t : Nat} {q : Nat → Int32} (hn : n ≤ 8) (ht : t ≤ 24) : mlits n t q ≤ 192 := Nat.le_trans (smN_le (b := 8) (fun j => Nat.le_trans (cnB_le _ _) hn)) (by omega)
def mtch (n : Nat) (mk : Nat → Int32) (c : Int32) : Bool := ztch n mk (fun c p => zin n p c) c
def mwd (n : Nat) (T : Int32 → Bool) (asc : Bool) : Nat → Int32 → Int32
  | 0, c => c
  | k + 1, c => if T (zfr (mwd n T asc k c) (zord n asc k)) = true then mwd n T asc k c else zfr (mwd n T asc k c) (zord n asc k)
def man (n t : Nat) (q : Nat → Int32) (k p : Nat) : Bool := exB t (fun j => !decide (j = k) && zin n p (q j))
def mow (n : Nat) (mk : Nat → Int32) (t : Nat) (q : Nat → Int32) (k p : Nat) : Bool := decide (mk p = nI 1) && (zin n p (q k) && !man n t q k p)
def mnd (n : Nat) (mk : Nat → Int32) (t : Nat) (q : Nat → Int32) (k : Nat) : Bool := exB (zN n) (mow n mk t q k)
def mdr (n : Nat) (mk : Nat → Int32) : Nat → Nat × (Nat → Int32) → Nat × (Nat → Int32)
  | 0, st => st
  | k + 1, st => mdr n mk k (if mnd n mk st.1 st.2 k = true then st else (st.1 - 1, zsh st.2 k st.1))
theorem mdr_le {n : Nat} {mk : Nat → Int32} : ∀ (k : Nat) (st : Nat × (Nat → Int32)), (mdr n mk k st).1 ≤ st.1 := by
  intro k
  induction k with
  | zero => intro st; exact Nat.le_refl _
  | succ k ih =>
    intro st
    rw [mdr]
    refine Nat.le_trans (ih _) ?_
    split
    · exact Nat.le_refl _
    · exact Nat.sub_le _ _
def mps (n : Nat) (mk : Nat → Int32) (asc : Bool) (t : Nat) (q : Nat → Int32) : Nat × (Nat → Int32) := mdr n mk t (t, zcp t (fun j => mwd n (mtch n mk) asc n (q j)) q)
theorem mps_le {n : Nat} {mk : Nat → Int32} {asc : Bool} {t : Nat} {q : Nat → Int32} : (mps n mk asc t q).1 ≤ t := mdr_le t _
def mpo (p : Nat) : Nat → Int32 → Int32
  | 0, s => s
  | i + 1, s => mpo p i s ||| nI 1 <<< (nI (2 * i + zb p i) &&& 31)
def msm (n : Nat) (C : Nat → Bool) : Nat → Int32
  | 0 => nI 0
  | p + 1 => if C p = true then mpo p n (msm n C p) else msm n C p
def mnr (n : Nat) (mk : Nat → Int32) (t : Nat) (q : Nat → Int32) : Nat → Nat → Int32
  | 0 => q
  | k + 1 => upd (mnr n mk t q k) k (msm n (mow n mk t (mnr n mk t q k) k) (zN n))
def mfc (n : Nat) (q0 q2 : Nat → Int32) : Nat → Nat × (Nat → Int32) := zfc n q0 q2
def msl (n c : Nat) (f : Nat → Int32) (c2 : Nat) (f2 : Nat → Int32) : Bool := decide (c < c2) || (decide (c = c2) && decide (mlits n c f < mlits n c2 f2))
abbrev zS4 : Type := Nat × (Nat → Int32) × Nat × (Nat → Int32)
def mr1 (n : Nat) (mk : Nat → Int32) (r : Nat) (st : zS4) : Nat × (Nat → Int32) := mps n mk (decide (r % 2 = 0)) st.1 (mnr n mk st.1 (zcp st.1 st.2.1 st.2.2.2) st.1)
def mrb (n : Nat) (mk : Nat → Int32) (r : Nat) (st : zS4) : Bool := msl n (mr1 n mk r st).1 (mr1 n mk r st).2 st.1 st.2.1
def mr2 (n : Nat) (mk : Nat → Int32) (r : Nat) (st : zS4) : zS4 := if mrb n mk r st = true then ((mr1 n mk r st).1, zcp (mr1 n mk r st).1 (mr1 n mk r st).2 st.2.1, (mr1 n mk r st).1, (mr1 n mk r st).2) else (st.1, st.2.1, (mr1 n mk r st).1, (mr1 n mk r st).2)
def mrs (n : Nat) (mk : Nat → Int32) : Nat → Nat → Bool → zS4 → zS4
  | 0, _, _, st => st
  | k + 1, r, b, st => if b = true then mrs n mk k (r + 1) (mrb n mk r st) (mr2 n mk r st) else st
def mmz0 (n : Nat) (mk : Nat → Int32) (c0 : Nat) (q0 q2 : Nat → Int32) : Nat × (Nat → Int32) := mps n mk true (mfc n q0 q2 c0).1 (mfc n q0 q2 c0).2
def mmz (n : Nat) (mk : Nat → Int32) (c0 : Nat) (q0 q2 : Nat → Int32) (c3 : Nat) (q3 : Nat → Int32) : zS4 := mrs n mk 8 1 true ((mmz0 n mk c0 q0 q2).1, (mmz0 n mk c0 q0 q2).2, c3, q3)
