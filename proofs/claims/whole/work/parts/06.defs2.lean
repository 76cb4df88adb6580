/-! What the class's own methods do with the lists and the holders. -/
def zown (n : Nat) (fp fk fh : Nat → Int32) (x : Int32) : Int32 := orI (zN n) (fun p => decide (fk p = nI 1) && (decide (fh p = nI 1) && zX_in fp x p)) fp
def zhc (N : Nat) (fp f h0 : Nat → Int32) : Nat → Nat → Int32
  | 0 => h0
  | k + 1 => zad N (zX_in fp (f k)) (nI 1) (zhc N fp f h0 k)
def zdr (n : Nat) (fp fk : Nat → Int32) : Nat → Nat × (Nat → Int32) × (Nat → Int32) → Nat × (Nat → Int32) × (Nat → Int32)
  | 0, st => st
  | k + 1, st => zdr n fp fk k (if zown n fp fk st.2.2 (st.2.1 k) = 0 then (st.1 - 1, zsh st.2.1 k st.1, zad (zN n) (zX_in fp (st.2.1 k)) (-1) st.2.2) else st)
def zdn_ (n : Nat) (fp fk : Nat → Int32) (c : Nat) (f fh : Nat → Int32) : Nat × (Nat → Int32) × (Nat → Int32) := zdr n fp fk c (c, f, zhc (zN n) fp f (zmk 256 (fun _ => true) (nI 0) fh) c)
def znr (n : Nat) (fp fk f h0 : Nat → Int32) : Nat → (Nat → Int32) × (Nat → Int32)
  | 0 => (f, h0)
  | k + 1 => (upd (znr n fp fk f h0 k).1 k (zown n fp fk (znr n fp fk f h0 k).2 ((znr n fp fk f h0 k).1 k)), zad (zN n) (zX_in fp (zown n fp fk (znr n fp fk f h0 k).2 ((znr n fp fk f h0 k).1 k))) (nI 1) (zad (zN n) (zX_in fp ((znr n fp fk f h0 k).1 k)) (-1) (znr n fp fk f h0 k).2))
def znw (n : Nat) (fp fk : Nat → Int32) (c : Nat) (f fh : Nat → Int32) : (Nat → Int32) × (Nat → Int32) := znr n fp fk f (zhc (zN n) fp f (zmk 256 (fun _ => true) (nI 0) fh) c) c
def zps (n : Nat) (fp fk : Nat → Int32) (asc : Bool) (c : Nat) (f fh : Nat → Int32) : Nat × (Nat → Int32) × (Nat → Int32) := zdn_ n fp fk c (zcp c (fun q => zwd n (ztch n fk (zX_in fp)) asc n (f q)) f) fh
theorem zdr_le {n : Nat} {fp fk : Nat → Int32} : ∀ (k : Nat) (st : Nat × (Nat → Int32) × (Nat → Int32)), (zdr n fp fk k st).1 ≤ st.1 := by
  intro k
  induction k with
  | zero => intro st; exact Nat.le_refl _
  | succ k ih =>
    intro st
    rw [zdr]
    refine Nat.le_trans (ih _) ?_
    split
    · exact Nat.sub_le _ _
    · exact Nat.le_refl _
theorem zps_le {n : Nat} {fp fk : Nat → Int32} {asc : Bool} {c : Nat} {f fh : Nat → Int32} : (zps n fp fk asc c f fh).1 ≤ c := zdr_le c _
/-- the points' cubes: input i is added to the first p of the 2^i points and their doubles -/
def zpo (i p : Nat) (g : Nat → Int32) : Nat → Int32 := fun q => if q < p then g q ||| nI 1 <<< (nI (2 * i) &&& 31) else if zN i ≤ q ∧ q < zN i + p then g (q - zN i) ||| nI 2 <<< (nI (2 * i) &&& 31) else g q
def zpf (f : Nat → Int32) : Nat → Nat → Int32
  | 0 => upd f 0 (nI 0)
  | i + 1 => zpo i (zN i) (zpf f i)
theorem zN_half {i : Nat} (h : i < 8) : zN i ≤ 128 := Nat.pow_le_pow_right (n := 2) (by omega) (show i ≤ 7 by omega)
theorem zpo_0 {i : Nat} {g : Nat → Int32} : zpo i 0 g = g := by
  funext q
  simp only [zpo]
  rw [if_neg (by omega), if_neg (by omega)]
theorem zpo_at {i p : Nat} {g : Nat → Int32} (h : p < zN i) : zpo i p g p = g p := by
  simp only [zpo]
  rw [if_neg (by omega), if_neg (by omega)]
theorem zpo_s {i p : Nat} {g : Nat → Int32} (h : p < zN i) : upd (upd (zpo i p g) (p + zN i) (g p ||| nI 2 <<< (nI (2 * i) &&& 31))) p (g p ||| nI 1 <<< (nI (2 * i) &&& 31)) = zpo i (p + 1) g := by
  funext q
  by_cases e1 : q = p
  · subst e1
    simp only [upd, zpo, if_true]
    rw [if_pos (by omega)]
  · by_cases e2 : q = p + zN i
    · subst e2
      simp only [upd, zpo, if_true, if_neg e1]
      rw [if_neg (by omega), if_pos (by omega), Nat.add_sub_cancel]
    · simp only [upd, zpo, if_neg e1, if_neg e2]
      by_cases h1 : q < p
      · rw [if_pos h1, if_pos (by omega)]
      · rw [if_neg h1, if_neg (show ¬ q < p + 1 by omega)]
        by_cases h2 : zN i ≤ q ∧ q < zN i + p
        · rw [if_pos h2, if_pos (by omega)]
        · rw [if_neg h2, if_neg (by omega)]
/-- the cubes of the first k places of f0 that are not void, behind each other -/
def zfc (n : Nat) (f0 f2 : Nat → Int32) : Nat → Nat × (Nat → Int32)
  | 0 => (0, f2)
  | k + 1 => if zvoid n (f0 k) = true then zfc n f0 f2 k else ((zfc n f0 f2 k).1 + 1, upd (zfc n f0 f2 k).2 (zfc n f0 f2 k).1 (f0 k))
theorem zfc_le {n : Nat} {f0 f2 : Nat → Int32} : ∀ k, (zfc n f0 f2 k).1 ≤ k := by
  intro k
  induction k with
  | zero => exact Nat.le_refl _
  | succ k ih =>
    rw [zfc]
    split
    · exact Nat.le_succ_of_le ih
    · exact Nat.succ_le_succ ih
/-- one list's cubes fewer, or as many and fewer literals -/
def zsm (n c : Nat) (f : Nat → Int32) (c2 : Nat) (f2 : Nat → Int32) : Bool := if c = c2 then decide (zlits n c f < zlits n c2 f2) else decide (c < c2)
/-- a round: the state is COVER (2), the trial list (3), the holders -/
abbrev zS5 : Type := Nat × (Nat → Int32) × Nat × (Nat → Int32) × (Nat → Int32)
def zr1 (n : Nat) (fp fk : Nat → Int32) (r : Nat) (st : zS5) : Nat × (Nat → Int32) × (Nat → Int32) := zps n fp fk (decide (r % 2 = 0)) st.1 (znw n fp fk st.1 (zcp st.1 st.2.1 st.2.2.2.1) st.2.2.2.2).1 (znw n fp fk st.1 (zcp st.1 st.2.1 st.2.2.2.1) st.2.2.2.2).2
def zrb (n : Nat) (fp fk : Nat → Int32) (r : Nat) (st : zS5) : Bool := zsm n (zr1 n fp fk r st).1 (zr1 n fp fk r st).2.1 st.1 st.2.1
def zr2 (n : Nat) (fp fk : Nat → Int32) (r : Nat) (st : zS5) : zS5 := if zrb n fp fk r st = true then ((zr1 n fp fk r st).1, zcp (zr1 n fp fk r st).1 (zr1 n fp fk r st).2.1 st.2.1, (zr1 n fp fk r st).1, (zr1 n fp fk r st).2.1, (zr1 n fp fk r st).2.2) else (st.1, st.2.1, (zr1 n fp fk r st).1, (zr1 n fp fk r st).2.1, (zr1 n fp fk r st).2.2)
/-- the rounds from r on, k of them at most -/
def zrs (n : Nat) (fp fk : Nat → Int32) : Nat → Nat → Bool → zS5 → zS5
  | 0, _, _, st => st
  | k + 1, r, b, st => if b = true then zrs n fp fk k (r + 1) (zrb n fp fk r st) (zr2 n fp fk r st) else st
def zmz0 (n : Nat) (fp fk : Nat → Int32) (c0 : Nat) (f0 f2 fh : Nat → Int32) : Nat × (Nat → Int32) × (Nat → Int32) := zps n fp fk true (zfc n f0 f2 c0).1 (zfc n f0 f2 c0).2 fh
def zmz (n : Nat) (fp fk : Nat → Int32) (c0 : Nat) (f0 f2 : Nat → Int32) (c3 : Nat) (f3 fh : Nat → Int32) : zS5 := zrs n fp fk 8 1 true ((zmz0 n fp fk c0 f0 f2 fh).1, (zmz0 n fp fk c0 f0 f2 fh).2.1, c3, f3, (zmz0 n fp fk c0 f0 f2 fh).2.2)
theorem zmod2 : ∀ r, r ≤ 8 → nI r - nI r / nI 2 * nI 2 = nI (r % 2) := fun r h => pk_rem (by omega) (by decide) (by decide)
