def bt (x : Int32) (i : Nat) : Bool := x.toBitVec.getLsbD i
theorem b_ext {x y : Int32} (h : ∀ i, i < 32 → bt x i = bt y i) : x = y := Int32.toBitVec_inj.mp (BitVec.eq_of_getLsbD_eq (fun i hi => h i hi))
theorem b_or (x y : Int32) (i : Nat) : bt (x ||| y) i = (bt x i || bt y i) := by unfold bt; rw [Int32.toBitVec_or, BitVec.getLsbD_or]
theorem b_and (x y : Int32) (i : Nat) : bt (x &&& y) i = (bt x i && bt y i) := by unfold bt; rw [Int32.toBitVec_and, BitVec.getLsbD_and]
theorem b_xor (x y : Int32) (i : Nat) : bt (x ^^^ y) i = (bt x i ^^ bt y i) := by unfold bt; rw [Int32.toBitVec_xor, BitVec.getLsbD_xor]
theorem b_big {x : Int32} {i : Nat} (h : 32 ≤ i) : bt x i = false := BitVec.getLsbD_of_ge _ _ h
theorem b_m1 : ∀ i, i < 32 → bt (-1) i = true := by decide +kernel
theorem b_0 (i : Nat) : bt 0 i = false := BitVec.getLsbD_zero
theorem s_l : ∀ n, n < 32 → ((nI n &&& 31).toBitVec.smod 32).toNat = n := by decide +kernel
theorem b_shl (n : Nat) (hn : n < 32) (x : Int32) {i : Nat} (hi : i < 32) : bt (x <<< (nI n &&& 31)) i = (decide (n ≤ i) && bt x (i - n)) := by
  unfold bt
  rw [Int32.toBitVec_shiftLeft]
  show (x.toBitVec <<< ((nI n &&& 31).toBitVec.smod 32).toNat).getLsbD i = _
  rw [s_l n hn, BitVec.getLsbD_shiftLeft]
  rcases Nat.lt_or_ge i n with h | h
  · simp [h, Nat.not_le.mpr h]
  · simp [hi, h, Nat.not_lt.mpr h]
theorem b_sshr (n : Nat) (hn : n < 32) (x : Int32) {i : Nat} (hi : i < 32) : bt (x >>> (nI n &&& 31)) i = if n + i < 32 then bt x (n + i) else bt x 31 := by
  unfold bt
  rw [Int32.toBitVec_shiftRight]
  show (x.toBitVec.sshiftRight ((nI n &&& 31).toBitVec.smod 32).toNat).getLsbD i = _
  rw [s_l n hn, BitVec.getLsbD_sshiftRight, BitVec.msb_eq_getLsbD_last]
  simp [hi]
/-! ===== points' cubes, bit by bit ===== -/
theorem b_1 : ∀ i, i < 32 → bt (nI 1) i = decide (i = 0) := by decide +kernel
theorem b_2 : ∀ i, i < 32 → bt (nI 2) i = decide (i = 1) := by decide +kernel
theorem b_3 : ∀ i, i < 32 → bt (nI 3) i = decide (i < 2) := by decide +kernel
theorem b_sh1 {k j : Nat} (hk : k < 32) (hj : j < 32) : bt (nI 1 <<< (nI k &&& 31)) j = decide (j = k) := by
  rw [b_shl k hk _ hj]
  by_cases h : k ≤ j
  · rw [b_1 _ (by omega), decide_eq_true h, Bool.true_and]
    apply decide_eq_decide.mpr; omega
  · rw [decide_eq_false h, Bool.false_and, decide_eq_false (by omega)]
theorem b_sh3 {k j : Nat} (hk : k < 30) (hj : j < 32) : bt (nI 3 <<< (nI k &&& 31)) j = (decide (j = k) || decide (j = k + 1)) := by
  rw [b_shl k (by omega) _ hj]
  by_cases h : k ≤ j
  · rw [b_3 _ (by omega), decide_eq_true h, Bool.true_and, Bool.eq_iff_iff]
    simp only [Bool.or_eq_true, decide_eq_true_eq]; omega
  · rw [decide_eq_false h, Bool.false_and, decide_eq_false (by omega), decide_eq_false (by omega)]; rfl
/-- one bit by shift and mask -/
theorem b_at1 {x : Int32} {k : Nat} (hk : k < 32) : (x >>> (nI k &&& 31) &&& nI 1 = 0) ↔ bt x k = false := by
  constructor
  · intro h
    have h1 := congrArg (fun z => bt z 0) h
    (try simp only at h1)
    rw [b_and, b_sshr k hk _ (by omega), b_1 _ (by omega), b_0, if_pos (by omega)] at h1
    simpa using h1
  · intro h
    apply b_ext
    intro i hi
    rw [b_and, b_1 _ hi, b_0]
    by_cases e : i = 0
    · subst e
      rw [b_sshr k hk _ (by omega), if_pos (by omega)]
      simp [h]
    · simp [e]
theorem b_at3 {x : Int32} {k : Nat} (hk : k < 30) : (x >>> (nI k &&& 31) &&& nI 3 = nI 3) ↔ (bt x k = true ∧ bt x (k + 1) = true) := by
  constructor
  · intro h
    have h0 := congrArg (fun z => bt z 0) h
    have h1 := congrArg (fun z => bt z 1) h
    (try simp only at h0 h1)
    rw [b_and, b_sshr k (by omega) _ (by omega), b_3 _ (by omega), if_pos (by omega)] at h0 h1
    exact ⟨by simpa using h0, by simpa using h1⟩
  · rintro ⟨h1, h2⟩
    apply b_ext
    intro i hi
    rw [b_and, b_3 _ hi]
    by_cases e : i < 2
    · rw [b_sshr k (by omega) _ hi, if_pos (by omega)]
      rcases (show i = 0 ∨ i = 1 by omega) with rfl | rfl
      · simp [h1]
      · simp [h2]
    · simp [e]
theorem zfr_iff {x : Int32} {i : Nat} (hi : i < 8) : (zfr x i = x) ↔ (bt x (2 * i) = true ∧ bt x (2 * i + 1) = true) := by
  constructor
  · intro h
    have h0 := congrArg (fun z => bt z (2 * i)) h
    have h1 := congrArg (fun z => bt z (2 * i + 1)) h
    simp only [zfr] at h0 h1
    rw [b_or, b_sh3 (by omega) (by omega)] at h0 h1
    exact ⟨by simpa using h0, by simpa using h1⟩
  · rintro ⟨h1, h2⟩
    apply b_ext
    intro j hj
    rw [zfr, b_or, b_sh3 (by omega) hj]
    by_cases e1 : j = 2 * i
    · subst e1; simp [h1]
    · by_cases e2 : j = 2 * i + 1
      · subst e2; simp [h2]
      · simp [e1, e2]
theorem zlit_eq {n : Nat} (hn : n ≤ 8) (x : Int32) : zlit n x = mlit n x := by
  refine cnB_congr (fun i hi => ?_)
  have h : (zfr x i = x) ↔ (x >>> (nI (2 * i) &&& 31) &&& nI 3 = nI 3) := (zfr_iff (by omega)).trans (b_at3 (by omega)).symm
  exact congrArg (fun b => !b) (decide_eq_decide.mpr h)
/-- the bits of a point's cube -/
theorem b_mpo {p : Nat} : ∀ (n : Nat), n ≤ 8 → ∀ (s : Int32) (j : Nat), j < 32 → bt (mpo p n s) j = (bt s j || exB n (fun i => decide (j = 2 * i + zb p i))) := by
  intro n
  induction n with
  | zero => intro _ s j hj; simp [mpo, exB]
  | succ n ih =>
    intro hn s j hj
    have hz := zb_le p n
    rw [mpo, b_or, ih (by omega) s j hj, b_sh1 (by omega) hj, exB, Bool.or_assoc]
theorem mpo_or {p n : Nat} (hn : n ≤ 8) (s : Int32) : mpo p n s = s ||| mpo p n 0 := by
  apply b_ext
  intro j hj
  rw [b_or, b_mpo n hn s j hj, b_mpo n hn 0 j hj, b_0, Bool.false_or]
theorem mpo_ne {p n : Nat} (hn : n ≤ 8) (h1 : 1 ≤ n) : ¬ mpo p n 0 = 0 := by
  intro h
  have hz := zb_le p 0
  have h2 := congrArg (fun z => bt z (2 * 0 + zb p 0)) h
  (try simp only at h2)
  rw [b_mpo n hn 0 _ (by omega), b_0, Bool.false_or, exB_t (i := 0) (by omega) (by simp)] at h2
  cases h2
/-- a point is in a cube: by its own cube, and input by input -/
theorem zin_mpo {p n : Nat} (hn : n ≤ 8) (x : Int32) : decide (mpo p n 0 &&& (x ^^^ -1) = 0) = zin n p x := by
  have key : (mpo p n 0 &&& (x ^^^ -1) = 0) ↔ ∀ i, i < n → bt x (2 * i + zb p i) = true := by
    constructor
    · intro h i hi
      have hz := zb_le p i
      have h2 := congrArg (fun z => bt z (2 * i + zb p i)) h
      (try simp only at h2)
      rw [b_and, b_mpo n hn 0 _ (by omega), b_0, Bool.false_or, exB_t (i := i) hi (by simp), b_xor, b_m1 _ (by omega)] at h2
      simpa using h2
    · intro h
      apply b_ext
      intro j hj
      rw [b_and, b_mpo n hn 0 j hj, b_0, Bool.false_or, b_xor, b_m1 _ hj]
      cases he : exB n (fun i => decide (j = 2 * i + zb p i)) with
      | false => rfl
      | true =>
        obtain ⟨i, hi, e⟩ := exB_iff.mp he
        have e' : j = 2 * i + zb p i := of_decide_eq_true e
        rw [e', h i hi]; rfl
  have k2 : zin n p x = true ↔ ∀ i, i < n → bt x (2 * i + zb p i) = true := by
    constructor
    · intro h i hi
      have hz := zb_le p i
      cases hb : bt x (2 * i + zb p i) with
      | true => rfl
      | false =>
        rw [zin, exB_t (i := i) hi (decide_eq_true ((b_at1 (by omega)).mpr hb))] at h
        cases h
    · intro h
      rw [zin, exB_f (fun i hi => ?_)]
      · rfl
      · have hz := zb_le p i
        exact decide_eq_false (fun e => by have e2 := (b_at1 (by omega)).mp e; rw [h i hi] at e2; cases e2)
  rw [Bool.eq_iff_iff, decide_eq_true_iff, k2]
  exact key
-- signs
theorem b_neg {x : Int32} : x < 0 ↔ bt x 31 = true := by
  rw [Int32.lt_iff_toInt_lt]
  show x.toBitVec.toInt < 0 ↔ _
  unfold bt
  rw [← BitVec.msb_eq_getLsbD_last x.toBitVec, BitVec.msb_eq_toInt, decide_eq_true_iff]
theorem nn_fr {x : Int32} {i : Nat} (hi : i < 8) (h : ¬ x < 0) : ¬ zfr x i < 0 := by
  rw [b_neg] at *
  rw [zfr, b_or, b_sh3 (by omega) (by omega), decide_eq_false (by omega), decide_eq_false (by omega)]
  simpa using h
theorem nn_mpo {p n : Nat} (hn : n ≤ 8) : ¬ mpo p n 0 < 0 := by
  rw [b_neg, b_mpo n hn 0 _ (by omega), b_0, Bool.false_or, exB_f (fun i hi => ?_)]
  · decide
  · have hz := zb_le p i
    exact decide_eq_false (by omega)
theorem nn_or {x y : Int32} (hx : ¬ x < 0) (hy : ¬ y < 0) : ¬ (x ||| y) < 0 := by
  rw [b_neg] at *
  rw [b_or]
  simp only [Bool.not_eq_true] at hx hy
  rw [hx, hy]; decide
theorem or_0 {x y : Int32} (h : x ||| y = 0) : x = 0 ∧ y = 0 := by
  constructor
  · apply b_ext; intro i hi
    have h1 := congrArg (fun z => bt z i) h
    (try simp only at h1)
    rw [b_or, b_0] at h1
    rw [b_0]
    cases hx : bt x i with
    | false => rfl
    | true => rw [hx] at h1; cases h1
  · apply b_ext; intro i hi
    have h1 := congrArg (fun z => bt z i) h
    (try simp only at h1)
    rw [b_or, b_0] at h1
    rw [b_0]
    cases hx : bt y i with
    | false => rfl
    | true => rw [hx, Bool.or_true] at h1; cases h1
-- the points' cubes as they are made
theorem z2_sh : ∀ i, i < 8 → nI 2 <<< (nI (2 * i) &&& 31) = nI 1 <<< (nI (2 * i + 1) &&& 31) := by
  intro i h
  rcases (show i = 0 ∨ i = 1 ∨ i = 2 ∨ i = 3 ∨ i = 4 ∨ i = 5 ∨ i = 6 ∨ i = 7 by omega) with rfl | rfl | rfl | rfl | rfl | rfl | rfl | rfl <;> decide
theorem zb_lo {i q : Nat} (h : q < 2 ^ i) : zb q i = 0 := by simp only [zb]; rw [Nat.div_eq_of_lt h]
theorem zb_hi {i q : Nat} (h : q < 2 ^ i) : zb (2 ^ i + q) i = 1 := by
  simp only [zb]
  rw [Nat.add_div_left _ (Nat.pow_pos (by omega)), Nat.div_eq_of_lt h]
theorem zb_add {i j q : Nat} (h : j < i) : zb (2 ^ i + q) j = zb q j := by
  simp only [zb]
  obtain ⟨d, rfl⟩ : ∃ d, i = j + (d + 1) := ⟨i - j - 1, by omega⟩
  rw [show 2 ^ (j + (d + 1)) = 2 ^ j * (2 * 2 ^ d) by rw [Nat.pow_add, Nat.pow_succ, Nat.mul_comm (2 ^ d) 2], Nat.mul_add_div (Nat.pow_pos (by omega))]
  rw [Nat.mul_add_mod]
theorem mpo_add {i q : Nat} : ∀ (n : Nat), n ≤ i → mpo (2 ^ i + q) n 0 = mpo q n 0 := by
  intro n
  induction n with
  | zero => intro _; rfl
  | succ n ih => intro h; rw [mpo, mpo, ih (by omega), zb_add (by omega)]
theorem zpf_eq {f : Nat → Int32} : ∀ (n : Nat), n ≤ 8 → ∀ p, p < zN n → zpf f n p = mpo p n 0 := by
  intro n
  induction n with
  | zero =>
    intro _ p hp
    obtain rfl : p = 0 := by simp only [zN] at hp; omega
    simp [zpf, upd, mpo, nI_0]
  | succ n ih =>
    intro hn p hp
    have h2 : zN (n + 1) = zN n + zN n := by simp only [zN, Nat.pow_succ]; omega
    rw [zpf, zpo]
    by_cases h : p < zN n
    · rw [if_pos h, ih (by omega) p h, mpo, zb_lo h]
      rfl
    · rw [if_neg h, if_pos (by omega)]
      obtain ⟨q, rfl⟩ : ∃ q, p = zN n + q := ⟨p - zN n, by omega⟩
      have hq : q < zN n := by omega
      rw [Nat.add_sub_cancel_left, ih (by omega) q hq, mpo, z2_sh n (by omega)]
      show _ = mpo (2 ^ n + q) n 0 ||| nI 1 <<< (nI (2 * n + zb (2 ^ n + q) n) &&& 31)
      rw [mpo_add n (Nat.le_refl _), zb_hi hq]
