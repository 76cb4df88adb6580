/-! The relation between the class's state and the reference's, kept by every call; and the answers, equal. -/
def zRel (n : Nat) (fp fk mk g : Nat → Int32) (ss : Nat → Nat) (c0 c1 c2 c3 : Nat) (f0 f1 f2 : Nat → Int32) : Prop :=
  (1 ≤ n ∧ n ≤ 8) ∧ (c0 ≤ 24 ∧ c1 ≤ 24 ∧ c2 ≤ 24 ∧ c3 ≤ 24) ∧ (ss 0 = c0 ∧ ss 1 = c1 ∧ ss 2 = c2 ∧ ss 3 ≤ 24) ∧ (zAg c0 f0 (zv g 0) ∧ zAg c1 f1 (zv g 1) ∧ zAg c2 f2 (zv g 2)) ∧ (zNn c0 f0 ∧ zNn c1 f1 ∧ zNn c2 f2) ∧
    (∀ p, p < zN n → fp p = mpo p n 0) ∧ (∀ p, p < zN n → fk p = zMk n c0 f0 c1 f1 p) ∧ ∀ p, p < zN n → mk p = zMk n c0 f0 c1 f1 p
section REL
variable {n : Nat} {fp fk mk g : Nat → Int32} {ss : Nat → Nat} {c0 c1 c2 c3 : Nat} {f0 f1 f2 : Nat → Int32}
theorem r_ok (r : zRel n fp fk mk g ss c0 c1 c2 c3 f0 f1 f2) : zOk n fp fk mk := ⟨r.1.1, r.1.2, r.2.2.2.2.2.1, fun p hp => (r.2.2.2.2.2.2.1 p hp).trans (r.2.2.2.2.2.2.2 p hp).symm⟩
theorem r_inL {t : Nat} {a b : Nat → Int32} (h : zAg t a b) (p : Nat) : zM_inL n t a p = zM_inL n t b p := exB_congr (fun k hk => by (try simp only); rw [h k hk])
theorem r_mk {t0 t1 : Nat} {a b u v : Nat → Int32} (h : zAg t0 a b) (h2 : zAg t1 u v) (p : Nat) : zMk n t0 a t1 u p = zMk n t0 b t1 v p := by
  simp only [zMk]
  rw [r_inL h, r_inL h2]
theorem zMk_c {t0 t1 p : Nat} {q0 q1 : Nat → Int32} {A B : Bool} (h1 : zM_inL n t1 q1 p = A) (h0 : zM_inL n t0 q0 p = B) : zMk n t0 q0 t1 q1 p = if A = true then nI 2 else if B = true then nI 1 else nI 0 := by
  subst h1
  subst h0
  rfl
theorem r_mk0 {a b : Nat → Int32} (p : Nat) : zMk n 0 a 0 b p = nI 0 := by
  rw [zMk_c (A := false) (B := false) rfl rfl]
  rfl
theorem r_z256 {p : Nat} (hp : p < 256) : zmk 256 (fun _ => true) (nI 0) fk p = nI 0 := by
  simp only [zmk]
  rw [if_pos (by rw [decide_eq_true hp]; rfl)]
theorem r_start (hk1 : 1 ≤ n) (hk : n ≤ 8) (hc3 : c3 ≤ 24) : zRel n (zpf fp n) (zmk 256 (fun _ => true) (nI 0) fk) (zcp (zN n) (zMk n 0 (zv g 0) 0 (zv g 1)) mk) g (zz0 4 ss) 0 0 0 c3 f0 f1 f2 := by
  have hz : ∀ (f : Nat → Int32), zAg 0 f f := fun f j hj => absurd hj (Nat.not_lt_zero _)
  have h256 := zN_le hk
  refine ⟨⟨hk1, hk⟩, ⟨by omega, by omega, by omega, hc3⟩, ⟨rfl, rfl, rfl, by show 0 ≤ 24; omega⟩, ⟨fun j hj => absurd hj (Nat.not_lt_zero _), fun j hj => absurd hj (Nat.not_lt_zero _), fun j hj => absurd hj (Nat.not_lt_zero _)⟩, ⟨fun j hj => absurd hj (Nat.not_lt_zero _), fun j hj => absurd hj (Nat.not_lt_zero _), fun j hj => absurd hj (Nat.not_lt_zero _)⟩, zpf_eq n hk, fun p hp => ?_, fun p hp => ?_⟩
  · rw [r_mk0, r_z256 (by omega)]
  · rw [r_mk0]
    simp only [zcp, if_pos hp]
    exact r_mk0 p
theorem r_inS {t p : Nat} {f : Nat → Int32} {x : Int32} : zM_inL n (t + 1) (upd f t x) p = (zM_inL n t f p || zin n p x) := by
  simp only [zM_inL]
  rw [exB]
  have h1 : exB t (fun k => zin n p (upd f t x k)) = exB t (fun k => zin n p (f k)) := exB_congr (fun k hk => by simp only [upd]; rw [if_neg (by omega)])
  have h2 : upd f t x t = x := by simp [upd]
  rw [h1, h2]
theorem r_nn {x : Int32} (hq : (!decide (x < 0) && !decide (nI (4 ^ n) ≤ x)) = true) : ¬ x < 0 := by
  simp only [Bool.and_eq_true, Bool.not_eq_true', decide_eq_false_iff_not] at hq
  exact hq.1
theorem r_agS {t : Nat} {f q : Nat → Int32} {x : Int32} (h : zAg t f q) : zAg (t + 1) (upd f t x) (upd q t x) := fun k hk => by
  simp only [upd]
  split
  · rfl
  · exact h k (by omega)
theorem r_nnS {t : Nat} {f : Nat → Int32} {x : Int32} (h : zNn t f) (hx : ¬ x < 0) : zNn (t + 1) (upd f t x) := fun k hk => by
  simp only [upd]
  split
  · exact hx
  · exact h k (by omega)
theorem r_vu {g : Nat → Int32} {L t : Nat} {x : Int32} : zv (upd g (24 * L + t) x) L = upd (zv g L) t x := by
  funext k
  simp only [zv, upd]
  by_cases h : k = t
  · rw [if_pos h, if_pos (by omega)]
  · rw [if_neg h, if_neg (by omega)]
theorem r_vn {g : Nat → Int32} {L M t c : Nat} {x : Int32} {f : Nat → Int32} (hn : L ≠ M) (ht : t < 24) (hc : c ≤ 24) (h : zAg c f (zv g M)) : zAg c f (zv (upd g (24 * L + t) x) M) := fun k hk => by
  rw [h k hk]
  simp only [zv, upd]
  rw [if_neg (by omega)]
theorem r_on (r : zRel n fp fk mk g ss c0 c1 c2 c3 f0 f1 f2) {x : Int32} (hq : (!decide (x < 0) && !decide (nI (4 ^ n) ≤ x)) = true) (hc : c0 < 24) :
    zRel n fp (zmk (zN n) (fun q => decide (fk q = 0) && zX_in fp x q) (nI 1) fk) (zcp (zN n) (zMk n (c0 + 1) (zv (upd g (24 * 0 + ss 0) x) 0) c1 (zv (upd g (24 * 0 + ss 0) x) 1)) mk) (upd g (24 * 0 + ss 0) x) (va_up (va_up ss 0 (ss 0 + 1)) 2 0) (c0 + 1) c1 0 c3 (upd f0 c0 x) f1 f2 := by
  have O := r_ok r
  obtain ⟨hn, ⟨b0, b1, b2, b3⟩, ⟨s0, s1, s2, s3⟩, ⟨a0, a1, a2⟩, ⟨n0, n1, n2⟩, e1, e2, e3⟩ := r
  have A0 : zAg (c0 + 1) (upd f0 c0 x) (zv (upd g (24 * 0 + ss 0) x) 0) := by rw [s0, r_vu]; exact r_agS a0
  have A1 : zAg c1 f1 (zv (upd g (24 * 0 + ss 0) x) 1) := r_vn (by decide) (by omega) b1 a1
  refine ⟨hn, ⟨by omega, b1, by omega, b3⟩, ⟨by show ss 0 + 1 = c0 + 1; omega, s1, rfl, s3⟩, ⟨A0, A1, fun j hj => absurd hj (Nat.not_lt_zero _)⟩, ⟨r_nnS n0 (r_nn hq), n1, fun j hj => absurd hj (Nat.not_lt_zero _)⟩, e1, fun p hp => ?_, fun p hp => ?_⟩
  · simp only [zmk, decide_eq_true hp, Bool.true_and]
    rw [k_in O hp, e2 p hp]
    obtain ⟨A, hA⟩ : ∃ A, zM_inL n c1 f1 p = A := ⟨_, rfl⟩
    obtain ⟨B, hB⟩ : ∃ B, zM_inL n c0 f0 p = B := ⟨_, rfl⟩
    obtain ⟨C, hC⟩ : ∃ C, zin n p x = C := ⟨_, rfl⟩
    rw [zMk_c hA hB, zMk_c hA (show zM_inL n (c0 + 1) (upd f0 c0 x) p = (B || C) by rw [r_inS, hB, hC]), hC]
    cases A <;> cases B <;> cases C <;> decide
  · simp only [zcp, if_pos hp]
    exact (r_mk A0 A1 p).symm
theorem r_dc (r : zRel n fp fk mk g ss c0 c1 c2 c3 f0 f1 f2) {x : Int32} (hq : (!decide (x < 0) && !decide (nI (4 ^ n) ≤ x)) = true) (hc : c1 < 24) :
    zRel n fp (zmk (zN n) (zX_in fp x) (nI 2) fk) (zcp (zN n) (zMk n c0 (zv (upd g (24 * 1 + ss 1) x) 0) (c1 + 1) (zv (upd g (24 * 1 + ss 1) x) 1)) mk) (upd g (24 * 1 + ss 1) x) (va_up (va_up ss 1 (ss 1 + 1)) 2 0) c0 (c1 + 1) 0 c3 f0 (upd f1 c1 x) f2 := by
  have O := r_ok r
  obtain ⟨hn, ⟨b0, b1, b2, b3⟩, ⟨s0, s1, s2, s3⟩, ⟨a0, a1, a2⟩, ⟨n0, n1, n2⟩, e1, e2, e3⟩ := r
  have A1 : zAg (c1 + 1) (upd f1 c1 x) (zv (upd g (24 * 1 + ss 1) x) 1) := by rw [s1, r_vu]; exact r_agS a1
  have A0 : zAg c0 f0 (zv (upd g (24 * 1 + ss 1) x) 0) := r_vn (by decide) (by omega) b0 a0
  refine ⟨hn, ⟨b0, by omega, by omega, b3⟩, ⟨s0, by show ss 1 + 1 = c1 + 1; omega, rfl, s3⟩, ⟨A0, A1, fun j hj => absurd hj (Nat.not_lt_zero _)⟩, ⟨n0, r_nnS n1 (r_nn hq), fun j hj => absurd hj (Nat.not_lt_zero _)⟩, e1, fun p hp => ?_, fun p hp => ?_⟩
  · simp only [zmk, decide_eq_true hp, Bool.true_and]
    rw [k_in O hp, e2 p hp]
    obtain ⟨A, hA⟩ : ∃ A, zM_inL n c1 f1 p = A := ⟨_, rfl⟩
    obtain ⟨B, hB⟩ : ∃ B, zM_inL n c0 f0 p = B := ⟨_, rfl⟩
    obtain ⟨C, hC⟩ : ∃ C, zin n p x = C := ⟨_, rfl⟩
    rw [zMk_c hA hB, zMk_c (show zM_inL n (c1 + 1) (upd f1 c1 x) p = (A || C) by rw [r_inS, hA, hC]) hB, hC]
    cases A <;> cases B <;> cases C <;> decide
  · simp only [zcp, if_pos hp]
    exact (r_mk A0 A1 p).symm
theorem r_minR (r : zRel n fp fk mk g ss c0 c1 c2 c3 f0 f1 f2) (f3 fh : Nat → Int32) : zR5 (zmz n fp fk c0 f0 f2 c3 f3 fh) (mmz n mk c0 (zv g 0) (zv g 2) (ss 3) (zv g 3)) :=
  k_min (r_ok r) r.2.1.1 r.2.1.2.2.2 r.2.2.1.2.2.2 r.2.2.2.1.1 r.2.2.2.2.1.1
theorem r_min (r : zRel n fp fk mk g ss c0 c1 c2 c3 f0 f1 f2) (f3 fh : Nat → Int32) :
    zRel n fp fk mk (zput 3 (mmz n mk c0 (zv g 0) (zv g 2) (ss 3) (zv g 3)).2.2.2 (zput 2 (mmz n mk c0 (zv g 0) (zv g 2) (ss 3) (zv g 3)).2.1 g)) (va_up (va_up ss 2 (mmz n mk c0 (zv g 0) (zv g 2) (ss 3) (zv g 3)).1) 3 (mmz n mk c0 (zv g 0) (zv g 2) (ss 3) (zv g 3)).2.2.1)
      c0 c1 (zmz n fp fk c0 f0 f2 c3 f3 fh).1 (zmz n fp fk c0 f0 f2 c3 f3 fh).2.2.1 f0 f1 (zmz n fp fk c0 f0 f2 c3 f3 fh).2.1 := by
  obtain ⟨h1, h2, h3, h4, h5, h6⟩ := r_minR r f3 fh
  generalize zmz n fp fk c0 f0 f2 c3 f3 fh = X at *
  generalize mmz n mk c0 (zv g 0) (zv g 2) (ss 3) (zv g 3) = Y at *
  obtain ⟨hn, ⟨b0, b1, b2, b3⟩, ⟨s0, s1, s2, s3⟩, ⟨a0, a1, a2⟩, ⟨n0, n1, n2⟩, e1, e2, e3⟩ := r
  refine ⟨hn, ⟨b0, b1, h2, h5⟩, ⟨s0, s1, h1.symm, h6⟩, ⟨fun k hk => ?_, fun k hk => ?_, fun k hk => ?_⟩, ⟨n0, n1, h4⟩, e1, e2, e3⟩
  · rw [a0 k hk]
    show _ = zput 3 _ (zput 2 _ g) (24 * 0 + k)
    rw [zput_ne (by omega) (by decide), zput_ne (by omega) (by decide)]
    rfl
  · rw [a1 k hk]
    show _ = zput 3 _ (zput 2 _ g) (24 * 1 + k)
    rw [zput_ne (by omega) (by decide), zput_ne (by omega) (by decide)]
    rfl
  · rw [h3 k hk]
    show _ = zput 3 _ (zput 2 _ g) (24 * 2 + k)
    rw [zput_ne (by omega) (by decide), zput_at (by omega)]
-- the answers
theorem r_mis (O : zOk n fp fk mk) {c : Nat} {f q : Nat → Int32} (h : zAg c f q) : cnB (zN n) (fun p => !zX_inL fp c f p) = cnB (zN n) (fun p => !zM_inL n c q p) := cnB_congr (fun p hp => by (try simp only); rw [k_inL O h hp])
theorem r_same (O : zOk n fp fk mk) {c t : Nat} {f q u v : Nat → Int32} (h : zAg c f q) (h2 : zAg t u v) : (!exB (zN n) (fun p => !decide (fk p = nI 2) && (zX_inL fp c f p != zX_inL fp t u p))) = !exB (zN n) (fun p => !decide (mk p = nI 2) && (zM_inL n c q p != zM_inL n t v p)) := by
  rw [exB_congr (fun p hp => by (try simp only); rw [k_inL O h hp, k_inL O h2 hp, O.2.2.2 p hp])]
theorem r_holds (O : zOk n fp fk mk) {c : Nat} {f q : Nat → Int32} (h : zAg c f q) (z : Int32) : ((!decide (z < 0) && !decide (nI (zN n) ≤ z)) && zX_inL fp c f z.toNatClampNeg) = ((!decide (z < 0) && !decide (nI (zN n) ≤ z)) && zM_inL n c q z.toNatClampNeg) := by
  cases hb : (!decide (z < 0) && !decide (nI (zN n) ≤ z)) with
  | false => rfl
  | true =>
    simp only [Bool.and_eq_true, Bool.not_eq_true', decide_eq_false_iff_not] at hb
    have h256 := zN_le O.2.1
    rcases pk_ix z (n := zN n) (by omega) with h1 | h1 | ⟨j, hj, rfl⟩
    · exact absurd h1 hb.1
    · exact absurd h1 hb.2
    · rw [nI_clamp (by omega), k_inL O h hj]
theorem r_kind (O : zOk n fp fk mk) (z : Int32) : (if (!decide (z < 0) && !decide (nI (zN n) ≤ z)) = true then fk z.toNatClampNeg else -1) = if (!decide (z < 0) && !decide (nI (zN n) ≤ z)) = true then mk z.toNatClampNeg else -1 := by
  split
  · rename_i hb
    simp only [Bool.and_eq_true, Bool.not_eq_true', decide_eq_false_iff_not] at hb
    have h256 := zN_le O.2.1
    rcases pk_ix z (n := zN n) (by omega) with h1 | h1 | ⟨j, hj, rfl⟩
    · exact absurd h1 hb.1
    · exact absurd h1 hb.2
    · rw [nI_clamp (by omega), O.2.2.2 j hj]
  · rfl
theorem r_prime (O : zOk n fp fk mk) {c : Nat} {f q : Nat → Int32} (hc : c ≤ 24) (h : zAg c f q) (hN : zNn c f) (z : Int32) :
    (!decide (zat c f z = -1) && (!zvoid n (zat c f z) && (!ztch n fk (zX_in fp) (zat c f z) && !zcg n (ztch n fk (zX_in fp)) (zat c f z)))) = (!decide (zat c q z < 0) && (!zvoid n (zat c q z) && (!mtch n mk (zat c q z) && !zcg n (mtch n mk) (zat c q z)))) := by
  rw [← k_at hc h, k_tch O]
  have e : (zat c f z = -1) ↔ zat c f z < 0 := by
    constructor
    · intro e; rw [e]; decide
    · intro e
      simp only [zat] at *
      by_cases h1 : z < 0
      · rw [if_pos h1]
      · rw [if_neg h1] at *
        by_cases h2 : nI c ≤ z
        · rw [if_pos h2]
        · rw [if_neg h2] at *
          exfalso
          rcases pk_ix z (n := c) (by omega) with h3 | h3 | ⟨j, hj, rfl⟩
          · exact h1 h3
          · exact h2 h3
          · rw [nI_clamp (by omega)] at e
            exact hN j hj e
  rw [decide_eq_decide.mpr e]
theorem r_widen (O : zOk n fp fk mk) (x : Int32) : (if ((!decide (x < 0) && !decide (nI (4 ^ n) ≤ x)) && (!zvoid n x && !ztch n fk (zX_in fp) x)) = true then zwd n (ztch n fk (zX_in fp)) true n x else -1) = if ((!decide (x < 0) && !decide (nI (4 ^ n) ≤ x)) && (!zvoid n x && !mtch n mk x)) = true then mwd n (mtch n mk) true n x else -1 := by
  rw [k_tch O, k_wd]
end REL
-- which arguments
theorem l_list (x : Int32) : x = nI 0 ∨ x = nI 1 ∨ x = nI 2 ∨ ((x.toInt < 0 ∨ 2 < x.toInt) ∧ (!decide (x < 0) && !decide (nI 2 < x)) = false) := by
  rcases pk_ix x (n := 3) (by decide) with h | h | ⟨j, hj, rfl⟩
  · right; right; right
    have h1 : x.toInt < 0 := by rw [Int32.lt_iff_toInt_lt] at h; exact h
    exact ⟨Or.inl h1, by rw [decide_eq_true h]; rfl⟩
  · right; right; right
    have h1 : (3 : Int) ≤ x.toInt := by rw [Int32.le_iff_toInt_le] at h; exact h
    have h2 : nI 2 < x := by rw [Int32.lt_iff_toInt_lt]; show (2 : Int) < x.toInt; omega
    exact ⟨Or.inr (by omega), by rw [decide_eq_true h2]; simp⟩
  · rcases (show j = 0 ∨ j = 1 ∨ j = 2 by omega) with rfl | rfl | rfl
    · left; rfl
    · right; left; rfl
    · right; right; left; rfl
theorem l_start (x : Int32) : (∃ k, 1 ≤ k ∧ k ≤ 8 ∧ x = nI k) ∨ (x < nI 1 ∨ nI 8 < x) := by
  rcases pk_ix x (n := 9) (by decide) with h | h | ⟨j, hj, rfl⟩
  · right; left
    rw [Int32.lt_iff_toInt_lt] at *
    show x.toInt < (1 : Int)
    have h : x.toInt < (0 : Int) := h
    omega
  · right; right
    rw [Int32.le_iff_toInt_le] at h
    rw [Int32.lt_iff_toInt_lt]
    show (8 : Int) < x.toInt
    have h : (9 : Int) ≤ x.toInt := h
    omega
  · by_cases h : j = 0
    · subst h; right; left; decide
    · left; exact ⟨j, by omega, by omega, rfl⟩
theorem l_cmp {L i : Nat} (hL : L ≤ 1536) (hi : i ≤ L) : (nI L - nI 3 < nI i) ↔ L < i + 3 := by
  rw [Int32.lt_iff_toInt_lt, pk_sub_toInt (by omega) (by omega), nI_toInt (by omega)]
  omega
