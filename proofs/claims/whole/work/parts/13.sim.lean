/-! The class and the reference compute the same: their states side by side. -/
def zAg (c : Nat) (f q : Nat → Int32) : Prop := ∀ k, k < c → f k = q k
def zNn (c : Nat) (f : Nat → Int32) : Prop := ∀ k, k < c → ¬ f k < 0
def zOk (n : Nat) (fp fk mk : Nat → Int32) : Prop := 1 ≤ n ∧ n ≤ 8 ∧ (∀ p, p < zN n → fp p = mpo p n 0) ∧ ∀ p, p < zN n → fk p = mk p
theorem k_in {n : Nat} {fp fk mk : Nat → Int32} (O : zOk n fp fk mk) {p : Nat} (hp : p < zN n) (x : Int32) : zX_in fp x p = zin n p x := by
  rw [← zin_mpo O.2.1, zX_in, O.2.2.1 p hp]
theorem k_tch {n : Nat} {fp fk mk : Nat → Int32} (O : zOk n fp fk mk) : ztch n fk (zX_in fp) = mtch n mk := by
  funext x
  exact exB_congr (fun p hp => by (try simp only); rw [k_in O hp, O.2.2.2 p hp])
theorem k_wd {n : Nat} {T : Int32 → Bool} {asc : Bool} (x : Int32) : ∀ k, zwd n T asc k x = mwd n T asc k x := by
  intro k
  induction k with
  | zero => rfl
  | succ k ih =>
    rw [zwd, mwd, ih]
    cases hT : T (zfr (mwd n T asc k x) (zord n asc k)) with
    | true => rw [if_neg (by simp), if_pos rfl]
    | false =>
      rw [if_neg (show ¬ false = true by decide)]
      by_cases h : zfr (mwd n T asc k x) (zord n asc k) = mwd n T asc k x
      · rw [if_neg (by simp [h]), h]
      · rw [if_pos (by simp [h])]
theorem k_nnwd {n : Nat} {T : Int32 → Bool} {asc : Bool} {x : Int32} (hn : n ≤ 8) (hx : ¬ x < 0) : ∀ k, k ≤ n → ¬ zwd n T asc k x < 0 := by
  intro k
  induction k with
  | zero => intro _; exact hx
  | succ k ih =>
    intro hk
    have h1 := ih (by omega)
    rw [zwd]
    split
    · exact nn_fr (by simp only [zord]; split <;> omega) h1
    · exact h1
theorem k_inL {n : Nat} {fp fk mk : Nat → Int32} (O : zOk n fp fk mk) {c : Nat} {f q : Nat → Int32} (h : zAg c f q) {p : Nat} (hp : p < zN n) : zX_inL fp c f p = zM_inL n c q p :=
  exB_congr (fun k hk => by (try simp only); rw [k_in O hp, h k hk])
theorem k_lits {n c : Nat} {f q : Nat → Int32} (hn : n ≤ 8) (h : zAg c f q) : zlits n c f = mlits n c q := smN_congr (fun k hk => by (try simp only); rw [zlit_eq hn, h k hk])
theorem k_at {c : Nat} {f q : Nat → Int32} (hc : c ≤ 24) (h : zAg c f q) (z : Int32) : zat c f z = zat c q z := by
  simp only [zat]
  split
  · rfl
  · rename_i h1
    split
    · rfl
    · rename_i h2
      rcases pk_ix z (n := c) (by omega) with h3 | h3 | ⟨j, hj, rfl⟩
      · exact absurd h3 h1
      · exact absurd h3 h2
      · rw [nI_clamp (by omega)]; exact h j hj
-- counting
theorem cnB_0 {t : Nat} {P : Nat → Bool} : cnB t P = 0 ↔ ∀ j, j < t → P j = false := by
  induction t with
  | zero => simp [cnB]
  | succ t ih =>
    simp only [cnB]
    constructor
    · intro h j hj
      have h1 := ih.mp (by omega)
      by_cases e : j = t
      · subst e
        cases hP : P j with
        | false => rfl
        | true => rw [hP] at h; simp at h
      · exact h1 j (by omega)
    · intro h
      rw [ih.mpr (fun j hj => h j (by omega)), h t (by omega)]
      rfl
theorem cnB_sh {P : Nat → Bool} {k : Nat} : ∀ t, k < t → cnB t P = cnB (t - 1) (fun j => P (if k ≤ j then j + 1 else j)) + (if P k = true then 1 else 0) := by
  intro t
  induction t with
  | zero => intro h; omega
  | succ t ih =>
    intro h
    rw [cnB, Nat.add_sub_cancel]
    by_cases e : k = t
    · subst e
      congr 1
      exact cnB_congr (fun j hj => by (try simp only); rw [if_neg (by omega)])
    · rw [ih (by omega)]
      obtain ⟨u, rfl⟩ : ∃ u, t = u + 1 := ⟨t - 1, by omega⟩
      rw [Nat.add_sub_cancel, cnB, if_pos (show k ≤ u by omega)]
      omega
theorem cnB_upd {P : Int32 → Bool} {f : Nat → Int32} {k : Nat} {y : Int32} : ∀ t, k < t → cnB t (fun j => P (upd f k y j)) + (if P (f k) = true then 1 else 0) = cnB t (fun j => P (f j)) + (if P y = true then 1 else 0) := by
  intro t
  induction t with
  | zero => intro h; omega
  | succ t ih =>
    intro h
    rw [cnB, cnB]
    by_cases e : k = t
    · subst e
      have h1 : cnB k (fun j => P (upd f k y j)) = cnB k (fun j => P (f j)) := cnB_congr (fun j hj => by simp only [upd]; rw [if_neg (by omega)])
      rw [h1]
      simp only [upd, if_true]
      omega
    · have h1 := ih (by omega)
      have h2 : upd f k y t = f t := by simp only [upd]; rw [if_neg (by omega)]
      rw [h2]
      omega
theorem cnB_one {t k : Nat} {P : Nat → Bool} (hk : k < t) (hP : P k = true) : cnB t P = 1 ↔ exB t (fun j => !decide (j = k) && P j) = false := by
  rw [cnB_sh t hk, if_pos hP]
  constructor
  · intro h
    have h1 := cnB_0.mp (show cnB (t - 1) (fun j => P (if k ≤ j then j + 1 else j)) = 0 by omega)
    refine exB_f (fun j hj => ?_)
    by_cases e : j = k
    · simp [e]
    · by_cases hlt : j < k
      · have := h1 j (by omega)
        rw [if_neg (by omega)] at this
        simp [this]
      · have := h1 (j - 1) (by omega)
        rw [if_pos (by omega), show j - 1 + 1 = j by omega] at this
        simp [this]
  · intro h
    have h1 : cnB (t - 1) (fun j => P (if k ≤ j then j + 1 else j)) = 0 := by
      refine cnB_0.mpr (fun j hj => ?_)
      cases hb : P (if k ≤ j then j + 1 else j) with
      | false => rfl
      | true =>
        exfalso
        have h2 := exB_t (n := t) (i := if k ≤ j then j + 1 else j) (P := fun j => !decide (j = k) && P j) (by split <;> omega) (by
          simp only [hb, Bool.and_true, Bool.not_eq_true', decide_eq_false_iff_not]
          split <;> omega)
        rw [h] at h2
        cases h2
    omega
/-- for each point in how many cubes of the list it is -/
def zH (n : Nat) (fp : Nat → Int32) (c : Nat) (f H : Nat → Int32) : Prop := ∀ p, p < zN n → H p = nI (cnB c (fun k => zX_in fp (f k) p))
theorem k_zad {N : Nat} {C : Nat → Bool} {v : Int32} {f : Nat → Int32} {p : Nat} (hp : p < N) : zad N C v f p = if C p = true then f p + v else f p := by
  simp only [zad, decide_eq_true hp, Bool.true_and]
theorem k_zhc {n : Nat} {fp f fh : Nat → Int32} (hn : n ≤ 8) : ∀ k, zH n fp k f (zhc (zN n) fp f (zmk 256 (fun _ => true) (nI 0) fh) k) := by
  intro k
  induction k with
  | zero =>
    intro p hp
    have := zN_le hn
    simp only [zhc, zmk, cnB]
    rw [if_pos (by simp; omega)]
  | succ k ih =>
    intro p hp
    rw [zhc, k_zad hp, ih p hp, cnB]
    split
    · rw [nI_add]
    · rfl
/-- the points that only cube k of the list holds -/
theorem k_own {n : Nat} {fp fk mk : Nat → Int32} (O : zOk n fp fk mk) {t k : Nat} {F H Q : Nat → Int32} (hA : zAg t F Q) (hH : zH n fp t F H) (hk : k < t) (ht : t ≤ 24) {p : Nat} (hp : p < zN n) :
    (decide (fk p = nI 1) && (decide (H p = nI 1) && zX_in fp (F k) p)) = mow n mk t Q k p := by
  rw [mow, O.2.2.2 p hp]
  congr 1
  rw [← hA k hk, ← k_in O hp]
  cases hin : zX_in fp (F k) p with
  | false => simp
  | true =>
    rw [Bool.and_true, Bool.true_and, hH p hp]
    have h1 := cnB_one (P := fun j => zX_in fp (F j) p) hk hin
    have h2 : man n t Q k p = exB t (fun j => !decide (j = k) && zX_in fp (F j) p) := exB_congr (fun j hj => by (try simp only); rw [k_in O hp, hA j hj])
    have h3 := cnB_le t (fun j => zX_in fp (F j) p)
    rw [h2, Bool.eq_iff_iff, decide_eq_true_iff, nI_eq (by omega) (by omega), h1]
    simp
theorem k_or0 {C : Nat → Bool} {F : Nat → Int32} : ∀ N, (∀ p, p < N → ¬ F p = 0) → (orI N C F = 0 ↔ exB N C = false) := by
  intro N
  induction N with
  | zero => intro _; simp [orI, exB]
  | succ N ih =>
    intro h
    have h1 := ih (fun p hp => h p (by omega))
    rw [orI, exB]
    cases hC : C N with
    | true =>
      rw [if_pos rfl, Bool.or_true]
      constructor
      · intro h2; exact absurd (or_0 h2).2 (h N (by omega))
      · intro h2; cases h2
    | false => rw [if_neg (by decide), Bool.or_false]; exact h1
theorem k_own0 {n : Nat} {fp fk mk : Nat → Int32} (O : zOk n fp fk mk) {t k : Nat} {F H Q : Nat → Int32} (hA : zAg t F Q) (hH : zH n fp t F H) (hk : k < t) (ht : t ≤ 24) : zown n fp fk H (F k) = 0 ↔ mnd n mk t Q k = false := by
  rw [zown, k_or0 _ (fun p hp => by rw [O.2.2.1 p hp]; exact mpo_ne O.2.1 O.1), mnd, exB_congr (fun p hp => k_own O hA hH hk ht hp)]
theorem k_orm {n : Nat} {fp fk mk : Nat → Int32} (O : zOk n fp fk mk) {C E : Nat → Bool} : ∀ N, N ≤ zN n → (∀ p, p < N → C p = E p) → orI N C fp = msm n E N := by
  intro N
  induction N with
  | zero => intro _ _; rfl
  | succ N ih =>
    intro hN h
    rw [orI, msm, ih (by omega) (fun p hp => h p (by omega)), h N (by omega), mpo_or O.2.1, O.2.2.1 N (by omega)]
theorem k_ownm {n : Nat} {fp fk mk : Nat → Int32} (O : zOk n fp fk mk) {t k : Nat} {F H Q : Nat → Int32} (hA : zAg t F Q) (hH : zH n fp t F H) (hk : k < t) (ht : t ≤ 24) : zown n fp fk H (F k) = msm n (mow n mk t Q k) (zN n) :=
  k_orm O _ (Nat.le_refl _) (fun p hp => k_own O hA hH hk ht hp)
theorem k_nnown {n : Nat} {fp fk mk : Nat → Int32} (O : zOk n fp fk mk) {C : Nat → Bool} : ∀ N, N ≤ zN n → ¬ orI N C fp < 0 := by
  intro N
  induction N with
  | zero => intro _; show ¬ (0 : Int32) < 0; decide
  | succ N ih =>
    intro hN
    rw [orI]
    split
    · exact nn_or (ih (by omega)) (by rw [O.2.2.1 N (by omega)]; exact nn_mpo O.2.1)
    · exact ih (by omega)
theorem k_sh {F : Nat → Int32} {k t j : Nat} (h : j + 1 < t) : zsh F k t j = F (if k ≤ j then j + 1 else j) := by
  simp only [zsh]
  by_cases hk : k ≤ j
  · rw [if_pos ⟨hk, h⟩, if_pos hk]
  · rw [if_neg (by omega), if_neg hk]
/-- what comes behind a pass over a list -/
theorem k_drop {n : Nat} {fp fk mk : Nat → Int32} (O : zOk n fp fk mk) : ∀ (k t : Nat) (F H Q : Nat → Int32), k ≤ t → t ≤ 24 → zAg t F Q → zNn t F → zH n fp t F H →
    (zdr n fp fk k (t, F, H)).1 = (mdr n mk k (t, Q)).1 ∧ zAg (zdr n fp fk k (t, F, H)).1 (zdr n fp fk k (t, F, H)).2.1 (mdr n mk k (t, Q)).2 ∧ zNn (zdr n fp fk k (t, F, H)).1 (zdr n fp fk k (t, F, H)).2.1 := by
  intro k
  induction k with
  | zero => intro t F H Q _ _ hA hN _; exact ⟨rfl, hA, hN⟩
  | succ k ih =>
    intro t F H Q hk ht hA hN hH
    rw [zdr, mdr]
    have h0 := k_own0 O hA hH (show k < t by omega) ht
    simp only
    cases hm : mnd n mk t Q k with
    | true =>
      rw [if_pos rfl, if_neg (fun e => by rw [h0.mp e] at hm; cases hm)]
      exact ih t F H Q (by omega) ht hA hN hH
    | false =>
      rw [if_neg (show ¬ false = true by decide), if_pos (h0.mpr hm)]
      refine ih (t - 1) (zsh F k t) _ (zsh Q k t) (by omega) (by omega) (fun j hj => ?_) (fun j hj => ?_) (fun p hp => ?_)
      · rw [k_sh (by omega), k_sh (by omega)]
        exact hA _ (by split <;> omega)
      · rw [k_sh (by omega)]
        exact hN _ (by split <;> omega)
      · rw [k_zad hp, hH p hp]
        have h1 := cnB_sh (P := fun j => zX_in fp (F j) p) t (show k < t by omega)
        have h2 : cnB (t - 1) (fun j => zX_in fp (zsh F k t j) p) = cnB (t - 1) (fun j => zX_in fp (F (if k ≤ j then j + 1 else j)) p) := cnB_congr (fun j hj => by (try simp only); rw [k_sh (by omega)])
        rw [h2]
        cases hin : zX_in fp (F k) p with
        | true =>
          rw [hin, if_pos rfl] at h1
          rw [if_pos rfl, h1, sb_m1 (by omega), Nat.add_sub_cancel]
        | false =>
          rw [hin, if_neg (show ¬ false = true by decide)] at h1
          rw [if_neg (show ¬ false = true by decide), h1, Nat.add_zero]
theorem k_pass {n : Nat} {fp fk mk : Nat → Int32} (O : zOk n fp fk mk) {asc : Bool} {c : Nat} {f q fh : Nat → Int32} (hc : c ≤ 24) (hA : zAg c f q) (hN : zNn c f) :
    (zps n fp fk asc c f fh).1 = (mps n mk asc c q).1 ∧ zAg (zps n fp fk asc c f fh).1 (zps n fp fk asc c f fh).2.1 (mps n mk asc c q).2 ∧ zNn (zps n fp fk asc c f fh).1 (zps n fp fk asc c f fh).2.1 := by
  refine k_drop O c c _ _ _ (Nat.le_refl _) hc (fun k hk => ?_) (fun k hk => ?_) (k_zhc O.2.1 c)
  · simp only [zcp, if_pos hk]
    rw [k_wd, k_tch O, hA k hk]
  · simp only [zcp, if_pos hk]
    exact k_nnwd O.2.1 (hN k hk) n (Nat.le_refl _)
theorem k_narrow {n : Nat} {fp fk mk : Nat → Int32} (O : zOk n fp fk mk) {c : Nat} {f q h0 : Nat → Int32} (hc : c ≤ 24) (hA : zAg c f q) (hN : zNn c f) (hH : zH n fp c f h0) : ∀ k, k ≤ c →
    zAg c (znr n fp fk f h0 k).1 (mnr n mk c q k) ∧ zNn c (znr n fp fk f h0 k).1 ∧ zH n fp c (znr n fp fk f h0 k).1 (znr n fp fk f h0 k).2 := by
  intro k
  induction k with
  | zero => intro _; exact ⟨hA, hN, hH⟩
  | succ k ih =>
    intro hk
    obtain ⟨i1, i2, i3⟩ := ih (by omega)
    rw [znr, mnr]
    have hy := k_ownm O i1 i3 (show k < c by omega) hc
    refine ⟨fun j hj => ?_, fun j hj => ?_, fun p hp => ?_⟩
    · simp only [upd]
      split
      · exact hy
      · exact i1 j hj
    · simp only [upd]
      split
      · exact k_nnown O _ (Nat.le_refl _)
      · exact i2 j hj
    · simp only
      rw [k_zad hp, k_zad hp, i3 p hp]
      have h1 := cnB_upd (P := fun x => zX_in fp x p) (f := (znr n fp fk f h0 k).1) (k := k) (y := zown n fp fk (znr n fp fk f h0 k).2 ((znr n fp fk f h0 k).1 k)) c (by omega)
      (try simp only at h1)
      generalize cnB c (fun j => zX_in fp (upd (znr n fp fk f h0 k).1 k (zown n fp fk (znr n fp fk f h0 k).2 ((znr n fp fk f h0 k).1 k)) j) p) = A at h1 ⊢
      generalize cnB c (fun j => zX_in fp ((znr n fp fk f h0 k).1 j) p) = B at h1 ⊢
      cases ha : zX_in fp ((znr n fp fk f h0 k).1 k) p <;> cases hb : zX_in fp (zown n fp fk (znr n fp fk f h0 k).2 ((znr n fp fk f h0 k).1 k)) p
      · rw [ha, hb] at h1; simp at h1; simp [h1]
      · rw [ha, hb] at h1; simp at h1; simp [h1, nI_add]
      · rw [ha, hb] at h1; simp at h1
        rw [if_neg (by decide), if_pos rfl, sb_m1 (by omega)]
        congr 1; omega
      · rw [ha, hb] at h1; simp at h1
        by_cases hB : 0 < B
        · rw [if_pos rfl, if_pos rfl, sb_m1 hB, nI_add]
          congr 1; omega
        · obtain rfl : B = 0 := by omega
          rw [if_pos rfl, if_pos rfl, h1]; decide
theorem k_less {n c c2 : Nat} {f q f2 q2 : Nat → Int32} (hn : n ≤ 8) (h1 : zAg c f q) (h2 : zAg c2 f2 q2) : zsm n c f c2 f2 = msl n c q c2 q2 := by
  rw [zsm, msl, k_lits hn h1, k_lits hn h2]
  by_cases h : c = c2
  · rw [if_pos h, decide_eq_true h, decide_eq_false (show ¬ c < c2 by omega)]; simp
  · rw [if_neg h, decide_eq_false h]; simp
/-- the states of a minimizing, side by side -/
def zR5 (a : zS5) (b : zS4) : Prop := a.1 = b.1 ∧ a.1 ≤ 24 ∧ zAg a.1 a.2.1 b.2.1 ∧ zNn a.1 a.2.1 ∧ a.2.2.1 ≤ 24 ∧ b.2.2.1 ≤ 24
theorem k_r1 {n : Nat} {fp fk mk : Nat → Int32} (O : zOk n fp fk mk) {r : Nat} {a : zS5} {b : zS4} (h : zR5 a b) :
    (zr1 n fp fk r a).1 = (mr1 n mk r b).1 ∧ zAg (zr1 n fp fk r a).1 (zr1 n fp fk r a).2.1 (mr1 n mk r b).2 ∧ zNn (zr1 n fp fk r a).1 (zr1 n fp fk r a).2.1 := by
  obtain ⟨h1, h2, h3, h4, -, -⟩ := h
  rw [zr1, mr1, ← h1]
  have e : zAg a.1 (zcp a.1 a.2.1 a.2.2.2.1) (zcp a.1 b.2.1 b.2.2.2) := fun k hk => by simp only [zcp, if_pos hk]; exact h3 k hk
  have e2 : zNn a.1 (zcp a.1 a.2.1 a.2.2.2.1) := fun k hk => by simp only [zcp, if_pos hk]; exact h4 k hk
  obtain ⟨i1, i2, i3⟩ := k_narrow O h2 e e2 (k_zhc (fh := a.2.2.2.2) O.2.1 a.1) a.1 (Nat.le_refl _)
  exact k_pass O h2 i1 i2
theorem k_r2 {n : Nat} {fp fk mk : Nat → Int32} (O : zOk n fp fk mk) {r : Nat} {a : zS5} {b : zS4} (h : zR5 a b) : zrb n fp fk r a = mrb n mk r b ∧ zR5 (zr2 n fp fk r a) (mr2 n mk r b) := by
  obtain ⟨i1, i2, i3⟩ := k_r1 (r := r) O h
  have hb : zrb n fp fk r a = mrb n mk r b := by
    rw [zrb, mrb, ← i1, ← h.1]
    exact k_less O.2.1 i2 h.2.2.1
  refine ⟨hb, ?_⟩
  have hle : (zr1 n fp fk r a).1 ≤ a.1 := zps_le
  have hle2 : (zr1 n fp fk r a).1 ≤ 24 := Nat.le_trans hle h.2.1
  have hle3 : (mr1 n mk r b).1 ≤ 24 := by rw [← i1]; exact hle2
  rw [zr2, mr2, ← hb]
  split
  · refine ⟨i1, hle2, fun k hk => ?_, fun k hk => ?_, hle2, hle3⟩
    · show zcp _ _ _ k = zcp _ _ _ k
      have hk : k < (zr1 n fp fk r a).1 := hk
      simp only [zcp, if_pos hk, ← i1]
      exact i2 k hk
    · show ¬ zcp _ _ _ k < 0
      have hk : k < (zr1 n fp fk r a).1 := hk
      simp only [zcp, if_pos hk]
      exact i3 k hk
  · exact ⟨h.1, h.2.1, h.2.2.1, h.2.2.2.1, hle2, hle3⟩
theorem k_rs {n : Nat} {fp fk mk : Nat → Int32} (O : zOk n fp fk mk) : ∀ (k r : Nat) (b : Bool) (x : zS5) (y : zS4), zR5 x y → zR5 (zrs n fp fk k r b x) (mrs n mk k r b y) := by
  intro k
  induction k with
  | zero => intro r b x y h; exact h
  | succ k ih =>
    intro r b x y h
    rw [zrs, mrs]
    obtain ⟨h1, h2⟩ := k_r2 (r := r) O h
    split
    · rw [← h1]; exact ih _ _ _ _ h2
    · exact h
theorem k_fill {n : Nat} {f0 q0 f2 q2 : Nat → Int32} {c : Nat} (h : zAg c f0 q0) (hN : zNn c f0) : ∀ k, k ≤ c → (zfc n f0 f2 k).1 = (mfc n q0 q2 k).1 ∧ zAg (zfc n f0 f2 k).1 (zfc n f0 f2 k).2 (mfc n q0 q2 k).2 ∧ zNn (zfc n f0 f2 k).1 (zfc n f0 f2 k).2 := by
  intro k
  induction k with
  | zero => intro _; exact ⟨rfl, fun j hj => absurd hj (Nat.not_lt_zero _), fun j hj => absurd hj (Nat.not_lt_zero _)⟩
  | succ k ih =>
    intro hk
    obtain ⟨i1, i2, i3⟩ := ih (by omega)
    rw [mfc] at *
    rw [zfc, zfc, ← h k (by omega)]
    split
    · exact ⟨i1, i2, i3⟩
    · refine ⟨by rw [i1], fun j hj => ?_, fun j hj => ?_⟩
      · have hj : j < (zfc n f0 f2 k).1 + 1 := hj
        simp only [upd, ← i1]
        split
        · rfl
        · exact i2 j (by omega)
      · have hj : j < (zfc n f0 f2 k).1 + 1 := hj
        simp only [upd]
        split
        · exact hN k (by omega)
        · exact i3 j (by omega)
theorem k_min {n : Nat} {fp fk mk : Nat → Int32} (O : zOk n fp fk mk) {c0 c3 t3 : Nat} {f0 f2 f3 fh q0 q2 q3 : Nat → Int32} (hc : c0 ≤ 24) (hc3 : c3 ≤ 24) (ht3 : t3 ≤ 24) (h : zAg c0 f0 q0) (hN : zNn c0 f0) : zR5 (zmz n fp fk c0 f0 f2 c3 f3 fh) (mmz n mk c0 q0 q2 t3 q3) := by
  rw [zmz, mmz]
  apply k_rs O
  obtain ⟨i1, i2, i3⟩ := k_fill (n := n) (f2 := f2) (q2 := q2) h hN c0 (Nat.le_refl _)
  have hz := @zfc_le n f0 f2 c0
  obtain ⟨j1, j2, j3⟩ := k_pass (asc := true) (fh := fh) O (show (zfc n f0 f2 c0).1 ≤ 24 by omega) i2 i3
  have e : mmz0 n mk c0 q0 q2 = mps n mk true (zfc n f0 f2 c0).1 (mfc n q0 q2 c0).2 := by rw [mmz0, i1]
  rw [e]
  exact ⟨j1, Nat.le_trans (Nat.le_trans zps_le hz) hc, j2, j3, hc3, ht3⟩
