set_option maxHeartbeats 4000000 in
set_option maxRecDepth 100000 in
theorem c_X2_inAnother (l : Launch) (D : va_G) (kA : ClassId) (me : Nat → Nat) (n : Nat) (g mk : Nat → Int32) (ss : Nat → Nat) (hn : n ≤ 8) (L t : Nat) (q : Nat → Int32) (hL3 : L < 4) (ht : ss L = t) (ht24 : t ≤ 24) (hq : ∀ j, j < 24 → g (24 * L + j) = q j) (k p : Nat) (hp : p < 256) (hk : k < t) : vz_M l yX2_inAnother wsX2_inAnother 1 23 [.ref (me 0), .int (nI p), .int (nI L), .int (nI k)] D kA [(me 0, .inr (2, [.ref (me 1), .ref (me 2), .ref (me 3), .int (nI n)])), (me 1, .inl (kA, 96, .inl g)), (me 2, .inl (kA, 4, .inl (fun j => nI (ss j)))), (me 3, .inl (kA, 256, .inl mk))] (some (.int (vz_b (man n t q k p)))) := by
  refine vz_start (cc := cX2_inAnother) (maxL := 5) (ret := (some .boolean)) (own := RX2) (by decide) rfl rfl (Nat.le_of_ble_eq_true rfl) ?_
  intro pz ez sz mz below meth cz args Q ls hargs hx hb hml hown hts hr hlocks hP hK hQ hl
  have hcf : CallFix pz mz cz cX2_inAnother 5 sz args wsX2_inAnother RX2 := ⟨hx, hb, hml, hown, hts⟩
  have hi0 : ∀ w ∈ u_ws RX2 TX2 4, w ∈ wsX2_inAnother := by decide +kernel
  have hf7 : (Cond.fieldLink RX2 7 "CubeMinModel" "cubes" "[I").before args sz = true := hts _ (by decide +kernel)
  have hf13 : (Cond.fieldLink RX2 13 "CubeMinModel" "sizes" "[I").before args sz = true := hts _ (by decide +kernel)
  have hl : lv_has ls 5 [(0, .ref (me 0)), (1, .int (nI p)), (2, .int (nI L)), (3, .int (nI k))] := hl
  refine lv_iconst (v := nI 0) hx hb dX2_inAnother_0 (by decide) ?_
  refine lv_istore (lv' := [(4, .int (nI 0)), (0, .ref (me 0)), (1, .int (nI p)), (2, .int (nI L)), (3, .int (nI k))]) hx hb dX2_inAnother_1 hl (by decide) rfl (fun ls hl => ?_)
  have lp1 : ∀ (dz : Nat) (i : Nat) (ls : Array Slot), (t - i) < dz → (i ≤ t) → (∀ j, j < i → (!decide (j = k) && zin n p (q j)) = false) → lv_has ls 5 [(0, .ref (me 0)), (1, .int (nI p)), (2, .int (nI L)), (3, .int (nI k)), (4, .int (nI i))] → W pz l ez (vz_R 1 23) sz mz args below meth cz sz.heap [] 0 0 Q (F0 mz 3 ls []) := by
    intro dz
    induction dz with
    | zero => intro i ls hd h1 h2 hl; exact absurd hd (Nat.not_lt_zero _)
    | succ dz ih1 =>
      intro i ls hd h1 h2 hl
      refine lv_iload hx hb dX2_inAnother_3 (lv_at hl 4 rfl) ?_
      refine lv_aload_n hx hb dX2_inAnother_5 rfl (lv_at hl 0 rfl) ?_
      refine va_get (D := D) (ci := 2) (v := .ref (me 2)) (C := RX2) (T := TX2) (N := 4) hx hb hts hi0 hown hK hP 0 rfl rfl 1 (by decide) hf13 (fun _ h9 => h9) rfl dX2_inAnother_6 ?_
      refine lv_iload_n hx hb dX2_inAnother_9 rfl (lv_at hl 2 rfl) ?_
      refine vz_ald hx hb hK hP 2 rfl (by omega) (Nat.le_of_ble_eq_true rfl) dX2_inAnother_10 ?_
      refine vz_top (y := (nI t)) (congrArg nI ht) ?_
      refine vz_cge (tgt := 48) hx hb dX2_inAnother_11 (by decide) (by omega) (by omega) (fun c_11 => ?_) (fun c_11 => ?_)
      · skip
        refine lv_iconst (v := nI 0) hx hb dX2_inAnother_48 (by decide) ?_
        exact vz_iret hx hb hr hlocks hQ (rfl) dX2_inAnother_49 ((congrArg vz_b (exB_f (P := fun j => !decide (j = k) && zin n p (q j)) (fun j hj => h2 j (by omega)))).symm)
      · skip
        refine lv_iload hx hb dX2_inAnother_14 (lv_at hl 4 rfl) ?_
        refine lv_iload_n hx hb dX2_inAnother_16 rfl (lv_at hl 3 rfl) ?_
        refine vz_ceq (tgt := 42) hx hb dX2_inAnother_17 (by decide) (by omega) (by omega) (fun c_17 => ?_) (fun c_17 => ?_)
        · skip
          refine lv_iinc (v := (nI (i + 1))) (lv' := [(4, .int (nI (i + 1))), (0, .ref (me 0)), (1, .int (nI p)), (2, .int (nI L)), (3, .int (nI k))]) hx hb dX2_inAnother_42 hl (k := 4) rfl (nI_1 _) (by decide) rfl (fun ls hl => ?_)
          refine lv_goto (tgt := 3) hx hb dX2_inAnother_45 (by decide) ?_
          exact ih1 (i + 1) _ (by omega) (by omega) (lt_sB h2 (by first | (simp [c_17]; done) | (simp [c_37]; done))) (lv_sub hl [1, 2, 3, 4, 0] rfl)
        · skip
          refine lv_aload_n hx hb dX2_inAnother_20 rfl (lv_at hl 0 rfl) ?_
          refine lv_iload_n hx hb dX2_inAnother_21 rfl (lv_at hl 1 rfl) ?_
          refine lv_aload_n hx hb dX2_inAnother_22 rfl (lv_at hl 0 rfl) ?_
          refine va_get (D := D) (ci := 2) (v := .ref (me 1)) (C := RX2) (T := TX2) (N := 4) hx hb hts hi0 hown hK hP 0 rfl rfl 0 (by decide) hf7 (fun _ h9 => h9) rfl dX2_inAnother_23 ?_
          refine lv_bipush (v := nI 24) hx hb dX2_inAnother_26 (by decide) ?_
          refine lv_iload_n hx hb dX2_inAnother_28 rfl (lv_at hl 2 rfl) ?_
          refine vz_mul hx hb dX2_inAnother_29 ?_
          refine lv_iload hx hb dX2_inAnother_30 (lv_at hl 4 rfl) ?_
          refine vz_add hx hb dX2_inAnother_32 ?_
          refine vz_ald hx hb hK hP 1 rfl (by omega) (Nat.le_of_ble_eq_true rfl) dX2_inAnother_33 ?_
          refine vz_top (y := (q i)) (hq i (by omega)) ?_
          refine vz_callV (n := 2) (As := [.int (nI p), .int (q i)]) (rest := []) (q0 := 0) hcf (c_X2_in l D kA me n g mk ss hn p (q i) hp) gX2_inAnother_X2_in rfl hd_X2_in ⟨Nat.le_of_ble_eq_true rfl, Nat.le_of_ble_eq_true rfl⟩ hK (hP.sub [0, 1, 2, 3] rfl) rfl rfl rfl rfl hl.1 rfl (Nat.le_of_ble_eq_true rfl) ⟨Nat.zero_le _, Nat.zero_le _⟩ dX2_inAnother_34 ?_
          refine vz_ifeqB (tgt := 42) hx hb dX2_inAnother_37 (by decide) (fun c_37 => ?_) (fun c_37 => ?_)
          · skip
            refine lv_iinc (v := (nI (i + 1))) (lv' := [(4, .int (nI (i + 1))), (0, .ref (me 0)), (1, .int (nI p)), (2, .int (nI L)), (3, .int (nI k))]) hx hb dX2_inAnother_42 hl (k := 4) rfl (nI_1 _) (by decide) rfl (fun ls hl => ?_)
            refine lv_goto (tgt := 3) hx hb dX2_inAnother_45 (by decide) ?_
            exact ih1 (i + 1) _ (by omega) (by omega) (lt_sB h2 (by first | (simp [c_17]; done) | (simp [c_37]; done))) (lv_sub hl [1, 2, 3, 4, 0] rfl)
          · skip
            refine lv_iconst (v := nI 1) hx hb dX2_inAnother_40 (by decide) ?_
            exact vz_iret hx hb hr hlocks hQ (rfl) dX2_inAnother_41 ((congrArg vz_b (exB_t (P := fun j => !decide (j = k) && zin n p (q j)) c_11 (by simp [c_17, c_37]))).symm)
  exact lp1 _ 0 _ (Nat.lt_succ_self _) (by omega) lt_0B (lv_sub hl [1, 2, 3, 4, 0] rfl)
set_option maxHeartbeats 4000000 in
set_option maxRecDepth 100000 in
theorem c_X2_isNeeded (l : Launch) (D : va_G) (kA : ClassId) (me : Nat → Nat) (n : Nat) (g mk : Nat → Int32) (ss : Nat → Nat) (hn : n ≤ 8) (L t : Nat) (q : Nat → Int32) (hL3 : L < 4) (ht : ss L = t) (ht24 : t ≤ 24) (hq : ∀ j, j < 24 → g (24 * L + j) = q j) (k : Nat) (hk : k < t) : vz_M l yX2_isNeeded wsX2_isNeeded 2 47 [.ref (me 0), .int (nI L), .int (nI k)] D kA [(me 0, .inr (2, [.ref (me 1), .ref (me 2), .ref (me 3), .int (nI n)])), (me 1, .inl (kA, 96, .inl g)), (me 2, .inl (kA, 4, .inl (fun j => nI (ss j)))), (me 3, .inl (kA, 256, .inl mk))] (some (.int (vz_b (mnd n mk t q k)))) := by
  refine vz_start (cc := cX2_isNeeded) (maxL := 4) (ret := (some .boolean)) (own := RX2) (by decide) rfl rfl (Nat.le_of_ble_eq_true rfl) ?_
  intro pz ez sz mz below meth cz args Q ls hargs hx hb hml hown hts hr hlocks hP hK hQ hl
  have hcf : CallFix pz mz cz cX2_isNeeded 4 sz args wsX2_isNeeded RX2 := ⟨hx, hb, hml, hown, hts⟩
  have hi0 : ∀ w ∈ u_ws RX2 TX2 4, w ∈ wsX2_isNeeded := by decide +kernel
  have hf7 : (Cond.fieldLink RX2 7 "CubeMinModel" "cubes" "[I").before args sz = true := hts _ (by decide +kernel)
  have hf16 : (Cond.fieldLink RX2 16 "CubeMinModel" "kinds" "[I").before args sz = true := hts _ (by decide +kernel)
  have hf19 : (Cond.fieldLink RX2 19 "CubeMinModel" "n" "I").before args sz = true := hts _ (by decide +kernel)
  have hl : lv_has ls 4 [(0, .ref (me 0)), (1, .int (nI L)), (2, .int (nI k))] := hl
  have hN := zN_le hn
  refine lv_iconst (v := nI 0) hx hb dX2_isNeeded_0 (by decide) ?_
  refine lv_istore_n (lv' := [(3, .int (nI 0)), (0, .ref (me 0)), (1, .int (nI L)), (2, .int (nI k))]) hx hb dX2_isNeeded_1 rfl hl (by decide) rfl (fun ls hl => ?_)
  have lp1 : ∀ (dz : Nat) (p : Nat) (ls : Array Slot), (zN n - p) < dz → (p ≤ zN n) → (∀ j, j < p → mow n mk t q k j = false) → lv_has ls 4 [(0, .ref (me 0)), (1, .int (nI L)), (2, .int (nI k)), (3, .int (nI p))] → W pz l ez (vz_R 2 47) sz mz args below meth cz sz.heap [] 0 0 Q (F0 mz 2 ls []) := by
    intro dz
    induction dz with
    | zero => intro p ls hd h1 h2 hl; exact absurd hd (Nat.not_lt_zero _)
    | succ dz ih1 =>
      intro p ls hd h1 h2 hl
      refine lv_iload_n hx hb dX2_isNeeded_2 rfl (lv_at hl 3 rfl) ?_
      refine lv_iconst (v := nI 1) hx hb dX2_isNeeded_3 (by decide) ?_
      refine lv_aload_n hx hb dX2_isNeeded_4 rfl (lv_at hl 0 rfl) ?_
      refine va_get (D := D) (ci := 2) (v := .int (nI n)) (C := RX2) (T := TX2) (N := 4) hx hb hts hi0 hown hK hP 0 rfl rfl 3 (by decide) hf19 (fun _ h9 => h9) rfl dX2_isNeeded_5 ?_
      refine lv_ishl hx hb dX2_isNeeded_8 ?_
      refine vz_top (y := (nI (zN n))) (zN_sh n hn) ?_
      refine vz_cge (tgt := 59) hx hb dX2_isNeeded_9 (by decide) (by omega) (by omega) (fun c_9 => ?_) (fun c_9 => ?_)
      · skip
        refine lv_iconst (v := nI 0) hx hb dX2_isNeeded_59 (by decide) ?_
        exact vz_iret hx hb hr hlocks hQ (rfl) dX2_isNeeded_60 ((congrArg vz_b (exB_f (P := mow n mk t q k) (fun j hj => h2 j (by omega)))).symm)
      · skip
        refine lv_aload_n hx hb dX2_isNeeded_12 rfl (lv_at hl 0 rfl) ?_
        refine va_get (D := D) (ci := 2) (v := .ref (me 3)) (C := RX2) (T := TX2) (N := 4) hx hb hts hi0 hown hK hP 0 rfl rfl 2 (by decide) hf16 (fun _ h9 => h9) rfl dX2_isNeeded_13 ?_
        refine lv_iload_n hx hb dX2_isNeeded_16 rfl (lv_at hl 3 rfl) ?_
        refine vz_ald hx hb hK hP 3 rfl (by omega) (Nat.le_of_ble_eq_true rfl) dX2_isNeeded_17 ?_
        refine lv_iconst (v := nI 1) hx hb dX2_isNeeded_18 (by decide) ?_
        refine lv_icmp_ne (tgt := 53) hx hb dX2_isNeeded_19 (by decide) (fun c_19 => ?_) (fun c_19 => ?_)
        · skip
          refine lv_iinc (v := (nI (p + 1))) (lv' := [(3, .int (nI (p + 1))), (0, .ref (me 0)), (1, .int (nI L)), (2, .int (nI k))]) hx hb dX2_isNeeded_53 hl (k := 3) rfl (nI_1 _) (by decide) rfl (fun ls hl => ?_)
          refine lv_goto (tgt := 2) hx hb dX2_isNeeded_56 (by decide) ?_
          exact ih1 (p + 1) _ (by omega) (by omega) (lt_sB h2 (by first | (simp [mow, c_19]; done) | (simp [mow, c_38]; done) | (simp [mow, c_48]; done))) (lv_sub hl [1, 2, 3, 0] rfl)
        · skip
          refine lv_aload_n hx hb dX2_isNeeded_22 rfl (lv_at hl 0 rfl) ?_
          refine lv_iload_n hx hb dX2_isNeeded_23 rfl (lv_at hl 3 rfl) ?_
          refine lv_aload_n hx hb dX2_isNeeded_24 rfl (lv_at hl 0 rfl) ?_
          refine va_get (D := D) (ci := 2) (v := .ref (me 1)) (C := RX2) (T := TX2) (N := 4) hx hb hts hi0 hown hK hP 0 rfl rfl 0 (by decide) hf7 (fun _ h9 => h9) rfl dX2_isNeeded_25 ?_
          refine lv_bipush (v := nI 24) hx hb dX2_isNeeded_28 (by decide) ?_
          refine lv_iload_n hx hb dX2_isNeeded_30 rfl (lv_at hl 1 rfl) ?_
          refine vz_mul hx hb dX2_isNeeded_31 ?_
          refine lv_iload_n hx hb dX2_isNeeded_32 rfl (lv_at hl 2 rfl) ?_
          refine vz_add hx hb dX2_isNeeded_33 ?_
          refine vz_ald hx hb hK hP 1 rfl (by omega) (Nat.le_of_ble_eq_true rfl) dX2_isNeeded_34 ?_
          refine vz_top (y := (q k)) (hq k (by omega)) ?_
          refine vz_callV (n := 2) (As := [.int (nI p), .int (q k)]) (rest := []) (q0 := 0) hcf (c_X2_in l D kA me n g mk ss hn p (q k) (by omega)) gX2_isNeeded_X2_in rfl hd_X2_in ⟨Nat.le_of_ble_eq_true rfl, Nat.le_of_ble_eq_true rfl⟩ hK (hP.sub [0, 1, 2, 3] rfl) rfl rfl rfl rfl hl.1 rfl (Nat.le_of_ble_eq_true rfl) ⟨Nat.zero_le _, Nat.zero_le _⟩ dX2_isNeeded_35 ?_
          refine vz_ifeqB (tgt := 53) hx hb dX2_isNeeded_38 (by decide) (fun c_38 => ?_) (fun c_38 => ?_)
          · skip
            refine lv_iinc (v := (nI (p + 1))) (lv' := [(3, .int (nI (p + 1))), (0, .ref (me 0)), (1, .int (nI L)), (2, .int (nI k))]) hx hb dX2_isNeeded_53 hl (k := 3) rfl (nI_1 _) (by decide) rfl (fun ls hl => ?_)
            refine lv_goto (tgt := 2) hx hb dX2_isNeeded_56 (by decide) ?_
            exact ih1 (p + 1) _ (by omega) (by omega) (lt_sB h2 (by first | (simp [mow, c_19]; done) | (simp [mow, c_38]; done) | (simp [mow, c_48]; done))) (lv_sub hl [1, 2, 3, 0] rfl)
          · skip
            refine lv_aload_n hx hb dX2_isNeeded_41 rfl (lv_at hl 0 rfl) ?_
            refine lv_iload_n hx hb dX2_isNeeded_42 rfl (lv_at hl 3 rfl) ?_
            refine lv_iload_n hx hb dX2_isNeeded_43 rfl (lv_at hl 1 rfl) ?_
            refine lv_iload_n hx hb dX2_isNeeded_44 rfl (lv_at hl 2 rfl) ?_
            refine vz_callV (n := 3) (As := [.int (nI p), .int (nI L), .int (nI k)]) (rest := []) (q0 := 0) hcf (c_X2_inAnother l D kA me n g mk ss hn L t q hL3 ht ht24 hq k p (by omega) hk) gX2_isNeeded_X2_inAnother rfl hd_X2_inAnother ⟨Nat.le_of_ble_eq_true rfl, Nat.le_of_ble_eq_true rfl⟩ hK (hP.sub [0, 1, 2, 3] rfl) rfl rfl rfl rfl hl.1 rfl (Nat.le_of_ble_eq_true rfl) ⟨Nat.zero_le _, Nat.zero_le _⟩ dX2_isNeeded_45 ?_
            refine vz_ifneB (tgt := 53) hx hb dX2_isNeeded_48 (by decide) (fun c_48 => ?_) (fun c_48 => ?_)
            · skip
              refine lv_iinc (v := (nI (p + 1))) (lv' := [(3, .int (nI (p + 1))), (0, .ref (me 0)), (1, .int (nI L)), (2, .int (nI k))]) hx hb dX2_isNeeded_53 hl (k := 3) rfl (nI_1 _) (by decide) rfl (fun ls hl => ?_)
              refine lv_goto (tgt := 2) hx hb dX2_isNeeded_56 (by decide) ?_
              exact ih1 (p + 1) _ (by omega) (by omega) (lt_sB h2 (by first | (simp [mow, c_19]; done) | (simp [mow, c_38]; done) | (simp [mow, c_48]; done))) (lv_sub hl [1, 2, 3, 0] rfl)
            · skip
              refine lv_iconst (v := nI 1) hx hb dX2_isNeeded_51 (by decide) ?_
              exact vz_iret hx hb hr hlocks hQ (rfl) dX2_isNeeded_52 ((congrArg vz_b (exB_t (P := mow n mk t q k) (i := p) (by omega) (by simp [mow, c_19, c_38, c_48]))).symm)
  exact lp1 _ 0 _ (Nat.lt_succ_self _) (by omega) lt_0B (lv_sub hl [1, 2, 3, 0] rfl)
set_option maxHeartbeats 4000000 in
set_option maxRecDepth 100000 in
theorem c_X2_pass (l : Launch) (D : va_G) (kA : ClassId) (me : Nat → Nat) (n : Nat) (g mk : Nat → Int32) (ss : Nat → Nat) (hn : n ≤ 8) (L t : Nat) (q : Nat → Int32) (hL3 : L < 4) (ht : ss L = t) (ht24 : t ≤ 24) (hq : ∀ j, j < 24 → g (24 * L + j) = q j) (asc : Bool) : vz_MM l yX2_pass wsX2_pass 3 71 [.ref (me 0), .int (nI L), .int (vz_b asc)] D kA [(me 0, .inr (2, [.ref (me 1), .ref (me 2), .ref (me 3), .int (nI n)])), (me 1, .inl (kA, 96, .inl g)), (me 2, .inl (kA, 4, .inl (fun j => nI (ss j)))), (me 3, .inl (kA, 256, .inl mk))] none [(me 0, .inr (2, [.ref (me 1), .ref (me 2), .ref (me 3), .int (nI n)])), (me 1, .inl (kA, 96, .inl (zput L ((mps n mk asc t q).2) g))), (me 2, .inl (kA, 4, .inl (fun j => nI ((va_up ss L (mps n mk asc t q).1) j)))), (me 3, .inl (kA, 256, .inl mk))] := by
  refine vz_startM (cc := cX2_pass) (maxL := 5) (ret := none) (own := RX2) (by decide) rfl rfl (Nat.le_of_ble_eq_true rfl) ?_
  intro pz ez sz mz below meth cz args Q ls H locs Az hargs hx hb hml hown hts hr hlocks hP hK hD hS hAe hQ hl
  have hcf : CallFix pz mz cz cX2_pass 5 sz args wsX2_pass RX2 := ⟨hx, hb, hml, hown, hts⟩
  have hi0 : ∀ w ∈ u_ws RX2 TX2 4, w ∈ wsX2_pass := by decide +kernel
  have hf7 : (Cond.fieldLink RX2 7 "CubeMinModel" "cubes" "[I").before args sz = true := hts _ (by decide +kernel)
  have hf13 : (Cond.fieldLink RX2 13 "CubeMinModel" "sizes" "[I").before args sz = true := hts _ (by decide +kernel)
  have hl : lv_has ls 5 [(0, .ref (me 0)), (1, .int (nI L)), (2, .int (vz_b asc))] := hl
  have hN := zN_le hn
  refine lv_iconst (v := nI 0) hx hb dX2_pass_0 (by decide) ?_
  refine lv_istore_n (lv' := [(3, .int (nI 0)), (0, .ref (me 0)), (1, .int (nI L)), (2, .int (vz_b asc))]) hx hb dX2_pass_1 rfl hl (by decide) rfl (fun ls hl => ?_)
  have lp1 : ∀ (dz : Nat) (i : Nat) (q1 : Nat → Int32) (H : Heap) (locs : List Loc) (ls : Array Slot), (t - i) < dz → (i ≤ t) → (q1 = zcp i (fun j => mwd n (mtch n mk) asc n (q j)) q) → va_P D vwCl [(me 0, .inr (2, [.ref (me 1), .ref (me 2), .ref (me 3), .int (nI n)])), (me 1, .inl (kA, 96, .inl (zput L q1 g))), (me 2, .inl (kA, 4, .inl (fun j => nI (ss j)))), (me 3, .inl (kA, 256, .inl mk))] H → va_D Az [(me 0, .inr (2, [.ref (me 1), .ref (me 2), .ref (me 3), .int (nI n)])), (me 1, .inl (kA, 96, .inl (zput L q1 g))), (me 2, .inl (kA, 4, .inl (fun j => nI (ss j)))), (me 3, .inl (kA, 256, .inl mk))] → va_S Az sz.heap H locs → lv_has ls 5 [(0, .ref (me 0)), (1, .int (nI L)), (2, .int (vz_b asc)), (3, .int (nI i))] → W pz l ez (vz_R 3 71) sz mz args below meth cz H locs 0 0 Q (F0 mz 2 ls []) := by
    intro dz
    induction dz with
    | zero => intro i q1 H locs ls hd h1 hg hP hD hS hl; exact absurd hd (Nat.not_lt_zero _)
    | succ dz ih1 =>
      intro i q1 H locs ls hd h1 hg hP hD hS hl
      refine lv_iload_n hx hb dX2_pass_2 rfl (lv_at hl 3 rfl) ?_
      refine lv_aload_n hx hb dX2_pass_3 rfl (lv_at hl 0 rfl) ?_
      refine va_get (D := D) (ci := 2) (v := .ref (me 2)) (C := RX2) (T := TX2) (N := 4) hx hb hts hi0 hown hK hP 0 rfl rfl 1 (by decide) hf13 (fun _ h9 => h9) rfl dX2_pass_4 ?_
      refine lv_iload_n hx hb dX2_pass_7 rfl (lv_at hl 1 rfl) ?_
      refine vz_ald hx hb hK hP 2 rfl (by omega) (Nat.le_of_ble_eq_true rfl) dX2_pass_8 ?_
      refine vz_top (y := (nI t)) (congrArg nI ht) ?_
      refine vz_cge (tgt := 49) hx hb dX2_pass_9 (by decide) (by omega) (by omega) (fun c_9 => ?_) (fun c_9 => ?_)
      · skip
        obtain rfl : t = i := by omega
        refine lv_aload_n hx hb dX2_pass_49 rfl (lv_at hl 0 rfl) ?_
        refine va_get (D := D) (ci := 2) (v := .ref (me 2)) (C := RX2) (T := TX2) (N := 4) hx hb hts hi0 hown hK hP 0 rfl rfl 1 (by decide) hf13 (fun _ h9 => h9) rfl dX2_pass_50 ?_
        refine lv_iload_n hx hb dX2_pass_53 rfl (lv_at hl 1 rfl) ?_
        refine vz_ald hx hb hK hP 2 rfl (by omega) (Nat.le_of_ble_eq_true rfl) dX2_pass_54 ?_
        refine vz_top (y := (nI t)) (congrArg nI ht) ?_
        refine lv_iconst (v := nI 1) hx hb dX2_pass_55 (by decide) ?_
        refine lv_isub hx hb dX2_pass_56 ?_
        refine lv_istore_n (lv' := [(3, .int ((nI t) - (nI 1))), (0, .ref (me 0)), (1, .int (nI L)), (2, .int (vz_b asc))]) hx hb dX2_pass_57 rfl hl (by decide) rfl (fun ls hl => ?_)
        have lp2 : ∀ (dz : Nat) (j u : Nat) (q2 : Nat → Int32) (s2 : Nat → Nat) (kv : Int32) (H : Heap) (locs : List Loc) (ls : Array Slot), j < dz → (j ≤ u) → (u ≤ 24) → (s2 = va_up ss L u) → (mdr n mk j (u, q2) = (mps n mk asc t q)) → ((j = 0 ∧ kv = -1) ∨ (1 ≤ j ∧ kv = nI (j - 1))) → va_P D vwCl [(me 0, .inr (2, [.ref (me 1), .ref (me 2), .ref (me 3), .int (nI n)])), (me 1, .inl (kA, 96, .inl (zput L q2 g))), (me 2, .inl (kA, 4, .inl (fun j => nI (s2 j)))), (me 3, .inl (kA, 256, .inl mk))] H → va_D Az [(me 0, .inr (2, [.ref (me 1), .ref (me 2), .ref (me 3), .int (nI n)])), (me 1, .inl (kA, 96, .inl (zput L q2 g))), (me 2, .inl (kA, 4, .inl (fun j => nI (s2 j)))), (me 3, .inl (kA, 256, .inl mk))] → va_S Az sz.heap H locs → lv_has ls 5 [(0, .ref (me 0)), (1, .int (nI L)), (2, .int (vz_b asc)), (3, .int kv)] → W pz l ez (vz_R 3 71) sz mz args below meth cz H locs 0 0 Q (F0 mz 58 ls []) := by
          intro dz
          induction dz with
          | zero => intro j u q2 s2 kv H locs ls hd h1 h2 hs2 h3 h4 hP hD hS hl; exact absurd hd (Nat.not_lt_zero _)
          | succ dz ih2 =>
            intro j u q2 s2 kv H locs ls hd h1 h2 hs2 h3 h4 hP hD hS hl
            refine lv_iload_n hx hb dX2_pass_58 rfl (lv_at hl 3 rfl) ?_
            refine lv_if_lt (tgt := 135) hx hb dX2_pass_59 (by decide) (fun c_59 => ?_) (fun c_59 => ?_)
            · skip
              obtain rfl : j = 0 := zdn_neg h4 (by omega) c_59
              have h5 : (u, q2) = (mps n mk asc t q) := h3
              rw [← h5] at hQ
              exact vz_vretM hx hb hr hlocks hQ hAe dX2_pass_135 hS hP (by rw [hs2])
            · skip
              obtain ⟨i, rfl, rfl⟩ := zdn_pos h4 c_59
              refine lv_aload_n hx hb dX2_pass_62 rfl (lv_at hl 0 rfl) ?_
              refine lv_iload_n hx hb dX2_pass_63 rfl (lv_at hl 1 rfl) ?_
              refine lv_iload_n hx hb dX2_pass_64 rfl (lv_at hl 3 rfl) ?_
              refine vz_callV (n := 2) (As := [.int (nI L), .int (nI i)]) (rest := []) (q0 := 0) hcf (c_X2_isNeeded l D kA me n (zput L q2 g) mk s2 hn L u q2 hL3 (by rw [hs2]; exact va_up_self _ _ _) h2 (fun j hj => zput_at hj) i (by omega)) gX2_pass_X2_isNeeded rfl hd_X2_isNeeded ⟨Nat.le_of_ble_eq_true rfl, Nat.le_of_ble_eq_true rfl⟩ hK (hP.sub [0, 1, 2, 3] rfl) rfl rfl rfl rfl hl.1 rfl (Nat.le_of_ble_eq_true rfl) ⟨Nat.zero_le _, Nat.zero_le _⟩ dX2_pass_65 ?_
              refine vz_ifneB (tgt := 129) hx hb dX2_pass_68 (by decide) (fun c_68 => ?_) (fun c_68 => ?_)
              · skip
                refine lv_iinc (v := ((nI i) + -1)) (lv' := [(3, .int ((nI i) + -1)), (0, .ref (me 0)), (1, .int (nI L)), (2, .int (vz_b asc))]) hx hb dX2_pass_129 hl (k := 3) rfl (rfl) (by decide) rfl (fun ls hl => ?_)
                refine lv_goto (tgt := 58) hx hb dX2_pass_132 (by decide) ?_
                exact ih2 i u q2 s2 ((nI i) + -1) _ _ _ (by omega) (by omega) (by omega) hs2 (by rw [← h3, mdr, if_pos c_68]) (zdn i) hP (vz_D hD rfl) hS (lv_sub hl [1, 2, 3, 0] rfl)
              · skip
                refine lv_iload_n hx hb dX2_pass_71 rfl (lv_at hl 3 rfl) ?_
                refine lv_iconst (v := nI 1) hx hb dX2_pass_72 (by decide) ?_
                refine vz_add hx hb dX2_pass_73 ?_
                refine lv_istore (lv' := [(4, .int (nI (i + 1))), (0, .ref (me 0)), (1, .int (nI L)), (2, .int (vz_b asc)), (3, .int (nI i))]) hx hb dX2_pass_74 hl (by decide) rfl (fun ls hl => ?_)
                have lp3 : ∀ (dz : Nat) (j3 : Nat) (q3 : Nat → Int32) (H : Heap) (locs : List Loc) (ls : Array Slot), (u - j3) < dz → (i < j3) → (j3 ≤ u) → (q3 = zsh q2 i j3) → va_P D vwCl [(me 0, .inr (2, [.ref (me 1), .ref (me 2), .ref (me 3), .int (nI n)])), (me 1, .inl (kA, 96, .inl (zput L q3 g))), (me 2, .inl (kA, 4, .inl (fun j => nI (s2 j)))), (me 3, .inl (kA, 256, .inl mk))] H → va_D Az [(me 0, .inr (2, [.ref (me 1), .ref (me 2), .ref (me 3), .int (nI n)])), (me 1, .inl (kA, 96, .inl (zput L q3 g))), (me 2, .inl (kA, 4, .inl (fun j => nI (s2 j)))), (me 3, .inl (kA, 256, .inl mk))] → va_S Az sz.heap H locs → lv_has ls 5 [(0, .ref (me 0)), (1, .int (nI L)), (2, .int (vz_b asc)), (3, .int (nI i)), (4, .int (nI j3))] → W pz l ez (vz_R 3 71) sz mz args below meth cz H locs 0 0 Q (F0 mz 76 ls []) := by
                  intro dz
                  induction dz with
                  | zero => intro j3 q3 H locs ls hd k1 k2 hq3 hP hD hS hl; exact absurd hd (Nat.not_lt_zero _)
                  | succ dz ih3 =>
                    intro j3 q3 H locs ls hd k1 k2 hq3 hP hD hS hl
                    refine lv_iload hx hb dX2_pass_76 (lv_at hl 4 rfl) ?_
                    refine lv_aload_n hx hb dX2_pass_78 rfl (lv_at hl 0 rfl) ?_
                    refine va_get (D := D) (ci := 2) (v := .ref (me 2)) (C := RX2) (T := TX2) (N := 4) hx hb hts hi0 hown hK hP 0 rfl rfl 1 (by decide) hf13 (fun _ h9 => h9) rfl dX2_pass_79 ?_
                    refine lv_iload_n hx hb dX2_pass_82 rfl (lv_at hl 1 rfl) ?_
                    refine vz_ald hx hb hK hP 2 rfl (by omega) (Nat.le_of_ble_eq_true rfl) dX2_pass_83 ?_
                    refine vz_top (y := (nI u)) (congrArg nI (by rw [hs2]; exact va_up_self _ _ _)) ?_
                    refine vz_cge (tgt := 119) hx hb dX2_pass_84 (by decide) (by omega) (by omega) (fun c_84 => ?_) (fun c_84 => ?_)
                    · skip
                      obtain rfl : u = j3 := by omega
                      refine lv_aload_n hx hb dX2_pass_119 rfl (lv_at hl 0 rfl) ?_
                      refine va_get (D := D) (ci := 2) (v := .ref (me 2)) (C := RX2) (T := TX2) (N := 4) hx hb hts hi0 hown hK hP 0 rfl rfl 1 (by decide) hf13 (fun _ h9 => h9) rfl dX2_pass_120 ?_
                      refine lv_iload_n hx hb dX2_pass_123 rfl (lv_at hl 1 rfl) ?_
                      refine lv_dup2_11 hx hb dX2_pass_124 rfl rfl ?_
                      refine vz_ald hx hb hK hP 2 rfl (by omega) (Nat.le_of_ble_eq_true rfl) dX2_pass_125 ?_
                      refine vz_top (y := (nI u)) (congrArg nI (by rw [hs2]; exact va_up_self _ _ _)) ?_
                      refine lv_iconst (v := nI 1) hx hb dX2_pass_126 (by decide) ?_
                      refine vz_sub hx hb dX2_pass_127 (by omega) ?_
                      refine vz_ast hx hb hK hP hD hS 2 rfl (by omega) (Nat.le_of_ble_eq_true rfl) dX2_pass_128 (fun H locs hP hD hS => ?_)
                      have hP : va_P D vwCl [(me 0, .inr (2, [.ref (me 1), .ref (me 2), .ref (me 3), .int (nI n)])), (me 1, .inl (kA, 96, .inl (zput L q3 g))), (me 2, .inl (kA, 4, .inl (upd (fun j => nI (s2 j)) L (nI (u - 1))))), (me 3, .inl (kA, 256, .inl mk))] H := hP
                      have hD : va_D Az [(me 0, .inr (2, [.ref (me 1), .ref (me 2), .ref (me 3), .int (nI n)])), (me 1, .inl (kA, 96, .inl (zput L q3 g))), (me 2, .inl (kA, 4, .inl (upd (fun j => nI (s2 j)) L (nI (u - 1))))), (me 3, .inl (kA, 256, .inl mk))] := hD
                      rw [show upd (fun j => nI (s2 j)) L (nI (u - 1)) = (fun j => nI ((va_up s2 L (u - 1)) j)) from zsu] at hP
                      have hD : va_D Az [(me 0, .inr (2, [.ref (me 1), .ref (me 2), .ref (me 3), .int (nI n)])), (me 1, .inl (kA, 96, .inl (zput L q3 g))), (me 2, .inl (kA, 4, .inl (fun j => nI ((va_up s2 L (u - 1)) j)))), (me 3, .inl (kA, 256, .inl mk))] := vz_D hD rfl
                      refine lv_iinc (v := ((nI i) + -1)) (lv' := [(3, .int ((nI i) + -1)), (0, .ref (me 0)), (1, .int (nI L)), (2, .int (vz_b asc)), (4, .int (nI u))]) hx hb dX2_pass_129 hl (k := 3) rfl (rfl) (by decide) rfl (fun ls hl => ?_)
                      refine lv_goto (tgt := 58) hx hb dX2_pass_132 (by decide) ?_
                      exact ih2 i (u - 1) q3 (va_up s2 L (u - 1)) ((nI i) + -1) _ _ _ (by omega) (by omega) (by omega) (by rw [hs2]; exact zup_up) (by rw [← h3, mdr, if_neg (by rw [c_68]; decide), hq3]) (zdn i) hP (vz_D hD rfl) hS (lv_sub hl [1, 2, 3, 0] rfl)
                    · skip
                      refine lv_aload_n hx hb dX2_pass_87 rfl (lv_at hl 0 rfl) ?_
                      refine va_get (D := D) (ci := 2) (v := .ref (me 1)) (C := RX2) (T := TX2) (N := 4) hx hb hts hi0 hown hK hP 0 rfl rfl 0 (by decide) hf7 (fun _ h9 => h9) rfl dX2_pass_88 ?_
                      refine lv_bipush (v := nI 24) hx hb dX2_pass_91 (by decide) ?_
                      refine lv_iload_n hx hb dX2_pass_93 rfl (lv_at hl 1 rfl) ?_
                      refine vz_mul hx hb dX2_pass_94 ?_
                      refine lv_iload hx hb dX2_pass_95 (lv_at hl 4 rfl) ?_
                      refine vz_add hx hb dX2_pass_97 ?_
                      refine lv_iconst (v := nI 1) hx hb dX2_pass_98 (by decide) ?_
                      refine vz_sub hx hb dX2_pass_99 (by omega) ?_
                      refine vz_top (y := (nI (24 * L + (j3 - 1)))) (congrArg nI (by omega)) ?_
                      refine lv_aload_n hx hb dX2_pass_100 rfl (lv_at hl 0 rfl) ?_
                      refine va_get (D := D) (ci := 2) (v := .ref (me 1)) (C := RX2) (T := TX2) (N := 4) hx hb hts hi0 hown hK hP 0 rfl rfl 0 (by decide) hf7 (fun _ h9 => h9) rfl dX2_pass_101 ?_
                      refine lv_bipush (v := nI 24) hx hb dX2_pass_104 (by decide) ?_
                      refine lv_iload_n hx hb dX2_pass_106 rfl (lv_at hl 1 rfl) ?_
                      refine vz_mul hx hb dX2_pass_107 ?_
                      refine lv_iload hx hb dX2_pass_108 (lv_at hl 4 rfl) ?_
                      refine vz_add hx hb dX2_pass_110 ?_
                      refine vz_ald hx hb hK hP 1 rfl (by omega) (Nat.le_of_ble_eq_true rfl) dX2_pass_111 ?_
                      refine vz_top (y := (q3 j3)) (zput_at (by omega)) ?_
                      refine vz_ast hx hb hK hP hD hS 1 rfl (by omega) (Nat.le_of_ble_eq_true rfl) dX2_pass_112 (fun H locs hP hD hS => ?_)
                      have hP : va_P D vwCl [(me 0, .inr (2, [.ref (me 1), .ref (me 2), .ref (me 3), .int (nI n)])), (me 1, .inl (kA, 96, .inl (upd (zput L q3 g) (24 * L + (j3 - 1)) (q3 j3)))), (me 2, .inl (kA, 4, .inl (fun j => nI (s2 j)))), (me 3, .inl (kA, 256, .inl mk))] H := hP
                      have hD : va_D Az [(me 0, .inr (2, [.ref (me 1), .ref (me 2), .ref (me 3), .int (nI n)])), (me 1, .inl (kA, 96, .inl (upd (zput L q3 g) (24 * L + (j3 - 1)) (q3 j3)))), (me 2, .inl (kA, 4, .inl (fun j => nI (s2 j)))), (me 3, .inl (kA, 256, .inl mk))] := hD
                      rw [show upd (zput L q3 g) (24 * L + (j3 - 1)) (q3 j3) = (zput L (upd q3 (j3 - 1) (q3 j3)) g) from zput_upd (by omega)] at hP
                      have hD : va_D Az [(me 0, .inr (2, [.ref (me 1), .ref (me 2), .ref (me 3), .int (nI n)])), (me 1, .inl (kA, 96, .inl (zput L (upd q3 (j3 - 1) (q3 j3)) g))), (me 2, .inl (kA, 4, .inl (fun j => nI (s2 j)))), (me 3, .inl (kA, 256, .inl mk))] := vz_D hD rfl
                      refine lv_iinc (v := (nI (j3 + 1))) (lv' := [(4, .int (nI (j3 + 1))), (0, .ref (me 0)), (1, .int (nI L)), (2, .int (vz_b asc)), (3, .int (nI i))]) hx hb dX2_pass_113 hl (k := 4) rfl (nI_1 _) (by decide) rfl (fun ls hl => ?_)
                      refine lv_goto (tgt := 76) hx hb dX2_pass_116 (by decide) ?_
                      exact ih3 (j3 + 1) (upd q3 (j3 - 1) (q3 j3)) _ _ _ (by omega) (by omega) (by omega) (by rw [hq3]; exact zsh_s k1) hP (vz_D hD rfl) hS (lv_sub hl [1, 2, 3, 4, 0] rfl)
                exact lp3 _ (i + 1) q2 _ _ _ (Nat.lt_succ_self _) (by omega) (by omega) zsh_0.symm hP (vz_D hD rfl) hS (lv_sub hl [1, 2, 3, 4, 0] rfl)
        exact lp2 _ t t q1 ss _ _ _ _ (Nat.lt_succ_self _) (by omega) (by omega) ((zup_id ht).symm) (by rw [hg]; rfl) (zdn0 t) hP (vz_D hD rfl) hS (lv_sub hl [1, 2, 3, 0] rfl)
      · skip
        refine lv_aload_n hx hb dX2_pass_12 rfl (lv_at hl 0 rfl) ?_
        refine lv_aload_n hx hb dX2_pass_13 rfl (lv_at hl 0 rfl) ?_
        refine va_get (D := D) (ci := 2) (v := .ref (me 1)) (C := RX2) (T := TX2) (N := 4) hx hb hts hi0 hown hK hP 0 rfl rfl 0 (by decide) hf7 (fun _ h9 => h9) rfl dX2_pass_14 ?_
        refine lv_bipush (v := nI 24) hx hb dX2_pass_17 (by decide) ?_
        refine lv_iload_n hx hb dX2_pass_19 rfl (lv_at hl 1 rfl) ?_
        refine vz_mul hx hb dX2_pass_20 ?_
        refine lv_iload_n hx hb dX2_pass_21 rfl (lv_at hl 3 rfl) ?_
        refine vz_add hx hb dX2_pass_22 ?_
        refine vz_ald hx hb hK hP 1 rfl (by omega) (Nat.le_of_ble_eq_true rfl) dX2_pass_23 ?_
        refine vz_top (y := (q i)) (by rw [zput_at (by omega), hg]; exact zcp_at) ?_
        refine lv_iload_n hx hb dX2_pass_24 rfl (lv_at hl 2 rfl) ?_
        refine vz_callV (n := 2) (As := [.int (q i), .int (vz_b asc)]) (rest := []) (q0 := 0) hcf (c_X2_widened l D kA me n (zput L q1 g) mk ss hn (q i) asc) gX2_pass_X2_widened rfl hd_X2_widened ⟨Nat.le_of_ble_eq_true rfl, Nat.le_of_ble_eq_true rfl⟩ hK (hP.sub [0, 1, 2, 3] rfl) rfl rfl rfl rfl hl.1 rfl (Nat.le_of_ble_eq_true rfl) ⟨Nat.zero_le _, Nat.zero_le _⟩ dX2_pass_25 ?_
        refine lv_istore (lv' := [(4, .int (mwd n (mtch n mk) asc n (q i))), (0, .ref (me 0)), (1, .int (nI L)), (2, .int (vz_b asc)), (3, .int (nI i))]) hx hb dX2_pass_28 hl (by decide) rfl (fun ls hl => ?_)
        refine lv_aload_n hx hb dX2_pass_30 rfl (lv_at hl 1 rfl) ?_
        refine va_get (D := D) (ci := 2) (v := .ref (me 1)) (C := RX2) (T := TX2) (N := 4) hx hb hts hi0 hown hK hP 0 rfl rfl 0 (by decide) hf7 (fun _ h9 => h9) rfl dX2_pass_31 ?_
        refine lv_bipush (v := nI 24) hx hb dX2_pass_34 (by decide) ?_
        refine lv_iload_n hx hb dX2_pass_36 rfl (lv_at hl 2 rfl) ?_
        refine vz_mul hx hb dX2_pass_37 ?_
        refine lv_iload_n hx hb dX2_pass_38 rfl (lv_at hl 4 rfl) ?_
        refine vz_add hx hb dX2_pass_39 ?_
        refine lv_iload hx hb dX2_pass_40 (lv_at hl 0 rfl) ?_
        refine vz_ast hx hb hK hP hD hS 1 rfl (by omega) (Nat.le_of_ble_eq_true rfl) dX2_pass_42 (fun H locs hP hD hS => ?_)
        have hP : va_P D vwCl [(me 0, .inr (2, [.ref (me 1), .ref (me 2), .ref (me 3), .int (nI n)])), (me 1, .inl (kA, 96, .inl (upd (zput L q1 g) ((24 * L) + i) (mwd n (mtch n mk) asc n (q i))))), (me 2, .inl (kA, 4, .inl (fun j => nI (ss j)))), (me 3, .inl (kA, 256, .inl mk))] H := hP
        have hD : va_D Az [(me 0, .inr (2, [.ref (me 1), .ref (me 2), .ref (me 3), .int (nI n)])), (me 1, .inl (kA, 96, .inl (upd (zput L q1 g) ((24 * L) + i) (mwd n (mtch n mk) asc n (q i))))), (me 2, .inl (kA, 4, .inl (fun j => nI (ss j)))), (me 3, .inl (kA, 256, .inl mk))] := hD
        rw [show upd (zput L q1 g) ((24 * L) + i) (mwd n (mtch n mk) asc n (q i)) = (zput L (upd q1 i (mwd n (mtch n mk) asc n (q i))) g) from zput_upd (by omega)] at hP
        have hD : va_D Az [(me 0, .inr (2, [.ref (me 1), .ref (me 2), .ref (me 3), .int (nI n)])), (me 1, .inl (kA, 96, .inl (zput L (upd q1 i (mwd n (mtch n mk) asc n (q i))) g))), (me 2, .inl (kA, 4, .inl (fun j => nI (ss j)))), (me 3, .inl (kA, 256, .inl mk))] := vz_D hD rfl
        refine lv_iinc (v := (nI (i + 1))) (lv' := [(3, .int (nI (i + 1))), (4, .int (mwd n (mtch n mk) asc n (q i))), (0, .ref (me 0)), (1, .int (nI L)), (2, .int (vz_b asc))]) hx hb dX2_pass_43 hl (k := 4) rfl (nI_1 _) (by decide) rfl (fun ls hl => ?_)
        refine lv_goto (tgt := 2) hx hb dX2_pass_46 (by decide) ?_
        exact ih1 (i + 1) (upd q1 i (mwd n (mtch n mk) asc n (q i))) _ _ _ (by omega) (by omega) (by rw [hg]; exact zcp_s (g := (fun j => mwd n (mtch n mk) asc n (q j)))) hP (vz_D hD rfl) hS (lv_sub hl [2, 3, 4, 0] rfl)
  exact lp1 _ 0 q _ _ _ (Nat.lt_succ_self _) (by omega) zcp_0.symm (by rw [zput_id hq]; exact hP) (vz_D hD rfl) hS (lv_sub hl [1, 2, 3, 0] rfl)
set_option maxHeartbeats 4000000 in
set_option maxRecDepth 100000 in
theorem c_X2_narrow (l : Launch) (D : va_G) (kA : ClassId) (me : Nat → Nat) (n : Nat) (g mk : Nat → Int32) (ss : Nat → Nat) (hn : n ≤ 8) (L t : Nat) (q : Nat → Int32) (hL3 : L < 4) (ht : ss L = t) (ht24 : t ≤ 24) (hq : ∀ j, j < 24 → g (24 * L + j) = q j) : vz_MM l yX2_narrow wsX2_narrow 2 47 [.ref (me 0), .int (nI L)] D kA [(me 0, .inr (2, [.ref (me 1), .ref (me 2), .ref (me 3), .int (nI n)])), (me 1, .inl (kA, 96, .inl g)), (me 2, .inl (kA, 4, .inl (fun j => nI (ss j)))), (me 3, .inl (kA, 256, .inl mk))] none [(me 0, .inr (2, [.ref (me 1), .ref (me 2), .ref (me 3), .int (nI n)])), (me 1, .inl (kA, 96, .inl (zput L (mnr n mk t q t) g))), (me 2, .inl (kA, 4, .inl (fun j => nI (ss j)))), (me 3, .inl (kA, 256, .inl mk))] := by
  refine vz_startM (cc := cX2_narrow) (maxL := 6) (ret := none) (own := RX2) (by decide) rfl rfl (Nat.le_of_ble_eq_true rfl) ?_
  intro pz ez sz mz below meth cz args Q ls H locs Az hargs hx hb hml hown hts hr hlocks hP hK hD hS hAe hQ hl
  have hcf : CallFix pz mz cz cX2_narrow 6 sz args wsX2_narrow RX2 := ⟨hx, hb, hml, hown, hts⟩
  have hi0 : ∀ w ∈ u_ws RX2 TX2 4, w ∈ wsX2_narrow := by decide +kernel
  have hf7 : (Cond.fieldLink RX2 7 "CubeMinModel" "cubes" "[I").before args sz = true := hts _ (by decide +kernel)
  have hf13 : (Cond.fieldLink RX2 13 "CubeMinModel" "sizes" "[I").before args sz = true := hts _ (by decide +kernel)
  have hf16 : (Cond.fieldLink RX2 16 "CubeMinModel" "kinds" "[I").before args sz = true := hts _ (by decide +kernel)
  have hf19 : (Cond.fieldLink RX2 19 "CubeMinModel" "n" "I").before args sz = true := hts _ (by decide +kernel)
  have hl : lv_has ls 6 [(0, .ref (me 0)), (1, .int (nI L))] := hl
  have hN := zN_le hn
  refine lv_iconst (v := nI 0) hx hb dX2_narrow_0 (by decide) ?_
  refine lv_istore_n (lv' := [(2, .int (nI 0)), (0, .ref (me 0)), (1, .int (nI L))]) hx hb dX2_narrow_1 rfl hl (by decide) rfl (fun ls hl => ?_)
  have lp1 : ∀ (dz : Nat) (k : Nat) (q1 : Nat → Int32) (H : Heap) (locs : List Loc) (ls : Array Slot), (t - k) < dz → (k ≤ t) → (q1 = mnr n mk t q k) → va_P D vwCl [(me 0, .inr (2, [.ref (me 1), .ref (me 2), .ref (me 3), .int (nI n)])), (me 1, .inl (kA, 96, .inl (zput L q1 g))), (me 2, .inl (kA, 4, .inl (fun j => nI (ss j)))), (me 3, .inl (kA, 256, .inl mk))] H → va_D Az [(me 0, .inr (2, [.ref (me 1), .ref (me 2), .ref (me 3), .int (nI n)])), (me 1, .inl (kA, 96, .inl (zput L q1 g))), (me 2, .inl (kA, 4, .inl (fun j => nI (ss j)))), (me 3, .inl (kA, 256, .inl mk))] → va_S Az sz.heap H locs → lv_has ls 6 [(0, .ref (me 0)), (1, .int (nI L)), (2, .int (nI k))] → W pz l ez (vz_R 2 47) sz mz args below meth cz H locs 0 0 Q (F0 mz 2 ls []) := by
    intro dz
    induction dz with
    | zero => intro k q1 H locs ls hd h1 hq1 hP hD hS hl; exact absurd hd (Nat.not_lt_zero _)
    | succ dz ih1 =>
      intro k q1 H locs ls hd h1 hq1 hP hD hS hl
      refine lv_iload_n hx hb dX2_narrow_2 rfl (lv_at hl 2 rfl) ?_
      refine lv_aload_n hx hb dX2_narrow_3 rfl (lv_at hl 0 rfl) ?_
      refine va_get (D := D) (ci := 2) (v := .ref (me 2)) (C := RX2) (T := TX2) (N := 4) hx hb hts hi0 hown hK hP 0 rfl rfl 1 (by decide) hf13 (fun _ h9 => h9) rfl dX2_narrow_4 ?_
      refine lv_iload_n hx hb dX2_narrow_7 rfl (lv_at hl 1 rfl) ?_
      refine vz_ald hx hb hK hP 2 rfl (by omega) (Nat.le_of_ble_eq_true rfl) dX2_narrow_8 ?_
      refine vz_top (y := (nI t)) (congrArg nI ht) ?_
      refine vz_cge (tgt := 129) hx hb dX2_narrow_9 (by decide) (by omega) (by omega) (fun c_9 => ?_) (fun c_9 => ?_)
      · skip
        obtain rfl : t = k := by omega
        exact vz_vretM hx hb hr hlocks hQ hAe dX2_narrow_129 hS hP (by rw [hq1])
      · skip
        refine lv_iconst (v := nI 0) hx hb dX2_narrow_12 (by decide) ?_
        refine lv_istore_n (lv' := [(3, .int (nI 0)), (0, .ref (me 0)), (1, .int (nI L)), (2, .int (nI k))]) hx hb dX2_narrow_13 rfl hl (by decide) rfl (fun ls hl => ?_)
        refine lv_iconst (v := nI 0) hx hb dX2_narrow_14 (by decide) ?_
        refine lv_istore (lv' := [(4, .int (nI 0)), (3, .int (nI 0)), (0, .ref (me 0)), (1, .int (nI L)), (2, .int (nI k))]) hx hb dX2_narrow_15 hl (by decide) rfl (fun ls hl => ?_)
        have lp2 : ∀ (dz : Nat) (sm : Int32) (p : Nat) (H : Heap) (locs : List Loc) (ls : Array Slot), (zN n - p) < dz → (p ≤ zN n) → (sm = msm n (mow n mk t q1 k) p) → va_P D vwCl [(me 0, .inr (2, [.ref (me 1), .ref (me 2), .ref (me 3), .int (nI n)])), (me 1, .inl (kA, 96, .inl (zput L q1 g))), (me 2, .inl (kA, 4, .inl (fun j => nI (ss j)))), (me 3, .inl (kA, 256, .inl mk))] H → va_D Az [(me 0, .inr (2, [.ref (me 1), .ref (me 2), .ref (me 3), .int (nI n)])), (me 1, .inl (kA, 96, .inl (zput L q1 g))), (me 2, .inl (kA, 4, .inl (fun j => nI (ss j)))), (me 3, .inl (kA, 256, .inl mk))] → va_S Az sz.heap H locs → lv_has ls 6 [(0, .ref (me 0)), (1, .int (nI L)), (2, .int (nI k)), (3, .int sm), (4, .int (nI p))] → W pz l ez (vz_R 2 47) sz mz args below meth cz H locs 0 0 Q (F0 mz 17 ls []) := by
          intro dz
          induction dz with
          | zero => intro sm p H locs ls hd h2 hsm hP hD hS hl; exact absurd hd (Nat.not_lt_zero _)
          | succ dz ih2 =>
            intro sm p H locs ls hd h2 hsm hP hD hS hl
            refine lv_iload hx hb dX2_narrow_17 (lv_at hl 4 rfl) ?_
            refine lv_iconst (v := nI 1) hx hb dX2_narrow_19 (by decide) ?_
            refine lv_aload_n hx hb dX2_narrow_20 rfl (lv_at hl 0 rfl) ?_
            refine va_get (D := D) (ci := 2) (v := .int (nI n)) (C := RX2) (T := TX2) (N := 4) hx hb hts hi0 hown hK hP 0 rfl rfl 3 (by decide) hf19 (fun _ h9 => h9) rfl dX2_narrow_21 ?_
            refine lv_ishl hx hb dX2_narrow_24 ?_
            refine vz_top (y := (nI (zN n))) (zN_sh n hn) ?_
            refine vz_cge (tgt := 111) hx hb dX2_narrow_25 (by decide) (by omega) (by omega) (fun c_25 => ?_) (fun c_25 => ?_)
            · skip
              refine lv_aload_n hx hb dX2_narrow_111 rfl (lv_at hl 0 rfl) ?_
              refine va_get (D := D) (ci := 2) (v := .ref (me 1)) (C := RX2) (T := TX2) (N := 4) hx hb hts hi0 hown hK hP 0 rfl rfl 0 (by decide) hf7 (fun _ h9 => h9) rfl dX2_narrow_112 ?_
              refine lv_bipush (v := nI 24) hx hb dX2_narrow_115 (by decide) ?_
              refine lv_iload_n hx hb dX2_narrow_117 rfl (lv_at hl 1 rfl) ?_
              refine vz_mul hx hb dX2_narrow_118 ?_
              refine lv_iload_n hx hb dX2_narrow_119 rfl (lv_at hl 2 rfl) ?_
              refine vz_add hx hb dX2_narrow_120 ?_
              refine lv_iload_n hx hb dX2_narrow_121 rfl (lv_at hl 3 rfl) ?_
              refine vz_ast hx hb hK hP hD hS 1 rfl (by omega) (Nat.le_of_ble_eq_true rfl) dX2_narrow_122 (fun H locs hP hD hS => ?_)
              have hP : va_P D vwCl [(me 0, .inr (2, [.ref (me 1), .ref (me 2), .ref (me 3), .int (nI n)])), (me 1, .inl (kA, 96, .inl (upd (zput L q1 g) ((24 * L) + k) sm))), (me 2, .inl (kA, 4, .inl (fun j => nI (ss j)))), (me 3, .inl (kA, 256, .inl mk))] H := hP
              have hD : va_D Az [(me 0, .inr (2, [.ref (me 1), .ref (me 2), .ref (me 3), .int (nI n)])), (me 1, .inl (kA, 96, .inl (upd (zput L q1 g) ((24 * L) + k) sm))), (me 2, .inl (kA, 4, .inl (fun j => nI (ss j)))), (me 3, .inl (kA, 256, .inl mk))] := hD
              rw [show upd (zput L q1 g) ((24 * L) + k) sm = (zput L (upd q1 k sm) g) from zput_upd (by omega)] at hP
              have hD : va_D Az [(me 0, .inr (2, [.ref (me 1), .ref (me 2), .ref (me 3), .int (nI n)])), (me 1, .inl (kA, 96, .inl (zput L (upd q1 k sm) g))), (me 2, .inl (kA, 4, .inl (fun j => nI (ss j)))), (me 3, .inl (kA, 256, .inl mk))] := vz_D hD rfl
              refine lv_iinc (v := (nI (k + 1))) (lv' := [(2, .int (nI (k + 1))), (0, .ref (me 0)), (1, .int (nI L)), (3, .int sm), (4, .int (nI p))]) hx hb dX2_narrow_123 hl (k := 2) rfl (nI_1 _) (by decide) rfl (fun ls hl => ?_)
              refine lv_goto (tgt := 2) hx hb dX2_narrow_126 (by decide) ?_
              exact ih1 (k + 1) (upd q1 k sm) _ _ _ (by omega) (by omega) (by rw [mnr, ← hq1, hsm]; obtain rfl : p = zN n := (by omega); rfl) hP (vz_D hD rfl) hS (lv_sub hl [1, 2, 0] rfl)
            · skip
              refine lv_aload_n hx hb dX2_narrow_28 rfl (lv_at hl 0 rfl) ?_
              refine va_get (D := D) (ci := 2) (v := .ref (me 3)) (C := RX2) (T := TX2) (N := 4) hx hb hts hi0 hown hK hP 0 rfl rfl 2 (by decide) hf16 (fun _ h9 => h9) rfl dX2_narrow_29 ?_
              refine lv_iload hx hb dX2_narrow_32 (lv_at hl 4 rfl) ?_
              refine vz_ald hx hb hK hP 3 rfl (by omega) (Nat.le_of_ble_eq_true rfl) dX2_narrow_34 ?_
              refine lv_iconst (v := nI 1) hx hb dX2_narrow_35 (by decide) ?_
              refine lv_icmp_ne (tgt := 105) hx hb dX2_narrow_36 (by decide) (fun c_36 => ?_) (fun c_36 => ?_)
              · skip
                refine lv_iinc (v := (nI (p + 1))) (lv' := [(4, .int (nI (p + 1))), (0, .ref (me 0)), (1, .int (nI L)), (2, .int (nI k)), (3, .int sm)]) hx hb dX2_narrow_105 hl (k := 4) rfl (nI_1 _) (by decide) rfl (fun ls hl => ?_)
                refine lv_goto (tgt := 17) hx hb dX2_narrow_108 (by decide) ?_
                exact ih2 sm (p + 1) _ _ _ (by omega) (by omega) (by rw [msm, if_neg (by first | (simp [mow, c_36]; done) | (simp [mow, c_56]; done) | (simp [mow, c_67]; done))]; exact hsm) hP (vz_D hD rfl) hS (lv_sub hl [1, 2, 3, 4, 0] rfl)
              · skip
                refine lv_aload_n hx hb dX2_narrow_39 rfl (lv_at hl 0 rfl) ?_
                refine lv_iload hx hb dX2_narrow_40 (lv_at hl 4 rfl) ?_
                refine lv_aload_n hx hb dX2_narrow_42 rfl (lv_at hl 0 rfl) ?_
                refine va_get (D := D) (ci := 2) (v := .ref (me 1)) (C := RX2) (T := TX2) (N := 4) hx hb hts hi0 hown hK hP 0 rfl rfl 0 (by decide) hf7 (fun _ h9 => h9) rfl dX2_narrow_43 ?_
                refine lv_bipush (v := nI 24) hx hb dX2_narrow_46 (by decide) ?_
                refine lv_iload_n hx hb dX2_narrow_48 rfl (lv_at hl 1 rfl) ?_
                refine vz_mul hx hb dX2_narrow_49 ?_
                refine lv_iload_n hx hb dX2_narrow_50 rfl (lv_at hl 2 rfl) ?_
                refine vz_add hx hb dX2_narrow_51 ?_
                refine vz_ald hx hb hK hP 1 rfl (by omega) (Nat.le_of_ble_eq_true rfl) dX2_narrow_52 ?_
                refine vz_top (y := (q1 k)) (zput_at (by omega)) ?_
                refine vz_callV (n := 2) (As := [.int (nI p), .int (q1 k)]) (rest := []) (q0 := 0) hcf (c_X2_in l D kA me n (zput L q1 g) mk ss hn p (q1 k) (by omega)) gX2_narrow_X2_in rfl hd_X2_in ⟨Nat.le_of_ble_eq_true rfl, Nat.le_of_ble_eq_true rfl⟩ hK (hP.sub [0, 1, 2, 3] rfl) rfl rfl rfl rfl hl.1 rfl (Nat.le_of_ble_eq_true rfl) ⟨Nat.zero_le _, Nat.zero_le _⟩ dX2_narrow_53 ?_
                refine vz_ifeqB (tgt := 105) hx hb dX2_narrow_56 (by decide) (fun c_56 => ?_) (fun c_56 => ?_)
                · skip
                  refine lv_iinc (v := (nI (p + 1))) (lv' := [(4, .int (nI (p + 1))), (0, .ref (me 0)), (1, .int (nI L)), (2, .int (nI k)), (3, .int sm)]) hx hb dX2_narrow_105 hl (k := 4) rfl (nI_1 _) (by decide) rfl (fun ls hl => ?_)
                  refine lv_goto (tgt := 17) hx hb dX2_narrow_108 (by decide) ?_
                  exact ih2 sm (p + 1) _ _ _ (by omega) (by omega) (by rw [msm, if_neg (by first | (simp [mow, c_36]; done) | (simp [mow, c_56]; done) | (simp [mow, c_67]; done))]; exact hsm) hP (vz_D hD rfl) hS (lv_sub hl [1, 2, 3, 4, 0] rfl)
                · skip
                  refine lv_aload_n hx hb dX2_narrow_59 rfl (lv_at hl 0 rfl) ?_
                  refine lv_iload hx hb dX2_narrow_60 (lv_at hl 4 rfl) ?_
                  refine lv_iload_n hx hb dX2_narrow_62 rfl (lv_at hl 1 rfl) ?_
                  refine lv_iload_n hx hb dX2_narrow_63 rfl (lv_at hl 2 rfl) ?_
                  refine vz_callV (n := 3) (As := [.int (nI p), .int (nI L), .int (nI k)]) (rest := []) (q0 := 0) hcf (c_X2_inAnother l D kA me n (zput L q1 g) mk ss hn L t q1 hL3 ht ht24 (fun j hj => zput_at hj) k p (by omega) c_9) gX2_narrow_X2_inAnother rfl hd_X2_inAnother ⟨Nat.le_of_ble_eq_true rfl, Nat.le_of_ble_eq_true rfl⟩ hK (hP.sub [0, 1, 2, 3] rfl) rfl rfl rfl rfl hl.1 rfl (Nat.le_of_ble_eq_true rfl) ⟨Nat.zero_le _, Nat.zero_le _⟩ dX2_narrow_64 ?_
                  refine vz_ifneB (tgt := 105) hx hb dX2_narrow_67 (by decide) (fun c_67 => ?_) (fun c_67 => ?_)
                  · skip
                    refine lv_iinc (v := (nI (p + 1))) (lv' := [(4, .int (nI (p + 1))), (0, .ref (me 0)), (1, .int (nI L)), (2, .int (nI k)), (3, .int sm)]) hx hb dX2_narrow_105 hl (k := 4) rfl (nI_1 _) (by decide) rfl (fun ls hl => ?_)
                    refine lv_goto (tgt := 17) hx hb dX2_narrow_108 (by decide) ?_
                    exact ih2 sm (p + 1) _ _ _ (by omega) (by omega) (by rw [msm, if_neg (by first | (simp [mow, c_36]; done) | (simp [mow, c_56]; done) | (simp [mow, c_67]; done))]; exact hsm) hP (vz_D hD rfl) hS (lv_sub hl [1, 2, 3, 4, 0] rfl)
                  · skip
                    refine lv_iconst (v := nI 0) hx hb dX2_narrow_70 (by decide) ?_
                    refine lv_istore (lv' := [(5, .int (nI 0)), (0, .ref (me 0)), (1, .int (nI L)), (2, .int (nI k)), (3, .int sm), (4, .int (nI p))]) hx hb dX2_narrow_71 hl (by decide) rfl (fun ls hl => ?_)
                    have lp3 : ∀ (dz : Nat) (s3 : Int32) (i : Nat) (H : Heap) (locs : List Loc) (ls : Array Slot), (n - i) < dz → (i ≤ n) → (s3 = mpo p i sm) → va_P D vwCl [(me 0, .inr (2, [.ref (me 1), .ref (me 2), .ref (me 3), .int (nI n)])), (me 1, .inl (kA, 96, .inl (zput L q1 g))), (me 2, .inl (kA, 4, .inl (fun j => nI (ss j)))), (me 3, .inl (kA, 256, .inl mk))] H → va_D Az [(me 0, .inr (2, [.ref (me 1), .ref (me 2), .ref (me 3), .int (nI n)])), (me 1, .inl (kA, 96, .inl (zput L q1 g))), (me 2, .inl (kA, 4, .inl (fun j => nI (ss j)))), (me 3, .inl (kA, 256, .inl mk))] → va_S Az sz.heap H locs → lv_has ls 6 [(0, .ref (me 0)), (1, .int (nI L)), (2, .int (nI k)), (3, .int s3), (4, .int (nI p)), (5, .int (nI i))] → W pz l ez (vz_R 2 47) sz mz args below meth cz H locs 0 0 Q (F0 mz 73 ls []) := by
                      intro dz
                      induction dz with
                      | zero => intro s3 i H locs ls hd h3 hs3 hP hD hS hl; exact absurd hd (Nat.not_lt_zero _)
                      | succ dz ih3 =>
                        intro s3 i H locs ls hd h3 hs3 hP hD hS hl
                        refine lv_iload hx hb dX2_narrow_73 (lv_at hl 5 rfl) ?_
                        refine lv_aload_n hx hb dX2_narrow_75 rfl (lv_at hl 0 rfl) ?_
                        refine va_get (D := D) (ci := 2) (v := .int (nI n)) (C := RX2) (T := TX2) (N := 4) hx hb hts hi0 hown hK hP 0 rfl rfl 3 (by decide) hf19 (fun _ h9 => h9) rfl dX2_narrow_76 ?_
                        refine vz_cge (tgt := 105) hx hb dX2_narrow_79 (by decide) (by omega) (by omega) (fun c_79 => ?_) (fun c_79 => ?_)
                        · skip
                          refine lv_iinc (v := (nI (p + 1))) (lv' := [(4, .int (nI (p + 1))), (0, .ref (me 0)), (1, .int (nI L)), (2, .int (nI k)), (3, .int s3), (5, .int (nI i))]) hx hb dX2_narrow_105 hl (k := 4) rfl (nI_1 _) (by decide) rfl (fun ls hl => ?_)
                          refine lv_goto (tgt := 17) hx hb dX2_narrow_108 (by decide) ?_
                          exact ih2 s3 (p + 1) _ _ _ (by omega) (by omega) (by rw [msm, if_pos (by simp [mow, c_36, c_56, c_67]), ← hsm, hs3]; obtain rfl : n = i := (by omega); rfl) hP (vz_D hD rfl) hS (lv_sub hl [1, 2, 3, 4, 0] rfl)
                        · skip
                          refine lv_iload_n hx hb dX2_narrow_82 rfl (lv_at hl 3 rfl) ?_
                          refine lv_iconst (v := nI 1) hx hb dX2_narrow_83 (by decide) ?_
                          refine lv_iconst (v := nI 2) hx hb dX2_narrow_84 (by decide) ?_
                          refine lv_iload hx hb dX2_narrow_85 (lv_at hl 5 rfl) ?_
                          refine vz_mul hx hb dX2_narrow_87 ?_
                          refine lv_iload hx hb dX2_narrow_88 (lv_at hl 4 rfl) ?_
                          refine lv_iload hx hb dX2_narrow_90 (lv_at hl 5 rfl) ?_
                          refine lv_ishr hx hb dX2_narrow_92 ?_
                          refine lv_iconst (v := nI 1) hx hb dX2_narrow_93 (by decide) ?_
                          refine lv_iand hx hb dX2_narrow_94 ?_
                          refine vz_top (y := (nI (zb p i))) (zb_eq (by omega) (by omega)) ?_
                          refine vz_add hx hb dX2_narrow_95 ?_
                          refine lv_ishl hx hb dX2_narrow_96 ?_
                          refine lv_ior hx hb dX2_narrow_97 ?_
                          refine lv_istore_n (lv' := [(3, .int (s3 ||| ((nI 1) <<< ((nI ((2 * i) + (zb p i))) &&& 31)))), (0, .ref (me 0)), (1, .int (nI L)), (2, .int (nI k)), (4, .int (nI p)), (5, .int (nI i))]) hx hb dX2_narrow_98 rfl hl (by decide) rfl (fun ls hl => ?_)
                          refine lv_iinc (v := (nI (i + 1))) (lv' := [(5, .int (nI (i + 1))), (3, .int (s3 ||| ((nI 1) <<< ((nI ((2 * i) + (zb p i))) &&& 31)))), (0, .ref (me 0)), (1, .int (nI L)), (2, .int (nI k)), (4, .int (nI p))]) hx hb dX2_narrow_99 hl (k := 5) rfl (nI_1 _) (by decide) rfl (fun ls hl => ?_)
                          refine lv_goto (tgt := 73) hx hb dX2_narrow_102 (by decide) ?_
                          exact ih3 (s3 ||| ((nI 1) <<< ((nI ((2 * i) + (zb p i))) &&& 31))) (i + 1) _ _ _ (by omega) (by omega) (by rw [mpo, ← hs3]) hP (vz_D hD rfl) hS (lv_sub hl [2, 3, 4, 1, 5, 0] rfl)
                    exact lp3 _ sm 0 _ _ _ (Nat.lt_succ_self _) (by omega) rfl hP (vz_D hD rfl) hS (lv_sub hl [1, 2, 3, 4, 5, 0] rfl)
        exact lp2 _ (nI 0) 0 _ _ _ (Nat.lt_succ_self _) (by omega) rfl hP (vz_D hD rfl) hS (lv_sub hl [2, 3, 4, 1, 0] rfl)
  exact lp1 _ 0 q _ _ _ (Nat.lt_succ_self _) (by omega) rfl (by rw [zput_id hq]; exact hP) (vz_D hD rfl) hS (lv_sub hl [1, 2, 0] rfl)
set_option maxHeartbeats 4000000 in
set_option maxRecDepth 100000 in
theorem c_X2_copy (l : Launch) (D : va_G) (kA : ClassId) (me : Nat → Nat) (n : Nat) (g mk : Nat → Int32) (ss : Nat → Nat) (hn : n ≤ 8) (L M t : Nat) (q q2 : Nat → Int32) (hne : M ≠ L) (hL3 : L < 4) (hM3 : M < 4) (ht : ss L = t) (ht24 : t ≤ 24) (hq : ∀ j, j < 24 → g (24 * L + j) = q j) (hq2 : ∀ j, j < 24 → g (24 * M + j) = q2 j) : vz_MM l yX2_copy wsX2_copy 0 0 [.ref (me 0), .int (nI L), .int (nI M)] D kA [(me 0, .inr (2, [.ref (me 1), .ref (me 2), .ref (me 3), .int (nI n)])), (me 1, .inl (kA, 96, .inl g)), (me 2, .inl (kA, 4, .inl (fun j => nI (ss j)))), (me 3, .inl (kA, 256, .inl mk))] none [(me 0, .inr (2, [.ref (me 1), .ref (me 2), .ref (me 3), .int (nI n)])), (me 1, .inl (kA, 96, .inl (zput M (zcp t q q2) g))), (me 2, .inl (kA, 4, .inl (fun j => nI ((va_up ss M t) j)))), (me 3, .inl (kA, 256, .inl mk))] := by
  refine vz_startM (cc := cX2_copy) (maxL := 4) (ret := none) (own := RX2) (by decide) rfl rfl (Nat.le_of_ble_eq_true rfl) ?_
  intro pz ez sz mz below meth cz args Q ls H locs Az hargs hx hb hml hown hts hr hlocks hP hK hD hS hAe hQ hl
  have hcf : CallFix pz mz cz cX2_copy 4 sz args wsX2_copy RX2 := ⟨hx, hb, hml, hown, hts⟩
  have hi0 : ∀ w ∈ u_ws RX2 TX2 4, w ∈ wsX2_copy := by decide +kernel
  have hf7 : (Cond.fieldLink RX2 7 "CubeMinModel" "cubes" "[I").before args sz = true := hts _ (by decide +kernel)
  have hf13 : (Cond.fieldLink RX2 13 "CubeMinModel" "sizes" "[I").before args sz = true := hts _ (by decide +kernel)
  have hl : lv_has ls 4 [(0, .ref (me 0)), (1, .int (nI L)), (2, .int (nI M))] := hl
  refine lv_iconst (v := nI 0) hx hb dX2_copy_0 (by decide) ?_
  refine lv_istore_n (lv' := [(3, .int (nI 0)), (0, .ref (me 0)), (1, .int (nI L)), (2, .int (nI M))]) hx hb dX2_copy_1 rfl hl (by decide) rfl (fun ls hl => ?_)
  have lp1 : ∀ (dz : Nat) (i : Nat) (r : Nat → Int32) (H : Heap) (locs : List Loc) (ls : Array Slot), (t - i) < dz → (i ≤ t) → (r = zcp i q q2) → va_P D vwCl [(me 0, .inr (2, [.ref (me 1), .ref (me 2), .ref (me 3), .int (nI n)])), (me 1, .inl (kA, 96, .inl (zput M r g))), (me 2, .inl (kA, 4, .inl (fun j => nI (ss j)))), (me 3, .inl (kA, 256, .inl mk))] H → va_D Az [(me 0, .inr (2, [.ref (me 1), .ref (me 2), .ref (me 3), .int (nI n)])), (me 1, .inl (kA, 96, .inl (zput M r g))), (me 2, .inl (kA, 4, .inl (fun j => nI (ss j)))), (me 3, .inl (kA, 256, .inl mk))] → va_S Az sz.heap H locs → lv_has ls 4 [(0, .ref (me 0)), (1, .int (nI L)), (2, .int (nI M)), (3, .int (nI i))] → W pz l ez (vz_R 0 0) sz mz args below meth cz H locs 0 0 Q (F0 mz 2 ls []) := by
    intro dz
    induction dz with
    | zero => intro i r H locs ls hd h1 hr9 hP hD hS hl; exact absurd hd (Nat.not_lt_zero _)
    | succ dz ih1 =>
      intro i r H locs ls hd h1 hr9 hP hD hS hl
      refine lv_iload_n hx hb dX2_copy_2 rfl (lv_at hl 3 rfl) ?_
      refine lv_aload_n hx hb dX2_copy_3 rfl (lv_at hl 0 rfl) ?_
      refine va_get (D := D) (ci := 2) (v := .ref (me 2)) (C := RX2) (T := TX2) (N := 4) hx hb hts hi0 hown hK hP 0 rfl rfl 1 (by decide) hf13 (fun _ h9 => h9) rfl dX2_copy_4 ?_
      refine lv_iload_n hx hb dX2_copy_7 rfl (lv_at hl 1 rfl) ?_
      refine vz_ald hx hb hK hP 2 rfl (by omega) (Nat.le_of_ble_eq_true rfl) dX2_copy_8 ?_
      refine vz_top (y := (nI t)) (congrArg nI ht) ?_
      refine vz_cge (tgt := 40) hx hb dX2_copy_9 (by decide) (by omega) (by omega) (fun c_9 => ?_) (fun c_9 => ?_)
      · skip
        obtain rfl : t = i := by omega
        refine lv_aload_n hx hb dX2_copy_40 rfl (lv_at hl 0 rfl) ?_
        refine va_get (D := D) (ci := 2) (v := .ref (me 2)) (C := RX2) (T := TX2) (N := 4) hx hb hts hi0 hown hK hP 0 rfl rfl 1 (by decide) hf13 (fun _ h9 => h9) rfl dX2_copy_41 ?_
        refine lv_iload_n hx hb dX2_copy_44 rfl (lv_at hl 2 rfl) ?_
        refine lv_aload_n hx hb dX2_copy_45 rfl (lv_at hl 0 rfl) ?_
        refine va_get (D := D) (ci := 2) (v := .ref (me 2)) (C := RX2) (T := TX2) (N := 4) hx hb hts hi0 hown hK hP 0 rfl rfl 1 (by decide) hf13 (fun _ h9 => h9) rfl dX2_copy_46 ?_
        refine lv_iload_n hx hb dX2_copy_49 rfl (lv_at hl 1 rfl) ?_
        refine vz_ald hx hb hK hP 2 rfl (by omega) (Nat.le_of_ble_eq_true rfl) dX2_copy_50 ?_
        refine vz_top (y := (nI t)) (congrArg nI ht) ?_
        refine vz_ast hx hb hK hP hD hS 2 rfl (by omega) (Nat.le_of_ble_eq_true rfl) dX2_copy_51 (fun H locs hP hD hS => ?_)
        have hP : va_P D vwCl [(me 0, .inr (2, [.ref (me 1), .ref (me 2), .ref (me 3), .int (nI n)])), (me 1, .inl (kA, 96, .inl (zput M r g))), (me 2, .inl (kA, 4, .inl (upd (fun j => nI (ss j)) M (nI t)))), (me 3, .inl (kA, 256, .inl mk))] H := hP
        have hD : va_D Az [(me 0, .inr (2, [.ref (me 1), .ref (me 2), .ref (me 3), .int (nI n)])), (me 1, .inl (kA, 96, .inl (zput M r g))), (me 2, .inl (kA, 4, .inl (upd (fun j => nI (ss j)) M (nI t)))), (me 3, .inl (kA, 256, .inl mk))] := hD
        rw [show upd (fun j => nI (ss j)) M (nI t) = (fun j => nI ((va_up ss M t) j)) from zsu] at hP
        have hD : va_D Az [(me 0, .inr (2, [.ref (me 1), .ref (me 2), .ref (me 3), .int (nI n)])), (me 1, .inl (kA, 96, .inl (zput M r g))), (me 2, .inl (kA, 4, .inl (fun j => nI ((va_up ss M t) j)))), (me 3, .inl (kA, 256, .inl mk))] := vz_D hD rfl
        exact vz_vretM hx hb hr hlocks hQ hAe dX2_copy_52 hS hP (by rw [hr9])
      · skip
        refine lv_aload_n hx hb dX2_copy_12 rfl (lv_at hl 0 rfl) ?_
        refine va_get (D := D) (ci := 2) (v := .ref (me 1)) (C := RX2) (T := TX2) (N := 4) hx hb hts hi0 hown hK hP 0 rfl rfl 0 (by decide) hf7 (fun _ h9 => h9) rfl dX2_copy_13 ?_
        refine lv_bipush (v := nI 24) hx hb dX2_copy_16 (by decide) ?_
        refine lv_iload_n hx hb dX2_copy_18 rfl (lv_at hl 2 rfl) ?_
        refine vz_mul hx hb dX2_copy_19 ?_
        refine lv_iload_n hx hb dX2_copy_20 rfl (lv_at hl 3 rfl) ?_
        refine vz_add hx hb dX2_copy_21 ?_
        refine lv_aload_n hx hb dX2_copy_22 rfl (lv_at hl 0 rfl) ?_
        refine va_get (D := D) (ci := 2) (v := .ref (me 1)) (C := RX2) (T := TX2) (N := 4) hx hb hts hi0 hown hK hP 0 rfl rfl 0 (by decide) hf7 (fun _ h9 => h9) rfl dX2_copy_23 ?_
        refine lv_bipush (v := nI 24) hx hb dX2_copy_26 (by decide) ?_
        refine lv_iload_n hx hb dX2_copy_28 rfl (lv_at hl 1 rfl) ?_
        refine vz_mul hx hb dX2_copy_29 ?_
        refine lv_iload_n hx hb dX2_copy_30 rfl (lv_at hl 3 rfl) ?_
        refine vz_add hx hb dX2_copy_31 ?_
        refine vz_ald hx hb hK hP 1 rfl (by omega) (Nat.le_of_ble_eq_true rfl) dX2_copy_32 ?_
        refine vz_top (y := (q i)) (by rw [zput_ne (by omega) hne]; exact hq i (by omega)) ?_
        refine vz_ast hx hb hK hP hD hS 1 rfl (by omega) (Nat.le_of_ble_eq_true rfl) dX2_copy_33 (fun H locs hP hD hS => ?_)
        have hP : va_P D vwCl [(me 0, .inr (2, [.ref (me 1), .ref (me 2), .ref (me 3), .int (nI n)])), (me 1, .inl (kA, 96, .inl (upd (zput M r g) ((24 * M) + i) (q i)))), (me 2, .inl (kA, 4, .inl (fun j => nI (ss j)))), (me 3, .inl (kA, 256, .inl mk))] H := hP
        have hD : va_D Az [(me 0, .inr (2, [.ref (me 1), .ref (me 2), .ref (me 3), .int (nI n)])), (me 1, .inl (kA, 96, .inl (upd (zput M r g) ((24 * M) + i) (q i)))), (me 2, .inl (kA, 4, .inl (fun j => nI (ss j)))), (me 3, .inl (kA, 256, .inl mk))] := hD
        rw [show upd (zput M r g) ((24 * M) + i) (q i) = (zput M (upd r i (q i)) g) from zput_upd (by omega)] at hP
        have hD : va_D Az [(me 0, .inr (2, [.ref (me 1), .ref (me 2), .ref (me 3), .int (nI n)])), (me 1, .inl (kA, 96, .inl (zput M (upd r i (q i)) g))), (me 2, .inl (kA, 4, .inl (fun j => nI (ss j)))), (me 3, .inl (kA, 256, .inl mk))] := vz_D hD rfl
        refine lv_iinc (v := (nI (i + 1))) (lv' := [(3, .int (nI (i + 1))), (0, .ref (me 0)), (1, .int (nI L)), (2, .int (nI M))]) hx hb dX2_copy_34 hl (k := 3) rfl (nI_1 _) (by decide) rfl (fun ls hl => ?_)
        refine lv_goto (tgt := 2) hx hb dX2_copy_37 (by decide) ?_
        exact ih1 (i + 1) (upd r i (q i)) _ _ _ (by omega) (by omega) (by rw [hr9]; exact zcp_s) hP (vz_D hD rfl) hS (lv_sub hl [1, 2, 3, 0] rfl)
  exact lp1 _ 0 q2 _ _ _ (Nat.lt_succ_self _) (by omega) zcp_0.symm (by rw [zput_id hq2]; exact hP) (vz_D hD rfl) hS (lv_sub hl [1, 2, 3, 0] rfl)
set_option maxHeartbeats 4000000 in
set_option maxRecDepth 100000 in
theorem c_X2_minimize (l : Launch) (D : va_G) (kA : ClassId) (me : Nat → Nat) (n : Nat) (g mk : Nat → Int32) (ss : Nat → Nat) (hn : n ≤ 8) (t0 t3 : Nat) (q0 q2 q3 : Nat → Int32) (ht0 : ss 0 = t0) (ht3 : ss 3 = t3) (hb0 : t0 ≤ 24) (hb3 : t3 ≤ 24) (hq0 : ∀ j, j < 24 → g j = q0 j) (hq2 : ∀ j, j < 24 → g (24 * 2 + j) = q2 j) (hq3 : ∀ j, j < 24 → g (24 * 3 + j) = q3 j) : vz_MM l yX2_minimize wsX2_minimize 4 95 [.ref (me 0)] D kA [(me 0, .inr (2, [.ref (me 1), .ref (me 2), .ref (me 3), .int (nI n)])), (me 1, .inl (kA, 96, .inl g)), (me 2, .inl (kA, 4, .inl (fun j => nI (ss j)))), (me 3, .inl (kA, 256, .inl mk))] (some (.int (nI ((mmz n mk t0 q0 q2 t3 q3).1)))) [(me 0, .inr (2, [.ref (me 1), .ref (me 2), .ref (me 3), .int (nI n)])), (me 1, .inl (kA, 96, .inl (zput 3 ((mmz n mk t0 q0 q2 t3 q3).2.2.2) (zput 2 ((mmz n mk t0 q0 q2 t3 q3).2.1) g)))), (me 2, .inl (kA, 4, .inl (fun j => nI ((va_up (va_up ss 2 ((mmz n mk t0 q0 q2 t3 q3).1)) 3 ((mmz n mk t0 q0 q2 t3 q3).2.2.1)) j)))), (me 3, .inl (kA, 256, .inl mk))] := by
  refine vz_startM (cc := cX2_minimize) (maxL := 3) (ret := (some .int)) (own := RX2) (by decide) rfl rfl (Nat.le_of_ble_eq_true rfl) ?_
  intro pz ez sz mz below meth cz args Q ls H locs Az hargs hx hb hml hown hts hr hlocks hP hK hD hS hAe hQ hl
  have hcf : CallFix pz mz cz cX2_minimize 3 sz args wsX2_minimize RX2 := ⟨hx, hb, hml, hown, hts⟩
  have hi0 : ∀ w ∈ u_ws RX2 TX2 4, w ∈ wsX2_minimize := by decide +kernel
  have hf7 : (Cond.fieldLink RX2 7 "CubeMinModel" "cubes" "[I").before args sz = true := hts _ (by decide +kernel)
  have hf13 : (Cond.fieldLink RX2 13 "CubeMinModel" "sizes" "[I").before args sz = true := hts _ (by decide +kernel)
  have hl : lv_has ls 3 [(0, .ref (me 0))] := hl
  refine lv_aload_n hx hb dX2_minimize_0 rfl (lv_at hl 0 rfl) ?_
  refine va_get (D := D) (ci := 2) (v := .ref (me 2)) (C := RX2) (T := TX2) (N := 4) hx hb hts hi0 hown hK hP 0 rfl rfl 1 (by decide) hf13 (fun _ h9 => h9) rfl dX2_minimize_1 ?_
  refine lv_iconst (v := nI 2) hx hb dX2_minimize_4 (by decide) ?_
  refine lv_iconst (v := nI 0) hx hb dX2_minimize_5 (by decide) ?_
  refine vz_ast hx hb hK hP hD hS 2 rfl (by omega) (Nat.le_of_ble_eq_true rfl) dX2_minimize_6 (fun H locs hP hD hS => ?_)
  have hP : va_P D vwCl [(me 0, .inr (2, [.ref (me 1), .ref (me 2), .ref (me 3), .int (nI n)])), (me 1, .inl (kA, 96, .inl g)), (me 2, .inl (kA, 4, .inl (upd (fun j => nI (ss j)) 2 (nI 0)))), (me 3, .inl (kA, 256, .inl mk))] H := hP
  have hD : va_D Az [(me 0, .inr (2, [.ref (me 1), .ref (me 2), .ref (me 3), .int (nI n)])), (me 1, .inl (kA, 96, .inl g)), (me 2, .inl (kA, 4, .inl (upd (fun j => nI (ss j)) 2 (nI 0)))), (me 3, .inl (kA, 256, .inl mk))] := hD
  rw [show upd (fun j => nI (ss j)) 2 (nI 0) = (fun j => nI ((va_up ss 2 0) j)) from zsu] at hP
  have hD : va_D Az [(me 0, .inr (2, [.ref (me 1), .ref (me 2), .ref (me 3), .int (nI n)])), (me 1, .inl (kA, 96, .inl g)), (me 2, .inl (kA, 4, .inl (fun j => nI ((va_up ss 2 0) j)))), (me 3, .inl (kA, 256, .inl mk))] := vz_D hD rfl
  refine lv_iconst (v := nI 0) hx hb dX2_minimize_7 (by decide) ?_
  refine lv_istore_n (lv' := [(1, .int (nI 0)), (0, .ref (me 0))]) hx hb dX2_minimize_8 rfl hl (by decide) rfl (fun ls hl => ?_)
  have lp1 : ∀ (dz : Nat) (i u : Nat) (r : Nat → Int32) (H : Heap) (locs : List Loc) (ls : Array Slot), (t0 - i) < dz → (i ≤ t0) → (u ≤ i) → ((u, r) = mfc n q0 q2 i) → va_P D vwCl [(me 0, .inr (2, [.ref (me 1), .ref (me 2), .ref (me 3), .int (nI n)])), (me 1, .inl (kA, 96, .inl (zput 2 r g))), (me 2, .inl (kA, 4, .inl (fun j => nI ((va_up ss 2 u) j)))), (me 3, .inl (kA, 256, .inl mk))] H → va_D Az [(me 0, .inr (2, [.ref (me 1), .ref (me 2), .ref (me 3), .int (nI n)])), (me 1, .inl (kA, 96, .inl (zput 2 r g))), (me 2, .inl (kA, 4, .inl (fun j => nI ((va_up ss 2 u) j)))), (me 3, .inl (kA, 256, .inl mk))] → va_S Az sz.heap H locs → lv_has ls 3 [(0, .ref (me 0)), (1, .int (nI i))] → W pz l ez (vz_R 4 95) sz mz args below meth cz H locs 0 0 Q (F0 mz 9 ls []) := by
    intro dz
    induction dz with
    | zero => intro i u r H locs ls hd h1 h2 h3 hP hD hS hl; exact absurd hd (Nat.not_lt_zero _)
    | succ dz ih1 =>
      intro i u r H locs ls hd h1 h2 h3 hP hD hS hl
      refine lv_iload_n hx hb dX2_minimize_9 rfl (lv_at hl 1 rfl) ?_
      refine lv_aload_n hx hb dX2_minimize_10 rfl (lv_at hl 0 rfl) ?_
      refine va_get (D := D) (ci := 2) (v := .ref (me 2)) (C := RX2) (T := TX2) (N := 4) hx hb hts hi0 hown hK hP 0 rfl rfl 1 (by decide) hf13 (fun _ h9 => h9) rfl dX2_minimize_11 ?_
      refine lv_iconst (v := nI 0) hx hb dX2_minimize_14 (by decide) ?_
      refine vz_ald hx hb hK hP 2 rfl (by omega) (Nat.le_of_ble_eq_true rfl) dX2_minimize_15 ?_
      refine vz_top (y := (nI t0)) (congrArg nI (by rw [va_up_ne _ _ (by decide)]; exact ht0)) ?_
      refine vz_cge (tgt := 68) hx hb dX2_minimize_16 (by decide) (by omega) (by omega) (fun c_16 => ?_) (fun c_16 => ?_)
      · skip
        obtain rfl : t0 = i := by omega
        have hm0 : mps n mk true u r = (mmz0 n mk t0 q0 q2) := by rw [mmz0, ← h3]
        refine lv_aload_n hx hb dX2_minimize_68 rfl (lv_at hl 0 rfl) ?_
        refine lv_iconst (v := nI 2) hx hb dX2_minimize_69 (by decide) ?_
        refine lv_iconst (v := nI 1) hx hb dX2_minimize_70 (by decide) ?_
        refine vz_top (y := (vz_b true)) rfl ?_
        refine vz_callM (n := 2) (As := [.int (nI 2), .int (vz_b true)]) (rest := []) (q0 := 0) hcf (c_X2_pass l D kA me n (zput 2 r g) mk (va_up ss 2 u) hn 2 u r (by decide) (va_up_self _ _ _) (by omega) (fun j hj => zput_at hj) true) gX2_minimize_X2_pass rfl hd_X2_pass ⟨Nat.le_of_ble_eq_true rfl, Nat.le_of_ble_eq_true rfl⟩ hK hP hD hS [0, 1, 2, 3] (by decide) rfl rfl rfl rfl rfl rfl rfl hl.1 rfl (Nat.le_of_ble_eq_true rfl) ⟨Nat.zero_le _, Nat.zero_le _⟩ dX2_minimize_71 (fun H locs hP hD hS => ?_)
        have hP : va_P D vwCl [(me 0, .inr (2, [.ref (me 1), .ref (me 2), .ref (me 3), .int (nI n)])), (me 1, .inl (kA, 96, .inl (zput 2 (mps n mk true u r).2 (zput 2 r g)))), (me 2, .inl (kA, 4, .inl (fun j => nI ((va_up (va_up ss 2 u) 2 (mps n mk true u r).1) j)))), (me 3, .inl (kA, 256, .inl mk))] H := hP
        have hD : va_D Az [(me 0, .inr (2, [.ref (me 1), .ref (me 2), .ref (me 3), .int (nI n)])), (me 1, .inl (kA, 96, .inl (zput 2 (mps n mk true u r).2 (zput 2 r g)))), (me 2, .inl (kA, 4, .inl (fun j => nI ((va_up (va_up ss 2 u) 2 (mps n mk true u r).1) j)))), (me 3, .inl (kA, 256, .inl mk))] := hD
        rw [show (zput 2 (mps n mk true u r).2 (zput 2 r g)) = (zput 2 ((mmz0 n mk t0 q0 q2).2) g) from (by rw [hm0, zput_put])] at hP
        rw [show (fun j => nI ((va_up (va_up ss 2 u) 2 (mps n mk true u r).1) j)) = (fun j => nI ((va_up ss 2 (mmz0 n mk t0 q0 q2).1) j)) from (by rw [hm0, zup_up])] at hP
        have hD : va_D Az [(me 0, .inr (2, [.ref (me 1), .ref (me 2), .ref (me 3), .int (nI n)])), (me 1, .inl (kA, 96, .inl (zput 2 ((mmz0 n mk t0 q0 q2).2) g))), (me 2, .inl (kA, 4, .inl (fun j => nI ((va_up ss 2 (mmz0 n mk t0 q0 q2).1) j)))), (me 3, .inl (kA, 256, .inl mk))] := vz_D hD rfl
        refine lv_iconst (v := nI 1) hx hb dX2_minimize_74 (by decide) ?_
        refine vz_top (y := (vz_b true)) rfl ?_
        refine lv_istore_n (lv' := [(1, .int (vz_b true)), (0, .ref (me 0))]) hx hb dX2_minimize_75 rfl hl (by decide) rfl (fun ls hl => ?_)
        refine lv_iconst (v := nI 1) hx hb dX2_minimize_76 (by decide) ?_
        refine lv_istore_n (lv' := [(2, .int (nI 1)), (1, .int (vz_b true)), (0, .ref (me 0))]) hx hb dX2_minimize_77 rfl hl (by decide) rfl (fun ls hl => ?_)
        have lp2 : ∀ (dz : Nat) (k r : Nat) (b : Bool) (b2 : Nat) (p2 : Nat → Int32) (b3 : Nat) (p3 : Nat → Int32) (H : Heap) (locs : List Loc) (ls : Array Slot), k < dz → (r + k = 9) → (b2 ≤ 24) → (b3 ≤ 24) → (mrs n mk k r b (b2, p2, b3, p3) = (mmz n mk t0 q0 q2 t3 q3)) → va_P D vwCl [(me 0, .inr (2, [.ref (me 1), .ref (me 2), .ref (me 3), .int (nI n)])), (me 1, .inl (kA, 96, .inl (zput 3 p3 (zput 2 p2 g)))), (me 2, .inl (kA, 4, .inl (fun j => nI ((va_up (va_up ss 2 b2) 3 b3) j)))), (me 3, .inl (kA, 256, .inl mk))] H → va_D Az [(me 0, .inr (2, [.ref (me 1), .ref (me 2), .ref (me 3), .int (nI n)])), (me 1, .inl (kA, 96, .inl (zput 3 p3 (zput 2 p2 g)))), (me 2, .inl (kA, 4, .inl (fun j => nI ((va_up (va_up ss 2 b2) 3 b3) j)))), (me 3, .inl (kA, 256, .inl mk))] → va_S Az sz.heap H locs → lv_has ls 3 [(0, .ref (me 0)), (1, .int (vz_b b)), (2, .int (nI r))] → W pz l ez (vz_R 4 95) sz mz args below meth cz H locs 0 0 Q (F0 mz 78 ls []) := by
          intro dz
          induction dz with
          | zero => intro k r b b2 p2 b3 p3 H locs ls hd h1 h2 hb3 h3 hP hD hS hl; exact absurd hd (Nat.not_lt_zero _)
          | succ dz ih2 =>
            intro k r b b2 p2 b3 p3 H locs ls hd h1 h2 hb3 h3 hP hD hS hl
            refine lv_iload_n hx hb dX2_minimize_78 rfl (lv_at hl 2 rfl) ?_
            refine lv_bipush (v := nI 8) hx hb dX2_minimize_79 (by decide) ?_
            refine vz_cgt (tgt := 180) hx hb dX2_minimize_81 (by decide) (by omega) (by omega) (fun c_81 => ?_) (fun c_81 => ?_)
            · skip
              obtain rfl : k = 0 := by omega
              have h5 : (b2, p2, b3, p3) = (mmz n mk t0 q0 q2 t3 q3) := h3
              rw [← h5] at hQ
              refine lv_aload_n hx hb dX2_minimize_180 rfl (lv_at hl 0 rfl) ?_
              refine va_get (D := D) (ci := 2) (v := .ref (me 2)) (C := RX2) (T := TX2) (N := 4) hx hb hts hi0 hown hK hP 0 rfl rfl 1 (by decide) hf13 (fun _ h9 => h9) rfl dX2_minimize_181 ?_
              refine lv_iconst (v := nI 2) hx hb dX2_minimize_184 (by decide) ?_
              refine vz_ald hx hb hK hP 2 rfl (by omega) (Nat.le_of_ble_eq_true rfl) dX2_minimize_185 ?_
              refine vz_top (y := (nI b2)) (congrArg nI (by rw [va_up_ne _ _ (by decide)]; exact va_up_self _ _ _)) ?_
              exact vz_iretM hx hb hr hlocks hQ hAe (vp_nar_int _) dX2_minimize_186 rfl hS hP rfl
            · skip
              obtain ⟨k, rfl⟩ : ∃ i, k = i + 1 := ⟨k - 1, by omega⟩
              refine lv_iload_n hx hb dX2_minimize_84 rfl (lv_at hl 1 rfl) ?_
              refine vz_ifeqB (tgt := 180) hx hb dX2_minimize_85 (by decide) (fun c_85 => ?_) (fun c_85 => ?_)
              · skip
                have h5 : (b2, p2, b3, p3) = (mmz n mk t0 q0 q2 t3 q3) := by rw [← h3, mrs, if_neg (by rw [c_85]; decide)]
                rw [← h5] at hQ
                refine lv_aload_n hx hb dX2_minimize_180 rfl (lv_at hl 0 rfl) ?_
                refine va_get (D := D) (ci := 2) (v := .ref (me 2)) (C := RX2) (T := TX2) (N := 4) hx hb hts hi0 hown hK hP 0 rfl rfl 1 (by decide) hf13 (fun _ h9 => h9) rfl dX2_minimize_181 ?_
                refine lv_iconst (v := nI 2) hx hb dX2_minimize_184 (by decide) ?_
                refine vz_ald hx hb hK hP 2 rfl (by omega) (Nat.le_of_ble_eq_true rfl) dX2_minimize_185 ?_
                refine vz_top (y := (nI b2)) (congrArg nI (by rw [va_up_ne _ _ (by decide)]; exact va_up_self _ _ _)) ?_
                exact vz_iretM hx hb hr hlocks hQ hAe (vp_nar_int _) dX2_minimize_186 rfl hS hP rfl
              · skip
                subst c_85
                refine lv_aload_n hx hb dX2_minimize_88 rfl (lv_at hl 0 rfl) ?_
                refine lv_iconst (v := nI 2) hx hb dX2_minimize_89 (by decide) ?_
                refine lv_iconst (v := nI 3) hx hb dX2_minimize_90 (by decide) ?_
                refine vz_callM (n := 2) (As := [.int (nI 2), .int (nI 3)]) (rest := []) (q0 := 0) hcf (c_X2_copy l D kA me n (zput 3 p3 (zput 2 p2 g)) mk (va_up (va_up ss 2 b2) 3 b3) hn 2 3 b2 p2 p3 (by decide) (by decide) (by decide) (by rw [va_up_ne _ _ (by decide)]; exact va_up_self _ _ _) h2 (fun j hj => by rw [zput_ne hj (by decide)]; exact zput_at hj) (fun j hj => zput_at hj)) gX2_minimize_X2_copy rfl hd_X2_copy ⟨Nat.le_of_ble_eq_true rfl, Nat.le_of_ble_eq_true rfl⟩ hK hP hD hS [0, 1, 2, 3] (by decide) rfl rfl rfl rfl rfl rfl rfl hl.1 rfl (Nat.le_of_ble_eq_true rfl) ⟨Nat.zero_le _, Nat.zero_le _⟩ dX2_minimize_91 (fun H locs hP hD hS => ?_)
                have hP : va_P D vwCl [(me 0, .inr (2, [.ref (me 1), .ref (me 2), .ref (me 3), .int (nI n)])), (me 1, .inl (kA, 96, .inl (zput 3 (zcp b2 p2 p3) (zput 3 p3 (zput 2 p2 g))))), (me 2, .inl (kA, 4, .inl (fun j => nI ((va_up (va_up (va_up ss 2 b2) 3 b3) 3 b2) j)))), (me 3, .inl (kA, 256, .inl mk))] H := hP
                have hD : va_D Az [(me 0, .inr (2, [.ref (me 1), .ref (me 2), .ref (me 3), .int (nI n)])), (me 1, .inl (kA, 96, .inl (zput 3 (zcp b2 p2 p3) (zput 3 p3 (zput 2 p2 g))))), (me 2, .inl (kA, 4, .inl (fun j => nI ((va_up (va_up (va_up ss 2 b2) 3 b3) 3 b2) j)))), (me 3, .inl (kA, 256, .inl mk))] := hD
                rw [show (zput 3 (zcp b2 p2 p3) (zput 3 p3 (zput 2 p2 g))) = (zput 3 (zcp b2 p2 p3) (zput 2 p2 g)) from zput_put] at hP
                rw [show (fun j => nI ((va_up (va_up (va_up ss 2 b2) 3 b3) 3 b2) j)) = (fun j => nI ((va_up (va_up ss 2 b2) 3 b2) j)) from (by rw [zup_up])] at hP
                have hD : va_D Az [(me 0, .inr (2, [.ref (me 1), .ref (me 2), .ref (me 3), .int (nI n)])), (me 1, .inl (kA, 96, .inl (zput 3 (zcp b2 p2 p3) (zput 2 p2 g)))), (me 2, .inl (kA, 4, .inl (fun j => nI ((va_up (va_up ss 2 b2) 3 b2) j)))), (me 3, .inl (kA, 256, .inl mk))] := vz_D hD rfl
                refine lv_aload_n hx hb dX2_minimize_94 rfl (lv_at hl 0 rfl) ?_
                refine lv_iconst (v := nI 3) hx hb dX2_minimize_95 (by decide) ?_
                refine vz_callM (n := 1) (As := [.int (nI 3)]) (rest := []) (q0 := 0) hcf (c_X2_narrow l D kA me n (zput 3 (zcp b2 p2 p3) (zput 2 p2 g)) mk (va_up (va_up ss 2 b2) 3 b2) hn 3 b2 (zcp b2 p2 p3) (by decide) (va_up_self _ _ _) h2 (fun j hj => zput_at hj)) gX2_minimize_X2_narrow rfl hd_X2_narrow ⟨Nat.le_of_ble_eq_true rfl, Nat.le_of_ble_eq_true rfl⟩ hK hP hD hS [0, 1, 2, 3] (by decide) rfl rfl rfl rfl rfl rfl rfl hl.1 rfl (Nat.le_of_ble_eq_true rfl) ⟨Nat.zero_le _, Nat.zero_le _⟩ dX2_minimize_96 (fun H locs hP hD hS => ?_)
                have hP : va_P D vwCl [(me 0, .inr (2, [.ref (me 1), .ref (me 2), .ref (me 3), .int (nI n)])), (me 1, .inl (kA, 96, .inl (zput 3 (mnr n mk b2 (zcp b2 p2 p3) b2) (zput 3 (zcp b2 p2 p3) (zput 2 p2 g))))), (me 2, .inl (kA, 4, .inl (fun j => nI ((va_up (va_up ss 2 b2) 3 b2) j)))), (me 3, .inl (kA, 256, .inl mk))] H := hP
                have hD : va_D Az [(me 0, .inr (2, [.ref (me 1), .ref (me 2), .ref (me 3), .int (nI n)])), (me 1, .inl (kA, 96, .inl (zput 3 (mnr n mk b2 (zcp b2 p2 p3) b2) (zput 3 (zcp b2 p2 p3) (zput 2 p2 g))))), (me 2, .inl (kA, 4, .inl (fun j => nI ((va_up (va_up ss 2 b2) 3 b2) j)))), (me 3, .inl (kA, 256, .inl mk))] := hD
                rw [show (zput 3 (mnr n mk b2 (zcp b2 p2 p3) b2) (zput 3 (zcp b2 p2 p3) (zput 2 p2 g))) = (zput 3 (mnr n mk b2 (zcp b2 p2 p3) b2) (zput 2 p2 g)) from zput_put] at hP
                have hD : va_D Az [(me 0, .inr (2, [.ref (me 1), .ref (me 2), .ref (me 3), .int (nI n)])), (me 1, .inl (kA, 96, .inl (zput 3 (mnr n mk b2 (zcp b2 p2 p3) b2) (zput 2 p2 g)))), (me 2, .inl (kA, 4, .inl (fun j => nI ((va_up (va_up ss 2 b2) 3 b2) j)))), (me 3, .inl (kA, 256, .inl mk))] := vz_D hD rfl
                refine lv_aload_n hx hb dX2_minimize_99 rfl (lv_at hl 0 rfl) ?_
                refine lv_iconst (v := nI 3) hx hb dX2_minimize_100 (by decide) ?_
                refine lv_iload_n hx hb dX2_minimize_101 rfl (lv_at hl 2 rfl) ?_
                refine lv_iconst (v := nI 2) hx hb dX2_minimize_102 (by decide) ?_
                refine lv_irem hx hb dX2_minimize_103 (by decide) ?_
                refine vz_top (y := (nI (r % 2))) (zmod2 r (by omega)) ?_
                refine lv_if_ne (tgt := 111) hx hb dX2_minimize_104 (by decide) (fun c_104 => ?_) (fun c_104 => ?_)
                · skip
                  refine lv_iconst (v := nI 0) hx hb dX2_minimize_111 (by decide) ?_
                  refine vz_top (y := (vz_b (decide (r % 2 = 0)))) (by rw [decide_eq_false (fun e9 => c_104 (congrArg nI e9))]; rfl) ?_
                  refine vz_callM (n := 2) (As := [.int (nI 3), .int (vz_b (decide (r % 2 = 0)))]) (rest := []) (q0 := 0) hcf (c_X2_pass l D kA me n (zput 3 (mnr n mk b2 (zcp b2 p2 p3) b2) (zput 2 p2 g)) mk (va_up (va_up ss 2 b2) 3 b2) hn 3 b2 (mnr n mk b2 (zcp b2 p2 p3) b2) (by decide) (va_up_self _ _ _) h2 (fun j hj => zput_at hj) (decide (r % 2 = 0))) gX2_minimize_X2_pass rfl hd_X2_pass ⟨Nat.le_of_ble_eq_true rfl, Nat.le_of_ble_eq_true rfl⟩ hK hP hD hS [0, 1, 2, 3] (by decide) rfl rfl rfl rfl rfl rfl rfl hl.1 rfl (Nat.le_of_ble_eq_true rfl) ⟨Nat.zero_le _, Nat.zero_le _⟩ dX2_minimize_112 (fun H locs hP hD hS => ?_)
                  have hP : va_P D vwCl [(me 0, .inr (2, [.ref (me 1), .ref (me 2), .ref (me 3), .int (nI n)])), (me 1, .inl (kA, 96, .inl (zput 3 (mr1 n mk r (b2, p2, b3, p3)).2 (zput 3 (mnr n mk b2 (zcp b2 p2 p3) b2) (zput 2 p2 g))))), (me 2, .inl (kA, 4, .inl (fun j => nI ((va_up (va_up (va_up ss 2 b2) 3 b2) 3 (mr1 n mk r (b2, p2, b3, p3)).1) j)))), (me 3, .inl (kA, 256, .inl mk))] H := hP
                  have hD : va_D Az [(me 0, .inr (2, [.ref (me 1), .ref (me 2), .ref (me 3), .int (nI n)])), (me 1, .inl (kA, 96, .inl (zput 3 (mr1 n mk r (b2, p2, b3, p3)).2 (zput 3 (mnr n mk b2 (zcp b2 p2 p3) b2) (zput 2 p2 g))))), (me 2, .inl (kA, 4, .inl (fun j => nI ((va_up (va_up (va_up ss 2 b2) 3 b2) 3 (mr1 n mk r (b2, p2, b3, p3)).1) j)))), (me 3, .inl (kA, 256, .inl mk))] := hD
                  rw [show (zput 3 (mr1 n mk r (b2, p2, b3, p3)).2 (zput 3 (mnr n mk b2 (zcp b2 p2 p3) b2) (zput 2 p2 g))) = (zput 3 ((mr1 n mk r (b2, p2, b3, p3)).2) (zput 2 p2 g)) from zput_put] at hP
                  rw [show (fun j => nI ((va_up (va_up (va_up ss 2 b2) 3 b2) 3 (mr1 n mk r (b2, p2, b3, p3)).1) j)) = (fun j => nI ((va_up (va_up ss 2 b2) 3 ((mr1 n mk r (b2, p2, b3, p3)).1)) j)) from (by rw [zup_up])] at hP
                  have hD : va_D Az [(me 0, .inr (2, [.ref (me 1), .ref (me 2), .ref (me 3), .int (nI n)])), (me 1, .inl (kA, 96, .inl (zput 3 ((mr1 n mk r (b2, p2, b3, p3)).2) (zput 2 p2 g)))), (me 2, .inl (kA, 4, .inl (fun j => nI ((va_up (va_up ss 2 b2) 3 ((mr1 n mk r (b2, p2, b3, p3)).1)) j)))), (me 3, .inl (kA, 256, .inl mk))] := vz_D hD rfl
                  have hr1 : (mr1 n mk r (b2, p2, b3, p3)).1 ≤ 24 := Nat.le_trans mps_le h2
                  have hz1 : mlits n (mr1 n mk r (b2, p2, b3, p3)).1 (mr1 n mk r (b2, p2, b3, p3)).2 ≤ 192 := mlits_le hn hr1
                  have hz2 : mlits n b2 p2 ≤ 192 := mlits_le hn h2
                  refine lv_aload_n hx hb dX2_minimize_115 rfl (lv_at hl 0 rfl) ?_
                  refine va_get (D := D) (ci := 2) (v := .ref (me 2)) (C := RX2) (T := TX2) (N := 4) hx hb hts hi0 hown hK hP 0 rfl rfl 1 (by decide) hf13 (fun _ h9 => h9) rfl dX2_minimize_116 ?_
                  refine lv_iconst (v := nI 3) hx hb dX2_minimize_119 (by decide) ?_
                  refine vz_ald hx hb hK hP 2 rfl (by omega) (Nat.le_of_ble_eq_true rfl) dX2_minimize_120 ?_
                  refine vz_top (y := (nI ((mr1 n mk r (b2, p2, b3, p3)).1))) (congrArg nI (va_up_self _ _ _)) ?_
                  refine lv_aload_n hx hb dX2_minimize_121 rfl (lv_at hl 0 rfl) ?_
                  refine va_get (D := D) (ci := 2) (v := .ref (me 2)) (C := RX2) (T := TX2) (N := 4) hx hb hts hi0 hown hK hP 0 rfl rfl 1 (by decide) hf13 (fun _ h9 => h9) rfl dX2_minimize_122 ?_
                  refine lv_iconst (v := nI 2) hx hb dX2_minimize_125 (by decide) ?_
                  refine vz_ald hx hb hK hP 2 rfl (by omega) (Nat.le_of_ble_eq_true rfl) dX2_minimize_126 ?_
                  refine vz_top (y := (nI b2)) (congrArg nI (by rw [va_up_ne _ _ (by decide)]; exact va_up_self _ _ _)) ?_
                  refine vz_clt (tgt := 158) hx hb dX2_minimize_127 (by decide) (by omega) (by omega) (fun c_127 => ?_) (fun c_127 => ?_)
                  · skip
                    refine lv_iconst (v := nI 1) hx hb dX2_minimize_158 (by decide) ?_
                    refine vz_top (y := (vz_b (msl n (mr1 n mk r (b2, p2, b3, p3)).1 (mr1 n mk r (b2, p2, b3, p3)).2 b2 p2))) (by rw [msl]; first | (rw [decide_eq_true c_127]; rfl) | (rw [decide_eq_false (show ¬ (mr1 n mk r (b2, p2, b3, p3)).1 < b2 by omega), decide_eq_false c_142]; rfl) | (rw [decide_eq_false (show ¬ (mr1 n mk r (b2, p2, b3, p3)).1 < b2 by omega), decide_eq_true c_142]; first | (rw [decide_eq_true c_155]; rfl) | (rw [decide_eq_false (show ¬ mlits n (mr1 n mk r (b2, p2, b3, p3)).1 (mr1 n mk r (b2, p2, b3, p3)).2 < mlits n b2 p2 by omega)]; rfl))) ?_
                    refine lv_goto (tgt := 163) hx hb dX2_minimize_159 (by decide) ?_
                    refine lv_istore_n (lv' := [(1, .int (vz_b (msl n (mr1 n mk r (b2, p2, b3, p3)).1 (mr1 n mk r (b2, p2, b3, p3)).2 b2 p2))), (0, .ref (me 0)), (2, .int (nI r))]) hx hb dX2_minimize_163 rfl hl (by decide) rfl (fun ls hl => ?_)
                    refine lv_iload_n hx hb dX2_minimize_164 rfl (lv_at hl 0 rfl) ?_
                    refine vz_ifeqB (tgt := 174) hx hb dX2_minimize_165 (by decide) (fun c_165 => ?_) (fun c_165 => ?_)
                    · skip
                      refine lv_iinc (v := (nI (r + 1))) (lv' := [(2, .int (nI (r + 1))), (1, .int (vz_b (msl n (mr1 n mk r (b2, p2, b3, p3)).1 (mr1 n mk r (b2, p2, b3, p3)).2 b2 p2))), (0, .ref (me 0))]) hx hb dX2_minimize_174 hl (k := 2) rfl (nI_1 _) (by decide) rfl (fun ls hl => ?_)
                      refine lv_goto (tgt := 78) hx hb dX2_minimize_177 (by decide) ?_
                      rw [c_165] at hl
                      exact ih2 k (r + 1) false b2 p2 ((mr1 n mk r (b2, p2, b3, p3)).1) ((mr1 n mk r (b2, p2, b3, p3)).2) _ _ _ (by omega) (by omega) (by omega) (Nat.le_trans mps_le h2) (by rw [← h3, mrs, if_pos rfl, show mrb n mk r (b2, p2, b3, p3) = false from c_165]; congr 1; rw [mr2, if_neg (by rw [show mrb n mk r (b2, p2, b3, p3) = false from c_165]; decide)]) hP (vz_D hD rfl) hS (lv_sub hl [2, 1, 0] rfl)
                    · skip
                      refine lv_aload_n hx hb dX2_minimize_168 rfl (lv_at hl 1 rfl) ?_
                      refine lv_iconst (v := nI 3) hx hb dX2_minimize_169 (by decide) ?_
                      refine lv_iconst (v := nI 2) hx hb dX2_minimize_170 (by decide) ?_
                      refine vz_callM (n := 2) (As := [.int (nI 3), .int (nI 2)]) (rest := []) (q0 := 0) hcf (c_X2_copy l D kA me n (zput 3 ((mr1 n mk r (b2, p2, b3, p3)).2) (zput 2 p2 g)) mk (va_up (va_up ss 2 b2) 3 ((mr1 n mk r (b2, p2, b3, p3)).1)) hn 3 2 (mr1 n mk r (b2, p2, b3, p3)).1 (mr1 n mk r (b2, p2, b3, p3)).2 p2 (by decide) (by decide) (by decide) (va_up_self _ _ _) hr1 (fun j hj => zput_at hj) (fun j hj => by rw [zput_ne hj (by decide)]; exact zput_at hj)) gX2_minimize_X2_copy rfl hd_X2_copy ⟨Nat.le_of_ble_eq_true rfl, Nat.le_of_ble_eq_true rfl⟩ hK hP hD hS [0, 1, 2, 3] (by decide) rfl rfl rfl rfl rfl rfl rfl hl.1 rfl (Nat.le_of_ble_eq_true rfl) ⟨Nat.zero_le _, Nat.zero_le _⟩ dX2_minimize_171 (fun H locs hP hD hS => ?_)
                      have hP : va_P D vwCl [(me 0, .inr (2, [.ref (me 1), .ref (me 2), .ref (me 3), .int (nI n)])), (me 1, .inl (kA, 96, .inl (zput 2 (zcp (mr1 n mk r (b2, p2, b3, p3)).1 (mr1 n mk r (b2, p2, b3, p3)).2 p2) (zput 3 ((mr1 n mk r (b2, p2, b3, p3)).2) (zput 2 p2 g))))), (me 2, .inl (kA, 4, .inl (fun j => nI ((va_up (va_up (va_up ss 2 b2) 3 ((mr1 n mk r (b2, p2, b3, p3)).1)) 2 (mr1 n mk r (b2, p2, b3, p3)).1) j)))), (me 3, .inl (kA, 256, .inl mk))] H := hP
                      have hD : va_D Az [(me 0, .inr (2, [.ref (me 1), .ref (me 2), .ref (me 3), .int (nI n)])), (me 1, .inl (kA, 96, .inl (zput 2 (zcp (mr1 n mk r (b2, p2, b3, p3)).1 (mr1 n mk r (b2, p2, b3, p3)).2 p2) (zput 3 ((mr1 n mk r (b2, p2, b3, p3)).2) (zput 2 p2 g))))), (me 2, .inl (kA, 4, .inl (fun j => nI ((va_up (va_up (va_up ss 2 b2) 3 ((mr1 n mk r (b2, p2, b3, p3)).1)) 2 (mr1 n mk r (b2, p2, b3, p3)).1) j)))), (me 3, .inl (kA, 256, .inl mk))] := hD
                      rw [show (zput 2 (zcp (mr1 n mk r (b2, p2, b3, p3)).1 (mr1 n mk r (b2, p2, b3, p3)).2 p2) (zput 3 ((mr1 n mk r (b2, p2, b3, p3)).2) (zput 2 p2 g))) = (zput 3 ((mr1 n mk r (b2, p2, b3, p3)).2) (zput 2 (zcp (mr1 n mk r (b2, p2, b3, p3)).1 (mr1 n mk r (b2, p2, b3, p3)).2 p2) g)) from (by rw [zput_comm (by decide), zput_put])] at hP
                      rw [show (fun j => nI ((va_up (va_up (va_up ss 2 b2) 3 ((mr1 n mk r (b2, p2, b3, p3)).1)) 2 (mr1 n mk r (b2, p2, b3, p3)).1) j)) = (fun j => nI ((va_up (va_up ss 2 ((mr1 n mk r (b2, p2, b3, p3)).1)) 3 ((mr1 n mk r (b2, p2, b3, p3)).1)) j)) from (by rw [zup_comm (by decide), zup_up])] at hP
                      have hD : va_D Az [(me 0, .inr (2, [.ref (me 1), .ref (me 2), .ref (me 3), .int (nI n)])), (me 1, .inl (kA, 96, .inl (zput 3 ((mr1 n mk r (b2, p2, b3, p3)).2) (zput 2 (zcp (mr1 n mk r (b2, p2, b3, p3)).1 (mr1 n mk r (b2, p2, b3, p3)).2 p2) g)))), (me 2, .inl (kA, 4, .inl (fun j => nI ((va_up (va_up ss 2 ((mr1 n mk r (b2, p2, b3, p3)).1)) 3 ((mr1 n mk r (b2, p2, b3, p3)).1)) j)))), (me 3, .inl (kA, 256, .inl mk))] := vz_D hD rfl
                      refine lv_iinc (v := (nI (r + 1))) (lv' := [(2, .int (nI (r + 1))), (1, .int (vz_b (msl n (mr1 n mk r (b2, p2, b3, p3)).1 (mr1 n mk r (b2, p2, b3, p3)).2 b2 p2))), (0, .ref (me 0))]) hx hb dX2_minimize_174 hl (k := 2) rfl (nI_1 _) (by decide) rfl (fun ls hl => ?_)
                      refine lv_goto (tgt := 78) hx hb dX2_minimize_177 (by decide) ?_
                      rw [c_165] at hl
                      exact ih2 k (r + 1) true ((mr1 n mk r (b2, p2, b3, p3)).1) (zcp (mr1 n mk r (b2, p2, b3, p3)).1 (mr1 n mk r (b2, p2, b3, p3)).2 p2) ((mr1 n mk r (b2, p2, b3, p3)).1) ((mr1 n mk r (b2, p2, b3, p3)).2) _ _ _ (by omega) (by omega) (Nat.le_trans mps_le h2) (Nat.le_trans mps_le h2) (by rw [← h3, mrs, if_pos rfl, show mrb n mk r (b2, p2, b3, p3) = true from c_165]; congr 1; rw [mr2, if_pos (show mrb n mk r (b2, p2, b3, p3) = true from c_165)]) hP (vz_D hD rfl) hS (lv_sub hl [2, 1, 0] rfl)
                  · skip
                    refine lv_aload_n hx hb dX2_minimize_130 rfl (lv_at hl 0 rfl) ?_
                    refine va_get (D := D) (ci := 2) (v := .ref (me 2)) (C := RX2) (T := TX2) (N := 4) hx hb hts hi0 hown hK hP 0 rfl rfl 1 (by decide) hf13 (fun _ h9 => h9) rfl dX2_minimize_131 ?_
                    refine lv_iconst (v := nI 3) hx hb dX2_minimize_134 (by decide) ?_
                    refine vz_ald hx hb hK hP 2 rfl (by omega) (Nat.le_of_ble_eq_true rfl) dX2_minimize_135 ?_
                    refine vz_top (y := (nI ((mr1 n mk r (b2, p2, b3, p3)).1))) (congrArg nI (va_up_self _ _ _)) ?_
                    refine lv_aload_n hx hb dX2_minimize_136 rfl (lv_at hl 0 rfl) ?_
                    refine va_get (D := D) (ci := 2) (v := .ref (me 2)) (C := RX2) (T := TX2) (N := 4) hx hb hts hi0 hown hK hP 0 rfl rfl 1 (by decide) hf13 (fun _ h9 => h9) rfl dX2_minimize_137 ?_
                    refine lv_iconst (v := nI 2) hx hb dX2_minimize_140 (by decide) ?_
                    refine vz_ald hx hb hK hP 2 rfl (by omega) (Nat.le_of_ble_eq_true rfl) dX2_minimize_141 ?_
                    refine vz_top (y := (nI b2)) (congrArg nI (by rw [va_up_ne _ _ (by decide)]; exact va_up_self _ _ _)) ?_
                    refine vz_cne (tgt := 162) hx hb dX2_minimize_142 (by decide) (by omega) (by omega) (fun c_142 => ?_) (fun c_142 => ?_)
                    · skip
                      refine lv_iconst (v := nI 0) hx hb dX2_minimize_162 (by decide) ?_
                      refine vz_top (y := (vz_b (msl n (mr1 n mk r (b2, p2, b3, p3)).1 (mr1 n mk r (b2, p2, b3, p3)).2 b2 p2))) (by rw [msl]; first | (rw [decide_eq_true c_127]; rfl) | (rw [decide_eq_false (show ¬ (mr1 n mk r (b2, p2, b3, p3)).1 < b2 by omega), decide_eq_false c_142]; rfl) | (rw [decide_eq_false (show ¬ (mr1 n mk r (b2, p2, b3, p3)).1 < b2 by omega), decide_eq_true c_142]; first | (rw [decide_eq_true c_155]; rfl) | (rw [decide_eq_false (show ¬ mlits n (mr1 n mk r (b2, p2, b3, p3)).1 (mr1 n mk r (b2, p2, b3, p3)).2 < mlits n b2 p2 by omega)]; rfl))) ?_
                      refine lv_istore_n (lv' := [(1, .int (vz_b (msl n (mr1 n mk r (b2, p2, b3, p3)).1 (mr1 n mk r (b2, p2, b3, p3)).2 b2 p2))), (0, .ref (me 0)), (2, .int (nI r))]) hx hb dX2_minimize_163 rfl hl (by decide) rfl (fun ls hl => ?_)
                      refine lv_iload_n hx hb dX2_minimize_164 rfl (lv_at hl 0 rfl) ?_
                      refine vz_ifeqB (tgt := 174) hx hb dX2_minimize_165 (by decide) (fun c_165 => ?_) (fun c_165 => ?_)
                      · skip
                        refine lv_iinc (v := (nI (r + 1))) (lv' := [(2, .int (nI (r + 1))), (1, .int (vz_b (msl n (mr1 n mk r (b2, p2, b3, p3)).1 (mr1 n mk r (b2, p2, b3, p3)).2 b2 p2))), (0, .ref (me 0))]) hx hb dX2_minimize_174 hl (k := 2) rfl (nI_1 _) (by decide) rfl (fun ls hl => ?_)
                        refine lv_goto (tgt := 78) hx hb dX2_minimize_177 (by decide) ?_
                        rw [c_165] at hl
                        exact ih2 k (r + 1) false b2 p2 ((mr1 n mk r (b2, p2, b3, p3)).1) ((mr1 n mk r (b2, p2, b3, p3)).2) _ _ _ (by omega) (by omega) (by omega) (Nat.le_trans mps_le h2) (by rw [← h3, mrs, if_pos rfl, show mrb n mk r (b2, p2, b3, p3) = false from c_165]; congr 1; rw [mr2, if_neg (by rw [show mrb n mk r (b2, p2, b3, p3) = false from c_165]; decide)]) hP (vz_D hD rfl) hS (lv_sub hl [2, 1, 0] rfl)
                      · skip
                        refine lv_aload_n hx hb dX2_minimize_168 rfl (lv_at hl 1 rfl) ?_
                        refine lv_iconst (v := nI 3) hx hb dX2_minimize_169 (by decide) ?_
                        refine lv_iconst (v := nI 2) hx hb dX2_minimize_170 (by decide) ?_
                        refine vz_callM (n := 2) (As := [.int (nI 3), .int (nI 2)]) (rest := []) (q0 := 0) hcf (c_X2_copy l D kA me n (zput 3 ((mr1 n mk r (b2, p2, b3, p3)).2) (zput 2 p2 g)) mk (va_up (va_up ss 2 b2) 3 ((mr1 n mk r (b2, p2, b3, p3)).1)) hn 3 2 (mr1 n mk r (b2, p2, b3, p3)).1 (mr1 n mk r (b2, p2, b3, p3)).2 p2 (by decide) (by decide) (by decide) (va_up_self _ _ _) hr1 (fun j hj => zput_at hj) (fun j hj => by rw [zput_ne hj (by decide)]; exact zput_at hj)) gX2_minimize_X2_copy rfl hd_X2_copy ⟨Nat.le_of_ble_eq_true rfl, Nat.le_of_ble_eq_true rfl⟩ hK hP hD hS [0, 1, 2, 3] (by decide) rfl rfl rfl rfl rfl rfl rfl hl.1 rfl (Nat.le_of_ble_eq_true rfl) ⟨Nat.zero_le _, Nat.zero_le _⟩ dX2_minimize_171 (fun H locs hP hD hS => ?_)
                        have hP : va_P D vwCl [(me 0, .inr (2, [.ref (me 1), .ref (me 2), .ref (me 3), .int (nI n)])), (me 1, .inl (kA, 96, .inl (zput 2 (zcp (mr1 n mk r (b2, p2, b3, p3)).1 (mr1 n mk r (b2, p2, b3, p3)).2 p2) (zput 3 ((mr1 n mk r (b2, p2, b3, p3)).2) (zput 2 p2 g))))), (me 2, .inl (kA, 4, .inl (fun j => nI ((va_up (va_up (va_up ss 2 b2) 3 ((mr1 n mk r (b2, p2, b3, p3)).1)) 2 (mr1 n mk r (b2, p2, b3, p3)).1) j)))), (me 3, .inl (kA, 256, .inl mk))] H := hP
                        have hD : va_D Az [(me 0, .inr (2, [.ref (me 1), .ref (me 2), .ref (me 3), .int (nI n)])), (me 1, .inl (kA, 96, .inl (zput 2 (zcp (mr1 n mk r (b2, p2, b3, p3)).1 (mr1 n mk r (b2, p2, b3, p3)).2 p2) (zput 3 ((mr1 n mk r (b2, p2, b3, p3)).2) (zput 2 p2 g))))), (me 2, .inl (kA, 4, .inl (fun j => nI ((va_up (va_up (va_up ss 2 b2) 3 ((mr1 n mk r (b2, p2, b3, p3)).1)) 2 (mr1 n mk r (b2, p2, b3, p3)).1) j)))), (me 3, .inl (kA, 256, .inl mk))] := hD
                        rw [show (zput 2 (zcp (mr1 n mk r (b2, p2, b3, p3)).1 (mr1 n mk r (b2, p2, b3, p3)).2 p2) (zput 3 ((mr1 n mk r (b2, p2, b3, p3)).2) (zput 2 p2 g))) = (zput 3 ((mr1 n mk r (b2, p2, b3, p3)).2) (zput 2 (zcp (mr1 n mk r (b2, p2, b3, p3)).1 (mr1 n mk r (b2, p2, b3, p3)).2 p2) g)) from (by rw [zput_comm (by decide), zput_put])] at hP
                        rw [show (fun j => nI ((va_up (va_up (va_up ss 2 b2) 3 ((mr1 n mk r (b2, p2, b3, p3)).1)) 2 (mr1 n mk r (b2, p2, b3, p3)).1) j)) = (fun j => nI ((va_up (va_up ss 2 ((mr1 n mk r (b2, p2, b3, p3)).1)) 3 ((mr1 n mk r (b2, p2, b3, p3)).1)) j)) from (by rw [zup_comm (by decide), zup_up])] at hP
                        have hD : va_D Az [(me 0, .inr (2, [.ref (me 1), .ref (me 2), .ref (me 3), .int (nI n)])), (me 1, .inl (kA, 96, .inl (zput 3 ((mr1 n mk r (b2, p2, b3, p3)).2) (zput 2 (zcp (mr1 n mk r (b2, p2, b3, p3)).1 (mr1 n mk r (b2, p2, b3, p3)).2 p2) g)))), (me 2, .inl (kA, 4, .inl (fun j => nI ((va_up (va_up ss 2 ((mr1 n mk r (b2, p2, b3, p3)).1)) 3 ((mr1 n mk r (b2, p2, b3, p3)).1)) j)))), (me 3, .inl (kA, 256, .inl mk))] := vz_D hD rfl
                        refine lv_iinc (v := (nI (r + 1))) (lv' := [(2, .int (nI (r + 1))), (1, .int (vz_b (msl n (mr1 n mk r (b2, p2, b3, p3)).1 (mr1 n mk r (b2, p2, b3, p3)).2 b2 p2))), (0, .ref (me 0))]) hx hb dX2_minimize_174 hl (k := 2) rfl (nI_1 _) (by decide) rfl (fun ls hl => ?_)
                        refine lv_goto (tgt := 78) hx hb dX2_minimize_177 (by decide) ?_
                        rw [c_165] at hl
                        exact ih2 k (r + 1) true ((mr1 n mk r (b2, p2, b3, p3)).1) (zcp (mr1 n mk r (b2, p2, b3, p3)).1 (mr1 n mk r (b2, p2, b3, p3)).2 p2) ((mr1 n mk r (b2, p2, b3, p3)).1) ((mr1 n mk r (b2, p2, b3, p3)).2) _ _ _ (by omega) (by omega) (Nat.le_trans mps_le h2) (Nat.le_trans mps_le h2) (by rw [← h3, mrs, if_pos rfl, show mrb n mk r (b2, p2, b3, p3) = true from c_165]; congr 1; rw [mr2, if_pos (show mrb n mk r (b2, p2, b3, p3) = true from c_165)]) hP (vz_D hD rfl) hS (lv_sub hl [2, 1, 0] rfl)
                    · skip
                      refine lv_aload_n hx hb dX2_minimize_145 rfl (lv_at hl 0 rfl) ?_
                      refine lv_iconst (v := nI 3) hx hb dX2_minimize_146 (by decide) ?_
                      refine vz_callV (n := 1) (As := [.int (nI 3)]) (rest := []) (q0 := 0) hcf (c_X2_literalsOf l D kA me n (zput 3 ((mr1 n mk r (b2, p2, b3, p3)).2) (zput 2 p2 g)) mk (va_up (va_up ss 2 b2) 3 ((mr1 n mk r (b2, p2, b3, p3)).1)) hn 3 (mr1 n mk r (b2, p2, b3, p3)).1 (mr1 n mk r (b2, p2, b3, p3)).2 (by decide) (va_up_self _ _ _) hr1 (fun j hj => zput_at hj)) gX2_minimize_X2_literalsOf rfl hd_X2_literalsOf ⟨Nat.le_of_ble_eq_true rfl, Nat.le_of_ble_eq_true rfl⟩ hK (hP.sub [0, 1, 2, 3] rfl) rfl rfl rfl rfl hl.1 rfl (Nat.le_of_ble_eq_true rfl) ⟨Nat.zero_le _, Nat.zero_le _⟩ dX2_minimize_147 ?_
                      refine lv_aload_n hx hb dX2_minimize_150 rfl (lv_at hl 0 rfl) ?_
                      refine lv_iconst (v := nI 2) hx hb dX2_minimize_151 (by decide) ?_
                      refine vz_callV (n := 1) (As := [.int (nI 2)]) (rest := [.int (nI (mlits n (mr1 n mk r (b2, p2, b3, p3)).1 (mr1 n mk r (b2, p2, b3, p3)).2))]) (q0 := 0) hcf (c_X2_literalsOf l D kA me n (zput 3 ((mr1 n mk r (b2, p2, b3, p3)).2) (zput 2 p2 g)) mk (va_up (va_up ss 2 b2) 3 ((mr1 n mk r (b2, p2, b3, p3)).1)) hn 2 b2 p2 (by decide) (by rw [va_up_ne _ _ (by decide)]; exact va_up_self _ _ _) h2 (fun j hj => by rw [zput_ne hj (by decide)]; exact zput_at hj)) gX2_minimize_X2_literalsOf rfl hd_X2_literalsOf ⟨Nat.le_of_ble_eq_true rfl, Nat.le_of_ble_eq_true rfl⟩ hK (hP.sub [0, 1, 2, 3] rfl) rfl rfl rfl rfl hl.1 rfl (Nat.le_of_ble_eq_true rfl) ⟨Nat.zero_le _, Nat.zero_le _⟩ dX2_minimize_152 ?_
                      refine vz_cge (tgt := 162) hx hb dX2_minimize_155 (by decide) (by omega) (by omega) (fun c_155 => ?_) (fun c_155 => ?_)
                      · skip
                        refine lv_iconst (v := nI 0) hx hb dX2_minimize_162 (by decide) ?_
                        refine vz_top (y := (vz_b (msl n (mr1 n mk r (b2, p2, b3, p3)).1 (mr1 n mk r (b2, p2, b3, p3)).2 b2 p2))) (by rw [msl]; first | (rw [decide_eq_true c_127]; rfl) | (rw [decide_eq_false (show ¬ (mr1 n mk r (b2, p2, b3, p3)).1 < b2 by omega), decide_eq_false c_142]; rfl) | (rw [decide_eq_false (show ¬ (mr1 n mk r (b2, p2, b3, p3)).1 < b2 by omega), decide_eq_true c_142]; first | (rw [decide_eq_true c_155]; rfl) | (rw [decide_eq_false (show ¬ mlits n (mr1 n mk r (b2, p2, b3, p3)).1 (mr1 n mk r (b2, p2, b3, p3)).2 < mlits n b2 p2 by omega)]; rfl))) ?_
                        refine lv_istore_n (lv' := [(1, .int (vz_b (msl n (mr1 n mk r (b2, p2, b3, p3)).1 (mr1 n mk r (b2, p2, b3, p3)).2 b2 p2))), (0, .ref (me 0)), (2, .int (nI r))]) hx hb dX2_minimize_163 rfl hl (by decide) rfl (fun ls hl => ?_)
                        refine lv_iload_n hx hb dX2_minimize_164 rfl (lv_at hl 0 rfl) ?_
                        refine vz_ifeqB (tgt := 174) hx hb dX2_minimize_165 (by decide) (fun c_165 => ?_) (fun c_165 => ?_)
                        · skip
                          refine lv_iinc (v := (nI (r + 1))) (lv' := [(2, .int (nI (r + 1))), (1, .int (vz_b (msl n (mr1 n mk r (b2, p2, b3, p3)).1 (mr1 n mk r (b2, p2, b3, p3)).2 b2 p2))), (0, .ref (me 0))]) hx hb dX2_minimize_174 hl (k := 2) rfl (nI_1 _) (by decide) rfl (fun ls hl => ?_)
                          refine lv_goto (tgt := 78) hx hb dX2_minimize_177 (by decide) ?_
                          rw [c_165] at hl
                          exact ih2 k (r + 1) false b2 p2 ((mr1 n mk r (b2, p2, b3, p3)).1) ((mr1 n mk r (b2, p2, b3, p3)).2) _ _ _ (by omega) (by omega) (by omega) (Nat.le_trans mps_le h2) (by rw [← h3, mrs, if_pos rfl, show mrb n mk r (b2, p2, b3, p3) = false from c_165]; congr 1; rw [mr2, if_neg (by rw [show mrb n mk r (b2, p2, b3, p3) = false from c_165]; decide)]) hP (vz_D hD rfl) hS (lv_sub hl [2, 1, 0] rfl)
                        · skip
                          refine lv_aload_n hx hb dX2_minimize_168 rfl (lv_at hl 1 rfl) ?_
                          refine lv_iconst (v := nI 3) hx hb dX2_minimize_169 (by decide) ?_
                          refine lv_iconst (v := nI 2) hx hb dX2_minimize_170 (by decide) ?_
                          refine vz_callM (n := 2) (As := [.int (nI 3), .int (nI 2)]) (rest := []) (q0 := 0) hcf (c_X2_copy l D kA me n (zput 3 ((mr1 n mk r (b2, p2, b3, p3)).2) (zput 2 p2 g)) mk (va_up (va_up ss 2 b2) 3 ((mr1 n mk r (b2, p2, b3, p3)).1)) hn 3 2 (mr1 n mk r (b2, p2, b3, p3)).1 (mr1 n mk r (b2, p2, b3, p3)).2 p2 (by decide) (by decide) (by decide) (va_up_self _ _ _) hr1 (fun j hj => zput_at hj) (fun j hj => by rw [zput_ne hj (by decide)]; exact zput_at hj)) gX2_minimize_X2_copy rfl hd_X2_copy ⟨Nat.le_of_ble_eq_true rfl, Nat.le_of_ble_eq_true rfl⟩ hK hP hD hS [0, 1, 2, 3] (by decide) rfl rfl rfl rfl rfl rfl rfl hl.1 rfl (Nat.le_of_ble_eq_true rfl) ⟨Nat.zero_le _, Nat.zero_le _⟩ dX2_minimize_171 (fun H locs hP hD hS => ?_)
                          have hP : va_P D vwCl [(me 0, .inr (2, [.ref (me 1), .ref (me 2), .ref (me 3), .int (nI n)])), (me 1, .inl (kA, 96, .inl (zput 2 (zcp (mr1 n mk r (b2, p2, b3, p3)).1 (mr1 n mk r (b2, p2, b3, p3)).2 p2) (zput 3 ((mr1 n mk r (b2, p2, b3, p3)).2) (zput 2 p2 g))))), (me 2, .inl (kA, 4, .inl (fun j => nI ((va_up (va_up (va_up ss 2 b2) 3 ((mr1 n mk r (b2, p2, b3, p3)).1)) 2 (mr1 n mk r (b2, p2, b3, p3)).1) j)))), (me 3, .inl (kA, 256, .inl mk))] H := hP
                          have hD : va_D Az [(me 0, .inr (2, [.ref (me 1), .ref (me 2), .ref (me 3), .int (nI n)])), (me 1, .inl (kA, 96, .inl (zput 2 (zcp (mr1 n mk r (b2, p2, b3, p3)).1 (mr1 n mk r (b2, p2, b3, p3)).2 p2) (zput 3 ((mr1 n mk r (b2, p2, b3, p3)).2) (zput 2 p2 g))))), (me 2, .inl (kA, 4, .inl (fun j => nI ((va_up (va_up (va_up ss 2 b2) 3 ((mr1 n mk r (b2, p2, b3, p3)).1)) 2 (mr1 n mk r (b2, p2, b3, p3)).1) j)))), (me 3, .inl (kA, 256, .inl mk))] := hD
                          rw [show (zput 2 (zcp (mr1 n mk r (b2, p2, b3, p3)).1 (mr1 n mk r (b2, p2, b3, p3)).2 p2) (zput 3 ((mr1 n mk r (b2, p2, b3, p3)).2) (zput 2 p2 g))) = (zput 3 ((mr1 n mk r (b2, p2, b3, p3)).2) (zput 2 (zcp (mr1 n mk r (b2, p2, b3, p3)).1 (mr1 n mk r (b2, p2, b3, p3)).2 p2) g)) from (by rw [zput_comm (by decide), zput_put])] at hP
                          rw [show (fun j => nI ((va_up (va_up (va_up ss 2 b2) 3 ((mr1 n mk r (b2, p2, b3, p3)).1)) 2 (mr1 n mk r (b2, p2, b3, p3)).1) j)) = (fun j => nI ((va_up (va_up ss 2 ((mr1 n mk r (b2, p2, b3, p3)).1)) 3 ((mr1 n mk r (b2, p2, b3, p3)).1)) j)) from (by rw [zup_comm (by decide), zup_up])] at hP
                          have hD : va_D Az [(me 0, .inr (2, [.ref (me 1), .ref (me 2), .ref (me 3), .int (nI n)])), (me 1, .inl (kA, 96, .inl (zput 3 ((mr1 n mk r (b2, p2, b3, p3)).2) (zput 2 (zcp (mr1 n mk r (b2, p2, b3, p3)).1 (mr1 n mk r (b2, p2, b3, p3)).2 p2) g)))), (me 2, .inl (kA, 4, .inl (fun j => nI ((va_up (va_up ss 2 ((mr1 n mk r (b2, p2, b3, p3)).1)) 3 ((mr1 n mk r (b2, p2, b3, p3)).1)) j)))), (me 3, .inl (kA, 256, .inl mk))] := vz_D hD rfl
                          refine lv_iinc (v := (nI (r + 1))) (lv' := [(2, .int (nI (r + 1))), (1, .int (vz_b (msl n (mr1 n mk r (b2, p2, b3, p3)).1 (mr1 n mk r (b2, p2, b3, p3)).2 b2 p2))), (0, .ref (me 0))]) hx hb dX2_minimize_174 hl (k := 2) rfl (nI_1 _) (by decide) rfl (fun ls hl => ?_)
                          refine lv_goto (tgt := 78) hx hb dX2_minimize_177 (by decide) ?_
                          rw [c_165] at hl
                          exact ih2 k (r + 1) true ((mr1 n mk r (b2, p2, b3, p3)).1) (zcp (mr1 n mk r (b2, p2, b3, p3)).1 (mr1 n mk r (b2, p2, b3, p3)).2 p2) ((mr1 n mk r (b2, p2, b3, p3)).1) ((mr1 n mk r (b2, p2, b3, p3)).2) _ _ _ (by omega) (by omega) (Nat.le_trans mps_le h2) (Nat.le_trans mps_le h2) (by rw [← h3, mrs, if_pos rfl, show mrb n mk r (b2, p2, b3, p3) = true from c_165]; congr 1; rw [mr2, if_pos (show mrb n mk r (b2, p2, b3, p3) = true from c_165)]) hP (vz_D hD rfl) hS (lv_sub hl [2, 1, 0] rfl)
                      · skip
                        refine lv_iconst (v := nI 1) hx hb dX2_minimize_158 (by decide) ?_
                        refine vz_top (y := (vz_b (msl n (mr1 n mk r (b2, p2, b3, p3)).1 (mr1 n mk r (b2, p2, b3, p3)).2 b2 p2))) (by rw [msl]; first | (rw [decide_eq_true c_127]; rfl) | (rw [decide_eq_false (show ¬ (mr1 n mk r (b2, p2, b3, p3)).1 < b2 by omega), decide_eq_false c_142]; rfl) | (rw [decide_eq_false (show ¬ (mr1 n mk r (b2, p2, b3, p3)).1 < b2 by omega), decide_eq_true c_142]; first | (rw [decide_eq_true c_155]; rfl) | (rw [decide_eq_false (show ¬ mlits n (mr1 n mk r (b2, p2, b3, p3)).1 (mr1 n mk r (b2, p2, b3, p3)).2 < mlits n b2 p2 by omega)]; rfl))) ?_
                        refine lv_goto (tgt := 163) hx hb dX2_minimize_159 (by decide) ?_
                        refine lv_istore_n (lv' := [(1, .int (vz_b (msl n (mr1 n mk r (b2, p2, b3, p3)).1 (mr1 n mk r (b2, p2, b3, p3)).2 b2 p2))), (0, .ref (me 0)), (2, .int (nI r))]) hx hb dX2_minimize_163 rfl hl (by decide) rfl (fun ls hl => ?_)
                        refine lv_iload_n hx hb dX2_minimize_164 rfl (lv_at hl 0 rfl) ?_
                        refine vz_ifeqB (tgt := 174) hx hb dX2_minimize_165 (by decide) (fun c_165 => ?_) (fun c_165 => ?_)
                        · skip
                          refine lv_iinc (v := (nI (r + 1))) (lv' := [(2, .int (nI (r + 1))), (1, .int (vz_b (msl n (mr1 n mk r (b2, p2, b3, p3)).1 (mr1 n mk r (b2, p2, b3, p3)).2 b2 p2))), (0, .ref (me 0))]) hx hb dX2_minimize_174 hl (k := 2) rfl (nI_1 _) (by decide) rfl (fun ls hl => ?_)
                          refine lv_goto (tgt := 78) hx hb dX2_minimize_177 (by decide) ?_
                          rw [c_165] at hl
                          exact ih2 k (r + 1) false b2 p2 ((mr1 n mk r (b2, p2, b3, p3)).1) ((mr1 n mk r (b2, p2, b3, p3)).2) _ _ _ (by omega) (by omega) (by omega) (Nat.le_trans mps_le h2) (by rw [← h3, mrs, if_pos rfl, show mrb n mk r (b2, p2, b3, p3) = false from c_165]; congr 1; rw [mr2, if_neg (by rw [show mrb n mk r (b2, p2, b3, p3) = false from c_165]; decide)]) hP (vz_D hD rfl) hS (lv_sub hl [2, 1, 0] rfl)
                        · skip
                          refine lv_aload_n hx hb dX2_minimize_168 rfl (lv_at hl 1 rfl) ?_
                          refine lv_iconst (v := nI 3) hx hb dX2_minimize_169 (by decide) ?_
                          refine lv_iconst (v := nI 2) hx hb dX2_minimize_170 (by decide) ?_
                          refine vz_callM (n := 2) (As := [.int (nI 3), .int (nI 2)]) (rest := []) (q0 := 0) hcf (c_X2_copy l D kA me n (zput 3 ((mr1 n mk r (b2, p2, b3, p3)).2) (zput 2 p2 g)) mk (va_up (va_up ss 2 b2) 3 ((mr1 n mk r (b2, p2, b3, p3)).1)) hn 3 2 (mr1 n mk r (b2, p2, b3, p3)).1 (mr1 n mk r (b2, p2, b3, p3)).2 p2 (by decide) (by decide) (by decide) (va_up_self _ _ _) hr1 (fun j hj => zput_at hj) (fun j hj => by rw [zput_ne hj (by decide)]; exact zput_at hj)) gX2_minimize_X2_copy rfl hd_X2_copy ⟨Nat.le_of_ble_eq_true rfl, Nat.le_of_ble_eq_true rfl⟩ hK hP hD hS [0, 1, 2, 3] (by decide) rfl rfl rfl rfl rfl rfl rfl hl.1 rfl (Nat.le_of_ble_eq_true rfl) ⟨Nat.zero_le _, Nat.zero_le _⟩ dX2_minimize_171 (fun H locs hP hD hS => ?_)
                          have hP : va_P D vwCl [(me 0, .inr (2, [.ref (me 1), .ref (me 2), .ref (me 3), .int (nI n)])), (me 1, .inl (kA, 96, .inl (zput 2 (zcp (mr1 n mk r (b2, p2, b3, p3)).1 (mr1 n mk r (b2, p2, b3, p3)).2 p2) (zput 3 ((mr1 n mk r (b2, p2, b3, p3)).2) (zput 2 p2 g))))), (me 2, .inl (kA, 4, .inl (fun j => nI ((va_up (va_up (va_up ss 2 b2) 3 ((mr1 n mk r (b2, p2, b3, p3)).1)) 2 (mr1 n mk r (b2, p2, b3, p3)).1) j)))), (me 3, .inl (kA, 256, .inl mk))] H := hP
                          have hD : va_D Az [(me 0, .inr (2, [.ref (me 1), .ref (me 2), .ref (me 3), .int (nI n)])), (me 1, .inl (kA, 96, .inl (zput 2 (zcp (mr1 n mk r (b2, p2, b3, p3)).1 (mr1 n mk r (b2, p2, b3, p3)).2 p2) (zput 3 ((mr1 n mk r (b2, p2, b3, p3)).2) (zput 2 p2 g))))), (me 2, .inl (kA, 4, .inl (fun j => nI ((va_up (va_up (va_up ss 2 b2) 3 ((mr1 n mk r (b2, p2, b3, p3)).1)) 2 (mr1 n mk r (b2, p2, b3, p3)).1) j)))), (me 3, .inl (kA, 256, .inl mk))] := hD
                          rw [show (zput 2 (zcp (mr1 n mk r (b2, p2, b3, p3)).1 (mr1 n mk r (b2, p2, b3, p3)).2 p2) (zput 3 ((mr1 n mk r (b2, p2, b3, p3)).2) (zput 2 p2 g))) = (zput 3 ((mr1 n mk r (b2, p2, b3, p3)).2) (zput 2 (zcp (mr1 n mk r (b2, p2, b3, p3)).1 (mr1 n mk r (b2, p2, b3, p3)).2 p2) g)) from (by rw [zput_comm (by decide), zput_put])] at hP
                          rw [show (fun j => nI ((va_up (va_up (va_up ss 2 b2) 3 ((mr1 n mk r (b2, p2, b3, p3)).1)) 2 (mr1 n mk r (b2, p2, b3, p3)).1) j)) = (fun j => nI ((va_up (va_up ss 2 ((mr1 n mk r (b2, p2, b3, p3)).1)) 3 ((mr1 n mk r (b2, p2, b3, p3)).1)) j)) from (by rw [zup_comm (by decide), zup_up])] at hP
                          have hD : va_D Az [(me 0, .inr (2, [.ref (me 1), .ref (me 2), .ref (me 3), .int (nI n)])), (me 1, .inl (kA, 96, .inl (zput 3 ((mr1 n mk r (b2, p2, b3, p3)).2) (zput 2 (zcp (mr1 n mk r (b2, p2, b3, p3)).1 (mr1 n mk r (b2, p2, b3, p3)).2 p2) g)))), (me 2, .inl (kA, 4, .inl (fun j => nI ((va_up (va_up ss 2 ((mr1 n mk r (b2, p2, b3, p3)).1)) 3 ((mr1 n mk r (b2, p2, b3, p3)).1)) j)))), (me 3, .inl (kA, 256, .inl mk))] := vz_D hD rfl
                          refine lv_iinc (v := (nI (r + 1))) (lv' := [(2, .int (nI (r + 1))), (1, .int (vz_b (msl n (mr1 n mk r (b2, p2, b3, p3)).1 (mr1 n mk r (b2, p2, b3, p3)).2 b2 p2))), (0, .ref (me 0))]) hx hb dX2_minimize_174 hl (k := 2) rfl (nI_1 _) (by decide) rfl (fun ls hl => ?_)
                          refine lv_goto (tgt := 78) hx hb dX2_minimize_177 (by decide) ?_
                          rw [c_165] at hl
                          exact ih2 k (r + 1) true ((mr1 n mk r (b2, p2, b3, p3)).1) (zcp (mr1 n mk r (b2, p2, b3, p3)).1 (mr1 n mk r (b2, p2, b3, p3)).2 p2) ((mr1 n mk r (b2, p2, b3, p3)).1) ((mr1 n mk r (b2, p2, b3, p3)).2) _ _ _ (by omega) (by omega) (Nat.le_trans mps_le h2) (Nat.le_trans mps_le h2) (by rw [← h3, mrs, if_pos rfl, show mrb n mk r (b2, p2, b3, p3) = true from c_165]; congr 1; rw [mr2, if_pos (show mrb n mk r (b2, p2, b3, p3) = true from c_165)]) hP (vz_D hD rfl) hS (lv_sub hl [2, 1, 0] rfl)
                · skip
                  refine lv_iconst (v := nI 1) hx hb dX2_minimize_107 (by decide) ?_
                  refine vz_top (y := (vz_b (decide (r % 2 = 0)))) (by rw [decide_eq_true ((nI_eq (by omega) (by omega)).mp (c_104.trans nI_0.symm))]; rfl) ?_
                  refine lv_goto (tgt := 112) hx hb dX2_minimize_108 (by decide) ?_
                  refine vz_callM (n := 2) (As := [.int (nI 3), .int (vz_b (decide (r % 2 = 0)))]) (rest := []) (q0 := 0) hcf (c_X2_pass l D kA me n (zput 3 (mnr n mk b2 (zcp b2 p2 p3) b2) (zput 2 p2 g)) mk (va_up (va_up ss 2 b2) 3 b2) hn 3 b2 (mnr n mk b2 (zcp b2 p2 p3) b2) (by decide) (va_up_self _ _ _) h2 (fun j hj => zput_at hj) (decide (r % 2 = 0))) gX2_minimize_X2_pass rfl hd_X2_pass ⟨Nat.le_of_ble_eq_true rfl, Nat.le_of_ble_eq_true rfl⟩ hK hP hD hS [0, 1, 2, 3] (by decide) rfl rfl rfl rfl rfl rfl rfl hl.1 rfl (Nat.le_of_ble_eq_true rfl) ⟨Nat.zero_le _, Nat.zero_le _⟩ dX2_minimize_112 (fun H locs hP hD hS => ?_)
                  have hP : va_P D vwCl [(me 0, .inr (2, [.ref (me 1), .ref (me 2), .ref (me 3), .int (nI n)])), (me 1, .inl (kA, 96, .inl (zput 3 (mr1 n mk r (b2, p2, b3, p3)).2 (zput 3 (mnr n mk b2 (zcp b2 p2 p3) b2) (zput 2 p2 g))))), (me 2, .inl (kA, 4, .inl (fun j => nI ((va_up (va_up (va_up ss 2 b2) 3 b2) 3 (mr1 n mk r (b2, p2, b3, p3)).1) j)))), (me 3, .inl (kA, 256, .inl mk))] H := hP
                  have hD : va_D Az [(me 0, .inr (2, [.ref (me 1), .ref (me 2), .ref (me 3), .int (nI n)])), (me 1, .inl (kA, 96, .inl (zput 3 (mr1 n mk r (b2, p2, b3, p3)).2 (zput 3 (mnr n mk b2 (zcp b2 p2 p3) b2) (zput 2 p2 g))))), (me 2, .inl (kA, 4, .inl (fun j => nI ((va_up (va_up (va_up ss 2 b2) 3 b2) 3 (mr1 n mk r (b2, p2, b3, p3)).1) j)))), (me 3, .inl (kA, 256, .inl mk))] := hD
                  rw [show (zput 3 (mr1 n mk r (b2, p2, b3, p3)).2 (zput 3 (mnr n mk b2 (zcp b2 p2 p3) b2) (zput 2 p2 g))) = (zput 3 ((mr1 n mk r (b2, p2, b3, p3)).2) (zput 2 p2 g)) from zput_put] at hP
                  rw [show (fun j => nI ((va_up (va_up (va_up ss 2 b2) 3 b2) 3 (mr1 n mk r (b2, p2, b3, p3)).1) j)) = (fun j => nI ((va_up (va_up ss 2 b2) 3 ((mr1 n mk r (b2, p2, b3, p3)).1)) j)) from (by rw [zup_up])] at hP
                  have hD : va_D Az [(me 0, .inr (2, [.ref (me 1), .ref (me 2), .ref (me 3), .int (nI n)])), (me 1, .inl (kA, 96, .inl (zput 3 ((mr1 n mk r (b2, p2, b3, p3)).2) (zput 2 p2 g)))), (me 2, .inl (kA, 4, .inl (fun j => nI ((va_up (va_up ss 2 b2) 3 ((mr1 n mk r (b2, p2, b3, p3)).1)) j)))), (me 3, .inl (kA, 256, .inl mk))] := vz_D hD rfl
                  have hr1 : (mr1 n mk r (b2, p2, b3, p3)).1 ≤ 24 := Nat.le_trans mps_le h2
                  have hz1 : mlits n (mr1 n mk r (b2, p2, b3, p3)).1 (mr1 n mk r (b2, p2, b3, p3)).2 ≤ 192 := mlits_le hn hr1
                  have hz2 : mlits n b2 p2 ≤ 192 := mlits_le hn h2
                  refine lv_aload_n hx hb dX2_minimize_115 rfl (lv_at hl 0 rfl) ?_
                  refine va_get (D := D) (ci := 2) (v := .ref (me 2)) (C := RX2) (T := TX2) (N := 4) hx hb hts hi0 hown hK hP 0 rfl rfl 1 (by decide) hf13 (fun _ h9 => h9) rfl dX2_minimize_116 ?_
                  refine lv_iconst (v := nI 3) hx hb dX2_minimize_119 (by decide) ?_
                  refine vz_ald hx hb hK hP 2 rfl (by omega) (Nat.le_of_ble_eq_true rfl) dX2_minimize_120 ?_
                  refine vz_top (y := (nI ((mr1 n mk r (b2, p2, b3, p3)).1))) (congrArg nI (va_up_self _ _ _)) ?_
                  refine lv_aload_n hx hb dX2_minimize_121 rfl (lv_at hl 0 rfl) ?_
                  refine va_get (D := D) (ci := 2) (v := .ref (me 2)) (C := RX2) (T := TX2) (N := 4) hx hb hts hi0 hown hK hP 0 rfl rfl 1 (by decide) hf13 (fun _ h9 => h9) rfl dX2_minimize_122 ?_
                  refine lv_iconst (v := nI 2) hx hb dX2_minimize_125 (by decide) ?_
                  refine vz_ald hx hb hK hP 2 rfl (by omega) (Nat.le_of_ble_eq_true rfl) dX2_minimize_126 ?_
                  refine vz_top (y := (nI b2)) (congrArg nI (by rw [va_up_ne _ _ (by decide)]; exact va_up_self _ _ _)) ?_
                  refine vz_clt (tgt := 158) hx hb dX2_minimize_127 (by decide) (by omega) (by omega) (fun c_127 => ?_) (fun c_127 => ?_)
                  · skip
                    refine lv_iconst (v := nI 1) hx hb dX2_minimize_158 (by decide) ?_
                    refine vz_top (y := (vz_b (msl n (mr1 n mk r (b2, p2, b3, p3)).1 (mr1 n mk r (b2, p2, b3, p3)).2 b2 p2))) (by rw [msl]; first | (rw [decide_eq_true c_127]; rfl) | (rw [decide_eq_false (show ¬ (mr1 n mk r (b2, p2, b3, p3)).1 < b2 by omega), decide_eq_false c_142]; rfl) | (rw [decide_eq_false (show ¬ (mr1 n mk r (b2, p2, b3, p3)).1 < b2 by omega), decide_eq_true c_142]; first | (rw [decide_eq_true c_155]; rfl) | (rw [decide_eq_false (show ¬ mlits n (mr1 n mk r (b2, p2, b3, p3)).1 (mr1 n mk r (b2, p2, b3, p3)).2 < mlits n b2 p2 by omega)]; rfl))) ?_
                    refine lv_goto (tgt := 163) hx hb dX2_minimize_159 (by decide) ?_
                    refine lv_istore_n (lv' := [(1, .int (vz_b (msl n (mr1 n mk r (b2, p2, b3, p3)).1 (mr1 n mk r (b2, p2, b3, p3)).2 b2 p2))), (0, .ref (me 0)), (2, .int (nI r))]) hx hb dX2_minimize_163 rfl hl (by decide) rfl (fun ls hl => ?_)
                    refine lv_iload_n hx hb dX2_minimize_164 rfl (lv_at hl 0 rfl) ?_
                    refine vz_ifeqB (tgt := 174) hx hb dX2_minimize_165 (by decide) (fun c_165 => ?_) (fun c_165 => ?_)
                    · skip
                      refine lv_iinc (v := (nI (r + 1))) (lv' := [(2, .int (nI (r + 1))), (1, .int (vz_b (msl n (mr1 n mk r (b2, p2, b3, p3)).1 (mr1 n mk r (b2, p2, b3, p3)).2 b2 p2))), (0, .ref (me 0))]) hx hb dX2_minimize_174 hl (k := 2) rfl (nI_1 _) (by decide) rfl (fun ls hl => ?_)
                      refine lv_goto (tgt := 78) hx hb dX2_minimize_177 (by decide) ?_
                      rw [c_165] at hl
                      exact ih2 k (r + 1) false b2 p2 ((mr1 n mk r (b2, p2, b3, p3)).1) ((mr1 n mk r (b2, p2, b3, p3)).2) _ _ _ (by omega) (by omega) (by omega) (Nat.le_trans mps_le h2) (by rw [← h3, mrs, if_pos rfl, show mrb n mk r (b2, p2, b3, p3) = false from c_165]; congr 1; rw [mr2, if_neg (by rw [show mrb n mk r (b2, p2, b3, p3) = false from c_165]; decide)]) hP (vz_D hD rfl) hS (lv_sub hl [2, 1, 0] rfl)
                    · skip
                      refine lv_aload_n hx hb dX2_minimize_168 rfl (lv_at hl 1 rfl) ?_
                      refine lv_iconst (v := nI 3) hx hb dX2_minimize_169 (by decide) ?_
                      refine lv_iconst (v := nI 2) hx hb dX2_minimize_170 (by decide) ?_
                      refine vz_callM (n := 2) (As := [.int (nI 3), .int (nI 2)]) (rest := []) (q0 := 0) hcf (c_X2_copy l D kA me n (zput 3 ((mr1 n mk r (b2, p2, b3, p3)).2) (zput 2 p2 g)) mk (va_up (va_up ss 2 b2) 3 ((mr1 n mk r (b2, p2, b3, p3)).1)) hn 3 2 (mr1 n mk r (b2, p2, b3, p3)).1 (mr1 n mk r (b2, p2, b3, p3)).2 p2 (by decide) (by decide) (by decide) (va_up_self _ _ _) hr1 (fun j hj => zput_at hj) (fun j hj => by rw [zput_ne hj (by decide)]; exact zput_at hj)) gX2_minimize_X2_copy rfl hd_X2_copy ⟨Nat.le_of_ble_eq_true rfl, Nat.le_of_ble_eq_true rfl⟩ hK hP hD hS [0, 1, 2, 3] (by decide) rfl rfl rfl rfl rfl rfl rfl hl.1 rfl (Nat.le_of_ble_eq_true rfl) ⟨Nat.zero_le _, Nat.zero_le _⟩ dX2_minimize_171 (fun H locs hP hD hS => ?_)
                      have hP : va_P D vwCl [(me 0, .inr (2, [.ref (me 1), .ref (me 2), .ref (me 3), .int (nI n)])), (me 1, .inl (kA, 96, .inl (zput 2 (zcp (mr1 n mk r (b2, p2, b3, p3)).1 (mr1 n mk r (b2, p2, b3, p3)).2 p2) (zput 3 ((mr1 n mk r (b2, p2, b3, p3)).2) (zput 2 p2 g))))), (me 2, .inl (kA, 4, .inl (fun j => nI ((va_up (va_up (va_up ss 2 b2) 3 ((mr1 n mk r (b2, p2, b3, p3)).1)) 2 (mr1 n mk r (b2, p2, b3, p3)).1) j)))), (me 3, .inl (kA, 256, .inl mk))] H := hP
                      have hD : va_D Az [(me 0, .inr (2, [.ref (me 1), .ref (me 2), .ref (me 3), .int (nI n)])), (me 1, .inl (kA, 96, .inl (zput 2 (zcp (mr1 n mk r (b2, p2, b3, p3)).1 (mr1 n mk r (b2, p2, b3, p3)).2 p2) (zput 3 ((mr1 n mk r (b2, p2, b3, p3)).2) (zput 2 p2 g))))), (me 2, .inl (kA, 4, .inl (fun j => nI ((va_up (va_up (va_up ss 2 b2) 3 ((mr1 n mk r (b2, p2, b3, p3)).1)) 2 (mr1 n mk r (b2, p2, b3, p3)).1) j)))), (me 3, .inl (kA, 256, .inl mk))] := hD
                      rw [show (zput 2 (zcp (mr1 n mk r (b2, p2, b3, p3)).1 (mr1 n mk r (b2, p2, b3, p3)).2 p2) (zput 3 ((mr1 n mk r (b2, p2, b3, p3)).2) (zput 2 p2 g))) = (zput 3 ((mr1 n mk r (b2, p2, b3, p3)).2) (zput 2 (zcp (mr1 n mk r (b2, p2, b3, p3)).1 (mr1 n mk r (b2, p2, b3, p3)).2 p2) g)) from (by rw [zput_comm (by decide), zput_put])] at hP
                      rw [show (fun j => nI ((va_up (va_up (va_up ss 2 b2) 3 ((mr1 n mk r (b2, p2, b3, p3)).1)) 2 (mr1 n mk r (b2, p2, b3, p3)).1) j)) = (fun j => nI ((va_up (va_up ss 2 ((mr1 n mk r (b2, p2, b3, p3)).1)) 3 ((mr1 n mk r (b2, p2, b3, p3)).1)) j)) from (by rw [zup_comm (by decide), zup_up])] at hP
                      have hD : va_D Az [(me 0, .inr (2, [.ref (me 1), .ref (me 2), .ref (me 3), .int (nI n)])), (me 1, .inl (kA, 96, .inl (zput 3 ((mr1 n mk r (b2, p2, b3, p3)).2) (zput 2 (zcp (mr1 n mk r (b2, p2, b3, p3)).1 (mr1 n mk r (b2, p2, b3, p3)).2 p2) g)))), (me 2, .inl (kA, 4, .inl (fun j => nI ((va_up (va_up ss 2 ((mr1 n mk r (b2, p2, b3, p3)).1)) 3 ((mr1 n mk r (b2, p2, b3, p3)).1)) j)))), (me 3, .inl (kA, 256, .inl mk))] := vz_D hD rfl
                      refine lv_iinc (v := (nI (r + 1))) (lv' := [(2, .int (nI (r + 1))), (1, .int (vz_b (msl n (mr1 n mk r (b2, p2, b3, p3)).1 (mr1 n mk r (b2, p2, b3, p3)).2 b2 p2))), (0, .ref (me 0))]) hx hb dX2_minimize_174 hl (k := 2) rfl (nI_1 _) (by decide) rfl (fun ls hl => ?_)
                      refine lv_goto (tgt := 78) hx hb dX2_minimize_177 (by decide) ?_
                      rw [c_165] at hl
                      exact ih2 k (r + 1) true ((mr1 n mk r (b2, p2, b3, p3)).1) (zcp (mr1 n mk r (b2, p2, b3, p3)).1 (mr1 n mk r (b2, p2, b3, p3)).2 p2) ((mr1 n mk r (b2, p2, b3, p3)).1) ((mr1 n mk r (b2, p2, b3, p3)).2) _ _ _ (by omega) (by omega) (Nat.le_trans mps_le h2) (Nat.le_trans mps_le h2) (by rw [← h3, mrs, if_pos rfl, show mrb n mk r (b2, p2, b3, p3) = true from c_165]; congr 1; rw [mr2, if_pos (show mrb n mk r (b2, p2, b3, p3) = true from c_165)]) hP (vz_D hD rfl) hS (lv_sub hl [2, 1, 0] rfl)
                  · skip
                    refine lv_aload_n hx hb dX2_minimize_130 rfl (lv_at hl 0 rfl) ?_
                    refine va_get (D := D) (ci := 2) (v := .ref (me 2)) (C := RX2) (T := TX2) (N := 4) hx hb hts hi0 hown hK hP 0 rfl rfl 1 (by decide) hf13 (fun _ h9 => h9) rfl dX2_minimize_131 ?_
                    refine lv_iconst (v := nI 3) hx hb dX2_minimize_134 (by decide) ?_
                    refine vz_ald hx hb hK hP 2 rfl (by omega) (Nat.le_of_ble_eq_true rfl) dX2_minimize_135 ?_
                    refine vz_top (y := (nI ((mr1 n mk r (b2, p2, b3, p3)).1))) (congrArg nI (va_up_self _ _ _)) ?_
                    refine lv_aload_n hx hb dX2_minimize_136 rfl (lv_at hl 0 rfl) ?_
                    refine va_get (D := D) (ci := 2) (v := .ref (me 2)) (C := RX2) (T := TX2) (N := 4) hx hb hts hi0 hown hK hP 0 rfl rfl 1 (by decide) hf13 (fun _ h9 => h9) rfl dX2_minimize_137 ?_
                    refine lv_iconst (v := nI 2) hx hb dX2_minimize_140 (by decide) ?_
                    refine vz_ald hx hb hK hP 2 rfl (by omega) (Nat.le_of_ble_eq_true rfl) dX2_minimize_141 ?_
                    refine vz_top (y := (nI b2)) (congrArg nI (by rw [va_up_ne _ _ (by decide)]; exact va_up_self _ _ _)) ?_
                    refine vz_cne (tgt := 162) hx hb dX2_minimize_142 (by decide) (by omega) (by omega) (fun c_142 => ?_) (fun c_142 => ?_)
                    · skip
                      refine lv_iconst (v := nI 0) hx hb dX2_minimize_162 (by decide) ?_
                      refine vz_top (y := (vz_b (msl n (mr1 n mk r (b2, p2, b3, p3)).1 (mr1 n mk r (b2, p2, b3, p3)).2 b2 p2))) (by rw [msl]; first | (rw [decide_eq_true c_127]; rfl) | (rw [decide_eq_false (show ¬ (mr1 n mk r (b2, p2, b3, p3)).1 < b2 by omega), decide_eq_false c_142]; rfl) | (rw [decide_eq_false (show ¬ (mr1 n mk r (b2, p2, b3, p3)).1 < b2 by omega), decide_eq_true c_142]; first | (rw [decide_eq_true c_155]; rfl) | (rw [decide_eq_false (show ¬ mlits n (mr1 n mk r (b2, p2, b3, p3)).1 (mr1 n mk r (b2, p2, b3, p3)).2 < mlits n b2 p2 by omega)]; rfl))) ?_
                      refine lv_istore_n (lv' := [(1, .int (vz_b (msl n (mr1 n mk r (b2, p2, b3, p3)).1 (mr1 n mk r (b2, p2, b3, p3)).2 b2 p2))), (0, .ref (me 0)), (2, .int (nI r))]) hx hb dX2_minimize_163 rfl hl (by decide) rfl (fun ls hl => ?_)
                      refine lv_iload_n hx hb dX2_minimize_164 rfl (lv_at hl 0 rfl) ?_
                      refine vz_ifeqB (tgt := 174) hx hb dX2_minimize_165 (by decide) (fun c_165 => ?_) (fun c_165 => ?_)
                      · skip
                        refine lv_iinc (v := (nI (r + 1))) (lv' := [(2, .int (nI (r + 1))), (1, .int (vz_b (msl n (mr1 n mk r (b2, p2, b3, p3)).1 (mr1 n mk r (b2, p2, b3, p3)).2 b2 p2))), (0, .ref (me 0))]) hx hb dX2_minimize_174 hl (k := 2) rfl (nI_1 _) (by decide) rfl (fun ls hl => ?_)
                        refine lv_goto (tgt := 78) hx hb dX2_minimize_177 (by decide) ?_
                        rw [c_165] at hl
                        exact ih2 k (r + 1) false b2 p2 ((mr1 n mk r (b2, p2, b3, p3)).1) ((mr1 n mk r (b2, p2, b3, p3)).2) _ _ _ (by omega) (by omega) (by omega) (Nat.le_trans mps_le h2) (by rw [← h3, mrs, if_pos rfl, show mrb n mk r (b2, p2, b3, p3) = false from c_165]; congr 1; rw [mr2, if_neg (by rw [show mrb n mk r (b2, p2, b3, p3) = false from c_165]; decide)]) hP (vz_D hD rfl) hS (lv_sub hl [2, 1, 0] rfl)
                      · skip
                        refine lv_aload_n hx hb dX2_minimize_168 rfl (lv_at hl 1 rfl) ?_
                        refine lv_iconst (v := nI 3) hx hb dX2_minimize_169 (by decide) ?_
                        refine lv_iconst (v := nI 2) hx hb dX2_minimize_170 (by decide) ?_
                        refine vz_callM (n := 2) (As := [.int (nI 3), .int (nI 2)]) (rest := []) (q0 := 0) hcf (c_X2_copy l D kA me n (zput 3 ((mr1 n mk r (b2, p2, b3, p3)).2) (zput 2 p2 g)) mk (va_up (va_up ss 2 b2) 3 ((mr1 n mk r (b2, p2, b3, p3)).1)) hn 3 2 (mr1 n mk r (b2, p2, b3, p3)).1 (mr1 n mk r (b2, p2, b3, p3)).2 p2 (by decide) (by decide) (by decide) (va_up_self _ _ _) hr1 (fun j hj => zput_at hj) (fun j hj => by rw [zput_ne hj (by decide)]; exact zput_at hj)) gX2_minimize_X2_copy rfl hd_X2_copy ⟨Nat.le_of_ble_eq_true rfl, Nat.le_of_ble_eq_true rfl⟩ hK hP hD hS [0, 1, 2, 3] (by decide) rfl rfl rfl rfl rfl rfl rfl hl.1 rfl (Nat.le_of_ble_eq_true rfl) ⟨Nat.zero_le _, Nat.zero_le _⟩ dX2_minimize_171 (fun H locs hP hD hS => ?_)
                        have hP : va_P D vwCl [(me 0, .inr (2, [.ref (me 1), .ref (me 2), .ref (me 3), .int (nI n)])), (me 1, .inl (kA, 96, .inl (zput 2 (zcp (mr1 n mk r (b2, p2, b3, p3)).1 (mr1 n mk r (b2, p2, b3, p3)).2 p2) (zput 3 ((mr1 n mk r (b2, p2, b3, p3)).2) (zput 2 p2 g))))), (me 2, .inl (kA, 4, .inl (fun j => nI ((va_up (va_up (va_up ss 2 b2) 3 ((mr1 n mk r (b2, p2, b3, p3)).1)) 2 (mr1 n mk r (b2, p2, b3, p3)).1) j)))), (me 3, .inl (kA, 256, .inl mk))] H := hP
                        have hD : va_D Az [(me 0, .inr (2, [.ref (me 1), .ref (me 2), .ref (me 3), .int (nI n)])), (me 1, .inl (kA, 96, .inl (zput 2 (zcp (mr1 n mk r (b2, p2, b3, p3)).1 (mr1 n mk r (b2, p2, b3, p3)).2 p2) (zput 3 ((mr1 n mk r (b2, p2, b3, p3)).2) (zput 2 p2 g))))), (me 2, .inl (kA, 4, .inl (fun j => nI ((va_up (va_up (va_up ss 2 b2) 3 ((mr1 n mk r (b2, p2, b3, p3)).1)) 2 (mr1 n mk r (b2, p2, b3, p3)).1) j)))), (me 3, .inl (kA, 256, .inl mk))] := hD
                        rw [show (zput 2 (zcp (mr1 n mk r (b2, p2, b3, p3)).1 (mr1 n mk r (b2, p2, b3, p3)).2 p2) (zput 3 ((mr1 n mk r (b2, p2, b3, p3)).2) (zput 2 p2 g))) = (zput 3 ((mr1 n mk r (b2, p2, b3, p3)).2) (zput 2 (zcp (mr1 n mk r (b2, p2, b3, p3)).1 (mr1 n mk r (b2, p2, b3, p3)).2 p2) g)) from (by rw [zput_comm (by decide), zput_put])] at hP
                        rw [show (fun j => nI ((va_up (va_up (va_up ss 2 b2) 3 ((mr1 n mk r (b2, p2, b3, p3)).1)) 2 (mr1 n mk r (b2, p2, b3, p3)).1) j)) = (fun j => nI ((va_up (va_up ss 2 ((mr1 n mk r (b2, p2, b3, p3)).1)) 3 ((mr1 n mk r (b2, p2, b3, p3)).1)) j)) from (by rw [zup_comm (by decide), zup_up])] at hP
                        have hD : va_D Az [(me 0, .inr (2, [.ref (me 1), .ref (me 2), .ref (me 3), .int (nI n)])), (me 1, .inl (kA, 96, .inl (zput 3 ((mr1 n mk r (b2, p2, b3, p3)).2) (zput 2 (zcp (mr1 n mk r (b2, p2, b3, p3)).1 (mr1 n mk r (b2, p2, b3, p3)).2 p2) g)))), (me 2, .inl (kA, 4, .inl (fun j => nI ((va_up (va_up ss 2 ((mr1 n mk r (b2, p2, b3, p3)).1)) 3 ((mr1 n mk r (b2, p2, b3, p3)).1)) j)))), (me 3, .inl (kA, 256, .inl mk))] := vz_D hD rfl
                        refine lv_iinc (v := (nI (r + 1))) (lv' := [(2, .int (nI (r + 1))), (1, .int (vz_b (msl n (mr1 n mk r (b2, p2, b3, p3)).1 (mr1 n mk r (b2, p2, b3, p3)).2 b2 p2))), (0, .ref (me 0))]) hx hb dX2_minimize_174 hl (k := 2) rfl (nI_1 _) (by decide) rfl (fun ls hl => ?_)
                        refine lv_goto (tgt := 78) hx hb dX2_minimize_177 (by decide) ?_
                        rw [c_165] at hl
                        exact ih2 k (r + 1) true ((mr1 n mk r (b2, p2, b3, p3)).1) (zcp (mr1 n mk r (b2, p2, b3, p3)).1 (mr1 n mk r (b2, p2, b3, p3)).2 p2) ((mr1 n mk r (b2, p2, b3, p3)).1) ((mr1 n mk r (b2, p2, b3, p3)).2) _ _ _ (by omega) (by omega) (Nat.le_trans mps_le h2) (Nat.le_trans mps_le h2) (by rw [← h3, mrs, if_pos rfl, show mrb n mk r (b2, p2, b3, p3) = true from c_165]; congr 1; rw [mr2, if_pos (show mrb n mk r (b2, p2, b3, p3) = true from c_165)]) hP (vz_D hD rfl) hS (lv_sub hl [2, 1, 0] rfl)
                    · skip
                      refine lv_aload_n hx hb dX2_minimize_145 rfl (lv_at hl 0 rfl) ?_
                      refine lv_iconst (v := nI 3) hx hb dX2_minimize_146 (by decide) ?_
                      refine vz_callV (n := 1) (As := [.int (nI 3)]) (rest := []) (q0 := 0) hcf (c_X2_literalsOf l D kA me n (zput 3 ((mr1 n mk r (b2, p2, b3, p3)).2) (zput 2 p2 g)) mk (va_up (va_up ss 2 b2) 3 ((mr1 n mk r (b2, p2, b3, p3)).1)) hn 3 (mr1 n mk r (b2, p2, b3, p3)).1 (mr1 n mk r (b2, p2, b3, p3)).2 (by decide) (va_up_self _ _ _) hr1 (fun j hj => zput_at hj)) gX2_minimize_X2_literalsOf rfl hd_X2_literalsOf ⟨Nat.le_of_ble_eq_true rfl, Nat.le_of_ble_eq_true rfl⟩ hK (hP.sub [0, 1, 2, 3] rfl) rfl rfl rfl rfl hl.1 rfl (Nat.le_of_ble_eq_true rfl) ⟨Nat.zero_le _, Nat.zero_le _⟩ dX2_minimize_147 ?_
                      refine lv_aload_n hx hb dX2_minimize_150 rfl (lv_at hl 0 rfl) ?_
                      refine lv_iconst (v := nI 2) hx hb dX2_minimize_151 (by decide) ?_
                      refine vz_callV (n := 1) (As := [.int (nI 2)]) (rest := [.int (nI (mlits n (mr1 n mk r (b2, p2, b3, p3)).1 (mr1 n mk r (b2, p2, b3, p3)).2))]) (q0 := 0) hcf (c_X2_literalsOf l D kA me n (zput 3 ((mr1 n mk r (b2, p2, b3, p3)).2) (zput 2 p2 g)) mk (va_up (va_up ss 2 b2) 3 ((mr1 n mk r (b2, p2, b3, p3)).1)) hn 2 b2 p2 (by decide) (by rw [va_up_ne _ _ (by decide)]; exact va_up_self _ _ _) h2 (fun j hj => by rw [zput_ne hj (by decide)]; exact zput_at hj)) gX2_minimize_X2_literalsOf rfl hd_X2_literalsOf ⟨Nat.le_of_ble_eq_true rfl, Nat.le_of_ble_eq_true rfl⟩ hK (hP.sub [0, 1, 2, 3] rfl) rfl rfl rfl rfl hl.1 rfl (Nat.le_of_ble_eq_true rfl) ⟨Nat.zero_le _, Nat.zero_le _⟩ dX2_minimize_152 ?_
                      refine vz_cge (tgt := 162) hx hb dX2_minimize_155 (by decide) (by omega) (by omega) (fun c_155 => ?_) (fun c_155 => ?_)
                      · skip
                        refine lv_iconst (v := nI 0) hx hb dX2_minimize_162 (by decide) ?_
                        refine vz_top (y := (vz_b (msl n (mr1 n mk r (b2, p2, b3, p3)).1 (mr1 n mk r (b2, p2, b3, p3)).2 b2 p2))) (by rw [msl]; first | (rw [decide_eq_true c_127]; rfl) | (rw [decide_eq_false (show ¬ (mr1 n mk r (b2, p2, b3, p3)).1 < b2 by omega), decide_eq_false c_142]; rfl) | (rw [decide_eq_false (show ¬ (mr1 n mk r (b2, p2, b3, p3)).1 < b2 by omega), decide_eq_true c_142]; first | (rw [decide_eq_true c_155]; rfl) | (rw [decide_eq_false (show ¬ mlits n (mr1 n mk r (b2, p2, b3, p3)).1 (mr1 n mk r (b2, p2, b3, p3)).2 < mlits n b2 p2 by omega)]; rfl))) ?_
                        refine lv_istore_n (lv' := [(1, .int (vz_b (msl n (mr1 n mk r (b2, p2, b3, p3)).1 (mr1 n mk r (b2, p2, b3, p3)).2 b2 p2))), (0, .ref (me 0)), (2, .int (nI r))]) hx hb dX2_minimize_163 rfl hl (by decide) rfl (fun ls hl => ?_)
                        refine lv_iload_n hx hb dX2_minimize_164 rfl (lv_at hl 0 rfl) ?_
                        refine vz_ifeqB (tgt := 174) hx hb dX2_minimize_165 (by decide) (fun c_165 => ?_) (fun c_165 => ?_)
                        · skip
                          refine lv_iinc (v := (nI (r + 1))) (lv' := [(2, .int (nI (r + 1))), (1, .int (vz_b (msl n (mr1 n mk r (b2, p2, b3, p3)).1 (mr1 n mk r (b2, p2, b3, p3)).2 b2 p2))), (0, .ref (me 0))]) hx hb dX2_minimize_174 hl (k := 2) rfl (nI_1 _) (by decide) rfl (fun ls hl => ?_)
                          refine lv_goto (tgt := 78) hx hb dX2_minimize_177 (by decide) ?_
                          rw [c_165] at hl
                          exact ih2 k (r + 1) false b2 p2 ((mr1 n mk r (b2, p2, b3, p3)).1) ((mr1 n mk r (b2, p2, b3, p3)).2) _ _ _ (by omega) (by omega) (by omega) (Nat.le_trans mps_le h2) (by rw [← h3, mrs, if_pos rfl, show mrb n mk r (b2, p2, b3, p3) = false from c_165]; congr 1; rw [mr2, if_neg (by rw [show mrb n mk r (b2, p2, b3, p3) = false from c_165]; decide)]) hP (vz_D hD rfl) hS (lv_sub hl [2, 1, 0] rfl)
                        · skip
                          refine lv_aload_n hx hb dX2_minimize_168 rfl (lv_at hl 1 rfl) ?_
                          refine lv_iconst (v := nI 3) hx hb dX2_minimize_169 (by decide) ?_
                          refine lv_iconst (v := nI 2) hx hb dX2_minimize_170 (by decide) ?_
                          refine vz_callM (n := 2) (As := [.int (nI 3), .int (nI 2)]) (rest := []) (q0 := 0) hcf (c_X2_copy l D kA me n (zput 3 ((mr1 n mk r (b2, p2, b3, p3)).2) (zput 2 p2 g)) mk (va_up (va_up ss 2 b2) 3 ((mr1 n mk r (b2, p2, b3, p3)).1)) hn 3 2 (mr1 n mk r (b2, p2, b3, p3)).1 (mr1 n mk r (b2, p2, b3, p3)).2 p2 (by decide) (by decide) (by decide) (va_up_self _ _ _) hr1 (fun j hj => zput_at hj) (fun j hj => by rw [zput_ne hj (by decide)]; exact zput_at hj)) gX2_minimize_X2_copy rfl hd_X2_copy ⟨Nat.le_of_ble_eq_true rfl, Nat.le_of_ble_eq_true rfl⟩ hK hP hD hS [0, 1, 2, 3] (by decide) rfl rfl rfl rfl rfl rfl rfl hl.1 rfl (Nat.le_of_ble_eq_true rfl) ⟨Nat.zero_le _, Nat.zero_le _⟩ dX2_minimize_171 (fun H locs hP hD hS => ?_)
                          have hP : va_P D vwCl [(me 0, .inr (2, [.ref (me 1), .ref (me 2), .ref (me 3), .int (nI n)])), (me 1, .inl (kA, 96, .inl (zput 2 (zcp (mr1 n mk r (b2, p2, b3, p3)).1 (mr1 n mk r (b2, p2, b3, p3)).2 p2) (zput 3 ((mr1 n mk r (b2, p2, b3, p3)).2) (zput 2 p2 g))))), (me 2, .inl (kA, 4, .inl (fun j => nI ((va_up (va_up (va_up ss 2 b2) 3 ((mr1 n mk r (b2, p2, b3, p3)).1)) 2 (mr1 n mk r (b2, p2, b3, p3)).1) j)))), (me 3, .inl (kA, 256, .inl mk))] H := hP
                          have hD : va_D Az [(me 0, .inr (2, [.ref (me 1), .ref (me 2), .ref (me 3), .int (nI n)])), (me 1, .inl (kA, 96, .inl (zput 2 (zcp (mr1 n mk r (b2, p2, b3, p3)).1 (mr1 n mk r (b2, p2, b3, p3)).2 p2) (zput 3 ((mr1 n mk r (b2, p2, b3, p3)).2) (zput 2 p2 g))))), (me 2, .inl (kA, 4, .inl (fun j => nI ((va_up (va_up (va_up ss 2 b2) 3 ((mr1 n mk r (b2, p2, b3, p3)).1)) 2 (mr1 n mk r (b2, p2, b3, p3)).1) j)))), (me 3, .inl (kA, 256, .inl mk))] := hD
                          rw [show (zput 2 (zcp (mr1 n mk r (b2, p2, b3, p3)).1 (mr1 n mk r (b2, p2, b3, p3)).2 p2) (zput 3 ((mr1 n mk r (b2, p2, b3, p3)).2) (zput 2 p2 g))) = (zput 3 ((mr1 n mk r (b2, p2, b3, p3)).2) (zput 2 (zcp (mr1 n mk r (b2, p2, b3, p3)).1 (mr1 n mk r (b2, p2, b3, p3)).2 p2) g)) from (by rw [zput_comm (by decide), zput_put])] at hP
                          rw [show (fun j => nI ((va_up (va_up (va_up ss 2 b2) 3 ((mr1 n mk r (b2, p2, b3, p3)).1)) 2 (mr1 n mk r (b2, p2, b3, p3)).1) j)) = (fun j => nI ((va_up (va_up ss 2 ((mr1 n mk r (b2, p2, b3, p3)).1)) 3 ((mr1 n mk r (b2, p2, b3, p3)).1)) j)) from (by rw [zup_comm (by decide), zup_up])] at hP
                          have hD : va_D Az [(me 0, .inr (2, [.ref (me 1), .ref (me 2), .ref (me 3), .int (nI n)])), (me 1, .inl (kA, 96, .inl (zput 3 ((mr1 n mk r (b2, p2, b3, p3)).2) (zput 2 (zcp (mr1 n mk r (b2, p2, b3, p3)).1 (mr1 n mk r (b2, p2, b3, p3)).2 p2) g)))), (me 2, .inl (kA, 4, .inl (fun j => nI ((va_up (va_up ss 2 ((mr1 n mk r (b2, p2, b3, p3)).1)) 3 ((mr1 n mk r (b2, p2, b3, p3)).1)) j)))), (me 3, .inl (kA, 256, .inl mk))] := vz_D hD rfl
                          refine lv_iinc (v := (nI (r + 1))) (lv' := [(2, .int (nI (r + 1))), (1, .int (vz_b (msl n (mr1 n mk r (b2, p2, b3, p3)).1 (mr1 n mk r (b2, p2, b3, p3)).2 b2 p2))), (0, .ref (me 0))]) hx hb dX2_minimize_174 hl (k := 2) rfl (nI_1 _) (by decide) rfl (fun ls hl => ?_)
                          refine lv_goto (tgt := 78) hx hb dX2_minimize_177 (by decide) ?_
                          rw [c_165] at hl
                          exact ih2 k (r + 1) true ((mr1 n mk r (b2, p2, b3, p3)).1) (zcp (mr1 n mk r (b2, p2, b3, p3)).1 (mr1 n mk r (b2, p2, b3, p3)).2 p2) ((mr1 n mk r (b2, p2, b3, p3)).1) ((mr1 n mk r (b2, p2, b3, p3)).2) _ _ _ (by omega) (by omega) (Nat.le_trans mps_le h2) (Nat.le_trans mps_le h2) (by rw [← h3, mrs, if_pos rfl, show mrb n mk r (b2, p2, b3, p3) = true from c_165]; congr 1; rw [mr2, if_pos (show mrb n mk r (b2, p2, b3, p3) = true from c_165)]) hP (vz_D hD rfl) hS (lv_sub hl [2, 1, 0] rfl)
                      · skip
                        refine lv_iconst (v := nI 1) hx hb dX2_minimize_158 (by decide) ?_
                        refine vz_top (y := (vz_b (msl n (mr1 n mk r (b2, p2, b3, p3)).1 (mr1 n mk r (b2, p2, b3, p3)).2 b2 p2))) (by rw [msl]; first | (rw [decide_eq_true c_127]; rfl) | (rw [decide_eq_false (show ¬ (mr1 n mk r (b2, p2, b3, p3)).1 < b2 by omega), decide_eq_false c_142]; rfl) | (rw [decide_eq_false (show ¬ (mr1 n mk r (b2, p2, b3, p3)).1 < b2 by omega), decide_eq_true c_142]; first | (rw [decide_eq_true c_155]; rfl) | (rw [decide_eq_false (show ¬ mlits n (mr1 n mk r (b2, p2, b3, p3)).1 (mr1 n mk r (b2, p2, b3, p3)).2 < mlits n b2 p2 by omega)]; rfl))) ?_
                        refine lv_goto (tgt := 163) hx hb dX2_minimize_159 (by decide) ?_
                        refine lv_istore_n (lv' := [(1, .int (vz_b (msl n (mr1 n mk r (b2, p2, b3, p3)).1 (mr1 n mk r (b2, p2, b3, p3)).2 b2 p2))), (0, .ref (me 0)), (2, .int (nI r))]) hx hb dX2_minimize_163 rfl hl (by decide) rfl (fun ls hl => ?_)
                        refine lv_iload_n hx hb dX2_minimize_164 rfl (lv_at hl 0 rfl) ?_
                        refine vz_ifeqB (tgt := 174) hx hb dX2_minimize_165 (by decide) (fun c_165 => ?_) (fun c_165 => ?_)
                        · skip
                          refine lv_iinc (v := (nI (r + 1))) (lv' := [(2, .int (nI (r + 1))), (1, .int (vz_b (msl n (mr1 n mk r (b2, p2, b3, p3)).1 (mr1 n mk r (b2, p2, b3, p3)).2 b2 p2))), (0, .ref (me 0))]) hx hb dX2_minimize_174 hl (k := 2) rfl (nI_1 _) (by decide) rfl (fun ls hl => ?_)
                          refine lv_goto (tgt := 78) hx hb dX2_minimize_177 (by decide) ?_
                          rw [c_165] at hl
                          exact ih2 k (r + 1) false b2 p2 ((mr1 n mk r (b2, p2, b3, p3)).1) ((mr1 n mk r (b2, p2, b3, p3)).2) _ _ _ (by omega) (by omega) (by omega) (Nat.le_trans mps_le h2) (by rw [← h3, mrs, if_pos rfl, show mrb n mk r (b2, p2, b3, p3) = false from c_165]; congr 1; rw [mr2, if_neg (by rw [show mrb n mk r (b2, p2, b3, p3) = false from c_165]; decide)]) hP (vz_D hD rfl) hS (lv_sub hl [2, 1, 0] rfl)
                        · skip
                          refine lv_aload_n hx hb dX2_minimize_168 rfl (lv_at hl 1 rfl) ?_
                          refine lv_iconst (v := nI 3) hx hb dX2_minimize_169 (by decide) ?_
                          refine lv_iconst (v := nI 2) hx hb dX2_minimize_170 (by decide) ?_
                          refine vz_callM (n := 2) (As := [.int (nI 3), .int (nI 2)]) (rest := []) (q0 := 0) hcf (c_X2_copy l D kA me n (zput 3 ((mr1 n mk r (b2, p2, b3, p3)).2) (zput 2 p2 g)) mk (va_up (va_up ss 2 b2) 3 ((mr1 n mk r (b2, p2, b3, p3)).1)) hn 3 2 (mr1 n mk r (b2, p2, b3, p3)).1 (mr1 n mk r (b2, p2, b3, p3)).2 p2 (by decide) (by decide) (by decide) (va_up_self _ _ _) hr1 (fun j hj => zput_at hj) (fun j hj => by rw [zput_ne hj (by decide)]; exact zput_at hj)) gX2_minimize_X2_copy rfl hd_X2_copy ⟨Nat.le_of_ble_eq_true rfl, Nat.le_of_ble_eq_true rfl⟩ hK hP hD hS [0, 1, 2, 3] (by decide) rfl rfl rfl rfl rfl rfl rfl hl.1 rfl (Nat.le_of_ble_eq_true rfl) ⟨Nat.zero_le _, Nat.zero_le _⟩ dX2_minimize_171 (fun H locs hP hD hS => ?_)
                          have hP : va_P D vwCl [(me 0, .inr (2, [.ref (me 1), .ref (me 2), .ref (me 3), .int (nI n)])), (me 1, .inl (kA, 96, .inl (zput 2 (zcp (mr1 n mk r (b2, p2, b3, p3)).1 (mr1 n mk r (b2, p2, b3, p3)).2 p2) (zput 3 ((mr1 n mk r (b2, p2, b3, p3)).2) (zput 2 p2 g))))), (me 2, .inl (kA, 4, .inl (fun j => nI ((va_up (va_up (va_up ss 2 b2) 3 ((mr1 n mk r (b2, p2, b3, p3)).1)) 2 (mr1 n mk r (b2, p2, b3, p3)).1) j)))), (me 3, .inl (kA, 256, .inl mk))] H := hP
                          have hD : va_D Az [(me 0, .inr (2, [.ref (me 1), .ref (me 2), .ref (me 3), .int (nI n)])), (me 1, .inl (kA, 96, .inl (zput 2 (zcp (mr1 n mk r (b2, p2, b3, p3)).1 (mr1 n mk r (b2, p2, b3, p3)).2 p2) (zput 3 ((mr1 n mk r (b2, p2, b3, p3)).2) (zput 2 p2 g))))), (me 2, .inl (kA, 4, .inl (fun j => nI ((va_up (va_up (va_up ss 2 b2) 3 ((mr1 n mk r (b2, p2, b3, p3)).1)) 2 (mr1 n mk r (b2, p2, b3, p3)).1) j)))), (me 3, .inl (kA, 256, .inl mk))] := hD
                          rw [show (zput 2 (zcp (mr1 n mk r (b2, p2, b3, p3)).1 (mr1 n mk r (b2, p2, b3, p3)).2 p2) (zput 3 ((mr1 n mk r (b2, p2, b3, p3)).2) (zput 2 p2 g))) = (zput 3 ((mr1 n mk r (b2, p2, b3, p3)).2) (zput 2 (zcp (mr1 n mk r (b2, p2, b3, p3)).1 (mr1 n mk r (b2, p2, b3, p3)).2 p2) g)) from (by rw [zput_comm (by decide), zput_put])] at hP
                          rw [show (fun j => nI ((va_up (va_up (va_up ss 2 b2) 3 ((mr1 n mk r (b2, p2, b3, p3)).1)) 2 (mr1 n mk r (b2, p2, b3, p3)).1) j)) = (fun j => nI ((va_up (va_up ss 2 ((mr1 n mk r (b2, p2, b3, p3)).1)) 3 ((mr1 n mk r (b2, p2, b3, p3)).1)) j)) from (by rw [zup_comm (by decide), zup_up])] at hP
                          have hD : va_D Az [(me 0, .inr (2, [.ref (me 1), .ref (me 2), .ref (me 3), .int (nI n)])), (me 1, .inl (kA, 96, .inl (zput 3 ((mr1 n mk r (b2, p2, b3, p3)).2) (zput 2 (zcp (mr1 n mk r (b2, p2, b3, p3)).1 (mr1 n mk r (b2, p2, b3, p3)).2 p2) g)))), (me 2, .inl (kA, 4, .inl (fun j => nI ((va_up (va_up ss 2 ((mr1 n mk r (b2, p2, b3, p3)).1)) 3 ((mr1 n mk r (b2, p2, b3, p3)).1)) j)))), (me 3, .inl (kA, 256, .inl mk))] := vz_D hD rfl
                          refine lv_iinc (v := (nI (r + 1))) (lv' := [(2, .int (nI (r + 1))), (1, .int (vz_b (msl n (mr1 n mk r (b2, p2, b3, p3)).1 (mr1 n mk r (b2, p2, b3, p3)).2 b2 p2))), (0, .ref (me 0))]) hx hb dX2_minimize_174 hl (k := 2) rfl (nI_1 _) (by decide) rfl (fun ls hl => ?_)
                          refine lv_goto (tgt := 78) hx hb dX2_minimize_177 (by decide) ?_
                          rw [c_165] at hl
                          exact ih2 k (r + 1) true ((mr1 n mk r (b2, p2, b3, p3)).1) (zcp (mr1 n mk r (b2, p2, b3, p3)).1 (mr1 n mk r (b2, p2, b3, p3)).2 p2) ((mr1 n mk r (b2, p2, b3, p3)).1) ((mr1 n mk r (b2, p2, b3, p3)).2) _ _ _ (by omega) (by omega) (Nat.le_trans mps_le h2) (Nat.le_trans mps_le h2) (by rw [← h3, mrs, if_pos rfl, show mrb n mk r (b2, p2, b3, p3) = true from c_165]; congr 1; rw [mr2, if_pos (show mrb n mk r (b2, p2, b3, p3) = true from c_165)]) hP (vz_D hD rfl) hS (lv_sub hl [2, 1, 0] rfl)
        exact lp2 _ 8 1 true ((mmz0 n mk t0 q0 q2).1) ((mmz0 n mk t0 q0 q2).2) t3 q3 _ _ _ (Nat.lt_succ_self _) rfl (by rw [← hm0]; exact Nat.le_trans mps_le (by omega)) hb3 rfl (by rw [zput_id (L := 3) (q := q3) (g := zput 2 (mmz0 n mk t0 q0 q2).2 g) (fun j hj => by rw [zput_ne hj (by decide)]; exact hq3 j hj), zup_id (ss := va_up ss 2 (mmz0 n mk t0 q0 q2).1) (L := 3) (t := t3) (by rw [va_up_ne _ _ (by decide)]; exact ht3)]; exact hP) (vz_D hD rfl) hS (lv_sub hl [2, 1, 0] rfl)
      · skip
        refine lv_aload_n hx hb dX2_minimize_19 rfl (lv_at hl 0 rfl) ?_
        refine lv_aload_n hx hb dX2_minimize_20 rfl (lv_at hl 0 rfl) ?_
        refine va_get (D := D) (ci := 2) (v := .ref (me 1)) (C := RX2) (T := TX2) (N := 4) hx hb hts hi0 hown hK hP 0 rfl rfl 0 (by decide) hf7 (fun _ h9 => h9) rfl dX2_minimize_21 ?_
        refine lv_iload_n hx hb dX2_minimize_24 rfl (lv_at hl 1 rfl) ?_
        refine vz_ald hx hb hK hP 1 rfl (by omega) (Nat.le_of_ble_eq_true rfl) dX2_minimize_25 ?_
        refine vz_top (y := (q0 i)) (by rw [show zput 2 r g i = g i from if_neg (by omega)]; exact hq0 i (by omega)) ?_
        refine vz_callV (n := 1) (As := [.int (q0 i)]) (rest := []) (q0 := 0) hcf (c_X2_isVoid l D kA me n (zput 2 r g) mk (va_up ss 2 u) hn (q0 i)) gX2_minimize_X2_isVoid rfl hd_X2_isVoid ⟨Nat.le_of_ble_eq_true rfl, Nat.le_of_ble_eq_true rfl⟩ hK (hP.sub [0, 1, 2, 3] rfl) rfl rfl rfl rfl hl.1 rfl (Nat.le_of_ble_eq_true rfl) ⟨Nat.zero_le _, Nat.zero_le _⟩ dX2_minimize_26 ?_
        refine vz_ifneB (tgt := 62) hx hb dX2_minimize_29 (by decide) (fun c_29 => ?_) (fun c_29 => ?_)
        · skip
          refine lv_iinc (v := (nI (i + 1))) (lv' := [(1, .int (nI (i + 1))), (0, .ref (me 0))]) hx hb dX2_minimize_62 hl (k := 1) rfl (nI_1 _) (by decide) rfl (fun ls hl => ?_)
          refine lv_goto (tgt := 9) hx hb dX2_minimize_65 (by decide) ?_
          exact ih1 (i + 1) u r _ _ _ (by omega) (by omega) (by omega) (by rw [mfc, zfc, if_pos c_29]; exact h3) hP (vz_D hD rfl) hS (lv_sub hl [1, 0] rfl)
        · skip
          refine lv_aload_n hx hb dX2_minimize_32 rfl (lv_at hl 0 rfl) ?_
          refine va_get (D := D) (ci := 2) (v := .ref (me 1)) (C := RX2) (T := TX2) (N := 4) hx hb hts hi0 hown hK hP 0 rfl rfl 0 (by decide) hf7 (fun _ h9 => h9) rfl dX2_minimize_33 ?_
          refine lv_bipush (v := nI 48) hx hb dX2_minimize_36 (by decide) ?_
          refine lv_aload_n hx hb dX2_minimize_38 rfl (lv_at hl 0 rfl) ?_
          refine va_get (D := D) (ci := 2) (v := .ref (me 2)) (C := RX2) (T := TX2) (N := 4) hx hb hts hi0 hown hK hP 0 rfl rfl 1 (by decide) hf13 (fun _ h9 => h9) rfl dX2_minimize_39 ?_
          refine lv_iconst (v := nI 2) hx hb dX2_minimize_42 (by decide) ?_
          refine vz_ald hx hb hK hP 2 rfl (by omega) (Nat.le_of_ble_eq_true rfl) dX2_minimize_43 ?_
          refine vz_top (y := (nI u)) (congrArg nI (va_up_self _ _ _)) ?_
          refine vz_add hx hb dX2_minimize_44 ?_
          refine lv_aload_n hx hb dX2_minimize_45 rfl (lv_at hl 0 rfl) ?_
          refine va_get (D := D) (ci := 2) (v := .ref (me 1)) (C := RX2) (T := TX2) (N := 4) hx hb hts hi0 hown hK hP 0 rfl rfl 0 (by decide) hf7 (fun _ h9 => h9) rfl dX2_minimize_46 ?_
          refine lv_iload_n hx hb dX2_minimize_49 rfl (lv_at hl 1 rfl) ?_
          refine vz_ald hx hb hK hP 1 rfl (by omega) (Nat.le_of_ble_eq_true rfl) dX2_minimize_50 ?_
          refine vz_top (y := (q0 i)) (by rw [show zput 2 r g i = g i from if_neg (by omega)]; exact hq0 i (by omega)) ?_
          refine vz_ast hx hb hK hP hD hS 1 rfl (by omega) (Nat.le_of_ble_eq_true rfl) dX2_minimize_51 (fun H locs hP hD hS => ?_)
          have hP : va_P D vwCl [(me 0, .inr (2, [.ref (me 1), .ref (me 2), .ref (me 3), .int (nI n)])), (me 1, .inl (kA, 96, .inl (upd (zput 2 r g) (48 + u) (q0 i)))), (me 2, .inl (kA, 4, .inl (fun j => nI ((va_up ss 2 u) j)))), (me 3, .inl (kA, 256, .inl mk))] H := hP
          have hD : va_D Az [(me 0, .inr (2, [.ref (me 1), .ref (me 2), .ref (me 3), .int (nI n)])), (me 1, .inl (kA, 96, .inl (upd (zput 2 r g) (48 + u) (q0 i)))), (me 2, .inl (kA, 4, .inl (fun j => nI ((va_up ss 2 u) j)))), (me 3, .inl (kA, 256, .inl mk))] := hD
          rw [show upd (zput 2 r g) (48 + u) (q0 i) = (zput 2 (upd r u (q0 i)) g) from zput_upd (L := 2) (by omega)] at hP
          have hD : va_D Az [(me 0, .inr (2, [.ref (me 1), .ref (me 2), .ref (me 3), .int (nI n)])), (me 1, .inl (kA, 96, .inl (zput 2 (upd r u (q0 i)) g))), (me 2, .inl (kA, 4, .inl (fun j => nI ((va_up ss 2 u) j)))), (me 3, .inl (kA, 256, .inl mk))] := vz_D hD rfl
          refine lv_aload_n hx hb dX2_minimize_52 rfl (lv_at hl 0 rfl) ?_
          refine va_get (D := D) (ci := 2) (v := .ref (me 2)) (C := RX2) (T := TX2) (N := 4) hx hb hts hi0 hown hK hP 0 rfl rfl 1 (by decide) hf13 (fun _ h9 => h9) rfl dX2_minimize_53 ?_
          refine lv_iconst (v := nI 2) hx hb dX2_minimize_56 (by decide) ?_
          refine lv_dup2_11 hx hb dX2_minimize_57 rfl rfl ?_
          refine vz_ald hx hb hK hP 2 rfl (by omega) (Nat.le_of_ble_eq_true rfl) dX2_minimize_58 ?_
          refine vz_top (y := (nI u)) (congrArg nI (va_up_self _ _ _)) ?_
          refine lv_iconst (v := nI 1) hx hb dX2_minimize_59 (by decide) ?_
          refine vz_add hx hb dX2_minimize_60 ?_
          refine vz_ast hx hb hK hP hD hS 2 rfl (by omega) (Nat.le_of_ble_eq_true rfl) dX2_minimize_61 (fun H locs hP hD hS => ?_)
          have hP : va_P D vwCl [(me 0, .inr (2, [.ref (me 1), .ref (me 2), .ref (me 3), .int (nI n)])), (me 1, .inl (kA, 96, .inl (zput 2 (upd r u (q0 i)) g))), (me 2, .inl (kA, 4, .inl (upd (fun j => nI ((va_up ss 2 u) j)) 2 (nI (u + 1))))), (me 3, .inl (kA, 256, .inl mk))] H := hP
          have hD : va_D Az [(me 0, .inr (2, [.ref (me 1), .ref (me 2), .ref (me 3), .int (nI n)])), (me 1, .inl (kA, 96, .inl (zput 2 (upd r u (q0 i)) g))), (me 2, .inl (kA, 4, .inl (upd (fun j => nI ((va_up ss 2 u) j)) 2 (nI (u + 1))))), (me 3, .inl (kA, 256, .inl mk))] := hD
          rw [show upd (fun j => nI ((va_up ss 2 u) j)) 2 (nI (u + 1)) = (fun j => nI ((va_up ss 2 (u + 1)) j)) from (by rw [zsu, zup_up])] at hP
          have hD : va_D Az [(me 0, .inr (2, [.ref (me 1), .ref (me 2), .ref (me 3), .int (nI n)])), (me 1, .inl (kA, 96, .inl (zput 2 (upd r u (q0 i)) g))), (me 2, .inl (kA, 4, .inl (fun j => nI ((va_up ss 2 (u + 1)) j)))), (me 3, .inl (kA, 256, .inl mk))] := vz_D hD rfl
          refine lv_iinc (v := (nI (i + 1))) (lv' := [(1, .int (nI (i + 1))), (0, .ref (me 0))]) hx hb dX2_minimize_62 hl (k := 1) rfl (nI_1 _) (by decide) rfl (fun ls hl => ?_)
          refine lv_goto (tgt := 9) hx hb dX2_minimize_65 (by decide) ?_
          exact ih1 (i + 1) (u + 1) (upd r u (q0 i)) _ _ _ (by omega) (by omega) (by omega) (by rw [mfc, zfc, if_neg (by rw [c_29]; decide)]; rw [mfc] at h3; rw [← h3]) hP (vz_D hD rfl) hS (lv_sub hl [1, 0] rfl)
  exact lp1 _ 0 0 q2 _ _ _ (Nat.lt_succ_self _) (by omega) (by omega) rfl (by rw [zput_id hq2]; exact hP) (vz_D hD rfl) hS (lv_sub hl [1, 0] rfl)
