set_option maxHeartbeats 4000000 in
set_option maxRecDepth 100000 in
theorem c_X2_inputs (l : Launch) (D : va_G) (kA : ClassId) (me : Nat → Nat) (n : Nat) (g mk : Nat → Int32) (ss : Nat → Nat) (hn : n ≤ 8) : vz_M l yX2_inputs wsX2_inputs 0 0 [.ref (me 0)] D kA [(me 0, .inr (2, [.ref (me 1), .ref (me 2), .ref (me 3), .int (nI n)])), (me 1, .inl (kA, 96, .inl g)), (me 2, .inl (kA, 4, .inl (fun j => nI (ss j)))), (me 3, .inl (kA, 256, .inl mk))] (some (.int (nI n))) := by
  refine vz_start (cc := cX2_inputs) (maxL := 1) (ret := (some .int)) (own := RX2) (by decide) rfl rfl (Nat.le_of_ble_eq_true rfl) ?_
  intro pz ez sz mz below meth cz args Q ls hargs hx hb hml hown hts hr hlocks hP hK hQ hl
  have hcf : CallFix pz mz cz cX2_inputs 1 sz args wsX2_inputs RX2 := ⟨hx, hb, hml, hown, hts⟩
  have hi0 : ∀ w ∈ u_ws RX2 TX2 4, w ∈ wsX2_inputs := by decide +kernel
  have hf19 : (Cond.fieldLink RX2 19 "CubeMinModel" "n" "I").before args sz = true := hts _ (by decide +kernel)
  have hl : lv_has ls 1 [(0, .ref (me 0))] := hl
  refine lv_aload_n hx hb dX2_inputs_0 rfl (lv_at hl 0 rfl) ?_
  refine va_get (D := D) (ci := 2) (v := .int (nI n)) (C := RX2) (T := TX2) (N := 4) hx hb hts hi0 hown hK hP 0 rfl rfl 3 (by decide) hf19 (fun _ h9 => h9) rfl dX2_inputs_1 ?_
  exact vz_iret hx hb hr hlocks hQ (vp_nar_int _) dX2_inputs_4 rfl
set_option maxHeartbeats 4000000 in
set_option maxRecDepth 100000 in
theorem c_X2_isCube (l : Launch) (D : va_G) (kA : ClassId) (me : Nat → Nat) (n : Nat) (g mk : Nat → Int32) (ss : Nat → Nat) (hn : n ≤ 8) (x : Int32) : vz_M l yX2_isCube wsX2_isCube 0 0 [.ref (me 0), .int x] D kA [(me 0, .inr (2, [.ref (me 1), .ref (me 2), .ref (me 3), .int (nI n)])), (me 1, .inl (kA, 96, .inl g)), (me 2, .inl (kA, 4, .inl (fun j => nI (ss j)))), (me 3, .inl (kA, 256, .inl mk))] (some (.int (vz_b (!decide (x < 0) && !decide (nI (4 ^ n) ≤ x))))) := by
  refine vz_start (cc := cX2_isCube) (maxL := 2) (ret := (some .boolean)) (own := RX2) (by decide) rfl rfl (Nat.le_of_ble_eq_true rfl) ?_
  intro pz ez sz mz below meth cz args Q ls hargs hx hb hml hown hts hr hlocks hP hK hQ hl
  have hcf : CallFix pz mz cz cX2_isCube 2 sz args wsX2_isCube RX2 := ⟨hx, hb, hml, hown, hts⟩
  have hi0 : ∀ w ∈ u_ws RX2 TX2 4, w ∈ wsX2_isCube := by decide +kernel
  have hf19 : (Cond.fieldLink RX2 19 "CubeMinModel" "n" "I").before args sz = true := hts _ (by decide +kernel)
  have hl : lv_has ls 2 [(0, .ref (me 0)), (1, .int x)] := hl
  refine lv_iload_n hx hb dX2_isCube_0 rfl (lv_at hl 1 rfl) ?_
  refine lv_if_lt (tgt := 20) hx hb dX2_isCube_1 (by decide) (fun c_1 => ?_) (fun c_1 => ?_)
  · skip
    refine lv_iconst (v := nI 0) hx hb dX2_isCube_20 (by decide) ?_
    exact vz_iret hx hb hr hlocks hQ (rfl) dX2_isCube_21 (by first | simp [c_1, c_13]; rfl | simp [c_1]; rfl)
  · skip
    refine lv_iload_n hx hb dX2_isCube_4 rfl (lv_at hl 1 rfl) ?_
    refine lv_iconst (v := nI 1) hx hb dX2_isCube_5 (by decide) ?_
    refine lv_iconst (v := nI 2) hx hb dX2_isCube_6 (by decide) ?_
    refine lv_aload_n hx hb dX2_isCube_7 rfl (lv_at hl 0 rfl) ?_
    refine va_get (D := D) (ci := 2) (v := .int (nI n)) (C := RX2) (T := TX2) (N := 4) hx hb hts hi0 hown hK hP 0 rfl rfl 3 (by decide) hf19 (fun _ h9 => h9) rfl dX2_isCube_8 ?_
    refine vz_mul hx hb dX2_isCube_11 ?_
    refine lv_ishl hx hb dX2_isCube_12 ?_
    refine vz_top (y := (nI (4 ^ n))) (zN4_sh n hn) ?_
    refine lv_icmp_ge (tgt := 20) hx hb dX2_isCube_13 (by decide) (fun c_13 => ?_) (fun c_13 => ?_)
    · skip
      refine lv_iconst (v := nI 0) hx hb dX2_isCube_20 (by decide) ?_
      exact vz_iret hx hb hr hlocks hQ (rfl) dX2_isCube_21 (by first | simp [c_1, c_13]; rfl | simp [c_1]; rfl)
    · skip
      refine lv_iconst (v := nI 1) hx hb dX2_isCube_16 (by decide) ?_
      refine lv_goto (tgt := 21) hx hb dX2_isCube_17 (by decide) ?_
      exact vz_iret hx hb hr hlocks hQ (rfl) dX2_isCube_21 (by first | simp [c_1, c_13]; rfl | simp [c_1]; rfl)
set_option maxHeartbeats 4000000 in
set_option maxRecDepth 100000 in
theorem c_X2_isVoid (l : Launch) (D : va_G) (kA : ClassId) (me : Nat → Nat) (n : Nat) (g mk : Nat → Int32) (ss : Nat → Nat) (hn : n ≤ 8) (x : Int32) : vz_M l yX2_isVoid wsX2_isVoid 0 0 [.ref (me 0), .int x] D kA [(me 0, .inr (2, [.ref (me 1), .ref (me 2), .ref (me 3), .int (nI n)])), (me 1, .inl (kA, 96, .inl g)), (me 2, .inl (kA, 4, .inl (fun j => nI (ss j)))), (me 3, .inl (kA, 256, .inl mk))] (some (.int (vz_b (zvoid n x)))) := by
  refine vz_start (cc := cX2_isVoid) (maxL := 3) (ret := (some .boolean)) (own := RX2) (by decide) rfl rfl (Nat.le_of_ble_eq_true rfl) ?_
  intro pz ez sz mz below meth cz args Q ls hargs hx hb hml hown hts hr hlocks hP hK hQ hl
  have hcf : CallFix pz mz cz cX2_isVoid 3 sz args wsX2_isVoid RX2 := ⟨hx, hb, hml, hown, hts⟩
  have hi0 : ∀ w ∈ u_ws RX2 TX2 4, w ∈ wsX2_isVoid := by decide +kernel
  have hf19 : (Cond.fieldLink RX2 19 "CubeMinModel" "n" "I").before args sz = true := hts _ (by decide +kernel)
  have hl : lv_has ls 3 [(0, .ref (me 0)), (1, .int x)] := hl
  refine lv_iconst (v := nI 0) hx hb dX2_isVoid_0 (by decide) ?_
  refine lv_istore_n (lv' := [(2, .int (nI 0)), (0, .ref (me 0)), (1, .int x)]) hx hb dX2_isVoid_1 rfl hl (by decide) rfl (fun ls hl => ?_)
  have lp1 : ∀ (dz : Nat) (i : Nat) (ls : Array Slot), (n - i) < dz → (i ≤ n) → (∀ j, j < i → decide (x >>> (nI (2 * j) &&& 31) &&& nI 3 = 0) = false) → lv_has ls 3 [(0, .ref (me 0)), (1, .int x), (2, .int (nI i))] → W pz l ez (vz_R 0 0) sz mz args below meth cz sz.heap [] 0 0 Q (F0 mz 2 ls []) := by
    intro dz
    induction dz with
    | zero => intro i ls hd h1 h2 hl; exact absurd hd (Nat.not_lt_zero _)
    | succ dz ih1 =>
      intro i ls hd h1 h2 hl
      refine lv_iload_n hx hb dX2_isVoid_2 rfl (lv_at hl 2 rfl) ?_
      refine lv_aload_n hx hb dX2_isVoid_3 rfl (lv_at hl 0 rfl) ?_
      refine va_get (D := D) (ci := 2) (v := .int (nI n)) (C := RX2) (T := TX2) (N := 4) hx hb hts hi0 hown hK hP 0 rfl rfl 3 (by decide) hf19 (fun _ h9 => h9) rfl dX2_isVoid_4 ?_
      refine vz_cge (tgt := 28) hx hb dX2_isVoid_7 (by decide) (by omega) (by omega) (fun c_7 => ?_) (fun c_7 => ?_)
      · skip
        refine lv_iconst (v := nI 0) hx hb dX2_isVoid_28 (by decide) ?_
        exact vz_iret hx hb hr hlocks hQ (rfl) dX2_isVoid_29 ((congrArg vz_b (exB_f (fun j hj => h2 j (by omega)))).symm)
      · skip
        refine lv_iload_n hx hb dX2_isVoid_10 rfl (lv_at hl 1 rfl) ?_
        refine lv_iconst (v := nI 2) hx hb dX2_isVoid_11 (by decide) ?_
        refine lv_iload_n hx hb dX2_isVoid_12 rfl (lv_at hl 2 rfl) ?_
        refine vz_mul hx hb dX2_isVoid_13 ?_
        refine lv_ishr hx hb dX2_isVoid_14 ?_
        refine lv_iconst (v := nI 3) hx hb dX2_isVoid_15 (by decide) ?_
        refine lv_iand hx hb dX2_isVoid_16 ?_
        refine lv_if_ne (tgt := 22) hx hb dX2_isVoid_17 (by decide) (fun c_17 => ?_) (fun c_17 => ?_)
        · skip
          refine lv_iinc (v := (nI (i + 1))) (lv' := [(2, .int (nI (i + 1))), (0, .ref (me 0)), (1, .int x)]) hx hb dX2_isVoid_22 hl (k := 2) rfl (nI_1 _) (by decide) rfl (fun ls hl => ?_)
          refine lv_goto (tgt := 2) hx hb dX2_isVoid_25 (by decide) ?_
          exact ih1 (i + 1) _ (by omega) (by omega) (lt_sB h2 (decide_eq_false c_17)) (lv_sub hl [1, 2, 0] rfl)
        · skip
          refine lv_iconst (v := nI 1) hx hb dX2_isVoid_20 (by decide) ?_
          exact vz_iret hx hb hr hlocks hQ (rfl) dX2_isVoid_21 ((congrArg vz_b (exB_t c_7 (decide_eq_true c_17))).symm)
  exact lp1 _ 0 _ (Nat.lt_succ_self _) (by omega) lt_0B (lv_sub hl [1, 2, 0] rfl)
set_option maxHeartbeats 4000000 in
set_option maxRecDepth 100000 in
theorem c_X2_in (l : Launch) (D : va_G) (kA : ClassId) (me : Nat → Nat) (n : Nat) (g mk : Nat → Int32) (ss : Nat → Nat) (hn : n ≤ 8) (p : Nat) (x : Int32) (hp : p < 256) : vz_M l yX2_in wsX2_in 0 0 [.ref (me 0), .int (nI p), .int x] D kA [(me 0, .inr (2, [.ref (me 1), .ref (me 2), .ref (me 3), .int (nI n)])), (me 1, .inl (kA, 96, .inl g)), (me 2, .inl (kA, 4, .inl (fun j => nI (ss j)))), (me 3, .inl (kA, 256, .inl mk))] (some (.int (vz_b (zin n p x)))) := by
  refine vz_start (cc := cX2_in) (maxL := 4) (ret := (some .boolean)) (own := RX2) (by decide) rfl rfl (Nat.le_of_ble_eq_true rfl) ?_
  intro pz ez sz mz below meth cz args Q ls hargs hx hb hml hown hts hr hlocks hP hK hQ hl
  have hcf : CallFix pz mz cz cX2_in 4 sz args wsX2_in RX2 := ⟨hx, hb, hml, hown, hts⟩
  have hi0 : ∀ w ∈ u_ws RX2 TX2 4, w ∈ wsX2_in := by decide +kernel
  have hf19 : (Cond.fieldLink RX2 19 "CubeMinModel" "n" "I").before args sz = true := hts _ (by decide +kernel)
  have hl : lv_has ls 4 [(0, .ref (me 0)), (1, .int (nI p)), (2, .int x)] := hl
  refine lv_iconst (v := nI 0) hx hb dX2_in_0 (by decide) ?_
  refine lv_istore_n (lv' := [(3, .int (nI 0)), (0, .ref (me 0)), (1, .int (nI p)), (2, .int x)]) hx hb dX2_in_1 rfl hl (by decide) rfl (fun ls hl => ?_)
  have lp1 : ∀ (dz : Nat) (i : Nat) (ls : Array Slot), (n - i) < dz → (i ≤ n) → (∀ j, j < i → decide (x >>> (nI (2 * j + zb p j) &&& 31) &&& nI 1 = 0) = false) → lv_has ls 4 [(0, .ref (me 0)), (1, .int (nI p)), (2, .int x), (3, .int (nI i))] → W pz l ez (vz_R 0 0) sz mz args below meth cz sz.heap [] 0 0 Q (F0 mz 2 ls []) := by
    intro dz
    induction dz with
    | zero => intro i ls hd h1 h2 hl; exact absurd hd (Nat.not_lt_zero _)
    | succ dz ih1 =>
      intro i ls hd h1 h2 hl
      refine lv_iload_n hx hb dX2_in_2 rfl (lv_at hl 3 rfl) ?_
      refine lv_aload_n hx hb dX2_in_3 rfl (lv_at hl 0 rfl) ?_
      refine va_get (D := D) (ci := 2) (v := .int (nI n)) (C := RX2) (T := TX2) (N := 4) hx hb hts hi0 hown hK hP 0 rfl rfl 3 (by decide) hf19 (fun _ h9 => h9) rfl dX2_in_4 ?_
      refine vz_cge (tgt := 34) hx hb dX2_in_7 (by decide) (by omega) (by omega) (fun c_7 => ?_) (fun c_7 => ?_)
      · skip
        refine lv_iconst (v := nI 1) hx hb dX2_in_34 (by decide) ?_
        exact vz_iret hx hb hr hlocks hQ (rfl) dX2_in_35 ((congrArg (fun z => vz_b (!z)) (exB_f (P := fun i => decide (x >>> (nI (2 * i + zb p i) &&& 31) &&& nI 1 = 0)) (fun j hj => h2 j (by omega)))).symm)
      · skip
        refine lv_iload_n hx hb dX2_in_10 rfl (lv_at hl 2 rfl) ?_
        refine lv_iconst (v := nI 2) hx hb dX2_in_11 (by decide) ?_
        refine lv_iload_n hx hb dX2_in_12 rfl (lv_at hl 3 rfl) ?_
        refine vz_mul hx hb dX2_in_13 ?_
        refine lv_iload_n hx hb dX2_in_14 rfl (lv_at hl 1 rfl) ?_
        refine lv_iload_n hx hb dX2_in_15 rfl (lv_at hl 3 rfl) ?_
        refine lv_ishr hx hb dX2_in_16 ?_
        refine lv_iconst (v := nI 1) hx hb dX2_in_17 (by decide) ?_
        refine lv_iand hx hb dX2_in_18 ?_
        refine vz_top (y := (nI (zb p i))) (zb_eq hp (by omega)) ?_
        refine vz_add hx hb dX2_in_19 ?_
        refine lv_ishr hx hb dX2_in_20 ?_
        refine lv_iconst (v := nI 1) hx hb dX2_in_21 (by decide) ?_
        refine lv_iand hx hb dX2_in_22 ?_
        refine lv_if_ne (tgt := 28) hx hb dX2_in_23 (by decide) (fun c_23 => ?_) (fun c_23 => ?_)
        · skip
          refine lv_iinc (v := (nI (i + 1))) (lv' := [(3, .int (nI (i + 1))), (0, .ref (me 0)), (1, .int (nI p)), (2, .int x)]) hx hb dX2_in_28 hl (k := 3) rfl (nI_1 _) (by decide) rfl (fun ls hl => ?_)
          refine lv_goto (tgt := 2) hx hb dX2_in_31 (by decide) ?_
          exact ih1 (i + 1) _ (by omega) (by omega) (lt_sB h2 (decide_eq_false c_23)) (lv_sub hl [1, 2, 3, 0] rfl)
        · skip
          refine lv_iconst (v := nI 0) hx hb dX2_in_26 (by decide) ?_
          exact vz_iret hx hb hr hlocks hQ (rfl) dX2_in_27 ((congrArg (fun z => vz_b (!z)) (exB_t (P := fun i => decide (x >>> (nI (2 * i + zb p i) &&& 31) &&& nI 1 = 0)) c_7 (decide_eq_true c_23))).symm)
  exact lp1 _ 0 _ (Nat.lt_succ_self _) (by omega) lt_0B (lv_sub hl [1, 2, 3, 0] rfl)
set_option maxHeartbeats 4000000 in
set_option maxRecDepth 100000 in
theorem c_X2_inList (l : Launch) (D : va_G) (kA : ClassId) (me : Nat → Nat) (n : Nat) (g mk : Nat → Int32) (ss : Nat → Nat) (hn : n ≤ 8) (L t : Nat) (q : Nat → Int32) (hL3 : L < 4) (ht : ss L = t) (ht24 : t ≤ 24) (hq : ∀ j, j < 24 → g (24 * L + j) = q j) (p : Nat) (hp : p < 256) : vz_M l yX2_inList wsX2_inList 1 23 [.ref (me 0), .int (nI p), .int (nI L)] D kA [(me 0, .inr (2, [.ref (me 1), .ref (me 2), .ref (me 3), .int (nI n)])), (me 1, .inl (kA, 96, .inl g)), (me 2, .inl (kA, 4, .inl (fun j => nI (ss j)))), (me 3, .inl (kA, 256, .inl mk))] (some (.int (vz_b (zM_inL n t q p)))) := by
  refine vz_start (cc := cX2_inList) (maxL := 4) (ret := (some .boolean)) (own := RX2) (by decide) rfl rfl (Nat.le_of_ble_eq_true rfl) ?_
  intro pz ez sz mz below meth cz args Q ls hargs hx hb hml hown hts hr hlocks hP hK hQ hl
  have hcf : CallFix pz mz cz cX2_inList 4 sz args wsX2_inList RX2 := ⟨hx, hb, hml, hown, hts⟩
  have hi0 : ∀ w ∈ u_ws RX2 TX2 4, w ∈ wsX2_inList := by decide +kernel
  have hf7 : (Cond.fieldLink RX2 7 "CubeMinModel" "cubes" "[I").before args sz = true := hts _ (by decide +kernel)
  have hf13 : (Cond.fieldLink RX2 13 "CubeMinModel" "sizes" "[I").before args sz = true := hts _ (by decide +kernel)
  have hl : lv_has ls 4 [(0, .ref (me 0)), (1, .int (nI p)), (2, .int (nI L))] := hl
  refine lv_iconst (v := nI 0) hx hb dX2_inList_0 (by decide) ?_
  refine lv_istore_n (lv' := [(3, .int (nI 0)), (0, .ref (me 0)), (1, .int (nI p)), (2, .int (nI L))]) hx hb dX2_inList_1 rfl hl (by decide) rfl (fun ls hl => ?_)
  have lp1 : ∀ (dz : Nat) (i : Nat) (ls : Array Slot), (t - i) < dz → (i ≤ t) → (∀ j, j < i → zin n p (q j) = false) → lv_has ls 4 [(0, .ref (me 0)), (1, .int (nI p)), (2, .int (nI L)), (3, .int (nI i))] → W pz l ez (vz_R 1 23) sz mz args below meth cz sz.heap [] 0 0 Q (F0 mz 2 ls []) := by
    intro dz
    induction dz with
    | zero => intro i ls hd h1 h2 hl; exact absurd hd (Nat.not_lt_zero _)
    | succ dz ih1 =>
      intro i ls hd h1 h2 hl
      refine lv_iload_n hx hb dX2_inList_2 rfl (lv_at hl 3 rfl) ?_
      refine lv_aload_n hx hb dX2_inList_3 rfl (lv_at hl 0 rfl) ?_
      refine va_get (D := D) (ci := 2) (v := .ref (me 2)) (C := RX2) (T := TX2) (N := 4) hx hb hts hi0 hown hK hP 0 rfl rfl 1 (by decide) hf13 (fun _ h9 => h9) rfl dX2_inList_4 ?_
      refine lv_iload_n hx hb dX2_inList_7 rfl (lv_at hl 2 rfl) ?_
      refine vz_ald hx hb hK hP 2 rfl (by omega) (Nat.le_of_ble_eq_true rfl) dX2_inList_8 ?_
      refine vz_top (y := (nI t)) (congrArg nI ht) ?_
      refine vz_cge (tgt := 39) hx hb dX2_inList_9 (by decide) (by omega) (by omega) (fun c_9 => ?_) (fun c_9 => ?_)
      · skip
        refine lv_iconst (v := nI 0) hx hb dX2_inList_39 (by decide) ?_
        exact vz_iret hx hb hr hlocks hQ (rfl) dX2_inList_40 ((congrArg vz_b (exB_f (P := fun k => zin n p (q k)) (fun j hj => h2 j (by omega)))).symm)
      · skip
        refine lv_aload_n hx hb dX2_inList_12 rfl (lv_at hl 0 rfl) ?_
        refine lv_iload_n hx hb dX2_inList_13 rfl (lv_at hl 1 rfl) ?_
        refine lv_aload_n hx hb dX2_inList_14 rfl (lv_at hl 0 rfl) ?_
        refine va_get (D := D) (ci := 2) (v := .ref (me 1)) (C := RX2) (T := TX2) (N := 4) hx hb hts hi0 hown hK hP 0 rfl rfl 0 (by decide) hf7 (fun _ h9 => h9) rfl dX2_inList_15 ?_
        refine lv_bipush (v := nI 24) hx hb dX2_inList_18 (by decide) ?_
        refine lv_iload_n hx hb dX2_inList_20 rfl (lv_at hl 2 rfl) ?_
        refine vz_mul hx hb dX2_inList_21 ?_
        refine lv_iload_n hx hb dX2_inList_22 rfl (lv_at hl 3 rfl) ?_
        refine vz_add hx hb dX2_inList_23 ?_
        refine vz_ald hx hb hK hP 1 rfl (by omega) (Nat.le_of_ble_eq_true rfl) dX2_inList_24 ?_
        refine vz_top (y := (q i)) (hq i (by omega)) ?_
        refine vz_callV (n := 2) (As := [.int (nI p), .int (q i)]) (rest := []) (q0 := 0) hcf (c_X2_in l D kA me n g mk ss hn p (q i) hp) gX2_inList_X2_in rfl hd_X2_in ⟨Nat.le_of_ble_eq_true rfl, Nat.le_of_ble_eq_true rfl⟩ hK (hP.sub [0, 1, 2, 3] rfl) rfl rfl rfl rfl hl.1 rfl (Nat.le_of_ble_eq_true rfl) ⟨Nat.zero_le _, Nat.zero_le _⟩ dX2_inList_25 ?_
        refine vz_ifeqB (tgt := 33) hx hb dX2_inList_28 (by decide) (fun c_28 => ?_) (fun c_28 => ?_)
        · skip
          refine lv_iinc (v := (nI (i + 1))) (lv' := [(3, .int (nI (i + 1))), (0, .ref (me 0)), (1, .int (nI p)), (2, .int (nI L))]) hx hb dX2_inList_33 hl (k := 3) rfl (nI_1 _) (by decide) rfl (fun ls hl => ?_)
          refine lv_goto (tgt := 2) hx hb dX2_inList_36 (by decide) ?_
          exact ih1 (i + 1) _ (by omega) (by omega) (lt_sB h2 c_28) (lv_sub hl [1, 2, 3, 0] rfl)
        · skip
          refine lv_iconst (v := nI 1) hx hb dX2_inList_31 (by decide) ?_
          exact vz_iret hx hb hr hlocks hQ (rfl) dX2_inList_32 ((congrArg vz_b (exB_t (P := fun k => zin n p (q k)) c_9 c_28)).symm)
  exact lp1 _ 0 _ (Nat.lt_succ_self _) (by omega) lt_0B (lv_sub hl [1, 2, 3, 0] rfl)
set_option maxHeartbeats 4000000 in
set_option maxRecDepth 100000 in
theorem c_X2_sort (l : Launch) (D : va_G) (kA : ClassId) (me : Nat → Nat) (n : Nat) (g mk : Nat → Int32) (ss : Nat → Nat) (hn : n ≤ 8) (t0 t1 : Nat) (q0 q1 : Nat → Int32) (ht0 : ss 0 = t0) (ht1 : ss 1 = t1) (hb0 : t0 ≤ 24) (hb1 : t1 ≤ 24) (hq0 : ∀ j, j < 24 → g (24 * 0 + j) = q0 j) (hq1 : ∀ j, j < 24 → g (24 * 1 + j) = q1 j) : vz_MM l yX2_sort wsX2_sort 2 46 [.ref (me 0)] D kA [(me 0, .inr (2, [.ref (me 1), .ref (me 2), .ref (me 3), .int (nI n)])), (me 1, .inl (kA, 96, .inl g)), (me 2, .inl (kA, 4, .inl (fun j => nI (ss j)))), (me 3, .inl (kA, 256, .inl mk))] none [(me 0, .inr (2, [.ref (me 1), .ref (me 2), .ref (me 3), .int (nI n)])), (me 1, .inl (kA, 96, .inl g)), (me 2, .inl (kA, 4, .inl (fun j => nI (ss j)))), (me 3, .inl (kA, 256, .inl (zcp (zN n) (zMk n t0 q0 t1 q1) mk)))] := by
  refine vz_startM (cc := cX2_sort) (maxL := 2) (ret := none) (own := RX2) (by decide) rfl rfl (Nat.le_of_ble_eq_true rfl) ?_
  intro pz ez sz mz below meth cz args Q ls H locs Az hargs hx hb hml hown hts hr hlocks hP hK hD hS hAe hQ hl
  have hcf : CallFix pz mz cz cX2_sort 2 sz args wsX2_sort RX2 := ⟨hx, hb, hml, hown, hts⟩
  have hi0 : ∀ w ∈ u_ws RX2 TX2 4, w ∈ wsX2_sort := by decide +kernel
  have hf16 : (Cond.fieldLink RX2 16 "CubeMinModel" "kinds" "[I").before args sz = true := hts _ (by decide +kernel)
  have hf19 : (Cond.fieldLink RX2 19 "CubeMinModel" "n" "I").before args sz = true := hts _ (by decide +kernel)
  have hl : lv_has ls 2 [(0, .ref (me 0))] := hl
  have hN := zN_le hn
  refine lv_iconst (v := nI 0) hx hb dX2_sort_0 (by decide) ?_
  refine lv_istore_n (lv' := [(1, .int (nI 0)), (0, .ref (me 0))]) hx hb dX2_sort_1 rfl hl (by decide) rfl (fun ls hl => ?_)
  have lp1 : ∀ (dz : Nat) (i : Nat) (gk : Nat → Int32) (H : Heap) (locs : List Loc) (ls : Array Slot), (zN n - i) < dz → (i ≤ zN n) → (gk = zcp i (zMk n t0 q0 t1 q1) mk) → va_P D vwCl [(me 0, .inr (2, [.ref (me 1), .ref (me 2), .ref (me 3), .int (nI n)])), (me 1, .inl (kA, 96, .inl g)), (me 2, .inl (kA, 4, .inl (fun j => nI (ss j)))), (me 3, .inl (kA, 256, .inl gk))] H → va_D Az [(me 0, .inr (2, [.ref (me 1), .ref (me 2), .ref (me 3), .int (nI n)])), (me 1, .inl (kA, 96, .inl g)), (me 2, .inl (kA, 4, .inl (fun j => nI (ss j)))), (me 3, .inl (kA, 256, .inl gk))] → va_S Az sz.heap H locs → lv_has ls 2 [(0, .ref (me 0)), (1, .int (nI i))] → W pz l ez (vz_R 2 46) sz mz args below meth cz H locs 0 0 Q (F0 mz 2 ls []) := by
    intro dz
    induction dz with
    | zero => intro i gk H locs ls hd h1 hg hP hD hS hl; exact absurd hd (Nat.not_lt_zero _)
    | succ dz ih1 =>
      intro i gk H locs ls hd h1 hg hP hD hS hl
      refine lv_iload_n hx hb dX2_sort_2 rfl (lv_at hl 1 rfl) ?_
      refine lv_iconst (v := nI 1) hx hb dX2_sort_3 (by decide) ?_
      refine lv_aload_n hx hb dX2_sort_4 rfl (lv_at hl 0 rfl) ?_
      refine va_get (D := D) (ci := 2) (v := .int (nI n)) (C := RX2) (T := TX2) (N := 4) hx hb hts hi0 hown hK hP 0 rfl rfl 3 (by decide) hf19 (fun _ h9 => h9) rfl dX2_sort_5 ?_
      refine lv_ishl hx hb dX2_sort_8 ?_
      refine vz_top (y := (nI (zN n))) (zN_sh n hn) ?_
      refine vz_cge (tgt := 51) hx hb dX2_sort_9 (by decide) (by omega) (by omega) (fun c_9 => ?_) (fun c_9 => ?_)
      · skip
        obtain rfl : i = zN n := by omega
        subst hg
        exact vz_vretM hx hb hr hlocks hQ hAe dX2_sort_51 hS hP rfl
      · skip
        refine lv_aload_n hx hb dX2_sort_12 rfl (lv_at hl 0 rfl) ?_
        refine va_get (D := D) (ci := 2) (v := .ref (me 3)) (C := RX2) (T := TX2) (N := 4) hx hb hts hi0 hown hK hP 0 rfl rfl 2 (by decide) hf16 (fun _ h9 => h9) rfl dX2_sort_13 ?_
        refine lv_iload_n hx hb dX2_sort_16 rfl (lv_at hl 1 rfl) ?_
        refine lv_aload_n hx hb dX2_sort_17 rfl (lv_at hl 0 rfl) ?_
        refine lv_iload_n hx hb dX2_sort_18 rfl (lv_at hl 1 rfl) ?_
        refine lv_iconst (v := nI 1) hx hb dX2_sort_19 (by decide) ?_
        refine vz_callV (n := 2) (As := [.int (nI i), .int (nI 1)]) (rest := [.int (nI i), .ref (me 3)]) (q0 := 0) hcf (c_X2_inList l D kA me n g gk ss hn 1 t1 q1 (by decide) ht1 hb1 hq1 i (by omega)) gX2_sort_X2_inList rfl hd_X2_inList ⟨Nat.le_of_ble_eq_true rfl, Nat.le_of_ble_eq_true rfl⟩ hK (hP.sub [0, 1, 2, 3] rfl) rfl rfl rfl rfl hl.1 rfl (Nat.le_of_ble_eq_true rfl) ⟨Nat.zero_le _, Nat.zero_le _⟩ dX2_sort_20 ?_
        refine vz_ifeqB (tgt := 30) hx hb dX2_sort_23 (by decide) (fun c_23 => ?_) (fun c_23 => ?_)
        · skip
          refine lv_aload_n hx hb dX2_sort_30 rfl (lv_at hl 0 rfl) ?_
          refine lv_iload_n hx hb dX2_sort_31 rfl (lv_at hl 1 rfl) ?_
          refine lv_iconst (v := nI 0) hx hb dX2_sort_32 (by decide) ?_
          refine vz_callV (n := 2) (As := [.int (nI i), .int (nI 0)]) (rest := [.int (nI i), .ref (me 3)]) (q0 := 0) hcf (c_X2_inList l D kA me n g gk ss hn 0 t0 q0 (by decide) ht0 hb0 hq0 i (by omega)) gX2_sort_X2_inList rfl hd_X2_inList ⟨Nat.le_of_ble_eq_true rfl, Nat.le_of_ble_eq_true rfl⟩ hK (hP.sub [0, 1, 2, 3] rfl) rfl rfl rfl rfl hl.1 rfl (Nat.le_of_ble_eq_true rfl) ⟨Nat.zero_le _, Nat.zero_le _⟩ dX2_sort_33 ?_
          refine vz_ifeqB (tgt := 43) hx hb dX2_sort_36 (by decide) (fun c_36 => ?_) (fun c_36 => ?_)
          · skip
            refine lv_iconst (v := nI 0) hx hb dX2_sort_43 (by decide) ?_
            refine vz_ast hx hb hK hP hD hS 3 rfl (by omega) (Nat.le_of_ble_eq_true rfl) dX2_sort_44 (fun H locs hP hD hS => ?_)
            have hP : va_P D vwCl [(me 0, .inr (2, [.ref (me 1), .ref (me 2), .ref (me 3), .int (nI n)])), (me 1, .inl (kA, 96, .inl g)), (me 2, .inl (kA, 4, .inl (fun j => nI (ss j)))), (me 3, .inl (kA, 256, .inl (upd gk i (nI 0))))] H := hP
            have hD : va_D Az [(me 0, .inr (2, [.ref (me 1), .ref (me 2), .ref (me 3), .int (nI n)])), (me 1, .inl (kA, 96, .inl g)), (me 2, .inl (kA, 4, .inl (fun j => nI (ss j)))), (me 3, .inl (kA, 256, .inl (upd gk i (nI 0))))] := hD
            refine lv_iinc (v := (nI (i + 1))) (lv' := [(1, .int (nI (i + 1))), (0, .ref (me 0))]) hx hb dX2_sort_45 hl (k := 1) rfl (nI_1 _) (by decide) rfl (fun ls hl => ?_)
            refine lv_goto (tgt := 2) hx hb dX2_sort_48 (by decide) ?_
            have e9 : zMk n t0 q0 t1 q1 i = nI 0 := by
              simp only [zMk]
              first | rw [if_pos c_23] | rw [if_neg (by rw [c_23]; decide), if_pos c_36] | rw [if_neg (by rw [c_23]; decide), if_neg (by rw [c_36]; decide)]
            exact ih1 (i + 1) (upd gk i (nI 0)) _ _ _ (by omega) (by omega) (by rw [hg, ← e9]; exact zcp_s) hP (vz_D hD rfl) hS (lv_sub hl [1, 0] rfl)
          · skip
            refine lv_iconst (v := nI 1) hx hb dX2_sort_39 (by decide) ?_
            refine lv_goto (tgt := 44) hx hb dX2_sort_40 (by decide) ?_
            refine vz_ast hx hb hK hP hD hS 3 rfl (by omega) (Nat.le_of_ble_eq_true rfl) dX2_sort_44 (fun H locs hP hD hS => ?_)
            have hP : va_P D vwCl [(me 0, .inr (2, [.ref (me 1), .ref (me 2), .ref (me 3), .int (nI n)])), (me 1, .inl (kA, 96, .inl g)), (me 2, .inl (kA, 4, .inl (fun j => nI (ss j)))), (me 3, .inl (kA, 256, .inl (upd gk i (nI 1))))] H := hP
            have hD : va_D Az [(me 0, .inr (2, [.ref (me 1), .ref (me 2), .ref (me 3), .int (nI n)])), (me 1, .inl (kA, 96, .inl g)), (me 2, .inl (kA, 4, .inl (fun j => nI (ss j)))), (me 3, .inl (kA, 256, .inl (upd gk i (nI 1))))] := hD
            refine lv_iinc (v := (nI (i + 1))) (lv' := [(1, .int (nI (i + 1))), (0, .ref (me 0))]) hx hb dX2_sort_45 hl (k := 1) rfl (nI_1 _) (by decide) rfl (fun ls hl => ?_)
            refine lv_goto (tgt := 2) hx hb dX2_sort_48 (by decide) ?_
            have e9 : zMk n t0 q0 t1 q1 i = nI 1 := by
              simp only [zMk]
              first | rw [if_pos c_23] | rw [if_neg (by rw [c_23]; decide), if_pos c_36] | rw [if_neg (by rw [c_23]; decide), if_neg (by rw [c_36]; decide)]
            exact ih1 (i + 1) (upd gk i (nI 1)) _ _ _ (by omega) (by omega) (by rw [hg, ← e9]; exact zcp_s) hP (vz_D hD rfl) hS (lv_sub hl [1, 0] rfl)
        · skip
          refine lv_iconst (v := nI 2) hx hb dX2_sort_26 (by decide) ?_
          refine lv_goto (tgt := 44) hx hb dX2_sort_27 (by decide) ?_
          refine vz_ast hx hb hK hP hD hS 3 rfl (by omega) (Nat.le_of_ble_eq_true rfl) dX2_sort_44 (fun H locs hP hD hS => ?_)
          have hP : va_P D vwCl [(me 0, .inr (2, [.ref (me 1), .ref (me 2), .ref (me 3), .int (nI n)])), (me 1, .inl (kA, 96, .inl g)), (me 2, .inl (kA, 4, .inl (fun j => nI (ss j)))), (me 3, .inl (kA, 256, .inl (upd gk i (nI 2))))] H := hP
          have hD : va_D Az [(me 0, .inr (2, [.ref (me 1), .ref (me 2), .ref (me 3), .int (nI n)])), (me 1, .inl (kA, 96, .inl g)), (me 2, .inl (kA, 4, .inl (fun j => nI (ss j)))), (me 3, .inl (kA, 256, .inl (upd gk i (nI 2))))] := hD
          refine lv_iinc (v := (nI (i + 1))) (lv' := [(1, .int (nI (i + 1))), (0, .ref (me 0))]) hx hb dX2_sort_45 hl (k := 1) rfl (nI_1 _) (by decide) rfl (fun ls hl => ?_)
          refine lv_goto (tgt := 2) hx hb dX2_sort_48 (by decide) ?_
          have e9 : zMk n t0 q0 t1 q1 i = nI 2 := by
            simp only [zMk]
            first | rw [if_pos c_23] | rw [if_neg (by rw [c_23]; decide), if_pos c_36] | rw [if_neg (by rw [c_23]; decide), if_neg (by rw [c_36]; decide)]
          exact ih1 (i + 1) (upd gk i (nI 2)) _ _ _ (by omega) (by omega) (by rw [hg, ← e9]; exact zcp_s) hP (vz_D hD rfl) hS (lv_sub hl [1, 0] rfl)
  exact lp1 _ 0 mk _ _ _ (Nat.lt_succ_self _) (by omega) zcp_0.symm hP (vz_D hD rfl) hS (lv_sub hl [1, 0] rfl)
set_option maxHeartbeats 4000000 in
set_option maxRecDepth 100000 in
theorem c_X2_touches (l : Launch) (D : va_G) (kA : ClassId) (me : Nat → Nat) (n : Nat) (g mk : Nat → Int32) (ss : Nat → Nat) (hn : n ≤ 8) (x : Int32) : vz_M l yX2_touches wsX2_touches 1 23 [.ref (me 0), .int x] D kA [(me 0, .inr (2, [.ref (me 1), .ref (me 2), .ref (me 3), .int (nI n)])), (me 1, .inl (kA, 96, .inl g)), (me 2, .inl (kA, 4, .inl (fun j => nI (ss j)))), (me 3, .inl (kA, 256, .inl mk))] (some (.int (vz_b (mtch n mk x)))) := by
  refine vz_start (cc := cX2_touches) (maxL := 3) (ret := (some .boolean)) (own := RX2) (by decide) rfl rfl (Nat.le_of_ble_eq_true rfl) ?_
  intro pz ez sz mz below meth cz args Q ls hargs hx hb hml hown hts hr hlocks hP hK hQ hl
  have hcf : CallFix pz mz cz cX2_touches 3 sz args wsX2_touches RX2 := ⟨hx, hb, hml, hown, hts⟩
  have hi0 : ∀ w ∈ u_ws RX2 TX2 4, w ∈ wsX2_touches := by decide +kernel
  have hf16 : (Cond.fieldLink RX2 16 "CubeMinModel" "kinds" "[I").before args sz = true := hts _ (by decide +kernel)
  have hf19 : (Cond.fieldLink RX2 19 "CubeMinModel" "n" "I").before args sz = true := hts _ (by decide +kernel)
  have hl : lv_has ls 3 [(0, .ref (me 0)), (1, .int x)] := hl
  have hN := zN_le hn
  refine lv_iconst (v := nI 0) hx hb dX2_touches_0 (by decide) ?_
  refine lv_istore_n (lv' := [(2, .int (nI 0)), (0, .ref (me 0)), (1, .int x)]) hx hb dX2_touches_1 rfl hl (by decide) rfl (fun ls hl => ?_)
  have lp1 : ∀ (dz : Nat) (i : Nat) (ls : Array Slot), (zN n - i) < dz → (i ≤ zN n) → (∀ p, p < i → (decide (mk p = 0) && zin n p x) = false) → lv_has ls 3 [(0, .ref (me 0)), (1, .int x), (2, .int (nI i))] → W pz l ez (vz_R 1 23) sz mz args below meth cz sz.heap [] 0 0 Q (F0 mz 2 ls []) := by
    intro dz
    induction dz with
    | zero => intro i ls hd h1 h2 hl; exact absurd hd (Nat.not_lt_zero _)
    | succ dz ih1 =>
      intro i ls hd h1 h2 hl
      refine lv_iload_n hx hb dX2_touches_2 rfl (lv_at hl 2 rfl) ?_
      refine lv_iconst (v := nI 1) hx hb dX2_touches_3 (by decide) ?_
      refine lv_aload_n hx hb dX2_touches_4 rfl (lv_at hl 0 rfl) ?_
      refine va_get (D := D) (ci := 2) (v := .int (nI n)) (C := RX2) (T := TX2) (N := 4) hx hb hts hi0 hown hK hP 0 rfl rfl 3 (by decide) hf19 (fun _ h9 => h9) rfl dX2_touches_5 ?_
      refine lv_ishl hx hb dX2_touches_8 ?_
      refine vz_top (y := (nI (zN n))) (zN_sh n hn) ?_
      refine vz_cge (tgt := 38) hx hb dX2_touches_9 (by decide) (by omega) (by omega) (fun c_9 => ?_) (fun c_9 => ?_)
      · skip
        refine lv_iconst (v := nI 0) hx hb dX2_touches_38 (by decide) ?_
        exact vz_iret hx hb hr hlocks hQ (rfl) dX2_touches_39 ((congrArg vz_b (exB_f (P := fun p => decide (mk p = 0) && zin n p x) (fun j hj => h2 j (by omega)))).symm)
      · skip
        refine lv_aload_n hx hb dX2_touches_12 rfl (lv_at hl 0 rfl) ?_
        refine va_get (D := D) (ci := 2) (v := .ref (me 3)) (C := RX2) (T := TX2) (N := 4) hx hb hts hi0 hown hK hP 0 rfl rfl 2 (by decide) hf16 (fun _ h9 => h9) rfl dX2_touches_13 ?_
        refine lv_iload_n hx hb dX2_touches_16 rfl (lv_at hl 2 rfl) ?_
        refine vz_ald hx hb hK hP 3 rfl (by omega) (Nat.le_of_ble_eq_true rfl) dX2_touches_17 ?_
        refine lv_if_ne (tgt := 32) hx hb dX2_touches_18 (by decide) (fun c_18 => ?_) (fun c_18 => ?_)
        · skip
          refine lv_iinc (v := (nI (i + 1))) (lv' := [(2, .int (nI (i + 1))), (0, .ref (me 0)), (1, .int x)]) hx hb dX2_touches_32 hl (k := 2) rfl (nI_1 _) (by decide) rfl (fun ls hl => ?_)
          refine lv_goto (tgt := 2) hx hb dX2_touches_35 (by decide) ?_
          exact ih1 (i + 1) _ (by omega) (by omega) (lt_sB h2 (by first | (simp [c_18]; done) | (simp [c_27]; done))) (lv_sub hl [1, 2, 0] rfl)
        · skip
          refine lv_aload_n hx hb dX2_touches_21 rfl (lv_at hl 0 rfl) ?_
          refine lv_iload_n hx hb dX2_touches_22 rfl (lv_at hl 2 rfl) ?_
          refine lv_iload_n hx hb dX2_touches_23 rfl (lv_at hl 1 rfl) ?_
          refine vz_callV (n := 2) (As := [.int (nI i), .int x]) (rest := []) (q0 := 0) hcf (c_X2_in l D kA me n g mk ss hn i x (by omega)) gX2_touches_X2_in rfl hd_X2_in ⟨Nat.le_of_ble_eq_true rfl, Nat.le_of_ble_eq_true rfl⟩ hK (hP.sub [0, 1, 2, 3] rfl) rfl rfl rfl rfl hl.1 rfl (Nat.le_of_ble_eq_true rfl) ⟨Nat.zero_le _, Nat.zero_le _⟩ dX2_touches_24 ?_
          refine vz_ifeqB (tgt := 32) hx hb dX2_touches_27 (by decide) (fun c_27 => ?_) (fun c_27 => ?_)
          · skip
            refine lv_iinc (v := (nI (i + 1))) (lv' := [(2, .int (nI (i + 1))), (0, .ref (me 0)), (1, .int x)]) hx hb dX2_touches_32 hl (k := 2) rfl (nI_1 _) (by decide) rfl (fun ls hl => ?_)
            refine lv_goto (tgt := 2) hx hb dX2_touches_35 (by decide) ?_
            exact ih1 (i + 1) _ (by omega) (by omega) (lt_sB h2 (by first | (simp [c_18]; done) | (simp [c_27]; done))) (lv_sub hl [1, 2, 0] rfl)
          · skip
            refine lv_iconst (v := nI 1) hx hb dX2_touches_30 (by decide) ?_
            exact vz_iret hx hb hr hlocks hQ (rfl) dX2_touches_31 ((congrArg vz_b (exB_t (P := fun p => decide (mk p = 0) && zin n p x) (i := i) (by omega) (by simp [c_18, c_27]))).symm)
  exact lp1 _ 0 _ (Nat.lt_succ_self _) (by omega) lt_0B (lv_sub hl [1, 2, 0] rfl)
set_option maxHeartbeats 4000000 in
set_option maxRecDepth 100000 in
theorem c_X2_widened (l : Launch) (D : va_G) (kA : ClassId) (me : Nat → Nat) (n : Nat) (g mk : Nat → Int32) (ss : Nat → Nat) (hn : n ≤ 8) (x : Int32) (asc : Bool) : vz_M l yX2_widened wsX2_widened 2 45 [.ref (me 0), .int x, .int (vz_b asc)] D kA [(me 0, .inr (2, [.ref (me 1), .ref (me 2), .ref (me 3), .int (nI n)])), (me 1, .inl (kA, 96, .inl g)), (me 2, .inl (kA, 4, .inl (fun j => nI (ss j)))), (me 3, .inl (kA, 256, .inl mk))] (some (.int (mwd n (mtch n mk) asc n x))) := by
  refine vz_start (cc := cX2_widened) (maxL := 7) (ret := (some .int)) (own := RX2) (by decide) rfl rfl (Nat.le_of_ble_eq_true rfl) ?_
  intro pz ez sz mz below meth cz args Q ls hargs hx hb hml hown hts hr hlocks hP hK hQ hl
  have hcf : CallFix pz mz cz cX2_widened 7 sz args wsX2_widened RX2 := ⟨hx, hb, hml, hown, hts⟩
  have hi0 : ∀ w ∈ u_ws RX2 TX2 4, w ∈ wsX2_widened := by decide +kernel
  have hf19 : (Cond.fieldLink RX2 19 "CubeMinModel" "n" "I").before args sz = true := hts _ (by decide +kernel)
  have hl : lv_has ls 7 [(0, .ref (me 0)), (1, .int x), (2, .int (vz_b asc))] := hl
  refine lv_iload_n hx hb dX2_widened_0 rfl (lv_at hl 1 rfl) ?_
  refine lv_istore_n (lv' := [(3, .int x), (0, .ref (me 0)), (1, .int x), (2, .int (vz_b asc))]) hx hb dX2_widened_1 rfl hl (by decide) rfl (fun ls hl => ?_)
  refine lv_iconst (v := nI 0) hx hb dX2_widened_2 (by decide) ?_
  refine lv_istore (lv' := [(4, .int (nI 0)), (3, .int x), (0, .ref (me 0)), (1, .int x), (2, .int (vz_b asc))]) hx hb dX2_widened_3 hl (by decide) rfl (fun ls hl => ?_)
  have lp1 : ∀ (dz : Nat) (i : Nat) (y : Int32) (ls : Array Slot), (n - i) < dz → (i ≤ n) → (y = mwd n (mtch n mk) asc i x) → lv_has ls 7 [(0, .ref (me 0)), (1, .int x), (2, .int (vz_b asc)), (3, .int y), (4, .int (nI i))] → W pz l ez (vz_R 2 45) sz mz args below meth cz sz.heap [] 0 0 Q (F0 mz 5 ls []) := by
    intro dz
    induction dz with
    | zero => intro i y ls hd h1 h2 hl; exact absurd hd (Nat.not_lt_zero _)
    | succ dz ih1 =>
      intro i y ls hd h1 h2 hl
      refine lv_iload hx hb dX2_widened_5 (lv_at hl 4 rfl) ?_
      refine lv_aload_n hx hb dX2_widened_7 rfl (lv_at hl 0 rfl) ?_
      refine va_get (D := D) (ci := 2) (v := .int (nI n)) (C := RX2) (T := TX2) (N := 4) hx hb hts hi0 hown hK hP 0 rfl rfl 3 (by decide) hf19 (fun _ h9 => h9) rfl dX2_widened_8 ?_
      refine vz_cge (tgt := 62) hx hb dX2_widened_11 (by decide) (by omega) (by omega) (fun c_11 => ?_) (fun c_11 => ?_)
      · skip
        obtain rfl : n = i := by omega
        refine lv_iload_n hx hb dX2_widened_62 rfl (lv_at hl 3 rfl) ?_
        exact vz_iret hx hb hr hlocks hQ (vp_nar_int _) dX2_widened_63 h2
      · skip
        refine lv_iload_n hx hb dX2_widened_14 rfl (lv_at hl 2 rfl) ?_
        refine vz_ifeqB (tgt := 23) hx hb dX2_widened_15 (by decide) (fun c_15 => ?_) (fun c_15 => ?_)
        · skip
          refine lv_aload_n hx hb dX2_widened_23 rfl (lv_at hl 0 rfl) ?_
          refine va_get (D := D) (ci := 2) (v := .int (nI n)) (C := RX2) (T := TX2) (N := 4) hx hb hts hi0 hown hK hP 0 rfl rfl 3 (by decide) hf19 (fun _ h9 => h9) rfl dX2_widened_24 ?_
          refine lv_iconst (v := nI 1) hx hb dX2_widened_27 (by decide) ?_
          refine vz_sub hx hb dX2_widened_28 (by omega) ?_
          refine lv_iload hx hb dX2_widened_29 (lv_at hl 4 rfl) ?_
          refine vz_sub hx hb dX2_widened_31 (by omega) ?_
          refine lv_istore (lv' := [(5, .int (nI ((n - 1) - i))), (0, .ref (me 0)), (1, .int x), (2, .int (vz_b asc)), (3, .int y), (4, .int (nI i))]) hx hb dX2_widened_32 hl (by decide) rfl (fun ls hl => ?_)
          refine lv_iload_n hx hb dX2_widened_34 rfl (lv_at hl 4 rfl) ?_
          refine lv_iconst (v := nI 3) hx hb dX2_widened_35 (by decide) ?_
          refine lv_iconst (v := nI 2) hx hb dX2_widened_36 (by decide) ?_
          refine lv_iload hx hb dX2_widened_37 (lv_at hl 0 rfl) ?_
          refine vz_mul hx hb dX2_widened_39 ?_
          refine lv_ishl hx hb dX2_widened_40 ?_
          refine lv_ior hx hb dX2_widened_41 ?_
          refine lv_istore (lv' := [(6, .int (y ||| ((nI 3) <<< ((nI (2 * ((n - 1) - i))) &&& 31)))), (5, .int (nI ((n - 1) - i))), (0, .ref (me 0)), (1, .int x), (2, .int (vz_b asc)), (3, .int y), (4, .int (nI i))]) hx hb dX2_widened_42 hl (by decide) rfl (fun ls hl => ?_)
          refine lv_aload_n hx hb dX2_widened_44 rfl (lv_at hl 2 rfl) ?_
          refine lv_iload hx hb dX2_widened_45 (lv_at hl 0 rfl) ?_
          refine vz_callV (n := 1) (As := [.int (y ||| ((nI 3) <<< ((nI (2 * ((n - 1) - i))) &&& 31)))]) (rest := []) (q0 := 0) hcf (c_X2_touches l D kA me n g mk ss hn (y ||| ((nI 3) <<< ((nI (2 * ((n - 1) - i))) &&& 31)))) gX2_widened_X2_touches rfl hd_X2_touches ⟨Nat.le_of_ble_eq_true rfl, Nat.le_of_ble_eq_true rfl⟩ hK (hP.sub [0, 1, 2, 3] rfl) rfl rfl rfl rfl hl.1 rfl (Nat.le_of_ble_eq_true rfl) ⟨Nat.zero_le _, Nat.zero_le _⟩ dX2_widened_47 ?_
          refine vz_ifneB (tgt := 56) hx hb dX2_widened_50 (by decide) (fun c_50 => ?_) (fun c_50 => ?_)
          · skip
            refine lv_iinc (v := (nI (i + 1))) (lv' := [(4, .int (nI (i + 1))), (6, .int (y ||| ((nI 3) <<< ((nI (2 * ((n - 1) - i))) &&& 31)))), (5, .int (nI ((n - 1) - i))), (0, .ref (me 0)), (1, .int x), (2, .int (vz_b asc)), (3, .int y)]) hx hb dX2_widened_56 hl (k := 6) rfl (nI_1 _) (by decide) rfl (fun ls hl => ?_)
            refine lv_goto (tgt := 5) hx hb dX2_widened_59 (by decide) ?_
            exact ih1 (i + 1) y _ (by omega) (by omega) (by rw [mwd, ← h2, show zord n asc i = ((n - 1) - i) by simp [zord, c_15], if_pos (show mtch n mk (zfr y ((n - 1) - i)) = true from c_50)]) (lv_sub hl [3, 4, 5, 6, 0] rfl)
          · skip
            refine lv_iload hx hb dX2_widened_53 (lv_at hl 0 rfl) ?_
            refine lv_istore_n (lv' := [(3, .int (y ||| ((nI 3) <<< ((nI (2 * ((n - 1) - i))) &&& 31)))), (6, .int (y ||| ((nI 3) <<< ((nI (2 * ((n - 1) - i))) &&& 31)))), (5, .int (nI ((n - 1) - i))), (0, .ref (me 0)), (1, .int x), (2, .int (vz_b asc)), (4, .int (nI i))]) hx hb dX2_widened_55 rfl hl (by decide) rfl (fun ls hl => ?_)
            refine lv_iinc (v := (nI (i + 1))) (lv' := [(4, .int (nI (i + 1))), (3, .int (y ||| ((nI 3) <<< ((nI (2 * ((n - 1) - i))) &&& 31)))), (6, .int (y ||| ((nI 3) <<< ((nI (2 * ((n - 1) - i))) &&& 31)))), (5, .int (nI ((n - 1) - i))), (0, .ref (me 0)), (1, .int x), (2, .int (vz_b asc))]) hx hb dX2_widened_56 hl (k := 6) rfl (nI_1 _) (by decide) rfl (fun ls hl => ?_)
            refine lv_goto (tgt := 5) hx hb dX2_widened_59 (by decide) ?_
            exact ih1 (i + 1) (y ||| ((nI 3) <<< ((nI (2 * ((n - 1) - i))) &&& 31))) _ (by omega) (by omega) (by rw [mwd, ← h2, show zord n asc i = ((n - 1) - i) by simp [zord, c_15], if_neg (by rw [show mtch n mk (zfr y ((n - 1) - i)) = false from c_50]; decide)]; rfl) (lv_sub hl [4, 5, 6, 1, 0] rfl)
        · skip
          refine lv_iload hx hb dX2_widened_18 (lv_at hl 4 rfl) ?_
          refine lv_goto (tgt := 32) hx hb dX2_widened_20 (by decide) ?_
          refine lv_istore (lv' := [(5, .int (nI i)), (0, .ref (me 0)), (1, .int x), (2, .int (vz_b asc)), (3, .int y), (4, .int (nI i))]) hx hb dX2_widened_32 hl (by decide) rfl (fun ls hl => ?_)
          refine lv_iload_n hx hb dX2_widened_34 rfl (lv_at hl 4 rfl) ?_
          refine lv_iconst (v := nI 3) hx hb dX2_widened_35 (by decide) ?_
          refine lv_iconst (v := nI 2) hx hb dX2_widened_36 (by decide) ?_
          refine lv_iload hx hb dX2_widened_37 (lv_at hl 0 rfl) ?_
          refine vz_mul hx hb dX2_widened_39 ?_
          refine lv_ishl hx hb dX2_widened_40 ?_
          refine lv_ior hx hb dX2_widened_41 ?_
          refine lv_istore (lv' := [(6, .int (y ||| ((nI 3) <<< ((nI (2 * i)) &&& 31)))), (5, .int (nI i)), (0, .ref (me 0)), (1, .int x), (2, .int (vz_b asc)), (3, .int y), (4, .int (nI i))]) hx hb dX2_widened_42 hl (by decide) rfl (fun ls hl => ?_)
          refine lv_aload_n hx hb dX2_widened_44 rfl (lv_at hl 2 rfl) ?_
          refine lv_iload hx hb dX2_widened_45 (lv_at hl 0 rfl) ?_
          refine vz_callV (n := 1) (As := [.int (y ||| ((nI 3) <<< ((nI (2 * i)) &&& 31)))]) (rest := []) (q0 := 0) hcf (c_X2_touches l D kA me n g mk ss hn (y ||| ((nI 3) <<< ((nI (2 * i)) &&& 31)))) gX2_widened_X2_touches rfl hd_X2_touches ⟨Nat.le_of_ble_eq_true rfl, Nat.le_of_ble_eq_true rfl⟩ hK (hP.sub [0, 1, 2, 3] rfl) rfl rfl rfl rfl hl.1 rfl (Nat.le_of_ble_eq_true rfl) ⟨Nat.zero_le _, Nat.zero_le _⟩ dX2_widened_47 ?_
          refine vz_ifneB (tgt := 56) hx hb dX2_widened_50 (by decide) (fun c_50 => ?_) (fun c_50 => ?_)
          · skip
            refine lv_iinc (v := (nI (i + 1))) (lv' := [(4, .int (nI (i + 1))), (6, .int (y ||| ((nI 3) <<< ((nI (2 * i)) &&& 31)))), (5, .int (nI i)), (0, .ref (me 0)), (1, .int x), (2, .int (vz_b asc)), (3, .int y)]) hx hb dX2_widened_56 hl (k := 6) rfl (nI_1 _) (by decide) rfl (fun ls hl => ?_)
            refine lv_goto (tgt := 5) hx hb dX2_widened_59 (by decide) ?_
            exact ih1 (i + 1) y _ (by omega) (by omega) (by rw [mwd, ← h2, show zord n asc i = i by simp [zord, c_15], if_pos (show mtch n mk (zfr y i) = true from c_50)]) (lv_sub hl [3, 4, 5, 6, 0] rfl)
          · skip
            refine lv_iload hx hb dX2_widened_53 (lv_at hl 0 rfl) ?_
            refine lv_istore_n (lv' := [(3, .int (y ||| ((nI 3) <<< ((nI (2 * i)) &&& 31)))), (6, .int (y ||| ((nI 3) <<< ((nI (2 * i)) &&& 31)))), (5, .int (nI i)), (0, .ref (me 0)), (1, .int x), (2, .int (vz_b asc)), (4, .int (nI i))]) hx hb dX2_widened_55 rfl hl (by decide) rfl (fun ls hl => ?_)
            refine lv_iinc (v := (nI (i + 1))) (lv' := [(4, .int (nI (i + 1))), (3, .int (y ||| ((nI 3) <<< ((nI (2 * i)) &&& 31)))), (6, .int (y ||| ((nI 3) <<< ((nI (2 * i)) &&& 31)))), (5, .int (nI i)), (0, .ref (me 0)), (1, .int x), (2, .int (vz_b asc))]) hx hb dX2_widened_56 hl (k := 6) rfl (nI_1 _) (by decide) rfl (fun ls hl => ?_)
            refine lv_goto (tgt := 5) hx hb dX2_widened_59 (by decide) ?_
            exact ih1 (i + 1) (y ||| ((nI 3) <<< ((nI (2 * i)) &&& 31))) _ (by omega) (by omega) (by rw [mwd, ← h2, show zord n asc i = i by simp [zord, c_15], if_neg (by rw [show mtch n mk (zfr y i) = false from c_50]; decide)]; rfl) (lv_sub hl [4, 5, 6, 1, 0] rfl)
  exact lp1 _ 0 x _ (Nat.lt_succ_self _) (by omega) rfl (lv_sub hl [2, 3, 4, 1, 0] rfl)
set_option maxHeartbeats 4000000 in
set_option maxRecDepth 100000 in
theorem c_X2_add (l : Launch) (D : va_G) (kA : ClassId) (me : Nat → Nat) (n : Nat) (g mk : Nat → Int32) (ss : Nat → Nat) (hn : n ≤ 8) (L : Nat) (x : Int32) (hL2 : L < 2) (hsl : ss L < 24) (hqc : (!decide (x < 0) && !decide (nI (4 ^ n) ≤ x)) = true) (t0 t1 : Nat) (q0 q1 : Nat → Int32) (ht0 : va_up (va_up ss L (ss L + 1)) 2 0 0 = t0) (ht1 : va_up (va_up ss L (ss L + 1)) 2 0 1 = t1) (hb0 : t0 ≤ 24) (hb1 : t1 ≤ 24) (hq0 : ∀ j, j < 24 → upd g (24 * L + ss L) x (24 * 0 + j) = q0 j) (hq1 : ∀ j, j < 24 → upd g (24 * L + ss L) x (24 * 1 + j) = q1 j) : vz_MM l yX2_add wsX2_add 3 67 [.ref (me 0), .int (nI L), .int x] D kA [(me 0, .inr (2, [.ref (me 1), .ref (me 2), .ref (me 3), .int (nI n)])), (me 1, .inl (kA, 96, .inl g)), (me 2, .inl (kA, 4, .inl (fun j => nI (ss j)))), (me 3, .inl (kA, 256, .inl mk))] (some (.int (nI 1))) [(me 0, .inr (2, [.ref (me 1), .ref (me 2), .ref (me 3), .int (nI n)])), (me 1, .inl (kA, 96, .inl (upd g (24 * L + ss L) x))), (me 2, .inl (kA, 4, .inl (fun j => nI ((va_up (va_up ss L (ss L + 1)) 2 0) j)))), (me 3, .inl (kA, 256, .inl (zcp (zN n) (zMk n t0 q0 t1 q1) mk)))] := by
  refine vz_startM (cc := cX2_add) (maxL := 3) (ret := (some .boolean)) (own := RX2) (by decide) rfl rfl (Nat.le_of_ble_eq_true rfl) ?_
  intro pz ez sz mz below meth cz args Q ls H locs Az hargs hx hb hml hown hts hr hlocks hP hK hD hS hAe hQ hl
  have hcf : CallFix pz mz cz cX2_add 3 sz args wsX2_add RX2 := ⟨hx, hb, hml, hown, hts⟩
  have hi0 : ∀ w ∈ u_ws RX2 TX2 4, w ∈ wsX2_add := by decide +kernel
  have hf7 : (Cond.fieldLink RX2 7 "CubeMinModel" "cubes" "[I").before args sz = true := hts _ (by decide +kernel)
  have hf13 : (Cond.fieldLink RX2 13 "CubeMinModel" "sizes" "[I").before args sz = true := hts _ (by decide +kernel)
  have hl : lv_has ls 3 [(0, .ref (me 0)), (1, .int (nI L)), (2, .int x)] := hl
  refine lv_aload_n hx hb dX2_add_0 rfl (lv_at hl 0 rfl) ?_
  refine lv_iload_n hx hb dX2_add_1 rfl (lv_at hl 2 rfl) ?_
  refine vz_callV (n := 1) (As := [.int x]) (rest := []) (q0 := 0) hcf (c_X2_isCube l D kA me n g mk ss hn x) gX2_add_X2_isCube rfl hd_X2_isCube ⟨Nat.le_of_ble_eq_true rfl, Nat.le_of_ble_eq_true rfl⟩ hK (hP.sub [0, 1, 2, 3] rfl) rfl rfl rfl rfl hl.1 rfl (Nat.le_of_ble_eq_true rfl) ⟨Nat.zero_le _, Nat.zero_le _⟩ dX2_add_2 ?_
  refine vz_ifeqB (tgt := 19) hx hb dX2_add_5 (by decide) (fun c_5 => absurd c_5 (by rw [hqc]; decide)) (fun c_5 => ?_)
  refine lv_aload_n hx hb dX2_add_8 rfl (lv_at hl 0 rfl) ?_
  refine va_get (D := D) (ci := 2) (v := .ref (me 2)) (C := RX2) (T := TX2) (N := 4) hx hb hts hi0 hown hK hP 0 rfl rfl 1 (by decide) hf13 (fun _ h9 => h9) rfl dX2_add_9 ?_
  refine lv_iload_n hx hb dX2_add_12 rfl (lv_at hl 1 rfl) ?_
  refine vz_ald hx hb hK hP 2 rfl (by omega) (Nat.le_of_ble_eq_true rfl) dX2_add_13 ?_
  refine lv_bipush (v := nI 24) hx hb dX2_add_14 (by decide) ?_
  refine vz_cne (tgt := 21) hx hb dX2_add_16 (by decide) (by omega) (by omega) (fun c_16 => ?_) (fun c_16 => absurd c_16 (by omega))
  refine lv_aload_n hx hb dX2_add_21 rfl (lv_at hl 0 rfl) ?_
  refine va_get (D := D) (ci := 2) (v := .ref (me 1)) (C := RX2) (T := TX2) (N := 4) hx hb hts hi0 hown hK hP 0 rfl rfl 0 (by decide) hf7 (fun _ h9 => h9) rfl dX2_add_22 ?_
  refine lv_bipush (v := nI 24) hx hb dX2_add_25 (by decide) ?_
  refine lv_iload_n hx hb dX2_add_27 rfl (lv_at hl 1 rfl) ?_
  refine vz_mul hx hb dX2_add_28 ?_
  refine lv_aload_n hx hb dX2_add_29 rfl (lv_at hl 0 rfl) ?_
  refine va_get (D := D) (ci := 2) (v := .ref (me 2)) (C := RX2) (T := TX2) (N := 4) hx hb hts hi0 hown hK hP 0 rfl rfl 1 (by decide) hf13 (fun _ h9 => h9) rfl dX2_add_30 ?_
  refine lv_iload_n hx hb dX2_add_33 rfl (lv_at hl 1 rfl) ?_
  refine vz_ald hx hb hK hP 2 rfl (by omega) (Nat.le_of_ble_eq_true rfl) dX2_add_34 ?_
  refine vz_add hx hb dX2_add_35 ?_
  refine lv_iload_n hx hb dX2_add_36 rfl (lv_at hl 2 rfl) ?_
  refine vz_ast hx hb hK hP hD hS 1 rfl (by omega) (Nat.le_of_ble_eq_true rfl) dX2_add_37 (fun H locs hP hD hS => ?_)
  have hP : va_P D vwCl [(me 0, .inr (2, [.ref (me 1), .ref (me 2), .ref (me 3), .int (nI n)])), (me 1, .inl (kA, 96, .inl (upd g ((24 * L) + (ss L)) x))), (me 2, .inl (kA, 4, .inl (fun j => nI (ss j)))), (me 3, .inl (kA, 256, .inl mk))] H := hP
  have hD : va_D Az [(me 0, .inr (2, [.ref (me 1), .ref (me 2), .ref (me 3), .int (nI n)])), (me 1, .inl (kA, 96, .inl (upd g ((24 * L) + (ss L)) x))), (me 2, .inl (kA, 4, .inl (fun j => nI (ss j)))), (me 3, .inl (kA, 256, .inl mk))] := hD
  refine lv_aload_n hx hb dX2_add_38 rfl (lv_at hl 0 rfl) ?_
  refine va_get (D := D) (ci := 2) (v := .ref (me 2)) (C := RX2) (T := TX2) (N := 4) hx hb hts hi0 hown hK hP 0 rfl rfl 1 (by decide) hf13 (fun _ h9 => h9) rfl dX2_add_39 ?_
  refine lv_iload_n hx hb dX2_add_42 rfl (lv_at hl 1 rfl) ?_
  refine lv_dup2_11 hx hb dX2_add_43 rfl rfl ?_
  refine vz_ald hx hb hK hP 2 rfl (by omega) (Nat.le_of_ble_eq_true rfl) dX2_add_44 ?_
  refine lv_iconst (v := nI 1) hx hb dX2_add_45 (by decide) ?_
  refine vz_add hx hb dX2_add_46 ?_
  refine vz_ast hx hb hK hP hD hS 2 rfl (by omega) (Nat.le_of_ble_eq_true rfl) dX2_add_47 (fun H locs hP hD hS => ?_)
  have hP : va_P D vwCl [(me 0, .inr (2, [.ref (me 1), .ref (me 2), .ref (me 3), .int (nI n)])), (me 1, .inl (kA, 96, .inl (upd g ((24 * L) + (ss L)) x))), (me 2, .inl (kA, 4, .inl (upd (fun j => nI (ss j)) L (nI ((ss L) + 1))))), (me 3, .inl (kA, 256, .inl mk))] H := hP
  have hD : va_D Az [(me 0, .inr (2, [.ref (me 1), .ref (me 2), .ref (me 3), .int (nI n)])), (me 1, .inl (kA, 96, .inl (upd g ((24 * L) + (ss L)) x))), (me 2, .inl (kA, 4, .inl (upd (fun j => nI (ss j)) L (nI ((ss L) + 1))))), (me 3, .inl (kA, 256, .inl mk))] := hD
  rw [show upd (fun j => nI (ss j)) L (nI ((ss L) + 1)) = (fun j => nI ((va_up ss L (ss L + 1)) j)) from zsu] at hP
  have hD : va_D Az [(me 0, .inr (2, [.ref (me 1), .ref (me 2), .ref (me 3), .int (nI n)])), (me 1, .inl (kA, 96, .inl (upd g ((24 * L) + (ss L)) x))), (me 2, .inl (kA, 4, .inl (fun j => nI ((va_up ss L (ss L + 1)) j)))), (me 3, .inl (kA, 256, .inl mk))] := vz_D hD rfl
  refine lv_aload_n hx hb dX2_add_48 rfl (lv_at hl 0 rfl) ?_
  refine va_get (D := D) (ci := 2) (v := .ref (me 2)) (C := RX2) (T := TX2) (N := 4) hx hb hts hi0 hown hK hP 0 rfl rfl 1 (by decide) hf13 (fun _ h9 => h9) rfl dX2_add_49 ?_
  refine lv_iconst (v := nI 2) hx hb dX2_add_52 (by decide) ?_
  refine lv_iconst (v := nI 0) hx hb dX2_add_53 (by decide) ?_
  refine vz_ast hx hb hK hP hD hS 2 rfl (by omega) (Nat.le_of_ble_eq_true rfl) dX2_add_54 (fun H locs hP hD hS => ?_)
  have hP : va_P D vwCl [(me 0, .inr (2, [.ref (me 1), .ref (me 2), .ref (me 3), .int (nI n)])), (me 1, .inl (kA, 96, .inl (upd g ((24 * L) + (ss L)) x))), (me 2, .inl (kA, 4, .inl (upd (fun j => nI ((va_up ss L (ss L + 1)) j)) 2 (nI 0)))), (me 3, .inl (kA, 256, .inl mk))] H := hP
  have hD : va_D Az [(me 0, .inr (2, [.ref (me 1), .ref (me 2), .ref (me 3), .int (nI n)])), (me 1, .inl (kA, 96, .inl (upd g ((24 * L) + (ss L)) x))), (me 2, .inl (kA, 4, .inl (upd (fun j => nI ((va_up ss L (ss L + 1)) j)) 2 (nI 0)))), (me 3, .inl (kA, 256, .inl mk))] := hD
  rw [show upd (fun j => nI ((va_up ss L (ss L + 1)) j)) 2 (nI 0) = (fun j => nI ((va_up (va_up ss L (ss L + 1)) 2 0) j)) from zsu] at hP
  have hD : va_D Az [(me 0, .inr (2, [.ref (me 1), .ref (me 2), .ref (me 3), .int (nI n)])), (me 1, .inl (kA, 96, .inl (upd g ((24 * L) + (ss L)) x))), (me 2, .inl (kA, 4, .inl (fun j => nI ((va_up (va_up ss L (ss L + 1)) 2 0) j)))), (me 3, .inl (kA, 256, .inl mk))] := vz_D hD rfl
  refine lv_aload_n hx hb dX2_add_55 rfl (lv_at hl 0 rfl) ?_
  refine vz_callM (n := 0) (As := []) (rest := []) (q0 := 0) hcf (c_X2_sort l D kA me n (upd g (24 * L + ss L) x) mk (va_up (va_up ss L (ss L + 1)) 2 0) hn t0 t1 q0 q1 ht0 ht1 hb0 hb1 hq0 hq1) gX2_add_X2_sort rfl hd_X2_sort ⟨Nat.le_of_ble_eq_true rfl, Nat.le_of_ble_eq_true rfl⟩ hK hP hD hS [0, 1, 2, 3] (by decide) rfl rfl rfl rfl rfl rfl rfl hl.1 rfl (Nat.le_of_ble_eq_true rfl) ⟨Nat.zero_le _, Nat.zero_le _⟩ dX2_add_56 (fun H locs hP hD hS => ?_)
  have hP : va_P D vwCl [(me 0, .inr (2, [.ref (me 1), .ref (me 2), .ref (me 3), .int (nI n)])), (me 1, .inl (kA, 96, .inl (upd g (24 * L + ss L) x))), (me 2, .inl (kA, 4, .inl (fun j => nI ((va_up (va_up ss L (ss L + 1)) 2 0) j)))), (me 3, .inl (kA, 256, .inl (zcp (zN n) (zMk n t0 q0 t1 q1) mk)))] H := hP
  have hD : va_D Az [(me 0, .inr (2, [.ref (me 1), .ref (me 2), .ref (me 3), .int (nI n)])), (me 1, .inl (kA, 96, .inl (upd g (24 * L + ss L) x))), (me 2, .inl (kA, 4, .inl (fun j => nI ((va_up (va_up ss L (ss L + 1)) 2 0) j)))), (me 3, .inl (kA, 256, .inl (zcp (zN n) (zMk n t0 q0 t1 q1) mk)))] := hD
  refine lv_iconst (v := nI 1) hx hb dX2_add_59 (by decide) ?_
  exact vz_iretM hx hb hr hlocks hQ hAe (rfl) dX2_add_60 rfl hS hP rfl
set_option maxHeartbeats 4000000 in
set_option maxRecDepth 100000 in
theorem c_X2_add_no (l : Launch) (D : va_G) (kA : ClassId) (me : Nat → Nat) (n : Nat) (g mk : Nat → Int32) (ss : Nat → Nat) (hn : n ≤ 8) (L : Nat) (x : Int32) (hL2 : L < 2) (hs24 : ss L ≤ 24) (hqc : (!decide (x < 0) && !decide (nI (4 ^ n) ≤ x)) = false ∨ ss L = 24) : vz_M l yX2_add wsX2_add 1 21 [.ref (me 0), .int (nI L), .int x] D kA [(me 0, .inr (2, [.ref (me 1), .ref (me 2), .ref (me 3), .int (nI n)])), (me 1, .inl (kA, 96, .inl g)), (me 2, .inl (kA, 4, .inl (fun j => nI (ss j)))), (me 3, .inl (kA, 256, .inl mk))] (some (.int (nI 0))) := by
  refine vz_start (cc := cX2_add) (maxL := 3) (ret := (some .boolean)) (own := RX2) (by decide) rfl rfl (Nat.le_of_ble_eq_true rfl) ?_
  intro pz ez sz mz below meth cz args Q ls hargs hx hb hml hown hts hr hlocks hP hK hQ hl
  have hcf : CallFix pz mz cz cX2_add 3 sz args wsX2_add RX2 := ⟨hx, hb, hml, hown, hts⟩
  have hi0 : ∀ w ∈ u_ws RX2 TX2 4, w ∈ wsX2_add := by decide +kernel
  have hf7 : (Cond.fieldLink RX2 7 "CubeMinModel" "cubes" "[I").before args sz = true := hts _ (by decide +kernel)
  have hf13 : (Cond.fieldLink RX2 13 "CubeMinModel" "sizes" "[I").before args sz = true := hts _ (by decide +kernel)
  have hl : lv_has ls 3 [(0, .ref (me 0)), (1, .int (nI L)), (2, .int x)] := hl
  refine lv_aload_n hx hb dX2_add_0 rfl (lv_at hl 0 rfl) ?_
  refine lv_iload_n hx hb dX2_add_1 rfl (lv_at hl 2 rfl) ?_
  refine vz_callV (n := 1) (As := [.int x]) (rest := []) (q0 := 0) hcf (c_X2_isCube l D kA me n g mk ss hn x) gX2_add_X2_isCube rfl hd_X2_isCube ⟨Nat.le_of_ble_eq_true rfl, Nat.le_of_ble_eq_true rfl⟩ hK (hP.sub [0, 1, 2, 3] rfl) rfl rfl rfl rfl hl.1 rfl (Nat.le_of_ble_eq_true rfl) ⟨Nat.zero_le _, Nat.zero_le _⟩ dX2_add_2 ?_
  refine vz_ifeqB (tgt := 19) hx hb dX2_add_5 (by decide) (fun c_5 => ?_) (fun c_5 => ?_)
  · skip
    refine lv_iconst (v := nI 0) hx hb dX2_add_19 (by decide) ?_
    exact vz_iret hx hb hr hlocks hQ (rfl) dX2_add_20 rfl
  · skip
    have hcl : ss L = 24 := by rcases hqc with h | h; exact absurd (h.symm.trans c_5) (by decide); exact h
    refine lv_aload_n hx hb dX2_add_8 rfl (lv_at hl 0 rfl) ?_
    refine va_get (D := D) (ci := 2) (v := .ref (me 2)) (C := RX2) (T := TX2) (N := 4) hx hb hts hi0 hown hK hP 0 rfl rfl 1 (by decide) hf13 (fun _ h9 => h9) rfl dX2_add_9 ?_
    refine lv_iload_n hx hb dX2_add_12 rfl (lv_at hl 1 rfl) ?_
    refine vz_ald hx hb hK hP 2 rfl (by omega) (Nat.le_of_ble_eq_true rfl) dX2_add_13 ?_
    refine lv_bipush (v := nI 24) hx hb dX2_add_14 (by decide) ?_
    refine vz_cne (tgt := 21) hx hb dX2_add_16 (by decide) (by omega) (by omega) (fun c_16 => absurd c_16 (fun h => h hcl)) (fun c_16 => ?_)
    refine lv_iconst (v := nI 0) hx hb dX2_add_19 (by decide) ?_
    exact vz_iret hx hb hr hlocks hQ (rfl) dX2_add_20 rfl
set_option maxHeartbeats 4000000 in
set_option maxRecDepth 100000 in
theorem c_X2_on (l : Launch) (D : va_G) (kA : ClassId) (me : Nat → Nat) (n : Nat) (g mk : Nat → Int32) (ss : Nat → Nat) (hn : n ≤ 8) (x : Int32) (hsl : ss 0 < 24) (hqc : (!decide (x < 0) && !decide (nI (4 ^ n) ≤ x)) = true) (t0 t1 : Nat) (q0 q1 : Nat → Int32) (ht0 : va_up (va_up ss 0 (ss 0 + 1)) 2 0 0 = t0) (ht1 : va_up (va_up ss 0 (ss 0 + 1)) 2 0 1 = t1) (hb0 : t0 ≤ 24) (hb1 : t1 ≤ 24) (hq0 : ∀ j, j < 24 → upd g (24 * 0 + ss 0) x (24 * 0 + j) = q0 j) (hq1 : ∀ j, j < 24 → upd g (24 * 0 + ss 0) x (24 * 1 + j) = q1 j) : vz_MM l yX2_on wsX2_on 4 89 [.ref (me 0), .int x] D kA [(me 0, .inr (2, [.ref (me 1), .ref (me 2), .ref (me 3), .int (nI n)])), (me 1, .inl (kA, 96, .inl g)), (me 2, .inl (kA, 4, .inl (fun j => nI (ss j)))), (me 3, .inl (kA, 256, .inl mk))] (some (.int (nI 1))) [(me 0, .inr (2, [.ref (me 1), .ref (me 2), .ref (me 3), .int (nI n)])), (me 1, .inl (kA, 96, .inl (upd g (24 * 0 + ss 0) x))), (me 2, .inl (kA, 4, .inl (fun j => nI ((va_up (va_up ss 0 (ss 0 + 1)) 2 0) j)))), (me 3, .inl (kA, 256, .inl (zcp (zN n) (zMk n t0 q0 t1 q1) mk)))] := by
  refine vz_startM (cc := cX2_on) (maxL := 2) (ret := (some .boolean)) (own := RX2) (by decide) rfl rfl (Nat.le_of_ble_eq_true rfl) ?_
  intro pz ez sz mz below meth cz args Q ls H locs Az hargs hx hb hml hown hts hr hlocks hP hK hD hS hAe hQ hl
  have hcf : CallFix pz mz cz cX2_on 2 sz args wsX2_on RX2 := ⟨hx, hb, hml, hown, hts⟩
  have hl : lv_has ls 2 [(0, .ref (me 0)), (1, .int x)] := hl
  refine lv_aload_n hx hb dX2_on_0 rfl (lv_at hl 0 rfl) ?_
  refine lv_iconst (v := nI 0) hx hb dX2_on_1 (by decide) ?_
  refine lv_iload_n hx hb dX2_on_2 rfl (lv_at hl 1 rfl) ?_
  refine vz_callM (n := 2) (As := [.int (nI 0), .int x]) (rest := []) (q0 := 0) hcf (c_X2_add l D kA me n g mk ss hn 0 x (by decide) hsl hqc t0 t1 q0 q1 ht0 ht1 hb0 hb1 hq0 hq1) gX2_on_X2_add rfl hd_X2_add ⟨Nat.le_of_ble_eq_true rfl, Nat.le_of_ble_eq_true rfl⟩ hK hP hD hS [0, 1, 2, 3] (by decide) rfl rfl rfl rfl rfl rfl rfl hl.1 rfl (Nat.le_of_ble_eq_true rfl) ⟨Nat.zero_le _, Nat.zero_le _⟩ dX2_on_3 (fun H locs hP hD hS => ?_)
  have hP : va_P D vwCl [(me 0, .inr (2, [.ref (me 1), .ref (me 2), .ref (me 3), .int (nI n)])), (me 1, .inl (kA, 96, .inl (upd g (24 * 0 + ss 0) x))), (me 2, .inl (kA, 4, .inl (fun j => nI ((va_up (va_up ss 0 (ss 0 + 1)) 2 0) j)))), (me 3, .inl (kA, 256, .inl (zcp (zN n) (zMk n t0 q0 t1 q1) mk)))] H := hP
  have hD : va_D Az [(me 0, .inr (2, [.ref (me 1), .ref (me 2), .ref (me 3), .int (nI n)])), (me 1, .inl (kA, 96, .inl (upd g (24 * 0 + ss 0) x))), (me 2, .inl (kA, 4, .inl (fun j => nI ((va_up (va_up ss 0 (ss 0 + 1)) 2 0) j)))), (me 3, .inl (kA, 256, .inl (zcp (zN n) (zMk n t0 q0 t1 q1) mk)))] := hD
  exact vz_iretM hx hb hr hlocks hQ hAe (rfl) dX2_on_6 rfl hS hP rfl
set_option maxHeartbeats 4000000 in
set_option maxRecDepth 100000 in
theorem c_X2_on_no (l : Launch) (D : va_G) (kA : ClassId) (me : Nat → Nat) (n : Nat) (g mk : Nat → Int32) (ss : Nat → Nat) (hn : n ≤ 8) (x : Int32) (hs24 : ss 0 ≤ 24) (hqc : (!decide (x < 0) && !decide (nI (4 ^ n) ≤ x)) = false ∨ ss 0 = 24) : vz_M l yX2_on wsX2_on 2 43 [.ref (me 0), .int x] D kA [(me 0, .inr (2, [.ref (me 1), .ref (me 2), .ref (me 3), .int (nI n)])), (me 1, .inl (kA, 96, .inl g)), (me 2, .inl (kA, 4, .inl (fun j => nI (ss j)))), (me 3, .inl (kA, 256, .inl mk))] (some (.int (nI 0))) := by
  refine vz_start (cc := cX2_on) (maxL := 2) (ret := (some .boolean)) (own := RX2) (by decide) rfl rfl (Nat.le_of_ble_eq_true rfl) ?_
  intro pz ez sz mz below meth cz args Q ls hargs hx hb hml hown hts hr hlocks hP hK hQ hl
  have hcf : CallFix pz mz cz cX2_on 2 sz args wsX2_on RX2 := ⟨hx, hb, hml, hown, hts⟩
  have hl : lv_has ls 2 [(0, .ref (me 0)), (1, .int x)] := hl
  refine lv_aload_n hx hb dX2_on_0 rfl (lv_at hl 0 rfl) ?_
  refine lv_iconst (v := nI 0) hx hb dX2_on_1 (by decide) ?_
  refine lv_iload_n hx hb dX2_on_2 rfl (lv_at hl 1 rfl) ?_
  refine vz_callV (n := 2) (As := [.int (nI 0), .int x]) (rest := []) (q0 := 0) hcf (c_X2_add_no l D kA me n g mk ss hn 0 x (by decide) hs24 hqc) gX2_on_X2_add rfl hd_X2_add ⟨Nat.le_of_ble_eq_true rfl, Nat.le_of_ble_eq_true rfl⟩ hK (hP.sub [0, 1, 2, 3] rfl) rfl rfl rfl rfl hl.1 rfl (Nat.le_of_ble_eq_true rfl) ⟨Nat.zero_le _, Nat.zero_le _⟩ dX2_on_3 ?_
  exact vz_iret hx hb hr hlocks hQ (rfl) dX2_on_6 rfl
set_option maxHeartbeats 4000000 in
set_option maxRecDepth 100000 in
theorem c_X2_dc (l : Launch) (D : va_G) (kA : ClassId) (me : Nat → Nat) (n : Nat) (g mk : Nat → Int32) (ss : Nat → Nat) (hn : n ≤ 8) (x : Int32) (hsl : ss 1 < 24) (hqc : (!decide (x < 0) && !decide (nI (4 ^ n) ≤ x)) = true) (t0 t1 : Nat) (q0 q1 : Nat → Int32) (ht0 : va_up (va_up ss 1 (ss 1 + 1)) 2 0 0 = t0) (ht1 : va_up (va_up ss 1 (ss 1 + 1)) 2 0 1 = t1) (hb0 : t0 ≤ 24) (hb1 : t1 ≤ 24) (hq0 : ∀ j, j < 24 → upd g (24 * 1 + ss 1) x (24 * 0 + j) = q0 j) (hq1 : ∀ j, j < 24 → upd g (24 * 1 + ss 1) x (24 * 1 + j) = q1 j) : vz_MM l yX2_dc wsX2_dc 4 89 [.ref (me 0), .int x] D kA [(me 0, .inr (2, [.ref (me 1), .ref (me 2), .ref (me 3), .int (nI n)])), (me 1, .inl (kA, 96, .inl g)), (me 2, .inl (kA, 4, .inl (fun j => nI (ss j)))), (me 3, .inl (kA, 256, .inl mk))] (some (.int (nI 1))) [(me 0, .inr (2, [.ref (me 1), .ref (me 2), .ref (me 3), .int (nI n)])), (me 1, .inl (kA, 96, .inl (upd g (24 * 1 + ss 1) x))), (me 2, .inl (kA, 4, .inl (fun j => nI ((va_up (va_up ss 1 (ss 1 + 1)) 2 0) j)))), (me 3, .inl (kA, 256, .inl (zcp (zN n) (zMk n t0 q0 t1 q1) mk)))] := by
  refine vz_startM (cc := cX2_dc) (maxL := 2) (ret := (some .boolean)) (own := RX2) (by decide) rfl rfl (Nat.le_of_ble_eq_true rfl) ?_
  intro pz ez sz mz below meth cz args Q ls H locs Az hargs hx hb hml hown hts hr hlocks hP hK hD hS hAe hQ hl
  have hcf : CallFix pz mz cz cX2_dc 2 sz args wsX2_dc RX2 := ⟨hx, hb, hml, hown, hts⟩
  have hl : lv_has ls 2 [(0, .ref (me 0)), (1, .int x)] := hl
  refine lv_aload_n hx hb dX2_dc_0 rfl (lv_at hl 0 rfl) ?_
  refine lv_iconst (v := nI 1) hx hb dX2_dc_1 (by decide) ?_
  refine lv_iload_n hx hb dX2_dc_2 rfl (lv_at hl 1 rfl) ?_
  refine vz_callM (n := 2) (As := [.int (nI 1), .int x]) (rest := []) (q0 := 0) hcf (c_X2_add l D kA me n g mk ss hn 1 x (by decide) hsl hqc t0 t1 q0 q1 ht0 ht1 hb0 hb1 hq0 hq1) gX2_dc_X2_add rfl hd_X2_add ⟨Nat.le_of_ble_eq_true rfl, Nat.le_of_ble_eq_true rfl⟩ hK hP hD hS [0, 1, 2, 3] (by decide) rfl rfl rfl rfl rfl rfl rfl hl.1 rfl (Nat.le_of_ble_eq_true rfl) ⟨Nat.zero_le _, Nat.zero_le _⟩ dX2_dc_3 (fun H locs hP hD hS => ?_)
  have hP : va_P D vwCl [(me 0, .inr (2, [.ref (me 1), .ref (me 2), .ref (me 3), .int (nI n)])), (me 1, .inl (kA, 96, .inl (upd g (24 * 1 + ss 1) x))), (me 2, .inl (kA, 4, .inl (fun j => nI ((va_up (va_up ss 1 (ss 1 + 1)) 2 0) j)))), (me 3, .inl (kA, 256, .inl (zcp (zN n) (zMk n t0 q0 t1 q1) mk)))] H := hP
  have hD : va_D Az [(me 0, .inr (2, [.ref (me 1), .ref (me 2), .ref (me 3), .int (nI n)])), (me 1, .inl (kA, 96, .inl (upd g (24 * 1 + ss 1) x))), (me 2, .inl (kA, 4, .inl (fun j => nI ((va_up (va_up ss 1 (ss 1 + 1)) 2 0) j)))), (me 3, .inl (kA, 256, .inl (zcp (zN n) (zMk n t0 q0 t1 q1) mk)))] := hD
  exact vz_iretM hx hb hr hlocks hQ hAe (rfl) dX2_dc_6 rfl hS hP rfl
set_option maxHeartbeats 4000000 in
set_option maxRecDepth 100000 in
theorem c_X2_dc_no (l : Launch) (D : va_G) (kA : ClassId) (me : Nat → Nat) (n : Nat) (g mk : Nat → Int32) (ss : Nat → Nat) (hn : n ≤ 8) (x : Int32) (hs24 : ss 1 ≤ 24) (hqc : (!decide (x < 0) && !decide (nI (4 ^ n) ≤ x)) = false ∨ ss 1 = 24) : vz_M l yX2_dc wsX2_dc 2 43 [.ref (me 0), .int x] D kA [(me 0, .inr (2, [.ref (me 1), .ref (me 2), .ref (me 3), .int (nI n)])), (me 1, .inl (kA, 96, .inl g)), (me 2, .inl (kA, 4, .inl (fun j => nI (ss j)))), (me 3, .inl (kA, 256, .inl mk))] (some (.int (nI 0))) := by
  refine vz_start (cc := cX2_dc) (maxL := 2) (ret := (some .boolean)) (own := RX2) (by decide) rfl rfl (Nat.le_of_ble_eq_true rfl) ?_
  intro pz ez sz mz below meth cz args Q ls hargs hx hb hml hown hts hr hlocks hP hK hQ hl
  have hcf : CallFix pz mz cz cX2_dc 2 sz args wsX2_dc RX2 := ⟨hx, hb, hml, hown, hts⟩
  have hl : lv_has ls 2 [(0, .ref (me 0)), (1, .int x)] := hl
  refine lv_aload_n hx hb dX2_dc_0 rfl (lv_at hl 0 rfl) ?_
  refine lv_iconst (v := nI 1) hx hb dX2_dc_1 (by decide) ?_
  refine lv_iload_n hx hb dX2_dc_2 rfl (lv_at hl 1 rfl) ?_
  refine vz_callV (n := 2) (As := [.int (nI 1), .int x]) (rest := []) (q0 := 0) hcf (c_X2_add_no l D kA me n g mk ss hn 1 x (by decide) hs24 hqc) gX2_dc_X2_add rfl hd_X2_add ⟨Nat.le_of_ble_eq_true rfl, Nat.le_of_ble_eq_true rfl⟩ hK (hP.sub [0, 1, 2, 3] rfl) rfl rfl rfl rfl hl.1 rfl (Nat.le_of_ble_eq_true rfl) ⟨Nat.zero_le _, Nat.zero_le _⟩ dX2_dc_3 ?_
  exact vz_iret hx hb hr hlocks hQ (rfl) dX2_dc_6 rfl
set_option maxHeartbeats 4000000 in
set_option maxRecDepth 100000 in
theorem c_X2_start (l : Launch) (D : va_G) (kA : ClassId) (me : Nat → Nat) (n : Nat) (g mk : Nat → Int32) (ss : Nat → Nat) (hn : n ≤ 8) (k : Nat) (hk1 : 1 ≤ k) (hk : k ≤ 8) : vz_MM l yX2_start wsX2_start 3 67 [.ref (me 0), .int (nI k)] D kA [(me 0, .inr (2, [.ref (me 1), .ref (me 2), .ref (me 3), .int (nI n)])), (me 1, .inl (kA, 96, .inl g)), (me 2, .inl (kA, 4, .inl (fun j => nI (ss j)))), (me 3, .inl (kA, 256, .inl mk))] (some (.int (nI 1))) [(me 0, .inr (2, [.ref (me 1), .ref (me 2), .ref (me 3), .int (nI k)])), (me 1, .inl (kA, 96, .inl g)), (me 2, .inl (kA, 4, .inl (fun j => nI ((zz0 4 ss) j)))), (me 3, .inl (kA, 256, .inl (zcp (zN k) (zMk k 0 (zv g 0) 0 (zv g 1)) mk)))] := by
  refine vz_startM (cc := cX2_start) (maxL := 3) (ret := (some .boolean)) (own := RX2) (by decide) rfl rfl (Nat.le_of_ble_eq_true rfl) ?_
  intro pz ez sz mz below meth cz args Q ls H locs Az hargs hx hb hml hown hts hr hlocks hP hK hD hS hAe hQ hl
  have hcf : CallFix pz mz cz cX2_start 3 sz args wsX2_start RX2 := ⟨hx, hb, hml, hown, hts⟩
  have hi0 : ∀ w ∈ u_ws RX2 TX2 4, w ∈ wsX2_start := by decide +kernel
  have hf13 : (Cond.fieldLink RX2 13 "CubeMinModel" "sizes" "[I").before args sz = true := hts _ (by decide +kernel)
  have hf19 : (Cond.fieldLink RX2 19 "CubeMinModel" "n" "I").before args sz = true := hts _ (by decide +kernel)
  have hl : lv_has ls 3 [(0, .ref (me 0)), (1, .int (nI k))] := hl
  refine lv_iload_n hx hb dX2_start_0 rfl (lv_at hl 1 rfl) ?_
  refine lv_iconst (v := nI 1) hx hb dX2_start_1 (by decide) ?_
  refine vz_clt (tgt := 11) hx hb dX2_start_2 (by decide) (by omega) (by omega) (fun c_2 => absurd c_2 (by omega)) (fun c_2 => ?_)
  refine lv_iload_n hx hb dX2_start_5 rfl (lv_at hl 1 rfl) ?_
  refine lv_bipush (v := nI 8) hx hb dX2_start_6 (by decide) ?_
  refine vz_cle (tgt := 13) hx hb dX2_start_8 (by decide) (by omega) (by omega) (fun c_8 => ?_) (fun c_8 => absurd c_8 (by omega))
  refine lv_aload_n hx hb dX2_start_13 rfl (lv_at hl 0 rfl) ?_
  refine lv_iload_n hx hb dX2_start_14 rfl (lv_at hl 1 rfl) ?_
  refine va_put (D := D) (ci := 2) (v := .int (nI k)) (ty := .int) (C := RX2) (T := TX2) (N := 4) hx hb hts hi0 tyX2 tyX2_ok nmX2 hown hK hP hD hS 0 rfl rfl 3 (by decide) hf19 (fun _ h9 => h9) rfl (by decide +kernel) rfl rfl (Nat.le_of_ble_eq_true rfl) dX2_start_15 (fun H locs hP hD hS => ?_)
  have hP : va_P D vwCl [(me 0, .inr (2, [.ref (me 1), .ref (me 2), .ref (me 3), .int (nI k)])), (me 1, .inl (kA, 96, .inl g)), (me 2, .inl (kA, 4, .inl (fun j => nI (ss j)))), (me 3, .inl (kA, 256, .inl mk))] H := hP
  have hD : va_D Az [(me 0, .inr (2, [.ref (me 1), .ref (me 2), .ref (me 3), .int (nI k)])), (me 1, .inl (kA, 96, .inl g)), (me 2, .inl (kA, 4, .inl (fun j => nI (ss j)))), (me 3, .inl (kA, 256, .inl mk))] := hD
  refine lv_iconst (v := nI 0) hx hb dX2_start_18 (by decide) ?_
  refine lv_istore_n (lv' := [(2, .int (nI 0)), (0, .ref (me 0)), (1, .int (nI k))]) hx hb dX2_start_19 rfl hl (by decide) rfl (fun ls hl => ?_)
  have lp1 : ∀ (dz : Nat) (i : Nat) (s2 : Nat → Nat) (H : Heap) (locs : List Loc) (ls : Array Slot), (4 - i) < dz → (i ≤ 4) → (s2 = zz0 i ss) → va_P D vwCl [(me 0, .inr (2, [.ref (me 1), .ref (me 2), .ref (me 3), .int (nI k)])), (me 1, .inl (kA, 96, .inl g)), (me 2, .inl (kA, 4, .inl (fun j => nI (s2 j)))), (me 3, .inl (kA, 256, .inl mk))] H → va_D Az [(me 0, .inr (2, [.ref (me 1), .ref (me 2), .ref (me 3), .int (nI k)])), (me 1, .inl (kA, 96, .inl g)), (me 2, .inl (kA, 4, .inl (fun j => nI (s2 j)))), (me 3, .inl (kA, 256, .inl mk))] → va_S Az sz.heap H locs → lv_has ls 3 [(0, .ref (me 0)), (1, .int (nI k)), (2, .int (nI i))] → W pz l ez (vz_R 3 67) sz mz args below meth cz H locs 0 0 Q (F0 mz 20 ls []) := by
    intro dz
    induction dz with
    | zero => intro i s2 H locs ls hd h1 hs hP hD hS hl; exact absurd hd (Nat.not_lt_zero _)
    | succ dz ih1 =>
      intro i s2 H locs ls hd h1 hs hP hD hS hl
      refine lv_iload_n hx hb dX2_start_20 rfl (lv_at hl 2 rfl) ?_
      refine lv_iconst (v := nI 4) hx hb dX2_start_21 (by decide) ?_
      refine vz_cge (tgt := 38) hx hb dX2_start_22 (by decide) (by omega) (by omega) (fun c_22 => ?_) (fun c_22 => ?_)
      · skip
        obtain rfl : i = 4 := by omega
        refine lv_aload_n hx hb dX2_start_38 rfl (lv_at hl 0 rfl) ?_
        refine vz_callM (n := 0) (As := []) (rest := []) (q0 := 0) hcf (c_X2_sort l D kA me k g mk s2 hk 0 0 (zv g 0) (zv g 1) (by rw [hs]; rfl) (by rw [hs]; rfl) (by decide) (by decide) (fun _ _ => rfl) (fun _ _ => rfl)) gX2_start_X2_sort rfl hd_X2_sort ⟨Nat.le_of_ble_eq_true rfl, Nat.le_of_ble_eq_true rfl⟩ hK hP hD hS [0, 1, 2, 3] (by decide) rfl rfl rfl rfl rfl rfl rfl hl.1 rfl (Nat.le_of_ble_eq_true rfl) ⟨Nat.zero_le _, Nat.zero_le _⟩ dX2_start_39 (fun H locs hP hD hS => ?_)
        have hP : va_P D vwCl [(me 0, .inr (2, [.ref (me 1), .ref (me 2), .ref (me 3), .int (nI k)])), (me 1, .inl (kA, 96, .inl g)), (me 2, .inl (kA, 4, .inl (fun j => nI (s2 j)))), (me 3, .inl (kA, 256, .inl (zcp (zN k) (zMk k 0 (zv g 0) 0 (zv g 1)) mk)))] H := hP
        have hD : va_D Az [(me 0, .inr (2, [.ref (me 1), .ref (me 2), .ref (me 3), .int (nI k)])), (me 1, .inl (kA, 96, .inl g)), (me 2, .inl (kA, 4, .inl (fun j => nI (s2 j)))), (me 3, .inl (kA, 256, .inl (zcp (zN k) (zMk k 0 (zv g 0) 0 (zv g 1)) mk)))] := hD
        refine lv_iconst (v := nI 1) hx hb dX2_start_42 (by decide) ?_
        exact vz_iretM hx hb hr hlocks hQ hAe (rfl) dX2_start_43 rfl hS hP (by rw [hs])
      · skip
        refine lv_aload_n hx hb dX2_start_25 rfl (lv_at hl 0 rfl) ?_
        refine va_get (D := D) (ci := 2) (v := .ref (me 2)) (C := RX2) (T := TX2) (N := 4) hx hb hts hi0 hown hK hP 0 rfl rfl 1 (by decide) hf13 (fun _ h9 => h9) rfl dX2_start_26 ?_
        refine lv_iload_n hx hb dX2_start_29 rfl (lv_at hl 2 rfl) ?_
        refine lv_iconst (v := nI 0) hx hb dX2_start_30 (by decide) ?_
        refine vz_ast hx hb hK hP hD hS 2 rfl (by omega) (Nat.le_of_ble_eq_true rfl) dX2_start_31 (fun H locs hP hD hS => ?_)
        have hP : va_P D vwCl [(me 0, .inr (2, [.ref (me 1), .ref (me 2), .ref (me 3), .int (nI k)])), (me 1, .inl (kA, 96, .inl g)), (me 2, .inl (kA, 4, .inl (upd (fun j => nI (s2 j)) i (nI 0)))), (me 3, .inl (kA, 256, .inl mk))] H := hP
        have hD : va_D Az [(me 0, .inr (2, [.ref (me 1), .ref (me 2), .ref (me 3), .int (nI k)])), (me 1, .inl (kA, 96, .inl g)), (me 2, .inl (kA, 4, .inl (upd (fun j => nI (s2 j)) i (nI 0)))), (me 3, .inl (kA, 256, .inl mk))] := hD
        rw [show upd (fun j => nI (s2 j)) i (nI 0) = (fun j => nI ((va_up s2 i 0) j)) from zsu] at hP
        have hD : va_D Az [(me 0, .inr (2, [.ref (me 1), .ref (me 2), .ref (me 3), .int (nI k)])), (me 1, .inl (kA, 96, .inl g)), (me 2, .inl (kA, 4, .inl (fun j => nI ((va_up s2 i 0) j)))), (me 3, .inl (kA, 256, .inl mk))] := vz_D hD rfl
        refine lv_iinc (v := (nI (i + 1))) (lv' := [(2, .int (nI (i + 1))), (0, .ref (me 0)), (1, .int (nI k))]) hx hb dX2_start_32 hl (k := 2) rfl (nI_1 _) (by decide) rfl (fun ls hl => ?_)
        refine lv_goto (tgt := 20) hx hb dX2_start_35 (by decide) ?_
        exact ih1 (i + 1) (va_up s2 i 0) _ _ _ (by omega) (by omega) (by rw [hs]; exact zz0_s) hP (vz_D hD rfl) hS (lv_sub hl [1, 2, 0] rfl)
  exact lp1 _ 0 ss _ _ _ (Nat.lt_succ_self _) (by omega) zz0_0.symm hP (vz_D hD rfl) hS (lv_sub hl [1, 2, 0] rfl)
set_option maxHeartbeats 4000000 in
set_option maxRecDepth 100000 in
theorem c_X2_start_no (l : Launch) (D : va_G) (kA : ClassId) (me : Nat → Nat) (n : Nat) (g mk : Nat → Int32) (ss : Nat → Nat) (hn : n ≤ 8) (x : Int32) (hx1 : x < nI 1 ∨ nI 8 < x) : vz_M l yX2_start wsX2_start 0 0 [.ref (me 0), .int x] D kA [(me 0, .inr (2, [.ref (me 1), .ref (me 2), .ref (me 3), .int (nI n)])), (me 1, .inl (kA, 96, .inl g)), (me 2, .inl (kA, 4, .inl (fun j => nI (ss j)))), (me 3, .inl (kA, 256, .inl mk))] (some (.int (nI 0))) := by
  refine vz_start (cc := cX2_start) (maxL := 3) (ret := (some .boolean)) (own := RX2) (by decide) rfl rfl (Nat.le_of_ble_eq_true rfl) ?_
  intro pz ez sz mz below meth cz args Q ls hargs hx hb hml hown hts hr hlocks hP hK hQ hl
  have hcf : CallFix pz mz cz cX2_start 3 sz args wsX2_start RX2 := ⟨hx, hb, hml, hown, hts⟩
  have hi0 : ∀ w ∈ u_ws RX2 TX2 4, w ∈ wsX2_start := by decide +kernel
  have hf13 : (Cond.fieldLink RX2 13 "CubeMinModel" "sizes" "[I").before args sz = true := hts _ (by decide +kernel)
  have hf19 : (Cond.fieldLink RX2 19 "CubeMinModel" "n" "I").before args sz = true := hts _ (by decide +kernel)
  have hl : lv_has ls 3 [(0, .ref (me 0)), (1, .int x)] := hl
  refine lv_iload_n hx hb dX2_start_0 rfl (lv_at hl 1 rfl) ?_
  refine lv_iconst (v := nI 1) hx hb dX2_start_1 (by decide) ?_
  refine lv_icmp_lt (tgt := 11) hx hb dX2_start_2 (by decide) (fun c_2 => ?_) (fun c_2 => ?_)
  · skip
    refine lv_iconst (v := nI 0) hx hb dX2_start_11 (by decide) ?_
    exact vz_iret hx hb hr hlocks hQ (rfl) dX2_start_12 rfl
  · skip
    refine lv_iload_n hx hb dX2_start_5 rfl (lv_at hl 1 rfl) ?_
    refine lv_bipush (v := nI 8) hx hb dX2_start_6 (by decide) ?_
    refine lv_icmp_le (tgt := 13) hx hb dX2_start_8 (by decide) (fun c_8 => absurd c_8 (by rcases hx1 with h | h; exact absurd h c_2; exact Int32.not_le.mpr h)) (fun c_8 => ?_)
    refine lv_iconst (v := nI 0) hx hb dX2_start_11 (by decide) ?_
    exact vz_iret hx hb hr hlocks hQ (rfl) dX2_start_12 rfl
set_option maxHeartbeats 4000000 in
set_option maxRecDepth 100000 in
theorem c_X2_isList (l : Launch) (D : va_G) (kA : ClassId) (x : Int32) : vz_M l yX2_isList wsX2_isList 0 0 [.int x] D kA [] (some (.int (vz_b (!decide (x < 0) && !decide (nI 2 < x))))) := by
  refine vz_start (cc := cX2_isList) (maxL := 1) (ret := (some .boolean)) (own := RX2) (by decide) rfl rfl (Nat.le_of_ble_eq_true rfl) ?_
  intro pz ez sz mz below meth cz args Q ls hargs hx hb hml hown hts hr hlocks hP hK hQ hl
  have hcf : CallFix pz mz cz cX2_isList 1 sz args wsX2_isList RX2 := ⟨hx, hb, hml, hown, hts⟩
  have hl : lv_has ls 1 [(0, .int x)] := hl
  refine lv_iload_n hx hb dX2_isList_0 rfl (lv_at hl 0 rfl) ?_
  refine lv_if_lt (tgt := 13) hx hb dX2_isList_1 (by decide) (fun c_1 => ?_) (fun c_1 => ?_)
  · skip
    refine lv_iconst (v := nI 0) hx hb dX2_isList_13 (by decide) ?_
    exact vz_iret hx hb hr hlocks hQ (rfl) dX2_isList_14 (by first | (rw [decide_eq_true c_1]; rfl) | (rw [decide_eq_false c_1, decide_eq_true c_6]; rfl) | (rw [decide_eq_false c_1, decide_eq_false c_6]; rfl))
  · skip
    refine lv_iload_n hx hb dX2_isList_4 rfl (lv_at hl 0 rfl) ?_
    refine lv_iconst (v := nI 2) hx hb dX2_isList_5 (by decide) ?_
    refine lv_icmp_gt (tgt := 13) hx hb dX2_isList_6 (by decide) (fun c_6 => ?_) (fun c_6 => ?_)
    · skip
      refine lv_iconst (v := nI 0) hx hb dX2_isList_13 (by decide) ?_
      exact vz_iret hx hb hr hlocks hQ (rfl) dX2_isList_14 (by first | (rw [decide_eq_true c_1]; rfl) | (rw [decide_eq_false c_1, decide_eq_true c_6]; rfl) | (rw [decide_eq_false c_1, decide_eq_false c_6]; rfl))
    · skip
      refine lv_iconst (v := nI 1) hx hb dX2_isList_9 (by decide) ?_
      refine lv_goto (tgt := 14) hx hb dX2_isList_10 (by decide) ?_
      exact vz_iret hx hb hr hlocks hQ (rfl) dX2_isList_14 (by first | (rw [decide_eq_true c_1]; rfl) | (rw [decide_eq_false c_1, decide_eq_true c_6]; rfl) | (rw [decide_eq_false c_1, decide_eq_false c_6]; rfl))
set_option maxHeartbeats 4000000 in
set_option maxRecDepth 100000 in
theorem c_X2_literalsOf (l : Launch) (D : va_G) (kA : ClassId) (me : Nat → Nat) (n : Nat) (g mk : Nat → Int32) (ss : Nat → Nat) (hn : n ≤ 8) (L t : Nat) (q : Nat → Int32) (hL3 : L < 4) (ht : ss L = t) (ht24 : t ≤ 24) (hq : ∀ j, j < 24 → g (24 * L + j) = q j) : vz_M l yX2_literalsOf wsX2_literalsOf 0 0 [.ref (me 0), .int (nI L)] D kA [(me 0, .inr (2, [.ref (me 1), .ref (me 2), .ref (me 3), .int (nI n)])), (me 1, .inl (kA, 96, .inl g)), (me 2, .inl (kA, 4, .inl (fun j => nI (ss j)))), (me 3, .inl (kA, 256, .inl mk))] (some (.int (nI (mlits n t q)))) := by
  refine vz_start (cc := cX2_literalsOf) (maxL := 5) (ret := (some .int)) (own := RX2) (by decide) rfl rfl (Nat.le_of_ble_eq_true rfl) ?_
  intro pz ez sz mz below meth cz args Q ls hargs hx hb hml hown hts hr hlocks hP hK hQ hl
  have hcf : CallFix pz mz cz cX2_literalsOf 5 sz args wsX2_literalsOf RX2 := ⟨hx, hb, hml, hown, hts⟩
  have hi0 : ∀ w ∈ u_ws RX2 TX2 4, w ∈ wsX2_literalsOf := by decide +kernel
  have hf7 : (Cond.fieldLink RX2 7 "CubeMinModel" "cubes" "[I").before args sz = true := hts _ (by decide +kernel)
  have hf13 : (Cond.fieldLink RX2 13 "CubeMinModel" "sizes" "[I").before args sz = true := hts _ (by decide +kernel)
  have hf19 : (Cond.fieldLink RX2 19 "CubeMinModel" "n" "I").before args sz = true := hts _ (by decide +kernel)
  have hl : lv_has ls 5 [(0, .ref (me 0)), (1, .int (nI L))] := hl
  refine lv_iconst (v := nI 0) hx hb dX2_literalsOf_0 (by decide) ?_
  refine lv_istore_n (lv' := [(2, .int (nI 0)), (0, .ref (me 0)), (1, .int (nI L))]) hx hb dX2_literalsOf_1 rfl hl (by decide) rfl (fun ls hl => ?_)
  refine lv_iconst (v := nI 0) hx hb dX2_literalsOf_2 (by decide) ?_
  refine lv_istore_n (lv' := [(3, .int (nI 0)), (2, .int (nI 0)), (0, .ref (me 0)), (1, .int (nI L))]) hx hb dX2_literalsOf_3 rfl hl (by decide) rfl (fun ls hl => ?_)
  have lp1 : ∀ (dz : Nat) (u i : Nat) (ls : Array Slot), (t - i) < dz → (i ≤ t) → (u = smN i (fun k => mlit n (q k))) → lv_has ls 5 [(0, .ref (me 0)), (1, .int (nI L)), (2, .int (nI u)), (3, .int (nI i))] → W pz l ez (vz_R 0 0) sz mz args below meth cz sz.heap [] 0 0 Q (F0 mz 4 ls []) := by
    intro dz
    induction dz with
    | zero => intro u i ls hd h1 h2 hl; exact absurd hd (Nat.not_lt_zero _)
    | succ dz ih1 =>
      intro u i ls hd h1 h2 hl
      refine lv_iload_n hx hb dX2_literalsOf_4 rfl (lv_at hl 3 rfl) ?_
      refine lv_aload_n hx hb dX2_literalsOf_5 rfl (lv_at hl 0 rfl) ?_
      refine va_get (D := D) (ci := 2) (v := .ref (me 2)) (C := RX2) (T := TX2) (N := 4) hx hb hts hi0 hown hK hP 0 rfl rfl 1 (by decide) hf13 (fun _ h9 => h9) rfl dX2_literalsOf_6 ?_
      refine lv_iload_n hx hb dX2_literalsOf_9 rfl (lv_at hl 1 rfl) ?_
      refine vz_ald hx hb hK hP 2 rfl (by omega) (Nat.le_of_ble_eq_true rfl) dX2_literalsOf_10 ?_
      refine vz_top (y := (nI t)) (congrArg nI ht) ?_
      refine vz_cge (tgt := 63) hx hb dX2_literalsOf_11 (by decide) (by omega) (by omega) (fun c_11 => ?_) (fun c_11 => ?_)
      · skip
        obtain rfl : t = i := by omega
        refine lv_iload_n hx hb dX2_literalsOf_63 rfl (lv_at hl 2 rfl) ?_
        exact vz_iret hx hb hr hlocks hQ (vp_nar_int _) dX2_literalsOf_64 (by rw [h2]; rfl)
      · skip
        refine lv_iconst (v := nI 0) hx hb dX2_literalsOf_14 (by decide) ?_
        refine lv_istore (lv' := [(4, .int (nI 0)), (0, .ref (me 0)), (1, .int (nI L)), (2, .int (nI u)), (3, .int (nI i))]) hx hb dX2_literalsOf_15 hl (by decide) rfl (fun ls hl => ?_)
        have lp2 : ∀ (dz : Nat) (u2 j : Nat) (ls : Array Slot), (n - j) < dz → (j ≤ n) → (u2 = u + cnB j (fun k => !decide (q i >>> (nI (2 * k) &&& 31) &&& nI 3 = nI 3))) → lv_has ls 5 [(0, .ref (me 0)), (1, .int (nI L)), (2, .int (nI u2)), (3, .int (nI i)), (4, .int (nI j))] → W pz l ez (vz_R 0 0) sz mz args below meth cz sz.heap [] 0 0 Q (F0 mz 17 ls []) := by
          intro dz
          induction dz with
          | zero => intro u2 j ls hd g1 g2 hl; exact absurd hd (Nat.not_lt_zero _)
          | succ dz ih2 =>
            intro u2 j ls hd g1 g2 hl
            refine lv_iload hx hb dX2_literalsOf_17 (lv_at hl 4 rfl) ?_
            refine lv_aload_n hx hb dX2_literalsOf_19 rfl (lv_at hl 0 rfl) ?_
            refine va_get (D := D) (ci := 2) (v := .int (nI n)) (C := RX2) (T := TX2) (N := 4) hx hb hts hi0 hown hK hP 0 rfl rfl 3 (by decide) hf19 (fun _ h9 => h9) rfl dX2_literalsOf_20 ?_
            refine vz_cge (tgt := 57) hx hb dX2_literalsOf_23 (by decide) (by omega) (by omega) (fun c_23 => ?_) (fun c_23 => ?_)
            · skip
              refine lv_iinc (v := (nI (i + 1))) (lv' := [(3, .int (nI (i + 1))), (0, .ref (me 0)), (1, .int (nI L)), (2, .int (nI u2)), (4, .int (nI j))]) hx hb dX2_literalsOf_57 hl (k := 3) rfl (nI_1 _) (by decide) rfl (fun ls hl => ?_)
              refine lv_goto (tgt := 4) hx hb dX2_literalsOf_60 (by decide) ?_
              exact ih1 u2 (i + 1) _ (by omega) (by omega) (by rw [g2, h2]; obtain rfl : n = j := (by omega); rfl) (lv_sub hl [1, 2, 3, 0] rfl)
            · skip
              refine lv_aload_n hx hb dX2_literalsOf_26 rfl (lv_at hl 0 rfl) ?_
              refine va_get (D := D) (ci := 2) (v := .ref (me 1)) (C := RX2) (T := TX2) (N := 4) hx hb hts hi0 hown hK hP 0 rfl rfl 0 (by decide) hf7 (fun _ h9 => h9) rfl dX2_literalsOf_27 ?_
              refine lv_bipush (v := nI 24) hx hb dX2_literalsOf_30 (by decide) ?_
              refine lv_iload_n hx hb dX2_literalsOf_32 rfl (lv_at hl 1 rfl) ?_
              refine vz_mul hx hb dX2_literalsOf_33 ?_
              refine lv_iload_n hx hb dX2_literalsOf_34 rfl (lv_at hl 3 rfl) ?_
              refine vz_add hx hb dX2_literalsOf_35 ?_
              refine vz_ald hx hb hK hP 1 rfl (by omega) (Nat.le_of_ble_eq_true rfl) dX2_literalsOf_36 ?_
              refine vz_top (y := (q i)) (hq i (by omega)) ?_
              refine lv_iconst (v := nI 2) hx hb dX2_literalsOf_37 (by decide) ?_
              refine lv_iload hx hb dX2_literalsOf_38 (lv_at hl 4 rfl) ?_
              refine vz_mul hx hb dX2_literalsOf_40 ?_
              refine lv_ishr hx hb dX2_literalsOf_41 ?_
              refine lv_iconst (v := nI 3) hx hb dX2_literalsOf_42 (by decide) ?_
              refine lv_iand hx hb dX2_literalsOf_43 ?_
              refine lv_iconst (v := nI 3) hx hb dX2_literalsOf_44 (by decide) ?_
              refine lv_icmp_eq (tgt := 51) hx hb dX2_literalsOf_45 (by decide) (fun c_45 => ?_) (fun c_45 => ?_)
              · skip
                refine lv_iinc (v := (nI (j + 1))) (lv' := [(4, .int (nI (j + 1))), (0, .ref (me 0)), (1, .int (nI L)), (2, .int (nI u2)), (3, .int (nI i))]) hx hb dX2_literalsOf_51 hl (k := 4) rfl (nI_1 _) (by decide) rfl (fun ls hl => ?_)
                refine lv_goto (tgt := 17) hx hb dX2_literalsOf_54 (by decide) ?_
                exact ih2 u2 (j + 1) _ (by omega) (by omega) (by simp [cnB, c_45, g2]) (lv_sub hl [1, 2, 3, 4, 0] rfl)
              · skip
                refine lv_iinc (v := (nI (u2 + 1))) (lv' := [(2, .int (nI (u2 + 1))), (0, .ref (me 0)), (1, .int (nI L)), (3, .int (nI i)), (4, .int (nI j))]) hx hb dX2_literalsOf_48 hl (k := 2) rfl (nI_1 _) (by decide) rfl (fun ls hl => ?_)
                refine lv_iinc (v := (nI (j + 1))) (lv' := [(4, .int (nI (j + 1))), (2, .int (nI (u2 + 1))), (0, .ref (me 0)), (1, .int (nI L)), (3, .int (nI i))]) hx hb dX2_literalsOf_51 hl (k := 4) rfl (nI_1 _) (by decide) rfl (fun ls hl => ?_)
                refine lv_goto (tgt := 17) hx hb dX2_literalsOf_54 (by decide) ?_
                exact ih2 (u2 + 1) (j + 1) _ (by omega) (by omega) (by simp [cnB, c_45, g2]; omega) (lv_sub hl [2, 3, 1, 4, 0] rfl)
        exact lp2 _ u 0 _ (Nat.lt_succ_self _) (by omega) rfl (lv_sub hl [1, 2, 3, 4, 0] rfl)
  exact lp1 _ 0 0 _ (Nat.lt_succ_self _) (by omega) rfl (lv_sub hl [2, 3, 1, 0] rfl)
set_option maxHeartbeats 4000000 in
set_option maxRecDepth 100000 in
theorem c_X2_isPoint (l : Launch) (D : va_G) (kA : ClassId) (me : Nat → Nat) (n : Nat) (g mk : Nat → Int32) (ss : Nat → Nat) (hn : n ≤ 8) (z : Int32) : vz_M l yX2_isPoint wsX2_isPoint 0 0 [.ref (me 0), .int z] D kA [(me 0, .inr (2, [.ref (me 1), .ref (me 2), .ref (me 3), .int (nI n)])), (me 1, .inl (kA, 96, .inl g)), (me 2, .inl (kA, 4, .inl (fun j => nI (ss j)))), (me 3, .inl (kA, 256, .inl mk))] (some (.int (vz_b (!decide (z < 0) && !decide (nI (zN n) ≤ z))))) := by
  refine vz_start (cc := cX2_isPoint) (maxL := 2) (ret := (some .boolean)) (own := RX2) (by decide) rfl rfl (Nat.le_of_ble_eq_true rfl) ?_
  intro pz ez sz mz below meth cz args Q ls hargs hx hb hml hown hts hr hlocks hP hK hQ hl
  have hcf : CallFix pz mz cz cX2_isPoint 2 sz args wsX2_isPoint RX2 := ⟨hx, hb, hml, hown, hts⟩
  have hi0 : ∀ w ∈ u_ws RX2 TX2 4, w ∈ wsX2_isPoint := by decide +kernel
  have hf19 : (Cond.fieldLink RX2 19 "CubeMinModel" "n" "I").before args sz = true := hts _ (by decide +kernel)
  have hl : lv_has ls 2 [(0, .ref (me 0)), (1, .int z)] := hl
  have hN := zN_le hn
  refine lv_iload_n hx hb dX2_isPoint_0 rfl (lv_at hl 1 rfl) ?_
  refine lv_if_lt (tgt := 18) hx hb dX2_isPoint_1 (by decide) (fun c_1 => ?_) (fun c_1 => ?_)
  · skip
    refine lv_iconst (v := nI 0) hx hb dX2_isPoint_18 (by decide) ?_
    exact vz_iret hx hb hr hlocks hQ (rfl) dX2_isPoint_19 (by first | simp [c_1, c_11]; rfl | simp [c_1]; rfl)
  · skip
    refine lv_iload_n hx hb dX2_isPoint_4 rfl (lv_at hl 1 rfl) ?_
    refine lv_iconst (v := nI 1) hx hb dX2_isPoint_5 (by decide) ?_
    refine lv_aload_n hx hb dX2_isPoint_6 rfl (lv_at hl 0 rfl) ?_
    refine va_get (D := D) (ci := 2) (v := .int (nI n)) (C := RX2) (T := TX2) (N := 4) hx hb hts hi0 hown hK hP 0 rfl rfl 3 (by decide) hf19 (fun _ h9 => h9) rfl dX2_isPoint_7 ?_
    refine lv_ishl hx hb dX2_isPoint_10 ?_
    refine vz_top (y := (nI (zN n))) (zN_sh n hn) ?_
    refine lv_icmp_ge (tgt := 18) hx hb dX2_isPoint_11 (by decide) (fun c_11 => ?_) (fun c_11 => ?_)
    · skip
      refine lv_iconst (v := nI 0) hx hb dX2_isPoint_18 (by decide) ?_
      exact vz_iret hx hb hr hlocks hQ (rfl) dX2_isPoint_19 (by first | simp [c_1, c_11]; rfl | simp [c_1]; rfl)
    · skip
      refine lv_iconst (v := nI 1) hx hb dX2_isPoint_14 (by decide) ?_
      refine lv_goto (tgt := 19) hx hb dX2_isPoint_15 (by decide) ?_
      exact vz_iret hx hb hr hlocks hQ (rfl) dX2_isPoint_19 (by first | simp [c_1, c_11]; rfl | simp [c_1]; rfl)
set_option maxHeartbeats 4000000 in
set_option maxRecDepth 100000 in
theorem c_X2_kind (l : Launch) (D : va_G) (kA : ClassId) (me : Nat → Nat) (n : Nat) (g mk : Nat → Int32) (ss : Nat → Nat) (hn : n ≤ 8) (z : Int32) : vz_M l yX2_kind wsX2_kind 1 21 [.ref (me 0), .int z] D kA [(me 0, .inr (2, [.ref (me 1), .ref (me 2), .ref (me 3), .int (nI n)])), (me 1, .inl (kA, 96, .inl g)), (me 2, .inl (kA, 4, .inl (fun j => nI (ss j)))), (me 3, .inl (kA, 256, .inl mk))] (some (.int (if (!decide (z < 0) && !decide (nI (zN n) ≤ z)) = true then mk z.toNatClampNeg else -1))) := by
  refine vz_start (cc := cX2_kind) (maxL := 2) (ret := (some .int)) (own := RX2) (by decide) rfl rfl (Nat.le_of_ble_eq_true rfl) ?_
  intro pz ez sz mz below meth cz args Q ls hargs hx hb hml hown hts hr hlocks hP hK hQ hl
  have hcf : CallFix pz mz cz cX2_kind 2 sz args wsX2_kind RX2 := ⟨hx, hb, hml, hown, hts⟩
  have hi0 : ∀ w ∈ u_ws RX2 TX2 4, w ∈ wsX2_kind := by decide +kernel
  have hf16 : (Cond.fieldLink RX2 16 "CubeMinModel" "kinds" "[I").before args sz = true := hts _ (by decide +kernel)
  have hl : lv_has ls 2 [(0, .ref (me 0)), (1, .int z)] := hl
  have hN := zN_le hn
  refine lv_aload_n hx hb dX2_kind_0 rfl (lv_at hl 0 rfl) ?_
  refine lv_iload_n hx hb dX2_kind_1 rfl (lv_at hl 1 rfl) ?_
  refine vz_callV (n := 1) (As := [.int z]) (rest := []) (q0 := 0) hcf (c_X2_isPoint l D kA me n g mk ss hn z) gX2_kind_X2_isPoint rfl hd_X2_isPoint ⟨Nat.le_of_ble_eq_true rfl, Nat.le_of_ble_eq_true rfl⟩ hK (hP.sub [0, 1, 2, 3] rfl) rfl rfl rfl rfl hl.1 rfl (Nat.le_of_ble_eq_true rfl) ⟨Nat.zero_le _, Nat.zero_le _⟩ dX2_kind_2 ?_
  refine vz_ifeqB (tgt := 17) hx hb dX2_kind_5 (by decide) (fun c_5 => ?_) (fun c_5 => ?_)
  · skip
    refine lv_iconst (v := -1) hx hb dX2_kind_17 (by decide) ?_
    exact vz_iret hx hb hr hlocks hQ (vp_nar_int _) dX2_kind_18 (by first | (rw [if_pos c_5, hwc]) | (rw [if_neg (by rw [c_5]; decide)]))
  · skip
    obtain ⟨w, hw, rfl⟩ : ∃ w : Nat, w < zN n ∧ z = nI w := by
      have c_99 := c_5
      simp only [Bool.and_eq_true, Bool.not_eq_true', decide_eq_false_iff_not] at c_99
      rcases pk_ix z (n := zN n) (by omega) with h1 | h1 | h1
      · exact absurd h1 c_99.1
      · exact absurd h1 c_99.2
      · exact h1
    have hwc : (nI w).toNatClampNeg = w := nI_clamp (by omega)
    refine lv_aload_n hx hb dX2_kind_8 rfl (lv_at hl 0 rfl) ?_
    refine va_get (D := D) (ci := 2) (v := .ref (me 3)) (C := RX2) (T := TX2) (N := 4) hx hb hts hi0 hown hK hP 0 rfl rfl 2 (by decide) hf16 (fun _ h9 => h9) rfl dX2_kind_9 ?_
    refine lv_iload_n hx hb dX2_kind_12 rfl (lv_at hl 1 rfl) ?_
    refine vz_ald hx hb hK hP 3 rfl (by omega) (Nat.le_of_ble_eq_true rfl) dX2_kind_13 ?_
    refine lv_goto (tgt := 18) hx hb dX2_kind_14 (by decide) ?_
    exact vz_iret hx hb hr hlocks hQ (vp_nar_int _) dX2_kind_18 (by first | (rw [if_pos c_5, hwc]) | (rw [if_neg (by rw [c_5]; decide)]))
set_option maxHeartbeats 4000000 in
set_option maxRecDepth 100000 in
theorem c_X2_size0 (l : Launch) (D : va_G) (kA : ClassId) (me : Nat → Nat) (n : Nat) (g mk : Nat → Int32) (ss : Nat → Nat) (hn : n ≤ 8) (t : Nat) (q : Nat → Int32) (ht : ss 0 = t) (ht24 : t ≤ 24) (hq : ∀ j, j < 24 → g (24 * 0 + j) = q j) : vz_M l yX2_size wsX2_size 1 20 [.ref (me 0), .int (nI 0)] D kA [(me 0, .inr (2, [.ref (me 1), .ref (me 2), .ref (me 3), .int (nI n)])), (me 1, .inl (kA, 96, .inl g)), (me 2, .inl (kA, 4, .inl (fun j => nI (ss j)))), (me 3, .inl (kA, 256, .inl mk))] (some (.int (nI t))) := by
  refine vz_start (cc := cX2_size) (maxL := 2) (ret := (some .int)) (own := RX2) (by decide) rfl rfl (Nat.le_of_ble_eq_true rfl) ?_
  intro pz ez sz mz below meth cz args Q ls hargs hx hb hml hown hts hr hlocks hP hK hQ hl
  have hcf : CallFix pz mz cz cX2_size 2 sz args wsX2_size RX2 := ⟨hx, hb, hml, hown, hts⟩
  have hi0 : ∀ w ∈ u_ws RX2 TX2 4, w ∈ wsX2_size := by decide +kernel
  have hf13 : (Cond.fieldLink RX2 13 "CubeMinModel" "sizes" "[I").before args sz = true := hts _ (by decide +kernel)
  have hl : lv_has ls 2 [(0, .ref (me 0)), (1, .int (nI 0))] := hl
  refine lv_iload_n hx hb dX2_size_0 rfl (lv_at hl 1 rfl) ?_
  refine vz_callS (n := 1) (As := [.int (nI 0)]) (rest := []) hcf (c_X2_isList l D kA (nI 0)) gX2_size_X2_isList rfl hd_X2_isList ⟨Nat.le_of_ble_eq_true rfl, Nat.le_of_ble_eq_true rfl⟩ hK (hP.sub [] rfl) rfl hl.1 rfl (Nat.le_of_ble_eq_true rfl) ⟨Nat.zero_le _, Nat.zero_le _⟩ dX2_size_1 ?_
  refine vz_ifeqB (tgt := 16) hx hb dX2_size_4 (by decide) (fun c_4 => absurd c_4 (by decide)) (fun c_4 => ?_)
  refine lv_aload_n hx hb dX2_size_7 rfl (lv_at hl 0 rfl) ?_
  refine va_get (D := D) (ci := 2) (v := .ref (me 2)) (C := RX2) (T := TX2) (N := 4) hx hb hts hi0 hown hK hP 0 rfl rfl 1 (by decide) hf13 (fun _ h9 => h9) rfl dX2_size_8 ?_
  refine lv_iload_n hx hb dX2_size_11 rfl (lv_at hl 1 rfl) ?_
  refine vz_ald hx hb hK hP 2 rfl (by omega) (Nat.le_of_ble_eq_true rfl) dX2_size_12 ?_
  refine vz_top (y := (nI t)) (congrArg nI ht) ?_
  refine lv_goto (tgt := 17) hx hb dX2_size_13 (by decide) ?_
  exact vz_iret hx hb hr hlocks hQ (vp_nar_int _) dX2_size_17 rfl
set_option maxHeartbeats 4000000 in
set_option maxRecDepth 100000 in
theorem c_X2_cube0 (l : Launch) (D : va_G) (kA : ClassId) (me : Nat → Nat) (n : Nat) (g mk : Nat → Int32) (ss : Nat → Nat) (hn : n ≤ 8) (t : Nat) (q : Nat → Int32) (ht : ss 0 = t) (ht24 : t ≤ 24) (hq : ∀ j, j < 24 → g (24 * 0 + j) = q j) (z : Int32) : vz_M l yX2_cube wsX2_cube 1 20 [.ref (me 0), .int (nI 0), .int z] D kA [(me 0, .inr (2, [.ref (me 1), .ref (me 2), .ref (me 3), .int (nI n)])), (me 1, .inl (kA, 96, .inl g)), (me 2, .inl (kA, 4, .inl (fun j => nI (ss j)))), (me 3, .inl (kA, 256, .inl mk))] (some (.int (zat t q z))) := by
  refine vz_start (cc := cX2_cube) (maxL := 3) (ret := (some .int)) (own := RX2) (by decide) rfl rfl (Nat.le_of_ble_eq_true rfl) ?_
  intro pz ez sz mz below meth cz args Q ls hargs hx hb hml hown hts hr hlocks hP hK hQ hl
  have hcf : CallFix pz mz cz cX2_cube 3 sz args wsX2_cube RX2 := ⟨hx, hb, hml, hown, hts⟩
  have hi0 : ∀ w ∈ u_ws RX2 TX2 4, w ∈ wsX2_cube := by decide +kernel
  have hf7 : (Cond.fieldLink RX2 7 "CubeMinModel" "cubes" "[I").before args sz = true := hts _ (by decide +kernel)
  have hf13 : (Cond.fieldLink RX2 13 "CubeMinModel" "sizes" "[I").before args sz = true := hts _ (by decide +kernel)
  have hl : lv_has ls 3 [(0, .ref (me 0)), (1, .int (nI 0)), (2, .int z)] := hl
  refine lv_iload_n hx hb dX2_cube_0 rfl (lv_at hl 1 rfl) ?_
  refine vz_callS (n := 1) (As := [.int (nI 0)]) (rest := []) hcf (c_X2_isList l D kA (nI 0)) gX2_cube_X2_isList rfl hd_X2_isList ⟨Nat.le_of_ble_eq_true rfl, Nat.le_of_ble_eq_true rfl⟩ hK (hP.sub [] rfl) rfl hl.1 rfl (Nat.le_of_ble_eq_true rfl) ⟨Nat.zero_le _, Nat.zero_le _⟩ dX2_cube_1 ?_
  refine vz_ifeqB (tgt := 35) hx hb dX2_cube_4 (by decide) (fun c_4 => absurd c_4 (by decide)) (fun c_4 => ?_)
  refine lv_iload_n hx hb dX2_cube_7 rfl (lv_at hl 2 rfl) ?_
  refine lv_if_lt (tgt := 35) hx hb dX2_cube_8 (by decide) (fun c_8 => ?_) (fun c_8 => ?_)
  · skip
    refine lv_iconst (v := -1) hx hb dX2_cube_35 (by decide) ?_
    exact vz_iret hx hb hr hlocks hQ (vp_nar_int _) dX2_cube_36 (by first | rfl | exact (zat_nI hj ht24).symm | (simp only [zat]; first | rw [if_pos c_8] | rw [if_neg c_8, if_pos c_18]))
  · skip
    refine lv_iload_n hx hb dX2_cube_11 rfl (lv_at hl 2 rfl) ?_
    refine lv_aload_n hx hb dX2_cube_12 rfl (lv_at hl 0 rfl) ?_
    refine va_get (D := D) (ci := 2) (v := .ref (me 2)) (C := RX2) (T := TX2) (N := 4) hx hb hts hi0 hown hK hP 0 rfl rfl 1 (by decide) hf13 (fun _ h9 => h9) rfl dX2_cube_13 ?_
    refine lv_iload_n hx hb dX2_cube_16 rfl (lv_at hl 1 rfl) ?_
    refine vz_ald hx hb hK hP 2 rfl (by omega) (Nat.le_of_ble_eq_true rfl) dX2_cube_17 ?_
    refine vz_top (y := (nI t)) (congrArg nI ht) ?_
    refine lv_icmp_ge (tgt := 35) hx hb dX2_cube_18 (by decide) (fun c_18 => ?_) (fun c_18 => ?_)
    · skip
      refine lv_iconst (v := -1) hx hb dX2_cube_35 (by decide) ?_
      exact vz_iret hx hb hr hlocks hQ (vp_nar_int _) dX2_cube_36 (by first | rfl | exact (zat_nI hj ht24).symm | (simp only [zat]; first | rw [if_pos c_8] | rw [if_neg c_8, if_pos c_18]))
    · skip
      obtain ⟨j, hj, rfl⟩ : ∃ j : Nat, j < t ∧ z = nI j := by
        rcases pk_ix z (n := t) (by omega) with h1 | h1 | h1
        · exact absurd h1 c_8
        · exact absurd h1 c_18
        · exact h1
      refine lv_aload_n hx hb dX2_cube_21 rfl (lv_at hl 0 rfl) ?_
      refine va_get (D := D) (ci := 2) (v := .ref (me 1)) (C := RX2) (T := TX2) (N := 4) hx hb hts hi0 hown hK hP 0 rfl rfl 0 (by decide) hf7 (fun _ h9 => h9) rfl dX2_cube_22 ?_
      refine lv_bipush (v := nI 24) hx hb dX2_cube_25 (by decide) ?_
      refine lv_iload_n hx hb dX2_cube_27 rfl (lv_at hl 1 rfl) ?_
      refine vz_mul hx hb dX2_cube_28 ?_
      refine lv_iload_n hx hb dX2_cube_29 rfl (lv_at hl 2 rfl) ?_
      refine vz_add hx hb dX2_cube_30 ?_
      refine vz_ald hx hb hK hP 1 rfl (by omega) (Nat.le_of_ble_eq_true rfl) dX2_cube_31 ?_
      refine vz_top (y := (q j)) (hq j (by omega)) ?_
      refine lv_goto (tgt := 36) hx hb dX2_cube_32 (by decide) ?_
      exact vz_iret hx hb hr hlocks hQ (vp_nar_int _) dX2_cube_36 (by first | rfl | exact (zat_nI hj ht24).symm | (simp only [zat]; first | rw [if_pos c_8] | rw [if_neg c_8, if_pos c_18]))
set_option maxHeartbeats 4000000 in
set_option maxRecDepth 100000 in
theorem c_X2_literals0 (l : Launch) (D : va_G) (kA : ClassId) (me : Nat → Nat) (n : Nat) (g mk : Nat → Int32) (ss : Nat → Nat) (hn : n ≤ 8) (t : Nat) (q : Nat → Int32) (ht : ss 0 = t) (ht24 : t ≤ 24) (hq : ∀ j, j < 24 → g (24 * 0 + j) = q j) : vz_M l yX2_literals wsX2_literals 1 24 [.ref (me 0), .int (nI 0)] D kA [(me 0, .inr (2, [.ref (me 1), .ref (me 2), .ref (me 3), .int (nI n)])), (me 1, .inl (kA, 96, .inl g)), (me 2, .inl (kA, 4, .inl (fun j => nI (ss j)))), (me 3, .inl (kA, 256, .inl mk))] (some (.int (nI (mlits n t q)))) := by
  refine vz_start (cc := cX2_literals) (maxL := 2) (ret := (some .int)) (own := RX2) (by decide) rfl rfl (Nat.le_of_ble_eq_true rfl) ?_
  intro pz ez sz mz below meth cz args Q ls hargs hx hb hml hown hts hr hlocks hP hK hQ hl
  have hcf : CallFix pz mz cz cX2_literals 2 sz args wsX2_literals RX2 := ⟨hx, hb, hml, hown, hts⟩
  have hl : lv_has ls 2 [(0, .ref (me 0)), (1, .int (nI 0))] := hl
  refine lv_iload_n hx hb dX2_literals_0 rfl (lv_at hl 1 rfl) ?_
  refine vz_callS (n := 1) (As := [.int (nI 0)]) (rest := []) hcf (c_X2_isList l D kA (nI 0)) gX2_literals_X2_isList rfl hd_X2_isList ⟨Nat.le_of_ble_eq_true rfl, Nat.le_of_ble_eq_true rfl⟩ hK (hP.sub [] rfl) rfl hl.1 rfl (Nat.le_of_ble_eq_true rfl) ⟨Nat.zero_le _, Nat.zero_le _⟩ dX2_literals_1 ?_
  refine vz_ifeqB (tgt := 15) hx hb dX2_literals_4 (by decide) (fun c_4 => absurd c_4 (by decide)) (fun c_4 => ?_)
  refine lv_aload_n hx hb dX2_literals_7 rfl (lv_at hl 0 rfl) ?_
  refine lv_iload_n hx hb dX2_literals_8 rfl (lv_at hl 1 rfl) ?_
  refine vz_callV (n := 1) (As := [.int (nI 0)]) (rest := []) (q0 := 0) hcf (c_X2_literalsOf l D kA me n g mk ss hn 0 t q (by decide) ht ht24 hq) gX2_literals_X2_literalsOf rfl hd_X2_literalsOf ⟨Nat.le_of_ble_eq_true rfl, Nat.le_of_ble_eq_true rfl⟩ hK (hP.sub [0, 1, 2, 3] rfl) rfl rfl rfl rfl hl.1 rfl (Nat.le_of_ble_eq_true rfl) ⟨Nat.zero_le _, Nat.zero_le _⟩ dX2_literals_9 ?_
  refine lv_goto (tgt := 16) hx hb dX2_literals_12 (by decide) ?_
  exact vz_iret hx hb hr hlocks hQ (vp_nar_int _) dX2_literals_16 rfl
set_option maxHeartbeats 4000000 in
set_option maxRecDepth 100000 in
theorem c_X2_holds0 (l : Launch) (D : va_G) (kA : ClassId) (me : Nat → Nat) (n : Nat) (g mk : Nat → Int32) (ss : Nat → Nat) (hn : n ≤ 8) (t : Nat) (q : Nat → Int32) (ht : ss 0 = t) (ht24 : t ≤ 24) (hq : ∀ j, j < 24 → g (24 * 0 + j) = q j) (z : Int32) : vz_M l yX2_holds wsX2_holds 2 46 [.ref (me 0), .int (nI 0), .int z] D kA [(me 0, .inr (2, [.ref (me 1), .ref (me 2), .ref (me 3), .int (nI n)])), (me 1, .inl (kA, 96, .inl g)), (me 2, .inl (kA, 4, .inl (fun j => nI (ss j)))), (me 3, .inl (kA, 256, .inl mk))] (some (.int (vz_b ((!decide (z < 0) && !decide (nI (zN n) ≤ z)) && zM_inL n t q z.toNatClampNeg)))) := by
  refine vz_start (cc := cX2_holds) (maxL := 3) (ret := (some .boolean)) (own := RX2) (by decide) rfl rfl (Nat.le_of_ble_eq_true rfl) ?_
  intro pz ez sz mz below meth cz args Q ls hargs hx hb hml hown hts hr hlocks hP hK hQ hl
  have hcf : CallFix pz mz cz cX2_holds 3 sz args wsX2_holds RX2 := ⟨hx, hb, hml, hown, hts⟩
  have hl : lv_has ls 3 [(0, .ref (me 0)), (1, .int (nI 0)), (2, .int z)] := hl
  have hN := zN_le hn
  refine lv_iload_n hx hb dX2_holds_0 rfl (lv_at hl 1 rfl) ?_
  refine vz_callS (n := 1) (As := [.int (nI 0)]) (rest := []) hcf (c_X2_isList l D kA (nI 0)) gX2_holds_X2_isList rfl hd_X2_isList ⟨Nat.le_of_ble_eq_true rfl, Nat.le_of_ble_eq_true rfl⟩ hK (hP.sub [] rfl) rfl hl.1 rfl (Nat.le_of_ble_eq_true rfl) ⟨Nat.zero_le _, Nat.zero_le _⟩ dX2_holds_1 ?_
  refine vz_ifeqB (tgt := 28) hx hb dX2_holds_4 (by decide) (fun c_4 => absurd c_4 (by decide)) (fun c_4 => ?_)
  refine lv_aload_n hx hb dX2_holds_7 rfl (lv_at hl 0 rfl) ?_
  refine lv_iload_n hx hb dX2_holds_8 rfl (lv_at hl 2 rfl) ?_
  refine vz_callV (n := 1) (As := [.int z]) (rest := []) (q0 := 0) hcf (c_X2_isPoint l D kA me n g mk ss hn z) gX2_holds_X2_isPoint rfl hd_X2_isPoint ⟨Nat.le_of_ble_eq_true rfl, Nat.le_of_ble_eq_true rfl⟩ hK (hP.sub [0, 1, 2, 3] rfl) rfl rfl rfl rfl hl.1 rfl (Nat.le_of_ble_eq_true rfl) ⟨Nat.zero_le _, Nat.zero_le _⟩ dX2_holds_9 ?_
  refine vz_ifeqB (tgt := 28) hx hb dX2_holds_12 (by decide) (fun c_12 => ?_) (fun c_12 => ?_)
  · skip
    refine lv_iconst (v := nI 0) hx hb dX2_holds_28 (by decide) ?_
    exact vz_iret hx hb hr hlocks hQ (rfl) dX2_holds_29 (by first | rfl | (rw [c_12]; rfl) | (rw [hwc, c_21, c_12]; rfl) | (rw [c_12]; rw [hwc, c_21]; rfl) | (rw [hwc, c_21]; simp; rfl))
  · skip
    obtain ⟨w, hw, rfl⟩ : ∃ w : Nat, w < zN n ∧ z = nI w := by
      have c_99 := c_12
      simp only [Bool.and_eq_true, Bool.not_eq_true', decide_eq_false_iff_not] at c_99
      rcases pk_ix z (n := zN n) (by omega) with h1 | h1 | h1
      · exact absurd h1 c_99.1
      · exact absurd h1 c_99.2
      · exact h1
    have hwc : (nI w).toNatClampNeg = w := nI_clamp (by omega)
    refine lv_aload_n hx hb dX2_holds_15 rfl (lv_at hl 0 rfl) ?_
    refine lv_iload_n hx hb dX2_holds_16 rfl (lv_at hl 2 rfl) ?_
    refine lv_iload_n hx hb dX2_holds_17 rfl (lv_at hl 1 rfl) ?_
    refine vz_callV (n := 2) (As := [.int (nI w), .int (nI 0)]) (rest := []) (q0 := 0) hcf (c_X2_inList l D kA me n g mk ss hn 0 t q (by decide) ht ht24 hq w (by omega)) gX2_holds_X2_inList rfl hd_X2_inList ⟨Nat.le_of_ble_eq_true rfl, Nat.le_of_ble_eq_true rfl⟩ hK (hP.sub [0, 1, 2, 3] rfl) rfl rfl rfl rfl hl.1 rfl (Nat.le_of_ble_eq_true rfl) ⟨Nat.zero_le _, Nat.zero_le _⟩ dX2_holds_18 ?_
    refine vz_ifeqB (tgt := 28) hx hb dX2_holds_21 (by decide) (fun c_21 => ?_) (fun c_21 => ?_)
    · skip
      refine lv_iconst (v := nI 0) hx hb dX2_holds_28 (by decide) ?_
      exact vz_iret hx hb hr hlocks hQ (rfl) dX2_holds_29 (by first | rfl | (rw [c_12]; rfl) | (rw [hwc, c_21, c_12]; rfl) | (rw [c_12]; rw [hwc, c_21]; rfl) | (rw [hwc, c_21]; simp; rfl))
    · skip
      refine lv_iconst (v := nI 1) hx hb dX2_holds_24 (by decide) ?_
      refine lv_goto (tgt := 29) hx hb dX2_holds_25 (by decide) ?_
      exact vz_iret hx hb hr hlocks hQ (rfl) dX2_holds_29 (by first | rfl | (rw [c_12]; rfl) | (rw [hwc, c_21, c_12]; rfl) | (rw [c_12]; rw [hwc, c_21]; rfl) | (rw [hwc, c_21]; simp; rfl))
set_option maxHeartbeats 4000000 in
set_option maxRecDepth 100000 in
theorem c_X2_missing0 (l : Launch) (D : va_G) (kA : ClassId) (me : Nat → Nat) (n : Nat) (g mk : Nat → Int32) (ss : Nat → Nat) (hn : n ≤ 8) (t : Nat) (q : Nat → Int32) (ht : ss 0 = t) (ht24 : t ≤ 24) (hq : ∀ j, j < 24 → g (24 * 0 + j) = q j) : vz_M l yX2_missing wsX2_missing 2 46 [.ref (me 0), .int (nI 0)] D kA [(me 0, .inr (2, [.ref (me 1), .ref (me 2), .ref (me 3), .int (nI n)])), (me 1, .inl (kA, 96, .inl g)), (me 2, .inl (kA, 4, .inl (fun j => nI (ss j)))), (me 3, .inl (kA, 256, .inl mk))] (some (.int (nI (cnB (zN n) (fun p => !zM_inL n t q p))))) := by
  refine vz_start (cc := cX2_missing) (maxL := 4) (ret := (some .int)) (own := RX2) (by decide) rfl rfl (Nat.le_of_ble_eq_true rfl) ?_
  intro pz ez sz mz below meth cz args Q ls hargs hx hb hml hown hts hr hlocks hP hK hQ hl
  have hcf : CallFix pz mz cz cX2_missing 4 sz args wsX2_missing RX2 := ⟨hx, hb, hml, hown, hts⟩
  have hi0 : ∀ w ∈ u_ws RX2 TX2 4, w ∈ wsX2_missing := by decide +kernel
  have hf19 : (Cond.fieldLink RX2 19 "CubeMinModel" "n" "I").before args sz = true := hts _ (by decide +kernel)
  have hl : lv_has ls 4 [(0, .ref (me 0)), (1, .int (nI 0))] := hl
  have hN := zN_le hn
  refine lv_iload_n hx hb dX2_missing_0 rfl (lv_at hl 1 rfl) ?_
  refine vz_callS (n := 1) (As := [.int (nI 0)]) (rest := []) hcf (c_X2_isList l D kA (nI 0)) gX2_missing_X2_isList rfl hd_X2_isList ⟨Nat.le_of_ble_eq_true rfl, Nat.le_of_ble_eq_true rfl⟩ hK (hP.sub [] rfl) rfl hl.1 rfl (Nat.le_of_ble_eq_true rfl) ⟨Nat.zero_le _, Nat.zero_le _⟩ dX2_missing_1 ?_
  refine vz_ifneB (tgt := 9) hx hb dX2_missing_4 (by decide) (fun c_4 => ?_) (fun c_4 => absurd c_4 (by decide))
  refine lv_iconst (v := nI 0) hx hb dX2_missing_9 (by decide) ?_
  refine lv_istore_n (lv' := [(2, .int (nI 0)), (0, .ref (me 0)), (1, .int (nI 0))]) hx hb dX2_missing_10 rfl hl (by decide) rfl (fun ls hl => ?_)
  refine lv_iconst (v := nI 0) hx hb dX2_missing_11 (by decide) ?_
  refine lv_istore_n (lv' := [(3, .int (nI 0)), (2, .int (nI 0)), (0, .ref (me 0)), (1, .int (nI 0))]) hx hb dX2_missing_12 rfl hl (by decide) rfl (fun ls hl => ?_)
  have lp1 : ∀ (dz : Nat) (u i : Nat) (ls : Array Slot), (zN n - i) < dz → (i ≤ zN n) → (u = cnB i (fun p => !zM_inL n t q p)) → lv_has ls 4 [(0, .ref (me 0)), (1, .int (nI 0)), (2, .int (nI u)), (3, .int (nI i))] → W pz l ez (vz_R 2 46) sz mz args below meth cz sz.heap [] 0 0 Q (F0 mz 13 ls []) := by
    intro dz
    induction dz with
    | zero => intro u i ls hd h1 h2 hl; exact absurd hd (Nat.not_lt_zero _)
    | succ dz ih1 =>
      intro u i ls hd h1 h2 hl
      refine lv_iload_n hx hb dX2_missing_13 rfl (lv_at hl 3 rfl) ?_
      refine lv_iconst (v := nI 1) hx hb dX2_missing_14 (by decide) ?_
      refine lv_aload_n hx hb dX2_missing_15 rfl (lv_at hl 0 rfl) ?_
      refine va_get (D := D) (ci := 2) (v := .int (nI n)) (C := RX2) (T := TX2) (N := 4) hx hb hts hi0 hown hK hP 0 rfl rfl 3 (by decide) hf19 (fun _ h9 => h9) rfl dX2_missing_16 ?_
      refine lv_ishl hx hb dX2_missing_19 ?_
      refine vz_top (y := (nI (zN n))) (zN_sh n hn) ?_
      refine vz_cge (tgt := 41) hx hb dX2_missing_20 (by decide) (by omega) (by omega) (fun c_20 => ?_) (fun c_20 => ?_)
      · skip
        obtain rfl : i = zN n := by omega
        refine lv_iload_n hx hb dX2_missing_41 rfl (lv_at hl 2 rfl) ?_
        exact vz_iret hx hb hr hlocks hQ (vp_nar_int _) dX2_missing_42 (by rw [h2])
      · skip
        refine lv_aload_n hx hb dX2_missing_23 rfl (lv_at hl 0 rfl) ?_
        refine lv_iload_n hx hb dX2_missing_24 rfl (lv_at hl 3 rfl) ?_
        refine lv_iload_n hx hb dX2_missing_25 rfl (lv_at hl 1 rfl) ?_
        refine vz_callV (n := 2) (As := [.int (nI i), .int (nI 0)]) (rest := []) (q0 := 0) hcf (c_X2_inList l D kA me n g mk ss hn 0 t q (by decide) ht ht24 hq i (by omega)) gX2_missing_X2_inList rfl hd_X2_inList ⟨Nat.le_of_ble_eq_true rfl, Nat.le_of_ble_eq_true rfl⟩ hK (hP.sub [0, 1, 2, 3] rfl) rfl rfl rfl rfl hl.1 rfl (Nat.le_of_ble_eq_true rfl) ⟨Nat.zero_le _, Nat.zero_le _⟩ dX2_missing_26 ?_
        refine vz_ifneB (tgt := 35) hx hb dX2_missing_29 (by decide) (fun c_29 => ?_) (fun c_29 => ?_)
        · skip
          refine lv_iinc (v := (nI (i + 1))) (lv' := [(3, .int (nI (i + 1))), (0, .ref (me 0)), (1, .int (nI 0)), (2, .int (nI u))]) hx hb dX2_missing_35 hl (k := 3) rfl (nI_1 _) (by decide) rfl (fun ls hl => ?_)
          refine lv_goto (tgt := 13) hx hb dX2_missing_38 (by decide) ?_
          exact ih1 u (i + 1) _ (by omega) (by omega) (by simp [cnB, c_29, h2]) (lv_sub hl [1, 2, 3, 0] rfl)
        · skip
          refine lv_iinc (v := (nI (u + 1))) (lv' := [(2, .int (nI (u + 1))), (0, .ref (me 0)), (1, .int (nI 0)), (3, .int (nI i))]) hx hb dX2_missing_32 hl (k := 2) rfl (nI_1 _) (by decide) rfl (fun ls hl => ?_)
          refine lv_iinc (v := (nI (i + 1))) (lv' := [(3, .int (nI (i + 1))), (2, .int (nI (u + 1))), (0, .ref (me 0)), (1, .int (nI 0))]) hx hb dX2_missing_35 hl (k := 3) rfl (nI_1 _) (by decide) rfl (fun ls hl => ?_)
          refine lv_goto (tgt := 13) hx hb dX2_missing_38 (by decide) ?_
          exact ih1 (u + 1) (i + 1) _ (by omega) (by omega) (by simp [cnB, c_29, h2]) (lv_sub hl [2, 3, 1, 0] rfl)
  exact lp1 _ 0 0 _ (Nat.lt_succ_self _) (by omega) rfl (lv_sub hl [2, 3, 1, 0] rfl)
set_option maxHeartbeats 4000000 in
set_option maxRecDepth 100000 in
theorem c_X2_tautology0 (l : Launch) (D : va_G) (kA : ClassId) (me : Nat → Nat) (n : Nat) (g mk : Nat → Int32) (ss : Nat → Nat) (hn : n ≤ 8) (t : Nat) (q : Nat → Int32) (ht : ss 0 = t) (ht24 : t ≤ 24) (hq : ∀ j, j < 24 → g (24 * 0 + j) = q j) : vz_M l yX2_tautology wsX2_tautology 3 69 [.ref (me 0), .int (nI 0)] D kA [(me 0, .inr (2, [.ref (me 1), .ref (me 2), .ref (me 3), .int (nI n)])), (me 1, .inl (kA, 96, .inl g)), (me 2, .inl (kA, 4, .inl (fun j => nI (ss j)))), (me 3, .inl (kA, 256, .inl mk))] (some (.int (vz_b (decide (cnB (zN n) (fun p => !zM_inL n t q p) = 0))))) := by
  refine vz_start (cc := cX2_tautology) (maxL := 2) (ret := (some .boolean)) (own := RX2) (by decide) rfl rfl (Nat.le_of_ble_eq_true rfl) ?_
  intro pz ez sz mz below meth cz args Q ls hargs hx hb hml hown hts hr hlocks hP hK hQ hl
  have hcf : CallFix pz mz cz cX2_tautology 2 sz args wsX2_tautology RX2 := ⟨hx, hb, hml, hown, hts⟩
  have hl : lv_has ls 2 [(0, .ref (me 0)), (1, .int (nI 0))] := hl
  have hN := zN_le hn
  have hm := cnB_le (zN n) (fun p => !zM_inL n t q p)
  refine lv_aload_n hx hb dX2_tautology_0 rfl (lv_at hl 0 rfl) ?_
  refine lv_iload_n hx hb dX2_tautology_1 rfl (lv_at hl 1 rfl) ?_
  refine vz_callV (n := 1) (As := [.int (nI 0)]) (rest := []) (q0 := 0) hcf (c_X2_missing0 l D kA me n g mk ss hn t q ht ht24 hq) gX2_tautology_X2_missing rfl hd_X2_missing ⟨Nat.le_of_ble_eq_true rfl, Nat.le_of_ble_eq_true rfl⟩ hK (hP.sub [0, 1, 2, 3] rfl) rfl rfl rfl rfl hl.1 rfl (Nat.le_of_ble_eq_true rfl) ⟨Nat.zero_le _, Nat.zero_le _⟩ dX2_tautology_2 ?_
  refine lv_if_ne (tgt := 12) hx hb dX2_tautology_5 (by decide) (fun c_5 => ?_) (fun c_5 => ?_)
  · skip
    refine lv_iconst (v := nI 0) hx hb dX2_tautology_12 (by decide) ?_
    exact vz_iret hx hb hr hlocks hQ (rfl) dX2_tautology_13 (by first | (rw [decide_eq_true ((nI_eq (by omega) (by omega)).mp (c_5.trans nI_0.symm))]; rfl) | (rw [decide_eq_false (fun e9 => c_5 (congrArg nI e9))]; rfl))
  · skip
    refine lv_iconst (v := nI 1) hx hb dX2_tautology_8 (by decide) ?_
    refine lv_goto (tgt := 13) hx hb dX2_tautology_9 (by decide) ?_
    exact vz_iret hx hb hr hlocks hQ (rfl) dX2_tautology_13 (by first | (rw [decide_eq_true ((nI_eq (by omega) (by omega)).mp (c_5.trans nI_0.symm))]; rfl) | (rw [decide_eq_false (fun e9 => c_5 (congrArg nI e9))]; rfl))
set_option maxHeartbeats 4000000 in
set_option maxRecDepth 100000 in
theorem c_X2_size1 (l : Launch) (D : va_G) (kA : ClassId) (me : Nat → Nat) (n : Nat) (g mk : Nat → Int32) (ss : Nat → Nat) (hn : n ≤ 8) (t : Nat) (q : Nat → Int32) (ht : ss 1 = t) (ht24 : t ≤ 24) (hq : ∀ j, j < 24 → g (24 * 1 + j) = q j) : vz_M l yX2_size wsX2_size 1 20 [.ref (me 0), .int (nI 1)] D kA [(me 0, .inr (2, [.ref (me 1), .ref (me 2), .ref (me 3), .int (nI n)])), (me 1, .inl (kA, 96, .inl g)), (me 2, .inl (kA, 4, .inl (fun j => nI (ss j)))), (me 3, .inl (kA, 256, .inl mk))] (some (.int (nI t))) := by
  refine vz_start (cc := cX2_size) (maxL := 2) (ret := (some .int)) (own := RX2) (by decide) rfl rfl (Nat.le_of_ble_eq_true rfl) ?_
  intro pz ez sz mz below meth cz args Q ls hargs hx hb hml hown hts hr hlocks hP hK hQ hl
  have hcf : CallFix pz mz cz cX2_size 2 sz args wsX2_size RX2 := ⟨hx, hb, hml, hown, hts⟩
  have hi0 : ∀ w ∈ u_ws RX2 TX2 4, w ∈ wsX2_size := by decide +kernel
  have hf13 : (Cond.fieldLink RX2 13 "CubeMinModel" "sizes" "[I").before args sz = true := hts _ (by decide +kernel)
  have hl : lv_has ls 2 [(0, .ref (me 0)), (1, .int (nI 1))] := hl
  refine lv_iload_n hx hb dX2_size_0 rfl (lv_at hl 1 rfl) ?_
  refine vz_callS (n := 1) (As := [.int (nI 1)]) (rest := []) hcf (c_X2_isList l D kA (nI 1)) gX2_size_X2_isList rfl hd_X2_isList ⟨Nat.le_of_ble_eq_true rfl, Nat.le_of_ble_eq_true rfl⟩ hK (hP.sub [] rfl) rfl hl.1 rfl (Nat.le_of_ble_eq_true rfl) ⟨Nat.zero_le _, Nat.zero_le _⟩ dX2_size_1 ?_
  refine vz_ifeqB (tgt := 16) hx hb dX2_size_4 (by decide) (fun c_4 => absurd c_4 (by decide)) (fun c_4 => ?_)
  refine lv_aload_n hx hb dX2_size_7 rfl (lv_at hl 0 rfl) ?_
  refine va_get (D := D) (ci := 2) (v := .ref (me 2)) (C := RX2) (T := TX2) (N := 4) hx hb hts hi0 hown hK hP 0 rfl rfl 1 (by decide) hf13 (fun _ h9 => h9) rfl dX2_size_8 ?_
  refine lv_iload_n hx hb dX2_size_11 rfl (lv_at hl 1 rfl) ?_
  refine vz_ald hx hb hK hP 2 rfl (by omega) (Nat.le_of_ble_eq_true rfl) dX2_size_12 ?_
  refine vz_top (y := (nI t)) (congrArg nI ht) ?_
  refine lv_goto (tgt := 17) hx hb dX2_size_13 (by decide) ?_
  exact vz_iret hx hb hr hlocks hQ (vp_nar_int _) dX2_size_17 rfl
set_option maxHeartbeats 4000000 in
set_option maxRecDepth 100000 in
theorem c_X2_cube1 (l : Launch) (D : va_G) (kA : ClassId) (me : Nat → Nat) (n : Nat) (g mk : Nat → Int32) (ss : Nat → Nat) (hn : n ≤ 8) (t : Nat) (q : Nat → Int32) (ht : ss 1 = t) (ht24 : t ≤ 24) (hq : ∀ j, j < 24 → g (24 * 1 + j) = q j) (z : Int32) : vz_M l yX2_cube wsX2_cube 1 20 [.ref (me 0), .int (nI 1), .int z] D kA [(me 0, .inr (2, [.ref (me 1), .ref (me 2), .ref (me 3), .int (nI n)])), (me 1, .inl (kA, 96, .inl g)), (me 2, .inl (kA, 4, .inl (fun j => nI (ss j)))), (me 3, .inl (kA, 256, .inl mk))] (some (.int (zat t q z))) := by
  refine vz_start (cc := cX2_cube) (maxL := 3) (ret := (some .int)) (own := RX2) (by decide) rfl rfl (Nat.le_of_ble_eq_true rfl) ?_
  intro pz ez sz mz below meth cz args Q ls hargs hx hb hml hown hts hr hlocks hP hK hQ hl
  have hcf : CallFix pz mz cz cX2_cube 3 sz args wsX2_cube RX2 := ⟨hx, hb, hml, hown, hts⟩
  have hi0 : ∀ w ∈ u_ws RX2 TX2 4, w ∈ wsX2_cube := by decide +kernel
  have hf7 : (Cond.fieldLink RX2 7 "CubeMinModel" "cubes" "[I").before args sz = true := hts _ (by decide +kernel)
  have hf13 : (Cond.fieldLink RX2 13 "CubeMinModel" "sizes" "[I").before args sz = true := hts _ (by decide +kernel)
  have hl : lv_has ls 3 [(0, .ref (me 0)), (1, .int (nI 1)), (2, .int z)] := hl
  refine lv_iload_n hx hb dX2_cube_0 rfl (lv_at hl 1 rfl) ?_
  refine vz_callS (n := 1) (As := [.int (nI 1)]) (rest := []) hcf (c_X2_isList l D kA (nI 1)) gX2_cube_X2_isList rfl hd_X2_isList ⟨Nat.le_of_ble_eq_true rfl, Nat.le_of_ble_eq_true rfl⟩ hK (hP.sub [] rfl) rfl hl.1 rfl (Nat.le_of_ble_eq_true rfl) ⟨Nat.zero_le _, Nat.zero_le _⟩ dX2_cube_1 ?_
  refine vz_ifeqB (tgt := 35) hx hb dX2_cube_4 (by decide) (fun c_4 => absurd c_4 (by decide)) (fun c_4 => ?_)
  refine lv_iload_n hx hb dX2_cube_7 rfl (lv_at hl 2 rfl) ?_
  refine lv_if_lt (tgt := 35) hx hb dX2_cube_8 (by decide) (fun c_8 => ?_) (fun c_8 => ?_)
  · skip
    refine lv_iconst (v := -1) hx hb dX2_cube_35 (by decide) ?_
    exact vz_iret hx hb hr hlocks hQ (vp_nar_int _) dX2_cube_36 (by first | rfl | exact (zat_nI hj ht24).symm | (simp only [zat]; first | rw [if_pos c_8] | rw [if_neg c_8, if_pos c_18]))
  · skip
    refine lv_iload_n hx hb dX2_cube_11 rfl (lv_at hl 2 rfl) ?_
    refine lv_aload_n hx hb dX2_cube_12 rfl (lv_at hl 0 rfl) ?_
    refine va_get (D := D) (ci := 2) (v := .ref (me 2)) (C := RX2) (T := TX2) (N := 4) hx hb hts hi0 hown hK hP 0 rfl rfl 1 (by decide) hf13 (fun _ h9 => h9) rfl dX2_cube_13 ?_
    refine lv_iload_n hx hb dX2_cube_16 rfl (lv_at hl 1 rfl) ?_
    refine vz_ald hx hb hK hP 2 rfl (by omega) (Nat.le_of_ble_eq_true rfl) dX2_cube_17 ?_
    refine vz_top (y := (nI t)) (congrArg nI ht) ?_
    refine lv_icmp_ge (tgt := 35) hx hb dX2_cube_18 (by decide) (fun c_18 => ?_) (fun c_18 => ?_)
    · skip
      refine lv_iconst (v := -1) hx hb dX2_cube_35 (by decide) ?_
      exact vz_iret hx hb hr hlocks hQ (vp_nar_int _) dX2_cube_36 (by first | rfl | exact (zat_nI hj ht24).symm | (simp only [zat]; first | rw [if_pos c_8] | rw [if_neg c_8, if_pos c_18]))
    · skip
      obtain ⟨j, hj, rfl⟩ : ∃ j : Nat, j < t ∧ z = nI j := by
        rcases pk_ix z (n := t) (by omega) with h1 | h1 | h1
        · exact absurd h1 c_8
        · exact absurd h1 c_18
        · exact h1
      refine lv_aload_n hx hb dX2_cube_21 rfl (lv_at hl 0 rfl) ?_
      refine va_get (D := D) (ci := 2) (v := .ref (me 1)) (C := RX2) (T := TX2) (N := 4) hx hb hts hi0 hown hK hP 0 rfl rfl 0 (by decide) hf7 (fun _ h9 => h9) rfl dX2_cube_22 ?_
      refine lv_bipush (v := nI 24) hx hb dX2_cube_25 (by decide) ?_
      refine lv_iload_n hx hb dX2_cube_27 rfl (lv_at hl 1 rfl) ?_
      refine vz_mul hx hb dX2_cube_28 ?_
      refine lv_iload_n hx hb dX2_cube_29 rfl (lv_at hl 2 rfl) ?_
      refine vz_add hx hb dX2_cube_30 ?_
      refine vz_ald hx hb hK hP 1 rfl (by omega) (Nat.le_of_ble_eq_true rfl) dX2_cube_31 ?_
      refine vz_top (y := (q j)) (hq j (by omega)) ?_
      refine lv_goto (tgt := 36) hx hb dX2_cube_32 (by decide) ?_
      exact vz_iret hx hb hr hlocks hQ (vp_nar_int _) dX2_cube_36 (by first | rfl | exact (zat_nI hj ht24).symm | (simp only [zat]; first | rw [if_pos c_8] | rw [if_neg c_8, if_pos c_18]))
set_option maxHeartbeats 4000000 in
set_option maxRecDepth 100000 in
theorem c_X2_literals1 (l : Launch) (D : va_G) (kA : ClassId) (me : Nat → Nat) (n : Nat) (g mk : Nat → Int32) (ss : Nat → Nat) (hn : n ≤ 8) (t : Nat) (q : Nat → Int32) (ht : ss 1 = t) (ht24 : t ≤ 24) (hq : ∀ j, j < 24 → g (24 * 1 + j) = q j) : vz_M l yX2_literals wsX2_literals 1 24 [.ref (me 0), .int (nI 1)] D kA [(me 0, .inr (2, [.ref (me 1), .ref (me 2), .ref (me 3), .int (nI n)])), (me 1, .inl (kA, 96, .inl g)), (me 2, .inl (kA, 4, .inl (fun j => nI (ss j)))), (me 3, .inl (kA, 256, .inl mk))] (some (.int (nI (mlits n t q)))) := by
  refine vz_start (cc := cX2_literals) (maxL := 2) (ret := (some .int)) (own := RX2) (by decide) rfl rfl (Nat.le_of_ble_eq_true rfl) ?_
  intro pz ez sz mz below meth cz args Q ls hargs hx hb hml hown hts hr hlocks hP hK hQ hl
  have hcf : CallFix pz mz cz cX2_literals 2 sz args wsX2_literals RX2 := ⟨hx, hb, hml, hown, hts⟩
  have hl : lv_has ls 2 [(0, .ref (me 0)), (1, .int (nI 1))] := hl
  refine lv_iload_n hx hb dX2_literals_0 rfl (lv_at hl 1 rfl) ?_
  refine vz_callS (n := 1) (As := [.int (nI 1)]) (rest := []) hcf (c_X2_isList l D kA (nI 1)) gX2_literals_X2_isList rfl hd_X2_isList ⟨Nat.le_of_ble_eq_true rfl, Nat.le_of_ble_eq_true rfl⟩ hK (hP.sub [] rfl) rfl hl.1 rfl (Nat.le_of_ble_eq_true rfl) ⟨Nat.zero_le _, Nat.zero_le _⟩ dX2_literals_1 ?_
  refine vz_ifeqB (tgt := 15) hx hb dX2_literals_4 (by decide) (fun c_4 => absurd c_4 (by decide)) (fun c_4 => ?_)
  refine lv_aload_n hx hb dX2_literals_7 rfl (lv_at hl 0 rfl) ?_
  refine lv_iload_n hx hb dX2_literals_8 rfl (lv_at hl 1 rfl) ?_
  refine vz_callV (n := 1) (As := [.int (nI 1)]) (rest := []) (q0 := 0) hcf (c_X2_literalsOf l D kA me n g mk ss hn 1 t q (by decide) ht ht24 hq) gX2_literals_X2_literalsOf rfl hd_X2_literalsOf ⟨Nat.le_of_ble_eq_true rfl, Nat.le_of_ble_eq_true rfl⟩ hK (hP.sub [0, 1, 2, 3] rfl) rfl rfl rfl rfl hl.1 rfl (Nat.le_of_ble_eq_true rfl) ⟨Nat.zero_le _, Nat.zero_le _⟩ dX2_literals_9 ?_
  refine lv_goto (tgt := 16) hx hb dX2_literals_12 (by decide) ?_
  exact vz_iret hx hb hr hlocks hQ (vp_nar_int _) dX2_literals_16 rfl
set_option maxHeartbeats 4000000 in
set_option maxRecDepth 100000 in
theorem c_X2_holds1 (l : Launch) (D : va_G) (kA : ClassId) (me : Nat → Nat) (n : Nat) (g mk : Nat → Int32) (ss : Nat → Nat) (hn : n ≤ 8) (t : Nat) (q : Nat → Int32) (ht : ss 1 = t) (ht24 : t ≤ 24) (hq : ∀ j, j < 24 → g (24 * 1 + j) = q j) (z : Int32) : vz_M l yX2_holds wsX2_holds 2 46 [.ref (me 0), .int (nI 1), .int z] D kA [(me 0, .inr (2, [.ref (me 1), .ref (me 2), .ref (me 3), .int (nI n)])), (me 1, .inl (kA, 96, .inl g)), (me 2, .inl (kA, 4, .inl (fun j => nI (ss j)))), (me 3, .inl (kA, 256, .inl mk))] (some (.int (vz_b ((!decide (z < 0) && !decide (nI (zN n) ≤ z)) && zM_inL n t q z.toNatClampNeg)))) := by
  refine vz_start (cc := cX2_holds) (maxL := 3) (ret := (some .boolean)) (own := RX2) (by decide) rfl rfl (Nat.le_of_ble_eq_true rfl) ?_
  intro pz ez sz mz below meth cz args Q ls hargs hx hb hml hown hts hr hlocks hP hK hQ hl
  have hcf : CallFix pz mz cz cX2_holds 3 sz args wsX2_holds RX2 := ⟨hx, hb, hml, hown, hts⟩
  have hl : lv_has ls 3 [(0, .ref (me 0)), (1, .int (nI 1)), (2, .int z)] := hl
  have hN := zN_le hn
  refine lv_iload_n hx hb dX2_holds_0 rfl (lv_at hl 1 rfl) ?_
  refine vz_callS (n := 1) (As := [.int (nI 1)]) (rest := []) hcf (c_X2_isList l D kA (nI 1)) gX2_holds_X2_isList rfl hd_X2_isList ⟨Nat.le_of_ble_eq_true rfl, Nat.le_of_ble_eq_true rfl⟩ hK (hP.sub [] rfl) rfl hl.1 rfl (Nat.le_of_ble_eq_true rfl) ⟨Nat.zero_le _, Nat.zero_le _⟩ dX2_holds_1 ?_
  refine vz_ifeqB (tgt := 28) hx hb dX2_holds_4 (by decide) (fun c_4 => absurd c_4 (by decide)) (fun c_4 => ?_)
  refine lv_aload_n hx hb dX2_holds_7 rfl (lv_at hl 0 rfl) ?_
  refine lv_iload_n hx hb dX2_holds_8 rfl (lv_at hl 2 rfl) ?_
  refine vz_callV (n := 1) (As := [.int z]) (rest := []) (q0 := 0) hcf (c_X2_isPoint l D kA me n g mk ss hn z) gX2_holds_X2_isPoint rfl hd_X2_isPoint ⟨Nat.le_of_ble_eq_true rfl, Nat.le_of_ble_eq_true rfl⟩ hK (hP.sub [0, 1, 2, 3] rfl) rfl rfl rfl rfl hl.1 rfl (Nat.le_of_ble_eq_true rfl) ⟨Nat.zero_le _, Nat.zero_le _⟩ dX2_holds_9 ?_
  refine vz_ifeqB (tgt := 28) hx hb dX2_holds_12 (by decide) (fun c_12 => ?_) (fun c_12 => ?_)
  · skip
    refine lv_iconst (v := nI 0) hx hb dX2_holds_28 (by decide) ?_
    exact vz_iret hx hb hr hlocks hQ (rfl) dX2_holds_29 (by first | rfl | (rw [c_12]; rfl) | (rw [hwc, c_21, c_12]; rfl) | (rw [c_12]; rw [hwc, c_21]; rfl) | (rw [hwc, c_21]; simp; rfl))
  · skip
    obtain ⟨w, hw, rfl⟩ : ∃ w : Nat, w < zN n ∧ z = nI w := by
      have c_99 := c_12
      simp only [Bool.and_eq_true, Bool.not_eq_true', decide_eq_false_iff_not] at c_99
      rcases pk_ix z (n := zN n) (by omega) with h1 | h1 | h1
      · exact absurd h1 c_99.1
      · exact absurd h1 c_99.2
      · exact h1
    have hwc : (nI w).toNatClampNeg = w := nI_clamp (by omega)
    refine lv_aload_n hx hb dX2_holds_15 rfl (lv_at hl 0 rfl) ?_
    refine lv_iload_n hx hb dX2_holds_16 rfl (lv_at hl 2 rfl) ?_
    refine lv_iload_n hx hb dX2_holds_17 rfl (lv_at hl 1 rfl) ?_
    refine vz_callV (n := 2) (As := [.int (nI w), .int (nI 1)]) (rest := []) (q0 := 0) hcf (c_X2_inList l D kA me n g mk ss hn 1 t q (by decide) ht ht24 hq w (by omega)) gX2_holds_X2_inList rfl hd_X2_inList ⟨Nat.le_of_ble_eq_true rfl, Nat.le_of_ble_eq_true rfl⟩ hK (hP.sub [0, 1, 2, 3] rfl) rfl rfl rfl rfl hl.1 rfl (Nat.le_of_ble_eq_true rfl) ⟨Nat.zero_le _, Nat.zero_le _⟩ dX2_holds_18 ?_
    refine vz_ifeqB (tgt := 28) hx hb dX2_holds_21 (by decide) (fun c_21 => ?_) (fun c_21 => ?_)
    · skip
      refine lv_iconst (v := nI 0) hx hb dX2_holds_28 (by decide) ?_
      exact vz_iret hx hb hr hlocks hQ (rfl) dX2_holds_29 (by first | rfl | (rw [c_12]; rfl) | (rw [hwc, c_21, c_12]; rfl) | (rw [c_12]; rw [hwc, c_21]; rfl) | (rw [hwc, c_21]; simp; rfl))
    · skip
      refine lv_iconst (v := nI 1) hx hb dX2_holds_24 (by decide) ?_
      refine lv_goto (tgt := 29) hx hb dX2_holds_25 (by decide) ?_
      exact vz_iret hx hb hr hlocks hQ (rfl) dX2_holds_29 (by first | rfl | (rw [c_12]; rfl) | (rw [hwc, c_21, c_12]; rfl) | (rw [c_12]; rw [hwc, c_21]; rfl) | (rw [hwc, c_21]; simp; rfl))
set_option maxHeartbeats 4000000 in
set_option maxRecDepth 100000 in
theorem c_X2_missing1 (l : Launch) (D : va_G) (kA : ClassId) (me : Nat → Nat) (n : Nat) (g mk : Nat → Int32) (ss : Nat → Nat) (hn : n ≤ 8) (t : Nat) (q : Nat → Int32) (ht : ss 1 = t) (ht24 : t ≤ 24) (hq : ∀ j, j < 24 → g (24 * 1 + j) = q j) : vz_M l yX2_missing wsX2_missing 2 46 [.ref (me 0), .int (nI 1)] D kA [(me 0, .inr (2, [.ref (me 1), .ref (me 2), .ref (me 3), .int (nI n)])), (me 1, .inl (kA, 96, .inl g)), (me 2, .inl (kA, 4, .inl (fun j => nI (ss j)))), (me 3, .inl (kA, 256, .inl mk))] (some (.int (nI (cnB (zN n) (fun p => !zM_inL n t q p))))) := by
  refine vz_start (cc := cX2_missing) (maxL := 4) (ret := (some .int)) (own := RX2) (by decide) rfl rfl (Nat.le_of_ble_eq_true rfl) ?_
  intro pz ez sz mz below meth cz args Q ls hargs hx hb hml hown hts hr hlocks hP hK hQ hl
  have hcf : CallFix pz mz cz cX2_missing 4 sz args wsX2_missing RX2 := ⟨hx, hb, hml, hown, hts⟩
  have hi0 : ∀ w ∈ u_ws RX2 TX2 4, w ∈ wsX2_missing := by decide +kernel
  have hf19 : (Cond.fieldLink RX2 19 "CubeMinModel" "n" "I").before args sz = true := hts _ (by decide +kernel)
  have hl : lv_has ls 4 [(0, .ref (me 0)), (1, .int (nI 1))] := hl
  have hN := zN_le hn
  refine lv_iload_n hx hb dX2_missing_0 rfl (lv_at hl 1 rfl) ?_
  refine vz_callS (n := 1) (As := [.int (nI 1)]) (rest := []) hcf (c_X2_isList l D kA (nI 1)) gX2_missing_X2_isList rfl hd_X2_isList ⟨Nat.le_of_ble_eq_true rfl, Nat.le_of_ble_eq_true rfl⟩ hK (hP.sub [] rfl) rfl hl.1 rfl (Nat.le_of_ble_eq_true rfl) ⟨Nat.zero_le _, Nat.zero_le _⟩ dX2_missing_1 ?_
  refine vz_ifneB (tgt := 9) hx hb dX2_missing_4 (by decide) (fun c_4 => ?_) (fun c_4 => absurd c_4 (by decide))
  refine lv_iconst (v := nI 0) hx hb dX2_missing_9 (by decide) ?_
  refine lv_istore_n (lv' := [(2, .int (nI 0)), (0, .ref (me 0)), (1, .int (nI 1))]) hx hb dX2_missing_10 rfl hl (by decide) rfl (fun ls hl => ?_)
  refine lv_iconst (v := nI 0) hx hb dX2_missing_11 (by decide) ?_
  refine lv_istore_n (lv' := [(3, .int (nI 0)), (2, .int (nI 0)), (0, .ref (me 0)), (1, .int (nI 1))]) hx hb dX2_missing_12 rfl hl (by decide) rfl (fun ls hl => ?_)
  have lp1 : ∀ (dz : Nat) (u i : Nat) (ls : Array Slot), (zN n - i) < dz → (i ≤ zN n) → (u = cnB i (fun p => !zM_inL n t q p)) → lv_has ls 4 [(0, .ref (me 0)), (1, .int (nI 1)), (2, .int (nI u)), (3, .int (nI i))] → W pz l ez (vz_R 2 46) sz mz args below meth cz sz.heap [] 0 0 Q (F0 mz 13 ls []) := by
    intro dz
    induction dz with
    | zero => intro u i ls hd h1 h2 hl; exact absurd hd (Nat.not_lt_zero _)
    | succ dz ih1 =>
      intro u i ls hd h1 h2 hl
      refine lv_iload_n hx hb dX2_missing_13 rfl (lv_at hl 3 rfl) ?_
      refine lv_iconst (v := nI 1) hx hb dX2_missing_14 (by decide) ?_
      refine lv_aload_n hx hb dX2_missing_15 rfl (lv_at hl 0 rfl) ?_
      refine va_get (D := D) (ci := 2) (v := .int (nI n)) (C := RX2) (T := TX2) (N := 4) hx hb hts hi0 hown hK hP 0 rfl rfl 3 (by decide) hf19 (fun _ h9 => h9) rfl dX2_missing_16 ?_
      refine lv_ishl hx hb dX2_missing_19 ?_
      refine vz_top (y := (nI (zN n))) (zN_sh n hn) ?_
      refine vz_cge (tgt := 41) hx hb dX2_missing_20 (by decide) (by omega) (by omega) (fun c_20 => ?_) (fun c_20 => ?_)
      · skip
        obtain rfl : i = zN n := by omega
        refine lv_iload_n hx hb dX2_missing_41 rfl (lv_at hl 2 rfl) ?_
        exact vz_iret hx hb hr hlocks hQ (vp_nar_int _) dX2_missing_42 (by rw [h2])
      · skip
        refine lv_aload_n hx hb dX2_missing_23 rfl (lv_at hl 0 rfl) ?_
        refine lv_iload_n hx hb dX2_missing_24 rfl (lv_at hl 3 rfl) ?_
        refine lv_iload_n hx hb dX2_missing_25 rfl (lv_at hl 1 rfl) ?_
        refine vz_callV (n := 2) (As := [.int (nI i), .int (nI 1)]) (rest := []) (q0 := 0) hcf (c_X2_inList l D kA me n g mk ss hn 1 t q (by decide) ht ht24 hq i (by omega)) gX2_missing_X2_inList rfl hd_X2_inList ⟨Nat.le_of_ble_eq_true rfl, Nat.le_of_ble_eq_true rfl⟩ hK (hP.sub [0, 1, 2, 3] rfl) rfl rfl rfl rfl hl.1 rfl (Nat.le_of_ble_eq_true rfl) ⟨Nat.zero_le _, Nat.zero_le _⟩ dX2_missing_26 ?_
        refine vz_ifneB (tgt := 35) hx hb dX2_missing_29 (by decide) (fun c_29 => ?_) (fun c_29 => ?_)
        · skip
          refine lv_iinc (v := (nI (i + 1))) (lv' := [(3, .int (nI (i + 1))), (0, .ref (me 0)), (1, .int (nI 1)), (2, .int (nI u))]) hx hb dX2_missing_35 hl (k := 3) rfl (nI_1 _) (by decide) rfl (fun ls hl => ?_)
          refine lv_goto (tgt := 13) hx hb dX2_missing_38 (by decide) ?_
          exact ih1 u (i + 1) _ (by omega) (by omega) (by simp [cnB, c_29, h2]) (lv_sub hl [1, 2, 3, 0] rfl)
        · skip
          refine lv_iinc (v := (nI (u + 1))) (lv' := [(2, .int (nI (u + 1))), (0, .ref (me 0)), (1, .int (nI 1)), (3, .int (nI i))]) hx hb dX2_missing_32 hl (k := 2) rfl (nI_1 _) (by decide) rfl (fun ls hl => ?_)
          refine lv_iinc (v := (nI (i + 1))) (lv' := [(3, .int (nI (i + 1))), (2, .int (nI (u + 1))), (0, .ref (me 0)), (1, .int (nI 1))]) hx hb dX2_missing_35 hl (k := 3) rfl (nI_1 _) (by decide) rfl (fun ls hl => ?_)
          refine lv_goto (tgt := 13) hx hb dX2_missing_38 (by decide) ?_
          exact ih1 (u + 1) (i + 1) _ (by omega) (by omega) (by simp [cnB, c_29, h2]) (lv_sub hl [2, 3, 1, 0] rfl)
  exact lp1 _ 0 0 _ (Nat.lt_succ_self _) (by omega) rfl (lv_sub hl [2, 3, 1, 0] rfl)
set_option maxHeartbeats 4000000 in
set_option maxRecDepth 100000 in
theorem c_X2_tautology1 (l : Launch) (D : va_G) (kA : ClassId) (me : Nat → Nat) (n : Nat) (g mk : Nat → Int32) (ss : Nat → Nat) (hn : n ≤ 8) (t : Nat) (q : Nat → Int32) (ht : ss 1 = t) (ht24 : t ≤ 24) (hq : ∀ j, j < 24 → g (24 * 1 + j) = q j) : vz_M l yX2_tautology wsX2_tautology 3 69 [.ref (me 0), .int (nI 1)] D kA [(me 0, .inr (2, [.ref (me 1), .ref (me 2), .ref (me 3), .int (nI n)])), (me 1, .inl (kA, 96, .inl g)), (me 2, .inl (kA, 4, .inl (fun j => nI (ss j)))), (me 3, .inl (kA, 256, .inl mk))] (some (.int (vz_b (decide (cnB (zN n) (fun p => !zM_inL n t q p) = 0))))) := by
  refine vz_start (cc := cX2_tautology) (maxL := 2) (ret := (some .boolean)) (own := RX2) (by decide) rfl rfl (Nat.le_of_ble_eq_true rfl) ?_
  intro pz ez sz mz below meth cz args Q ls hargs hx hb hml hown hts hr hlocks hP hK hQ hl
  have hcf : CallFix pz mz cz cX2_tautology 2 sz args wsX2_tautology RX2 := ⟨hx, hb, hml, hown, hts⟩
  have hl : lv_has ls 2 [(0, .ref (me 0)), (1, .int (nI 1))] := hl
  have hN := zN_le hn
  have hm := cnB_le (zN n) (fun p => !zM_inL n t q p)
  refine lv_aload_n hx hb dX2_tautology_0 rfl (lv_at hl 0 rfl) ?_
  refine lv_iload_n hx hb dX2_tautology_1 rfl (lv_at hl 1 rfl) ?_
  refine vz_callV (n := 1) (As := [.int (nI 1)]) (rest := []) (q0 := 0) hcf (c_X2_missing1 l D kA me n g mk ss hn t q ht ht24 hq) gX2_tautology_X2_missing rfl hd_X2_missing ⟨Nat.le_of_ble_eq_true rfl, Nat.le_of_ble_eq_true rfl⟩ hK (hP.sub [0, 1, 2, 3] rfl) rfl rfl rfl rfl hl.1 rfl (Nat.le_of_ble_eq_true rfl) ⟨Nat.zero_le _, Nat.zero_le _⟩ dX2_tautology_2 ?_
  refine lv_if_ne (tgt := 12) hx hb dX2_tautology_5 (by decide) (fun c_5 => ?_) (fun c_5 => ?_)
  · skip
    refine lv_iconst (v := nI 0) hx hb dX2_tautology_12 (by decide) ?_
    exact vz_iret hx hb hr hlocks hQ (rfl) dX2_tautology_13 (by first | (rw [decide_eq_true ((nI_eq (by omega) (by omega)).mp (c_5.trans nI_0.symm))]; rfl) | (rw [decide_eq_false (fun e9 => c_5 (congrArg nI e9))]; rfl))
  · skip
    refine lv_iconst (v := nI 1) hx hb dX2_tautology_8 (by decide) ?_
    refine lv_goto (tgt := 13) hx hb dX2_tautology_9 (by decide) ?_
    exact vz_iret hx hb hr hlocks hQ (rfl) dX2_tautology_13 (by first | (rw [decide_eq_true ((nI_eq (by omega) (by omega)).mp (c_5.trans nI_0.symm))]; rfl) | (rw [decide_eq_false (fun e9 => c_5 (congrArg nI e9))]; rfl))
set_option maxHeartbeats 4000000 in
set_option maxRecDepth 100000 in
theorem c_X2_size2 (l : Launch) (D : va_G) (kA : ClassId) (me : Nat → Nat) (n : Nat) (g mk : Nat → Int32) (ss : Nat → Nat) (hn : n ≤ 8) (t : Nat) (q : Nat → Int32) (ht : ss 2 = t) (ht24 : t ≤ 24) (hq : ∀ j, j < 24 → g (24 * 2 + j) = q j) : vz_M l yX2_size wsX2_size 1 20 [.ref (me 0), .int (nI 2)] D kA [(me 0, .inr (2, [.ref (me 1), .ref (me 2), .ref (me 3), .int (nI n)])), (me 1, .inl (kA, 96, .inl g)), (me 2, .inl (kA, 4, .inl (fun j => nI (ss j)))), (me 3, .inl (kA, 256, .inl mk))] (some (.int (nI t))) := by
  refine vz_start (cc := cX2_size) (maxL := 2) (ret := (some .int)) (own := RX2) (by decide) rfl rfl (Nat.le_of_ble_eq_true rfl) ?_
  intro pz ez sz mz below meth cz args Q ls hargs hx hb hml hown hts hr hlocks hP hK hQ hl
  have hcf : CallFix pz mz cz cX2_size 2 sz args wsX2_size RX2 := ⟨hx, hb, hml, hown, hts⟩
  have hi0 : ∀ w ∈ u_ws RX2 TX2 4, w ∈ wsX2_size := by decide +kernel
  have hf13 : (Cond.fieldLink RX2 13 "CubeMinModel" "sizes" "[I").before args sz = true := hts _ (by decide +kernel)
  have hl : lv_has ls 2 [(0, .ref (me 0)), (1, .int (nI 2))] := hl
  refine lv_iload_n hx hb dX2_size_0 rfl (lv_at hl 1 rfl) ?_
  refine vz_callS (n := 1) (As := [.int (nI 2)]) (rest := []) hcf (c_X2_isList l D kA (nI 2)) gX2_size_X2_isList rfl hd_X2_isList ⟨Nat.le_of_ble_eq_true rfl, Nat.le_of_ble_eq_true rfl⟩ hK (hP.sub [] rfl) rfl hl.1 rfl (Nat.le_of_ble_eq_true rfl) ⟨Nat.zero_le _, Nat.zero_le _⟩ dX2_size_1 ?_
  refine vz_ifeqB (tgt := 16) hx hb dX2_size_4 (by decide) (fun c_4 => absurd c_4 (by decide)) (fun c_4 => ?_)
  refine lv_aload_n hx hb dX2_size_7 rfl (lv_at hl 0 rfl) ?_
  refine va_get (D := D) (ci := 2) (v := .ref (me 2)) (C := RX2) (T := TX2) (N := 4) hx hb hts hi0 hown hK hP 0 rfl rfl 1 (by decide) hf13 (fun _ h9 => h9) rfl dX2_size_8 ?_
  refine lv_iload_n hx hb dX2_size_11 rfl (lv_at hl 1 rfl) ?_
  refine vz_ald hx hb hK hP 2 rfl (by omega) (Nat.le_of_ble_eq_true rfl) dX2_size_12 ?_
  refine vz_top (y := (nI t)) (congrArg nI ht) ?_
  refine lv_goto (tgt := 17) hx hb dX2_size_13 (by decide) ?_
  exact vz_iret hx hb hr hlocks hQ (vp_nar_int _) dX2_size_17 rfl
set_option maxHeartbeats 4000000 in
set_option maxRecDepth 100000 in
theorem c_X2_cube2 (l : Launch) (D : va_G) (kA : ClassId) (me : Nat → Nat) (n : Nat) (g mk : Nat → Int32) (ss : Nat → Nat) (hn : n ≤ 8) (t : Nat) (q : Nat → Int32) (ht : ss 2 = t) (ht24 : t ≤ 24) (hq : ∀ j, j < 24 → g (24 * 2 + j) = q j) (z : Int32) : vz_M l yX2_cube wsX2_cube 1 20 [.ref (me 0), .int (nI 2), .int z] D kA [(me 0, .inr (2, [.ref (me 1), .ref (me 2), .ref (me 3), .int (nI n)])), (me 1, .inl (kA, 96, .inl g)), (me 2, .inl (kA, 4, .inl (fun j => nI (ss j)))), (me 3, .inl (kA, 256, .inl mk))] (some (.int (zat t q z))) := by
  refine vz_start (cc := cX2_cube) (maxL := 3) (ret := (some .int)) (own := RX2) (by decide) rfl rfl (Nat.le_of_ble_eq_true rfl) ?_
  intro pz ez sz mz below meth cz args Q ls hargs hx hb hml hown hts hr hlocks hP hK hQ hl
  have hcf : CallFix pz mz cz cX2_cube 3 sz args wsX2_cube RX2 := ⟨hx, hb, hml, hown, hts⟩
  have hi0 : ∀ w ∈ u_ws RX2 TX2 4, w ∈ wsX2_cube := by decide +kernel
  have hf7 : (Cond.fieldLink RX2 7 "CubeMinModel" "cubes" "[I").before args sz = true := hts _ (by decide +kernel)
  have hf13 : (Cond.fieldLink RX2 13 "CubeMinModel" "sizes" "[I").before args sz = true := hts _ (by decide +kernel)
  have hl : lv_has ls 3 [(0, .ref (me 0)), (1, .int (nI 2)), (2, .int z)] := hl
  refine lv_iload_n hx hb dX2_cube_0 rfl (lv_at hl 1 rfl) ?_
  refine vz_callS (n := 1) (As := [.int (nI 2)]) (rest := []) hcf (c_X2_isList l D kA (nI 2)) gX2_cube_X2_isList rfl hd_X2_isList ⟨Nat.le_of_ble_eq_true rfl, Nat.le_of_ble_eq_true rfl⟩ hK (hP.sub [] rfl) rfl hl.1 rfl (Nat.le_of_ble_eq_true rfl) ⟨Nat.zero_le _, Nat.zero_le _⟩ dX2_cube_1 ?_
  refine vz_ifeqB (tgt := 35) hx hb dX2_cube_4 (by decide) (fun c_4 => absurd c_4 (by decide)) (fun c_4 => ?_)
  refine lv_iload_n hx hb dX2_cube_7 rfl (lv_at hl 2 rfl) ?_
  refine lv_if_lt (tgt := 35) hx hb dX2_cube_8 (by decide) (fun c_8 => ?_) (fun c_8 => ?_)
  · skip
    refine lv_iconst (v := -1) hx hb dX2_cube_35 (by decide) ?_
    exact vz_iret hx hb hr hlocks hQ (vp_nar_int _) dX2_cube_36 (by first | rfl | exact (zat_nI hj ht24).symm | (simp only [zat]; first | rw [if_pos c_8] | rw [if_neg c_8, if_pos c_18]))
  · skip
    refine lv_iload_n hx hb dX2_cube_11 rfl (lv_at hl 2 rfl) ?_
    refine lv_aload_n hx hb dX2_cube_12 rfl (lv_at hl 0 rfl) ?_
    refine va_get (D := D) (ci := 2) (v := .ref (me 2)) (C := RX2) (T := TX2) (N := 4) hx hb hts hi0 hown hK hP 0 rfl rfl 1 (by decide) hf13 (fun _ h9 => h9) rfl dX2_cube_13 ?_
    refine lv_iload_n hx hb dX2_cube_16 rfl (lv_at hl 1 rfl) ?_
    refine vz_ald hx hb hK hP 2 rfl (by omega) (Nat.le_of_ble_eq_true rfl) dX2_cube_17 ?_
    refine vz_top (y := (nI t)) (congrArg nI ht) ?_
    refine lv_icmp_ge (tgt := 35) hx hb dX2_cube_18 (by decide) (fun c_18 => ?_) (fun c_18 => ?_)
    · skip
      refine lv_iconst (v := -1) hx hb dX2_cube_35 (by decide) ?_
      exact vz_iret hx hb hr hlocks hQ (vp_nar_int _) dX2_cube_36 (by first | rfl | exact (zat_nI hj ht24).symm | (simp only [zat]; first | rw [if_pos c_8] | rw [if_neg c_8, if_pos c_18]))
    · skip
      obtain ⟨j, hj, rfl⟩ : ∃ j : Nat, j < t ∧ z = nI j := by
        rcases pk_ix z (n := t) (by omega) with h1 | h1 | h1
        · exact absurd h1 c_8
        · exact absurd h1 c_18
        · exact h1
      refine lv_aload_n hx hb dX2_cube_21 rfl (lv_at hl 0 rfl) ?_
      refine va_get (D := D) (ci := 2) (v := .ref (me 1)) (C := RX2) (T := TX2) (N := 4) hx hb hts hi0 hown hK hP 0 rfl rfl 0 (by decide) hf7 (fun _ h9 => h9) rfl dX2_cube_22 ?_
      refine lv_bipush (v := nI 24) hx hb dX2_cube_25 (by decide) ?_
      refine lv_iload_n hx hb dX2_cube_27 rfl (lv_at hl 1 rfl) ?_
      refine vz_mul hx hb dX2_cube_28 ?_
      refine lv_iload_n hx hb dX2_cube_29 rfl (lv_at hl 2 rfl) ?_
      refine vz_add hx hb dX2_cube_30 ?_
      refine vz_ald hx hb hK hP 1 rfl (by omega) (Nat.le_of_ble_eq_true rfl) dX2_cube_31 ?_
      refine vz_top (y := (q j)) (hq j (by omega)) ?_
      refine lv_goto (tgt := 36) hx hb dX2_cube_32 (by decide) ?_
      exact vz_iret hx hb hr hlocks hQ (vp_nar_int _) dX2_cube_36 (by first | rfl | exact (zat_nI hj ht24).symm | (simp only [zat]; first | rw [if_pos c_8] | rw [if_neg c_8, if_pos c_18]))
set_option maxHeartbeats 4000000 in
set_option maxRecDepth 100000 in
theorem c_X2_literals2 (l : Launch) (D : va_G) (kA : ClassId) (me : Nat → Nat) (n : Nat) (g mk : Nat → Int32) (ss : Nat → Nat) (hn : n ≤ 8) (t : Nat) (q : Nat → Int32) (ht : ss 2 = t) (ht24 : t ≤ 24) (hq : ∀ j, j < 24 → g (24 * 2 + j) = q j) : vz_M l yX2_literals wsX2_literals 1 24 [.ref (me 0), .int (nI 2)] D kA [(me 0, .inr (2, [.ref (me 1), .ref (me 2), .ref (me 3), .int (nI n)])), (me 1, .inl (kA, 96, .inl g)), (me 2, .inl (kA, 4, .inl (fun j => nI (ss j)))), (me 3, .inl (kA, 256, .inl mk))] (some (.int (nI (mlits n t q)))) := by
  refine vz_start (cc := cX2_literals) (maxL := 2) (ret := (some .int)) (own := RX2) (by decide) rfl rfl (Nat.le_of_ble_eq_true rfl) ?_
  intro pz ez sz mz below meth cz args Q ls hargs hx hb hml hown hts hr hlocks hP hK hQ hl
  have hcf : CallFix pz mz cz cX2_literals 2 sz args wsX2_literals RX2 := ⟨hx, hb, hml, hown, hts⟩
  have hl : lv_has ls 2 [(0, .ref (me 0)), (1, .int (nI 2))] := hl
  refine lv_iload_n hx hb dX2_literals_0 rfl (lv_at hl 1 rfl) ?_
  refine vz_callS (n := 1) (As := [.int (nI 2)]) (rest := []) hcf (c_X2_isList l D kA (nI 2)) gX2_literals_X2_isList rfl hd_X2_isList ⟨Nat.le_of_ble_eq_true rfl, Nat.le_of_ble_eq_true rfl⟩ hK (hP.sub [] rfl) rfl hl.1 rfl (Nat.le_of_ble_eq_true rfl) ⟨Nat.zero_le _, Nat.zero_le _⟩ dX2_literals_1 ?_
  refine vz_ifeqB (tgt := 15) hx hb dX2_literals_4 (by decide) (fun c_4 => absurd c_4 (by decide)) (fun c_4 => ?_)
  refine lv_aload_n hx hb dX2_literals_7 rfl (lv_at hl 0 rfl) ?_
  refine lv_iload_n hx hb dX2_literals_8 rfl (lv_at hl 1 rfl) ?_
  refine vz_callV (n := 1) (As := [.int (nI 2)]) (rest := []) (q0 := 0) hcf (c_X2_literalsOf l D kA me n g mk ss hn 2 t q (by decide) ht ht24 hq) gX2_literals_X2_literalsOf rfl hd_X2_literalsOf ⟨Nat.le_of_ble_eq_true rfl, Nat.le_of_ble_eq_true rfl⟩ hK (hP.sub [0, 1, 2, 3] rfl) rfl rfl rfl rfl hl.1 rfl (Nat.le_of_ble_eq_true rfl) ⟨Nat.zero_le _, Nat.zero_le _⟩ dX2_literals_9 ?_
  refine lv_goto (tgt := 16) hx hb dX2_literals_12 (by decide) ?_
  exact vz_iret hx hb hr hlocks hQ (vp_nar_int _) dX2_literals_16 rfl
set_option maxHeartbeats 4000000 in
set_option maxRecDepth 100000 in
theorem c_X2_holds2 (l : Launch) (D : va_G) (kA : ClassId) (me : Nat → Nat) (n : Nat) (g mk : Nat → Int32) (ss : Nat → Nat) (hn : n ≤ 8) (t : Nat) (q : Nat → Int32) (ht : ss 2 = t) (ht24 : t ≤ 24) (hq : ∀ j, j < 24 → g (24 * 2 + j) = q j) (z : Int32) : vz_M l yX2_holds wsX2_holds 2 46 [.ref (me 0), .int (nI 2), .int z] D kA [(me 0, .inr (2, [.ref (me 1), .ref (me 2), .ref (me 3), .int (nI n)])), (me 1, .inl (kA, 96, .inl g)), (me 2, .inl (kA, 4, .inl (fun j => nI (ss j)))), (me 3, .inl (kA, 256, .inl mk))] (some (.int (vz_b ((!decide (z < 0) && !decide (nI (zN n) ≤ z)) && zM_inL n t q z.toNatClampNeg)))) := by
  refine vz_start (cc := cX2_holds) (maxL := 3) (ret := (some .boolean)) (own := RX2) (by decide) rfl rfl (Nat.le_of_ble_eq_true rfl) ?_
  intro pz ez sz mz below meth cz args Q ls hargs hx hb hml hown hts hr hlocks hP hK hQ hl
  have hcf : CallFix pz mz cz cX2_holds 3 sz args wsX2_holds RX2 := ⟨hx, hb, hml, hown, hts⟩
  have hl : lv_has ls 3 [(0, .ref (me 0)), (1, .int (nI 2)), (2, .int z)] := hl
  have hN := zN_le hn
  refine lv_iload_n hx hb dX2_holds_0 rfl (lv_at hl 1 rfl) ?_
  refine vz_callS (n := 1) (As := [.int (nI 2)]) (rest := []) hcf (c_X2_isList l D kA (nI 2)) gX2_holds_X2_isList rfl hd_X2_isList ⟨Nat.le_of_ble_eq_true rfl, Nat.le_of_ble_eq_true rfl⟩ hK (hP.sub [] rfl) rfl hl.1 rfl (Nat.le_of_ble_eq_true rfl) ⟨Nat.zero_le _, Nat.zero_le _⟩ dX2_holds_1 ?_
  refine vz_ifeqB (tgt := 28) hx hb dX2_holds_4 (by decide) (fun c_4 => absurd c_4 (by decide)) (fun c_4 => ?_)
  refine lv_aload_n hx hb dX2_holds_7 rfl (lv_at hl 0 rfl) ?_
  refine lv_iload_n hx hb dX2_holds_8 rfl (lv_at hl 2 rfl) ?_
  refine vz_callV (n := 1) (As := [.int z]) (rest := []) (q0 := 0) hcf (c_X2_isPoint l D kA me n g mk ss hn z) gX2_holds_X2_isPoint rfl hd_X2_isPoint ⟨Nat.le_of_ble_eq_true rfl, Nat.le_of_ble_eq_true rfl⟩ hK (hP.sub [0, 1, 2, 3] rfl) rfl rfl rfl rfl hl.1 rfl (Nat.le_of_ble_eq_true rfl) ⟨Nat.zero_le _, Nat.zero_le _⟩ dX2_holds_9 ?_
  refine vz_ifeqB (tgt := 28) hx hb dX2_holds_12 (by decide) (fun c_12 => ?_) (fun c_12 => ?_)
  · skip
    refine lv_iconst (v := nI 0) hx hb dX2_holds_28 (by decide) ?_
    exact vz_iret hx hb hr hlocks hQ (rfl) dX2_holds_29 (by first | rfl | (rw [c_12]; rfl) | (rw [hwc, c_21, c_12]; rfl) | (rw [c_12]; rw [hwc, c_21]; rfl) | (rw [hwc, c_21]; simp; rfl))
  · skip
    obtain ⟨w, hw, rfl⟩ : ∃ w : Nat, w < zN n ∧ z = nI w := by
      have c_99 := c_12
      simp only [Bool.and_eq_true, Bool.not_eq_true', decide_eq_false_iff_not] at c_99
      rcases pk_ix z (n := zN n) (by omega) with h1 | h1 | h1
      · exact absurd h1 c_99.1
      · exact absurd h1 c_99.2
      · exact h1
    have hwc : (nI w).toNatClampNeg = w := nI_clamp (by omega)
    refine lv_aload_n hx hb dX2_holds_15 rfl (lv_at hl 0 rfl) ?_
    refine lv_iload_n hx hb dX2_holds_16 rfl (lv_at hl 2 rfl) ?_
    refine lv_iload_n hx hb dX2_holds_17 rfl (lv_at hl 1 rfl) ?_
    refine vz_callV (n := 2) (As := [.int (nI w), .int (nI 2)]) (rest := []) (q0 := 0) hcf (c_X2_inList l D kA me n g mk ss hn 2 t q (by decide) ht ht24 hq w (by omega)) gX2_holds_X2_inList rfl hd_X2_inList ⟨Nat.le_of_ble_eq_true rfl, Nat.le_of_ble_eq_true rfl⟩ hK (hP.sub [0, 1, 2, 3] rfl) rfl rfl rfl rfl hl.1 rfl (Nat.le_of_ble_eq_true rfl) ⟨Nat.zero_le _, Nat.zero_le _⟩ dX2_holds_18 ?_
    refine vz_ifeqB (tgt := 28) hx hb dX2_holds_21 (by decide) (fun c_21 => ?_) (fun c_21 => ?_)
    · skip
      refine lv_iconst (v := nI 0) hx hb dX2_holds_28 (by decide) ?_
      exact vz_iret hx hb hr hlocks hQ (rfl) dX2_holds_29 (by first | rfl | (rw [c_12]; rfl) | (rw [hwc, c_21, c_12]; rfl) | (rw [c_12]; rw [hwc, c_21]; rfl) | (rw [hwc, c_21]; simp; rfl))
    · skip
      refine lv_iconst (v := nI 1) hx hb dX2_holds_24 (by decide) ?_
      refine lv_goto (tgt := 29) hx hb dX2_holds_25 (by decide) ?_
      exact vz_iret hx hb hr hlocks hQ (rfl) dX2_holds_29 (by first | rfl | (rw [c_12]; rfl) | (rw [hwc, c_21, c_12]; rfl) | (rw [c_12]; rw [hwc, c_21]; rfl) | (rw [hwc, c_21]; simp; rfl))
set_option maxHeartbeats 4000000 in
set_option maxRecDepth 100000 in
theorem c_X2_missing2 (l : Launch) (D : va_G) (kA : ClassId) (me : Nat → Nat) (n : Nat) (g mk : Nat → Int32) (ss : Nat → Nat) (hn : n ≤ 8) (t : Nat) (q : Nat → Int32) (ht : ss 2 = t) (ht24 : t ≤ 24) (hq : ∀ j, j < 24 → g (24 * 2 + j) = q j) : vz_M l yX2_missing wsX2_missing 2 46 [.ref (me 0), .int (nI 2)] D kA [(me 0, .inr (2, [.ref (me 1), .ref (me 2), .ref (me 3), .int (nI n)])), (me 1, .inl (kA, 96, .inl g)), (me 2, .inl (kA, 4, .inl (fun j => nI (ss j)))), (me 3, .inl (kA, 256, .inl mk))] (some (.int (nI (cnB (zN n) (fun p => !zM_inL n t q p))))) := by
  refine vz_start (cc := cX2_missing) (maxL := 4) (ret := (some .int)) (own := RX2) (by decide) rfl rfl (Nat.le_of_ble_eq_true rfl) ?_
  intro pz ez sz mz below meth cz args Q ls hargs hx hb hml hown hts hr hlocks hP hK hQ hl
  have hcf : CallFix pz mz cz cX2_missing 4 sz args wsX2_missing RX2 := ⟨hx, hb, hml, hown, hts⟩
  have hi0 : ∀ w ∈ u_ws RX2 TX2 4, w ∈ wsX2_missing := by decide +kernel
  have hf19 : (Cond.fieldLink RX2 19 "CubeMinModel" "n" "I").before args sz = true := hts _ (by decide +kernel)
  have hl : lv_has ls 4 [(0, .ref (me 0)), (1, .int (nI 2))] := hl
  have hN := zN_le hn
  refine lv_iload_n hx hb dX2_missing_0 rfl (lv_at hl 1 rfl) ?_
  refine vz_callS (n := 1) (As := [.int (nI 2)]) (rest := []) hcf (c_X2_isList l D kA (nI 2)) gX2_missing_X2_isList rfl hd_X2_isList ⟨Nat.le_of_ble_eq_true rfl, Nat.le_of_ble_eq_true rfl⟩ hK (hP.sub [] rfl) rfl hl.1 rfl (Nat.le_of_ble_eq_true rfl) ⟨Nat.zero_le _, Nat.zero_le _⟩ dX2_missing_1 ?_
  refine vz_ifneB (tgt := 9) hx hb dX2_missing_4 (by decide) (fun c_4 => ?_) (fun c_4 => absurd c_4 (by decide))
  refine lv_iconst (v := nI 0) hx hb dX2_missing_9 (by decide) ?_
  refine lv_istore_n (lv' := [(2, .int (nI 0)), (0, .ref (me 0)), (1, .int (nI 2))]) hx hb dX2_missing_10 rfl hl (by decide) rfl (fun ls hl => ?_)
  refine lv_iconst (v := nI 0) hx hb dX2_missing_11 (by decide) ?_
  refine lv_istore_n (lv' := [(3, .int (nI 0)), (2, .int (nI 0)), (0, .ref (me 0)), (1, .int (nI 2))]) hx hb dX2_missing_12 rfl hl (by decide) rfl (fun ls hl => ?_)
  have lp1 : ∀ (dz : Nat) (u i : Nat) (ls : Array Slot), (zN n - i) < dz → (i ≤ zN n) → (u = cnB i (fun p => !zM_inL n t q p)) → lv_has ls 4 [(0, .ref (me 0)), (1, .int (nI 2)), (2, .int (nI u)), (3, .int (nI i))] → W pz l ez (vz_R 2 46) sz mz args below meth cz sz.heap [] 0 0 Q (F0 mz 13 ls []) := by
    intro dz
    induction dz with
    | zero => intro u i ls hd h1 h2 hl; exact absurd hd (Nat.not_lt_zero _)
    | succ dz ih1 =>
      intro u i ls hd h1 h2 hl
      refine lv_iload_n hx hb dX2_missing_13 rfl (lv_at hl 3 rfl) ?_
      refine lv_iconst (v := nI 1) hx hb dX2_missing_14 (by decide) ?_
      refine lv_aload_n hx hb dX2_missing_15 rfl (lv_at hl 0 rfl) ?_
      refine va_get (D := D) (ci := 2) (v := .int (nI n)) (C := RX2) (T := TX2) (N := 4) hx hb hts hi0 hown hK hP 0 rfl rfl 3 (by decide) hf19 (fun _ h9 => h9) rfl dX2_missing_16 ?_
      refine lv_ishl hx hb dX2_missing_19 ?_
      refine vz_top (y := (nI (zN n))) (zN_sh n hn) ?_
      refine vz_cge (tgt := 41) hx hb dX2_missing_20 (by decide) (by omega) (by omega) (fun c_20 => ?_) (fun c_20 => ?_)
      · skip
        obtain rfl : i = zN n := by omega
        refine lv_iload_n hx hb dX2_missing_41 rfl (lv_at hl 2 rfl) ?_
        exact vz_iret hx hb hr hlocks hQ (vp_nar_int _) dX2_missing_42 (by rw [h2])
      · skip
        refine lv_aload_n hx hb dX2_missing_23 rfl (lv_at hl 0 rfl) ?_
        refine lv_iload_n hx hb dX2_missing_24 rfl (lv_at hl 3 rfl) ?_
        refine lv_iload_n hx hb dX2_missing_25 rfl (lv_at hl 1 rfl) ?_
        refine vz_callV (n := 2) (As := [.int (nI i), .int (nI 2)]) (rest := []) (q0 := 0) hcf (c_X2_inList l D kA me n g mk ss hn 2 t q (by decide) ht ht24 hq i (by omega)) gX2_missing_X2_inList rfl hd_X2_inList ⟨Nat.le_of_ble_eq_true rfl, Nat.le_of_ble_eq_true rfl⟩ hK (hP.sub [0, 1, 2, 3] rfl) rfl rfl rfl rfl hl.1 rfl (Nat.le_of_ble_eq_true rfl) ⟨Nat.zero_le _, Nat.zero_le _⟩ dX2_missing_26 ?_
        refine vz_ifneB (tgt := 35) hx hb dX2_missing_29 (by decide) (fun c_29 => ?_) (fun c_29 => ?_)
        · skip
          refine lv_iinc (v := (nI (i + 1))) (lv' := [(3, .int (nI (i + 1))), (0, .ref (me 0)), (1, .int (nI 2)), (2, .int (nI u))]) hx hb dX2_missing_35 hl (k := 3) rfl (nI_1 _) (by decide) rfl (fun ls hl => ?_)
          refine lv_goto (tgt := 13) hx hb dX2_missing_38 (by decide) ?_
          exact ih1 u (i + 1) _ (by omega) (by omega) (by simp [cnB, c_29, h2]) (lv_sub hl [1, 2, 3, 0] rfl)
        · skip
          refine lv_iinc (v := (nI (u + 1))) (lv' := [(2, .int (nI (u + 1))), (0, .ref (me 0)), (1, .int (nI 2)), (3, .int (nI i))]) hx hb dX2_missing_32 hl (k := 2) rfl (nI_1 _) (by decide) rfl (fun ls hl => ?_)
          refine lv_iinc (v := (nI (i + 1))) (lv' := [(3, .int (nI (i + 1))), (2, .int (nI (u + 1))), (0, .ref (me 0)), (1, .int (nI 2))]) hx hb dX2_missing_35 hl (k := 3) rfl (nI_1 _) (by decide) rfl (fun ls hl => ?_)
          refine lv_goto (tgt := 13) hx hb dX2_missing_38 (by decide) ?_
          exact ih1 (u + 1) (i + 1) _ (by omega) (by omega) (by simp [cnB, c_29, h2]) (lv_sub hl [2, 3, 1, 0] rfl)
  exact lp1 _ 0 0 _ (Nat.lt_succ_self _) (by omega) rfl (lv_sub hl [2, 3, 1, 0] rfl)
set_option maxHeartbeats 4000000 in
set_option maxRecDepth 100000 in
theorem c_X2_tautology2 (l : Launch) (D : va_G) (kA : ClassId) (me : Nat → Nat) (n : Nat) (g mk : Nat → Int32) (ss : Nat → Nat) (hn : n ≤ 8) (t : Nat) (q : Nat → Int32) (ht : ss 2 = t) (ht24 : t ≤ 24) (hq : ∀ j, j < 24 → g (24 * 2 + j) = q j) : vz_M l yX2_tautology wsX2_tautology 3 69 [.ref (me 0), .int (nI 2)] D kA [(me 0, .inr (2, [.ref (me 1), .ref (me 2), .ref (me 3), .int (nI n)])), (me 1, .inl (kA, 96, .inl g)), (me 2, .inl (kA, 4, .inl (fun j => nI (ss j)))), (me 3, .inl (kA, 256, .inl mk))] (some (.int (vz_b (decide (cnB (zN n) (fun p => !zM_inL n t q p) = 0))))) := by
  refine vz_start (cc := cX2_tautology) (maxL := 2) (ret := (some .boolean)) (own := RX2) (by decide) rfl rfl (Nat.le_of_ble_eq_true rfl) ?_
  intro pz ez sz mz below meth cz args Q ls hargs hx hb hml hown hts hr hlocks hP hK hQ hl
  have hcf : CallFix pz mz cz cX2_tautology 2 sz args wsX2_tautology RX2 := ⟨hx, hb, hml, hown, hts⟩
  have hl : lv_has ls 2 [(0, .ref (me 0)), (1, .int (nI 2))] := hl
  have hN := zN_le hn
  have hm := cnB_le (zN n) (fun p => !zM_inL n t q p)
  refine lv_aload_n hx hb dX2_tautology_0 rfl (lv_at hl 0 rfl) ?_
  refine lv_iload_n hx hb dX2_tautology_1 rfl (lv_at hl 1 rfl) ?_
  refine vz_callV (n := 1) (As := [.int (nI 2)]) (rest := []) (q0 := 0) hcf (c_X2_missing2 l D kA me n g mk ss hn t q ht ht24 hq) gX2_tautology_X2_missing rfl hd_X2_missing ⟨Nat.le_of_ble_eq_true rfl, Nat.le_of_ble_eq_true rfl⟩ hK (hP.sub [0, 1, 2, 3] rfl) rfl rfl rfl rfl hl.1 rfl (Nat.le_of_ble_eq_true rfl) ⟨Nat.zero_le _, Nat.zero_le _⟩ dX2_tautology_2 ?_
  refine lv_if_ne (tgt := 12) hx hb dX2_tautology_5 (by decide) (fun c_5 => ?_) (fun c_5 => ?_)
  · skip
    refine lv_iconst (v := nI 0) hx hb dX2_tautology_12 (by decide) ?_
    exact vz_iret hx hb hr hlocks hQ (rfl) dX2_tautology_13 (by first | (rw [decide_eq_true ((nI_eq (by omega) (by omega)).mp (c_5.trans nI_0.symm))]; rfl) | (rw [decide_eq_false (fun e9 => c_5 (congrArg nI e9))]; rfl))
  · skip
    refine lv_iconst (v := nI 1) hx hb dX2_tautology_8 (by decide) ?_
    refine lv_goto (tgt := 13) hx hb dX2_tautology_9 (by decide) ?_
    exact vz_iret hx hb hr hlocks hQ (rfl) dX2_tautology_13 (by first | (rw [decide_eq_true ((nI_eq (by omega) (by omega)).mp (c_5.trans nI_0.symm))]; rfl) | (rw [decide_eq_false (fun e9 => c_5 (congrArg nI e9))]; rfl))
set_option maxHeartbeats 4000000 in
set_option maxRecDepth 100000 in
theorem c_X2_size3 (l : Launch) (D : va_G) (kA : ClassId) (me : Nat → Nat) (n : Nat) (g mk : Nat → Int32) (ss : Nat → Nat) (hn : n ≤ 8) (x : Int32) (hx3 : (!decide (x < 0) && !decide (nI 2 < x)) = false) : vz_M l yX2_size wsX2_size 1 20 [.ref (me 0), .int x] D kA [(me 0, .inr (2, [.ref (me 1), .ref (me 2), .ref (me 3), .int (nI n)])), (me 1, .inl (kA, 96, .inl g)), (me 2, .inl (kA, 4, .inl (fun j => nI (ss j)))), (me 3, .inl (kA, 256, .inl mk))] (some (.int (-1))) := by
  refine vz_start (cc := cX2_size) (maxL := 2) (ret := (some .int)) (own := RX2) (by decide) rfl rfl (Nat.le_of_ble_eq_true rfl) ?_
  intro pz ez sz mz below meth cz args Q ls hargs hx hb hml hown hts hr hlocks hP hK hQ hl
  have hcf : CallFix pz mz cz cX2_size 2 sz args wsX2_size RX2 := ⟨hx, hb, hml, hown, hts⟩
  have hi0 : ∀ w ∈ u_ws RX2 TX2 4, w ∈ wsX2_size := by decide +kernel
  have hf13 : (Cond.fieldLink RX2 13 "CubeMinModel" "sizes" "[I").before args sz = true := hts _ (by decide +kernel)
  have hl : lv_has ls 2 [(0, .ref (me 0)), (1, .int x)] := hl
  refine lv_iload_n hx hb dX2_size_0 rfl (lv_at hl 1 rfl) ?_
  refine vz_callS (n := 1) (As := [.int x]) (rest := []) hcf (c_X2_isList l D kA x) gX2_size_X2_isList rfl hd_X2_isList ⟨Nat.le_of_ble_eq_true rfl, Nat.le_of_ble_eq_true rfl⟩ hK (hP.sub [] rfl) rfl hl.1 rfl (Nat.le_of_ble_eq_true rfl) ⟨Nat.zero_le _, Nat.zero_le _⟩ dX2_size_1 ?_
  refine vz_ifeqB (tgt := 16) hx hb dX2_size_4 (by decide) (fun c_4 => ?_) (fun c_4 => absurd c_4 (by rw [hx3]; decide))
  refine lv_iconst (v := -1) hx hb dX2_size_16 (by decide) ?_
  exact vz_iret hx hb hr hlocks hQ (vp_nar_int _) dX2_size_17 rfl
set_option maxHeartbeats 4000000 in
set_option maxRecDepth 100000 in
theorem c_X2_cube3 (l : Launch) (D : va_G) (kA : ClassId) (me : Nat → Nat) (n : Nat) (g mk : Nat → Int32) (ss : Nat → Nat) (hn : n ≤ 8) (x : Int32) (hx3 : (!decide (x < 0) && !decide (nI 2 < x)) = false) (z : Int32) : vz_M l yX2_cube wsX2_cube 1 20 [.ref (me 0), .int x, .int z] D kA [(me 0, .inr (2, [.ref (me 1), .ref (me 2), .ref (me 3), .int (nI n)])), (me 1, .inl (kA, 96, .inl g)), (me 2, .inl (kA, 4, .inl (fun j => nI (ss j)))), (me 3, .inl (kA, 256, .inl mk))] (some (.int (-1))) := by
  refine vz_start (cc := cX2_cube) (maxL := 3) (ret := (some .int)) (own := RX2) (by decide) rfl rfl (Nat.le_of_ble_eq_true rfl) ?_
  intro pz ez sz mz below meth cz args Q ls hargs hx hb hml hown hts hr hlocks hP hK hQ hl
  have hcf : CallFix pz mz cz cX2_cube 3 sz args wsX2_cube RX2 := ⟨hx, hb, hml, hown, hts⟩
  have hi0 : ∀ w ∈ u_ws RX2 TX2 4, w ∈ wsX2_cube := by decide +kernel
  have hf7 : (Cond.fieldLink RX2 7 "CubeMinModel" "cubes" "[I").before args sz = true := hts _ (by decide +kernel)
  have hf13 : (Cond.fieldLink RX2 13 "CubeMinModel" "sizes" "[I").before args sz = true := hts _ (by decide +kernel)
  have hl : lv_has ls 3 [(0, .ref (me 0)), (1, .int x), (2, .int z)] := hl
  refine lv_iload_n hx hb dX2_cube_0 rfl (lv_at hl 1 rfl) ?_
  refine vz_callS (n := 1) (As := [.int x]) (rest := []) hcf (c_X2_isList l D kA x) gX2_cube_X2_isList rfl hd_X2_isList ⟨Nat.le_of_ble_eq_true rfl, Nat.le_of_ble_eq_true rfl⟩ hK (hP.sub [] rfl) rfl hl.1 rfl (Nat.le_of_ble_eq_true rfl) ⟨Nat.zero_le _, Nat.zero_le _⟩ dX2_cube_1 ?_
  refine vz_ifeqB (tgt := 35) hx hb dX2_cube_4 (by decide) (fun c_4 => ?_) (fun c_4 => absurd c_4 (by rw [hx3]; decide))
  refine lv_iconst (v := -1) hx hb dX2_cube_35 (by decide) ?_
  exact vz_iret hx hb hr hlocks hQ (vp_nar_int _) dX2_cube_36 (by first | rfl | exact (zat_nI hj ht24).symm | (simp only [zat]; first | rw [if_pos c_8] | rw [if_neg c_8, if_pos c_18]))
set_option maxHeartbeats 4000000 in
set_option maxRecDepth 100000 in
theorem c_X2_literals3 (l : Launch) (D : va_G) (kA : ClassId) (me : Nat → Nat) (n : Nat) (g mk : Nat → Int32) (ss : Nat → Nat) (hn : n ≤ 8) (x : Int32) (hx3 : (!decide (x < 0) && !decide (nI 2 < x)) = false) : vz_M l yX2_literals wsX2_literals 1 20 [.ref (me 0), .int x] D kA [(me 0, .inr (2, [.ref (me 1), .ref (me 2), .ref (me 3), .int (nI n)])), (me 1, .inl (kA, 96, .inl g)), (me 2, .inl (kA, 4, .inl (fun j => nI (ss j)))), (me 3, .inl (kA, 256, .inl mk))] (some (.int (-1))) := by
  refine vz_start (cc := cX2_literals) (maxL := 2) (ret := (some .int)) (own := RX2) (by decide) rfl rfl (Nat.le_of_ble_eq_true rfl) ?_
  intro pz ez sz mz below meth cz args Q ls hargs hx hb hml hown hts hr hlocks hP hK hQ hl
  have hcf : CallFix pz mz cz cX2_literals 2 sz args wsX2_literals RX2 := ⟨hx, hb, hml, hown, hts⟩
  have hl : lv_has ls 2 [(0, .ref (me 0)), (1, .int x)] := hl
  refine lv_iload_n hx hb dX2_literals_0 rfl (lv_at hl 1 rfl) ?_
  refine vz_callS (n := 1) (As := [.int x]) (rest := []) hcf (c_X2_isList l D kA x) gX2_literals_X2_isList rfl hd_X2_isList ⟨Nat.le_of_ble_eq_true rfl, Nat.le_of_ble_eq_true rfl⟩ hK (hP.sub [] rfl) rfl hl.1 rfl (Nat.le_of_ble_eq_true rfl) ⟨Nat.zero_le _, Nat.zero_le _⟩ dX2_literals_1 ?_
  refine vz_ifeqB (tgt := 15) hx hb dX2_literals_4 (by decide) (fun c_4 => ?_) (fun c_4 => absurd c_4 (by rw [hx3]; decide))
  refine lv_iconst (v := -1) hx hb dX2_literals_15 (by decide) ?_
  exact vz_iret hx hb hr hlocks hQ (vp_nar_int _) dX2_literals_16 rfl
set_option maxHeartbeats 4000000 in
set_option maxRecDepth 100000 in
theorem c_X2_holds3 (l : Launch) (D : va_G) (kA : ClassId) (me : Nat → Nat) (n : Nat) (g mk : Nat → Int32) (ss : Nat → Nat) (hn : n ≤ 8) (x : Int32) (hx3 : (!decide (x < 0) && !decide (nI 2 < x)) = false) (z : Int32) : vz_M l yX2_holds wsX2_holds 1 20 [.ref (me 0), .int x, .int z] D kA [(me 0, .inr (2, [.ref (me 1), .ref (me 2), .ref (me 3), .int (nI n)])), (me 1, .inl (kA, 96, .inl g)), (me 2, .inl (kA, 4, .inl (fun j => nI (ss j)))), (me 3, .inl (kA, 256, .inl mk))] (some (.int (nI 0))) := by
  refine vz_start (cc := cX2_holds) (maxL := 3) (ret := (some .boolean)) (own := RX2) (by decide) rfl rfl (Nat.le_of_ble_eq_true rfl) ?_
  intro pz ez sz mz below meth cz args Q ls hargs hx hb hml hown hts hr hlocks hP hK hQ hl
  have hcf : CallFix pz mz cz cX2_holds 3 sz args wsX2_holds RX2 := ⟨hx, hb, hml, hown, hts⟩
  have hl : lv_has ls 3 [(0, .ref (me 0)), (1, .int x), (2, .int z)] := hl
  have hN := zN_le hn
  refine lv_iload_n hx hb dX2_holds_0 rfl (lv_at hl 1 rfl) ?_
  refine vz_callS (n := 1) (As := [.int x]) (rest := []) hcf (c_X2_isList l D kA x) gX2_holds_X2_isList rfl hd_X2_isList ⟨Nat.le_of_ble_eq_true rfl, Nat.le_of_ble_eq_true rfl⟩ hK (hP.sub [] rfl) rfl hl.1 rfl (Nat.le_of_ble_eq_true rfl) ⟨Nat.zero_le _, Nat.zero_le _⟩ dX2_holds_1 ?_
  refine vz_ifeqB (tgt := 28) hx hb dX2_holds_4 (by decide) (fun c_4 => ?_) (fun c_4 => absurd c_4 (by rw [hx3]; decide))
  refine lv_iconst (v := nI 0) hx hb dX2_holds_28 (by decide) ?_
  exact vz_iret hx hb hr hlocks hQ (rfl) dX2_holds_29 (by first | rfl | (rw [c_12]; rfl) | (rw [hwc, c_21, c_12]; rfl) | (rw [c_12]; rw [hwc, c_21]; rfl) | (rw [hwc, c_21]; simp; rfl))
set_option maxHeartbeats 4000000 in
set_option maxRecDepth 100000 in
theorem c_X2_missing3 (l : Launch) (D : va_G) (kA : ClassId) (me : Nat → Nat) (n : Nat) (g mk : Nat → Int32) (ss : Nat → Nat) (hn : n ≤ 8) (x : Int32) (hx3 : (!decide (x < 0) && !decide (nI 2 < x)) = false) : vz_M l yX2_missing wsX2_missing 1 20 [.ref (me 0), .int x] D kA [(me 0, .inr (2, [.ref (me 1), .ref (me 2), .ref (me 3), .int (nI n)])), (me 1, .inl (kA, 96, .inl g)), (me 2, .inl (kA, 4, .inl (fun j => nI (ss j)))), (me 3, .inl (kA, 256, .inl mk))] (some (.int (-1))) := by
  refine vz_start (cc := cX2_missing) (maxL := 4) (ret := (some .int)) (own := RX2) (by decide) rfl rfl (Nat.le_of_ble_eq_true rfl) ?_
  intro pz ez sz mz below meth cz args Q ls hargs hx hb hml hown hts hr hlocks hP hK hQ hl
  have hcf : CallFix pz mz cz cX2_missing 4 sz args wsX2_missing RX2 := ⟨hx, hb, hml, hown, hts⟩
  have hi0 : ∀ w ∈ u_ws RX2 TX2 4, w ∈ wsX2_missing := by decide +kernel
  have hf19 : (Cond.fieldLink RX2 19 "CubeMinModel" "n" "I").before args sz = true := hts _ (by decide +kernel)
  have hl : lv_has ls 4 [(0, .ref (me 0)), (1, .int x)] := hl
  have hN := zN_le hn
  refine lv_iload_n hx hb dX2_missing_0 rfl (lv_at hl 1 rfl) ?_
  refine vz_callS (n := 1) (As := [.int x]) (rest := []) hcf (c_X2_isList l D kA x) gX2_missing_X2_isList rfl hd_X2_isList ⟨Nat.le_of_ble_eq_true rfl, Nat.le_of_ble_eq_true rfl⟩ hK (hP.sub [] rfl) rfl hl.1 rfl (Nat.le_of_ble_eq_true rfl) ⟨Nat.zero_le _, Nat.zero_le _⟩ dX2_missing_1 ?_
  refine vz_ifneB (tgt := 9) hx hb dX2_missing_4 (by decide) (fun c_4 => absurd c_4 (by rw [hx3]; decide)) (fun c_4 => ?_)
  refine lv_iconst (v := -1) hx hb dX2_missing_7 (by decide) ?_
  exact vz_iret hx hb hr hlocks hQ (vp_nar_int _) dX2_missing_8 rfl
set_option maxHeartbeats 4000000 in
set_option maxRecDepth 100000 in
theorem c_X2_tautology3 (l : Launch) (D : va_G) (kA : ClassId) (me : Nat → Nat) (n : Nat) (g mk : Nat → Int32) (ss : Nat → Nat) (hn : n ≤ 8) (x : Int32) (hx3 : (!decide (x < 0) && !decide (nI 2 < x)) = false) : vz_M l yX2_tautology wsX2_tautology 2 43 [.ref (me 0), .int x] D kA [(me 0, .inr (2, [.ref (me 1), .ref (me 2), .ref (me 3), .int (nI n)])), (me 1, .inl (kA, 96, .inl g)), (me 2, .inl (kA, 4, .inl (fun j => nI (ss j)))), (me 3, .inl (kA, 256, .inl mk))] (some (.int (nI 0))) := by
  refine vz_start (cc := cX2_tautology) (maxL := 2) (ret := (some .boolean)) (own := RX2) (by decide) rfl rfl (Nat.le_of_ble_eq_true rfl) ?_
  intro pz ez sz mz below meth cz args Q ls hargs hx hb hml hown hts hr hlocks hP hK hQ hl
  have hcf : CallFix pz mz cz cX2_tautology 2 sz args wsX2_tautology RX2 := ⟨hx, hb, hml, hown, hts⟩
  have hl : lv_has ls 2 [(0, .ref (me 0)), (1, .int x)] := hl
  refine lv_aload_n hx hb dX2_tautology_0 rfl (lv_at hl 0 rfl) ?_
  refine lv_iload_n hx hb dX2_tautology_1 rfl (lv_at hl 1 rfl) ?_
  refine vz_callV (n := 1) (As := [.int x]) (rest := []) (q0 := 0) hcf (c_X2_missing3 l D kA me n g mk ss hn x hx3) gX2_tautology_X2_missing rfl hd_X2_missing ⟨Nat.le_of_ble_eq_true rfl, Nat.le_of_ble_eq_true rfl⟩ hK (hP.sub [0, 1, 2, 3] rfl) rfl rfl rfl rfl hl.1 rfl (Nat.le_of_ble_eq_true rfl) ⟨Nat.zero_le _, Nat.zero_le _⟩ dX2_tautology_2 ?_
  refine lv_if_ne (tgt := 12) hx hb dX2_tautology_5 (by decide) (fun c_5 => ?_) (fun c_5 => absurd c_5 (by decide))
  refine lv_iconst (v := nI 0) hx hb dX2_tautology_12 (by decide) ?_
  exact vz_iret hx hb hr hlocks hQ (rfl) dX2_tautology_13 rfl
set_option maxHeartbeats 4000000 in
set_option maxRecDepth 100000 in
theorem c_X2_same00 (l : Launch) (D : va_G) (kA : ClassId) (me : Nat → Nat) (n : Nat) (g mk : Nat → Int32) (ss : Nat → Nat) (hn : n ≤ 8) (t : Nat) (q : Nat → Int32) (ht : ss 0 = t) (ht24 : t ≤ 24) (hq : ∀ j, j < 24 → g (24 * 0 + j) = q j) (t2 : Nat) (q2 : Nat → Int32) (ht2 : ss 0 = t2) (ht242 : t2 ≤ 24) (hq2 : ∀ j, j < 24 → g (24 * 0 + j) = q2 j) : vz_M l yX2_same wsX2_same 2 46 [.ref (me 0), .int (nI 0), .int (nI 0)] D kA [(me 0, .inr (2, [.ref (me 1), .ref (me 2), .ref (me 3), .int (nI n)])), (me 1, .inl (kA, 96, .inl g)), (me 2, .inl (kA, 4, .inl (fun j => nI (ss j)))), (me 3, .inl (kA, 256, .inl mk))] (some (.int (vz_b (!exB (zN n) (fun p => !decide (mk p = nI 2) && (zM_inL n t q p != zM_inL n t2 q2 p)))))) := by
  refine vz_start (cc := cX2_same) (maxL := 4) (ret := (some .boolean)) (own := RX2) (by decide) rfl rfl (Nat.le_of_ble_eq_true rfl) ?_
  intro pz ez sz mz below meth cz args Q ls hargs hx hb hml hown hts hr hlocks hP hK hQ hl
  have hcf : CallFix pz mz cz cX2_same 4 sz args wsX2_same RX2 := ⟨hx, hb, hml, hown, hts⟩
  have hi0 : ∀ w ∈ u_ws RX2 TX2 4, w ∈ wsX2_same := by decide +kernel
  have hf16 : (Cond.fieldLink RX2 16 "CubeMinModel" "kinds" "[I").before args sz = true := hts _ (by decide +kernel)
  have hf19 : (Cond.fieldLink RX2 19 "CubeMinModel" "n" "I").before args sz = true := hts _ (by decide +kernel)
  have hl : lv_has ls 4 [(0, .ref (me 0)), (1, .int (nI 0)), (2, .int (nI 0))] := hl
  have hN := zN_le hn
  refine lv_iload_n hx hb dX2_same_0 rfl (lv_at hl 1 rfl) ?_
  refine vz_callS (n := 1) (As := [.int (nI 0)]) (rest := []) hcf (c_X2_isList l D kA (nI 0)) gX2_same_X2_isList rfl hd_X2_isList ⟨Nat.le_of_ble_eq_true rfl, Nat.le_of_ble_eq_true rfl⟩ hK (hP.sub [] rfl) rfl hl.1 rfl (Nat.le_of_ble_eq_true rfl) ⟨Nat.zero_le _, Nat.zero_le _⟩ dX2_same_1 ?_
  refine vz_ifeqB (tgt := 14) hx hb dX2_same_4 (by decide) (fun c_4 => absurd c_4 (by decide)) (fun c_4 => ?_)
  refine lv_iload_n hx hb dX2_same_7 rfl (lv_at hl 2 rfl) ?_
  refine vz_callS (n := 1) (As := [.int (nI 0)]) (rest := []) hcf (c_X2_isList l D kA (nI 0)) gX2_same_X2_isList rfl hd_X2_isList ⟨Nat.le_of_ble_eq_true rfl, Nat.le_of_ble_eq_true rfl⟩ hK (hP.sub [] rfl) rfl hl.1 rfl (Nat.le_of_ble_eq_true rfl) ⟨Nat.zero_le _, Nat.zero_le _⟩ dX2_same_8 ?_
  refine vz_ifneB (tgt := 16) hx hb dX2_same_11 (by decide) (fun c_11 => ?_) (fun c_11 => absurd c_11 (by decide))
  refine lv_iconst (v := nI 0) hx hb dX2_same_16 (by decide) ?_
  refine lv_istore_n (lv' := [(3, .int (nI 0)), (0, .ref (me 0)), (1, .int (nI 0)), (2, .int (nI 0))]) hx hb dX2_same_17 rfl hl (by decide) rfl (fun ls hl => ?_)
  have lp1 : ∀ (dz : Nat) (i : Nat) (ls : Array Slot), (zN n - i) < dz → (i ≤ zN n) → (∀ p, p < i → (!decide (mk p = nI 2) && (zM_inL n t q p != zM_inL n t2 q2 p)) = false) → lv_has ls 4 [(0, .ref (me 0)), (1, .int (nI 0)), (2, .int (nI 0)), (3, .int (nI i))] → W pz l ez (vz_R 2 46) sz mz args below meth cz sz.heap [] 0 0 Q (F0 mz 18 ls []) := by
    intro dz
    induction dz with
    | zero => intro i ls hd h1 h3 hl; exact absurd hd (Nat.not_lt_zero _)
    | succ dz ih1 =>
      intro i ls hd h1 h3 hl
      refine lv_iload_n hx hb dX2_same_18 rfl (lv_at hl 3 rfl) ?_
      refine lv_iconst (v := nI 1) hx hb dX2_same_19 (by decide) ?_
      refine lv_aload_n hx hb dX2_same_20 rfl (lv_at hl 0 rfl) ?_
      refine va_get (D := D) (ci := 2) (v := .int (nI n)) (C := RX2) (T := TX2) (N := 4) hx hb hts hi0 hown hK hP 0 rfl rfl 3 (by decide) hf19 (fun _ h9 => h9) rfl dX2_same_21 ?_
      refine lv_ishl hx hb dX2_same_24 ?_
      refine vz_top (y := (nI (zN n))) (zN_sh n hn) ?_
      refine vz_cge (tgt := 61) hx hb dX2_same_25 (by decide) (by omega) (by omega) (fun c_25 => ?_) (fun c_25 => ?_)
      · skip
        refine lv_iconst (v := nI 1) hx hb dX2_same_61 (by decide) ?_
        exact vz_iret hx hb hr hlocks hQ (rfl) dX2_same_62 ((congrArg (fun z => vz_b (!z)) (exB_f (P := fun p => !decide (mk p = nI 2) && (zM_inL n t q p != zM_inL n t2 q2 p)) (fun j hj => h3 j (by omega)))).symm)
      · skip
        refine lv_aload_n hx hb dX2_same_28 rfl (lv_at hl 0 rfl) ?_
        refine va_get (D := D) (ci := 2) (v := .ref (me 3)) (C := RX2) (T := TX2) (N := 4) hx hb hts hi0 hown hK hP 0 rfl rfl 2 (by decide) hf16 (fun _ h9 => h9) rfl dX2_same_29 ?_
        refine lv_iload_n hx hb dX2_same_32 rfl (lv_at hl 3 rfl) ?_
        refine vz_ald hx hb hK hP 3 rfl (by omega) (Nat.le_of_ble_eq_true rfl) dX2_same_33 ?_
        refine lv_iconst (v := nI 2) hx hb dX2_same_34 (by decide) ?_
        refine lv_icmp_eq (tgt := 55) hx hb dX2_same_35 (by decide) (fun c_35 => ?_) (fun c_35 => ?_)
        · skip
          refine lv_iinc (v := (nI (i + 1))) (lv' := [(3, .int (nI (i + 1))), (0, .ref (me 0)), (1, .int (nI 0)), (2, .int (nI 0))]) hx hb dX2_same_55 hl (k := 3) rfl (nI_1 _) (by decide) rfl (fun ls hl => ?_)
          refine lv_goto (tgt := 18) hx hb dX2_same_58 (by decide) ?_
          exact ih1 (i + 1) _ (by omega) (by omega) (lt_sB h3 (by first | (simp [c_35]; done) | (have c_51 := vz_b_eq.mp c_50; simp [c_51]))) (lv_sub hl [1, 2, 3, 0] rfl)
        · skip
          refine lv_aload_n hx hb dX2_same_38 rfl (lv_at hl 0 rfl) ?_
          refine lv_iload_n hx hb dX2_same_39 rfl (lv_at hl 3 rfl) ?_
          refine lv_iload_n hx hb dX2_same_40 rfl (lv_at hl 1 rfl) ?_
          refine vz_callV (n := 2) (As := [.int (nI i), .int (nI 0)]) (rest := []) (q0 := 0) hcf (c_X2_inList l D kA me n g mk ss hn 0 t q (by decide) ht ht24 hq i (by omega)) gX2_same_X2_inList rfl hd_X2_inList ⟨Nat.le_of_ble_eq_true rfl, Nat.le_of_ble_eq_true rfl⟩ hK (hP.sub [0, 1, 2, 3] rfl) rfl rfl rfl rfl hl.1 rfl (Nat.le_of_ble_eq_true rfl) ⟨Nat.zero_le _, Nat.zero_le _⟩ dX2_same_41 ?_
          refine lv_aload_n hx hb dX2_same_44 rfl (lv_at hl 0 rfl) ?_
          refine lv_iload_n hx hb dX2_same_45 rfl (lv_at hl 3 rfl) ?_
          refine lv_iload_n hx hb dX2_same_46 rfl (lv_at hl 2 rfl) ?_
          refine vz_callV (n := 2) (As := [.int (nI i), .int (nI 0)]) (rest := [.int (vz_b (zM_inL n t q i))]) (q0 := 0) hcf (c_X2_inList l D kA me n g mk ss hn 0 t2 q2 (by decide) ht2 ht242 hq2 i (by omega)) gX2_same_X2_inList rfl hd_X2_inList ⟨Nat.le_of_ble_eq_true rfl, Nat.le_of_ble_eq_true rfl⟩ hK (hP.sub [0, 1, 2, 3] rfl) rfl rfl rfl rfl hl.1 rfl (Nat.le_of_ble_eq_true rfl) ⟨Nat.zero_le _, Nat.zero_le _⟩ dX2_same_47 ?_
          refine lv_icmp_eq (tgt := 55) hx hb dX2_same_50 (by decide) (fun c_50 => ?_) (fun c_50 => ?_)
          · skip
            refine lv_iinc (v := (nI (i + 1))) (lv' := [(3, .int (nI (i + 1))), (0, .ref (me 0)), (1, .int (nI 0)), (2, .int (nI 0))]) hx hb dX2_same_55 hl (k := 3) rfl (nI_1 _) (by decide) rfl (fun ls hl => ?_)
            refine lv_goto (tgt := 18) hx hb dX2_same_58 (by decide) ?_
            exact ih1 (i + 1) _ (by omega) (by omega) (lt_sB h3 (by first | (simp [c_35]; done) | (have c_51 := vz_b_eq.mp c_50; simp [c_51]))) (lv_sub hl [1, 2, 3, 0] rfl)
          · skip
            refine lv_iconst (v := nI 0) hx hb dX2_same_53 (by decide) ?_
            exact vz_iret hx hb hr hlocks hQ (rfl) dX2_same_54 ((congrArg (fun z => vz_b (!z)) (exB_t (P := fun p => !decide (mk p = nI 2) && (zM_inL n t q p != zM_inL n t2 q2 p)) (i := i) (by omega) (by have c_51 : ¬ zM_inL n t q i = zM_inL n t2 q2 i := fun e9 => c_50 (vz_b_eq.mpr e9); simp [c_35, c_51]))).symm)
  exact lp1 _ 0 _ (Nat.lt_succ_self _) (by omega) lt_0B (lv_sub hl [1, 2, 3, 0] rfl)
set_option maxHeartbeats 4000000 in
set_option maxRecDepth 100000 in
theorem c_X2_same01 (l : Launch) (D : va_G) (kA : ClassId) (me : Nat → Nat) (n : Nat) (g mk : Nat → Int32) (ss : Nat → Nat) (hn : n ≤ 8) (t : Nat) (q : Nat → Int32) (ht : ss 0 = t) (ht24 : t ≤ 24) (hq : ∀ j, j < 24 → g (24 * 0 + j) = q j) (t2 : Nat) (q2 : Nat → Int32) (ht2 : ss 1 = t2) (ht242 : t2 ≤ 24) (hq2 : ∀ j, j < 24 → g (24 * 1 + j) = q2 j) : vz_M l yX2_same wsX2_same 2 46 [.ref (me 0), .int (nI 0), .int (nI 1)] D kA [(me 0, .inr (2, [.ref (me 1), .ref (me 2), .ref (me 3), .int (nI n)])), (me 1, .inl (kA, 96, .inl g)), (me 2, .inl (kA, 4, .inl (fun j => nI (ss j)))), (me 3, .inl (kA, 256, .inl mk))] (some (.int (vz_b (!exB (zN n) (fun p => !decide (mk p = nI 2) && (zM_inL n t q p != zM_inL n t2 q2 p)))))) := by
  refine vz_start (cc := cX2_same) (maxL := 4) (ret := (some .boolean)) (own := RX2) (by decide) rfl rfl (Nat.le_of_ble_eq_true rfl) ?_
  intro pz ez sz mz below meth cz args Q ls hargs hx hb hml hown hts hr hlocks hP hK hQ hl
  have hcf : CallFix pz mz cz cX2_same 4 sz args wsX2_same RX2 := ⟨hx, hb, hml, hown, hts⟩
  have hi0 : ∀ w ∈ u_ws RX2 TX2 4, w ∈ wsX2_same := by decide +kernel
  have hf16 : (Cond.fieldLink RX2 16 "CubeMinModel" "kinds" "[I").before args sz = true := hts _ (by decide +kernel)
  have hf19 : (Cond.fieldLink RX2 19 "CubeMinModel" "n" "I").before args sz = true := hts _ (by decide +kernel)
  have hl : lv_has ls 4 [(0, .ref (me 0)), (1, .int (nI 0)), (2, .int (nI 1))] := hl
  have hN := zN_le hn
  refine lv_iload_n hx hb dX2_same_0 rfl (lv_at hl 1 rfl) ?_
  refine vz_callS (n := 1) (As := [.int (nI 0)]) (rest := []) hcf (c_X2_isList l D kA (nI 0)) gX2_same_X2_isList rfl hd_X2_isList ⟨Nat.le_of_ble_eq_true rfl, Nat.le_of_ble_eq_true rfl⟩ hK (hP.sub [] rfl) rfl hl.1 rfl (Nat.le_of_ble_eq_true rfl) ⟨Nat.zero_le _, Nat.zero_le _⟩ dX2_same_1 ?_
  refine vz_ifeqB (tgt := 14) hx hb dX2_same_4 (by decide) (fun c_4 => absurd c_4 (by decide)) (fun c_4 => ?_)
  refine lv_iload_n hx hb dX2_same_7 rfl (lv_at hl 2 rfl) ?_
  refine vz_callS (n := 1) (As := [.int (nI 1)]) (rest := []) hcf (c_X2_isList l D kA (nI 1)) gX2_same_X2_isList rfl hd_X2_isList ⟨Nat.le_of_ble_eq_true rfl, Nat.le_of_ble_eq_true rfl⟩ hK (hP.sub [] rfl) rfl hl.1 rfl (Nat.le_of_ble_eq_true rfl) ⟨Nat.zero_le _, Nat.zero_le _⟩ dX2_same_8 ?_
  refine vz_ifneB (tgt := 16) hx hb dX2_same_11 (by decide) (fun c_11 => ?_) (fun c_11 => absurd c_11 (by decide))
  refine lv_iconst (v := nI 0) hx hb dX2_same_16 (by decide) ?_
  refine lv_istore_n (lv' := [(3, .int (nI 0)), (0, .ref (me 0)), (1, .int (nI 0)), (2, .int (nI 1))]) hx hb dX2_same_17 rfl hl (by decide) rfl (fun ls hl => ?_)
  have lp1 : ∀ (dz : Nat) (i : Nat) (ls : Array Slot), (zN n - i) < dz → (i ≤ zN n) → (∀ p, p < i → (!decide (mk p = nI 2) && (zM_inL n t q p != zM_inL n t2 q2 p)) = false) → lv_has ls 4 [(0, .ref (me 0)), (1, .int (nI 0)), (2, .int (nI 1)), (3, .int (nI i))] → W pz l ez (vz_R 2 46) sz mz args below meth cz sz.heap [] 0 0 Q (F0 mz 18 ls []) := by
    intro dz
    induction dz with
    | zero => intro i ls hd h1 h3 hl; exact absurd hd (Nat.not_lt_zero _)
    | succ dz ih1 =>
      intro i ls hd h1 h3 hl
      refine lv_iload_n hx hb dX2_same_18 rfl (lv_at hl 3 rfl) ?_
      refine lv_iconst (v := nI 1) hx hb dX2_same_19 (by decide) ?_
      refine lv_aload_n hx hb dX2_same_20 rfl (lv_at hl 0 rfl) ?_
      refine va_get (D := D) (ci := 2) (v := .int (nI n)) (C := RX2) (T := TX2) (N := 4) hx hb hts hi0 hown hK hP 0 rfl rfl 3 (by decide) hf19 (fun _ h9 => h9) rfl dX2_same_21 ?_
      refine lv_ishl hx hb dX2_same_24 ?_
      refine vz_top (y := (nI (zN n))) (zN_sh n hn) ?_
      refine vz_cge (tgt := 61) hx hb dX2_same_25 (by decide) (by omega) (by omega) (fun c_25 => ?_) (fun c_25 => ?_)
      · skip
        refine lv_iconst (v := nI 1) hx hb dX2_same_61 (by decide) ?_
        exact vz_iret hx hb hr hlocks hQ (rfl) dX2_same_62 ((congrArg (fun z => vz_b (!z)) (exB_f (P := fun p => !decide (mk p = nI 2) && (zM_inL n t q p != zM_inL n t2 q2 p)) (fun j hj => h3 j (by omega)))).symm)
      · skip
        refine lv_aload_n hx hb dX2_same_28 rfl (lv_at hl 0 rfl) ?_
        refine va_get (D := D) (ci := 2) (v := .ref (me 3)) (C := RX2) (T := TX2) (N := 4) hx hb hts hi0 hown hK hP 0 rfl rfl 2 (by decide) hf16 (fun _ h9 => h9) rfl dX2_same_29 ?_
        refine lv_iload_n hx hb dX2_same_32 rfl (lv_at hl 3 rfl) ?_
        refine vz_ald hx hb hK hP 3 rfl (by omega) (Nat.le_of_ble_eq_true rfl) dX2_same_33 ?_
        refine lv_iconst (v := nI 2) hx hb dX2_same_34 (by decide) ?_
        refine lv_icmp_eq (tgt := 55) hx hb dX2_same_35 (by decide) (fun c_35 => ?_) (fun c_35 => ?_)
        · skip
          refine lv_iinc (v := (nI (i + 1))) (lv' := [(3, .int (nI (i + 1))), (0, .ref (me 0)), (1, .int (nI 0)), (2, .int (nI 1))]) hx hb dX2_same_55 hl (k := 3) rfl (nI_1 _) (by decide) rfl (fun ls hl => ?_)
          refine lv_goto (tgt := 18) hx hb dX2_same_58 (by decide) ?_
          exact ih1 (i + 1) _ (by omega) (by omega) (lt_sB h3 (by first | (simp [c_35]; done) | (have c_51 := vz_b_eq.mp c_50; simp [c_51]))) (lv_sub hl [1, 2, 3, 0] rfl)
        · skip
          refine lv_aload_n hx hb dX2_same_38 rfl (lv_at hl 0 rfl) ?_
          refine lv_iload_n hx hb dX2_same_39 rfl (lv_at hl 3 rfl) ?_
          refine lv_iload_n hx hb dX2_same_40 rfl (lv_at hl 1 rfl) ?_
          refine vz_callV (n := 2) (As := [.int (nI i), .int (nI 0)]) (rest := []) (q0 := 0) hcf (c_X2_inList l D kA me n g mk ss hn 0 t q (by decide) ht ht24 hq i (by omega)) gX2_same_X2_inList rfl hd_X2_inList ⟨Nat.le_of_ble_eq_true rfl, Nat.le_of_ble_eq_true rfl⟩ hK (hP.sub [0, 1, 2, 3] rfl) rfl rfl rfl rfl hl.1 rfl (Nat.le_of_ble_eq_true rfl) ⟨Nat.zero_le _, Nat.zero_le _⟩ dX2_same_41 ?_
          refine lv_aload_n hx hb dX2_same_44 rfl (lv_at hl 0 rfl) ?_
          refine lv_iload_n hx hb dX2_same_45 rfl (lv_at hl 3 rfl) ?_
          refine lv_iload_n hx hb dX2_same_46 rfl (lv_at hl 2 rfl) ?_
          refine vz_callV (n := 2) (As := [.int (nI i), .int (nI 1)]) (rest := [.int (vz_b (zM_inL n t q i))]) (q0 := 0) hcf (c_X2_inList l D kA me n g mk ss hn 1 t2 q2 (by decide) ht2 ht242 hq2 i (by omega)) gX2_same_X2_inList rfl hd_X2_inList ⟨Nat.le_of_ble_eq_true rfl, Nat.le_of_ble_eq_true rfl⟩ hK (hP.sub [0, 1, 2, 3] rfl) rfl rfl rfl rfl hl.1 rfl (Nat.le_of_ble_eq_true rfl) ⟨Nat.zero_le _, Nat.zero_le _⟩ dX2_same_47 ?_
          refine lv_icmp_eq (tgt := 55) hx hb dX2_same_50 (by decide) (fun c_50 => ?_) (fun c_50 => ?_)
          · skip
            refine lv_iinc (v := (nI (i + 1))) (lv' := [(3, .int (nI (i + 1))), (0, .ref (me 0)), (1, .int (nI 0)), (2, .int (nI 1))]) hx hb dX2_same_55 hl (k := 3) rfl (nI_1 _) (by decide) rfl (fun ls hl => ?_)
            refine lv_goto (tgt := 18) hx hb dX2_same_58 (by decide) ?_
            exact ih1 (i + 1) _ (by omega) (by omega) (lt_sB h3 (by first | (simp [c_35]; done) | (have c_51 := vz_b_eq.mp c_50; simp [c_51]))) (lv_sub hl [1, 2, 3, 0] rfl)
          · skip
            refine lv_iconst (v := nI 0) hx hb dX2_same_53 (by decide) ?_
            exact vz_iret hx hb hr hlocks hQ (rfl) dX2_same_54 ((congrArg (fun z => vz_b (!z)) (exB_t (P := fun p => !decide (mk p = nI 2) && (zM_inL n t q p != zM_inL n t2 q2 p)) (i := i) (by omega) (by have c_51 : ¬ zM_inL n t q i = zM_inL n t2 q2 i := fun e9 => c_50 (vz_b_eq.mpr e9); simp [c_35, c_51]))).symm)
  exact lp1 _ 0 _ (Nat.lt_succ_self _) (by omega) lt_0B (lv_sub hl [1, 2, 3, 0] rfl)
set_option maxHeartbeats 4000000 in
set_option maxRecDepth 100000 in
theorem c_X2_same02 (l : Launch) (D : va_G) (kA : ClassId) (me : Nat → Nat) (n : Nat) (g mk : Nat → Int32) (ss : Nat → Nat) (hn : n ≤ 8) (t : Nat) (q : Nat → Int32) (ht : ss 0 = t) (ht24 : t ≤ 24) (hq : ∀ j, j < 24 → g (24 * 0 + j) = q j) (t2 : Nat) (q2 : Nat → Int32) (ht2 : ss 2 = t2) (ht242 : t2 ≤ 24) (hq2 : ∀ j, j < 24 → g (24 * 2 + j) = q2 j) : vz_M l yX2_same wsX2_same 2 46 [.ref (me 0), .int (nI 0), .int (nI 2)] D kA [(me 0, .inr (2, [.ref (me 1), .ref (me 2), .ref (me 3), .int (nI n)])), (me 1, .inl (kA, 96, .inl g)), (me 2, .inl (kA, 4, .inl (fun j => nI (ss j)))), (me 3, .inl (kA, 256, .inl mk))] (some (.int (vz_b (!exB (zN n) (fun p => !decide (mk p = nI 2) && (zM_inL n t q p != zM_inL n t2 q2 p)))))) := by
  refine vz_start (cc := cX2_same) (maxL := 4) (ret := (some .boolean)) (own := RX2) (by decide) rfl rfl (Nat.le_of_ble_eq_true rfl) ?_
  intro pz ez sz mz below meth cz args Q ls hargs hx hb hml hown hts hr hlocks hP hK hQ hl
  have hcf : CallFix pz mz cz cX2_same 4 sz args wsX2_same RX2 := ⟨hx, hb, hml, hown, hts⟩
  have hi0 : ∀ w ∈ u_ws RX2 TX2 4, w ∈ wsX2_same := by decide +kernel
  have hf16 : (Cond.fieldLink RX2 16 "CubeMinModel" "kinds" "[I").before args sz = true := hts _ (by decide +kernel)
  have hf19 : (Cond.fieldLink RX2 19 "CubeMinModel" "n" "I").before args sz = true := hts _ (by decide +kernel)
  have hl : lv_has ls 4 [(0, .ref (me 0)), (1, .int (nI 0)), (2, .int (nI 2))] := hl
  have hN := zN_le hn
  refine lv_iload_n hx hb dX2_same_0 rfl (lv_at hl 1 rfl) ?_
  refine vz_callS (n := 1) (As := [.int (nI 0)]) (rest := []) hcf (c_X2_isList l D kA (nI 0)) gX2_same_X2_isList rfl hd_X2_isList ⟨Nat.le_of_ble_eq_true rfl, Nat.le_of_ble_eq_true rfl⟩ hK (hP.sub [] rfl) rfl hl.1 rfl (Nat.le_of_ble_eq_true rfl) ⟨Nat.zero_le _, Nat.zero_le _⟩ dX2_same_1 ?_
  refine vz_ifeqB (tgt := 14) hx hb dX2_same_4 (by decide) (fun c_4 => absurd c_4 (by decide)) (fun c_4 => ?_)
  refine lv_iload_n hx hb dX2_same_7 rfl (lv_at hl 2 rfl) ?_
  refine vz_callS (n := 1) (As := [.int (nI 2)]) (rest := []) hcf (c_X2_isList l D kA (nI 2)) gX2_same_X2_isList rfl hd_X2_isList ⟨Nat.le_of_ble_eq_true rfl, Nat.le_of_ble_eq_true rfl⟩ hK (hP.sub [] rfl) rfl hl.1 rfl (Nat.le_of_ble_eq_true rfl) ⟨Nat.zero_le _, Nat.zero_le _⟩ dX2_same_8 ?_
  refine vz_ifneB (tgt := 16) hx hb dX2_same_11 (by decide) (fun c_11 => ?_) (fun c_11 => absurd c_11 (by decide))
  refine lv_iconst (v := nI 0) hx hb dX2_same_16 (by decide) ?_
  refine lv_istore_n (lv' := [(3, .int (nI 0)), (0, .ref (me 0)), (1, .int (nI 0)), (2, .int (nI 2))]) hx hb dX2_same_17 rfl hl (by decide) rfl (fun ls hl => ?_)
  have lp1 : ∀ (dz : Nat) (i : Nat) (ls : Array Slot), (zN n - i) < dz → (i ≤ zN n) → (∀ p, p < i → (!decide (mk p = nI 2) && (zM_inL n t q p != zM_inL n t2 q2 p)) = false) → lv_has ls 4 [(0, .ref (me 0)), (1, .int (nI 0)), (2, .int (nI 2)), (3, .int (nI i))] → W pz l ez (vz_R 2 46) sz mz args below meth cz sz.heap [] 0 0 Q (F0 mz 18 ls []) := by
    intro dz
    induction dz with
    | zero => intro i ls hd h1 h3 hl; exact absurd hd (Nat.not_lt_zero _)
    | succ dz ih1 =>
      intro i ls hd h1 h3 hl
      refine lv_iload_n hx hb dX2_same_18 rfl (lv_at hl 3 rfl) ?_
      refine lv_iconst (v := nI 1) hx hb dX2_same_19 (by decide) ?_
      refine lv_aload_n hx hb dX2_same_20 rfl (lv_at hl 0 rfl) ?_
      refine va_get (D := D) (ci := 2) (v := .int (nI n)) (C := RX2) (T := TX2) (N := 4) hx hb hts hi0 hown hK hP 0 rfl rfl 3 (by decide) hf19 (fun _ h9 => h9) rfl dX2_same_21 ?_
      refine lv_ishl hx hb dX2_same_24 ?_
      refine vz_top (y := (nI (zN n))) (zN_sh n hn) ?_
      refine vz_cge (tgt := 61) hx hb dX2_same_25 (by decide) (by omega) (by omega) (fun c_25 => ?_) (fun c_25 => ?_)
      · skip
        refine lv_iconst (v := nI 1) hx hb dX2_same_61 (by decide) ?_
        exact vz_iret hx hb hr hlocks hQ (rfl) dX2_same_62 ((congrArg (fun z => vz_b (!z)) (exB_f (P := fun p => !decide (mk p = nI 2) && (zM_inL n t q p != zM_inL n t2 q2 p)) (fun j hj => h3 j (by omega)))).symm)
      · skip
        refine lv_aload_n hx hb dX2_same_28 rfl (lv_at hl 0 rfl) ?_
        refine va_get (D := D) (ci := 2) (v := .ref (me 3)) (C := RX2) (T := TX2) (N := 4) hx hb hts hi0 hown hK hP 0 rfl rfl 2 (by decide) hf16 (fun _ h9 => h9) rfl dX2_same_29 ?_
        refine lv_iload_n hx hb dX2_same_32 rfl (lv_at hl 3 rfl) ?_
        refine vz_ald hx hb hK hP 3 rfl (by omega) (Nat.le_of_ble_eq_true rfl) dX2_same_33 ?_
        refine lv_iconst (v := nI 2) hx hb dX2_same_34 (by decide) ?_
        refine lv_icmp_eq (tgt := 55) hx hb dX2_same_35 (by decide) (fun c_35 => ?_) (fun c_35 => ?_)
        · skip
          refine lv_iinc (v := (nI (i + 1))) (lv' := [(3, .int (nI (i + 1))), (0, .ref (me 0)), (1, .int (nI 0)), (2, .int (nI 2))]) hx hb dX2_same_55 hl (k := 3) rfl (nI_1 _) (by decide) rfl (fun ls hl => ?_)
          refine lv_goto (tgt := 18) hx hb dX2_same_58 (by decide) ?_
          exact ih1 (i + 1) _ (by omega) (by omega) (lt_sB h3 (by first | (simp [c_35]; done) | (have c_51 := vz_b_eq.mp c_50; simp [c_51]))) (lv_sub hl [1, 2, 3, 0] rfl)
        · skip
          refine lv_aload_n hx hb dX2_same_38 rfl (lv_at hl 0 rfl) ?_
          refine lv_iload_n hx hb dX2_same_39 rfl (lv_at hl 3 rfl) ?_
          refine lv_iload_n hx hb dX2_same_40 rfl (lv_at hl 1 rfl) ?_
          refine vz_callV (n := 2) (As := [.int (nI i), .int (nI 0)]) (rest := []) (q0 := 0) hcf (c_X2_inList l D kA me n g mk ss hn 0 t q (by decide) ht ht24 hq i (by omega)) gX2_same_X2_inList rfl hd_X2_inList ⟨Nat.le_of_ble_eq_true rfl, Nat.le_of_ble_eq_true rfl⟩ hK (hP.sub [0, 1, 2, 3] rfl) rfl rfl rfl rfl hl.1 rfl (Nat.le_of_ble_eq_true rfl) ⟨Nat.zero_le _, Nat.zero_le _⟩ dX2_same_41 ?_
          refine lv_aload_n hx hb dX2_same_44 rfl (lv_at hl 0 rfl) ?_
          refine lv_iload_n hx hb dX2_same_45 rfl (lv_at hl 3 rfl) ?_
          refine lv_iload_n hx hb dX2_same_46 rfl (lv_at hl 2 rfl) ?_
          refine vz_callV (n := 2) (As := [.int (nI i), .int (nI 2)]) (rest := [.int (vz_b (zM_inL n t q i))]) (q0 := 0) hcf (c_X2_inList l D kA me n g mk ss hn 2 t2 q2 (by decide) ht2 ht242 hq2 i (by omega)) gX2_same_X2_inList rfl hd_X2_inList ⟨Nat.le_of_ble_eq_true rfl, Nat.le_of_ble_eq_true rfl⟩ hK (hP.sub [0, 1, 2, 3] rfl) rfl rfl rfl rfl hl.1 rfl (Nat.le_of_ble_eq_true rfl) ⟨Nat.zero_le _, Nat.zero_le _⟩ dX2_same_47 ?_
          refine lv_icmp_eq (tgt := 55) hx hb dX2_same_50 (by decide) (fun c_50 => ?_) (fun c_50 => ?_)
          · skip
            refine lv_iinc (v := (nI (i + 1))) (lv' := [(3, .int (nI (i + 1))), (0, .ref (me 0)), (1, .int (nI 0)), (2, .int (nI 2))]) hx hb dX2_same_55 hl (k := 3) rfl (nI_1 _) (by decide) rfl (fun ls hl => ?_)
            refine lv_goto (tgt := 18) hx hb dX2_same_58 (by decide) ?_
            exact ih1 (i + 1) _ (by omega) (by omega) (lt_sB h3 (by first | (simp [c_35]; done) | (have c_51 := vz_b_eq.mp c_50; simp [c_51]))) (lv_sub hl [1, 2, 3, 0] rfl)
          · skip
            refine lv_iconst (v := nI 0) hx hb dX2_same_53 (by decide) ?_
            exact vz_iret hx hb hr hlocks hQ (rfl) dX2_same_54 ((congrArg (fun z => vz_b (!z)) (exB_t (P := fun p => !decide (mk p = nI 2) && (zM_inL n t q p != zM_inL n t2 q2 p)) (i := i) (by omega) (by have c_51 : ¬ zM_inL n t q i = zM_inL n t2 q2 i := fun e9 => c_50 (vz_b_eq.mpr e9); simp [c_35, c_51]))).symm)
  exact lp1 _ 0 _ (Nat.lt_succ_self _) (by omega) lt_0B (lv_sub hl [1, 2, 3, 0] rfl)
set_option maxHeartbeats 4000000 in
set_option maxRecDepth 100000 in
theorem c_X2_same03 (l : Launch) (D : va_G) (kA : ClassId) (me : Nat → Nat) (n : Nat) (g mk : Nat → Int32) (ss : Nat → Nat) (hn : n ≤ 8) (y : Int32) (hy3 : (!decide (y < 0) && !decide (nI 2 < y)) = false) : vz_M l yX2_same wsX2_same 1 20 [.ref (me 0), .int (nI 0), .int y] D kA [(me 0, .inr (2, [.ref (me 1), .ref (me 2), .ref (me 3), .int (nI n)])), (me 1, .inl (kA, 96, .inl g)), (me 2, .inl (kA, 4, .inl (fun j => nI (ss j)))), (me 3, .inl (kA, 256, .inl mk))] (some (.int (nI 0))) := by
  refine vz_start (cc := cX2_same) (maxL := 4) (ret := (some .boolean)) (own := RX2) (by decide) rfl rfl (Nat.le_of_ble_eq_true rfl) ?_
  intro pz ez sz mz below meth cz args Q ls hargs hx hb hml hown hts hr hlocks hP hK hQ hl
  have hcf : CallFix pz mz cz cX2_same 4 sz args wsX2_same RX2 := ⟨hx, hb, hml, hown, hts⟩
  have hi0 : ∀ w ∈ u_ws RX2 TX2 4, w ∈ wsX2_same := by decide +kernel
  have hf16 : (Cond.fieldLink RX2 16 "CubeMinModel" "kinds" "[I").before args sz = true := hts _ (by decide +kernel)
  have hf19 : (Cond.fieldLink RX2 19 "CubeMinModel" "n" "I").before args sz = true := hts _ (by decide +kernel)
  have hl : lv_has ls 4 [(0, .ref (me 0)), (1, .int (nI 0)), (2, .int y)] := hl
  have hN := zN_le hn
  refine lv_iload_n hx hb dX2_same_0 rfl (lv_at hl 1 rfl) ?_
  refine vz_callS (n := 1) (As := [.int (nI 0)]) (rest := []) hcf (c_X2_isList l D kA (nI 0)) gX2_same_X2_isList rfl hd_X2_isList ⟨Nat.le_of_ble_eq_true rfl, Nat.le_of_ble_eq_true rfl⟩ hK (hP.sub [] rfl) rfl hl.1 rfl (Nat.le_of_ble_eq_true rfl) ⟨Nat.zero_le _, Nat.zero_le _⟩ dX2_same_1 ?_
  refine vz_ifeqB (tgt := 14) hx hb dX2_same_4 (by decide) (fun c_4 => absurd c_4 (by decide)) (fun c_4 => ?_)
  refine lv_iload_n hx hb dX2_same_7 rfl (lv_at hl 2 rfl) ?_
  refine vz_callS (n := 1) (As := [.int y]) (rest := []) hcf (c_X2_isList l D kA y) gX2_same_X2_isList rfl hd_X2_isList ⟨Nat.le_of_ble_eq_true rfl, Nat.le_of_ble_eq_true rfl⟩ hK (hP.sub [] rfl) rfl hl.1 rfl (Nat.le_of_ble_eq_true rfl) ⟨Nat.zero_le _, Nat.zero_le _⟩ dX2_same_8 ?_
  refine vz_ifneB (tgt := 16) hx hb dX2_same_11 (by decide) (fun c_11 => absurd c_11 (by rw [hy3]; decide)) (fun c_11 => ?_)
  refine lv_iconst (v := nI 0) hx hb dX2_same_14 (by decide) ?_
  exact vz_iret hx hb hr hlocks hQ (rfl) dX2_same_15 rfl
set_option maxHeartbeats 4000000 in
set_option maxRecDepth 100000 in
theorem c_X2_same10 (l : Launch) (D : va_G) (kA : ClassId) (me : Nat → Nat) (n : Nat) (g mk : Nat → Int32) (ss : Nat → Nat) (hn : n ≤ 8) (t : Nat) (q : Nat → Int32) (ht : ss 1 = t) (ht24 : t ≤ 24) (hq : ∀ j, j < 24 → g (24 * 1 + j) = q j) (t2 : Nat) (q2 : Nat → Int32) (ht2 : ss 0 = t2) (ht242 : t2 ≤ 24) (hq2 : ∀ j, j < 24 → g (24 * 0 + j) = q2 j) : vz_M l yX2_same wsX2_same 2 46 [.ref (me 0), .int (nI 1), .int (nI 0)] D kA [(me 0, .inr (2, [.ref (me 1), .ref (me 2), .ref (me 3), .int (nI n)])), (me 1, .inl (kA, 96, .inl g)), (me 2, .inl (kA, 4, .inl (fun j => nI (ss j)))), (me 3, .inl (kA, 256, .inl mk))] (some (.int (vz_b (!exB (zN n) (fun p => !decide (mk p = nI 2) && (zM_inL n t q p != zM_inL n t2 q2 p)))))) := by
  refine vz_start (cc := cX2_same) (maxL := 4) (ret := (some .boolean)) (own := RX2) (by decide) rfl rfl (Nat.le_of_ble_eq_true rfl) ?_
  intro pz ez sz mz below meth cz args Q ls hargs hx hb hml hown hts hr hlocks hP hK hQ hl
  have hcf : CallFix pz mz cz cX2_same 4 sz args wsX2_same RX2 := ⟨hx, hb, hml, hown, hts⟩
  have hi0 : ∀ w ∈ u_ws RX2 TX2 4, w ∈ wsX2_same := by decide +kernel
  have hf16 : (Cond.fieldLink RX2 16 "CubeMinModel" "kinds" "[I").before args sz = true := hts _ (by decide +kernel)
  have hf19 : (Cond.fieldLink RX2 19 "CubeMinModel" "n" "I").before args sz = true := hts _ (by decide +kernel)
  have hl : lv_has ls 4 [(0, .ref (me 0)), (1, .int (nI 1)), (2, .int (nI 0))] := hl
  have hN := zN_le hn
  refine lv_iload_n hx hb dX2_same_0 rfl (lv_at hl 1 rfl) ?_
  refine vz_callS (n := 1) (As := [.int (nI 1)]) (rest := []) hcf (c_X2_isList l D kA (nI 1)) gX2_same_X2_isList rfl hd_X2_isList ⟨Nat.le_of_ble_eq_true rfl, Nat.le_of_ble_eq_true rfl⟩ hK (hP.sub [] rfl) rfl hl.1 rfl (Nat.le_of_ble_eq_true rfl) ⟨Nat.zero_le _, Nat.zero_le _⟩ dX2_same_1 ?_
  refine vz_ifeqB (tgt := 14) hx hb dX2_same_4 (by decide) (fun c_4 => absurd c_4 (by decide)) (fun c_4 => ?_)
  refine lv_iload_n hx hb dX2_same_7 rfl (lv_at hl 2 rfl) ?_
  refine vz_callS (n := 1) (As := [.int (nI 0)]) (rest := []) hcf (c_X2_isList l D kA (nI 0)) gX2_same_X2_isList rfl hd_X2_isList ⟨Nat.le_of_ble_eq_true rfl, Nat.le_of_ble_eq_true rfl⟩ hK (hP.sub [] rfl) rfl hl.1 rfl (Nat.le_of_ble_eq_true rfl) ⟨Nat.zero_le _, Nat.zero_le _⟩ dX2_same_8 ?_
  refine vz_ifneB (tgt := 16) hx hb dX2_same_11 (by decide) (fun c_11 => ?_) (fun c_11 => absurd c_11 (by decide))
  refine lv_iconst (v := nI 0) hx hb dX2_same_16 (by decide) ?_
  refine lv_istore_n (lv' := [(3, .int (nI 0)), (0, .ref (me 0)), (1, .int (nI 1)), (2, .int (nI 0))]) hx hb dX2_same_17 rfl hl (by decide) rfl (fun ls hl => ?_)
  have lp1 : ∀ (dz : Nat) (i : Nat) (ls : Array Slot), (zN n - i) < dz → (i ≤ zN n) → (∀ p, p < i → (!decide (mk p = nI 2) && (zM_inL n t q p != zM_inL n t2 q2 p)) = false) → lv_has ls 4 [(0, .ref (me 0)), (1, .int (nI 1)), (2, .int (nI 0)), (3, .int (nI i))] → W pz l ez (vz_R 2 46) sz mz args below meth cz sz.heap [] 0 0 Q (F0 mz 18 ls []) := by
    intro dz
    induction dz with
    | zero => intro i ls hd h1 h3 hl; exact absurd hd (Nat.not_lt_zero _)
    | succ dz ih1 =>
      intro i ls hd h1 h3 hl
      refine lv_iload_n hx hb dX2_same_18 rfl (lv_at hl 3 rfl) ?_
      refine lv_iconst (v := nI 1) hx hb dX2_same_19 (by decide) ?_
      refine lv_aload_n hx hb dX2_same_20 rfl (lv_at hl 0 rfl) ?_
      refine va_get (D := D) (ci := 2) (v := .int (nI n)) (C := RX2) (T := TX2) (N := 4) hx hb hts hi0 hown hK hP 0 rfl rfl 3 (by decide) hf19 (fun _ h9 => h9) rfl dX2_same_21 ?_
      refine lv_ishl hx hb dX2_same_24 ?_
      refine vz_top (y := (nI (zN n))) (zN_sh n hn) ?_
      refine vz_cge (tgt := 61) hx hb dX2_same_25 (by decide) (by omega) (by omega) (fun c_25 => ?_) (fun c_25 => ?_)
      · skip
        refine lv_iconst (v := nI 1) hx hb dX2_same_61 (by decide) ?_
        exact vz_iret hx hb hr hlocks hQ (rfl) dX2_same_62 ((congrArg (fun z => vz_b (!z)) (exB_f (P := fun p => !decide (mk p = nI 2) && (zM_inL n t q p != zM_inL n t2 q2 p)) (fun j hj => h3 j (by omega)))).symm)
      · skip
        refine lv_aload_n hx hb dX2_same_28 rfl (lv_at hl 0 rfl) ?_
        refine va_get (D := D) (ci := 2) (v := .ref (me 3)) (C := RX2) (T := TX2) (N := 4) hx hb hts hi0 hown hK hP 0 rfl rfl 2 (by decide) hf16 (fun _ h9 => h9) rfl dX2_same_29 ?_
        refine lv_iload_n hx hb dX2_same_32 rfl (lv_at hl 3 rfl) ?_
        refine vz_ald hx hb hK hP 3 rfl (by omega) (Nat.le_of_ble_eq_true rfl) dX2_same_33 ?_
        refine lv_iconst (v := nI 2) hx hb dX2_same_34 (by decide) ?_
        refine lv_icmp_eq (tgt := 55) hx hb dX2_same_35 (by decide) (fun c_35 => ?_) (fun c_35 => ?_)
        · skip
          refine lv_iinc (v := (nI (i + 1))) (lv' := [(3, .int (nI (i + 1))), (0, .ref (me 0)), (1, .int (nI 1)), (2, .int (nI 0))]) hx hb dX2_same_55 hl (k := 3) rfl (nI_1 _) (by decide) rfl (fun ls hl => ?_)
          refine lv_goto (tgt := 18) hx hb dX2_same_58 (by decide) ?_
          exact ih1 (i + 1) _ (by omega) (by omega) (lt_sB h3 (by first | (simp [c_35]; done) | (have c_51 := vz_b_eq.mp c_50; simp [c_51]))) (lv_sub hl [1, 2, 3, 0] rfl)
        · skip
          refine lv_aload_n hx hb dX2_same_38 rfl (lv_at hl 0 rfl) ?_
          refine lv_iload_n hx hb dX2_same_39 rfl (lv_at hl 3 rfl) ?_
          refine lv_iload_n hx hb dX2_same_40 rfl (lv_at hl 1 rfl) ?_
          refine vz_callV (n := 2) (As := [.int (nI i), .int (nI 1)]) (rest := []) (q0 := 0) hcf (c_X2_inList l D kA me n g mk ss hn 1 t q (by decide) ht ht24 hq i (by omega)) gX2_same_X2_inList rfl hd_X2_inList ⟨Nat.le_of_ble_eq_true rfl, Nat.le_of_ble_eq_true rfl⟩ hK (hP.sub [0, 1, 2, 3] rfl) rfl rfl rfl rfl hl.1 rfl (Nat.le_of_ble_eq_true rfl) ⟨Nat.zero_le _, Nat.zero_le _⟩ dX2_same_41 ?_
          refine lv_aload_n hx hb dX2_same_44 rfl (lv_at hl 0 rfl) ?_
          refine lv_iload_n hx hb dX2_same_45 rfl (lv_at hl 3 rfl) ?_
          refine lv_iload_n hx hb dX2_same_46 rfl (lv_at hl 2 rfl) ?_
          refine vz_callV (n := 2) (As := [.int (nI i), .int (nI 0)]) (rest := [.int (vz_b (zM_inL n t q i))]) (q0 := 0) hcf (c_X2_inList l D kA me n g mk ss hn 0 t2 q2 (by decide) ht2 ht242 hq2 i (by omega)) gX2_same_X2_inList rfl hd_X2_inList ⟨Nat.le_of_ble_eq_true rfl, Nat.le_of_ble_eq_true rfl⟩ hK (hP.sub [0, 1, 2, 3] rfl) rfl rfl rfl rfl hl.1 rfl (Nat.le_of_ble_eq_true rfl) ⟨Nat.zero_le _, Nat.zero_le _⟩ dX2_same_47 ?_
          refine lv_icmp_eq (tgt := 55) hx hb dX2_same_50 (by decide) (fun c_50 => ?_) (fun c_50 => ?_)
          · skip
            refine lv_iinc (v := (nI (i + 1))) (lv' := [(3, .int (nI (i + 1))), (0, .ref (me 0)), (1, .int (nI 1)), (2, .int (nI 0))]) hx hb dX2_same_55 hl (k := 3) rfl (nI_1 _) (by decide) rfl (fun ls hl => ?_)
            refine lv_goto (tgt := 18) hx hb dX2_same_58 (by decide) ?_
            exact ih1 (i + 1) _ (by omega) (by omega) (lt_sB h3 (by first | (simp [c_35]; done) | (have c_51 := vz_b_eq.mp c_50; simp [c_51]))) (lv_sub hl [1, 2, 3, 0] rfl)
          · skip
            refine lv_iconst (v := nI 0) hx hb dX2_same_53 (by decide) ?_
            exact vz_iret hx hb hr hlocks hQ (rfl) dX2_same_54 ((congrArg (fun z => vz_b (!z)) (exB_t (P := fun p => !decide (mk p = nI 2) && (zM_inL n t q p != zM_inL n t2 q2 p)) (i := i) (by omega) (by have c_51 : ¬ zM_inL n t q i = zM_inL n t2 q2 i := fun e9 => c_50 (vz_b_eq.mpr e9); simp [c_35, c_51]))).symm)
  exact lp1 _ 0 _ (Nat.lt_succ_self _) (by omega) lt_0B (lv_sub hl [1, 2, 3, 0] rfl)
set_option maxHeartbeats 4000000 in
set_option maxRecDepth 100000 in
theorem c_X2_same11 (l : Launch) (D : va_G) (kA : ClassId) (me : Nat → Nat) (n : Nat) (g mk : Nat → Int32) (ss : Nat → Nat) (hn : n ≤ 8) (t : Nat) (q : Nat → Int32) (ht : ss 1 = t) (ht24 : t ≤ 24) (hq : ∀ j, j < 24 → g (24 * 1 + j) = q j) (t2 : Nat) (q2 : Nat → Int32) (ht2 : ss 1 = t2) (ht242 : t2 ≤ 24) (hq2 : ∀ j, j < 24 → g (24 * 1 + j) = q2 j) : vz_M l yX2_same wsX2_same 2 46 [.ref (me 0), .int (nI 1), .int (nI 1)] D kA [(me 0, .inr (2, [.ref (me 1), .ref (me 2), .ref (me 3), .int (nI n)])), (me 1, .inl (kA, 96, .inl g)), (me 2, .inl (kA, 4, .inl (fun j => nI (ss j)))), (me 3, .inl (kA, 256, .inl mk))] (some (.int (vz_b (!exB (zN n) (fun p => !decide (mk p = nI 2) && (zM_inL n t q p != zM_inL n t2 q2 p)))))) := by
  refine vz_start (cc := cX2_same) (maxL := 4) (ret := (some .boolean)) (own := RX2) (by decide) rfl rfl (Nat.le_of_ble_eq_true rfl) ?_
  intro pz ez sz mz below meth cz args Q ls hargs hx hb hml hown hts hr hlocks hP hK hQ hl
  have hcf : CallFix pz mz cz cX2_same 4 sz args wsX2_same RX2 := ⟨hx, hb, hml, hown, hts⟩
  have hi0 : ∀ w ∈ u_ws RX2 TX2 4, w ∈ wsX2_same := by decide +kernel
  have hf16 : (Cond.fieldLink RX2 16 "CubeMinModel" "kinds" "[I").before args sz = true := hts _ (by decide +kernel)
  have hf19 : (Cond.fieldLink RX2 19 "CubeMinModel" "n" "I").before args sz = true := hts _ (by decide +kernel)
  have hl : lv_has ls 4 [(0, .ref (me 0)), (1, .int (nI 1)), (2, .int (nI 1))] := hl
  have hN := zN_le hn
  refine lv_iload_n hx hb dX2_same_0 rfl (lv_at hl 1 rfl) ?_
  refine vz_callS (n := 1) (As := [.int (nI 1)]) (rest := []) hcf (c_X2_isList l D kA (nI 1)) gX2_same_X2_isList rfl hd_X2_isList ⟨Nat.le_of_ble_eq_true rfl, Nat.le_of_ble_eq_true rfl⟩ hK (hP.sub [] rfl) rfl hl.1 rfl (Nat.le_of_ble_eq_true rfl) ⟨Nat.zero_le _, Nat.zero_le _⟩ dX2_same_1 ?_
  refine vz_ifeqB (tgt := 14) hx hb dX2_same_4 (by decide) (fun c_4 => absurd c_4 (by decide)) (fun c_4 => ?_)
  refine lv_iload_n hx hb dX2_same_7 rfl (lv_at hl 2 rfl) ?_
  refine vz_callS (n := 1) (As := [.int (nI 1)]) (rest := []) hcf (c_X2_isList l D kA (nI 1)) gX2_same_X2_isList rfl hd_X2_isList ⟨Nat.le_of_ble_eq_true rfl, Nat.le_of_ble_eq_true rfl⟩ hK (hP.sub [] rfl) rfl hl.1 rfl (Nat.le_of_ble_eq_true rfl) ⟨Nat.zero_le _, Nat.zero_le _⟩ dX2_same_8 ?_
  refine vz_ifneB (tgt := 16) hx hb dX2_same_11 (by decide) (fun c_11 => ?_) (fun c_11 => absurd c_11 (by decide))
  refine lv_iconst (v := nI 0) hx hb dX2_same_16 (by decide) ?_
  refine lv_istore_n (lv' := [(3, .int (nI 0)), (0, .ref (me 0)), (1, .int (nI 1)), (2, .int (nI 1))]) hx hb dX2_same_17 rfl hl (by decide) rfl (fun ls hl => ?_)
  have lp1 : ∀ (dz : Nat) (i : Nat) (ls : Array Slot), (zN n - i) < dz → (i ≤ zN n) → (∀ p, p < i → (!decide (mk p = nI 2) && (zM_inL n t q p != zM_inL n t2 q2 p)) = false) → lv_has ls 4 [(0, .ref (me 0)), (1, .int (nI 1)), (2, .int (nI 1)), (3, .int (nI i))] → W pz l ez (vz_R 2 46) sz mz args below meth cz sz.heap [] 0 0 Q (F0 mz 18 ls []) := by
    intro dz
    induction dz with
    | zero => intro i ls hd h1 h3 hl; exact absurd hd (Nat.not_lt_zero _)
    | succ dz ih1 =>
      intro i ls hd h1 h3 hl
      refine lv_iload_n hx hb dX2_same_18 rfl (lv_at hl 3 rfl) ?_
      refine lv_iconst (v := nI 1) hx hb dX2_same_19 (by decide) ?_
      refine lv_aload_n hx hb dX2_same_20 rfl (lv_at hl 0 rfl) ?_
      refine va_get (D := D) (ci := 2) (v := .int (nI n)) (C := RX2) (T := TX2) (N := 4) hx hb hts hi0 hown hK hP 0 rfl rfl 3 (by decide) hf19 (fun _ h9 => h9) rfl dX2_same_21 ?_
      refine lv_ishl hx hb dX2_same_24 ?_
      refine vz_top (y := (nI (zN n))) (zN_sh n hn) ?_
      refine vz_cge (tgt := 61) hx hb dX2_same_25 (by decide) (by omega) (by omega) (fun c_25 => ?_) (fun c_25 => ?_)
      · skip
        refine lv_iconst (v := nI 1) hx hb dX2_same_61 (by decide) ?_
        exact vz_iret hx hb hr hlocks hQ (rfl) dX2_same_62 ((congrArg (fun z => vz_b (!z)) (exB_f (P := fun p => !decide (mk p = nI 2) && (zM_inL n t q p != zM_inL n t2 q2 p)) (fun j hj => h3 j (by omega)))).symm)
      · skip
        refine lv_aload_n hx hb dX2_same_28 rfl (lv_at hl 0 rfl) ?_
        refine va_get (D := D) (ci := 2) (v := .ref (me 3)) (C := RX2) (T := TX2) (N := 4) hx hb hts hi0 hown hK hP 0 rfl rfl 2 (by decide) hf16 (fun _ h9 => h9) rfl dX2_same_29 ?_
        refine lv_iload_n hx hb dX2_same_32 rfl (lv_at hl 3 rfl) ?_
        refine vz_ald hx hb hK hP 3 rfl (by omega) (Nat.le_of_ble_eq_true rfl) dX2_same_33 ?_
        refine lv_iconst (v := nI 2) hx hb dX2_same_34 (by decide) ?_
        refine lv_icmp_eq (tgt := 55) hx hb dX2_same_35 (by decide) (fun c_35 => ?_) (fun c_35 => ?_)
        · skip
          refine lv_iinc (v := (nI (i + 1))) (lv' := [(3, .int (nI (i + 1))), (0, .ref (me 0)), (1, .int (nI 1)), (2, .int (nI 1))]) hx hb dX2_same_55 hl (k := 3) rfl (nI_1 _) (by decide) rfl (fun ls hl => ?_)
          refine lv_goto (tgt := 18) hx hb dX2_same_58 (by decide) ?_
          exact ih1 (i + 1) _ (by omega) (by omega) (lt_sB h3 (by first | (simp [c_35]; done) | (have c_51 := vz_b_eq.mp c_50; simp [c_51]))) (lv_sub hl [1, 2, 3, 0] rfl)
        · skip
          refine lv_aload_n hx hb dX2_same_38 rfl (lv_at hl 0 rfl) ?_
          refine lv_iload_n hx hb dX2_same_39 rfl (lv_at hl 3 rfl) ?_
          refine lv_iload_n hx hb dX2_same_40 rfl (lv_at hl 1 rfl) ?_
          refine vz_callV (n := 2) (As := [.int (nI i), .int (nI 1)]) (rest := []) (q0 := 0) hcf (c_X2_inList l D kA me n g mk ss hn 1 t q (by decide) ht ht24 hq i (by omega)) gX2_same_X2_inList rfl hd_X2_inList ⟨Nat.le_of_ble_eq_true rfl, Nat.le_of_ble_eq_true rfl⟩ hK (hP.sub [0, 1, 2, 3] rfl) rfl rfl rfl rfl hl.1 rfl (Nat.le_of_ble_eq_true rfl) ⟨Nat.zero_le _, Nat.zero_le _⟩ dX2_same_41 ?_
          refine lv_aload_n hx hb dX2_same_44 rfl (lv_at hl 0 rfl) ?_
          refine lv_iload_n hx hb dX2_same_45 rfl (lv_at hl 3 rfl) ?_
          refine lv_iload_n hx hb dX2_same_46 rfl (lv_at hl 2 rfl) ?_
          refine vz_callV (n := 2) (As := [.int (nI i), .int (nI 1)]) (rest := [.int (vz_b (zM_inL n t q i))]) (q0 := 0) hcf (c_X2_inList l D kA me n g mk ss hn 1 t2 q2 (by decide) ht2 ht242 hq2 i (by omega)) gX2_same_X2_inList rfl hd_X2_inList ⟨Nat.le_of_ble_eq_true rfl, Nat.le_of_ble_eq_true rfl⟩ hK (hP.sub [0, 1, 2, 3] rfl) rfl rfl rfl rfl hl.1 rfl (Nat.le_of_ble_eq_true rfl) ⟨Nat.zero_le _, Nat.zero_le _⟩ dX2_same_47 ?_
          refine lv_icmp_eq (tgt := 55) hx hb dX2_same_50 (by decide) (fun c_50 => ?_) (fun c_50 => ?_)
          · skip
            refine lv_iinc (v := (nI (i + 1))) (lv' := [(3, .int (nI (i + 1))), (0, .ref (me 0)), (1, .int (nI 1)), (2, .int (nI 1))]) hx hb dX2_same_55 hl (k := 3) rfl (nI_1 _) (by decide) rfl (fun ls hl => ?_)
            refine lv_goto (tgt := 18) hx hb dX2_same_58 (by decide) ?_
            exact ih1 (i + 1) _ (by omega) (by omega) (lt_sB h3 (by first | (simp [c_35]; done) | (have c_51 := vz_b_eq.mp c_50; simp [c_51]))) (lv_sub hl [1, 2, 3, 0] rfl)
          · skip
            refine lv_iconst (v := nI 0) hx hb dX2_same_53 (by decide) ?_
            exact vz_iret hx hb hr hlocks hQ (rfl) dX2_same_54 ((congrArg (fun z => vz_b (!z)) (exB_t (P := fun p => !decide (mk p = nI 2) && (zM_inL n t q p != zM_inL n t2 q2 p)) (i := i) (by omega) (by have c_51 : ¬ zM_inL n t q i = zM_inL n t2 q2 i := fun e9 => c_50 (vz_b_eq.mpr e9); simp [c_35, c_51]))).symm)
  exact lp1 _ 0 _ (Nat.lt_succ_self _) (by omega) lt_0B (lv_sub hl [1, 2, 3, 0] rfl)
set_option maxHeartbeats 4000000 in
set_option maxRecDepth 100000 in
theorem c_X2_same12 (l : Launch) (D : va_G) (kA : ClassId) (me : Nat → Nat) (n : Nat) (g mk : Nat → Int32) (ss : Nat → Nat) (hn : n ≤ 8) (t : Nat) (q : Nat → Int32) (ht : ss 1 = t) (ht24 : t ≤ 24) (hq : ∀ j, j < 24 → g (24 * 1 + j) = q j) (t2 : Nat) (q2 : Nat → Int32) (ht2 : ss 2 = t2) (ht242 : t2 ≤ 24) (hq2 : ∀ j, j < 24 → g (24 * 2 + j) = q2 j) : vz_M l yX2_same wsX2_same 2 46 [.ref (me 0), .int (nI 1), .int (nI 2)] D kA [(me 0, .inr (2, [.ref (me 1), .ref (me 2), .ref (me 3), .int (nI n)])), (me 1, .inl (kA, 96, .inl g)), (me 2, .inl (kA, 4, .inl (fun j => nI (ss j)))), (me 3, .inl (kA, 256, .inl mk))] (some (.int (vz_b (!exB (zN n) (fun p => !decide (mk p = nI 2) && (zM_inL n t q p != zM_inL n t2 q2 p)))))) := by
  refine vz_start (cc := cX2_same) (maxL := 4) (ret := (some .boolean)) (own := RX2) (by decide) rfl rfl (Nat.le_of_ble_eq_true rfl) ?_
  intro pz ez sz mz below meth cz args Q ls hargs hx hb hml hown hts hr hlocks hP hK hQ hl
  have hcf : CallFix pz mz cz cX2_same 4 sz args wsX2_same RX2 := ⟨hx, hb, hml, hown, hts⟩
  have hi0 : ∀ w ∈ u_ws RX2 TX2 4, w ∈ wsX2_same := by decide +kernel
  have hf16 : (Cond.fieldLink RX2 16 "CubeMinModel" "kinds" "[I").before args sz = true := hts _ (by decide +kernel)
  have hf19 : (Cond.fieldLink RX2 19 "CubeMinModel" "n" "I").before args sz = true := hts _ (by decide +kernel)
  have hl : lv_has ls 4 [(0, .ref (me 0)), (1, .int (nI 1)), (2, .int (nI 2))] := hl
  have hN := zN_le hn
  refine lv_iload_n hx hb dX2_same_0 rfl (lv_at hl 1 rfl) ?_
  refine vz_callS (n := 1) (As := [.int (nI 1)]) (rest := []) hcf (c_X2_isList l D kA (nI 1)) gX2_same_X2_isList rfl hd_X2_isList ⟨Nat.le_of_ble_eq_true rfl, Nat.le_of_ble_eq_true rfl⟩ hK (hP.sub [] rfl) rfl hl.1 rfl (Nat.le_of_ble_eq_true rfl) ⟨Nat.zero_le _, Nat.zero_le _⟩ dX2_same_1 ?_
  refine vz_ifeqB (tgt := 14) hx hb dX2_same_4 (by decide) (fun c_4 => absurd c_4 (by decide)) (fun c_4 => ?_)
  refine lv_iload_n hx hb dX2_same_7 rfl (lv_at hl 2 rfl) ?_
  refine vz_callS (n := 1) (As := [.int (nI 2)]) (rest := []) hcf (c_X2_isList l D kA (nI 2)) gX2_same_X2_isList rfl hd_X2_isList ⟨Nat.le_of_ble_eq_true rfl, Nat.le_of_ble_eq_true rfl⟩ hK (hP.sub [] rfl) rfl hl.1 rfl (Nat.le_of_ble_eq_true rfl) ⟨Nat.zero_le _, Nat.zero_le _⟩ dX2_same_8 ?_
  refine vz_ifneB (tgt := 16) hx hb dX2_same_11 (by decide) (fun c_11 => ?_) (fun c_11 => absurd c_11 (by decide))
  refine lv_iconst (v := nI 0) hx hb dX2_same_16 (by decide) ?_
  refine lv_istore_n (lv' := [(3, .int (nI 0)), (0, .ref (me 0)), (1, .int (nI 1)), (2, .int (nI 2))]) hx hb dX2_same_17 rfl hl (by decide) rfl (fun ls hl => ?_)
  have lp1 : ∀ (dz : Nat) (i : Nat) (ls : Array Slot), (zN n - i) < dz → (i ≤ zN n) → (∀ p, p < i → (!decide (mk p = nI 2) && (zM_inL n t q p != zM_inL n t2 q2 p)) = false) → lv_has ls 4 [(0, .ref (me 0)), (1, .int (nI 1)), (2, .int (nI 2)), (3, .int (nI i))] → W pz l ez (vz_R 2 46) sz mz args below meth cz sz.heap [] 0 0 Q (F0 mz 18 ls []) := by
    intro dz
    induction dz with
    | zero => intro i ls hd h1 h3 hl; exact absurd hd (Nat.not_lt_zero _)
    | succ dz ih1 =>
      intro i ls hd h1 h3 hl
      refine lv_iload_n hx hb dX2_same_18 rfl (lv_at hl 3 rfl) ?_
      refine lv_iconst (v := nI 1) hx hb dX2_same_19 (by decide) ?_
      refine lv_aload_n hx hb dX2_same_20 rfl (lv_at hl 0 rfl) ?_
      refine va_get (D := D) (ci := 2) (v := .int (nI n)) (C := RX2) (T := TX2) (N := 4) hx hb hts hi0 hown hK hP 0 rfl rfl 3 (by decide) hf19 (fun _ h9 => h9) rfl dX2_same_21 ?_
      refine lv_ishl hx hb dX2_same_24 ?_
      refine vz_top (y := (nI (zN n))) (zN_sh n hn) ?_
      refine vz_cge (tgt := 61) hx hb dX2_same_25 (by decide) (by omega) (by omega) (fun c_25 => ?_) (fun c_25 => ?_)
      · skip
        refine lv_iconst (v := nI 1) hx hb dX2_same_61 (by decide) ?_
        exact vz_iret hx hb hr hlocks hQ (rfl) dX2_same_62 ((congrArg (fun z => vz_b (!z)) (exB_f (P := fun p => !decide (mk p = nI 2) && (zM_inL n t q p != zM_inL n t2 q2 p)) (fun j hj => h3 j (by omega)))).symm)
      · skip
        refine lv_aload_n hx hb dX2_same_28 rfl (lv_at hl 0 rfl) ?_
        refine va_get (D := D) (ci := 2) (v := .ref (me 3)) (C := RX2) (T := TX2) (N := 4) hx hb hts hi0 hown hK hP 0 rfl rfl 2 (by decide) hf16 (fun _ h9 => h9) rfl dX2_same_29 ?_
        refine lv_iload_n hx hb dX2_same_32 rfl (lv_at hl 3 rfl) ?_
        refine vz_ald hx hb hK hP 3 rfl (by omega) (Nat.le_of_ble_eq_true rfl) dX2_same_33 ?_
        refine lv_iconst (v := nI 2) hx hb dX2_same_34 (by decide) ?_
        refine lv_icmp_eq (tgt := 55) hx hb dX2_same_35 (by decide) (fun c_35 => ?_) (fun c_35 => ?_)
        · skip
          refine lv_iinc (v := (nI (i + 1))) (lv' := [(3, .int (nI (i + 1))), (0, .ref (me 0)), (1, .int (nI 1)), (2, .int (nI 2))]) hx hb dX2_same_55 hl (k := 3) rfl (nI_1 _) (by decide) rfl (fun ls hl => ?_)
          refine lv_goto (tgt := 18) hx hb dX2_same_58 (by decide) ?_
          exact ih1 (i + 1) _ (by omega) (by omega) (lt_sB h3 (by first | (simp [c_35]; done) | (have c_51 := vz_b_eq.mp c_50; simp [c_51]))) (lv_sub hl [1, 2, 3, 0] rfl)
        · skip
          refine lv_aload_n hx hb dX2_same_38 rfl (lv_at hl 0 rfl) ?_
          refine lv_iload_n hx hb dX2_same_39 rfl (lv_at hl 3 rfl) ?_
          refine lv_iload_n hx hb dX2_same_40 rfl (lv_at hl 1 rfl) ?_
          refine vz_callV (n := 2) (As := [.int (nI i), .int (nI 1)]) (rest := []) (q0 := 0) hcf (c_X2_inList l D kA me n g mk ss hn 1 t q (by decide) ht ht24 hq i (by omega)) gX2_same_X2_inList rfl hd_X2_inList ⟨Nat.le_of_ble_eq_true rfl, Nat.le_of_ble_eq_true rfl⟩ hK (hP.sub [0, 1, 2, 3] rfl) rfl rfl rfl rfl hl.1 rfl (Nat.le_of_ble_eq_true rfl) ⟨Nat.zero_le _, Nat.zero_le _⟩ dX2_same_41 ?_
          refine lv_aload_n hx hb dX2_same_44 rfl (lv_at hl 0 rfl) ?_
          refine lv_iload_n hx hb dX2_same_45 rfl (lv_at hl 3 rfl) ?_
          refine lv_iload_n hx hb dX2_same_46 rfl (lv_at hl 2 rfl) ?_
          refine vz_callV (n := 2) (As := [.int (nI i), .int (nI 2)]) (rest := [.int (vz_b (zM_inL n t q i))]) (q0 := 0) hcf (c_X2_inList l D kA me n g mk ss hn 2 t2 q2 (by decide) ht2 ht242 hq2 i (by omega)) gX2_same_X2_inList rfl hd_X2_inList ⟨Nat.le_of_ble_eq_true rfl, Nat.le_of_ble_eq_true rfl⟩ hK (hP.sub [0, 1, 2, 3] rfl) rfl rfl rfl rfl hl.1 rfl (Nat.le_of_ble_eq_true rfl) ⟨Nat.zero_le _, Nat.zero_le _⟩ dX2_same_47 ?_
          refine lv_icmp_eq (tgt := 55) hx hb dX2_same_50 (by decide) (fun c_50 => ?_) (fun c_50 => ?_)
          · skip
            refine lv_iinc (v := (nI (i + 1))) (lv' := [(3, .int (nI (i + 1))), (0, .ref (me 0)), (1, .int (nI 1)), (2, .int (nI 2))]) hx hb dX2_same_55 hl (k := 3) rfl (nI_1 _) (by decide) rfl (fun ls hl => ?_)
            refine lv_goto (tgt := 18) hx hb dX2_same_58 (by decide) ?_
            exact ih1 (i + 1) _ (by omega) (by omega) (lt_sB h3 (by first | (simp [c_35]; done) | (have c_51 := vz_b_eq.mp c_50; simp [c_51]))) (lv_sub hl [1, 2, 3, 0] rfl)
          · skip
            refine lv_iconst (v := nI 0) hx hb dX2_same_53 (by decide) ?_
            exact vz_iret hx hb hr hlocks hQ (rfl) dX2_same_54 ((congrArg (fun z => vz_b (!z)) (exB_t (P := fun p => !decide (mk p = nI 2) && (zM_inL n t q p != zM_inL n t2 q2 p)) (i := i) (by omega) (by have c_51 : ¬ zM_inL n t q i = zM_inL n t2 q2 i := fun e9 => c_50 (vz_b_eq.mpr e9); simp [c_35, c_51]))).symm)
  exact lp1 _ 0 _ (Nat.lt_succ_self _) (by omega) lt_0B (lv_sub hl [1, 2, 3, 0] rfl)
set_option maxHeartbeats 4000000 in
set_option maxRecDepth 100000 in
theorem c_X2_same13 (l : Launch) (D : va_G) (kA : ClassId) (me : Nat → Nat) (n : Nat) (g mk : Nat → Int32) (ss : Nat → Nat) (hn : n ≤ 8) (y : Int32) (hy3 : (!decide (y < 0) && !decide (nI 2 < y)) = false) : vz_M l yX2_same wsX2_same 1 20 [.ref (me 0), .int (nI 1), .int y] D kA [(me 0, .inr (2, [.ref (me 1), .ref (me 2), .ref (me 3), .int (nI n)])), (me 1, .inl (kA, 96, .inl g)), (me 2, .inl (kA, 4, .inl (fun j => nI (ss j)))), (me 3, .inl (kA, 256, .inl mk))] (some (.int (nI 0))) := by
  refine vz_start (cc := cX2_same) (maxL := 4) (ret := (some .boolean)) (own := RX2) (by decide) rfl rfl (Nat.le_of_ble_eq_true rfl) ?_
  intro pz ez sz mz below meth cz args Q ls hargs hx hb hml hown hts hr hlocks hP hK hQ hl
  have hcf : CallFix pz mz cz cX2_same 4 sz args wsX2_same RX2 := ⟨hx, hb, hml, hown, hts⟩
  have hi0 : ∀ w ∈ u_ws RX2 TX2 4, w ∈ wsX2_same := by decide +kernel
  have hf16 : (Cond.fieldLink RX2 16 "CubeMinModel" "kinds" "[I").before args sz = true := hts _ (by decide +kernel)
  have hf19 : (Cond.fieldLink RX2 19 "CubeMinModel" "n" "I").before args sz = true := hts _ (by decide +kernel)
  have hl : lv_has ls 4 [(0, .ref (me 0)), (1, .int (nI 1)), (2, .int y)] := hl
  have hN := zN_le hn
  refine lv_iload_n hx hb dX2_same_0 rfl (lv_at hl 1 rfl) ?_
  refine vz_callS (n := 1) (As := [.int (nI 1)]) (rest := []) hcf (c_X2_isList l D kA (nI 1)) gX2_same_X2_isList rfl hd_X2_isList ⟨Nat.le_of_ble_eq_true rfl, Nat.le_of_ble_eq_true rfl⟩ hK (hP.sub [] rfl) rfl hl.1 rfl (Nat.le_of_ble_eq_true rfl) ⟨Nat.zero_le _, Nat.zero_le _⟩ dX2_same_1 ?_
  refine vz_ifeqB (tgt := 14) hx hb dX2_same_4 (by decide) (fun c_4 => absurd c_4 (by decide)) (fun c_4 => ?_)
  refine lv_iload_n hx hb dX2_same_7 rfl (lv_at hl 2 rfl) ?_
  refine vz_callS (n := 1) (As := [.int y]) (rest := []) hcf (c_X2_isList l D kA y) gX2_same_X2_isList rfl hd_X2_isList ⟨Nat.le_of_ble_eq_true rfl, Nat.le_of_ble_eq_true rfl⟩ hK (hP.sub [] rfl) rfl hl.1 rfl (Nat.le_of_ble_eq_true rfl) ⟨Nat.zero_le _, Nat.zero_le _⟩ dX2_same_8 ?_
  refine vz_ifneB (tgt := 16) hx hb dX2_same_11 (by decide) (fun c_11 => absurd c_11 (by rw [hy3]; decide)) (fun c_11 => ?_)
  refine lv_iconst (v := nI 0) hx hb dX2_same_14 (by decide) ?_
  exact vz_iret hx hb hr hlocks hQ (rfl) dX2_same_15 rfl
set_option maxHeartbeats 4000000 in
set_option maxRecDepth 100000 in
theorem c_X2_same20 (l : Launch) (D : va_G) (kA : ClassId) (me : Nat → Nat) (n : Nat) (g mk : Nat → Int32) (ss : Nat → Nat) (hn : n ≤ 8) (t : Nat) (q : Nat → Int32) (ht : ss 2 = t) (ht24 : t ≤ 24) (hq : ∀ j, j < 24 → g (24 * 2 + j) = q j) (t2 : Nat) (q2 : Nat → Int32) (ht2 : ss 0 = t2) (ht242 : t2 ≤ 24) (hq2 : ∀ j, j < 24 → g (24 * 0 + j) = q2 j) : vz_M l yX2_same wsX2_same 2 46 [.ref (me 0), .int (nI 2), .int (nI 0)] D kA [(me 0, .inr (2, [.ref (me 1), .ref (me 2), .ref (me 3), .int (nI n)])), (me 1, .inl (kA, 96, .inl g)), (me 2, .inl (kA, 4, .inl (fun j => nI (ss j)))), (me 3, .inl (kA, 256, .inl mk))] (some (.int (vz_b (!exB (zN n) (fun p => !decide (mk p = nI 2) && (zM_inL n t q p != zM_inL n t2 q2 p)))))) := by
  refine vz_start (cc := cX2_same) (maxL := 4) (ret := (some .boolean)) (own := RX2) (by decide) rfl rfl (Nat.le_of_ble_eq_true rfl) ?_
  intro pz ez sz mz below meth cz args Q ls hargs hx hb hml hown hts hr hlocks hP hK hQ hl
  have hcf : CallFix pz mz cz cX2_same 4 sz args wsX2_same RX2 := ⟨hx, hb, hml, hown, hts⟩
  have hi0 : ∀ w ∈ u_ws RX2 TX2 4, w ∈ wsX2_same := by decide +kernel
  have hf16 : (Cond.fieldLink RX2 16 "CubeMinModel" "kinds" "[I").before args sz = true := hts _ (by decide +kernel)
  have hf19 : (Cond.fieldLink RX2 19 "CubeMinModel" "n" "I").before args sz = true := hts _ (by decide +kernel)
  have hl : lv_has ls 4 [(0, .ref (me 0)), (1, .int (nI 2)), (2, .int (nI 0))] := hl
  have hN := zN_le hn
  refine lv_iload_n hx hb dX2_same_0 rfl (lv_at hl 1 rfl) ?_
  refine vz_callS (n := 1) (As := [.int (nI 2)]) (rest := []) hcf (c_X2_isList l D kA (nI 2)) gX2_same_X2_isList rfl hd_X2_isList ⟨Nat.le_of_ble_eq_true rfl, Nat.le_of_ble_eq_true rfl⟩ hK (hP.sub [] rfl) rfl hl.1 rfl (Nat.le_of_ble_eq_true rfl) ⟨Nat.zero_le _, Nat.zero_le _⟩ dX2_same_1 ?_
  refine vz_ifeqB (tgt := 14) hx hb dX2_same_4 (by decide) (fun c_4 => absurd c_4 (by decide)) (fun c_4 => ?_)
  refine lv_iload_n hx hb dX2_same_7 rfl (lv_at hl 2 rfl) ?_
  refine vz_callS (n := 1) (As := [.int (nI 0)]) (rest := []) hcf (c_X2_isList l D kA (nI 0)) gX2_same_X2_isList rfl hd_X2_isList ⟨Nat.le_of_ble_eq_true rfl, Nat.le_of_ble_eq_true rfl⟩ hK (hP.sub [] rfl) rfl hl.1 rfl (Nat.le_of_ble_eq_true rfl) ⟨Nat.zero_le _, Nat.zero_le _⟩ dX2_same_8 ?_
  refine vz_ifneB (tgt := 16) hx hb dX2_same_11 (by decide) (fun c_11 => ?_) (fun c_11 => absurd c_11 (by decide))
  refine lv_iconst (v := nI 0) hx hb dX2_same_16 (by decide) ?_
  refine lv_istore_n (lv' := [(3, .int (nI 0)), (0, .ref (me 0)), (1, .int (nI 2)), (2, .int (nI 0))]) hx hb dX2_same_17 rfl hl (by decide) rfl (fun ls hl => ?_)
  have lp1 : ∀ (dz : Nat) (i : Nat) (ls : Array Slot), (zN n - i) < dz → (i ≤ zN n) → (∀ p, p < i → (!decide (mk p = nI 2) && (zM_inL n t q p != zM_inL n t2 q2 p)) = false) → lv_has ls 4 [(0, .ref (me 0)), (1, .int (nI 2)), (2, .int (nI 0)), (3, .int (nI i))] → W pz l ez (vz_R 2 46) sz mz args below meth cz sz.heap [] 0 0 Q (F0 mz 18 ls []) := by
    intro dz
    induction dz with
    | zero => intro i ls hd h1 h3 hl; exact absurd hd (Nat.not_lt_zero _)
    | succ dz ih1 =>
      intro i ls hd h1 h3 hl
      refine lv_iload_n hx hb dX2_same_18 rfl (lv_at hl 3 rfl) ?_
      refine lv_iconst (v := nI 1) hx hb dX2_same_19 (by decide) ?_
      refine lv_aload_n hx hb dX2_same_20 rfl (lv_at hl 0 rfl) ?_
      refine va_get (D := D) (ci := 2) (v := .int (nI n)) (C := RX2) (T := TX2) (N := 4) hx hb hts hi0 hown hK hP 0 rfl rfl 3 (by decide) hf19 (fun _ h9 => h9) rfl dX2_same_21 ?_
      refine lv_ishl hx hb dX2_same_24 ?_
      refine vz_top (y := (nI (zN n))) (zN_sh n hn) ?_
      refine vz_cge (tgt := 61) hx hb dX2_same_25 (by decide) (by omega) (by omega) (fun c_25 => ?_) (fun c_25 => ?_)
      · skip
        refine lv_iconst (v := nI 1) hx hb dX2_same_61 (by decide) ?_
        exact vz_iret hx hb hr hlocks hQ (rfl) dX2_same_62 ((congrArg (fun z => vz_b (!z)) (exB_f (P := fun p => !decide (mk p = nI 2) && (zM_inL n t q p != zM_inL n t2 q2 p)) (fun j hj => h3 j (by omega)))).symm)
      · skip
        refine lv_aload_n hx hb dX2_same_28 rfl (lv_at hl 0 rfl) ?_
        refine va_get (D := D) (ci := 2) (v := .ref (me 3)) (C := RX2) (T := TX2) (N := 4) hx hb hts hi0 hown hK hP 0 rfl rfl 2 (by decide) hf16 (fun _ h9 => h9) rfl dX2_same_29 ?_
        refine lv_iload_n hx hb dX2_same_32 rfl (lv_at hl 3 rfl) ?_
        refine vz_ald hx hb hK hP 3 rfl (by omega) (Nat.le_of_ble_eq_true rfl) dX2_same_33 ?_
        refine lv_iconst (v := nI 2) hx hb dX2_same_34 (by decide) ?_
        refine lv_icmp_eq (tgt := 55) hx hb dX2_same_35 (by decide) (fun c_35 => ?_) (fun c_35 => ?_)
        · skip
          refine lv_iinc (v := (nI (i + 1))) (lv' := [(3, .int (nI (i + 1))), (0, .ref (me 0)), (1, .int (nI 2)), (2, .int (nI 0))]) hx hb dX2_same_55 hl (k := 3) rfl (nI_1 _) (by decide) rfl (fun ls hl => ?_)
          refine lv_goto (tgt := 18) hx hb dX2_same_58 (by decide) ?_
          exact ih1 (i + 1) _ (by omega) (by omega) (lt_sB h3 (by first | (simp [c_35]; done) | (have c_51 := vz_b_eq.mp c_50; simp [c_51]))) (lv_sub hl [1, 2, 3, 0] rfl)
        · skip
          refine lv_aload_n hx hb dX2_same_38 rfl (lv_at hl 0 rfl) ?_
          refine lv_iload_n hx hb dX2_same_39 rfl (lv_at hl 3 rfl) ?_
          refine lv_iload_n hx hb dX2_same_40 rfl (lv_at hl 1 rfl) ?_
          refine vz_callV (n := 2) (As := [.int (nI i), .int (nI 2)]) (rest := []) (q0 := 0) hcf (c_X2_inList l D kA me n g mk ss hn 2 t q (by decide) ht ht24 hq i (by omega)) gX2_same_X2_inList rfl hd_X2_inList ⟨Nat.le_of_ble_eq_true rfl, Nat.le_of_ble_eq_true rfl⟩ hK (hP.sub [0, 1, 2, 3] rfl) rfl rfl rfl rfl hl.1 rfl (Nat.le_of_ble_eq_true rfl) ⟨Nat.zero_le _, Nat.zero_le _⟩ dX2_same_41 ?_
          refine lv_aload_n hx hb dX2_same_44 rfl (lv_at hl 0 rfl) ?_
          refine lv_iload_n hx hb dX2_same_45 rfl (lv_at hl 3 rfl) ?_
          refine lv_iload_n hx hb dX2_same_46 rfl (lv_at hl 2 rfl) ?_
          refine vz_callV (n := 2) (As := [.int (nI i), .int (nI 0)]) (rest := [.int (vz_b (zM_inL n t q i))]) (q0 := 0) hcf (c_X2_inList l D kA me n g mk ss hn 0 t2 q2 (by decide) ht2 ht242 hq2 i (by omega)) gX2_same_X2_inList rfl hd_X2_inList ⟨Nat.le_of_ble_eq_true rfl, Nat.le_of_ble_eq_true rfl⟩ hK (hP.sub [0, 1, 2, 3] rfl) rfl rfl rfl rfl hl.1 rfl (Nat.le_of_ble_eq_true rfl) ⟨Nat.zero_le _, Nat.zero_le _⟩ dX2_same_47 ?_
          refine lv_icmp_eq (tgt := 55) hx hb dX2_same_50 (by decide) (fun c_50 => ?_) (fun c_50 => ?_)
          · skip
            refine lv_iinc (v := (nI (i + 1))) (lv' := [(3, .int (nI (i + 1))), (0, .ref (me 0)), (1, .int (nI 2)), (2, .int (nI 0))]) hx hb dX2_same_55 hl (k := 3) rfl (nI_1 _) (by decide) rfl (fun ls hl => ?_)
            refine lv_goto (tgt := 18) hx hb dX2_same_58 (by decide) ?_
            exact ih1 (i + 1) _ (by omega) (by omega) (lt_sB h3 (by first | (simp [c_35]; done) | (have c_51 := vz_b_eq.mp c_50; simp [c_51]))) (lv_sub hl [1, 2, 3, 0] rfl)
          · skip
            refine lv_iconst (v := nI 0) hx hb dX2_same_53 (by decide) ?_
            exact vz_iret hx hb hr hlocks hQ (rfl) dX2_same_54 ((congrArg (fun z => vz_b (!z)) (exB_t (P := fun p => !decide (mk p = nI 2) && (zM_inL n t q p != zM_inL n t2 q2 p)) (i := i) (by omega) (by have c_51 : ¬ zM_inL n t q i = zM_inL n t2 q2 i := fun e9 => c_50 (vz_b_eq.mpr e9); simp [c_35, c_51]))).symm)
  exact lp1 _ 0 _ (Nat.lt_succ_self _) (by omega) lt_0B (lv_sub hl [1, 2, 3, 0] rfl)
set_option maxHeartbeats 4000000 in
set_option maxRecDepth 100000 in
theorem c_X2_same21 (l : Launch) (D : va_G) (kA : ClassId) (me : Nat → Nat) (n : Nat) (g mk : Nat → Int32) (ss : Nat → Nat) (hn : n ≤ 8) (t : Nat) (q : Nat → Int32) (ht : ss 2 = t) (ht24 : t ≤ 24) (hq : ∀ j, j < 24 → g (24 * 2 + j) = q j) (t2 : Nat) (q2 : Nat → Int32) (ht2 : ss 1 = t2) (ht242 : t2 ≤ 24) (hq2 : ∀ j, j < 24 → g (24 * 1 + j) = q2 j) : vz_M l yX2_same wsX2_same 2 46 [.ref (me 0), .int (nI 2), .int (nI 1)] D kA [(me 0, .inr (2, [.ref (me 1), .ref (me 2), .ref (me 3), .int (nI n)])), (me 1, .inl (kA, 96, .inl g)), (me 2, .inl (kA, 4, .inl (fun j => nI (ss j)))), (me 3, .inl (kA, 256, .inl mk))] (some (.int (vz_b (!exB (zN n) (fun p => !decide (mk p = nI 2) && (zM_inL n t q p != zM_inL n t2 q2 p)))))) := by
  refine vz_start (cc := cX2_same) (maxL := 4) (ret := (some .boolean)) (own := RX2) (by decide) rfl rfl (Nat.le_of_ble_eq_true rfl) ?_
  intro pz ez sz mz below meth cz args Q ls hargs hx hb hml hown hts hr hlocks hP hK hQ hl
  have hcf : CallFix pz mz cz cX2_same 4 sz args wsX2_same RX2 := ⟨hx, hb, hml, hown, hts⟩
  have hi0 : ∀ w ∈ u_ws RX2 TX2 4, w ∈ wsX2_same := by decide +kernel
  have hf16 : (Cond.fieldLink RX2 16 "CubeMinModel" "kinds" "[I").before args sz = true := hts _ (by decide +kernel)
  have hf19 : (Cond.fieldLink RX2 19 "CubeMinModel" "n" "I").before args sz = true := hts _ (by decide +kernel)
  have hl : lv_has ls 4 [(0, .ref (me 0)), (1, .int (nI 2)), (2, .int (nI 1))] := hl
  have hN := zN_le hn
  refine lv_iload_n hx hb dX2_same_0 rfl (lv_at hl 1 rfl) ?_
  refine vz_callS (n := 1) (As := [.int (nI 2)]) (rest := []) hcf (c_X2_isList l D kA (nI 2)) gX2_same_X2_isList rfl hd_X2_isList ⟨Nat.le_of_ble_eq_true rfl, Nat.le_of_ble_eq_true rfl⟩ hK (hP.sub [] rfl) rfl hl.1 rfl (Nat.le_of_ble_eq_true rfl) ⟨Nat.zero_le _, Nat.zero_le _⟩ dX2_same_1 ?_
  refine vz_ifeqB (tgt := 14) hx hb dX2_same_4 (by decide) (fun c_4 => absurd c_4 (by decide)) (fun c_4 => ?_)
  refine lv_iload_n hx hb dX2_same_7 rfl (lv_at hl 2 rfl) ?_
  refine vz_callS (n := 1) (As := [.int (nI 1)]) (rest := []) hcf (c_X2_isList l D kA (nI 1)) gX2_same_X2_isList rfl hd_X2_isList ⟨Nat.le_of_ble_eq_true rfl, Nat.le_of_ble_eq_true rfl⟩ hK (hP.sub [] rfl) rfl hl.1 rfl (Nat.le_of_ble_eq_true rfl) ⟨Nat.zero_le _, Nat.zero_le _⟩ dX2_same_8 ?_
  refine vz_ifneB (tgt := 16) hx hb dX2_same_11 (by decide) (fun c_11 => ?_) (fun c_11 => absurd c_11 (by decide))
  refine lv_iconst (v := nI 0) hx hb dX2_same_16 (by decide) ?_
  refine lv_istore_n (lv' := [(3, .int (nI 0)), (0, .ref (me 0)), (1, .int (nI 2)), (2, .int (nI 1))]) hx hb dX2_same_17 rfl hl (by decide) rfl (fun ls hl => ?_)
  have lp1 : ∀ (dz : Nat) (i : Nat) (ls : Array Slot), (zN n - i) < dz → (i ≤ zN n) → (∀ p, p < i → (!decide (mk p = nI 2) && (zM_inL n t q p != zM_inL n t2 q2 p)) = false) → lv_has ls 4 [(0, .ref (me 0)), (1, .int (nI 2)), (2, .int (nI 1)), (3, .int (nI i))] → W pz l ez (vz_R 2 46) sz mz args below meth cz sz.heap [] 0 0 Q (F0 mz 18 ls []) := by
    intro dz
    induction dz with
    | zero => intro i ls hd h1 h3 hl; exact absurd hd (Nat.not_lt_zero _)
    | succ dz ih1 =>
      intro i ls hd h1 h3 hl
      refine lv_iload_n hx hb dX2_same_18 rfl (lv_at hl 3 rfl) ?_
      refine lv_iconst (v := nI 1) hx hb dX2_same_19 (by decide) ?_
      refine lv_aload_n hx hb dX2_same_20 rfl (lv_at hl 0 rfl) ?_
      refine va_get (D := D) (ci := 2) (v := .int (nI n)) (C := RX2) (T := TX2) (N := 4) hx hb hts hi0 hown hK hP 0 rfl rfl 3 (by decide) hf19 (fun _ h9 => h9) rfl dX2_same_21 ?_
      refine lv_ishl hx hb dX2_same_24 ?_
      refine vz_top (y := (nI (zN n))) (zN_sh n hn) ?_
      refine vz_cge (tgt := 61) hx hb dX2_same_25 (by decide) (by omega) (by omega) (fun c_25 => ?_) (fun c_25 => ?_)
      · skip
        refine lv_iconst (v := nI 1) hx hb dX2_same_61 (by decide) ?_
        exact vz_iret hx hb hr hlocks hQ (rfl) dX2_same_62 ((congrArg (fun z => vz_b (!z)) (exB_f (P := fun p => !decide (mk p = nI 2) && (zM_inL n t q p != zM_inL n t2 q2 p)) (fun j hj => h3 j (by omega)))).symm)
      · skip
        refine lv_aload_n hx hb dX2_same_28 rfl (lv_at hl 0 rfl) ?_
        refine va_get (D := D) (ci := 2) (v := .ref (me 3)) (C := RX2) (T := TX2) (N := 4) hx hb hts hi0 hown hK hP 0 rfl rfl 2 (by decide) hf16 (fun _ h9 => h9) rfl dX2_same_29 ?_
        refine lv_iload_n hx hb dX2_same_32 rfl (lv_at hl 3 rfl) ?_
        refine vz_ald hx hb hK hP 3 rfl (by omega) (Nat.le_of_ble_eq_true rfl) dX2_same_33 ?_
        refine lv_iconst (v := nI 2) hx hb dX2_same_34 (by decide) ?_
        refine lv_icmp_eq (tgt := 55) hx hb dX2_same_35 (by decide) (fun c_35 => ?_) (fun c_35 => ?_)
        · skip
          refine lv_iinc (v := (nI (i + 1))) (lv' := [(3, .int (nI (i + 1))), (0, .ref (me 0)), (1, .int (nI 2)), (2, .int (nI 1))]) hx hb dX2_same_55 hl (k := 3) rfl (nI_1 _) (by decide) rfl (fun ls hl => ?_)
          refine lv_goto (tgt := 18) hx hb dX2_same_58 (by decide) ?_
          exact ih1 (i + 1) _ (by omega) (by omega) (lt_sB h3 (by first | (simp [c_35]; done) | (have c_51 := vz_b_eq.mp c_50; simp [c_51]))) (lv_sub hl [1, 2, 3, 0] rfl)
        · skip
          refine lv_aload_n hx hb dX2_same_38 rfl (lv_at hl 0 rfl) ?_
          refine lv_iload_n hx hb dX2_same_39 rfl (lv_at hl 3 rfl) ?_
          refine lv_iload_n hx hb dX2_same_40 rfl (lv_at hl 1 rfl) ?_
          refine vz_callV (n := 2) (As := [.int (nI i), .int (nI 2)]) (rest := []) (q0 := 0) hcf (c_X2_inList l D kA me n g mk ss hn 2 t q (by decide) ht ht24 hq i (by omega)) gX2_same_X2_inList rfl hd_X2_inList ⟨Nat.le_of_ble_eq_true rfl, Nat.le_of_ble_eq_true rfl⟩ hK (hP.sub [0, 1, 2, 3] rfl) rfl rfl rfl rfl hl.1 rfl (Nat.le_of_ble_eq_true rfl) ⟨Nat.zero_le _, Nat.zero_le _⟩ dX2_same_41 ?_
          refine lv_aload_n hx hb dX2_same_44 rfl (lv_at hl 0 rfl) ?_
          refine lv_iload_n hx hb dX2_same_45 rfl (lv_at hl 3 rfl) ?_
          refine lv_iload_n hx hb dX2_same_46 rfl (lv_at hl 2 rfl) ?_
          refine vz_callV (n := 2) (As := [.int (nI i), .int (nI 1)]) (rest := [.int (vz_b (zM_inL n t q i))]) (q0 := 0) hcf (c_X2_inList l D kA me n g mk ss hn 1 t2 q2 (by decide) ht2 ht242 hq2 i (by omega)) gX2_same_X2_inList rfl hd_X2_inList ⟨Nat.le_of_ble_eq_true rfl, Nat.le_of_ble_eq_true rfl⟩ hK (hP.sub [0, 1, 2, 3] rfl) rfl rfl rfl rfl hl.1 rfl (Nat.le_of_ble_eq_true rfl) ⟨Nat.zero_le _, Nat.zero_le _⟩ dX2_same_47 ?_
          refine lv_icmp_eq (tgt := 55) hx hb dX2_same_50 (by decide) (fun c_50 => ?_) (fun c_50 => ?_)
          · skip
            refine lv_iinc (v := (nI (i + 1))) (lv' := [(3, .int (nI (i + 1))), (0, .ref (me 0)), (1, .int (nI 2)), (2, .int (nI 1))]) hx hb dX2_same_55 hl (k := 3) rfl (nI_1 _) (by decide) rfl (fun ls hl => ?_)
            refine lv_goto (tgt := 18) hx hb dX2_same_58 (by decide) ?_
            exact ih1 (i + 1) _ (by omega) (by omega) (lt_sB h3 (by first | (simp [c_35]; done) | (have c_51 := vz_b_eq.mp c_50; simp [c_51]))) (lv_sub hl [1, 2, 3, 0] rfl)
          · skip
            refine lv_iconst (v := nI 0) hx hb dX2_same_53 (by decide) ?_
            exact vz_iret hx hb hr hlocks hQ (rfl) dX2_same_54 ((congrArg (fun z => vz_b (!z)) (exB_t (P := fun p => !decide (mk p = nI 2) && (zM_inL n t q p != zM_inL n t2 q2 p)) (i := i) (by omega) (by have c_51 : ¬ zM_inL n t q i = zM_inL n t2 q2 i := fun e9 => c_50 (vz_b_eq.mpr e9); simp [c_35, c_51]))).symm)
  exact lp1 _ 0 _ (Nat.lt_succ_self _) (by omega) lt_0B (lv_sub hl [1, 2, 3, 0] rfl)
set_option maxHeartbeats 4000000 in
set_option maxRecDepth 100000 in
theorem c_X2_same22 (l : Launch) (D : va_G) (kA : ClassId) (me : Nat → Nat) (n : Nat) (g mk : Nat → Int32) (ss : Nat → Nat) (hn : n ≤ 8) (t : Nat) (q : Nat → Int32) (ht : ss 2 = t) (ht24 : t ≤ 24) (hq : ∀ j, j < 24 → g (24 * 2 + j) = q j) (t2 : Nat) (q2 : Nat → Int32) (ht2 : ss 2 = t2) (ht242 : t2 ≤ 24) (hq2 : ∀ j, j < 24 → g (24 * 2 + j) = q2 j) : vz_M l yX2_same wsX2_same 2 46 [.ref (me 0), .int (nI 2), .int (nI 2)] D kA [(me 0, .inr (2, [.ref (me 1), .ref (me 2), .ref (me 3), .int (nI n)])), (me 1, .inl (kA, 96, .inl g)), (me 2, .inl (kA, 4, .inl (fun j => nI (ss j)))), (me 3, .inl (kA, 256, .inl mk))] (some (.int (vz_b (!exB (zN n) (fun p => !decide (mk p = nI 2) && (zM_inL n t q p != zM_inL n t2 q2 p)))))) := by
  refine vz_start (cc := cX2_same) (maxL := 4) (ret := (some .boolean)) (own := RX2) (by decide) rfl rfl (Nat.le_of_ble_eq_true rfl) ?_
  intro pz ez sz mz below meth cz args Q ls hargs hx hb hml hown hts hr hlocks hP hK hQ hl
  have hcf : CallFix pz mz cz cX2_same 4 sz args wsX2_same RX2 := ⟨hx, hb, hml, hown, hts⟩
  have hi0 : ∀ w ∈ u_ws RX2 TX2 4, w ∈ wsX2_same := by decide +kernel
  have hf16 : (Cond.fieldLink RX2 16 "CubeMinModel" "kinds" "[I").before args sz = true := hts _ (by decide +kernel)
  have hf19 : (Cond.fieldLink RX2 19 "CubeMinModel" "n" "I").before args sz = true := hts _ (by decide +kernel)
  have hl : lv_has ls 4 [(0, .ref (me 0)), (1, .int (nI 2)), (2, .int (nI 2))] := hl
  have hN := zN_le hn
  refine lv_iload_n hx hb dX2_same_0 rfl (lv_at hl 1 rfl) ?_
  refine vz_callS (n := 1) (As := [.int (nI 2)]) (rest := []) hcf (c_X2_isList l D kA (nI 2)) gX2_same_X2_isList rfl hd_X2_isList ⟨Nat.le_of_ble_eq_true rfl, Nat.le_of_ble_eq_true rfl⟩ hK (hP.sub [] rfl) rfl hl.1 rfl (Nat.le_of_ble_eq_true rfl) ⟨Nat.zero_le _, Nat.zero_le _⟩ dX2_same_1 ?_
  refine vz_ifeqB (tgt := 14) hx hb dX2_same_4 (by decide) (fun c_4 => absurd c_4 (by decide)) (fun c_4 => ?_)
  refine lv_iload_n hx hb dX2_same_7 rfl (lv_at hl 2 rfl) ?_
  refine vz_callS (n := 1) (As := [.int (nI 2)]) (rest := []) hcf (c_X2_isList l D kA (nI 2)) gX2_same_X2_isList rfl hd_X2_isList ⟨Nat.le_of_ble_eq_true rfl, Nat.le_of_ble_eq_true rfl⟩ hK (hP.sub [] rfl) rfl hl.1 rfl (Nat.le_of_ble_eq_true rfl) ⟨Nat.zero_le _, Nat.zero_le _⟩ dX2_same_8 ?_
  refine vz_ifneB (tgt := 16) hx hb dX2_same_11 (by decide) (fun c_11 => ?_) (fun c_11 => absurd c_11 (by decide))
  refine lv_iconst (v := nI 0) hx hb dX2_same_16 (by decide) ?_
  refine lv_istore_n (lv' := [(3, .int (nI 0)), (0, .ref (me 0)), (1, .int (nI 2)), (2, .int (nI 2))]) hx hb dX2_same_17 rfl hl (by decide) rfl (fun ls hl => ?_)
  have lp1 : ∀ (dz : Nat) (i : Nat) (ls : Array Slot), (zN n - i) < dz → (i ≤ zN n) → (∀ p, p < i → (!decide (mk p = nI 2) && (zM_inL n t q p != zM_inL n t2 q2 p)) = false) → lv_has ls 4 [(0, .ref (me 0)), (1, .int (nI 2)), (2, .int (nI 2)), (3, .int (nI i))] → W pz l ez (vz_R 2 46) sz mz args below meth cz sz.heap [] 0 0 Q (F0 mz 18 ls []) := by
    intro dz
    induction dz with
    | zero => intro i ls hd h1 h3 hl; exact absurd hd (Nat.not_lt_zero _)
    | succ dz ih1 =>
      intro i ls hd h1 h3 hl
      refine lv_iload_n hx hb dX2_same_18 rfl (lv_at hl 3 rfl) ?_
      refine lv_iconst (v := nI 1) hx hb dX2_same_19 (by decide) ?_
      refine lv_aload_n hx hb dX2_same_20 rfl (lv_at hl 0 rfl) ?_
      refine va_get (D := D) (ci := 2) (v := .int (nI n)) (C := RX2) (T := TX2) (N := 4) hx hb hts hi0 hown hK hP 0 rfl rfl 3 (by decide) hf19 (fun _ h9 => h9) rfl dX2_same_21 ?_
      refine lv_ishl hx hb dX2_same_24 ?_
      refine vz_top (y := (nI (zN n))) (zN_sh n hn) ?_
      refine vz_cge (tgt := 61) hx hb dX2_same_25 (by decide) (by omega) (by omega) (fun c_25 => ?_) (fun c_25 => ?_)
      · skip
        refine lv_iconst (v := nI 1) hx hb dX2_same_61 (by decide) ?_
        exact vz_iret hx hb hr hlocks hQ (rfl) dX2_same_62 ((congrArg (fun z => vz_b (!z)) (exB_f (P := fun p => !decide (mk p = nI 2) && (zM_inL n t q p != zM_inL n t2 q2 p)) (fun j hj => h3 j (by omega)))).symm)
      · skip
        refine lv_aload_n hx hb dX2_same_28 rfl (lv_at hl 0 rfl) ?_
        refine va_get (D := D) (ci := 2) (v := .ref (me 3)) (C := RX2) (T := TX2) (N := 4) hx hb hts hi0 hown hK hP 0 rfl rfl 2 (by decide) hf16 (fun _ h9 => h9) rfl dX2_same_29 ?_
        refine lv_iload_n hx hb dX2_same_32 rfl (lv_at hl 3 rfl) ?_
        refine vz_ald hx hb hK hP 3 rfl (by omega) (Nat.le_of_ble_eq_true rfl) dX2_same_33 ?_
        refine lv_iconst (v := nI 2) hx hb dX2_same_34 (by decide) ?_
        refine lv_icmp_eq (tgt := 55) hx hb dX2_same_35 (by decide) (fun c_35 => ?_) (fun c_35 => ?_)
        · skip
          refine lv_iinc (v := (nI (i + 1))) (lv' := [(3, .int (nI (i + 1))), (0, .ref (me 0)), (1, .int (nI 2)), (2, .int (nI 2))]) hx hb dX2_same_55 hl (k := 3) rfl (nI_1 _) (by decide) rfl (fun ls hl => ?_)
          refine lv_goto (tgt := 18) hx hb dX2_same_58 (by decide) ?_
          exact ih1 (i + 1) _ (by omega) (by omega) (lt_sB h3 (by first | (simp [c_35]; done) | (have c_51 := vz_b_eq.mp c_50; simp [c_51]))) (lv_sub hl [1, 2, 3, 0] rfl)
        · skip
          refine lv_aload_n hx hb dX2_same_38 rfl (lv_at hl 0 rfl) ?_
          refine lv_iload_n hx hb dX2_same_39 rfl (lv_at hl 3 rfl) ?_
          refine lv_iload_n hx hb dX2_same_40 rfl (lv_at hl 1 rfl) ?_
          refine vz_callV (n := 2) (As := [.int (nI i), .int (nI 2)]) (rest := []) (q0 := 0) hcf (c_X2_inList l D kA me n g mk ss hn 2 t q (by decide) ht ht24 hq i (by omega)) gX2_same_X2_inList rfl hd_X2_inList ⟨Nat.le_of_ble_eq_true rfl, Nat.le_of_ble_eq_true rfl⟩ hK (hP.sub [0, 1, 2, 3] rfl) rfl rfl rfl rfl hl.1 rfl (Nat.le_of_ble_eq_true rfl) ⟨Nat.zero_le _, Nat.zero_le _⟩ dX2_same_41 ?_
          refine lv_aload_n hx hb dX2_same_44 rfl (lv_at hl 0 rfl) ?_
          refine lv_iload_n hx hb dX2_same_45 rfl (lv_at hl 3 rfl) ?_
          refine lv_iload_n hx hb dX2_same_46 rfl (lv_at hl 2 rfl) ?_
          refine vz_callV (n := 2) (As := [.int (nI i), .int (nI 2)]) (rest := [.int (vz_b (zM_inL n t q i))]) (q0 := 0) hcf (c_X2_inList l D kA me n g mk ss hn 2 t2 q2 (by decide) ht2 ht242 hq2 i (by omega)) gX2_same_X2_inList rfl hd_X2_inList ⟨Nat.le_of_ble_eq_true rfl, Nat.le_of_ble_eq_true rfl⟩ hK (hP.sub [0, 1, 2, 3] rfl) rfl rfl rfl rfl hl.1 rfl (Nat.le_of_ble_eq_true rfl) ⟨Nat.zero_le _, Nat.zero_le _⟩ dX2_same_47 ?_
          refine lv_icmp_eq (tgt := 55) hx hb dX2_same_50 (by decide) (fun c_50 => ?_) (fun c_50 => ?_)
          · skip
            refine lv_iinc (v := (nI (i + 1))) (lv' := [(3, .int (nI (i + 1))), (0, .ref (me 0)), (1, .int (nI 2)), (2, .int (nI 2))]) hx hb dX2_same_55 hl (k := 3) rfl (nI_1 _) (by decide) rfl (fun ls hl => ?_)
            refine lv_goto (tgt := 18) hx hb dX2_same_58 (by decide) ?_
            exact ih1 (i + 1) _ (by omega) (by omega) (lt_sB h3 (by first | (simp [c_35]; done) | (have c_51 := vz_b_eq.mp c_50; simp [c_51]))) (lv_sub hl [1, 2, 3, 0] rfl)
          · skip
            refine lv_iconst (v := nI 0) hx hb dX2_same_53 (by decide) ?_
            exact vz_iret hx hb hr hlocks hQ (rfl) dX2_same_54 ((congrArg (fun z => vz_b (!z)) (exB_t (P := fun p => !decide (mk p = nI 2) && (zM_inL n t q p != zM_inL n t2 q2 p)) (i := i) (by omega) (by have c_51 : ¬ zM_inL n t q i = zM_inL n t2 q2 i := fun e9 => c_50 (vz_b_eq.mpr e9); simp [c_35, c_51]))).symm)
  exact lp1 _ 0 _ (Nat.lt_succ_self _) (by omega) lt_0B (lv_sub hl [1, 2, 3, 0] rfl)
set_option maxHeartbeats 4000000 in
set_option maxRecDepth 100000 in
theorem c_X2_same23 (l : Launch) (D : va_G) (kA : ClassId) (me : Nat → Nat) (n : Nat) (g mk : Nat → Int32) (ss : Nat → Nat) (hn : n ≤ 8) (y : Int32) (hy3 : (!decide (y < 0) && !decide (nI 2 < y)) = false) : vz_M l yX2_same wsX2_same 1 20 [.ref (me 0), .int (nI 2), .int y] D kA [(me 0, .inr (2, [.ref (me 1), .ref (me 2), .ref (me 3), .int (nI n)])), (me 1, .inl (kA, 96, .inl g)), (me 2, .inl (kA, 4, .inl (fun j => nI (ss j)))), (me 3, .inl (kA, 256, .inl mk))] (some (.int (nI 0))) := by
  refine vz_start (cc := cX2_same) (maxL := 4) (ret := (some .boolean)) (own := RX2) (by decide) rfl rfl (Nat.le_of_ble_eq_true rfl) ?_
  intro pz ez sz mz below meth cz args Q ls hargs hx hb hml hown hts hr hlocks hP hK hQ hl
  have hcf : CallFix pz mz cz cX2_same 4 sz args wsX2_same RX2 := ⟨hx, hb, hml, hown, hts⟩
  have hi0 : ∀ w ∈ u_ws RX2 TX2 4, w ∈ wsX2_same := by decide +kernel
  have hf16 : (Cond.fieldLink RX2 16 "CubeMinModel" "kinds" "[I").before args sz = true := hts _ (by decide +kernel)
  have hf19 : (Cond.fieldLink RX2 19 "CubeMinModel" "n" "I").before args sz = true := hts _ (by decide +kernel)
  have hl : lv_has ls 4 [(0, .ref (me 0)), (1, .int (nI 2)), (2, .int y)] := hl
  have hN := zN_le hn
  refine lv_iload_n hx hb dX2_same_0 rfl (lv_at hl 1 rfl) ?_
  refine vz_callS (n := 1) (As := [.int (nI 2)]) (rest := []) hcf (c_X2_isList l D kA (nI 2)) gX2_same_X2_isList rfl hd_X2_isList ⟨Nat.le_of_ble_eq_true rfl, Nat.le_of_ble_eq_true rfl⟩ hK (hP.sub [] rfl) rfl hl.1 rfl (Nat.le_of_ble_eq_true rfl) ⟨Nat.zero_le _, Nat.zero_le _⟩ dX2_same_1 ?_
  refine vz_ifeqB (tgt := 14) hx hb dX2_same_4 (by decide) (fun c_4 => absurd c_4 (by decide)) (fun c_4 => ?_)
  refine lv_iload_n hx hb dX2_same_7 rfl (lv_at hl 2 rfl) ?_
  refine vz_callS (n := 1) (As := [.int y]) (rest := []) hcf (c_X2_isList l D kA y) gX2_same_X2_isList rfl hd_X2_isList ⟨Nat.le_of_ble_eq_true rfl, Nat.le_of_ble_eq_true rfl⟩ hK (hP.sub [] rfl) rfl hl.1 rfl (Nat.le_of_ble_eq_true rfl) ⟨Nat.zero_le _, Nat.zero_le _⟩ dX2_same_8 ?_
  refine vz_ifneB (tgt := 16) hx hb dX2_same_11 (by decide) (fun c_11 => absurd c_11 (by rw [hy3]; decide)) (fun c_11 => ?_)
  refine lv_iconst (v := nI 0) hx hb dX2_same_14 (by decide) ?_
  exact vz_iret hx hb hr hlocks hQ (rfl) dX2_same_15 rfl
set_option maxHeartbeats 4000000 in
set_option maxRecDepth 100000 in
theorem c_X2_same30 (l : Launch) (D : va_G) (kA : ClassId) (me : Nat → Nat) (n : Nat) (g mk : Nat → Int32) (ss : Nat → Nat) (hn : n ≤ 8) (x : Int32) (hx3 : (!decide (x < 0) && !decide (nI 2 < x)) = false) : vz_M l yX2_same wsX2_same 1 20 [.ref (me 0), .int x, .int (nI 0)] D kA [(me 0, .inr (2, [.ref (me 1), .ref (me 2), .ref (me 3), .int (nI n)])), (me 1, .inl (kA, 96, .inl g)), (me 2, .inl (kA, 4, .inl (fun j => nI (ss j)))), (me 3, .inl (kA, 256, .inl mk))] (some (.int (nI 0))) := by
  refine vz_start (cc := cX2_same) (maxL := 4) (ret := (some .boolean)) (own := RX2) (by decide) rfl rfl (Nat.le_of_ble_eq_true rfl) ?_
  intro pz ez sz mz below meth cz args Q ls hargs hx hb hml hown hts hr hlocks hP hK hQ hl
  have hcf : CallFix pz mz cz cX2_same 4 sz args wsX2_same RX2 := ⟨hx, hb, hml, hown, hts⟩
  have hi0 : ∀ w ∈ u_ws RX2 TX2 4, w ∈ wsX2_same := by decide +kernel
  have hf16 : (Cond.fieldLink RX2 16 "CubeMinModel" "kinds" "[I").before args sz = true := hts _ (by decide +kernel)
  have hf19 : (Cond.fieldLink RX2 19 "CubeMinModel" "n" "I").before args sz = true := hts _ (by decide +kernel)
  have hl : lv_has ls 4 [(0, .ref (me 0)), (1, .int x), (2, .int (nI 0))] := hl
  have hN := zN_le hn
  refine lv_iload_n hx hb dX2_same_0 rfl (lv_at hl 1 rfl) ?_
  refine vz_callS (n := 1) (As := [.int x]) (rest := []) hcf (c_X2_isList l D kA x) gX2_same_X2_isList rfl hd_X2_isList ⟨Nat.le_of_ble_eq_true rfl, Nat.le_of_ble_eq_true rfl⟩ hK (hP.sub [] rfl) rfl hl.1 rfl (Nat.le_of_ble_eq_true rfl) ⟨Nat.zero_le _, Nat.zero_le _⟩ dX2_same_1 ?_
  refine vz_ifeqB (tgt := 14) hx hb dX2_same_4 (by decide) (fun c_4 => ?_) (fun c_4 => absurd c_4 (by rw [hx3]; decide))
  refine lv_iconst (v := nI 0) hx hb dX2_same_14 (by decide) ?_
  exact vz_iret hx hb hr hlocks hQ (rfl) dX2_same_15 rfl
set_option maxHeartbeats 4000000 in
set_option maxRecDepth 100000 in
theorem c_X2_same31 (l : Launch) (D : va_G) (kA : ClassId) (me : Nat → Nat) (n : Nat) (g mk : Nat → Int32) (ss : Nat → Nat) (hn : n ≤ 8) (x : Int32) (hx3 : (!decide (x < 0) && !decide (nI 2 < x)) = false) : vz_M l yX2_same wsX2_same 1 20 [.ref (me 0), .int x, .int (nI 1)] D kA [(me 0, .inr (2, [.ref (me 1), .ref (me 2), .ref (me 3), .int (nI n)])), (me 1, .inl (kA, 96, .inl g)), (me 2, .inl (kA, 4, .inl (fun j => nI (ss j)))), (me 3, .inl (kA, 256, .inl mk))] (some (.int (nI 0))) := by
  refine vz_start (cc := cX2_same) (maxL := 4) (ret := (some .boolean)) (own := RX2) (by decide) rfl rfl (Nat.le_of_ble_eq_true rfl) ?_
  intro pz ez sz mz below meth cz args Q ls hargs hx hb hml hown hts hr hlocks hP hK hQ hl
  have hcf : CallFix pz mz cz cX2_same 4 sz args wsX2_same RX2 := ⟨hx, hb, hml, hown, hts⟩
  have hi0 : ∀ w ∈ u_ws RX2 TX2 4, w ∈ wsX2_same := by decide +kernel
  have hf16 : (Cond.fieldLink RX2 16 "CubeMinModel" "kinds" "[I").before args sz = true := hts _ (by decide +kernel)
  have hf19 : (Cond.fieldLink RX2 19 "CubeMinModel" "n" "I").before args sz = true := hts _ (by decide +kernel)
  have hl : lv_has ls 4 [(0, .ref (me 0)), (1, .int x), (2, .int (nI 1))] := hl
  have hN := zN_le hn
  refine lv_iload_n hx hb dX2_same_0 rfl (lv_at hl 1 rfl) ?_
  refine vz_callS (n := 1) (As := [.int x]) (rest := []) hcf (c_X2_isList l D kA x) gX2_same_X2_isList rfl hd_X2_isList ⟨Nat.le_of_ble_eq_true rfl, Nat.le_of_ble_eq_true rfl⟩ hK (hP.sub [] rfl) rfl hl.1 rfl (Nat.le_of_ble_eq_true rfl) ⟨Nat.zero_le _, Nat.zero_le _⟩ dX2_same_1 ?_
  refine vz_ifeqB (tgt := 14) hx hb dX2_same_4 (by decide) (fun c_4 => ?_) (fun c_4 => absurd c_4 (by rw [hx3]; decide))
  refine lv_iconst (v := nI 0) hx hb dX2_same_14 (by decide) ?_
  exact vz_iret hx hb hr hlocks hQ (rfl) dX2_same_15 rfl
set_option maxHeartbeats 4000000 in
set_option maxRecDepth 100000 in
theorem c_X2_same32 (l : Launch) (D : va_G) (kA : ClassId) (me : Nat → Nat) (n : Nat) (g mk : Nat → Int32) (ss : Nat → Nat) (hn : n ≤ 8) (x : Int32) (hx3 : (!decide (x < 0) && !decide (nI 2 < x)) = false) : vz_M l yX2_same wsX2_same 1 20 [.ref (me 0), .int x, .int (nI 2)] D kA [(me 0, .inr (2, [.ref (me 1), .ref (me 2), .ref (me 3), .int (nI n)])), (me 1, .inl (kA, 96, .inl g)), (me 2, .inl (kA, 4, .inl (fun j => nI (ss j)))), (me 3, .inl (kA, 256, .inl mk))] (some (.int (nI 0))) := by
  refine vz_start (cc := cX2_same) (maxL := 4) (ret := (some .boolean)) (own := RX2) (by decide) rfl rfl (Nat.le_of_ble_eq_true rfl) ?_
  intro pz ez sz mz below meth cz args Q ls hargs hx hb hml hown hts hr hlocks hP hK hQ hl
  have hcf : CallFix pz mz cz cX2_same 4 sz args wsX2_same RX2 := ⟨hx, hb, hml, hown, hts⟩
  have hi0 : ∀ w ∈ u_ws RX2 TX2 4, w ∈ wsX2_same := by decide +kernel
  have hf16 : (Cond.fieldLink RX2 16 "CubeMinModel" "kinds" "[I").before args sz = true := hts _ (by decide +kernel)
  have hf19 : (Cond.fieldLink RX2 19 "CubeMinModel" "n" "I").before args sz = true := hts _ (by decide +kernel)
  have hl : lv_has ls 4 [(0, .ref (me 0)), (1, .int x), (2, .int (nI 2))] := hl
  have hN := zN_le hn
  refine lv_iload_n hx hb dX2_same_0 rfl (lv_at hl 1 rfl) ?_
  refine vz_callS (n := 1) (As := [.int x]) (rest := []) hcf (c_X2_isList l D kA x) gX2_same_X2_isList rfl hd_X2_isList ⟨Nat.le_of_ble_eq_true rfl, Nat.le_of_ble_eq_true rfl⟩ hK (hP.sub [] rfl) rfl hl.1 rfl (Nat.le_of_ble_eq_true rfl) ⟨Nat.zero_le _, Nat.zero_le _⟩ dX2_same_1 ?_
  refine vz_ifeqB (tgt := 14) hx hb dX2_same_4 (by decide) (fun c_4 => ?_) (fun c_4 => absurd c_4 (by rw [hx3]; decide))
  refine lv_iconst (v := nI 0) hx hb dX2_same_14 (by decide) ?_
  exact vz_iret hx hb hr hlocks hQ (rfl) dX2_same_15 rfl
set_option maxHeartbeats 4000000 in
set_option maxRecDepth 100000 in
theorem c_X2_same33 (l : Launch) (D : va_G) (kA : ClassId) (me : Nat → Nat) (n : Nat) (g mk : Nat → Int32) (ss : Nat → Nat) (hn : n ≤ 8) (x : Int32) (hx3 : (!decide (x < 0) && !decide (nI 2 < x)) = false) (y : Int32) (hy3 : (!decide (y < 0) && !decide (nI 2 < y)) = false) : vz_M l yX2_same wsX2_same 1 20 [.ref (me 0), .int x, .int y] D kA [(me 0, .inr (2, [.ref (me 1), .ref (me 2), .ref (me 3), .int (nI n)])), (me 1, .inl (kA, 96, .inl g)), (me 2, .inl (kA, 4, .inl (fun j => nI (ss j)))), (me 3, .inl (kA, 256, .inl mk))] (some (.int (nI 0))) := by
  refine vz_start (cc := cX2_same) (maxL := 4) (ret := (some .boolean)) (own := RX2) (by decide) rfl rfl (Nat.le_of_ble_eq_true rfl) ?_
  intro pz ez sz mz below meth cz args Q ls hargs hx hb hml hown hts hr hlocks hP hK hQ hl
  have hcf : CallFix pz mz cz cX2_same 4 sz args wsX2_same RX2 := ⟨hx, hb, hml, hown, hts⟩
  have hi0 : ∀ w ∈ u_ws RX2 TX2 4, w ∈ wsX2_same := by decide +kernel
  have hf16 : (Cond.fieldLink RX2 16 "CubeMinModel" "kinds" "[I").before args sz = true := hts _ (by decide +kernel)
  have hf19 : (Cond.fieldLink RX2 19 "CubeMinModel" "n" "I").before args sz = true := hts _ (by decide +kernel)
  have hl : lv_has ls 4 [(0, .ref (me 0)), (1, .int x), (2, .int y)] := hl
  have hN := zN_le hn
  refine lv_iload_n hx hb dX2_same_0 rfl (lv_at hl 1 rfl) ?_
  refine vz_callS (n := 1) (As := [.int x]) (rest := []) hcf (c_X2_isList l D kA x) gX2_same_X2_isList rfl hd_X2_isList ⟨Nat.le_of_ble_eq_true rfl, Nat.le_of_ble_eq_true rfl⟩ hK (hP.sub [] rfl) rfl hl.1 rfl (Nat.le_of_ble_eq_true rfl) ⟨Nat.zero_le _, Nat.zero_le _⟩ dX2_same_1 ?_
  refine vz_ifeqB (tgt := 14) hx hb dX2_same_4 (by decide) (fun c_4 => ?_) (fun c_4 => absurd c_4 (by rw [hx3]; decide))
  refine lv_iconst (v := nI 0) hx hb dX2_same_14 (by decide) ?_
  exact vz_iret hx hb hr hlocks hQ (rfl) dX2_same_15 rfl
set_option maxHeartbeats 4000000 in
set_option maxRecDepth 100000 in
theorem c_X2_prime0 (l : Launch) (D : va_G) (kA : ClassId) (me : Nat → Nat) (n : Nat) (g mk : Nat → Int32) (ss : Nat → Nat) (hn : n ≤ 8) (t : Nat) (q : Nat → Int32) (ht : ss 0 = t) (ht24 : t ≤ 24) (hq : ∀ j, j < 24 → g (24 * 0 + j) = q j) (z : Int32) : vz_M l yX2_prime wsX2_prime 2 45 [.ref (me 0), .int (nI 0), .int z] D kA [(me 0, .inr (2, [.ref (me 1), .ref (me 2), .ref (me 3), .int (nI n)])), (me 1, .inl (kA, 96, .inl g)), (me 2, .inl (kA, 4, .inl (fun j => nI (ss j)))), (me 3, .inl (kA, 256, .inl mk))] (some (.int (vz_b (!decide ((zat t q z) < 0) && (!zvoid n (zat t q z) && (!mtch n mk (zat t q z) && !zcg n (mtch n mk) (zat t q z))))))) := by
  refine vz_start (cc := cX2_prime) (maxL := 6) (ret := (some .boolean)) (own := RX2) (by decide) rfl rfl (Nat.le_of_ble_eq_true rfl) ?_
  intro pz ez sz mz below meth cz args Q ls hargs hx hb hml hown hts hr hlocks hP hK hQ hl
  have hcf : CallFix pz mz cz cX2_prime 6 sz args wsX2_prime RX2 := ⟨hx, hb, hml, hown, hts⟩
  have hi0 : ∀ w ∈ u_ws RX2 TX2 4, w ∈ wsX2_prime := by decide +kernel
  have hf19 : (Cond.fieldLink RX2 19 "CubeMinModel" "n" "I").before args sz = true := hts _ (by decide +kernel)
  have hl : lv_has ls 6 [(0, .ref (me 0)), (1, .int (nI 0)), (2, .int z)] := hl
  refine lv_aload_n hx hb dX2_prime_0 rfl (lv_at hl 0 rfl) ?_
  refine lv_iload_n hx hb dX2_prime_1 rfl (lv_at hl 1 rfl) ?_
  refine lv_iload_n hx hb dX2_prime_2 rfl (lv_at hl 2 rfl) ?_
  refine vz_callV (n := 2) (As := [.int (nI 0), .int z]) (rest := []) (q0 := 0) hcf (c_X2_cube0 l D kA me n g mk ss hn t q ht ht24 hq z) gX2_prime_X2_cube rfl hd_X2_cube ⟨Nat.le_of_ble_eq_true rfl, Nat.le_of_ble_eq_true rfl⟩ hK (hP.sub [0, 1, 2, 3] rfl) rfl rfl rfl rfl hl.1 rfl (Nat.le_of_ble_eq_true rfl) ⟨Nat.zero_le _, Nat.zero_le _⟩ dX2_prime_3 ?_
  refine lv_istore_n (lv' := [(3, .int (zat t q z)), (0, .ref (me 0)), (1, .int (nI 0)), (2, .int z)]) hx hb dX2_prime_6 rfl hl (by decide) rfl (fun ls hl => ?_)
  refine lv_iload_n hx hb dX2_prime_7 rfl (lv_at hl 0 rfl) ?_
  refine lv_if_lt (tgt := 27) hx hb dX2_prime_8 (by decide) (fun c_8 => ?_) (fun c_8 => ?_)
  · skip
    refine lv_iconst (v := nI 0) hx hb dX2_prime_27 (by decide) ?_
    exact vz_iret hx hb hr hlocks hQ (rfl) dX2_prime_28 (by first | (rw [decide_eq_true c_8]; rfl) | (rw [decide_eq_false c_8, c_16]; rfl) | (rw [decide_eq_false c_8, c_16, c_24]; rfl))
  · skip
    refine lv_aload_n hx hb dX2_prime_11 rfl (lv_at hl 1 rfl) ?_
    refine lv_iload_n hx hb dX2_prime_12 rfl (lv_at hl 0 rfl) ?_
    refine vz_callV (n := 1) (As := [.int (zat t q z)]) (rest := []) (q0 := 0) hcf (c_X2_isVoid l D kA me n g mk ss hn (zat t q z)) gX2_prime_X2_isVoid rfl hd_X2_isVoid ⟨Nat.le_of_ble_eq_true rfl, Nat.le_of_ble_eq_true rfl⟩ hK (hP.sub [0, 1, 2, 3] rfl) rfl rfl rfl rfl hl.1 rfl (Nat.le_of_ble_eq_true rfl) ⟨Nat.zero_le _, Nat.zero_le _⟩ dX2_prime_13 ?_
    refine vz_ifneB (tgt := 27) hx hb dX2_prime_16 (by decide) (fun c_16 => ?_) (fun c_16 => ?_)
    · skip
      refine lv_iconst (v := nI 0) hx hb dX2_prime_27 (by decide) ?_
      exact vz_iret hx hb hr hlocks hQ (rfl) dX2_prime_28 (by first | (rw [decide_eq_true c_8]; rfl) | (rw [decide_eq_false c_8, c_16]; rfl) | (rw [decide_eq_false c_8, c_16, c_24]; rfl))
    · skip
      refine lv_aload_n hx hb dX2_prime_19 rfl (lv_at hl 1 rfl) ?_
      refine lv_iload_n hx hb dX2_prime_20 rfl (lv_at hl 0 rfl) ?_
      refine vz_callV (n := 1) (As := [.int (zat t q z)]) (rest := []) (q0 := 0) hcf (c_X2_touches l D kA me n g mk ss hn (zat t q z)) gX2_prime_X2_touches rfl hd_X2_touches ⟨Nat.le_of_ble_eq_true rfl, Nat.le_of_ble_eq_true rfl⟩ hK (hP.sub [0, 1, 2, 3] rfl) rfl rfl rfl rfl hl.1 rfl (Nat.le_of_ble_eq_true rfl) ⟨Nat.zero_le _, Nat.zero_le _⟩ dX2_prime_21 ?_
      refine vz_ifeqB (tgt := 29) hx hb dX2_prime_24 (by decide) (fun c_24 => ?_) (fun c_24 => ?_)
      · skip
        refine lv_iconst (v := nI 0) hx hb dX2_prime_29 (by decide) ?_
        refine lv_istore (lv' := [(4, .int (nI 0)), (3, .int (zat t q z)), (0, .ref (me 0)), (1, .int (nI 0)), (2, .int z)]) hx hb dX2_prime_30 hl (by decide) rfl (fun ls hl => ?_)
        have lp1 : ∀ (dz : Nat) (i : Nat) (ls : Array Slot), (n - i) < dz → (i ≤ n) → (∀ j, j < i → (!decide (zfr (zat t q z) j = (zat t q z)) && !mtch n mk (zfr (zat t q z) j)) = false) → lv_has ls 6 [(0, .ref (me 0)), (1, .int (nI 0)), (2, .int z), (3, .int (zat t q z)), (4, .int (nI i))] → W pz l ez (vz_R 2 45) sz mz args below meth cz sz.heap [] 0 0 Q (F0 mz 32 ls []) := by
          intro dz
          induction dz with
          | zero => intro i ls hd h1 h3 hl; exact absurd hd (Nat.not_lt_zero _)
          | succ dz ih1 =>
            intro i ls hd h1 h3 hl
            refine lv_iload hx hb dX2_prime_32 (lv_at hl 4 rfl) ?_
            refine lv_aload_n hx hb dX2_prime_34 rfl (lv_at hl 0 rfl) ?_
            refine va_get (D := D) (ci := 2) (v := .int (nI n)) (C := RX2) (T := TX2) (N := 4) hx hb hts hi0 hown hK hP 0 rfl rfl 3 (by decide) hf19 (fun _ h9 => h9) rfl dX2_prime_35 ?_
            refine vz_cge (tgt := 74) hx hb dX2_prime_38 (by decide) (by omega) (by omega) (fun c_38 => ?_) (fun c_38 => ?_)
            · skip
              refine lv_iconst (v := nI 1) hx hb dX2_prime_74 (by decide) ?_
              exact vz_iret hx hb hr hlocks hQ (rfl) dX2_prime_75 (by rw [decide_eq_false c_8, c_16, c_24]; exact (congrArg (fun z => vz_b (!false && (!false && (!false && !z)))) (exB_f (P := fun i => !decide (zfr (zat t q z) i = (zat t q z)) && !mtch n mk (zfr (zat t q z) i)) (fun j hj => h3 j (by omega)))).symm)
            · skip
              refine lv_iload_n hx hb dX2_prime_41 rfl (lv_at hl 3 rfl) ?_
              refine lv_iconst (v := nI 3) hx hb dX2_prime_42 (by decide) ?_
              refine lv_iconst (v := nI 2) hx hb dX2_prime_43 (by decide) ?_
              refine lv_iload hx hb dX2_prime_44 (lv_at hl 4 rfl) ?_
              refine vz_mul hx hb dX2_prime_46 ?_
              refine lv_ishl hx hb dX2_prime_47 ?_
              refine lv_ior hx hb dX2_prime_48 ?_
              refine vz_top (y := (zfr (zat t q z) i)) rfl ?_
              refine lv_istore (lv' := [(5, .int (zfr (zat t q z) i)), (0, .ref (me 0)), (1, .int (nI 0)), (2, .int z), (3, .int (zat t q z)), (4, .int (nI i))]) hx hb dX2_prime_49 hl (by decide) rfl (fun ls hl => ?_)
              refine lv_iload hx hb dX2_prime_51 (lv_at hl 0 rfl) ?_
              refine lv_iload_n hx hb dX2_prime_53 rfl (lv_at hl 4 rfl) ?_
              refine lv_icmp_eq (tgt := 68) hx hb dX2_prime_54 (by decide) (fun c_54 => ?_) (fun c_54 => ?_)
              · skip
                refine lv_iinc (v := (nI (i + 1))) (lv' := [(4, .int (nI (i + 1))), (5, .int (zfr (zat t q z) i)), (0, .ref (me 0)), (1, .int (nI 0)), (2, .int z), (3, .int (zat t q z))]) hx hb dX2_prime_68 hl (k := 5) rfl (nI_1 _) (by decide) rfl (fun ls hl => ?_)
                refine lv_goto (tgt := 32) hx hb dX2_prime_71 (by decide) ?_
                exact ih1 (i + 1) _ (by omega) (by omega) (lt_sB h3 (by first | (simp [c_54]; done) | (simp [c_63]; done))) (lv_sub hl [2, 3, 4, 5, 0] rfl)
              · skip
                refine lv_aload_n hx hb dX2_prime_57 rfl (lv_at hl 1 rfl) ?_
                refine lv_iload hx hb dX2_prime_58 (lv_at hl 0 rfl) ?_
                refine vz_callV (n := 1) (As := [.int (zfr (zat t q z) i)]) (rest := []) (q0 := 0) hcf (c_X2_touches l D kA me n g mk ss hn (zfr (zat t q z) i)) gX2_prime_X2_touches rfl hd_X2_touches ⟨Nat.le_of_ble_eq_true rfl, Nat.le_of_ble_eq_true rfl⟩ hK (hP.sub [0, 1, 2, 3] rfl) rfl rfl rfl rfl hl.1 rfl (Nat.le_of_ble_eq_true rfl) ⟨Nat.zero_le _, Nat.zero_le _⟩ dX2_prime_60 ?_
                refine vz_ifneB (tgt := 68) hx hb dX2_prime_63 (by decide) (fun c_63 => ?_) (fun c_63 => ?_)
                · skip
                  refine lv_iinc (v := (nI (i + 1))) (lv' := [(4, .int (nI (i + 1))), (5, .int (zfr (zat t q z) i)), (0, .ref (me 0)), (1, .int (nI 0)), (2, .int z), (3, .int (zat t q z))]) hx hb dX2_prime_68 hl (k := 5) rfl (nI_1 _) (by decide) rfl (fun ls hl => ?_)
                  refine lv_goto (tgt := 32) hx hb dX2_prime_71 (by decide) ?_
                  exact ih1 (i + 1) _ (by omega) (by omega) (lt_sB h3 (by first | (simp [c_54]; done) | (simp [c_63]; done))) (lv_sub hl [2, 3, 4, 5, 0] rfl)
                · skip
                  refine lv_iconst (v := nI 0) hx hb dX2_prime_66 (by decide) ?_
                  exact vz_iret hx hb hr hlocks hQ (rfl) dX2_prime_67 (by rw [decide_eq_false c_8, c_16, c_24]; exact (congrArg (fun z => vz_b (!false && (!false && (!false && !z)))) (exB_t (P := fun i => !decide (zfr (zat t q z) i = (zat t q z)) && !mtch n mk (zfr (zat t q z) i)) (i := i) (by omega) (by simp [c_54, c_63]))).symm)
        exact lp1 _ 0 _ (Nat.lt_succ_self _) (by omega) lt_0B (lv_sub hl [2, 3, 4, 1, 0] rfl)
      · skip
        refine lv_iconst (v := nI 0) hx hb dX2_prime_27 (by decide) ?_
        exact vz_iret hx hb hr hlocks hQ (rfl) dX2_prime_28 (by first | (rw [decide_eq_true c_8]; rfl) | (rw [decide_eq_false c_8, c_16]; rfl) | (rw [decide_eq_false c_8, c_16, c_24]; rfl))
set_option maxHeartbeats 4000000 in
set_option maxRecDepth 100000 in
theorem c_X2_prime1 (l : Launch) (D : va_G) (kA : ClassId) (me : Nat → Nat) (n : Nat) (g mk : Nat → Int32) (ss : Nat → Nat) (hn : n ≤ 8) (t : Nat) (q : Nat → Int32) (ht : ss 1 = t) (ht24 : t ≤ 24) (hq : ∀ j, j < 24 → g (24 * 1 + j) = q j) (z : Int32) : vz_M l yX2_prime wsX2_prime 2 45 [.ref (me 0), .int (nI 1), .int z] D kA [(me 0, .inr (2, [.ref (me 1), .ref (me 2), .ref (me 3), .int (nI n)])), (me 1, .inl (kA, 96, .inl g)), (me 2, .inl (kA, 4, .inl (fun j => nI (ss j)))), (me 3, .inl (kA, 256, .inl mk))] (some (.int (vz_b (!decide ((zat t q z) < 0) && (!zvoid n (zat t q z) && (!mtch n mk (zat t q z) && !zcg n (mtch n mk) (zat t q z))))))) := by
  refine vz_start (cc := cX2_prime) (maxL := 6) (ret := (some .boolean)) (own := RX2) (by decide) rfl rfl (Nat.le_of_ble_eq_true rfl) ?_
  intro pz ez sz mz below meth cz args Q ls hargs hx hb hml hown hts hr hlocks hP hK hQ hl
  have hcf : CallFix pz mz cz cX2_prime 6 sz args wsX2_prime RX2 := ⟨hx, hb, hml, hown, hts⟩
  have hi0 : ∀ w ∈ u_ws RX2 TX2 4, w ∈ wsX2_prime := by decide +kernel
  have hf19 : (Cond.fieldLink RX2 19 "CubeMinModel" "n" "I").before args sz = true := hts _ (by decide +kernel)
  have hl : lv_has ls 6 [(0, .ref (me 0)), (1, .int (nI 1)), (2, .int z)] := hl
  refine lv_aload_n hx hb dX2_prime_0 rfl (lv_at hl 0 rfl) ?_
  refine lv_iload_n hx hb dX2_prime_1 rfl (lv_at hl 1 rfl) ?_
  refine lv_iload_n hx hb dX2_prime_2 rfl (lv_at hl 2 rfl) ?_
  refine vz_callV (n := 2) (As := [.int (nI 1), .int z]) (rest := []) (q0 := 0) hcf (c_X2_cube1 l D kA me n g mk ss hn t q ht ht24 hq z) gX2_prime_X2_cube rfl hd_X2_cube ⟨Nat.le_of_ble_eq_true rfl, Nat.le_of_ble_eq_true rfl⟩ hK (hP.sub [0, 1, 2, 3] rfl) rfl rfl rfl rfl hl.1 rfl (Nat.le_of_ble_eq_true rfl) ⟨Nat.zero_le _, Nat.zero_le _⟩ dX2_prime_3 ?_
  refine lv_istore_n (lv' := [(3, .int (zat t q z)), (0, .ref (me 0)), (1, .int (nI 1)), (2, .int z)]) hx hb dX2_prime_6 rfl hl (by decide) rfl (fun ls hl => ?_)
  refine lv_iload_n hx hb dX2_prime_7 rfl (lv_at hl 0 rfl) ?_
  refine lv_if_lt (tgt := 27) hx hb dX2_prime_8 (by decide) (fun c_8 => ?_) (fun c_8 => ?_)
  · skip
    refine lv_iconst (v := nI 0) hx hb dX2_prime_27 (by decide) ?_
    exact vz_iret hx hb hr hlocks hQ (rfl) dX2_prime_28 (by first | (rw [decide_eq_true c_8]; rfl) | (rw [decide_eq_false c_8, c_16]; rfl) | (rw [decide_eq_false c_8, c_16, c_24]; rfl))
  · skip
    refine lv_aload_n hx hb dX2_prime_11 rfl (lv_at hl 1 rfl) ?_
    refine lv_iload_n hx hb dX2_prime_12 rfl (lv_at hl 0 rfl) ?_
    refine vz_callV (n := 1) (As := [.int (zat t q z)]) (rest := []) (q0 := 0) hcf (c_X2_isVoid l D kA me n g mk ss hn (zat t q z)) gX2_prime_X2_isVoid rfl hd_X2_isVoid ⟨Nat.le_of_ble_eq_true rfl, Nat.le_of_ble_eq_true rfl⟩ hK (hP.sub [0, 1, 2, 3] rfl) rfl rfl rfl rfl hl.1 rfl (Nat.le_of_ble_eq_true rfl) ⟨Nat.zero_le _, Nat.zero_le _⟩ dX2_prime_13 ?_
    refine vz_ifneB (tgt := 27) hx hb dX2_prime_16 (by decide) (fun c_16 => ?_) (fun c_16 => ?_)
    · skip
      refine lv_iconst (v := nI 0) hx hb dX2_prime_27 (by decide) ?_
      exact vz_iret hx hb hr hlocks hQ (rfl) dX2_prime_28 (by first | (rw [decide_eq_true c_8]; rfl) | (rw [decide_eq_false c_8, c_16]; rfl) | (rw [decide_eq_false c_8, c_16, c_24]; rfl))
    · skip
      refine lv_aload_n hx hb dX2_prime_19 rfl (lv_at hl 1 rfl) ?_
      refine lv_iload_n hx hb dX2_prime_20 rfl (lv_at hl 0 rfl) ?_
      refine vz_callV (n := 1) (As := [.int (zat t q z)]) (rest := []) (q0 := 0) hcf (c_X2_touches l D kA me n g mk ss hn (zat t q z)) gX2_prime_X2_touches rfl hd_X2_touches ⟨Nat.le_of_ble_eq_true rfl, Nat.le_of_ble_eq_true rfl⟩ hK (hP.sub [0, 1, 2, 3] rfl) rfl rfl rfl rfl hl.1 rfl (Nat.le_of_ble_eq_true rfl) ⟨Nat.zero_le _, Nat.zero_le _⟩ dX2_prime_21 ?_
      refine vz_ifeqB (tgt := 29) hx hb dX2_prime_24 (by decide) (fun c_24 => ?_) (fun c_24 => ?_)
      · skip
        refine lv_iconst (v := nI 0) hx hb dX2_prime_29 (by decide) ?_
        refine lv_istore (lv' := [(4, .int (nI 0)), (3, .int (zat t q z)), (0, .ref (me 0)), (1, .int (nI 1)), (2, .int z)]) hx hb dX2_prime_30 hl (by decide) rfl (fun ls hl => ?_)
        have lp1 : ∀ (dz : Nat) (i : Nat) (ls : Array Slot), (n - i) < dz → (i ≤ n) → (∀ j, j < i → (!decide (zfr (zat t q z) j = (zat t q z)) && !mtch n mk (zfr (zat t q z) j)) = false) → lv_has ls 6 [(0, .ref (me 0)), (1, .int (nI 1)), (2, .int z), (3, .int (zat t q z)), (4, .int (nI i))] → W pz l ez (vz_R 2 45) sz mz args below meth cz sz.heap [] 0 0 Q (F0 mz 32 ls []) := by
          intro dz
          induction dz with
          | zero => intro i ls hd h1 h3 hl; exact absurd hd (Nat.not_lt_zero _)
          | succ dz ih1 =>
            intro i ls hd h1 h3 hl
            refine lv_iload hx hb dX2_prime_32 (lv_at hl 4 rfl) ?_
            refine lv_aload_n hx hb dX2_prime_34 rfl (lv_at hl 0 rfl) ?_
            refine va_get (D := D) (ci := 2) (v := .int (nI n)) (C := RX2) (T := TX2) (N := 4) hx hb hts hi0 hown hK hP 0 rfl rfl 3 (by decide) hf19 (fun _ h9 => h9) rfl dX2_prime_35 ?_
            refine vz_cge (tgt := 74) hx hb dX2_prime_38 (by decide) (by omega) (by omega) (fun c_38 => ?_) (fun c_38 => ?_)
            · skip
              refine lv_iconst (v := nI 1) hx hb dX2_prime_74 (by decide) ?_
              exact vz_iret hx hb hr hlocks hQ (rfl) dX2_prime_75 (by rw [decide_eq_false c_8, c_16, c_24]; exact (congrArg (fun z => vz_b (!false && (!false && (!false && !z)))) (exB_f (P := fun i => !decide (zfr (zat t q z) i = (zat t q z)) && !mtch n mk (zfr (zat t q z) i)) (fun j hj => h3 j (by omega)))).symm)
            · skip
              refine lv_iload_n hx hb dX2_prime_41 rfl (lv_at hl 3 rfl) ?_
              refine lv_iconst (v := nI 3) hx hb dX2_prime_42 (by decide) ?_
              refine lv_iconst (v := nI 2) hx hb dX2_prime_43 (by decide) ?_
              refine lv_iload hx hb dX2_prime_44 (lv_at hl 4 rfl) ?_
              refine vz_mul hx hb dX2_prime_46 ?_
              refine lv_ishl hx hb dX2_prime_47 ?_
              refine lv_ior hx hb dX2_prime_48 ?_
              refine vz_top (y := (zfr (zat t q z) i)) rfl ?_
              refine lv_istore (lv' := [(5, .int (zfr (zat t q z) i)), (0, .ref (me 0)), (1, .int (nI 1)), (2, .int z), (3, .int (zat t q z)), (4, .int (nI i))]) hx hb dX2_prime_49 hl (by decide) rfl (fun ls hl => ?_)
              refine lv_iload hx hb dX2_prime_51 (lv_at hl 0 rfl) ?_
              refine lv_iload_n hx hb dX2_prime_53 rfl (lv_at hl 4 rfl) ?_
              refine lv_icmp_eq (tgt := 68) hx hb dX2_prime_54 (by decide) (fun c_54 => ?_) (fun c_54 => ?_)
              · skip
                refine lv_iinc (v := (nI (i + 1))) (lv' := [(4, .int (nI (i + 1))), (5, .int (zfr (zat t q z) i)), (0, .ref (me 0)), (1, .int (nI 1)), (2, .int z), (3, .int (zat t q z))]) hx hb dX2_prime_68 hl (k := 5) rfl (nI_1 _) (by decide) rfl (fun ls hl => ?_)
                refine lv_goto (tgt := 32) hx hb dX2_prime_71 (by decide) ?_
                exact ih1 (i + 1) _ (by omega) (by omega) (lt_sB h3 (by first | (simp [c_54]; done) | (simp [c_63]; done))) (lv_sub hl [2, 3, 4, 5, 0] rfl)
              · skip
                refine lv_aload_n hx hb dX2_prime_57 rfl (lv_at hl 1 rfl) ?_
                refine lv_iload hx hb dX2_prime_58 (lv_at hl 0 rfl) ?_
                refine vz_callV (n := 1) (As := [.int (zfr (zat t q z) i)]) (rest := []) (q0 := 0) hcf (c_X2_touches l D kA me n g mk ss hn (zfr (zat t q z) i)) gX2_prime_X2_touches rfl hd_X2_touches ⟨Nat.le_of_ble_eq_true rfl, Nat.le_of_ble_eq_true rfl⟩ hK (hP.sub [0, 1, 2, 3] rfl) rfl rfl rfl rfl hl.1 rfl (Nat.le_of_ble_eq_true rfl) ⟨Nat.zero_le _, Nat.zero_le _⟩ dX2_prime_60 ?_
                refine vz_ifneB (tgt := 68) hx hb dX2_prime_63 (by decide) (fun c_63 => ?_) (fun c_63 => ?_)
                · skip
                  refine lv_iinc (v := (nI (i + 1))) (lv' := [(4, .int (nI (i + 1))), (5, .int (zfr (zat t q z) i)), (0, .ref (me 0)), (1, .int (nI 1)), (2, .int z), (3, .int (zat t q z))]) hx hb dX2_prime_68 hl (k := 5) rfl (nI_1 _) (by decide) rfl (fun ls hl => ?_)
                  refine lv_goto (tgt := 32) hx hb dX2_prime_71 (by decide) ?_
                  exact ih1 (i + 1) _ (by omega) (by omega) (lt_sB h3 (by first | (simp [c_54]; done) | (simp [c_63]; done))) (lv_sub hl [2, 3, 4, 5, 0] rfl)
                · skip
                  refine lv_iconst (v := nI 0) hx hb dX2_prime_66 (by decide) ?_
                  exact vz_iret hx hb hr hlocks hQ (rfl) dX2_prime_67 (by rw [decide_eq_false c_8, c_16, c_24]; exact (congrArg (fun z => vz_b (!false && (!false && (!false && !z)))) (exB_t (P := fun i => !decide (zfr (zat t q z) i = (zat t q z)) && !mtch n mk (zfr (zat t q z) i)) (i := i) (by omega) (by simp [c_54, c_63]))).symm)
        exact lp1 _ 0 _ (Nat.lt_succ_self _) (by omega) lt_0B (lv_sub hl [2, 3, 4, 1, 0] rfl)
      · skip
        refine lv_iconst (v := nI 0) hx hb dX2_prime_27 (by decide) ?_
        exact vz_iret hx hb hr hlocks hQ (rfl) dX2_prime_28 (by first | (rw [decide_eq_true c_8]; rfl) | (rw [decide_eq_false c_8, c_16]; rfl) | (rw [decide_eq_false c_8, c_16, c_24]; rfl))
set_option maxHeartbeats 4000000 in
set_option maxRecDepth 100000 in
theorem c_X2_prime2 (l : Launch) (D : va_G) (kA : ClassId) (me : Nat → Nat) (n : Nat) (g mk : Nat → Int32) (ss : Nat → Nat) (hn : n ≤ 8) (t : Nat) (q : Nat → Int32) (ht : ss 2 = t) (ht24 : t ≤ 24) (hq : ∀ j, j < 24 → g (24 * 2 + j) = q j) (z : Int32) : vz_M l yX2_prime wsX2_prime 2 45 [.ref (me 0), .int (nI 2), .int z] D kA [(me 0, .inr (2, [.ref (me 1), .ref (me 2), .ref (me 3), .int (nI n)])), (me 1, .inl (kA, 96, .inl g)), (me 2, .inl (kA, 4, .inl (fun j => nI (ss j)))), (me 3, .inl (kA, 256, .inl mk))] (some (.int (vz_b (!decide ((zat t q z) < 0) && (!zvoid n (zat t q z) && (!mtch n mk (zat t q z) && !zcg n (mtch n mk) (zat t q z))))))) := by
  refine vz_start (cc := cX2_prime) (maxL := 6) (ret := (some .boolean)) (own := RX2) (by decide) rfl rfl (Nat.le_of_ble_eq_true rfl) ?_
  intro pz ez sz mz below meth cz args Q ls hargs hx hb hml hown hts hr hlocks hP hK hQ hl
  have hcf : CallFix pz mz cz cX2_prime 6 sz args wsX2_prime RX2 := ⟨hx, hb, hml, hown, hts⟩
  have hi0 : ∀ w ∈ u_ws RX2 TX2 4, w ∈ wsX2_prime := by decide +kernel
  have hf19 : (Cond.fieldLink RX2 19 "CubeMinModel" "n" "I").before args sz = true := hts _ (by decide +kernel)
  have hl : lv_has ls 6 [(0, .ref (me 0)), (1, .int (nI 2)), (2, .int z)] := hl
  refine lv_aload_n hx hb dX2_prime_0 rfl (lv_at hl 0 rfl) ?_
  refine lv_iload_n hx hb dX2_prime_1 rfl (lv_at hl 1 rfl) ?_
  refine lv_iload_n hx hb dX2_prime_2 rfl (lv_at hl 2 rfl) ?_
  refine vz_callV (n := 2) (As := [.int (nI 2), .int z]) (rest := []) (q0 := 0) hcf (c_X2_cube2 l D kA me n g mk ss hn t q ht ht24 hq z) gX2_prime_X2_cube rfl hd_X2_cube ⟨Nat.le_of_ble_eq_true rfl, Nat.le_of_ble_eq_true rfl⟩ hK (hP.sub [0, 1, 2, 3] rfl) rfl rfl rfl rfl hl.1 rfl (Nat.le_of_ble_eq_true rfl) ⟨Nat.zero_le _, Nat.zero_le _⟩ dX2_prime_3 ?_
  refine lv_istore_n (lv' := [(3, .int (zat t q z)), (0, .ref (me 0)), (1, .int (nI 2)), (2, .int z)]) hx hb dX2_prime_6 rfl hl (by decide) rfl (fun ls hl => ?_)
  refine lv_iload_n hx hb dX2_prime_7 rfl (lv_at hl 0 rfl) ?_
  refine lv_if_lt (tgt := 27) hx hb dX2_prime_8 (by decide) (fun c_8 => ?_) (fun c_8 => ?_)
  · skip
    refine lv_iconst (v := nI 0) hx hb dX2_prime_27 (by decide) ?_
    exact vz_iret hx hb hr hlocks hQ (rfl) dX2_prime_28 (by first | (rw [decide_eq_true c_8]; rfl) | (rw [decide_eq_false c_8, c_16]; rfl) | (rw [decide_eq_false c_8, c_16, c_24]; rfl))
  · skip
    refine lv_aload_n hx hb dX2_prime_11 rfl (lv_at hl 1 rfl) ?_
    refine lv_iload_n hx hb dX2_prime_12 rfl (lv_at hl 0 rfl) ?_
    refine vz_callV (n := 1) (As := [.int (zat t q z)]) (rest := []) (q0 := 0) hcf (c_X2_isVoid l D kA me n g mk ss hn (zat t q z)) gX2_prime_X2_isVoid rfl hd_X2_isVoid ⟨Nat.le_of_ble_eq_true rfl, Nat.le_of_ble_eq_true rfl⟩ hK (hP.sub [0, 1, 2, 3] rfl) rfl rfl rfl rfl hl.1 rfl (Nat.le_of_ble_eq_true rfl) ⟨Nat.zero_le _, Nat.zero_le _⟩ dX2_prime_13 ?_
    refine vz_ifneB (tgt := 27) hx hb dX2_prime_16 (by decide) (fun c_16 => ?_) (fun c_16 => ?_)
    · skip
      refine lv_iconst (v := nI 0) hx hb dX2_prime_27 (by decide) ?_
      exact vz_iret hx hb hr hlocks hQ (rfl) dX2_prime_28 (by first | (rw [decide_eq_true c_8]; rfl) | (rw [decide_eq_false c_8, c_16]; rfl) | (rw [decide_eq_false c_8, c_16, c_24]; rfl))
    · skip
      refine lv_aload_n hx hb dX2_prime_19 rfl (lv_at hl 1 rfl) ?_
      refine lv_iload_n hx hb dX2_prime_20 rfl (lv_at hl 0 rfl) ?_
      refine vz_callV (n := 1) (As := [.int (zat t q z)]) (rest := []) (q0 := 0) hcf (c_X2_touches l D kA me n g mk ss hn (zat t q z)) gX2_prime_X2_touches rfl hd_X2_touches ⟨Nat.le_of_ble_eq_true rfl, Nat.le_of_ble_eq_true rfl⟩ hK (hP.sub [0, 1, 2, 3] rfl) rfl rfl rfl rfl hl.1 rfl (Nat.le_of_ble_eq_true rfl) ⟨Nat.zero_le _, Nat.zero_le _⟩ dX2_prime_21 ?_
      refine vz_ifeqB (tgt := 29) hx hb dX2_prime_24 (by decide) (fun c_24 => ?_) (fun c_24 => ?_)
      · skip
        refine lv_iconst (v := nI 0) hx hb dX2_prime_29 (by decide) ?_
        refine lv_istore (lv' := [(4, .int (nI 0)), (3, .int (zat t q z)), (0, .ref (me 0)), (1, .int (nI 2)), (2, .int z)]) hx hb dX2_prime_30 hl (by decide) rfl (fun ls hl => ?_)
        have lp1 : ∀ (dz : Nat) (i : Nat) (ls : Array Slot), (n - i) < dz → (i ≤ n) → (∀ j, j < i → (!decide (zfr (zat t q z) j = (zat t q z)) && !mtch n mk (zfr (zat t q z) j)) = false) → lv_has ls 6 [(0, .ref (me 0)), (1, .int (nI 2)), (2, .int z), (3, .int (zat t q z)), (4, .int (nI i))] → W pz l ez (vz_R 2 45) sz mz args below meth cz sz.heap [] 0 0 Q (F0 mz 32 ls []) := by
          intro dz
          induction dz with
          | zero => intro i ls hd h1 h3 hl; exact absurd hd (Nat.not_lt_zero _)
          | succ dz ih1 =>
            intro i ls hd h1 h3 hl
            refine lv_iload hx hb dX2_prime_32 (lv_at hl 4 rfl) ?_
            refine lv_aload_n hx hb dX2_prime_34 rfl (lv_at hl 0 rfl) ?_
            refine va_get (D := D) (ci := 2) (v := .int (nI n)) (C := RX2) (T := TX2) (N := 4) hx hb hts hi0 hown hK hP 0 rfl rfl 3 (by decide) hf19 (fun _ h9 => h9) rfl dX2_prime_35 ?_
            refine vz_cge (tgt := 74) hx hb dX2_prime_38 (by decide) (by omega) (by omega) (fun c_38 => ?_) (fun c_38 => ?_)
            · skip
              refine lv_iconst (v := nI 1) hx hb dX2_prime_74 (by decide) ?_
              exact vz_iret hx hb hr hlocks hQ (rfl) dX2_prime_75 (by rw [decide_eq_false c_8, c_16, c_24]; exact (congrArg (fun z => vz_b (!false && (!false && (!false && !z)))) (exB_f (P := fun i => !decide (zfr (zat t q z) i = (zat t q z)) && !mtch n mk (zfr (zat t q z) i)) (fun j hj => h3 j (by omega)))).symm)
            · skip
              refine lv_iload_n hx hb dX2_prime_41 rfl (lv_at hl 3 rfl) ?_
              refine lv_iconst (v := nI 3) hx hb dX2_prime_42 (by decide) ?_
              refine lv_iconst (v := nI 2) hx hb dX2_prime_43 (by decide) ?_
              refine lv_iload hx hb dX2_prime_44 (lv_at hl 4 rfl) ?_
              refine vz_mul hx hb dX2_prime_46 ?_
              refine lv_ishl hx hb dX2_prime_47 ?_
              refine lv_ior hx hb dX2_prime_48 ?_
              refine vz_top (y := (zfr (zat t q z) i)) rfl ?_
              refine lv_istore (lv' := [(5, .int (zfr (zat t q z) i)), (0, .ref (me 0)), (1, .int (nI 2)), (2, .int z), (3, .int (zat t q z)), (4, .int (nI i))]) hx hb dX2_prime_49 hl (by decide) rfl (fun ls hl => ?_)
              refine lv_iload hx hb dX2_prime_51 (lv_at hl 0 rfl) ?_
              refine lv_iload_n hx hb dX2_prime_53 rfl (lv_at hl 4 rfl) ?_
              refine lv_icmp_eq (tgt := 68) hx hb dX2_prime_54 (by decide) (fun c_54 => ?_) (fun c_54 => ?_)
              · skip
                refine lv_iinc (v := (nI (i + 1))) (lv' := [(4, .int (nI (i + 1))), (5, .int (zfr (zat t q z) i)), (0, .ref (me 0)), (1, .int (nI 2)), (2, .int z), (3, .int (zat t q z))]) hx hb dX2_prime_68 hl (k := 5) rfl (nI_1 _) (by decide) rfl (fun ls hl => ?_)
                refine lv_goto (tgt := 32) hx hb dX2_prime_71 (by decide) ?_
                exact ih1 (i + 1) _ (by omega) (by omega) (lt_sB h3 (by first | (simp [c_54]; done) | (simp [c_63]; done))) (lv_sub hl [2, 3, 4, 5, 0] rfl)
              · skip
                refine lv_aload_n hx hb dX2_prime_57 rfl (lv_at hl 1 rfl) ?_
                refine lv_iload hx hb dX2_prime_58 (lv_at hl 0 rfl) ?_
                refine vz_callV (n := 1) (As := [.int (zfr (zat t q z) i)]) (rest := []) (q0 := 0) hcf (c_X2_touches l D kA me n g mk ss hn (zfr (zat t q z) i)) gX2_prime_X2_touches rfl hd_X2_touches ⟨Nat.le_of_ble_eq_true rfl, Nat.le_of_ble_eq_true rfl⟩ hK (hP.sub [0, 1, 2, 3] rfl) rfl rfl rfl rfl hl.1 rfl (Nat.le_of_ble_eq_true rfl) ⟨Nat.zero_le _, Nat.zero_le _⟩ dX2_prime_60 ?_
                refine vz_ifneB (tgt := 68) hx hb dX2_prime_63 (by decide) (fun c_63 => ?_) (fun c_63 => ?_)
                · skip
                  refine lv_iinc (v := (nI (i + 1))) (lv' := [(4, .int (nI (i + 1))), (5, .int (zfr (zat t q z) i)), (0, .ref (me 0)), (1, .int (nI 2)), (2, .int z), (3, .int (zat t q z))]) hx hb dX2_prime_68 hl (k := 5) rfl (nI_1 _) (by decide) rfl (fun ls hl => ?_)
                  refine lv_goto (tgt := 32) hx hb dX2_prime_71 (by decide) ?_
                  exact ih1 (i + 1) _ (by omega) (by omega) (lt_sB h3 (by first | (simp [c_54]; done) | (simp [c_63]; done))) (lv_sub hl [2, 3, 4, 5, 0] rfl)
                · skip
                  refine lv_iconst (v := nI 0) hx hb dX2_prime_66 (by decide) ?_
                  exact vz_iret hx hb hr hlocks hQ (rfl) dX2_prime_67 (by rw [decide_eq_false c_8, c_16, c_24]; exact (congrArg (fun z => vz_b (!false && (!false && (!false && !z)))) (exB_t (P := fun i => !decide (zfr (zat t q z) i = (zat t q z)) && !mtch n mk (zfr (zat t q z) i)) (i := i) (by omega) (by simp [c_54, c_63]))).symm)
        exact lp1 _ 0 _ (Nat.lt_succ_self _) (by omega) lt_0B (lv_sub hl [2, 3, 4, 1, 0] rfl)
      · skip
        refine lv_iconst (v := nI 0) hx hb dX2_prime_27 (by decide) ?_
        exact vz_iret hx hb hr hlocks hQ (rfl) dX2_prime_28 (by first | (rw [decide_eq_true c_8]; rfl) | (rw [decide_eq_false c_8, c_16]; rfl) | (rw [decide_eq_false c_8, c_16, c_24]; rfl))
set_option maxHeartbeats 4000000 in
set_option maxRecDepth 100000 in
theorem c_X2_prime3 (l : Launch) (D : va_G) (kA : ClassId) (me : Nat → Nat) (n : Nat) (g mk : Nat → Int32) (ss : Nat → Nat) (hn : n ≤ 8) (x : Int32) (hx3 : (!decide (x < 0) && !decide (nI 2 < x)) = false) (z : Int32) : vz_M l yX2_prime wsX2_prime 2 42 [.ref (me 0), .int x, .int z] D kA [(me 0, .inr (2, [.ref (me 1), .ref (me 2), .ref (me 3), .int (nI n)])), (me 1, .inl (kA, 96, .inl g)), (me 2, .inl (kA, 4, .inl (fun j => nI (ss j)))), (me 3, .inl (kA, 256, .inl mk))] (some (.int (nI 0))) := by
  refine vz_start (cc := cX2_prime) (maxL := 6) (ret := (some .boolean)) (own := RX2) (by decide) rfl rfl (Nat.le_of_ble_eq_true rfl) ?_
  intro pz ez sz mz below meth cz args Q ls hargs hx hb hml hown hts hr hlocks hP hK hQ hl
  have hcf : CallFix pz mz cz cX2_prime 6 sz args wsX2_prime RX2 := ⟨hx, hb, hml, hown, hts⟩
  have hi0 : ∀ w ∈ u_ws RX2 TX2 4, w ∈ wsX2_prime := by decide +kernel
  have hf19 : (Cond.fieldLink RX2 19 "CubeMinModel" "n" "I").before args sz = true := hts _ (by decide +kernel)
  have hl : lv_has ls 6 [(0, .ref (me 0)), (1, .int x), (2, .int z)] := hl
  refine lv_aload_n hx hb dX2_prime_0 rfl (lv_at hl 0 rfl) ?_
  refine lv_iload_n hx hb dX2_prime_1 rfl (lv_at hl 1 rfl) ?_
  refine lv_iload_n hx hb dX2_prime_2 rfl (lv_at hl 2 rfl) ?_
  refine vz_callV (n := 2) (As := [.int x, .int z]) (rest := []) (q0 := 0) hcf (c_X2_cube3 l D kA me n g mk ss hn x hx3 z) gX2_prime_X2_cube rfl hd_X2_cube ⟨Nat.le_of_ble_eq_true rfl, Nat.le_of_ble_eq_true rfl⟩ hK (hP.sub [0, 1, 2, 3] rfl) rfl rfl rfl rfl hl.1 rfl (Nat.le_of_ble_eq_true rfl) ⟨Nat.zero_le _, Nat.zero_le _⟩ dX2_prime_3 ?_
  refine lv_istore_n (lv' := [(3, .int (-1)), (0, .ref (me 0)), (1, .int x), (2, .int z)]) hx hb dX2_prime_6 rfl hl (by decide) rfl (fun ls hl => ?_)
  refine lv_iload_n hx hb dX2_prime_7 rfl (lv_at hl 0 rfl) ?_
  refine lv_if_lt (tgt := 27) hx hb dX2_prime_8 (by decide) (fun c_8 => ?_) (fun c_8 => absurd c_8 (fun h => h (by decide)))
  refine lv_iconst (v := nI 0) hx hb dX2_prime_27 (by decide) ?_
  exact vz_iret hx hb hr hlocks hQ (rfl) dX2_prime_28 rfl
set_option maxHeartbeats 4000000 in
set_option maxRecDepth 100000 in
theorem c_X2_widen (l : Launch) (D : va_G) (kA : ClassId) (me : Nat → Nat) (n : Nat) (g mk : Nat → Int32) (ss : Nat → Nat) (hn : n ≤ 8) (x : Int32) : vz_M l yX2_widen wsX2_widen 3 71 [.ref (me 0), .int x] D kA [(me 0, .inr (2, [.ref (me 1), .ref (me 2), .ref (me 3), .int (nI n)])), (me 1, .inl (kA, 96, .inl g)), (me 2, .inl (kA, 4, .inl (fun j => nI (ss j)))), (me 3, .inl (kA, 256, .inl mk))] (some (.int (if ((!decide (x < 0) && !decide (nI (4 ^ n) ≤ x)) && (!zvoid n x && !mtch n mk x)) = true then mwd n (mtch n mk) true n x else -1))) := by
  refine vz_start (cc := cX2_widen) (maxL := 2) (ret := (some .int)) (own := RX2) (by decide) rfl rfl (Nat.le_of_ble_eq_true rfl) ?_
  intro pz ez sz mz below meth cz args Q ls hargs hx hb hml hown hts hr hlocks hP hK hQ hl
  have hcf : CallFix pz mz cz cX2_widen 2 sz args wsX2_widen RX2 := ⟨hx, hb, hml, hown, hts⟩
  have hl : lv_has ls 2 [(0, .ref (me 0)), (1, .int x)] := hl
  refine lv_aload_n hx hb dX2_widen_0 rfl (lv_at hl 0 rfl) ?_
  refine lv_iload_n hx hb dX2_widen_1 rfl (lv_at hl 1 rfl) ?_
  refine vz_callV (n := 1) (As := [.int x]) (rest := []) (q0 := 0) hcf (c_X2_isCube l D kA me n g mk ss hn x) gX2_widen_X2_isCube rfl hd_X2_isCube ⟨Nat.le_of_ble_eq_true rfl, Nat.le_of_ble_eq_true rfl⟩ hK (hP.sub [0, 1, 2, 3] rfl) rfl rfl rfl rfl hl.1 rfl (Nat.le_of_ble_eq_true rfl) ⟨Nat.zero_le _, Nat.zero_le _⟩ dX2_widen_2 ?_
  refine vz_ifeqB (tgt := 24) hx hb dX2_widen_5 (by decide) (fun c_5 => ?_) (fun c_5 => ?_)
  · skip
    refine lv_iconst (v := -1) hx hb dX2_widen_24 (by decide) ?_
    refine lv_goto (tgt := 34) hx hb dX2_widen_25 (by decide) ?_
    exact vz_iret hx hb hr hlocks hQ (vp_nar_int _) dX2_widen_34 (by first | (rw [if_pos (by rw [c_5, c_13, c_21]; rfl)]) | (rw [if_neg]; first | (rw [c_5]; simp; done) | (rw [c_5, c_13]; simp; done) | (rw [c_5, c_13, c_21]; simp; done)))
  · skip
    refine lv_aload_n hx hb dX2_widen_8 rfl (lv_at hl 0 rfl) ?_
    refine lv_iload_n hx hb dX2_widen_9 rfl (lv_at hl 1 rfl) ?_
    refine vz_callV (n := 1) (As := [.int x]) (rest := []) (q0 := 0) hcf (c_X2_isVoid l D kA me n g mk ss hn x) gX2_widen_X2_isVoid rfl hd_X2_isVoid ⟨Nat.le_of_ble_eq_true rfl, Nat.le_of_ble_eq_true rfl⟩ hK (hP.sub [0, 1, 2, 3] rfl) rfl rfl rfl rfl hl.1 rfl (Nat.le_of_ble_eq_true rfl) ⟨Nat.zero_le _, Nat.zero_le _⟩ dX2_widen_10 ?_
    refine vz_ifneB (tgt := 24) hx hb dX2_widen_13 (by decide) (fun c_13 => ?_) (fun c_13 => ?_)
    · skip
      refine lv_iconst (v := -1) hx hb dX2_widen_24 (by decide) ?_
      refine lv_goto (tgt := 34) hx hb dX2_widen_25 (by decide) ?_
      exact vz_iret hx hb hr hlocks hQ (vp_nar_int _) dX2_widen_34 (by first | (rw [if_pos (by rw [c_5, c_13, c_21]; rfl)]) | (rw [if_neg]; first | (rw [c_5]; simp; done) | (rw [c_5, c_13]; simp; done) | (rw [c_5, c_13, c_21]; simp; done)))
    · skip
      refine lv_aload_n hx hb dX2_widen_16 rfl (lv_at hl 0 rfl) ?_
      refine lv_iload_n hx hb dX2_widen_17 rfl (lv_at hl 1 rfl) ?_
      refine vz_callV (n := 1) (As := [.int x]) (rest := []) (q0 := 0) hcf (c_X2_touches l D kA me n g mk ss hn x) gX2_widen_X2_touches rfl hd_X2_touches ⟨Nat.le_of_ble_eq_true rfl, Nat.le_of_ble_eq_true rfl⟩ hK (hP.sub [0, 1, 2, 3] rfl) rfl rfl rfl rfl hl.1 rfl (Nat.le_of_ble_eq_true rfl) ⟨Nat.zero_le _, Nat.zero_le _⟩ dX2_widen_18 ?_
      refine vz_ifeqB (tgt := 28) hx hb dX2_widen_21 (by decide) (fun c_21 => ?_) (fun c_21 => ?_)
      · skip
        refine lv_aload_n hx hb dX2_widen_28 rfl (lv_at hl 0 rfl) ?_
        refine lv_iload_n hx hb dX2_widen_29 rfl (lv_at hl 1 rfl) ?_
        refine lv_iconst (v := nI 1) hx hb dX2_widen_30 (by decide) ?_
        refine vz_top (y := (vz_b true)) rfl ?_
        refine vz_callV (n := 2) (As := [.int x, .int (vz_b true)]) (rest := []) (q0 := 0) hcf (c_X2_widened l D kA me n g mk ss hn x true) gX2_widen_X2_widened rfl hd_X2_widened ⟨Nat.le_of_ble_eq_true rfl, Nat.le_of_ble_eq_true rfl⟩ hK (hP.sub [0, 1, 2, 3] rfl) rfl rfl rfl rfl hl.1 rfl (Nat.le_of_ble_eq_true rfl) ⟨Nat.zero_le _, Nat.zero_le _⟩ dX2_widen_31 ?_
        exact vz_iret hx hb hr hlocks hQ (vp_nar_int _) dX2_widen_34 (by first | (rw [if_pos (by rw [c_5, c_13, c_21]; rfl)]) | (rw [if_neg]; first | (rw [c_5]; simp; done) | (rw [c_5, c_13]; simp; done) | (rw [c_5, c_13, c_21]; simp; done)))
      · skip
        refine lv_iconst (v := -1) hx hb dX2_widen_24 (by decide) ?_
        refine lv_goto (tgt := 34) hx hb dX2_widen_25 (by decide) ?_
        exact vz_iret hx hb hr hlocks hQ (vp_nar_int _) dX2_widen_34 (by first | (rw [if_pos (by rw [c_5, c_13, c_21]; rfl)]) | (rw [if_neg]; first | (rw [c_5]; simp; done) | (rw [c_5, c_13]; simp; done) | (rw [c_5, c_13, c_21]; simp; done)))
