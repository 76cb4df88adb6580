set_option maxHeartbeats 4000000 in
set_option maxRecDepth 100000 in
theorem c_X1_pointCount (l : Launch) (D : va_G) (kA : ClassId) (ad : Nat → Nat) (n : Nat) (fp fk fh : Nat → Int32) (hn : n ≤ 8) : vz_M l yX1_pointCount wsX1_pointCount 0 0 [.ref (ad 0)] D kA [(ad 0, .inr (1, [.ref (ad 1), .ref (ad 2), .ref (ad 3), .ref (ad 4), .ref (ad 5), .ref (ad 6), .ref (ad 7), .int (nI n)])), (ad 5, .inl (kA, 256, .inl fp)), (ad 6, .inl (kA, 256, .inl fk)), (ad 7, .inl (kA, 256, .inl fh))] (some (.int (nI (zN n)))) := by
  refine vz_start (cc := cX1_pointCount) (maxL := 1) (ret := (some .int)) (own := RX1) (by decide) rfl rfl (Nat.le_of_ble_eq_true rfl) ?_
  intro pz ez sz mz below meth cz args Q ls hargs hx hb hml hown hts hr hlocks hP hK hQ hl
  have hcf : CallFix pz mz cz cX1_pointCount 1 sz args wsX1_pointCount RX1 := ⟨hx, hb, hml, hown, hts⟩
  have hi0 : ∀ w ∈ u_ws RX1 TX1 8, w ∈ wsX1_pointCount := by decide +kernel
  have hf39 : (Cond.fieldLink RX1 39 "CubeMin" "inputCount" "I").before args sz = true := hts _ (by decide +kernel)
  have hl : lv_has ls 1 [(0, .ref (ad 0))] := hl
  refine lv_iconst (v := nI 1) hx hb dX1_pointCount_0 (by decide) ?_
  refine lv_aload_n hx hb dX1_pointCount_1 rfl (lv_at hl 0 rfl) ?_
  refine va_get (D := D) (ci := 1) (v := .int (nI n)) (C := RX1) (T := TX1) (N := 8) hx hb hts hi0 hown hK hP 0 rfl rfl 7 (by decide) hf39 (fun _ h9 => h9) rfl dX1_pointCount_2 ?_
  refine lv_ishl hx hb dX1_pointCount_5 ?_
  refine vz_top (y := (nI (zN n))) (zN_sh n hn) ?_
  exact vz_iret hx hb hr hlocks hQ (vp_nar_int _) dX1_pointCount_6 rfl
set_option maxHeartbeats 4000000 in
set_option maxRecDepth 100000 in
theorem c_X1_isPoint (l : Launch) (D : va_G) (kA : ClassId) (ad : Nat → Nat) (n : Nat) (fp fk fh : Nat → Int32) (hn : n ≤ 8) (x : Int32) : vz_M l yX1_isPoint wsX1_isPoint 1 20 [.ref (ad 0), .int x] D kA [(ad 0, .inr (1, [.ref (ad 1), .ref (ad 2), .ref (ad 3), .ref (ad 4), .ref (ad 5), .ref (ad 6), .ref (ad 7), .int (nI n)])), (ad 5, .inl (kA, 256, .inl fp)), (ad 6, .inl (kA, 256, .inl fk)), (ad 7, .inl (kA, 256, .inl fh))] (some (.int (vz_b (!decide (x < 0) && !decide (nI (zN n) ≤ x))))) := by
  refine vz_start (cc := cX1_isPoint) (maxL := 2) (ret := (some .boolean)) (own := RX1) (by decide) rfl rfl (Nat.le_of_ble_eq_true rfl) ?_
  intro pz ez sz mz below meth cz args Q ls hargs hx hb hml hown hts hr hlocks hP hK hQ hl
  have hcf : CallFix pz mz cz cX1_isPoint 2 sz args wsX1_isPoint RX1 := ⟨hx, hb, hml, hown, hts⟩
  have hl : lv_has ls 2 [(0, .ref (ad 0)), (1, .int x)] := hl
  have hN := zN_le hn
  refine lv_iload_n hx hb dX1_isPoint_0 rfl (lv_at hl 1 rfl) ?_
  refine lv_if_lt (tgt := 16) hx hb dX1_isPoint_1 (by decide) (fun c_1 => ?_) (fun c_1 => ?_)
  · skip
    refine lv_iconst (v := nI 0) hx hb dX1_isPoint_16 (by decide) ?_
    exact vz_iret hx hb hr hlocks hQ (rfl) dX1_isPoint_17 (by first | simp [c_1, c_9]; rfl | simp [c_1]; rfl)
  · skip
    refine lv_iload_n hx hb dX1_isPoint_4 rfl (lv_at hl 1 rfl) ?_
    refine lv_aload_n hx hb dX1_isPoint_5 rfl (lv_at hl 0 rfl) ?_
    refine vz_callV (n := 0) (As := []) (rest := [.int x]) (q0 := 0) hcf (c_X1_pointCount l D kA ad n fp fk fh hn) gX1_isPoint_X1_pointCount rfl hd_X1_pointCount ⟨Nat.le_of_ble_eq_true rfl, Nat.le_of_ble_eq_true rfl⟩ hK (hP.sub [0, 1, 2, 3] rfl) rfl rfl rfl rfl hl.1 rfl (Nat.le_of_ble_eq_true rfl) ⟨Nat.zero_le _, Nat.zero_le _⟩ dX1_isPoint_6 ?_
    refine lv_icmp_ge (tgt := 16) hx hb dX1_isPoint_9 (by decide) (fun c_9 => ?_) (fun c_9 => ?_)
    · skip
      refine lv_iconst (v := nI 0) hx hb dX1_isPoint_16 (by decide) ?_
      exact vz_iret hx hb hr hlocks hQ (rfl) dX1_isPoint_17 (by first | simp [c_1, c_9]; rfl | simp [c_1]; rfl)
    · skip
      refine lv_iconst (v := nI 1) hx hb dX1_isPoint_12 (by decide) ?_
      refine lv_goto (tgt := 17) hx hb dX1_isPoint_13 (by decide) ?_
      exact vz_iret hx hb hr hlocks hQ (rfl) dX1_isPoint_17 (by first | simp [c_1, c_9]; rfl | simp [c_1]; rfl)
set_option maxHeartbeats 4000000 in
set_option maxRecDepth 100000 in
theorem c_X1_isCube (l : Launch) (D : va_G) (kA : ClassId) (ad : Nat → Nat) (n : Nat) (fp fk fh : Nat → Int32) (hn : n ≤ 8) (x : Int32) : vz_M l yX1_isCube wsX1_isCube 0 0 [.ref (ad 0), .int x] D kA [(ad 0, .inr (1, [.ref (ad 1), .ref (ad 2), .ref (ad 3), .ref (ad 4), .ref (ad 5), .ref (ad 6), .ref (ad 7), .int (nI n)])), (ad 5, .inl (kA, 256, .inl fp)), (ad 6, .inl (kA, 256, .inl fk)), (ad 7, .inl (kA, 256, .inl fh))] (some (.int (vz_b (!decide (x < 0) && !decide (nI (4 ^ n) ≤ x))))) := by
  refine vz_start (cc := cX1_isCube) (maxL := 2) (ret := (some .boolean)) (own := RX1) (by decide) rfl rfl (Nat.le_of_ble_eq_true rfl) ?_
  intro pz ez sz mz below meth cz args Q ls hargs hx hb hml hown hts hr hlocks hP hK hQ hl
  have hcf : CallFix pz mz cz cX1_isCube 2 sz args wsX1_isCube RX1 := ⟨hx, hb, hml, hown, hts⟩
  have hi0 : ∀ w ∈ u_ws RX1 TX1 8, w ∈ wsX1_isCube := by decide +kernel
  have hf39 : (Cond.fieldLink RX1 39 "CubeMin" "inputCount" "I").before args sz = true := hts _ (by decide +kernel)
  have hl : lv_has ls 2 [(0, .ref (ad 0)), (1, .int x)] := hl
  refine lv_iload_n hx hb dX1_isCube_0 rfl (lv_at hl 1 rfl) ?_
  refine lv_if_lt (tgt := 20) hx hb dX1_isCube_1 (by decide) (fun c_1 => ?_) (fun c_1 => ?_)
  · skip
    refine lv_iconst (v := nI 0) hx hb dX1_isCube_20 (by decide) ?_
    exact vz_iret hx hb hr hlocks hQ (rfl) dX1_isCube_21 (by first | simp [c_1, c_13]; rfl | simp [c_1]; rfl)
  · skip
    refine lv_iload_n hx hb dX1_isCube_4 rfl (lv_at hl 1 rfl) ?_
    refine lv_iconst (v := nI 1) hx hb dX1_isCube_5 (by decide) ?_
    refine lv_iconst (v := nI 2) hx hb dX1_isCube_6 (by decide) ?_
    refine lv_aload_n hx hb dX1_isCube_7 rfl (lv_at hl 0 rfl) ?_
    refine va_get (D := D) (ci := 1) (v := .int (nI n)) (C := RX1) (T := TX1) (N := 8) hx hb hts hi0 hown hK hP 0 rfl rfl 7 (by decide) hf39 (fun _ h9 => h9) rfl dX1_isCube_8 ?_
    refine vz_mul hx hb dX1_isCube_11 ?_
    refine lv_ishl hx hb dX1_isCube_12 ?_
    refine vz_top (y := (nI (4 ^ n))) (zN4_sh n hn) ?_
    refine lv_icmp_ge (tgt := 20) hx hb dX1_isCube_13 (by decide) (fun c_13 => ?_) (fun c_13 => ?_)
    · skip
      refine lv_iconst (v := nI 0) hx hb dX1_isCube_20 (by decide) ?_
      exact vz_iret hx hb hr hlocks hQ (rfl) dX1_isCube_21 (by first | simp [c_1, c_13]; rfl | simp [c_1]; rfl)
    · skip
      refine lv_iconst (v := nI 1) hx hb dX1_isCube_16 (by decide) ?_
      refine lv_goto (tgt := 21) hx hb dX1_isCube_17 (by decide) ?_
      exact vz_iret hx hb hr hlocks hQ (rfl) dX1_isCube_21 (by first | simp [c_1, c_13]; rfl | simp [c_1]; rfl)
set_option maxHeartbeats 4000000 in
set_option maxRecDepth 100000 in
theorem c_X1_freed (l : Launch) (D : va_G) (kA : ClassId) (x : Int32) (i : Nat) : vz_M l yX1_freed wsX1_freed 0 0 [.int x, .int (nI i)] D kA [] (some (.int (zfr x i))) := by
  refine vz_start (cc := cX1_freed) (maxL := 2) (ret := (some .int)) (own := RX1) (by decide) rfl rfl (Nat.le_of_ble_eq_true rfl) ?_
  intro pz ez sz mz below meth cz args Q ls hargs hx hb hml hown hts hr hlocks hP hK hQ hl
  have hcf : CallFix pz mz cz cX1_freed 2 sz args wsX1_freed RX1 := ⟨hx, hb, hml, hown, hts⟩
  have hl : lv_has ls 2 [(0, .int x), (1, .int (nI i))] := hl
  refine lv_iload_n hx hb dX1_freed_0 rfl (lv_at hl 0 rfl) ?_
  refine lv_iconst (v := nI 3) hx hb dX1_freed_1 (by decide) ?_
  refine lv_iconst (v := nI 2) hx hb dX1_freed_2 (by decide) ?_
  refine lv_iload_n hx hb dX1_freed_3 rfl (lv_at hl 1 rfl) ?_
  refine vz_mul hx hb dX1_freed_4 ?_
  refine lv_ishl hx hb dX1_freed_5 ?_
  refine lv_ior hx hb dX1_freed_6 ?_
  exact vz_iret hx hb hr hlocks hQ (vp_nar_int _) dX1_freed_7 rfl
set_option maxHeartbeats 4000000 in
set_option maxRecDepth 100000 in
theorem c_X1_isVoid (l : Launch) (D : va_G) (kA : ClassId) (ad : Nat → Nat) (n : Nat) (fp fk fh : Nat → Int32) (hn : n ≤ 8) (x : Int32) : vz_M l yX1_isVoid wsX1_isVoid 0 0 [.ref (ad 0), .int x] D kA [(ad 0, .inr (1, [.ref (ad 1), .ref (ad 2), .ref (ad 3), .ref (ad 4), .ref (ad 5), .ref (ad 6), .ref (ad 7), .int (nI n)])), (ad 5, .inl (kA, 256, .inl fp)), (ad 6, .inl (kA, 256, .inl fk)), (ad 7, .inl (kA, 256, .inl fh))] (some (.int (vz_b (zvoid n x)))) := by
  refine vz_start (cc := cX1_isVoid) (maxL := 3) (ret := (some .boolean)) (own := RX1) (by decide) rfl rfl (Nat.le_of_ble_eq_true rfl) ?_
  intro pz ez sz mz below meth cz args Q ls hargs hx hb hml hown hts hr hlocks hP hK hQ hl
  have hcf : CallFix pz mz cz cX1_isVoid 3 sz args wsX1_isVoid RX1 := ⟨hx, hb, hml, hown, hts⟩
  have hi0 : ∀ w ∈ u_ws RX1 TX1 8, w ∈ wsX1_isVoid := by decide +kernel
  have hf39 : (Cond.fieldLink RX1 39 "CubeMin" "inputCount" "I").before args sz = true := hts _ (by decide +kernel)
  have hl : lv_has ls 3 [(0, .ref (ad 0)), (1, .int x)] := hl
  refine lv_iconst (v := nI 0) hx hb dX1_isVoid_0 (by decide) ?_
  refine lv_istore_n (lv' := [(2, .int (nI 0)), (0, .ref (ad 0)), (1, .int x)]) hx hb dX1_isVoid_1 rfl hl (by decide) rfl (fun ls hl => ?_)
  have lp1 : ∀ (dz : Nat) (i : Nat) (ls : Array Slot), (n - i) < dz → (i ≤ n) → (∀ j, j < i → decide (x >>> (nI (2 * j) &&& 31) &&& nI 3 = 0) = false) → lv_has ls 3 [(0, .ref (ad 0)), (1, .int x), (2, .int (nI i))] → W pz l ez (vz_R 0 0) sz mz args below meth cz sz.heap [] 0 0 Q (F0 mz 2 ls []) := by
    intro dz
    induction dz with
    | zero => intro i ls hd h1 h2 hl; exact absurd hd (Nat.not_lt_zero _)
    | succ dz ih1 =>
      intro i ls hd h1 h2 hl
      refine lv_iload_n hx hb dX1_isVoid_2 rfl (lv_at hl 2 rfl) ?_
      refine lv_aload_n hx hb dX1_isVoid_3 rfl (lv_at hl 0 rfl) ?_
      refine va_get (D := D) (ci := 1) (v := .int (nI n)) (C := RX1) (T := TX1) (N := 8) hx hb hts hi0 hown hK hP 0 rfl rfl 7 (by decide) hf39 (fun _ h9 => h9) rfl dX1_isVoid_4 ?_
      refine vz_cge (tgt := 28) hx hb dX1_isVoid_7 (by decide) (by omega) (by omega) (fun c_7 => ?_) (fun c_7 => ?_)
      · skip
        refine lv_iconst (v := nI 0) hx hb dX1_isVoid_28 (by decide) ?_
        exact vz_iret hx hb hr hlocks hQ (rfl) dX1_isVoid_29 ((congrArg vz_b (exB_f (fun j hj => h2 j (by omega)))).symm)
      · skip
        refine lv_iload_n hx hb dX1_isVoid_10 rfl (lv_at hl 1 rfl) ?_
        refine lv_iconst (v := nI 2) hx hb dX1_isVoid_11 (by decide) ?_
        refine lv_iload_n hx hb dX1_isVoid_12 rfl (lv_at hl 2 rfl) ?_
        refine vz_mul hx hb dX1_isVoid_13 ?_
        refine lv_ishr hx hb dX1_isVoid_14 ?_
        refine lv_iconst (v := nI 3) hx hb dX1_isVoid_15 (by decide) ?_
        refine lv_iand hx hb dX1_isVoid_16 ?_
        refine lv_if_ne (tgt := 22) hx hb dX1_isVoid_17 (by decide) (fun c_17 => ?_) (fun c_17 => ?_)
        · skip
          refine lv_iinc (v := (nI (i + 1))) (lv' := [(2, .int (nI (i + 1))), (0, .ref (ad 0)), (1, .int x)]) hx hb dX1_isVoid_22 hl (k := 2) rfl (nI_1 _) (by decide) rfl (fun ls hl => ?_)
          refine lv_goto (tgt := 2) hx hb dX1_isVoid_25 (by decide) ?_
          exact ih1 (i + 1) _ (by omega) (by omega) (lt_sB h2 (decide_eq_false c_17)) (lv_sub hl [1, 2, 0] rfl)
        · skip
          refine lv_iconst (v := nI 1) hx hb dX1_isVoid_20 (by decide) ?_
          exact vz_iret hx hb hr hlocks hQ (rfl) dX1_isVoid_21 ((congrArg vz_b (exB_t c_7 (decide_eq_true c_17))).symm)
  exact lp1 _ 0 _ (Nat.lt_succ_self _) (by omega) lt_0B (lv_sub hl [1, 2, 0] rfl)
set_option maxHeartbeats 4000000 in
set_option maxRecDepth 100000 in
theorem c_X1_isInCube (l : Launch) (D : va_G) (kA : ClassId) (ad : Nat → Nat) (n : Nat) (fp fk fh : Nat → Int32) (hn : n ≤ 8) (x : Int32) (p : Nat) (hp : p < 256) : vz_M l yX1_isInCube wsX1_isInCube 0 0 [.ref (ad 0), .int x, .int (nI p)] D kA [(ad 0, .inr (1, [.ref (ad 1), .ref (ad 2), .ref (ad 3), .ref (ad 4), .ref (ad 5), .ref (ad 6), .ref (ad 7), .int (nI n)])), (ad 5, .inl (kA, 256, .inl fp)), (ad 6, .inl (kA, 256, .inl fk)), (ad 7, .inl (kA, 256, .inl fh))] (some (.int (vz_b (zX_in fp x p)))) := by
  refine vz_start (cc := cX1_isInCube) (maxL := 3) (ret := (some .boolean)) (own := RX1) (by decide) rfl rfl (Nat.le_of_ble_eq_true rfl) ?_
  intro pz ez sz mz below meth cz args Q ls hargs hx hb hml hown hts hr hlocks hP hK hQ hl
  have hcf : CallFix pz mz cz cX1_isInCube 3 sz args wsX1_isInCube RX1 := ⟨hx, hb, hml, hown, hts⟩
  have hi0 : ∀ w ∈ u_ws RX1 TX1 8, w ∈ wsX1_isInCube := by decide +kernel
  have hf25 : (Cond.fieldLink RX1 25 "CubeMin" "pointCubes" "[I").before args sz = true := hts _ (by decide +kernel)
  have hl : lv_has ls 3 [(0, .ref (ad 0)), (1, .int x), (2, .int (nI p))] := hl
  refine lv_aload_n hx hb dX1_isInCube_0 rfl (lv_at hl 0 rfl) ?_
  refine va_get (D := D) (ci := 1) (v := .ref (ad 5)) (C := RX1) (T := TX1) (N := 8) hx hb hts hi0 hown hK hP 0 rfl rfl 4 (by decide) hf25 (fun _ h9 => h9) rfl dX1_isInCube_1 ?_
  refine lv_iload_n hx hb dX1_isInCube_4 rfl (lv_at hl 2 rfl) ?_
  refine vz_ald hx hb hK hP 1 rfl (by omega) (Nat.le_of_ble_eq_true rfl) dX1_isInCube_5 ?_
  refine lv_iload_n hx hb dX1_isInCube_6 rfl (lv_at hl 1 rfl) ?_
  refine lv_iconst (v := -1) hx hb dX1_isInCube_7 (by decide) ?_
  refine lv_ixor hx hb dX1_isInCube_8 ?_
  refine lv_iand hx hb dX1_isInCube_9 ?_
  refine lv_if_ne (tgt := 17) hx hb dX1_isInCube_10 (by decide) (fun c_10 => ?_) (fun c_10 => ?_)
  · skip
    refine lv_iconst (v := nI 0) hx hb dX1_isInCube_17 (by decide) ?_
    exact vz_iret hx hb hr hlocks hQ (rfl) dX1_isInCube_18 (by simp only [zX_in, c_10]; rfl)
  · skip
    refine lv_iconst (v := nI 1) hx hb dX1_isInCube_13 (by decide) ?_
    refine lv_goto (tgt := 18) hx hb dX1_isInCube_14 (by decide) ?_
    exact vz_iret hx hb hr hlocks hQ (rfl) dX1_isInCube_18 (by simp only [zX_in, c_10]; rfl)
set_option maxHeartbeats 4000000 in
set_option maxRecDepth 100000 in
theorem c_X1_isInList (l : Launch) (D : va_G) (kA : ClassId) (ad : Nat → Nat) (n : Nat) (fp fk fh : Nat → Int32) (hn : n ≤ 8) (h a c : Nat) (f : Nat → Int32) (hc : c ≤ 24) (p : Nat) (hp : p < 256) : vz_M l yX1_isInList wsX1_isInList 1 22 [.ref (ad 0), .ref h, .int (nI p)] D kA [(ad 0, .inr (1, [.ref (ad 1), .ref (ad 2), .ref (ad 3), .ref (ad 4), .ref (ad 5), .ref (ad 6), .ref (ad 7), .int (nI n)])), (ad 5, .inl (kA, 256, .inl fp)), (ad 6, .inl (kA, 256, .inl fk)), (ad 7, .inl (kA, 256, .inl fh)), (h, .inr (0, [.ref a, .int (nI c)])), (a, .inl (kA, 24, .inl f))] (some (.int (vz_b (zX_inL fp c f p)))) := by
  refine vz_start (cc := cX1_isInList) (maxL := 4) (ret := (some .boolean)) (own := RX1) (by decide) rfl rfl (Nat.le_of_ble_eq_true rfl) ?_
  intro pz ez sz mz below meth cz args Q ls hargs hx hb hml hown hts hr hlocks hP hK hQ hl
  have hcf : CallFix pz mz cz cX1_isInList 4 sz args wsX1_isInList RX1 := ⟨hx, hb, hml, hown, hts⟩
  have hl : lv_has ls 4 [(0, .ref (ad 0)), (1, .ref h), (2, .int (nI p))] := hl
  refine lv_iconst (v := nI 0) hx hb dX1_isInList_0 (by decide) ?_
  refine lv_istore_n (lv' := [(3, .int (nI 0)), (0, .ref (ad 0)), (1, .ref h), (2, .int (nI p))]) hx hb dX1_isInList_1 rfl hl (by decide) rfl (fun ls hl => ?_)
  have lp1 : ∀ (dz : Nat) (i : Nat) (ls : Array Slot), (c - i) < dz → (i ≤ c) → (∀ j, j < i → zX_in fp (f j) p = false) → lv_has ls 4 [(0, .ref (ad 0)), (1, .ref h), (2, .int (nI p)), (3, .int (nI i))] → W pz l ez (vz_R 1 22) sz mz args below meth cz sz.heap [] 0 0 Q (F0 mz 2 ls []) := by
    intro dz
    induction dz with
    | zero => intro i ls hd h1 h2 hl; exact absurd hd (Nat.not_lt_zero _)
    | succ dz ih1 =>
      intro i ls hd h1 h2 hl
      refine lv_iload_n hx hb dX1_isInList_2 rfl (lv_at hl 3 rfl) ?_
      refine lv_aload_n hx hb dX1_isInList_3 rfl (lv_at hl 1 rfl) ?_
      refine vz_callV (n := 0) (As := []) (rest := [.int (nI i)]) (q0 := 0) hcf (c_X0_length l D kA h a c f hc) gX1_isInList_X0_length rfl hd_X0_length ⟨Nat.le_of_ble_eq_true rfl, Nat.le_of_ble_eq_true rfl⟩ hK (hP.sub [4, 5] rfl) rfl rfl rfl rfl hl.1 rfl (Nat.le_of_ble_eq_true rfl) ⟨Nat.zero_le _, Nat.zero_le _⟩ dX1_isInList_4 ?_
      refine vz_cge (tgt := 31) hx hb dX1_isInList_7 (by decide) (by omega) (by omega) (fun c_7 => ?_) (fun c_7 => ?_)
      · skip
        refine lv_iconst (v := nI 0) hx hb dX1_isInList_31 (by decide) ?_
        exact vz_iret hx hb hr hlocks hQ (rfl) dX1_isInList_32 ((congrArg vz_b (exB_f (P := fun k => zX_in fp (f k) p) (fun j hj => h2 j (by omega)))).symm)
      · skip
        refine lv_aload_n hx hb dX1_isInList_10 rfl (lv_at hl 0 rfl) ?_
        refine lv_aload_n hx hb dX1_isInList_11 rfl (lv_at hl 1 rfl) ?_
        refine lv_iload_n hx hb dX1_isInList_12 rfl (lv_at hl 3 rfl) ?_
        refine vz_callV (n := 1) (As := [.int (nI i)]) (rest := [.ref (ad 0)]) (q0 := 0) hcf (c_X0_at l D kA h a c f hc (nI i)) gX1_isInList_X0_at rfl hd_X0_at ⟨Nat.le_of_ble_eq_true rfl, Nat.le_of_ble_eq_true rfl⟩ hK (hP.sub [4, 5] rfl) rfl rfl rfl rfl hl.1 rfl (Nat.le_of_ble_eq_true rfl) ⟨Nat.zero_le _, Nat.zero_le _⟩ dX1_isInList_13 ?_
        refine vz_top (y := (f i)) (zat_nI c_7 hc) ?_
        refine lv_iload_n hx hb dX1_isInList_16 rfl (lv_at hl 2 rfl) ?_
        refine vz_callV (n := 2) (As := [.int (f i), .int (nI p)]) (rest := []) (q0 := 0) hcf (c_X1_isInCube l D kA ad n fp fk fh hn (f i) p hp) gX1_isInList_X1_isInCube rfl hd_X1_isInCube ⟨Nat.le_of_ble_eq_true rfl, Nat.le_of_ble_eq_true rfl⟩ hK (hP.sub [0, 1, 2, 3] rfl) rfl rfl rfl rfl hl.1 rfl (Nat.le_of_ble_eq_true rfl) ⟨Nat.zero_le _, Nat.zero_le _⟩ dX1_isInList_17 ?_
        refine vz_ifeqB (tgt := 25) hx hb dX1_isInList_20 (by decide) (fun c_20 => ?_) (fun c_20 => ?_)
        · skip
          refine lv_iinc (v := (nI (i + 1))) (lv' := [(3, .int (nI (i + 1))), (0, .ref (ad 0)), (1, .ref h), (2, .int (nI p))]) hx hb dX1_isInList_25 hl (k := 3) rfl (nI_1 _) (by decide) rfl (fun ls hl => ?_)
          refine lv_goto (tgt := 2) hx hb dX1_isInList_28 (by decide) ?_
          exact ih1 (i + 1) _ (by omega) (by omega) (lt_sB h2 c_20) (lv_sub hl [1, 2, 3, 0] rfl)
        · skip
          refine lv_iconst (v := nI 1) hx hb dX1_isInList_23 (by decide) ?_
          exact vz_iret hx hb hr hlocks hQ (rfl) dX1_isInList_24 ((congrArg vz_b (exB_t (P := fun k => zX_in fp (f k) p) c_7 c_20)).symm)
  exact lp1 _ 0 _ (Nat.lt_succ_self _) (by omega) lt_0B (lv_sub hl [1, 2, 3, 0] rfl)
set_option maxHeartbeats 4000000 in
set_option maxRecDepth 100000 in
theorem c_X1_countLiterals (l : Launch) (D : va_G) (kA : ClassId) (ad : Nat → Nat) (n : Nat) (fp fk fh : Nat → Int32) (hn : n ≤ 8) (h a c : Nat) (f : Nat → Int32) (hc : c ≤ 24) : vz_M l yX1_countLiterals wsX1_countLiterals 1 21 [.ref (ad 0), .ref h] D kA [(ad 0, .inr (1, [.ref (ad 1), .ref (ad 2), .ref (ad 3), .ref (ad 4), .ref (ad 5), .ref (ad 6), .ref (ad 7), .int (nI n)])), (ad 5, .inl (kA, 256, .inl fp)), (ad 6, .inl (kA, 256, .inl fk)), (ad 7, .inl (kA, 256, .inl fh)), (h, .inr (0, [.ref a, .int (nI c)])), (a, .inl (kA, 24, .inl f))] (some (.int (nI (zlits n c f)))) := by
  refine vz_start (cc := cX1_countLiterals) (maxL := 6) (ret := (some .int)) (own := RX1) (by decide) rfl rfl (Nat.le_of_ble_eq_true rfl) ?_
  intro pz ez sz mz below meth cz args Q ls hargs hx hb hml hown hts hr hlocks hP hK hQ hl
  have hcf : CallFix pz mz cz cX1_countLiterals 6 sz args wsX1_countLiterals RX1 := ⟨hx, hb, hml, hown, hts⟩
  have hi0 : ∀ w ∈ u_ws RX1 TX1 8, w ∈ wsX1_countLiterals := by decide +kernel
  have hf39 : (Cond.fieldLink RX1 39 "CubeMin" "inputCount" "I").before args sz = true := hts _ (by decide +kernel)
  have hl : lv_has ls 6 [(0, .ref (ad 0)), (1, .ref h)] := hl
  refine lv_iconst (v := nI 0) hx hb dX1_countLiterals_0 (by decide) ?_
  refine lv_istore_n (lv' := [(2, .int (nI 0)), (0, .ref (ad 0)), (1, .ref h)]) hx hb dX1_countLiterals_1 rfl hl (by decide) rfl (fun ls hl => ?_)
  refine lv_iconst (v := nI 0) hx hb dX1_countLiterals_2 (by decide) ?_
  refine lv_istore_n (lv' := [(3, .int (nI 0)), (2, .int (nI 0)), (0, .ref (ad 0)), (1, .ref h)]) hx hb dX1_countLiterals_3 rfl hl (by decide) rfl (fun ls hl => ?_)
  have lp1 : ∀ (dz : Nat) (t i : Nat) (ls : Array Slot), (c - i) < dz → (i ≤ c) → (t = smN i (fun k => zlit n (f k))) → lv_has ls 6 [(0, .ref (ad 0)), (1, .ref h), (2, .int (nI t)), (3, .int (nI i))] → W pz l ez (vz_R 1 21) sz mz args below meth cz sz.heap [] 0 0 Q (F0 mz 4 ls []) := by
    intro dz
    induction dz with
    | zero => intro t i ls hd h1 h2 hl; exact absurd hd (Nat.not_lt_zero _)
    | succ dz ih1 =>
      intro t i ls hd h1 h2 hl
      refine lv_iload_n hx hb dX1_countLiterals_4 rfl (lv_at hl 3 rfl) ?_
      refine lv_aload_n hx hb dX1_countLiterals_5 rfl (lv_at hl 1 rfl) ?_
      refine vz_callV (n := 0) (As := []) (rest := [.int (nI i)]) (q0 := 0) hcf (c_X0_length l D kA h a c f hc) gX1_countLiterals_X0_length rfl hd_X0_length ⟨Nat.le_of_ble_eq_true rfl, Nat.le_of_ble_eq_true rfl⟩ hK (hP.sub [4, 5] rfl) rfl rfl rfl rfl hl.1 rfl (Nat.le_of_ble_eq_true rfl) ⟨Nat.zero_le _, Nat.zero_le _⟩ dX1_countLiterals_6 ?_
      refine vz_cge (tgt := 58) hx hb dX1_countLiterals_9 (by decide) (by omega) (by omega) (fun c_9 => ?_) (fun c_9 => ?_)
      · skip
        obtain rfl : c = i := by omega
        refine lv_iload_n hx hb dX1_countLiterals_58 rfl (lv_at hl 2 rfl) ?_
        exact vz_iret hx hb hr hlocks hQ (vp_nar_int _) dX1_countLiterals_59 (by rw [h2]; rfl)
      · skip
        refine lv_aload_n hx hb dX1_countLiterals_12 rfl (lv_at hl 1 rfl) ?_
        refine lv_iload_n hx hb dX1_countLiterals_13 rfl (lv_at hl 3 rfl) ?_
        refine vz_callV (n := 1) (As := [.int (nI i)]) (rest := []) (q0 := 0) hcf (c_X0_at l D kA h a c f hc (nI i)) gX1_countLiterals_X0_at rfl hd_X0_at ⟨Nat.le_of_ble_eq_true rfl, Nat.le_of_ble_eq_true rfl⟩ hK (hP.sub [4, 5] rfl) rfl rfl rfl rfl hl.1 rfl (Nat.le_of_ble_eq_true rfl) ⟨Nat.zero_le _, Nat.zero_le _⟩ dX1_countLiterals_14 ?_
        refine vz_top (y := (f i)) (zat_nI c_9 hc) ?_
        refine lv_istore (lv' := [(4, .int (f i)), (0, .ref (ad 0)), (1, .ref h), (2, .int (nI t)), (3, .int (nI i))]) hx hb dX1_countLiterals_17 hl (by decide) rfl (fun ls hl => ?_)
        refine lv_iconst (v := nI 0) hx hb dX1_countLiterals_19 (by decide) ?_
        refine lv_istore (lv' := [(5, .int (nI 0)), (4, .int (f i)), (0, .ref (ad 0)), (1, .ref h), (2, .int (nI t)), (3, .int (nI i))]) hx hb dX1_countLiterals_20 hl (by decide) rfl (fun ls hl => ?_)
        have lp2 : ∀ (dz : Nat) (t2 j : Nat) (ls : Array Slot), (n - j) < dz → (j ≤ n) → (t2 = t + cnB j (fun k => !decide (zfr (f i) k = f i))) → lv_has ls 6 [(0, .ref (ad 0)), (1, .ref h), (2, .int (nI t2)), (3, .int (nI i)), (4, .int (f i)), (5, .int (nI j))] → W pz l ez (vz_R 1 21) sz mz args below meth cz sz.heap [] 0 0 Q (F0 mz 22 ls []) := by
          intro dz
          induction dz with
          | zero => intro t2 j ls hd g1 g2 hl; exact absurd hd (Nat.not_lt_zero _)
          | succ dz ih2 =>
            intro t2 j ls hd g1 g2 hl
            refine lv_iload hx hb dX1_countLiterals_22 (lv_at hl 5 rfl) ?_
            refine lv_aload_n hx hb dX1_countLiterals_24 rfl (lv_at hl 0 rfl) ?_
            refine va_get (D := D) (ci := 1) (v := .int (nI n)) (C := RX1) (T := TX1) (N := 8) hx hb hts hi0 hown hK hP 0 rfl rfl 7 (by decide) hf39 (fun _ h9 => h9) rfl dX1_countLiterals_25 ?_
            refine vz_cge (tgt := 52) hx hb dX1_countLiterals_28 (by decide) (by omega) (by omega) (fun c_28 => ?_) (fun c_28 => ?_)
            · skip
              refine lv_iinc (v := (nI (i + 1))) (lv' := [(3, .int (nI (i + 1))), (0, .ref (ad 0)), (1, .ref h), (2, .int (nI t2)), (4, .int (f i)), (5, .int (nI j))]) hx hb dX1_countLiterals_52 hl (k := 3) rfl (nI_1 _) (by decide) rfl (fun ls hl => ?_)
              refine lv_goto (tgt := 4) hx hb dX1_countLiterals_55 (by decide) ?_
              exact ih1 t2 (i + 1) _ (by omega) (by omega) (by rw [g2, h2]; obtain rfl : n = j := (by omega); rfl) (lv_sub hl [1, 2, 3, 0] rfl)
            · skip
              refine lv_iload hx hb dX1_countLiterals_31 (lv_at hl 4 rfl) ?_
              refine lv_iload hx hb dX1_countLiterals_33 (lv_at hl 5 rfl) ?_
              refine vz_callS (n := 2) (As := [.int (f i), .int (nI j)]) (rest := []) hcf (c_X1_freed l D kA (f i) j) gX1_countLiterals_X1_freed rfl hd_X1_freed ⟨Nat.le_of_ble_eq_true rfl, Nat.le_of_ble_eq_true rfl⟩ hK (hP.sub [] rfl) rfl hl.1 rfl (Nat.le_of_ble_eq_true rfl) ⟨Nat.zero_le _, Nat.zero_le _⟩ dX1_countLiterals_35 ?_
              refine lv_iload hx hb dX1_countLiterals_38 (lv_at hl 4 rfl) ?_
              refine lv_icmp_eq (tgt := 46) hx hb dX1_countLiterals_40 (by decide) (fun c_40 => ?_) (fun c_40 => ?_)
              · skip
                refine lv_iinc (v := (nI (j + 1))) (lv' := [(5, .int (nI (j + 1))), (0, .ref (ad 0)), (1, .ref h), (2, .int (nI t2)), (3, .int (nI i)), (4, .int (f i))]) hx hb dX1_countLiterals_46 hl (k := 5) rfl (nI_1 _) (by decide) rfl (fun ls hl => ?_)
                refine lv_goto (tgt := 22) hx hb dX1_countLiterals_49 (by decide) ?_
                exact ih2 t2 (j + 1) _ (by omega) (by omega) (by simp [cnB, c_40, g2]) (lv_sub hl [1, 2, 3, 4, 5, 0] rfl)
              · skip
                refine lv_iinc (v := (nI (t2 + 1))) (lv' := [(2, .int (nI (t2 + 1))), (0, .ref (ad 0)), (1, .ref h), (3, .int (nI i)), (4, .int (f i)), (5, .int (nI j))]) hx hb dX1_countLiterals_43 hl (k := 2) rfl (nI_1 _) (by decide) rfl (fun ls hl => ?_)
                refine lv_iinc (v := (nI (j + 1))) (lv' := [(5, .int (nI (j + 1))), (2, .int (nI (t2 + 1))), (0, .ref (ad 0)), (1, .ref h), (3, .int (nI i)), (4, .int (f i))]) hx hb dX1_countLiterals_46 hl (k := 5) rfl (nI_1 _) (by decide) rfl (fun ls hl => ?_)
                refine lv_goto (tgt := 22) hx hb dX1_countLiterals_49 (by decide) ?_
                exact ih2 (t2 + 1) (j + 1) _ (by omega) (by omega) (by simp [cnB, c_40, g2]; omega) (lv_sub hl [2, 3, 1, 4, 5, 0] rfl)
        exact lp2 _ t 0 _ (Nat.lt_succ_self _) (by omega) rfl (lv_sub hl [2, 3, 4, 5, 1, 0] rfl)
  exact lp1 _ 0 0 _ (Nat.lt_succ_self _) (by omega) rfl (lv_sub hl [2, 3, 1, 0] rfl)
set_option maxHeartbeats 4000000 in
set_option maxRecDepth 100000 in
theorem c_X1_countMissing (l : Launch) (D : va_G) (kA : ClassId) (ad : Nat → Nat) (n : Nat) (fp fk fh : Nat → Int32) (hn : n ≤ 8) (h a c : Nat) (f : Nat → Int32) (hc : c ≤ 24) : vz_M l yX1_countMissing wsX1_countMissing 2 45 [.ref (ad 0), .ref h] D kA [(ad 0, .inr (1, [.ref (ad 1), .ref (ad 2), .ref (ad 3), .ref (ad 4), .ref (ad 5), .ref (ad 6), .ref (ad 7), .int (nI n)])), (ad 5, .inl (kA, 256, .inl fp)), (ad 6, .inl (kA, 256, .inl fk)), (ad 7, .inl (kA, 256, .inl fh)), (h, .inr (0, [.ref a, .int (nI c)])), (a, .inl (kA, 24, .inl f))] (some (.int (nI (cnB (zN n) (fun p => !zX_inL fp c f p))))) := by
  refine vz_start (cc := cX1_countMissing) (maxL := 5) (ret := (some .int)) (own := RX1) (by decide) rfl rfl (Nat.le_of_ble_eq_true rfl) ?_
  intro pz ez sz mz below meth cz args Q ls hargs hx hb hml hown hts hr hlocks hP hK hQ hl
  have hcf : CallFix pz mz cz cX1_countMissing 5 sz args wsX1_countMissing RX1 := ⟨hx, hb, hml, hown, hts⟩
  have hl : lv_has ls 5 [(0, .ref (ad 0)), (1, .ref h)] := hl
  have hN := zN_le hn
  refine lv_aload_n hx hb dX1_countMissing_0 rfl (lv_at hl 0 rfl) ?_
  refine vz_callV (n := 0) (As := []) (rest := []) (q0 := 0) hcf (c_X1_pointCount l D kA ad n fp fk fh hn) gX1_countMissing_X1_pointCount rfl hd_X1_pointCount ⟨Nat.le_of_ble_eq_true rfl, Nat.le_of_ble_eq_true rfl⟩ hK (hP.sub [0, 1, 2, 3] rfl) rfl rfl rfl rfl hl.1 rfl (Nat.le_of_ble_eq_true rfl) ⟨Nat.zero_le _, Nat.zero_le _⟩ dX1_countMissing_1 ?_
  refine lv_istore_n (lv' := [(2, .int (nI (zN n))), (0, .ref (ad 0)), (1, .ref h)]) hx hb dX1_countMissing_4 rfl hl (by decide) rfl (fun ls hl => ?_)
  refine lv_iconst (v := nI 0) hx hb dX1_countMissing_5 (by decide) ?_
  refine lv_istore_n (lv' := [(3, .int (nI 0)), (2, .int (nI (zN n))), (0, .ref (ad 0)), (1, .ref h)]) hx hb dX1_countMissing_6 rfl hl (by decide) rfl (fun ls hl => ?_)
  refine lv_iconst (v := nI 0) hx hb dX1_countMissing_7 (by decide) ?_
  refine lv_istore (lv' := [(4, .int (nI 0)), (3, .int (nI 0)), (2, .int (nI (zN n))), (0, .ref (ad 0)), (1, .ref h)]) hx hb dX1_countMissing_8 hl (by decide) rfl (fun ls hl => ?_)
  have lp1 : ∀ (dz : Nat) (t i : Nat) (ls : Array Slot), (zN n - i) < dz → (i ≤ zN n) → (t = cnB i (fun p => !zX_inL fp c f p)) → lv_has ls 5 [(0, .ref (ad 0)), (1, .ref h), (2, .int (nI (zN n))), (3, .int (nI t)), (4, .int (nI i))] → W pz l ez (vz_R 2 45) sz mz args below meth cz sz.heap [] 0 0 Q (F0 mz 10 ls []) := by
    intro dz
    induction dz with
    | zero => intro t i ls hd h1 h2 hl; exact absurd hd (Nat.not_lt_zero _)
    | succ dz ih1 =>
      intro t i ls hd h1 h2 hl
      refine lv_iload hx hb dX1_countMissing_10 (lv_at hl 4 rfl) ?_
      refine lv_iload_n hx hb dX1_countMissing_12 rfl (lv_at hl 2 rfl) ?_
      refine vz_cge (tgt := 35) hx hb dX1_countMissing_13 (by decide) (by omega) (by omega) (fun c_13 => ?_) (fun c_13 => ?_)
      · skip
        obtain rfl : i = zN n := by omega
        refine lv_iload_n hx hb dX1_countMissing_35 rfl (lv_at hl 3 rfl) ?_
        exact vz_iret hx hb hr hlocks hQ (vp_nar_int _) dX1_countMissing_36 (by rw [h2])
      · skip
        refine lv_aload_n hx hb dX1_countMissing_16 rfl (lv_at hl 0 rfl) ?_
        refine lv_aload_n hx hb dX1_countMissing_17 rfl (lv_at hl 1 rfl) ?_
        refine lv_iload hx hb dX1_countMissing_18 (lv_at hl 4 rfl) ?_
        refine vz_callV (n := 2) (As := [.ref h, .int (nI i)]) (rest := []) (q0 := 0) hcf (c_X1_isInList l D kA ad n fp fk fh hn h a c f hc i (by omega)) gX1_countMissing_X1_isInList rfl hd_X1_isInList ⟨Nat.le_of_ble_eq_true rfl, Nat.le_of_ble_eq_true rfl⟩ hK (hP.sub [0, 1, 2, 3, 4, 5] rfl) rfl rfl rfl rfl hl.1 rfl (Nat.le_of_ble_eq_true rfl) ⟨Nat.zero_le _, Nat.zero_le _⟩ dX1_countMissing_20 ?_
        refine vz_ifneB (tgt := 29) hx hb dX1_countMissing_23 (by decide) (fun c_23 => ?_) (fun c_23 => ?_)
        · skip
          refine lv_iinc (v := (nI (i + 1))) (lv' := [(4, .int (nI (i + 1))), (0, .ref (ad 0)), (1, .ref h), (2, .int (nI (zN n))), (3, .int (nI t))]) hx hb dX1_countMissing_29 hl (k := 4) rfl (nI_1 _) (by decide) rfl (fun ls hl => ?_)
          refine lv_goto (tgt := 10) hx hb dX1_countMissing_32 (by decide) ?_
          exact ih1 t (i + 1) _ (by omega) (by omega) (by simp [cnB, c_23, h2]) (lv_sub hl [1, 2, 3, 4, 0] rfl)
        · skip
          refine lv_iinc (v := (nI (t + 1))) (lv' := [(3, .int (nI (t + 1))), (0, .ref (ad 0)), (1, .ref h), (2, .int (nI (zN n))), (4, .int (nI i))]) hx hb dX1_countMissing_26 hl (k := 3) rfl (nI_1 _) (by decide) rfl (fun ls hl => ?_)
          refine lv_iinc (v := (nI (i + 1))) (lv' := [(4, .int (nI (i + 1))), (3, .int (nI (t + 1))), (0, .ref (ad 0)), (1, .ref h), (2, .int (nI (zN n)))]) hx hb dX1_countMissing_29 hl (k := 4) rfl (nI_1 _) (by decide) rfl (fun ls hl => ?_)
          refine lv_goto (tgt := 10) hx hb dX1_countMissing_32 (by decide) ?_
          exact ih1 (t + 1) (i + 1) _ (by omega) (by omega) (by simp [cnB, c_23, h2]) (lv_sub hl [2, 3, 4, 1, 0] rfl)
  exact lp1 _ 0 0 _ (Nat.lt_succ_self _) (by omega) rfl (lv_sub hl [3, 4, 2, 1, 0] rfl)
set_option maxHeartbeats 4000000 in
set_option maxRecDepth 100000 in
theorem c_X1_agree (l : Launch) (D : va_G) (kA : ClassId) (ad : Nat → Nat) (n : Nat) (fp fk fh : Nat → Int32) (hn : n ≤ 8) (h a c : Nat) (f : Nat → Int32) (hc : c ≤ 24) (h2 a2 c2 : Nat) (f2 : Nat → Int32) (hc2 : c2 ≤ 24) : vz_M l yX1_agree wsX1_agree 2 45 [.ref (ad 0), .ref h, .ref h2] D kA [(ad 0, .inr (1, [.ref (ad 1), .ref (ad 2), .ref (ad 3), .ref (ad 4), .ref (ad 5), .ref (ad 6), .ref (ad 7), .int (nI n)])), (ad 5, .inl (kA, 256, .inl fp)), (ad 6, .inl (kA, 256, .inl fk)), (ad 7, .inl (kA, 256, .inl fh)), (h, .inr (0, [.ref a, .int (nI c)])), (a, .inl (kA, 24, .inl f)), (h2, .inr (0, [.ref a2, .int (nI c2)])), (a2, .inl (kA, 24, .inl f2))] (some (.int (vz_b (!exB (zN n) (fun p => !decide (fk p = nI 2) && (zX_inL fp c f p != zX_inL fp c2 f2 p)))))) := by
  refine vz_start (cc := cX1_agree) (maxL := 5) (ret := (some .boolean)) (own := RX1) (by decide) rfl rfl (Nat.le_of_ble_eq_true rfl) ?_
  intro pz ez sz mz below meth cz args Q ls hargs hx hb hml hown hts hr hlocks hP hK hQ hl
  have hcf : CallFix pz mz cz cX1_agree 5 sz args wsX1_agree RX1 := ⟨hx, hb, hml, hown, hts⟩
  have hi0 : ∀ w ∈ u_ws RX1 TX1 8, w ∈ wsX1_agree := by decide +kernel
  have hf29 : (Cond.fieldLink RX1 29 "CubeMin" "kinds" "[I").before args sz = true := hts _ (by decide +kernel)
  have hl : lv_has ls 5 [(0, .ref (ad 0)), (1, .ref h), (2, .ref h2)] := hl
  have hN := zN_le hn
  refine lv_aload_n hx hb dX1_agree_0 rfl (lv_at hl 0 rfl) ?_
  refine vz_callV (n := 0) (As := []) (rest := []) (q0 := 0) hcf (c_X1_pointCount l D kA ad n fp fk fh hn) gX1_agree_X1_pointCount rfl hd_X1_pointCount ⟨Nat.le_of_ble_eq_true rfl, Nat.le_of_ble_eq_true rfl⟩ hK (hP.sub [0, 1, 2, 3] rfl) rfl rfl rfl rfl hl.1 rfl (Nat.le_of_ble_eq_true rfl) ⟨Nat.zero_le _, Nat.zero_le _⟩ dX1_agree_1 ?_
  refine lv_istore_n (lv' := [(3, .int (nI (zN n))), (0, .ref (ad 0)), (1, .ref h), (2, .ref h2)]) hx hb dX1_agree_4 rfl hl (by decide) rfl (fun ls hl => ?_)
  refine lv_iconst (v := nI 0) hx hb dX1_agree_5 (by decide) ?_
  refine lv_istore (lv' := [(4, .int (nI 0)), (3, .int (nI (zN n))), (0, .ref (ad 0)), (1, .ref h), (2, .ref h2)]) hx hb dX1_agree_6 hl (by decide) rfl (fun ls hl => ?_)
  have lp1 : ∀ (dz : Nat) (i : Nat) (ls : Array Slot), (zN n - i) < dz → (i ≤ zN n) → (∀ p, p < i → (!decide (fk p = nI 2) && (zX_inL fp c f p != zX_inL fp c2 f2 p)) = false) → lv_has ls 5 [(0, .ref (ad 0)), (1, .ref h), (2, .ref h2), (3, .int (nI (zN n))), (4, .int (nI i))] → W pz l ez (vz_R 2 45) sz mz args below meth cz sz.heap [] 0 0 Q (F0 mz 8 ls []) := by
    intro dz
    induction dz with
    | zero => intro i ls hd h1 h3 hl; exact absurd hd (Nat.not_lt_zero _)
    | succ dz ih1 =>
      intro i ls hd h1 h3 hl
      refine lv_iload hx hb dX1_agree_8 (lv_at hl 4 rfl) ?_
      refine lv_iload_n hx hb dX1_agree_10 rfl (lv_at hl 3 rfl) ?_
      refine vz_cge (tgt := 50) hx hb dX1_agree_11 (by decide) (by omega) (by omega) (fun c_11 => ?_) (fun c_11 => ?_)
      · skip
        refine lv_iconst (v := nI 1) hx hb dX1_agree_50 (by decide) ?_
        exact vz_iret hx hb hr hlocks hQ (rfl) dX1_agree_51 (by rw [exB_f (fun j hj => h3 j (by omega))]; rfl)
      · skip
        refine lv_aload_n hx hb dX1_agree_14 rfl (lv_at hl 0 rfl) ?_
        refine va_get (D := D) (ci := 1) (v := .ref (ad 6)) (C := RX1) (T := TX1) (N := 8) hx hb hts hi0 hown hK hP 0 rfl rfl 5 (by decide) hf29 (fun _ h9 => h9) rfl dX1_agree_15 ?_
        refine lv_iload hx hb dX1_agree_18 (lv_at hl 4 rfl) ?_
        refine vz_ald hx hb hK hP 2 rfl (by omega) (Nat.le_of_ble_eq_true rfl) dX1_agree_20 ?_
        refine lv_iconst (v := nI 2) hx hb dX1_agree_21 (by decide) ?_
        refine lv_icmp_eq (tgt := 44) hx hb dX1_agree_22 (by decide) (fun c_22 => ?_) (fun c_22 => ?_)
        · skip
          refine lv_iinc (v := (nI (i + 1))) (lv' := [(4, .int (nI (i + 1))), (0, .ref (ad 0)), (1, .ref h), (2, .ref h2), (3, .int (nI (zN n)))]) hx hb dX1_agree_44 hl (k := 4) rfl (nI_1 _) (by decide) rfl (fun ls hl => ?_)
          refine lv_goto (tgt := 8) hx hb dX1_agree_47 (by decide) ?_
          exact ih1 (i + 1) _ (by omega) (by omega) (lt_sB h3 (by first | (simp [c_22]; done) | (have c_40 := vz_b_eq.mp c_39; simp [c_40]))) (lv_sub hl [1, 2, 3, 4, 0] rfl)
        · skip
          refine lv_aload_n hx hb dX1_agree_25 rfl (lv_at hl 0 rfl) ?_
          refine lv_aload_n hx hb dX1_agree_26 rfl (lv_at hl 1 rfl) ?_
          refine lv_iload hx hb dX1_agree_27 (lv_at hl 4 rfl) ?_
          refine vz_callV (n := 2) (As := [.ref h, .int (nI i)]) (rest := []) (q0 := 0) hcf (c_X1_isInList l D kA ad n fp fk fh hn h a c f hc i (by omega)) gX1_agree_X1_isInList rfl hd_X1_isInList ⟨Nat.le_of_ble_eq_true rfl, Nat.le_of_ble_eq_true rfl⟩ hK (hP.sub [0, 1, 2, 3, 4, 5] rfl) rfl rfl rfl rfl hl.1 rfl (Nat.le_of_ble_eq_true rfl) ⟨Nat.zero_le _, Nat.zero_le _⟩ dX1_agree_29 ?_
          refine lv_aload_n hx hb dX1_agree_32 rfl (lv_at hl 0 rfl) ?_
          refine lv_aload_n hx hb dX1_agree_33 rfl (lv_at hl 2 rfl) ?_
          refine lv_iload hx hb dX1_agree_34 (lv_at hl 4 rfl) ?_
          refine vz_callV (n := 2) (As := [.ref h2, .int (nI i)]) (rest := [.int (vz_b (zX_inL fp c f i))]) (q0 := 0) hcf (c_X1_isInList l D kA ad n fp fk fh hn h2 a2 c2 f2 hc2 i (by omega)) gX1_agree_X1_isInList rfl hd_X1_isInList ⟨Nat.le_of_ble_eq_true rfl, Nat.le_of_ble_eq_true rfl⟩ hK (hP.sub [0, 1, 2, 3, 6, 7] rfl) rfl rfl rfl rfl hl.1 rfl (Nat.le_of_ble_eq_true rfl) ⟨Nat.zero_le _, Nat.zero_le _⟩ dX1_agree_36 ?_
          refine lv_icmp_eq (tgt := 44) hx hb dX1_agree_39 (by decide) (fun c_39 => ?_) (fun c_39 => ?_)
          · skip
            refine lv_iinc (v := (nI (i + 1))) (lv' := [(4, .int (nI (i + 1))), (0, .ref (ad 0)), (1, .ref h), (2, .ref h2), (3, .int (nI (zN n)))]) hx hb dX1_agree_44 hl (k := 4) rfl (nI_1 _) (by decide) rfl (fun ls hl => ?_)
            refine lv_goto (tgt := 8) hx hb dX1_agree_47 (by decide) ?_
            exact ih1 (i + 1) _ (by omega) (by omega) (lt_sB h3 (by first | (simp [c_22]; done) | (have c_40 := vz_b_eq.mp c_39; simp [c_40]))) (lv_sub hl [1, 2, 3, 4, 0] rfl)
          · skip
            refine lv_iconst (v := nI 0) hx hb dX1_agree_42 (by decide) ?_
            exact vz_iret hx hb hr hlocks hQ (rfl) dX1_agree_43 (by rw [exB_t (i := i) (by omega) (by have c_40 : ¬ zX_inL fp c f i = zX_inL fp c2 f2 i := fun q => c_39 (vz_b_eq.mpr q); simp [c_22, c_40])]; rfl)
  exact lp1 _ 0 _ (Nat.lt_succ_self _) (by omega) lt_0B (lv_sub hl [2, 3, 4, 1, 0] rfl)
set_option maxHeartbeats 4000000 in
set_option maxRecDepth 100000 in
theorem c_X1_touches (l : Launch) (D : va_G) (kA : ClassId) (ad : Nat → Nat) (n : Nat) (fp fk fh : Nat → Int32) (hn : n ≤ 8) (x : Int32) : vz_M l yX1_touches wsX1_touches 1 22 [.ref (ad 0), .int x] D kA [(ad 0, .inr (1, [.ref (ad 1), .ref (ad 2), .ref (ad 3), .ref (ad 4), .ref (ad 5), .ref (ad 6), .ref (ad 7), .int (nI n)])), (ad 5, .inl (kA, 256, .inl fp)), (ad 6, .inl (kA, 256, .inl fk)), (ad 7, .inl (kA, 256, .inl fh))] (some (.int (vz_b (ztch n fk (zX_in fp) x)))) := by
  refine vz_start (cc := cX1_touches) (maxL := 4) (ret := (some .boolean)) (own := RX1) (by decide) rfl rfl (Nat.le_of_ble_eq_true rfl) ?_
  intro pz ez sz mz below meth cz args Q ls hargs hx hb hml hown hts hr hlocks hP hK hQ hl
  have hcf : CallFix pz mz cz cX1_touches 4 sz args wsX1_touches RX1 := ⟨hx, hb, hml, hown, hts⟩
  have hi0 : ∀ w ∈ u_ws RX1 TX1 8, w ∈ wsX1_touches := by decide +kernel
  have hf29 : (Cond.fieldLink RX1 29 "CubeMin" "kinds" "[I").before args sz = true := hts _ (by decide +kernel)
  have hl : lv_has ls 4 [(0, .ref (ad 0)), (1, .int x)] := hl
  have hN := zN_le hn
  refine lv_aload_n hx hb dX1_touches_0 rfl (lv_at hl 0 rfl) ?_
  refine vz_callV (n := 0) (As := []) (rest := []) (q0 := 0) hcf (c_X1_pointCount l D kA ad n fp fk fh hn) gX1_touches_X1_pointCount rfl hd_X1_pointCount ⟨Nat.le_of_ble_eq_true rfl, Nat.le_of_ble_eq_true rfl⟩ hK (hP.sub [0, 1, 2, 3] rfl) rfl rfl rfl rfl hl.1 rfl (Nat.le_of_ble_eq_true rfl) ⟨Nat.zero_le _, Nat.zero_le _⟩ dX1_touches_1 ?_
  refine lv_istore_n (lv' := [(2, .int (nI (zN n))), (0, .ref (ad 0)), (1, .int x)]) hx hb dX1_touches_4 rfl hl (by decide) rfl (fun ls hl => ?_)
  refine lv_iconst (v := nI 0) hx hb dX1_touches_5 (by decide) ?_
  refine lv_istore_n (lv' := [(3, .int (nI 0)), (2, .int (nI (zN n))), (0, .ref (ad 0)), (1, .int x)]) hx hb dX1_touches_6 rfl hl (by decide) rfl (fun ls hl => ?_)
  have lp1 : ∀ (dz : Nat) (i : Nat) (ls : Array Slot), (zN n - i) < dz → (i ≤ zN n) → (∀ p, p < i → (decide (fk p = 0) && zX_in fp x p) = false) → lv_has ls 4 [(0, .ref (ad 0)), (1, .int x), (2, .int (nI (zN n))), (3, .int (nI i))] → W pz l ez (vz_R 1 22) sz mz args below meth cz sz.heap [] 0 0 Q (F0 mz 7 ls []) := by
    intro dz
    induction dz with
    | zero => intro i ls hd h1 h2 hl; exact absurd hd (Nat.not_lt_zero _)
    | succ dz ih1 =>
      intro i ls hd h1 h2 hl
      refine lv_iload_n hx hb dX1_touches_7 rfl (lv_at hl 3 rfl) ?_
      refine lv_iload_n hx hb dX1_touches_8 rfl (lv_at hl 2 rfl) ?_
      refine vz_cge (tgt := 38) hx hb dX1_touches_9 (by decide) (by omega) (by omega) (fun c_9 => ?_) (fun c_9 => ?_)
      · skip
        refine lv_iconst (v := nI 0) hx hb dX1_touches_38 (by decide) ?_
        exact vz_iret hx hb hr hlocks hQ (rfl) dX1_touches_39 ((congrArg vz_b (exB_f (fun j hj => h2 j (by omega)))).symm)
      · skip
        refine lv_aload_n hx hb dX1_touches_12 rfl (lv_at hl 0 rfl) ?_
        refine va_get (D := D) (ci := 1) (v := .ref (ad 6)) (C := RX1) (T := TX1) (N := 8) hx hb hts hi0 hown hK hP 0 rfl rfl 5 (by decide) hf29 (fun _ h9 => h9) rfl dX1_touches_13 ?_
        refine lv_iload_n hx hb dX1_touches_16 rfl (lv_at hl 3 rfl) ?_
        refine vz_ald hx hb hK hP 2 rfl (by omega) (Nat.le_of_ble_eq_true rfl) dX1_touches_17 ?_
        refine lv_if_ne (tgt := 32) hx hb dX1_touches_18 (by decide) (fun c_18 => ?_) (fun c_18 => ?_)
        · skip
          refine lv_iinc (v := (nI (i + 1))) (lv' := [(3, .int (nI (i + 1))), (0, .ref (ad 0)), (1, .int x), (2, .int (nI (zN n)))]) hx hb dX1_touches_32 hl (k := 3) rfl (nI_1 _) (by decide) rfl (fun ls hl => ?_)
          refine lv_goto (tgt := 7) hx hb dX1_touches_35 (by decide) ?_
          exact ih1 (i + 1) _ (by omega) (by omega) (lt_sB h2 (by first | (simp [c_18]; done) | (simp [c_27]; done))) (lv_sub hl [1, 2, 3, 0] rfl)
        · skip
          refine lv_aload_n hx hb dX1_touches_21 rfl (lv_at hl 0 rfl) ?_
          refine lv_iload_n hx hb dX1_touches_22 rfl (lv_at hl 1 rfl) ?_
          refine lv_iload_n hx hb dX1_touches_23 rfl (lv_at hl 3 rfl) ?_
          refine vz_callV (n := 2) (As := [.int x, .int (nI i)]) (rest := []) (q0 := 0) hcf (c_X1_isInCube l D kA ad n fp fk fh hn x i (by omega)) gX1_touches_X1_isInCube rfl hd_X1_isInCube ⟨Nat.le_of_ble_eq_true rfl, Nat.le_of_ble_eq_true rfl⟩ hK (hP.sub [0, 1, 2, 3] rfl) rfl rfl rfl rfl hl.1 rfl (Nat.le_of_ble_eq_true rfl) ⟨Nat.zero_le _, Nat.zero_le _⟩ dX1_touches_24 ?_
          refine vz_ifeqB (tgt := 32) hx hb dX1_touches_27 (by decide) (fun c_27 => ?_) (fun c_27 => ?_)
          · skip
            refine lv_iinc (v := (nI (i + 1))) (lv' := [(3, .int (nI (i + 1))), (0, .ref (ad 0)), (1, .int x), (2, .int (nI (zN n)))]) hx hb dX1_touches_32 hl (k := 3) rfl (nI_1 _) (by decide) rfl (fun ls hl => ?_)
            refine lv_goto (tgt := 7) hx hb dX1_touches_35 (by decide) ?_
            exact ih1 (i + 1) _ (by omega) (by omega) (lt_sB h2 (by first | (simp [c_18]; done) | (simp [c_27]; done))) (lv_sub hl [1, 2, 3, 0] rfl)
          · skip
            refine lv_iconst (v := nI 1) hx hb dX1_touches_30 (by decide) ?_
            exact vz_iret hx hb hr hlocks hQ (rfl) dX1_touches_31 ((congrArg vz_b (exB_t (i := i) (by omega) (by simp [c_18, c_27]))).symm)
  exact lp1 _ 0 _ (Nat.lt_succ_self _) (by omega) lt_0B (lv_sub hl [2, 3, 1, 0] rfl)
set_option maxHeartbeats 4000000 in
set_option maxRecDepth 100000 in
theorem c_X1_cannotGrow (l : Launch) (D : va_G) (kA : ClassId) (ad : Nat → Nat) (n : Nat) (fp fk fh : Nat → Int32) (hn : n ≤ 8) (x : Int32) : vz_M l yX1_cannotGrow wsX1_cannotGrow 2 45 [.ref (ad 0), .int x] D kA [(ad 0, .inr (1, [.ref (ad 1), .ref (ad 2), .ref (ad 3), .ref (ad 4), .ref (ad 5), .ref (ad 6), .ref (ad 7), .int (nI n)])), (ad 5, .inl (kA, 256, .inl fp)), (ad 6, .inl (kA, 256, .inl fk)), (ad 7, .inl (kA, 256, .inl fh))] (some (.int (vz_b (!zcg n (ztch n fk (zX_in fp)) x)))) := by
  refine vz_start (cc := cX1_cannotGrow) (maxL := 4) (ret := (some .boolean)) (own := RX1) (by decide) rfl rfl (Nat.le_of_ble_eq_true rfl) ?_
  intro pz ez sz mz below meth cz args Q ls hargs hx hb hml hown hts hr hlocks hP hK hQ hl
  have hcf : CallFix pz mz cz cX1_cannotGrow 4 sz args wsX1_cannotGrow RX1 := ⟨hx, hb, hml, hown, hts⟩
  have hi0 : ∀ w ∈ u_ws RX1 TX1 8, w ∈ wsX1_cannotGrow := by decide +kernel
  have hf39 : (Cond.fieldLink RX1 39 "CubeMin" "inputCount" "I").before args sz = true := hts _ (by decide +kernel)
  have hl : lv_has ls 4 [(0, .ref (ad 0)), (1, .int x)] := hl
  refine lv_iconst (v := nI 0) hx hb dX1_cannotGrow_0 (by decide) ?_
  refine lv_istore_n (lv' := [(2, .int (nI 0)), (0, .ref (ad 0)), (1, .int x)]) hx hb dX1_cannotGrow_1 rfl hl (by decide) rfl (fun ls hl => ?_)
  have lp1 : ∀ (dz : Nat) (i : Nat) (ls : Array Slot), (n - i) < dz → (i ≤ n) → (∀ j, j < i → (!decide (zfr x j = x) && !ztch n fk (zX_in fp) (zfr x j)) = false) → lv_has ls 4 [(0, .ref (ad 0)), (1, .int x), (2, .int (nI i))] → W pz l ez (vz_R 2 45) sz mz args below meth cz sz.heap [] 0 0 Q (F0 mz 2 ls []) := by
    intro dz
    induction dz with
    | zero => intro i ls hd h1 h2 hl; exact absurd hd (Nat.not_lt_zero _)
    | succ dz ih1 =>
      intro i ls hd h1 h2 hl
      refine lv_iload_n hx hb dX1_cannotGrow_2 rfl (lv_at hl 2 rfl) ?_
      refine lv_aload_n hx hb dX1_cannotGrow_3 rfl (lv_at hl 0 rfl) ?_
      refine va_get (D := D) (ci := 1) (v := .int (nI n)) (C := RX1) (T := TX1) (N := 8) hx hb hts hi0 hown hK hP 0 rfl rfl 7 (by decide) hf39 (fun _ h9 => h9) rfl dX1_cannotGrow_4 ?_
      refine vz_cge (tgt := 37) hx hb dX1_cannotGrow_7 (by decide) (by omega) (by omega) (fun c_7 => ?_) (fun c_7 => ?_)
      · skip
        refine lv_iconst (v := nI 1) hx hb dX1_cannotGrow_37 (by decide) ?_
        exact vz_iret hx hb hr hlocks hQ (rfl) dX1_cannotGrow_38 (by rw [zcg, exB_f (fun j hj => h2 j (by omega))]; rfl)
      · skip
        refine lv_iload_n hx hb dX1_cannotGrow_10 rfl (lv_at hl 1 rfl) ?_
        refine lv_iload_n hx hb dX1_cannotGrow_11 rfl (lv_at hl 2 rfl) ?_
        refine vz_callS (n := 2) (As := [.int x, .int (nI i)]) (rest := []) hcf (c_X1_freed l D kA x i) gX1_cannotGrow_X1_freed rfl hd_X1_freed ⟨Nat.le_of_ble_eq_true rfl, Nat.le_of_ble_eq_true rfl⟩ hK (hP.sub [] rfl) rfl hl.1 rfl (Nat.le_of_ble_eq_true rfl) ⟨Nat.zero_le _, Nat.zero_le _⟩ dX1_cannotGrow_12 ?_
        refine lv_istore_n (lv' := [(3, .int (zfr x i)), (0, .ref (ad 0)), (1, .int x), (2, .int (nI i))]) hx hb dX1_cannotGrow_15 rfl hl (by decide) rfl (fun ls hl => ?_)
        refine lv_iload_n hx hb dX1_cannotGrow_16 rfl (lv_at hl 0 rfl) ?_
        refine lv_iload_n hx hb dX1_cannotGrow_17 rfl (lv_at hl 2 rfl) ?_
        refine lv_icmp_eq (tgt := 31) hx hb dX1_cannotGrow_18 (by decide) (fun c_18 => ?_) (fun c_18 => ?_)
        · skip
          refine lv_iinc (v := (nI (i + 1))) (lv' := [(2, .int (nI (i + 1))), (3, .int (zfr x i)), (0, .ref (ad 0)), (1, .int x)]) hx hb dX1_cannotGrow_31 hl (k := 3) rfl (nI_1 _) (by decide) rfl (fun ls hl => ?_)
          refine lv_goto (tgt := 2) hx hb dX1_cannotGrow_34 (by decide) ?_
          exact ih1 (i + 1) _ (by omega) (by omega) (lt_sB h2 (by first | (simp [c_18]; done) | (simp [c_26]; done))) (lv_sub hl [2, 3, 0] rfl)
        · skip
          refine lv_aload_n hx hb dX1_cannotGrow_21 rfl (lv_at hl 1 rfl) ?_
          refine lv_iload_n hx hb dX1_cannotGrow_22 rfl (lv_at hl 0 rfl) ?_
          refine vz_callV (n := 1) (As := [.int (zfr x i)]) (rest := []) (q0 := 0) hcf (c_X1_touches l D kA ad n fp fk fh hn (zfr x i)) gX1_cannotGrow_X1_touches rfl hd_X1_touches ⟨Nat.le_of_ble_eq_true rfl, Nat.le_of_ble_eq_true rfl⟩ hK (hP.sub [0, 1, 2, 3] rfl) rfl rfl rfl rfl hl.1 rfl (Nat.le_of_ble_eq_true rfl) ⟨Nat.zero_le _, Nat.zero_le _⟩ dX1_cannotGrow_23 ?_
          refine vz_ifneB (tgt := 31) hx hb dX1_cannotGrow_26 (by decide) (fun c_26 => ?_) (fun c_26 => ?_)
          · skip
            refine lv_iinc (v := (nI (i + 1))) (lv' := [(2, .int (nI (i + 1))), (3, .int (zfr x i)), (0, .ref (ad 0)), (1, .int x)]) hx hb dX1_cannotGrow_31 hl (k := 3) rfl (nI_1 _) (by decide) rfl (fun ls hl => ?_)
            refine lv_goto (tgt := 2) hx hb dX1_cannotGrow_34 (by decide) ?_
            exact ih1 (i + 1) _ (by omega) (by omega) (lt_sB h2 (by first | (simp [c_18]; done) | (simp [c_26]; done))) (lv_sub hl [2, 3, 0] rfl)
          · skip
            refine lv_iconst (v := nI 0) hx hb dX1_cannotGrow_29 (by decide) ?_
            exact vz_iret hx hb hr hlocks hQ (rfl) dX1_cannotGrow_30 (by rw [zcg, exB_t (i := i) (by omega) (by simp [c_18, c_26])]; rfl)
  exact lp1 _ 0 _ (Nat.lt_succ_self _) (by omega) lt_0B (lv_sub hl [1, 2, 0] rfl)
set_option maxHeartbeats 4000000 in
set_option maxRecDepth 100000 in
theorem c_X1_widened (l : Launch) (D : va_G) (kA : ClassId) (ad : Nat → Nat) (n : Nat) (fp fk fh : Nat → Int32) (hn : n ≤ 8) (x : Int32) (asc : Bool) : vz_M l yX1_widened wsX1_widened 2 45 [.ref (ad 0), .int x, .int (vz_b asc)] D kA [(ad 0, .inr (1, [.ref (ad 1), .ref (ad 2), .ref (ad 3), .ref (ad 4), .ref (ad 5), .ref (ad 6), .ref (ad 7), .int (nI n)])), (ad 5, .inl (kA, 256, .inl fp)), (ad 6, .inl (kA, 256, .inl fk)), (ad 7, .inl (kA, 256, .inl fh))] (some (.int (zwd n (ztch n fk (zX_in fp)) asc n x))) := by
  refine vz_start (cc := cX1_widened) (maxL := 7) (ret := (some .int)) (own := RX1) (by decide) rfl rfl (Nat.le_of_ble_eq_true rfl) ?_
  intro pz ez sz mz below meth cz args Q ls hargs hx hb hml hown hts hr hlocks hP hK hQ hl
  have hcf : CallFix pz mz cz cX1_widened 7 sz args wsX1_widened RX1 := ⟨hx, hb, hml, hown, hts⟩
  have hi0 : ∀ w ∈ u_ws RX1 TX1 8, w ∈ wsX1_widened := by decide +kernel
  have hf39 : (Cond.fieldLink RX1 39 "CubeMin" "inputCount" "I").before args sz = true := hts _ (by decide +kernel)
  have hl : lv_has ls 7 [(0, .ref (ad 0)), (1, .int x), (2, .int (vz_b asc))] := hl
  refine lv_iload_n hx hb dX1_widened_0 rfl (lv_at hl 1 rfl) ?_
  refine lv_istore_n (lv' := [(3, .int x), (0, .ref (ad 0)), (1, .int x), (2, .int (vz_b asc))]) hx hb dX1_widened_1 rfl hl (by decide) rfl (fun ls hl => ?_)
  refine lv_iconst (v := nI 0) hx hb dX1_widened_2 (by decide) ?_
  refine lv_istore (lv' := [(4, .int (nI 0)), (3, .int x), (0, .ref (ad 0)), (1, .int x), (2, .int (vz_b asc))]) hx hb dX1_widened_3 hl (by decide) rfl (fun ls hl => ?_)
  have lp1 : ∀ (dz : Nat) (i : Nat) (y : Int32) (ls : Array Slot), (n - i) < dz → (i ≤ n) → (y = zwd n (ztch n fk (zX_in fp)) asc i x) → lv_has ls 7 [(0, .ref (ad 0)), (1, .int x), (2, .int (vz_b asc)), (3, .int y), (4, .int (nI i))] → W pz l ez (vz_R 2 45) sz mz args below meth cz sz.heap [] 0 0 Q (F0 mz 5 ls []) := by
    intro dz
    induction dz with
    | zero => intro i y ls hd h1 h2 hl; exact absurd hd (Nat.not_lt_zero _)
    | succ dz ih1 =>
      intro i y ls hd h1 h2 hl
      refine lv_iload hx hb dX1_widened_5 (lv_at hl 4 rfl) ?_
      refine lv_aload_n hx hb dX1_widened_7 rfl (lv_at hl 0 rfl) ?_
      refine va_get (D := D) (ci := 1) (v := .int (nI n)) (C := RX1) (T := TX1) (N := 8) hx hb hts hi0 hown hK hP 0 rfl rfl 7 (by decide) hf39 (fun _ h9 => h9) rfl dX1_widened_8 ?_
      refine vz_cge (tgt := 66) hx hb dX1_widened_11 (by decide) (by omega) (by omega) (fun c_11 => ?_) (fun c_11 => ?_)
      · skip
        obtain rfl : n = i := by omega
        refine lv_iload_n hx hb dX1_widened_66 rfl (lv_at hl 3 rfl) ?_
        exact vz_iret hx hb hr hlocks hQ (vp_nar_int _) dX1_widened_67 h2
      · skip
        refine lv_iload_n hx hb dX1_widened_14 rfl (lv_at hl 2 rfl) ?_
        refine vz_ifeqB (tgt := 23) hx hb dX1_widened_15 (by decide) (fun c_15 => ?_) (fun c_15 => ?_)
        · skip
          refine lv_aload_n hx hb dX1_widened_23 rfl (lv_at hl 0 rfl) ?_
          refine va_get (D := D) (ci := 1) (v := .int (nI n)) (C := RX1) (T := TX1) (N := 8) hx hb hts hi0 hown hK hP 0 rfl rfl 7 (by decide) hf39 (fun _ h9 => h9) rfl dX1_widened_24 ?_
          refine lv_iconst (v := nI 1) hx hb dX1_widened_27 (by decide) ?_
          refine vz_sub hx hb dX1_widened_28 (by omega) ?_
          refine lv_iload hx hb dX1_widened_29 (lv_at hl 4 rfl) ?_
          refine vz_sub hx hb dX1_widened_31 (by omega) ?_
          refine lv_istore (lv' := [(5, .int (nI ((n - 1) - i))), (0, .ref (ad 0)), (1, .int x), (2, .int (vz_b asc)), (3, .int y), (4, .int (nI i))]) hx hb dX1_widened_32 hl (by decide) rfl (fun ls hl => ?_)
          refine lv_iload_n hx hb dX1_widened_34 rfl (lv_at hl 4 rfl) ?_
          refine lv_iload hx hb dX1_widened_35 (lv_at hl 0 rfl) ?_
          refine vz_callS (n := 2) (As := [.int y, .int (nI ((n - 1) - i))]) (rest := []) hcf (c_X1_freed l D kA y ((n - 1) - i)) gX1_widened_X1_freed rfl hd_X1_freed ⟨Nat.le_of_ble_eq_true rfl, Nat.le_of_ble_eq_true rfl⟩ hK (hP.sub [] rfl) rfl hl.1 rfl (Nat.le_of_ble_eq_true rfl) ⟨Nat.zero_le _, Nat.zero_le _⟩ dX1_widened_37 ?_
          refine lv_istore (lv' := [(6, .int (zfr y ((n - 1) - i))), (5, .int (nI ((n - 1) - i))), (0, .ref (ad 0)), (1, .int x), (2, .int (vz_b asc)), (3, .int y), (4, .int (nI i))]) hx hb dX1_widened_40 hl (by decide) rfl (fun ls hl => ?_)
          refine lv_iload hx hb dX1_widened_42 (lv_at hl 0 rfl) ?_
          refine lv_iload_n hx hb dX1_widened_44 rfl (lv_at hl 5 rfl) ?_
          refine lv_icmp_eq (tgt := 60) hx hb dX1_widened_45 (by decide) (fun c_45 => ?_) (fun c_45 => ?_)
          · skip
            refine lv_iinc (v := (nI (i + 1))) (lv' := [(4, .int (nI (i + 1))), (6, .int (zfr y ((n - 1) - i))), (5, .int (nI ((n - 1) - i))), (0, .ref (ad 0)), (1, .int x), (2, .int (vz_b asc)), (3, .int y)]) hx hb dX1_widened_60 hl (k := 6) rfl (nI_1 _) (by decide) rfl (fun ls hl => ?_)
            refine lv_goto (tgt := 5) hx hb dX1_widened_63 (by decide) ?_
            exact ih1 (i + 1) y _ (by omega) (by omega) (by subst h2; rw [zwd, show zord n asc i = ((n - 1) - i) by simp [zord, c_15], if_neg (by first | (simp [c_45]; done) | (simp [c_54]; done))]) (lv_sub hl [3, 4, 5, 6, 0] rfl)
          · skip
            refine lv_aload_n hx hb dX1_widened_48 rfl (lv_at hl 2 rfl) ?_
            refine lv_iload hx hb dX1_widened_49 (lv_at hl 0 rfl) ?_
            refine vz_callV (n := 1) (As := [.int (zfr y ((n - 1) - i))]) (rest := []) (q0 := 0) hcf (c_X1_touches l D kA ad n fp fk fh hn (zfr y ((n - 1) - i))) gX1_widened_X1_touches rfl hd_X1_touches ⟨Nat.le_of_ble_eq_true rfl, Nat.le_of_ble_eq_true rfl⟩ hK (hP.sub [0, 1, 2, 3] rfl) rfl rfl rfl rfl hl.1 rfl (Nat.le_of_ble_eq_true rfl) ⟨Nat.zero_le _, Nat.zero_le _⟩ dX1_widened_51 ?_
            refine vz_ifneB (tgt := 60) hx hb dX1_widened_54 (by decide) (fun c_54 => ?_) (fun c_54 => ?_)
            · skip
              refine lv_iinc (v := (nI (i + 1))) (lv' := [(4, .int (nI (i + 1))), (6, .int (zfr y ((n - 1) - i))), (5, .int (nI ((n - 1) - i))), (0, .ref (ad 0)), (1, .int x), (2, .int (vz_b asc)), (3, .int y)]) hx hb dX1_widened_60 hl (k := 6) rfl (nI_1 _) (by decide) rfl (fun ls hl => ?_)
              refine lv_goto (tgt := 5) hx hb dX1_widened_63 (by decide) ?_
              exact ih1 (i + 1) y _ (by omega) (by omega) (by subst h2; rw [zwd, show zord n asc i = ((n - 1) - i) by simp [zord, c_15], if_neg (by first | (simp [c_45]; done) | (simp [c_54]; done))]) (lv_sub hl [3, 4, 5, 6, 0] rfl)
            · skip
              refine lv_iload hx hb dX1_widened_57 (lv_at hl 0 rfl) ?_
              refine lv_istore_n (lv' := [(3, .int (zfr y ((n - 1) - i))), (6, .int (zfr y ((n - 1) - i))), (5, .int (nI ((n - 1) - i))), (0, .ref (ad 0)), (1, .int x), (2, .int (vz_b asc)), (4, .int (nI i))]) hx hb dX1_widened_59 rfl hl (by decide) rfl (fun ls hl => ?_)
              refine lv_iinc (v := (nI (i + 1))) (lv' := [(4, .int (nI (i + 1))), (3, .int (zfr y ((n - 1) - i))), (6, .int (zfr y ((n - 1) - i))), (5, .int (nI ((n - 1) - i))), (0, .ref (ad 0)), (1, .int x), (2, .int (vz_b asc))]) hx hb dX1_widened_60 hl (k := 6) rfl (nI_1 _) (by decide) rfl (fun ls hl => ?_)
              refine lv_goto (tgt := 5) hx hb dX1_widened_63 (by decide) ?_
              exact ih1 (i + 1) (zfr y ((n - 1) - i)) _ (by omega) (by omega) (by subst h2; rw [zwd, show zord n asc i = ((n - 1) - i) by simp [zord, c_15], if_pos (by simp [c_45, c_54])]) (lv_sub hl [4, 5, 6, 1, 0] rfl)
        · skip
          refine lv_iload hx hb dX1_widened_18 (lv_at hl 4 rfl) ?_
          refine lv_goto (tgt := 32) hx hb dX1_widened_20 (by decide) ?_
          refine lv_istore (lv' := [(5, .int (nI i)), (0, .ref (ad 0)), (1, .int x), (2, .int (vz_b asc)), (3, .int y), (4, .int (nI i))]) hx hb dX1_widened_32 hl (by decide) rfl (fun ls hl => ?_)
          refine lv_iload_n hx hb dX1_widened_34 rfl (lv_at hl 4 rfl) ?_
          refine lv_iload hx hb dX1_widened_35 (lv_at hl 0 rfl) ?_
          refine vz_callS (n := 2) (As := [.int y, .int (nI i)]) (rest := []) hcf (c_X1_freed l D kA y i) gX1_widened_X1_freed rfl hd_X1_freed ⟨Nat.le_of_ble_eq_true rfl, Nat.le_of_ble_eq_true rfl⟩ hK (hP.sub [] rfl) rfl hl.1 rfl (Nat.le_of_ble_eq_true rfl) ⟨Nat.zero_le _, Nat.zero_le _⟩ dX1_widened_37 ?_
          refine lv_istore (lv' := [(6, .int (zfr y i)), (5, .int (nI i)), (0, .ref (ad 0)), (1, .int x), (2, .int (vz_b asc)), (3, .int y), (4, .int (nI i))]) hx hb dX1_widened_40 hl (by decide) rfl (fun ls hl => ?_)
          refine lv_iload hx hb dX1_widened_42 (lv_at hl 0 rfl) ?_
          refine lv_iload_n hx hb dX1_widened_44 rfl (lv_at hl 5 rfl) ?_
          refine lv_icmp_eq (tgt := 60) hx hb dX1_widened_45 (by decide) (fun c_45 => ?_) (fun c_45 => ?_)
          · skip
            refine lv_iinc (v := (nI (i + 1))) (lv' := [(4, .int (nI (i + 1))), (6, .int (zfr y i)), (5, .int (nI i)), (0, .ref (ad 0)), (1, .int x), (2, .int (vz_b asc)), (3, .int y)]) hx hb dX1_widened_60 hl (k := 6) rfl (nI_1 _) (by decide) rfl (fun ls hl => ?_)
            refine lv_goto (tgt := 5) hx hb dX1_widened_63 (by decide) ?_
            exact ih1 (i + 1) y _ (by omega) (by omega) (by subst h2; rw [zwd, show zord n asc i = i by simp [zord, c_15], if_neg (by first | (simp [c_45]; done) | (simp [c_54]; done))]) (lv_sub hl [3, 4, 5, 6, 0] rfl)
          · skip
            refine lv_aload_n hx hb dX1_widened_48 rfl (lv_at hl 2 rfl) ?_
            refine lv_iload hx hb dX1_widened_49 (lv_at hl 0 rfl) ?_
            refine vz_callV (n := 1) (As := [.int (zfr y i)]) (rest := []) (q0 := 0) hcf (c_X1_touches l D kA ad n fp fk fh hn (zfr y i)) gX1_widened_X1_touches rfl hd_X1_touches ⟨Nat.le_of_ble_eq_true rfl, Nat.le_of_ble_eq_true rfl⟩ hK (hP.sub [0, 1, 2, 3] rfl) rfl rfl rfl rfl hl.1 rfl (Nat.le_of_ble_eq_true rfl) ⟨Nat.zero_le _, Nat.zero_le _⟩ dX1_widened_51 ?_
            refine vz_ifneB (tgt := 60) hx hb dX1_widened_54 (by decide) (fun c_54 => ?_) (fun c_54 => ?_)
            · skip
              refine lv_iinc (v := (nI (i + 1))) (lv' := [(4, .int (nI (i + 1))), (6, .int (zfr y i)), (5, .int (nI i)), (0, .ref (ad 0)), (1, .int x), (2, .int (vz_b asc)), (3, .int y)]) hx hb dX1_widened_60 hl (k := 6) rfl (nI_1 _) (by decide) rfl (fun ls hl => ?_)
              refine lv_goto (tgt := 5) hx hb dX1_widened_63 (by decide) ?_
              exact ih1 (i + 1) y _ (by omega) (by omega) (by subst h2; rw [zwd, show zord n asc i = i by simp [zord, c_15], if_neg (by first | (simp [c_45]; done) | (simp [c_54]; done))]) (lv_sub hl [3, 4, 5, 6, 0] rfl)
            · skip
              refine lv_iload hx hb dX1_widened_57 (lv_at hl 0 rfl) ?_
              refine lv_istore_n (lv' := [(3, .int (zfr y i)), (6, .int (zfr y i)), (5, .int (nI i)), (0, .ref (ad 0)), (1, .int x), (2, .int (vz_b asc)), (4, .int (nI i))]) hx hb dX1_widened_59 rfl hl (by decide) rfl (fun ls hl => ?_)
              refine lv_iinc (v := (nI (i + 1))) (lv' := [(4, .int (nI (i + 1))), (3, .int (zfr y i)), (6, .int (zfr y i)), (5, .int (nI i)), (0, .ref (ad 0)), (1, .int x), (2, .int (vz_b asc))]) hx hb dX1_widened_60 hl (k := 6) rfl (nI_1 _) (by decide) rfl (fun ls hl => ?_)
              refine lv_goto (tgt := 5) hx hb dX1_widened_63 (by decide) ?_
              exact ih1 (i + 1) (zfr y i) _ (by omega) (by omega) (by subst h2; rw [zwd, show zord n asc i = i by simp [zord, c_15], if_pos (by simp [c_45, c_54])]) (lv_sub hl [4, 5, 6, 1, 0] rfl)
  exact lp1 _ 0 x _ (Nat.lt_succ_self _) (by omega) rfl (lv_sub hl [2, 3, 4, 1, 0] rfl)
set_option maxHeartbeats 4000000 in
set_option maxRecDepth 100000 in
theorem c_X1_ownPart (l : Launch) (D : va_G) (kA : ClassId) (ad : Nat → Nat) (n : Nat) (fp fk fh : Nat → Int32) (hn : n ≤ 8) (x : Int32) : vz_M l yX1_ownPart wsX1_ownPart 1 22 [.ref (ad 0), .int x] D kA [(ad 0, .inr (1, [.ref (ad 1), .ref (ad 2), .ref (ad 3), .ref (ad 4), .ref (ad 5), .ref (ad 6), .ref (ad 7), .int (nI n)])), (ad 5, .inl (kA, 256, .inl fp)), (ad 6, .inl (kA, 256, .inl fk)), (ad 7, .inl (kA, 256, .inl fh))] (some (.int (zown n fp fk fh x))) := by
  refine vz_start (cc := cX1_ownPart) (maxL := 5) (ret := (some .int)) (own := RX1) (by decide) rfl rfl (Nat.le_of_ble_eq_true rfl) ?_
  intro pz ez sz mz below meth cz args Q ls hargs hx hb hml hown hts hr hlocks hP hK hQ hl
  have hcf : CallFix pz mz cz cX1_ownPart 5 sz args wsX1_ownPart RX1 := ⟨hx, hb, hml, hown, hts⟩
  have hi0 : ∀ w ∈ u_ws RX1 TX1 8, w ∈ wsX1_ownPart := by decide +kernel
  have hf25 : (Cond.fieldLink RX1 25 "CubeMin" "pointCubes" "[I").before args sz = true := hts _ (by decide +kernel)
  have hf29 : (Cond.fieldLink RX1 29 "CubeMin" "kinds" "[I").before args sz = true := hts _ (by decide +kernel)
  have hf32 : (Cond.fieldLink RX1 32 "CubeMin" "holders" "[I").before args sz = true := hts _ (by decide +kernel)
  have hl : lv_has ls 5 [(0, .ref (ad 0)), (1, .int x)] := hl
  have hN := zN_le hn
  refine lv_aload_n hx hb dX1_ownPart_0 rfl (lv_at hl 0 rfl) ?_
  refine vz_callV (n := 0) (As := []) (rest := []) (q0 := 0) hcf (c_X1_pointCount l D kA ad n fp fk fh hn) gX1_ownPart_X1_pointCount rfl hd_X1_pointCount ⟨Nat.le_of_ble_eq_true rfl, Nat.le_of_ble_eq_true rfl⟩ hK (hP.sub [0, 1, 2, 3] rfl) rfl rfl rfl rfl hl.1 rfl (Nat.le_of_ble_eq_true rfl) ⟨Nat.zero_le _, Nat.zero_le _⟩ dX1_ownPart_1 ?_
  refine lv_istore_n (lv' := [(2, .int (nI (zN n))), (0, .ref (ad 0)), (1, .int x)]) hx hb dX1_ownPart_4 rfl hl (by decide) rfl (fun ls hl => ?_)
  refine lv_iconst (v := nI 0) hx hb dX1_ownPart_5 (by decide) ?_
  refine lv_istore_n (lv' := [(3, .int (nI 0)), (2, .int (nI (zN n))), (0, .ref (ad 0)), (1, .int x)]) hx hb dX1_ownPart_6 rfl hl (by decide) rfl (fun ls hl => ?_)
  refine lv_iconst (v := nI 0) hx hb dX1_ownPart_7 (by decide) ?_
  refine lv_istore (lv' := [(4, .int (nI 0)), (3, .int (nI 0)), (2, .int (nI (zN n))), (0, .ref (ad 0)), (1, .int x)]) hx hb dX1_ownPart_8 hl (by decide) rfl (fun ls hl => ?_)
  have lp1 : ∀ (dz : Nat) (t : Int32) (i : Nat) (ls : Array Slot), (zN n - i) < dz → (i ≤ zN n) → (t = orI i (fun p => decide (fk p = nI 1) && (decide (fh p = nI 1) && zX_in fp x p)) fp) → lv_has ls 5 [(0, .ref (ad 0)), (1, .int x), (2, .int (nI (zN n))), (3, .int t), (4, .int (nI i))] → W pz l ez (vz_R 1 22) sz mz args below meth cz sz.heap [] 0 0 Q (F0 mz 10 ls []) := by
    intro dz
    induction dz with
    | zero => intro t i ls hd h1 h2 hl; exact absurd hd (Nat.not_lt_zero _)
    | succ dz ih1 =>
      intro t i ls hd h1 h2 hl
      refine lv_iload hx hb dX1_ownPart_10 (lv_at hl 4 rfl) ?_
      refine lv_iload_n hx hb dX1_ownPart_12 rfl (lv_at hl 2 rfl) ?_
      refine vz_cge (tgt := 64) hx hb dX1_ownPart_13 (by decide) (by omega) (by omega) (fun c_13 => ?_) (fun c_13 => ?_)
      · skip
        obtain rfl : i = zN n := by omega
        refine lv_iload_n hx hb dX1_ownPart_64 rfl (lv_at hl 3 rfl) ?_
        exact vz_iret hx hb hr hlocks hQ (vp_nar_int _) dX1_ownPart_65 h2
      · skip
        refine lv_aload_n hx hb dX1_ownPart_16 rfl (lv_at hl 0 rfl) ?_
        refine va_get (D := D) (ci := 1) (v := .ref (ad 6)) (C := RX1) (T := TX1) (N := 8) hx hb hts hi0 hown hK hP 0 rfl rfl 5 (by decide) hf29 (fun _ h9 => h9) rfl dX1_ownPart_17 ?_
        refine lv_iload hx hb dX1_ownPart_20 (lv_at hl 4 rfl) ?_
        refine vz_ald hx hb hK hP 2 rfl (by omega) (Nat.le_of_ble_eq_true rfl) dX1_ownPart_22 ?_
        refine lv_iconst (v := nI 1) hx hb dX1_ownPart_23 (by decide) ?_
        refine lv_icmp_ne (tgt := 58) hx hb dX1_ownPart_24 (by decide) (fun c_24 => ?_) (fun c_24 => ?_)
        · skip
          refine lv_iinc (v := (nI (i + 1))) (lv' := [(4, .int (nI (i + 1))), (0, .ref (ad 0)), (1, .int x), (2, .int (nI (zN n))), (3, .int t)]) hx hb dX1_ownPart_58 hl (k := 4) rfl (nI_1 _) (by decide) rfl (fun ls hl => ?_)
          refine lv_goto (tgt := 10) hx hb dX1_ownPart_61 (by decide) ?_
          exact ih1 t (i + 1) _ (by omega) (by omega) (by rw [orI, if_neg (by first | (simp [c_24]; done) | (simp [c_35]; done) | (simp [c_45]; done))]; exact h2) (lv_sub hl [1, 2, 3, 4, 0] rfl)
        · skip
          refine lv_aload_n hx hb dX1_ownPart_27 rfl (lv_at hl 0 rfl) ?_
          refine va_get (D := D) (ci := 1) (v := .ref (ad 7)) (C := RX1) (T := TX1) (N := 8) hx hb hts hi0 hown hK hP 0 rfl rfl 6 (by decide) hf32 (fun _ h9 => h9) rfl dX1_ownPart_28 ?_
          refine lv_iload hx hb dX1_ownPart_31 (lv_at hl 4 rfl) ?_
          refine vz_ald hx hb hK hP 3 rfl (by omega) (Nat.le_of_ble_eq_true rfl) dX1_ownPart_33 ?_
          refine lv_iconst (v := nI 1) hx hb dX1_ownPart_34 (by decide) ?_
          refine lv_icmp_ne (tgt := 58) hx hb dX1_ownPart_35 (by decide) (fun c_35 => ?_) (fun c_35 => ?_)
          · skip
            refine lv_iinc (v := (nI (i + 1))) (lv' := [(4, .int (nI (i + 1))), (0, .ref (ad 0)), (1, .int x), (2, .int (nI (zN n))), (3, .int t)]) hx hb dX1_ownPart_58 hl (k := 4) rfl (nI_1 _) (by decide) rfl (fun ls hl => ?_)
            refine lv_goto (tgt := 10) hx hb dX1_ownPart_61 (by decide) ?_
            exact ih1 t (i + 1) _ (by omega) (by omega) (by rw [orI, if_neg (by first | (simp [c_24]; done) | (simp [c_35]; done) | (simp [c_45]; done))]; exact h2) (lv_sub hl [1, 2, 3, 4, 0] rfl)
          · skip
            refine lv_aload_n hx hb dX1_ownPart_38 rfl (lv_at hl 0 rfl) ?_
            refine lv_iload_n hx hb dX1_ownPart_39 rfl (lv_at hl 1 rfl) ?_
            refine lv_iload hx hb dX1_ownPart_40 (lv_at hl 4 rfl) ?_
            refine vz_callV (n := 2) (As := [.int x, .int (nI i)]) (rest := []) (q0 := 0) hcf (c_X1_isInCube l D kA ad n fp fk fh hn x i (by omega)) gX1_ownPart_X1_isInCube rfl hd_X1_isInCube ⟨Nat.le_of_ble_eq_true rfl, Nat.le_of_ble_eq_true rfl⟩ hK (hP.sub [0, 1, 2, 3] rfl) rfl rfl rfl rfl hl.1 rfl (Nat.le_of_ble_eq_true rfl) ⟨Nat.zero_le _, Nat.zero_le _⟩ dX1_ownPart_42 ?_
            refine vz_ifeqB (tgt := 58) hx hb dX1_ownPart_45 (by decide) (fun c_45 => ?_) (fun c_45 => ?_)
            · skip
              refine lv_iinc (v := (nI (i + 1))) (lv' := [(4, .int (nI (i + 1))), (0, .ref (ad 0)), (1, .int x), (2, .int (nI (zN n))), (3, .int t)]) hx hb dX1_ownPart_58 hl (k := 4) rfl (nI_1 _) (by decide) rfl (fun ls hl => ?_)
              refine lv_goto (tgt := 10) hx hb dX1_ownPart_61 (by decide) ?_
              exact ih1 t (i + 1) _ (by omega) (by omega) (by rw [orI, if_neg (by first | (simp [c_24]; done) | (simp [c_35]; done) | (simp [c_45]; done))]; exact h2) (lv_sub hl [1, 2, 3, 4, 0] rfl)
            · skip
              refine lv_iload_n hx hb dX1_ownPart_48 rfl (lv_at hl 3 rfl) ?_
              refine lv_aload_n hx hb dX1_ownPart_49 rfl (lv_at hl 0 rfl) ?_
              refine va_get (D := D) (ci := 1) (v := .ref (ad 5)) (C := RX1) (T := TX1) (N := 8) hx hb hts hi0 hown hK hP 0 rfl rfl 4 (by decide) hf25 (fun _ h9 => h9) rfl dX1_ownPart_50 ?_
              refine lv_iload hx hb dX1_ownPart_53 (lv_at hl 4 rfl) ?_
              refine vz_ald hx hb hK hP 1 rfl (by omega) (Nat.le_of_ble_eq_true rfl) dX1_ownPart_55 ?_
              refine lv_ior hx hb dX1_ownPart_56 ?_
              refine lv_istore_n (lv' := [(3, .int (t ||| (fp i))), (0, .ref (ad 0)), (1, .int x), (2, .int (nI (zN n))), (4, .int (nI i))]) hx hb dX1_ownPart_57 rfl hl (by decide) rfl (fun ls hl => ?_)
              refine lv_iinc (v := (nI (i + 1))) (lv' := [(4, .int (nI (i + 1))), (3, .int (t ||| (fp i))), (0, .ref (ad 0)), (1, .int x), (2, .int (nI (zN n)))]) hx hb dX1_ownPart_58 hl (k := 4) rfl (nI_1 _) (by decide) rfl (fun ls hl => ?_)
              refine lv_goto (tgt := 10) hx hb dX1_ownPart_61 (by decide) ?_
              exact ih1 (t ||| (fp i)) (i + 1) _ (by omega) (by omega) (by rw [orI, if_pos (by simp [c_24, c_35, c_45]), h2]) (lv_sub hl [2, 3, 4, 1, 0] rfl)
  exact lp1 _ (nI 0) 0 _ (Nat.lt_succ_self _) (by omega) rfl (lv_sub hl [3, 4, 2, 1, 0] rfl)
set_option maxHeartbeats 4000000 in
set_option maxRecDepth 100000 in
theorem c_X1_isSmaller (l : Launch) (D : va_G) (kA : ClassId) (ad : Nat → Nat) (n : Nat) (fp fk fh : Nat → Int32) (hn : n ≤ 8) (h a c : Nat) (f : Nat → Int32) (hc : c ≤ 24) (h2 a2 c2 : Nat) (f2 : Nat → Int32) (hc2 : c2 ≤ 24) : vz_M l yX1_isSmaller wsX1_isSmaller 2 46 [.ref (ad 0), .ref h, .ref h2] D kA [(ad 0, .inr (1, [.ref (ad 1), .ref (ad 2), .ref (ad 3), .ref (ad 4), .ref (ad 5), .ref (ad 6), .ref (ad 7), .int (nI n)])), (ad 5, .inl (kA, 256, .inl fp)), (ad 6, .inl (kA, 256, .inl fk)), (ad 7, .inl (kA, 256, .inl fh)), (h, .inr (0, [.ref a, .int (nI c)])), (a, .inl (kA, 24, .inl f)), (h2, .inr (0, [.ref a2, .int (nI c2)])), (a2, .inl (kA, 24, .inl f2))] (some (.int (vz_b (zsm n c f c2 f2)))) := by
  refine vz_start (cc := cX1_isSmaller) (maxL := 3) (ret := (some .boolean)) (own := RX1) (by decide) rfl rfl (Nat.le_of_ble_eq_true rfl) ?_
  intro pz ez sz mz below meth cz args Q ls hargs hx hb hml hown hts hr hlocks hP hK hQ hl
  have hcf : CallFix pz mz cz cX1_isSmaller 3 sz args wsX1_isSmaller RX1 := ⟨hx, hb, hml, hown, hts⟩
  have hl : lv_has ls 3 [(0, .ref (ad 0)), (1, .ref h), (2, .ref h2)] := hl
  have hz1 : zlits n c f ≤ 192 := zlits_le hn hc
  have hz2 : zlits n c2 f2 ≤ 192 := zlits_le hn hc2
  refine lv_aload_n hx hb dX1_isSmaller_0 rfl (lv_at hl 1 rfl) ?_
  refine vz_callV (n := 0) (As := []) (rest := []) (q0 := 0) hcf (c_X0_length l D kA h a c f hc) gX1_isSmaller_X0_length rfl hd_X0_length ⟨Nat.le_of_ble_eq_true rfl, Nat.le_of_ble_eq_true rfl⟩ hK (hP.sub [4, 5] rfl) rfl rfl rfl rfl hl.1 rfl (Nat.le_of_ble_eq_true rfl) ⟨Nat.zero_le _, Nat.zero_le _⟩ dX1_isSmaller_1 ?_
  refine lv_aload_n hx hb dX1_isSmaller_4 rfl (lv_at hl 2 rfl) ?_
  refine vz_callV (n := 0) (As := []) (rest := [.int (nI c)]) (q0 := 0) hcf (c_X0_length l D kA h2 a2 c2 f2 hc2) gX1_isSmaller_X0_length rfl hd_X0_length ⟨Nat.le_of_ble_eq_true rfl, Nat.le_of_ble_eq_true rfl⟩ hK (hP.sub [6, 7] rfl) rfl rfl rfl rfl hl.1 rfl (Nat.le_of_ble_eq_true rfl) ⟨Nat.zero_le _, Nat.zero_le _⟩ dX1_isSmaller_5 ?_
  refine vz_ceq (tgt := 28) hx hb dX1_isSmaller_8 (by decide) (by omega) (by omega) (fun c_8 => ?_) (fun c_8 => ?_)
  · skip
    refine lv_aload_n hx hb dX1_isSmaller_28 rfl (lv_at hl 0 rfl) ?_
    refine lv_aload_n hx hb dX1_isSmaller_29 rfl (lv_at hl 1 rfl) ?_
    refine vz_callV (n := 1) (As := [.ref h]) (rest := []) (q0 := 0) hcf (c_X1_countLiterals l D kA ad n fp fk fh hn h a c f hc) gX1_isSmaller_X1_countLiterals rfl hd_X1_countLiterals ⟨Nat.le_of_ble_eq_true rfl, Nat.le_of_ble_eq_true rfl⟩ hK (hP.sub [0, 1, 2, 3, 4, 5] rfl) rfl rfl rfl rfl hl.1 rfl (Nat.le_of_ble_eq_true rfl) ⟨Nat.zero_le _, Nat.zero_le _⟩ dX1_isSmaller_30 ?_
    refine lv_aload_n hx hb dX1_isSmaller_33 rfl (lv_at hl 0 rfl) ?_
    refine lv_aload_n hx hb dX1_isSmaller_34 rfl (lv_at hl 2 rfl) ?_
    refine vz_callV (n := 1) (As := [.ref h2]) (rest := [.int (nI (zlits n c f))]) (q0 := 0) hcf (c_X1_countLiterals l D kA ad n fp fk fh hn h2 a2 c2 f2 hc2) gX1_isSmaller_X1_countLiterals rfl hd_X1_countLiterals ⟨Nat.le_of_ble_eq_true rfl, Nat.le_of_ble_eq_true rfl⟩ hK (hP.sub [0, 1, 2, 3, 6, 7] rfl) rfl rfl rfl rfl hl.1 rfl (Nat.le_of_ble_eq_true rfl) ⟨Nat.zero_le _, Nat.zero_le _⟩ dX1_isSmaller_35 ?_
    refine vz_cge (tgt := 45) hx hb dX1_isSmaller_38 (by decide) (by omega) (by omega) (fun c_38 => ?_) (fun c_38 => ?_)
    · skip
      refine lv_iconst (v := nI 0) hx hb dX1_isSmaller_45 (by decide) ?_
      exact vz_iret hx hb hr hlocks hQ (rfl) dX1_isSmaller_46 (by rw [zsm, if_pos c_8]; first | (rw [decide_eq_true (show zlits n c f < zlits n c2 f2 by omega)]; rfl) | (rw [decide_eq_false (show ¬ zlits n c f < zlits n c2 f2 by omega)]; rfl))
    · skip
      refine lv_iconst (v := nI 1) hx hb dX1_isSmaller_41 (by decide) ?_
      refine lv_goto (tgt := 46) hx hb dX1_isSmaller_42 (by decide) ?_
      exact vz_iret hx hb hr hlocks hQ (rfl) dX1_isSmaller_46 (by rw [zsm, if_pos c_8]; first | (rw [decide_eq_true (show zlits n c f < zlits n c2 f2 by omega)]; rfl) | (rw [decide_eq_false (show ¬ zlits n c f < zlits n c2 f2 by omega)]; rfl))
  · skip
    refine lv_aload_n hx hb dX1_isSmaller_11 rfl (lv_at hl 1 rfl) ?_
    refine vz_callV (n := 0) (As := []) (rest := []) (q0 := 0) hcf (c_X0_length l D kA h a c f hc) gX1_isSmaller_X0_length rfl hd_X0_length ⟨Nat.le_of_ble_eq_true rfl, Nat.le_of_ble_eq_true rfl⟩ hK (hP.sub [4, 5] rfl) rfl rfl rfl rfl hl.1 rfl (Nat.le_of_ble_eq_true rfl) ⟨Nat.zero_le _, Nat.zero_le _⟩ dX1_isSmaller_12 ?_
    refine lv_aload_n hx hb dX1_isSmaller_15 rfl (lv_at hl 2 rfl) ?_
    refine vz_callV (n := 0) (As := []) (rest := [.int (nI c)]) (q0 := 0) hcf (c_X0_length l D kA h2 a2 c2 f2 hc2) gX1_isSmaller_X0_length rfl hd_X0_length ⟨Nat.le_of_ble_eq_true rfl, Nat.le_of_ble_eq_true rfl⟩ hK (hP.sub [6, 7] rfl) rfl rfl rfl rfl hl.1 rfl (Nat.le_of_ble_eq_true rfl) ⟨Nat.zero_le _, Nat.zero_le _⟩ dX1_isSmaller_16 ?_
    refine vz_cge (tgt := 26) hx hb dX1_isSmaller_19 (by decide) (by omega) (by omega) (fun c_19 => ?_) (fun c_19 => ?_)
    · skip
      refine lv_iconst (v := nI 0) hx hb dX1_isSmaller_26 (by decide) ?_
      exact vz_iret hx hb hr hlocks hQ (rfl) dX1_isSmaller_27 (by rw [zsm, if_neg c_8]; first | (rw [decide_eq_true (show c < c2 by omega)]; rfl) | (rw [decide_eq_false (show ¬ c < c2 by omega)]; rfl))
    · skip
      refine lv_iconst (v := nI 1) hx hb dX1_isSmaller_22 (by decide) ?_
      refine lv_goto (tgt := 27) hx hb dX1_isSmaller_23 (by decide) ?_
      exact vz_iret hx hb hr hlocks hQ (rfl) dX1_isSmaller_27 (by rw [zsm, if_neg c_8]; first | (rw [decide_eq_true (show c < c2 by omega)]; rfl) | (rw [decide_eq_false (show ¬ c < c2 by omega)]; rfl))
