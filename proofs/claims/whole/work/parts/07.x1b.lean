set_option maxHeartbeats 4000000 in
set_option maxRecDepth 100000 in
theorem c_X1_markWanted (l : Launch) (D : va_G) (kA : ClassId) (ad : Nat → Nat) (n : Nat) (fp fk fh : Nat → Int32) (hn : n ≤ 8) (x : Int32) : vz_MM l yX1_markWanted wsX1_markWanted 1 22 [.ref (ad 0), .int x] D kA [(ad 0, .inr (1, [.ref (ad 1), .ref (ad 2), .ref (ad 3), .ref (ad 4), .ref (ad 5), .ref (ad 6), .ref (ad 7), .int (nI n)])), (ad 5, .inl (kA, 256, .inl fp)), (ad 6, .inl (kA, 256, .inl fk)), (ad 7, .inl (kA, 256, .inl fh))] none [(ad 0, .inr (1, [.ref (ad 1), .ref (ad 2), .ref (ad 3), .ref (ad 4), .ref (ad 5), .ref (ad 6), .ref (ad 7), .int (nI n)])), (ad 5, .inl (kA, 256, .inl fp)), (ad 6, .inl (kA, 256, .inl (zmk (zN n) (fun q => decide (fk q = 0) && zX_in fp x q) (nI 1) fk))), (ad 7, .inl (kA, 256, .inl fh))] := by
  refine vz_startM (cc := cX1_markWanted) (maxL := 4) (ret := none) (own := RX1) (by decide) rfl rfl (Nat.le_of_ble_eq_true rfl) ?_
  intro pz ez sz mz below meth cz args Q ls H locs Az hargs hx hb hml hown hts hr hlocks hP hK hD hS hAe hQ hl
  have hcf : CallFix pz mz cz cX1_markWanted 4 sz args wsX1_markWanted RX1 := ⟨hx, hb, hml, hown, hts⟩
  have hi0 : ∀ w ∈ u_ws RX1 TX1 8, w ∈ wsX1_markWanted := by decide +kernel
  have hf29 : (Cond.fieldLink RX1 29 "CubeMin" "kinds" "[I").before args sz = true := hts _ (by decide +kernel)
  have hl : lv_has ls 4 [(0, .ref (ad 0)), (1, .int x)] := hl
  have hN := zN_le hn
  refine lv_aload_n hx hb dX1_markWanted_0 rfl (lv_at hl 0 rfl) ?_
  refine vz_callV (n := 0) (As := []) (rest := []) (q0 := 0) hcf (c_X1_pointCount l D kA ad n fp fk fh hn) gX1_markWanted_X1_pointCount rfl hd_X1_pointCount ⟨Nat.le_of_ble_eq_true rfl, Nat.le_of_ble_eq_true rfl⟩ hK (hP.sub [0, 1, 2, 3] rfl) rfl rfl rfl rfl hl.1 rfl (Nat.le_of_ble_eq_true rfl) ⟨Nat.zero_le _, Nat.zero_le _⟩ dX1_markWanted_1 ?_
  refine lv_istore_n (lv' := [(2, .int (nI (zN n))), (0, .ref (ad 0)), (1, .int x)]) hx hb dX1_markWanted_4 rfl hl (by decide) rfl (fun ls hl => ?_)
  refine lv_iconst (v := nI 0) hx hb dX1_markWanted_5 (by decide) ?_
  refine lv_istore_n (lv' := [(3, .int (nI 0)), (2, .int (nI (zN n))), (0, .ref (ad 0)), (1, .int x)]) hx hb dX1_markWanted_6 rfl hl (by decide) rfl (fun ls hl => ?_)
  have lp1 : ∀ (dz : Nat) (i : Nat) (g : Nat → Int32) (H : Heap) (locs : List Loc) (ls : Array Slot), (zN n - i) < dz → (i ≤ zN n) → (g = zmk i (fun q => decide (fk q = 0) && zX_in fp x q) (nI 1) fk) → va_P D vwCl [(ad 0, .inr (1, [.ref (ad 1), .ref (ad 2), .ref (ad 3), .ref (ad 4), .ref (ad 5), .ref (ad 6), .ref (ad 7), .int (nI n)])), (ad 5, .inl (kA, 256, .inl fp)), (ad 6, .inl (kA, 256, .inl g)), (ad 7, .inl (kA, 256, .inl fh))] H → va_D Az [(ad 0, .inr (1, [.ref (ad 1), .ref (ad 2), .ref (ad 3), .ref (ad 4), .ref (ad 5), .ref (ad 6), .ref (ad 7), .int (nI n)])), (ad 5, .inl (kA, 256, .inl fp)), (ad 6, .inl (kA, 256, .inl g)), (ad 7, .inl (kA, 256, .inl fh))] → va_S Az sz.heap H locs → lv_has ls 4 [(0, .ref (ad 0)), (1, .int x), (2, .int (nI (zN n))), (3, .int (nI i))] → W pz l ez (vz_R 1 22) sz mz args below meth cz H locs 0 0 Q (F0 mz 7 ls []) := by
    intro dz
    induction dz with
    | zero => intro i g H locs ls hd h1 hg hP hD hS hl; exact absurd hd (Nat.not_lt_zero _)
    | succ dz ih1 =>
      intro i g H locs ls hd h1 hg hP hD hS hl
      refine lv_iload_n hx hb dX1_markWanted_7 rfl (lv_at hl 3 rfl) ?_
      refine lv_iload_n hx hb dX1_markWanted_8 rfl (lv_at hl 2 rfl) ?_
      refine vz_cge (tgt := 43) hx hb dX1_markWanted_9 (by decide) (by omega) (by omega) (fun c_9 => ?_) (fun c_9 => ?_)
      · skip
        obtain rfl : i = zN n := by omega
        subst hg
        exact vz_vretM hx hb hr hlocks hQ hAe dX1_markWanted_43 hS hP rfl
      · skip
        refine lv_aload_n hx hb dX1_markWanted_12 rfl (lv_at hl 0 rfl) ?_
        refine va_get (D := D) (ci := 1) (v := .ref (ad 6)) (C := RX1) (T := TX1) (N := 8) hx hb hts hi0 hown hK hP 0 rfl rfl 5 (by decide) hf29 (fun _ h9 => h9) rfl dX1_markWanted_13 ?_
        refine lv_iload_n hx hb dX1_markWanted_16 rfl (lv_at hl 3 rfl) ?_
        refine vz_ald hx hb hK hP 2 rfl (by omega) (Nat.le_of_ble_eq_true rfl) dX1_markWanted_17 ?_
        refine vz_top (y := (fk i)) (by rw [hg]; exact zmk_at) ?_
        refine lv_if_ne (tgt := 37) hx hb dX1_markWanted_18 (by decide) (fun c_18 => ?_) (fun c_18 => ?_)
        · skip
          refine lv_iinc (v := (nI (i + 1))) (lv' := [(3, .int (nI (i + 1))), (0, .ref (ad 0)), (1, .int x), (2, .int (nI (zN n)))]) hx hb dX1_markWanted_37 hl (k := 3) rfl (nI_1 _) (by decide) rfl (fun ls hl => ?_)
          refine lv_goto (tgt := 7) hx hb dX1_markWanted_40 (by decide) ?_
          exact ih1 (i + 1) g _ _ _ (by omega) (by omega) (by rw [hg]; exact zmk_f (by first | (simp [c_18]; done) | (simp [c_27]; done))) hP (vz_D hD rfl) hS (lv_sub hl [1, 2, 3, 0] rfl)
        · skip
          refine lv_aload_n hx hb dX1_markWanted_21 rfl (lv_at hl 0 rfl) ?_
          refine lv_iload_n hx hb dX1_markWanted_22 rfl (lv_at hl 1 rfl) ?_
          refine lv_iload_n hx hb dX1_markWanted_23 rfl (lv_at hl 3 rfl) ?_
          refine vz_callV (n := 2) (As := [.int x, .int (nI i)]) (rest := []) (q0 := 0) hcf (c_X1_isInCube l D kA ad n fp g fh hn x i (by omega)) gX1_markWanted_X1_isInCube rfl hd_X1_isInCube ⟨Nat.le_of_ble_eq_true rfl, Nat.le_of_ble_eq_true rfl⟩ hK (hP.sub [0, 1, 2, 3] rfl) rfl rfl rfl rfl hl.1 rfl (Nat.le_of_ble_eq_true rfl) ⟨Nat.zero_le _, Nat.zero_le _⟩ dX1_markWanted_24 ?_
          refine vz_ifeqB (tgt := 37) hx hb dX1_markWanted_27 (by decide) (fun c_27 => ?_) (fun c_27 => ?_)
          · skip
            refine lv_iinc (v := (nI (i + 1))) (lv' := [(3, .int (nI (i + 1))), (0, .ref (ad 0)), (1, .int x), (2, .int (nI (zN n)))]) hx hb dX1_markWanted_37 hl (k := 3) rfl (nI_1 _) (by decide) rfl (fun ls hl => ?_)
            refine lv_goto (tgt := 7) hx hb dX1_markWanted_40 (by decide) ?_
            exact ih1 (i + 1) g _ _ _ (by omega) (by omega) (by rw [hg]; exact zmk_f (by first | (simp [c_18]; done) | (simp [c_27]; done))) hP (vz_D hD rfl) hS (lv_sub hl [1, 2, 3, 0] rfl)
          · skip
            refine lv_aload_n hx hb dX1_markWanted_30 rfl (lv_at hl 0 rfl) ?_
            refine va_get (D := D) (ci := 1) (v := .ref (ad 6)) (C := RX1) (T := TX1) (N := 8) hx hb hts hi0 hown hK hP 0 rfl rfl 5 (by decide) hf29 (fun _ h9 => h9) rfl dX1_markWanted_31 ?_
            refine lv_iload_n hx hb dX1_markWanted_34 rfl (lv_at hl 3 rfl) ?_
            refine lv_iconst (v := nI 1) hx hb dX1_markWanted_35 (by decide) ?_
            refine vz_ast hx hb hK hP hD hS 2 rfl (by omega) (Nat.le_of_ble_eq_true rfl) dX1_markWanted_36 (fun H locs hP hD hS => ?_)
            have hP : va_P D vwCl [(ad 0, .inr (1, [.ref (ad 1), .ref (ad 2), .ref (ad 3), .ref (ad 4), .ref (ad 5), .ref (ad 6), .ref (ad 7), .int (nI n)])), (ad 5, .inl (kA, 256, .inl fp)), (ad 6, .inl (kA, 256, .inl (upd g i (nI 1)))), (ad 7, .inl (kA, 256, .inl fh))] H := hP
            have hD : va_D Az [(ad 0, .inr (1, [.ref (ad 1), .ref (ad 2), .ref (ad 3), .ref (ad 4), .ref (ad 5), .ref (ad 6), .ref (ad 7), .int (nI n)])), (ad 5, .inl (kA, 256, .inl fp)), (ad 6, .inl (kA, 256, .inl (upd g i (nI 1)))), (ad 7, .inl (kA, 256, .inl fh))] := hD
            refine lv_iinc (v := (nI (i + 1))) (lv' := [(3, .int (nI (i + 1))), (0, .ref (ad 0)), (1, .int x), (2, .int (nI (zN n)))]) hx hb dX1_markWanted_37 hl (k := 3) rfl (nI_1 _) (by decide) rfl (fun ls hl => ?_)
            refine lv_goto (tgt := 7) hx hb dX1_markWanted_40 (by decide) ?_
            exact ih1 (i + 1) (upd g i (nI 1)) _ _ _ (by omega) (by omega) (by rw [hg]; exact zmk_t (by simp [c_18, c_27])) hP (vz_D hD rfl) hS (lv_sub hl [1, 2, 3, 0] rfl)
  exact lp1 _ 0 fk _ _ _ (Nat.lt_succ_self _) (by omega) zmk_0.symm hP (vz_D hD rfl) hS (lv_sub hl [2, 3, 1, 0] rfl)
set_option maxHeartbeats 4000000 in
set_option maxRecDepth 100000 in
theorem c_X1_markIndifferent (l : Launch) (D : va_G) (kA : ClassId) (ad : Nat → Nat) (n : Nat) (fp fk fh : Nat → Int32) (hn : n ≤ 8) (x : Int32) : vz_MM l yX1_markIndifferent wsX1_markIndifferent 1 22 [.ref (ad 0), .int x] D kA [(ad 0, .inr (1, [.ref (ad 1), .ref (ad 2), .ref (ad 3), .ref (ad 4), .ref (ad 5), .ref (ad 6), .ref (ad 7), .int (nI n)])), (ad 5, .inl (kA, 256, .inl fp)), (ad 6, .inl (kA, 256, .inl fk)), (ad 7, .inl (kA, 256, .inl fh))] none [(ad 0, .inr (1, [.ref (ad 1), .ref (ad 2), .ref (ad 3), .ref (ad 4), .ref (ad 5), .ref (ad 6), .ref (ad 7), .int (nI n)])), (ad 5, .inl (kA, 256, .inl fp)), (ad 6, .inl (kA, 256, .inl (zmk (zN n) (zX_in fp x) (nI 2) fk))), (ad 7, .inl (kA, 256, .inl fh))] := by
  refine vz_startM (cc := cX1_markIndifferent) (maxL := 4) (ret := none) (own := RX1) (by decide) rfl rfl (Nat.le_of_ble_eq_true rfl) ?_
  intro pz ez sz mz below meth cz args Q ls H locs Az hargs hx hb hml hown hts hr hlocks hP hK hD hS hAe hQ hl
  have hcf : CallFix pz mz cz cX1_markIndifferent 4 sz args wsX1_markIndifferent RX1 := ⟨hx, hb, hml, hown, hts⟩
  have hi0 : ∀ w ∈ u_ws RX1 TX1 8, w ∈ wsX1_markIndifferent := by decide +kernel
  have hf29 : (Cond.fieldLink RX1 29 "CubeMin" "kinds" "[I").before args sz = true := hts _ (by decide +kernel)
  have hl : lv_has ls 4 [(0, .ref (ad 0)), (1, .int x)] := hl
  have hN := zN_le hn
  refine lv_aload_n hx hb dX1_markIndifferent_0 rfl (lv_at hl 0 rfl) ?_
  refine vz_callV (n := 0) (As := []) (rest := []) (q0 := 0) hcf (c_X1_pointCount l D kA ad n fp fk fh hn) gX1_markIndifferent_X1_pointCount rfl hd_X1_pointCount ⟨Nat.le_of_ble_eq_true rfl, Nat.le_of_ble_eq_true rfl⟩ hK (hP.sub [0, 1, 2, 3] rfl) rfl rfl rfl rfl hl.1 rfl (Nat.le_of_ble_eq_true rfl) ⟨Nat.zero_le _, Nat.zero_le _⟩ dX1_markIndifferent_1 ?_
  refine lv_istore_n (lv' := [(2, .int (nI (zN n))), (0, .ref (ad 0)), (1, .int x)]) hx hb dX1_markIndifferent_4 rfl hl (by decide) rfl (fun ls hl => ?_)
  refine lv_iconst (v := nI 0) hx hb dX1_markIndifferent_5 (by decide) ?_
  refine lv_istore_n (lv' := [(3, .int (nI 0)), (2, .int (nI (zN n))), (0, .ref (ad 0)), (1, .int x)]) hx hb dX1_markIndifferent_6 rfl hl (by decide) rfl (fun ls hl => ?_)
  have lp1 : ∀ (dz : Nat) (i : Nat) (g : Nat → Int32) (H : Heap) (locs : List Loc) (ls : Array Slot), (zN n - i) < dz → (i ≤ zN n) → (g = zmk i (zX_in fp x) (nI 2) fk) → va_P D vwCl [(ad 0, .inr (1, [.ref (ad 1), .ref (ad 2), .ref (ad 3), .ref (ad 4), .ref (ad 5), .ref (ad 6), .ref (ad 7), .int (nI n)])), (ad 5, .inl (kA, 256, .inl fp)), (ad 6, .inl (kA, 256, .inl g)), (ad 7, .inl (kA, 256, .inl fh))] H → va_D Az [(ad 0, .inr (1, [.ref (ad 1), .ref (ad 2), .ref (ad 3), .ref (ad 4), .ref (ad 5), .ref (ad 6), .ref (ad 7), .int (nI n)])), (ad 5, .inl (kA, 256, .inl fp)), (ad 6, .inl (kA, 256, .inl g)), (ad 7, .inl (kA, 256, .inl fh))] → va_S Az sz.heap H locs → lv_has ls 4 [(0, .ref (ad 0)), (1, .int x), (2, .int (nI (zN n))), (3, .int (nI i))] → W pz l ez (vz_R 1 22) sz mz args below meth cz H locs 0 0 Q (F0 mz 7 ls []) := by
    intro dz
    induction dz with
    | zero => intro i g H locs ls hd h1 hg hP hD hS hl; exact absurd hd (Nat.not_lt_zero _)
    | succ dz ih1 =>
      intro i g H locs ls hd h1 hg hP hD hS hl
      refine lv_iload_n hx hb dX1_markIndifferent_7 rfl (lv_at hl 3 rfl) ?_
      refine lv_iload_n hx hb dX1_markIndifferent_8 rfl (lv_at hl 2 rfl) ?_
      refine vz_cge (tgt := 34) hx hb dX1_markIndifferent_9 (by decide) (by omega) (by omega) (fun c_9 => ?_) (fun c_9 => ?_)
      · skip
        obtain rfl : i = zN n := by omega
        subst hg
        exact vz_vretM hx hb hr hlocks hQ hAe dX1_markIndifferent_34 hS hP rfl
      · skip
        refine lv_aload_n hx hb dX1_markIndifferent_12 rfl (lv_at hl 0 rfl) ?_
        refine lv_iload_n hx hb dX1_markIndifferent_13 rfl (lv_at hl 1 rfl) ?_
        refine lv_iload_n hx hb dX1_markIndifferent_14 rfl (lv_at hl 3 rfl) ?_
        refine vz_callV (n := 2) (As := [.int x, .int (nI i)]) (rest := []) (q0 := 0) hcf (c_X1_isInCube l D kA ad n fp g fh hn x i (by omega)) gX1_markIndifferent_X1_isInCube rfl hd_X1_isInCube ⟨Nat.le_of_ble_eq_true rfl, Nat.le_of_ble_eq_true rfl⟩ hK (hP.sub [0, 1, 2, 3] rfl) rfl rfl rfl rfl hl.1 rfl (Nat.le_of_ble_eq_true rfl) ⟨Nat.zero_le _, Nat.zero_le _⟩ dX1_markIndifferent_15 ?_
        refine vz_ifeqB (tgt := 28) hx hb dX1_markIndifferent_18 (by decide) (fun c_18 => ?_) (fun c_18 => ?_)
        · skip
          refine lv_iinc (v := (nI (i + 1))) (lv' := [(3, .int (nI (i + 1))), (0, .ref (ad 0)), (1, .int x), (2, .int (nI (zN n)))]) hx hb dX1_markIndifferent_28 hl (k := 3) rfl (nI_1 _) (by decide) rfl (fun ls hl => ?_)
          refine lv_goto (tgt := 7) hx hb dX1_markIndifferent_31 (by decide) ?_
          exact ih1 (i + 1) g _ _ _ (by omega) (by omega) (by rw [hg]; exact zmk_f c_18) hP (vz_D hD rfl) hS (lv_sub hl [1, 2, 3, 0] rfl)
        · skip
          refine lv_aload_n hx hb dX1_markIndifferent_21 rfl (lv_at hl 0 rfl) ?_
          refine va_get (D := D) (ci := 1) (v := .ref (ad 6)) (C := RX1) (T := TX1) (N := 8) hx hb hts hi0 hown hK hP 0 rfl rfl 5 (by decide) hf29 (fun _ h9 => h9) rfl dX1_markIndifferent_22 ?_
          refine lv_iload_n hx hb dX1_markIndifferent_25 rfl (lv_at hl 3 rfl) ?_
          refine lv_iconst (v := nI 2) hx hb dX1_markIndifferent_26 (by decide) ?_
          refine vz_ast hx hb hK hP hD hS 2 rfl (by omega) (Nat.le_of_ble_eq_true rfl) dX1_markIndifferent_27 (fun H locs hP hD hS => ?_)
          have hP : va_P D vwCl [(ad 0, .inr (1, [.ref (ad 1), .ref (ad 2), .ref (ad 3), .ref (ad 4), .ref (ad 5), .ref (ad 6), .ref (ad 7), .int (nI n)])), (ad 5, .inl (kA, 256, .inl fp)), (ad 6, .inl (kA, 256, .inl (upd g i (nI 2)))), (ad 7, .inl (kA, 256, .inl fh))] H := hP
          have hD : va_D Az [(ad 0, .inr (1, [.ref (ad 1), .ref (ad 2), .ref (ad 3), .ref (ad 4), .ref (ad 5), .ref (ad 6), .ref (ad 7), .int (nI n)])), (ad 5, .inl (kA, 256, .inl fp)), (ad 6, .inl (kA, 256, .inl (upd g i (nI 2)))), (ad 7, .inl (kA, 256, .inl fh))] := hD
          refine lv_iinc (v := (nI (i + 1))) (lv' := [(3, .int (nI (i + 1))), (0, .ref (ad 0)), (1, .int x), (2, .int (nI (zN n)))]) hx hb dX1_markIndifferent_28 hl (k := 3) rfl (nI_1 _) (by decide) rfl (fun ls hl => ?_)
          refine lv_goto (tgt := 7) hx hb dX1_markIndifferent_31 (by decide) ?_
          exact ih1 (i + 1) (upd g i (nI 2)) _ _ _ (by omega) (by omega) (by rw [hg]; exact zmk_t c_18) hP (vz_D hD rfl) hS (lv_sub hl [1, 2, 3, 0] rfl)
  exact lp1 _ 0 fk _ _ _ (Nat.lt_succ_self _) (by omega) zmk_0.symm hP (vz_D hD rfl) hS (lv_sub hl [2, 3, 1, 0] rfl)
set_option maxHeartbeats 4000000 in
set_option maxRecDepth 100000 in
theorem c_X1_addToHolders (l : Launch) (D : va_G) (kA : ClassId) (ad : Nat → Nat) (n : Nat) (fp fk fh : Nat → Int32) (hn : n ≤ 8) (x ch : Int32) : vz_MM l yX1_addToHolders wsX1_addToHolders 1 22 [.ref (ad 0), .int x, .int ch] D kA [(ad 0, .inr (1, [.ref (ad 1), .ref (ad 2), .ref (ad 3), .ref (ad 4), .ref (ad 5), .ref (ad 6), .ref (ad 7), .int (nI n)])), (ad 5, .inl (kA, 256, .inl fp)), (ad 6, .inl (kA, 256, .inl fk)), (ad 7, .inl (kA, 256, .inl fh))] none [(ad 0, .inr (1, [.ref (ad 1), .ref (ad 2), .ref (ad 3), .ref (ad 4), .ref (ad 5), .ref (ad 6), .ref (ad 7), .int (nI n)])), (ad 5, .inl (kA, 256, .inl fp)), (ad 6, .inl (kA, 256, .inl fk)), (ad 7, .inl (kA, 256, .inl (zad (zN n) (zX_in fp x) ch fh)))] := by
  refine vz_startM (cc := cX1_addToHolders) (maxL := 5) (ret := none) (own := RX1) (by decide) rfl rfl (Nat.le_of_ble_eq_true rfl) ?_
  intro pz ez sz mz below meth cz args Q ls H locs Az hargs hx hb hml hown hts hr hlocks hP hK hD hS hAe hQ hl
  have hcf : CallFix pz mz cz cX1_addToHolders 5 sz args wsX1_addToHolders RX1 := ⟨hx, hb, hml, hown, hts⟩
  have hi0 : ∀ w ∈ u_ws RX1 TX1 8, w ∈ wsX1_addToHolders := by decide +kernel
  have hf32 : (Cond.fieldLink RX1 32 "CubeMin" "holders" "[I").before args sz = true := hts _ (by decide +kernel)
  have hl : lv_has ls 5 [(0, .ref (ad 0)), (1, .int x), (2, .int ch)] := hl
  have hN := zN_le hn
  refine lv_aload_n hx hb dX1_addToHolders_0 rfl (lv_at hl 0 rfl) ?_
  refine vz_callV (n := 0) (As := []) (rest := []) (q0 := 0) hcf (c_X1_pointCount l D kA ad n fp fk fh hn) gX1_addToHolders_X1_pointCount rfl hd_X1_pointCount ⟨Nat.le_of_ble_eq_true rfl, Nat.le_of_ble_eq_true rfl⟩ hK (hP.sub [0, 1, 2, 3] rfl) rfl rfl rfl rfl hl.1 rfl (Nat.le_of_ble_eq_true rfl) ⟨Nat.zero_le _, Nat.zero_le _⟩ dX1_addToHolders_1 ?_
  refine lv_istore_n (lv' := [(3, .int (nI (zN n))), (0, .ref (ad 0)), (1, .int x), (2, .int ch)]) hx hb dX1_addToHolders_4 rfl hl (by decide) rfl (fun ls hl => ?_)
  refine lv_iconst (v := nI 0) hx hb dX1_addToHolders_5 (by decide) ?_
  refine lv_istore (lv' := [(4, .int (nI 0)), (3, .int (nI (zN n))), (0, .ref (ad 0)), (1, .int x), (2, .int ch)]) hx hb dX1_addToHolders_6 hl (by decide) rfl (fun ls hl => ?_)
  have lp1 : ∀ (dz : Nat) (i : Nat) (g : Nat → Int32) (H : Heap) (locs : List Loc) (ls : Array Slot), (zN n - i) < dz → (i ≤ zN n) → (g = zad i (zX_in fp x) ch fh) → va_P D vwCl [(ad 0, .inr (1, [.ref (ad 1), .ref (ad 2), .ref (ad 3), .ref (ad 4), .ref (ad 5), .ref (ad 6), .ref (ad 7), .int (nI n)])), (ad 5, .inl (kA, 256, .inl fp)), (ad 6, .inl (kA, 256, .inl fk)), (ad 7, .inl (kA, 256, .inl g))] H → va_D Az [(ad 0, .inr (1, [.ref (ad 1), .ref (ad 2), .ref (ad 3), .ref (ad 4), .ref (ad 5), .ref (ad 6), .ref (ad 7), .int (nI n)])), (ad 5, .inl (kA, 256, .inl fp)), (ad 6, .inl (kA, 256, .inl fk)), (ad 7, .inl (kA, 256, .inl g))] → va_S Az sz.heap H locs → lv_has ls 5 [(0, .ref (ad 0)), (1, .int x), (2, .int ch), (3, .int (nI (zN n))), (4, .int (nI i))] → W pz l ez (vz_R 1 22) sz mz args below meth cz H locs 0 0 Q (F0 mz 8 ls []) := by
    intro dz
    induction dz with
    | zero => intro i g H locs ls hd h1 hg hP hD hS hl; exact absurd hd (Nat.not_lt_zero _)
    | succ dz ih1 =>
      intro i g H locs ls hd h1 hg hP hD hS hl
      refine lv_iload hx hb dX1_addToHolders_8 (lv_at hl 4 rfl) ?_
      refine lv_iload_n hx hb dX1_addToHolders_10 rfl (lv_at hl 3 rfl) ?_
      refine vz_cge (tgt := 41) hx hb dX1_addToHolders_11 (by decide) (by omega) (by omega) (fun c_11 => ?_) (fun c_11 => ?_)
      · skip
        obtain rfl : i = zN n := by omega
        subst hg
        exact vz_vretM hx hb hr hlocks hQ hAe dX1_addToHolders_41 hS hP rfl
      · skip
        refine lv_aload_n hx hb dX1_addToHolders_14 rfl (lv_at hl 0 rfl) ?_
        refine lv_iload_n hx hb dX1_addToHolders_15 rfl (lv_at hl 1 rfl) ?_
        refine lv_iload hx hb dX1_addToHolders_16 (lv_at hl 4 rfl) ?_
        refine vz_callV (n := 2) (As := [.int x, .int (nI i)]) (rest := []) (q0 := 0) hcf (c_X1_isInCube l D kA ad n fp fk g hn x i (by omega)) gX1_addToHolders_X1_isInCube rfl hd_X1_isInCube ⟨Nat.le_of_ble_eq_true rfl, Nat.le_of_ble_eq_true rfl⟩ hK (hP.sub [0, 1, 2, 3] rfl) rfl rfl rfl rfl hl.1 rfl (Nat.le_of_ble_eq_true rfl) ⟨Nat.zero_le _, Nat.zero_le _⟩ dX1_addToHolders_18 ?_
        refine vz_ifeqB (tgt := 35) hx hb dX1_addToHolders_21 (by decide) (fun c_21 => ?_) (fun c_21 => ?_)
        · skip
          refine lv_iinc (v := (nI (i + 1))) (lv' := [(4, .int (nI (i + 1))), (0, .ref (ad 0)), (1, .int x), (2, .int ch), (3, .int (nI (zN n)))]) hx hb dX1_addToHolders_35 hl (k := 4) rfl (nI_1 _) (by decide) rfl (fun ls hl => ?_)
          refine lv_goto (tgt := 8) hx hb dX1_addToHolders_38 (by decide) ?_
          exact ih1 (i + 1) g _ _ _ (by omega) (by omega) (by rw [hg]; exact zad_f c_21) hP (vz_D hD rfl) hS (lv_sub hl [1, 2, 3, 4, 0] rfl)
        · skip
          refine lv_aload_n hx hb dX1_addToHolders_24 rfl (lv_at hl 0 rfl) ?_
          refine va_get (D := D) (ci := 1) (v := .ref (ad 7)) (C := RX1) (T := TX1) (N := 8) hx hb hts hi0 hown hK hP 0 rfl rfl 6 (by decide) hf32 (fun _ h9 => h9) rfl dX1_addToHolders_25 ?_
          refine lv_iload hx hb dX1_addToHolders_28 (lv_at hl 4 rfl) ?_
          refine lv_dup2_11 hx hb dX1_addToHolders_30 rfl rfl ?_
          refine vz_ald hx hb hK hP 3 rfl (by omega) (Nat.le_of_ble_eq_true rfl) dX1_addToHolders_31 ?_
          refine lv_iload_n hx hb dX1_addToHolders_32 rfl (lv_at hl 2 rfl) ?_
          refine lv_iadd hx hb dX1_addToHolders_33 ?_
          refine vz_ast hx hb hK hP hD hS 3 rfl (by omega) (Nat.le_of_ble_eq_true rfl) dX1_addToHolders_34 (fun H locs hP hD hS => ?_)
          have hP : va_P D vwCl [(ad 0, .inr (1, [.ref (ad 1), .ref (ad 2), .ref (ad 3), .ref (ad 4), .ref (ad 5), .ref (ad 6), .ref (ad 7), .int (nI n)])), (ad 5, .inl (kA, 256, .inl fp)), (ad 6, .inl (kA, 256, .inl fk)), (ad 7, .inl (kA, 256, .inl (upd g i ((g i) + ch))))] H := hP
          have hD : va_D Az [(ad 0, .inr (1, [.ref (ad 1), .ref (ad 2), .ref (ad 3), .ref (ad 4), .ref (ad 5), .ref (ad 6), .ref (ad 7), .int (nI n)])), (ad 5, .inl (kA, 256, .inl fp)), (ad 6, .inl (kA, 256, .inl fk)), (ad 7, .inl (kA, 256, .inl (upd g i ((g i) + ch))))] := hD
          refine lv_iinc (v := (nI (i + 1))) (lv' := [(4, .int (nI (i + 1))), (0, .ref (ad 0)), (1, .int x), (2, .int ch), (3, .int (nI (zN n)))]) hx hb dX1_addToHolders_35 hl (k := 4) rfl (nI_1 _) (by decide) rfl (fun ls hl => ?_)
          refine lv_goto (tgt := 8) hx hb dX1_addToHolders_38 (by decide) ?_
          exact ih1 (i + 1) (upd g i ((g i) + ch)) _ _ _ (by omega) (by omega) (by rw [hg]; exact zad_t c_21) hP (vz_D hD rfl) hS (lv_sub hl [1, 2, 3, 4, 0] rfl)
  exact lp1 _ 0 fh _ _ _ (Nat.lt_succ_self _) (by omega) zad_0.symm hP (vz_D hD rfl) hS (lv_sub hl [2, 3, 4, 1, 0] rfl)
set_option maxHeartbeats 4000000 in
set_option maxRecDepth 100000 in
theorem c_X1_countHolders (l : Launch) (D : va_G) (kA : ClassId) (ad : Nat → Nat) (n : Nat) (fp fk fh : Nat → Int32) (hn : n ≤ 8) (h a c : Nat) (f : Nat → Int32) (hc : c ≤ 24) : vz_MM l yX1_countHolders wsX1_countHolders 2 46 [.ref (ad 0), .ref h] D kA [(ad 0, .inr (1, [.ref (ad 1), .ref (ad 2), .ref (ad 3), .ref (ad 4), .ref (ad 5), .ref (ad 6), .ref (ad 7), .int (nI n)])), (ad 5, .inl (kA, 256, .inl fp)), (ad 6, .inl (kA, 256, .inl fk)), (ad 7, .inl (kA, 256, .inl fh)), (h, .inr (0, [.ref a, .int (nI c)])), (a, .inl (kA, 24, .inl f))] none [(ad 0, .inr (1, [.ref (ad 1), .ref (ad 2), .ref (ad 3), .ref (ad 4), .ref (ad 5), .ref (ad 6), .ref (ad 7), .int (nI n)])), (ad 5, .inl (kA, 256, .inl fp)), (ad 6, .inl (kA, 256, .inl fk)), (ad 7, .inl (kA, 256, .inl (zhc (zN n) fp f (zmk 256 (fun _ => true) (nI 0) fh) c))), (h, .inr (0, [.ref a, .int (nI c)])), (a, .inl (kA, 24, .inl f))] := by
  refine vz_startM (cc := cX1_countHolders) (maxL := 3) (ret := none) (own := RX1) (by decide) rfl rfl (Nat.le_of_ble_eq_true rfl) ?_
  intro pz ez sz mz below meth cz args Q ls H locs Az hargs hx hb hml hown hts hr hlocks hP hK hD hS hAe hQ hl
  have hcf : CallFix pz mz cz cX1_countHolders 3 sz args wsX1_countHolders RX1 := ⟨hx, hb, hml, hown, hts⟩
  have hi0 : ∀ w ∈ u_ws RX1 TX1 8, w ∈ wsX1_countHolders := by decide +kernel
  have hf32 : (Cond.fieldLink RX1 32 "CubeMin" "holders" "[I").before args sz = true := hts _ (by decide +kernel)
  have hl : lv_has ls 3 [(0, .ref (ad 0)), (1, .ref h)] := hl
  have hN := zN_le hn
  refine lv_iconst (v := nI 0) hx hb dX1_countHolders_0 (by decide) ?_
  refine lv_istore_n (lv' := [(2, .int (nI 0)), (0, .ref (ad 0)), (1, .ref h)]) hx hb dX1_countHolders_1 rfl hl (by decide) rfl (fun ls hl => ?_)
  have lp1 : ∀ (dz : Nat) (i : Nat) (g : Nat → Int32) (H : Heap) (locs : List Loc) (ls : Array Slot), (256 - i) < dz → (i ≤ 256) → (g = zmk i (fun _ => true) (nI 0) fh) → va_P D vwCl [(ad 0, .inr (1, [.ref (ad 1), .ref (ad 2), .ref (ad 3), .ref (ad 4), .ref (ad 5), .ref (ad 6), .ref (ad 7), .int (nI n)])), (ad 5, .inl (kA, 256, .inl fp)), (ad 6, .inl (kA, 256, .inl fk)), (ad 7, .inl (kA, 256, .inl g)), (h, .inr (0, [.ref a, .int (nI c)])), (a, .inl (kA, 24, .inl f))] H → va_D Az [(ad 0, .inr (1, [.ref (ad 1), .ref (ad 2), .ref (ad 3), .ref (ad 4), .ref (ad 5), .ref (ad 6), .ref (ad 7), .int (nI n)])), (ad 5, .inl (kA, 256, .inl fp)), (ad 6, .inl (kA, 256, .inl fk)), (ad 7, .inl (kA, 256, .inl g)), (h, .inr (0, [.ref a, .int (nI c)])), (a, .inl (kA, 24, .inl f))] → va_S Az sz.heap H locs → lv_has ls 3 [(0, .ref (ad 0)), (1, .ref h), (2, .int (nI i))] → W pz l ez (vz_R 2 46) sz mz args below meth cz H locs 0 0 Q (F0 mz 2 ls []) := by
    intro dz
    induction dz with
    | zero => intro i g H locs ls hd h1 hg hP hD hS hl; exact absurd hd (Nat.not_lt_zero _)
    | succ dz ih1 =>
      intro i g H locs ls hd h1 hg hP hD hS hl
      refine lv_iload_n hx hb dX1_countHolders_2 rfl (lv_at hl 2 rfl) ?_
      refine lv_sipush (v := nI 256) hx hb dX1_countHolders_3 (by decide) ?_
      refine vz_cge (tgt := 22) hx hb dX1_countHolders_6 (by decide) (by omega) (by omega) (fun c_6 => ?_) (fun c_6 => ?_)
      · skip
        obtain rfl : i = 256 := by omega
        subst hg
        refine lv_iconst (v := nI 0) hx hb dX1_countHolders_22 (by decide) ?_
        refine lv_istore_n (lv' := [(2, .int (nI 0)), (0, .ref (ad 0)), (1, .ref h)]) hx hb dX1_countHolders_23 rfl hl (by decide) rfl (fun ls hl => ?_)
        have lp2 : ∀ (dz : Nat) (j : Nat) (g : Nat → Int32) (H : Heap) (locs : List Loc) (ls : Array Slot), (c - j) < dz → (j ≤ c) → (g = zhc (zN n) fp f (zmk 256 (fun _ => true) (nI 0) fh) j) → va_P D vwCl [(ad 0, .inr (1, [.ref (ad 1), .ref (ad 2), .ref (ad 3), .ref (ad 4), .ref (ad 5), .ref (ad 6), .ref (ad 7), .int (nI n)])), (ad 5, .inl (kA, 256, .inl fp)), (ad 6, .inl (kA, 256, .inl fk)), (ad 7, .inl (kA, 256, .inl g)), (h, .inr (0, [.ref a, .int (nI c)])), (a, .inl (kA, 24, .inl f))] H → va_D Az [(ad 0, .inr (1, [.ref (ad 1), .ref (ad 2), .ref (ad 3), .ref (ad 4), .ref (ad 5), .ref (ad 6), .ref (ad 7), .int (nI n)])), (ad 5, .inl (kA, 256, .inl fp)), (ad 6, .inl (kA, 256, .inl fk)), (ad 7, .inl (kA, 256, .inl g)), (h, .inr (0, [.ref a, .int (nI c)])), (a, .inl (kA, 24, .inl f))] → va_S Az sz.heap H locs → lv_has ls 3 [(0, .ref (ad 0)), (1, .ref h), (2, .int (nI j))] → W pz l ez (vz_R 2 46) sz mz args below meth cz H locs 0 0 Q (F0 mz 24 ls []) := by
          intro dz
          induction dz with
          | zero => intro j g H locs ls hd h3 hg2 hP hD hS hl; exact absurd hd (Nat.not_lt_zero _)
          | succ dz ih2 =>
            intro j g H locs ls hd h3 hg2 hP hD hS hl
            refine lv_iload_n hx hb dX1_countHolders_24 rfl (lv_at hl 2 rfl) ?_
            refine lv_aload_n hx hb dX1_countHolders_25 rfl (lv_at hl 1 rfl) ?_
            refine vz_callV (n := 0) (As := []) (rest := [.int (nI j)]) (q0 := 0) hcf (c_X0_length l D kA h a c f hc) gX1_countHolders_X0_length rfl hd_X0_length ⟨Nat.le_of_ble_eq_true rfl, Nat.le_of_ble_eq_true rfl⟩ hK (hP.sub [4, 5] rfl) rfl rfl rfl rfl hl.1 rfl (Nat.le_of_ble_eq_true rfl) ⟨Nat.zero_le _, Nat.zero_le _⟩ dX1_countHolders_26 ?_
            refine vz_cge (tgt := 48) hx hb dX1_countHolders_29 (by decide) (by omega) (by omega) (fun c_29 => ?_) (fun c_29 => ?_)
            · skip
              obtain rfl : c = j := by omega
              subst hg2
              exact vz_vretM hx hb hr hlocks hQ hAe dX1_countHolders_48 hS hP rfl
            · skip
              refine lv_aload_n hx hb dX1_countHolders_32 rfl (lv_at hl 0 rfl) ?_
              refine lv_aload_n hx hb dX1_countHolders_33 rfl (lv_at hl 1 rfl) ?_
              refine lv_iload_n hx hb dX1_countHolders_34 rfl (lv_at hl 2 rfl) ?_
              refine vz_callV (n := 1) (As := [.int (nI j)]) (rest := [.ref (ad 0)]) (q0 := 0) hcf (c_X0_at l D kA h a c f hc (nI j)) gX1_countHolders_X0_at rfl hd_X0_at ⟨Nat.le_of_ble_eq_true rfl, Nat.le_of_ble_eq_true rfl⟩ hK (hP.sub [4, 5] rfl) rfl rfl rfl rfl hl.1 rfl (Nat.le_of_ble_eq_true rfl) ⟨Nat.zero_le _, Nat.zero_le _⟩ dX1_countHolders_35 ?_
              refine vz_top (y := (f j)) (zat_nI c_29 hc) ?_
              refine lv_iconst (v := nI 1) hx hb dX1_countHolders_38 (by decide) ?_
              refine vz_callM (n := 2) (As := [.int (f j), .int (nI 1)]) (rest := []) (q0 := 0) hcf (c_X1_addToHolders l D kA ad n fp fk g hn (f j) (nI 1)) gX1_countHolders_X1_addToHolders rfl hd_X1_addToHolders ⟨Nat.le_of_ble_eq_true rfl, Nat.le_of_ble_eq_true rfl⟩ hK hP hD hS [0, 1, 2, 3] (by decide) rfl rfl rfl rfl rfl rfl rfl hl.1 rfl (Nat.le_of_ble_eq_true rfl) ⟨Nat.zero_le _, Nat.zero_le _⟩ dX1_countHolders_39 (fun H locs hP hD hS => ?_)
              have hP : va_P D vwCl [(ad 0, .inr (1, [.ref (ad 1), .ref (ad 2), .ref (ad 3), .ref (ad 4), .ref (ad 5), .ref (ad 6), .ref (ad 7), .int (nI n)])), (ad 5, .inl (kA, 256, .inl fp)), (ad 6, .inl (kA, 256, .inl fk)), (ad 7, .inl (kA, 256, .inl (zad (zN n) (zX_in fp (f j)) (nI 1) g))), (h, .inr (0, [.ref a, .int (nI c)])), (a, .inl (kA, 24, .inl f))] H := hP
              have hD : va_D Az [(ad 0, .inr (1, [.ref (ad 1), .ref (ad 2), .ref (ad 3), .ref (ad 4), .ref (ad 5), .ref (ad 6), .ref (ad 7), .int (nI n)])), (ad 5, .inl (kA, 256, .inl fp)), (ad 6, .inl (kA, 256, .inl fk)), (ad 7, .inl (kA, 256, .inl (zad (zN n) (zX_in fp (f j)) (nI 1) g))), (h, .inr (0, [.ref a, .int (nI c)])), (a, .inl (kA, 24, .inl f))] := hD
              refine lv_iinc (v := (nI (j + 1))) (lv' := [(2, .int (nI (j + 1))), (0, .ref (ad 0)), (1, .ref h)]) hx hb dX1_countHolders_42 hl (k := 2) rfl (nI_1 _) (by decide) rfl (fun ls hl => ?_)
              refine lv_goto (tgt := 24) hx hb dX1_countHolders_45 (by decide) ?_
              exact ih2 (j + 1) (zad (zN n) (zX_in fp (f j)) (nI 1) g) _ _ _ (by omega) (by omega) (by rw [hg2]; rfl) hP (vz_D hD rfl) hS (lv_sub hl [1, 2, 0] rfl)
        exact lp2 _ 0 _ _ _ _ (Nat.lt_succ_self _) (by omega) rfl hP (vz_D hD rfl) hS (lv_sub hl [1, 2, 0] rfl)
      · skip
        refine lv_aload_n hx hb dX1_countHolders_9 rfl (lv_at hl 0 rfl) ?_
        refine va_get (D := D) (ci := 1) (v := .ref (ad 7)) (C := RX1) (T := TX1) (N := 8) hx hb hts hi0 hown hK hP 0 rfl rfl 6 (by decide) hf32 (fun _ h9 => h9) rfl dX1_countHolders_10 ?_
        refine lv_iload_n hx hb dX1_countHolders_13 rfl (lv_at hl 2 rfl) ?_
        refine lv_iconst (v := nI 0) hx hb dX1_countHolders_14 (by decide) ?_
        refine vz_ast hx hb hK hP hD hS 3 rfl (by omega) (Nat.le_of_ble_eq_true rfl) dX1_countHolders_15 (fun H locs hP hD hS => ?_)
        have hP : va_P D vwCl [(ad 0, .inr (1, [.ref (ad 1), .ref (ad 2), .ref (ad 3), .ref (ad 4), .ref (ad 5), .ref (ad 6), .ref (ad 7), .int (nI n)])), (ad 5, .inl (kA, 256, .inl fp)), (ad 6, .inl (kA, 256, .inl fk)), (ad 7, .inl (kA, 256, .inl (upd g i (nI 0)))), (h, .inr (0, [.ref a, .int (nI c)])), (a, .inl (kA, 24, .inl f))] H := hP
        have hD : va_D Az [(ad 0, .inr (1, [.ref (ad 1), .ref (ad 2), .ref (ad 3), .ref (ad 4), .ref (ad 5), .ref (ad 6), .ref (ad 7), .int (nI n)])), (ad 5, .inl (kA, 256, .inl fp)), (ad 6, .inl (kA, 256, .inl fk)), (ad 7, .inl (kA, 256, .inl (upd g i (nI 0)))), (h, .inr (0, [.ref a, .int (nI c)])), (a, .inl (kA, 24, .inl f))] := hD
        refine lv_iinc (v := (nI (i + 1))) (lv' := [(2, .int (nI (i + 1))), (0, .ref (ad 0)), (1, .ref h)]) hx hb dX1_countHolders_16 hl (k := 2) rfl (nI_1 _) (by decide) rfl (fun ls hl => ?_)
        refine lv_goto (tgt := 2) hx hb dX1_countHolders_19 (by decide) ?_
        exact ih1 (i + 1) (upd g i (nI 0)) _ _ _ (by omega) (by omega) (by rw [hg]; exact zmk_t rfl) hP (vz_D hD rfl) hS (lv_sub hl [1, 2, 0] rfl)
  exact lp1 _ 0 fh _ _ _ (Nat.lt_succ_self _) (by omega) zmk_0.symm hP (vz_D hD rfl) hS (lv_sub hl [1, 2, 0] rfl)
set_option maxHeartbeats 4000000 in
set_option maxRecDepth 100000 in
theorem c_X1_dropNeedless (l : Launch) (D : va_G) (kA : ClassId) (ad : Nat → Nat) (n : Nat) (fp fk fh : Nat → Int32) (hn : n ≤ 8) (h a c : Nat) (f : Nat → Int32) (hc : c ≤ 24) : vz_MM l yX1_dropNeedless wsX1_dropNeedless 3 68 [.ref (ad 0), .ref h] D kA [(ad 0, .inr (1, [.ref (ad 1), .ref (ad 2), .ref (ad 3), .ref (ad 4), .ref (ad 5), .ref (ad 6), .ref (ad 7), .int (nI n)])), (ad 5, .inl (kA, 256, .inl fp)), (ad 6, .inl (kA, 256, .inl fk)), (ad 7, .inl (kA, 256, .inl fh)), (h, .inr (0, [.ref a, .int (nI c)])), (a, .inl (kA, 24, .inl f))] none [(ad 0, .inr (1, [.ref (ad 1), .ref (ad 2), .ref (ad 3), .ref (ad 4), .ref (ad 5), .ref (ad 6), .ref (ad 7), .int (nI n)])), (ad 5, .inl (kA, 256, .inl fp)), (ad 6, .inl (kA, 256, .inl fk)), (ad 7, .inl (kA, 256, .inl ((zdn_ n fp fk c f fh).2.2))), (h, .inr (0, [.ref a, .int (nI ((zdn_ n fp fk c f fh).1))])), (a, .inl (kA, 24, .inl ((zdn_ n fp fk c f fh).2.1)))] := by
  refine vz_startM (cc := cX1_dropNeedless) (maxL := 4) (ret := none) (own := RX1) (by decide) rfl rfl (Nat.le_of_ble_eq_true rfl) ?_
  intro pz ez sz mz below meth cz args Q ls H locs Az hargs hx hb hml hown hts hr hlocks hP hK hD hS hAe hQ hl
  have hcf : CallFix pz mz cz cX1_dropNeedless 4 sz args wsX1_dropNeedless RX1 := ⟨hx, hb, hml, hown, hts⟩
  have hl : lv_has ls 4 [(0, .ref (ad 0)), (1, .ref h)] := hl
  have hN := zN_le hn
  refine lv_aload_n hx hb dX1_dropNeedless_0 rfl (lv_at hl 0 rfl) ?_
  refine lv_aload_n hx hb dX1_dropNeedless_1 rfl (lv_at hl 1 rfl) ?_
  refine vz_callM (n := 1) (As := [.ref h]) (rest := []) (q0 := 0) hcf (c_X1_countHolders l D kA ad n fp fk fh hn h a c f hc) gX1_dropNeedless_X1_countHolders rfl hd_X1_countHolders ⟨Nat.le_of_ble_eq_true rfl, Nat.le_of_ble_eq_true rfl⟩ hK hP hD hS [0, 1, 2, 3, 4, 5] (by decide) rfl rfl rfl rfl rfl rfl rfl hl.1 rfl (Nat.le_of_ble_eq_true rfl) ⟨Nat.zero_le _, Nat.zero_le _⟩ dX1_dropNeedless_2 (fun H locs hP hD hS => ?_)
  have hP : va_P D vwCl [(ad 0, .inr (1, [.ref (ad 1), .ref (ad 2), .ref (ad 3), .ref (ad 4), .ref (ad 5), .ref (ad 6), .ref (ad 7), .int (nI n)])), (ad 5, .inl (kA, 256, .inl fp)), (ad 6, .inl (kA, 256, .inl fk)), (ad 7, .inl (kA, 256, .inl (zhc (zN n) fp f (zmk 256 (fun _ => true) (nI 0) fh) c))), (h, .inr (0, [.ref a, .int (nI c)])), (a, .inl (kA, 24, .inl f))] H := hP
  have hD : va_D Az [(ad 0, .inr (1, [.ref (ad 1), .ref (ad 2), .ref (ad 3), .ref (ad 4), .ref (ad 5), .ref (ad 6), .ref (ad 7), .int (nI n)])), (ad 5, .inl (kA, 256, .inl fp)), (ad 6, .inl (kA, 256, .inl fk)), (ad 7, .inl (kA, 256, .inl (zhc (zN n) fp f (zmk 256 (fun _ => true) (nI 0) fh) c))), (h, .inr (0, [.ref a, .int (nI c)])), (a, .inl (kA, 24, .inl f))] := hD
  refine lv_aload_n hx hb dX1_dropNeedless_5 rfl (lv_at hl 1 rfl) ?_
  refine vz_callV (n := 0) (As := []) (rest := []) (q0 := 0) hcf (c_X0_length l D kA h a c f hc) gX1_dropNeedless_X0_length rfl hd_X0_length ⟨Nat.le_of_ble_eq_true rfl, Nat.le_of_ble_eq_true rfl⟩ hK (hP.sub [4, 5] rfl) rfl rfl rfl rfl hl.1 rfl (Nat.le_of_ble_eq_true rfl) ⟨Nat.zero_le _, Nat.zero_le _⟩ dX1_dropNeedless_6 ?_
  refine lv_iconst (v := nI 1) hx hb dX1_dropNeedless_9 (by decide) ?_
  refine lv_isub hx hb dX1_dropNeedless_10 ?_
  refine lv_istore_n (lv' := [(2, .int ((nI c) - (nI 1))), (0, .ref (ad 0)), (1, .ref h)]) hx hb dX1_dropNeedless_11 rfl hl (by decide) rfl (fun ls hl => ?_)
  have lp1 : ∀ (dz : Nat) (j t : Nat) (g hh : Nat → Int32) (kv : Int32) (H : Heap) (locs : List Loc) (ls : Array Slot), j < dz → (j ≤ t) → (t ≤ 24) → (zdr n fp fk j (t, g, hh) = zdn_ n fp fk c f fh) → ((j = 0 ∧ kv = -1) ∨ (1 ≤ j ∧ kv = nI (j - 1))) → va_P D vwCl [(ad 0, .inr (1, [.ref (ad 1), .ref (ad 2), .ref (ad 3), .ref (ad 4), .ref (ad 5), .ref (ad 6), .ref (ad 7), .int (nI n)])), (ad 5, .inl (kA, 256, .inl fp)), (ad 6, .inl (kA, 256, .inl fk)), (ad 7, .inl (kA, 256, .inl hh)), (h, .inr (0, [.ref a, .int (nI t)])), (a, .inl (kA, 24, .inl g))] H → va_D Az [(ad 0, .inr (1, [.ref (ad 1), .ref (ad 2), .ref (ad 3), .ref (ad 4), .ref (ad 5), .ref (ad 6), .ref (ad 7), .int (nI n)])), (ad 5, .inl (kA, 256, .inl fp)), (ad 6, .inl (kA, 256, .inl fk)), (ad 7, .inl (kA, 256, .inl hh)), (h, .inr (0, [.ref a, .int (nI t)])), (a, .inl (kA, 24, .inl g))] → va_S Az sz.heap H locs → lv_has ls 4 [(0, .ref (ad 0)), (1, .ref h), (2, .int kv)] → W pz l ez (vz_R 3 68) sz mz args below meth cz H locs 0 0 Q (F0 mz 12 ls []) := by
    intro dz
    induction dz with
    | zero => intro j t g hh kv H locs ls hd h1 h2 h3 h4 hP hD hS hl; exact absurd hd (Nat.not_lt_zero _)
    | succ dz ih1 =>
      intro j t g hh kv H locs ls hd h1 h2 h3 h4 hP hD hS hl
      refine lv_iload_n hx hb dX1_dropNeedless_12 rfl (lv_at hl 2 rfl) ?_
      refine lv_if_lt (tgt := 47) hx hb dX1_dropNeedless_13 (by decide) (fun c_13 => ?_) (fun c_13 => ?_)
      · skip
        obtain rfl : j = 0 := zdn_neg h4 (by omega) c_13
        have h5 : (t, g, hh) = zdn_ n fp fk c f fh := h3
        rw [← h5] at hQ
        exact vz_vretM hx hb hr hlocks hQ hAe dX1_dropNeedless_47 hS hP rfl
      · skip
        obtain ⟨i, rfl, rfl⟩ := zdn_pos h4 c_13
        refine lv_aload_n hx hb dX1_dropNeedless_16 rfl (lv_at hl 1 rfl) ?_
        refine lv_iload_n hx hb dX1_dropNeedless_17 rfl (lv_at hl 2 rfl) ?_
        refine vz_callV (n := 1) (As := [.int (nI i)]) (rest := []) (q0 := 0) hcf (c_X0_at l D kA h a t g h2 (nI i)) gX1_dropNeedless_X0_at rfl hd_X0_at ⟨Nat.le_of_ble_eq_true rfl, Nat.le_of_ble_eq_true rfl⟩ hK (hP.sub [4, 5] rfl) rfl rfl rfl rfl hl.1 rfl (Nat.le_of_ble_eq_true rfl) ⟨Nat.zero_le _, Nat.zero_le _⟩ dX1_dropNeedless_18 ?_
        refine vz_top (y := (g i)) (zat_nI (by omega) h2) ?_
        refine lv_istore_n (lv' := [(3, .int (g i)), (0, .ref (ad 0)), (1, .ref h), (2, .int (nI i))]) hx hb dX1_dropNeedless_21 rfl hl (by decide) rfl (fun ls hl => ?_)
        refine lv_aload_n hx hb dX1_dropNeedless_22 rfl (lv_at hl 1 rfl) ?_
        refine lv_iload_n hx hb dX1_dropNeedless_23 rfl (lv_at hl 0 rfl) ?_
        refine vz_callV (n := 1) (As := [.int (g i)]) (rest := []) (q0 := 0) hcf (c_X1_ownPart l D kA ad n fp fk hh hn (g i)) gX1_dropNeedless_X1_ownPart rfl hd_X1_ownPart ⟨Nat.le_of_ble_eq_true rfl, Nat.le_of_ble_eq_true rfl⟩ hK (hP.sub [0, 1, 2, 3] rfl) rfl rfl rfl rfl hl.1 rfl (Nat.le_of_ble_eq_true rfl) ⟨Nat.zero_le _, Nat.zero_le _⟩ dX1_dropNeedless_24 ?_
        refine lv_if_ne (tgt := 41) hx hb dX1_dropNeedless_27 (by decide) (fun c_27 => ?_) (fun c_27 => ?_)
        · skip
          refine lv_iinc (v := ((nI i) + -1)) (lv' := [(2, .int ((nI i) + -1)), (3, .int (g i)), (0, .ref (ad 0)), (1, .ref h)]) hx hb dX1_dropNeedless_41 hl (k := 3) rfl (rfl) (by decide) rfl (fun ls hl => ?_)
          refine lv_goto (tgt := 12) hx hb dX1_dropNeedless_44 (by decide) ?_
          exact ih1 i t g hh ((nI i) + -1) _ _ _ (by omega) (by omega) (by omega) (by rw [← h3, zdr, if_neg c_27]) (zdn i) hP (vz_D hD rfl) hS (lv_sub hl [2, 3, 0] rfl)
        · skip
          refine lv_aload_n hx hb dX1_dropNeedless_30 rfl (lv_at hl 1 rfl) ?_
          refine lv_iload_n hx hb dX1_dropNeedless_31 rfl (lv_at hl 0 rfl) ?_
          refine lv_iconst (v := -1) hx hb dX1_dropNeedless_32 (by decide) ?_
          refine vz_callM (n := 2) (As := [.int (g i), .int (-1)]) (rest := []) (q0 := 0) hcf (c_X1_addToHolders l D kA ad n fp fk hh hn (g i) (-1)) gX1_dropNeedless_X1_addToHolders rfl hd_X1_addToHolders ⟨Nat.le_of_ble_eq_true rfl, Nat.le_of_ble_eq_true rfl⟩ hK hP hD hS [0, 1, 2, 3] (by decide) rfl rfl rfl rfl rfl rfl rfl hl.1 rfl (Nat.le_of_ble_eq_true rfl) ⟨Nat.zero_le _, Nat.zero_le _⟩ dX1_dropNeedless_33 (fun H locs hP hD hS => ?_)
          have hP : va_P D vwCl [(ad 0, .inr (1, [.ref (ad 1), .ref (ad 2), .ref (ad 3), .ref (ad 4), .ref (ad 5), .ref (ad 6), .ref (ad 7), .int (nI n)])), (ad 5, .inl (kA, 256, .inl fp)), (ad 6, .inl (kA, 256, .inl fk)), (ad 7, .inl (kA, 256, .inl (zad (zN n) (zX_in fp (g i)) (-1) hh))), (h, .inr (0, [.ref a, .int (nI t)])), (a, .inl (kA, 24, .inl g))] H := hP
          have hD : va_D Az [(ad 0, .inr (1, [.ref (ad 1), .ref (ad 2), .ref (ad 3), .ref (ad 4), .ref (ad 5), .ref (ad 6), .ref (ad 7), .int (nI n)])), (ad 5, .inl (kA, 256, .inl fp)), (ad 6, .inl (kA, 256, .inl fk)), (ad 7, .inl (kA, 256, .inl (zad (zN n) (zX_in fp (g i)) (-1) hh))), (h, .inr (0, [.ref a, .int (nI t)])), (a, .inl (kA, 24, .inl g))] := hD
          refine lv_aload_n hx hb dX1_dropNeedless_36 rfl (lv_at hl 2 rfl) ?_
          refine lv_iload_n hx hb dX1_dropNeedless_37 rfl (lv_at hl 3 rfl) ?_
          refine vz_callM (n := 1) (As := [.int (nI i)]) (rest := []) (q0 := 0) hcf (c_X0_takeOut l D kA h a t g h2 i (by omega)) gX1_dropNeedless_X0_takeOut rfl hd_X0_takeOut ⟨Nat.le_of_ble_eq_true rfl, Nat.le_of_ble_eq_true rfl⟩ hK hP hD hS [4, 5] (by decide) rfl rfl rfl rfl rfl rfl rfl hl.1 rfl (Nat.le_of_ble_eq_true rfl) ⟨Nat.zero_le _, Nat.zero_le _⟩ dX1_dropNeedless_38 (fun H locs hP hD hS => ?_)
          have hP : va_P D vwCl [(ad 0, .inr (1, [.ref (ad 1), .ref (ad 2), .ref (ad 3), .ref (ad 4), .ref (ad 5), .ref (ad 6), .ref (ad 7), .int (nI n)])), (ad 5, .inl (kA, 256, .inl fp)), (ad 6, .inl (kA, 256, .inl fk)), (ad 7, .inl (kA, 256, .inl (zad (zN n) (zX_in fp (g i)) (-1) hh))), (h, .inr (0, [.ref a, .int (nI (t - 1))])), (a, .inl (kA, 24, .inl (zsh g i t)))] H := hP
          have hD : va_D Az [(ad 0, .inr (1, [.ref (ad 1), .ref (ad 2), .ref (ad 3), .ref (ad 4), .ref (ad 5), .ref (ad 6), .ref (ad 7), .int (nI n)])), (ad 5, .inl (kA, 256, .inl fp)), (ad 6, .inl (kA, 256, .inl fk)), (ad 7, .inl (kA, 256, .inl (zad (zN n) (zX_in fp (g i)) (-1) hh))), (h, .inr (0, [.ref a, .int (nI (t - 1))])), (a, .inl (kA, 24, .inl (zsh g i t)))] := hD
          refine lv_iinc (v := ((nI i) + -1)) (lv' := [(2, .int ((nI i) + -1)), (3, .int (g i)), (0, .ref (ad 0)), (1, .ref h)]) hx hb dX1_dropNeedless_41 hl (k := 3) rfl (rfl) (by decide) rfl (fun ls hl => ?_)
          refine lv_goto (tgt := 12) hx hb dX1_dropNeedless_44 (by decide) ?_
          exact ih1 i (t - 1) (zsh g i t) (zad (zN n) (zX_in fp (g i)) (-1) hh) ((nI i) + -1) _ _ _ (by omega) (by omega) (by omega) (by rw [← h3, zdr, if_pos c_27]) (zdn i) hP (vz_D hD rfl) hS (lv_sub hl [2, 3, 0] rfl)
  exact lp1 _ c c f _ _ _ _ _ (Nat.lt_succ_self _) (by omega) (by omega) rfl (zdn0 c) hP (vz_D hD rfl) hS (lv_sub hl [1, 2, 0] rfl)
set_option maxHeartbeats 4000000 in
set_option maxRecDepth 100000 in
theorem c_X1_narrow (l : Launch) (D : va_G) (kA : ClassId) (ad : Nat → Nat) (n : Nat) (fp fk fh : Nat → Int32) (hn : n ≤ 8) (h a c : Nat) (f : Nat → Int32) (hc : c ≤ 24) : vz_MM l yX1_narrow wsX1_narrow 3 68 [.ref (ad 0), .ref h] D kA [(ad 0, .inr (1, [.ref (ad 1), .ref (ad 2), .ref (ad 3), .ref (ad 4), .ref (ad 5), .ref (ad 6), .ref (ad 7), .int (nI n)])), (ad 5, .inl (kA, 256, .inl fp)), (ad 6, .inl (kA, 256, .inl fk)), (ad 7, .inl (kA, 256, .inl fh)), (h, .inr (0, [.ref a, .int (nI c)])), (a, .inl (kA, 24, .inl f))] none [(ad 0, .inr (1, [.ref (ad 1), .ref (ad 2), .ref (ad 3), .ref (ad 4), .ref (ad 5), .ref (ad 6), .ref (ad 7), .int (nI n)])), (ad 5, .inl (kA, 256, .inl fp)), (ad 6, .inl (kA, 256, .inl fk)), (ad 7, .inl (kA, 256, .inl ((znw n fp fk c f fh).2))), (h, .inr (0, [.ref a, .int (nI c)])), (a, .inl (kA, 24, .inl ((znw n fp fk c f fh).1)))] := by
  refine vz_startM (cc := cX1_narrow) (maxL := 5) (ret := none) (own := RX1) (by decide) rfl rfl (Nat.le_of_ble_eq_true rfl) ?_
  intro pz ez sz mz below meth cz args Q ls H locs Az hargs hx hb hml hown hts hr hlocks hP hK hD hS hAe hQ hl
  have hcf : CallFix pz mz cz cX1_narrow 5 sz args wsX1_narrow RX1 := ⟨hx, hb, hml, hown, hts⟩
  have hl : lv_has ls 5 [(0, .ref (ad 0)), (1, .ref h)] := hl
  have hN := zN_le hn
  refine lv_aload_n hx hb dX1_narrow_0 rfl (lv_at hl 0 rfl) ?_
  refine lv_aload_n hx hb dX1_narrow_1 rfl (lv_at hl 1 rfl) ?_
  refine vz_callM (n := 1) (As := [.ref h]) (rest := []) (q0 := 0) hcf (c_X1_countHolders l D kA ad n fp fk fh hn h a c f hc) gX1_narrow_X1_countHolders rfl hd_X1_countHolders ⟨Nat.le_of_ble_eq_true rfl, Nat.le_of_ble_eq_true rfl⟩ hK hP hD hS [0, 1, 2, 3, 4, 5] (by decide) rfl rfl rfl rfl rfl rfl rfl hl.1 rfl (Nat.le_of_ble_eq_true rfl) ⟨Nat.zero_le _, Nat.zero_le _⟩ dX1_narrow_2 (fun H locs hP hD hS => ?_)
  have hP : va_P D vwCl [(ad 0, .inr (1, [.ref (ad 1), .ref (ad 2), .ref (ad 3), .ref (ad 4), .ref (ad 5), .ref (ad 6), .ref (ad 7), .int (nI n)])), (ad 5, .inl (kA, 256, .inl fp)), (ad 6, .inl (kA, 256, .inl fk)), (ad 7, .inl (kA, 256, .inl (zhc (zN n) fp f (zmk 256 (fun _ => true) (nI 0) fh) c))), (h, .inr (0, [.ref a, .int (nI c)])), (a, .inl (kA, 24, .inl f))] H := hP
  have hD : va_D Az [(ad 0, .inr (1, [.ref (ad 1), .ref (ad 2), .ref (ad 3), .ref (ad 4), .ref (ad 5), .ref (ad 6), .ref (ad 7), .int (nI n)])), (ad 5, .inl (kA, 256, .inl fp)), (ad 6, .inl (kA, 256, .inl fk)), (ad 7, .inl (kA, 256, .inl (zhc (zN n) fp f (zmk 256 (fun _ => true) (nI 0) fh) c))), (h, .inr (0, [.ref a, .int (nI c)])), (a, .inl (kA, 24, .inl f))] := hD
  refine lv_iconst (v := nI 0) hx hb dX1_narrow_5 (by decide) ?_
  refine lv_istore_n (lv' := [(2, .int (nI 0)), (0, .ref (ad 0)), (1, .ref h)]) hx hb dX1_narrow_6 rfl hl (by decide) rfl (fun ls hl => ?_)
  have lp1 : ∀ (dz : Nat) (i : Nat) (g hh : Nat → Int32) (H : Heap) (locs : List Loc) (ls : Array Slot), (c - i) < dz → (i ≤ c) → ((g, hh) = znr n fp fk f (zhc (zN n) fp f (zmk 256 (fun _ => true) (nI 0) fh) c) i) → va_P D vwCl [(ad 0, .inr (1, [.ref (ad 1), .ref (ad 2), .ref (ad 3), .ref (ad 4), .ref (ad 5), .ref (ad 6), .ref (ad 7), .int (nI n)])), (ad 5, .inl (kA, 256, .inl fp)), (ad 6, .inl (kA, 256, .inl fk)), (ad 7, .inl (kA, 256, .inl hh)), (h, .inr (0, [.ref a, .int (nI c)])), (a, .inl (kA, 24, .inl g))] H → va_D Az [(ad 0, .inr (1, [.ref (ad 1), .ref (ad 2), .ref (ad 3), .ref (ad 4), .ref (ad 5), .ref (ad 6), .ref (ad 7), .int (nI n)])), (ad 5, .inl (kA, 256, .inl fp)), (ad 6, .inl (kA, 256, .inl fk)), (ad 7, .inl (kA, 256, .inl hh)), (h, .inr (0, [.ref a, .int (nI c)])), (a, .inl (kA, 24, .inl g))] → va_S Az sz.heap H locs → lv_has ls 5 [(0, .ref (ad 0)), (1, .ref h), (2, .int (nI i))] → W pz l ez (vz_R 3 68) sz mz args below meth cz H locs 0 0 Q (F0 mz 7 ls []) := by
    intro dz
    induction dz with
    | zero => intro i g hh H locs ls hd h1 h2 hP hD hS hl; exact absurd hd (Nat.not_lt_zero _)
    | succ dz ih1 =>
      intro i g hh H locs ls hd h1 h2 hP hD hS hl
      refine lv_iload_n hx hb dX1_narrow_7 rfl (lv_at hl 2 rfl) ?_
      refine lv_aload_n hx hb dX1_narrow_8 rfl (lv_at hl 1 rfl) ?_
      refine vz_callV (n := 0) (As := []) (rest := [.int (nI i)]) (q0 := 0) hcf (c_X0_length l D kA h a c g hc) gX1_narrow_X0_length rfl hd_X0_length ⟨Nat.le_of_ble_eq_true rfl, Nat.le_of_ble_eq_true rfl⟩ hK (hP.sub [4, 5] rfl) rfl rfl rfl rfl hl.1 rfl (Nat.le_of_ble_eq_true rfl) ⟨Nat.zero_le _, Nat.zero_le _⟩ dX1_narrow_9 ?_
      refine vz_cge (tgt := 54) hx hb dX1_narrow_12 (by decide) (by omega) (by omega) (fun c_12 => ?_) (fun c_12 => ?_)
      · skip
        obtain rfl : c = i := by omega
        have h5 : (g, hh) = znw n fp fk c f fh := h2
        rw [← h5] at hQ
        exact vz_vretM hx hb hr hlocks hQ hAe dX1_narrow_54 hS hP rfl
      · skip
        refine lv_aload_n hx hb dX1_narrow_15 rfl (lv_at hl 1 rfl) ?_
        refine lv_iload_n hx hb dX1_narrow_16 rfl (lv_at hl 2 rfl) ?_
        refine vz_callV (n := 1) (As := [.int (nI i)]) (rest := []) (q0 := 0) hcf (c_X0_at l D kA h a c g hc (nI i)) gX1_narrow_X0_at rfl hd_X0_at ⟨Nat.le_of_ble_eq_true rfl, Nat.le_of_ble_eq_true rfl⟩ hK (hP.sub [4, 5] rfl) rfl rfl rfl rfl hl.1 rfl (Nat.le_of_ble_eq_true rfl) ⟨Nat.zero_le _, Nat.zero_le _⟩ dX1_narrow_17 ?_
        refine vz_top (y := (g i)) (zat_nI c_12 hc) ?_
        refine lv_istore_n (lv' := [(3, .int (g i)), (0, .ref (ad 0)), (1, .ref h), (2, .int (nI i))]) hx hb dX1_narrow_20 rfl hl (by decide) rfl (fun ls hl => ?_)
        refine lv_aload_n hx hb dX1_narrow_21 rfl (lv_at hl 1 rfl) ?_
        refine lv_iload_n hx hb dX1_narrow_22 rfl (lv_at hl 0 rfl) ?_
        refine vz_callV (n := 1) (As := [.int (g i)]) (rest := []) (q0 := 0) hcf (c_X1_ownPart l D kA ad n fp fk hh hn (g i)) gX1_narrow_X1_ownPart rfl hd_X1_ownPart ⟨Nat.le_of_ble_eq_true rfl, Nat.le_of_ble_eq_true rfl⟩ hK (hP.sub [0, 1, 2, 3] rfl) rfl rfl rfl rfl hl.1 rfl (Nat.le_of_ble_eq_true rfl) ⟨Nat.zero_le _, Nat.zero_le _⟩ dX1_narrow_23 ?_
        refine lv_istore (lv' := [(4, .int (zown n fp fk hh (g i))), (3, .int (g i)), (0, .ref (ad 0)), (1, .ref h), (2, .int (nI i))]) hx hb dX1_narrow_26 hl (by decide) rfl (fun ls hl => ?_)
        refine lv_aload_n hx hb dX1_narrow_28 rfl (lv_at hl 2 rfl) ?_
        refine lv_iload_n hx hb dX1_narrow_29 rfl (lv_at hl 1 rfl) ?_
        refine lv_iconst (v := -1) hx hb dX1_narrow_30 (by decide) ?_
        refine vz_callM (n := 2) (As := [.int (g i), .int (-1)]) (rest := []) (q0 := 0) hcf (c_X1_addToHolders l D kA ad n fp fk hh hn (g i) (-1)) gX1_narrow_X1_addToHolders rfl hd_X1_addToHolders ⟨Nat.le_of_ble_eq_true rfl, Nat.le_of_ble_eq_true rfl⟩ hK hP hD hS [0, 1, 2, 3] (by decide) rfl rfl rfl rfl rfl rfl rfl hl.1 rfl (Nat.le_of_ble_eq_true rfl) ⟨Nat.zero_le _, Nat.zero_le _⟩ dX1_narrow_31 (fun H locs hP hD hS => ?_)
        have hP : va_P D vwCl [(ad 0, .inr (1, [.ref (ad 1), .ref (ad 2), .ref (ad 3), .ref (ad 4), .ref (ad 5), .ref (ad 6), .ref (ad 7), .int (nI n)])), (ad 5, .inl (kA, 256, .inl fp)), (ad 6, .inl (kA, 256, .inl fk)), (ad 7, .inl (kA, 256, .inl (zad (zN n) (zX_in fp (g i)) (-1) hh))), (h, .inr (0, [.ref a, .int (nI c)])), (a, .inl (kA, 24, .inl g))] H := hP
        have hD : va_D Az [(ad 0, .inr (1, [.ref (ad 1), .ref (ad 2), .ref (ad 3), .ref (ad 4), .ref (ad 5), .ref (ad 6), .ref (ad 7), .int (nI n)])), (ad 5, .inl (kA, 256, .inl fp)), (ad 6, .inl (kA, 256, .inl fk)), (ad 7, .inl (kA, 256, .inl (zad (zN n) (zX_in fp (g i)) (-1) hh))), (h, .inr (0, [.ref a, .int (nI c)])), (a, .inl (kA, 24, .inl g))] := hD
        refine lv_aload_n hx hb dX1_narrow_34 rfl (lv_at hl 2 rfl) ?_
        refine lv_iload hx hb dX1_narrow_35 (lv_at hl 0 rfl) ?_
        refine lv_iconst (v := nI 1) hx hb dX1_narrow_37 (by decide) ?_
        refine vz_callM (n := 2) (As := [.int (zown n fp fk hh (g i)), .int (nI 1)]) (rest := []) (q0 := 0) hcf (c_X1_addToHolders l D kA ad n fp fk (zad (zN n) (zX_in fp (g i)) (-1) hh) hn (zown n fp fk hh (g i)) (nI 1)) gX1_narrow_X1_addToHolders rfl hd_X1_addToHolders ⟨Nat.le_of_ble_eq_true rfl, Nat.le_of_ble_eq_true rfl⟩ hK hP hD hS [0, 1, 2, 3] (by decide) rfl rfl rfl rfl rfl rfl rfl hl.1 rfl (Nat.le_of_ble_eq_true rfl) ⟨Nat.zero_le _, Nat.zero_le _⟩ dX1_narrow_38 (fun H locs hP hD hS => ?_)
        have hP : va_P D vwCl [(ad 0, .inr (1, [.ref (ad 1), .ref (ad 2), .ref (ad 3), .ref (ad 4), .ref (ad 5), .ref (ad 6), .ref (ad 7), .int (nI n)])), (ad 5, .inl (kA, 256, .inl fp)), (ad 6, .inl (kA, 256, .inl fk)), (ad 7, .inl (kA, 256, .inl (zad (zN n) (zX_in fp (zown n fp fk hh (g i))) (nI 1) (zad (zN n) (zX_in fp (g i)) (-1) hh)))), (h, .inr (0, [.ref a, .int (nI c)])), (a, .inl (kA, 24, .inl g))] H := hP
        have hD : va_D Az [(ad 0, .inr (1, [.ref (ad 1), .ref (ad 2), .ref (ad 3), .ref (ad 4), .ref (ad 5), .ref (ad 6), .ref (ad 7), .int (nI n)])), (ad 5, .inl (kA, 256, .inl fp)), (ad 6, .inl (kA, 256, .inl fk)), (ad 7, .inl (kA, 256, .inl (zad (zN n) (zX_in fp (zown n fp fk hh (g i))) (nI 1) (zad (zN n) (zX_in fp (g i)) (-1) hh)))), (h, .inr (0, [.ref a, .int (nI c)])), (a, .inl (kA, 24, .inl g))] := hD
        refine lv_aload_n hx hb dX1_narrow_41 rfl (lv_at hl 3 rfl) ?_
        refine lv_iload_n hx hb dX1_narrow_42 rfl (lv_at hl 4 rfl) ?_
        refine lv_iload hx hb dX1_narrow_43 (lv_at hl 0 rfl) ?_
        refine vz_callM (n := 2) (As := [.int (nI i), .int (zown n fp fk hh (g i))]) (rest := []) (q0 := 0) hcf (c_X0_put l D kA h a c g hc i (zown n fp fk hh (g i)) c_12) gX1_narrow_X0_put rfl hd_X0_put ⟨Nat.le_of_ble_eq_true rfl, Nat.le_of_ble_eq_true rfl⟩ hK hP hD hS [4, 5] (by decide) rfl rfl rfl rfl rfl rfl rfl hl.1 rfl (Nat.le_of_ble_eq_true rfl) ⟨Nat.zero_le _, Nat.zero_le _⟩ dX1_narrow_45 (fun H locs hP hD hS => ?_)
        have hP : va_P D vwCl [(ad 0, .inr (1, [.ref (ad 1), .ref (ad 2), .ref (ad 3), .ref (ad 4), .ref (ad 5), .ref (ad 6), .ref (ad 7), .int (nI n)])), (ad 5, .inl (kA, 256, .inl fp)), (ad 6, .inl (kA, 256, .inl fk)), (ad 7, .inl (kA, 256, .inl (zad (zN n) (zX_in fp (zown n fp fk hh (g i))) (nI 1) (zad (zN n) (zX_in fp (g i)) (-1) hh)))), (h, .inr (0, [.ref a, .int (nI c)])), (a, .inl (kA, 24, .inl (upd g i (zown n fp fk hh (g i)))))] H := hP
        have hD : va_D Az [(ad 0, .inr (1, [.ref (ad 1), .ref (ad 2), .ref (ad 3), .ref (ad 4), .ref (ad 5), .ref (ad 6), .ref (ad 7), .int (nI n)])), (ad 5, .inl (kA, 256, .inl fp)), (ad 6, .inl (kA, 256, .inl fk)), (ad 7, .inl (kA, 256, .inl (zad (zN n) (zX_in fp (zown n fp fk hh (g i))) (nI 1) (zad (zN n) (zX_in fp (g i)) (-1) hh)))), (h, .inr (0, [.ref a, .int (nI c)])), (a, .inl (kA, 24, .inl (upd g i (zown n fp fk hh (g i)))))] := hD
        refine lv_iinc (v := (nI (i + 1))) (lv' := [(2, .int (nI (i + 1))), (4, .int (zown n fp fk hh (g i))), (3, .int (g i)), (0, .ref (ad 0)), (1, .ref h)]) hx hb dX1_narrow_48 hl (k := 4) rfl (nI_1 _) (by decide) rfl (fun ls hl => ?_)
        refine lv_goto (tgt := 7) hx hb dX1_narrow_51 (by decide) ?_
        exact ih1 (i + 1) (upd g i (zown n fp fk hh (g i))) (zad (zN n) (zX_in fp (zown n fp fk hh (g i))) (nI 1) (zad (zN n) (zX_in fp (g i)) (-1) hh)) _ _ _ (by omega) (by omega) (by rw [znr, ← h2]) hP (vz_D hD rfl) hS (lv_sub hl [3, 4, 0] rfl)
  exact lp1 _ 0 f _ _ _ _ (Nat.lt_succ_self _) (by omega) rfl hP (vz_D hD rfl) hS (lv_sub hl [1, 2, 0] rfl)
set_option maxHeartbeats 4000000 in
set_option maxRecDepth 100000 in
theorem c_X1_makePass (l : Launch) (D : va_G) (kA : ClassId) (ad : Nat → Nat) (n : Nat) (fp fk fh : Nat → Int32) (hn : n ≤ 8) (h a c : Nat) (f : Nat → Int32) (hc : c ≤ 24) (asc : Bool) : vz_MM l yX1_makePass wsX1_makePass 4 91 [.ref (ad 0), .ref h, .int (vz_b asc)] D kA [(ad 0, .inr (1, [.ref (ad 1), .ref (ad 2), .ref (ad 3), .ref (ad 4), .ref (ad 5), .ref (ad 6), .ref (ad 7), .int (nI n)])), (ad 5, .inl (kA, 256, .inl fp)), (ad 6, .inl (kA, 256, .inl fk)), (ad 7, .inl (kA, 256, .inl fh)), (h, .inr (0, [.ref a, .int (nI c)])), (a, .inl (kA, 24, .inl f))] none [(ad 0, .inr (1, [.ref (ad 1), .ref (ad 2), .ref (ad 3), .ref (ad 4), .ref (ad 5), .ref (ad 6), .ref (ad 7), .int (nI n)])), (ad 5, .inl (kA, 256, .inl fp)), (ad 6, .inl (kA, 256, .inl fk)), (ad 7, .inl (kA, 256, .inl ((zps n fp fk asc c f fh).2.2))), (h, .inr (0, [.ref a, .int (nI ((zps n fp fk asc c f fh).1))])), (a, .inl (kA, 24, .inl ((zps n fp fk asc c f fh).2.1)))] := by
  refine vz_startM (cc := cX1_makePass) (maxL := 4) (ret := none) (own := RX1) (by decide) rfl rfl (Nat.le_of_ble_eq_true rfl) ?_
  intro pz ez sz mz below meth cz args Q ls H locs Az hargs hx hb hml hown hts hr hlocks hP hK hD hS hAe hQ hl
  have hcf : CallFix pz mz cz cX1_makePass 4 sz args wsX1_makePass RX1 := ⟨hx, hb, hml, hown, hts⟩
  have hl : lv_has ls 4 [(0, .ref (ad 0)), (1, .ref h), (2, .int (vz_b asc))] := hl
  have hN := zN_le hn
  refine lv_iconst (v := nI 0) hx hb dX1_makePass_0 (by decide) ?_
  refine lv_istore_n (lv' := [(3, .int (nI 0)), (0, .ref (ad 0)), (1, .ref h), (2, .int (vz_b asc))]) hx hb dX1_makePass_1 rfl hl (by decide) rfl (fun ls hl => ?_)
  have lp1 : ∀ (dz : Nat) (i : Nat) (g : Nat → Int32) (H : Heap) (locs : List Loc) (ls : Array Slot), (c - i) < dz → (i ≤ c) → (g = zcp i (fun q => zwd n (ztch n fk (zX_in fp)) asc n (f q)) f) → va_P D vwCl [(ad 0, .inr (1, [.ref (ad 1), .ref (ad 2), .ref (ad 3), .ref (ad 4), .ref (ad 5), .ref (ad 6), .ref (ad 7), .int (nI n)])), (ad 5, .inl (kA, 256, .inl fp)), (ad 6, .inl (kA, 256, .inl fk)), (ad 7, .inl (kA, 256, .inl fh)), (h, .inr (0, [.ref a, .int (nI c)])), (a, .inl (kA, 24, .inl g))] H → va_D Az [(ad 0, .inr (1, [.ref (ad 1), .ref (ad 2), .ref (ad 3), .ref (ad 4), .ref (ad 5), .ref (ad 6), .ref (ad 7), .int (nI n)])), (ad 5, .inl (kA, 256, .inl fp)), (ad 6, .inl (kA, 256, .inl fk)), (ad 7, .inl (kA, 256, .inl fh)), (h, .inr (0, [.ref a, .int (nI c)])), (a, .inl (kA, 24, .inl g))] → va_S Az sz.heap H locs → lv_has ls 4 [(0, .ref (ad 0)), (1, .ref h), (2, .int (vz_b asc)), (3, .int (nI i))] → W pz l ez (vz_R 4 91) sz mz args below meth cz H locs 0 0 Q (F0 mz 2 ls []) := by
    intro dz
    induction dz with
    | zero => intro i g H locs ls hd h1 hg hP hD hS hl; exact absurd hd (Nat.not_lt_zero _)
    | succ dz ih1 =>
      intro i g H locs ls hd h1 hg hP hD hS hl
      refine lv_iload_n hx hb dX1_makePass_2 rfl (lv_at hl 3 rfl) ?_
      refine lv_aload_n hx hb dX1_makePass_3 rfl (lv_at hl 1 rfl) ?_
      refine vz_callV (n := 0) (As := []) (rest := [.int (nI i)]) (q0 := 0) hcf (c_X0_length l D kA h a c g hc) gX1_makePass_X0_length rfl hd_X0_length ⟨Nat.le_of_ble_eq_true rfl, Nat.le_of_ble_eq_true rfl⟩ hK (hP.sub [4, 5] rfl) rfl rfl rfl rfl hl.1 rfl (Nat.le_of_ble_eq_true rfl) ⟨Nat.zero_le _, Nat.zero_le _⟩ dX1_makePass_4 ?_
      refine vz_cge (tgt := 31) hx hb dX1_makePass_7 (by decide) (by omega) (by omega) (fun c_7 => ?_) (fun c_7 => ?_)
      · skip
        obtain rfl : c = i := by omega
        subst hg
        refine lv_aload_n hx hb dX1_makePass_31 rfl (lv_at hl 0 rfl) ?_
        refine lv_aload_n hx hb dX1_makePass_32 rfl (lv_at hl 1 rfl) ?_
        refine vz_callM (n := 1) (As := [.ref h]) (rest := []) (q0 := 0) hcf (c_X1_dropNeedless l D kA ad n fp fk fh hn h a c (zcp c (fun q => zwd n (ztch n fk (zX_in fp)) asc n (f q)) f) hc) gX1_makePass_X1_dropNeedless rfl hd_X1_dropNeedless ⟨Nat.le_of_ble_eq_true rfl, Nat.le_of_ble_eq_true rfl⟩ hK hP hD hS [0, 1, 2, 3, 4, 5] (by decide) rfl rfl rfl rfl rfl rfl rfl hl.1 rfl (Nat.le_of_ble_eq_true rfl) ⟨Nat.zero_le _, Nat.zero_le _⟩ dX1_makePass_33 (fun H locs hP hD hS => ?_)
        have hP : va_P D vwCl [(ad 0, .inr (1, [.ref (ad 1), .ref (ad 2), .ref (ad 3), .ref (ad 4), .ref (ad 5), .ref (ad 6), .ref (ad 7), .int (nI n)])), (ad 5, .inl (kA, 256, .inl fp)), (ad 6, .inl (kA, 256, .inl fk)), (ad 7, .inl (kA, 256, .inl ((zps n fp fk asc c f fh).2.2))), (h, .inr (0, [.ref a, .int (nI ((zps n fp fk asc c f fh).1))])), (a, .inl (kA, 24, .inl ((zps n fp fk asc c f fh).2.1)))] H := hP
        have hD : va_D Az [(ad 0, .inr (1, [.ref (ad 1), .ref (ad 2), .ref (ad 3), .ref (ad 4), .ref (ad 5), .ref (ad 6), .ref (ad 7), .int (nI n)])), (ad 5, .inl (kA, 256, .inl fp)), (ad 6, .inl (kA, 256, .inl fk)), (ad 7, .inl (kA, 256, .inl ((zps n fp fk asc c f fh).2.2))), (h, .inr (0, [.ref a, .int (nI ((zps n fp fk asc c f fh).1))])), (a, .inl (kA, 24, .inl ((zps n fp fk asc c f fh).2.1)))] := hD
        exact vz_vretM hx hb hr hlocks hQ hAe dX1_makePass_36 hS hP rfl
      · skip
        refine lv_aload_n hx hb dX1_makePass_10 rfl (lv_at hl 1 rfl) ?_
        refine lv_iload_n hx hb dX1_makePass_11 rfl (lv_at hl 3 rfl) ?_
        refine lv_aload_n hx hb dX1_makePass_12 rfl (lv_at hl 0 rfl) ?_
        refine lv_aload_n hx hb dX1_makePass_13 rfl (lv_at hl 1 rfl) ?_
        refine lv_iload_n hx hb dX1_makePass_14 rfl (lv_at hl 3 rfl) ?_
        refine vz_callV (n := 1) (As := [.int (nI i)]) (rest := [.ref (ad 0), .int (nI i), .ref h]) (q0 := 0) hcf (c_X0_at l D kA h a c g hc (nI i)) gX1_makePass_X0_at rfl hd_X0_at ⟨Nat.le_of_ble_eq_true rfl, Nat.le_of_ble_eq_true rfl⟩ hK (hP.sub [4, 5] rfl) rfl rfl rfl rfl hl.1 rfl (Nat.le_of_ble_eq_true rfl) ⟨Nat.zero_le _, Nat.zero_le _⟩ dX1_makePass_15 ?_
        refine vz_top (y := (f i)) (by rw [zat_nI c_7 hc, hg]; exact zcp_at) ?_
        refine lv_iload_n hx hb dX1_makePass_18 rfl (lv_at hl 2 rfl) ?_
        refine vz_callV (n := 2) (As := [.int (f i), .int (vz_b asc)]) (rest := [.int (nI i), .ref h]) (q0 := 0) hcf (c_X1_widened l D kA ad n fp fk fh hn (f i) asc) gX1_makePass_X1_widened rfl hd_X1_widened ⟨Nat.le_of_ble_eq_true rfl, Nat.le_of_ble_eq_true rfl⟩ hK (hP.sub [0, 1, 2, 3] rfl) rfl rfl rfl rfl hl.1 rfl (Nat.le_of_ble_eq_true rfl) ⟨Nat.zero_le _, Nat.zero_le _⟩ dX1_makePass_19 ?_
        refine vz_callM (n := 2) (As := [.int (nI i), .int (zwd n (ztch n fk (zX_in fp)) asc n (f i))]) (rest := []) (q0 := 0) hcf (c_X0_put l D kA h a c g hc i (zwd n (ztch n fk (zX_in fp)) asc n (f i)) c_7) gX1_makePass_X0_put rfl hd_X0_put ⟨Nat.le_of_ble_eq_true rfl, Nat.le_of_ble_eq_true rfl⟩ hK hP hD hS [4, 5] (by decide) rfl rfl rfl rfl rfl rfl rfl hl.1 rfl (Nat.le_of_ble_eq_true rfl) ⟨Nat.zero_le _, Nat.zero_le _⟩ dX1_makePass_22 (fun H locs hP hD hS => ?_)
        have hP : va_P D vwCl [(ad 0, .inr (1, [.ref (ad 1), .ref (ad 2), .ref (ad 3), .ref (ad 4), .ref (ad 5), .ref (ad 6), .ref (ad 7), .int (nI n)])), (ad 5, .inl (kA, 256, .inl fp)), (ad 6, .inl (kA, 256, .inl fk)), (ad 7, .inl (kA, 256, .inl fh)), (h, .inr (0, [.ref a, .int (nI c)])), (a, .inl (kA, 24, .inl (upd g i (zwd n (ztch n fk (zX_in fp)) asc n (f i)))))] H := hP
        have hD : va_D Az [(ad 0, .inr (1, [.ref (ad 1), .ref (ad 2), .ref (ad 3), .ref (ad 4), .ref (ad 5), .ref (ad 6), .ref (ad 7), .int (nI n)])), (ad 5, .inl (kA, 256, .inl fp)), (ad 6, .inl (kA, 256, .inl fk)), (ad 7, .inl (kA, 256, .inl fh)), (h, .inr (0, [.ref a, .int (nI c)])), (a, .inl (kA, 24, .inl (upd g i (zwd n (ztch n fk (zX_in fp)) asc n (f i)))))] := hD
        refine lv_iinc (v := (nI (i + 1))) (lv' := [(3, .int (nI (i + 1))), (0, .ref (ad 0)), (1, .ref h), (2, .int (vz_b asc))]) hx hb dX1_makePass_25 hl (k := 3) rfl (nI_1 _) (by decide) rfl (fun ls hl => ?_)
        refine lv_goto (tgt := 2) hx hb dX1_makePass_28 (by decide) ?_
        exact ih1 (i + 1) (upd g i (zwd n (ztch n fk (zX_in fp)) asc n (f i))) _ _ _ (by omega) (by omega) (by rw [hg]; exact zcp_s (g := (fun q => zwd n (ztch n fk (zX_in fp)) asc n (f q)))) hP (vz_D hD rfl) hS (lv_sub hl [1, 2, 3, 0] rfl)
  exact lp1 _ 0 f _ _ _ (Nat.lt_succ_self _) (by omega) zcp_0.symm hP (vz_D hD rfl) hS (lv_sub hl [1, 2, 3, 0] rfl)
