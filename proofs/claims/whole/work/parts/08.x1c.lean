set_option maxHeartbeats 4000000 in
set_option maxRecDepth 100000 in
theorem c_X1_fillPointCubes (l : Launch) (D : va_G) (kA : ClassId) (ad : Nat → Nat) (n : Nat) (fp fk fh : Nat → Int32) (hn : n ≤ 8) : vz_MM l yX1_fillPointCubes wsX1_fillPointCubes 0 0 [.ref (ad 0)] D kA [(ad 0, .inr (1, [.ref (ad 1), .ref (ad 2), .ref (ad 3), .ref (ad 4), .ref (ad 5), .ref (ad 6), .ref (ad 7), .int (nI n)])), (ad 5, .inl (kA, 256, .inl fp)), (ad 6, .inl (kA, 256, .inl fk)), (ad 7, .inl (kA, 256, .inl fh))] none [(ad 0, .inr (1, [.ref (ad 1), .ref (ad 2), .ref (ad 3), .ref (ad 4), .ref (ad 5), .ref (ad 6), .ref (ad 7), .int (nI n)])), (ad 5, .inl (kA, 256, .inl (zpf fp n))), (ad 6, .inl (kA, 256, .inl fk)), (ad 7, .inl (kA, 256, .inl fh))] := by
  refine vz_startM (cc := cX1_fillPointCubes) (maxL := 4) (ret := none) (own := RX1) (by decide) rfl rfl (Nat.le_of_ble_eq_true rfl) ?_
  intro pz ez sz mz below meth cz args Q ls H locs Az hargs hx hb hml hown hts hr hlocks hP hK hD hS hAe hQ hl
  have hcf : CallFix pz mz cz cX1_fillPointCubes 4 sz args wsX1_fillPointCubes RX1 := ⟨hx, hb, hml, hown, hts⟩
  have hi0 : ∀ w ∈ u_ws RX1 TX1 8, w ∈ wsX1_fillPointCubes := by decide +kernel
  have hf25 : (Cond.fieldLink RX1 25 "CubeMin" "pointCubes" "[I").before args sz = true := hts _ (by decide +kernel)
  have hf39 : (Cond.fieldLink RX1 39 "CubeMin" "inputCount" "I").before args sz = true := hts _ (by decide +kernel)
  have hl : lv_has ls 4 [(0, .ref (ad 0))] := hl
  have hN := zN_le hn
  refine lv_aload_n hx hb dX1_fillPointCubes_0 rfl (lv_at hl 0 rfl) ?_
  refine va_get (D := D) (ci := 1) (v := .ref (ad 5)) (C := RX1) (T := TX1) (N := 8) hx hb hts hi0 hown hK hP 0 rfl rfl 4 (by decide) hf25 (fun _ h9 => h9) rfl dX1_fillPointCubes_1 ?_
  refine lv_iconst (v := nI 0) hx hb dX1_fillPointCubes_4 (by decide) ?_
  refine lv_iconst (v := nI 0) hx hb dX1_fillPointCubes_5 (by decide) ?_
  refine vz_ast hx hb hK hP hD hS 1 rfl (by omega) (Nat.le_of_ble_eq_true rfl) dX1_fillPointCubes_6 (fun H locs hP hD hS => ?_)
  have hP : va_P D vwCl [(ad 0, .inr (1, [.ref (ad 1), .ref (ad 2), .ref (ad 3), .ref (ad 4), .ref (ad 5), .ref (ad 6), .ref (ad 7), .int (nI n)])), (ad 5, .inl (kA, 256, .inl (upd fp 0 (nI 0)))), (ad 6, .inl (kA, 256, .inl fk)), (ad 7, .inl (kA, 256, .inl fh))] H := hP
  have hD : va_D Az [(ad 0, .inr (1, [.ref (ad 1), .ref (ad 2), .ref (ad 3), .ref (ad 4), .ref (ad 5), .ref (ad 6), .ref (ad 7), .int (nI n)])), (ad 5, .inl (kA, 256, .inl (upd fp 0 (nI 0)))), (ad 6, .inl (kA, 256, .inl fk)), (ad 7, .inl (kA, 256, .inl fh))] := hD
  refine lv_iconst (v := nI 0) hx hb dX1_fillPointCubes_7 (by decide) ?_
  refine lv_istore_n (lv' := [(1, .int (nI 0)), (0, .ref (ad 0))]) hx hb dX1_fillPointCubes_8 rfl hl (by decide) rfl (fun ls hl => ?_)
  have lp1 : ∀ (dz : Nat) (i : Nat) (g1 : Nat → Int32) (H : Heap) (locs : List Loc) (ls : Array Slot), (n - i) < dz → (i ≤ n) → (g1 = zpf fp i) → va_P D vwCl [(ad 0, .inr (1, [.ref (ad 1), .ref (ad 2), .ref (ad 3), .ref (ad 4), .ref (ad 5), .ref (ad 6), .ref (ad 7), .int (nI n)])), (ad 5, .inl (kA, 256, .inl g1)), (ad 6, .inl (kA, 256, .inl fk)), (ad 7, .inl (kA, 256, .inl fh))] H → va_D Az [(ad 0, .inr (1, [.ref (ad 1), .ref (ad 2), .ref (ad 3), .ref (ad 4), .ref (ad 5), .ref (ad 6), .ref (ad 7), .int (nI n)])), (ad 5, .inl (kA, 256, .inl g1)), (ad 6, .inl (kA, 256, .inl fk)), (ad 7, .inl (kA, 256, .inl fh))] → va_S Az sz.heap H locs → lv_has ls 4 [(0, .ref (ad 0)), (1, .int (nI i))] → W pz l ez (vz_R 0 0) sz mz args below meth cz H locs 0 0 Q (F0 mz 9 ls []) := by
    intro dz
    induction dz with
    | zero => intro i g1 H locs ls hd h1 hg1 hP hD hS hl; exact absurd hd (Nat.not_lt_zero _)
    | succ dz ih1 =>
      intro i g1 H locs ls hd h1 hg1 hP hD hS hl
      refine lv_iload_n hx hb dX1_fillPointCubes_9 rfl (lv_at hl 1 rfl) ?_
      refine lv_aload_n hx hb dX1_fillPointCubes_10 rfl (lv_at hl 0 rfl) ?_
      refine va_get (D := D) (ci := 1) (v := .int (nI n)) (C := RX1) (T := TX1) (N := 8) hx hb hts hi0 hown hK hP 0 rfl rfl 7 (by decide) hf39 (fun _ h9 => h9) rfl dX1_fillPointCubes_11 ?_
      refine vz_cge (tgt := 74) hx hb dX1_fillPointCubes_14 (by decide) (by omega) (by omega) (fun c_14 => ?_) (fun c_14 => ?_)
      · skip
        obtain rfl : n = i := by omega
        subst hg1
        exact vz_vretM hx hb hr hlocks hQ hAe dX1_fillPointCubes_74 hS hP rfl
      · skip
        have hh := zN_half (show i < 8 by omega)
        refine lv_iconst (v := nI 1) hx hb dX1_fillPointCubes_17 (by decide) ?_
        refine lv_iload_n hx hb dX1_fillPointCubes_18 rfl (lv_at hl 1 rfl) ?_
        refine lv_ishl hx hb dX1_fillPointCubes_19 ?_
        refine vz_top (y := (nI (zN i))) (zN_sh i (by omega)) ?_
        refine lv_istore_n (lv' := [(2, .int (nI (zN i))), (0, .ref (ad 0)), (1, .int (nI i))]) hx hb dX1_fillPointCubes_20 rfl hl (by decide) rfl (fun ls hl => ?_)
        refine lv_iconst (v := nI 0) hx hb dX1_fillPointCubes_21 (by decide) ?_
        refine lv_istore_n (lv' := [(3, .int (nI 0)), (2, .int (nI (zN i))), (0, .ref (ad 0)), (1, .int (nI i))]) hx hb dX1_fillPointCubes_22 rfl hl (by decide) rfl (fun ls hl => ?_)
        have lp2 : ∀ (dz : Nat) (q : Nat) (g : Nat → Int32) (H : Heap) (locs : List Loc) (ls : Array Slot), (zN i - q) < dz → (q ≤ zN i) → (g = zpo i q g1) → va_P D vwCl [(ad 0, .inr (1, [.ref (ad 1), .ref (ad 2), .ref (ad 3), .ref (ad 4), .ref (ad 5), .ref (ad 6), .ref (ad 7), .int (nI n)])), (ad 5, .inl (kA, 256, .inl g)), (ad 6, .inl (kA, 256, .inl fk)), (ad 7, .inl (kA, 256, .inl fh))] H → va_D Az [(ad 0, .inr (1, [.ref (ad 1), .ref (ad 2), .ref (ad 3), .ref (ad 4), .ref (ad 5), .ref (ad 6), .ref (ad 7), .int (nI n)])), (ad 5, .inl (kA, 256, .inl g)), (ad 6, .inl (kA, 256, .inl fk)), (ad 7, .inl (kA, 256, .inl fh))] → va_S Az sz.heap H locs → lv_has ls 4 [(0, .ref (ad 0)), (1, .int (nI i)), (2, .int (nI (zN i))), (3, .int (nI q))] → W pz l ez (vz_R 0 0) sz mz args below meth cz H locs 0 0 Q (F0 mz 23 ls []) := by
          intro dz
          induction dz with
          | zero => intro q g H locs ls hd h2 hg hP hD hS hl; exact absurd hd (Nat.not_lt_zero _)
          | succ dz ih2 =>
            intro q g H locs ls hd h2 hg hP hD hS hl
            refine lv_iload_n hx hb dX1_fillPointCubes_23 rfl (lv_at hl 3 rfl) ?_
            refine lv_iload_n hx hb dX1_fillPointCubes_24 rfl (lv_at hl 2 rfl) ?_
            refine vz_cge (tgt := 68) hx hb dX1_fillPointCubes_25 (by decide) (by omega) (by omega) (fun c_25 => ?_) (fun c_25 => ?_)
            · skip
              refine lv_iinc (v := (nI (i + 1))) (lv' := [(1, .int (nI (i + 1))), (0, .ref (ad 0)), (2, .int (nI (zN i))), (3, .int (nI q))]) hx hb dX1_fillPointCubes_68 hl (k := 1) rfl (nI_1 _) (by decide) rfl (fun ls hl => ?_)
              refine lv_goto (tgt := 9) hx hb dX1_fillPointCubes_71 (by decide) ?_
              exact ih1 (i + 1) g _ _ _ (by omega) (by omega) (by rw [hg, hg1]; obtain rfl : q = zN i := (by omega); rfl) hP (vz_D hD rfl) hS (lv_sub hl [1, 0] rfl)
            · skip
              refine lv_aload_n hx hb dX1_fillPointCubes_28 rfl (lv_at hl 0 rfl) ?_
              refine va_get (D := D) (ci := 1) (v := .ref (ad 5)) (C := RX1) (T := TX1) (N := 8) hx hb hts hi0 hown hK hP 0 rfl rfl 4 (by decide) hf25 (fun _ h9 => h9) rfl dX1_fillPointCubes_29 ?_
              refine lv_iload_n hx hb dX1_fillPointCubes_32 rfl (lv_at hl 3 rfl) ?_
              refine lv_iload_n hx hb dX1_fillPointCubes_33 rfl (lv_at hl 2 rfl) ?_
              refine vz_add hx hb dX1_fillPointCubes_34 ?_
              refine lv_aload_n hx hb dX1_fillPointCubes_35 rfl (lv_at hl 0 rfl) ?_
              refine va_get (D := D) (ci := 1) (v := .ref (ad 5)) (C := RX1) (T := TX1) (N := 8) hx hb hts hi0 hown hK hP 0 rfl rfl 4 (by decide) hf25 (fun _ h9 => h9) rfl dX1_fillPointCubes_36 ?_
              refine lv_iload_n hx hb dX1_fillPointCubes_39 rfl (lv_at hl 3 rfl) ?_
              refine vz_ald hx hb hK hP 1 rfl (by omega) (Nat.le_of_ble_eq_true rfl) dX1_fillPointCubes_40 ?_
              refine vz_top (y := (g1 q)) (by rw [hg]; exact zpo_at c_25) ?_
              refine lv_iconst (v := nI 2) hx hb dX1_fillPointCubes_41 (by decide) ?_
              refine lv_iconst (v := nI 2) hx hb dX1_fillPointCubes_42 (by decide) ?_
              refine lv_iload_n hx hb dX1_fillPointCubes_43 rfl (lv_at hl 1 rfl) ?_
              refine vz_mul hx hb dX1_fillPointCubes_44 ?_
              refine lv_ishl hx hb dX1_fillPointCubes_45 ?_
              refine lv_ior hx hb dX1_fillPointCubes_46 ?_
              refine vz_ast hx hb hK hP hD hS 1 rfl (by omega) (Nat.le_of_ble_eq_true rfl) dX1_fillPointCubes_47 (fun H locs hP hD hS => ?_)
              have hP : va_P D vwCl [(ad 0, .inr (1, [.ref (ad 1), .ref (ad 2), .ref (ad 3), .ref (ad 4), .ref (ad 5), .ref (ad 6), .ref (ad 7), .int (nI n)])), (ad 5, .inl (kA, 256, .inl (upd g (q + (zN i)) ((g1 q) ||| ((nI 2) <<< ((nI (2 * i)) &&& 31)))))), (ad 6, .inl (kA, 256, .inl fk)), (ad 7, .inl (kA, 256, .inl fh))] H := hP
              have hD : va_D Az [(ad 0, .inr (1, [.ref (ad 1), .ref (ad 2), .ref (ad 3), .ref (ad 4), .ref (ad 5), .ref (ad 6), .ref (ad 7), .int (nI n)])), (ad 5, .inl (kA, 256, .inl (upd g (q + (zN i)) ((g1 q) ||| ((nI 2) <<< ((nI (2 * i)) &&& 31)))))), (ad 6, .inl (kA, 256, .inl fk)), (ad 7, .inl (kA, 256, .inl fh))] := hD
              refine lv_aload_n hx hb dX1_fillPointCubes_48 rfl (lv_at hl 0 rfl) ?_
              refine va_get (D := D) (ci := 1) (v := .ref (ad 5)) (C := RX1) (T := TX1) (N := 8) hx hb hts hi0 hown hK hP 0 rfl rfl 4 (by decide) hf25 (fun _ h9 => h9) rfl dX1_fillPointCubes_49 ?_
              refine lv_iload_n hx hb dX1_fillPointCubes_52 rfl (lv_at hl 3 rfl) ?_
              refine lv_dup2_11 hx hb dX1_fillPointCubes_53 rfl rfl ?_
              refine vz_ald hx hb hK hP 1 rfl (by omega) (Nat.le_of_ble_eq_true rfl) dX1_fillPointCubes_54 ?_
              refine vz_top (y := (g1 q)) (by simp only [upd]; rw [if_neg (by have := zN_pos i; omega), hg]; exact zpo_at c_25) ?_
              refine lv_iconst (v := nI 1) hx hb dX1_fillPointCubes_55 (by decide) ?_
              refine lv_iconst (v := nI 2) hx hb dX1_fillPointCubes_56 (by decide) ?_
              refine lv_iload_n hx hb dX1_fillPointCubes_57 rfl (lv_at hl 1 rfl) ?_
              refine vz_mul hx hb dX1_fillPointCubes_58 ?_
              refine lv_ishl hx hb dX1_fillPointCubes_59 ?_
              refine lv_ior hx hb dX1_fillPointCubes_60 ?_
              refine vz_ast hx hb hK hP hD hS 1 rfl (by omega) (Nat.le_of_ble_eq_true rfl) dX1_fillPointCubes_61 (fun H locs hP hD hS => ?_)
              have hP : va_P D vwCl [(ad 0, .inr (1, [.ref (ad 1), .ref (ad 2), .ref (ad 3), .ref (ad 4), .ref (ad 5), .ref (ad 6), .ref (ad 7), .int (nI n)])), (ad 5, .inl (kA, 256, .inl (upd (upd g (q + (zN i)) ((g1 q) ||| ((nI 2) <<< ((nI (2 * i)) &&& 31)))) q ((g1 q) ||| ((nI 1) <<< ((nI (2 * i)) &&& 31)))))), (ad 6, .inl (kA, 256, .inl fk)), (ad 7, .inl (kA, 256, .inl fh))] H := hP
              have hD : va_D Az [(ad 0, .inr (1, [.ref (ad 1), .ref (ad 2), .ref (ad 3), .ref (ad 4), .ref (ad 5), .ref (ad 6), .ref (ad 7), .int (nI n)])), (ad 5, .inl (kA, 256, .inl (upd (upd g (q + (zN i)) ((g1 q) ||| ((nI 2) <<< ((nI (2 * i)) &&& 31)))) q ((g1 q) ||| ((nI 1) <<< ((nI (2 * i)) &&& 31)))))), (ad 6, .inl (kA, 256, .inl fk)), (ad 7, .inl (kA, 256, .inl fh))] := hD
              refine lv_iinc (v := (nI (q + 1))) (lv' := [(3, .int (nI (q + 1))), (0, .ref (ad 0)), (1, .int (nI i)), (2, .int (nI (zN i)))]) hx hb dX1_fillPointCubes_62 hl (k := 3) rfl (nI_1 _) (by decide) rfl (fun ls hl => ?_)
              refine lv_goto (tgt := 23) hx hb dX1_fillPointCubes_65 (by decide) ?_
              exact ih2 (q + 1) (upd (upd g (q + (zN i)) ((g1 q) ||| ((nI 2) <<< ((nI (2 * i)) &&& 31)))) q ((g1 q) ||| ((nI 1) <<< ((nI (2 * i)) &&& 31)))) _ _ _ (by omega) (by omega) (by rw [hg]; exact zpo_s c_25) hP (vz_D hD rfl) hS (lv_sub hl [1, 2, 3, 0] rfl)
        exact lp2 _ 0 g1 _ _ _ (Nat.lt_succ_self _) (by omega) zpo_0.symm hP (vz_D hD rfl) hS (lv_sub hl [2, 3, 1, 0] rfl)
  exact lp1 _ 0 _ _ _ _ (Nat.lt_succ_self _) (by omega) rfl hP (vz_D hD rfl) hS (lv_sub hl [1, 0] rfl)
set_option maxHeartbeats 4000000 in
set_option maxRecDepth 100000 in
theorem c_X1_begin (l : Launch) (D : va_G) (kA : ClassId) (ad : Nat → Nat) (n : Nat) (fp fk fh : Nat → Int32) (c0 c1 c2 c3 : Nat) (f0 f1 f2 f3 : Nat → Int32) (hc0 : c0 ≤ 24) (hc1 : c1 ≤ 24) (hc2 : c2 ≤ 24) (k : Nat) (hk : k ≤ 8) : vz_MM l yX1_begin wsX1_begin 1 23 [.ref (ad 0), .int (nI k)] D kA [(ad 0, .inr (1, [.ref (ad 1), .ref (ad 2), .ref (ad 3), .ref (ad 4), .ref (ad 5), .ref (ad 6), .ref (ad 7), .int (nI n)])), (ad 5, .inl (kA, 256, .inl fp)), (ad 6, .inl (kA, 256, .inl fk)), (ad 7, .inl (kA, 256, .inl fh)), (ad 1, .inr (0, [.ref (ad 8), .int (nI c0)])), (ad 8, .inl (kA, 24, .inl f0)), (ad 2, .inr (0, [.ref (ad 9), .int (nI c1)])), (ad 9, .inl (kA, 24, .inl f1)), (ad 3, .inr (0, [.ref (ad 10), .int (nI c2)])), (ad 10, .inl (kA, 24, .inl f2)), (ad 4, .inr (0, [.ref (ad 11), .int (nI c3)])), (ad 11, .inl (kA, 24, .inl f3))] none [(ad 0, .inr (1, [.ref (ad 1), .ref (ad 2), .ref (ad 3), .ref (ad 4), .ref (ad 5), .ref (ad 6), .ref (ad 7), .int (nI k)])), (ad 5, .inl (kA, 256, .inl (zpf fp k))), (ad 6, .inl (kA, 256, .inl (zmk 256 (fun _ => true) (nI 0) fk))), (ad 7, .inl (kA, 256, .inl fh)), (ad 1, .inr (0, [.ref (ad 8), .int (nI 0)])), (ad 8, .inl (kA, 24, .inl f0)), (ad 2, .inr (0, [.ref (ad 9), .int (nI 0)])), (ad 9, .inl (kA, 24, .inl f1)), (ad 3, .inr (0, [.ref (ad 10), .int (nI 0)])), (ad 10, .inl (kA, 24, .inl f2)), (ad 4, .inr (0, [.ref (ad 11), .int (nI c3)])), (ad 11, .inl (kA, 24, .inl f3))] := by
  refine vz_startM (cc := cX1_begin) (maxL := 3) (ret := none) (own := RX1) (by decide) rfl rfl (Nat.le_of_ble_eq_true rfl) ?_
  intro pz ez sz mz below meth cz args Q ls H locs Az hargs hx hb hml hown hts hr hlocks hP hK hD hS hAe hQ hl
  have hcf : CallFix pz mz cz cX1_begin 3 sz args wsX1_begin RX1 := ⟨hx, hb, hml, hown, hts⟩
  have hi0 : ∀ w ∈ u_ws RX1 TX1 8, w ∈ wsX1_begin := by decide +kernel
  have hf12 : (Cond.fieldLink RX1 12 "CubeMin" "onList" "LCubeMin$CubeList;").before args sz = true := hts _ (by decide +kernel)
  have hf16 : (Cond.fieldLink RX1 16 "CubeMin" "dcList" "LCubeMin$CubeList;").before args sz = true := hts _ (by decide +kernel)
  have hf19 : (Cond.fieldLink RX1 19 "CubeMin" "coverList" "LCubeMin$CubeList;").before args sz = true := hts _ (by decide +kernel)
  have hf29 : (Cond.fieldLink RX1 29 "CubeMin" "kinds" "[I").before args sz = true := hts _ (by decide +kernel)
  have hf39 : (Cond.fieldLink RX1 39 "CubeMin" "inputCount" "I").before args sz = true := hts _ (by decide +kernel)
  have hl : lv_has ls 3 [(0, .ref (ad 0)), (1, .int (nI k))] := hl
  refine lv_aload_n hx hb dX1_begin_0 rfl (lv_at hl 0 rfl) ?_
  refine lv_iload_n hx hb dX1_begin_1 rfl (lv_at hl 1 rfl) ?_
  refine va_put (D := D) (ci := 1) (v := .int (nI k)) (ty := .int) (C := RX1) (T := TX1) (N := 8) hx hb hts hi0 tyX1 tyX1_ok nmX1 hown hK hP hD hS 0 rfl rfl 7 (by decide) hf39 (fun _ h9 => h9) rfl (by decide +kernel) rfl rfl (Nat.le_of_ble_eq_true rfl) dX1_begin_2 (fun H locs hP hD hS => ?_)
  have hP : va_P D vwCl [(ad 0, .inr (1, [.ref (ad 1), .ref (ad 2), .ref (ad 3), .ref (ad 4), .ref (ad 5), .ref (ad 6), .ref (ad 7), .int (nI k)])), (ad 5, .inl (kA, 256, .inl fp)), (ad 6, .inl (kA, 256, .inl fk)), (ad 7, .inl (kA, 256, .inl fh)), (ad 1, .inr (0, [.ref (ad 8), .int (nI c0)])), (ad 8, .inl (kA, 24, .inl f0)), (ad 2, .inr (0, [.ref (ad 9), .int (nI c1)])), (ad 9, .inl (kA, 24, .inl f1)), (ad 3, .inr (0, [.ref (ad 10), .int (nI c2)])), (ad 10, .inl (kA, 24, .inl f2)), (ad 4, .inr (0, [.ref (ad 11), .int (nI c3)])), (ad 11, .inl (kA, 24, .inl f3))] H := hP
  have hD : va_D Az [(ad 0, .inr (1, [.ref (ad 1), .ref (ad 2), .ref (ad 3), .ref (ad 4), .ref (ad 5), .ref (ad 6), .ref (ad 7), .int (nI k)])), (ad 5, .inl (kA, 256, .inl fp)), (ad 6, .inl (kA, 256, .inl fk)), (ad 7, .inl (kA, 256, .inl fh)), (ad 1, .inr (0, [.ref (ad 8), .int (nI c0)])), (ad 8, .inl (kA, 24, .inl f0)), (ad 2, .inr (0, [.ref (ad 9), .int (nI c1)])), (ad 9, .inl (kA, 24, .inl f1)), (ad 3, .inr (0, [.ref (ad 10), .int (nI c2)])), (ad 10, .inl (kA, 24, .inl f2)), (ad 4, .inr (0, [.ref (ad 11), .int (nI c3)])), (ad 11, .inl (kA, 24, .inl f3))] := hD
  refine lv_aload_n hx hb dX1_begin_5 rfl (lv_at hl 0 rfl) ?_
  refine va_get (D := D) (ci := 1) (v := .ref (ad 1)) (C := RX1) (T := TX1) (N := 8) hx hb hts hi0 hown hK hP 0 rfl rfl 0 (by decide) hf12 (fun _ h9 => h9) rfl dX1_begin_6 ?_
  refine vz_callM (n := 0) (As := []) (rest := []) (q0 := 0) hcf (c_X0_clear l D kA (ad 1) (ad 8) c0 f0 hc0) gX1_begin_X0_clear rfl hd_X0_clear ⟨Nat.le_of_ble_eq_true rfl, Nat.le_of_ble_eq_true rfl⟩ hK hP hD hS [4, 5] (by decide) rfl rfl rfl rfl rfl rfl rfl hl.1 rfl (Nat.le_of_ble_eq_true rfl) ⟨Nat.zero_le _, Nat.zero_le _⟩ dX1_begin_9 (fun H locs hP hD hS => ?_)
  have hP : va_P D vwCl [(ad 0, .inr (1, [.ref (ad 1), .ref (ad 2), .ref (ad 3), .ref (ad 4), .ref (ad 5), .ref (ad 6), .ref (ad 7), .int (nI k)])), (ad 5, .inl (kA, 256, .inl fp)), (ad 6, .inl (kA, 256, .inl fk)), (ad 7, .inl (kA, 256, .inl fh)), (ad 1, .inr (0, [.ref (ad 8), .int (nI 0)])), (ad 8, .inl (kA, 24, .inl f0)), (ad 2, .inr (0, [.ref (ad 9), .int (nI c1)])), (ad 9, .inl (kA, 24, .inl f1)), (ad 3, .inr (0, [.ref (ad 10), .int (nI c2)])), (ad 10, .inl (kA, 24, .inl f2)), (ad 4, .inr (0, [.ref (ad 11), .int (nI c3)])), (ad 11, .inl (kA, 24, .inl f3))] H := hP
  have hD : va_D Az [(ad 0, .inr (1, [.ref (ad 1), .ref (ad 2), .ref (ad 3), .ref (ad 4), .ref (ad 5), .ref (ad 6), .ref (ad 7), .int (nI k)])), (ad 5, .inl (kA, 256, .inl fp)), (ad 6, .inl (kA, 256, .inl fk)), (ad 7, .inl (kA, 256, .inl fh)), (ad 1, .inr (0, [.ref (ad 8), .int (nI 0)])), (ad 8, .inl (kA, 24, .inl f0)), (ad 2, .inr (0, [.ref (ad 9), .int (nI c1)])), (ad 9, .inl (kA, 24, .inl f1)), (ad 3, .inr (0, [.ref (ad 10), .int (nI c2)])), (ad 10, .inl (kA, 24, .inl f2)), (ad 4, .inr (0, [.ref (ad 11), .int (nI c3)])), (ad 11, .inl (kA, 24, .inl f3))] := hD
  refine lv_aload_n hx hb dX1_begin_12 rfl (lv_at hl 0 rfl) ?_
  refine va_get (D := D) (ci := 1) (v := .ref (ad 2)) (C := RX1) (T := TX1) (N := 8) hx hb hts hi0 hown hK hP 0 rfl rfl 1 (by decide) hf16 (fun _ h9 => h9) rfl dX1_begin_13 ?_
  refine vz_callM (n := 0) (As := []) (rest := []) (q0 := 0) hcf (c_X0_clear l D kA (ad 2) (ad 9) c1 f1 hc1) gX1_begin_X0_clear rfl hd_X0_clear ⟨Nat.le_of_ble_eq_true rfl, Nat.le_of_ble_eq_true rfl⟩ hK hP hD hS [6, 7] (by decide) rfl rfl rfl rfl rfl rfl rfl hl.1 rfl (Nat.le_of_ble_eq_true rfl) ⟨Nat.zero_le _, Nat.zero_le _⟩ dX1_begin_16 (fun H locs hP hD hS => ?_)
  have hP : va_P D vwCl [(ad 0, .inr (1, [.ref (ad 1), .ref (ad 2), .ref (ad 3), .ref (ad 4), .ref (ad 5), .ref (ad 6), .ref (ad 7), .int (nI k)])), (ad 5, .inl (kA, 256, .inl fp)), (ad 6, .inl (kA, 256, .inl fk)), (ad 7, .inl (kA, 256, .inl fh)), (ad 1, .inr (0, [.ref (ad 8), .int (nI 0)])), (ad 8, .inl (kA, 24, .inl f0)), (ad 2, .inr (0, [.ref (ad 9), .int (nI 0)])), (ad 9, .inl (kA, 24, .inl f1)), (ad 3, .inr (0, [.ref (ad 10), .int (nI c2)])), (ad 10, .inl (kA, 24, .inl f2)), (ad 4, .inr (0, [.ref (ad 11), .int (nI c3)])), (ad 11, .inl (kA, 24, .inl f3))] H := hP
  have hD : va_D Az [(ad 0, .inr (1, [.ref (ad 1), .ref (ad 2), .ref (ad 3), .ref (ad 4), .ref (ad 5), .ref (ad 6), .ref (ad 7), .int (nI k)])), (ad 5, .inl (kA, 256, .inl fp)), (ad 6, .inl (kA, 256, .inl fk)), (ad 7, .inl (kA, 256, .inl fh)), (ad 1, .inr (0, [.ref (ad 8), .int (nI 0)])), (ad 8, .inl (kA, 24, .inl f0)), (ad 2, .inr (0, [.ref (ad 9), .int (nI 0)])), (ad 9, .inl (kA, 24, .inl f1)), (ad 3, .inr (0, [.ref (ad 10), .int (nI c2)])), (ad 10, .inl (kA, 24, .inl f2)), (ad 4, .inr (0, [.ref (ad 11), .int (nI c3)])), (ad 11, .inl (kA, 24, .inl f3))] := hD
  refine lv_aload_n hx hb dX1_begin_19 rfl (lv_at hl 0 rfl) ?_
  refine va_get (D := D) (ci := 1) (v := .ref (ad 3)) (C := RX1) (T := TX1) (N := 8) hx hb hts hi0 hown hK hP 0 rfl rfl 2 (by decide) hf19 (fun _ h9 => h9) rfl dX1_begin_20 ?_
  refine vz_callM (n := 0) (As := []) (rest := []) (q0 := 0) hcf (c_X0_clear l D kA (ad 3) (ad 10) c2 f2 hc2) gX1_begin_X0_clear rfl hd_X0_clear ⟨Nat.le_of_ble_eq_true rfl, Nat.le_of_ble_eq_true rfl⟩ hK hP hD hS [8, 9] (by decide) rfl rfl rfl rfl rfl rfl rfl hl.1 rfl (Nat.le_of_ble_eq_true rfl) ⟨Nat.zero_le _, Nat.zero_le _⟩ dX1_begin_23 (fun H locs hP hD hS => ?_)
  have hP : va_P D vwCl [(ad 0, .inr (1, [.ref (ad 1), .ref (ad 2), .ref (ad 3), .ref (ad 4), .ref (ad 5), .ref (ad 6), .ref (ad 7), .int (nI k)])), (ad 5, .inl (kA, 256, .inl fp)), (ad 6, .inl (kA, 256, .inl fk)), (ad 7, .inl (kA, 256, .inl fh)), (ad 1, .inr (0, [.ref (ad 8), .int (nI 0)])), (ad 8, .inl (kA, 24, .inl f0)), (ad 2, .inr (0, [.ref (ad 9), .int (nI 0)])), (ad 9, .inl (kA, 24, .inl f1)), (ad 3, .inr (0, [.ref (ad 10), .int (nI 0)])), (ad 10, .inl (kA, 24, .inl f2)), (ad 4, .inr (0, [.ref (ad 11), .int (nI c3)])), (ad 11, .inl (kA, 24, .inl f3))] H := hP
  have hD : va_D Az [(ad 0, .inr (1, [.ref (ad 1), .ref (ad 2), .ref (ad 3), .ref (ad 4), .ref (ad 5), .ref (ad 6), .ref (ad 7), .int (nI k)])), (ad 5, .inl (kA, 256, .inl fp)), (ad 6, .inl (kA, 256, .inl fk)), (ad 7, .inl (kA, 256, .inl fh)), (ad 1, .inr (0, [.ref (ad 8), .int (nI 0)])), (ad 8, .inl (kA, 24, .inl f0)), (ad 2, .inr (0, [.ref (ad 9), .int (nI 0)])), (ad 9, .inl (kA, 24, .inl f1)), (ad 3, .inr (0, [.ref (ad 10), .int (nI 0)])), (ad 10, .inl (kA, 24, .inl f2)), (ad 4, .inr (0, [.ref (ad 11), .int (nI c3)])), (ad 11, .inl (kA, 24, .inl f3))] := hD
  refine lv_aload_n hx hb dX1_begin_26 rfl (lv_at hl 0 rfl) ?_
  refine vz_callM (n := 0) (As := []) (rest := []) (q0 := 0) hcf (c_X1_fillPointCubes l D kA ad k fp fk fh hk) gX1_begin_X1_fillPointCubes rfl hd_X1_fillPointCubes ⟨Nat.le_of_ble_eq_true rfl, Nat.le_of_ble_eq_true rfl⟩ hK hP hD hS [0, 1, 2, 3] (by decide) rfl rfl rfl rfl rfl rfl rfl hl.1 rfl (Nat.le_of_ble_eq_true rfl) ⟨Nat.zero_le _, Nat.zero_le _⟩ dX1_begin_27 (fun H locs hP hD hS => ?_)
  have hP : va_P D vwCl [(ad 0, .inr (1, [.ref (ad 1), .ref (ad 2), .ref (ad 3), .ref (ad 4), .ref (ad 5), .ref (ad 6), .ref (ad 7), .int (nI k)])), (ad 5, .inl (kA, 256, .inl (zpf fp k))), (ad 6, .inl (kA, 256, .inl fk)), (ad 7, .inl (kA, 256, .inl fh)), (ad 1, .inr (0, [.ref (ad 8), .int (nI 0)])), (ad 8, .inl (kA, 24, .inl f0)), (ad 2, .inr (0, [.ref (ad 9), .int (nI 0)])), (ad 9, .inl (kA, 24, .inl f1)), (ad 3, .inr (0, [.ref (ad 10), .int (nI 0)])), (ad 10, .inl (kA, 24, .inl f2)), (ad 4, .inr (0, [.ref (ad 11), .int (nI c3)])), (ad 11, .inl (kA, 24, .inl f3))] H := hP
  have hD : va_D Az [(ad 0, .inr (1, [.ref (ad 1), .ref (ad 2), .ref (ad 3), .ref (ad 4), .ref (ad 5), .ref (ad 6), .ref (ad 7), .int (nI k)])), (ad 5, .inl (kA, 256, .inl (zpf fp k))), (ad 6, .inl (kA, 256, .inl fk)), (ad 7, .inl (kA, 256, .inl fh)), (ad 1, .inr (0, [.ref (ad 8), .int (nI 0)])), (ad 8, .inl (kA, 24, .inl f0)), (ad 2, .inr (0, [.ref (ad 9), .int (nI 0)])), (ad 9, .inl (kA, 24, .inl f1)), (ad 3, .inr (0, [.ref (ad 10), .int (nI 0)])), (ad 10, .inl (kA, 24, .inl f2)), (ad 4, .inr (0, [.ref (ad 11), .int (nI c3)])), (ad 11, .inl (kA, 24, .inl f3))] := hD
  refine lv_iconst (v := nI 0) hx hb dX1_begin_30 (by decide) ?_
  refine lv_istore_n (lv' := [(2, .int (nI 0)), (0, .ref (ad 0)), (1, .int (nI k))]) hx hb dX1_begin_31 rfl hl (by decide) rfl (fun ls hl => ?_)
  have lp1 : ∀ (dz : Nat) (i : Nat) (g : Nat → Int32) (H : Heap) (locs : List Loc) (ls : Array Slot), (256 - i) < dz → (i ≤ 256) → (g = zmk i (fun _ => true) (nI 0) fk) → va_P D vwCl [(ad 0, .inr (1, [.ref (ad 1), .ref (ad 2), .ref (ad 3), .ref (ad 4), .ref (ad 5), .ref (ad 6), .ref (ad 7), .int (nI k)])), (ad 5, .inl (kA, 256, .inl (zpf fp k))), (ad 6, .inl (kA, 256, .inl g)), (ad 7, .inl (kA, 256, .inl fh)), (ad 1, .inr (0, [.ref (ad 8), .int (nI 0)])), (ad 8, .inl (kA, 24, .inl f0)), (ad 2, .inr (0, [.ref (ad 9), .int (nI 0)])), (ad 9, .inl (kA, 24, .inl f1)), (ad 3, .inr (0, [.ref (ad 10), .int (nI 0)])), (ad 10, .inl (kA, 24, .inl f2)), (ad 4, .inr (0, [.ref (ad 11), .int (nI c3)])), (ad 11, .inl (kA, 24, .inl f3))] H → va_D Az [(ad 0, .inr (1, [.ref (ad 1), .ref (ad 2), .ref (ad 3), .ref (ad 4), .ref (ad 5), .ref (ad 6), .ref (ad 7), .int (nI k)])), (ad 5, .inl (kA, 256, .inl (zpf fp k))), (ad 6, .inl (kA, 256, .inl g)), (ad 7, .inl (kA, 256, .inl fh)), (ad 1, .inr (0, [.ref (ad 8), .int (nI 0)])), (ad 8, .inl (kA, 24, .inl f0)), (ad 2, .inr (0, [.ref (ad 9), .int (nI 0)])), (ad 9, .inl (kA, 24, .inl f1)), (ad 3, .inr (0, [.ref (ad 10), .int (nI 0)])), (ad 10, .inl (kA, 24, .inl f2)), (ad 4, .inr (0, [.ref (ad 11), .int (nI c3)])), (ad 11, .inl (kA, 24, .inl f3))] → va_S Az sz.heap H locs → lv_has ls 3 [(0, .ref (ad 0)), (1, .int (nI k)), (2, .int (nI i))] → W pz l ez (vz_R 1 23) sz mz args below meth cz H locs 0 0 Q (F0 mz 32 ls []) := by
    intro dz
    induction dz with
    | zero => intro i g H locs ls hd h1 hg hP hD hS hl; exact absurd hd (Nat.not_lt_zero _)
    | succ dz ih1 =>
      intro i g H locs ls hd h1 hg hP hD hS hl
      refine lv_iload_n hx hb dX1_begin_32 rfl (lv_at hl 2 rfl) ?_
      refine lv_sipush (v := nI 256) hx hb dX1_begin_33 (by decide) ?_
      refine vz_cge (tgt := 52) hx hb dX1_begin_36 (by decide) (by omega) (by omega) (fun c_36 => ?_) (fun c_36 => ?_)
      · skip
        obtain rfl : i = 256 := by omega
        subst hg
        exact vz_vretM hx hb hr hlocks hQ hAe dX1_begin_52 hS hP rfl
      · skip
        refine lv_aload_n hx hb dX1_begin_39 rfl (lv_at hl 0 rfl) ?_
        refine va_get (D := D) (ci := 1) (v := .ref (ad 6)) (C := RX1) (T := TX1) (N := 8) hx hb hts hi0 hown hK hP 0 rfl rfl 5 (by decide) hf29 (fun _ h9 => h9) rfl dX1_begin_40 ?_
        refine lv_iload_n hx hb dX1_begin_43 rfl (lv_at hl 2 rfl) ?_
        refine lv_iconst (v := nI 0) hx hb dX1_begin_44 (by decide) ?_
        refine vz_ast hx hb hK hP hD hS 2 rfl (by omega) (Nat.le_of_ble_eq_true rfl) dX1_begin_45 (fun H locs hP hD hS => ?_)
        have hP : va_P D vwCl [(ad 0, .inr (1, [.ref (ad 1), .ref (ad 2), .ref (ad 3), .ref (ad 4), .ref (ad 5), .ref (ad 6), .ref (ad 7), .int (nI k)])), (ad 5, .inl (kA, 256, .inl (zpf fp k))), (ad 6, .inl (kA, 256, .inl (upd g i (nI 0)))), (ad 7, .inl (kA, 256, .inl fh)), (ad 1, .inr (0, [.ref (ad 8), .int (nI 0)])), (ad 8, .inl (kA, 24, .inl f0)), (ad 2, .inr (0, [.ref (ad 9), .int (nI 0)])), (ad 9, .inl (kA, 24, .inl f1)), (ad 3, .inr (0, [.ref (ad 10), .int (nI 0)])), (ad 10, .inl (kA, 24, .inl f2)), (ad 4, .inr (0, [.ref (ad 11), .int (nI c3)])), (ad 11, .inl (kA, 24, .inl f3))] H := hP
        have hD : va_D Az [(ad 0, .inr (1, [.ref (ad 1), .ref (ad 2), .ref (ad 3), .ref (ad 4), .ref (ad 5), .ref (ad 6), .ref (ad 7), .int (nI k)])), (ad 5, .inl (kA, 256, .inl (zpf fp k))), (ad 6, .inl (kA, 256, .inl (upd g i (nI 0)))), (ad 7, .inl (kA, 256, .inl fh)), (ad 1, .inr (0, [.ref (ad 8), .int (nI 0)])), (ad 8, .inl (kA, 24, .inl f0)), (ad 2, .inr (0, [.ref (ad 9), .int (nI 0)])), (ad 9, .inl (kA, 24, .inl f1)), (ad 3, .inr (0, [.ref (ad 10), .int (nI 0)])), (ad 10, .inl (kA, 24, .inl f2)), (ad 4, .inr (0, [.ref (ad 11), .int (nI c3)])), (ad 11, .inl (kA, 24, .inl f3))] := hD
        refine lv_iinc (v := (nI (i + 1))) (lv' := [(2, .int (nI (i + 1))), (0, .ref (ad 0)), (1, .int (nI k))]) hx hb dX1_begin_46 hl (k := 2) rfl (nI_1 _) (by decide) rfl (fun ls hl => ?_)
        refine lv_goto (tgt := 32) hx hb dX1_begin_49 (by decide) ?_
        exact ih1 (i + 1) (upd g i (nI 0)) _ _ _ (by omega) (by omega) (by rw [hg]; exact zmk_t rfl) hP (vz_D hD rfl) hS (lv_sub hl [1, 2, 0] rfl)
  exact lp1 _ 0 fk _ _ _ (Nat.lt_succ_self _) (by omega) zmk_0.symm hP (vz_D hD rfl) hS (lv_sub hl [1, 2, 0] rfl)
set_option maxHeartbeats 4000000 in
set_option maxRecDepth 100000 in
theorem c_X1_start (l : Launch) (D : va_G) (kA : ClassId) (ad : Nat → Nat) (n : Nat) (fp fk fh : Nat → Int32) (c0 c1 c2 c3 : Nat) (f0 f1 f2 f3 : Nat → Int32) (hc0 : c0 ≤ 24) (hc1 : c1 ≤ 24) (hc2 : c2 ≤ 24) (k : Nat) (hk1 : 1 ≤ k) (hk : k ≤ 8) : vz_MM l yX1_start wsX1_start 2 45 [.ref (ad 0), .int (nI k)] D kA [(ad 0, .inr (1, [.ref (ad 1), .ref (ad 2), .ref (ad 3), .ref (ad 4), .ref (ad 5), .ref (ad 6), .ref (ad 7), .int (nI n)])), (ad 5, .inl (kA, 256, .inl fp)), (ad 6, .inl (kA, 256, .inl fk)), (ad 7, .inl (kA, 256, .inl fh)), (ad 1, .inr (0, [.ref (ad 8), .int (nI c0)])), (ad 8, .inl (kA, 24, .inl f0)), (ad 2, .inr (0, [.ref (ad 9), .int (nI c1)])), (ad 9, .inl (kA, 24, .inl f1)), (ad 3, .inr (0, [.ref (ad 10), .int (nI c2)])), (ad 10, .inl (kA, 24, .inl f2)), (ad 4, .inr (0, [.ref (ad 11), .int (nI c3)])), (ad 11, .inl (kA, 24, .inl f3))] (some (.int (nI 1))) [(ad 0, .inr (1, [.ref (ad 1), .ref (ad 2), .ref (ad 3), .ref (ad 4), .ref (ad 5), .ref (ad 6), .ref (ad 7), .int (nI k)])), (ad 5, .inl (kA, 256, .inl (zpf fp k))), (ad 6, .inl (kA, 256, .inl (zmk 256 (fun _ => true) (nI 0) fk))), (ad 7, .inl (kA, 256, .inl fh)), (ad 1, .inr (0, [.ref (ad 8), .int (nI 0)])), (ad 8, .inl (kA, 24, .inl f0)), (ad 2, .inr (0, [.ref (ad 9), .int (nI 0)])), (ad 9, .inl (kA, 24, .inl f1)), (ad 3, .inr (0, [.ref (ad 10), .int (nI 0)])), (ad 10, .inl (kA, 24, .inl f2)), (ad 4, .inr (0, [.ref (ad 11), .int (nI c3)])), (ad 11, .inl (kA, 24, .inl f3))] := by
  refine vz_startM (cc := cX1_start) (maxL := 2) (ret := (some .boolean)) (own := RX1) (by decide) rfl rfl (Nat.le_of_ble_eq_true rfl) ?_
  intro pz ez sz mz below meth cz args Q ls H locs Az hargs hx hb hml hown hts hr hlocks hP hK hD hS hAe hQ hl
  have hcf : CallFix pz mz cz cX1_start 2 sz args wsX1_start RX1 := ⟨hx, hb, hml, hown, hts⟩
  have hl : lv_has ls 2 [(0, .ref (ad 0)), (1, .int (nI k))] := hl
  refine lv_iload_n hx hb dX1_start_0 rfl (lv_at hl 1 rfl) ?_
  refine lv_iconst (v := nI 1) hx hb dX1_start_1 (by decide) ?_
  refine vz_clt (tgt := 11) hx hb dX1_start_2 (by decide) (by omega) (by omega) (fun c_2 => absurd c_2 (by omega)) (fun c_2 => ?_)
  refine lv_iload_n hx hb dX1_start_5 rfl (lv_at hl 1 rfl) ?_
  refine lv_bipush (v := nI 8) hx hb dX1_start_6 (by decide) ?_
  refine vz_cle (tgt := 13) hx hb dX1_start_8 (by decide) (by omega) (by omega) (fun c_8 => ?_) (fun c_8 => absurd c_8 (by omega))
  refine lv_aload_n hx hb dX1_start_13 rfl (lv_at hl 0 rfl) ?_
  refine lv_iload_n hx hb dX1_start_14 rfl (lv_at hl 1 rfl) ?_
  refine vz_callM (n := 1) (As := [.int (nI k)]) (rest := []) (q0 := 0) hcf (c_X1_begin l D kA ad n fp fk fh c0 c1 c2 c3 f0 f1 f2 f3 hc0 hc1 hc2 k hk) gX1_start_X1_begin rfl hd_X1_begin ⟨Nat.le_of_ble_eq_true rfl, Nat.le_of_ble_eq_true rfl⟩ hK hP hD hS [0, 1, 2, 3, 4, 5, 6, 7, 8, 9, 10, 11] (by decide) rfl rfl rfl rfl rfl rfl rfl hl.1 rfl (Nat.le_of_ble_eq_true rfl) ⟨Nat.zero_le _, Nat.zero_le _⟩ dX1_start_15 (fun H locs hP hD hS => ?_)
  have hP : va_P D vwCl [(ad 0, .inr (1, [.ref (ad 1), .ref (ad 2), .ref (ad 3), .ref (ad 4), .ref (ad 5), .ref (ad 6), .ref (ad 7), .int (nI k)])), (ad 5, .inl (kA, 256, .inl (zpf fp k))), (ad 6, .inl (kA, 256, .inl (zmk 256 (fun _ => true) (nI 0) fk))), (ad 7, .inl (kA, 256, .inl fh)), (ad 1, .inr (0, [.ref (ad 8), .int (nI 0)])), (ad 8, .inl (kA, 24, .inl f0)), (ad 2, .inr (0, [.ref (ad 9), .int (nI 0)])), (ad 9, .inl (kA, 24, .inl f1)), (ad 3, .inr (0, [.ref (ad 10), .int (nI 0)])), (ad 10, .inl (kA, 24, .inl f2)), (ad 4, .inr (0, [.ref (ad 11), .int (nI c3)])), (ad 11, .inl (kA, 24, .inl f3))] H := hP
  have hD : va_D Az [(ad 0, .inr (1, [.ref (ad 1), .ref (ad 2), .ref (ad 3), .ref (ad 4), .ref (ad 5), .ref (ad 6), .ref (ad 7), .int (nI k)])), (ad 5, .inl (kA, 256, .inl (zpf fp k))), (ad 6, .inl (kA, 256, .inl (zmk 256 (fun _ => true) (nI 0) fk))), (ad 7, .inl (kA, 256, .inl fh)), (ad 1, .inr (0, [.ref (ad 8), .int (nI 0)])), (ad 8, .inl (kA, 24, .inl f0)), (ad 2, .inr (0, [.ref (ad 9), .int (nI 0)])), (ad 9, .inl (kA, 24, .inl f1)), (ad 3, .inr (0, [.ref (ad 10), .int (nI 0)])), (ad 10, .inl (kA, 24, .inl f2)), (ad 4, .inr (0, [.ref (ad 11), .int (nI c3)])), (ad 11, .inl (kA, 24, .inl f3))] := hD
  refine lv_iconst (v := nI 1) hx hb dX1_start_18 (by decide) ?_
  exact vz_iretM hx hb hr hlocks hQ hAe (rfl) dX1_start_19 rfl hS hP rfl
set_option maxHeartbeats 4000000 in
set_option maxRecDepth 100000 in
theorem c_X1_start_no (l : Launch) (D : va_G) (kA : ClassId) (ad : Nat → Nat) (n : Nat) (fp fk fh : Nat → Int32) (c0 c1 c2 c3 : Nat) (f0 f1 f2 f3 : Nat → Int32) (x : Int32) (hx1 : x < nI 1 ∨ nI 8 < x) : vz_M l yX1_start wsX1_start 0 0 [.ref (ad 0), .int x] D kA [(ad 0, .inr (1, [.ref (ad 1), .ref (ad 2), .ref (ad 3), .ref (ad 4), .ref (ad 5), .ref (ad 6), .ref (ad 7), .int (nI n)])), (ad 5, .inl (kA, 256, .inl fp)), (ad 6, .inl (kA, 256, .inl fk)), (ad 7, .inl (kA, 256, .inl fh)), (ad 1, .inr (0, [.ref (ad 8), .int (nI c0)])), (ad 8, .inl (kA, 24, .inl f0)), (ad 2, .inr (0, [.ref (ad 9), .int (nI c1)])), (ad 9, .inl (kA, 24, .inl f1)), (ad 3, .inr (0, [.ref (ad 10), .int (nI c2)])), (ad 10, .inl (kA, 24, .inl f2)), (ad 4, .inr (0, [.ref (ad 11), .int (nI c3)])), (ad 11, .inl (kA, 24, .inl f3))] (some (.int (nI 0))) := by
  refine vz_start (cc := cX1_start) (maxL := 2) (ret := (some .boolean)) (own := RX1) (by decide) rfl rfl (Nat.le_of_ble_eq_true rfl) ?_
  intro pz ez sz mz below meth cz args Q ls hargs hx hb hml hown hts hr hlocks hP hK hQ hl
  have hcf : CallFix pz mz cz cX1_start 2 sz args wsX1_start RX1 := ⟨hx, hb, hml, hown, hts⟩
  have hl : lv_has ls 2 [(0, .ref (ad 0)), (1, .int x)] := hl
  refine lv_iload_n hx hb dX1_start_0 rfl (lv_at hl 1 rfl) ?_
  refine lv_iconst (v := nI 1) hx hb dX1_start_1 (by decide) ?_
  refine lv_icmp_lt (tgt := 11) hx hb dX1_start_2 (by decide) (fun c_2 => ?_) (fun c_2 => ?_)
  · skip
    refine lv_iconst (v := nI 0) hx hb dX1_start_11 (by decide) ?_
    exact vz_iret hx hb hr hlocks hQ (rfl) dX1_start_12 rfl
  · skip
    refine lv_iload_n hx hb dX1_start_5 rfl (lv_at hl 1 rfl) ?_
    refine lv_bipush (v := nI 8) hx hb dX1_start_6 (by decide) ?_
    refine lv_icmp_le (tgt := 13) hx hb dX1_start_8 (by decide) (fun c_8 => absurd c_8 (by rcases hx1 with h | h; exact absurd h c_2; exact Int32.not_le.mpr h)) (fun c_8 => ?_)
    refine lv_iconst (v := nI 0) hx hb dX1_start_11 (by decide) ?_
    exact vz_iret hx hb hr hlocks hQ (rfl) dX1_start_12 rfl
set_option maxHeartbeats 4000000 in
set_option maxRecDepth 100000 in
theorem c_X1_inputs (l : Launch) (D : va_G) (kA : ClassId) (ad : Nat → Nat) (n : Nat) (fp fk fh : Nat → Int32) (hn : n ≤ 8) : vz_M l yX1_inputs wsX1_inputs 0 0 [.ref (ad 0)] D kA [(ad 0, .inr (1, [.ref (ad 1), .ref (ad 2), .ref (ad 3), .ref (ad 4), .ref (ad 5), .ref (ad 6), .ref (ad 7), .int (nI n)])), (ad 5, .inl (kA, 256, .inl fp)), (ad 6, .inl (kA, 256, .inl fk)), (ad 7, .inl (kA, 256, .inl fh))] (some (.int (nI n))) := by
  refine vz_start (cc := cX1_inputs) (maxL := 1) (ret := (some .int)) (own := RX1) (by decide) rfl rfl (Nat.le_of_ble_eq_true rfl) ?_
  intro pz ez sz mz below meth cz args Q ls hargs hx hb hml hown hts hr hlocks hP hK hQ hl
  have hcf : CallFix pz mz cz cX1_inputs 1 sz args wsX1_inputs RX1 := ⟨hx, hb, hml, hown, hts⟩
  have hi0 : ∀ w ∈ u_ws RX1 TX1 8, w ∈ wsX1_inputs := by decide +kernel
  have hf39 : (Cond.fieldLink RX1 39 "CubeMin" "inputCount" "I").before args sz = true := hts _ (by decide +kernel)
  have hl : lv_has ls 1 [(0, .ref (ad 0))] := hl
  refine lv_aload_n hx hb dX1_inputs_0 rfl (lv_at hl 0 rfl) ?_
  refine va_get (D := D) (ci := 1) (v := .int (nI n)) (C := RX1) (T := TX1) (N := 8) hx hb hts hi0 hown hK hP 0 rfl rfl 7 (by decide) hf39 (fun _ h9 => h9) rfl dX1_inputs_1 ?_
  exact vz_iret hx hb hr hlocks hQ (vp_nar_int _) dX1_inputs_4 rfl
set_option maxHeartbeats 4000000 in
set_option maxRecDepth 100000 in
theorem c_X1_on (l : Launch) (D : va_G) (kA : ClassId) (ad : Nat → Nat) (n : Nat) (fp fk fh : Nat → Int32) (c0 c1 c2 c3 : Nat) (f0 f1 f2 f3 : Nat → Int32) (hn : n ≤ 8) (hc2 : c2 ≤ 24) (hcl : c0 < 24) (x : Int32) (hq : (!decide (x < 0) && !decide (nI (4 ^ n) ≤ x)) = true) : vz_MM l yX1_on wsX1_on 2 45 [.ref (ad 0), .int x] D kA [(ad 0, .inr (1, [.ref (ad 1), .ref (ad 2), .ref (ad 3), .ref (ad 4), .ref (ad 5), .ref (ad 6), .ref (ad 7), .int (nI n)])), (ad 5, .inl (kA, 256, .inl fp)), (ad 6, .inl (kA, 256, .inl fk)), (ad 7, .inl (kA, 256, .inl fh)), (ad 1, .inr (0, [.ref (ad 8), .int (nI c0)])), (ad 8, .inl (kA, 24, .inl f0)), (ad 2, .inr (0, [.ref (ad 9), .int (nI c1)])), (ad 9, .inl (kA, 24, .inl f1)), (ad 3, .inr (0, [.ref (ad 10), .int (nI c2)])), (ad 10, .inl (kA, 24, .inl f2)), (ad 4, .inr (0, [.ref (ad 11), .int (nI c3)])), (ad 11, .inl (kA, 24, .inl f3))] (some (.int (nI 1))) [(ad 0, .inr (1, [.ref (ad 1), .ref (ad 2), .ref (ad 3), .ref (ad 4), .ref (ad 5), .ref (ad 6), .ref (ad 7), .int (nI n)])), (ad 5, .inl (kA, 256, .inl fp)), (ad 6, .inl (kA, 256, .inl (zmk (zN n) (fun q => decide (fk q = 0) && zX_in fp x q) (nI 1) fk))), (ad 7, .inl (kA, 256, .inl fh)), (ad 1, .inr (0, [.ref (ad 8), .int (nI (c0 + 1))])), (ad 8, .inl (kA, 24, .inl (upd f0 c0 x))), (ad 2, .inr (0, [.ref (ad 9), .int (nI c1)])), (ad 9, .inl (kA, 24, .inl f1)), (ad 3, .inr (0, [.ref (ad 10), .int (nI 0)])), (ad 10, .inl (kA, 24, .inl f2)), (ad 4, .inr (0, [.ref (ad 11), .int (nI c3)])), (ad 11, .inl (kA, 24, .inl f3))] := by
  refine vz_startM (cc := cX1_on) (maxL := 2) (ret := (some .boolean)) (own := RX1) (by decide) rfl rfl (Nat.le_of_ble_eq_true rfl) ?_
  intro pz ez sz mz below meth cz args Q ls H locs Az hargs hx hb hml hown hts hr hlocks hP hK hD hS hAe hQ hl
  have hcf : CallFix pz mz cz cX1_on 2 sz args wsX1_on RX1 := ⟨hx, hb, hml, hown, hts⟩
  have hi0 : ∀ w ∈ u_ws RX1 TX1 8, w ∈ wsX1_on := by decide +kernel
  have hf12 : (Cond.fieldLink RX1 12 "CubeMin" "onList" "LCubeMin$CubeList;").before args sz = true := hts _ (by decide +kernel)
  have hf19 : (Cond.fieldLink RX1 19 "CubeMin" "coverList" "LCubeMin$CubeList;").before args sz = true := hts _ (by decide +kernel)
  have hl : lv_has ls 2 [(0, .ref (ad 0)), (1, .int x)] := hl
  refine lv_aload_n hx hb dX1_on_0 rfl (lv_at hl 0 rfl) ?_
  refine lv_iload_n hx hb dX1_on_1 rfl (lv_at hl 1 rfl) ?_
  refine vz_callV (n := 1) (As := [.int x]) (rest := []) (q0 := 0) hcf (c_X1_isCube l D kA ad n fp fk fh hn x) gX1_on_X1_isCube rfl hd_X1_isCube ⟨Nat.le_of_ble_eq_true rfl, Nat.le_of_ble_eq_true rfl⟩ hK (hP.sub [0, 1, 2, 3] rfl) rfl rfl rfl rfl hl.1 rfl (Nat.le_of_ble_eq_true rfl) ⟨Nat.zero_le _, Nat.zero_le _⟩ dX1_on_2 ?_
  refine vz_ifeqB (tgt := 19) hx hb dX1_on_5 (by decide) (fun c_5 => absurd c_5 (by rw [hq]; decide)) (fun c_5 => ?_)
  refine lv_aload_n hx hb dX1_on_8 rfl (lv_at hl 0 rfl) ?_
  refine va_get (D := D) (ci := 1) (v := .ref (ad 1)) (C := RX1) (T := TX1) (N := 8) hx hb hts hi0 hown hK hP 0 rfl rfl 0 (by decide) hf12 (fun _ h9 => h9) rfl dX1_on_9 ?_
  refine lv_iload_n hx hb dX1_on_12 rfl (lv_at hl 1 rfl) ?_
  refine vz_callM (n := 1) (As := [.int x]) (rest := []) (q0 := 0) hcf (c_X0_append l D kA (ad 1) (ad 8) c0 f0 hcl x) gX1_on_X0_append rfl hd_X0_append ⟨Nat.le_of_ble_eq_true rfl, Nat.le_of_ble_eq_true rfl⟩ hK hP hD hS [4, 5] (by decide) rfl rfl rfl rfl rfl rfl rfl hl.1 rfl (Nat.le_of_ble_eq_true rfl) ⟨Nat.zero_le _, Nat.zero_le _⟩ dX1_on_13 (fun H locs hP hD hS => ?_)
  have hP : va_P D vwCl [(ad 0, .inr (1, [.ref (ad 1), .ref (ad 2), .ref (ad 3), .ref (ad 4), .ref (ad 5), .ref (ad 6), .ref (ad 7), .int (nI n)])), (ad 5, .inl (kA, 256, .inl fp)), (ad 6, .inl (kA, 256, .inl fk)), (ad 7, .inl (kA, 256, .inl fh)), (ad 1, .inr (0, [.ref (ad 8), .int (nI (c0 + 1))])), (ad 8, .inl (kA, 24, .inl (upd f0 c0 x))), (ad 2, .inr (0, [.ref (ad 9), .int (nI c1)])), (ad 9, .inl (kA, 24, .inl f1)), (ad 3, .inr (0, [.ref (ad 10), .int (nI c2)])), (ad 10, .inl (kA, 24, .inl f2)), (ad 4, .inr (0, [.ref (ad 11), .int (nI c3)])), (ad 11, .inl (kA, 24, .inl f3))] H := hP
  have hD : va_D Az [(ad 0, .inr (1, [.ref (ad 1), .ref (ad 2), .ref (ad 3), .ref (ad 4), .ref (ad 5), .ref (ad 6), .ref (ad 7), .int (nI n)])), (ad 5, .inl (kA, 256, .inl fp)), (ad 6, .inl (kA, 256, .inl fk)), (ad 7, .inl (kA, 256, .inl fh)), (ad 1, .inr (0, [.ref (ad 8), .int (nI (c0 + 1))])), (ad 8, .inl (kA, 24, .inl (upd f0 c0 x))), (ad 2, .inr (0, [.ref (ad 9), .int (nI c1)])), (ad 9, .inl (kA, 24, .inl f1)), (ad 3, .inr (0, [.ref (ad 10), .int (nI c2)])), (ad 10, .inl (kA, 24, .inl f2)), (ad 4, .inr (0, [.ref (ad 11), .int (nI c3)])), (ad 11, .inl (kA, 24, .inl f3))] := hD
  refine lv_if_ne (tgt := 21) hx hb dX1_on_16 (by decide) (fun c_16 => ?_) (fun c_16 => absurd c_16 (by decide))
  refine lv_aload_n hx hb dX1_on_21 rfl (lv_at hl 0 rfl) ?_
  refine lv_iload_n hx hb dX1_on_22 rfl (lv_at hl 1 rfl) ?_
  refine vz_callM (n := 1) (As := [.int x]) (rest := []) (q0 := 0) hcf (c_X1_markWanted l D kA ad n fp fk fh hn x) gX1_on_X1_markWanted rfl hd_X1_markWanted ⟨Nat.le_of_ble_eq_true rfl, Nat.le_of_ble_eq_true rfl⟩ hK hP hD hS [0, 1, 2, 3] (by decide) rfl rfl rfl rfl rfl rfl rfl hl.1 rfl (Nat.le_of_ble_eq_true rfl) ⟨Nat.zero_le _, Nat.zero_le _⟩ dX1_on_23 (fun H locs hP hD hS => ?_)
  have hP : va_P D vwCl [(ad 0, .inr (1, [.ref (ad 1), .ref (ad 2), .ref (ad 3), .ref (ad 4), .ref (ad 5), .ref (ad 6), .ref (ad 7), .int (nI n)])), (ad 5, .inl (kA, 256, .inl fp)), (ad 6, .inl (kA, 256, .inl (zmk (zN n) (fun q => decide (fk q = 0) && zX_in fp x q) (nI 1) fk))), (ad 7, .inl (kA, 256, .inl fh)), (ad 1, .inr (0, [.ref (ad 8), .int (nI (c0 + 1))])), (ad 8, .inl (kA, 24, .inl (upd f0 c0 x))), (ad 2, .inr (0, [.ref (ad 9), .int (nI c1)])), (ad 9, .inl (kA, 24, .inl f1)), (ad 3, .inr (0, [.ref (ad 10), .int (nI c2)])), (ad 10, .inl (kA, 24, .inl f2)), (ad 4, .inr (0, [.ref (ad 11), .int (nI c3)])), (ad 11, .inl (kA, 24, .inl f3))] H := hP
  have hD : va_D Az [(ad 0, .inr (1, [.ref (ad 1), .ref (ad 2), .ref (ad 3), .ref (ad 4), .ref (ad 5), .ref (ad 6), .ref (ad 7), .int (nI n)])), (ad 5, .inl (kA, 256, .inl fp)), (ad 6, .inl (kA, 256, .inl (zmk (zN n) (fun q => decide (fk q = 0) && zX_in fp x q) (nI 1) fk))), (ad 7, .inl (kA, 256, .inl fh)), (ad 1, .inr (0, [.ref (ad 8), .int (nI (c0 + 1))])), (ad 8, .inl (kA, 24, .inl (upd f0 c0 x))), (ad 2, .inr (0, [.ref (ad 9), .int (nI c1)])), (ad 9, .inl (kA, 24, .inl f1)), (ad 3, .inr (0, [.ref (ad 10), .int (nI c2)])), (ad 10, .inl (kA, 24, .inl f2)), (ad 4, .inr (0, [.ref (ad 11), .int (nI c3)])), (ad 11, .inl (kA, 24, .inl f3))] := hD
  refine lv_aload_n hx hb dX1_on_26 rfl (lv_at hl 0 rfl) ?_
  refine va_get (D := D) (ci := 1) (v := .ref (ad 3)) (C := RX1) (T := TX1) (N := 8) hx hb hts hi0 hown hK hP 0 rfl rfl 2 (by decide) hf19 (fun _ h9 => h9) rfl dX1_on_27 ?_
  refine vz_callM (n := 0) (As := []) (rest := []) (q0 := 0) hcf (c_X0_clear l D kA (ad 3) (ad 10) c2 f2 hc2) gX1_on_X0_clear rfl hd_X0_clear ⟨Nat.le_of_ble_eq_true rfl, Nat.le_of_ble_eq_true rfl⟩ hK hP hD hS [8, 9] (by decide) rfl rfl rfl rfl rfl rfl rfl hl.1 rfl (Nat.le_of_ble_eq_true rfl) ⟨Nat.zero_le _, Nat.zero_le _⟩ dX1_on_30 (fun H locs hP hD hS => ?_)
  have hP : va_P D vwCl [(ad 0, .inr (1, [.ref (ad 1), .ref (ad 2), .ref (ad 3), .ref (ad 4), .ref (ad 5), .ref (ad 6), .ref (ad 7), .int (nI n)])), (ad 5, .inl (kA, 256, .inl fp)), (ad 6, .inl (kA, 256, .inl (zmk (zN n) (fun q => decide (fk q = 0) && zX_in fp x q) (nI 1) fk))), (ad 7, .inl (kA, 256, .inl fh)), (ad 1, .inr (0, [.ref (ad 8), .int (nI (c0 + 1))])), (ad 8, .inl (kA, 24, .inl (upd f0 c0 x))), (ad 2, .inr (0, [.ref (ad 9), .int (nI c1)])), (ad 9, .inl (kA, 24, .inl f1)), (ad 3, .inr (0, [.ref (ad 10), .int (nI 0)])), (ad 10, .inl (kA, 24, .inl f2)), (ad 4, .inr (0, [.ref (ad 11), .int (nI c3)])), (ad 11, .inl (kA, 24, .inl f3))] H := hP
  have hD : va_D Az [(ad 0, .inr (1, [.ref (ad 1), .ref (ad 2), .ref (ad 3), .ref (ad 4), .ref (ad 5), .ref (ad 6), .ref (ad 7), .int (nI n)])), (ad 5, .inl (kA, 256, .inl fp)), (ad 6, .inl (kA, 256, .inl (zmk (zN n) (fun q => decide (fk q = 0) && zX_in fp x q) (nI 1) fk))), (ad 7, .inl (kA, 256, .inl fh)), (ad 1, .inr (0, [.ref (ad 8), .int (nI (c0 + 1))])), (ad 8, .inl (kA, 24, .inl (upd f0 c0 x))), (ad 2, .inr (0, [.ref (ad 9), .int (nI c1)])), (ad 9, .inl (kA, 24, .inl f1)), (ad 3, .inr (0, [.ref (ad 10), .int (nI 0)])), (ad 10, .inl (kA, 24, .inl f2)), (ad 4, .inr (0, [.ref (ad 11), .int (nI c3)])), (ad 11, .inl (kA, 24, .inl f3))] := hD
  refine lv_iconst (v := nI 1) hx hb dX1_on_33 (by decide) ?_
  exact vz_iretM hx hb hr hlocks hQ hAe (rfl) dX1_on_34 rfl hS hP rfl
set_option maxHeartbeats 4000000 in
set_option maxRecDepth 100000 in
theorem c_X1_on_no (l : Launch) (D : va_G) (kA : ClassId) (ad : Nat → Nat) (n : Nat) (fp fk fh : Nat → Int32) (c0 c1 c2 c3 : Nat) (f0 f1 f2 f3 : Nat → Int32) (hn : n ≤ 8) (x : Int32) (hq : (!decide (x < 0) && !decide (nI (4 ^ n) ≤ x)) = false ∨ c0 = 24) : vz_M l yX1_on wsX1_on 1 21 [.ref (ad 0), .int x] D kA [(ad 0, .inr (1, [.ref (ad 1), .ref (ad 2), .ref (ad 3), .ref (ad 4), .ref (ad 5), .ref (ad 6), .ref (ad 7), .int (nI n)])), (ad 5, .inl (kA, 256, .inl fp)), (ad 6, .inl (kA, 256, .inl fk)), (ad 7, .inl (kA, 256, .inl fh)), (ad 1, .inr (0, [.ref (ad 8), .int (nI c0)])), (ad 8, .inl (kA, 24, .inl f0)), (ad 2, .inr (0, [.ref (ad 9), .int (nI c1)])), (ad 9, .inl (kA, 24, .inl f1)), (ad 3, .inr (0, [.ref (ad 10), .int (nI c2)])), (ad 10, .inl (kA, 24, .inl f2)), (ad 4, .inr (0, [.ref (ad 11), .int (nI c3)])), (ad 11, .inl (kA, 24, .inl f3))] (some (.int (nI 0))) := by
  refine vz_start (cc := cX1_on) (maxL := 2) (ret := (some .boolean)) (own := RX1) (by decide) rfl rfl (Nat.le_of_ble_eq_true rfl) ?_
  intro pz ez sz mz below meth cz args Q ls hargs hx hb hml hown hts hr hlocks hP hK hQ hl
  have hcf : CallFix pz mz cz cX1_on 2 sz args wsX1_on RX1 := ⟨hx, hb, hml, hown, hts⟩
  have hi0 : ∀ w ∈ u_ws RX1 TX1 8, w ∈ wsX1_on := by decide +kernel
  have hf12 : (Cond.fieldLink RX1 12 "CubeMin" "onList" "LCubeMin$CubeList;").before args sz = true := hts _ (by decide +kernel)
  have hf19 : (Cond.fieldLink RX1 19 "CubeMin" "coverList" "LCubeMin$CubeList;").before args sz = true := hts _ (by decide +kernel)
  have hl : lv_has ls 2 [(0, .ref (ad 0)), (1, .int x)] := hl
  refine lv_aload_n hx hb dX1_on_0 rfl (lv_at hl 0 rfl) ?_
  refine lv_iload_n hx hb dX1_on_1 rfl (lv_at hl 1 rfl) ?_
  refine vz_callV (n := 1) (As := [.int x]) (rest := []) (q0 := 0) hcf (c_X1_isCube l D kA ad n fp fk fh hn x) gX1_on_X1_isCube rfl hd_X1_isCube ⟨Nat.le_of_ble_eq_true rfl, Nat.le_of_ble_eq_true rfl⟩ hK (hP.sub [0, 1, 2, 3] rfl) rfl rfl rfl rfl hl.1 rfl (Nat.le_of_ble_eq_true rfl) ⟨Nat.zero_le _, Nat.zero_le _⟩ dX1_on_2 ?_
  refine vz_ifeqB (tgt := 19) hx hb dX1_on_5 (by decide) (fun c_5 => ?_) (fun c_5 => ?_)
  · skip
    refine lv_iconst (v := nI 0) hx hb dX1_on_19 (by decide) ?_
    exact vz_iret hx hb hr hlocks hQ (rfl) dX1_on_20 rfl
  · skip
    have hcl : c0 = 24 := by rcases hq with h | h; exact absurd (h.symm.trans c_5) (by decide); exact h
    refine lv_aload_n hx hb dX1_on_8 rfl (lv_at hl 0 rfl) ?_
    refine va_get (D := D) (ci := 1) (v := .ref (ad 1)) (C := RX1) (T := TX1) (N := 8) hx hb hts hi0 hown hK hP 0 rfl rfl 0 (by decide) hf12 (fun _ h9 => h9) rfl dX1_on_9 ?_
    refine lv_iload_n hx hb dX1_on_12 rfl (lv_at hl 1 rfl) ?_
    refine vz_callV (n := 1) (As := [.int x]) (rest := []) (q0 := 0) hcf (c_X0_append_no l D kA (ad 1) (ad 8) c0 f0 hcl x) gX1_on_X0_append rfl hd_X0_append ⟨Nat.le_of_ble_eq_true rfl, Nat.le_of_ble_eq_true rfl⟩ hK (hP.sub [4, 5] rfl) rfl rfl rfl rfl hl.1 rfl (Nat.le_of_ble_eq_true rfl) ⟨Nat.zero_le _, Nat.zero_le _⟩ dX1_on_13 ?_
    refine lv_if_ne (tgt := 21) hx hb dX1_on_16 (by decide) (fun c_16 => absurd c_16 (fun h => h (by decide))) (fun c_16 => ?_)
    refine lv_iconst (v := nI 0) hx hb dX1_on_19 (by decide) ?_
    exact vz_iret hx hb hr hlocks hQ (rfl) dX1_on_20 rfl
set_option maxHeartbeats 4000000 in
set_option maxRecDepth 100000 in
theorem c_X1_dc (l : Launch) (D : va_G) (kA : ClassId) (ad : Nat → Nat) (n : Nat) (fp fk fh : Nat → Int32) (c0 c1 c2 c3 : Nat) (f0 f1 f2 f3 : Nat → Int32) (hn : n ≤ 8) (hc2 : c2 ≤ 24) (hcl : c1 < 24) (x : Int32) (hq : (!decide (x < 0) && !decide (nI (4 ^ n) ≤ x)) = true) : vz_MM l yX1_dc wsX1_dc 2 45 [.ref (ad 0), .int x] D kA [(ad 0, .inr (1, [.ref (ad 1), .ref (ad 2), .ref (ad 3), .ref (ad 4), .ref (ad 5), .ref (ad 6), .ref (ad 7), .int (nI n)])), (ad 5, .inl (kA, 256, .inl fp)), (ad 6, .inl (kA, 256, .inl fk)), (ad 7, .inl (kA, 256, .inl fh)), (ad 1, .inr (0, [.ref (ad 8), .int (nI c0)])), (ad 8, .inl (kA, 24, .inl f0)), (ad 2, .inr (0, [.ref (ad 9), .int (nI c1)])), (ad 9, .inl (kA, 24, .inl f1)), (ad 3, .inr (0, [.ref (ad 10), .int (nI c2)])), (ad 10, .inl (kA, 24, .inl f2)), (ad 4, .inr (0, [.ref (ad 11), .int (nI c3)])), (ad 11, .inl (kA, 24, .inl f3))] (some (.int (nI 1))) [(ad 0, .inr (1, [.ref (ad 1), .ref (ad 2), .ref (ad 3), .ref (ad 4), .ref (ad 5), .ref (ad 6), .ref (ad 7), .int (nI n)])), (ad 5, .inl (kA, 256, .inl fp)), (ad 6, .inl (kA, 256, .inl (zmk (zN n) (zX_in fp x) (nI 2) fk))), (ad 7, .inl (kA, 256, .inl fh)), (ad 1, .inr (0, [.ref (ad 8), .int (nI c0)])), (ad 8, .inl (kA, 24, .inl f0)), (ad 2, .inr (0, [.ref (ad 9), .int (nI (c1 + 1))])), (ad 9, .inl (kA, 24, .inl (upd f1 c1 x))), (ad 3, .inr (0, [.ref (ad 10), .int (nI 0)])), (ad 10, .inl (kA, 24, .inl f2)), (ad 4, .inr (0, [.ref (ad 11), .int (nI c3)])), (ad 11, .inl (kA, 24, .inl f3))] := by
  refine vz_startM (cc := cX1_dc) (maxL := 2) (ret := (some .boolean)) (own := RX1) (by decide) rfl rfl (Nat.le_of_ble_eq_true rfl) ?_
  intro pz ez sz mz below meth cz args Q ls H locs Az hargs hx hb hml hown hts hr hlocks hP hK hD hS hAe hQ hl
  have hcf : CallFix pz mz cz cX1_dc 2 sz args wsX1_dc RX1 := ⟨hx, hb, hml, hown, hts⟩
  have hi0 : ∀ w ∈ u_ws RX1 TX1 8, w ∈ wsX1_dc := by decide +kernel
  have hf16 : (Cond.fieldLink RX1 16 "CubeMin" "dcList" "LCubeMin$CubeList;").before args sz = true := hts _ (by decide +kernel)
  have hf19 : (Cond.fieldLink RX1 19 "CubeMin" "coverList" "LCubeMin$CubeList;").before args sz = true := hts _ (by decide +kernel)
  have hl : lv_has ls 2 [(0, .ref (ad 0)), (1, .int x)] := hl
  refine lv_aload_n hx hb dX1_dc_0 rfl (lv_at hl 0 rfl) ?_
  refine lv_iload_n hx hb dX1_dc_1 rfl (lv_at hl 1 rfl) ?_
  refine vz_callV (n := 1) (As := [.int x]) (rest := []) (q0 := 0) hcf (c_X1_isCube l D kA ad n fp fk fh hn x) gX1_dc_X1_isCube rfl hd_X1_isCube ⟨Nat.le_of_ble_eq_true rfl, Nat.le_of_ble_eq_true rfl⟩ hK (hP.sub [0, 1, 2, 3] rfl) rfl rfl rfl rfl hl.1 rfl (Nat.le_of_ble_eq_true rfl) ⟨Nat.zero_le _, Nat.zero_le _⟩ dX1_dc_2 ?_
  refine vz_ifeqB (tgt := 19) hx hb dX1_dc_5 (by decide) (fun c_5 => absurd c_5 (by rw [hq]; decide)) (fun c_5 => ?_)
  refine lv_aload_n hx hb dX1_dc_8 rfl (lv_at hl 0 rfl) ?_
  refine va_get (D := D) (ci := 1) (v := .ref (ad 2)) (C := RX1) (T := TX1) (N := 8) hx hb hts hi0 hown hK hP 0 rfl rfl 1 (by decide) hf16 (fun _ h9 => h9) rfl dX1_dc_9 ?_
  refine lv_iload_n hx hb dX1_dc_12 rfl (lv_at hl 1 rfl) ?_
  refine vz_callM (n := 1) (As := [.int x]) (rest := []) (q0 := 0) hcf (c_X0_append l D kA (ad 2) (ad 9) c1 f1 hcl x) gX1_dc_X0_append rfl hd_X0_append ⟨Nat.le_of_ble_eq_true rfl, Nat.le_of_ble_eq_true rfl⟩ hK hP hD hS [6, 7] (by decide) rfl rfl rfl rfl rfl rfl rfl hl.1 rfl (Nat.le_of_ble_eq_true rfl) ⟨Nat.zero_le _, Nat.zero_le _⟩ dX1_dc_13 (fun H locs hP hD hS => ?_)
  have hP : va_P D vwCl [(ad 0, .inr (1, [.ref (ad 1), .ref (ad 2), .ref (ad 3), .ref (ad 4), .ref (ad 5), .ref (ad 6), .ref (ad 7), .int (nI n)])), (ad 5, .inl (kA, 256, .inl fp)), (ad 6, .inl (kA, 256, .inl fk)), (ad 7, .inl (kA, 256, .inl fh)), (ad 1, .inr (0, [.ref (ad 8), .int (nI c0)])), (ad 8, .inl (kA, 24, .inl f0)), (ad 2, .inr (0, [.ref (ad 9), .int (nI (c1 + 1))])), (ad 9, .inl (kA, 24, .inl (upd f1 c1 x))), (ad 3, .inr (0, [.ref (ad 10), .int (nI c2)])), (ad 10, .inl (kA, 24, .inl f2)), (ad 4, .inr (0, [.ref (ad 11), .int (nI c3)])), (ad 11, .inl (kA, 24, .inl f3))] H := hP
  have hD : va_D Az [(ad 0, .inr (1, [.ref (ad 1), .ref (ad 2), .ref (ad 3), .ref (ad 4), .ref (ad 5), .ref (ad 6), .ref (ad 7), .int (nI n)])), (ad 5, .inl (kA, 256, .inl fp)), (ad 6, .inl (kA, 256, .inl fk)), (ad 7, .inl (kA, 256, .inl fh)), (ad 1, .inr (0, [.ref (ad 8), .int (nI c0)])), (ad 8, .inl (kA, 24, .inl f0)), (ad 2, .inr (0, [.ref (ad 9), .int (nI (c1 + 1))])), (ad 9, .inl (kA, 24, .inl (upd f1 c1 x))), (ad 3, .inr (0, [.ref (ad 10), .int (nI c2)])), (ad 10, .inl (kA, 24, .inl f2)), (ad 4, .inr (0, [.ref (ad 11), .int (nI c3)])), (ad 11, .inl (kA, 24, .inl f3))] := hD
  refine lv_if_ne (tgt := 21) hx hb dX1_dc_16 (by decide) (fun c_16 => ?_) (fun c_16 => absurd c_16 (by decide))
  refine lv_aload_n hx hb dX1_dc_21 rfl (lv_at hl 0 rfl) ?_
  refine lv_iload_n hx hb dX1_dc_22 rfl (lv_at hl 1 rfl) ?_
  refine vz_callM (n := 1) (As := [.int x]) (rest := []) (q0 := 0) hcf (c_X1_markIndifferent l D kA ad n fp fk fh hn x) gX1_dc_X1_markIndifferent rfl hd_X1_markIndifferent ⟨Nat.le_of_ble_eq_true rfl, Nat.le_of_ble_eq_true rfl⟩ hK hP hD hS [0, 1, 2, 3] (by decide) rfl rfl rfl rfl rfl rfl rfl hl.1 rfl (Nat.le_of_ble_eq_true rfl) ⟨Nat.zero_le _, Nat.zero_le _⟩ dX1_dc_23 (fun H locs hP hD hS => ?_)
  have hP : va_P D vwCl [(ad 0, .inr (1, [.ref (ad 1), .ref (ad 2), .ref (ad 3), .ref (ad 4), .ref (ad 5), .ref (ad 6), .ref (ad 7), .int (nI n)])), (ad 5, .inl (kA, 256, .inl fp)), (ad 6, .inl (kA, 256, .inl (zmk (zN n) (zX_in fp x) (nI 2) fk))), (ad 7, .inl (kA, 256, .inl fh)), (ad 1, .inr (0, [.ref (ad 8), .int (nI c0)])), (ad 8, .inl (kA, 24, .inl f0)), (ad 2, .inr (0, [.ref (ad 9), .int (nI (c1 + 1))])), (ad 9, .inl (kA, 24, .inl (upd f1 c1 x))), (ad 3, .inr (0, [.ref (ad 10), .int (nI c2)])), (ad 10, .inl (kA, 24, .inl f2)), (ad 4, .inr (0, [.ref (ad 11), .int (nI c3)])), (ad 11, .inl (kA, 24, .inl f3))] H := hP
  have hD : va_D Az [(ad 0, .inr (1, [.ref (ad 1), .ref (ad 2), .ref (ad 3), .ref (ad 4), .ref (ad 5), .ref (ad 6), .ref (ad 7), .int (nI n)])), (ad 5, .inl (kA, 256, .inl fp)), (ad 6, .inl (kA, 256, .inl (zmk (zN n) (zX_in fp x) (nI 2) fk))), (ad 7, .inl (kA, 256, .inl fh)), (ad 1, .inr (0, [.ref (ad 8), .int (nI c0)])), (ad 8, .inl (kA, 24, .inl f0)), (ad 2, .inr (0, [.ref (ad 9), .int (nI (c1 + 1))])), (ad 9, .inl (kA, 24, .inl (upd f1 c1 x))), (ad 3, .inr (0, [.ref (ad 10), .int (nI c2)])), (ad 10, .inl (kA, 24, .inl f2)), (ad 4, .inr (0, [.ref (ad 11), .int (nI c3)])), (ad 11, .inl (kA, 24, .inl f3))] := hD
  refine lv_aload_n hx hb dX1_dc_26 rfl (lv_at hl 0 rfl) ?_
  refine va_get (D := D) (ci := 1) (v := .ref (ad 3)) (C := RX1) (T := TX1) (N := 8) hx hb hts hi0 hown hK hP 0 rfl rfl 2 (by decide) hf19 (fun _ h9 => h9) rfl dX1_dc_27 ?_
  refine vz_callM (n := 0) (As := []) (rest := []) (q0 := 0) hcf (c_X0_clear l D kA (ad 3) (ad 10) c2 f2 hc2) gX1_dc_X0_clear rfl hd_X0_clear ⟨Nat.le_of_ble_eq_true rfl, Nat.le_of_ble_eq_true rfl⟩ hK hP hD hS [8, 9] (by decide) rfl rfl rfl rfl rfl rfl rfl hl.1 rfl (Nat.le_of_ble_eq_true rfl) ⟨Nat.zero_le _, Nat.zero_le _⟩ dX1_dc_30 (fun H locs hP hD hS => ?_)
  have hP : va_P D vwCl [(ad 0, .inr (1, [.ref (ad 1), .ref (ad 2), .ref (ad 3), .ref (ad 4), .ref (ad 5), .ref (ad 6), .ref (ad 7), .int (nI n)])), (ad 5, .inl (kA, 256, .inl fp)), (ad 6, .inl (kA, 256, .inl (zmk (zN n) (zX_in fp x) (nI 2) fk))), (ad 7, .inl (kA, 256, .inl fh)), (ad 1, .inr (0, [.ref (ad 8), .int (nI c0)])), (ad 8, .inl (kA, 24, .inl f0)), (ad 2, .inr (0, [.ref (ad 9), .int (nI (c1 + 1))])), (ad 9, .inl (kA, 24, .inl (upd f1 c1 x))), (ad 3, .inr (0, [.ref (ad 10), .int (nI 0)])), (ad 10, .inl (kA, 24, .inl f2)), (ad 4, .inr (0, [.ref (ad 11), .int (nI c3)])), (ad 11, .inl (kA, 24, .inl f3))] H := hP
  have hD : va_D Az [(ad 0, .inr (1, [.ref (ad 1), .ref (ad 2), .ref (ad 3), .ref (ad 4), .ref (ad 5), .ref (ad 6), .ref (ad 7), .int (nI n)])), (ad 5, .inl (kA, 256, .inl fp)), (ad 6, .inl (kA, 256, .inl (zmk (zN n) (zX_in fp x) (nI 2) fk))), (ad 7, .inl (kA, 256, .inl fh)), (ad 1, .inr (0, [.ref (ad 8), .int (nI c0)])), (ad 8, .inl (kA, 24, .inl f0)), (ad 2, .inr (0, [.ref (ad 9), .int (nI (c1 + 1))])), (ad 9, .inl (kA, 24, .inl (upd f1 c1 x))), (ad 3, .inr (0, [.ref (ad 10), .int (nI 0)])), (ad 10, .inl (kA, 24, .inl f2)), (ad 4, .inr (0, [.ref (ad 11), .int (nI c3)])), (ad 11, .inl (kA, 24, .inl f3))] := hD
  refine lv_iconst (v := nI 1) hx hb dX1_dc_33 (by decide) ?_
  exact vz_iretM hx hb hr hlocks hQ hAe (rfl) dX1_dc_34 rfl hS hP rfl
set_option maxHeartbeats 4000000 in
set_option maxRecDepth 100000 in
theorem c_X1_dc_no (l : Launch) (D : va_G) (kA : ClassId) (ad : Nat → Nat) (n : Nat) (fp fk fh : Nat → Int32) (c0 c1 c2 c3 : Nat) (f0 f1 f2 f3 : Nat → Int32) (hn : n ≤ 8) (x : Int32) (hq : (!decide (x < 0) && !decide (nI (4 ^ n) ≤ x)) = false ∨ c1 = 24) : vz_M l yX1_dc wsX1_dc 1 21 [.ref (ad 0), .int x] D kA [(ad 0, .inr (1, [.ref (ad 1), .ref (ad 2), .ref (ad 3), .ref (ad 4), .ref (ad 5), .ref (ad 6), .ref (ad 7), .int (nI n)])), (ad 5, .inl (kA, 256, .inl fp)), (ad 6, .inl (kA, 256, .inl fk)), (ad 7, .inl (kA, 256, .inl fh)), (ad 1, .inr (0, [.ref (ad 8), .int (nI c0)])), (ad 8, .inl (kA, 24, .inl f0)), (ad 2, .inr (0, [.ref (ad 9), .int (nI c1)])), (ad 9, .inl (kA, 24, .inl f1)), (ad 3, .inr (0, [.ref (ad 10), .int (nI c2)])), (ad 10, .inl (kA, 24, .inl f2)), (ad 4, .inr (0, [.ref (ad 11), .int (nI c3)])), (ad 11, .inl (kA, 24, .inl f3))] (some (.int (nI 0))) := by
  refine vz_start (cc := cX1_dc) (maxL := 2) (ret := (some .boolean)) (own := RX1) (by decide) rfl rfl (Nat.le_of_ble_eq_true rfl) ?_
  intro pz ez sz mz below meth cz args Q ls hargs hx hb hml hown hts hr hlocks hP hK hQ hl
  have hcf : CallFix pz mz cz cX1_dc 2 sz args wsX1_dc RX1 := ⟨hx, hb, hml, hown, hts⟩
  have hi0 : ∀ w ∈ u_ws RX1 TX1 8, w ∈ wsX1_dc := by decide +kernel
  have hf16 : (Cond.fieldLink RX1 16 "CubeMin" "dcList" "LCubeMin$CubeList;").before args sz = true := hts _ (by decide +kernel)
  have hf19 : (Cond.fieldLink RX1 19 "CubeMin" "coverList" "LCubeMin$CubeList;").before args sz = true := hts _ (by decide +kernel)
  have hl : lv_has ls 2 [(0, .ref (ad 0)), (1, .int x)] := hl
  refine lv_aload_n hx hb dX1_dc_0 rfl (lv_at hl 0 rfl) ?_
  refine lv_iload_n hx hb dX1_dc_1 rfl (lv_at hl 1 rfl) ?_
  refine vz_callV (n := 1) (As := [.int x]) (rest := []) (q0 := 0) hcf (c_X1_isCube l D kA ad n fp fk fh hn x) gX1_dc_X1_isCube rfl hd_X1_isCube ⟨Nat.le_of_ble_eq_true rfl, Nat.le_of_ble_eq_true rfl⟩ hK (hP.sub [0, 1, 2, 3] rfl) rfl rfl rfl rfl hl.1 rfl (Nat.le_of_ble_eq_true rfl) ⟨Nat.zero_le _, Nat.zero_le _⟩ dX1_dc_2 ?_
  refine vz_ifeqB (tgt := 19) hx hb dX1_dc_5 (by decide) (fun c_5 => ?_) (fun c_5 => ?_)
  · skip
    refine lv_iconst (v := nI 0) hx hb dX1_dc_19 (by decide) ?_
    exact vz_iret hx hb hr hlocks hQ (rfl) dX1_dc_20 rfl
  · skip
    have hcl : c1 = 24 := by rcases hq with h | h; exact absurd (h.symm.trans c_5) (by decide); exact h
    refine lv_aload_n hx hb dX1_dc_8 rfl (lv_at hl 0 rfl) ?_
    refine va_get (D := D) (ci := 1) (v := .ref (ad 2)) (C := RX1) (T := TX1) (N := 8) hx hb hts hi0 hown hK hP 0 rfl rfl 1 (by decide) hf16 (fun _ h9 => h9) rfl dX1_dc_9 ?_
    refine lv_iload_n hx hb dX1_dc_12 rfl (lv_at hl 1 rfl) ?_
    refine vz_callV (n := 1) (As := [.int x]) (rest := []) (q0 := 0) hcf (c_X0_append_no l D kA (ad 2) (ad 9) c1 f1 hcl x) gX1_dc_X0_append rfl hd_X0_append ⟨Nat.le_of_ble_eq_true rfl, Nat.le_of_ble_eq_true rfl⟩ hK (hP.sub [6, 7] rfl) rfl rfl rfl rfl hl.1 rfl (Nat.le_of_ble_eq_true rfl) ⟨Nat.zero_le _, Nat.zero_le _⟩ dX1_dc_13 ?_
    refine lv_if_ne (tgt := 21) hx hb dX1_dc_16 (by decide) (fun c_16 => absurd c_16 (fun h => h (by decide))) (fun c_16 => ?_)
    refine lv_iconst (v := nI 0) hx hb dX1_dc_19 (by decide) ?_
    exact vz_iret hx hb hr hlocks hQ (rfl) dX1_dc_20 rfl
set_option maxHeartbeats 4000000 in
set_option maxRecDepth 100000 in
theorem c_X1_listAt0 (l : Launch) (D : va_G) (kA : ClassId) (ad : Nat → Nat) (n : Nat) (fp fk fh : Nat → Int32) (hn : n ≤ 8) : vz_M l yX1_listAt wsX1_listAt 0 0 [.ref (ad 0), .int (nI 0)] D kA [(ad 0, .inr (1, [.ref (ad 1), .ref (ad 2), .ref (ad 3), .ref (ad 4), .ref (ad 5), .ref (ad 6), .ref (ad 7), .int (nI n)])), (ad 5, .inl (kA, 256, .inl fp)), (ad 6, .inl (kA, 256, .inl fk)), (ad 7, .inl (kA, 256, .inl fh))] (some (.ref (ad 1))) := by
  refine vz_start (cc := cX1_listAt) (maxL := 2) (ret := (some (.object "CubeMin$CubeList"))) (own := RX1) (by decide) rfl rfl (Nat.le_of_ble_eq_true rfl) ?_
  intro pz ez sz mz below meth cz args Q ls hargs hx hb hml hown hts hr hlocks hP hK hQ hl
  have hcf : CallFix pz mz cz cX1_listAt 2 sz args wsX1_listAt RX1 := ⟨hx, hb, hml, hown, hts⟩
  have hi0 : ∀ w ∈ u_ws RX1 TX1 8, w ∈ wsX1_listAt := by decide +kernel
  have hf12 : (Cond.fieldLink RX1 12 "CubeMin" "onList" "LCubeMin$CubeList;").before args sz = true := hts _ (by decide +kernel)
  have hf16 : (Cond.fieldLink RX1 16 "CubeMin" "dcList" "LCubeMin$CubeList;").before args sz = true := hts _ (by decide +kernel)
  have hf19 : (Cond.fieldLink RX1 19 "CubeMin" "coverList" "LCubeMin$CubeList;").before args sz = true := hts _ (by decide +kernel)
  have hl : lv_has ls 2 [(0, .ref (ad 0)), (1, .int (nI 0))] := hl
  refine lv_iload_n hx hb dX1_listAt_0 rfl (lv_at hl 1 rfl) ?_
  refine lv_tableIn (off := 27) (tgt := 28) hx hb dX1_listAt_1 (by decide) (by decide) (by decide) (by decide) ?_
  refine lv_aload_n hx hb dX1_listAt_28 rfl (lv_at hl 0 rfl) ?_
  refine va_get (D := D) (ci := 1) (v := .ref (ad 1)) (C := RX1) (T := TX1) (N := 8) hx hb hts hi0 hown hK hP 0 rfl rfl 0 (by decide) hf12 (fun _ h9 => h9) rfl dX1_listAt_29 ?_
  exact vz_aret hx hb hr hlocks hQ (Or.inl ⟨_, rfl⟩) (Or.inr ⟨_, rfl⟩) dX1_listAt_32 rfl
set_option maxHeartbeats 4000000 in
set_option maxRecDepth 100000 in
theorem c_X1_listAt1 (l : Launch) (D : va_G) (kA : ClassId) (ad : Nat → Nat) (n : Nat) (fp fk fh : Nat → Int32) (hn : n ≤ 8) : vz_M l yX1_listAt wsX1_listAt 0 0 [.ref (ad 0), .int (nI 1)] D kA [(ad 0, .inr (1, [.ref (ad 1), .ref (ad 2), .ref (ad 3), .ref (ad 4), .ref (ad 5), .ref (ad 6), .ref (ad 7), .int (nI n)])), (ad 5, .inl (kA, 256, .inl fp)), (ad 6, .inl (kA, 256, .inl fk)), (ad 7, .inl (kA, 256, .inl fh))] (some (.ref (ad 2))) := by
  refine vz_start (cc := cX1_listAt) (maxL := 2) (ret := (some (.object "CubeMin$CubeList"))) (own := RX1) (by decide) rfl rfl (Nat.le_of_ble_eq_true rfl) ?_
  intro pz ez sz mz below meth cz args Q ls hargs hx hb hml hown hts hr hlocks hP hK hQ hl
  have hcf : CallFix pz mz cz cX1_listAt 2 sz args wsX1_listAt RX1 := ⟨hx, hb, hml, hown, hts⟩
  have hi0 : ∀ w ∈ u_ws RX1 TX1 8, w ∈ wsX1_listAt := by decide +kernel
  have hf12 : (Cond.fieldLink RX1 12 "CubeMin" "onList" "LCubeMin$CubeList;").before args sz = true := hts _ (by decide +kernel)
  have hf16 : (Cond.fieldLink RX1 16 "CubeMin" "dcList" "LCubeMin$CubeList;").before args sz = true := hts _ (by decide +kernel)
  have hf19 : (Cond.fieldLink RX1 19 "CubeMin" "coverList" "LCubeMin$CubeList;").before args sz = true := hts _ (by decide +kernel)
  have hl : lv_has ls 2 [(0, .ref (ad 0)), (1, .int (nI 1))] := hl
  refine lv_iload_n hx hb dX1_listAt_0 rfl (lv_at hl 1 rfl) ?_
  refine lv_tableIn (off := 32) (tgt := 33) hx hb dX1_listAt_1 (by decide) (by decide) (by decide) (by decide) ?_
  refine lv_aload_n hx hb dX1_listAt_33 rfl (lv_at hl 0 rfl) ?_
  refine va_get (D := D) (ci := 1) (v := .ref (ad 2)) (C := RX1) (T := TX1) (N := 8) hx hb hts hi0 hown hK hP 0 rfl rfl 1 (by decide) hf16 (fun _ h9 => h9) rfl dX1_listAt_34 ?_
  exact vz_aret hx hb hr hlocks hQ (Or.inl ⟨_, rfl⟩) (Or.inr ⟨_, rfl⟩) dX1_listAt_37 rfl
set_option maxHeartbeats 4000000 in
set_option maxRecDepth 100000 in
theorem c_X1_listAt2 (l : Launch) (D : va_G) (kA : ClassId) (ad : Nat → Nat) (n : Nat) (fp fk fh : Nat → Int32) (hn : n ≤ 8) : vz_M l yX1_listAt wsX1_listAt 0 0 [.ref (ad 0), .int (nI 2)] D kA [(ad 0, .inr (1, [.ref (ad 1), .ref (ad 2), .ref (ad 3), .ref (ad 4), .ref (ad 5), .ref (ad 6), .ref (ad 7), .int (nI n)])), (ad 5, .inl (kA, 256, .inl fp)), (ad 6, .inl (kA, 256, .inl fk)), (ad 7, .inl (kA, 256, .inl fh))] (some (.ref (ad 3))) := by
  refine vz_start (cc := cX1_listAt) (maxL := 2) (ret := (some (.object "CubeMin$CubeList"))) (own := RX1) (by decide) rfl rfl (Nat.le_of_ble_eq_true rfl) ?_
  intro pz ez sz mz below meth cz args Q ls hargs hx hb hml hown hts hr hlocks hP hK hQ hl
  have hcf : CallFix pz mz cz cX1_listAt 2 sz args wsX1_listAt RX1 := ⟨hx, hb, hml, hown, hts⟩
  have hi0 : ∀ w ∈ u_ws RX1 TX1 8, w ∈ wsX1_listAt := by decide +kernel
  have hf12 : (Cond.fieldLink RX1 12 "CubeMin" "onList" "LCubeMin$CubeList;").before args sz = true := hts _ (by decide +kernel)
  have hf16 : (Cond.fieldLink RX1 16 "CubeMin" "dcList" "LCubeMin$CubeList;").before args sz = true := hts _ (by decide +kernel)
  have hf19 : (Cond.fieldLink RX1 19 "CubeMin" "coverList" "LCubeMin$CubeList;").before args sz = true := hts _ (by decide +kernel)
  have hl : lv_has ls 2 [(0, .ref (ad 0)), (1, .int (nI 2))] := hl
  refine lv_iload_n hx hb dX1_listAt_0 rfl (lv_at hl 1 rfl) ?_
  refine lv_tableIn (off := 37) (tgt := 38) hx hb dX1_listAt_1 (by decide) (by decide) (by decide) (by decide) ?_
  refine lv_aload_n hx hb dX1_listAt_38 rfl (lv_at hl 0 rfl) ?_
  refine va_get (D := D) (ci := 1) (v := .ref (ad 3)) (C := RX1) (T := TX1) (N := 8) hx hb hts hi0 hown hK hP 0 rfl rfl 2 (by decide) hf19 (fun _ h9 => h9) rfl dX1_listAt_39 ?_
  exact vz_aret hx hb hr hlocks hQ (Or.inl ⟨_, rfl⟩) (Or.inr ⟨_, rfl⟩) dX1_listAt_42 rfl
set_option maxHeartbeats 4000000 in
set_option maxRecDepth 100000 in
theorem c_X1_listAt3 (l : Launch) (D : va_G) (kA : ClassId) (ad : Nat → Nat) (n : Nat) (fp fk fh : Nat → Int32) (hn : n ≤ 8) (x : Int32) (hx3 : x.toInt < 0 ∨ 2 < x.toInt) : vz_M l yX1_listAt wsX1_listAt 0 0 [.ref (ad 0), .int x] D kA [(ad 0, .inr (1, [.ref (ad 1), .ref (ad 2), .ref (ad 3), .ref (ad 4), .ref (ad 5), .ref (ad 6), .ref (ad 7), .int (nI n)])), (ad 5, .inl (kA, 256, .inl fp)), (ad 6, .inl (kA, 256, .inl fk)), (ad 7, .inl (kA, 256, .inl fh))] (some (.null)) := by
  refine vz_start (cc := cX1_listAt) (maxL := 2) (ret := (some (.object "CubeMin$CubeList"))) (own := RX1) (by decide) rfl rfl (Nat.le_of_ble_eq_true rfl) ?_
  intro pz ez sz mz below meth cz args Q ls hargs hx hb hml hown hts hr hlocks hP hK hQ hl
  have hcf : CallFix pz mz cz cX1_listAt 2 sz args wsX1_listAt RX1 := ⟨hx, hb, hml, hown, hts⟩
  have hi0 : ∀ w ∈ u_ws RX1 TX1 8, w ∈ wsX1_listAt := by decide +kernel
  have hf12 : (Cond.fieldLink RX1 12 "CubeMin" "onList" "LCubeMin$CubeList;").before args sz = true := hts _ (by decide +kernel)
  have hf16 : (Cond.fieldLink RX1 16 "CubeMin" "dcList" "LCubeMin$CubeList;").before args sz = true := hts _ (by decide +kernel)
  have hf19 : (Cond.fieldLink RX1 19 "CubeMin" "coverList" "LCubeMin$CubeList;").before args sz = true := hts _ (by decide +kernel)
  have hl : lv_has ls 2 [(0, .ref (ad 0)), (1, .int x)] := hl
  refine lv_iload_n hx hb dX1_listAt_0 rfl (lv_at hl 1 rfl) ?_
  refine lv_tableOut (tgt := 43) hx hb dX1_listAt_1 hx3 (by decide) ?_
  refine lv_null hx hb dX1_listAt_43 ?_
  exact vz_aret hx hb hr hlocks hQ (Or.inl ⟨_, rfl⟩) (Or.inl rfl) dX1_listAt_44 rfl
set_option maxHeartbeats 4000000 in
set_option maxRecDepth 100000 in
theorem c_X1_size0 (l : Launch) (D : va_G) (kA : ClassId) (ad : Nat → Nat) (n : Nat) (fp fk fh : Nat → Int32) (c0 c1 c2 c3 : Nat) (f0 f1 f2 f3 : Nat → Int32) (hn : n ≤ 8) (hc : c0 ≤ 24) : vz_M l yX1_size wsX1_size 1 21 [.ref (ad 0), .int (nI 0)] D kA [(ad 0, .inr (1, [.ref (ad 1), .ref (ad 2), .ref (ad 3), .ref (ad 4), .ref (ad 5), .ref (ad 6), .ref (ad 7), .int (nI n)])), (ad 5, .inl (kA, 256, .inl fp)), (ad 6, .inl (kA, 256, .inl fk)), (ad 7, .inl (kA, 256, .inl fh)), (ad 1, .inr (0, [.ref (ad 8), .int (nI c0)])), (ad 8, .inl (kA, 24, .inl f0)), (ad 2, .inr (0, [.ref (ad 9), .int (nI c1)])), (ad 9, .inl (kA, 24, .inl f1)), (ad 3, .inr (0, [.ref (ad 10), .int (nI c2)])), (ad 10, .inl (kA, 24, .inl f2)), (ad 4, .inr (0, [.ref (ad 11), .int (nI c3)])), (ad 11, .inl (kA, 24, .inl f3))] (some (.int (nI c0))) := by
  refine vz_start (cc := cX1_size) (maxL := 3) (ret := (some .int)) (own := RX1) (by decide) rfl rfl (Nat.le_of_ble_eq_true rfl) ?_
  intro pz ez sz mz below meth cz args Q ls hargs hx hb hml hown hts hr hlocks hP hK hQ hl
  have hcf : CallFix pz mz cz cX1_size 3 sz args wsX1_size RX1 := ⟨hx, hb, hml, hown, hts⟩
  have hl : lv_has ls 3 [(0, .ref (ad 0)), (1, .int (nI 0))] := hl
  refine lv_aload_n hx hb dX1_size_0 rfl (lv_at hl 0 rfl) ?_
  refine lv_iload_n hx hb dX1_size_1 rfl (lv_at hl 1 rfl) ?_
  refine vz_callV (n := 1) (As := [.int (nI 0)]) (rest := []) (q0 := 0) hcf (c_X1_listAt0 l D kA ad n fp fk fh hn) gX1_size_X1_listAt rfl hd_X1_listAt ⟨Nat.le_of_ble_eq_true rfl, Nat.le_of_ble_eq_true rfl⟩ hK (hP.sub [0, 1, 2, 3] rfl) rfl rfl rfl rfl hl.1 rfl (Nat.le_of_ble_eq_true rfl) ⟨Nat.zero_le _, Nat.zero_le _⟩ dX1_size_2 ?_
  refine lv_astore_n (lv' := [(2, .ref (ad 1)), (0, .ref (ad 0)), (1, .int (nI 0))]) hx hb dX1_size_5 rfl hl (by decide) rfl (fun ls hl => ?_)
  refine lv_aload_n hx hb dX1_size_6 rfl (lv_at hl 0 rfl) ?_
  refine lv_ifnonnull (tgt := 14) hx hb dX1_size_7 (by decide) ?_
  refine lv_aload_n hx hb dX1_size_14 rfl (lv_at hl 0 rfl) ?_
  refine vz_callV (n := 0) (As := []) (rest := []) (q0 := 0) hcf (c_X0_length l D kA (ad 1) (ad 8) c0 f0 hc) gX1_size_X0_length rfl hd_X0_length ⟨Nat.le_of_ble_eq_true rfl, Nat.le_of_ble_eq_true rfl⟩ hK (hP.sub [4, 5] rfl) rfl rfl rfl rfl hl.1 rfl (Nat.le_of_ble_eq_true rfl) ⟨Nat.zero_le _, Nat.zero_le _⟩ dX1_size_15 ?_
  exact vz_iret hx hb hr hlocks hQ (vp_nar_int _) dX1_size_18 rfl
set_option maxHeartbeats 4000000 in
set_option maxRecDepth 100000 in
theorem c_X1_cube0 (l : Launch) (D : va_G) (kA : ClassId) (ad : Nat → Nat) (n : Nat) (fp fk fh : Nat → Int32) (c0 c1 c2 c3 : Nat) (f0 f1 f2 f3 : Nat → Int32) (hn : n ≤ 8) (hc : c0 ≤ 24) (z : Int32) : vz_M l yX1_cube wsX1_cube 1 21 [.ref (ad 0), .int (nI 0), .int z] D kA [(ad 0, .inr (1, [.ref (ad 1), .ref (ad 2), .ref (ad 3), .ref (ad 4), .ref (ad 5), .ref (ad 6), .ref (ad 7), .int (nI n)])), (ad 5, .inl (kA, 256, .inl fp)), (ad 6, .inl (kA, 256, .inl fk)), (ad 7, .inl (kA, 256, .inl fh)), (ad 1, .inr (0, [.ref (ad 8), .int (nI c0)])), (ad 8, .inl (kA, 24, .inl f0)), (ad 2, .inr (0, [.ref (ad 9), .int (nI c1)])), (ad 9, .inl (kA, 24, .inl f1)), (ad 3, .inr (0, [.ref (ad 10), .int (nI c2)])), (ad 10, .inl (kA, 24, .inl f2)), (ad 4, .inr (0, [.ref (ad 11), .int (nI c3)])), (ad 11, .inl (kA, 24, .inl f3))] (some (.int (zat c0 f0 z))) := by
  refine vz_start (cc := cX1_cube) (maxL := 4) (ret := (some .int)) (own := RX1) (by decide) rfl rfl (Nat.le_of_ble_eq_true rfl) ?_
  intro pz ez sz mz below meth cz args Q ls hargs hx hb hml hown hts hr hlocks hP hK hQ hl
  have hcf : CallFix pz mz cz cX1_cube 4 sz args wsX1_cube RX1 := ⟨hx, hb, hml, hown, hts⟩
  have hl : lv_has ls 4 [(0, .ref (ad 0)), (1, .int (nI 0)), (2, .int z)] := hl
  refine lv_aload_n hx hb dX1_cube_0 rfl (lv_at hl 0 rfl) ?_
  refine lv_iload_n hx hb dX1_cube_1 rfl (lv_at hl 1 rfl) ?_
  refine vz_callV (n := 1) (As := [.int (nI 0)]) (rest := []) (q0 := 0) hcf (c_X1_listAt0 l D kA ad n fp fk fh hn) gX1_cube_X1_listAt rfl hd_X1_listAt ⟨Nat.le_of_ble_eq_true rfl, Nat.le_of_ble_eq_true rfl⟩ hK (hP.sub [0, 1, 2, 3] rfl) rfl rfl rfl rfl hl.1 rfl (Nat.le_of_ble_eq_true rfl) ⟨Nat.zero_le _, Nat.zero_le _⟩ dX1_cube_2 ?_
  refine lv_astore_n (lv' := [(3, .ref (ad 1)), (0, .ref (ad 0)), (1, .int (nI 0)), (2, .int z)]) hx hb dX1_cube_5 rfl hl (by decide) rfl (fun ls hl => ?_)
  refine lv_aload_n hx hb dX1_cube_6 rfl (lv_at hl 0 rfl) ?_
  refine lv_ifnonnull (tgt := 14) hx hb dX1_cube_7 (by decide) ?_
  refine lv_aload_n hx hb dX1_cube_14 rfl (lv_at hl 0 rfl) ?_
  refine lv_iload_n hx hb dX1_cube_15 rfl (lv_at hl 3 rfl) ?_
  refine vz_callV (n := 1) (As := [.int z]) (rest := []) (q0 := 0) hcf (c_X0_at l D kA (ad 1) (ad 8) c0 f0 hc z) gX1_cube_X0_at rfl hd_X0_at ⟨Nat.le_of_ble_eq_true rfl, Nat.le_of_ble_eq_true rfl⟩ hK (hP.sub [4, 5] rfl) rfl rfl rfl rfl hl.1 rfl (Nat.le_of_ble_eq_true rfl) ⟨Nat.zero_le _, Nat.zero_le _⟩ dX1_cube_16 ?_
  exact vz_iret hx hb hr hlocks hQ (vp_nar_int _) dX1_cube_19 rfl
set_option maxHeartbeats 4000000 in
set_option maxRecDepth 100000 in
theorem c_X1_literals0 (l : Launch) (D : va_G) (kA : ClassId) (ad : Nat → Nat) (n : Nat) (fp fk fh : Nat → Int32) (c0 c1 c2 c3 : Nat) (f0 f1 f2 f3 : Nat → Int32) (hn : n ≤ 8) (hc : c0 ≤ 24) : vz_M l yX1_literals wsX1_literals 2 46 [.ref (ad 0), .int (nI 0)] D kA [(ad 0, .inr (1, [.ref (ad 1), .ref (ad 2), .ref (ad 3), .ref (ad 4), .ref (ad 5), .ref (ad 6), .ref (ad 7), .int (nI n)])), (ad 5, .inl (kA, 256, .inl fp)), (ad 6, .inl (kA, 256, .inl fk)), (ad 7, .inl (kA, 256, .inl fh)), (ad 1, .inr (0, [.ref (ad 8), .int (nI c0)])), (ad 8, .inl (kA, 24, .inl f0)), (ad 2, .inr (0, [.ref (ad 9), .int (nI c1)])), (ad 9, .inl (kA, 24, .inl f1)), (ad 3, .inr (0, [.ref (ad 10), .int (nI c2)])), (ad 10, .inl (kA, 24, .inl f2)), (ad 4, .inr (0, [.ref (ad 11), .int (nI c3)])), (ad 11, .inl (kA, 24, .inl f3))] (some (.int (nI (zlits n c0 f0)))) := by
  refine vz_start (cc := cX1_literals) (maxL := 3) (ret := (some .int)) (own := RX1) (by decide) rfl rfl (Nat.le_of_ble_eq_true rfl) ?_
  intro pz ez sz mz below meth cz args Q ls hargs hx hb hml hown hts hr hlocks hP hK hQ hl
  have hcf : CallFix pz mz cz cX1_literals 3 sz args wsX1_literals RX1 := ⟨hx, hb, hml, hown, hts⟩
  have hl : lv_has ls 3 [(0, .ref (ad 0)), (1, .int (nI 0))] := hl
  refine lv_aload_n hx hb dX1_literals_0 rfl (lv_at hl 0 rfl) ?_
  refine lv_iload_n hx hb dX1_literals_1 rfl (lv_at hl 1 rfl) ?_
  refine vz_callV (n := 1) (As := [.int (nI 0)]) (rest := []) (q0 := 0) hcf (c_X1_listAt0 l D kA ad n fp fk fh hn) gX1_literals_X1_listAt rfl hd_X1_listAt ⟨Nat.le_of_ble_eq_true rfl, Nat.le_of_ble_eq_true rfl⟩ hK (hP.sub [0, 1, 2, 3] rfl) rfl rfl rfl rfl hl.1 rfl (Nat.le_of_ble_eq_true rfl) ⟨Nat.zero_le _, Nat.zero_le _⟩ dX1_literals_2 ?_
  refine lv_astore_n (lv' := [(2, .ref (ad 1)), (0, .ref (ad 0)), (1, .int (nI 0))]) hx hb dX1_literals_5 rfl hl (by decide) rfl (fun ls hl => ?_)
  refine lv_aload_n hx hb dX1_literals_6 rfl (lv_at hl 0 rfl) ?_
  refine lv_ifnonnull (tgt := 14) hx hb dX1_literals_7 (by decide) ?_
  refine lv_aload_n hx hb dX1_literals_14 rfl (lv_at hl 1 rfl) ?_
  refine lv_aload_n hx hb dX1_literals_15 rfl (lv_at hl 0 rfl) ?_
  refine vz_callV (n := 1) (As := [.ref (ad 1)]) (rest := []) (q0 := 0) hcf (c_X1_countLiterals l D kA ad n fp fk fh hn (ad 1) (ad 8) c0 f0 hc) gX1_literals_X1_countLiterals rfl hd_X1_countLiterals ⟨Nat.le_of_ble_eq_true rfl, Nat.le_of_ble_eq_true rfl⟩ hK (hP.sub [0, 1, 2, 3, 4, 5] rfl) rfl rfl rfl rfl hl.1 rfl (Nat.le_of_ble_eq_true rfl) ⟨Nat.zero_le _, Nat.zero_le _⟩ dX1_literals_16 ?_
  exact vz_iret hx hb hr hlocks hQ (vp_nar_int _) dX1_literals_19 rfl
set_option maxHeartbeats 4000000 in
set_option maxRecDepth 100000 in
theorem c_X1_missing0 (l : Launch) (D : va_G) (kA : ClassId) (ad : Nat → Nat) (n : Nat) (fp fk fh : Nat → Int32) (c0 c1 c2 c3 : Nat) (f0 f1 f2 f3 : Nat → Int32) (hn : n ≤ 8) (hc : c0 ≤ 24) : vz_M l yX1_missing wsX1_missing 3 69 [.ref (ad 0), .int (nI 0)] D kA [(ad 0, .inr (1, [.ref (ad 1), .ref (ad 2), .ref (ad 3), .ref (ad 4), .ref (ad 5), .ref (ad 6), .ref (ad 7), .int (nI n)])), (ad 5, .inl (kA, 256, .inl fp)), (ad 6, .inl (kA, 256, .inl fk)), (ad 7, .inl (kA, 256, .inl fh)), (ad 1, .inr (0, [.ref (ad 8), .int (nI c0)])), (ad 8, .inl (kA, 24, .inl f0)), (ad 2, .inr (0, [.ref (ad 9), .int (nI c1)])), (ad 9, .inl (kA, 24, .inl f1)), (ad 3, .inr (0, [.ref (ad 10), .int (nI c2)])), (ad 10, .inl (kA, 24, .inl f2)), (ad 4, .inr (0, [.ref (ad 11), .int (nI c3)])), (ad 11, .inl (kA, 24, .inl f3))] (some (.int (nI (cnB (zN n) (fun p => !zX_inL fp c0 f0 p))))) := by
  refine vz_start (cc := cX1_missing) (maxL := 3) (ret := (some .int)) (own := RX1) (by decide) rfl rfl (Nat.le_of_ble_eq_true rfl) ?_
  intro pz ez sz mz below meth cz args Q ls hargs hx hb hml hown hts hr hlocks hP hK hQ hl
  have hcf : CallFix pz mz cz cX1_missing 3 sz args wsX1_missing RX1 := ⟨hx, hb, hml, hown, hts⟩
  have hl : lv_has ls 3 [(0, .ref (ad 0)), (1, .int (nI 0))] := hl
  refine lv_aload_n hx hb dX1_missing_0 rfl (lv_at hl 0 rfl) ?_
  refine lv_iload_n hx hb dX1_missing_1 rfl (lv_at hl 1 rfl) ?_
  refine vz_callV (n := 1) (As := [.int (nI 0)]) (rest := []) (q0 := 0) hcf (c_X1_listAt0 l D kA ad n fp fk fh hn) gX1_missing_X1_listAt rfl hd_X1_listAt ⟨Nat.le_of_ble_eq_true rfl, Nat.le_of_ble_eq_true rfl⟩ hK (hP.sub [0, 1, 2, 3] rfl) rfl rfl rfl rfl hl.1 rfl (Nat.le_of_ble_eq_true rfl) ⟨Nat.zero_le _, Nat.zero_le _⟩ dX1_missing_2 ?_
  refine lv_astore_n (lv' := [(2, .ref (ad 1)), (0, .ref (ad 0)), (1, .int (nI 0))]) hx hb dX1_missing_5 rfl hl (by decide) rfl (fun ls hl => ?_)
  refine lv_aload_n hx hb dX1_missing_6 rfl (lv_at hl 0 rfl) ?_
  refine lv_ifnonnull (tgt := 14) hx hb dX1_missing_7 (by decide) ?_
  refine lv_aload_n hx hb dX1_missing_14 rfl (lv_at hl 1 rfl) ?_
  refine lv_aload_n hx hb dX1_missing_15 rfl (lv_at hl 0 rfl) ?_
  refine vz_callV (n := 1) (As := [.ref (ad 1)]) (rest := []) (q0 := 0) hcf (c_X1_countMissing l D kA ad n fp fk fh hn (ad 1) (ad 8) c0 f0 hc) gX1_missing_X1_countMissing rfl hd_X1_countMissing ⟨Nat.le_of_ble_eq_true rfl, Nat.le_of_ble_eq_true rfl⟩ hK (hP.sub [0, 1, 2, 3, 4, 5] rfl) rfl rfl rfl rfl hl.1 rfl (Nat.le_of_ble_eq_true rfl) ⟨Nat.zero_le _, Nat.zero_le _⟩ dX1_missing_16 ?_
  exact vz_iret hx hb hr hlocks hQ (vp_nar_int _) dX1_missing_19 rfl
set_option maxHeartbeats 4000000 in
set_option maxRecDepth 100000 in
theorem c_X1_tautology0 (l : Launch) (D : va_G) (kA : ClassId) (ad : Nat → Nat) (n : Nat) (fp fk fh : Nat → Int32) (c0 c1 c2 c3 : Nat) (f0 f1 f2 f3 : Nat → Int32) (hn : n ≤ 8) (hc : c0 ≤ 24) : vz_M l yX1_tautology wsX1_tautology 3 69 [.ref (ad 0), .int (nI 0)] D kA [(ad 0, .inr (1, [.ref (ad 1), .ref (ad 2), .ref (ad 3), .ref (ad 4), .ref (ad 5), .ref (ad 6), .ref (ad 7), .int (nI n)])), (ad 5, .inl (kA, 256, .inl fp)), (ad 6, .inl (kA, 256, .inl fk)), (ad 7, .inl (kA, 256, .inl fh)), (ad 1, .inr (0, [.ref (ad 8), .int (nI c0)])), (ad 8, .inl (kA, 24, .inl f0)), (ad 2, .inr (0, [.ref (ad 9), .int (nI c1)])), (ad 9, .inl (kA, 24, .inl f1)), (ad 3, .inr (0, [.ref (ad 10), .int (nI c2)])), (ad 10, .inl (kA, 24, .inl f2)), (ad 4, .inr (0, [.ref (ad 11), .int (nI c3)])), (ad 11, .inl (kA, 24, .inl f3))] (some (.int (vz_b (decide (cnB (zN n) (fun p => !zX_inL fp c0 f0 p) = 0))))) := by
  refine vz_start (cc := cX1_tautology) (maxL := 3) (ret := (some .boolean)) (own := RX1) (by decide) rfl rfl (Nat.le_of_ble_eq_true rfl) ?_
  intro pz ez sz mz below meth cz args Q ls hargs hx hb hml hown hts hr hlocks hP hK hQ hl
  have hcf : CallFix pz mz cz cX1_tautology 3 sz args wsX1_tautology RX1 := ⟨hx, hb, hml, hown, hts⟩
  have hl : lv_has ls 3 [(0, .ref (ad 0)), (1, .int (nI 0))] := hl
  have hN := zN_le hn
  have hm := cnB_le (zN n) (fun p => !zX_inL fp c0 f0 p)
  refine lv_aload_n hx hb dX1_tautology_0 rfl (lv_at hl 0 rfl) ?_
  refine lv_iload_n hx hb dX1_tautology_1 rfl (lv_at hl 1 rfl) ?_
  refine vz_callV (n := 1) (As := [.int (nI 0)]) (rest := []) (q0 := 0) hcf (c_X1_listAt0 l D kA ad n fp fk fh hn) gX1_tautology_X1_listAt rfl hd_X1_listAt ⟨Nat.le_of_ble_eq_true rfl, Nat.le_of_ble_eq_true rfl⟩ hK (hP.sub [0, 1, 2, 3] rfl) rfl rfl rfl rfl hl.1 rfl (Nat.le_of_ble_eq_true rfl) ⟨Nat.zero_le _, Nat.zero_le _⟩ dX1_tautology_2 ?_
  refine lv_astore_n (lv' := [(2, .ref (ad 1)), (0, .ref (ad 0)), (1, .int (nI 0))]) hx hb dX1_tautology_5 rfl hl (by decide) rfl (fun ls hl => ?_)
  refine lv_aload_n hx hb dX1_tautology_6 rfl (lv_at hl 0 rfl) ?_
  refine lv_ifnull hx hb dX1_tautology_7 ?_
  refine lv_aload_n hx hb dX1_tautology_10 rfl (lv_at hl 1 rfl) ?_
  refine lv_aload_n hx hb dX1_tautology_11 rfl (lv_at hl 0 rfl) ?_
  refine vz_callV (n := 1) (As := [.ref (ad 1)]) (rest := []) (q0 := 0) hcf (c_X1_countMissing l D kA ad n fp fk fh hn (ad 1) (ad 8) c0 f0 hc) gX1_tautology_X1_countMissing rfl hd_X1_countMissing ⟨Nat.le_of_ble_eq_true rfl, Nat.le_of_ble_eq_true rfl⟩ hK (hP.sub [0, 1, 2, 3, 4, 5] rfl) rfl rfl rfl rfl hl.1 rfl (Nat.le_of_ble_eq_true rfl) ⟨Nat.zero_le _, Nat.zero_le _⟩ dX1_tautology_12 ?_
  refine lv_if_ne (tgt := 22) hx hb dX1_tautology_15 (by decide) (fun c_15 => ?_) (fun c_15 => ?_)
  · skip
    have c_16 := fun q => c_15 (congrArg nI q)
    refine lv_iconst (v := nI 0) hx hb dX1_tautology_22 (by decide) ?_
    exact vz_iret hx hb hr hlocks hQ (rfl) dX1_tautology_23 (by first | (rw [decide_eq_true c_16]; rfl) | (rw [decide_eq_false (fun q => c_15 (congrArg nI q))]; rfl))
  · skip
    have c_16 := (nI_eq (by omega) (by omega)).mp (c_15.trans nI_0.symm)
    refine lv_iconst (v := nI 1) hx hb dX1_tautology_18 (by decide) ?_
    refine lv_goto (tgt := 23) hx hb dX1_tautology_19 (by decide) ?_
    exact vz_iret hx hb hr hlocks hQ (rfl) dX1_tautology_23 (by first | (rw [decide_eq_true c_16]; rfl) | (rw [decide_eq_false (fun q => c_15 (congrArg nI q))]; rfl))
set_option maxHeartbeats 4000000 in
set_option maxRecDepth 100000 in
theorem c_X1_holds0 (l : Launch) (D : va_G) (kA : ClassId) (ad : Nat → Nat) (n : Nat) (fp fk fh : Nat → Int32) (c0 c1 c2 c3 : Nat) (f0 f1 f2 f3 : Nat → Int32) (hn : n ≤ 8) (hc : c0 ≤ 24) (z : Int32) : vz_M l yX1_holds wsX1_holds 2 45 [.ref (ad 0), .int (nI 0), .int z] D kA [(ad 0, .inr (1, [.ref (ad 1), .ref (ad 2), .ref (ad 3), .ref (ad 4), .ref (ad 5), .ref (ad 6), .ref (ad 7), .int (nI n)])), (ad 5, .inl (kA, 256, .inl fp)), (ad 6, .inl (kA, 256, .inl fk)), (ad 7, .inl (kA, 256, .inl fh)), (ad 1, .inr (0, [.ref (ad 8), .int (nI c0)])), (ad 8, .inl (kA, 24, .inl f0)), (ad 2, .inr (0, [.ref (ad 9), .int (nI c1)])), (ad 9, .inl (kA, 24, .inl f1)), (ad 3, .inr (0, [.ref (ad 10), .int (nI c2)])), (ad 10, .inl (kA, 24, .inl f2)), (ad 4, .inr (0, [.ref (ad 11), .int (nI c3)])), (ad 11, .inl (kA, 24, .inl f3))] (some (.int (vz_b ((!decide (z < 0) && !decide (nI (zN n) ≤ z)) && zX_inL fp c0 f0 z.toNatClampNeg)))) := by
  refine vz_start (cc := cX1_holds) (maxL := 4) (ret := (some .boolean)) (own := RX1) (by decide) rfl rfl (Nat.le_of_ble_eq_true rfl) ?_
  intro pz ez sz mz below meth cz args Q ls hargs hx hb hml hown hts hr hlocks hP hK hQ hl
  have hcf : CallFix pz mz cz cX1_holds 4 sz args wsX1_holds RX1 := ⟨hx, hb, hml, hown, hts⟩
  have hl : lv_has ls 4 [(0, .ref (ad 0)), (1, .int (nI 0)), (2, .int z)] := hl
  have hN := zN_le hn
  refine lv_aload_n hx hb dX1_holds_0 rfl (lv_at hl 0 rfl) ?_
  refine lv_iload_n hx hb dX1_holds_1 rfl (lv_at hl 1 rfl) ?_
  refine vz_callV (n := 1) (As := [.int (nI 0)]) (rest := []) (q0 := 0) hcf (c_X1_listAt0 l D kA ad n fp fk fh hn) gX1_holds_X1_listAt rfl hd_X1_listAt ⟨Nat.le_of_ble_eq_true rfl, Nat.le_of_ble_eq_true rfl⟩ hK (hP.sub [0, 1, 2, 3] rfl) rfl rfl rfl rfl hl.1 rfl (Nat.le_of_ble_eq_true rfl) ⟨Nat.zero_le _, Nat.zero_le _⟩ dX1_holds_2 ?_
  refine lv_astore_n (lv' := [(3, .ref (ad 1)), (0, .ref (ad 0)), (1, .int (nI 0)), (2, .int z)]) hx hb dX1_holds_5 rfl hl (by decide) rfl (fun ls hl => ?_)
  refine lv_aload_n hx hb dX1_holds_6 rfl (lv_at hl 0 rfl) ?_
  refine lv_ifnull hx hb dX1_holds_7 ?_
  refine lv_aload_n hx hb dX1_holds_10 rfl (lv_at hl 1 rfl) ?_
  refine lv_iload_n hx hb dX1_holds_11 rfl (lv_at hl 3 rfl) ?_
  refine vz_callV (n := 1) (As := [.int z]) (rest := []) (q0 := 0) hcf (c_X1_isPoint l D kA ad n fp fk fh hn z) gX1_holds_X1_isPoint rfl hd_X1_isPoint ⟨Nat.le_of_ble_eq_true rfl, Nat.le_of_ble_eq_true rfl⟩ hK (hP.sub [0, 1, 2, 3] rfl) rfl rfl rfl rfl hl.1 rfl (Nat.le_of_ble_eq_true rfl) ⟨Nat.zero_le _, Nat.zero_le _⟩ dX1_holds_12 ?_
  refine vz_ifeqB (tgt := 31) hx hb dX1_holds_15 (by decide) (fun c_15 => ?_) (fun c_15 => ?_)
  · skip
    refine lv_iconst (v := nI 0) hx hb dX1_holds_31 (by decide) ?_
    exact vz_iret hx hb hr hlocks hQ (rfl) dX1_holds_32 (by first | rfl | (rw [c_15]; rfl) | (rw [hqc, c_24, c_15]; rfl) | (rw [c_15]; rw [hqc, c_24]; rfl) | (rw [hqc, c_24]; simp; rfl))
  · skip
    obtain ⟨q, hq, rfl⟩ : ∃ q : Nat, q < zN n ∧ z = nI q := by
      simp only [Bool.and_eq_true, Bool.not_eq_true', decide_eq_false_iff_not] at c_15
      rcases pk_ix z (n := zN n) (by omega) with h1 | h1 | h1
      · exact absurd h1 c_15.1
      · exact absurd h1 c_15.2
      · exact h1
    have hqc : (nI q).toNatClampNeg = q := nI_clamp (by omega)
    refine lv_aload_n hx hb dX1_holds_18 rfl (lv_at hl 1 rfl) ?_
    refine lv_aload_n hx hb dX1_holds_19 rfl (lv_at hl 0 rfl) ?_
    refine lv_iload_n hx hb dX1_holds_20 rfl (lv_at hl 3 rfl) ?_
    refine vz_callV (n := 2) (As := [.ref (ad 1), .int (nI q)]) (rest := []) (q0 := 0) hcf (c_X1_isInList l D kA ad n fp fk fh hn (ad 1) (ad 8) c0 f0 hc q (by omega)) gX1_holds_X1_isInList rfl hd_X1_isInList ⟨Nat.le_of_ble_eq_true rfl, Nat.le_of_ble_eq_true rfl⟩ hK (hP.sub [0, 1, 2, 3, 4, 5] rfl) rfl rfl rfl rfl hl.1 rfl (Nat.le_of_ble_eq_true rfl) ⟨Nat.zero_le _, Nat.zero_le _⟩ dX1_holds_21 ?_
    refine vz_ifeqB (tgt := 31) hx hb dX1_holds_24 (by decide) (fun c_24 => ?_) (fun c_24 => ?_)
    · skip
      refine lv_iconst (v := nI 0) hx hb dX1_holds_31 (by decide) ?_
      exact vz_iret hx hb hr hlocks hQ (rfl) dX1_holds_32 (by first | rfl | (rw [c_15]; rfl) | (rw [hqc, c_24, c_15]; rfl) | (rw [c_15]; rw [hqc, c_24]; rfl) | (rw [hqc, c_24]; simp; rfl))
    · skip
      refine lv_iconst (v := nI 1) hx hb dX1_holds_27 (by decide) ?_
      refine lv_goto (tgt := 32) hx hb dX1_holds_28 (by decide) ?_
      exact vz_iret hx hb hr hlocks hQ (rfl) dX1_holds_32 (by first | rfl | (rw [c_15]; rfl) | (rw [hqc, c_24, c_15]; rfl) | (rw [c_15]; rw [hqc, c_24]; rfl) | (rw [hqc, c_24]; simp; rfl))
set_option maxHeartbeats 4000000 in
set_option maxRecDepth 100000 in
theorem c_X1_prime0 (l : Launch) (D : va_G) (kA : ClassId) (ad : Nat → Nat) (n : Nat) (fp fk fh : Nat → Int32) (c0 c1 c2 c3 : Nat) (f0 f1 f2 f3 : Nat → Int32) (hn : n ≤ 8) (hc : c0 ≤ 24) (z : Int32) : vz_M l yX1_prime wsX1_prime 3 68 [.ref (ad 0), .int (nI 0), .int z] D kA [(ad 0, .inr (1, [.ref (ad 1), .ref (ad 2), .ref (ad 3), .ref (ad 4), .ref (ad 5), .ref (ad 6), .ref (ad 7), .int (nI n)])), (ad 5, .inl (kA, 256, .inl fp)), (ad 6, .inl (kA, 256, .inl fk)), (ad 7, .inl (kA, 256, .inl fh)), (ad 1, .inr (0, [.ref (ad 8), .int (nI c0)])), (ad 8, .inl (kA, 24, .inl f0)), (ad 2, .inr (0, [.ref (ad 9), .int (nI c1)])), (ad 9, .inl (kA, 24, .inl f1)), (ad 3, .inr (0, [.ref (ad 10), .int (nI c2)])), (ad 10, .inl (kA, 24, .inl f2)), (ad 4, .inr (0, [.ref (ad 11), .int (nI c3)])), (ad 11, .inl (kA, 24, .inl f3))] (some (.int (vz_b (!decide (zat c0 f0 z = -1) && (!zvoid n (zat c0 f0 z) && (!ztch n fk (zX_in fp) (zat c0 f0 z) && !zcg n (ztch n fk (zX_in fp)) (zat c0 f0 z))))))) := by
  refine vz_start (cc := cX1_prime) (maxL := 5) (ret := (some .boolean)) (own := RX1) (by decide) rfl rfl (Nat.le_of_ble_eq_true rfl) ?_
  intro pz ez sz mz below meth cz args Q ls hargs hx hb hml hown hts hr hlocks hP hK hQ hl
  have hcf : CallFix pz mz cz cX1_prime 5 sz args wsX1_prime RX1 := ⟨hx, hb, hml, hown, hts⟩
  have hl : lv_has ls 5 [(0, .ref (ad 0)), (1, .int (nI 0)), (2, .int z)] := hl
  refine lv_aload_n hx hb dX1_prime_0 rfl (lv_at hl 0 rfl) ?_
  refine lv_iload_n hx hb dX1_prime_1 rfl (lv_at hl 1 rfl) ?_
  refine vz_callV (n := 1) (As := [.int (nI 0)]) (rest := []) (q0 := 0) hcf (c_X1_listAt0 l D kA ad n fp fk fh hn) gX1_prime_X1_listAt rfl hd_X1_listAt ⟨Nat.le_of_ble_eq_true rfl, Nat.le_of_ble_eq_true rfl⟩ hK (hP.sub [0, 1, 2, 3] rfl) rfl rfl rfl rfl hl.1 rfl (Nat.le_of_ble_eq_true rfl) ⟨Nat.zero_le _, Nat.zero_le _⟩ dX1_prime_2 ?_
  refine lv_astore_n (lv' := [(3, .ref (ad 1)), (0, .ref (ad 0)), (1, .int (nI 0)), (2, .int z)]) hx hb dX1_prime_5 rfl hl (by decide) rfl (fun ls hl => ?_)
  refine lv_aload_n hx hb dX1_prime_6 rfl (lv_at hl 0 rfl) ?_
  refine lv_ifnonnull (tgt := 12) hx hb dX1_prime_7 (by decide) ?_
  refine lv_aload_n hx hb dX1_prime_12 rfl (lv_at hl 0 rfl) ?_
  refine lv_iload_n hx hb dX1_prime_13 rfl (lv_at hl 3 rfl) ?_
  refine vz_callV (n := 1) (As := [.int z]) (rest := []) (q0 := 0) hcf (c_X0_at l D kA (ad 1) (ad 8) c0 f0 hc z) gX1_prime_X0_at rfl hd_X0_at ⟨Nat.le_of_ble_eq_true rfl, Nat.le_of_ble_eq_true rfl⟩ hK (hP.sub [4, 5] rfl) rfl rfl rfl rfl hl.1 rfl (Nat.le_of_ble_eq_true rfl) ⟨Nat.zero_le _, Nat.zero_le _⟩ dX1_prime_14 ?_
  refine lv_istore (lv' := [(4, .int (zat c0 f0 z)), (3, .ref (ad 1)), (0, .ref (ad 0)), (1, .int (nI 0)), (2, .int z)]) hx hb dX1_prime_17 hl (by decide) rfl (fun ls hl => ?_)
  refine lv_iload hx hb dX1_prime_19 (lv_at hl 0 rfl) ?_
  refine lv_iconst (v := -1) hx hb dX1_prime_21 (by decide) ?_
  refine lv_icmp_eq (tgt := 56) hx hb dX1_prime_22 (by decide) (fun c_22 => ?_) (fun c_22 => ?_)
  · skip
    refine lv_iconst (v := nI 0) hx hb dX1_prime_56 (by decide) ?_
    exact vz_iret hx hb hr hlocks hQ (rfl) dX1_prime_57 (by first | (rw [decide_eq_true c_22]; rfl) | (rw [decide_eq_false c_22, c_31]; rfl) | (rw [decide_eq_false c_22, c_31, c_40]; rfl) | (rw [decide_eq_false c_22, c_31, c_40, c_49]; rfl))
  · skip
    refine lv_aload_n hx hb dX1_prime_25 rfl (lv_at hl 2 rfl) ?_
    refine lv_iload hx hb dX1_prime_26 (lv_at hl 0 rfl) ?_
    refine vz_callV (n := 1) (As := [.int (zat c0 f0 z)]) (rest := []) (q0 := 0) hcf (c_X1_isVoid l D kA ad n fp fk fh hn (zat c0 f0 z)) gX1_prime_X1_isVoid rfl hd_X1_isVoid ⟨Nat.le_of_ble_eq_true rfl, Nat.le_of_ble_eq_true rfl⟩ hK (hP.sub [0, 1, 2, 3] rfl) rfl rfl rfl rfl hl.1 rfl (Nat.le_of_ble_eq_true rfl) ⟨Nat.zero_le _, Nat.zero_le _⟩ dX1_prime_28 ?_
    refine vz_ifneB (tgt := 56) hx hb dX1_prime_31 (by decide) (fun c_31 => ?_) (fun c_31 => ?_)
    · skip
      refine lv_iconst (v := nI 0) hx hb dX1_prime_56 (by decide) ?_
      exact vz_iret hx hb hr hlocks hQ (rfl) dX1_prime_57 (by first | (rw [decide_eq_true c_22]; rfl) | (rw [decide_eq_false c_22, c_31]; rfl) | (rw [decide_eq_false c_22, c_31, c_40]; rfl) | (rw [decide_eq_false c_22, c_31, c_40, c_49]; rfl))
    · skip
      refine lv_aload_n hx hb dX1_prime_34 rfl (lv_at hl 2 rfl) ?_
      refine lv_iload hx hb dX1_prime_35 (lv_at hl 0 rfl) ?_
      refine vz_callV (n := 1) (As := [.int (zat c0 f0 z)]) (rest := []) (q0 := 0) hcf (c_X1_touches l D kA ad n fp fk fh hn (zat c0 f0 z)) gX1_prime_X1_touches rfl hd_X1_touches ⟨Nat.le_of_ble_eq_true rfl, Nat.le_of_ble_eq_true rfl⟩ hK (hP.sub [0, 1, 2, 3] rfl) rfl rfl rfl rfl hl.1 rfl (Nat.le_of_ble_eq_true rfl) ⟨Nat.zero_le _, Nat.zero_le _⟩ dX1_prime_37 ?_
      refine vz_ifneB (tgt := 56) hx hb dX1_prime_40 (by decide) (fun c_40 => ?_) (fun c_40 => ?_)
      · skip
        refine lv_iconst (v := nI 0) hx hb dX1_prime_56 (by decide) ?_
        exact vz_iret hx hb hr hlocks hQ (rfl) dX1_prime_57 (by first | (rw [decide_eq_true c_22]; rfl) | (rw [decide_eq_false c_22, c_31]; rfl) | (rw [decide_eq_false c_22, c_31, c_40]; rfl) | (rw [decide_eq_false c_22, c_31, c_40, c_49]; rfl))
      · skip
        refine lv_aload_n hx hb dX1_prime_43 rfl (lv_at hl 2 rfl) ?_
        refine lv_iload hx hb dX1_prime_44 (lv_at hl 0 rfl) ?_
        refine vz_callV (n := 1) (As := [.int (zat c0 f0 z)]) (rest := []) (q0 := 0) hcf (c_X1_cannotGrow l D kA ad n fp fk fh hn (zat c0 f0 z)) gX1_prime_X1_cannotGrow rfl hd_X1_cannotGrow ⟨Nat.le_of_ble_eq_true rfl, Nat.le_of_ble_eq_true rfl⟩ hK (hP.sub [0, 1, 2, 3] rfl) rfl rfl rfl rfl hl.1 rfl (Nat.le_of_ble_eq_true rfl) ⟨Nat.zero_le _, Nat.zero_le _⟩ dX1_prime_46 ?_
        refine vz_ifeqB (tgt := 56) hx hb dX1_prime_49 (by decide) (fun c_49 => ?_) (fun c_49 => ?_)
        · skip
          refine lv_iconst (v := nI 0) hx hb dX1_prime_56 (by decide) ?_
          exact vz_iret hx hb hr hlocks hQ (rfl) dX1_prime_57 (by first | (rw [decide_eq_true c_22]; rfl) | (rw [decide_eq_false c_22, c_31]; rfl) | (rw [decide_eq_false c_22, c_31, c_40]; rfl) | (rw [decide_eq_false c_22, c_31, c_40, c_49]; rfl))
        · skip
          refine lv_iconst (v := nI 1) hx hb dX1_prime_52 (by decide) ?_
          refine lv_goto (tgt := 57) hx hb dX1_prime_53 (by decide) ?_
          exact vz_iret hx hb hr hlocks hQ (rfl) dX1_prime_57 (by first | (rw [decide_eq_true c_22]; rfl) | (rw [decide_eq_false c_22, c_31]; rfl) | (rw [decide_eq_false c_22, c_31, c_40]; rfl) | (rw [decide_eq_false c_22, c_31, c_40, c_49]; rfl))
set_option maxHeartbeats 4000000 in
set_option maxRecDepth 100000 in
theorem c_X1_size1 (l : Launch) (D : va_G) (kA : ClassId) (ad : Nat → Nat) (n : Nat) (fp fk fh : Nat → Int32) (c0 c1 c2 c3 : Nat) (f0 f1 f2 f3 : Nat → Int32) (hn : n ≤ 8) (hc : c1 ≤ 24) : vz_M l yX1_size wsX1_size 1 21 [.ref (ad 0), .int (nI 1)] D kA [(ad 0, .inr (1, [.ref (ad 1), .ref (ad 2), .ref (ad 3), .ref (ad 4), .ref (ad 5), .ref (ad 6), .ref (ad 7), .int (nI n)])), (ad 5, .inl (kA, 256, .inl fp)), (ad 6, .inl (kA, 256, .inl fk)), (ad 7, .inl (kA, 256, .inl fh)), (ad 1, .inr (0, [.ref (ad 8), .int (nI c0)])), (ad 8, .inl (kA, 24, .inl f0)), (ad 2, .inr (0, [.ref (ad 9), .int (nI c1)])), (ad 9, .inl (kA, 24, .inl f1)), (ad 3, .inr (0, [.ref (ad 10), .int (nI c2)])), (ad 10, .inl (kA, 24, .inl f2)), (ad 4, .inr (0, [.ref (ad 11), .int (nI c3)])), (ad 11, .inl (kA, 24, .inl f3))] (some (.int (nI c1))) := by
  refine vz_start (cc := cX1_size) (maxL := 3) (ret := (some .int)) (own := RX1) (by decide) rfl rfl (Nat.le_of_ble_eq_true rfl) ?_
  intro pz ez sz mz below meth cz args Q ls hargs hx hb hml hown hts hr hlocks hP hK hQ hl
  have hcf : CallFix pz mz cz cX1_size 3 sz args wsX1_size RX1 := ⟨hx, hb, hml, hown, hts⟩
  have hl : lv_has ls 3 [(0, .ref (ad 0)), (1, .int (nI 1))] := hl
  refine lv_aload_n hx hb dX1_size_0 rfl (lv_at hl 0 rfl) ?_
  refine lv_iload_n hx hb dX1_size_1 rfl (lv_at hl 1 rfl) ?_
  refine vz_callV (n := 1) (As := [.int (nI 1)]) (rest := []) (q0 := 0) hcf (c_X1_listAt1 l D kA ad n fp fk fh hn) gX1_size_X1_listAt rfl hd_X1_listAt ⟨Nat.le_of_ble_eq_true rfl, Nat.le_of_ble_eq_true rfl⟩ hK (hP.sub [0, 1, 2, 3] rfl) rfl rfl rfl rfl hl.1 rfl (Nat.le_of_ble_eq_true rfl) ⟨Nat.zero_le _, Nat.zero_le _⟩ dX1_size_2 ?_
  refine lv_astore_n (lv' := [(2, .ref (ad 2)), (0, .ref (ad 0)), (1, .int (nI 1))]) hx hb dX1_size_5 rfl hl (by decide) rfl (fun ls hl => ?_)
  refine lv_aload_n hx hb dX1_size_6 rfl (lv_at hl 0 rfl) ?_
  refine lv_ifnonnull (tgt := 14) hx hb dX1_size_7 (by decide) ?_
  refine lv_aload_n hx hb dX1_size_14 rfl (lv_at hl 0 rfl) ?_
  refine vz_callV (n := 0) (As := []) (rest := []) (q0 := 0) hcf (c_X0_length l D kA (ad 2) (ad 9) c1 f1 hc) gX1_size_X0_length rfl hd_X0_length ⟨Nat.le_of_ble_eq_true rfl, Nat.le_of_ble_eq_true rfl⟩ hK (hP.sub [6, 7] rfl) rfl rfl rfl rfl hl.1 rfl (Nat.le_of_ble_eq_true rfl) ⟨Nat.zero_le _, Nat.zero_le _⟩ dX1_size_15 ?_
  exact vz_iret hx hb hr hlocks hQ (vp_nar_int _) dX1_size_18 rfl
set_option maxHeartbeats 4000000 in
set_option maxRecDepth 100000 in
theorem c_X1_cube1 (l : Launch) (D : va_G) (kA : ClassId) (ad : Nat → Nat) (n : Nat) (fp fk fh : Nat → Int32) (c0 c1 c2 c3 : Nat) (f0 f1 f2 f3 : Nat → Int32) (hn : n ≤ 8) (hc : c1 ≤ 24) (z : Int32) : vz_M l yX1_cube wsX1_cube 1 21 [.ref (ad 0), .int (nI 1), .int z] D kA [(ad 0, .inr (1, [.ref (ad 1), .ref (ad 2), .ref (ad 3), .ref (ad 4), .ref (ad 5), .ref (ad 6), .ref (ad 7), .int (nI n)])), (ad 5, .inl (kA, 256, .inl fp)), (ad 6, .inl (kA, 256, .inl fk)), (ad 7, .inl (kA, 256, .inl fh)), (ad 1, .inr (0, [.ref (ad 8), .int (nI c0)])), (ad 8, .inl (kA, 24, .inl f0)), (ad 2, .inr (0, [.ref (ad 9), .int (nI c1)])), (ad 9, .inl (kA, 24, .inl f1)), (ad 3, .inr (0, [.ref (ad 10), .int (nI c2)])), (ad 10, .inl (kA, 24, .inl f2)), (ad 4, .inr (0, [.ref (ad 11), .int (nI c3)])), (ad 11, .inl (kA, 24, .inl f3))] (some (.int (zat c1 f1 z))) := by
  refine vz_start (cc := cX1_cube) (maxL := 4) (ret := (some .int)) (own := RX1) (by decide) rfl rfl (Nat.le_of_ble_eq_true rfl) ?_
  intro pz ez sz mz below meth cz args Q ls hargs hx hb hml hown hts hr hlocks hP hK hQ hl
  have hcf : CallFix pz mz cz cX1_cube 4 sz args wsX1_cube RX1 := ⟨hx, hb, hml, hown, hts⟩
  have hl : lv_has ls 4 [(0, .ref (ad 0)), (1, .int (nI 1)), (2, .int z)] := hl
  refine lv_aload_n hx hb dX1_cube_0 rfl (lv_at hl 0 rfl) ?_
  refine lv_iload_n hx hb dX1_cube_1 rfl (lv_at hl 1 rfl) ?_
  refine vz_callV (n := 1) (As := [.int (nI 1)]) (rest := []) (q0 := 0) hcf (c_X1_listAt1 l D kA ad n fp fk fh hn) gX1_cube_X1_listAt rfl hd_X1_listAt ⟨Nat.le_of_ble_eq_true rfl, Nat.le_of_ble_eq_true rfl⟩ hK (hP.sub [0, 1, 2, 3] rfl) rfl rfl rfl rfl hl.1 rfl (Nat.le_of_ble_eq_true rfl) ⟨Nat.zero_le _, Nat.zero_le _⟩ dX1_cube_2 ?_
  refine lv_astore_n (lv' := [(3, .ref (ad 2)), (0, .ref (ad 0)), (1, .int (nI 1)), (2, .int z)]) hx hb dX1_cube_5 rfl hl (by decide) rfl (fun ls hl => ?_)
  refine lv_aload_n hx hb dX1_cube_6 rfl (lv_at hl 0 rfl) ?_
  refine lv_ifnonnull (tgt := 14) hx hb dX1_cube_7 (by decide) ?_
  refine lv_aload_n hx hb dX1_cube_14 rfl (lv_at hl 0 rfl) ?_
  refine lv_iload_n hx hb dX1_cube_15 rfl (lv_at hl 3 rfl) ?_
  refine vz_callV (n := 1) (As := [.int z]) (rest := []) (q0 := 0) hcf (c_X0_at l D kA (ad 2) (ad 9) c1 f1 hc z) gX1_cube_X0_at rfl hd_X0_at ⟨Nat.le_of_ble_eq_true rfl, Nat.le_of_ble_eq_true rfl⟩ hK (hP.sub [6, 7] rfl) rfl rfl rfl rfl hl.1 rfl (Nat.le_of_ble_eq_true rfl) ⟨Nat.zero_le _, Nat.zero_le _⟩ dX1_cube_16 ?_
  exact vz_iret hx hb hr hlocks hQ (vp_nar_int _) dX1_cube_19 rfl
set_option maxHeartbeats 4000000 in
set_option maxRecDepth 100000 in
theorem c_X1_literals1 (l : Launch) (D : va_G) (kA : ClassId) (ad : Nat → Nat) (n : Nat) (fp fk fh : Nat → Int32) (c0 c1 c2 c3 : Nat) (f0 f1 f2 f3 : Nat → Int32) (hn : n ≤ 8) (hc : c1 ≤ 24) : vz_M l yX1_literals wsX1_literals 2 46 [.ref (ad 0), .int (nI 1)] D kA [(ad 0, .inr (1, [.ref (ad 1), .ref (ad 2), .ref (ad 3), .ref (ad 4), .ref (ad 5), .ref (ad 6), .ref (ad 7), .int (nI n)])), (ad 5, .inl (kA, 256, .inl fp)), (ad 6, .inl (kA, 256, .inl fk)), (ad 7, .inl (kA, 256, .inl fh)), (ad 1, .inr (0, [.ref (ad 8), .int (nI c0)])), (ad 8, .inl (kA, 24, .inl f0)), (ad 2, .inr (0, [.ref (ad 9), .int (nI c1)])), (ad 9, .inl (kA, 24, .inl f1)), (ad 3, .inr (0, [.ref (ad 10), .int (nI c2)])), (ad 10, .inl (kA, 24, .inl f2)), (ad 4, .inr (0, [.ref (ad 11), .int (nI c3)])), (ad 11, .inl (kA, 24, .inl f3))] (some (.int (nI (zlits n c1 f1)))) := by
  refine vz_start (cc := cX1_literals) (maxL := 3) (ret := (some .int)) (own := RX1) (by decide) rfl rfl (Nat.le_of_ble_eq_true rfl) ?_
  intro pz ez sz mz below meth cz args Q ls hargs hx hb hml hown hts hr hlocks hP hK hQ hl
  have hcf : CallFix pz mz cz cX1_literals 3 sz args wsX1_literals RX1 := ⟨hx, hb, hml, hown, hts⟩
  have hl : lv_has ls 3 [(0, .ref (ad 0)), (1, .int (nI 1))] := hl
  refine lv_aload_n hx hb dX1_literals_0 rfl (lv_at hl 0 rfl) ?_
  refine lv_iload_n hx hb dX1_literals_1 rfl (lv_at hl 1 rfl) ?_
  refine vz_callV (n := 1) (As := [.int (nI 1)]) (rest := []) (q0 := 0) hcf (c_X1_listAt1 l D kA ad n fp fk fh hn) gX1_literals_X1_listAt rfl hd_X1_listAt ⟨Nat.le_of_ble_eq_true rfl, Nat.le_of_ble_eq_true rfl⟩ hK (hP.sub [0, 1, 2, 3] rfl) rfl rfl rfl rfl hl.1 rfl (Nat.le_of_ble_eq_true rfl) ⟨Nat.zero_le _, Nat.zero_le _⟩ dX1_literals_2 ?_
  refine lv_astore_n (lv' := [(2, .ref (ad 2)), (0, .ref (ad 0)), (1, .int (nI 1))]) hx hb dX1_literals_5 rfl hl (by decide) rfl (fun ls hl => ?_)
  refine lv_aload_n hx hb dX1_literals_6 rfl (lv_at hl 0 rfl) ?_
  refine lv_ifnonnull (tgt := 14) hx hb dX1_literals_7 (by decide) ?_
  refine lv_aload_n hx hb dX1_literals_14 rfl (lv_at hl 1 rfl) ?_
  refine lv_aload_n hx hb dX1_literals_15 rfl (lv_at hl 0 rfl) ?_
  refine vz_callV (n := 1) (As := [.ref (ad 2)]) (rest := []) (q0 := 0) hcf (c_X1_countLiterals l D kA ad n fp fk fh hn (ad 2) (ad 9) c1 f1 hc) gX1_literals_X1_countLiterals rfl hd_X1_countLiterals ⟨Nat.le_of_ble_eq_true rfl, Nat.le_of_ble_eq_true rfl⟩ hK (hP.sub [0, 1, 2, 3, 6, 7] rfl) rfl rfl rfl rfl hl.1 rfl (Nat.le_of_ble_eq_true rfl) ⟨Nat.zero_le _, Nat.zero_le _⟩ dX1_literals_16 ?_
  exact vz_iret hx hb hr hlocks hQ (vp_nar_int _) dX1_literals_19 rfl
set_option maxHeartbeats 4000000 in
set_option maxRecDepth 100000 in
theorem c_X1_missing1 (l : Launch) (D : va_G) (kA : ClassId) (ad : Nat → Nat) (n : Nat) (fp fk fh : Nat → Int32) (c0 c1 c2 c3 : Nat) (f0 f1 f2 f3 : Nat → Int32) (hn : n ≤ 8) (hc : c1 ≤ 24) : vz_M l yX1_missing wsX1_missing 3 69 [.ref (ad 0), .int (nI 1)] D kA [(ad 0, .inr (1, [.ref (ad 1), .ref (ad 2), .ref (ad 3), .ref (ad 4), .ref (ad 5), .ref (ad 6), .ref (ad 7), .int (nI n)])), (ad 5, .inl (kA, 256, .inl fp)), (ad 6, .inl (kA, 256, .inl fk)), (ad 7, .inl (kA, 256, .inl fh)), (ad 1, .inr (0, [.ref (ad 8), .int (nI c0)])), (ad 8, .inl (kA, 24, .inl f0)), (ad 2, .inr (0, [.ref (ad 9), .int (nI c1)])), (ad 9, .inl (kA, 24, .inl f1)), (ad 3, .inr (0, [.ref (ad 10), .int (nI c2)])), (ad 10, .inl (kA, 24, .inl f2)), (ad 4, .inr (0, [.ref (ad 11), .int (nI c3)])), (ad 11, .inl (kA, 24, .inl f3))] (some (.int (nI (cnB (zN n) (fun p => !zX_inL fp c1 f1 p))))) := by
  refine vz_start (cc := cX1_missing) (maxL := 3) (ret := (some .int)) (own := RX1) (by decide) rfl rfl (Nat.le_of_ble_eq_true rfl) ?_
  intro pz ez sz mz below meth cz args Q ls hargs hx hb hml hown hts hr hlocks hP hK hQ hl
  have hcf : CallFix pz mz cz cX1_missing 3 sz args wsX1_missing RX1 := ⟨hx, hb, hml, hown, hts⟩
  have hl : lv_has ls 3 [(0, .ref (ad 0)), (1, .int (nI 1))] := hl
  refine lv_aload_n hx hb dX1_missing_0 rfl (lv_at hl 0 rfl) ?_
  refine lv_iload_n hx hb dX1_missing_1 rfl (lv_at hl 1 rfl) ?_
  refine vz_callV (n := 1) (As := [.int (nI 1)]) (rest := []) (q0 := 0) hcf (c_X1_listAt1 l D kA ad n fp fk fh hn) gX1_missing_X1_listAt rfl hd_X1_listAt ⟨Nat.le_of_ble_eq_true rfl, Nat.le_of_ble_eq_true rfl⟩ hK (hP.sub [0, 1, 2, 3] rfl) rfl rfl rfl rfl hl.1 rfl (Nat.le_of_ble_eq_true rfl) ⟨Nat.zero_le _, Nat.zero_le _⟩ dX1_missing_2 ?_
  refine lv_astore_n (lv' := [(2, .ref (ad 2)), (0, .ref (ad 0)), (1, .int (nI 1))]) hx hb dX1_missing_5 rfl hl (by decide) rfl (fun ls hl => ?_)
  refine lv_aload_n hx hb dX1_missing_6 rfl (lv_at hl 0 rfl) ?_
  refine lv_ifnonnull (tgt := 14) hx hb dX1_missing_7 (by decide) ?_
  refine lv_aload_n hx hb dX1_missing_14 rfl (lv_at hl 1 rfl) ?_
  refine lv_aload_n hx hb dX1_missing_15 rfl (lv_at hl 0 rfl) ?_
  refine vz_callV (n := 1) (As := [.ref (ad 2)]) (rest := []) (q0 := 0) hcf (c_X1_countMissing l D kA ad n fp fk fh hn (ad 2) (ad 9) c1 f1 hc) gX1_missing_X1_countMissing rfl hd_X1_countMissing ⟨Nat.le_of_ble_eq_true rfl, Nat.le_of_ble_eq_true rfl⟩ hK (hP.sub [0, 1, 2, 3, 6, 7] rfl) rfl rfl rfl rfl hl.1 rfl (Nat.le_of_ble_eq_true rfl) ⟨Nat.zero_le _, Nat.zero_le _⟩ dX1_missing_16 ?_
  exact vz_iret hx hb hr hlocks hQ (vp_nar_int _) dX1_missing_19 rfl
set_option maxHeartbeats 4000000 in
set_option maxRecDepth 100000 in
theorem c_X1_tautology1 (l : Launch) (D : va_G) (kA : ClassId) (ad : Nat → Nat) (n : Nat) (fp fk fh : Nat → Int32) (c0 c1 c2 c3 : Nat) (f0 f1 f2 f3 : Nat → Int32) (hn : n ≤ 8) (hc : c1 ≤ 24) : vz_M l yX1_tautology wsX1_tautology 3 69 [.ref (ad 0), .int (nI 1)] D kA [(ad 0, .inr (1, [.ref (ad 1), .ref (ad 2), .ref (ad 3), .ref (ad 4), .ref (ad 5), .ref (ad 6), .ref (ad 7), .int (nI n)])), (ad 5, .inl (kA, 256, .inl fp)), (ad 6, .inl (kA, 256, .inl fk)), (ad 7, .inl (kA, 256, .inl fh)), (ad 1, .inr (0, [.ref (ad 8), .int (nI c0)])), (ad 8, .inl (kA, 24, .inl f0)), (ad 2, .inr (0, [.ref (ad 9), .int (nI c1)])), (ad 9, .inl (kA, 24, .inl f1)), (ad 3, .inr (0, [.ref (ad 10), .int (nI c2)])), (ad 10, .inl (kA, 24, .inl f2)), (ad 4, .inr (0, [.ref (ad 11), .int (nI c3)])), (ad 11, .inl (kA, 24, .inl f3))] (some (.int (vz_b (decide (cnB (zN n) (fun p => !zX_inL fp c1 f1 p) = 0))))) := by
  refine vz_start (cc := cX1_tautology) (maxL := 3) (ret := (some .boolean)) (own := RX1) (by decide) rfl rfl (Nat.le_of_ble_eq_true rfl) ?_
  intro pz ez sz mz below meth cz args Q ls hargs hx hb hml hown hts hr hlocks hP hK hQ hl
  have hcf : CallFix pz mz cz cX1_tautology 3 sz args wsX1_tautology RX1 := ⟨hx, hb, hml, hown, hts⟩
  have hl : lv_has ls 3 [(0, .ref (ad 0)), (1, .int (nI 1))] := hl
  have hN := zN_le hn
  have hm := cnB_le (zN n) (fun p => !zX_inL fp c1 f1 p)
  refine lv_aload_n hx hb dX1_tautology_0 rfl (lv_at hl 0 rfl) ?_
  refine lv_iload_n hx hb dX1_tautology_1 rfl (lv_at hl 1 rfl) ?_
  refine vz_callV (n := 1) (As := [.int (nI 1)]) (rest := []) (q0 := 0) hcf (c_X1_listAt1 l D kA ad n fp fk fh hn) gX1_tautology_X1_listAt rfl hd_X1_listAt ⟨Nat.le_of_ble_eq_true rfl, Nat.le_of_ble_eq_true rfl⟩ hK (hP.sub [0, 1, 2, 3] rfl) rfl rfl rfl rfl hl.1 rfl (Nat.le_of_ble_eq_true rfl) ⟨Nat.zero_le _, Nat.zero_le _⟩ dX1_tautology_2 ?_
  refine lv_astore_n (lv' := [(2, .ref (ad 2)), (0, .ref (ad 0)), (1, .int (nI 1))]) hx hb dX1_tautology_5 rfl hl (by decide) rfl (fun ls hl => ?_)
  refine lv_aload_n hx hb dX1_tautology_6 rfl (lv_at hl 0 rfl) ?_
  refine lv_ifnull hx hb dX1_tautology_7 ?_
  refine lv_aload_n hx hb dX1_tautology_10 rfl (lv_at hl 1 rfl) ?_
  refine lv_aload_n hx hb dX1_tautology_11 rfl (lv_at hl 0 rfl) ?_
  refine vz_callV (n := 1) (As := [.ref (ad 2)]) (rest := []) (q0 := 0) hcf (c_X1_countMissing l D kA ad n fp fk fh hn (ad 2) (ad 9) c1 f1 hc) gX1_tautology_X1_countMissing rfl hd_X1_countMissing ⟨Nat.le_of_ble_eq_true rfl, Nat.le_of_ble_eq_true rfl⟩ hK (hP.sub [0, 1, 2, 3, 6, 7] rfl) rfl rfl rfl rfl hl.1 rfl (Nat.le_of_ble_eq_true rfl) ⟨Nat.zero_le _, Nat.zero_le _⟩ dX1_tautology_12 ?_
  refine lv_if_ne (tgt := 22) hx hb dX1_tautology_15 (by decide) (fun c_15 => ?_) (fun c_15 => ?_)
  · skip
    have c_16 := fun q => c_15 (congrArg nI q)
    refine lv_iconst (v := nI 0) hx hb dX1_tautology_22 (by decide) ?_
    exact vz_iret hx hb hr hlocks hQ (rfl) dX1_tautology_23 (by first | (rw [decide_eq_true c_16]; rfl) | (rw [decide_eq_false (fun q => c_15 (congrArg nI q))]; rfl))
  · skip
    have c_16 := (nI_eq (by omega) (by omega)).mp (c_15.trans nI_0.symm)
    refine lv_iconst (v := nI 1) hx hb dX1_tautology_18 (by decide) ?_
    refine lv_goto (tgt := 23) hx hb dX1_tautology_19 (by decide) ?_
    exact vz_iret hx hb hr hlocks hQ (rfl) dX1_tautology_23 (by first | (rw [decide_eq_true c_16]; rfl) | (rw [decide_eq_false (fun q => c_15 (congrArg nI q))]; rfl))
set_option maxHeartbeats 4000000 in
set_option maxRecDepth 100000 in
theorem c_X1_holds1 (l : Launch) (D : va_G) (kA : ClassId) (ad : Nat → Nat) (n : Nat) (fp fk fh : Nat → Int32) (c0 c1 c2 c3 : Nat) (f0 f1 f2 f3 : Nat → Int32) (hn : n ≤ 8) (hc : c1 ≤ 24) (z : Int32) : vz_M l yX1_holds wsX1_holds 2 45 [.ref (ad 0), .int (nI 1), .int z] D kA [(ad 0, .inr (1, [.ref (ad 1), .ref (ad 2), .ref (ad 3), .ref (ad 4), .ref (ad 5), .ref (ad 6), .ref (ad 7), .int (nI n)])), (ad 5, .inl (kA, 256, .inl fp)), (ad 6, .inl (kA, 256, .inl fk)), (ad 7, .inl (kA, 256, .inl fh)), (ad 1, .inr (0, [.ref (ad 8), .int (nI c0)])), (ad 8, .inl (kA, 24, .inl f0)), (ad 2, .inr (0, [.ref (ad 9), .int (nI c1)])), (ad 9, .inl (kA, 24, .inl f1)), (ad 3, .inr (0, [.ref (ad 10), .int (nI c2)])), (ad 10, .inl (kA, 24, .inl f2)), (ad 4, .inr (0, [.ref (ad 11), .int (nI c3)])), (ad 11, .inl (kA, 24, .inl f3))] (some (.int (vz_b ((!decide (z < 0) && !decide (nI (zN n) ≤ z)) && zX_inL fp c1 f1 z.toNatClampNeg)))) := by
  refine vz_start (cc := cX1_holds) (maxL := 4) (ret := (some .boolean)) (own := RX1) (by decide) rfl rfl (Nat.le_of_ble_eq_true rfl) ?_
  intro pz ez sz mz below meth cz args Q ls hargs hx hb hml hown hts hr hlocks hP hK hQ hl
  have hcf : CallFix pz mz cz cX1_holds 4 sz args wsX1_holds RX1 := ⟨hx, hb, hml, hown, hts⟩
  have hl : lv_has ls 4 [(0, .ref (ad 0)), (1, .int (nI 1)), (2, .int z)] := hl
  have hN := zN_le hn
  refine lv_aload_n hx hb dX1_holds_0 rfl (lv_at hl 0 rfl) ?_
  refine lv_iload_n hx hb dX1_holds_1 rfl (lv_at hl 1 rfl) ?_
  refine vz_callV (n := 1) (As := [.int (nI 1)]) (rest := []) (q0 := 0) hcf (c_X1_listAt1 l D kA ad n fp fk fh hn) gX1_holds_X1_listAt rfl hd_X1_listAt ⟨Nat.le_of_ble_eq_true rfl, Nat.le_of_ble_eq_true rfl⟩ hK (hP.sub [0, 1, 2, 3] rfl) rfl rfl rfl rfl hl.1 rfl (Nat.le_of_ble_eq_true rfl) ⟨Nat.zero_le _, Nat.zero_le _⟩ dX1_holds_2 ?_
  refine lv_astore_n (lv' := [(3, .ref (ad 2)), (0, .ref (ad 0)), (1, .int (nI 1)), (2, .int z)]) hx hb dX1_holds_5 rfl hl (by decide) rfl (fun ls hl => ?_)
  refine lv_aload_n hx hb dX1_holds_6 rfl (lv_at hl 0 rfl) ?_
  refine lv_ifnull hx hb dX1_holds_7 ?_
  refine lv_aload_n hx hb dX1_holds_10 rfl (lv_at hl 1 rfl) ?_
  refine lv_iload_n hx hb dX1_holds_11 rfl (lv_at hl 3 rfl) ?_
  refine vz_callV (n := 1) (As := [.int z]) (rest := []) (q0 := 0) hcf (c_X1_isPoint l D kA ad n fp fk fh hn z) gX1_holds_X1_isPoint rfl hd_X1_isPoint ⟨Nat.le_of_ble_eq_true rfl, Nat.le_of_ble_eq_true rfl⟩ hK (hP.sub [0, 1, 2, 3] rfl) rfl rfl rfl rfl hl.1 rfl (Nat.le_of_ble_eq_true rfl) ⟨Nat.zero_le _, Nat.zero_le _⟩ dX1_holds_12 ?_
  refine vz_ifeqB (tgt := 31) hx hb dX1_holds_15 (by decide) (fun c_15 => ?_) (fun c_15 => ?_)
  · skip
    refine lv_iconst (v := nI 0) hx hb dX1_holds_31 (by decide) ?_
    exact vz_iret hx hb hr hlocks hQ (rfl) dX1_holds_32 (by first | rfl | (rw [c_15]; rfl) | (rw [hqc, c_24, c_15]; rfl) | (rw [c_15]; rw [hqc, c_24]; rfl) | (rw [hqc, c_24]; simp; rfl))
  · skip
    obtain ⟨q, hq, rfl⟩ : ∃ q : Nat, q < zN n ∧ z = nI q := by
      simp only [Bool.and_eq_true, Bool.not_eq_true', decide_eq_false_iff_not] at c_15
      rcases pk_ix z (n := zN n) (by omega) with h1 | h1 | h1
      · exact absurd h1 c_15.1
      · exact absurd h1 c_15.2
      · exact h1
    have hqc : (nI q).toNatClampNeg = q := nI_clamp (by omega)
    refine lv_aload_n hx hb dX1_holds_18 rfl (lv_at hl 1 rfl) ?_
    refine lv_aload_n hx hb dX1_holds_19 rfl (lv_at hl 0 rfl) ?_
    refine lv_iload_n hx hb dX1_holds_20 rfl (lv_at hl 3 rfl) ?_
    refine vz_callV (n := 2) (As := [.ref (ad 2), .int (nI q)]) (rest := []) (q0 := 0) hcf (c_X1_isInList l D kA ad n fp fk fh hn (ad 2) (ad 9) c1 f1 hc q (by omega)) gX1_holds_X1_isInList rfl hd_X1_isInList ⟨Nat.le_of_ble_eq_true rfl, Nat.le_of_ble_eq_true rfl⟩ hK (hP.sub [0, 1, 2, 3, 6, 7] rfl) rfl rfl rfl rfl hl.1 rfl (Nat.le_of_ble_eq_true rfl) ⟨Nat.zero_le _, Nat.zero_le _⟩ dX1_holds_21 ?_
    refine vz_ifeqB (tgt := 31) hx hb dX1_holds_24 (by decide) (fun c_24 => ?_) (fun c_24 => ?_)
    · skip
      refine lv_iconst (v := nI 0) hx hb dX1_holds_31 (by decide) ?_
      exact vz_iret hx hb hr hlocks hQ (rfl) dX1_holds_32 (by first | rfl | (rw [c_15]; rfl) | (rw [hqc, c_24, c_15]; rfl) | (rw [c_15]; rw [hqc, c_24]; rfl) | (rw [hqc, c_24]; simp; rfl))
    · skip
      refine lv_iconst (v := nI 1) hx hb dX1_holds_27 (by decide) ?_
      refine lv_goto (tgt := 32) hx hb dX1_holds_28 (by decide) ?_
      exact vz_iret hx hb hr hlocks hQ (rfl) dX1_holds_32 (by first | rfl | (rw [c_15]; rfl) | (rw [hqc, c_24, c_15]; rfl) | (rw [c_15]; rw [hqc, c_24]; rfl) | (rw [hqc, c_24]; simp; rfl))
set_option maxHeartbeats 4000000 in
set_option maxRecDepth 100000 in
theorem c_X1_prime1 (l : Launch) (D : va_G) (kA : ClassId) (ad : Nat → Nat) (n : Nat) (fp fk fh : Nat → Int32) (c0 c1 c2 c3 : Nat) (f0 f1 f2 f3 : Nat → Int32) (hn : n ≤ 8) (hc : c1 ≤ 24) (z : Int32) : vz_M l yX1_prime wsX1_prime 3 68 [.ref (ad 0), .int (nI 1), .int z] D kA [(ad 0, .inr (1, [.ref (ad 1), .ref (ad 2), .ref (ad 3), .ref (ad 4), .ref (ad 5), .ref (ad 6), .ref (ad 7), .int (nI n)])), (ad 5, .inl (kA, 256, .inl fp)), (ad 6, .inl (kA, 256, .inl fk)), (ad 7, .inl (kA, 256, .inl fh)), (ad 1, .inr (0, [.ref (ad 8), .int (nI c0)])), (ad 8, .inl (kA, 24, .inl f0)), (ad 2, .inr (0, [.ref (ad 9), .int (nI c1)])), (ad 9, .inl (kA, 24, .inl f1)), (ad 3, .inr (0, [.ref (ad 10), .int (nI c2)])), (ad 10, .inl (kA, 24, .inl f2)), (ad 4, .inr (0, [.ref (ad 11), .int (nI c3)])), (ad 11, .inl (kA, 24, .inl f3))] (some (.int (vz_b (!decide (zat c1 f1 z = -1) && (!zvoid n (zat c1 f1 z) && (!ztch n fk (zX_in fp) (zat c1 f1 z) && !zcg n (ztch n fk (zX_in fp)) (zat c1 f1 z))))))) := by
  refine vz_start (cc := cX1_prime) (maxL := 5) (ret := (some .boolean)) (own := RX1) (by decide) rfl rfl (Nat.le_of_ble_eq_true rfl) ?_
  intro pz ez sz mz below meth cz args Q ls hargs hx hb hml hown hts hr hlocks hP hK hQ hl
  have hcf : CallFix pz mz cz cX1_prime 5 sz args wsX1_prime RX1 := ⟨hx, hb, hml, hown, hts⟩
  have hl : lv_has ls 5 [(0, .ref (ad 0)), (1, .int (nI 1)), (2, .int z)] := hl
  refine lv_aload_n hx hb dX1_prime_0 rfl (lv_at hl 0 rfl) ?_
  refine lv_iload_n hx hb dX1_prime_1 rfl (lv_at hl 1 rfl) ?_
  refine vz_callV (n := 1) (As := [.int (nI 1)]) (rest := []) (q0 := 0) hcf (c_X1_listAt1 l D kA ad n fp fk fh hn) gX1_prime_X1_listAt rfl hd_X1_listAt ⟨Nat.le_of_ble_eq_true rfl, Nat.le_of_ble_eq_true rfl⟩ hK (hP.sub [0, 1, 2, 3] rfl) rfl rfl rfl rfl hl.1 rfl (Nat.le_of_ble_eq_true rfl) ⟨Nat.zero_le _, Nat.zero_le _⟩ dX1_prime_2 ?_
  refine lv_astore_n (lv' := [(3, .ref (ad 2)), (0, .ref (ad 0)), (1, .int (nI 1)), (2, .int z)]) hx hb dX1_prime_5 rfl hl (by decide) rfl (fun ls hl => ?_)
  refine lv_aload_n hx hb dX1_prime_6 rfl (lv_at hl 0 rfl) ?_
  refine lv_ifnonnull (tgt := 12) hx hb dX1_prime_7 (by decide) ?_
  refine lv_aload_n hx hb dX1_prime_12 rfl (lv_at hl 0 rfl) ?_
  refine lv_iload_n hx hb dX1_prime_13 rfl (lv_at hl 3 rfl) ?_
  refine vz_callV (n := 1) (As := [.int z]) (rest := []) (q0 := 0) hcf (c_X0_at l D kA (ad 2) (ad 9) c1 f1 hc z) gX1_prime_X0_at rfl hd_X0_at ⟨Nat.le_of_ble_eq_true rfl, Nat.le_of_ble_eq_true rfl⟩ hK (hP.sub [6, 7] rfl) rfl rfl rfl rfl hl.1 rfl (Nat.le_of_ble_eq_true rfl) ⟨Nat.zero_le _, Nat.zero_le _⟩ dX1_prime_14 ?_
  refine lv_istore (lv' := [(4, .int (zat c1 f1 z)), (3, .ref (ad 2)), (0, .ref (ad 0)), (1, .int (nI 1)), (2, .int z)]) hx hb dX1_prime_17 hl (by decide) rfl (fun ls hl => ?_)
  refine lv_iload hx hb dX1_prime_19 (lv_at hl 0 rfl) ?_
  refine lv_iconst (v := -1) hx hb dX1_prime_21 (by decide) ?_
  refine lv_icmp_eq (tgt := 56) hx hb dX1_prime_22 (by decide) (fun c_22 => ?_) (fun c_22 => ?_)
  · skip
    refine lv_iconst (v := nI 0) hx hb dX1_prime_56 (by decide) ?_
    exact vz_iret hx hb hr hlocks hQ (rfl) dX1_prime_57 (by first | (rw [decide_eq_true c_22]; rfl) | (rw [decide_eq_false c_22, c_31]; rfl) | (rw [decide_eq_false c_22, c_31, c_40]; rfl) | (rw [decide_eq_false c_22, c_31, c_40, c_49]; rfl))
  · skip
    refine lv_aload_n hx hb dX1_prime_25 rfl (lv_at hl 2 rfl) ?_
    refine lv_iload hx hb dX1_prime_26 (lv_at hl 0 rfl) ?_
    refine vz_callV (n := 1) (As := [.int (zat c1 f1 z)]) (rest := []) (q0 := 0) hcf (c_X1_isVoid l D kA ad n fp fk fh hn (zat c1 f1 z)) gX1_prime_X1_isVoid rfl hd_X1_isVoid ⟨Nat.le_of_ble_eq_true rfl, Nat.le_of_ble_eq_true rfl⟩ hK (hP.sub [0, 1, 2, 3] rfl) rfl rfl rfl rfl hl.1 rfl (Nat.le_of_ble_eq_true rfl) ⟨Nat.zero_le _, Nat.zero_le _⟩ dX1_prime_28 ?_
    refine vz_ifneB (tgt := 56) hx hb dX1_prime_31 (by decide) (fun c_31 => ?_) (fun c_31 => ?_)
    · skip
      refine lv_iconst (v := nI 0) hx hb dX1_prime_56 (by decide) ?_
      exact vz_iret hx hb hr hlocks hQ (rfl) dX1_prime_57 (by first | (rw [decide_eq_true c_22]; rfl) | (rw [decide_eq_false c_22, c_31]; rfl) | (rw [decide_eq_false c_22, c_31, c_40]; rfl) | (rw [decide_eq_false c_22, c_31, c_40, c_49]; rfl))
    · skip
      refine lv_aload_n hx hb dX1_prime_34 rfl (lv_at hl 2 rfl) ?_
      refine lv_iload hx hb dX1_prime_35 (lv_at hl 0 rfl) ?_
      refine vz_callV (n := 1) (As := [.int (zat c1 f1 z)]) (rest := []) (q0 := 0) hcf (c_X1_touches l D kA ad n fp fk fh hn (zat c1 f1 z)) gX1_prime_X1_touches rfl hd_X1_touches ⟨Nat.le_of_ble_eq_true rfl, Nat.le_of_ble_eq_true rfl⟩ hK (hP.sub [0, 1, 2, 3] rfl) rfl rfl rfl rfl hl.1 rfl (Nat.le_of_ble_eq_true rfl) ⟨Nat.zero_le _, Nat.zero_le _⟩ dX1_prime_37 ?_
      refine vz_ifneB (tgt := 56) hx hb dX1_prime_40 (by decide) (fun c_40 => ?_) (fun c_40 => ?_)
      · skip
        refine lv_iconst (v := nI 0) hx hb dX1_prime_56 (by decide) ?_
        exact vz_iret hx hb hr hlocks hQ (rfl) dX1_prime_57 (by first | (rw [decide_eq_true c_22]; rfl) | (rw [decide_eq_false c_22, c_31]; rfl) | (rw [decide_eq_false c_22, c_31, c_40]; rfl) | (rw [decide_eq_false c_22, c_31, c_40, c_49]; rfl))
      · skip
        refine lv_aload_n hx hb dX1_prime_43 rfl (lv_at hl 2 rfl) ?_
        refine lv_iload hx hb dX1_prime_44 (lv_at hl 0 rfl) ?_
        refine vz_callV (n := 1) (As := [.int (zat c1 f1 z)]) (rest := []) (q0 := 0) hcf (c_X1_cannotGrow l D kA ad n fp fk fh hn (zat c1 f1 z)) gX1_prime_X1_cannotGrow rfl hd_X1_cannotGrow ⟨Nat.le_of_ble_eq_true rfl, Nat.le_of_ble_eq_true rfl⟩ hK (hP.sub [0, 1, 2, 3] rfl) rfl rfl rfl rfl hl.1 rfl (Nat.le_of_ble_eq_true rfl) ⟨Nat.zero_le _, Nat.zero_le _⟩ dX1_prime_46 ?_
        refine vz_ifeqB (tgt := 56) hx hb dX1_prime_49 (by decide) (fun c_49 => ?_) (fun c_49 => ?_)
        · skip
          refine lv_iconst (v := nI 0) hx hb dX1_prime_56 (by decide) ?_
          exact vz_iret hx hb hr hlocks hQ (rfl) dX1_prime_57 (by first | (rw [decide_eq_true c_22]; rfl) | (rw [decide_eq_false c_22, c_31]; rfl) | (rw [decide_eq_false c_22, c_31, c_40]; rfl) | (rw [decide_eq_false c_22, c_31, c_40, c_49]; rfl))
        · skip
          refine lv_iconst (v := nI 1) hx hb dX1_prime_52 (by decide) ?_
          refine lv_goto (tgt := 57) hx hb dX1_prime_53 (by decide) ?_
          exact vz_iret hx hb hr hlocks hQ (rfl) dX1_prime_57 (by first | (rw [decide_eq_true c_22]; rfl) | (rw [decide_eq_false c_22, c_31]; rfl) | (rw [decide_eq_false c_22, c_31, c_40]; rfl) | (rw [decide_eq_false c_22, c_31, c_40, c_49]; rfl))
set_option maxHeartbeats 4000000 in
set_option maxRecDepth 100000 in
theorem c_X1_size2 (l : Launch) (D : va_G) (kA : ClassId) (ad : Nat → Nat) (n : Nat) (fp fk fh : Nat → Int32) (c0 c1 c2 c3 : Nat) (f0 f1 f2 f3 : Nat → Int32) (hn : n ≤ 8) (hc : c2 ≤ 24) : vz_M l yX1_size wsX1_size 1 21 [.ref (ad 0), .int (nI 2)] D kA [(ad 0, .inr (1, [.ref (ad 1), .ref (ad 2), .ref (ad 3), .ref (ad 4), .ref (ad 5), .ref (ad 6), .ref (ad 7), .int (nI n)])), (ad 5, .inl (kA, 256, .inl fp)), (ad 6, .inl (kA, 256, .inl fk)), (ad 7, .inl (kA, 256, .inl fh)), (ad 1, .inr (0, [.ref (ad 8), .int (nI c0)])), (ad 8, .inl (kA, 24, .inl f0)), (ad 2, .inr (0, [.ref (ad 9), .int (nI c1)])), (ad 9, .inl (kA, 24, .inl f1)), (ad 3, .inr (0, [.ref (ad 10), .int (nI c2)])), (ad 10, .inl (kA, 24, .inl f2)), (ad 4, .inr (0, [.ref (ad 11), .int (nI c3)])), (ad 11, .inl (kA, 24, .inl f3))] (some (.int (nI c2))) := by
  refine vz_start (cc := cX1_size) (maxL := 3) (ret := (some .int)) (own := RX1) (by decide) rfl rfl (Nat.le_of_ble_eq_true rfl) ?_
  intro pz ez sz mz below meth cz args Q ls hargs hx hb hml hown hts hr hlocks hP hK hQ hl
  have hcf : CallFix pz mz cz cX1_size 3 sz args wsX1_size RX1 := ⟨hx, hb, hml, hown, hts⟩
  have hl : lv_has ls 3 [(0, .ref (ad 0)), (1, .int (nI 2))] := hl
  refine lv_aload_n hx hb dX1_size_0 rfl (lv_at hl 0 rfl) ?_
  refine lv_iload_n hx hb dX1_size_1 rfl (lv_at hl 1 rfl) ?_
  refine vz_callV (n := 1) (As := [.int (nI 2)]) (rest := []) (q0 := 0) hcf (c_X1_listAt2 l D kA ad n fp fk fh hn) gX1_size_X1_listAt rfl hd_X1_listAt ⟨Nat.le_of_ble_eq_true rfl, Nat.le_of_ble_eq_true rfl⟩ hK (hP.sub [0, 1, 2, 3] rfl) rfl rfl rfl rfl hl.1 rfl (Nat.le_of_ble_eq_true rfl) ⟨Nat.zero_le _, Nat.zero_le _⟩ dX1_size_2 ?_
  refine lv_astore_n (lv' := [(2, .ref (ad 3)), (0, .ref (ad 0)), (1, .int (nI 2))]) hx hb dX1_size_5 rfl hl (by decide) rfl (fun ls hl => ?_)
  refine lv_aload_n hx hb dX1_size_6 rfl (lv_at hl 0 rfl) ?_
  refine lv_ifnonnull (tgt := 14) hx hb dX1_size_7 (by decide) ?_
  refine lv_aload_n hx hb dX1_size_14 rfl (lv_at hl 0 rfl) ?_
  refine vz_callV (n := 0) (As := []) (rest := []) (q0 := 0) hcf (c_X0_length l D kA (ad 3) (ad 10) c2 f2 hc) gX1_size_X0_length rfl hd_X0_length ⟨Nat.le_of_ble_eq_true rfl, Nat.le_of_ble_eq_true rfl⟩ hK (hP.sub [8, 9] rfl) rfl rfl rfl rfl hl.1 rfl (Nat.le_of_ble_eq_true rfl) ⟨Nat.zero_le _, Nat.zero_le _⟩ dX1_size_15 ?_
  exact vz_iret hx hb hr hlocks hQ (vp_nar_int _) dX1_size_18 rfl
set_option maxHeartbeats 4000000 in
set_option maxRecDepth 100000 in
theorem c_X1_cube2 (l : Launch) (D : va_G) (kA : ClassId) (ad : Nat → Nat) (n : Nat) (fp fk fh : Nat → Int32) (c0 c1 c2 c3 : Nat) (f0 f1 f2 f3 : Nat → Int32) (hn : n ≤ 8) (hc : c2 ≤ 24) (z : Int32) : vz_M l yX1_cube wsX1_cube 1 21 [.ref (ad 0), .int (nI 2), .int z] D kA [(ad 0, .inr (1, [.ref (ad 1), .ref (ad 2), .ref (ad 3), .ref (ad 4), .ref (ad 5), .ref (ad 6), .ref (ad 7), .int (nI n)])), (ad 5, .inl (kA, 256, .inl fp)), (ad 6, .inl (kA, 256, .inl fk)), (ad 7, .inl (kA, 256, .inl fh)), (ad 1, .inr (0, [.ref (ad 8), .int (nI c0)])), (ad 8, .inl (kA, 24, .inl f0)), (ad 2, .inr (0, [.ref (ad 9), .int (nI c1)])), (ad 9, .inl (kA, 24, .inl f1)), (ad 3, .inr (0, [.ref (ad 10), .int (nI c2)])), (ad 10, .inl (kA, 24, .inl f2)), (ad 4, .inr (0, [.ref (ad 11), .int (nI c3)])), (ad 11, .inl (kA, 24, .inl f3))] (some (.int (zat c2 f2 z))) := by
  refine vz_start (cc := cX1_cube) (maxL := 4) (ret := (some .int)) (own := RX1) (by decide) rfl rfl (Nat.le_of_ble_eq_true rfl) ?_
  intro pz ez sz mz below meth cz args Q ls hargs hx hb hml hown hts hr hlocks hP hK hQ hl
  have hcf : CallFix pz mz cz cX1_cube 4 sz args wsX1_cube RX1 := ⟨hx, hb, hml, hown, hts⟩
  have hl : lv_has ls 4 [(0, .ref (ad 0)), (1, .int (nI 2)), (2, .int z)] := hl
  refine lv_aload_n hx hb dX1_cube_0 rfl (lv_at hl 0 rfl) ?_
  refine lv_iload_n hx hb dX1_cube_1 rfl (lv_at hl 1 rfl) ?_
  refine vz_callV (n := 1) (As := [.int (nI 2)]) (rest := []) (q0 := 0) hcf (c_X1_listAt2 l D kA ad n fp fk fh hn) gX1_cube_X1_listAt rfl hd_X1_listAt ⟨Nat.le_of_ble_eq_true rfl, Nat.le_of_ble_eq_true rfl⟩ hK (hP.sub [0, 1, 2, 3] rfl) rfl rfl rfl rfl hl.1 rfl (Nat.le_of_ble_eq_true rfl) ⟨Nat.zero_le _, Nat.zero_le _⟩ dX1_cube_2 ?_
  refine lv_astore_n (lv' := [(3, .ref (ad 3)), (0, .ref (ad 0)), (1, .int (nI 2)), (2, .int z)]) hx hb dX1_cube_5 rfl hl (by decide) rfl (fun ls hl => ?_)
  refine lv_aload_n hx hb dX1_cube_6 rfl (lv_at hl 0 rfl) ?_
  refine lv_ifnonnull (tgt := 14) hx hb dX1_cube_7 (by decide) ?_
  refine lv_aload_n hx hb dX1_cube_14 rfl (lv_at hl 0 rfl) ?_
  refine lv_iload_n hx hb dX1_cube_15 rfl (lv_at hl 3 rfl) ?_
  refine vz_callV (n := 1) (As := [.int z]) (rest := []) (q0 := 0) hcf (c_X0_at l D kA (ad 3) (ad 10) c2 f2 hc z) gX1_cube_X0_at rfl hd_X0_at ⟨Nat.le_of_ble_eq_true rfl, Nat.le_of_ble_eq_true rfl⟩ hK (hP.sub [8, 9] rfl) rfl rfl rfl rfl hl.1 rfl (Nat.le_of_ble_eq_true rfl) ⟨Nat.zero_le _, Nat.zero_le _⟩ dX1_cube_16 ?_
  exact vz_iret hx hb hr hlocks hQ (vp_nar_int _) dX1_cube_19 rfl
set_option maxHeartbeats 4000000 in
set_option maxRecDepth 100000 in
theorem c_X1_literals2 (l : Launch) (D : va_G) (kA : ClassId) (ad : Nat → Nat) (n : Nat) (fp fk fh : Nat → Int32) (c0 c1 c2 c3 : Nat) (f0 f1 f2 f3 : Nat → Int32) (hn : n ≤ 8) (hc : c2 ≤ 24) : vz_M l yX1_literals wsX1_literals 2 46 [.ref (ad 0), .int (nI 2)] D kA [(ad 0, .inr (1, [.ref (ad 1), .ref (ad 2), .ref (ad 3), .ref (ad 4), .ref (ad 5), .ref (ad 6), .ref (ad 7), .int (nI n)])), (ad 5, .inl (kA, 256, .inl fp)), (ad 6, .inl (kA, 256, .inl fk)), (ad 7, .inl (kA, 256, .inl fh)), (ad 1, .inr (0, [.ref (ad 8), .int (nI c0)])), (ad 8, .inl (kA, 24, .inl f0)), (ad 2, .inr (0, [.ref (ad 9), .int (nI c1)])), (ad 9, .inl (kA, 24, .inl f1)), (ad 3, .inr (0, [.ref (ad 10), .int (nI c2)])), (ad 10, .inl (kA, 24, .inl f2)), (ad 4, .inr (0, [.ref (ad 11), .int (nI c3)])), (ad 11, .inl (kA, 24, .inl f3))] (some (.int (nI (zlits n c2 f2)))) := by
  refine vz_start (cc := cX1_literals) (maxL := 3) (ret := (some .int)) (own := RX1) (by decide) rfl rfl (Nat.le_of_ble_eq_true rfl) ?_
  intro pz ez sz mz below meth cz args Q ls hargs hx hb hml hown hts hr hlocks hP hK hQ hl
  have hcf : CallFix pz mz cz cX1_literals 3 sz args wsX1_literals RX1 := ⟨hx, hb, hml, hown, hts⟩
  have hl : lv_has ls 3 [(0, .ref (ad 0)), (1, .int (nI 2))] := hl
  refine lv_aload_n hx hb dX1_literals_0 rfl (lv_at hl 0 rfl) ?_
  refine lv_iload_n hx hb dX1_literals_1 rfl (lv_at hl 1 rfl) ?_
  refine vz_callV (n := 1) (As := [.int (nI 2)]) (rest := []) (q0 := 0) hcf (c_X1_listAt2 l D kA ad n fp fk fh hn) gX1_literals_X1_listAt rfl hd_X1_listAt ⟨Nat.le_of_ble_eq_true rfl, Nat.le_of_ble_eq_true rfl⟩ hK (hP.sub [0, 1, 2, 3] rfl) rfl rfl rfl rfl hl.1 rfl (Nat.le_of_ble_eq_true rfl) ⟨Nat.zero_le _, Nat.zero_le _⟩ dX1_literals_2 ?_
  refine lv_astore_n (lv' := [(2, .ref (ad 3)), (0, .ref (ad 0)), (1, .int (nI 2))]) hx hb dX1_literals_5 rfl hl (by decide) rfl (fun ls hl => ?_)
  refine lv_aload_n hx hb dX1_literals_6 rfl (lv_at hl 0 rfl) ?_
  refine lv_ifnonnull (tgt := 14) hx hb dX1_literals_7 (by decide) ?_
  refine lv_aload_n hx hb dX1_literals_14 rfl (lv_at hl 1 rfl) ?_
  refine lv_aload_n hx hb dX1_literals_15 rfl (lv_at hl 0 rfl) ?_
  refine vz_callV (n := 1) (As := [.ref (ad 3)]) (rest := []) (q0 := 0) hcf (c_X1_countLiterals l D kA ad n fp fk fh hn (ad 3) (ad 10) c2 f2 hc) gX1_literals_X1_countLiterals rfl hd_X1_countLiterals ⟨Nat.le_of_ble_eq_true rfl, Nat.le_of_ble_eq_true rfl⟩ hK (hP.sub [0, 1, 2, 3, 8, 9] rfl) rfl rfl rfl rfl hl.1 rfl (Nat.le_of_ble_eq_true rfl) ⟨Nat.zero_le _, Nat.zero_le _⟩ dX1_literals_16 ?_
  exact vz_iret hx hb hr hlocks hQ (vp_nar_int _) dX1_literals_19 rfl
set_option maxHeartbeats 4000000 in
set_option maxRecDepth 100000 in
theorem c_X1_missing2 (l : Launch) (D : va_G) (kA : ClassId) (ad : Nat → Nat) (n : Nat) (fp fk fh : Nat → Int32) (c0 c1 c2 c3 : Nat) (f0 f1 f2 f3 : Nat → Int32) (hn : n ≤ 8) (hc : c2 ≤ 24) : vz_M l yX1_missing wsX1_missing 3 69 [.ref (ad 0), .int (nI 2)] D kA [(ad 0, .inr (1, [.ref (ad 1), .ref (ad 2), .ref (ad 3), .ref (ad 4), .ref (ad 5), .ref (ad 6), .ref (ad 7), .int (nI n)])), (ad 5, .inl (kA, 256, .inl fp)), (ad 6, .inl (kA, 256, .inl fk)), (ad 7, .inl (kA, 256, .inl fh)), (ad 1, .inr (0, [.ref (ad 8), .int (nI c0)])), (ad 8, .inl (kA, 24, .inl f0)), (ad 2, .inr (0, [.ref (ad 9), .int (nI c1)])), (ad 9, .inl (kA, 24, .inl f1)), (ad 3, .inr (0, [.ref (ad 10), .int (nI c2)])), (ad 10, .inl (kA, 24, .inl f2)), (ad 4, .inr (0, [.ref (ad 11), .int (nI c3)])), (ad 11, .inl (kA, 24, .inl f3))] (some (.int (nI (cnB (zN n) (fun p => !zX_inL fp c2 f2 p))))) := by
  refine vz_start (cc := cX1_missing) (maxL := 3) (ret := (some .int)) (own := RX1) (by decide) rfl rfl (Nat.le_of_ble_eq_true rfl) ?_
  intro pz ez sz mz below meth cz args Q ls hargs hx hb hml hown hts hr hlocks hP hK hQ hl
  have hcf : CallFix pz mz cz cX1_missing 3 sz args wsX1_missing RX1 := ⟨hx, hb, hml, hown, hts⟩
  have hl : lv_has ls 3 [(0, .ref (ad 0)), (1, .int (nI 2))] := hl
  refine lv_aload_n hx hb dX1_missing_0 rfl (lv_at hl 0 rfl) ?_
  refine lv_iload_n hx hb dX1_missing_1 rfl (lv_at hl 1 rfl) ?_
  refine vz_callV (n := 1) (As := [.int (nI 2)]) (rest := []) (q0 := 0) hcf (c_X1_listAt2 l D kA ad n fp fk fh hn) gX1_missing_X1_listAt rfl hd_X1_listAt ⟨Nat.le_of_ble_eq_true rfl, Nat.le_of_ble_eq_true rfl⟩ hK (hP.sub [0, 1, 2, 3] rfl) rfl rfl rfl rfl hl.1 rfl (Nat.le_of_ble_eq_true rfl) ⟨Nat.zero_le _, Nat.zero_le _⟩ dX1_missing_2 ?_
  refine lv_astore_n (lv' := [(2, .ref (ad 3)), (0, .ref (ad 0)), (1, .int (nI 2))]) hx hb dX1_missing_5 rfl hl (by decide) rfl (fun ls hl => ?_)
  refine lv_aload_n hx hb dX1_missing_6 rfl (lv_at hl 0 rfl) ?_
  refine lv_ifnonnull (tgt := 14) hx hb dX1_missing_7 (by decide) ?_
  refine lv_aload_n hx hb dX1_missing_14 rfl (lv_at hl 1 rfl) ?_
  refine lv_aload_n hx hb dX1_missing_15 rfl (lv_at hl 0 rfl) ?_
  refine vz_callV (n := 1) (As := [.ref (ad 3)]) (rest := []) (q0 := 0) hcf (c_X1_countMissing l D kA ad n fp fk fh hn (ad 3) (ad 10) c2 f2 hc) gX1_missing_X1_countMissing rfl hd_X1_countMissing ⟨Nat.le_of_ble_eq_true rfl, Nat.le_of_ble_eq_true rfl⟩ hK (hP.sub [0, 1, 2, 3, 8, 9] rfl) rfl rfl rfl rfl hl.1 rfl (Nat.le_of_ble_eq_true rfl) ⟨Nat.zero_le _, Nat.zero_le _⟩ dX1_missing_16 ?_
  exact vz_iret hx hb hr hlocks hQ (vp_nar_int _) dX1_missing_19 rfl
set_option maxHeartbeats 4000000 in
set_option maxRecDepth 100000 in
theorem c_X1_tautology2 (l : Launch) (D : va_G) (kA : ClassId) (ad : Nat → Nat) (n : Nat) (fp fk fh : Nat → Int32) (c0 c1 c2 c3 : Nat) (f0 f1 f2 f3 : Nat → Int32) (hn : n ≤ 8) (hc : c2 ≤ 24) : vz_M l yX1_tautology wsX1_tautology 3 69 [.ref (ad 0), .int (nI 2)] D kA [(ad 0, .inr (1, [.ref (ad 1), .ref (ad 2), .ref (ad 3), .ref (ad 4), .ref (ad 5), .ref (ad 6), .ref (ad 7), .int (nI n)])), (ad 5, .inl (kA, 256, .inl fp)), (ad 6, .inl (kA, 256, .inl fk)), (ad 7, .inl (kA, 256, .inl fh)), (ad 1, .inr (0, [.ref (ad 8), .int (nI c0)])), (ad 8, .inl (kA, 24, .inl f0)), (ad 2, .inr (0, [.ref (ad 9), .int (nI c1)])), (ad 9, .inl (kA, 24, .inl f1)), (ad 3, .inr (0, [.ref (ad 10), .int (nI c2)])), (ad 10, .inl (kA, 24, .inl f2)), (ad 4, .inr (0, [.ref (ad 11), .int (nI c3)])), (ad 11, .inl (kA, 24, .inl f3))] (some (.int (vz_b (decide (cnB (zN n) (fun p => !zX_inL fp c2 f2 p) = 0))))) := by
  refine vz_start (cc := cX1_tautology) (maxL := 3) (ret := (some .boolean)) (own := RX1) (by decide) rfl rfl (Nat.le_of_ble_eq_true rfl) ?_
  intro pz ez sz mz below meth cz args Q ls hargs hx hb hml hown hts hr hlocks hP hK hQ hl
  have hcf : CallFix pz mz cz cX1_tautology 3 sz args wsX1_tautology RX1 := ⟨hx, hb, hml, hown, hts⟩
  have hl : lv_has ls 3 [(0, .ref (ad 0)), (1, .int (nI 2))] := hl
  have hN := zN_le hn
  have hm := cnB_le (zN n) (fun p => !zX_inL fp c2 f2 p)
  refine lv_aload_n hx hb dX1_tautology_0 rfl (lv_at hl 0 rfl) ?_
  refine lv_iload_n hx hb dX1_tautology_1 rfl (lv_at hl 1 rfl) ?_
  refine vz_callV (n := 1) (As := [.int (nI 2)]) (rest := []) (q0 := 0) hcf (c_X1_listAt2 l D kA ad n fp fk fh hn) gX1_tautology_X1_listAt rfl hd_X1_listAt ⟨Nat.le_of_ble_eq_true rfl, Nat.le_of_ble_eq_true rfl⟩ hK (hP.sub [0, 1, 2, 3] rfl) rfl rfl rfl rfl hl.1 rfl (Nat.le_of_ble_eq_true rfl) ⟨Nat.zero_le _, Nat.zero_le _⟩ dX1_tautology_2 ?_
  refine lv_astore_n (lv' := [(2, .ref (ad 3)), (0, .ref (ad 0)), (1, .int (nI 2))]) hx hb dX1_tautology_5 rfl hl (by decide) rfl (fun ls hl => ?_)
  refine lv_aload_n hx hb dX1_tautology_6 rfl (lv_at hl 0 rfl) ?_
  refine lv_ifnull hx hb dX1_tautology_7 ?_
  refine lv_aload_n hx hb dX1_tautology_10 rfl (lv_at hl 1 rfl) ?_
  refine lv_aload_n hx hb dX1_tautology_11 rfl (lv_at hl 0 rfl) ?_
  refine vz_callV (n := 1) (As := [.ref (ad 3)]) (rest := []) (q0 := 0) hcf (c_X1_countMissing l D kA ad n fp fk fh hn (ad 3) (ad 10) c2 f2 hc) gX1_tautology_X1_countMissing rfl hd_X1_countMissing ⟨Nat.le_of_ble_eq_true rfl, Nat.le_of_ble_eq_true rfl⟩ hK (hP.sub [0, 1, 2, 3, 8, 9] rfl) rfl rfl rfl rfl hl.1 rfl (Nat.le_of_ble_eq_true rfl) ⟨Nat.zero_le _, Nat.zero_le _⟩ dX1_tautology_12 ?_
  refine lv_if_ne (tgt := 22) hx hb dX1_tautology_15 (by decide) (fun c_15 => ?_) (fun c_15 => ?_)
  · skip
    have c_16 := fun q => c_15 (congrArg nI q)
    refine lv_iconst (v := nI 0) hx hb dX1_tautology_22 (by decide) ?_
    exact vz_iret hx hb hr hlocks hQ (rfl) dX1_tautology_23 (by first | (rw [decide_eq_true c_16]; rfl) | (rw [decide_eq_false (fun q => c_15 (congrArg nI q))]; rfl))
  · skip
    have c_16 := (nI_eq (by omega) (by omega)).mp (c_15.trans nI_0.symm)
    refine lv_iconst (v := nI 1) hx hb dX1_tautology_18 (by decide) ?_
    refine lv_goto (tgt := 23) hx hb dX1_tautology_19 (by decide) ?_
    exact vz_iret hx hb hr hlocks hQ (rfl) dX1_tautology_23 (by first | (rw [decide_eq_true c_16]; rfl) | (rw [decide_eq_false (fun q => c_15 (congrArg nI q))]; rfl))
set_option maxHeartbeats 4000000 in
set_option maxRecDepth 100000 in
theorem c_X1_holds2 (l : Launch) (D : va_G) (kA : ClassId) (ad : Nat → Nat) (n : Nat) (fp fk fh : Nat → Int32) (c0 c1 c2 c3 : Nat) (f0 f1 f2 f3 : Nat → Int32) (hn : n ≤ 8) (hc : c2 ≤ 24) (z : Int32) : vz_M l yX1_holds wsX1_holds 2 45 [.ref (ad 0), .int (nI 2), .int z] D kA [(ad 0, .inr (1, [.ref (ad 1), .ref (ad 2), .ref (ad 3), .ref (ad 4), .ref (ad 5), .ref (ad 6), .ref (ad 7), .int (nI n)])), (ad 5, .inl (kA, 256, .inl fp)), (ad 6, .inl (kA, 256, .inl fk)), (ad 7, .inl (kA, 256, .inl fh)), (ad 1, .inr (0, [.ref (ad 8), .int (nI c0)])), (ad 8, .inl (kA, 24, .inl f0)), (ad 2, .inr (0, [.ref (ad 9), .int (nI c1)])), (ad 9, .inl (kA, 24, .inl f1)), (ad 3, .inr (0, [.ref (ad 10), .int (nI c2)])), (ad 10, .inl (kA, 24, .inl f2)), (ad 4, .inr (0, [.ref (ad 11), .int (nI c3)])), (ad 11, .inl (kA, 24, .inl f3))] (some (.int (vz_b ((!decide (z < 0) && !decide (nI (zN n) ≤ z)) && zX_inL fp c2 f2 z.toNatClampNeg)))) := by
  refine vz_start (cc := cX1_holds) (maxL := 4) (ret := (some .boolean)) (own := RX1) (by decide) rfl rfl (Nat.le_of_ble_eq_true rfl) ?_
  intro pz ez sz mz below meth cz args Q ls hargs hx hb hml hown hts hr hlocks hP hK hQ hl
  have hcf : CallFix pz mz cz cX1_holds 4 sz args wsX1_holds RX1 := ⟨hx, hb, hml, hown, hts⟩
  have hl : lv_has ls 4 [(0, .ref (ad 0)), (1, .int (nI 2)), (2, .int z)] := hl
  have hN := zN_le hn
  refine lv_aload_n hx hb dX1_holds_0 rfl (lv_at hl 0 rfl) ?_
  refine lv_iload_n hx hb dX1_holds_1 rfl (lv_at hl 1 rfl) ?_
  refine vz_callV (n := 1) (As := [.int (nI 2)]) (rest := []) (q0 := 0) hcf (c_X1_listAt2 l D kA ad n fp fk fh hn) gX1_holds_X1_listAt rfl hd_X1_listAt ⟨Nat.le_of_ble_eq_true rfl, Nat.le_of_ble_eq_true rfl⟩ hK (hP.sub [0, 1, 2, 3] rfl) rfl rfl rfl rfl hl.1 rfl (Nat.le_of_ble_eq_true rfl) ⟨Nat.zero_le _, Nat.zero_le _⟩ dX1_holds_2 ?_
  refine lv_astore_n (lv' := [(3, .ref (ad 3)), (0, .ref (ad 0)), (1, .int (nI 2)), (2, .int z)]) hx hb dX1_holds_5 rfl hl (by decide) rfl (fun ls hl => ?_)
  refine lv_aload_n hx hb dX1_holds_6 rfl (lv_at hl 0 rfl) ?_
  refine lv_ifnull hx hb dX1_holds_7 ?_
  refine lv_aload_n hx hb dX1_holds_10 rfl (lv_at hl 1 rfl) ?_
  refine lv_iload_n hx hb dX1_holds_11 rfl (lv_at hl 3 rfl) ?_
  refine vz_callV (n := 1) (As := [.int z]) (rest := []) (q0 := 0) hcf (c_X1_isPoint l D kA ad n fp fk fh hn z) gX1_holds_X1_isPoint rfl hd_X1_isPoint ⟨Nat.le_of_ble_eq_true rfl, Nat.le_of_ble_eq_true rfl⟩ hK (hP.sub [0, 1, 2, 3] rfl) rfl rfl rfl rfl hl.1 rfl (Nat.le_of_ble_eq_true rfl) ⟨Nat.zero_le _, Nat.zero_le _⟩ dX1_holds_12 ?_
  refine vz_ifeqB (tgt := 31) hx hb dX1_holds_15 (by decide) (fun c_15 => ?_) (fun c_15 => ?_)
  · skip
    refine lv_iconst (v := nI 0) hx hb dX1_holds_31 (by decide) ?_
    exact vz_iret hx hb hr hlocks hQ (rfl) dX1_holds_32 (by first | rfl | (rw [c_15]; rfl) | (rw [hqc, c_24, c_15]; rfl) | (rw [c_15]; rw [hqc, c_24]; rfl) | (rw [hqc, c_24]; simp; rfl))
  · skip
    obtain ⟨q, hq, rfl⟩ : ∃ q : Nat, q < zN n ∧ z = nI q := by
      simp only [Bool.and_eq_true, Bool.not_eq_true', decide_eq_false_iff_not] at c_15
      rcases pk_ix z (n := zN n) (by omega) with h1 | h1 | h1
      · exact absurd h1 c_15.1
      · exact absurd h1 c_15.2
      · exact h1
    have hqc : (nI q).toNatClampNeg = q := nI_clamp (by omega)
    refine lv_aload_n hx hb dX1_holds_18 rfl (lv_at hl 1 rfl) ?_
    refine lv_aload_n hx hb dX1_holds_19 rfl (lv_at hl 0 rfl) ?_
    refine lv_iload_n hx hb dX1_holds_20 rfl (lv_at hl 3 rfl) ?_
    refine vz_callV (n := 2) (As := [.ref (ad 3), .int (nI q)]) (rest := []) (q0 := 0) hcf (c_X1_isInList l D kA ad n fp fk fh hn (ad 3) (ad 10) c2 f2 hc q (by omega)) gX1_holds_X1_isInList rfl hd_X1_isInList ⟨Nat.le_of_ble_eq_true rfl, Nat.le_of_ble_eq_true rfl⟩ hK (hP.sub [0, 1, 2, 3, 8, 9] rfl) rfl rfl rfl rfl hl.1 rfl (Nat.le_of_ble_eq_true rfl) ⟨Nat.zero_le _, Nat.zero_le _⟩ dX1_holds_21 ?_
    refine vz_ifeqB (tgt := 31) hx hb dX1_holds_24 (by decide) (fun c_24 => ?_) (fun c_24 => ?_)
    · skip
      refine lv_iconst (v := nI 0) hx hb dX1_holds_31 (by decide) ?_
      exact vz_iret hx hb hr hlocks hQ (rfl) dX1_holds_32 (by first | rfl | (rw [c_15]; rfl) | (rw [hqc, c_24, c_15]; rfl) | (rw [c_15]; rw [hqc, c_24]; rfl) | (rw [hqc, c_24]; simp; rfl))
    · skip
      refine lv_iconst (v := nI 1) hx hb dX1_holds_27 (by decide) ?_
      refine lv_goto (tgt := 32) hx hb dX1_holds_28 (by decide) ?_
      exact vz_iret hx hb hr hlocks hQ (rfl) dX1_holds_32 (by first | rfl | (rw [c_15]; rfl) | (rw [hqc, c_24, c_15]; rfl) | (rw [c_15]; rw [hqc, c_24]; rfl) | (rw [hqc, c_24]; simp; rfl))
set_option maxHeartbeats 4000000 in
set_option maxRecDepth 100000 in
theorem c_X1_prime2 (l : Launch) (D : va_G) (kA : ClassId) (ad : Nat → Nat) (n : Nat) (fp fk fh : Nat → Int32) (c0 c1 c2 c3 : Nat) (f0 f1 f2 f3 : Nat → Int32) (hn : n ≤ 8) (hc : c2 ≤ 24) (z : Int32) : vz_M l yX1_prime wsX1_prime 3 68 [.ref (ad 0), .int (nI 2), .int z] D kA [(ad 0, .inr (1, [.ref (ad 1), .ref (ad 2), .ref (ad 3), .ref (ad 4), .ref (ad 5), .ref (ad 6), .ref (ad 7), .int (nI n)])), (ad 5, .inl (kA, 256, .inl fp)), (ad 6, .inl (kA, 256, .inl fk)), (ad 7, .inl (kA, 256, .inl fh)), (ad 1, .inr (0, [.ref (ad 8), .int (nI c0)])), (ad 8, .inl (kA, 24, .inl f0)), (ad 2, .inr (0, [.ref (ad 9), .int (nI c1)])), (ad 9, .inl (kA, 24, .inl f1)), (ad 3, .inr (0, [.ref (ad 10), .int (nI c2)])), (ad 10, .inl (kA, 24, .inl f2)), (ad 4, .inr (0, [.ref (ad 11), .int (nI c3)])), (ad 11, .inl (kA, 24, .inl f3))] (some (.int (vz_b (!decide (zat c2 f2 z = -1) && (!zvoid n (zat c2 f2 z) && (!ztch n fk (zX_in fp) (zat c2 f2 z) && !zcg n (ztch n fk (zX_in fp)) (zat c2 f2 z))))))) := by
  refine vz_start (cc := cX1_prime) (maxL := 5) (ret := (some .boolean)) (own := RX1) (by decide) rfl rfl (Nat.le_of_ble_eq_true rfl) ?_
  intro pz ez sz mz below meth cz args Q ls hargs hx hb hml hown hts hr hlocks hP hK hQ hl
  have hcf : CallFix pz mz cz cX1_prime 5 sz args wsX1_prime RX1 := ⟨hx, hb, hml, hown, hts⟩
  have hl : lv_has ls 5 [(0, .ref (ad 0)), (1, .int (nI 2)), (2, .int z)] := hl
  refine lv_aload_n hx hb dX1_prime_0 rfl (lv_at hl 0 rfl) ?_
  refine lv_iload_n hx hb dX1_prime_1 rfl (lv_at hl 1 rfl) ?_
  refine vz_callV (n := 1) (As := [.int (nI 2)]) (rest := []) (q0 := 0) hcf (c_X1_listAt2 l D kA ad n fp fk fh hn) gX1_prime_X1_listAt rfl hd_X1_listAt ⟨Nat.le_of_ble_eq_true rfl, Nat.le_of_ble_eq_true rfl⟩ hK (hP.sub [0, 1, 2, 3] rfl) rfl rfl rfl rfl hl.1 rfl (Nat.le_of_ble_eq_true rfl) ⟨Nat.zero_le _, Nat.zero_le _⟩ dX1_prime_2 ?_
  refine lv_astore_n (lv' := [(3, .ref (ad 3)), (0, .ref (ad 0)), (1, .int (nI 2)), (2, .int z)]) hx hb dX1_prime_5 rfl hl (by decide) rfl (fun ls hl => ?_)
  refine lv_aload_n hx hb dX1_prime_6 rfl (lv_at hl 0 rfl) ?_
  refine lv_ifnonnull (tgt := 12) hx hb dX1_prime_7 (by decide) ?_
  refine lv_aload_n hx hb dX1_prime_12 rfl (lv_at hl 0 rfl) ?_
  refine lv_iload_n hx hb dX1_prime_13 rfl (lv_at hl 3 rfl) ?_
  refine vz_callV (n := 1) (As := [.int z]) (rest := []) (q0 := 0) hcf (c_X0_at l D kA (ad 3) (ad 10) c2 f2 hc z) gX1_prime_X0_at rfl hd_X0_at ⟨Nat.le_of_ble_eq_true rfl, Nat.le_of_ble_eq_true rfl⟩ hK (hP.sub [8, 9] rfl) rfl rfl rfl rfl hl.1 rfl (Nat.le_of_ble_eq_true rfl) ⟨Nat.zero_le _, Nat.zero_le _⟩ dX1_prime_14 ?_
  refine lv_istore (lv' := [(4, .int (zat c2 f2 z)), (3, .ref (ad 3)), (0, .ref (ad 0)), (1, .int (nI 2)), (2, .int z)]) hx hb dX1_prime_17 hl (by decide) rfl (fun ls hl => ?_)
  refine lv_iload hx hb dX1_prime_19 (lv_at hl 0 rfl) ?_
  refine lv_iconst (v := -1) hx hb dX1_prime_21 (by decide) ?_
  refine lv_icmp_eq (tgt := 56) hx hb dX1_prime_22 (by decide) (fun c_22 => ?_) (fun c_22 => ?_)
  · skip
    refine lv_iconst (v := nI 0) hx hb dX1_prime_56 (by decide) ?_
    exact vz_iret hx hb hr hlocks hQ (rfl) dX1_prime_57 (by first | (rw [decide_eq_true c_22]; rfl) | (rw [decide_eq_false c_22, c_31]; rfl) | (rw [decide_eq_false c_22, c_31, c_40]; rfl) | (rw [decide_eq_false c_22, c_31, c_40, c_49]; rfl))
  · skip
    refine lv_aload_n hx hb dX1_prime_25 rfl (lv_at hl 2 rfl) ?_
    refine lv_iload hx hb dX1_prime_26 (lv_at hl 0 rfl) ?_
    refine vz_callV (n := 1) (As := [.int (zat c2 f2 z)]) (rest := []) (q0 := 0) hcf (c_X1_isVoid l D kA ad n fp fk fh hn (zat c2 f2 z)) gX1_prime_X1_isVoid rfl hd_X1_isVoid ⟨Nat.le_of_ble_eq_true rfl, Nat.le_of_ble_eq_true rfl⟩ hK (hP.sub [0, 1, 2, 3] rfl) rfl rfl rfl rfl hl.1 rfl (Nat.le_of_ble_eq_true rfl) ⟨Nat.zero_le _, Nat.zero_le _⟩ dX1_prime_28 ?_
    refine vz_ifneB (tgt := 56) hx hb dX1_prime_31 (by decide) (fun c_31 => ?_) (fun c_31 => ?_)
    · skip
      refine lv_iconst (v := nI 0) hx hb dX1_prime_56 (by decide) ?_
      exact vz_iret hx hb hr hlocks hQ (rfl) dX1_prime_57 (by first | (rw [decide_eq_true c_22]; rfl) | (rw [decide_eq_false c_22, c_31]; rfl) | (rw [decide_eq_false c_22, c_31, c_40]; rfl) | (rw [decide_eq_false c_22, c_31, c_40, c_49]; rfl))
    · skip
      refine lv_aload_n hx hb dX1_prime_34 rfl (lv_at hl 2 rfl) ?_
      refine lv_iload hx hb dX1_prime_35 (lv_at hl 0 rfl) ?_
      refine vz_callV (n := 1) (As := [.int (zat c2 f2 z)]) (rest := []) (q0 := 0) hcf (c_X1_touches l D kA ad n fp fk fh hn (zat c2 f2 z)) gX1_prime_X1_touches rfl hd_X1_touches ⟨Nat.le_of_ble_eq_true rfl, Nat.le_of_ble_eq_true rfl⟩ hK (hP.sub [0, 1, 2, 3] rfl) rfl rfl rfl rfl hl.1 rfl (Nat.le_of_ble_eq_true rfl) ⟨Nat.zero_le _, Nat.zero_le _⟩ dX1_prime_37 ?_
      refine vz_ifneB (tgt := 56) hx hb dX1_prime_40 (by decide) (fun c_40 => ?_) (fun c_40 => ?_)
      · skip
        refine lv_iconst (v := nI 0) hx hb dX1_prime_56 (by decide) ?_
        exact vz_iret hx hb hr hlocks hQ (rfl) dX1_prime_57 (by first | (rw [decide_eq_true c_22]; rfl) | (rw [decide_eq_false c_22, c_31]; rfl) | (rw [decide_eq_false c_22, c_31, c_40]; rfl) | (rw [decide_eq_false c_22, c_31, c_40, c_49]; rfl))
      · skip
        refine lv_aload_n hx hb dX1_prime_43 rfl (lv_at hl 2 rfl) ?_
        refine lv_iload hx hb dX1_prime_44 (lv_at hl 0 rfl) ?_
        refine vz_callV (n := 1) (As := [.int (zat c2 f2 z)]) (rest := []) (q0 := 0) hcf (c_X1_cannotGrow l D kA ad n fp fk fh hn (zat c2 f2 z)) gX1_prime_X1_cannotGrow rfl hd_X1_cannotGrow ⟨Nat.le_of_ble_eq_true rfl, Nat.le_of_ble_eq_true rfl⟩ hK (hP.sub [0, 1, 2, 3] rfl) rfl rfl rfl rfl hl.1 rfl (Nat.le_of_ble_eq_true rfl) ⟨Nat.zero_le _, Nat.zero_le _⟩ dX1_prime_46 ?_
        refine vz_ifeqB (tgt := 56) hx hb dX1_prime_49 (by decide) (fun c_49 => ?_) (fun c_49 => ?_)
        · skip
          refine lv_iconst (v := nI 0) hx hb dX1_prime_56 (by decide) ?_
          exact vz_iret hx hb hr hlocks hQ (rfl) dX1_prime_57 (by first | (rw [decide_eq_true c_22]; rfl) | (rw [decide_eq_false c_22, c_31]; rfl) | (rw [decide_eq_false c_22, c_31, c_40]; rfl) | (rw [decide_eq_false c_22, c_31, c_40, c_49]; rfl))
        · skip
          refine lv_iconst (v := nI 1) hx hb dX1_prime_52 (by decide) ?_
          refine lv_goto (tgt := 57) hx hb dX1_prime_53 (by decide) ?_
          exact vz_iret hx hb hr hlocks hQ (rfl) dX1_prime_57 (by first | (rw [decide_eq_true c_22]; rfl) | (rw [decide_eq_false c_22, c_31]; rfl) | (rw [decide_eq_false c_22, c_31, c_40]; rfl) | (rw [decide_eq_false c_22, c_31, c_40, c_49]; rfl))
set_option maxHeartbeats 4000000 in
set_option maxRecDepth 100000 in
theorem c_X1_size3 (l : Launch) (D : va_G) (kA : ClassId) (ad : Nat → Nat) (n : Nat) (fp fk fh : Nat → Int32) (c0 c1 c2 c3 : Nat) (f0 f1 f2 f3 : Nat → Int32) (hn : n ≤ 8) (x : Int32) (hx3 : x.toInt < 0 ∨ 2 < x.toInt) : vz_M l yX1_size wsX1_size 1 21 [.ref (ad 0), .int x] D kA [(ad 0, .inr (1, [.ref (ad 1), .ref (ad 2), .ref (ad 3), .ref (ad 4), .ref (ad 5), .ref (ad 6), .ref (ad 7), .int (nI n)])), (ad 5, .inl (kA, 256, .inl fp)), (ad 6, .inl (kA, 256, .inl fk)), (ad 7, .inl (kA, 256, .inl fh)), (ad 1, .inr (0, [.ref (ad 8), .int (nI c0)])), (ad 8, .inl (kA, 24, .inl f0)), (ad 2, .inr (0, [.ref (ad 9), .int (nI c1)])), (ad 9, .inl (kA, 24, .inl f1)), (ad 3, .inr (0, [.ref (ad 10), .int (nI c2)])), (ad 10, .inl (kA, 24, .inl f2)), (ad 4, .inr (0, [.ref (ad 11), .int (nI c3)])), (ad 11, .inl (kA, 24, .inl f3))] (some (.int (-1))) := by
  refine vz_start (cc := cX1_size) (maxL := 3) (ret := (some .int)) (own := RX1) (by decide) rfl rfl (Nat.le_of_ble_eq_true rfl) ?_
  intro pz ez sz mz below meth cz args Q ls hargs hx hb hml hown hts hr hlocks hP hK hQ hl
  have hcf : CallFix pz mz cz cX1_size 3 sz args wsX1_size RX1 := ⟨hx, hb, hml, hown, hts⟩
  have hl : lv_has ls 3 [(0, .ref (ad 0)), (1, .int x)] := hl
  refine lv_aload_n hx hb dX1_size_0 rfl (lv_at hl 0 rfl) ?_
  refine lv_iload_n hx hb dX1_size_1 rfl (lv_at hl 1 rfl) ?_
  refine vz_callV (n := 1) (As := [.int x]) (rest := []) (q0 := 0) hcf (c_X1_listAt3 l D kA ad n fp fk fh hn x hx3) gX1_size_X1_listAt rfl hd_X1_listAt ⟨Nat.le_of_ble_eq_true rfl, Nat.le_of_ble_eq_true rfl⟩ hK (hP.sub [0, 1, 2, 3] rfl) rfl rfl rfl rfl hl.1 rfl (Nat.le_of_ble_eq_true rfl) ⟨Nat.zero_le _, Nat.zero_le _⟩ dX1_size_2 ?_
  refine lv_astore_nN (lv' := [(2, .null), (0, .ref (ad 0)), (1, .int x)]) hx hb dX1_size_5 rfl hl (by decide) rfl (fun ls hl => ?_)
  refine lv_aload_nN hx hb dX1_size_6 rfl (lv_at hl 0 rfl) ?_
  refine lv_ifnonnullN hx hb dX1_size_7 ?_
  refine lv_iconst (v := -1) hx hb dX1_size_10 (by decide) ?_
  refine lv_goto (tgt := 18) hx hb dX1_size_11 (by decide) ?_
  exact vz_iret hx hb hr hlocks hQ (vp_nar_int _) dX1_size_18 rfl
set_option maxHeartbeats 4000000 in
set_option maxRecDepth 100000 in
theorem c_X1_cube3 (l : Launch) (D : va_G) (kA : ClassId) (ad : Nat → Nat) (n : Nat) (fp fk fh : Nat → Int32) (c0 c1 c2 c3 : Nat) (f0 f1 f2 f3 : Nat → Int32) (hn : n ≤ 8) (x : Int32) (hx3 : x.toInt < 0 ∨ 2 < x.toInt) (z : Int32) : vz_M l yX1_cube wsX1_cube 1 21 [.ref (ad 0), .int x, .int z] D kA [(ad 0, .inr (1, [.ref (ad 1), .ref (ad 2), .ref (ad 3), .ref (ad 4), .ref (ad 5), .ref (ad 6), .ref (ad 7), .int (nI n)])), (ad 5, .inl (kA, 256, .inl fp)), (ad 6, .inl (kA, 256, .inl fk)), (ad 7, .inl (kA, 256, .inl fh)), (ad 1, .inr (0, [.ref (ad 8), .int (nI c0)])), (ad 8, .inl (kA, 24, .inl f0)), (ad 2, .inr (0, [.ref (ad 9), .int (nI c1)])), (ad 9, .inl (kA, 24, .inl f1)), (ad 3, .inr (0, [.ref (ad 10), .int (nI c2)])), (ad 10, .inl (kA, 24, .inl f2)), (ad 4, .inr (0, [.ref (ad 11), .int (nI c3)])), (ad 11, .inl (kA, 24, .inl f3))] (some (.int (-1))) := by
  refine vz_start (cc := cX1_cube) (maxL := 4) (ret := (some .int)) (own := RX1) (by decide) rfl rfl (Nat.le_of_ble_eq_true rfl) ?_
  intro pz ez sz mz below meth cz args Q ls hargs hx hb hml hown hts hr hlocks hP hK hQ hl
  have hcf : CallFix pz mz cz cX1_cube 4 sz args wsX1_cube RX1 := ⟨hx, hb, hml, hown, hts⟩
  have hl : lv_has ls 4 [(0, .ref (ad 0)), (1, .int x), (2, .int z)] := hl
  refine lv_aload_n hx hb dX1_cube_0 rfl (lv_at hl 0 rfl) ?_
  refine lv_iload_n hx hb dX1_cube_1 rfl (lv_at hl 1 rfl) ?_
  refine vz_callV (n := 1) (As := [.int x]) (rest := []) (q0 := 0) hcf (c_X1_listAt3 l D kA ad n fp fk fh hn x hx3) gX1_cube_X1_listAt rfl hd_X1_listAt ⟨Nat.le_of_ble_eq_true rfl, Nat.le_of_ble_eq_true rfl⟩ hK (hP.sub [0, 1, 2, 3] rfl) rfl rfl rfl rfl hl.1 rfl (Nat.le_of_ble_eq_true rfl) ⟨Nat.zero_le _, Nat.zero_le _⟩ dX1_cube_2 ?_
  refine lv_astore_nN (lv' := [(3, .null), (0, .ref (ad 0)), (1, .int x), (2, .int z)]) hx hb dX1_cube_5 rfl hl (by decide) rfl (fun ls hl => ?_)
  refine lv_aload_nN hx hb dX1_cube_6 rfl (lv_at hl 0 rfl) ?_
  refine lv_ifnonnullN hx hb dX1_cube_7 ?_
  refine lv_iconst (v := -1) hx hb dX1_cube_10 (by decide) ?_
  refine lv_goto (tgt := 19) hx hb dX1_cube_11 (by decide) ?_
  exact vz_iret hx hb hr hlocks hQ (vp_nar_int _) dX1_cube_19 rfl
set_option maxHeartbeats 4000000 in
set_option maxRecDepth 100000 in
theorem c_X1_literals3 (l : Launch) (D : va_G) (kA : ClassId) (ad : Nat → Nat) (n : Nat) (fp fk fh : Nat → Int32) (c0 c1 c2 c3 : Nat) (f0 f1 f2 f3 : Nat → Int32) (hn : n ≤ 8) (x : Int32) (hx3 : x.toInt < 0 ∨ 2 < x.toInt) : vz_M l yX1_literals wsX1_literals 1 21 [.ref (ad 0), .int x] D kA [(ad 0, .inr (1, [.ref (ad 1), .ref (ad 2), .ref (ad 3), .ref (ad 4), .ref (ad 5), .ref (ad 6), .ref (ad 7), .int (nI n)])), (ad 5, .inl (kA, 256, .inl fp)), (ad 6, .inl (kA, 256, .inl fk)), (ad 7, .inl (kA, 256, .inl fh)), (ad 1, .inr (0, [.ref (ad 8), .int (nI c0)])), (ad 8, .inl (kA, 24, .inl f0)), (ad 2, .inr (0, [.ref (ad 9), .int (nI c1)])), (ad 9, .inl (kA, 24, .inl f1)), (ad 3, .inr (0, [.ref (ad 10), .int (nI c2)])), (ad 10, .inl (kA, 24, .inl f2)), (ad 4, .inr (0, [.ref (ad 11), .int (nI c3)])), (ad 11, .inl (kA, 24, .inl f3))] (some (.int (-1))) := by
  refine vz_start (cc := cX1_literals) (maxL := 3) (ret := (some .int)) (own := RX1) (by decide) rfl rfl (Nat.le_of_ble_eq_true rfl) ?_
  intro pz ez sz mz below meth cz args Q ls hargs hx hb hml hown hts hr hlocks hP hK hQ hl
  have hcf : CallFix pz mz cz cX1_literals 3 sz args wsX1_literals RX1 := ⟨hx, hb, hml, hown, hts⟩
  have hl : lv_has ls 3 [(0, .ref (ad 0)), (1, .int x)] := hl
  refine lv_aload_n hx hb dX1_literals_0 rfl (lv_at hl 0 rfl) ?_
  refine lv_iload_n hx hb dX1_literals_1 rfl (lv_at hl 1 rfl) ?_
  refine vz_callV (n := 1) (As := [.int x]) (rest := []) (q0 := 0) hcf (c_X1_listAt3 l D kA ad n fp fk fh hn x hx3) gX1_literals_X1_listAt rfl hd_X1_listAt ⟨Nat.le_of_ble_eq_true rfl, Nat.le_of_ble_eq_true rfl⟩ hK (hP.sub [0, 1, 2, 3] rfl) rfl rfl rfl rfl hl.1 rfl (Nat.le_of_ble_eq_true rfl) ⟨Nat.zero_le _, Nat.zero_le _⟩ dX1_literals_2 ?_
  refine lv_astore_nN (lv' := [(2, .null), (0, .ref (ad 0)), (1, .int x)]) hx hb dX1_literals_5 rfl hl (by decide) rfl (fun ls hl => ?_)
  refine lv_aload_nN hx hb dX1_literals_6 rfl (lv_at hl 0 rfl) ?_
  refine lv_ifnonnullN hx hb dX1_literals_7 ?_
  refine lv_iconst (v := -1) hx hb dX1_literals_10 (by decide) ?_
  refine lv_goto (tgt := 19) hx hb dX1_literals_11 (by decide) ?_
  exact vz_iret hx hb hr hlocks hQ (vp_nar_int _) dX1_literals_19 rfl
set_option maxHeartbeats 4000000 in
set_option maxRecDepth 100000 in
theorem c_X1_missing3 (l : Launch) (D : va_G) (kA : ClassId) (ad : Nat → Nat) (n : Nat) (fp fk fh : Nat → Int32) (c0 c1 c2 c3 : Nat) (f0 f1 f2 f3 : Nat → Int32) (hn : n ≤ 8) (x : Int32) (hx3 : x.toInt < 0 ∨ 2 < x.toInt) : vz_M l yX1_missing wsX1_missing 1 21 [.ref (ad 0), .int x] D kA [(ad 0, .inr (1, [.ref (ad 1), .ref (ad 2), .ref (ad 3), .ref (ad 4), .ref (ad 5), .ref (ad 6), .ref (ad 7), .int (nI n)])), (ad 5, .inl (kA, 256, .inl fp)), (ad 6, .inl (kA, 256, .inl fk)), (ad 7, .inl (kA, 256, .inl fh)), (ad 1, .inr (0, [.ref (ad 8), .int (nI c0)])), (ad 8, .inl (kA, 24, .inl f0)), (ad 2, .inr (0, [.ref (ad 9), .int (nI c1)])), (ad 9, .inl (kA, 24, .inl f1)), (ad 3, .inr (0, [.ref (ad 10), .int (nI c2)])), (ad 10, .inl (kA, 24, .inl f2)), (ad 4, .inr (0, [.ref (ad 11), .int (nI c3)])), (ad 11, .inl (kA, 24, .inl f3))] (some (.int (-1))) := by
  refine vz_start (cc := cX1_missing) (maxL := 3) (ret := (some .int)) (own := RX1) (by decide) rfl rfl (Nat.le_of_ble_eq_true rfl) ?_
  intro pz ez sz mz below meth cz args Q ls hargs hx hb hml hown hts hr hlocks hP hK hQ hl
  have hcf : CallFix pz mz cz cX1_missing 3 sz args wsX1_missing RX1 := ⟨hx, hb, hml, hown, hts⟩
  have hl : lv_has ls 3 [(0, .ref (ad 0)), (1, .int x)] := hl
  refine lv_aload_n hx hb dX1_missing_0 rfl (lv_at hl 0 rfl) ?_
  refine lv_iload_n hx hb dX1_missing_1 rfl (lv_at hl 1 rfl) ?_
  refine vz_callV (n := 1) (As := [.int x]) (rest := []) (q0 := 0) hcf (c_X1_listAt3 l D kA ad n fp fk fh hn x hx3) gX1_missing_X1_listAt rfl hd_X1_listAt ⟨Nat.le_of_ble_eq_true rfl, Nat.le_of_ble_eq_true rfl⟩ hK (hP.sub [0, 1, 2, 3] rfl) rfl rfl rfl rfl hl.1 rfl (Nat.le_of_ble_eq_true rfl) ⟨Nat.zero_le _, Nat.zero_le _⟩ dX1_missing_2 ?_
  refine lv_astore_nN (lv' := [(2, .null), (0, .ref (ad 0)), (1, .int x)]) hx hb dX1_missing_5 rfl hl (by decide) rfl (fun ls hl => ?_)
  refine lv_aload_nN hx hb dX1_missing_6 rfl (lv_at hl 0 rfl) ?_
  refine lv_ifnonnullN hx hb dX1_missing_7 ?_
  refine lv_iconst (v := -1) hx hb dX1_missing_10 (by decide) ?_
  refine lv_goto (tgt := 19) hx hb dX1_missing_11 (by decide) ?_
  exact vz_iret hx hb hr hlocks hQ (vp_nar_int _) dX1_missing_19 rfl
set_option maxHeartbeats 4000000 in
set_option maxRecDepth 100000 in
theorem c_X1_tautology3 (l : Launch) (D : va_G) (kA : ClassId) (ad : Nat → Nat) (n : Nat) (fp fk fh : Nat → Int32) (c0 c1 c2 c3 : Nat) (f0 f1 f2 f3 : Nat → Int32) (hn : n ≤ 8) (x : Int32) (hx3 : x.toInt < 0 ∨ 2 < x.toInt) : vz_M l yX1_tautology wsX1_tautology 1 21 [.ref (ad 0), .int x] D kA [(ad 0, .inr (1, [.ref (ad 1), .ref (ad 2), .ref (ad 3), .ref (ad 4), .ref (ad 5), .ref (ad 6), .ref (ad 7), .int (nI n)])), (ad 5, .inl (kA, 256, .inl fp)), (ad 6, .inl (kA, 256, .inl fk)), (ad 7, .inl (kA, 256, .inl fh)), (ad 1, .inr (0, [.ref (ad 8), .int (nI c0)])), (ad 8, .inl (kA, 24, .inl f0)), (ad 2, .inr (0, [.ref (ad 9), .int (nI c1)])), (ad 9, .inl (kA, 24, .inl f1)), (ad 3, .inr (0, [.ref (ad 10), .int (nI c2)])), (ad 10, .inl (kA, 24, .inl f2)), (ad 4, .inr (0, [.ref (ad 11), .int (nI c3)])), (ad 11, .inl (kA, 24, .inl f3))] (some (.int (nI 0))) := by
  refine vz_start (cc := cX1_tautology) (maxL := 3) (ret := (some .boolean)) (own := RX1) (by decide) rfl rfl (Nat.le_of_ble_eq_true rfl) ?_
  intro pz ez sz mz below meth cz args Q ls hargs hx hb hml hown hts hr hlocks hP hK hQ hl
  have hcf : CallFix pz mz cz cX1_tautology 3 sz args wsX1_tautology RX1 := ⟨hx, hb, hml, hown, hts⟩
  have hl : lv_has ls 3 [(0, .ref (ad 0)), (1, .int x)] := hl
  refine lv_aload_n hx hb dX1_tautology_0 rfl (lv_at hl 0 rfl) ?_
  refine lv_iload_n hx hb dX1_tautology_1 rfl (lv_at hl 1 rfl) ?_
  refine vz_callV (n := 1) (As := [.int x]) (rest := []) (q0 := 0) hcf (c_X1_listAt3 l D kA ad n fp fk fh hn x hx3) gX1_tautology_X1_listAt rfl hd_X1_listAt ⟨Nat.le_of_ble_eq_true rfl, Nat.le_of_ble_eq_true rfl⟩ hK (hP.sub [0, 1, 2, 3] rfl) rfl rfl rfl rfl hl.1 rfl (Nat.le_of_ble_eq_true rfl) ⟨Nat.zero_le _, Nat.zero_le _⟩ dX1_tautology_2 ?_
  refine lv_astore_nN (lv' := [(2, .null), (0, .ref (ad 0)), (1, .int x)]) hx hb dX1_tautology_5 rfl hl (by decide) rfl (fun ls hl => ?_)
  refine lv_aload_nN hx hb dX1_tautology_6 rfl (lv_at hl 0 rfl) ?_
  refine lv_ifnullN (tgt := 22) hx hb dX1_tautology_7 (by decide) ?_
  refine lv_iconst (v := nI 0) hx hb dX1_tautology_22 (by decide) ?_
  exact vz_iret hx hb hr hlocks hQ (rfl) dX1_tautology_23 rfl
set_option maxHeartbeats 4000000 in
set_option maxRecDepth 100000 in
theorem c_X1_holds3 (l : Launch) (D : va_G) (kA : ClassId) (ad : Nat → Nat) (n : Nat) (fp fk fh : Nat → Int32) (c0 c1 c2 c3 : Nat) (f0 f1 f2 f3 : Nat → Int32) (hn : n ≤ 8) (x : Int32) (hx3 : x.toInt < 0 ∨ 2 < x.toInt) (z : Int32) : vz_M l yX1_holds wsX1_holds 1 21 [.ref (ad 0), .int x, .int z] D kA [(ad 0, .inr (1, [.ref (ad 1), .ref (ad 2), .ref (ad 3), .ref (ad 4), .ref (ad 5), .ref (ad 6), .ref (ad 7), .int (nI n)])), (ad 5, .inl (kA, 256, .inl fp)), (ad 6, .inl (kA, 256, .inl fk)), (ad 7, .inl (kA, 256, .inl fh)), (ad 1, .inr (0, [.ref (ad 8), .int (nI c0)])), (ad 8, .inl (kA, 24, .inl f0)), (ad 2, .inr (0, [.ref (ad 9), .int (nI c1)])), (ad 9, .inl (kA, 24, .inl f1)), (ad 3, .inr (0, [.ref (ad 10), .int (nI c2)])), (ad 10, .inl (kA, 24, .inl f2)), (ad 4, .inr (0, [.ref (ad 11), .int (nI c3)])), (ad 11, .inl (kA, 24, .inl f3))] (some (.int (nI 0))) := by
  refine vz_start (cc := cX1_holds) (maxL := 4) (ret := (some .boolean)) (own := RX1) (by decide) rfl rfl (Nat.le_of_ble_eq_true rfl) ?_
  intro pz ez sz mz below meth cz args Q ls hargs hx hb hml hown hts hr hlocks hP hK hQ hl
  have hcf : CallFix pz mz cz cX1_holds 4 sz args wsX1_holds RX1 := ⟨hx, hb, hml, hown, hts⟩
  have hl : lv_has ls 4 [(0, .ref (ad 0)), (1, .int x), (2, .int z)] := hl
  have hN := zN_le hn
  refine lv_aload_n hx hb dX1_holds_0 rfl (lv_at hl 0 rfl) ?_
  refine lv_iload_n hx hb dX1_holds_1 rfl (lv_at hl 1 rfl) ?_
  refine vz_callV (n := 1) (As := [.int x]) (rest := []) (q0 := 0) hcf (c_X1_listAt3 l D kA ad n fp fk fh hn x hx3) gX1_holds_X1_listAt rfl hd_X1_listAt ⟨Nat.le_of_ble_eq_true rfl, Nat.le_of_ble_eq_true rfl⟩ hK (hP.sub [0, 1, 2, 3] rfl) rfl rfl rfl rfl hl.1 rfl (Nat.le_of_ble_eq_true rfl) ⟨Nat.zero_le _, Nat.zero_le _⟩ dX1_holds_2 ?_
  refine lv_astore_nN (lv' := [(3, .null), (0, .ref (ad 0)), (1, .int x), (2, .int z)]) hx hb dX1_holds_5 rfl hl (by decide) rfl (fun ls hl => ?_)
  refine lv_aload_nN hx hb dX1_holds_6 rfl (lv_at hl 0 rfl) ?_
  refine lv_ifnullN (tgt := 31) hx hb dX1_holds_7 (by decide) ?_
  refine lv_iconst (v := nI 0) hx hb dX1_holds_31 (by decide) ?_
  exact vz_iret hx hb hr hlocks hQ (rfl) dX1_holds_32 (by first | rfl | (rw [c_15]; rfl) | (rw [hqc, c_24, c_15]; rfl) | (rw [c_15]; rw [hqc, c_24]; rfl) | (rw [hqc, c_24]; simp; rfl))
set_option maxHeartbeats 4000000 in
set_option maxRecDepth 100000 in
theorem c_X1_prime3 (l : Launch) (D : va_G) (kA : ClassId) (ad : Nat → Nat) (n : Nat) (fp fk fh : Nat → Int32) (c0 c1 c2 c3 : Nat) (f0 f1 f2 f3 : Nat → Int32) (hn : n ≤ 8) (x : Int32) (hx3 : x.toInt < 0 ∨ 2 < x.toInt) (z : Int32) : vz_M l yX1_prime wsX1_prime 1 21 [.ref (ad 0), .int x, .int z] D kA [(ad 0, .inr (1, [.ref (ad 1), .ref (ad 2), .ref (ad 3), .ref (ad 4), .ref (ad 5), .ref (ad 6), .ref (ad 7), .int (nI n)])), (ad 5, .inl (kA, 256, .inl fp)), (ad 6, .inl (kA, 256, .inl fk)), (ad 7, .inl (kA, 256, .inl fh)), (ad 1, .inr (0, [.ref (ad 8), .int (nI c0)])), (ad 8, .inl (kA, 24, .inl f0)), (ad 2, .inr (0, [.ref (ad 9), .int (nI c1)])), (ad 9, .inl (kA, 24, .inl f1)), (ad 3, .inr (0, [.ref (ad 10), .int (nI c2)])), (ad 10, .inl (kA, 24, .inl f2)), (ad 4, .inr (0, [.ref (ad 11), .int (nI c3)])), (ad 11, .inl (kA, 24, .inl f3))] (some (.int (nI 0))) := by
  refine vz_start (cc := cX1_prime) (maxL := 5) (ret := (some .boolean)) (own := RX1) (by decide) rfl rfl (Nat.le_of_ble_eq_true rfl) ?_
  intro pz ez sz mz below meth cz args Q ls hargs hx hb hml hown hts hr hlocks hP hK hQ hl
  have hcf : CallFix pz mz cz cX1_prime 5 sz args wsX1_prime RX1 := ⟨hx, hb, hml, hown, hts⟩
  have hl : lv_has ls 5 [(0, .ref (ad 0)), (1, .int x), (2, .int z)] := hl
  refine lv_aload_n hx hb dX1_prime_0 rfl (lv_at hl 0 rfl) ?_
  refine lv_iload_n hx hb dX1_prime_1 rfl (lv_at hl 1 rfl) ?_
  refine vz_callV (n := 1) (As := [.int x]) (rest := []) (q0 := 0) hcf (c_X1_listAt3 l D kA ad n fp fk fh hn x hx3) gX1_prime_X1_listAt rfl hd_X1_listAt ⟨Nat.le_of_ble_eq_true rfl, Nat.le_of_ble_eq_true rfl⟩ hK (hP.sub [0, 1, 2, 3] rfl) rfl rfl rfl rfl hl.1 rfl (Nat.le_of_ble_eq_true rfl) ⟨Nat.zero_le _, Nat.zero_le _⟩ dX1_prime_2 ?_
  refine lv_astore_nN (lv' := [(3, .null), (0, .ref (ad 0)), (1, .int x), (2, .int z)]) hx hb dX1_prime_5 rfl hl (by decide) rfl (fun ls hl => ?_)
  refine lv_aload_nN hx hb dX1_prime_6 rfl (lv_at hl 0 rfl) ?_
  refine lv_ifnonnullN hx hb dX1_prime_7 ?_
  refine lv_iconst (v := nI 0) hx hb dX1_prime_10 (by decide) ?_
  exact vz_iret hx hb hr hlocks hQ (rfl) dX1_prime_11 rfl
set_option maxHeartbeats 4000000 in
set_option maxRecDepth 100000 in
theorem c_X1_kind (l : Launch) (D : va_G) (kA : ClassId) (ad : Nat → Nat) (n : Nat) (fp fk fh : Nat → Int32) (hn : n ≤ 8) (z : Int32) : vz_M l yX1_kind wsX1_kind 2 41 [.ref (ad 0), .int z] D kA [(ad 0, .inr (1, [.ref (ad 1), .ref (ad 2), .ref (ad 3), .ref (ad 4), .ref (ad 5), .ref (ad 6), .ref (ad 7), .int (nI n)])), (ad 5, .inl (kA, 256, .inl fp)), (ad 6, .inl (kA, 256, .inl fk)), (ad 7, .inl (kA, 256, .inl fh))] (some (.int (if (!decide (z < 0) && !decide (nI (zN n) ≤ z)) = true then fk z.toNatClampNeg else -1))) := by
  refine vz_start (cc := cX1_kind) (maxL := 2) (ret := (some .int)) (own := RX1) (by decide) rfl rfl (Nat.le_of_ble_eq_true rfl) ?_
  intro pz ez sz mz below meth cz args Q ls hargs hx hb hml hown hts hr hlocks hP hK hQ hl
  have hcf : CallFix pz mz cz cX1_kind 2 sz args wsX1_kind RX1 := ⟨hx, hb, hml, hown, hts⟩
  have hi0 : ∀ w ∈ u_ws RX1 TX1 8, w ∈ wsX1_kind := by decide +kernel
  have hf29 : (Cond.fieldLink RX1 29 "CubeMin" "kinds" "[I").before args sz = true := hts _ (by decide +kernel)
  have hl : lv_has ls 2 [(0, .ref (ad 0)), (1, .int z)] := hl
  have hN := zN_le hn
  refine lv_aload_n hx hb dX1_kind_0 rfl (lv_at hl 0 rfl) ?_
  refine lv_iload_n hx hb dX1_kind_1 rfl (lv_at hl 1 rfl) ?_
  refine vz_callV (n := 1) (As := [.int z]) (rest := []) (q0 := 0) hcf (c_X1_isPoint l D kA ad n fp fk fh hn z) gX1_kind_X1_isPoint rfl hd_X1_isPoint ⟨Nat.le_of_ble_eq_true rfl, Nat.le_of_ble_eq_true rfl⟩ hK (hP.sub [0, 1, 2, 3] rfl) rfl rfl rfl rfl hl.1 rfl (Nat.le_of_ble_eq_true rfl) ⟨Nat.zero_le _, Nat.zero_le _⟩ dX1_kind_2 ?_
  refine vz_ifeqB (tgt := 17) hx hb dX1_kind_5 (by decide) (fun c_5 => ?_) (fun c_5 => ?_)
  · skip
    refine lv_iconst (v := -1) hx hb dX1_kind_17 (by decide) ?_
    exact vz_iret hx hb hr hlocks hQ (vp_nar_int _) dX1_kind_18 (by first | (rw [if_pos c_5, hqc]) | (rw [if_neg (by rw [c_5]; decide)]))
  · skip
    obtain ⟨q, hq, rfl⟩ : ∃ q : Nat, q < zN n ∧ z = nI q := by
      have c_15 := c_5
      simp only [Bool.and_eq_true, Bool.not_eq_true', decide_eq_false_iff_not] at c_15
      rcases pk_ix z (n := zN n) (by omega) with h1 | h1 | h1
      · exact absurd h1 c_15.1
      · exact absurd h1 c_15.2
      · exact h1
    have hqc : (nI q).toNatClampNeg = q := nI_clamp (by omega)
    refine lv_aload_n hx hb dX1_kind_8 rfl (lv_at hl 0 rfl) ?_
    refine va_get (D := D) (ci := 1) (v := .ref (ad 6)) (C := RX1) (T := TX1) (N := 8) hx hb hts hi0 hown hK hP 0 rfl rfl 5 (by decide) hf29 (fun _ h9 => h9) rfl dX1_kind_9 ?_
    refine lv_iload_n hx hb dX1_kind_12 rfl (lv_at hl 1 rfl) ?_
    refine vz_ald hx hb hK hP 2 rfl (by omega) (Nat.le_of_ble_eq_true rfl) dX1_kind_13 ?_
    refine lv_goto (tgt := 18) hx hb dX1_kind_14 (by decide) ?_
    exact vz_iret hx hb hr hlocks hQ (vp_nar_int _) dX1_kind_18 (by first | (rw [if_pos c_5, hqc]) | (rw [if_neg (by rw [c_5]; decide)]))
set_option maxHeartbeats 4000000 in
set_option maxRecDepth 100000 in
theorem c_X1_same00 (l : Launch) (D : va_G) (kA : ClassId) (ad : Nat → Nat) (n : Nat) (fp fk fh : Nat → Int32) (c0 c1 c2 c3 : Nat) (f0 f1 f2 f3 : Nat → Int32) (hn : n ≤ 8) (hci : c0 ≤ 24) (hcj : c0 ≤ 24) : vz_M l yX1_same wsX1_same 3 69 [.ref (ad 0), .int (nI 0), .int (nI 0)] D kA [(ad 0, .inr (1, [.ref (ad 1), .ref (ad 2), .ref (ad 3), .ref (ad 4), .ref (ad 5), .ref (ad 6), .ref (ad 7), .int (nI n)])), (ad 5, .inl (kA, 256, .inl fp)), (ad 6, .inl (kA, 256, .inl fk)), (ad 7, .inl (kA, 256, .inl fh)), (ad 1, .inr (0, [.ref (ad 8), .int (nI c0)])), (ad 8, .inl (kA, 24, .inl f0)), (ad 2, .inr (0, [.ref (ad 9), .int (nI c1)])), (ad 9, .inl (kA, 24, .inl f1)), (ad 3, .inr (0, [.ref (ad 10), .int (nI c2)])), (ad 10, .inl (kA, 24, .inl f2)), (ad 4, .inr (0, [.ref (ad 11), .int (nI c3)])), (ad 11, .inl (kA, 24, .inl f3))] (some (.int (vz_b (!exB (zN n) (fun p => !decide (fk p = nI 2) && (zX_inL fp c0 f0 p != zX_inL fp c0 f0 p)))))) := by
  refine vz_start (cc := cX1_same) (maxL := 5) (ret := (some .boolean)) (own := RX1) (by decide) rfl rfl (Nat.le_of_ble_eq_true rfl) ?_
  intro pz ez sz mz below meth cz args Q ls hargs hx hb hml hown hts hr hlocks hP hK hQ hl
  have hcf : CallFix pz mz cz cX1_same 5 sz args wsX1_same RX1 := ⟨hx, hb, hml, hown, hts⟩
  have hl : lv_has ls 5 [(0, .ref (ad 0)), (1, .int (nI 0)), (2, .int (nI 0))] := hl
  refine lv_aload_n hx hb dX1_same_0 rfl (lv_at hl 0 rfl) ?_
  refine lv_iload_n hx hb dX1_same_1 rfl (lv_at hl 1 rfl) ?_
  refine vz_callV (n := 1) (As := [.int (nI 0)]) (rest := []) (q0 := 0) hcf (c_X1_listAt0 l D kA ad n fp fk fh hn) gX1_same_X1_listAt rfl hd_X1_listAt ⟨Nat.le_of_ble_eq_true rfl, Nat.le_of_ble_eq_true rfl⟩ hK (hP.sub [0, 1, 2, 3] rfl) rfl rfl rfl rfl hl.1 rfl (Nat.le_of_ble_eq_true rfl) ⟨Nat.zero_le _, Nat.zero_le _⟩ dX1_same_2 ?_
  refine lv_astore_n (lv' := [(3, .ref (ad 1)), (0, .ref (ad 0)), (1, .int (nI 0)), (2, .int (nI 0))]) hx hb dX1_same_5 rfl hl (by decide) rfl (fun ls hl => ?_)
  refine lv_aload_n hx hb dX1_same_6 rfl (lv_at hl 1 rfl) ?_
  refine lv_iload_n hx hb dX1_same_7 rfl (lv_at hl 3 rfl) ?_
  refine vz_callV (n := 1) (As := [.int (nI 0)]) (rest := []) (q0 := 0) hcf (c_X1_listAt0 l D kA ad n fp fk fh hn) gX1_same_X1_listAt rfl hd_X1_listAt ⟨Nat.le_of_ble_eq_true rfl, Nat.le_of_ble_eq_true rfl⟩ hK (hP.sub [0, 1, 2, 3] rfl) rfl rfl rfl rfl hl.1 rfl (Nat.le_of_ble_eq_true rfl) ⟨Nat.zero_le _, Nat.zero_le _⟩ dX1_same_8 ?_
  refine lv_astore (lv' := [(4, .ref (ad 1)), (3, .ref (ad 1)), (0, .ref (ad 0)), (1, .int (nI 0)), (2, .int (nI 0))]) hx hb dX1_same_11 hl (by decide) rfl (fun ls hl => ?_)
  refine lv_aload_n hx hb dX1_same_13 rfl (lv_at hl 1 rfl) ?_
  refine lv_ifnull hx hb dX1_same_14 ?_
  refine lv_aload hx hb dX1_same_17 (lv_at hl 0 rfl) ?_
  refine lv_ifnull hx hb dX1_same_19 ?_
  refine lv_aload_n hx hb dX1_same_22 rfl (lv_at hl 2 rfl) ?_
  refine lv_aload_n hx hb dX1_same_23 rfl (lv_at hl 1 rfl) ?_
  refine lv_aload hx hb dX1_same_24 (lv_at hl 0 rfl) ?_
  refine vz_callV (n := 2) (As := [.ref (ad 1), .ref (ad 1)]) (rest := []) (q0 := 0) hcf (c_X1_agree l D kA ad n fp fk fh hn (ad 1) (ad 8) c0 f0 hci (ad 1) (ad 8) c0 f0 hcj) gX1_same_X1_agree rfl hd_X1_agree ⟨Nat.le_of_ble_eq_true rfl, Nat.le_of_ble_eq_true rfl⟩ hK (hP.sub [0, 1, 2, 3, 4, 5, 4, 5] rfl) rfl rfl rfl rfl hl.1 rfl (Nat.le_of_ble_eq_true rfl) ⟨Nat.zero_le _, Nat.zero_le _⟩ dX1_same_26 ?_
  refine vz_ifeqB (tgt := 36) hx hb dX1_same_29 (by decide) (fun c_29 => ?_) (fun c_29 => ?_)
  · skip
    refine lv_iconst (v := nI 0) hx hb dX1_same_36 (by decide) ?_
    exact vz_iret hx hb hr hlocks hQ (rfl) dX1_same_37 (by first | rfl | (rw [c_29]; rfl))
  · skip
    refine lv_iconst (v := nI 1) hx hb dX1_same_32 (by decide) ?_
    refine lv_goto (tgt := 37) hx hb dX1_same_33 (by decide) ?_
    exact vz_iret hx hb hr hlocks hQ (rfl) dX1_same_37 (by first | rfl | (rw [c_29]; rfl))
set_option maxHeartbeats 4000000 in
set_option maxRecDepth 100000 in
theorem c_X1_same01 (l : Launch) (D : va_G) (kA : ClassId) (ad : Nat → Nat) (n : Nat) (fp fk fh : Nat → Int32) (c0 c1 c2 c3 : Nat) (f0 f1 f2 f3 : Nat → Int32) (hn : n ≤ 8) (hci : c0 ≤ 24) (hcj : c1 ≤ 24) : vz_M l yX1_same wsX1_same 3 69 [.ref (ad 0), .int (nI 0), .int (nI 1)] D kA [(ad 0, .inr (1, [.ref (ad 1), .ref (ad 2), .ref (ad 3), .ref (ad 4), .ref (ad 5), .ref (ad 6), .ref (ad 7), .int (nI n)])), (ad 5, .inl (kA, 256, .inl fp)), (ad 6, .inl (kA, 256, .inl fk)), (ad 7, .inl (kA, 256, .inl fh)), (ad 1, .inr (0, [.ref (ad 8), .int (nI c0)])), (ad 8, .inl (kA, 24, .inl f0)), (ad 2, .inr (0, [.ref (ad 9), .int (nI c1)])), (ad 9, .inl (kA, 24, .inl f1)), (ad 3, .inr (0, [.ref (ad 10), .int (nI c2)])), (ad 10, .inl (kA, 24, .inl f2)), (ad 4, .inr (0, [.ref (ad 11), .int (nI c3)])), (ad 11, .inl (kA, 24, .inl f3))] (some (.int (vz_b (!exB (zN n) (fun p => !decide (fk p = nI 2) && (zX_inL fp c0 f0 p != zX_inL fp c1 f1 p)))))) := by
  refine vz_start (cc := cX1_same) (maxL := 5) (ret := (some .boolean)) (own := RX1) (by decide) rfl rfl (Nat.le_of_ble_eq_true rfl) ?_
  intro pz ez sz mz below meth cz args Q ls hargs hx hb hml hown hts hr hlocks hP hK hQ hl
  have hcf : CallFix pz mz cz cX1_same 5 sz args wsX1_same RX1 := ⟨hx, hb, hml, hown, hts⟩
  have hl : lv_has ls 5 [(0, .ref (ad 0)), (1, .int (nI 0)), (2, .int (nI 1))] := hl
  refine lv_aload_n hx hb dX1_same_0 rfl (lv_at hl 0 rfl) ?_
  refine lv_iload_n hx hb dX1_same_1 rfl (lv_at hl 1 rfl) ?_
  refine vz_callV (n := 1) (As := [.int (nI 0)]) (rest := []) (q0 := 0) hcf (c_X1_listAt0 l D kA ad n fp fk fh hn) gX1_same_X1_listAt rfl hd_X1_listAt ⟨Nat.le_of_ble_eq_true rfl, Nat.le_of_ble_eq_true rfl⟩ hK (hP.sub [0, 1, 2, 3] rfl) rfl rfl rfl rfl hl.1 rfl (Nat.le_of_ble_eq_true rfl) ⟨Nat.zero_le _, Nat.zero_le _⟩ dX1_same_2 ?_
  refine lv_astore_n (lv' := [(3, .ref (ad 1)), (0, .ref (ad 0)), (1, .int (nI 0)), (2, .int (nI 1))]) hx hb dX1_same_5 rfl hl (by decide) rfl (fun ls hl => ?_)
  refine lv_aload_n hx hb dX1_same_6 rfl (lv_at hl 1 rfl) ?_
  refine lv_iload_n hx hb dX1_same_7 rfl (lv_at hl 3 rfl) ?_
  refine vz_callV (n := 1) (As := [.int (nI 1)]) (rest := []) (q0 := 0) hcf (c_X1_listAt1 l D kA ad n fp fk fh hn) gX1_same_X1_listAt rfl hd_X1_listAt ⟨Nat.le_of_ble_eq_true rfl, Nat.le_of_ble_eq_true rfl⟩ hK (hP.sub [0, 1, 2, 3] rfl) rfl rfl rfl rfl hl.1 rfl (Nat.le_of_ble_eq_true rfl) ⟨Nat.zero_le _, Nat.zero_le _⟩ dX1_same_8 ?_
  refine lv_astore (lv' := [(4, .ref (ad 2)), (3, .ref (ad 1)), (0, .ref (ad 0)), (1, .int (nI 0)), (2, .int (nI 1))]) hx hb dX1_same_11 hl (by decide) rfl (fun ls hl => ?_)
  refine lv_aload_n hx hb dX1_same_13 rfl (lv_at hl 1 rfl) ?_
  refine lv_ifnull hx hb dX1_same_14 ?_
  refine lv_aload hx hb dX1_same_17 (lv_at hl 0 rfl) ?_
  refine lv_ifnull hx hb dX1_same_19 ?_
  refine lv_aload_n hx hb dX1_same_22 rfl (lv_at hl 2 rfl) ?_
  refine lv_aload_n hx hb dX1_same_23 rfl (lv_at hl 1 rfl) ?_
  refine lv_aload hx hb dX1_same_24 (lv_at hl 0 rfl) ?_
  refine vz_callV (n := 2) (As := [.ref (ad 1), .ref (ad 2)]) (rest := []) (q0 := 0) hcf (c_X1_agree l D kA ad n fp fk fh hn (ad 1) (ad 8) c0 f0 hci (ad 2) (ad 9) c1 f1 hcj) gX1_same_X1_agree rfl hd_X1_agree ⟨Nat.le_of_ble_eq_true rfl, Nat.le_of_ble_eq_true rfl⟩ hK (hP.sub [0, 1, 2, 3, 4, 5, 6, 7] rfl) rfl rfl rfl rfl hl.1 rfl (Nat.le_of_ble_eq_true rfl) ⟨Nat.zero_le _, Nat.zero_le _⟩ dX1_same_26 ?_
  refine vz_ifeqB (tgt := 36) hx hb dX1_same_29 (by decide) (fun c_29 => ?_) (fun c_29 => ?_)
  · skip
    refine lv_iconst (v := nI 0) hx hb dX1_same_36 (by decide) ?_
    exact vz_iret hx hb hr hlocks hQ (rfl) dX1_same_37 (by first | rfl | (rw [c_29]; rfl))
  · skip
    refine lv_iconst (v := nI 1) hx hb dX1_same_32 (by decide) ?_
    refine lv_goto (tgt := 37) hx hb dX1_same_33 (by decide) ?_
    exact vz_iret hx hb hr hlocks hQ (rfl) dX1_same_37 (by first | rfl | (rw [c_29]; rfl))
set_option maxHeartbeats 4000000 in
set_option maxRecDepth 100000 in
theorem c_X1_same02 (l : Launch) (D : va_G) (kA : ClassId) (ad : Nat → Nat) (n : Nat) (fp fk fh : Nat → Int32) (c0 c1 c2 c3 : Nat) (f0 f1 f2 f3 : Nat → Int32) (hn : n ≤ 8) (hci : c0 ≤ 24) (hcj : c2 ≤ 24) : vz_M l yX1_same wsX1_same 3 69 [.ref (ad 0), .int (nI 0), .int (nI 2)] D kA [(ad 0, .inr (1, [.ref (ad 1), .ref (ad 2), .ref (ad 3), .ref (ad 4), .ref (ad 5), .ref (ad 6), .ref (ad 7), .int (nI n)])), (ad 5, .inl (kA, 256, .inl fp)), (ad 6, .inl (kA, 256, .inl fk)), (ad 7, .inl (kA, 256, .inl fh)), (ad 1, .inr (0, [.ref (ad 8), .int (nI c0)])), (ad 8, .inl (kA, 24, .inl f0)), (ad 2, .inr (0, [.ref (ad 9), .int (nI c1)])), (ad 9, .inl (kA, 24, .inl f1)), (ad 3, .inr (0, [.ref (ad 10), .int (nI c2)])), (ad 10, .inl (kA, 24, .inl f2)), (ad 4, .inr (0, [.ref (ad 11), .int (nI c3)])), (ad 11, .inl (kA, 24, .inl f3))] (some (.int (vz_b (!exB (zN n) (fun p => !decide (fk p = nI 2) && (zX_inL fp c0 f0 p != zX_inL fp c2 f2 p)))))) := by
  refine vz_start (cc := cX1_same) (maxL := 5) (ret := (some .boolean)) (own := RX1) (by decide) rfl rfl (Nat.le_of_ble_eq_true rfl) ?_
  intro pz ez sz mz below meth cz args Q ls hargs hx hb hml hown hts hr hlocks hP hK hQ hl
  have hcf : CallFix pz mz cz cX1_same 5 sz args wsX1_same RX1 := ⟨hx, hb, hml, hown, hts⟩
  have hl : lv_has ls 5 [(0, .ref (ad 0)), (1, .int (nI 0)), (2, .int (nI 2))] := hl
  refine lv_aload_n hx hb dX1_same_0 rfl (lv_at hl 0 rfl) ?_
  refine lv_iload_n hx hb dX1_same_1 rfl (lv_at hl 1 rfl) ?_
  refine vz_callV (n := 1) (As := [.int (nI 0)]) (rest := []) (q0 := 0) hcf (c_X1_listAt0 l D kA ad n fp fk fh hn) gX1_same_X1_listAt rfl hd_X1_listAt ⟨Nat.le_of_ble_eq_true rfl, Nat.le_of_ble_eq_true rfl⟩ hK (hP.sub [0, 1, 2, 3] rfl) rfl rfl rfl rfl hl.1 rfl (Nat.le_of_ble_eq_true rfl) ⟨Nat.zero_le _, Nat.zero_le _⟩ dX1_same_2 ?_
  refine lv_astore_n (lv' := [(3, .ref (ad 1)), (0, .ref (ad 0)), (1, .int (nI 0)), (2, .int (nI 2))]) hx hb dX1_same_5 rfl hl (by decide) rfl (fun ls hl => ?_)
  refine lv_aload_n hx hb dX1_same_6 rfl (lv_at hl 1 rfl) ?_
  refine lv_iload_n hx hb dX1_same_7 rfl (lv_at hl 3 rfl) ?_
  refine vz_callV (n := 1) (As := [.int (nI 2)]) (rest := []) (q0 := 0) hcf (c_X1_listAt2 l D kA ad n fp fk fh hn) gX1_same_X1_listAt rfl hd_X1_listAt ⟨Nat.le_of_ble_eq_true rfl, Nat.le_of_ble_eq_true rfl⟩ hK (hP.sub [0, 1, 2, 3] rfl) rfl rfl rfl rfl hl.1 rfl (Nat.le_of_ble_eq_true rfl) ⟨Nat.zero_le _, Nat.zero_le _⟩ dX1_same_8 ?_
  refine lv_astore (lv' := [(4, .ref (ad 3)), (3, .ref (ad 1)), (0, .ref (ad 0)), (1, .int (nI 0)), (2, .int (nI 2))]) hx hb dX1_same_11 hl (by decide) rfl (fun ls hl => ?_)
  refine lv_aload_n hx hb dX1_same_13 rfl (lv_at hl 1 rfl) ?_
  refine lv_ifnull hx hb dX1_same_14 ?_
  refine lv_aload hx hb dX1_same_17 (lv_at hl 0 rfl) ?_
  refine lv_ifnull hx hb dX1_same_19 ?_
  refine lv_aload_n hx hb dX1_same_22 rfl (lv_at hl 2 rfl) ?_
  refine lv_aload_n hx hb dX1_same_23 rfl (lv_at hl 1 rfl) ?_
  refine lv_aload hx hb dX1_same_24 (lv_at hl 0 rfl) ?_
  refine vz_callV (n := 2) (As := [.ref (ad 1), .ref (ad 3)]) (rest := []) (q0 := 0) hcf (c_X1_agree l D kA ad n fp fk fh hn (ad 1) (ad 8) c0 f0 hci (ad 3) (ad 10) c2 f2 hcj) gX1_same_X1_agree rfl hd_X1_agree ⟨Nat.le_of_ble_eq_true rfl, Nat.le_of_ble_eq_true rfl⟩ hK (hP.sub [0, 1, 2, 3, 4, 5, 8, 9] rfl) rfl rfl rfl rfl hl.1 rfl (Nat.le_of_ble_eq_true rfl) ⟨Nat.zero_le _, Nat.zero_le _⟩ dX1_same_26 ?_
  refine vz_ifeqB (tgt := 36) hx hb dX1_same_29 (by decide) (fun c_29 => ?_) (fun c_29 => ?_)
  · skip
    refine lv_iconst (v := nI 0) hx hb dX1_same_36 (by decide) ?_
    exact vz_iret hx hb hr hlocks hQ (rfl) dX1_same_37 (by first | rfl | (rw [c_29]; rfl))
  · skip
    refine lv_iconst (v := nI 1) hx hb dX1_same_32 (by decide) ?_
    refine lv_goto (tgt := 37) hx hb dX1_same_33 (by decide) ?_
    exact vz_iret hx hb hr hlocks hQ (rfl) dX1_same_37 (by first | rfl | (rw [c_29]; rfl))
set_option maxHeartbeats 4000000 in
set_option maxRecDepth 100000 in
theorem c_X1_same03 (l : Launch) (D : va_G) (kA : ClassId) (ad : Nat → Nat) (n : Nat) (fp fk fh : Nat → Int32) (c0 c1 c2 c3 : Nat) (f0 f1 f2 f3 : Nat → Int32) (hn : n ≤ 8) (y : Int32) (hy3 : y.toInt < 0 ∨ 2 < y.toInt) : vz_M l yX1_same wsX1_same 1 21 [.ref (ad 0), .int (nI 0), .int y] D kA [(ad 0, .inr (1, [.ref (ad 1), .ref (ad 2), .ref (ad 3), .ref (ad 4), .ref (ad 5), .ref (ad 6), .ref (ad 7), .int (nI n)])), (ad 5, .inl (kA, 256, .inl fp)), (ad 6, .inl (kA, 256, .inl fk)), (ad 7, .inl (kA, 256, .inl fh)), (ad 1, .inr (0, [.ref (ad 8), .int (nI c0)])), (ad 8, .inl (kA, 24, .inl f0)), (ad 2, .inr (0, [.ref (ad 9), .int (nI c1)])), (ad 9, .inl (kA, 24, .inl f1)), (ad 3, .inr (0, [.ref (ad 10), .int (nI c2)])), (ad 10, .inl (kA, 24, .inl f2)), (ad 4, .inr (0, [.ref (ad 11), .int (nI c3)])), (ad 11, .inl (kA, 24, .inl f3))] (some (.int (nI 0))) := by
  refine vz_start (cc := cX1_same) (maxL := 5) (ret := (some .boolean)) (own := RX1) (by decide) rfl rfl (Nat.le_of_ble_eq_true rfl) ?_
  intro pz ez sz mz below meth cz args Q ls hargs hx hb hml hown hts hr hlocks hP hK hQ hl
  have hcf : CallFix pz mz cz cX1_same 5 sz args wsX1_same RX1 := ⟨hx, hb, hml, hown, hts⟩
  have hl : lv_has ls 5 [(0, .ref (ad 0)), (1, .int (nI 0)), (2, .int y)] := hl
  refine lv_aload_n hx hb dX1_same_0 rfl (lv_at hl 0 rfl) ?_
  refine lv_iload_n hx hb dX1_same_1 rfl (lv_at hl 1 rfl) ?_
  refine vz_callV (n := 1) (As := [.int (nI 0)]) (rest := []) (q0 := 0) hcf (c_X1_listAt0 l D kA ad n fp fk fh hn) gX1_same_X1_listAt rfl hd_X1_listAt ⟨Nat.le_of_ble_eq_true rfl, Nat.le_of_ble_eq_true rfl⟩ hK (hP.sub [0, 1, 2, 3] rfl) rfl rfl rfl rfl hl.1 rfl (Nat.le_of_ble_eq_true rfl) ⟨Nat.zero_le _, Nat.zero_le _⟩ dX1_same_2 ?_
  refine lv_astore_n (lv' := [(3, .ref (ad 1)), (0, .ref (ad 0)), (1, .int (nI 0)), (2, .int y)]) hx hb dX1_same_5 rfl hl (by decide) rfl (fun ls hl => ?_)
  refine lv_aload_n hx hb dX1_same_6 rfl (lv_at hl 1 rfl) ?_
  refine lv_iload_n hx hb dX1_same_7 rfl (lv_at hl 3 rfl) ?_
  refine vz_callV (n := 1) (As := [.int y]) (rest := []) (q0 := 0) hcf (c_X1_listAt3 l D kA ad n fp fk fh hn y hy3) gX1_same_X1_listAt rfl hd_X1_listAt ⟨Nat.le_of_ble_eq_true rfl, Nat.le_of_ble_eq_true rfl⟩ hK (hP.sub [0, 1, 2, 3] rfl) rfl rfl rfl rfl hl.1 rfl (Nat.le_of_ble_eq_true rfl) ⟨Nat.zero_le _, Nat.zero_le _⟩ dX1_same_8 ?_
  refine lv_astoreN (lv' := [(4, .null), (3, .ref (ad 1)), (0, .ref (ad 0)), (1, .int (nI 0)), (2, .int y)]) hx hb dX1_same_11 hl (by decide) rfl (fun ls hl => ?_)
  refine lv_aload_n hx hb dX1_same_13 rfl (lv_at hl 1 rfl) ?_
  refine lv_ifnull hx hb dX1_same_14 ?_
  refine lv_aloadN hx hb dX1_same_17 (lv_at hl 0 rfl) ?_
  refine lv_ifnullN (tgt := 36) hx hb dX1_same_19 (by decide) ?_
  refine lv_iconst (v := nI 0) hx hb dX1_same_36 (by decide) ?_
  exact vz_iret hx hb hr hlocks hQ (rfl) dX1_same_37 (by first | rfl | (rw [c_29]; rfl))
set_option maxHeartbeats 4000000 in
set_option maxRecDepth 100000 in
theorem c_X1_same10 (l : Launch) (D : va_G) (kA : ClassId) (ad : Nat → Nat) (n : Nat) (fp fk fh : Nat → Int32) (c0 c1 c2 c3 : Nat) (f0 f1 f2 f3 : Nat → Int32) (hn : n ≤ 8) (hci : c1 ≤ 24) (hcj : c0 ≤ 24) : vz_M l yX1_same wsX1_same 3 69 [.ref (ad 0), .int (nI 1), .int (nI 0)] D kA [(ad 0, .inr (1, [.ref (ad 1), .ref (ad 2), .ref (ad 3), .ref (ad 4), .ref (ad 5), .ref (ad 6), .ref (ad 7), .int (nI n)])), (ad 5, .inl (kA, 256, .inl fp)), (ad 6, .inl (kA, 256, .inl fk)), (ad 7, .inl (kA, 256, .inl fh)), (ad 1, .inr (0, [.ref (ad 8), .int (nI c0)])), (ad 8, .inl (kA, 24, .inl f0)), (ad 2, .inr (0, [.ref (ad 9), .int (nI c1)])), (ad 9, .inl (kA, 24, .inl f1)), (ad 3, .inr (0, [.ref (ad 10), .int (nI c2)])), (ad 10, .inl (kA, 24, .inl f2)), (ad 4, .inr (0, [.ref (ad 11), .int (nI c3)])), (ad 11, .inl (kA, 24, .inl f3))] (some (.int (vz_b (!exB (zN n) (fun p => !decide (fk p = nI 2) && (zX_inL fp c1 f1 p != zX_inL fp c0 f0 p)))))) := by
  refine vz_start (cc := cX1_same) (maxL := 5) (ret := (some .boolean)) (own := RX1) (by decide) rfl rfl (Nat.le_of_ble_eq_true rfl) ?_
  intro pz ez sz mz below meth cz args Q ls hargs hx hb hml hown hts hr hlocks hP hK hQ hl
  have hcf : CallFix pz mz cz cX1_same 5 sz args wsX1_same RX1 := ⟨hx, hb, hml, hown, hts⟩
  have hl : lv_has ls 5 [(0, .ref (ad 0)), (1, .int (nI 1)), (2, .int (nI 0))] := hl
  refine lv_aload_n hx hb dX1_same_0 rfl (lv_at hl 0 rfl) ?_
  refine lv_iload_n hx hb dX1_same_1 rfl (lv_at hl 1 rfl) ?_
  refine vz_callV (n := 1) (As := [.int (nI 1)]) (rest := []) (q0 := 0) hcf (c_X1_listAt1 l D kA ad n fp fk fh hn) gX1_same_X1_listAt rfl hd_X1_listAt ⟨Nat.le_of_ble_eq_true rfl, Nat.le_of_ble_eq_true rfl⟩ hK (hP.sub [0, 1, 2, 3] rfl) rfl rfl rfl rfl hl.1 rfl (Nat.le_of_ble_eq_true rfl) ⟨Nat.zero_le _, Nat.zero_le _⟩ dX1_same_2 ?_
  refine lv_astore_n (lv' := [(3, .ref (ad 2)), (0, .ref (ad 0)), (1, .int (nI 1)), (2, .int (nI 0))]) hx hb dX1_same_5 rfl hl (by decide) rfl (fun ls hl => ?_)
  refine lv_aload_n hx hb dX1_same_6 rfl (lv_at hl 1 rfl) ?_
  refine lv_iload_n hx hb dX1_same_7 rfl (lv_at hl 3 rfl) ?_
  refine vz_callV (n := 1) (As := [.int (nI 0)]) (rest := []) (q0 := 0) hcf (c_X1_listAt0 l D kA ad n fp fk fh hn) gX1_same_X1_listAt rfl hd_X1_listAt ⟨Nat.le_of_ble_eq_true rfl, Nat.le_of_ble_eq_true rfl⟩ hK (hP.sub [0, 1, 2, 3] rfl) rfl rfl rfl rfl hl.1 rfl (Nat.le_of_ble_eq_true rfl) ⟨Nat.zero_le _, Nat.zero_le _⟩ dX1_same_8 ?_
  refine lv_astore (lv' := [(4, .ref (ad 1)), (3, .ref (ad 2)), (0, .ref (ad 0)), (1, .int (nI 1)), (2, .int (nI 0))]) hx hb dX1_same_11 hl (by decide) rfl (fun ls hl => ?_)
  refine lv_aload_n hx hb dX1_same_13 rfl (lv_at hl 1 rfl) ?_
  refine lv_ifnull hx hb dX1_same_14 ?_
  refine lv_aload hx hb dX1_same_17 (lv_at hl 0 rfl) ?_
  refine lv_ifnull hx hb dX1_same_19 ?_
  refine lv_aload_n hx hb dX1_same_22 rfl (lv_at hl 2 rfl) ?_
  refine lv_aload_n hx hb dX1_same_23 rfl (lv_at hl 1 rfl) ?_
  refine lv_aload hx hb dX1_same_24 (lv_at hl 0 rfl) ?_
  refine vz_callV (n := 2) (As := [.ref (ad 2), .ref (ad 1)]) (rest := []) (q0 := 0) hcf (c_X1_agree l D kA ad n fp fk fh hn (ad 2) (ad 9) c1 f1 hci (ad 1) (ad 8) c0 f0 hcj) gX1_same_X1_agree rfl hd_X1_agree ⟨Nat.le_of_ble_eq_true rfl, Nat.le_of_ble_eq_true rfl⟩ hK (hP.sub [0, 1, 2, 3, 6, 7, 4, 5] rfl) rfl rfl rfl rfl hl.1 rfl (Nat.le_of_ble_eq_true rfl) ⟨Nat.zero_le _, Nat.zero_le _⟩ dX1_same_26 ?_
  refine vz_ifeqB (tgt := 36) hx hb dX1_same_29 (by decide) (fun c_29 => ?_) (fun c_29 => ?_)
  · skip
    refine lv_iconst (v := nI 0) hx hb dX1_same_36 (by decide) ?_
    exact vz_iret hx hb hr hlocks hQ (rfl) dX1_same_37 (by first | rfl | (rw [c_29]; rfl))
  · skip
    refine lv_iconst (v := nI 1) hx hb dX1_same_32 (by decide) ?_
    refine lv_goto (tgt := 37) hx hb dX1_same_33 (by decide) ?_
    exact vz_iret hx hb hr hlocks hQ (rfl) dX1_same_37 (by first | rfl | (rw [c_29]; rfl))
set_option maxHeartbeats 4000000 in
set_option maxRecDepth 100000 in
theorem c_X1_same11 (l : Launch) (D : va_G) (kA : ClassId) (ad : Nat → Nat) (n : Nat) (fp fk fh : Nat → Int32) (c0 c1 c2 c3 : Nat) (f0 f1 f2 f3 : Nat → Int32) (hn : n ≤ 8) (hci : c1 ≤ 24) (hcj : c1 ≤ 24) : vz_M l yX1_same wsX1_same 3 69 [.ref (ad 0), .int (nI 1), .int (nI 1)] D kA [(ad 0, .inr (1, [.ref (ad 1), .ref (ad 2), .ref (ad 3), .ref (ad 4), .ref (ad 5), .ref (ad 6), .ref (ad 7), .int (nI n)])), (ad 5, .inl (kA, 256, .inl fp)), (ad 6, .inl (kA, 256, .inl fk)), (ad 7, .inl (kA, 256, .inl fh)), (ad 1, .inr (0, [.ref (ad 8), .int (nI c0)])), (ad 8, .inl (kA, 24, .inl f0)), (ad 2, .inr (0, [.ref (ad 9), .int (nI c1)])), (ad 9, .inl (kA, 24, .inl f1)), (ad 3, .inr (0, [.ref (ad 10), .int (nI c2)])), (ad 10, .inl (kA, 24, .inl f2)), (ad 4, .inr (0, [.ref (ad 11), .int (nI c3)])), (ad 11, .inl (kA, 24, .inl f3))] (some (.int (vz_b (!exB (zN n) (fun p => !decide (fk p = nI 2) && (zX_inL fp c1 f1 p != zX_inL fp c1 f1 p)))))) := by
  refine vz_start (cc := cX1_same) (maxL := 5) (ret := (some .boolean)) (own := RX1) (by decide) rfl rfl (Nat.le_of_ble_eq_true rfl) ?_
  intro pz ez sz mz below meth cz args Q ls hargs hx hb hml hown hts hr hlocks hP hK hQ hl
  have hcf : CallFix pz mz cz cX1_same 5 sz args wsX1_same RX1 := ⟨hx, hb, hml, hown, hts⟩
  have hl : lv_has ls 5 [(0, .ref (ad 0)), (1, .int (nI 1)), (2, .int (nI 1))] := hl
  refine lv_aload_n hx hb dX1_same_0 rfl (lv_at hl 0 rfl) ?_
  refine lv_iload_n hx hb dX1_same_1 rfl (lv_at hl 1 rfl) ?_
  refine vz_callV (n := 1) (As := [.int (nI 1)]) (rest := []) (q0 := 0) hcf (c_X1_listAt1 l D kA ad n fp fk fh hn) gX1_same_X1_listAt rfl hd_X1_listAt ⟨Nat.le_of_ble_eq_true rfl, Nat.le_of_ble_eq_true rfl⟩ hK (hP.sub [0, 1, 2, 3] rfl) rfl rfl rfl rfl hl.1 rfl (Nat.le_of_ble_eq_true rfl) ⟨Nat.zero_le _, Nat.zero_le _⟩ dX1_same_2 ?_
  refine lv_astore_n (lv' := [(3, .ref (ad 2)), (0, .ref (ad 0)), (1, .int (nI 1)), (2, .int (nI 1))]) hx hb dX1_same_5 rfl hl (by decide) rfl (fun ls hl => ?_)
  refine lv_aload_n hx hb dX1_same_6 rfl (lv_at hl 1 rfl) ?_
  refine lv_iload_n hx hb dX1_same_7 rfl (lv_at hl 3 rfl) ?_
  refine vz_callV (n := 1) (As := [.int (nI 1)]) (rest := []) (q0 := 0) hcf (c_X1_listAt1 l D kA ad n fp fk fh hn) gX1_same_X1_listAt rfl hd_X1_listAt ⟨Nat.le_of_ble_eq_true rfl, Nat.le_of_ble_eq_true rfl⟩ hK (hP.sub [0, 1, 2, 3] rfl) rfl rfl rfl rfl hl.1 rfl (Nat.le_of_ble_eq_true rfl) ⟨Nat.zero_le _, Nat.zero_le _⟩ dX1_same_8 ?_
  refine lv_astore (lv' := [(4, .ref (ad 2)), (3, .ref (ad 2)), (0, .ref (ad 0)), (1, .int (nI 1)), (2, .int (nI 1))]) hx hb dX1_same_11 hl (by decide) rfl (fun ls hl => ?_)
  refine lv_aload_n hx hb dX1_same_13 rfl (lv_at hl 1 rfl) ?_
  refine lv_ifnull hx hb dX1_same_14 ?_
  refine lv_aload hx hb dX1_same_17 (lv_at hl 0 rfl) ?_
  refine lv_ifnull hx hb dX1_same_19 ?_
  refine lv_aload_n hx hb dX1_same_22 rfl (lv_at hl 2 rfl) ?_
  refine lv_aload_n hx hb dX1_same_23 rfl (lv_at hl 1 rfl) ?_
  refine lv_aload hx hb dX1_same_24 (lv_at hl 0 rfl) ?_
  refine vz_callV (n := 2) (As := [.ref (ad 2), .ref (ad 2)]) (rest := []) (q0 := 0) hcf (c_X1_agree l D kA ad n fp fk fh hn (ad 2) (ad 9) c1 f1 hci (ad 2) (ad 9) c1 f1 hcj) gX1_same_X1_agree rfl hd_X1_agree ⟨Nat.le_of_ble_eq_true rfl, Nat.le_of_ble_eq_true rfl⟩ hK (hP.sub [0, 1, 2, 3, 6, 7, 6, 7] rfl) rfl rfl rfl rfl hl.1 rfl (Nat.le_of_ble_eq_true rfl) ⟨Nat.zero_le _, Nat.zero_le _⟩ dX1_same_26 ?_
  refine vz_ifeqB (tgt := 36) hx hb dX1_same_29 (by decide) (fun c_29 => ?_) (fun c_29 => ?_)
  · skip
    refine lv_iconst (v := nI 0) hx hb dX1_same_36 (by decide) ?_
    exact vz_iret hx hb hr hlocks hQ (rfl) dX1_same_37 (by first | rfl | (rw [c_29]; rfl))
  · skip
    refine lv_iconst (v := nI 1) hx hb dX1_same_32 (by decide) ?_
    refine lv_goto (tgt := 37) hx hb dX1_same_33 (by decide) ?_
    exact vz_iret hx hb hr hlocks hQ (rfl) dX1_same_37 (by first | rfl | (rw [c_29]; rfl))
set_option maxHeartbeats 4000000 in
set_option maxRecDepth 100000 in
theorem c_X1_same12 (l : Launch) (D : va_G) (kA : ClassId) (ad : Nat → Nat) (n : Nat) (fp fk fh : Nat → Int32) (c0 c1 c2 c3 : Nat) (f0 f1 f2 f3 : Nat → Int32) (hn : n ≤ 8) (hci : c1 ≤ 24) (hcj : c2 ≤ 24) : vz_M l yX1_same wsX1_same 3 69 [.ref (ad 0), .int (nI 1), .int (nI 2)] D kA [(ad 0, .inr (1, [.ref (ad 1), .ref (ad 2), .ref (ad 3), .ref (ad 4), .ref (ad 5), .ref (ad 6), .ref (ad 7), .int (nI n)])), (ad 5, .inl (kA, 256, .inl fp)), (ad 6, .inl (kA, 256, .inl fk)), (ad 7, .inl (kA, 256, .inl fh)), (ad 1, .inr (0, [.ref (ad 8), .int (nI c0)])), (ad 8, .inl (kA, 24, .inl f0)), (ad 2, .inr (0, [.ref (ad 9), .int (nI c1)])), (ad 9, .inl (kA, 24, .inl f1)), (ad 3, .inr (0, [.ref (ad 10), .int (nI c2)])), (ad 10, .inl (kA, 24, .inl f2)), (ad 4, .inr (0, [.ref (ad 11), .int (nI c3)])), (ad 11, .inl (kA, 24, .inl f3))] (some (.int (vz_b (!exB (zN n) (fun p => !decide (fk p = nI 2) && (zX_inL fp c1 f1 p != zX_inL fp c2 f2 p)))))) := by
  refine vz_start (cc := cX1_same) (maxL := 5) (ret := (some .boolean)) (own := RX1) (by decide) rfl rfl (Nat.le_of_ble_eq_true rfl) ?_
  intro pz ez sz mz below meth cz args Q ls hargs hx hb hml hown hts hr hlocks hP hK hQ hl
  have hcf : CallFix pz mz cz cX1_same 5 sz args wsX1_same RX1 := ⟨hx, hb, hml, hown, hts⟩
  have hl : lv_has ls 5 [(0, .ref (ad 0)), (1, .int (nI 1)), (2, .int (nI 2))] := hl
  refine lv_aload_n hx hb dX1_same_0 rfl (lv_at hl 0 rfl) ?_
  refine lv_iload_n hx hb dX1_same_1 rfl (lv_at hl 1 rfl) ?_
  refine vz_callV (n := 1) (As := [.int (nI 1)]) (rest := []) (q0 := 0) hcf (c_X1_listAt1 l D kA ad n fp fk fh hn) gX1_same_X1_listAt rfl hd_X1_listAt ⟨Nat.le_of_ble_eq_true rfl, Nat.le_of_ble_eq_true rfl⟩ hK (hP.sub [0, 1, 2, 3] rfl) rfl rfl rfl rfl hl.1 rfl (Nat.le_of_ble_eq_true rfl) ⟨Nat.zero_le _, Nat.zero_le _⟩ dX1_same_2 ?_
  refine lv_astore_n (lv' := [(3, .ref (ad 2)), (0, .ref (ad 0)), (1, .int (nI 1)), (2, .int (nI 2))]) hx hb dX1_same_5 rfl hl (by decide) rfl (fun ls hl => ?_)
  refine lv_aload_n hx hb dX1_same_6 rfl (lv_at hl 1 rfl) ?_
  refine lv_iload_n hx hb dX1_same_7 rfl (lv_at hl 3 rfl) ?_
  refine vz_callV (n := 1) (As := [.int (nI 2)]) (rest := []) (q0 := 0) hcf (c_X1_listAt2 l D kA ad n fp fk fh hn) gX1_same_X1_listAt rfl hd_X1_listAt ⟨Nat.le_of_ble_eq_true rfl, Nat.le_of_ble_eq_true rfl⟩ hK (hP.sub [0, 1, 2, 3] rfl) rfl rfl rfl rfl hl.1 rfl (Nat.le_of_ble_eq_true rfl) ⟨Nat.zero_le _, Nat.zero_le _⟩ dX1_same_8 ?_
  refine lv_astore (lv' := [(4, .ref (ad 3)), (3, .ref (ad 2)), (0, .ref (ad 0)), (1, .int (nI 1)), (2, .int (nI 2))]) hx hb dX1_same_11 hl (by decide) rfl (fun ls hl => ?_)
  refine lv_aload_n hx hb dX1_same_13 rfl (lv_at hl 1 rfl) ?_
  refine lv_ifnull hx hb dX1_same_14 ?_
  refine lv_aload hx hb dX1_same_17 (lv_at hl 0 rfl) ?_
  refine lv_ifnull hx hb dX1_same_19 ?_
  refine lv_aload_n hx hb dX1_same_22 rfl (lv_at hl 2 rfl) ?_
  refine lv_aload_n hx hb dX1_same_23 rfl (lv_at hl 1 rfl) ?_
  refine lv_aload hx hb dX1_same_24 (lv_at hl 0 rfl) ?_
  refine vz_callV (n := 2) (As := [.ref (ad 2), .ref (ad 3)]) (rest := []) (q0 := 0) hcf (c_X1_agree l D kA ad n fp fk fh hn (ad 2) (ad 9) c1 f1 hci (ad 3) (ad 10) c2 f2 hcj) gX1_same_X1_agree rfl hd_X1_agree ⟨Nat.le_of_ble_eq_true rfl, Nat.le_of_ble_eq_true rfl⟩ hK (hP.sub [0, 1, 2, 3, 6, 7, 8, 9] rfl) rfl rfl rfl rfl hl.1 rfl (Nat.le_of_ble_eq_true rfl) ⟨Nat.zero_le _, Nat.zero_le _⟩ dX1_same_26 ?_
  refine vz_ifeqB (tgt := 36) hx hb dX1_same_29 (by decide) (fun c_29 => ?_) (fun c_29 => ?_)
  · skip
    refine lv_iconst (v := nI 0) hx hb dX1_same_36 (by decide) ?_
    exact vz_iret hx hb hr hlocks hQ (rfl) dX1_same_37 (by first | rfl | (rw [c_29]; rfl))
  · skip
    refine lv_iconst (v := nI 1) hx hb dX1_same_32 (by decide) ?_
    refine lv_goto (tgt := 37) hx hb dX1_same_33 (by decide) ?_
    exact vz_iret hx hb hr hlocks hQ (rfl) dX1_same_37 (by first | rfl | (rw [c_29]; rfl))
set_option maxHeartbeats 4000000 in
set_option maxRecDepth 100000 in
theorem c_X1_same13 (l : Launch) (D : va_G) (kA : ClassId) (ad : Nat → Nat) (n : Nat) (fp fk fh : Nat → Int32) (c0 c1 c2 c3 : Nat) (f0 f1 f2 f3 : Nat → Int32) (hn : n ≤ 8) (y : Int32) (hy3 : y.toInt < 0 ∨ 2 < y.toInt) : vz_M l yX1_same wsX1_same 1 21 [.ref (ad 0), .int (nI 1), .int y] D kA [(ad 0, .inr (1, [.ref (ad 1), .ref (ad 2), .ref (ad 3), .ref (ad 4), .ref (ad 5), .ref (ad 6), .ref (ad 7), .int (nI n)])), (ad 5, .inl (kA, 256, .inl fp)), (ad 6, .inl (kA, 256, .inl fk)), (ad 7, .inl (kA, 256, .inl fh)), (ad 1, .inr (0, [.ref (ad 8), .int (nI c0)])), (ad 8, .inl (kA, 24, .inl f0)), (ad 2, .inr (0, [.ref (ad 9), .int (nI c1)])), (ad 9, .inl (kA, 24, .inl f1)), (ad 3, .inr (0, [.ref (ad 10), .int (nI c2)])), (ad 10, .inl (kA, 24, .inl f2)), (ad 4, .inr (0, [.ref (ad 11), .int (nI c3)])), (ad 11, .inl (kA, 24, .inl f3))] (some (.int (nI 0))) := by
  refine vz_start (cc := cX1_same) (maxL := 5) (ret := (some .boolean)) (own := RX1) (by decide) rfl rfl (Nat.le_of_ble_eq_true rfl) ?_
  intro pz ez sz mz below meth cz args Q ls hargs hx hb hml hown hts hr hlocks hP hK hQ hl
  have hcf : CallFix pz mz cz cX1_same 5 sz args wsX1_same RX1 := ⟨hx, hb, hml, hown, hts⟩
  have hl : lv_has ls 5 [(0, .ref (ad 0)), (1, .int (nI 1)), (2, .int y)] := hl
  refine lv_aload_n hx hb dX1_same_0 rfl (lv_at hl 0 rfl) ?_
  refine lv_iload_n hx hb dX1_same_1 rfl (lv_at hl 1 rfl) ?_
  refine vz_callV (n := 1) (As := [.int (nI 1)]) (rest := []) (q0 := 0) hcf (c_X1_listAt1 l D kA ad n fp fk fh hn) gX1_same_X1_listAt rfl hd_X1_listAt ⟨Nat.le_of_ble_eq_true rfl, Nat.le_of_ble_eq_true rfl⟩ hK (hP.sub [0, 1, 2, 3] rfl) rfl rfl rfl rfl hl.1 rfl (Nat.le_of_ble_eq_true rfl) ⟨Nat.zero_le _, Nat.zero_le _⟩ dX1_same_2 ?_
  refine lv_astore_n (lv' := [(3, .ref (ad 2)), (0, .ref (ad 0)), (1, .int (nI 1)), (2, .int y)]) hx hb dX1_same_5 rfl hl (by decide) rfl (fun ls hl => ?_)
  refine lv_aload_n hx hb dX1_same_6 rfl (lv_at hl 1 rfl) ?_
  refine lv_iload_n hx hb dX1_same_7 rfl (lv_at hl 3 rfl) ?_
  refine vz_callV (n := 1) (As := [.int y]) (rest := []) (q0 := 0) hcf (c_X1_listAt3 l D kA ad n fp fk fh hn y hy3) gX1_same_X1_listAt rfl hd_X1_listAt ⟨Nat.le_of_ble_eq_true rfl, Nat.le_of_ble_eq_true rfl⟩ hK (hP.sub [0, 1, 2, 3] rfl) rfl rfl rfl rfl hl.1 rfl (Nat.le_of_ble_eq_true rfl) ⟨Nat.zero_le _, Nat.zero_le _⟩ dX1_same_8 ?_
  refine lv_astoreN (lv' := [(4, .null), (3, .ref (ad 2)), (0, .ref (ad 0)), (1, .int (nI 1)), (2, .int y)]) hx hb dX1_same_11 hl (by decide) rfl (fun ls hl => ?_)
  refine lv_aload_n hx hb dX1_same_13 rfl (lv_at hl 1 rfl) ?_
  refine lv_ifnull hx hb dX1_same_14 ?_
  refine lv_aloadN hx hb dX1_same_17 (lv_at hl 0 rfl) ?_
  refine lv_ifnullN (tgt := 36) hx hb dX1_same_19 (by decide) ?_
  refine lv_iconst (v := nI 0) hx hb dX1_same_36 (by decide) ?_
  exact vz_iret hx hb hr hlocks hQ (rfl) dX1_same_37 (by first | rfl | (rw [c_29]; rfl))
set_option maxHeartbeats 4000000 in
set_option maxRecDepth 100000 in
theorem c_X1_same20 (l : Launch) (D : va_G) (kA : ClassId) (ad : Nat → Nat) (n : Nat) (fp fk fh : Nat → Int32) (c0 c1 c2 c3 : Nat) (f0 f1 f2 f3 : Nat → Int32) (hn : n ≤ 8) (hci : c2 ≤ 24) (hcj : c0 ≤ 24) : vz_M l yX1_same wsX1_same 3 69 [.ref (ad 0), .int (nI 2), .int (nI 0)] D kA [(ad 0, .inr (1, [.ref (ad 1), .ref (ad 2), .ref (ad 3), .ref (ad 4), .ref (ad 5), .ref (ad 6), .ref (ad 7), .int (nI n)])), (ad 5, .inl (kA, 256, .inl fp)), (ad 6, .inl (kA, 256, .inl fk)), (ad 7, .inl (kA, 256, .inl fh)), (ad 1, .inr (0, [.ref (ad 8), .int (nI c0)])), (ad 8, .inl (kA, 24, .inl f0)), (ad 2, .inr (0, [.ref (ad 9), .int (nI c1)])), (ad 9, .inl (kA, 24, .inl f1)), (ad 3, .inr (0, [.ref (ad 10), .int (nI c2)])), (ad 10, .inl (kA, 24, .inl f2)), (ad 4, .inr (0, [.ref (ad 11), .int (nI c3)])), (ad 11, .inl (kA, 24, .inl f3))] (some (.int (vz_b (!exB (zN n) (fun p => !decide (fk p = nI 2) && (zX_inL fp c2 f2 p != zX_inL fp c0 f0 p)))))) := by
  refine vz_start (cc := cX1_same) (maxL := 5) (ret := (some .boolean)) (own := RX1) (by decide) rfl rfl (Nat.le_of_ble_eq_true rfl) ?_
  intro pz ez sz mz below meth cz args Q ls hargs hx hb hml hown hts hr hlocks hP hK hQ hl
  have hcf : CallFix pz mz cz cX1_same 5 sz args wsX1_same RX1 := ⟨hx, hb, hml, hown, hts⟩
  have hl : lv_has ls 5 [(0, .ref (ad 0)), (1, .int (nI 2)), (2, .int (nI 0))] := hl
  refine lv_aload_n hx hb dX1_same_0 rfl (lv_at hl 0 rfl) ?_
  refine lv_iload_n hx hb dX1_same_1 rfl (lv_at hl 1 rfl) ?_
  refine vz_callV (n := 1) (As := [.int (nI 2)]) (rest := []) (q0 := 0) hcf (c_X1_listAt2 l D kA ad n fp fk fh hn) gX1_same_X1_listAt rfl hd_X1_listAt ⟨Nat.le_of_ble_eq_true rfl, Nat.le_of_ble_eq_true rfl⟩ hK (hP.sub [0, 1, 2, 3] rfl) rfl rfl rfl rfl hl.1 rfl (Nat.le_of_ble_eq_true rfl) ⟨Nat.zero_le _, Nat.zero_le _⟩ dX1_same_2 ?_
  refine lv_astore_n (lv' := [(3, .ref (ad 3)), (0, .ref (ad 0)), (1, .int (nI 2)), (2, .int (nI 0))]) hx hb dX1_same_5 rfl hl (by decide) rfl (fun ls hl => ?_)
  refine lv_aload_n hx hb dX1_same_6 rfl (lv_at hl 1 rfl) ?_
  refine lv_iload_n hx hb dX1_same_7 rfl (lv_at hl 3 rfl) ?_
  refine vz_callV (n := 1) (As := [.int (nI 0)]) (rest := []) (q0 := 0) hcf (c_X1_listAt0 l D kA ad n fp fk fh hn) gX1_same_X1_listAt rfl hd_X1_listAt ⟨Nat.le_of_ble_eq_true rfl, Nat.le_of_ble_eq_true rfl⟩ hK (hP.sub [0, 1, 2, 3] rfl) rfl rfl rfl rfl hl.1 rfl (Nat.le_of_ble_eq_true rfl) ⟨Nat.zero_le _, Nat.zero_le _⟩ dX1_same_8 ?_
  refine lv_astore (lv' := [(4, .ref (ad 1)), (3, .ref (ad 3)), (0, .ref (ad 0)), (1, .int (nI 2)), (2, .int (nI 0))]) hx hb dX1_same_11 hl (by decide) rfl (fun ls hl => ?_)
  refine lv_aload_n hx hb dX1_same_13 rfl (lv_at hl 1 rfl) ?_
  refine lv_ifnull hx hb dX1_same_14 ?_
  refine lv_aload hx hb dX1_same_17 (lv_at hl 0 rfl) ?_
  refine lv_ifnull hx hb dX1_same_19 ?_
  refine lv_aload_n hx hb dX1_same_22 rfl (lv_at hl 2 rfl) ?_
  refine lv_aload_n hx hb dX1_same_23 rfl (lv_at hl 1 rfl) ?_
  refine lv_aload hx hb dX1_same_24 (lv_at hl 0 rfl) ?_
  refine vz_callV (n := 2) (As := [.ref (ad 3), .ref (ad 1)]) (rest := []) (q0 := 0) hcf (c_X1_agree l D kA ad n fp fk fh hn (ad 3) (ad 10) c2 f2 hci (ad 1) (ad 8) c0 f0 hcj) gX1_same_X1_agree rfl hd_X1_agree ⟨Nat.le_of_ble_eq_true rfl, Nat.le_of_ble_eq_true rfl⟩ hK (hP.sub [0, 1, 2, 3, 8, 9, 4, 5] rfl) rfl rfl rfl rfl hl.1 rfl (Nat.le_of_ble_eq_true rfl) ⟨Nat.zero_le _, Nat.zero_le _⟩ dX1_same_26 ?_
  refine vz_ifeqB (tgt := 36) hx hb dX1_same_29 (by decide) (fun c_29 => ?_) (fun c_29 => ?_)
  · skip
    refine lv_iconst (v := nI 0) hx hb dX1_same_36 (by decide) ?_
    exact vz_iret hx hb hr hlocks hQ (rfl) dX1_same_37 (by first | rfl | (rw [c_29]; rfl))
  · skip
    refine lv_iconst (v := nI 1) hx hb dX1_same_32 (by decide) ?_
    refine lv_goto (tgt := 37) hx hb dX1_same_33 (by decide) ?_
    exact vz_iret hx hb hr hlocks hQ (rfl) dX1_same_37 (by first | rfl | (rw [c_29]; rfl))
set_option maxHeartbeats 4000000 in
set_option maxRecDepth 100000 in
theorem c_X1_same21 (l : Launch) (D : va_G) (kA : ClassId) (ad : Nat → Nat) (n : Nat) (fp fk fh : Nat → Int32) (c0 c1 c2 c3 : Nat) (f0 f1 f2 f3 : Nat → Int32) (hn : n ≤ 8) (hci : c2 ≤ 24) (hcj : c1 ≤ 24) : vz_M l yX1_same wsX1_same 3 69 [.ref (ad 0), .int (nI 2), .int (nI 1)] D kA [(ad 0, .inr (1, [.ref (ad 1), .ref (ad 2), .ref (ad 3), .ref (ad 4), .ref (ad 5), .ref (ad 6), .ref (ad 7), .int (nI n)])), (ad 5, .inl (kA, 256, .inl fp)), (ad 6, .inl (kA, 256, .inl fk)), (ad 7, .inl (kA, 256, .inl fh)), (ad 1, .inr (0, [.ref (ad 8), .int (nI c0)])), (ad 8, .inl (kA, 24, .inl f0)), (ad 2, .inr (0, [.ref (ad 9), .int (nI c1)])), (ad 9, .inl (kA, 24, .inl f1)), (ad 3, .inr (0, [.ref (ad 10), .int (nI c2)])), (ad 10, .inl (kA, 24, .inl f2)), (ad 4, .inr (0, [.ref (ad 11), .int (nI c3)])), (ad 11, .inl (kA, 24, .inl f3))] (some (.int (vz_b (!exB (zN n) (fun p => !decide (fk p = nI 2) && (zX_inL fp c2 f2 p != zX_inL fp c1 f1 p)))))) := by
  refine vz_start (cc := cX1_same) (maxL := 5) (ret := (some .boolean)) (own := RX1) (by decide) rfl rfl (Nat.le_of_ble_eq_true rfl) ?_
  intro pz ez sz mz below meth cz args Q ls hargs hx hb hml hown hts hr hlocks hP hK hQ hl
  have hcf : CallFix pz mz cz cX1_same 5 sz args wsX1_same RX1 := ⟨hx, hb, hml, hown, hts⟩
  have hl : lv_has ls 5 [(0, .ref (ad 0)), (1, .int (nI 2)), (2, .int (nI 1))] := hl
  refine lv_aload_n hx hb dX1_same_0 rfl (lv_at hl 0 rfl) ?_
  refine lv_iload_n hx hb dX1_same_1 rfl (lv_at hl 1 rfl) ?_
  refine vz_callV (n := 1) (As := [.int (nI 2)]) (rest := []) (q0 := 0) hcf (c_X1_listAt2 l D kA ad n fp fk fh hn) gX1_same_X1_listAt rfl hd_X1_listAt ⟨Nat.le_of_ble_eq_true rfl, Nat.le_of_ble_eq_true rfl⟩ hK (hP.sub [0, 1, 2, 3] rfl) rfl rfl rfl rfl hl.1 rfl (Nat.le_of_ble_eq_true rfl) ⟨Nat.zero_le _, Nat.zero_le _⟩ dX1_same_2 ?_
  refine lv_astore_n (lv' := [(3, .ref (ad 3)), (0, .ref (ad 0)), (1, .int (nI 2)), (2, .int (nI 1))]) hx hb dX1_same_5 rfl hl (by decide) rfl (fun ls hl => ?_)
  refine lv_aload_n hx hb dX1_same_6 rfl (lv_at hl 1 rfl) ?_
  refine lv_iload_n hx hb dX1_same_7 rfl (lv_at hl 3 rfl) ?_
  refine vz_callV (n := 1) (As := [.int (nI 1)]) (rest := []) (q0 := 0) hcf (c_X1_listAt1 l D kA ad n fp fk fh hn) gX1_same_X1_listAt rfl hd_X1_listAt ⟨Nat.le_of_ble_eq_true rfl, Nat.le_of_ble_eq_true rfl⟩ hK (hP.sub [0, 1, 2, 3] rfl) rfl rfl rfl rfl hl.1 rfl (Nat.le_of_ble_eq_true rfl) ⟨Nat.zero_le _, Nat.zero_le _⟩ dX1_same_8 ?_
  refine lv_astore (lv' := [(4, .ref (ad 2)), (3, .ref (ad 3)), (0, .ref (ad 0)), (1, .int (nI 2)), (2, .int (nI 1))]) hx hb dX1_same_11 hl (by decide) rfl (fun ls hl => ?_)
  refine lv_aload_n hx hb dX1_same_13 rfl (lv_at hl 1 rfl) ?_
  refine lv_ifnull hx hb dX1_same_14 ?_
  refine lv_aload hx hb dX1_same_17 (lv_at hl 0 rfl) ?_
  refine lv_ifnull hx hb dX1_same_19 ?_
  refine lv_aload_n hx hb dX1_same_22 rfl (lv_at hl 2 rfl) ?_
  refine lv_aload_n hx hb dX1_same_23 rfl (lv_at hl 1 rfl) ?_
  refine lv_aload hx hb dX1_same_24 (lv_at hl 0 rfl) ?_
  refine vz_callV (n := 2) (As := [.ref (ad 3), .ref (ad 2)]) (rest := []) (q0 := 0) hcf (c_X1_agree l D kA ad n fp fk fh hn (ad 3) (ad 10) c2 f2 hci (ad 2) (ad 9) c1 f1 hcj) gX1_same_X1_agree rfl hd_X1_agree ⟨Nat.le_of_ble_eq_true rfl, Nat.le_of_ble_eq_true rfl⟩ hK (hP.sub [0, 1, 2, 3, 8, 9, 6, 7] rfl) rfl rfl rfl rfl hl.1 rfl (Nat.le_of_ble_eq_true rfl) ⟨Nat.zero_le _, Nat.zero_le _⟩ dX1_same_26 ?_
  refine vz_ifeqB (tgt := 36) hx hb dX1_same_29 (by decide) (fun c_29 => ?_) (fun c_29 => ?_)
  · skip
    refine lv_iconst (v := nI 0) hx hb dX1_same_36 (by decide) ?_
    exact vz_iret hx hb hr hlocks hQ (rfl) dX1_same_37 (by first | rfl | (rw [c_29]; rfl))
  · skip
    refine lv_iconst (v := nI 1) hx hb dX1_same_32 (by decide) ?_
    refine lv_goto (tgt := 37) hx hb dX1_same_33 (by decide) ?_
    exact vz_iret hx hb hr hlocks hQ (rfl) dX1_same_37 (by first | rfl | (rw [c_29]; rfl))
set_option maxHeartbeats 4000000 in
set_option maxRecDepth 100000 in
theorem c_X1_same22 (l : Launch) (D : va_G) (kA : ClassId) (ad : Nat → Nat) (n : Nat) (fp fk fh : Nat → Int32) (c0 c1 c2 c3 : Nat) (f0 f1 f2 f3 : Nat → Int32) (hn : n ≤ 8) (hci : c2 ≤ 24) (hcj : c2 ≤ 24) : vz_M l yX1_same wsX1_same 3 69 [.ref (ad 0), .int (nI 2), .int (nI 2)] D kA [(ad 0, .inr (1, [.ref (ad 1), .ref (ad 2), .ref (ad 3), .ref (ad 4), .ref (ad 5), .ref (ad 6), .ref (ad 7), .int (nI n)])), (ad 5, .inl (kA, 256, .inl fp)), (ad 6, .inl (kA, 256, .inl fk)), (ad 7, .inl (kA, 256, .inl fh)), (ad 1, .inr (0, [.ref (ad 8), .int (nI c0)])), (ad 8, .inl (kA, 24, .inl f0)), (ad 2, .inr (0, [.ref (ad 9), .int (nI c1)])), (ad 9, .inl (kA, 24, .inl f1)), (ad 3, .inr (0, [.ref (ad 10), .int (nI c2)])), (ad 10, .inl (kA, 24, .inl f2)), (ad 4, .inr (0, [.ref (ad 11), .int (nI c3)])), (ad 11, .inl (kA, 24, .inl f3))] (some (.int (vz_b (!exB (zN n) (fun p => !decide (fk p = nI 2) && (zX_inL fp c2 f2 p != zX_inL fp c2 f2 p)))))) := by
  refine vz_start (cc := cX1_same) (maxL := 5) (ret := (some .boolean)) (own := RX1) (by decide) rfl rfl (Nat.le_of_ble_eq_true rfl) ?_
  intro pz ez sz mz below meth cz args Q ls hargs hx hb hml hown hts hr hlocks hP hK hQ hl
  have hcf : CallFix pz mz cz cX1_same 5 sz args wsX1_same RX1 := ⟨hx, hb, hml, hown, hts⟩
  have hl : lv_has ls 5 [(0, .ref (ad 0)), (1, .int (nI 2)), (2, .int (nI 2))] := hl
  refine lv_aload_n hx hb dX1_same_0 rfl (lv_at hl 0 rfl) ?_
  refine lv_iload_n hx hb dX1_same_1 rfl (lv_at hl 1 rfl) ?_
  refine vz_callV (n := 1) (As := [.int (nI 2)]) (rest := []) (q0 := 0) hcf (c_X1_listAt2 l D kA ad n fp fk fh hn) gX1_same_X1_listAt rfl hd_X1_listAt ⟨Nat.le_of_ble_eq_true rfl, Nat.le_of_ble_eq_true rfl⟩ hK (hP.sub [0, 1, 2, 3] rfl) rfl rfl rfl rfl hl.1 rfl (Nat.le_of_ble_eq_true rfl) ⟨Nat.zero_le _, Nat.zero_le _⟩ dX1_same_2 ?_
  refine lv_astore_n (lv' := [(3, .ref (ad 3)), (0, .ref (ad 0)), (1, .int (nI 2)), (2, .int (nI 2))]) hx hb dX1_same_5 rfl hl (by decide) rfl (fun ls hl => ?_)
  refine lv_aload_n hx hb dX1_same_6 rfl (lv_at hl 1 rfl) ?_
  refine lv_iload_n hx hb dX1_same_7 rfl (lv_at hl 3 rfl) ?_
  refine vz_callV (n := 1) (As := [.int (nI 2)]) (rest := []) (q0 := 0) hcf (c_X1_listAt2 l D kA ad n fp fk fh hn) gX1_same_X1_listAt rfl hd_X1_listAt ⟨Nat.le_of_ble_eq_true rfl, Nat.le_of_ble_eq_true rfl⟩ hK (hP.sub [0, 1, 2, 3] rfl) rfl rfl rfl rfl hl.1 rfl (Nat.le_of_ble_eq_true rfl) ⟨Nat.zero_le _, Nat.zero_le _⟩ dX1_same_8 ?_
  refine lv_astore (lv' := [(4, .ref (ad 3)), (3, .ref (ad 3)), (0, .ref (ad 0)), (1, .int (nI 2)), (2, .int (nI 2))]) hx hb dX1_same_11 hl (by decide) rfl (fun ls hl => ?_)
  refine lv_aload_n hx hb dX1_same_13 rfl (lv_at hl 1 rfl) ?_
  refine lv_ifnull hx hb dX1_same_14 ?_
  refine lv_aload hx hb dX1_same_17 (lv_at hl 0 rfl) ?_
  refine lv_ifnull hx hb dX1_same_19 ?_
  refine lv_aload_n hx hb dX1_same_22 rfl (lv_at hl 2 rfl) ?_
  refine lv_aload_n hx hb dX1_same_23 rfl (lv_at hl 1 rfl) ?_
  refine lv_aload hx hb dX1_same_24 (lv_at hl 0 rfl) ?_
  refine vz_callV (n := 2) (As := [.ref (ad 3), .ref (ad 3)]) (rest := []) (q0 := 0) hcf (c_X1_agree l D kA ad n fp fk fh hn (ad 3) (ad 10) c2 f2 hci (ad 3) (ad 10) c2 f2 hcj) gX1_same_X1_agree rfl hd_X1_agree ⟨Nat.le_of_ble_eq_true rfl, Nat.le_of_ble_eq_true rfl⟩ hK (hP.sub [0, 1, 2, 3, 8, 9, 8, 9] rfl) rfl rfl rfl rfl hl.1 rfl (Nat.le_of_ble_eq_true rfl) ⟨Nat.zero_le _, Nat.zero_le _⟩ dX1_same_26 ?_
  refine vz_ifeqB (tgt := 36) hx hb dX1_same_29 (by decide) (fun c_29 => ?_) (fun c_29 => ?_)
  · skip
    refine lv_iconst (v := nI 0) hx hb dX1_same_36 (by decide) ?_
    exact vz_iret hx hb hr hlocks hQ (rfl) dX1_same_37 (by first | rfl | (rw [c_29]; rfl))
  · skip
    refine lv_iconst (v := nI 1) hx hb dX1_same_32 (by decide) ?_
    refine lv_goto (tgt := 37) hx hb dX1_same_33 (by decide) ?_
    exact vz_iret hx hb hr hlocks hQ (rfl) dX1_same_37 (by first | rfl | (rw [c_29]; rfl))
set_option maxHeartbeats 4000000 in
set_option maxRecDepth 100000 in
theorem c_X1_same23 (l : Launch) (D : va_G) (kA : ClassId) (ad : Nat → Nat) (n : Nat) (fp fk fh : Nat → Int32) (c0 c1 c2 c3 : Nat) (f0 f1 f2 f3 : Nat → Int32) (hn : n ≤ 8) (y : Int32) (hy3 : y.toInt < 0 ∨ 2 < y.toInt) : vz_M l yX1_same wsX1_same 1 21 [.ref (ad 0), .int (nI 2), .int y] D kA [(ad 0, .inr (1, [.ref (ad 1), .ref (ad 2), .ref (ad 3), .ref (ad 4), .ref (ad 5), .ref (ad 6), .ref (ad 7), .int (nI n)])), (ad 5, .inl (kA, 256, .inl fp)), (ad 6, .inl (kA, 256, .inl fk)), (ad 7, .inl (kA, 256, .inl fh)), (ad 1, .inr (0, [.ref (ad 8), .int (nI c0)])), (ad 8, .inl (kA, 24, .inl f0)), (ad 2, .inr (0, [.ref (ad 9), .int (nI c1)])), (ad 9, .inl (kA, 24, .inl f1)), (ad 3, .inr (0, [.ref (ad 10), .int (nI c2)])), (ad 10, .inl (kA, 24, .inl f2)), (ad 4, .inr (0, [.ref (ad 11), .int (nI c3)])), (ad 11, .inl (kA, 24, .inl f3))] (some (.int (nI 0))) := by
  refine vz_start (cc := cX1_same) (maxL := 5) (ret := (some .boolean)) (own := RX1) (by decide) rfl rfl (Nat.le_of_ble_eq_true rfl) ?_
  intro pz ez sz mz below meth cz args Q ls hargs hx hb hml hown hts hr hlocks hP hK hQ hl
  have hcf : CallFix pz mz cz cX1_same 5 sz args wsX1_same RX1 := ⟨hx, hb, hml, hown, hts⟩
  have hl : lv_has ls 5 [(0, .ref (ad 0)), (1, .int (nI 2)), (2, .int y)] := hl
  refine lv_aload_n hx hb dX1_same_0 rfl (lv_at hl 0 rfl) ?_
  refine lv_iload_n hx hb dX1_same_1 rfl (lv_at hl 1 rfl) ?_
  refine vz_callV (n := 1) (As := [.int (nI 2)]) (rest := []) (q0 := 0) hcf (c_X1_listAt2 l D kA ad n fp fk fh hn) gX1_same_X1_listAt rfl hd_X1_listAt ⟨Nat.le_of_ble_eq_true rfl, Nat.le_of_ble_eq_true rfl⟩ hK (hP.sub [0, 1, 2, 3] rfl) rfl rfl rfl rfl hl.1 rfl (Nat.le_of_ble_eq_true rfl) ⟨Nat.zero_le _, Nat.zero_le _⟩ dX1_same_2 ?_
  refine lv_astore_n (lv' := [(3, .ref (ad 3)), (0, .ref (ad 0)), (1, .int (nI 2)), (2, .int y)]) hx hb dX1_same_5 rfl hl (by decide) rfl (fun ls hl => ?_)
  refine lv_aload_n hx hb dX1_same_6 rfl (lv_at hl 1 rfl) ?_
  refine lv_iload_n hx hb dX1_same_7 rfl (lv_at hl 3 rfl) ?_
  refine vz_callV (n := 1) (As := [.int y]) (rest := []) (q0 := 0) hcf (c_X1_listAt3 l D kA ad n fp fk fh hn y hy3) gX1_same_X1_listAt rfl hd_X1_listAt ⟨Nat.le_of_ble_eq_true rfl, Nat.le_of_ble_eq_true rfl⟩ hK (hP.sub [0, 1, 2, 3] rfl) rfl rfl rfl rfl hl.1 rfl (Nat.le_of_ble_eq_true rfl) ⟨Nat.zero_le _, Nat.zero_le _⟩ dX1_same_8 ?_
  refine lv_astoreN (lv' := [(4, .null), (3, .ref (ad 3)), (0, .ref (ad 0)), (1, .int (nI 2)), (2, .int y)]) hx hb dX1_same_11 hl (by decide) rfl (fun ls hl => ?_)
  refine lv_aload_n hx hb dX1_same_13 rfl (lv_at hl 1 rfl) ?_
  refine lv_ifnull hx hb dX1_same_14 ?_
  refine lv_aloadN hx hb dX1_same_17 (lv_at hl 0 rfl) ?_
  refine lv_ifnullN (tgt := 36) hx hb dX1_same_19 (by decide) ?_
  refine lv_iconst (v := nI 0) hx hb dX1_same_36 (by decide) ?_
  exact vz_iret hx hb hr hlocks hQ (rfl) dX1_same_37 (by first | rfl | (rw [c_29]; rfl))
set_option maxHeartbeats 4000000 in
set_option maxRecDepth 100000 in
theorem c_X1_same30 (l : Launch) (D : va_G) (kA : ClassId) (ad : Nat → Nat) (n : Nat) (fp fk fh : Nat → Int32) (c0 c1 c2 c3 : Nat) (f0 f1 f2 f3 : Nat → Int32) (hn : n ≤ 8) (x : Int32) (hx3 : x.toInt < 0 ∨ 2 < x.toInt) : vz_M l yX1_same wsX1_same 1 21 [.ref (ad 0), .int x, .int (nI 0)] D kA [(ad 0, .inr (1, [.ref (ad 1), .ref (ad 2), .ref (ad 3), .ref (ad 4), .ref (ad 5), .ref (ad 6), .ref (ad 7), .int (nI n)])), (ad 5, .inl (kA, 256, .inl fp)), (ad 6, .inl (kA, 256, .inl fk)), (ad 7, .inl (kA, 256, .inl fh)), (ad 1, .inr (0, [.ref (ad 8), .int (nI c0)])), (ad 8, .inl (kA, 24, .inl f0)), (ad 2, .inr (0, [.ref (ad 9), .int (nI c1)])), (ad 9, .inl (kA, 24, .inl f1)), (ad 3, .inr (0, [.ref (ad 10), .int (nI c2)])), (ad 10, .inl (kA, 24, .inl f2)), (ad 4, .inr (0, [.ref (ad 11), .int (nI c3)])), (ad 11, .inl (kA, 24, .inl f3))] (some (.int (nI 0))) := by
  refine vz_start (cc := cX1_same) (maxL := 5) (ret := (some .boolean)) (own := RX1) (by decide) rfl rfl (Nat.le_of_ble_eq_true rfl) ?_
  intro pz ez sz mz below meth cz args Q ls hargs hx hb hml hown hts hr hlocks hP hK hQ hl
  have hcf : CallFix pz mz cz cX1_same 5 sz args wsX1_same RX1 := ⟨hx, hb, hml, hown, hts⟩
  have hl : lv_has ls 5 [(0, .ref (ad 0)), (1, .int x), (2, .int (nI 0))] := hl
  refine lv_aload_n hx hb dX1_same_0 rfl (lv_at hl 0 rfl) ?_
  refine lv_iload_n hx hb dX1_same_1 rfl (lv_at hl 1 rfl) ?_
  refine vz_callV (n := 1) (As := [.int x]) (rest := []) (q0 := 0) hcf (c_X1_listAt3 l D kA ad n fp fk fh hn x hx3) gX1_same_X1_listAt rfl hd_X1_listAt ⟨Nat.le_of_ble_eq_true rfl, Nat.le_of_ble_eq_true rfl⟩ hK (hP.sub [0, 1, 2, 3] rfl) rfl rfl rfl rfl hl.1 rfl (Nat.le_of_ble_eq_true rfl) ⟨Nat.zero_le _, Nat.zero_le _⟩ dX1_same_2 ?_
  refine lv_astore_nN (lv' := [(3, .null), (0, .ref (ad 0)), (1, .int x), (2, .int (nI 0))]) hx hb dX1_same_5 rfl hl (by decide) rfl (fun ls hl => ?_)
  refine lv_aload_n hx hb dX1_same_6 rfl (lv_at hl 1 rfl) ?_
  refine lv_iload_n hx hb dX1_same_7 rfl (lv_at hl 3 rfl) ?_
  refine vz_callV (n := 1) (As := [.int (nI 0)]) (rest := []) (q0 := 0) hcf (c_X1_listAt0 l D kA ad n fp fk fh hn) gX1_same_X1_listAt rfl hd_X1_listAt ⟨Nat.le_of_ble_eq_true rfl, Nat.le_of_ble_eq_true rfl⟩ hK (hP.sub [0, 1, 2, 3] rfl) rfl rfl rfl rfl hl.1 rfl (Nat.le_of_ble_eq_true rfl) ⟨Nat.zero_le _, Nat.zero_le _⟩ dX1_same_8 ?_
  refine lv_astore (lv' := [(4, .ref (ad 1)), (3, .null), (0, .ref (ad 0)), (1, .int x), (2, .int (nI 0))]) hx hb dX1_same_11 hl (by decide) rfl (fun ls hl => ?_)
  refine lv_aload_nN hx hb dX1_same_13 rfl (lv_at hl 1 rfl) ?_
  refine lv_ifnullN (tgt := 36) hx hb dX1_same_14 (by decide) ?_
  refine lv_iconst (v := nI 0) hx hb dX1_same_36 (by decide) ?_
  exact vz_iret hx hb hr hlocks hQ (rfl) dX1_same_37 (by first | rfl | (rw [c_29]; rfl))
set_option maxHeartbeats 4000000 in
set_option maxRecDepth 100000 in
theorem c_X1_same31 (l : Launch) (D : va_G) (kA : ClassId) (ad : Nat → Nat) (n : Nat) (fp fk fh : Nat → Int32) (c0 c1 c2 c3 : Nat) (f0 f1 f2 f3 : Nat → Int32) (hn : n ≤ 8) (x : Int32) (hx3 : x.toInt < 0 ∨ 2 < x.toInt) : vz_M l yX1_same wsX1_same 1 21 [.ref (ad 0), .int x, .int (nI 1)] D kA [(ad 0, .inr (1, [.ref (ad 1), .ref (ad 2), .ref (ad 3), .ref (ad 4), .ref (ad 5), .ref (ad 6), .ref (ad 7), .int (nI n)])), (ad 5, .inl (kA, 256, .inl fp)), (ad 6, .inl (kA, 256, .inl fk)), (ad 7, .inl (kA, 256, .inl fh)), (ad 1, .inr (0, [.ref (ad 8), .int (nI c0)])), (ad 8, .inl (kA, 24, .inl f0)), (ad 2, .inr (0, [.ref (ad 9), .int (nI c1)])), (ad 9, .inl (kA, 24, .inl f1)), (ad 3, .inr (0, [.ref (ad 10), .int (nI c2)])), (ad 10, .inl (kA, 24, .inl f2)), (ad 4, .inr (0, [.ref (ad 11), .int (nI c3)])), (ad 11, .inl (kA, 24, .inl f3))] (some (.int (nI 0))) := by
  refine vz_start (cc := cX1_same) (maxL := 5) (ret := (some .boolean)) (own := RX1) (by decide) rfl rfl (Nat.le_of_ble_eq_true rfl) ?_
  intro pz ez sz mz below meth cz args Q ls hargs hx hb hml hown hts hr hlocks hP hK hQ hl
  have hcf : CallFix pz mz cz cX1_same 5 sz args wsX1_same RX1 := ⟨hx, hb, hml, hown, hts⟩
  have hl : lv_has ls 5 [(0, .ref (ad 0)), (1, .int x), (2, .int (nI 1))] := hl
  refine lv_aload_n hx hb dX1_same_0 rfl (lv_at hl 0 rfl) ?_
  refine lv_iload_n hx hb dX1_same_1 rfl (lv_at hl 1 rfl) ?_
  refine vz_callV (n := 1) (As := [.int x]) (rest := []) (q0 := 0) hcf (c_X1_listAt3 l D kA ad n fp fk fh hn x hx3) gX1_same_X1_listAt rfl hd_X1_listAt ⟨Nat.le_of_ble_eq_true rfl, Nat.le_of_ble_eq_true rfl⟩ hK (hP.sub [0, 1, 2, 3] rfl) rfl rfl rfl rfl hl.1 rfl (Nat.le_of_ble_eq_true rfl) ⟨Nat.zero_le _, Nat.zero_le _⟩ dX1_same_2 ?_
  refine lv_astore_nN (lv' := [(3, .null), (0, .ref (ad 0)), (1, .int x), (2, .int (nI 1))]) hx hb dX1_same_5 rfl hl (by decide) rfl (fun ls hl => ?_)
  refine lv_aload_n hx hb dX1_same_6 rfl (lv_at hl 1 rfl) ?_
  refine lv_iload_n hx hb dX1_same_7 rfl (lv_at hl 3 rfl) ?_
  refine vz_callV (n := 1) (As := [.int (nI 1)]) (rest := []) (q0 := 0) hcf (c_X1_listAt1 l D kA ad n fp fk fh hn) gX1_same_X1_listAt rfl hd_X1_listAt ⟨Nat.le_of_ble_eq_true rfl, Nat.le_of_ble_eq_true rfl⟩ hK (hP.sub [0, 1, 2, 3] rfl) rfl rfl rfl rfl hl.1 rfl (Nat.le_of_ble_eq_true rfl) ⟨Nat.zero_le _, Nat.zero_le _⟩ dX1_same_8 ?_
  refine lv_astore (lv' := [(4, .ref (ad 2)), (3, .null), (0, .ref (ad 0)), (1, .int x), (2, .int (nI 1))]) hx hb dX1_same_11 hl (by decide) rfl (fun ls hl => ?_)
  refine lv_aload_nN hx hb dX1_same_13 rfl (lv_at hl 1 rfl) ?_
  refine lv_ifnullN (tgt := 36) hx hb dX1_same_14 (by decide) ?_
  refine lv_iconst (v := nI 0) hx hb dX1_same_36 (by decide) ?_
  exact vz_iret hx hb hr hlocks hQ (rfl) dX1_same_37 (by first | rfl | (rw [c_29]; rfl))
set_option maxHeartbeats 4000000 in
set_option maxRecDepth 100000 in
theorem c_X1_same32 (l : Launch) (D : va_G) (kA : ClassId) (ad : Nat → Nat) (n : Nat) (fp fk fh : Nat → Int32) (c0 c1 c2 c3 : Nat) (f0 f1 f2 f3 : Nat → Int32) (hn : n ≤ 8) (x : Int32) (hx3 : x.toInt < 0 ∨ 2 < x.toInt) : vz_M l yX1_same wsX1_same 1 21 [.ref (ad 0), .int x, .int (nI 2)] D kA [(ad 0, .inr (1, [.ref (ad 1), .ref (ad 2), .ref (ad 3), .ref (ad 4), .ref (ad 5), .ref (ad 6), .ref (ad 7), .int (nI n)])), (ad 5, .inl (kA, 256, .inl fp)), (ad 6, .inl (kA, 256, .inl fk)), (ad 7, .inl (kA, 256, .inl fh)), (ad 1, .inr (0, [.ref (ad 8), .int (nI c0)])), (ad 8, .inl (kA, 24, .inl f0)), (ad 2, .inr (0, [.ref (ad 9), .int (nI c1)])), (ad 9, .inl (kA, 24, .inl f1)), (ad 3, .inr (0, [.ref (ad 10), .int (nI c2)])), (ad 10, .inl (kA, 24, .inl f2)), (ad 4, .inr (0, [.ref (ad 11), .int (nI c3)])), (ad 11, .inl (kA, 24, .inl f3))] (some (.int (nI 0))) := by
  refine vz_start (cc := cX1_same) (maxL := 5) (ret := (some .boolean)) (own := RX1) (by decide) rfl rfl (Nat.le_of_ble_eq_true rfl) ?_
  intro pz ez sz mz below meth cz args Q ls hargs hx hb hml hown hts hr hlocks hP hK hQ hl
  have hcf : CallFix pz mz cz cX1_same 5 sz args wsX1_same RX1 := ⟨hx, hb, hml, hown, hts⟩
  have hl : lv_has ls 5 [(0, .ref (ad 0)), (1, .int x), (2, .int (nI 2))] := hl
  refine lv_aload_n hx hb dX1_same_0 rfl (lv_at hl 0 rfl) ?_
  refine lv_iload_n hx hb dX1_same_1 rfl (lv_at hl 1 rfl) ?_
  refine vz_callV (n := 1) (As := [.int x]) (rest := []) (q0 := 0) hcf (c_X1_listAt3 l D kA ad n fp fk fh hn x hx3) gX1_same_X1_listAt rfl hd_X1_listAt ⟨Nat.le_of_ble_eq_true rfl, Nat.le_of_ble_eq_true rfl⟩ hK (hP.sub [0, 1, 2, 3] rfl) rfl rfl rfl rfl hl.1 rfl (Nat.le_of_ble_eq_true rfl) ⟨Nat.zero_le _, Nat.zero_le _⟩ dX1_same_2 ?_
  refine lv_astore_nN (lv' := [(3, .null), (0, .ref (ad 0)), (1, .int x), (2, .int (nI 2))]) hx hb dX1_same_5 rfl hl (by decide) rfl (fun ls hl => ?_)
  refine lv_aload_n hx hb dX1_same_6 rfl (lv_at hl 1 rfl) ?_
  refine lv_iload_n hx hb dX1_same_7 rfl (lv_at hl 3 rfl) ?_
  refine vz_callV (n := 1) (As := [.int (nI 2)]) (rest := []) (q0 := 0) hcf (c_X1_listAt2 l D kA ad n fp fk fh hn) gX1_same_X1_listAt rfl hd_X1_listAt ⟨Nat.le_of_ble_eq_true rfl, Nat.le_of_ble_eq_true rfl⟩ hK (hP.sub [0, 1, 2, 3] rfl) rfl rfl rfl rfl hl.1 rfl (Nat.le_of_ble_eq_true rfl) ⟨Nat.zero_le _, Nat.zero_le _⟩ dX1_same_8 ?_
  refine lv_astore (lv' := [(4, .ref (ad 3)), (3, .null), (0, .ref (ad 0)), (1, .int x), (2, .int (nI 2))]) hx hb dX1_same_11 hl (by decide) rfl (fun ls hl => ?_)
  refine lv_aload_nN hx hb dX1_same_13 rfl (lv_at hl 1 rfl) ?_
  refine lv_ifnullN (tgt := 36) hx hb dX1_same_14 (by decide) ?_
  refine lv_iconst (v := nI 0) hx hb dX1_same_36 (by decide) ?_
  exact vz_iret hx hb hr hlocks hQ (rfl) dX1_same_37 (by first | rfl | (rw [c_29]; rfl))
set_option maxHeartbeats 4000000 in
set_option maxRecDepth 100000 in
theorem c_X1_same33 (l : Launch) (D : va_G) (kA : ClassId) (ad : Nat → Nat) (n : Nat) (fp fk fh : Nat → Int32) (c0 c1 c2 c3 : Nat) (f0 f1 f2 f3 : Nat → Int32) (hn : n ≤ 8) (x y : Int32) (hx3 : x.toInt < 0 ∨ 2 < x.toInt) (hy3 : y.toInt < 0 ∨ 2 < y.toInt) : vz_M l yX1_same wsX1_same 1 21 [.ref (ad 0), .int x, .int y] D kA [(ad 0, .inr (1, [.ref (ad 1), .ref (ad 2), .ref (ad 3), .ref (ad 4), .ref (ad 5), .ref (ad 6), .ref (ad 7), .int (nI n)])), (ad 5, .inl (kA, 256, .inl fp)), (ad 6, .inl (kA, 256, .inl fk)), (ad 7, .inl (kA, 256, .inl fh)), (ad 1, .inr (0, [.ref (ad 8), .int (nI c0)])), (ad 8, .inl (kA, 24, .inl f0)), (ad 2, .inr (0, [.ref (ad 9), .int (nI c1)])), (ad 9, .inl (kA, 24, .inl f1)), (ad 3, .inr (0, [.ref (ad 10), .int (nI c2)])), (ad 10, .inl (kA, 24, .inl f2)), (ad 4, .inr (0, [.ref (ad 11), .int (nI c3)])), (ad 11, .inl (kA, 24, .inl f3))] (some (.int (nI 0))) := by
  refine vz_start (cc := cX1_same) (maxL := 5) (ret := (some .boolean)) (own := RX1) (by decide) rfl rfl (Nat.le_of_ble_eq_true rfl) ?_
  intro pz ez sz mz below meth cz args Q ls hargs hx hb hml hown hts hr hlocks hP hK hQ hl
  have hcf : CallFix pz mz cz cX1_same 5 sz args wsX1_same RX1 := ⟨hx, hb, hml, hown, hts⟩
  have hl : lv_has ls 5 [(0, .ref (ad 0)), (1, .int x), (2, .int y)] := hl
  refine lv_aload_n hx hb dX1_same_0 rfl (lv_at hl 0 rfl) ?_
  refine lv_iload_n hx hb dX1_same_1 rfl (lv_at hl 1 rfl) ?_
  refine vz_callV (n := 1) (As := [.int x]) (rest := []) (q0 := 0) hcf (c_X1_listAt3 l D kA ad n fp fk fh hn x hx3) gX1_same_X1_listAt rfl hd_X1_listAt ⟨Nat.le_of_ble_eq_true rfl, Nat.le_of_ble_eq_true rfl⟩ hK (hP.sub [0, 1, 2, 3] rfl) rfl rfl rfl rfl hl.1 rfl (Nat.le_of_ble_eq_true rfl) ⟨Nat.zero_le _, Nat.zero_le _⟩ dX1_same_2 ?_
  refine lv_astore_nN (lv' := [(3, .null), (0, .ref (ad 0)), (1, .int x), (2, .int y)]) hx hb dX1_same_5 rfl hl (by decide) rfl (fun ls hl => ?_)
  refine lv_aload_n hx hb dX1_same_6 rfl (lv_at hl 1 rfl) ?_
  refine lv_iload_n hx hb dX1_same_7 rfl (lv_at hl 3 rfl) ?_
  refine vz_callV (n := 1) (As := [.int y]) (rest := []) (q0 := 0) hcf (c_X1_listAt3 l D kA ad n fp fk fh hn y hy3) gX1_same_X1_listAt rfl hd_X1_listAt ⟨Nat.le_of_ble_eq_true rfl, Nat.le_of_ble_eq_true rfl⟩ hK (hP.sub [0, 1, 2, 3] rfl) rfl rfl rfl rfl hl.1 rfl (Nat.le_of_ble_eq_true rfl) ⟨Nat.zero_le _, Nat.zero_le _⟩ dX1_same_8 ?_
  refine lv_astoreN (lv' := [(4, .null), (3, .null), (0, .ref (ad 0)), (1, .int x), (2, .int y)]) hx hb dX1_same_11 hl (by decide) rfl (fun ls hl => ?_)
  refine lv_aload_nN hx hb dX1_same_13 rfl (lv_at hl 1 rfl) ?_
  refine lv_ifnullN (tgt := 36) hx hb dX1_same_14 (by decide) ?_
  refine lv_iconst (v := nI 0) hx hb dX1_same_36 (by decide) ?_
  exact vz_iret hx hb hr hlocks hQ (rfl) dX1_same_37 (by first | rfl | (rw [c_29]; rfl))
set_option maxHeartbeats 4000000 in
set_option maxRecDepth 100000 in
theorem c_X1_widen (l : Launch) (D : va_G) (kA : ClassId) (ad : Nat → Nat) (n : Nat) (fp fk fh : Nat → Int32) (hn : n ≤ 8) (x : Int32) : vz_M l yX1_widen wsX1_widen 3 71 [.ref (ad 0), .int x] D kA [(ad 0, .inr (1, [.ref (ad 1), .ref (ad 2), .ref (ad 3), .ref (ad 4), .ref (ad 5), .ref (ad 6), .ref (ad 7), .int (nI n)])), (ad 5, .inl (kA, 256, .inl fp)), (ad 6, .inl (kA, 256, .inl fk)), (ad 7, .inl (kA, 256, .inl fh))] (some (.int (if ((!decide (x < 0) && !decide (nI (4 ^ n) ≤ x)) && (!zvoid n x && !ztch n fk (zX_in fp) x)) = true then zwd n (ztch n fk (zX_in fp)) true n x else -1))) := by
  refine vz_start (cc := cX1_widen) (maxL := 2) (ret := (some .int)) (own := RX1) (by decide) rfl rfl (Nat.le_of_ble_eq_true rfl) ?_
  intro pz ez sz mz below meth cz args Q ls hargs hx hb hml hown hts hr hlocks hP hK hQ hl
  have hcf : CallFix pz mz cz cX1_widen 2 sz args wsX1_widen RX1 := ⟨hx, hb, hml, hown, hts⟩
  have hl : lv_has ls 2 [(0, .ref (ad 0)), (1, .int x)] := hl
  refine lv_aload_n hx hb dX1_widen_0 rfl (lv_at hl 0 rfl) ?_
  refine lv_iload_n hx hb dX1_widen_1 rfl (lv_at hl 1 rfl) ?_
  refine vz_callV (n := 1) (As := [.int x]) (rest := []) (q0 := 0) hcf (c_X1_isCube l D kA ad n fp fk fh hn x) gX1_widen_X1_isCube rfl hd_X1_isCube ⟨Nat.le_of_ble_eq_true rfl, Nat.le_of_ble_eq_true rfl⟩ hK (hP.sub [0, 1, 2, 3] rfl) rfl rfl rfl rfl hl.1 rfl (Nat.le_of_ble_eq_true rfl) ⟨Nat.zero_le _, Nat.zero_le _⟩ dX1_widen_2 ?_
  refine vz_ifeqB (tgt := 24) hx hb dX1_widen_5 (by decide) (fun c_5 => ?_) (fun c_5 => ?_)
  · skip
    refine lv_iconst (v := -1) hx hb dX1_widen_24 (by decide) ?_
    exact vz_iret hx hb hr hlocks hQ (vp_nar_int _) dX1_widen_25 (by rw [if_neg]; first | (rw [c_5]; simp; done) | (rw [c_5, c_13]; simp; done) | (rw [c_5, c_13, c_21]; simp; done))
  · skip
    refine lv_aload_n hx hb dX1_widen_8 rfl (lv_at hl 0 rfl) ?_
    refine lv_iload_n hx hb dX1_widen_9 rfl (lv_at hl 1 rfl) ?_
    refine vz_callV (n := 1) (As := [.int x]) (rest := []) (q0 := 0) hcf (c_X1_isVoid l D kA ad n fp fk fh hn x) gX1_widen_X1_isVoid rfl hd_X1_isVoid ⟨Nat.le_of_ble_eq_true rfl, Nat.le_of_ble_eq_true rfl⟩ hK (hP.sub [0, 1, 2, 3] rfl) rfl rfl rfl rfl hl.1 rfl (Nat.le_of_ble_eq_true rfl) ⟨Nat.zero_le _, Nat.zero_le _⟩ dX1_widen_10 ?_
    refine vz_ifneB (tgt := 24) hx hb dX1_widen_13 (by decide) (fun c_13 => ?_) (fun c_13 => ?_)
    · skip
      refine lv_iconst (v := -1) hx hb dX1_widen_24 (by decide) ?_
      exact vz_iret hx hb hr hlocks hQ (vp_nar_int _) dX1_widen_25 (by rw [if_neg]; first | (rw [c_5]; simp; done) | (rw [c_5, c_13]; simp; done) | (rw [c_5, c_13, c_21]; simp; done))
    · skip
      refine lv_aload_n hx hb dX1_widen_16 rfl (lv_at hl 0 rfl) ?_
      refine lv_iload_n hx hb dX1_widen_17 rfl (lv_at hl 1 rfl) ?_
      refine vz_callV (n := 1) (As := [.int x]) (rest := []) (q0 := 0) hcf (c_X1_touches l D kA ad n fp fk fh hn x) gX1_widen_X1_touches rfl hd_X1_touches ⟨Nat.le_of_ble_eq_true rfl, Nat.le_of_ble_eq_true rfl⟩ hK (hP.sub [0, 1, 2, 3] rfl) rfl rfl rfl rfl hl.1 rfl (Nat.le_of_ble_eq_true rfl) ⟨Nat.zero_le _, Nat.zero_le _⟩ dX1_widen_18 ?_
      refine vz_ifeqB (tgt := 26) hx hb dX1_widen_21 (by decide) (fun c_21 => ?_) (fun c_21 => ?_)
      · skip
        refine lv_aload_n hx hb dX1_widen_26 rfl (lv_at hl 0 rfl) ?_
        refine lv_iload_n hx hb dX1_widen_27 rfl (lv_at hl 1 rfl) ?_
        refine lv_iconst (v := nI 1) hx hb dX1_widen_28 (by decide) ?_
        refine vz_callV (n := 2) (As := [.int x, .int (nI 1)]) (rest := []) (q0 := 0) hcf (c_X1_widened l D kA ad n fp fk fh hn x true) gX1_widen_X1_widened rfl hd_X1_widened ⟨Nat.le_of_ble_eq_true rfl, Nat.le_of_ble_eq_true rfl⟩ hK (hP.sub [0, 1, 2, 3] rfl) rfl rfl rfl rfl hl.1 rfl (Nat.le_of_ble_eq_true rfl) ⟨Nat.zero_le _, Nat.zero_le _⟩ dX1_widen_29 ?_
        exact vz_iret hx hb hr hlocks hQ (vp_nar_int _) dX1_widen_32 (by rw [if_pos (by rw [c_5, c_13, c_21]; rfl)])
      · skip
        refine lv_iconst (v := -1) hx hb dX1_widen_24 (by decide) ?_
        exact vz_iret hx hb hr hlocks hQ (vp_nar_int _) dX1_widen_25 (by rw [if_neg]; first | (rw [c_5]; simp; done) | (rw [c_5, c_13]; simp; done) | (rw [c_5, c_13, c_21]; simp; done))
set_option maxHeartbeats 4000000 in
set_option maxRecDepth 100000 in
theorem c_X1_fillCover (l : Launch) (D : va_G) (kA : ClassId) (ad : Nat → Nat) (n : Nat) (fp fk fh : Nat → Int32) (c0 c1 c2 c3 : Nat) (f0 f1 f2 f3 : Nat → Int32) (hn : n ≤ 8) (hc0 : c0 ≤ 24) (hc2 : c2 ≤ 24) : vz_MM l yX1_fillCover wsX1_fillCover 1 22 [.ref (ad 0)] D kA [(ad 0, .inr (1, [.ref (ad 1), .ref (ad 2), .ref (ad 3), .ref (ad 4), .ref (ad 5), .ref (ad 6), .ref (ad 7), .int (nI n)])), (ad 5, .inl (kA, 256, .inl fp)), (ad 6, .inl (kA, 256, .inl fk)), (ad 7, .inl (kA, 256, .inl fh)), (ad 1, .inr (0, [.ref (ad 8), .int (nI c0)])), (ad 8, .inl (kA, 24, .inl f0)), (ad 2, .inr (0, [.ref (ad 9), .int (nI c1)])), (ad 9, .inl (kA, 24, .inl f1)), (ad 3, .inr (0, [.ref (ad 10), .int (nI c2)])), (ad 10, .inl (kA, 24, .inl f2)), (ad 4, .inr (0, [.ref (ad 11), .int (nI c3)])), (ad 11, .inl (kA, 24, .inl f3))] none [(ad 0, .inr (1, [.ref (ad 1), .ref (ad 2), .ref (ad 3), .ref (ad 4), .ref (ad 5), .ref (ad 6), .ref (ad 7), .int (nI n)])), (ad 5, .inl (kA, 256, .inl fp)), (ad 6, .inl (kA, 256, .inl fk)), (ad 7, .inl (kA, 256, .inl fh)), (ad 1, .inr (0, [.ref (ad 8), .int (nI c0)])), (ad 8, .inl (kA, 24, .inl f0)), (ad 2, .inr (0, [.ref (ad 9), .int (nI c1)])), (ad 9, .inl (kA, 24, .inl f1)), (ad 3, .inr (0, [.ref (ad 10), .int (nI ((zfc n f0 f2 c0).1))])), (ad 10, .inl (kA, 24, .inl ((zfc n f0 f2 c0).2))), (ad 4, .inr (0, [.ref (ad 11), .int (nI c3)])), (ad 11, .inl (kA, 24, .inl f3))] := by
  refine vz_startM (cc := cX1_fillCover) (maxL := 3) (ret := none) (own := RX1) (by decide) rfl rfl (Nat.le_of_ble_eq_true rfl) ?_
  intro pz ez sz mz below meth cz args Q ls H locs Az hargs hx hb hml hown hts hr hlocks hP hK hD hS hAe hQ hl
  have hcf : CallFix pz mz cz cX1_fillCover 3 sz args wsX1_fillCover RX1 := ⟨hx, hb, hml, hown, hts⟩
  have hi0 : ∀ w ∈ u_ws RX1 TX1 8, w ∈ wsX1_fillCover := by decide +kernel
  have hf12 : (Cond.fieldLink RX1 12 "CubeMin" "onList" "LCubeMin$CubeList;").before args sz = true := hts _ (by decide +kernel)
  have hf19 : (Cond.fieldLink RX1 19 "CubeMin" "coverList" "LCubeMin$CubeList;").before args sz = true := hts _ (by decide +kernel)
  have hl : lv_has ls 3 [(0, .ref (ad 0))] := hl
  refine lv_aload_n hx hb dX1_fillCover_0 rfl (lv_at hl 0 rfl) ?_
  refine va_get (D := D) (ci := 1) (v := .ref (ad 3)) (C := RX1) (T := TX1) (N := 8) hx hb hts hi0 hown hK hP 0 rfl rfl 2 (by decide) hf19 (fun _ h9 => h9) rfl dX1_fillCover_1 ?_
  refine vz_callM (n := 0) (As := []) (rest := []) (q0 := 0) hcf (c_X0_clear l D kA (ad 3) (ad 10) c2 f2 hc2) gX1_fillCover_X0_clear rfl hd_X0_clear ⟨Nat.le_of_ble_eq_true rfl, Nat.le_of_ble_eq_true rfl⟩ hK hP hD hS [8, 9] (by decide) rfl rfl rfl rfl rfl rfl rfl hl.1 rfl (Nat.le_of_ble_eq_true rfl) ⟨Nat.zero_le _, Nat.zero_le _⟩ dX1_fillCover_4 (fun H locs hP hD hS => ?_)
  have hP : va_P D vwCl [(ad 0, .inr (1, [.ref (ad 1), .ref (ad 2), .ref (ad 3), .ref (ad 4), .ref (ad 5), .ref (ad 6), .ref (ad 7), .int (nI n)])), (ad 5, .inl (kA, 256, .inl fp)), (ad 6, .inl (kA, 256, .inl fk)), (ad 7, .inl (kA, 256, .inl fh)), (ad 1, .inr (0, [.ref (ad 8), .int (nI c0)])), (ad 8, .inl (kA, 24, .inl f0)), (ad 2, .inr (0, [.ref (ad 9), .int (nI c1)])), (ad 9, .inl (kA, 24, .inl f1)), (ad 3, .inr (0, [.ref (ad 10), .int (nI 0)])), (ad 10, .inl (kA, 24, .inl f2)), (ad 4, .inr (0, [.ref (ad 11), .int (nI c3)])), (ad 11, .inl (kA, 24, .inl f3))] H := hP
  have hD : va_D Az [(ad 0, .inr (1, [.ref (ad 1), .ref (ad 2), .ref (ad 3), .ref (ad 4), .ref (ad 5), .ref (ad 6), .ref (ad 7), .int (nI n)])), (ad 5, .inl (kA, 256, .inl fp)), (ad 6, .inl (kA, 256, .inl fk)), (ad 7, .inl (kA, 256, .inl fh)), (ad 1, .inr (0, [.ref (ad 8), .int (nI c0)])), (ad 8, .inl (kA, 24, .inl f0)), (ad 2, .inr (0, [.ref (ad 9), .int (nI c1)])), (ad 9, .inl (kA, 24, .inl f1)), (ad 3, .inr (0, [.ref (ad 10), .int (nI 0)])), (ad 10, .inl (kA, 24, .inl f2)), (ad 4, .inr (0, [.ref (ad 11), .int (nI c3)])), (ad 11, .inl (kA, 24, .inl f3))] := hD
  refine lv_iconst (v := nI 0) hx hb dX1_fillCover_7 (by decide) ?_
  refine lv_istore_n (lv' := [(1, .int (nI 0)), (0, .ref (ad 0))]) hx hb dX1_fillCover_8 rfl hl (by decide) rfl (fun ls hl => ?_)
  have lp1 : ∀ (dz : Nat) (i t : Nat) (g : Nat → Int32) (H : Heap) (locs : List Loc) (ls : Array Slot), (c0 - i) < dz → (i ≤ c0) → (t ≤ i) → ((t, g) = zfc n f0 f2 i) → va_P D vwCl [(ad 0, .inr (1, [.ref (ad 1), .ref (ad 2), .ref (ad 3), .ref (ad 4), .ref (ad 5), .ref (ad 6), .ref (ad 7), .int (nI n)])), (ad 5, .inl (kA, 256, .inl fp)), (ad 6, .inl (kA, 256, .inl fk)), (ad 7, .inl (kA, 256, .inl fh)), (ad 1, .inr (0, [.ref (ad 8), .int (nI c0)])), (ad 8, .inl (kA, 24, .inl f0)), (ad 2, .inr (0, [.ref (ad 9), .int (nI c1)])), (ad 9, .inl (kA, 24, .inl f1)), (ad 3, .inr (0, [.ref (ad 10), .int (nI t)])), (ad 10, .inl (kA, 24, .inl g)), (ad 4, .inr (0, [.ref (ad 11), .int (nI c3)])), (ad 11, .inl (kA, 24, .inl f3))] H → va_D Az [(ad 0, .inr (1, [.ref (ad 1), .ref (ad 2), .ref (ad 3), .ref (ad 4), .ref (ad 5), .ref (ad 6), .ref (ad 7), .int (nI n)])), (ad 5, .inl (kA, 256, .inl fp)), (ad 6, .inl (kA, 256, .inl fk)), (ad 7, .inl (kA, 256, .inl fh)), (ad 1, .inr (0, [.ref (ad 8), .int (nI c0)])), (ad 8, .inl (kA, 24, .inl f0)), (ad 2, .inr (0, [.ref (ad 9), .int (nI c1)])), (ad 9, .inl (kA, 24, .inl f1)), (ad 3, .inr (0, [.ref (ad 10), .int (nI t)])), (ad 10, .inl (kA, 24, .inl g)), (ad 4, .inr (0, [.ref (ad 11), .int (nI c3)])), (ad 11, .inl (kA, 24, .inl f3))] → va_S Az sz.heap H locs → lv_has ls 3 [(0, .ref (ad 0)), (1, .int (nI i))] → W pz l ez (vz_R 1 22) sz mz args below meth cz H locs 0 0 Q (F0 mz 9 ls []) := by
    intro dz
    induction dz with
    | zero => intro i t g H locs ls hd h1 h2 h3 hP hD hS hl; exact absurd hd (Nat.not_lt_zero _)
    | succ dz ih1 =>
      intro i t g H locs ls hd h1 h2 h3 hP hD hS hl
      refine lv_iload_n hx hb dX1_fillCover_9 rfl (lv_at hl 1 rfl) ?_
      refine lv_aload_n hx hb dX1_fillCover_10 rfl (lv_at hl 0 rfl) ?_
      refine va_get (D := D) (ci := 1) (v := .ref (ad 1)) (C := RX1) (T := TX1) (N := 8) hx hb hts hi0 hown hK hP 0 rfl rfl 0 (by decide) hf12 (fun _ h9 => h9) rfl dX1_fillCover_11 ?_
      refine vz_callV (n := 0) (As := []) (rest := [.int (nI i)]) (q0 := 0) hcf (c_X0_length l D kA (ad 1) (ad 8) c0 f0 hc0) gX1_fillCover_X0_length rfl hd_X0_length ⟨Nat.le_of_ble_eq_true rfl, Nat.le_of_ble_eq_true rfl⟩ hK (hP.sub [4, 5] rfl) rfl rfl rfl rfl hl.1 rfl (Nat.le_of_ble_eq_true rfl) ⟨Nat.zero_le _, Nat.zero_le _⟩ dX1_fillCover_14 ?_
      refine vz_cge (tgt := 52) hx hb dX1_fillCover_17 (by decide) (by omega) (by omega) (fun c_17 => ?_) (fun c_17 => ?_)
      · skip
        obtain rfl : c0 = i := by omega
        rw [← h3] at hQ
        exact vz_vretM hx hb hr hlocks hQ hAe dX1_fillCover_52 hS hP rfl
      · skip
        refine lv_aload_n hx hb dX1_fillCover_20 rfl (lv_at hl 0 rfl) ?_
        refine va_get (D := D) (ci := 1) (v := .ref (ad 1)) (C := RX1) (T := TX1) (N := 8) hx hb hts hi0 hown hK hP 0 rfl rfl 0 (by decide) hf12 (fun _ h9 => h9) rfl dX1_fillCover_21 ?_
        refine lv_iload_n hx hb dX1_fillCover_24 rfl (lv_at hl 1 rfl) ?_
        refine vz_callV (n := 1) (As := [.int (nI i)]) (rest := []) (q0 := 0) hcf (c_X0_at l D kA (ad 1) (ad 8) c0 f0 hc0 (nI i)) gX1_fillCover_X0_at rfl hd_X0_at ⟨Nat.le_of_ble_eq_true rfl, Nat.le_of_ble_eq_true rfl⟩ hK (hP.sub [4, 5] rfl) rfl rfl rfl rfl hl.1 rfl (Nat.le_of_ble_eq_true rfl) ⟨Nat.zero_le _, Nat.zero_le _⟩ dX1_fillCover_25 ?_
        refine vz_top (y := (f0 i)) (zat_nI c_17 hc0) ?_
        refine lv_istore_n (lv' := [(2, .int (f0 i)), (0, .ref (ad 0)), (1, .int (nI i))]) hx hb dX1_fillCover_28 rfl hl (by decide) rfl (fun ls hl => ?_)
        refine lv_aload_n hx hb dX1_fillCover_29 rfl (lv_at hl 1 rfl) ?_
        refine lv_iload_n hx hb dX1_fillCover_30 rfl (lv_at hl 0 rfl) ?_
        refine vz_callV (n := 1) (As := [.int (f0 i)]) (rest := []) (q0 := 0) hcf (c_X1_isVoid l D kA ad n fp fk fh hn (f0 i)) gX1_fillCover_X1_isVoid rfl hd_X1_isVoid ⟨Nat.le_of_ble_eq_true rfl, Nat.le_of_ble_eq_true rfl⟩ hK (hP.sub [0, 1, 2, 3] rfl) rfl rfl rfl rfl hl.1 rfl (Nat.le_of_ble_eq_true rfl) ⟨Nat.zero_le _, Nat.zero_le _⟩ dX1_fillCover_31 ?_
        refine vz_ifneB (tgt := 46) hx hb dX1_fillCover_34 (by decide) (fun c_34 => ?_) (fun c_34 => ?_)
        · skip
          refine lv_iinc (v := (nI (i + 1))) (lv' := [(1, .int (nI (i + 1))), (2, .int (f0 i)), (0, .ref (ad 0))]) hx hb dX1_fillCover_46 hl (k := 2) rfl (nI_1 _) (by decide) rfl (fun ls hl => ?_)
          refine lv_goto (tgt := 9) hx hb dX1_fillCover_49 (by decide) ?_
          exact ih1 (i + 1) t g _ _ _ (by omega) (by omega) (by omega) (by rw [zfc, if_pos c_34]; exact h3) hP (vz_D hD rfl) hS (lv_sub hl [2, 0] rfl)
        · skip
          refine lv_aload_n hx hb dX1_fillCover_37 rfl (lv_at hl 1 rfl) ?_
          refine va_get (D := D) (ci := 1) (v := .ref (ad 3)) (C := RX1) (T := TX1) (N := 8) hx hb hts hi0 hown hK hP 0 rfl rfl 2 (by decide) hf19 (fun _ h9 => h9) rfl dX1_fillCover_38 ?_
          refine lv_iload_n hx hb dX1_fillCover_41 rfl (lv_at hl 0 rfl) ?_
          refine vz_callM (n := 1) (As := [.int (f0 i)]) (rest := []) (q0 := 0) hcf (c_X0_append l D kA (ad 3) (ad 10) t g (by omega) (f0 i)) gX1_fillCover_X0_append rfl hd_X0_append ⟨Nat.le_of_ble_eq_true rfl, Nat.le_of_ble_eq_true rfl⟩ hK hP hD hS [8, 9] (by decide) rfl rfl rfl rfl rfl rfl rfl hl.1 rfl (Nat.le_of_ble_eq_true rfl) ⟨Nat.zero_le _, Nat.zero_le _⟩ dX1_fillCover_42 (fun H locs hP hD hS => ?_)
          have hP : va_P D vwCl [(ad 0, .inr (1, [.ref (ad 1), .ref (ad 2), .ref (ad 3), .ref (ad 4), .ref (ad 5), .ref (ad 6), .ref (ad 7), .int (nI n)])), (ad 5, .inl (kA, 256, .inl fp)), (ad 6, .inl (kA, 256, .inl fk)), (ad 7, .inl (kA, 256, .inl fh)), (ad 1, .inr (0, [.ref (ad 8), .int (nI c0)])), (ad 8, .inl (kA, 24, .inl f0)), (ad 2, .inr (0, [.ref (ad 9), .int (nI c1)])), (ad 9, .inl (kA, 24, .inl f1)), (ad 3, .inr (0, [.ref (ad 10), .int (nI (t + 1))])), (ad 10, .inl (kA, 24, .inl (upd g t (f0 i)))), (ad 4, .inr (0, [.ref (ad 11), .int (nI c3)])), (ad 11, .inl (kA, 24, .inl f3))] H := hP
          have hD : va_D Az [(ad 0, .inr (1, [.ref (ad 1), .ref (ad 2), .ref (ad 3), .ref (ad 4), .ref (ad 5), .ref (ad 6), .ref (ad 7), .int (nI n)])), (ad 5, .inl (kA, 256, .inl fp)), (ad 6, .inl (kA, 256, .inl fk)), (ad 7, .inl (kA, 256, .inl fh)), (ad 1, .inr (0, [.ref (ad 8), .int (nI c0)])), (ad 8, .inl (kA, 24, .inl f0)), (ad 2, .inr (0, [.ref (ad 9), .int (nI c1)])), (ad 9, .inl (kA, 24, .inl f1)), (ad 3, .inr (0, [.ref (ad 10), .int (nI (t + 1))])), (ad 10, .inl (kA, 24, .inl (upd g t (f0 i)))), (ad 4, .inr (0, [.ref (ad 11), .int (nI c3)])), (ad 11, .inl (kA, 24, .inl f3))] := hD
          refine lv_pop hx hb dX1_fillCover_45 rfl ?_
          refine lv_iinc (v := (nI (i + 1))) (lv' := [(1, .int (nI (i + 1))), (2, .int (f0 i)), (0, .ref (ad 0))]) hx hb dX1_fillCover_46 hl (k := 2) rfl (nI_1 _) (by decide) rfl (fun ls hl => ?_)
          refine lv_goto (tgt := 9) hx hb dX1_fillCover_49 (by decide) ?_
          exact ih1 (i + 1) (t + 1) (upd g t (f0 i)) _ _ _ (by omega) (by omega) (by omega) (by rw [zfc, if_neg (by rw [c_34]; decide), ← h3]) hP (vz_D hD rfl) hS (lv_sub hl [2, 0] rfl)
  exact lp1 _ 0 0 f2 _ _ _ (Nat.lt_succ_self _) (by omega) (by omega) rfl hP (vz_D hD rfl) hS (lv_sub hl [1, 0] rfl)
set_option maxHeartbeats 4000000 in
set_option maxRecDepth 100000 in
theorem c_X1_minimize (l : Launch) (D : va_G) (kA : ClassId) (ad : Nat → Nat) (n : Nat) (fp fk fh : Nat → Int32) (c0 c1 c2 c3 : Nat) (f0 f1 f2 f3 : Nat → Int32) (hn : n ≤ 8) (hc0 : c0 ≤ 24) (hc2 : c2 ≤ 24) (hc3 : c3 ≤ 24) : vz_MM l yX1_minimize wsX1_minimize 5 114 [.ref (ad 0)] D kA [(ad 0, .inr (1, [.ref (ad 1), .ref (ad 2), .ref (ad 3), .ref (ad 4), .ref (ad 5), .ref (ad 6), .ref (ad 7), .int (nI n)])), (ad 5, .inl (kA, 256, .inl fp)), (ad 6, .inl (kA, 256, .inl fk)), (ad 7, .inl (kA, 256, .inl fh)), (ad 1, .inr (0, [.ref (ad 8), .int (nI c0)])), (ad 8, .inl (kA, 24, .inl f0)), (ad 2, .inr (0, [.ref (ad 9), .int (nI c1)])), (ad 9, .inl (kA, 24, .inl f1)), (ad 3, .inr (0, [.ref (ad 10), .int (nI c2)])), (ad 10, .inl (kA, 24, .inl f2)), (ad 4, .inr (0, [.ref (ad 11), .int (nI c3)])), (ad 11, .inl (kA, 24, .inl f3))] (some (.int (nI ((zmz n fp fk c0 f0 f2 c3 f3 fh).1)))) [(ad 0, .inr (1, [.ref (ad 1), .ref (ad 2), .ref (ad 3), .ref (ad 4), .ref (ad 5), .ref (ad 6), .ref (ad 7), .int (nI n)])), (ad 5, .inl (kA, 256, .inl fp)), (ad 6, .inl (kA, 256, .inl fk)), (ad 7, .inl (kA, 256, .inl ((zmz n fp fk c0 f0 f2 c3 f3 fh).2.2.2.2))), (ad 1, .inr (0, [.ref (ad 8), .int (nI c0)])), (ad 8, .inl (kA, 24, .inl f0)), (ad 2, .inr (0, [.ref (ad 9), .int (nI c1)])), (ad 9, .inl (kA, 24, .inl f1)), (ad 3, .inr (0, [.ref (ad 10), .int (nI ((zmz n fp fk c0 f0 f2 c3 f3 fh).1))])), (ad 10, .inl (kA, 24, .inl ((zmz n fp fk c0 f0 f2 c3 f3 fh).2.1))), (ad 4, .inr (0, [.ref (ad 11), .int (nI ((zmz n fp fk c0 f0 f2 c3 f3 fh).2.2.1))])), (ad 11, .inl (kA, 24, .inl ((zmz n fp fk c0 f0 f2 c3 f3 fh).2.2.2.1)))] := by
  refine vz_startM (cc := cX1_minimize) (maxL := 3) (ret := (some .int)) (own := RX1) (by decide) rfl rfl (Nat.le_of_ble_eq_true rfl) ?_
  intro pz ez sz mz below meth cz args Q ls H locs Az hargs hx hb hml hown hts hr hlocks hP hK hD hS hAe hQ hl
  have hcf : CallFix pz mz cz cX1_minimize 3 sz args wsX1_minimize RX1 := ⟨hx, hb, hml, hown, hts⟩
  have hi0 : ∀ w ∈ u_ws RX1 TX1 8, w ∈ wsX1_minimize := by decide +kernel
  have hf19 : (Cond.fieldLink RX1 19 "CubeMin" "coverList" "LCubeMin$CubeList;").before args sz = true := hts _ (by decide +kernel)
  have hf22 : (Cond.fieldLink RX1 22 "CubeMin" "trialList" "LCubeMin$CubeList;").before args sz = true := hts _ (by decide +kernel)
  have hl : lv_has ls 3 [(0, .ref (ad 0))] := hl
  have hz := @zfc_le n f0 f2 c0
  refine lv_aload_n hx hb dX1_minimize_0 rfl (lv_at hl 0 rfl) ?_
  refine vz_callM (n := 0) (As := []) (rest := []) (q0 := 0) hcf (c_X1_fillCover l D kA ad n fp fk fh c0 c1 c2 c3 f0 f1 f2 f3 hn hc0 hc2) gX1_minimize_X1_fillCover rfl hd_X1_fillCover ⟨Nat.le_of_ble_eq_true rfl, Nat.le_of_ble_eq_true rfl⟩ hK hP hD hS [0, 1, 2, 3, 4, 5, 6, 7, 8, 9, 10, 11] (by decide) rfl rfl rfl rfl rfl rfl rfl hl.1 rfl (Nat.le_of_ble_eq_true rfl) ⟨Nat.zero_le _, Nat.zero_le _⟩ dX1_minimize_1 (fun H locs hP hD hS => ?_)
  have hP : va_P D vwCl [(ad 0, .inr (1, [.ref (ad 1), .ref (ad 2), .ref (ad 3), .ref (ad 4), .ref (ad 5), .ref (ad 6), .ref (ad 7), .int (nI n)])), (ad 5, .inl (kA, 256, .inl fp)), (ad 6, .inl (kA, 256, .inl fk)), (ad 7, .inl (kA, 256, .inl fh)), (ad 1, .inr (0, [.ref (ad 8), .int (nI c0)])), (ad 8, .inl (kA, 24, .inl f0)), (ad 2, .inr (0, [.ref (ad 9), .int (nI c1)])), (ad 9, .inl (kA, 24, .inl f1)), (ad 3, .inr (0, [.ref (ad 10), .int (nI ((zfc n f0 f2 c0).1))])), (ad 10, .inl (kA, 24, .inl ((zfc n f0 f2 c0).2))), (ad 4, .inr (0, [.ref (ad 11), .int (nI c3)])), (ad 11, .inl (kA, 24, .inl f3))] H := hP
  have hD : va_D Az [(ad 0, .inr (1, [.ref (ad 1), .ref (ad 2), .ref (ad 3), .ref (ad 4), .ref (ad 5), .ref (ad 6), .ref (ad 7), .int (nI n)])), (ad 5, .inl (kA, 256, .inl fp)), (ad 6, .inl (kA, 256, .inl fk)), (ad 7, .inl (kA, 256, .inl fh)), (ad 1, .inr (0, [.ref (ad 8), .int (nI c0)])), (ad 8, .inl (kA, 24, .inl f0)), (ad 2, .inr (0, [.ref (ad 9), .int (nI c1)])), (ad 9, .inl (kA, 24, .inl f1)), (ad 3, .inr (0, [.ref (ad 10), .int (nI ((zfc n f0 f2 c0).1))])), (ad 10, .inl (kA, 24, .inl ((zfc n f0 f2 c0).2))), (ad 4, .inr (0, [.ref (ad 11), .int (nI c3)])), (ad 11, .inl (kA, 24, .inl f3))] := hD
  refine lv_aload_n hx hb dX1_minimize_4 rfl (lv_at hl 0 rfl) ?_
  refine lv_aload_n hx hb dX1_minimize_5 rfl (lv_at hl 0 rfl) ?_
  refine va_get (D := D) (ci := 1) (v := .ref (ad 3)) (C := RX1) (T := TX1) (N := 8) hx hb hts hi0 hown hK hP 0 rfl rfl 2 (by decide) hf19 (fun _ h9 => h9) rfl dX1_minimize_6 ?_
  refine lv_iconst (v := nI 1) hx hb dX1_minimize_9 (by decide) ?_
  refine vz_top (y := (vz_b true)) rfl ?_
  refine vz_callM (n := 2) (As := [.ref (ad 3), .int (vz_b true)]) (rest := []) (q0 := 0) hcf (c_X1_makePass l D kA ad n fp fk fh hn (ad 3) (ad 10) (zfc n f0 f2 c0).1 (zfc n f0 f2 c0).2 (by omega) true) gX1_minimize_X1_makePass rfl hd_X1_makePass ⟨Nat.le_of_ble_eq_true rfl, Nat.le_of_ble_eq_true rfl⟩ hK hP hD hS [0, 1, 2, 3, 8, 9] (by decide) rfl rfl rfl rfl rfl rfl rfl hl.1 rfl (Nat.le_of_ble_eq_true rfl) ⟨Nat.zero_le _, Nat.zero_le _⟩ dX1_minimize_10 (fun H locs hP hD hS => ?_)
  have hP : va_P D vwCl [(ad 0, .inr (1, [.ref (ad 1), .ref (ad 2), .ref (ad 3), .ref (ad 4), .ref (ad 5), .ref (ad 6), .ref (ad 7), .int (nI n)])), (ad 5, .inl (kA, 256, .inl fp)), (ad 6, .inl (kA, 256, .inl fk)), (ad 7, .inl (kA, 256, .inl ((zmz0 n fp fk c0 f0 f2 fh).2.2))), (ad 1, .inr (0, [.ref (ad 8), .int (nI c0)])), (ad 8, .inl (kA, 24, .inl f0)), (ad 2, .inr (0, [.ref (ad 9), .int (nI c1)])), (ad 9, .inl (kA, 24, .inl f1)), (ad 3, .inr (0, [.ref (ad 10), .int (nI ((zmz0 n fp fk c0 f0 f2 fh).1))])), (ad 10, .inl (kA, 24, .inl ((zmz0 n fp fk c0 f0 f2 fh).2.1))), (ad 4, .inr (0, [.ref (ad 11), .int (nI c3)])), (ad 11, .inl (kA, 24, .inl f3))] H := hP
  have hD : va_D Az [(ad 0, .inr (1, [.ref (ad 1), .ref (ad 2), .ref (ad 3), .ref (ad 4), .ref (ad 5), .ref (ad 6), .ref (ad 7), .int (nI n)])), (ad 5, .inl (kA, 256, .inl fp)), (ad 6, .inl (kA, 256, .inl fk)), (ad 7, .inl (kA, 256, .inl ((zmz0 n fp fk c0 f0 f2 fh).2.2))), (ad 1, .inr (0, [.ref (ad 8), .int (nI c0)])), (ad 8, .inl (kA, 24, .inl f0)), (ad 2, .inr (0, [.ref (ad 9), .int (nI c1)])), (ad 9, .inl (kA, 24, .inl f1)), (ad 3, .inr (0, [.ref (ad 10), .int (nI ((zmz0 n fp fk c0 f0 f2 fh).1))])), (ad 10, .inl (kA, 24, .inl ((zmz0 n fp fk c0 f0 f2 fh).2.1))), (ad 4, .inr (0, [.ref (ad 11), .int (nI c3)])), (ad 11, .inl (kA, 24, .inl f3))] := hD
  refine lv_iconst (v := nI 1) hx hb dX1_minimize_13 (by decide) ?_
  refine vz_top (y := (vz_b true)) rfl ?_
  refine lv_istore_n (lv' := [(1, .int (vz_b true)), (0, .ref (ad 0))]) hx hb dX1_minimize_14 rfl hl (by decide) rfl (fun ls hl => ?_)
  refine lv_iconst (v := nI 1) hx hb dX1_minimize_15 (by decide) ?_
  refine lv_istore_n (lv' := [(2, .int (nI 1)), (1, .int (vz_b true)), (0, .ref (ad 0))]) hx hb dX1_minimize_16 rfl hl (by decide) rfl (fun ls hl => ?_)
  have lp1 : ∀ (dz : Nat) (k r : Nat) (b : Bool) (b2 : Nat) (g2 : Nat → Int32) (b3 : Nat) (g3 gh : Nat → Int32) (H : Heap) (locs : List Loc) (ls : Array Slot), k < dz → (r + k = 9) → (b2 ≤ 24) → (b3 ≤ 24) → (zrs n fp fk k r b (b2, g2, b3, g3, gh) = (zmz n fp fk c0 f0 f2 c3 f3 fh)) → va_P D vwCl [(ad 0, .inr (1, [.ref (ad 1), .ref (ad 2), .ref (ad 3), .ref (ad 4), .ref (ad 5), .ref (ad 6), .ref (ad 7), .int (nI n)])), (ad 5, .inl (kA, 256, .inl fp)), (ad 6, .inl (kA, 256, .inl fk)), (ad 7, .inl (kA, 256, .inl gh)), (ad 1, .inr (0, [.ref (ad 8), .int (nI c0)])), (ad 8, .inl (kA, 24, .inl f0)), (ad 2, .inr (0, [.ref (ad 9), .int (nI c1)])), (ad 9, .inl (kA, 24, .inl f1)), (ad 3, .inr (0, [.ref (ad 10), .int (nI b2)])), (ad 10, .inl (kA, 24, .inl g2)), (ad 4, .inr (0, [.ref (ad 11), .int (nI b3)])), (ad 11, .inl (kA, 24, .inl g3))] H → va_D Az [(ad 0, .inr (1, [.ref (ad 1), .ref (ad 2), .ref (ad 3), .ref (ad 4), .ref (ad 5), .ref (ad 6), .ref (ad 7), .int (nI n)])), (ad 5, .inl (kA, 256, .inl fp)), (ad 6, .inl (kA, 256, .inl fk)), (ad 7, .inl (kA, 256, .inl gh)), (ad 1, .inr (0, [.ref (ad 8), .int (nI c0)])), (ad 8, .inl (kA, 24, .inl f0)), (ad 2, .inr (0, [.ref (ad 9), .int (nI c1)])), (ad 9, .inl (kA, 24, .inl f1)), (ad 3, .inr (0, [.ref (ad 10), .int (nI b2)])), (ad 10, .inl (kA, 24, .inl g2)), (ad 4, .inr (0, [.ref (ad 11), .int (nI b3)])), (ad 11, .inl (kA, 24, .inl g3))] → va_S Az sz.heap H locs → lv_has ls 3 [(0, .ref (ad 0)), (1, .int (vz_b b)), (2, .int (nI r))] → W pz l ez (vz_R 5 114) sz mz args below meth cz H locs 0 0 Q (F0 mz 17 ls []) := by
    intro dz
    induction dz with
    | zero => intro k r b b2 g2 b3 g3 gh H locs ls hd h1 h2 hb3 h3 hP hD hS hl; exact absurd hd (Nat.not_lt_zero _)
    | succ dz ih1 =>
      intro k r b b2 g2 b3 g3 gh H locs ls hd h1 h2 hb3 h3 hP hD hS hl
      refine lv_iload_n hx hb dX1_minimize_17 rfl (lv_at hl 2 rfl) ?_
      refine lv_bipush (v := nI 8) hx hb dX1_minimize_18 (by decide) ?_
      refine vz_cgt (tgt := 99) hx hb dX1_minimize_20 (by decide) (by omega) (by omega) (fun c_20 => ?_) (fun c_20 => ?_)
      · skip
        obtain rfl : k = 0 := by omega
        rw [← h3] at hQ
        refine lv_aload_n hx hb dX1_minimize_99 rfl (lv_at hl 0 rfl) ?_
        refine va_get (D := D) (ci := 1) (v := .ref (ad 3)) (C := RX1) (T := TX1) (N := 8) hx hb hts hi0 hown hK hP 0 rfl rfl 2 (by decide) hf19 (fun _ h9 => h9) rfl dX1_minimize_100 ?_
        refine vz_callV (n := 0) (As := []) (rest := []) (q0 := 0) hcf (c_X0_length l D kA (ad 3) (ad 10) b2 g2 h2) gX1_minimize_X0_length rfl hd_X0_length ⟨Nat.le_of_ble_eq_true rfl, Nat.le_of_ble_eq_true rfl⟩ hK (hP.sub [8, 9] rfl) rfl rfl rfl rfl hl.1 rfl (Nat.le_of_ble_eq_true rfl) ⟨Nat.zero_le _, Nat.zero_le _⟩ dX1_minimize_103 ?_
        exact vz_iretM hx hb hr hlocks hQ hAe (vp_nar_int _) dX1_minimize_106 rfl hS hP rfl
      · skip
        obtain ⟨k, rfl⟩ : ∃ i, k = i + 1 := ⟨k - 1, by omega⟩
        refine lv_iload_n hx hb dX1_minimize_23 rfl (lv_at hl 1 rfl) ?_
        refine vz_ifeqB (tgt := 99) hx hb dX1_minimize_24 (by decide) (fun c_24 => ?_) (fun c_24 => ?_)
        · skip
          have h5 : (b2, g2, b3, g3, gh) = (zmz n fp fk c0 f0 f2 c3 f3 fh) := by rw [← h3, zrs, if_neg (by rw [c_24]; decide)]
          rw [← h5] at hQ
          refine lv_aload_n hx hb dX1_minimize_99 rfl (lv_at hl 0 rfl) ?_
          refine va_get (D := D) (ci := 1) (v := .ref (ad 3)) (C := RX1) (T := TX1) (N := 8) hx hb hts hi0 hown hK hP 0 rfl rfl 2 (by decide) hf19 (fun _ h9 => h9) rfl dX1_minimize_100 ?_
          refine vz_callV (n := 0) (As := []) (rest := []) (q0 := 0) hcf (c_X0_length l D kA (ad 3) (ad 10) b2 g2 h2) gX1_minimize_X0_length rfl hd_X0_length ⟨Nat.le_of_ble_eq_true rfl, Nat.le_of_ble_eq_true rfl⟩ hK (hP.sub [8, 9] rfl) rfl rfl rfl rfl hl.1 rfl (Nat.le_of_ble_eq_true rfl) ⟨Nat.zero_le _, Nat.zero_le _⟩ dX1_minimize_103 ?_
          exact vz_iretM hx hb hr hlocks hQ hAe (vp_nar_int _) dX1_minimize_106 rfl hS hP rfl
        · skip
          subst c_24
          refine lv_aload_n hx hb dX1_minimize_27 rfl (lv_at hl 0 rfl) ?_
          refine va_get (D := D) (ci := 1) (v := .ref (ad 4)) (C := RX1) (T := TX1) (N := 8) hx hb hts hi0 hown hK hP 0 rfl rfl 3 (by decide) hf22 (fun _ h9 => h9) rfl dX1_minimize_28 ?_
          refine lv_aload_n hx hb dX1_minimize_31 rfl (lv_at hl 0 rfl) ?_
          refine va_get (D := D) (ci := 1) (v := .ref (ad 3)) (C := RX1) (T := TX1) (N := 8) hx hb hts hi0 hown hK hP 0 rfl rfl 2 (by decide) hf19 (fun _ h9 => h9) rfl dX1_minimize_32 ?_
          refine vz_callM (n := 1) (As := [.ref (ad 3)]) (rest := []) (q0 := 0) hcf (c_X0_copyFrom l D kA (ad 4) (ad 11) b3 g3 (ad 3) (ad 10) b2 g2 h2) gX1_minimize_X0_copyFrom rfl hd_X0_copyFrom ⟨Nat.le_of_ble_eq_true rfl, Nat.le_of_ble_eq_true rfl⟩ hK hP hD hS [10, 11, 8, 9] (by decide) rfl rfl rfl rfl rfl rfl rfl hl.1 rfl (Nat.le_of_ble_eq_true rfl) ⟨Nat.zero_le _, Nat.zero_le _⟩ dX1_minimize_35 (fun H locs hP hD hS => ?_)
          have hP : va_P D vwCl [(ad 0, .inr (1, [.ref (ad 1), .ref (ad 2), .ref (ad 3), .ref (ad 4), .ref (ad 5), .ref (ad 6), .ref (ad 7), .int (nI n)])), (ad 5, .inl (kA, 256, .inl fp)), (ad 6, .inl (kA, 256, .inl fk)), (ad 7, .inl (kA, 256, .inl gh)), (ad 1, .inr (0, [.ref (ad 8), .int (nI c0)])), (ad 8, .inl (kA, 24, .inl f0)), (ad 2, .inr (0, [.ref (ad 9), .int (nI c1)])), (ad 9, .inl (kA, 24, .inl f1)), (ad 3, .inr (0, [.ref (ad 10), .int (nI b2)])), (ad 10, .inl (kA, 24, .inl g2)), (ad 4, .inr (0, [.ref (ad 11), .int (nI b2)])), (ad 11, .inl (kA, 24, .inl (zcp b2 g2 g3)))] H := hP
          have hD : va_D Az [(ad 0, .inr (1, [.ref (ad 1), .ref (ad 2), .ref (ad 3), .ref (ad 4), .ref (ad 5), .ref (ad 6), .ref (ad 7), .int (nI n)])), (ad 5, .inl (kA, 256, .inl fp)), (ad 6, .inl (kA, 256, .inl fk)), (ad 7, .inl (kA, 256, .inl gh)), (ad 1, .inr (0, [.ref (ad 8), .int (nI c0)])), (ad 8, .inl (kA, 24, .inl f0)), (ad 2, .inr (0, [.ref (ad 9), .int (nI c1)])), (ad 9, .inl (kA, 24, .inl f1)), (ad 3, .inr (0, [.ref (ad 10), .int (nI b2)])), (ad 10, .inl (kA, 24, .inl g2)), (ad 4, .inr (0, [.ref (ad 11), .int (nI b2)])), (ad 11, .inl (kA, 24, .inl (zcp b2 g2 g3)))] := hD
          refine lv_aload_n hx hb dX1_minimize_38 rfl (lv_at hl 0 rfl) ?_
          refine lv_aload_n hx hb dX1_minimize_39 rfl (lv_at hl 0 rfl) ?_
          refine va_get (D := D) (ci := 1) (v := .ref (ad 4)) (C := RX1) (T := TX1) (N := 8) hx hb hts hi0 hown hK hP 0 rfl rfl 3 (by decide) hf22 (fun _ h9 => h9) rfl dX1_minimize_40 ?_
          refine vz_callM (n := 1) (As := [.ref (ad 4)]) (rest := []) (q0 := 0) hcf (c_X1_narrow l D kA ad n fp fk gh hn (ad 4) (ad 11) b2 (zcp b2 g2 g3) h2) gX1_minimize_X1_narrow rfl hd_X1_narrow ⟨Nat.le_of_ble_eq_true rfl, Nat.le_of_ble_eq_true rfl⟩ hK hP hD hS [0, 1, 2, 3, 10, 11] (by decide) rfl rfl rfl rfl rfl rfl rfl hl.1 rfl (Nat.le_of_ble_eq_true rfl) ⟨Nat.zero_le _, Nat.zero_le _⟩ dX1_minimize_43 (fun H locs hP hD hS => ?_)
          have hP : va_P D vwCl [(ad 0, .inr (1, [.ref (ad 1), .ref (ad 2), .ref (ad 3), .ref (ad 4), .ref (ad 5), .ref (ad 6), .ref (ad 7), .int (nI n)])), (ad 5, .inl (kA, 256, .inl fp)), (ad 6, .inl (kA, 256, .inl fk)), (ad 7, .inl (kA, 256, .inl ((znw n fp fk b2 (zcp b2 g2 g3) gh).2))), (ad 1, .inr (0, [.ref (ad 8), .int (nI c0)])), (ad 8, .inl (kA, 24, .inl f0)), (ad 2, .inr (0, [.ref (ad 9), .int (nI c1)])), (ad 9, .inl (kA, 24, .inl f1)), (ad 3, .inr (0, [.ref (ad 10), .int (nI b2)])), (ad 10, .inl (kA, 24, .inl g2)), (ad 4, .inr (0, [.ref (ad 11), .int (nI b2)])), (ad 11, .inl (kA, 24, .inl ((znw n fp fk b2 (zcp b2 g2 g3) gh).1)))] H := hP
          have hD : va_D Az [(ad 0, .inr (1, [.ref (ad 1), .ref (ad 2), .ref (ad 3), .ref (ad 4), .ref (ad 5), .ref (ad 6), .ref (ad 7), .int (nI n)])), (ad 5, .inl (kA, 256, .inl fp)), (ad 6, .inl (kA, 256, .inl fk)), (ad 7, .inl (kA, 256, .inl ((znw n fp fk b2 (zcp b2 g2 g3) gh).2))), (ad 1, .inr (0, [.ref (ad 8), .int (nI c0)])), (ad 8, .inl (kA, 24, .inl f0)), (ad 2, .inr (0, [.ref (ad 9), .int (nI c1)])), (ad 9, .inl (kA, 24, .inl f1)), (ad 3, .inr (0, [.ref (ad 10), .int (nI b2)])), (ad 10, .inl (kA, 24, .inl g2)), (ad 4, .inr (0, [.ref (ad 11), .int (nI b2)])), (ad 11, .inl (kA, 24, .inl ((znw n fp fk b2 (zcp b2 g2 g3) gh).1)))] := hD
          refine lv_aload_n hx hb dX1_minimize_46 rfl (lv_at hl 0 rfl) ?_
          refine lv_aload_n hx hb dX1_minimize_47 rfl (lv_at hl 0 rfl) ?_
          refine va_get (D := D) (ci := 1) (v := .ref (ad 4)) (C := RX1) (T := TX1) (N := 8) hx hb hts hi0 hown hK hP 0 rfl rfl 3 (by decide) hf22 (fun _ h9 => h9) rfl dX1_minimize_48 ?_
          refine lv_iload_n hx hb dX1_minimize_51 rfl (lv_at hl 2 rfl) ?_
          refine lv_iconst (v := nI 2) hx hb dX1_minimize_52 (by decide) ?_
          refine lv_irem hx hb dX1_minimize_53 (by decide) ?_
          refine vz_top (y := (nI (r % 2))) (zmod2 r (by omega)) ?_
          refine lv_if_ne (tgt := 61) hx hb dX1_minimize_54 (by decide) (fun c_54 => ?_) (fun c_54 => ?_)
          · skip
            refine lv_iconst (v := nI 0) hx hb dX1_minimize_61 (by decide) ?_
            refine vz_top (y := (vz_b (decide (r % 2 = 0)))) (by rw [decide_eq_false (fun q => c_54 (congrArg nI q))]; rfl) ?_
            refine vz_callM (n := 2) (As := [.ref (ad 4), .int (vz_b (decide (r % 2 = 0)))]) (rest := []) (q0 := 0) hcf (c_X1_makePass l D kA ad n fp fk ((znw n fp fk b2 (zcp b2 g2 g3) gh).2) hn (ad 4) (ad 11) b2 (znw n fp fk b2 (zcp b2 g2 g3) gh).1 h2 (decide (r % 2 = 0))) gX1_minimize_X1_makePass rfl hd_X1_makePass ⟨Nat.le_of_ble_eq_true rfl, Nat.le_of_ble_eq_true rfl⟩ hK hP hD hS [0, 1, 2, 3, 10, 11] (by decide) rfl rfl rfl rfl rfl rfl rfl hl.1 rfl (Nat.le_of_ble_eq_true rfl) ⟨Nat.zero_le _, Nat.zero_le _⟩ dX1_minimize_62 (fun H locs hP hD hS => ?_)
            have hP : va_P D vwCl [(ad 0, .inr (1, [.ref (ad 1), .ref (ad 2), .ref (ad 3), .ref (ad 4), .ref (ad 5), .ref (ad 6), .ref (ad 7), .int (nI n)])), (ad 5, .inl (kA, 256, .inl fp)), (ad 6, .inl (kA, 256, .inl fk)), (ad 7, .inl (kA, 256, .inl ((zr1 n fp fk r (b2, g2, b3, g3, gh)).2.2))), (ad 1, .inr (0, [.ref (ad 8), .int (nI c0)])), (ad 8, .inl (kA, 24, .inl f0)), (ad 2, .inr (0, [.ref (ad 9), .int (nI c1)])), (ad 9, .inl (kA, 24, .inl f1)), (ad 3, .inr (0, [.ref (ad 10), .int (nI b2)])), (ad 10, .inl (kA, 24, .inl g2)), (ad 4, .inr (0, [.ref (ad 11), .int (nI ((zr1 n fp fk r (b2, g2, b3, g3, gh)).1))])), (ad 11, .inl (kA, 24, .inl ((zr1 n fp fk r (b2, g2, b3, g3, gh)).2.1)))] H := hP
            have hD : va_D Az [(ad 0, .inr (1, [.ref (ad 1), .ref (ad 2), .ref (ad 3), .ref (ad 4), .ref (ad 5), .ref (ad 6), .ref (ad 7), .int (nI n)])), (ad 5, .inl (kA, 256, .inl fp)), (ad 6, .inl (kA, 256, .inl fk)), (ad 7, .inl (kA, 256, .inl ((zr1 n fp fk r (b2, g2, b3, g3, gh)).2.2))), (ad 1, .inr (0, [.ref (ad 8), .int (nI c0)])), (ad 8, .inl (kA, 24, .inl f0)), (ad 2, .inr (0, [.ref (ad 9), .int (nI c1)])), (ad 9, .inl (kA, 24, .inl f1)), (ad 3, .inr (0, [.ref (ad 10), .int (nI b2)])), (ad 10, .inl (kA, 24, .inl g2)), (ad 4, .inr (0, [.ref (ad 11), .int (nI ((zr1 n fp fk r (b2, g2, b3, g3, gh)).1))])), (ad 11, .inl (kA, 24, .inl ((zr1 n fp fk r (b2, g2, b3, g3, gh)).2.1)))] := hD
            refine lv_aload_n hx hb dX1_minimize_65 rfl (lv_at hl 0 rfl) ?_
            refine lv_aload_n hx hb dX1_minimize_66 rfl (lv_at hl 0 rfl) ?_
            refine va_get (D := D) (ci := 1) (v := .ref (ad 4)) (C := RX1) (T := TX1) (N := 8) hx hb hts hi0 hown hK hP 0 rfl rfl 3 (by decide) hf22 (fun _ h9 => h9) rfl dX1_minimize_67 ?_
            refine lv_aload_n hx hb dX1_minimize_70 rfl (lv_at hl 0 rfl) ?_
            refine va_get (D := D) (ci := 1) (v := .ref (ad 3)) (C := RX1) (T := TX1) (N := 8) hx hb hts hi0 hown hK hP 0 rfl rfl 2 (by decide) hf19 (fun _ h9 => h9) rfl dX1_minimize_71 ?_
            refine vz_callV (n := 2) (As := [.ref (ad 4), .ref (ad 3)]) (rest := []) (q0 := 0) hcf (c_X1_isSmaller l D kA ad n fp fk ((zr1 n fp fk r (b2, g2, b3, g3, gh)).2.2) hn (ad 4) (ad 11) (zr1 n fp fk r (b2, g2, b3, g3, gh)).1 (zr1 n fp fk r (b2, g2, b3, g3, gh)).2.1 (Nat.le_trans zps_le h2) (ad 3) (ad 10) b2 g2 h2) gX1_minimize_X1_isSmaller rfl hd_X1_isSmaller ⟨Nat.le_of_ble_eq_true rfl, Nat.le_of_ble_eq_true rfl⟩ hK (hP.sub [0, 1, 2, 3, 10, 11, 8, 9] rfl) rfl rfl rfl rfl hl.1 rfl (Nat.le_of_ble_eq_true rfl) ⟨Nat.zero_le _, Nat.zero_le _⟩ dX1_minimize_74 ?_
            refine lv_istore_n (lv' := [(1, .int (vz_b (zsm n (zr1 n fp fk r (b2, g2, b3, g3, gh)).1 (zr1 n fp fk r (b2, g2, b3, g3, gh)).2.1 b2 g2))), (0, .ref (ad 0)), (2, .int (nI r))]) hx hb dX1_minimize_77 rfl hl (by decide) rfl (fun ls hl => ?_)
            refine lv_iload_n hx hb dX1_minimize_78 rfl (lv_at hl 0 rfl) ?_
            refine vz_ifeqB (tgt := 93) hx hb dX1_minimize_79 (by decide) (fun c_79 => ?_) (fun c_79 => ?_)
            · skip
              refine lv_iinc (v := (nI (r + 1))) (lv' := [(2, .int (nI (r + 1))), (1, .int (vz_b (zsm n (zr1 n fp fk r (b2, g2, b3, g3, gh)).1 (zr1 n fp fk r (b2, g2, b3, g3, gh)).2.1 b2 g2))), (0, .ref (ad 0))]) hx hb dX1_minimize_93 hl (k := 2) rfl (nI_1 _) (by decide) rfl (fun ls hl => ?_)
              refine lv_goto (tgt := 17) hx hb dX1_minimize_96 (by decide) ?_
              have c_80 : vz_b (zsm n (zr1 n fp fk r (b2, g2, b3, g3, gh)).1 (zr1 n fp fk r (b2, g2, b3, g3, gh)).2.1 b2 g2) = vz_b false := congrArg vz_b c_79
              rw [show zsm n (zr1 n fp fk r (b2, g2, b3, g3, gh)).1 (zr1 n fp fk r (b2, g2, b3, g3, gh)).2.1 b2 g2 = false from c_79] at hl
              exact ih1 k (r + 1) false b2 g2 ((zr1 n fp fk r (b2, g2, b3, g3, gh)).1) ((zr1 n fp fk r (b2, g2, b3, g3, gh)).2.1) ((zr1 n fp fk r (b2, g2, b3, g3, gh)).2.2) _ _ _ (by omega) (by omega) (by omega) (Nat.le_trans zps_le h2) (by rw [← h3, zrs, if_pos rfl, show zrb n fp fk r (b2, g2, b3, g3, gh) = false from c_79]; congr 1; rw [zr2, if_neg (by rw [show zrb n fp fk r (b2, g2, b3, g3, gh) = false from c_79]; decide)]) hP (vz_D hD rfl) hS (lv_sub hl [2, 1, 0] rfl)
            · skip
              refine lv_aload_n hx hb dX1_minimize_82 rfl (lv_at hl 1 rfl) ?_
              refine va_get (D := D) (ci := 1) (v := .ref (ad 3)) (C := RX1) (T := TX1) (N := 8) hx hb hts hi0 hown hK hP 0 rfl rfl 2 (by decide) hf19 (fun _ h9 => h9) rfl dX1_minimize_83 ?_
              refine lv_aload_n hx hb dX1_minimize_86 rfl (lv_at hl 1 rfl) ?_
              refine va_get (D := D) (ci := 1) (v := .ref (ad 4)) (C := RX1) (T := TX1) (N := 8) hx hb hts hi0 hown hK hP 0 rfl rfl 3 (by decide) hf22 (fun _ h9 => h9) rfl dX1_minimize_87 ?_
              refine vz_callM (n := 1) (As := [.ref (ad 4)]) (rest := []) (q0 := 0) hcf (c_X0_copyFrom l D kA (ad 3) (ad 10) b2 g2 (ad 4) (ad 11) (zr1 n fp fk r (b2, g2, b3, g3, gh)).1 (zr1 n fp fk r (b2, g2, b3, g3, gh)).2.1 (Nat.le_trans zps_le h2)) gX1_minimize_X0_copyFrom rfl hd_X0_copyFrom ⟨Nat.le_of_ble_eq_true rfl, Nat.le_of_ble_eq_true rfl⟩ hK hP hD hS [8, 9, 10, 11] (by decide) rfl rfl rfl rfl rfl rfl rfl hl.1 rfl (Nat.le_of_ble_eq_true rfl) ⟨Nat.zero_le _, Nat.zero_le _⟩ dX1_minimize_90 (fun H locs hP hD hS => ?_)
              have hP : va_P D vwCl [(ad 0, .inr (1, [.ref (ad 1), .ref (ad 2), .ref (ad 3), .ref (ad 4), .ref (ad 5), .ref (ad 6), .ref (ad 7), .int (nI n)])), (ad 5, .inl (kA, 256, .inl fp)), (ad 6, .inl (kA, 256, .inl fk)), (ad 7, .inl (kA, 256, .inl ((zr1 n fp fk r (b2, g2, b3, g3, gh)).2.2))), (ad 1, .inr (0, [.ref (ad 8), .int (nI c0)])), (ad 8, .inl (kA, 24, .inl f0)), (ad 2, .inr (0, [.ref (ad 9), .int (nI c1)])), (ad 9, .inl (kA, 24, .inl f1)), (ad 3, .inr (0, [.ref (ad 10), .int (nI ((zr1 n fp fk r (b2, g2, b3, g3, gh)).1))])), (ad 10, .inl (kA, 24, .inl (zcp (zr1 n fp fk r (b2, g2, b3, g3, gh)).1 (zr1 n fp fk r (b2, g2, b3, g3, gh)).2.1 g2))), (ad 4, .inr (0, [.ref (ad 11), .int (nI ((zr1 n fp fk r (b2, g2, b3, g3, gh)).1))])), (ad 11, .inl (kA, 24, .inl ((zr1 n fp fk r (b2, g2, b3, g3, gh)).2.1)))] H := hP
              have hD : va_D Az [(ad 0, .inr (1, [.ref (ad 1), .ref (ad 2), .ref (ad 3), .ref (ad 4), .ref (ad 5), .ref (ad 6), .ref (ad 7), .int (nI n)])), (ad 5, .inl (kA, 256, .inl fp)), (ad 6, .inl (kA, 256, .inl fk)), (ad 7, .inl (kA, 256, .inl ((zr1 n fp fk r (b2, g2, b3, g3, gh)).2.2))), (ad 1, .inr (0, [.ref (ad 8), .int (nI c0)])), (ad 8, .inl (kA, 24, .inl f0)), (ad 2, .inr (0, [.ref (ad 9), .int (nI c1)])), (ad 9, .inl (kA, 24, .inl f1)), (ad 3, .inr (0, [.ref (ad 10), .int (nI ((zr1 n fp fk r (b2, g2, b3, g3, gh)).1))])), (ad 10, .inl (kA, 24, .inl (zcp (zr1 n fp fk r (b2, g2, b3, g3, gh)).1 (zr1 n fp fk r (b2, g2, b3, g3, gh)).2.1 g2))), (ad 4, .inr (0, [.ref (ad 11), .int (nI ((zr1 n fp fk r (b2, g2, b3, g3, gh)).1))])), (ad 11, .inl (kA, 24, .inl ((zr1 n fp fk r (b2, g2, b3, g3, gh)).2.1)))] := hD
              refine lv_iinc (v := (nI (r + 1))) (lv' := [(2, .int (nI (r + 1))), (1, .int (vz_b (zsm n (zr1 n fp fk r (b2, g2, b3, g3, gh)).1 (zr1 n fp fk r (b2, g2, b3, g3, gh)).2.1 b2 g2))), (0, .ref (ad 0))]) hx hb dX1_minimize_93 hl (k := 2) rfl (nI_1 _) (by decide) rfl (fun ls hl => ?_)
              refine lv_goto (tgt := 17) hx hb dX1_minimize_96 (by decide) ?_
              rw [show zsm n (zr1 n fp fk r (b2, g2, b3, g3, gh)).1 (zr1 n fp fk r (b2, g2, b3, g3, gh)).2.1 b2 g2 = true from c_79] at hl
              exact ih1 k (r + 1) true ((zr1 n fp fk r (b2, g2, b3, g3, gh)).1) (zcp (zr1 n fp fk r (b2, g2, b3, g3, gh)).1 (zr1 n fp fk r (b2, g2, b3, g3, gh)).2.1 g2) ((zr1 n fp fk r (b2, g2, b3, g3, gh)).1) ((zr1 n fp fk r (b2, g2, b3, g3, gh)).2.1) ((zr1 n fp fk r (b2, g2, b3, g3, gh)).2.2) _ _ _ (by omega) (by omega) (Nat.le_trans zps_le h2) (Nat.le_trans zps_le h2) (by rw [← h3, zrs, if_pos rfl, show zrb n fp fk r (b2, g2, b3, g3, gh) = true from c_79]; congr 1; rw [zr2, if_pos (show zrb n fp fk r (b2, g2, b3, g3, gh) = true from c_79)]) hP (vz_D hD rfl) hS (lv_sub hl [2, 1, 0] rfl)
          · skip
            refine lv_iconst (v := nI 1) hx hb dX1_minimize_57 (by decide) ?_
            refine vz_top (y := (vz_b (decide (r % 2 = 0)))) (by rw [decide_eq_true ((nI_eq (by omega) (by omega)).mp (c_54.trans nI_0.symm))]; rfl) ?_
            refine lv_goto (tgt := 62) hx hb dX1_minimize_58 (by decide) ?_
            refine vz_callM (n := 2) (As := [.ref (ad 4), .int (vz_b (decide (r % 2 = 0)))]) (rest := []) (q0 := 0) hcf (c_X1_makePass l D kA ad n fp fk ((znw n fp fk b2 (zcp b2 g2 g3) gh).2) hn (ad 4) (ad 11) b2 (znw n fp fk b2 (zcp b2 g2 g3) gh).1 h2 (decide (r % 2 = 0))) gX1_minimize_X1_makePass rfl hd_X1_makePass ⟨Nat.le_of_ble_eq_true rfl, Nat.le_of_ble_eq_true rfl⟩ hK hP hD hS [0, 1, 2, 3, 10, 11] (by decide) rfl rfl rfl rfl rfl rfl rfl hl.1 rfl (Nat.le_of_ble_eq_true rfl) ⟨Nat.zero_le _, Nat.zero_le _⟩ dX1_minimize_62 (fun H locs hP hD hS => ?_)
            have hP : va_P D vwCl [(ad 0, .inr (1, [.ref (ad 1), .ref (ad 2), .ref (ad 3), .ref (ad 4), .ref (ad 5), .ref (ad 6), .ref (ad 7), .int (nI n)])), (ad 5, .inl (kA, 256, .inl fp)), (ad 6, .inl (kA, 256, .inl fk)), (ad 7, .inl (kA, 256, .inl ((zr1 n fp fk r (b2, g2, b3, g3, gh)).2.2))), (ad 1, .inr (0, [.ref (ad 8), .int (nI c0)])), (ad 8, .inl (kA, 24, .inl f0)), (ad 2, .inr (0, [.ref (ad 9), .int (nI c1)])), (ad 9, .inl (kA, 24, .inl f1)), (ad 3, .inr (0, [.ref (ad 10), .int (nI b2)])), (ad 10, .inl (kA, 24, .inl g2)), (ad 4, .inr (0, [.ref (ad 11), .int (nI ((zr1 n fp fk r (b2, g2, b3, g3, gh)).1))])), (ad 11, .inl (kA, 24, .inl ((zr1 n fp fk r (b2, g2, b3, g3, gh)).2.1)))] H := hP
            have hD : va_D Az [(ad 0, .inr (1, [.ref (ad 1), .ref (ad 2), .ref (ad 3), .ref (ad 4), .ref (ad 5), .ref (ad 6), .ref (ad 7), .int (nI n)])), (ad 5, .inl (kA, 256, .inl fp)), (ad 6, .inl (kA, 256, .inl fk)), (ad 7, .inl (kA, 256, .inl ((zr1 n fp fk r (b2, g2, b3, g3, gh)).2.2))), (ad 1, .inr (0, [.ref (ad 8), .int (nI c0)])), (ad 8, .inl (kA, 24, .inl f0)), (ad 2, .inr (0, [.ref (ad 9), .int (nI c1)])), (ad 9, .inl (kA, 24, .inl f1)), (ad 3, .inr (0, [.ref (ad 10), .int (nI b2)])), (ad 10, .inl (kA, 24, .inl g2)), (ad 4, .inr (0, [.ref (ad 11), .int (nI ((zr1 n fp fk r (b2, g2, b3, g3, gh)).1))])), (ad 11, .inl (kA, 24, .inl ((zr1 n fp fk r (b2, g2, b3, g3, gh)).2.1)))] := hD
            refine lv_aload_n hx hb dX1_minimize_65 rfl (lv_at hl 0 rfl) ?_
            refine lv_aload_n hx hb dX1_minimize_66 rfl (lv_at hl 0 rfl) ?_
            refine va_get (D := D) (ci := 1) (v := .ref (ad 4)) (C := RX1) (T := TX1) (N := 8) hx hb hts hi0 hown hK hP 0 rfl rfl 3 (by decide) hf22 (fun _ h9 => h9) rfl dX1_minimize_67 ?_
            refine lv_aload_n hx hb dX1_minimize_70 rfl (lv_at hl 0 rfl) ?_
            refine va_get (D := D) (ci := 1) (v := .ref (ad 3)) (C := RX1) (T := TX1) (N := 8) hx hb hts hi0 hown hK hP 0 rfl rfl 2 (by decide) hf19 (fun _ h9 => h9) rfl dX1_minimize_71 ?_
            refine vz_callV (n := 2) (As := [.ref (ad 4), .ref (ad 3)]) (rest := []) (q0 := 0) hcf (c_X1_isSmaller l D kA ad n fp fk ((zr1 n fp fk r (b2, g2, b3, g3, gh)).2.2) hn (ad 4) (ad 11) (zr1 n fp fk r (b2, g2, b3, g3, gh)).1 (zr1 n fp fk r (b2, g2, b3, g3, gh)).2.1 (Nat.le_trans zps_le h2) (ad 3) (ad 10) b2 g2 h2) gX1_minimize_X1_isSmaller rfl hd_X1_isSmaller ⟨Nat.le_of_ble_eq_true rfl, Nat.le_of_ble_eq_true rfl⟩ hK (hP.sub [0, 1, 2, 3, 10, 11, 8, 9] rfl) rfl rfl rfl rfl hl.1 rfl (Nat.le_of_ble_eq_true rfl) ⟨Nat.zero_le _, Nat.zero_le _⟩ dX1_minimize_74 ?_
            refine lv_istore_n (lv' := [(1, .int (vz_b (zsm n (zr1 n fp fk r (b2, g2, b3, g3, gh)).1 (zr1 n fp fk r (b2, g2, b3, g3, gh)).2.1 b2 g2))), (0, .ref (ad 0)), (2, .int (nI r))]) hx hb dX1_minimize_77 rfl hl (by decide) rfl (fun ls hl => ?_)
            refine lv_iload_n hx hb dX1_minimize_78 rfl (lv_at hl 0 rfl) ?_
            refine vz_ifeqB (tgt := 93) hx hb dX1_minimize_79 (by decide) (fun c_79 => ?_) (fun c_79 => ?_)
            · skip
              refine lv_iinc (v := (nI (r + 1))) (lv' := [(2, .int (nI (r + 1))), (1, .int (vz_b (zsm n (zr1 n fp fk r (b2, g2, b3, g3, gh)).1 (zr1 n fp fk r (b2, g2, b3, g3, gh)).2.1 b2 g2))), (0, .ref (ad 0))]) hx hb dX1_minimize_93 hl (k := 2) rfl (nI_1 _) (by decide) rfl (fun ls hl => ?_)
              refine lv_goto (tgt := 17) hx hb dX1_minimize_96 (by decide) ?_
              have c_80 : vz_b (zsm n (zr1 n fp fk r (b2, g2, b3, g3, gh)).1 (zr1 n fp fk r (b2, g2, b3, g3, gh)).2.1 b2 g2) = vz_b false := congrArg vz_b c_79
              rw [show zsm n (zr1 n fp fk r (b2, g2, b3, g3, gh)).1 (zr1 n fp fk r (b2, g2, b3, g3, gh)).2.1 b2 g2 = false from c_79] at hl
              exact ih1 k (r + 1) false b2 g2 ((zr1 n fp fk r (b2, g2, b3, g3, gh)).1) ((zr1 n fp fk r (b2, g2, b3, g3, gh)).2.1) ((zr1 n fp fk r (b2, g2, b3, g3, gh)).2.2) _ _ _ (by omega) (by omega) (by omega) (Nat.le_trans zps_le h2) (by rw [← h3, zrs, if_pos rfl, show zrb n fp fk r (b2, g2, b3, g3, gh) = false from c_79]; congr 1; rw [zr2, if_neg (by rw [show zrb n fp fk r (b2, g2, b3, g3, gh) = false from c_79]; decide)]) hP (vz_D hD rfl) hS (lv_sub hl [2, 1, 0] rfl)
            · skip
              refine lv_aload_n hx hb dX1_minimize_82 rfl (lv_at hl 1 rfl) ?_
              refine va_get (D := D) (ci := 1) (v := .ref (ad 3)) (C := RX1) (T := TX1) (N := 8) hx hb hts hi0 hown hK hP 0 rfl rfl 2 (by decide) hf19 (fun _ h9 => h9) rfl dX1_minimize_83 ?_
              refine lv_aload_n hx hb dX1_minimize_86 rfl (lv_at hl 1 rfl) ?_
              refine va_get (D := D) (ci := 1) (v := .ref (ad 4)) (C := RX1) (T := TX1) (N := 8) hx hb hts hi0 hown hK hP 0 rfl rfl 3 (by decide) hf22 (fun _ h9 => h9) rfl dX1_minimize_87 ?_
              refine vz_callM (n := 1) (As := [.ref (ad 4)]) (rest := []) (q0 := 0) hcf (c_X0_copyFrom l D kA (ad 3) (ad 10) b2 g2 (ad 4) (ad 11) (zr1 n fp fk r (b2, g2, b3, g3, gh)).1 (zr1 n fp fk r (b2, g2, b3, g3, gh)).2.1 (Nat.le_trans zps_le h2)) gX1_minimize_X0_copyFrom rfl hd_X0_copyFrom ⟨Nat.le_of_ble_eq_true rfl, Nat.le_of_ble_eq_true rfl⟩ hK hP hD hS [8, 9, 10, 11] (by decide) rfl rfl rfl rfl rfl rfl rfl hl.1 rfl (Nat.le_of_ble_eq_true rfl) ⟨Nat.zero_le _, Nat.zero_le _⟩ dX1_minimize_90 (fun H locs hP hD hS => ?_)
              have hP : va_P D vwCl [(ad 0, .inr (1, [.ref (ad 1), .ref (ad 2), .ref (ad 3), .ref (ad 4), .ref (ad 5), .ref (ad 6), .ref (ad 7), .int (nI n)])), (ad 5, .inl (kA, 256, .inl fp)), (ad 6, .inl (kA, 256, .inl fk)), (ad 7, .inl (kA, 256, .inl ((zr1 n fp fk r (b2, g2, b3, g3, gh)).2.2))), (ad 1, .inr (0, [.ref (ad 8), .int (nI c0)])), (ad 8, .inl (kA, 24, .inl f0)), (ad 2, .inr (0, [.ref (ad 9), .int (nI c1)])), (ad 9, .inl (kA, 24, .inl f1)), (ad 3, .inr (0, [.ref (ad 10), .int (nI ((zr1 n fp fk r (b2, g2, b3, g3, gh)).1))])), (ad 10, .inl (kA, 24, .inl (zcp (zr1 n fp fk r (b2, g2, b3, g3, gh)).1 (zr1 n fp fk r (b2, g2, b3, g3, gh)).2.1 g2))), (ad 4, .inr (0, [.ref (ad 11), .int (nI ((zr1 n fp fk r (b2, g2, b3, g3, gh)).1))])), (ad 11, .inl (kA, 24, .inl ((zr1 n fp fk r (b2, g2, b3, g3, gh)).2.1)))] H := hP
              have hD : va_D Az [(ad 0, .inr (1, [.ref (ad 1), .ref (ad 2), .ref (ad 3), .ref (ad 4), .ref (ad 5), .ref (ad 6), .ref (ad 7), .int (nI n)])), (ad 5, .inl (kA, 256, .inl fp)), (ad 6, .inl (kA, 256, .inl fk)), (ad 7, .inl (kA, 256, .inl ((zr1 n fp fk r (b2, g2, b3, g3, gh)).2.2))), (ad 1, .inr (0, [.ref (ad 8), .int (nI c0)])), (ad 8, .inl (kA, 24, .inl f0)), (ad 2, .inr (0, [.ref (ad 9), .int (nI c1)])), (ad 9, .inl (kA, 24, .inl f1)), (ad 3, .inr (0, [.ref (ad 10), .int (nI ((zr1 n fp fk r (b2, g2, b3, g3, gh)).1))])), (ad 10, .inl (kA, 24, .inl (zcp (zr1 n fp fk r (b2, g2, b3, g3, gh)).1 (zr1 n fp fk r (b2, g2, b3, g3, gh)).2.1 g2))), (ad 4, .inr (0, [.ref (ad 11), .int (nI ((zr1 n fp fk r (b2, g2, b3, g3, gh)).1))])), (ad 11, .inl (kA, 24, .inl ((zr1 n fp fk r (b2, g2, b3, g3, gh)).2.1)))] := hD
              refine lv_iinc (v := (nI (r + 1))) (lv' := [(2, .int (nI (r + 1))), (1, .int (vz_b (zsm n (zr1 n fp fk r (b2, g2, b3, g3, gh)).1 (zr1 n fp fk r (b2, g2, b3, g3, gh)).2.1 b2 g2))), (0, .ref (ad 0))]) hx hb dX1_minimize_93 hl (k := 2) rfl (nI_1 _) (by decide) rfl (fun ls hl => ?_)
              refine lv_goto (tgt := 17) hx hb dX1_minimize_96 (by decide) ?_
              rw [show zsm n (zr1 n fp fk r (b2, g2, b3, g3, gh)).1 (zr1 n fp fk r (b2, g2, b3, g3, gh)).2.1 b2 g2 = true from c_79] at hl
              exact ih1 k (r + 1) true ((zr1 n fp fk r (b2, g2, b3, g3, gh)).1) (zcp (zr1 n fp fk r (b2, g2, b3, g3, gh)).1 (zr1 n fp fk r (b2, g2, b3, g3, gh)).2.1 g2) ((zr1 n fp fk r (b2, g2, b3, g3, gh)).1) ((zr1 n fp fk r (b2, g2, b3, g3, gh)).2.1) ((zr1 n fp fk r (b2, g2, b3, g3, gh)).2.2) _ _ _ (by omega) (by omega) (Nat.le_trans zps_le h2) (Nat.le_trans zps_le h2) (by rw [← h3, zrs, if_pos rfl, show zrb n fp fk r (b2, g2, b3, g3, gh) = true from c_79]; congr 1; rw [zr2, if_pos (show zrb n fp fk r (b2, g2, b3, g3, gh) = true from c_79)]) hP (vz_D hD rfl) hS (lv_sub hl [2, 1, 0] rfl)
  exact lp1 _ 8 1 true ((zmz0 n fp fk c0 f0 f2 fh).1) ((zmz0 n fp fk c0 f0 f2 fh).2.1) c3 f3 ((zmz0 n fp fk c0 f0 f2 fh).2.2) _ _ _ (Nat.lt_succ_self _) rfl (Nat.le_trans zps_le (by omega)) hc3 rfl hP (vz_D hD rfl) hS (lv_sub hl [2, 1, 0] rfl)
