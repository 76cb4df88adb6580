set_option maxHeartbeats 4000000 in
set_option maxRecDepth 100000 in
theorem law_case8 {pz : Program} {l : Launch} {ez : Env} {sz : State} {mz : MethodId} {below : List Frame} {meth : Method} {cz : Code} {D : va_G} {kA : ClassId} {b L : Nat} {xs : Nat → Int32} (hL : L ≤ 1536) (C0 : lw_At pz sz mz meth cz b L xs) (hK : va_K D vwCl [(kA, .int)] sz) (i : Nat) (hi : i + 3 ≤ L) (ad me : Nat → Nat) (K : lw_K pz l ez sz mz below meth cz D kA b i ad me 473) : lw_K pz l ez sz mz below meth cz D kA b i ad me 292 := by
  intro n fp fk fh c0 c1 c2 c3 f0 f1 f2 f3 g mk ss H locs ls r hP hD hS hl
  obtain ⟨hx, hb, hr, hml, hown, hts0, hX, hbl, hlocks, hgv⟩ := C0
  have hts := fun w h => hts0 w (wsL_law_in w h)
  have hcf : CallFix pz mz cz cL_law 4 sz #[Value.ref b] wsL_law RL := ⟨hx, hb, hml, hown, hts⟩
  have O := r_ok r
  obtain ⟨⟨hn1, hn⟩, ⟨hc0, hc1, hc2, hc3⟩, ⟨hs0, hs1, hs2, hs3⟩, ⟨ha0, ha1, ha2⟩, ⟨hN0, hN1, hN2⟩, -⟩ := id r
  have hbA : ¬ (fun q : Nat => sz.heap.size ≤ q) b := Nat.not_le.mpr hbl
  generalize hAz : (fun q : Nat => sz.heap.size ≤ q) = Az at hD hS hbA
  have hP : va_P D vwCl [(ad 0, .inr (1, [.ref (ad 1), .ref (ad 2), .ref (ad 3), .ref (ad 4), .ref (ad 5), .ref (ad 6), .ref (ad 7), .int (nI n)])), (ad 5, .inl (kA, 256, .inl fp)), (ad 6, .inl (kA, 256, .inl fk)), (ad 7, .inl (kA, 256, .inl fh)), (ad 1, .inr (0, [.ref (ad 8), .int (nI c0)])), (ad 8, .inl (kA, 24, .inl f0)), (ad 2, .inr (0, [.ref (ad 9), .int (nI c1)])), (ad 9, .inl (kA, 24, .inl f1)), (ad 3, .inr (0, [.ref (ad 10), .int (nI c2)])), (ad 10, .inl (kA, 24, .inl f2)), (ad 4, .inr (0, [.ref (ad 11), .int (nI c3)])), (ad 11, .inl (kA, 24, .inl f3)), (me 0, .inr (2, [.ref (me 1), .ref (me 2), .ref (me 3), .int (nI n)])), (me 1, .inl (kA, 96, .inl g)), (me 2, .inl (kA, 4, .inl (fun j => nI (ss j)))), (me 3, .inl (kA, 256, .inl mk))] H := hP
  have hD : va_D Az [(ad 0, .inr (1, [.ref (ad 1), .ref (ad 2), .ref (ad 3), .ref (ad 4), .ref (ad 5), .ref (ad 6), .ref (ad 7), .int (nI n)])), (ad 5, .inl (kA, 256, .inl fp)), (ad 6, .inl (kA, 256, .inl fk)), (ad 7, .inl (kA, 256, .inl fh)), (ad 1, .inr (0, [.ref (ad 8), .int (nI c0)])), (ad 8, .inl (kA, 24, .inl f0)), (ad 2, .inr (0, [.ref (ad 9), .int (nI c1)])), (ad 9, .inl (kA, 24, .inl f1)), (ad 3, .inr (0, [.ref (ad 10), .int (nI c2)])), (ad 10, .inl (kA, 24, .inl f2)), (ad 4, .inr (0, [.ref (ad 11), .int (nI c3)])), (ad 11, .inl (kA, 24, .inl f3)), (me 0, .inr (2, [.ref (me 1), .ref (me 2), .ref (me 3), .int (nI n)])), (me 1, .inl (kA, 96, .inl g)), (me 2, .inl (kA, 4, .inl (fun j => nI (ss j)))), (me 3, .inl (kA, 256, .inl mk))] := hD
  rcases l_list (xs (i + 1)) with ex | ex | ex | ⟨ex, ey⟩
  · skip
    refine lv_aload_n hx hb dL_law_292 rfl (lv_at hl 1 rfl) ?_
    refine lv_aload_n hx hb dL_law_293 rfl (lv_at hl 0 rfl) ?_
    refine lv_iload_n hx hb dL_law_294 rfl (lv_at hl 3 rfl) ?_
    refine lv_iconst (v := nI 1) hx hb dL_law_295 (by decide) ?_
    refine vz_add hx hb dL_law_296 ?_
    refine vz_sld hx hb hX hbl hbA hS (by omega) (by omega) dL_law_297 ?_
    refine vz_top (y := (nI 0)) ex ?_
    refine lv_aload_n hx hb dL_law_298 rfl (lv_at hl 0 rfl) ?_
    refine lv_iload_n hx hb dL_law_299 rfl (lv_at hl 3 rfl) ?_
    refine lv_iconst (v := nI 2) hx hb dL_law_300 (by decide) ?_
    refine vz_add hx hb dL_law_301 ?_
    refine vz_sld hx hb hX hbl hbA hS (by omega) (by omega) dL_law_302 ?_
    refine vz_callV (n := 2) (As := [.int (nI 0), .int (xs (i + 2))]) (rest := []) (q0 := 0) hcf (c_X1_holds0 l D kA ad n fp fk fh c0 c1 c2 c3 f0 f1 f2 f3 hn hc0 (xs (i + 2))) gL_law_X1_holds rfl hd_X1_holds ⟨Nat.le_of_ble_eq_true rfl, Nat.le_of_ble_eq_true rfl⟩ hK (hP.sub [0, 1, 2, 3, 4, 5, 6, 7, 8, 9, 10, 11] rfl) rfl rfl rfl rfl hl.1 rfl (Nat.le_of_ble_eq_true rfl) ⟨Nat.le_of_ble_eq_true rfl, Nat.le_of_ble_eq_true rfl⟩ dL_law_303 ?_
    refine lv_aload_n hx hb dL_law_306 rfl (lv_at hl 2 rfl) ?_
    refine lv_aload_n hx hb dL_law_307 rfl (lv_at hl 0 rfl) ?_
    refine lv_iload_n hx hb dL_law_308 rfl (lv_at hl 3 rfl) ?_
    refine lv_iconst (v := nI 1) hx hb dL_law_309 (by decide) ?_
    refine vz_add hx hb dL_law_310 ?_
    refine vz_sld hx hb hX hbl hbA hS (by omega) (by omega) dL_law_311 ?_
    refine vz_top (y := (nI 0)) ex ?_
    refine lv_aload_n hx hb dL_law_312 rfl (lv_at hl 0 rfl) ?_
    refine lv_iload_n hx hb dL_law_313 rfl (lv_at hl 3 rfl) ?_
    refine lv_iconst (v := nI 2) hx hb dL_law_314 (by decide) ?_
    refine vz_add hx hb dL_law_315 ?_
    refine vz_sld hx hb hX hbl hbA hS (by omega) (by omega) dL_law_316 ?_
    refine vz_callV (n := 2) (As := [.int (nI 0), .int (xs (i + 2))]) (rest := [.int (vz_b ((!decide ((xs (i + 2)) < 0) && !decide (nI (zN n) ≤ (xs (i + 2)))) && zX_inL fp c0 f0 (xs (i + 2)).toNatClampNeg))]) (q0 := 0) hcf (c_X2_holds0 l D kA me n g mk ss hn c0 (zv g 0) hs0 hc0 (fun _ _ => rfl) (xs (i + 2))) gL_law_X2_holds rfl hd_X2_holds ⟨Nat.le_of_ble_eq_true rfl, Nat.le_of_ble_eq_true rfl⟩ hK (hP.sub [12, 13, 14, 15] rfl) rfl rfl rfl rfl hl.1 rfl (Nat.le_of_ble_eq_true rfl) ⟨Nat.le_of_ble_eq_true rfl, Nat.le_of_ble_eq_true rfl⟩ dL_law_317 ?_
    refine lv_icmp_eq (tgt := 473) hx hb dL_law_320 (by decide) (fun c_320 => ?_) (fun c_320 => absurd c_320 (fun h => h (congrArg vz_b (r_holds O ha0 _))))
    subst hAz
    exact K n fp fk fh c0 c1 c2 c3 f0 f1 f2 f3 g mk ss _ _ _ r hP hD hS hl
  · skip
    refine lv_aload_n hx hb dL_law_292 rfl (lv_at hl 1 rfl) ?_
    refine lv_aload_n hx hb dL_law_293 rfl (lv_at hl 0 rfl) ?_
    refine lv_iload_n hx hb dL_law_294 rfl (lv_at hl 3 rfl) ?_
    refine lv_iconst (v := nI 1) hx hb dL_law_295 (by decide) ?_
    refine vz_add hx hb dL_law_296 ?_
    refine vz_sld hx hb hX hbl hbA hS (by omega) (by omega) dL_law_297 ?_
    refine vz_top (y := (nI 1)) ex ?_
    refine lv_aload_n hx hb dL_law_298 rfl (lv_at hl 0 rfl) ?_
    refine lv_iload_n hx hb dL_law_299 rfl (lv_at hl 3 rfl) ?_
    refine lv_iconst (v := nI 2) hx hb dL_law_300 (by decide) ?_
    refine vz_add hx hb dL_law_301 ?_
    refine vz_sld hx hb hX hbl hbA hS (by omega) (by omega) dL_law_302 ?_
    refine vz_callV (n := 2) (As := [.int (nI 1), .int (xs (i + 2))]) (rest := []) (q0 := 0) hcf (c_X1_holds1 l D kA ad n fp fk fh c0 c1 c2 c3 f0 f1 f2 f3 hn hc1 (xs (i + 2))) gL_law_X1_holds rfl hd_X1_holds ⟨Nat.le_of_ble_eq_true rfl, Nat.le_of_ble_eq_true rfl⟩ hK (hP.sub [0, 1, 2, 3, 4, 5, 6, 7, 8, 9, 10, 11] rfl) rfl rfl rfl rfl hl.1 rfl (Nat.le_of_ble_eq_true rfl) ⟨Nat.le_of_ble_eq_true rfl, Nat.le_of_ble_eq_true rfl⟩ dL_law_303 ?_
    refine lv_aload_n hx hb dL_law_306 rfl (lv_at hl 2 rfl) ?_
    refine lv_aload_n hx hb dL_law_307 rfl (lv_at hl 0 rfl) ?_
    refine lv_iload_n hx hb dL_law_308 rfl (lv_at hl 3 rfl) ?_
    refine lv_iconst (v := nI 1) hx hb dL_law_309 (by decide) ?_
    refine vz_add hx hb dL_law_310 ?_
    refine vz_sld hx hb hX hbl hbA hS (by omega) (by omega) dL_law_311 ?_
    refine vz_top (y := (nI 1)) ex ?_
    refine lv_aload_n hx hb dL_law_312 rfl (lv_at hl 0 rfl) ?_
    refine lv_iload_n hx hb dL_law_313 rfl (lv_at hl 3 rfl) ?_
    refine lv_iconst (v := nI 2) hx hb dL_law_314 (by decide) ?_
    refine vz_add hx hb dL_law_315 ?_
    refine vz_sld hx hb hX hbl hbA hS (by omega) (by omega) dL_law_316 ?_
    refine vz_callV (n := 2) (As := [.int (nI 1), .int (xs (i + 2))]) (rest := [.int (vz_b ((!decide ((xs (i + 2)) < 0) && !decide (nI (zN n) ≤ (xs (i + 2)))) && zX_inL fp c1 f1 (xs (i + 2)).toNatClampNeg))]) (q0 := 0) hcf (c_X2_holds1 l D kA me n g mk ss hn c1 (zv g 1) hs1 hc1 (fun _ _ => rfl) (xs (i + 2))) gL_law_X2_holds rfl hd_X2_holds ⟨Nat.le_of_ble_eq_true rfl, Nat.le_of_ble_eq_true rfl⟩ hK (hP.sub [12, 13, 14, 15] rfl) rfl rfl rfl rfl hl.1 rfl (Nat.le_of_ble_eq_true rfl) ⟨Nat.le_of_ble_eq_true rfl, Nat.le_of_ble_eq_true rfl⟩ dL_law_317 ?_
    refine lv_icmp_eq (tgt := 473) hx hb dL_law_320 (by decide) (fun c_320 => ?_) (fun c_320 => absurd c_320 (fun h => h (congrArg vz_b (r_holds O ha1 _))))
    subst hAz
    exact K n fp fk fh c0 c1 c2 c3 f0 f1 f2 f3 g mk ss _ _ _ r hP hD hS hl
  · skip
    refine lv_aload_n hx hb dL_law_292 rfl (lv_at hl 1 rfl) ?_
    refine lv_aload_n hx hb dL_law_293 rfl (lv_at hl 0 rfl) ?_
    refine lv_iload_n hx hb dL_law_294 rfl (lv_at hl 3 rfl) ?_
    refine lv_iconst (v := nI 1) hx hb dL_law_295 (by decide) ?_
    refine vz_add hx hb dL_law_296 ?_
    refine vz_sld hx hb hX hbl hbA hS (by omega) (by omega) dL_law_297 ?_
    refine vz_top (y := (nI 2)) ex ?_
    refine lv_aload_n hx hb dL_law_298 rfl (lv_at hl 0 rfl) ?_
    refine lv_iload_n hx hb dL_law_299 rfl (lv_at hl 3 rfl) ?_
    refine lv_iconst (v := nI 2) hx hb dL_law_300 (by decide) ?_
    refine vz_add hx hb dL_law_301 ?_
    refine vz_sld hx hb hX hbl hbA hS (by omega) (by omega) dL_law_302 ?_
    refine vz_callV (n := 2) (As := [.int (nI 2), .int (xs (i + 2))]) (rest := []) (q0 := 0) hcf (c_X1_holds2 l D kA ad n fp fk fh c0 c1 c2 c3 f0 f1 f2 f3 hn hc2 (xs (i + 2))) gL_law_X1_holds rfl hd_X1_holds ⟨Nat.le_of_ble_eq_true rfl, Nat.le_of_ble_eq_true rfl⟩ hK (hP.sub [0, 1, 2, 3, 4, 5, 6, 7, 8, 9, 10, 11] rfl) rfl rfl rfl rfl hl.1 rfl (Nat.le_of_ble_eq_true rfl) ⟨Nat.le_of_ble_eq_true rfl, Nat.le_of_ble_eq_true rfl⟩ dL_law_303 ?_
    refine lv_aload_n hx hb dL_law_306 rfl (lv_at hl 2 rfl) ?_
    refine lv_aload_n hx hb dL_law_307 rfl (lv_at hl 0 rfl) ?_
    refine lv_iload_n hx hb dL_law_308 rfl (lv_at hl 3 rfl) ?_
    refine lv_iconst (v := nI 1) hx hb dL_law_309 (by decide) ?_
    refine vz_add hx hb dL_law_310 ?_
    refine vz_sld hx hb hX hbl hbA hS (by omega) (by omega) dL_law_311 ?_
    refine vz_top (y := (nI 2)) ex ?_
    refine lv_aload_n hx hb dL_law_312 rfl (lv_at hl 0 rfl) ?_
    refine lv_iload_n hx hb dL_law_313 rfl (lv_at hl 3 rfl) ?_
    refine lv_iconst (v := nI 2) hx hb dL_law_314 (by decide) ?_
    refine vz_add hx hb dL_law_315 ?_
    refine vz_sld hx hb hX hbl hbA hS (by omega) (by omega) dL_law_316 ?_
    refine vz_callV (n := 2) (As := [.int (nI 2), .int (xs (i + 2))]) (rest := [.int (vz_b ((!decide ((xs (i + 2)) < 0) && !decide (nI (zN n) ≤ (xs (i + 2)))) && zX_inL fp c2 f2 (xs (i + 2)).toNatClampNeg))]) (q0 := 0) hcf (c_X2_holds2 l D kA me n g mk ss hn c2 (zv g 2) hs2 hc2 (fun _ _ => rfl) (xs (i + 2))) gL_law_X2_holds rfl hd_X2_holds ⟨Nat.le_of_ble_eq_true rfl, Nat.le_of_ble_eq_true rfl⟩ hK (hP.sub [12, 13, 14, 15] rfl) rfl rfl rfl rfl hl.1 rfl (Nat.le_of_ble_eq_true rfl) ⟨Nat.le_of_ble_eq_true rfl, Nat.le_of_ble_eq_true rfl⟩ dL_law_317 ?_
    refine lv_icmp_eq (tgt := 473) hx hb dL_law_320 (by decide) (fun c_320 => ?_) (fun c_320 => absurd c_320 (fun h => h (congrArg vz_b (r_holds O ha2 _))))
    subst hAz
    exact K n fp fk fh c0 c1 c2 c3 f0 f1 f2 f3 g mk ss _ _ _ r hP hD hS hl
  · skip
    refine lv_aload_n hx hb dL_law_292 rfl (lv_at hl 1 rfl) ?_
    refine lv_aload_n hx hb dL_law_293 rfl (lv_at hl 0 rfl) ?_
    refine lv_iload_n hx hb dL_law_294 rfl (lv_at hl 3 rfl) ?_
    refine lv_iconst (v := nI 1) hx hb dL_law_295 (by decide) ?_
    refine vz_add hx hb dL_law_296 ?_
    refine vz_sld hx hb hX hbl hbA hS (by omega) (by omega) dL_law_297 ?_
    refine lv_aload_n hx hb dL_law_298 rfl (lv_at hl 0 rfl) ?_
    refine lv_iload_n hx hb dL_law_299 rfl (lv_at hl 3 rfl) ?_
    refine lv_iconst (v := nI 2) hx hb dL_law_300 (by decide) ?_
    refine vz_add hx hb dL_law_301 ?_
    refine vz_sld hx hb hX hbl hbA hS (by omega) (by omega) dL_law_302 ?_
    refine vz_callV (n := 2) (As := [.int (xs (i + 1)), .int (xs (i + 2))]) (rest := []) (q0 := 0) hcf (c_X1_holds3 l D kA ad n fp fk fh c0 c1 c2 c3 f0 f1 f2 f3 hn (xs (i + 1)) ex (xs (i + 2))) gL_law_X1_holds rfl hd_X1_holds ⟨Nat.le_of_ble_eq_true rfl, Nat.le_of_ble_eq_true rfl⟩ hK (hP.sub [0, 1, 2, 3, 4, 5, 6, 7, 8, 9, 10, 11] rfl) rfl rfl rfl rfl hl.1 rfl (Nat.le_of_ble_eq_true rfl) ⟨Nat.le_of_ble_eq_true rfl, Nat.le_of_ble_eq_true rfl⟩ dL_law_303 ?_
    refine lv_aload_n hx hb dL_law_306 rfl (lv_at hl 2 rfl) ?_
    refine lv_aload_n hx hb dL_law_307 rfl (lv_at hl 0 rfl) ?_
    refine lv_iload_n hx hb dL_law_308 rfl (lv_at hl 3 rfl) ?_
    refine lv_iconst (v := nI 1) hx hb dL_law_309 (by decide) ?_
    refine vz_add hx hb dL_law_310 ?_
    refine vz_sld hx hb hX hbl hbA hS (by omega) (by omega) dL_law_311 ?_
    refine lv_aload_n hx hb dL_law_312 rfl (lv_at hl 0 rfl) ?_
    refine lv_iload_n hx hb dL_law_313 rfl (lv_at hl 3 rfl) ?_
    refine lv_iconst (v := nI 2) hx hb dL_law_314 (by decide) ?_
    refine vz_add hx hb dL_law_315 ?_
    refine vz_sld hx hb hX hbl hbA hS (by omega) (by omega) dL_law_316 ?_
    refine vz_callV (n := 2) (As := [.int (xs (i + 1)), .int (xs (i + 2))]) (rest := [.int (nI 0)]) (q0 := 0) hcf (c_X2_holds3 l D kA me n g mk ss hn (xs (i + 1)) ey (xs (i + 2))) gL_law_X2_holds rfl hd_X2_holds ⟨Nat.le_of_ble_eq_true rfl, Nat.le_of_ble_eq_true rfl⟩ hK (hP.sub [12, 13, 14, 15] rfl) rfl rfl rfl rfl hl.1 rfl (Nat.le_of_ble_eq_true rfl) ⟨Nat.le_of_ble_eq_true rfl, Nat.le_of_ble_eq_true rfl⟩ dL_law_317 ?_
    refine lv_icmp_eq (tgt := 473) hx hb dL_law_320 (by decide) (fun c_320 => ?_) (fun c_320 => absurd c_320 (fun h => h rfl))
    subst hAz
    exact K n fp fk fh c0 c1 c2 c3 f0 f1 f2 f3 g mk ss _ _ _ r hP hD hS hl
set_option maxHeartbeats 4000000 in
set_option maxRecDepth 100000 in
theorem law_case9 {pz : Program} {l : Launch} {ez : Env} {sz : State} {mz : MethodId} {below : List Frame} {meth : Method} {cz : Code} {D : va_G} {kA : ClassId} {b L : Nat} {xs : Nat → Int32} (hL : L ≤ 1536) (C0 : lw_At pz sz mz meth cz b L xs) (hK : va_K D vwCl [(kA, .int)] sz) (i : Nat) (hi : i + 3 ≤ L) (ad me : Nat → Nat) (K : lw_K pz l ez sz mz below meth cz D kA b i ad me 473) : lw_K pz l ez sz mz below meth cz D kA b i ad me 325 := by
  intro n fp fk fh c0 c1 c2 c3 f0 f1 f2 f3 g mk ss H locs ls r hP hD hS hl
  obtain ⟨hx, hb, hr, hml, hown, hts0, hX, hbl, hlocks, hgv⟩ := C0
  have hts := fun w h => hts0 w (wsL_law_in w h)
  have hcf : CallFix pz mz cz cL_law 4 sz #[Value.ref b] wsL_law RL := ⟨hx, hb, hml, hown, hts⟩
  have O := r_ok r
  obtain ⟨⟨hn1, hn⟩, ⟨hc0, hc1, hc2, hc3⟩, ⟨hs0, hs1, hs2, hs3⟩, ⟨ha0, ha1, ha2⟩, ⟨hN0, hN1, hN2⟩, -⟩ := id r
  have hbA : ¬ (fun q : Nat => sz.heap.size ≤ q) b := Nat.not_le.mpr hbl
  generalize hAz : (fun q : Nat => sz.heap.size ≤ q) = Az at hD hS hbA
  have hP : va_P D vwCl [(ad 0, .inr (1, [.ref (ad 1), .ref (ad 2), .ref (ad 3), .ref (ad 4), .ref (ad 5), .ref (ad 6), .ref (ad 7), .int (nI n)])), (ad 5, .inl (kA, 256, .inl fp)), (ad 6, .inl (kA, 256, .inl fk)), (ad 7, .inl (kA, 256, .inl fh)), (ad 1, .inr (0, [.ref (ad 8), .int (nI c0)])), (ad 8, .inl (kA, 24, .inl f0)), (ad 2, .inr (0, [.ref (ad 9), .int (nI c1)])), (ad 9, .inl (kA, 24, .inl f1)), (ad 3, .inr (0, [.ref (ad 10), .int (nI c2)])), (ad 10, .inl (kA, 24, .inl f2)), (ad 4, .inr (0, [.ref (ad 11), .int (nI c3)])), (ad 11, .inl (kA, 24, .inl f3)), (me 0, .inr (2, [.ref (me 1), .ref (me 2), .ref (me 3), .int (nI n)])), (me 1, .inl (kA, 96, .inl g)), (me 2, .inl (kA, 4, .inl (fun j => nI (ss j)))), (me 3, .inl (kA, 256, .inl mk))] H := hP
  have hD : va_D Az [(ad 0, .inr (1, [.ref (ad 1), .ref (ad 2), .ref (ad 3), .ref (ad 4), .ref (ad 5), .ref (ad 6), .ref (ad 7), .int (nI n)])), (ad 5, .inl (kA, 256, .inl fp)), (ad 6, .inl (kA, 256, .inl fk)), (ad 7, .inl (kA, 256, .inl fh)), (ad 1, .inr (0, [.ref (ad 8), .int (nI c0)])), (ad 8, .inl (kA, 24, .inl f0)), (ad 2, .inr (0, [.ref (ad 9), .int (nI c1)])), (ad 9, .inl (kA, 24, .inl f1)), (ad 3, .inr (0, [.ref (ad 10), .int (nI c2)])), (ad 10, .inl (kA, 24, .inl f2)), (ad 4, .inr (0, [.ref (ad 11), .int (nI c3)])), (ad 11, .inl (kA, 24, .inl f3)), (me 0, .inr (2, [.ref (me 1), .ref (me 2), .ref (me 3), .int (nI n)])), (me 1, .inl (kA, 96, .inl g)), (me 2, .inl (kA, 4, .inl (fun j => nI (ss j)))), (me 3, .inl (kA, 256, .inl mk))] := hD
  rcases l_list (xs (i + 1)) with ex | ex | ex | ⟨ex, ey⟩
  · skip
    refine lv_aload_n hx hb dL_law_325 rfl (lv_at hl 1 rfl) ?_
    refine lv_aload_n hx hb dL_law_326 rfl (lv_at hl 0 rfl) ?_
    refine lv_iload_n hx hb dL_law_327 rfl (lv_at hl 3 rfl) ?_
    refine lv_iconst (v := nI 1) hx hb dL_law_328 (by decide) ?_
    refine vz_add hx hb dL_law_329 ?_
    refine vz_sld hx hb hX hbl hbA hS (by omega) (by omega) dL_law_330 ?_
    refine vz_top (y := (nI 0)) ex ?_
    refine vz_callV (n := 1) (As := [.int (nI 0)]) (rest := []) (q0 := 0) hcf (c_X1_missing0 l D kA ad n fp fk fh c0 c1 c2 c3 f0 f1 f2 f3 hn hc0) gL_law_X1_missing rfl hd_X1_missing ⟨Nat.le_of_ble_eq_true rfl, Nat.le_of_ble_eq_true rfl⟩ hK (hP.sub [0, 1, 2, 3, 4, 5, 6, 7, 8, 9, 10, 11] rfl) rfl rfl rfl rfl hl.1 rfl (Nat.le_of_ble_eq_true rfl) ⟨Nat.le_of_ble_eq_true rfl, Nat.le_of_ble_eq_true rfl⟩ dL_law_331 ?_
    refine lv_aload_n hx hb dL_law_334 rfl (lv_at hl 2 rfl) ?_
    refine lv_aload_n hx hb dL_law_335 rfl (lv_at hl 0 rfl) ?_
    refine lv_iload_n hx hb dL_law_336 rfl (lv_at hl 3 rfl) ?_
    refine lv_iconst (v := nI 1) hx hb dL_law_337 (by decide) ?_
    refine vz_add hx hb dL_law_338 ?_
    refine vz_sld hx hb hX hbl hbA hS (by omega) (by omega) dL_law_339 ?_
    refine vz_top (y := (nI 0)) ex ?_
    refine vz_callV (n := 1) (As := [.int (nI 0)]) (rest := [.int (nI (cnB (zN n) (fun p => !zX_inL fp c0 f0 p)))]) (q0 := 0) hcf (c_X2_missing0 l D kA me n g mk ss hn c0 (zv g 0) hs0 hc0 (fun _ _ => rfl)) gL_law_X2_missing rfl hd_X2_missing ⟨Nat.le_of_ble_eq_true rfl, Nat.le_of_ble_eq_true rfl⟩ hK (hP.sub [12, 13, 14, 15] rfl) rfl rfl rfl rfl hl.1 rfl (Nat.le_of_ble_eq_true rfl) ⟨Nat.le_of_ble_eq_true rfl, Nat.le_of_ble_eq_true rfl⟩ dL_law_340 ?_
    refine lv_icmp_eq (tgt := 473) hx hb dL_law_343 (by decide) (fun c_343 => ?_) (fun c_343 => absurd c_343 (fun h => h (congrArg nI (r_mis O ha0))))
    subst hAz
    exact K n fp fk fh c0 c1 c2 c3 f0 f1 f2 f3 g mk ss _ _ _ r hP hD hS hl
  · skip
    refine lv_aload_n hx hb dL_law_325 rfl (lv_at hl 1 rfl) ?_
    refine lv_aload_n hx hb dL_law_326 rfl (lv_at hl 0 rfl) ?_
    refine lv_iload_n hx hb dL_law_327 rfl (lv_at hl 3 rfl) ?_
    refine lv_iconst (v := nI 1) hx hb dL_law_328 (by decide) ?_
    refine vz_add hx hb dL_law_329 ?_
    refine vz_sld hx hb hX hbl hbA hS (by omega) (by omega) dL_law_330 ?_
    refine vz_top (y := (nI 1)) ex ?_
    refine vz_callV (n := 1) (As := [.int (nI 1)]) (rest := []) (q0 := 0) hcf (c_X1_missing1 l D kA ad n fp fk fh c0 c1 c2 c3 f0 f1 f2 f3 hn hc1) gL_law_X1_missing rfl hd_X1_missing ⟨Nat.le_of_ble_eq_true rfl, Nat.le_of_ble_eq_true rfl⟩ hK (hP.sub [0, 1, 2, 3, 4, 5, 6, 7, 8, 9, 10, 11] rfl) rfl rfl rfl rfl hl.1 rfl (Nat.le_of_ble_eq_true rfl) ⟨Nat.le_of_ble_eq_true rfl, Nat.le_of_ble_eq_true rfl⟩ dL_law_331 ?_
    refine lv_aload_n hx hb dL_law_334 rfl (lv_at hl 2 rfl) ?_
    refine lv_aload_n hx hb dL_law_335 rfl (lv_at hl 0 rfl) ?_
    refine lv_iload_n hx hb dL_law_336 rfl (lv_at hl 3 rfl) ?_
    refine lv_iconst (v := nI 1) hx hb dL_law_337 (by decide) ?_
    refine vz_add hx hb dL_law_338 ?_
    refine vz_sld hx hb hX hbl hbA hS (by omega) (by omega) dL_law_339 ?_
    refine vz_top (y := (nI 1)) ex ?_
    refine vz_callV (n := 1) (As := [.int (nI 1)]) (rest := [.int (nI (cnB (zN n) (fun p => !zX_inL fp c1 f1 p)))]) (q0 := 0) hcf (c_X2_missing1 l D kA me n g mk ss hn c1 (zv g 1) hs1 hc1 (fun _ _ => rfl)) gL_law_X2_missing rfl hd_X2_missing ⟨Nat.le_of_ble_eq_true rfl, Nat.le_of_ble_eq_true rfl⟩ hK (hP.sub [12, 13, 14, 15] rfl) rfl rfl rfl rfl hl.1 rfl (Nat.le_of_ble_eq_true rfl) ⟨Nat.le_of_ble_eq_true rfl, Nat.le_of_ble_eq_true rfl⟩ dL_law_340 ?_
    refine lv_icmp_eq (tgt := 473) hx hb dL_law_343 (by decide) (fun c_343 => ?_) (fun c_343 => absurd c_343 (fun h => h (congrArg nI (r_mis O ha1))))
    subst hAz
    exact K n fp fk fh c0 c1 c2 c3 f0 f1 f2 f3 g mk ss _ _ _ r hP hD hS hl
  · skip
    refine lv_aload_n hx hb dL_law_325 rfl (lv_at hl 1 rfl) ?_
    refine lv_aload_n hx hb dL_law_326 rfl (lv_at hl 0 rfl) ?_
    refine lv_iload_n hx hb dL_law_327 rfl (lv_at hl 3 rfl) ?_
    refine lv_iconst (v := nI 1) hx hb dL_law_328 (by decide) ?_
    refine vz_add hx hb dL_law_329 ?_
    refine vz_sld hx hb hX hbl hbA hS (by omega) (by omega) dL_law_330 ?_
    refine vz_top (y := (nI 2)) ex ?_
    refine vz_callV (n := 1) (As := [.int (nI 2)]) (rest := []) (q0 := 0) hcf (c_X1_missing2 l D kA ad n fp fk fh c0 c1 c2 c3 f0 f1 f2 f3 hn hc2) gL_law_X1_missing rfl hd_X1_missing ⟨Nat.le_of_ble_eq_true rfl, Nat.le_of_ble_eq_true rfl⟩ hK (hP.sub [0, 1, 2, 3, 4, 5, 6, 7, 8, 9, 10, 11] rfl) rfl rfl rfl rfl hl.1 rfl (Nat.le_of_ble_eq_true rfl) ⟨Nat.le_of_ble_eq_true rfl, Nat.le_of_ble_eq_true rfl⟩ dL_law_331 ?_
    refine lv_aload_n hx hb dL_law_334 rfl (lv_at hl 2 rfl) ?_
    refine lv_aload_n hx hb dL_law_335 rfl (lv_at hl 0 rfl) ?_
    refine lv_iload_n hx hb dL_law_336 rfl (lv_at hl 3 rfl) ?_
    refine lv_iconst (v := nI 1) hx hb dL_law_337 (by decide) ?_
    refine vz_add hx hb dL_law_338 ?_
    refine vz_sld hx hb hX hbl hbA hS (by omega) (by omega) dL_law_339 ?_
    refine vz_top (y := (nI 2)) ex ?_
    refine vz_callV (n := 1) (As := [.int (nI 2)]) (rest := [.int (nI (cnB (zN n) (fun p => !zX_inL fp c2 f2 p)))]) (q0 := 0) hcf (c_X2_missing2 l D kA me n g mk ss hn c2 (zv g 2) hs2 hc2 (fun _ _ => rfl)) gL_law_X2_missing rfl hd_X2_missing ⟨Nat.le_of_ble_eq_true rfl, Nat.le_of_ble_eq_true rfl⟩ hK (hP.sub [12, 13, 14, 15] rfl) rfl rfl rfl rfl hl.1 rfl (Nat.le_of_ble_eq_true rfl) ⟨Nat.le_of_ble_eq_true rfl, Nat.le_of_ble_eq_true rfl⟩ dL_law_340 ?_
    refine lv_icmp_eq (tgt := 473) hx hb dL_law_343 (by decide) (fun c_343 => ?_) (fun c_343 => absurd c_343 (fun h => h (congrArg nI (r_mis O ha2))))
    subst hAz
    exact K n fp fk fh c0 c1 c2 c3 f0 f1 f2 f3 g mk ss _ _ _ r hP hD hS hl
  · skip
    refine lv_aload_n hx hb dL_law_325 rfl (lv_at hl 1 rfl) ?_
    refine lv_aload_n hx hb dL_law_326 rfl (lv_at hl 0 rfl) ?_
    refine lv_iload_n hx hb dL_law_327 rfl (lv_at hl 3 rfl) ?_
    refine lv_iconst (v := nI 1) hx hb dL_law_328 (by decide) ?_
    refine vz_add hx hb dL_law_329 ?_
    refine vz_sld hx hb hX hbl hbA hS (by omega) (by omega) dL_law_330 ?_
    refine vz_callV (n := 1) (As := [.int (xs (i + 1))]) (rest := []) (q0 := 0) hcf (c_X1_missing3 l D kA ad n fp fk fh c0 c1 c2 c3 f0 f1 f2 f3 hn (xs (i + 1)) ex) gL_law_X1_missing rfl hd_X1_missing ⟨Nat.le_of_ble_eq_true rfl, Nat.le_of_ble_eq_true rfl⟩ hK (hP.sub [0, 1, 2, 3, 4, 5, 6, 7, 8, 9, 10, 11] rfl) rfl rfl rfl rfl hl.1 rfl (Nat.le_of_ble_eq_true rfl) ⟨Nat.le_of_ble_eq_true rfl, Nat.le_of_ble_eq_true rfl⟩ dL_law_331 ?_
    refine lv_aload_n hx hb dL_law_334 rfl (lv_at hl 2 rfl) ?_
    refine lv_aload_n hx hb dL_law_335 rfl (lv_at hl 0 rfl) ?_
    refine lv_iload_n hx hb dL_law_336 rfl (lv_at hl 3 rfl) ?_
    refine lv_iconst (v := nI 1) hx hb dL_law_337 (by decide) ?_
    refine vz_add hx hb dL_law_338 ?_
    refine vz_sld hx hb hX hbl hbA hS (by omega) (by omega) dL_law_339 ?_
    refine vz_callV (n := 1) (As := [.int (xs (i + 1))]) (rest := [.int (-1)]) (q0 := 0) hcf (c_X2_missing3 l D kA me n g mk ss hn (xs (i + 1)) ey) gL_law_X2_missing rfl hd_X2_missing ⟨Nat.le_of_ble_eq_true rfl, Nat.le_of_ble_eq_true rfl⟩ hK (hP.sub [12, 13, 14, 15] rfl) rfl rfl rfl rfl hl.1 rfl (Nat.le_of_ble_eq_true rfl) ⟨Nat.le_of_ble_eq_true rfl, Nat.le_of_ble_eq_true rfl⟩ dL_law_340 ?_
    refine lv_icmp_eq (tgt := 473) hx hb dL_law_343 (by decide) (fun c_343 => ?_) (fun c_343 => absurd c_343 (fun h => h rfl))
    subst hAz
    exact K n fp fk fh c0 c1 c2 c3 f0 f1 f2 f3 g mk ss _ _ _ r hP hD hS hl
set_option maxHeartbeats 4000000 in
set_option maxRecDepth 100000 in
theorem law_case10 {pz : Program} {l : Launch} {ez : Env} {sz : State} {mz : MethodId} {below : List Frame} {meth : Method} {cz : Code} {D : va_G} {kA : ClassId} {b L : Nat} {xs : Nat → Int32} (hL : L ≤ 1536) (C0 : lw_At pz sz mz meth cz b L xs) (hK : va_K D vwCl [(kA, .int)] sz) (i : Nat) (hi : i + 3 ≤ L) (ad me : Nat → Nat) (K : lw_K pz l ez sz mz below meth cz D kA b i ad me 473) : lw_K pz l ez sz mz below meth cz D kA b i ad me 348 := by
  intro n fp fk fh c0 c1 c2 c3 f0 f1 f2 f3 g mk ss H locs ls r hP hD hS hl
  obtain ⟨hx, hb, hr, hml, hown, hts0, hX, hbl, hlocks, hgv⟩ := C0
  have hts := fun w h => hts0 w (wsL_law_in w h)
  have hcf : CallFix pz mz cz cL_law 4 sz #[Value.ref b] wsL_law RL := ⟨hx, hb, hml, hown, hts⟩
  have O := r_ok r
  obtain ⟨⟨hn1, hn⟩, ⟨hc0, hc1, hc2, hc3⟩, ⟨hs0, hs1, hs2, hs3⟩, ⟨ha0, ha1, ha2⟩, ⟨hN0, hN1, hN2⟩, -⟩ := id r
  have hbA : ¬ (fun q : Nat => sz.heap.size ≤ q) b := Nat.not_le.mpr hbl
  generalize hAz : (fun q : Nat => sz.heap.size ≤ q) = Az at hD hS hbA
  have hP : va_P D vwCl [(ad 0, .inr (1, [.ref (ad 1), .ref (ad 2), .ref (ad 3), .ref (ad 4), .ref (ad 5), .ref (ad 6), .ref (ad 7), .int (nI n)])), (ad 5, .inl (kA, 256, .inl fp)), (ad 6, .inl (kA, 256, .inl fk)), (ad 7, .inl (kA, 256, .inl fh)), (ad 1, .inr (0, [.ref (ad 8), .int (nI c0)])), (ad 8, .inl (kA, 24, .inl f0)), (ad 2, .inr (0, [.ref (ad 9), .int (nI c1)])), (ad 9, .inl (kA, 24, .inl f1)), (ad 3, .inr (0, [.ref (ad 10), .int (nI c2)])), (ad 10, .inl (kA, 24, .inl f2)), (ad 4, .inr (0, [.ref (ad 11), .int (nI c3)])), (ad 11, .inl (kA, 24, .inl f3)), (me 0, .inr (2, [.ref (me 1), .ref (me 2), .ref (me 3), .int (nI n)])), (me 1, .inl (kA, 96, .inl g)), (me 2, .inl (kA, 4, .inl (fun j => nI (ss j)))), (me 3, .inl (kA, 256, .inl mk))] H := hP
  have hD : va_D Az [(ad 0, .inr (1, [.ref (ad 1), .ref (ad 2), .ref (ad 3), .ref (ad 4), .ref (ad 5), .ref (ad 6), .ref (ad 7), .int (nI n)])), (ad 5, .inl (kA, 256, .inl fp)), (ad 6, .inl (kA, 256, .inl fk)), (ad 7, .inl (kA, 256, .inl fh)), (ad 1, .inr (0, [.ref (ad 8), .int (nI c0)])), (ad 8, .inl (kA, 24, .inl f0)), (ad 2, .inr (0, [.ref (ad 9), .int (nI c1)])), (ad 9, .inl (kA, 24, .inl f1)), (ad 3, .inr (0, [.ref (ad 10), .int (nI c2)])), (ad 10, .inl (kA, 24, .inl f2)), (ad 4, .inr (0, [.ref (ad 11), .int (nI c3)])), (ad 11, .inl (kA, 24, .inl f3)), (me 0, .inr (2, [.ref (me 1), .ref (me 2), .ref (me 3), .int (nI n)])), (me 1, .inl (kA, 96, .inl g)), (me 2, .inl (kA, 4, .inl (fun j => nI (ss j)))), (me 3, .inl (kA, 256, .inl mk))] := hD
  rcases l_list (xs (i + 1)) with ex | ex | ex | ⟨ex, ey⟩
  · skip
    refine lv_aload_n hx hb dL_law_348 rfl (lv_at hl 1 rfl) ?_
    refine lv_aload_n hx hb dL_law_349 rfl (lv_at hl 0 rfl) ?_
    refine lv_iload_n hx hb dL_law_350 rfl (lv_at hl 3 rfl) ?_
    refine lv_iconst (v := nI 1) hx hb dL_law_351 (by decide) ?_
    refine vz_add hx hb dL_law_352 ?_
    refine vz_sld hx hb hX hbl hbA hS (by omega) (by omega) dL_law_353 ?_
    refine vz_top (y := (nI 0)) ex ?_
    refine vz_callV (n := 1) (As := [.int (nI 0)]) (rest := []) (q0 := 0) hcf (c_X1_tautology0 l D kA ad n fp fk fh c0 c1 c2 c3 f0 f1 f2 f3 hn hc0) gL_law_X1_tautology rfl hd_X1_tautology ⟨Nat.le_of_ble_eq_true rfl, Nat.le_of_ble_eq_true rfl⟩ hK (hP.sub [0, 1, 2, 3, 4, 5, 6, 7, 8, 9, 10, 11] rfl) rfl rfl rfl rfl hl.1 rfl (Nat.le_of_ble_eq_true rfl) ⟨Nat.le_of_ble_eq_true rfl, Nat.le_of_ble_eq_true rfl⟩ dL_law_354 ?_
    refine lv_aload_n hx hb dL_law_357 rfl (lv_at hl 2 rfl) ?_
    refine lv_aload_n hx hb dL_law_358 rfl (lv_at hl 0 rfl) ?_
    refine lv_iload_n hx hb dL_law_359 rfl (lv_at hl 3 rfl) ?_
    refine lv_iconst (v := nI 1) hx hb dL_law_360 (by decide) ?_
    refine vz_add hx hb dL_law_361 ?_
    refine vz_sld hx hb hX hbl hbA hS (by omega) (by omega) dL_law_362 ?_
    refine vz_top (y := (nI 0)) ex ?_
    refine vz_callV (n := 1) (As := [.int (nI 0)]) (rest := [.int (vz_b (decide (cnB (zN n) (fun p => !zX_inL fp c0 f0 p) = 0)))]) (q0 := 0) hcf (c_X2_tautology0 l D kA me n g mk ss hn c0 (zv g 0) hs0 hc0 (fun _ _ => rfl)) gL_law_X2_tautology rfl hd_X2_tautology ⟨Nat.le_of_ble_eq_true rfl, Nat.le_of_ble_eq_true rfl⟩ hK (hP.sub [12, 13, 14, 15] rfl) rfl rfl rfl rfl hl.1 rfl (Nat.le_of_ble_eq_true rfl) ⟨Nat.le_of_ble_eq_true rfl, Nat.le_of_ble_eq_true rfl⟩ dL_law_363 ?_
    refine lv_icmp_eq (tgt := 473) hx hb dL_law_366 (by decide) (fun c_366 => ?_) (fun c_366 => absurd c_366 (fun h => h (by rw [r_mis O ha0])))
    subst hAz
    exact K n fp fk fh c0 c1 c2 c3 f0 f1 f2 f3 g mk ss _ _ _ r hP hD hS hl
  · skip
    refine lv_aload_n hx hb dL_law_348 rfl (lv_at hl 1 rfl) ?_
    refine lv_aload_n hx hb dL_law_349 rfl (lv_at hl 0 rfl) ?_
    refine lv_iload_n hx hb dL_law_350 rfl (lv_at hl 3 rfl) ?_
    refine lv_iconst (v := nI 1) hx hb dL_law_351 (by decide) ?_
    refine vz_add hx hb dL_law_352 ?_
    refine vz_sld hx hb hX hbl hbA hS (by omega) (by omega) dL_law_353 ?_
    refine vz_top (y := (nI 1)) ex ?_
    refine vz_callV (n := 1) (As := [.int (nI 1)]) (rest := []) (q0 := 0) hcf (c_X1_tautology1 l D kA ad n fp fk fh c0 c1 c2 c3 f0 f1 f2 f3 hn hc1) gL_law_X1_tautology rfl hd_X1_tautology ⟨Nat.le_of_ble_eq_true rfl, Nat.le_of_ble_eq_true rfl⟩ hK (hP.sub [0, 1, 2, 3, 4, 5, 6, 7, 8, 9, 10, 11] rfl) rfl rfl rfl rfl hl.1 rfl (Nat.le_of_ble_eq_true rfl) ⟨Nat.le_of_ble_eq_true rfl, Nat.le_of_ble_eq_true rfl⟩ dL_law_354 ?_
    refine lv_aload_n hx hb dL_law_357 rfl (lv_at hl 2 rfl) ?_
    refine lv_aload_n hx hb dL_law_358 rfl (lv_at hl 0 rfl) ?_
    refine lv_iload_n hx hb dL_law_359 rfl (lv_at hl 3 rfl) ?_
    refine lv_iconst (v := nI 1) hx hb dL_law_360 (by decide) ?_
    refine vz_add hx hb dL_law_361 ?_
    refine vz_sld hx hb hX hbl hbA hS (by omega) (by omega) dL_law_362 ?_
    refine vz_top (y := (nI 1)) ex ?_
    refine vz_callV (n := 1) (As := [.int (nI 1)]) (rest := [.int (vz_b (decide (cnB (zN n) (fun p => !zX_inL fp c1 f1 p) = 0)))]) (q0 := 0) hcf (c_X2_tautology1 l D kA me n g mk ss hn c1 (zv g 1) hs1 hc1 (fun _ _ => rfl)) gL_law_X2_tautology rfl hd_X2_tautology ⟨Nat.le_of_ble_eq_true rfl, Nat.le_of_ble_eq_true rfl⟩ hK (hP.sub [12, 13, 14, 15] rfl) rfl rfl rfl rfl hl.1 rfl (Nat.le_of_ble_eq_true rfl) ⟨Nat.le_of_ble_eq_true rfl, Nat.le_of_ble_eq_true rfl⟩ dL_law_363 ?_
    refine lv_icmp_eq (tgt := 473) hx hb dL_law_366 (by decide) (fun c_366 => ?_) (fun c_366 => absurd c_366 (fun h => h (by rw [r_mis O ha1])))
    subst hAz
    exact K n fp fk fh c0 c1 c2 c3 f0 f1 f2 f3 g mk ss _ _ _ r hP hD hS hl
  · skip
    refine lv_aload_n hx hb dL_law_348 rfl (lv_at hl 1 rfl) ?_
    refine lv_aload_n hx hb dL_law_349 rfl (lv_at hl 0 rfl) ?_
    refine lv_iload_n hx hb dL_law_350 rfl (lv_at hl 3 rfl) ?_
    refine lv_iconst (v := nI 1) hx hb dL_law_351 (by decide) ?_
    refine vz_add hx hb dL_law_352 ?_
    refine vz_sld hx hb hX hbl hbA hS (by omega) (by omega) dL_law_353 ?_
    refine vz_top (y := (nI 2)) ex ?_
    refine vz_callV (n := 1) (As := [.int (nI 2)]) (rest := []) (q0 := 0) hcf (c_X1_tautology2 l D kA ad n fp fk fh c0 c1 c2 c3 f0 f1 f2 f3 hn hc2) gL_law_X1_tautology rfl hd_X1_tautology ⟨Nat.le_of_ble_eq_true rfl, Nat.le_of_ble_eq_true rfl⟩ hK (hP.sub [0, 1, 2, 3, 4, 5, 6, 7, 8, 9, 10, 11] rfl) rfl rfl rfl rfl hl.1 rfl (Nat.le_of_ble_eq_true rfl) ⟨Nat.le_of_ble_eq_true rfl, Nat.le_of_ble_eq_true rfl⟩ dL_law_354 ?_
    refine lv_aload_n hx hb dL_law_357 rfl (lv_at hl 2 rfl) ?_
    refine lv_aload_n hx hb dL_law_358 rfl (lv_at hl 0 rfl) ?_
    refine lv_iload_n hx hb dL_law_359 rfl (lv_at hl 3 rfl) ?_
    refine lv_iconst (v := nI 1) hx hb dL_law_360 (by decide) ?_
    refine vz_add hx hb dL_law_361 ?_
    refine vz_sld hx hb hX hbl hbA hS (by omega) (by omega) dL_law_362 ?_
    refine vz_top (y := (nI 2)) ex ?_
    refine vz_callV (n := 1) (As := [.int (nI 2)]) (rest := [.int (vz_b (decide (cnB (zN n) (fun p => !zX_inL fp c2 f2 p) = 0)))]) (q0 := 0) hcf (c_X2_tautology2 l D kA me n g mk ss hn c2 (zv g 2) hs2 hc2 (fun _ _ => rfl)) gL_law_X2_tautology rfl hd_X2_tautology ⟨Nat.le_of_ble_eq_true rfl, Nat.le_of_ble_eq_true rfl⟩ hK (hP.sub [12, 13, 14, 15] rfl) rfl rfl rfl rfl hl.1 rfl (Nat.le_of_ble_eq_true rfl) ⟨Nat.le_of_ble_eq_true rfl, Nat.le_of_ble_eq_true rfl⟩ dL_law_363 ?_
    refine lv_icmp_eq (tgt := 473) hx hb dL_law_366 (by decide) (fun c_366 => ?_) (fun c_366 => absurd c_366 (fun h => h (by rw [r_mis O ha2])))
    subst hAz
    exact K n fp fk fh c0 c1 c2 c3 f0 f1 f2 f3 g mk ss _ _ _ r hP hD hS hl
  · skip
    refine lv_aload_n hx hb dL_law_348 rfl (lv_at hl 1 rfl) ?_
    refine lv_aload_n hx hb dL_law_349 rfl (lv_at hl 0 rfl) ?_
    refine lv_iload_n hx hb dL_law_350 rfl (lv_at hl 3 rfl) ?_
    refine lv_iconst (v := nI 1) hx hb dL_law_351 (by decide) ?_
    refine vz_add hx hb dL_law_352 ?_
    refine vz_sld hx hb hX hbl hbA hS (by omega) (by omega) dL_law_353 ?_
    refine vz_callV (n := 1) (As := [.int (xs (i + 1))]) (rest := []) (q0 := 0) hcf (c_X1_tautology3 l D kA ad n fp fk fh c0 c1 c2 c3 f0 f1 f2 f3 hn (xs (i + 1)) ex) gL_law_X1_tautology rfl hd_X1_tautology ⟨Nat.le_of_ble_eq_true rfl, Nat.le_of_ble_eq_true rfl⟩ hK (hP.sub [0, 1, 2, 3, 4, 5, 6, 7, 8, 9, 10, 11] rfl) rfl rfl rfl rfl hl.1 rfl (Nat.le_of_ble_eq_true rfl) ⟨Nat.le_of_ble_eq_true rfl, Nat.le_of_ble_eq_true rfl⟩ dL_law_354 ?_
    refine lv_aload_n hx hb dL_law_357 rfl (lv_at hl 2 rfl) ?_
    refine lv_aload_n hx hb dL_law_358 rfl (lv_at hl 0 rfl) ?_
    refine lv_iload_n hx hb dL_law_359 rfl (lv_at hl 3 rfl) ?_
    refine lv_iconst (v := nI 1) hx hb dL_law_360 (by decide) ?_
    refine vz_add hx hb dL_law_361 ?_
    refine vz_sld hx hb hX hbl hbA hS (by omega) (by omega) dL_law_362 ?_
    refine vz_callV (n := 1) (As := [.int (xs (i + 1))]) (rest := [.int (nI 0)]) (q0 := 0) hcf (c_X2_tautology3 l D kA me n g mk ss hn (xs (i + 1)) ey) gL_law_X2_tautology rfl hd_X2_tautology ⟨Nat.le_of_ble_eq_true rfl, Nat.le_of_ble_eq_true rfl⟩ hK (hP.sub [12, 13, 14, 15] rfl) rfl rfl rfl rfl hl.1 rfl (Nat.le_of_ble_eq_true rfl) ⟨Nat.le_of_ble_eq_true rfl, Nat.le_of_ble_eq_true rfl⟩ dL_law_363 ?_
    refine lv_icmp_eq (tgt := 473) hx hb dL_law_366 (by decide) (fun c_366 => ?_) (fun c_366 => absurd c_366 (fun h => h rfl))
    subst hAz
    exact K n fp fk fh c0 c1 c2 c3 f0 f1 f2 f3 g mk ss _ _ _ r hP hD hS hl
set_option maxHeartbeats 4000000 in
set_option maxRecDepth 100000 in
theorem law_case11 {pz : Program} {l : Launch} {ez : Env} {sz : State} {mz : MethodId} {below : List Frame} {meth : Method} {cz : Code} {D : va_G} {kA : ClassId} {b L : Nat} {xs : Nat → Int32} (hL : L ≤ 1536) (C0 : lw_At pz sz mz meth cz b L xs) (hK : va_K D vwCl [(kA, .int)] sz) (i : Nat) (hi : i + 3 ≤ L) (ad me : Nat → Nat) (K : lw_K pz l ez sz mz below meth cz D kA b i ad me 473) : lw_K pz l ez sz mz below meth cz D kA b i ad me 371 := by
  intro n fp fk fh c0 c1 c2 c3 f0 f1 f2 f3 g mk ss H locs ls r hP hD hS hl
  obtain ⟨hx, hb, hr, hml, hown, hts0, hX, hbl, hlocks, hgv⟩ := C0
  have hts := fun w h => hts0 w (wsL_law_in w h)
  have hcf : CallFix pz mz cz cL_law 4 sz #[Value.ref b] wsL_law RL := ⟨hx, hb, hml, hown, hts⟩
  have O := r_ok r
  obtain ⟨⟨hn1, hn⟩, ⟨hc0, hc1, hc2, hc3⟩, ⟨hs0, hs1, hs2, hs3⟩, ⟨ha0, ha1, ha2⟩, ⟨hN0, hN1, hN2⟩, -⟩ := id r
  have hbA : ¬ (fun q : Nat => sz.heap.size ≤ q) b := Nat.not_le.mpr hbl
  generalize hAz : (fun q : Nat => sz.heap.size ≤ q) = Az at hD hS hbA
  have hP : va_P D vwCl [(ad 0, .inr (1, [.ref (ad 1), .ref (ad 2), .ref (ad 3), .ref (ad 4), .ref (ad 5), .ref (ad 6), .ref (ad 7), .int (nI n)])), (ad 5, .inl (kA, 256, .inl fp)), (ad 6, .inl (kA, 256, .inl fk)), (ad 7, .inl (kA, 256, .inl fh)), (ad 1, .inr (0, [.ref (ad 8), .int (nI c0)])), (ad 8, .inl (kA, 24, .inl f0)), (ad 2, .inr (0, [.ref (ad 9), .int (nI c1)])), (ad 9, .inl (kA, 24, .inl f1)), (ad 3, .inr (0, [.ref (ad 10), .int (nI c2)])), (ad 10, .inl (kA, 24, .inl f2)), (ad 4, .inr (0, [.ref (ad 11), .int (nI c3)])), (ad 11, .inl (kA, 24, .inl f3)), (me 0, .inr (2, [.ref (me 1), .ref (me 2), .ref (me 3), .int (nI n)])), (me 1, .inl (kA, 96, .inl g)), (me 2, .inl (kA, 4, .inl (fun j => nI (ss j)))), (me 3, .inl (kA, 256, .inl mk))] H := hP
  have hD : va_D Az [(ad 0, .inr (1, [.ref (ad 1), .ref (ad 2), .ref (ad 3), .ref (ad 4), .ref (ad 5), .ref (ad 6), .ref (ad 7), .int (nI n)])), (ad 5, .inl (kA, 256, .inl fp)), (ad 6, .inl (kA, 256, .inl fk)), (ad 7, .inl (kA, 256, .inl fh)), (ad 1, .inr (0, [.ref (ad 8), .int (nI c0)])), (ad 8, .inl (kA, 24, .inl f0)), (ad 2, .inr (0, [.ref (ad 9), .int (nI c1)])), (ad 9, .inl (kA, 24, .inl f1)), (ad 3, .inr (0, [.ref (ad 10), .int (nI c2)])), (ad 10, .inl (kA, 24, .inl f2)), (ad 4, .inr (0, [.ref (ad 11), .int (nI c3)])), (ad 11, .inl (kA, 24, .inl f3)), (me 0, .inr (2, [.ref (me 1), .ref (me 2), .ref (me 3), .int (nI n)])), (me 1, .inl (kA, 96, .inl g)), (me 2, .inl (kA, 4, .inl (fun j => nI (ss j)))), (me 3, .inl (kA, 256, .inl mk))] := hD
  rcases l_list (xs (i + 1)) with ex | ex | ex | ⟨ex, ey⟩
  · skip
    rcases l_list (xs (i + 2)) with fx | fx | fx | ⟨fx, fy⟩
    · skip
      refine lv_aload_n hx hb dL_law_371 rfl (lv_at hl 1 rfl) ?_
      refine lv_aload_n hx hb dL_law_372 rfl (lv_at hl 0 rfl) ?_
      refine lv_iload_n hx hb dL_law_373 rfl (lv_at hl 3 rfl) ?_
      refine lv_iconst (v := nI 1) hx hb dL_law_374 (by decide) ?_
      refine vz_add hx hb dL_law_375 ?_
      refine vz_sld hx hb hX hbl hbA hS (by omega) (by omega) dL_law_376 ?_
      refine vz_top (y := (nI 0)) ex ?_
      refine lv_aload_n hx hb dL_law_377 rfl (lv_at hl 0 rfl) ?_
      refine lv_iload_n hx hb dL_law_378 rfl (lv_at hl 3 rfl) ?_
      refine lv_iconst (v := nI 2) hx hb dL_law_379 (by decide) ?_
      refine vz_add hx hb dL_law_380 ?_
      refine vz_sld hx hb hX hbl hbA hS (by omega) (by omega) dL_law_381 ?_
      refine vz_top (y := (nI 0)) fx ?_
      refine vz_callV (n := 2) (As := [.int (nI 0), .int (nI 0)]) (rest := []) (q0 := 0) hcf (c_X1_same00 l D kA ad n fp fk fh c0 c1 c2 c3 f0 f1 f2 f3 hn hc0 hc0) gL_law_X1_same rfl hd_X1_same ⟨Nat.le_of_ble_eq_true rfl, Nat.le_of_ble_eq_true rfl⟩ hK (hP.sub [0, 1, 2, 3, 4, 5, 6, 7, 8, 9, 10, 11] rfl) rfl rfl rfl rfl hl.1 rfl (Nat.le_of_ble_eq_true rfl) ⟨Nat.le_of_ble_eq_true rfl, Nat.le_of_ble_eq_true rfl⟩ dL_law_382 ?_
      refine lv_aload_n hx hb dL_law_385 rfl (lv_at hl 2 rfl) ?_
      refine lv_aload_n hx hb dL_law_386 rfl (lv_at hl 0 rfl) ?_
      refine lv_iload_n hx hb dL_law_387 rfl (lv_at hl 3 rfl) ?_
      refine lv_iconst (v := nI 1) hx hb dL_law_388 (by decide) ?_
      refine vz_add hx hb dL_law_389 ?_
      refine vz_sld hx hb hX hbl hbA hS (by omega) (by omega) dL_law_390 ?_
      refine vz_top (y := (nI 0)) ex ?_
      refine lv_aload_n hx hb dL_law_391 rfl (lv_at hl 0 rfl) ?_
      refine lv_iload_n hx hb dL_law_392 rfl (lv_at hl 3 rfl) ?_
      refine lv_iconst (v := nI 2) hx hb dL_law_393 (by decide) ?_
      refine vz_add hx hb dL_law_394 ?_
      refine vz_sld hx hb hX hbl hbA hS (by omega) (by omega) dL_law_395 ?_
      refine vz_top (y := (nI 0)) fx ?_
      refine vz_callV (n := 2) (As := [.int (nI 0), .int (nI 0)]) (rest := [.int (vz_b (!exB (zN n) (fun p => !decide (fk p = nI 2) && (zX_inL fp c0 f0 p != zX_inL fp c0 f0 p))))]) (q0 := 0) hcf (c_X2_same00 l D kA me n g mk ss hn c0 (zv g 0) hs0 hc0 (fun _ _ => rfl) c0 (zv g 0) hs0 hc0 (fun _ _ => rfl)) gL_law_X2_same rfl hd_X2_same ⟨Nat.le_of_ble_eq_true rfl, Nat.le_of_ble_eq_true rfl⟩ hK (hP.sub [12, 13, 14, 15] rfl) rfl rfl rfl rfl hl.1 rfl (Nat.le_of_ble_eq_true rfl) ⟨Nat.le_of_ble_eq_true rfl, Nat.le_of_ble_eq_true rfl⟩ dL_law_396 ?_
      refine lv_icmp_eq (tgt := 473) hx hb dL_law_399 (by decide) (fun c_399 => ?_) (fun c_399 => absurd c_399 (fun h => h (congrArg vz_b (r_same O ha0 ha0))))
      subst hAz
      exact K n fp fk fh c0 c1 c2 c3 f0 f1 f2 f3 g mk ss _ _ _ r hP hD hS hl
    · skip
      refine lv_aload_n hx hb dL_law_371 rfl (lv_at hl 1 rfl) ?_
      refine lv_aload_n hx hb dL_law_372 rfl (lv_at hl 0 rfl) ?_
      refine lv_iload_n hx hb dL_law_373 rfl (lv_at hl 3 rfl) ?_
      refine lv_iconst (v := nI 1) hx hb dL_law_374 (by decide) ?_
      refine vz_add hx hb dL_law_375 ?_
      refine vz_sld hx hb hX hbl hbA hS (by omega) (by omega) dL_law_376 ?_
      refine vz_top (y := (nI 0)) ex ?_
      refine lv_aload_n hx hb dL_law_377 rfl (lv_at hl 0 rfl) ?_
      refine lv_iload_n hx hb dL_law_378 rfl (lv_at hl 3 rfl) ?_
      refine lv_iconst (v := nI 2) hx hb dL_law_379 (by decide) ?_
      refine vz_add hx hb dL_law_380 ?_
      refine vz_sld hx hb hX hbl hbA hS (by omega) (by omega) dL_law_381 ?_
      refine vz_top (y := (nI 1)) fx ?_
      refine vz_callV (n := 2) (As := [.int (nI 0), .int (nI 1)]) (rest := []) (q0 := 0) hcf (c_X1_same01 l D kA ad n fp fk fh c0 c1 c2 c3 f0 f1 f2 f3 hn hc0 hc1) gL_law_X1_same rfl hd_X1_same ⟨Nat.le_of_ble_eq_true rfl, Nat.le_of_ble_eq_true rfl⟩ hK (hP.sub [0, 1, 2, 3, 4, 5, 6, 7, 8, 9, 10, 11] rfl) rfl rfl rfl rfl hl.1 rfl (Nat.le_of_ble_eq_true rfl) ⟨Nat.le_of_ble_eq_true rfl, Nat.le_of_ble_eq_true rfl⟩ dL_law_382 ?_
      refine lv_aload_n hx hb dL_law_385 rfl (lv_at hl 2 rfl) ?_
      refine lv_aload_n hx hb dL_law_386 rfl (lv_at hl 0 rfl) ?_
      refine lv_iload_n hx hb dL_law_387 rfl (lv_at hl 3 rfl) ?_
      refine lv_iconst (v := nI 1) hx hb dL_law_388 (by decide) ?_
      refine vz_add hx hb dL_law_389 ?_
      refine vz_sld hx hb hX hbl hbA hS (by omega) (by omega) dL_law_390 ?_
      refine vz_top (y := (nI 0)) ex ?_
      refine lv_aload_n hx hb dL_law_391 rfl (lv_at hl 0 rfl) ?_
      refine lv_iload_n hx hb dL_law_392 rfl (lv_at hl 3 rfl) ?_
      refine lv_iconst (v := nI 2) hx hb dL_law_393 (by decide) ?_
      refine vz_add hx hb dL_law_394 ?_
      refine vz_sld hx hb hX hbl hbA hS (by omega) (by omega) dL_law_395 ?_
      refine vz_top (y := (nI 1)) fx ?_
      refine vz_callV (n := 2) (As := [.int (nI 0), .int (nI 1)]) (rest := [.int (vz_b (!exB (zN n) (fun p => !decide (fk p = nI 2) && (zX_inL fp c0 f0 p != zX_inL fp c1 f1 p))))]) (q0 := 0) hcf (c_X2_same01 l D kA me n g mk ss hn c0 (zv g 0) hs0 hc0 (fun _ _ => rfl) c1 (zv g 1) hs1 hc1 (fun _ _ => rfl)) gL_law_X2_same rfl hd_X2_same ⟨Nat.le_of_ble_eq_true rfl, Nat.le_of_ble_eq_true rfl⟩ hK (hP.sub [12, 13, 14, 15] rfl) rfl rfl rfl rfl hl.1 rfl (Nat.le_of_ble_eq_true rfl) ⟨Nat.le_of_ble_eq_true rfl, Nat.le_of_ble_eq_true rfl⟩ dL_law_396 ?_
      refine lv_icmp_eq (tgt := 473) hx hb dL_law_399 (by decide) (fun c_399 => ?_) (fun c_399 => absurd c_399 (fun h => h (congrArg vz_b (r_same O ha0 ha1))))
      subst hAz
      exact K n fp fk fh c0 c1 c2 c3 f0 f1 f2 f3 g mk ss _ _ _ r hP hD hS hl
    · skip
      refine lv_aload_n hx hb dL_law_371 rfl (lv_at hl 1 rfl) ?_
      refine lv_aload_n hx hb dL_law_372 rfl (lv_at hl 0 rfl) ?_
      refine lv_iload_n hx hb dL_law_373 rfl (lv_at hl 3 rfl) ?_
      refine lv_iconst (v := nI 1) hx hb dL_law_374 (by decide) ?_
      refine vz_add hx hb dL_law_375 ?_
      refine vz_sld hx hb hX hbl hbA hS (by omega) (by omega) dL_law_376 ?_
      refine vz_top (y := (nI 0)) ex ?_
      refine lv_aload_n hx hb dL_law_377 rfl (lv_at hl 0 rfl) ?_
      refine lv_iload_n hx hb dL_law_378 rfl (lv_at hl 3 rfl) ?_
      refine lv_iconst (v := nI 2) hx hb dL_law_379 (by decide) ?_
      refine vz_add hx hb dL_law_380 ?_
      refine vz_sld hx hb hX hbl hbA hS (by omega) (by omega) dL_law_381 ?_
      refine vz_top (y := (nI 2)) fx ?_
      refine vz_callV (n := 2) (As := [.int (nI 0), .int (nI 2)]) (rest := []) (q0 := 0) hcf (c_X1_same02 l D kA ad n fp fk fh c0 c1 c2 c3 f0 f1 f2 f3 hn hc0 hc2) gL_law_X1_same rfl hd_X1_same ⟨Nat.le_of_ble_eq_true rfl, Nat.le_of_ble_eq_true rfl⟩ hK (hP.sub [0, 1, 2, 3, 4, 5, 6, 7, 8, 9, 10, 11] rfl) rfl rfl rfl rfl hl.1 rfl (Nat.le_of_ble_eq_true rfl) ⟨Nat.le_of_ble_eq_true rfl, Nat.le_of_ble_eq_true rfl⟩ dL_law_382 ?_
      refine lv_aload_n hx hb dL_law_385 rfl (lv_at hl 2 rfl) ?_
      refine lv_aload_n hx hb dL_law_386 rfl (lv_at hl 0 rfl) ?_
      refine lv_iload_n hx hb dL_law_387 rfl (lv_at hl 3 rfl) ?_
      refine lv_iconst (v := nI 1) hx hb dL_law_388 (by decide) ?_
      refine vz_add hx hb dL_law_389 ?_
      refine vz_sld hx hb hX hbl hbA hS (by omega) (by omega) dL_law_390 ?_
      refine vz_top (y := (nI 0)) ex ?_
      refine lv_aload_n hx hb dL_law_391 rfl (lv_at hl 0 rfl) ?_
      refine lv_iload_n hx hb dL_law_392 rfl (lv_at hl 3 rfl) ?_
      refine lv_iconst (v := nI 2) hx hb dL_law_393 (by decide) ?_
      refine vz_add hx hb dL_law_394 ?_
      refine vz_sld hx hb hX hbl hbA hS (by omega) (by omega) dL_law_395 ?_
      refine vz_top (y := (nI 2)) fx ?_
      refine vz_callV (n := 2) (As := [.int (nI 0), .int (nI 2)]) (rest := [.int (vz_b (!exB (zN n) (fun p => !decide (fk p = nI 2) && (zX_inL fp c0 f0 p != zX_inL fp c2 f2 p))))]) (q0 := 0) hcf (c_X2_same02 l D kA me n g mk ss hn c0 (zv g 0) hs0 hc0 (fun _ _ => rfl) c2 (zv g 2) hs2 hc2 (fun _ _ => rfl)) gL_law_X2_same rfl hd_X2_same ⟨Nat.le_of_ble_eq_true rfl, Nat.le_of_ble_eq_true rfl⟩ hK (hP.sub [12, 13, 14, 15] rfl) rfl rfl rfl rfl hl.1 rfl (Nat.le_of_ble_eq_true rfl) ⟨Nat.le_of_ble_eq_true rfl, Nat.le_of_ble_eq_true rfl⟩ dL_law_396 ?_
      refine lv_icmp_eq (tgt := 473) hx hb dL_law_399 (by decide) (fun c_399 => ?_) (fun c_399 => absurd c_399 (fun h => h (congrArg vz_b (r_same O ha0 ha2))))
      subst hAz
      exact K n fp fk fh c0 c1 c2 c3 f0 f1 f2 f3 g mk ss _ _ _ r hP hD hS hl
    · skip
      refine lv_aload_n hx hb dL_law_371 rfl (lv_at hl 1 rfl) ?_
      refine lv_aload_n hx hb dL_law_372 rfl (lv_at hl 0 rfl) ?_
      refine lv_iload_n hx hb dL_law_373 rfl (lv_at hl 3 rfl) ?_
      refine lv_iconst (v := nI 1) hx hb dL_law_374 (by decide) ?_
      refine vz_add hx hb dL_law_375 ?_
      refine vz_sld hx hb hX hbl hbA hS (by omega) (by omega) dL_law_376 ?_
      refine vz_top (y := (nI 0)) ex ?_
      refine lv_aload_n hx hb dL_law_377 rfl (lv_at hl 0 rfl) ?_
      refine lv_iload_n hx hb dL_law_378 rfl (lv_at hl 3 rfl) ?_
      refine lv_iconst (v := nI 2) hx hb dL_law_379 (by decide) ?_
      refine vz_add hx hb dL_law_380 ?_
      refine vz_sld hx hb hX hbl hbA hS (by omega) (by omega) dL_law_381 ?_
      refine vz_callV (n := 2) (As := [.int (nI 0), .int (xs (i + 2))]) (rest := []) (q0 := 0) hcf (c_X1_same03 l D kA ad n fp fk fh c0 c1 c2 c3 f0 f1 f2 f3 hn (xs (i + 2)) fx) gL_law_X1_same rfl hd_X1_same ⟨Nat.le_of_ble_eq_true rfl, Nat.le_of_ble_eq_true rfl⟩ hK (hP.sub [0, 1, 2, 3, 4, 5, 6, 7, 8, 9, 10, 11] rfl) rfl rfl rfl rfl hl.1 rfl (Nat.le_of_ble_eq_true rfl) ⟨Nat.le_of_ble_eq_true rfl, Nat.le_of_ble_eq_true rfl⟩ dL_law_382 ?_
      refine lv_aload_n hx hb dL_law_385 rfl (lv_at hl 2 rfl) ?_
      refine lv_aload_n hx hb dL_law_386 rfl (lv_at hl 0 rfl) ?_
      refine lv_iload_n hx hb dL_law_387 rfl (lv_at hl 3 rfl) ?_
      refine lv_iconst (v := nI 1) hx hb dL_law_388 (by decide) ?_
      refine vz_add hx hb dL_law_389 ?_
      refine vz_sld hx hb hX hbl hbA hS (by omega) (by omega) dL_law_390 ?_
      refine vz_top (y := (nI 0)) ex ?_
      refine lv_aload_n hx hb dL_law_391 rfl (lv_at hl 0 rfl) ?_
      refine lv_iload_n hx hb dL_law_392 rfl (lv_at hl 3 rfl) ?_
      refine lv_iconst (v := nI 2) hx hb dL_law_393 (by decide) ?_
      refine vz_add hx hb dL_law_394 ?_
      refine vz_sld hx hb hX hbl hbA hS (by omega) (by omega) dL_law_395 ?_
      refine vz_callV (n := 2) (As := [.int (nI 0), .int (xs (i + 2))]) (rest := [.int (nI 0)]) (q0 := 0) hcf (c_X2_same03 l D kA me n g mk ss hn (xs (i + 2)) fy) gL_law_X2_same rfl hd_X2_same ⟨Nat.le_of_ble_eq_true rfl, Nat.le_of_ble_eq_true rfl⟩ hK (hP.sub [12, 13, 14, 15] rfl) rfl rfl rfl rfl hl.1 rfl (Nat.le_of_ble_eq_true rfl) ⟨Nat.le_of_ble_eq_true rfl, Nat.le_of_ble_eq_true rfl⟩ dL_law_396 ?_
      refine lv_icmp_eq (tgt := 473) hx hb dL_law_399 (by decide) (fun c_399 => ?_) (fun c_399 => absurd c_399 (fun h => h rfl))
      subst hAz
      exact K n fp fk fh c0 c1 c2 c3 f0 f1 f2 f3 g mk ss _ _ _ r hP hD hS hl
  · skip
    rcases l_list (xs (i + 2)) with fx | fx | fx | ⟨fx, fy⟩
    · skip
      refine lv_aload_n hx hb dL_law_371 rfl (lv_at hl 1 rfl) ?_
      refine lv_aload_n hx hb dL_law_372 rfl (lv_at hl 0 rfl) ?_
      refine lv_iload_n hx hb dL_law_373 rfl (lv_at hl 3 rfl) ?_
      refine lv_iconst (v := nI 1) hx hb dL_law_374 (by decide) ?_
      refine vz_add hx hb dL_law_375 ?_
      refine vz_sld hx hb hX hbl hbA hS (by omega) (by omega) dL_law_376 ?_
      refine vz_top (y := (nI 1)) ex ?_
      refine lv_aload_n hx hb dL_law_377 rfl (lv_at hl 0 rfl) ?_
      refine lv_iload_n hx hb dL_law_378 rfl (lv_at hl 3 rfl) ?_
      refine lv_iconst (v := nI 2) hx hb dL_law_379 (by decide) ?_
      refine vz_add hx hb dL_law_380 ?_
      refine vz_sld hx hb hX hbl hbA hS (by omega) (by omega) dL_law_381 ?_
      refine vz_top (y := (nI 0)) fx ?_
      refine vz_callV (n := 2) (As := [.int (nI 1), .int (nI 0)]) (rest := []) (q0 := 0) hcf (c_X1_same10 l D kA ad n fp fk fh c0 c1 c2 c3 f0 f1 f2 f3 hn hc1 hc0) gL_law_X1_same rfl hd_X1_same ⟨Nat.le_of_ble_eq_true rfl, Nat.le_of_ble_eq_true rfl⟩ hK (hP.sub [0, 1, 2, 3, 4, 5, 6, 7, 8, 9, 10, 11] rfl) rfl rfl rfl rfl hl.1 rfl (Nat.le_of_ble_eq_true rfl) ⟨Nat.le_of_ble_eq_true rfl, Nat.le_of_ble_eq_true rfl⟩ dL_law_382 ?_
      refine lv_aload_n hx hb dL_law_385 rfl (lv_at hl 2 rfl) ?_
      refine lv_aload_n hx hb dL_law_386 rfl (lv_at hl 0 rfl) ?_
      refine lv_iload_n hx hb dL_law_387 rfl (lv_at hl 3 rfl) ?_
      refine lv_iconst (v := nI 1) hx hb dL_law_388 (by decide) ?_
      refine vz_add hx hb dL_law_389 ?_
      refine vz_sld hx hb hX hbl hbA hS (by omega) (by omega) dL_law_390 ?_
      refine vz_top (y := (nI 1)) ex ?_
      refine lv_aload_n hx hb dL_law_391 rfl (lv_at hl 0 rfl) ?_
      refine lv_iload_n hx hb dL_law_392 rfl (lv_at hl 3 rfl) ?_
      refine lv_iconst (v := nI 2) hx hb dL_law_393 (by decide) ?_
      refine vz_add hx hb dL_law_394 ?_
      refine vz_sld hx hb hX hbl hbA hS (by omega) (by omega) dL_law_395 ?_
      refine vz_top (y := (nI 0)) fx ?_
      refine vz_callV (n := 2) (As := [.int (nI 1), .int (nI 0)]) (rest := [.int (vz_b (!exB (zN n) (fun p => !decide (fk p = nI 2) && (zX_inL fp c1 f1 p != zX_inL fp c0 f0 p))))]) (q0 := 0) hcf (c_X2_same10 l D kA me n g mk ss hn c1 (zv g 1) hs1 hc1 (fun _ _ => rfl) c0 (zv g 0) hs0 hc0 (fun _ _ => rfl)) gL_law_X2_same rfl hd_X2_same ⟨Nat.le_of_ble_eq_true rfl, Nat.le_of_ble_eq_true rfl⟩ hK (hP.sub [12, 13, 14, 15] rfl) rfl rfl rfl rfl hl.1 rfl (Nat.le_of_ble_eq_true rfl) ⟨Nat.le_of_ble_eq_true rfl, Nat.le_of_ble_eq_true rfl⟩ dL_law_396 ?_
      refine lv_icmp_eq (tgt := 473) hx hb dL_law_399 (by decide) (fun c_399 => ?_) (fun c_399 => absurd c_399 (fun h => h (congrArg vz_b (r_same O ha1 ha0))))
      subst hAz
      exact K n fp fk fh c0 c1 c2 c3 f0 f1 f2 f3 g mk ss _ _ _ r hP hD hS hl
    · skip
      refine lv_aload_n hx hb dL_law_371 rfl (lv_at hl 1 rfl) ?_
      refine lv_aload_n hx hb dL_law_372 rfl (lv_at hl 0 rfl) ?_
      refine lv_iload_n hx hb dL_law_373 rfl (lv_at hl 3 rfl) ?_
      refine lv_iconst (v := nI 1) hx hb dL_law_374 (by decide) ?_
      refine vz_add hx hb dL_law_375 ?_
      refine vz_sld hx hb hX hbl hbA hS (by omega) (by omega) dL_law_376 ?_
      refine vz_top (y := (nI 1)) ex ?_
      refine lv_aload_n hx hb dL_law_377 rfl (lv_at hl 0 rfl) ?_
      refine lv_iload_n hx hb dL_law_378 rfl (lv_at hl 3 rfl) ?_
      refine lv_iconst (v := nI 2) hx hb dL_law_379 (by decide) ?_
      refine vz_add hx hb dL_law_380 ?_
      refine vz_sld hx hb hX hbl hbA hS (by omega) (by omega) dL_law_381 ?_
      refine vz_top (y := (nI 1)) fx ?_
      refine vz_callV (n := 2) (As := [.int (nI 1), .int (nI 1)]) (rest := []) (q0 := 0) hcf (c_X1_same11 l D kA ad n fp fk fh c0 c1 c2 c3 f0 f1 f2 f3 hn hc1 hc1) gL_law_X1_same rfl hd_X1_same ⟨Nat.le_of_ble_eq_true rfl, Nat.le_of_ble_eq_true rfl⟩ hK (hP.sub [0, 1, 2, 3, 4, 5, 6, 7, 8, 9, 10, 11] rfl) rfl rfl rfl rfl hl.1 rfl (Nat.le_of_ble_eq_true rfl) ⟨Nat.le_of_ble_eq_true rfl, Nat.le_of_ble_eq_true rfl⟩ dL_law_382 ?_
      refine lv_aload_n hx hb dL_law_385 rfl (lv_at hl 2 rfl) ?_
      refine lv_aload_n hx hb dL_law_386 rfl (lv_at hl 0 rfl) ?_
      refine lv_iload_n hx hb dL_law_387 rfl (lv_at hl 3 rfl) ?_
      refine lv_iconst (v := nI 1) hx hb dL_law_388 (by decide) ?_
      refine vz_add hx hb dL_law_389 ?_
      refine vz_sld hx hb hX hbl hbA hS (by omega) (by omega) dL_law_390 ?_
      refine vz_top (y := (nI 1)) ex ?_
      refine lv_aload_n hx hb dL_law_391 rfl (lv_at hl 0 rfl) ?_
      refine lv_iload_n hx hb dL_law_392 rfl (lv_at hl 3 rfl) ?_
      refine lv_iconst (v := nI 2) hx hb dL_law_393 (by decide) ?_
      refine vz_add hx hb dL_law_394 ?_
      refine vz_sld hx hb hX hbl hbA hS (by omega) (by omega) dL_law_395 ?_
      refine vz_top (y := (nI 1)) fx ?_
      refine vz_callV (n := 2) (As := [.int (nI 1), .int (nI 1)]) (rest := [.int (vz_b (!exB (zN n) (fun p => !decide (fk p = nI 2) && (zX_inL fp c1 f1 p != zX_inL fp c1 f1 p))))]) (q0 := 0) hcf (c_X2_same11 l D kA me n g mk ss hn c1 (zv g 1) hs1 hc1 (fun _ _ => rfl) c1 (zv g 1) hs1 hc1 (fun _ _ => rfl)) gL_law_X2_same rfl hd_X2_same ⟨Nat.le_of_ble_eq_true rfl, Nat.le_of_ble_eq_true rfl⟩ hK (hP.sub [12, 13, 14, 15] rfl) rfl rfl rfl rfl hl.1 rfl (Nat.le_of_ble_eq_true rfl) ⟨Nat.le_of_ble_eq_true rfl, Nat.le_of_ble_eq_true rfl⟩ dL_law_396 ?_
      refine lv_icmp_eq (tgt := 473) hx hb dL_law_399 (by decide) (fun c_399 => ?_) (fun c_399 => absurd c_399 (fun h => h (congrArg vz_b (r_same O ha1 ha1))))
      subst hAz
      exact K n fp fk fh c0 c1 c2 c3 f0 f1 f2 f3 g mk ss _ _ _ r hP hD hS hl
    · skip
      refine lv_aload_n hx hb dL_law_371 rfl (lv_at hl 1 rfl) ?_
      refine lv_aload_n hx hb dL_law_372 rfl (lv_at hl 0 rfl) ?_
      refine lv_iload_n hx hb dL_law_373 rfl (lv_at hl 3 rfl) ?_
      refine lv_iconst (v := nI 1) hx hb dL_law_374 (by decide) ?_
      refine vz_add hx hb dL_law_375 ?_
      refine vz_sld hx hb hX hbl hbA hS (by omega) (by omega) dL_law_376 ?_
      refine vz_top (y := (nI 1)) ex ?_
      refine lv_aload_n hx hb dL_law_377 rfl (lv_at hl 0 rfl) ?_
      refine lv_iload_n hx hb dL_law_378 rfl (lv_at hl 3 rfl) ?_
      refine lv_iconst (v := nI 2) hx hb dL_law_379 (by decide) ?_
      refine vz_add hx hb dL_law_380 ?_
      refine vz_sld hx hb hX hbl hbA hS (by omega) (by omega) dL_law_381 ?_
      refine vz_top (y := (nI 2)) fx ?_
      refine vz_callV (n := 2) (As := [.int (nI 1), .int (nI 2)]) (rest := []) (q0 := 0) hcf (c_X1_same12 l D kA ad n fp fk fh c0 c1 c2 c3 f0 f1 f2 f3 hn hc1 hc2) gL_law_X1_same rfl hd_X1_same ⟨Nat.le_of_ble_eq_true rfl, Nat.le_of_ble_eq_true rfl⟩ hK (hP.sub [0, 1, 2, 3, 4, 5, 6, 7, 8, 9, 10, 11] rfl) rfl rfl rfl rfl hl.1 rfl (Nat.le_of_ble_eq_true rfl) ⟨Nat.le_of_ble_eq_true rfl, Nat.le_of_ble_eq_true rfl⟩ dL_law_382 ?_
      refine lv_aload_n hx hb dL_law_385 rfl (lv_at hl 2 rfl) ?_
      refine lv_aload_n hx hb dL_law_386 rfl (lv_at hl 0 rfl) ?_
      refine lv_iload_n hx hb dL_law_387 rfl (lv_at hl 3 rfl) ?_
      refine lv_iconst (v := nI 1) hx hb dL_law_388 (by decide) ?_
      refine vz_add hx hb dL_law_389 ?_
      refine vz_sld hx hb hX hbl hbA hS (by omega) (by omega) dL_law_390 ?_
      refine vz_top (y := (nI 1)) ex ?_
      refine lv_aload_n hx hb dL_law_391 rfl (lv_at hl 0 rfl) ?_
      refine lv_iload_n hx hb dL_law_392 rfl (lv_at hl 3 rfl) ?_
      refine lv_iconst (v := nI 2) hx hb dL_law_393 (by decide) ?_
      refine vz_add hx hb dL_law_394 ?_
      refine vz_sld hx hb hX hbl hbA hS (by omega) (by omega) dL_law_395 ?_
      refine vz_top (y := (nI 2)) fx ?_
      refine vz_callV (n := 2) (As := [.int (nI 1), .int (nI 2)]) (rest := [.int (vz_b (!exB (zN n) (fun p => !decide (fk p = nI 2) && (zX_inL fp c1 f1 p != zX_inL fp c2 f2 p))))]) (q0 := 0) hcf (c_X2_same12 l D kA me n g mk ss hn c1 (zv g 1) hs1 hc1 (fun _ _ => rfl) c2 (zv g 2) hs2 hc2 (fun _ _ => rfl)) gL_law_X2_same rfl hd_X2_same ⟨Nat.le_of_ble_eq_true rfl, Nat.le_of_ble_eq_true rfl⟩ hK (hP.sub [12, 13, 14, 15] rfl) rfl rfl rfl rfl hl.1 rfl (Nat.le_of_ble_eq_true rfl) ⟨Nat.le_of_ble_eq_true rfl, Nat.le_of_ble_eq_true rfl⟩ dL_law_396 ?_
      refine lv_icmp_eq (tgt := 473) hx hb dL_law_399 (by decide) (fun c_399 => ?_) (fun c_399 => absurd c_399 (fun h => h (congrArg vz_b (r_same O ha1 ha2))))
      subst hAz
      exact K n fp fk fh c0 c1 c2 c3 f0 f1 f2 f3 g mk ss _ _ _ r hP hD hS hl
    · skip
      refine lv_aload_n hx hb dL_law_371 rfl (lv_at hl 1 rfl) ?_
      refine lv_aload_n hx hb dL_law_372 rfl (lv_at hl 0 rfl) ?_
      refine lv_iload_n hx hb dL_law_373 rfl (lv_at hl 3 rfl) ?_
      refine lv_iconst (v := nI 1) hx hb dL_law_374 (by decide) ?_
      refine vz_add hx hb dL_law_375 ?_
      refine vz_sld hx hb hX hbl hbA hS (by omega) (by omega) dL_law_376 ?_
      refine vz_top (y := (nI 1)) ex ?_
      refine lv_aload_n hx hb dL_law_377 rfl (lv_at hl 0 rfl) ?_
      refine lv_iload_n hx hb dL_law_378 rfl (lv_at hl 3 rfl) ?_
      refine lv_iconst (v := nI 2) hx hb dL_law_379 (by decide) ?_
      refine vz_add hx hb dL_law_380 ?_
      refine vz_sld hx hb hX hbl hbA hS (by omega) (by omega) dL_law_381 ?_
      refine vz_callV (n := 2) (As := [.int (nI 1), .int (xs (i + 2))]) (rest := []) (q0 := 0) hcf (c_X1_same13 l D kA ad n fp fk fh c0 c1 c2 c3 f0 f1 f2 f3 hn (xs (i + 2)) fx) gL_law_X1_same rfl hd_X1_same ⟨Nat.le_of_ble_eq_true rfl, Nat.le_of_ble_eq_true rfl⟩ hK (hP.sub [0, 1, 2, 3, 4, 5, 6, 7, 8, 9, 10, 11] rfl) rfl rfl rfl rfl hl.1 rfl (Nat.le_of_ble_eq_true rfl) ⟨Nat.le_of_ble_eq_true rfl, Nat.le_of_ble_eq_true rfl⟩ dL_law_382 ?_
      refine lv_aload_n hx hb dL_law_385 rfl (lv_at hl 2 rfl) ?_
      refine lv_aload_n hx hb dL_law_386 rfl (lv_at hl 0 rfl) ?_
      refine lv_iload_n hx hb dL_law_387 rfl (lv_at hl 3 rfl) ?_
      refine lv_iconst (v := nI 1) hx hb dL_law_388 (by decide) ?_
      refine vz_add hx hb dL_law_389 ?_
      refine vz_sld hx hb hX hbl hbA hS (by omega) (by omega) dL_law_390 ?_
      refine vz_top (y := (nI 1)) ex ?_
      refine lv_aload_n hx hb dL_law_391 rfl (lv_at hl 0 rfl) ?_
      refine lv_iload_n hx hb dL_law_392 rfl (lv_at hl 3 rfl) ?_
      refine lv_iconst (v := nI 2) hx hb dL_law_393 (by decide) ?_
      refine vz_add hx hb dL_law_394 ?_
      refine vz_sld hx hb hX hbl hbA hS (by omega) (by omega) dL_law_395 ?_
      refine vz_callV (n := 2) (As := [.int (nI 1), .int (xs (i + 2))]) (rest := [.int (nI 0)]) (q0 := 0) hcf (c_X2_same13 l D kA me n g mk ss hn (xs (i + 2)) fy) gL_law_X2_same rfl hd_X2_same ⟨Nat.le_of_ble_eq_true rfl, Nat.le_of_ble_eq_true rfl⟩ hK (hP.sub [12, 13, 14, 15] rfl) rfl rfl rfl rfl hl.1 rfl (Nat.le_of_ble_eq_true rfl) ⟨Nat.le_of_ble_eq_true rfl, Nat.le_of_ble_eq_true rfl⟩ dL_law_396 ?_
      refine lv_icmp_eq (tgt := 473) hx hb dL_law_399 (by decide) (fun c_399 => ?_) (fun c_399 => absurd c_399 (fun h => h rfl))
      subst hAz
      exact K n fp fk fh c0 c1 c2 c3 f0 f1 f2 f3 g mk ss _ _ _ r hP hD hS hl
  · skip
    rcases l_list (xs (i + 2)) with fx | fx | fx | ⟨fx, fy⟩
    · skip
      refine lv_aload_n hx hb dL_law_371 rfl (lv_at hl 1 rfl) ?_
      refine lv_aload_n hx hb dL_law_372 rfl (lv_at hl 0 rfl) ?_
      refine lv_iload_n hx hb dL_law_373 rfl (lv_at hl 3 rfl) ?_
      refine lv_iconst (v := nI 1) hx hb dL_law_374 (by decide) ?_
      refine vz_add hx hb dL_law_375 ?_
      refine vz_sld hx hb hX hbl hbA hS (by omega) (by omega) dL_law_376 ?_
      refine vz_top (y := (nI 2)) ex ?_
      refine lv_aload_n hx hb dL_law_377 rfl (lv_at hl 0 rfl) ?_
      refine lv_iload_n hx hb dL_law_378 rfl (lv_at hl 3 rfl) ?_
      refine lv_iconst (v := nI 2) hx hb dL_law_379 (by decide) ?_
      refine vz_add hx hb dL_law_380 ?_
      refine vz_sld hx hb hX hbl hbA hS (by omega) (by omega) dL_law_381 ?_
      refine vz_top (y := (nI 0)) fx ?_
      refine vz_callV (n := 2) (As := [.int (nI 2), .int (nI 0)]) (rest := []) (q0 := 0) hcf (c_X1_same20 l D kA ad n fp fk fh c0 c1 c2 c3 f0 f1 f2 f3 hn hc2 hc0) gL_law_X1_same rfl hd_X1_same ⟨Nat.le_of_ble_eq_true rfl, Nat.le_of_ble_eq_true rfl⟩ hK (hP.sub [0, 1, 2, 3, 4, 5, 6, 7, 8, 9, 10, 11] rfl) rfl rfl rfl rfl hl.1 rfl (Nat.le_of_ble_eq_true rfl) ⟨Nat.le_of_ble_eq_true rfl, Nat.le_of_ble_eq_true rfl⟩ dL_law_382 ?_
      refine lv_aload_n hx hb dL_law_385 rfl (lv_at hl 2 rfl) ?_
      refine lv_aload_n hx hb dL_law_386 rfl (lv_at hl 0 rfl) ?_
      refine lv_iload_n hx hb dL_law_387 rfl (lv_at hl 3 rfl) ?_
      refine lv_iconst (v := nI 1) hx hb dL_law_388 (by decide) ?_
      refine vz_add hx hb dL_law_389 ?_
      refine vz_sld hx hb hX hbl hbA hS (by omega) (by omega) dL_law_390 ?_
      refine vz_top (y := (nI 2)) ex ?_
      refine lv_aload_n hx hb dL_law_391 rfl (lv_at hl 0 rfl) ?_
      refine lv_iload_n hx hb dL_law_392 rfl (lv_at hl 3 rfl) ?_
      refine lv_iconst (v := nI 2) hx hb dL_law_393 (by decide) ?_
      refine vz_add hx hb dL_law_394 ?_
      refine vz_sld hx hb hX hbl hbA hS (by omega) (by omega) dL_law_395 ?_
      refine vz_top (y := (nI 0)) fx ?_
      refine vz_callV (n := 2) (As := [.int (nI 2), .int (nI 0)]) (rest := [.int (vz_b (!exB (zN n) (fun p => !decide (fk p = nI 2) && (zX_inL fp c2 f2 p != zX_inL fp c0 f0 p))))]) (q0 := 0) hcf (c_X2_same20 l D kA me n g mk ss hn c2 (zv g 2) hs2 hc2 (fun _ _ => rfl) c0 (zv g 0) hs0 hc0 (fun _ _ => rfl)) gL_law_X2_same rfl hd_X2_same ⟨Nat.le_of_ble_eq_true rfl, Nat.le_of_ble_eq_true rfl⟩ hK (hP.sub [12, 13, 14, 15] rfl) rfl rfl rfl rfl hl.1 rfl (Nat.le_of_ble_eq_true rfl) ⟨Nat.le_of_ble_eq_true rfl, Nat.le_of_ble_eq_true rfl⟩ dL_law_396 ?_
      refine lv_icmp_eq (tgt := 473) hx hb dL_law_399 (by decide) (fun c_399 => ?_) (fun c_399 => absurd c_399 (fun h => h (congrArg vz_b (r_same O ha2 ha0))))
      subst hAz
      exact K n fp fk fh c0 c1 c2 c3 f0 f1 f2 f3 g mk ss _ _ _ r hP hD hS hl
    · skip
      refine lv_aload_n hx hb dL_law_371 rfl (lv_at hl 1 rfl) ?_
      refine lv_aload_n hx hb dL_law_372 rfl (lv_at hl 0 rfl) ?_
      refine lv_iload_n hx hb dL_law_373 rfl (lv_at hl 3 rfl) ?_
      refine lv_iconst (v := nI 1) hx hb dL_law_374 (by decide) ?_
      refine vz_add hx hb dL_law_375 ?_
      refine vz_sld hx hb hX hbl hbA hS (by omega) (by omega) dL_law_376 ?_
      refine vz_top (y := (nI 2)) ex ?_
      refine lv_aload_n hx hb dL_law_377 rfl (lv_at hl 0 rfl) ?_
      refine lv_iload_n hx hb dL_law_378 rfl (lv_at hl 3 rfl) ?_
      refine lv_iconst (v := nI 2) hx hb dL_law_379 (by decide) ?_
      refine vz_add hx hb dL_law_380 ?_
      refine vz_sld hx hb hX hbl hbA hS (by omega) (by omega) dL_law_381 ?_
      refine vz_top (y := (nI 1)) fx ?_
      refine vz_callV (n := 2) (As := [.int (nI 2), .int (nI 1)]) (rest := []) (q0 := 0) hcf (c_X1_same21 l D kA ad n fp fk fh c0 c1 c2 c3 f0 f1 f2 f3 hn hc2 hc1) gL_law_X1_same rfl hd_X1_same ⟨Nat.le_of_ble_eq_true rfl, Nat.le_of_ble_eq_true rfl⟩ hK (hP.sub [0, 1, 2, 3, 4, 5, 6, 7, 8, 9, 10, 11] rfl) rfl rfl rfl rfl hl.1 rfl (Nat.le_of_ble_eq_true rfl) ⟨Nat.le_of_ble_eq_true rfl, Nat.le_of_ble_eq_true rfl⟩ dL_law_382 ?_
      refine lv_aload_n hx hb dL_law_385 rfl (lv_at hl 2 rfl) ?_
      refine lv_aload_n hx hb dL_law_386 rfl (lv_at hl 0 rfl) ?_
      refine lv_iload_n hx hb dL_law_387 rfl (lv_at hl 3 rfl) ?_
      refine lv_iconst (v := nI 1) hx hb dL_law_388 (by decide) ?_
      refine vz_add hx hb dL_law_389 ?_
      refine vz_sld hx hb hX hbl hbA hS (by omega) (by omega) dL_law_390 ?_
      refine vz_top (y := (nI 2)) ex ?_
      refine lv_aload_n hx hb dL_law_391 rfl (lv_at hl 0 rfl) ?_
      refine lv_iload_n hx hb dL_law_392 rfl (lv_at hl 3 rfl) ?_
      refine lv_iconst (v := nI 2) hx hb dL_law_393 (by decide) ?_
      refine vz_add hx hb dL_law_394 ?_
      refine vz_sld hx hb hX hbl hbA hS (by omega) (by omega) dL_law_395 ?_
      refine vz_top (y := (nI 1)) fx ?_
      refine vz_callV (n := 2) (As := [.int (nI 2), .int (nI 1)]) (rest := [.int (vz_b (!exB (zN n) (fun p => !decide (fk p = nI 2) && (zX_inL fp c2 f2 p != zX_inL fp c1 f1 p))))]) (q0 := 0) hcf (c_X2_same21 l D kA me n g mk ss hn c2 (zv g 2) hs2 hc2 (fun _ _ => rfl) c1 (zv g 1) hs1 hc1 (fun _ _ => rfl)) gL_law_X2_same rfl hd_X2_same ⟨Nat.le_of_ble_eq_true rfl, Nat.le_of_ble_eq_true rfl⟩ hK (hP.sub [12, 13, 14, 15] rfl) rfl rfl rfl rfl hl.1 rfl (Nat.le_of_ble_eq_true rfl) ⟨Nat.le_of_ble_eq_true rfl, Nat.le_of_ble_eq_true rfl⟩ dL_law_396 ?_
      refine lv_icmp_eq (tgt := 473) hx hb dL_law_399 (by decide) (fun c_399 => ?_) (fun c_399 => absurd c_399 (fun h => h (congrArg vz_b (r_same O ha2 ha1))))
      subst hAz
      exact K n fp fk fh c0 c1 c2 c3 f0 f1 f2 f3 g mk ss _ _ _ r hP hD hS hl
    · skip
      refine lv_aload_n hx hb dL_law_371 rfl (lv_at hl 1 rfl) ?_
      refine lv_aload_n hx hb dL_law_372 rfl (lv_at hl 0 rfl) ?_
      refine lv_iload_n hx hb dL_law_373 rfl (lv_at hl 3 rfl) ?_
      refine lv_iconst (v := nI 1) hx hb dL_law_374 (by decide) ?_
      refine vz_add hx hb dL_law_375 ?_
      refine vz_sld hx hb hX hbl hbA hS (by omega) (by omega) dL_law_376 ?_
      refine vz_top (y := (nI 2)) ex ?_
      refine lv_aload_n hx hb dL_law_377 rfl (lv_at hl 0 rfl) ?_
      refine lv_iload_n hx hb dL_law_378 rfl (lv_at hl 3 rfl) ?_
      refine lv_iconst (v := nI 2) hx hb dL_law_379 (by decide) ?_
      refine vz_add hx hb dL_law_380 ?_
      refine vz_sld hx hb hX hbl hbA hS (by omega) (by omega) dL_law_381 ?_
      refine vz_top (y := (nI 2)) fx ?_
      refine vz_callV (n := 2) (As := [.int (nI 2), .int (nI 2)]) (rest := []) (q0 := 0) hcf (c_X1_same22 l D kA ad n fp fk fh c0 c1 c2 c3 f0 f1 f2 f3 hn hc2 hc2) gL_law_X1_same rfl hd_X1_same ⟨Nat.le_of_ble_eq_true rfl, Nat.le_of_ble_eq_true rfl⟩ hK (hP.sub [0, 1, 2, 3, 4, 5, 6, 7, 8, 9, 10, 11] rfl) rfl rfl rfl rfl hl.1 rfl (Nat.le_of_ble_eq_true rfl) ⟨Nat.le_of_ble_eq_true rfl, Nat.le_of_ble_eq_true rfl⟩ dL_law_382 ?_
      refine lv_aload_n hx hb dL_law_385 rfl (lv_at hl 2 rfl) ?_
      refine lv_aload_n hx hb dL_law_386 rfl (lv_at hl 0 rfl) ?_
      refine lv_iload_n hx hb dL_law_387 rfl (lv_at hl 3 rfl) ?_
      refine lv_iconst (v := nI 1) hx hb dL_law_388 (by decide) ?_
      refine vz_add hx hb dL_law_389 ?_
      refine vz_sld hx hb hX hbl hbA hS (by omega) (by omega) dL_law_390 ?_
      refine vz_top (y := (nI 2)) ex ?_
      refine lv_aload_n hx hb dL_law_391 rfl (lv_at hl 0 rfl) ?_
      refine lv_iload_n hx hb dL_law_392 rfl (lv_at hl 3 rfl) ?_
      refine lv_iconst (v := nI 2) hx hb dL_law_393 (by decide) ?_
      refine vz_add hx hb dL_law_394 ?_
      refine vz_sld hx hb hX hbl hbA hS (by omega) (by omega) dL_law_395 ?_
      refine vz_top (y := (nI 2)) fx ?_
      refine vz_callV (n := 2) (As := [.int (nI 2), .int (nI 2)]) (rest := [.int (vz_b (!exB (zN n) (fun p => !decide (fk p = nI 2) && (zX_inL fp c2 f2 p != zX_inL fp c2 f2 p))))]) (q0 := 0) hcf (c_X2_same22 l D kA me n g mk ss hn c2 (zv g 2) hs2 hc2 (fun _ _ => rfl) c2 (zv g 2) hs2 hc2 (fun _ _ => rfl)) gL_law_X2_same rfl hd_X2_same ⟨Nat.le_of_ble_eq_true rfl, Nat.le_of_ble_eq_true rfl⟩ hK (hP.sub [12, 13, 14, 15] rfl) rfl rfl rfl rfl hl.1 rfl (Nat.le_of_ble_eq_true rfl) ⟨Nat.le_of_ble_eq_true rfl, Nat.le_of_ble_eq_true rfl⟩ dL_law_396 ?_
      refine lv_icmp_eq (tgt := 473) hx hb dL_law_399 (by decide) (fun c_399 => ?_) (fun c_399 => absurd c_399 (fun h => h (congrArg vz_b (r_same O ha2 ha2))))
      subst hAz
      exact K n fp fk fh c0 c1 c2 c3 f0 f1 f2 f3 g mk ss _ _ _ r hP hD hS hl
    · skip
      refine lv_aload_n hx hb dL_law_371 rfl (lv_at hl 1 rfl) ?_
      refine lv_aload_n hx hb dL_law_372 rfl (lv_at hl 0 rfl) ?_
      refine lv_iload_n hx hb dL_law_373 rfl (lv_at hl 3 rfl) ?_
      refine lv_iconst (v := nI 1) hx hb dL_law_374 (by decide) ?_
      refine vz_add hx hb dL_law_375 ?_
      refine vz_sld hx hb hX hbl hbA hS (by omega) (by omega) dL_law_376 ?_
      refine vz_top (y := (nI 2)) ex ?_
      refine lv_aload_n hx hb dL_law_377 rfl (lv_at hl 0 rfl) ?_
      refine lv_iload_n hx hb dL_law_378 rfl (lv_at hl 3 rfl) ?_
      refine lv_iconst (v := nI 2) hx hb dL_law_379 (by decide) ?_
      refine vz_add hx hb dL_law_380 ?_
      refine vz_sld hx hb hX hbl hbA hS (by omega) (by omega) dL_law_381 ?_
      refine vz_callV (n := 2) (As := [.int (nI 2), .int (xs (i + 2))]) (rest := []) (q0 := 0) hcf (c_X1_same23 l D kA ad n fp fk fh c0 c1 c2 c3 f0 f1 f2 f3 hn (xs (i + 2)) fx) gL_law_X1_same rfl hd_X1_same ⟨Nat.le_of_ble_eq_true rfl, Nat.le_of_ble_eq_true rfl⟩ hK (hP.sub [0, 1, 2, 3, 4, 5, 6, 7, 8, 9, 10, 11] rfl) rfl rfl rfl rfl hl.1 rfl (Nat.le_of_ble_eq_true rfl) ⟨Nat.le_of_ble_eq_true rfl, Nat.le_of_ble_eq_true rfl⟩ dL_law_382 ?_
      refine lv_aload_n hx hb dL_law_385 rfl (lv_at hl 2 rfl) ?_
      refine lv_aload_n hx hb dL_law_386 rfl (lv_at hl 0 rfl) ?_
      refine lv_iload_n hx hb dL_law_387 rfl (lv_at hl 3 rfl) ?_
      refine lv_iconst (v := nI 1) hx hb dL_law_388 (by decide) ?_
      refine vz_add hx hb dL_law_389 ?_
      refine vz_sld hx hb hX hbl hbA hS (by omega) (by omega) dL_law_390 ?_
      refine vz_top (y := (nI 2)) ex ?_
      refine lv_aload_n hx hb dL_law_391 rfl (lv_at hl 0 rfl) ?_
      refine lv_iload_n hx hb dL_law_392 rfl (lv_at hl 3 rfl) ?_
      refine lv_iconst (v := nI 2) hx hb dL_law_393 (by decide) ?_
      refine vz_add hx hb dL_law_394 ?_
      refine vz_sld hx hb hX hbl hbA hS (by omega) (by omega) dL_law_395 ?_
      refine vz_callV (n := 2) (As := [.int (nI 2), .int (xs (i + 2))]) (rest := [.int (nI 0)]) (q0 := 0) hcf (c_X2_same23 l D kA me n g mk ss hn (xs (i + 2)) fy) gL_law_X2_same rfl hd_X2_same ⟨Nat.le_of_ble_eq_true rfl, Nat.le_of_ble_eq_true rfl⟩ hK (hP.sub [12, 13, 14, 15] rfl) rfl rfl rfl rfl hl.1 rfl (Nat.le_of_ble_eq_true rfl) ⟨Nat.le_of_ble_eq_true rfl, Nat.le_of_ble_eq_true rfl⟩ dL_law_396 ?_
      refine lv_icmp_eq (tgt := 473) hx hb dL_law_399 (by decide) (fun c_399 => ?_) (fun c_399 => absurd c_399 (fun h => h rfl))
      subst hAz
      exact K n fp fk fh c0 c1 c2 c3 f0 f1 f2 f3 g mk ss _ _ _ r hP hD hS hl
  · skip
    rcases l_list (xs (i + 2)) with fx | fx | fx | ⟨fx, fy⟩
    · skip
      refine lv_aload_n hx hb dL_law_371 rfl (lv_at hl 1 rfl) ?_
      refine lv_aload_n hx hb dL_law_372 rfl (lv_at hl 0 rfl) ?_
      refine lv_iload_n hx hb dL_law_373 rfl (lv_at hl 3 rfl) ?_
      refine lv_iconst (v := nI 1) hx hb dL_law_374 (by decide) ?_
      refine vz_add hx hb dL_law_375 ?_
      refine vz_sld hx hb hX hbl hbA hS (by omega) (by omega) dL_law_376 ?_
      refine lv_aload_n hx hb dL_law_377 rfl (lv_at hl 0 rfl) ?_
      refine lv_iload_n hx hb dL_law_378 rfl (lv_at hl 3 rfl) ?_
      refine lv_iconst (v := nI 2) hx hb dL_law_379 (by decide) ?_
      refine vz_add hx hb dL_law_380 ?_
      refine vz_sld hx hb hX hbl hbA hS (by omega) (by omega) dL_law_381 ?_
      refine vz_top (y := (nI 0)) fx ?_
      refine vz_callV (n := 2) (As := [.int (xs (i + 1)), .int (nI 0)]) (rest := []) (q0 := 0) hcf (c_X1_same30 l D kA ad n fp fk fh c0 c1 c2 c3 f0 f1 f2 f3 hn (xs (i + 1)) ex) gL_law_X1_same rfl hd_X1_same ⟨Nat.le_of_ble_eq_true rfl, Nat.le_of_ble_eq_true rfl⟩ hK (hP.sub [0, 1, 2, 3, 4, 5, 6, 7, 8, 9, 10, 11] rfl) rfl rfl rfl rfl hl.1 rfl (Nat.le_of_ble_eq_true rfl) ⟨Nat.le_of_ble_eq_true rfl, Nat.le_of_ble_eq_true rfl⟩ dL_law_382 ?_
      refine lv_aload_n hx hb dL_law_385 rfl (lv_at hl 2 rfl) ?_
      refine lv_aload_n hx hb dL_law_386 rfl (lv_at hl 0 rfl) ?_
      refine lv_iload_n hx hb dL_law_387 rfl (lv_at hl 3 rfl) ?_
      refine lv_iconst (v := nI 1) hx hb dL_law_388 (by decide) ?_
      refine vz_add hx hb dL_law_389 ?_
      refine vz_sld hx hb hX hbl hbA hS (by omega) (by omega) dL_law_390 ?_
      refine lv_aload_n hx hb dL_law_391 rfl (lv_at hl 0 rfl) ?_
      refine lv_iload_n hx hb dL_law_392 rfl (lv_at hl 3 rfl) ?_
      refine lv_iconst (v := nI 2) hx hb dL_law_393 (by decide) ?_
      refine vz_add hx hb dL_law_394 ?_
      refine vz_sld hx hb hX hbl hbA hS (by omega) (by omega) dL_law_395 ?_
      refine vz_top (y := (nI 0)) fx ?_
      refine vz_callV (n := 2) (As := [.int (xs (i + 1)), .int (nI 0)]) (rest := [.int (nI 0)]) (q0 := 0) hcf (c_X2_same30 l D kA me n g mk ss hn (xs (i + 1)) ey) gL_law_X2_same rfl hd_X2_same ⟨Nat.le_of_ble_eq_true rfl, Nat.le_of_ble_eq_true rfl⟩ hK (hP.sub [12, 13, 14, 15] rfl) rfl rfl rfl rfl hl.1 rfl (Nat.le_of_ble_eq_true rfl) ⟨Nat.le_of_ble_eq_true rfl, Nat.le_of_ble_eq_true rfl⟩ dL_law_396 ?_
      refine lv_icmp_eq (tgt := 473) hx hb dL_law_399 (by decide) (fun c_399 => ?_) (fun c_399 => absurd c_399 (fun h => h rfl))
      subst hAz
      exact K n fp fk fh c0 c1 c2 c3 f0 f1 f2 f3 g mk ss _ _ _ r hP hD hS hl
    · skip
      refine lv_aload_n hx hb dL_law_371 rfl (lv_at hl 1 rfl) ?_
      refine lv_aload_n hx hb dL_law_372 rfl (lv_at hl 0 rfl) ?_
      refine lv_iload_n hx hb dL_law_373 rfl (lv_at hl 3 rfl) ?_
      refine lv_iconst (v := nI 1) hx hb dL_law_374 (by decide) ?_
      refine vz_add hx hb dL_law_375 ?_
      refine vz_sld hx hb hX hbl hbA hS (by omega) (by omega) dL_law_376 ?_
      refine lv_aload_n hx hb dL_law_377 rfl (lv_at hl 0 rfl) ?_
      refine lv_iload_n hx hb dL_law_378 rfl (lv_at hl 3 rfl) ?_
      refine lv_iconst (v := nI 2) hx hb dL_law_379 (by decide) ?_
      refine vz_add hx hb dL_law_380 ?_
      refine vz_sld hx hb hX hbl hbA hS (by omega) (by omega) dL_law_381 ?_
      refine vz_top (y := (nI 1)) fx ?_
      refine vz_callV (n := 2) (As := [.int (xs (i + 1)), .int (nI 1)]) (rest := []) (q0 := 0) hcf (c_X1_same31 l D kA ad n fp fk fh c0 c1 c2 c3 f0 f1 f2 f3 hn (xs (i + 1)) ex) gL_law_X1_same rfl hd_X1_same ⟨Nat.le_of_ble_eq_true rfl, Nat.le_of_ble_eq_true rfl⟩ hK (hP.sub [0, 1, 2, 3, 4, 5, 6, 7, 8, 9, 10, 11] rfl) rfl rfl rfl rfl hl.1 rfl (Nat.le_of_ble_eq_true rfl) ⟨Nat.le_of_ble_eq_true rfl, Nat.le_of_ble_eq_true rfl⟩ dL_law_382 ?_
      refine lv_aload_n hx hb dL_law_385 rfl (lv_at hl 2 rfl) ?_
      refine lv_aload_n hx hb dL_law_386 rfl (lv_at hl 0 rfl) ?_
      refine lv_iload_n hx hb dL_law_387 rfl (lv_at hl 3 rfl) ?_
      refine lv_iconst (v := nI 1) hx hb dL_law_388 (by decide) ?_
      refine vz_add hx hb dL_law_389 ?_
      refine vz_sld hx hb hX hbl hbA hS (by omega) (by omega) dL_law_390 ?_
      refine lv_aload_n hx hb dL_law_391 rfl (lv_at hl 0 rfl) ?_
      refine lv_iload_n hx hb dL_law_392 rfl (lv_at hl 3 rfl) ?_
      refine lv_iconst (v := nI 2) hx hb dL_law_393 (by decide) ?_
      refine vz_add hx hb dL_law_394 ?_
      refine vz_sld hx hb hX hbl hbA hS (by omega) (by omega) dL_law_395 ?_
      refine vz_top (y := (nI 1)) fx ?_
      refine vz_callV (n := 2) (As := [.int (xs (i + 1)), .int (nI 1)]) (rest := [.int (nI 0)]) (q0 := 0) hcf (c_X2_same31 l D kA me n g mk ss hn (xs (i + 1)) ey) gL_law_X2_same rfl hd_X2_same ⟨Nat.le_of_ble_eq_true rfl, Nat.le_of_ble_eq_true rfl⟩ hK (hP.sub [12, 13, 14, 15] rfl) rfl rfl rfl rfl hl.1 rfl (Nat.le_of_ble_eq_true rfl) ⟨Nat.le_of_ble_eq_true rfl, Nat.le_of_ble_eq_true rfl⟩ dL_law_396 ?_
      refine lv_icmp_eq (tgt := 473) hx hb dL_law_399 (by decide) (fun c_399 => ?_) (fun c_399 => absurd c_399 (fun h => h rfl))
      subst hAz
      exact K n fp fk fh c0 c1 c2 c3 f0 f1 f2 f3 g mk ss _ _ _ r hP hD hS hl
    · skip
      refine lv_aload_n hx hb dL_law_371 rfl (lv_at hl 1 rfl) ?_
      refine lv_aload_n hx hb dL_law_372 rfl (lv_at hl 0 rfl) ?_
      refine lv_iload_n hx hb dL_law_373 rfl (lv_at hl 3 rfl) ?_
      refine lv_iconst (v := nI 1) hx hb dL_law_374 (by decide) ?_
      refine vz_add hx hb dL_law_375 ?_
      refine vz_sld hx hb hX hbl hbA hS (by omega) (by omega) dL_law_376 ?_
      refine lv_aload_n hx hb dL_law_377 rfl (lv_at hl 0 rfl) ?_
      refine lv_iload_n hx hb dL_law_378 rfl (lv_at hl 3 rfl) ?_
      refine lv_iconst (v := nI 2) hx hb dL_law_379 (by decide) ?_
      refine vz_add hx hb dL_law_380 ?_
      refine vz_sld hx hb hX hbl hbA hS (by omega) (by omega) dL_law_381 ?_
      refine vz_top (y := (nI 2)) fx ?_
      refine vz_callV (n := 2) (As := [.int (xs (i + 1)), .int (nI 2)]) (rest := []) (q0 := 0) hcf (c_X1_same32 l D kA ad n fp fk fh c0 c1 c2 c3 f0 f1 f2 f3 hn (xs (i + 1)) ex) gL_law_X1_same rfl hd_X1_same ⟨Nat.le_of_ble_eq_true rfl, Nat.le_of_ble_eq_true rfl⟩ hK (hP.sub [0, 1, 2, 3, 4, 5, 6, 7, 8, 9, 10, 11] rfl) rfl rfl rfl rfl hl.1 rfl (Nat.le_of_ble_eq_true rfl) ⟨Nat.le_of_ble_eq_true rfl, Nat.le_of_ble_eq_true rfl⟩ dL_law_382 ?_
      refine lv_aload_n hx hb dL_law_385 rfl (lv_at hl 2 rfl) ?_
      refine lv_aload_n hx hb dL_law_386 rfl (lv_at hl 0 rfl) ?_
      refine lv_iload_n hx hb dL_law_387 rfl (lv_at hl 3 rfl) ?_
      refine lv_iconst (v := nI 1) hx hb dL_law_388 (by decide) ?_
      refine vz_add hx hb dL_law_389 ?_
      refine vz_sld hx hb hX hbl hbA hS (by omega) (by omega) dL_law_390 ?_
      refine lv_aload_n hx hb dL_law_391 rfl (lv_at hl 0 rfl) ?_
      refine lv_iload_n hx hb dL_law_392 rfl (lv_at hl 3 rfl) ?_
      refine lv_iconst (v := nI 2) hx hb dL_law_393 (by decide) ?_
      refine vz_add hx hb dL_law_394 ?_
      refine vz_sld hx hb hX hbl hbA hS (by omega) (by omega) dL_law_395 ?_
      refine vz_top (y := (nI 2)) fx ?_
      refine vz_callV (n := 2) (As := [.int (xs (i + 1)), .int (nI 2)]) (rest := [.int (nI 0)]) (q0 := 0) hcf (c_X2_same32 l D kA me n g mk ss hn (xs (i + 1)) ey) gL_law_X2_same rfl hd_X2_same ⟨Nat.le_of_ble_eq_true rfl, Nat.le_of_ble_eq_true rfl⟩ hK (hP.sub [12, 13, 14, 15] rfl) rfl rfl rfl rfl hl.1 rfl (Nat.le_of_ble_eq_true rfl) ⟨Nat.le_of_ble_eq_true rfl, Nat.le_of_ble_eq_true rfl⟩ dL_law_396 ?_
      refine lv_icmp_eq (tgt := 473) hx hb dL_law_399 (by decide) (fun c_399 => ?_) (fun c_399 => absurd c_399 (fun h => h rfl))
      subst hAz
      exact K n fp fk fh c0 c1 c2 c3 f0 f1 f2 f3 g mk ss _ _ _ r hP hD hS hl
    · skip
      refine lv_aload_n hx hb dL_law_371 rfl (lv_at hl 1 rfl) ?_
      refine lv_aload_n hx hb dL_law_372 rfl (lv_at hl 0 rfl) ?_
      refine lv_iload_n hx hb dL_law_373 rfl (lv_at hl 3 rfl) ?_
      refine lv_iconst (v := nI 1) hx hb dL_law_374 (by decide) ?_
      refine vz_add hx hb dL_law_375 ?_
      refine vz_sld hx hb hX hbl hbA hS (by omega) (by omega) dL_law_376 ?_
      refine lv_aload_n hx hb dL_law_377 rfl (lv_at hl 0 rfl) ?_
      refine lv_iload_n hx hb dL_law_378 rfl (lv_at hl 3 rfl) ?_
      refine lv_iconst (v := nI 2) hx hb dL_law_379 (by decide) ?_
      refine vz_add hx hb dL_law_380 ?_
      refine vz_sld hx hb hX hbl hbA hS (by omega) (by omega) dL_law_381 ?_
      refine vz_callV (n := 2) (As := [.int (xs (i + 1)), .int (xs (i + 2))]) (rest := []) (q0 := 0) hcf (c_X1_same33 l D kA ad n fp fk fh c0 c1 c2 c3 f0 f1 f2 f3 hn (xs (i + 1)) (xs (i + 2)) ex fx) gL_law_X1_same rfl hd_X1_same ⟨Nat.le_of_ble_eq_true rfl, Nat.le_of_ble_eq_true rfl⟩ hK (hP.sub [0, 1, 2, 3, 4, 5, 6, 7, 8, 9, 10, 11] rfl) rfl rfl rfl rfl hl.1 rfl (Nat.le_of_ble_eq_true rfl) ⟨Nat.le_of_ble_eq_true rfl, Nat.le_of_ble_eq_true rfl⟩ dL_law_382 ?_
      refine lv_aload_n hx hb dL_law_385 rfl (lv_at hl 2 rfl) ?_
      refine lv_aload_n hx hb dL_law_386 rfl (lv_at hl 0 rfl) ?_
      refine lv_iload_n hx hb dL_law_387 rfl (lv_at hl 3 rfl) ?_
      refine lv_iconst (v := nI 1) hx hb dL_law_388 (by decide) ?_
      refine vz_add hx hb dL_law_389 ?_
      refine vz_sld hx hb hX hbl hbA hS (by omega) (by omega) dL_law_390 ?_
      refine lv_aload_n hx hb dL_law_391 rfl (lv_at hl 0 rfl) ?_
      refine lv_iload_n hx hb dL_law_392 rfl (lv_at hl 3 rfl) ?_
      refine lv_iconst (v := nI 2) hx hb dL_law_393 (by decide) ?_
      refine vz_add hx hb dL_law_394 ?_
      refine vz_sld hx hb hX hbl hbA hS (by omega) (by omega) dL_law_395 ?_
      refine vz_callV (n := 2) (As := [.int (xs (i + 1)), .int (xs (i + 2))]) (rest := [.int (nI 0)]) (q0 := 0) hcf (c_X2_same33 l D kA me n g mk ss hn (xs (i + 1)) ey (xs (i + 2)) fy) gL_law_X2_same rfl hd_X2_same ⟨Nat.le_of_ble_eq_true rfl, Nat.le_of_ble_eq_true rfl⟩ hK (hP.sub [12, 13, 14, 15] rfl) rfl rfl rfl rfl hl.1 rfl (Nat.le_of_ble_eq_true rfl) ⟨Nat.le_of_ble_eq_true rfl, Nat.le_of_ble_eq_true rfl⟩ dL_law_396 ?_
      refine lv_icmp_eq (tgt := 473) hx hb dL_law_399 (by decide) (fun c_399 => ?_) (fun c_399 => absurd c_399 (fun h => h rfl))
      subst hAz
      exact K n fp fk fh c0 c1 c2 c3 f0 f1 f2 f3 g mk ss _ _ _ r hP hD hS hl
set_option maxHeartbeats 4000000 in
set_option maxRecDepth 100000 in
theorem law_case12 {pz : Program} {l : Launch} {ez : Env} {sz : State} {mz : MethodId} {below : List Frame} {meth : Method} {cz : Code} {D : va_G} {kA : ClassId} {b L : Nat} {xs : Nat → Int32} (hL : L ≤ 1536) (C0 : lw_At pz sz mz meth cz b L xs) (hK : va_K D vwCl [(kA, .int)] sz) (i : Nat) (hi : i + 3 ≤ L) (ad me : Nat → Nat) (K : lw_K pz l ez sz mz below meth cz D kA b i ad me 473) : lw_K pz l ez sz mz below meth cz D kA b i ad me 404 := by
  intro n fp fk fh c0 c1 c2 c3 f0 f1 f2 f3 g mk ss H locs ls r hP hD hS hl
  obtain ⟨hx, hb, hr, hml, hown, hts0, hX, hbl, hlocks, hgv⟩ := C0
  have hts := fun w h => hts0 w (wsL_law_in w h)
  have hcf : CallFix pz mz cz cL_law 4 sz #[Value.ref b] wsL_law RL := ⟨hx, hb, hml, hown, hts⟩
  have O := r_ok r
  obtain ⟨⟨hn1, hn⟩, ⟨hc0, hc1, hc2, hc3⟩, ⟨hs0, hs1, hs2, hs3⟩, ⟨ha0, ha1, ha2⟩, ⟨hN0, hN1, hN2⟩, -⟩ := id r
  have hbA : ¬ (fun q : Nat => sz.heap.size ≤ q) b := Nat.not_le.mpr hbl
  generalize hAz : (fun q : Nat => sz.heap.size ≤ q) = Az at hD hS hbA
  have hP : va_P D vwCl [(ad 0, .inr (1, [.ref (ad 1), .ref (ad 2), .ref (ad 3), .ref (ad 4), .ref (ad 5), .ref (ad 6), .ref (ad 7), .int (nI n)])), (ad 5, .inl (kA, 256, .inl fp)), (ad 6, .inl (kA, 256, .inl fk)), (ad 7, .inl (kA, 256, .inl fh)), (ad 1, .inr (0, [.ref (ad 8), .int (nI c0)])), (ad 8, .inl (kA, 24, .inl f0)), (ad 2, .inr (0, [.ref (ad 9), .int (nI c1)])), (ad 9, .inl (kA, 24, .inl f1)), (ad 3, .inr (0, [.ref (ad 10), .int (nI c2)])), (ad 10, .inl (kA, 24, .inl f2)), (ad 4, .inr (0, [.ref (ad 11), .int (nI c3)])), (ad 11, .inl (kA, 24, .inl f3)), (me 0, .inr (2, [.ref (me 1), .ref (me 2), .ref (me 3), .int (nI n)])), (me 1, .inl (kA, 96, .inl g)), (me 2, .inl (kA, 4, .inl (fun j => nI (ss j)))), (me 3, .inl (kA, 256, .inl mk))] H := hP
  have hD : va_D Az [(ad 0, .inr (1, [.ref (ad 1), .ref (ad 2), .ref (ad 3), .ref (ad 4), .ref (ad 5), .ref (ad 6), .ref (ad 7), .int (nI n)])), (ad 5, .inl (kA, 256, .inl fp)), (ad 6, .inl (kA, 256, .inl fk)), (ad 7, .inl (kA, 256, .inl fh)), (ad 1, .inr (0, [.ref (ad 8), .int (nI c0)])), (ad 8, .inl (kA, 24, .inl f0)), (ad 2, .inr (0, [.ref (ad 9), .int (nI c1)])), (ad 9, .inl (kA, 24, .inl f1)), (ad 3, .inr (0, [.ref (ad 10), .int (nI c2)])), (ad 10, .inl (kA, 24, .inl f2)), (ad 4, .inr (0, [.ref (ad 11), .int (nI c3)])), (ad 11, .inl (kA, 24, .inl f3)), (me 0, .inr (2, [.ref (me 1), .ref (me 2), .ref (me 3), .int (nI n)])), (me 1, .inl (kA, 96, .inl g)), (me 2, .inl (kA, 4, .inl (fun j => nI (ss j)))), (me 3, .inl (kA, 256, .inl mk))] := hD
  rcases l_list (xs (i + 1)) with ex | ex | ex | ⟨ex, ey⟩
  · skip
    refine lv_aload_n hx hb dL_law_404 rfl (lv_at hl 1 rfl) ?_
    refine lv_aload_n hx hb dL_law_405 rfl (lv_at hl 0 rfl) ?_
    refine lv_iload_n hx hb dL_law_406 rfl (lv_at hl 3 rfl) ?_
    refine lv_iconst (v := nI 1) hx hb dL_law_407 (by decide) ?_
    refine vz_add hx hb dL_law_408 ?_
    refine vz_sld hx hb hX hbl hbA hS (by omega) (by omega) dL_law_409 ?_
    refine vz_top (y := (nI 0)) ex ?_
    refine lv_aload_n hx hb dL_law_410 rfl (lv_at hl 0 rfl) ?_
    refine lv_iload_n hx hb dL_law_411 rfl (lv_at hl 3 rfl) ?_
    refine lv_iconst (v := nI 2) hx hb dL_law_412 (by decide) ?_
    refine vz_add hx hb dL_law_413 ?_
    refine vz_sld hx hb hX hbl hbA hS (by omega) (by omega) dL_law_414 ?_
    refine vz_callV (n := 2) (As := [.int (nI 0), .int (xs (i + 2))]) (rest := []) (q0 := 0) hcf (c_X1_prime0 l D kA ad n fp fk fh c0 c1 c2 c3 f0 f1 f2 f3 hn hc0 (xs (i + 2))) gL_law_X1_prime rfl hd_X1_prime ⟨Nat.le_of_ble_eq_true rfl, Nat.le_of_ble_eq_true rfl⟩ hK (hP.sub [0, 1, 2, 3, 4, 5, 6, 7, 8, 9, 10, 11] rfl) rfl rfl rfl rfl hl.1 rfl (Nat.le_of_ble_eq_true rfl) ⟨Nat.le_of_ble_eq_true rfl, Nat.le_of_ble_eq_true rfl⟩ dL_law_415 ?_
    refine lv_aload_n hx hb dL_law_418 rfl (lv_at hl 2 rfl) ?_
    refine lv_aload_n hx hb dL_law_419 rfl (lv_at hl 0 rfl) ?_
    refine lv_iload_n hx hb dL_law_420 rfl (lv_at hl 3 rfl) ?_
    refine lv_iconst (v := nI 1) hx hb dL_law_421 (by decide) ?_
    refine vz_add hx hb dL_law_422 ?_
    refine vz_sld hx hb hX hbl hbA hS (by omega) (by omega) dL_law_423 ?_
    refine vz_top (y := (nI 0)) ex ?_
    refine lv_aload_n hx hb dL_law_424 rfl (lv_at hl 0 rfl) ?_
    refine lv_iload_n hx hb dL_law_425 rfl (lv_at hl 3 rfl) ?_
    refine lv_iconst (v := nI 2) hx hb dL_law_426 (by decide) ?_
    refine vz_add hx hb dL_law_427 ?_
    refine vz_sld hx hb hX hbl hbA hS (by omega) (by omega) dL_law_428 ?_
    refine vz_callV (n := 2) (As := [.int (nI 0), .int (xs (i + 2))]) (rest := [.int (vz_b (!decide ((zat c0 f0 (xs (i + 2))) = -1) && (!zvoid n (zat c0 f0 (xs (i + 2))) && (!ztch n fk (zX_in fp) (zat c0 f0 (xs (i + 2))) && !zcg n (ztch n fk (zX_in fp)) (zat c0 f0 (xs (i + 2)))))))]) (q0 := 0) hcf (c_X2_prime0 l D kA me n g mk ss hn c0 (zv g 0) hs0 hc0 (fun _ _ => rfl) (xs (i + 2))) gL_law_X2_prime rfl hd_X2_prime ⟨Nat.le_of_ble_eq_true rfl, Nat.le_of_ble_eq_true rfl⟩ hK (hP.sub [12, 13, 14, 15] rfl) rfl rfl rfl rfl hl.1 rfl (Nat.le_of_ble_eq_true rfl) ⟨Nat.le_of_ble_eq_true rfl, Nat.le_of_ble_eq_true rfl⟩ dL_law_429 ?_
    refine lv_icmp_eq (tgt := 473) hx hb dL_law_432 (by decide) (fun c_432 => ?_) (fun c_432 => absurd c_432 (fun h => h (congrArg vz_b (r_prime O hc0 ha0 hN0 _))))
    subst hAz
    exact K n fp fk fh c0 c1 c2 c3 f0 f1 f2 f3 g mk ss _ _ _ r hP hD hS hl
  · skip
    refine lv_aload_n hx hb dL_law_404 rfl (lv_at hl 1 rfl) ?_
    refine lv_aload_n hx hb dL_law_405 rfl (lv_at hl 0 rfl) ?_
    refine lv_iload_n hx hb dL_law_406 rfl (lv_at hl 3 rfl) ?_
    refine lv_iconst (v := nI 1) hx hb dL_law_407 (by decide) ?_
    refine vz_add hx hb dL_law_408 ?_
    refine vz_sld hx hb hX hbl hbA hS (by omega) (by omega) dL_law_409 ?_
    refine vz_top (y := (nI 1)) ex ?_
    refine lv_aload_n hx hb dL_law_410 rfl (lv_at hl 0 rfl) ?_
    refine lv_iload_n hx hb dL_law_411 rfl (lv_at hl 3 rfl) ?_
    refine lv_iconst (v := nI 2) hx hb dL_law_412 (by decide) ?_
    refine vz_add hx hb dL_law_413 ?_
    refine vz_sld hx hb hX hbl hbA hS (by omega) (by omega) dL_law_414 ?_
    refine vz_callV (n := 2) (As := [.int (nI 1), .int (xs (i + 2))]) (rest := []) (q0 := 0) hcf (c_X1_prime1 l D kA ad n fp fk fh c0 c1 c2 c3 f0 f1 f2 f3 hn hc1 (xs (i + 2))) gL_law_X1_prime rfl hd_X1_prime ⟨Nat.le_of_ble_eq_true rfl, Nat.le_of_ble_eq_true rfl⟩ hK (hP.sub [0, 1, 2, 3, 4, 5, 6, 7, 8, 9, 10, 11] rfl) rfl rfl rfl rfl hl.1 rfl (Nat.le_of_ble_eq_true rfl) ⟨Nat.le_of_ble_eq_true rfl, Nat.le_of_ble_eq_true rfl⟩ dL_law_415 ?_
    refine lv_aload_n hx hb dL_law_418 rfl (lv_at hl 2 rfl) ?_
    refine lv_aload_n hx hb dL_law_419 rfl (lv_at hl 0 rfl) ?_
    refine lv_iload_n hx hb dL_law_420 rfl (lv_at hl 3 rfl) ?_
    refine lv_iconst (v := nI 1) hx hb dL_law_421 (by decide) ?_
    refine vz_add hx hb dL_law_422 ?_
    refine vz_sld hx hb hX hbl hbA hS (by omega) (by omega) dL_law_423 ?_
    refine vz_top (y := (nI 1)) ex ?_
    refine lv_aload_n hx hb dL_law_424 rfl (lv_at hl 0 rfl) ?_
    refine lv_iload_n hx hb dL_law_425 rfl (lv_at hl 3 rfl) ?_
    refine lv_iconst (v := nI 2) hx hb dL_law_426 (by decide) ?_
    refine vz_add hx hb dL_law_427 ?_
    refine vz_sld hx hb hX hbl hbA hS (by omega) (by omega) dL_law_428 ?_
    refine vz_callV (n := 2) (As := [.int (nI 1), .int (xs (i + 2))]) (rest := [.int (vz_b (!decide ((zat c1 f1 (xs (i + 2))) = -1) && (!zvoid n (zat c1 f1 (xs (i + 2))) && (!ztch n fk (zX_in fp) (zat c1 f1 (xs (i + 2))) && !zcg n (ztch n fk (zX_in fp)) (zat c1 f1 (xs (i + 2)))))))]) (q0 := 0) hcf (c_X2_prime1 l D kA me n g mk ss hn c1 (zv g 1) hs1 hc1 (fun _ _ => rfl) (xs (i + 2))) gL_law_X2_prime rfl hd_X2_prime ⟨Nat.le_of_ble_eq_true rfl, Nat.le_of_ble_eq_true rfl⟩ hK (hP.sub [12, 13, 14, 15] rfl) rfl rfl rfl rfl hl.1 rfl (Nat.le_of_ble_eq_true rfl) ⟨Nat.le_of_ble_eq_true rfl, Nat.le_of_ble_eq_true rfl⟩ dL_law_429 ?_
    refine lv_icmp_eq (tgt := 473) hx hb dL_law_432 (by decide) (fun c_432 => ?_) (fun c_432 => absurd c_432 (fun h => h (congrArg vz_b (r_prime O hc1 ha1 hN1 _))))
    subst hAz
    exact K n fp fk fh c0 c1 c2 c3 f0 f1 f2 f3 g mk ss _ _ _ r hP hD hS hl
  · skip
    refine lv_aload_n hx hb dL_law_404 rfl (lv_at hl 1 rfl) ?_
    refine lv_aload_n hx hb dL_law_405 rfl (lv_at hl 0 rfl) ?_
    refine lv_iload_n hx hb dL_law_406 rfl (lv_at hl 3 rfl) ?_
    refine lv_iconst (v := nI 1) hx hb dL_law_407 (by decide) ?_
    refine vz_add hx hb dL_law_408 ?_
    refine vz_sld hx hb hX hbl hbA hS (by omega) (by omega) dL_law_409 ?_
    refine vz_top (y := (nI 2)) ex ?_
    refine lv_aload_n hx hb dL_law_410 rfl (lv_at hl 0 rfl) ?_
    refine lv_iload_n hx hb dL_law_411 rfl (lv_at hl 3 rfl) ?_
    refine lv_iconst (v := nI 2) hx hb dL_law_412 (by decide) ?_
    refine vz_add hx hb dL_law_413 ?_
    refine vz_sld hx hb hX hbl hbA hS (by omega) (by omega) dL_law_414 ?_
    refine vz_callV (n := 2) (As := [.int (nI 2), .int (xs (i + 2))]) (rest := []) (q0 := 0) hcf (c_X1_prime2 l D kA ad n fp fk fh c0 c1 c2 c3 f0 f1 f2 f3 hn hc2 (xs (i + 2))) gL_law_X1_prime rfl hd_X1_prime ⟨Nat.le_of_ble_eq_true rfl, Nat.le_of_ble_eq_true rfl⟩ hK (hP.sub [0, 1, 2, 3, 4, 5, 6, 7, 8, 9, 10, 11] rfl) rfl rfl rfl rfl hl.1 rfl (Nat.le_of_ble_eq_true rfl) ⟨Nat.le_of_ble_eq_true rfl, Nat.le_of_ble_eq_true rfl⟩ dL_law_415 ?_
    refine lv_aload_n hx hb dL_law_418 rfl (lv_at hl 2 rfl) ?_
    refine lv_aload_n hx hb dL_law_419 rfl (lv_at hl 0 rfl) ?_
    refine lv_iload_n hx hb dL_law_420 rfl (lv_at hl 3 rfl) ?_
    refine lv_iconst (v := nI 1) hx hb dL_law_421 (by decide) ?_
    refine vz_add hx hb dL_law_422 ?_
    refine vz_sld hx hb hX hbl hbA hS (by omega) (by omega) dL_law_423 ?_
    refine vz_top (y := (nI 2)) ex ?_
    refine lv_aload_n hx hb dL_law_424 rfl (lv_at hl 0 rfl) ?_
    refine lv_iload_n hx hb dL_law_425 rfl (lv_at hl 3 rfl) ?_
    refine lv_iconst (v := nI 2) hx hb dL_law_426 (by decide) ?_
    refine vz_add hx hb dL_law_427 ?_
    refine vz_sld hx hb hX hbl hbA hS (by omega) (by omega) dL_law_428 ?_
    refine vz_callV (n := 2) (As := [.int (nI 2), .int (xs (i + 2))]) (rest := [.int (vz_b (!decide ((zat c2 f2 (xs (i + 2))) = -1) && (!zvoid n (zat c2 f2 (xs (i + 2))) && (!ztch n fk (zX_in fp) (zat c2 f2 (xs (i + 2))) && !zcg n (ztch n fk (zX_in fp)) (zat c2 f2 (xs (i + 2)))))))]) (q0 := 0) hcf (c_X2_prime2 l D kA me n g mk ss hn c2 (zv g 2) hs2 hc2 (fun _ _ => rfl) (xs (i + 2))) gL_law_X2_prime rfl hd_X2_prime ⟨Nat.le_of_ble_eq_true rfl, Nat.le_of_ble_eq_true rfl⟩ hK (hP.sub [12, 13, 14, 15] rfl) rfl rfl rfl rfl hl.1 rfl (Nat.le_of_ble_eq_true rfl) ⟨Nat.le_of_ble_eq_true rfl, Nat.le_of_ble_eq_true rfl⟩ dL_law_429 ?_
    refine lv_icmp_eq (tgt := 473) hx hb dL_law_432 (by decide) (fun c_432 => ?_) (fun c_432 => absurd c_432 (fun h => h (congrArg vz_b (r_prime O hc2 ha2 hN2 _))))
    subst hAz
    exact K n fp fk fh c0 c1 c2 c3 f0 f1 f2 f3 g mk ss _ _ _ r hP hD hS hl
  · skip
    refine lv_aload_n hx hb dL_law_404 rfl (lv_at hl 1 rfl) ?_
    refine lv_aload_n hx hb dL_law_405 rfl (lv_at hl 0 rfl) ?_
    refine lv_iload_n hx hb dL_law_406 rfl (lv_at hl 3 rfl) ?_
    refine lv_iconst (v := nI 1) hx hb dL_law_407 (by decide) ?_
    refine vz_add hx hb dL_law_408 ?_
    refine vz_sld hx hb hX hbl hbA hS (by omega) (by omega) dL_law_409 ?_
    refine lv_aload_n hx hb dL_law_410 rfl (lv_at hl 0 rfl) ?_
    refine lv_iload_n hx hb dL_law_411 rfl (lv_at hl 3 rfl) ?_
    refine lv_iconst (v := nI 2) hx hb dL_law_412 (by decide) ?_
    refine vz_add hx hb dL_law_413 ?_
    refine vz_sld hx hb hX hbl hbA hS (by omega) (by omega) dL_law_414 ?_
    refine vz_callV (n := 2) (As := [.int (xs (i + 1)), .int (xs (i + 2))]) (rest := []) (q0 := 0) hcf (c_X1_prime3 l D kA ad n fp fk fh c0 c1 c2 c3 f0 f1 f2 f3 hn (xs (i + 1)) ex (xs (i + 2))) gL_law_X1_prime rfl hd_X1_prime ⟨Nat.le_of_ble_eq_true rfl, Nat.le_of_ble_eq_true rfl⟩ hK (hP.sub [0, 1, 2, 3, 4, 5, 6, 7, 8, 9, 10, 11] rfl) rfl rfl rfl rfl hl.1 rfl (Nat.le_of_ble_eq_true rfl) ⟨Nat.le_of_ble_eq_true rfl, Nat.le_of_ble_eq_true rfl⟩ dL_law_415 ?_
    refine lv_aload_n hx hb dL_law_418 rfl (lv_at hl 2 rfl) ?_
    refine lv_aload_n hx hb dL_law_419 rfl (lv_at hl 0 rfl) ?_
    refine lv_iload_n hx hb dL_law_420 rfl (lv_at hl 3 rfl) ?_
    refine lv_iconst (v := nI 1) hx hb dL_law_421 (by decide) ?_
    refine vz_add hx hb dL_law_422 ?_
    refine vz_sld hx hb hX hbl hbA hS (by omega) (by omega) dL_law_423 ?_
    refine lv_aload_n hx hb dL_law_424 rfl (lv_at hl 0 rfl) ?_
    refine lv_iload_n hx hb dL_law_425 rfl (lv_at hl 3 rfl) ?_
    refine lv_iconst (v := nI 2) hx hb dL_law_426 (by decide) ?_
    refine vz_add hx hb dL_law_427 ?_
    refine vz_sld hx hb hX hbl hbA hS (by omega) (by omega) dL_law_428 ?_
    refine vz_callV (n := 2) (As := [.int (xs (i + 1)), .int (xs (i + 2))]) (rest := [.int (nI 0)]) (q0 := 0) hcf (c_X2_prime3 l D kA me n g mk ss hn (xs (i + 1)) ey (xs (i + 2))) gL_law_X2_prime rfl hd_X2_prime ⟨Nat.le_of_ble_eq_true rfl, Nat.le_of_ble_eq_true rfl⟩ hK (hP.sub [12, 13, 14, 15] rfl) rfl rfl rfl rfl hl.1 rfl (Nat.le_of_ble_eq_true rfl) ⟨Nat.le_of_ble_eq_true rfl, Nat.le_of_ble_eq_true rfl⟩ dL_law_429 ?_
    refine lv_icmp_eq (tgt := 473) hx hb dL_law_432 (by decide) (fun c_432 => ?_) (fun c_432 => absurd c_432 (fun h => h rfl))
    subst hAz
    exact K n fp fk fh c0 c1 c2 c3 f0 f1 f2 f3 g mk ss _ _ _ r hP hD hS hl
set_option maxHeartbeats 4000000 in
set_option maxRecDepth 100000 in
theorem law_case13 {pz : Program} {l : Launch} {ez : Env} {sz : State} {mz : MethodId} {below : List Frame} {meth : Method} {cz : Code} {D : va_G} {kA : ClassId} {b L : Nat} {xs : Nat → Int32} (hL : L ≤ 1536) (C0 : lw_At pz sz mz meth cz b L xs) (hK : va_K D vwCl [(kA, .int)] sz) (i : Nat) (hi : i + 3 ≤ L) (ad me : Nat → Nat) (K : lw_K pz l ez sz mz below meth cz D kA b i ad me 473) : lw_K pz l ez sz mz below meth cz D kA b i ad me 437 := by
  intro n fp fk fh c0 c1 c2 c3 f0 f1 f2 f3 g mk ss H locs ls r hP hD hS hl
  obtain ⟨hx, hb, hr, hml, hown, hts0, hX, hbl, hlocks, hgv⟩ := C0
  have hts := fun w h => hts0 w (wsL_law_in w h)
  have hcf : CallFix pz mz cz cL_law 4 sz #[Value.ref b] wsL_law RL := ⟨hx, hb, hml, hown, hts⟩
  have O := r_ok r
  obtain ⟨⟨hn1, hn⟩, ⟨hc0, hc1, hc2, hc3⟩, ⟨hs0, hs1, hs2, hs3⟩, ⟨ha0, ha1, ha2⟩, ⟨hN0, hN1, hN2⟩, -⟩ := id r
  have hbA : ¬ (fun q : Nat => sz.heap.size ≤ q) b := Nat.not_le.mpr hbl
  generalize hAz : (fun q : Nat => sz.heap.size ≤ q) = Az at hD hS hbA
  have hP : va_P D vwCl [(ad 0, .inr (1, [.ref (ad 1), .ref (ad 2), .ref (ad 3), .ref (ad 4), .ref (ad 5), .ref (ad 6), .ref (ad 7), .int (nI n)])), (ad 5, .inl (kA, 256, .inl fp)), (ad 6, .inl (kA, 256, .inl fk)), (ad 7, .inl (kA, 256, .inl fh)), (ad 1, .inr (0, [.ref (ad 8), .int (nI c0)])), (ad 8, .inl (kA, 24, .inl f0)), (ad 2, .inr (0, [.ref (ad 9), .int (nI c1)])), (ad 9, .inl (kA, 24, .inl f1)), (ad 3, .inr (0, [.ref (ad 10), .int (nI c2)])), (ad 10, .inl (kA, 24, .inl f2)), (ad 4, .inr (0, [.ref (ad 11), .int (nI c3)])), (ad 11, .inl (kA, 24, .inl f3)), (me 0, .inr (2, [.ref (me 1), .ref (me 2), .ref (me 3), .int (nI n)])), (me 1, .inl (kA, 96, .inl g)), (me 2, .inl (kA, 4, .inl (fun j => nI (ss j)))), (me 3, .inl (kA, 256, .inl mk))] H := hP
  have hD : va_D Az [(ad 0, .inr (1, [.ref (ad 1), .ref (ad 2), .ref (ad 3), .ref (ad 4), .ref (ad 5), .ref (ad 6), .ref (ad 7), .int (nI n)])), (ad 5, .inl (kA, 256, .inl fp)), (ad 6, .inl (kA, 256, .inl fk)), (ad 7, .inl (kA, 256, .inl fh)), (ad 1, .inr (0, [.ref (ad 8), .int (nI c0)])), (ad 8, .inl (kA, 24, .inl f0)), (ad 2, .inr (0, [.ref (ad 9), .int (nI c1)])), (ad 9, .inl (kA, 24, .inl f1)), (ad 3, .inr (0, [.ref (ad 10), .int (nI c2)])), (ad 10, .inl (kA, 24, .inl f2)), (ad 4, .inr (0, [.ref (ad 11), .int (nI c3)])), (ad 11, .inl (kA, 24, .inl f3)), (me 0, .inr (2, [.ref (me 1), .ref (me 2), .ref (me 3), .int (nI n)])), (me 1, .inl (kA, 96, .inl g)), (me 2, .inl (kA, 4, .inl (fun j => nI (ss j)))), (me 3, .inl (kA, 256, .inl mk))] := hD
  refine lv_aload_n hx hb dL_law_437 rfl (lv_at hl 1 rfl) ?_
  refine lv_aload_n hx hb dL_law_438 rfl (lv_at hl 0 rfl) ?_
  refine lv_iload_n hx hb dL_law_439 rfl (lv_at hl 3 rfl) ?_
  refine lv_iconst (v := nI 1) hx hb dL_law_440 (by decide) ?_
  refine vz_add hx hb dL_law_441 ?_
  refine vz_sld hx hb hX hbl hbA hS (by omega) (by omega) dL_law_442 ?_
  refine vz_callV (n := 1) (As := [.int (xs (i + 1))]) (rest := []) (q0 := 0) hcf (c_X1_widen l D kA ad n fp fk fh hn (xs (i + 1))) gL_law_X1_widen rfl hd_X1_widen ⟨Nat.le_of_ble_eq_true rfl, Nat.le_of_ble_eq_true rfl⟩ hK (hP.sub [0, 1, 2, 3] rfl) rfl rfl rfl rfl hl.1 rfl (Nat.le_of_ble_eq_true rfl) ⟨Nat.le_of_ble_eq_true rfl, Nat.le_of_ble_eq_true rfl⟩ dL_law_443 ?_
  refine lv_aload_n hx hb dL_law_446 rfl (lv_at hl 2 rfl) ?_
  refine lv_aload_n hx hb dL_law_447 rfl (lv_at hl 0 rfl) ?_
  refine lv_iload_n hx hb dL_law_448 rfl (lv_at hl 3 rfl) ?_
  refine lv_iconst (v := nI 1) hx hb dL_law_449 (by decide) ?_
  refine vz_add hx hb dL_law_450 ?_
  refine vz_sld hx hb hX hbl hbA hS (by omega) (by omega) dL_law_451 ?_
  refine vz_callV (n := 1) (As := [.int (xs (i + 1))]) (rest := [.int (if ((!decide ((xs (i + 1)) < 0) && !decide (nI (4 ^ n) ≤ (xs (i + 1)))) && (!zvoid n (xs (i + 1)) && !ztch n fk (zX_in fp) (xs (i + 1)))) = true then zwd n (ztch n fk (zX_in fp)) true n (xs (i + 1)) else -1)]) (q0 := 0) hcf (c_X2_widen l D kA me n g mk ss hn (xs (i + 1))) gL_law_X2_widen rfl hd_X2_widen ⟨Nat.le_of_ble_eq_true rfl, Nat.le_of_ble_eq_true rfl⟩ hK (hP.sub [12, 13, 14, 15] rfl) rfl rfl rfl rfl hl.1 rfl (Nat.le_of_ble_eq_true rfl) ⟨Nat.le_of_ble_eq_true rfl, Nat.le_of_ble_eq_true rfl⟩ dL_law_452 ?_
  refine lv_icmp_eq (tgt := 473) hx hb dL_law_455 (by decide) (fun c_455 => ?_) (fun c_455 => absurd c_455 (fun h => h (r_widen O _)))
  subst hAz
  exact K n fp fk fh c0 c1 c2 c3 f0 f1 f2 f3 g mk ss _ _ _ r hP hD hS hl
set_option maxHeartbeats 4000000 in
set_option maxRecDepth 100000 in
theorem law_case14 {pz : Program} {l : Launch} {ez : Env} {sz : State} {mz : MethodId} {below : List Frame} {meth : Method} {cz : Code} {D : va_G} {kA : ClassId} {b L : Nat} {xs : Nat → Int32} (hL : L ≤ 1536) (C0 : lw_At pz sz mz meth cz b L xs) (hK : va_K D vwCl [(kA, .int)] sz) (i : Nat) (hi : i + 3 ≤ L) (ad me : Nat → Nat) (K : lw_K pz l ez sz mz below meth cz D kA b i ad me 473) : lw_K pz l ez sz mz below meth cz D kA b i ad me 460 := by
  intro n fp fk fh c0 c1 c2 c3 f0 f1 f2 f3 g mk ss H locs ls r hP hD hS hl
  obtain ⟨hx, hb, hr, hml, hown, hts0, hX, hbl, hlocks, hgv⟩ := C0
  have hts := fun w h => hts0 w (wsL_law_in w h)
  have hcf : CallFix pz mz cz cL_law 4 sz #[Value.ref b] wsL_law RL := ⟨hx, hb, hml, hown, hts⟩
  have O := r_ok r
  obtain ⟨⟨hn1, hn⟩, ⟨hc0, hc1, hc2, hc3⟩, ⟨hs0, hs1, hs2, hs3⟩, ⟨ha0, ha1, ha2⟩, ⟨hN0, hN1, hN2⟩, -⟩ := id r
  have hbA : ¬ (fun q : Nat => sz.heap.size ≤ q) b := Nat.not_le.mpr hbl
  generalize hAz : (fun q : Nat => sz.heap.size ≤ q) = Az at hD hS hbA
  have hP : va_P D vwCl [(ad 0, .inr (1, [.ref (ad 1), .ref (ad 2), .ref (ad 3), .ref (ad 4), .ref (ad 5), .ref (ad 6), .ref (ad 7), .int (nI n)])), (ad 5, .inl (kA, 256, .inl fp)), (ad 6, .inl (kA, 256, .inl fk)), (ad 7, .inl (kA, 256, .inl fh)), (ad 1, .inr (0, [.ref (ad 8), .int (nI c0)])), (ad 8, .inl (kA, 24, .inl f0)), (ad 2, .inr (0, [.ref (ad 9), .int (nI c1)])), (ad 9, .inl (kA, 24, .inl f1)), (ad 3, .inr (0, [.ref (ad 10), .int (nI c2)])), (ad 10, .inl (kA, 24, .inl f2)), (ad 4, .inr (0, [.ref (ad 11), .int (nI c3)])), (ad 11, .inl (kA, 24, .inl f3)), (me 0, .inr (2, [.ref (me 1), .ref (me 2), .ref (me 3), .int (nI n)])), (me 1, .inl (kA, 96, .inl g)), (me 2, .inl (kA, 4, .inl (fun j => nI (ss j)))), (me 3, .inl (kA, 256, .inl mk))] H := hP
  have hD : va_D Az [(ad 0, .inr (1, [.ref (ad 1), .ref (ad 2), .ref (ad 3), .ref (ad 4), .ref (ad 5), .ref (ad 6), .ref (ad 7), .int (nI n)])), (ad 5, .inl (kA, 256, .inl fp)), (ad 6, .inl (kA, 256, .inl fk)), (ad 7, .inl (kA, 256, .inl fh)), (ad 1, .inr (0, [.ref (ad 8), .int (nI c0)])), (ad 8, .inl (kA, 24, .inl f0)), (ad 2, .inr (0, [.ref (ad 9), .int (nI c1)])), (ad 9, .inl (kA, 24, .inl f1)), (ad 3, .inr (0, [.ref (ad 10), .int (nI c2)])), (ad 10, .inl (kA, 24, .inl f2)), (ad 4, .inr (0, [.ref (ad 11), .int (nI c3)])), (ad 11, .inl (kA, 24, .inl f3)), (me 0, .inr (2, [.ref (me 1), .ref (me 2), .ref (me 3), .int (nI n)])), (me 1, .inl (kA, 96, .inl g)), (me 2, .inl (kA, 4, .inl (fun j => nI (ss j)))), (me 3, .inl (kA, 256, .inl mk))] := hD
  refine lv_aload_n hx hb dL_law_460 rfl (lv_at hl 1 rfl) ?_
  refine vz_callM (n := 0) (As := []) (rest := []) (q0 := 0) hcf (c_X1_minimize l D kA ad n fp fk fh c0 c1 c2 c3 f0 f1 f2 f3 hn hc0 hc2 hc3) gL_law_X1_minimize rfl hd_X1_minimize ⟨Nat.le_of_ble_eq_true rfl, Nat.le_of_ble_eq_true rfl⟩ hK hP hD hS [0, 1, 2, 3, 4, 5, 6, 7, 8, 9, 10, 11] (by decide) rfl rfl rfl rfl rfl rfl rfl hl.1 rfl (Nat.le_of_ble_eq_true rfl) ⟨Nat.le_of_ble_eq_true rfl, Nat.le_of_ble_eq_true rfl⟩ dL_law_461 (fun H locs hP hD hS => ?_)
  have hP : va_P D vwCl [(ad 0, .inr (1, [.ref (ad 1), .ref (ad 2), .ref (ad 3), .ref (ad 4), .ref (ad 5), .ref (ad 6), .ref (ad 7), .int (nI n)])), (ad 5, .inl (kA, 256, .inl fp)), (ad 6, .inl (kA, 256, .inl fk)), (ad 7, .inl (kA, 256, .inl ((zmz n fp fk c0 f0 f2 c3 f3 fh).2.2.2.2))), (ad 1, .inr (0, [.ref (ad 8), .int (nI c0)])), (ad 8, .inl (kA, 24, .inl f0)), (ad 2, .inr (0, [.ref (ad 9), .int (nI c1)])), (ad 9, .inl (kA, 24, .inl f1)), (ad 3, .inr (0, [.ref (ad 10), .int (nI ((zmz n fp fk c0 f0 f2 c3 f3 fh).1))])), (ad 10, .inl (kA, 24, .inl ((zmz n fp fk c0 f0 f2 c3 f3 fh).2.1))), (ad 4, .inr (0, [.ref (ad 11), .int (nI ((zmz n fp fk c0 f0 f2 c3 f3 fh).2.2.1))])), (ad 11, .inl (kA, 24, .inl ((zmz n fp fk c0 f0 f2 c3 f3 fh).2.2.2.1))), (me 0, .inr (2, [.ref (me 1), .ref (me 2), .ref (me 3), .int (nI n)])), (me 1, .inl (kA, 96, .inl g)), (me 2, .inl (kA, 4, .inl (fun j => nI (ss j)))), (me 3, .inl (kA, 256, .inl mk))] H := hP
  have hD : va_D Az [(ad 0, .inr (1, [.ref (ad 1), .ref (ad 2), .ref (ad 3), .ref (ad 4), .ref (ad 5), .ref (ad 6), .ref (ad 7), .int (nI n)])), (ad 5, .inl (kA, 256, .inl fp)), (ad 6, .inl (kA, 256, .inl fk)), (ad 7, .inl (kA, 256, .inl ((zmz n fp fk c0 f0 f2 c3 f3 fh).2.2.2.2))), (ad 1, .inr (0, [.ref (ad 8), .int (nI c0)])), (ad 8, .inl (kA, 24, .inl f0)), (ad 2, .inr (0, [.ref (ad 9), .int (nI c1)])), (ad 9, .inl (kA, 24, .inl f1)), (ad 3, .inr (0, [.ref (ad 10), .int (nI ((zmz n fp fk c0 f0 f2 c3 f3 fh).1))])), (ad 10, .inl (kA, 24, .inl ((zmz n fp fk c0 f0 f2 c3 f3 fh).2.1))), (ad 4, .inr (0, [.ref (ad 11), .int (nI ((zmz n fp fk c0 f0 f2 c3 f3 fh).2.2.1))])), (ad 11, .inl (kA, 24, .inl ((zmz n fp fk c0 f0 f2 c3 f3 fh).2.2.2.1))), (me 0, .inr (2, [.ref (me 1), .ref (me 2), .ref (me 3), .int (nI n)])), (me 1, .inl (kA, 96, .inl g)), (me 2, .inl (kA, 4, .inl (fun j => nI (ss j)))), (me 3, .inl (kA, 256, .inl mk))] := hD
  refine lv_aload_n hx hb dL_law_464 rfl (lv_at hl 2 rfl) ?_
  refine vz_callM (n := 0) (As := []) (rest := [.int (nI ((zmz n fp fk c0 f0 f2 c3 f3 fh).1))]) (q0 := 0) hcf (c_X2_minimize l D kA me n g mk ss hn c0 (ss 3) (zv g 0) (zv g 2) (zv g 3) hs0 rfl hc0 hs3 (fun j _ => by show g j = g (24 * 0 + j); rw [Nat.mul_zero, Nat.zero_add]) (fun _ _ => rfl) (fun _ _ => rfl)) gL_law_X2_minimize rfl hd_X2_minimize ⟨Nat.le_of_ble_eq_true rfl, Nat.le_of_ble_eq_true rfl⟩ hK hP hD hS [12, 13, 14, 15] (by decide) rfl rfl rfl rfl rfl rfl rfl hl.1 rfl (Nat.le_of_ble_eq_true rfl) ⟨Nat.le_of_ble_eq_true rfl, Nat.le_of_ble_eq_true rfl⟩ dL_law_465 (fun H locs hP hD hS => ?_)
  have hP : va_P D vwCl [(ad 0, .inr (1, [.ref (ad 1), .ref (ad 2), .ref (ad 3), .ref (ad 4), .ref (ad 5), .ref (ad 6), .ref (ad 7), .int (nI n)])), (ad 5, .inl (kA, 256, .inl fp)), (ad 6, .inl (kA, 256, .inl fk)), (ad 7, .inl (kA, 256, .inl ((zmz n fp fk c0 f0 f2 c3 f3 fh).2.2.2.2))), (ad 1, .inr (0, [.ref (ad 8), .int (nI c0)])), (ad 8, .inl (kA, 24, .inl f0)), (ad 2, .inr (0, [.ref (ad 9), .int (nI c1)])), (ad 9, .inl (kA, 24, .inl f1)), (ad 3, .inr (0, [.ref (ad 10), .int (nI ((zmz n fp fk c0 f0 f2 c3 f3 fh).1))])), (ad 10, .inl (kA, 24, .inl ((zmz n fp fk c0 f0 f2 c3 f3 fh).2.1))), (ad 4, .inr (0, [.ref (ad 11), .int (nI ((zmz n fp fk c0 f0 f2 c3 f3 fh).2.2.1))])), (ad 11, .inl (kA, 24, .inl ((zmz n fp fk c0 f0 f2 c3 f3 fh).2.2.2.1))), (me 0, .inr (2, [.ref (me 1), .ref (me 2), .ref (me 3), .int (nI n)])), (me 1, .inl (kA, 96, .inl (zput 3 (mmz n mk c0 (zv g 0) (zv g 2) (ss 3) (zv g 3)).2.2.2 (zput 2 (mmz n mk c0 (zv g 0) (zv g 2) (ss 3) (zv g 3)).2.1 g)))), (me 2, .inl (kA, 4, .inl (fun j => nI ((va_up (va_up ss 2 (mmz n mk c0 (zv g 0) (zv g 2) (ss 3) (zv g 3)).1) 3 (mmz n mk c0 (zv g 0) (zv g 2) (ss 3) (zv g 3)).2.2.1) j)))), (me 3, .inl (kA, 256, .inl mk))] H := hP
  have hD : va_D Az [(ad 0, .inr (1, [.ref (ad 1), .ref (ad 2), .ref (ad 3), .ref (ad 4), .ref (ad 5), .ref (ad 6), .ref (ad 7), .int (nI n)])), (ad 5, .inl (kA, 256, .inl fp)), (ad 6, .inl (kA, 256, .inl fk)), (ad 7, .inl (kA, 256, .inl ((zmz n fp fk c0 f0 f2 c3 f3 fh).2.2.2.2))), (ad 1, .inr (0, [.ref (ad 8), .int (nI c0)])), (ad 8, .inl (kA, 24, .inl f0)), (ad 2, .inr (0, [.ref (ad 9), .int (nI c1)])), (ad 9, .inl (kA, 24, .inl f1)), (ad 3, .inr (0, [.ref (ad 10), .int (nI ((zmz n fp fk c0 f0 f2 c3 f3 fh).1))])), (ad 10, .inl (kA, 24, .inl ((zmz n fp fk c0 f0 f2 c3 f3 fh).2.1))), (ad 4, .inr (0, [.ref (ad 11), .int (nI ((zmz n fp fk c0 f0 f2 c3 f3 fh).2.2.1))])), (ad 11, .inl (kA, 24, .inl ((zmz n fp fk c0 f0 f2 c3 f3 fh).2.2.2.1))), (me 0, .inr (2, [.ref (me 1), .ref (me 2), .ref (me 3), .int (nI n)])), (me 1, .inl (kA, 96, .inl (zput 3 (mmz n mk c0 (zv g 0) (zv g 2) (ss 3) (zv g 3)).2.2.2 (zput 2 (mmz n mk c0 (zv g 0) (zv g 2) (ss 3) (zv g 3)).2.1 g)))), (me 2, .inl (kA, 4, .inl (fun j => nI ((va_up (va_up ss 2 (mmz n mk c0 (zv g 0) (zv g 2) (ss 3) (zv g 3)).1) 3 (mmz n mk c0 (zv g 0) (zv g 2) (ss 3) (zv g 3)).2.2.1) j)))), (me 3, .inl (kA, 256, .inl mk))] := hD
  refine lv_icmp_eq (tgt := 473) hx hb dL_law_468 (by decide) (fun c_468 => ?_) (fun c_468 => absurd c_468 (fun h => h (congrArg nI (r_minR r f3 fh).1)))
  subst hAz
  exact K n fp fk (zmz n fp fk c0 f0 f2 c3 f3 fh).2.2.2.2 c0 c1 (zmz n fp fk c0 f0 f2 c3 f3 fh).1 (zmz n fp fk c0 f0 f2 c3 f3 fh).2.2.1 f0 f1 (zmz n fp fk c0 f0 f2 c3 f3 fh).2.1 (zmz n fp fk c0 f0 f2 c3 f3 fh).2.2.2.1 (zput 3 (mmz n mk c0 (zv g 0) (zv g 2) (ss 3) (zv g 3)).2.2.2 (zput 2 (mmz n mk c0 (zv g 0) (zv g 2) (ss 3) (zv g 3)).2.1 g)) mk (va_up (va_up ss 2 (mmz n mk c0 (zv g 0) (zv g 2) (ss 3) (zv g 3)).1) 3 (mmz n mk c0 (zv g 0) (zv g 2) (ss 3) (zv g 3)).2.2.1) _ _ _ (r_min r f3 fh) hP hD hS hl
