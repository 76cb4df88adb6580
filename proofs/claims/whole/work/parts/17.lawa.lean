abbrev zW16 (kA : ClassId) (ad me : Nat → Nat) (n : Nat) (fp fk fh : Nat → Int32) (c0 c1 c2 c3 : Nat) (f0 f1 f2 f3 : Nat → Int32) (g mk : Nat → Int32) (ss : Nat → Nat) : va_W := [(ad 0, .inr (1, [.ref (ad 1), .ref (ad 2), .ref (ad 3), .ref (ad 4), .ref (ad 5), .ref (ad 6), .ref (ad 7), .int (nI n)])), (ad 5, .inl (kA, 256, .inl fp)), (ad 6, .inl (kA, 256, .inl fk)), (ad 7, .inl (kA, 256, .inl fh)), (ad 1, .inr (0, [.ref (ad 8), .int (nI c0)])), (ad 8, .inl (kA, 24, .inl f0)), (ad 2, .inr (0, [.ref (ad 9), .int (nI c1)])), (ad 9, .inl (kA, 24, .inl f1)), (ad 3, .inr (0, [.ref (ad 10), .int (nI c2)])), (ad 10, .inl (kA, 24, .inl f2)), (ad 4, .inr (0, [.ref (ad 11), .int (nI c3)])), (ad 11, .inl (kA, 24, .inl f3)), (me 0, .inr (2, [.ref (me 1), .ref (me 2), .ref (me 3), .int (nI n)])), (me 1, .inl (kA, 96, .inl g)), (me 2, .inl (kA, 4, .inl (fun j => nI (ss j)))), (me 3, .inl (kA, 256, .inl mk))]
/-- at pc, with any related states in the cells, the law comes to its end with 1 -/
def lw_K (pz : Program) (l : Launch) (ez : Env) (sz : State) (mz : MethodId) (below : List Frame) (meth : Method) (cz : Code) (D : va_G) (kA : ClassId) (b i : Nat) (ad me : Nat → Nat) (pc : Nat) : Prop :=
  ∀ (n : Nat) (fp fk fh : Nat → Int32) (c0 c1 c2 c3 : Nat) (f0 f1 f2 f3 : Nat → Int32) (g mk : Nat → Int32) (ss : Nat → Nat) (H : Heap) (locs : List Loc) (ls : Array Slot), zRel n fp fk mk g ss c0 c1 c2 c3 f0 f1 f2 → va_P D vwCl (zW16 kA ad me n fp fk fh c0 c1 c2 c3 f0 f1 f2 f3 g mk ss) H → va_D (fun q : Nat => sz.heap.size ≤ q) (zW16 kA ad me n fp fk fh c0 c1 c2 c3 f0 f1 f2 f3 g mk ss) → va_S (fun q : Nat => sz.heap.size ≤ q) sz.heap H locs → lv_has ls 4 [(0, .ref b), (1, .ref (ad 0)), (2, .ref (me 0)), (3, .int (nI i))] → W pz l ez room_1 sz mz #[Value.ref b] below meth cz H locs 16 1240 (lw_Z below #[Value.ref b] sz) (F0 mz pc ls [])
theorem r_init {f fk g f0 f1 f2 : Nat → Int32} : zRel 4 (zpf f 4) (zmk 256 (fun _ => true) (nI 0) fk) (fun _ => 0) g (fun _ => 0) 0 0 0 0 f0 f1 f2 := by
  obtain ⟨h1, h2, -, h4, h5, h6, h7, -⟩ := r_start (n := 4) (fp := f) (fk := fk) (mk := fk) (g := g) (ss := fun _ => 0) (c3 := 0) (f0 := f0) (f1 := f1) (f2 := f2) (by decide) (by decide) (by decide)
  exact ⟨h1, h2, ⟨rfl, rfl, rfl, by decide⟩, h4, h5, h6, h7, fun p hp => by rw [r_mk0]; rfl⟩
set_option maxHeartbeats 4000000 in
set_option maxRecDepth 100000 in
theorem law_case0 {pz : Program} {l : Launch} {ez : Env} {sz : State} {mz : MethodId} {below : List Frame} {meth : Method} {cz : Code} {D : va_G} {kA : ClassId} {b L : Nat} {xs : Nat → Int32} (hL : L ≤ 1536) (C0 : lw_At pz sz mz meth cz b L xs) (hK : va_K D vwCl [(kA, .int)] sz) (i : Nat) (hi : i + 3 ≤ L) (ad me : Nat → Nat) (K : lw_K pz l ez sz mz below meth cz D kA b i ad me 473) : lw_K pz l ez sz mz below meth cz D kA b i ad me 108 := by
  intro n fp fk fh c0 c1 c2 c3 f0 f1 f2 f3 g mk ss H locs ls r hP hD hS hl
  obtain ⟨hx, hb, hr, hml, hown, hts0, hX, hbl, hlocks, hgv⟩ := C0
  have hts := fun w h => hts0 w (wsL_law_in w h)
  have hcf : CallFix pz mz cz cL_law 4 sz #[Value.ref b] wsL_law RL := ⟨hx, hb, hml, hown, hts⟩
  have O := r_ok r
  obtain ⟨⟨hn1, hn⟩, ⟨hc0, hc1, hc2, hc3⟩, ⟨hs0, hs1, hs2, hs3⟩, ⟨ha0, ha1, ha2⟩, ⟨hN0, hN1, hN2⟩, -⟩ := id r
  have hbA : ¬ (fun q : Nat => sz.heap.size ≤ q) b := Nat.not_le.mpr hbl
  generalize hAz : (fun q : Nat => sz.heap.size ≤ q) = Az at hD hS hbA
  have hP : va_P D vwCl [(ad 0, .inr (1, [.ref (ad 1), .ref (ad 2), .ref (ad 3), .ref (ad 4), .ref (ad 5), .ref (ad 6), .ref (ad 7), .int (nI n)])), (ad 5, .inl (kA, 256, .inl fp)), (ad 6, .inl (kA, 256, .inl fk)), (ad 7, .inl (kA, 256, .inl fh)), (ad 1, .inr (0, [.ref (ad 8), .int (nI c0)])), (ad 8, .inl (kA, 24, .inl f0)), (ad 2, .inr (0, [.ref (ad 9), .int (nI c1)])), (ad 9, .inl (kA, 24, .inl f1)), (ad 3, .inr (0, [.ref (ad 10), .int (nI c2)])), (ad 10, .inl (kA, 24, .inl f2)), (ad 4, .inr (0, [.ref (ad 11), .int (nI c3)])), (ad 11, .inl (kA, 24, .inl f3)), (me 0, .inr (2, [.ref (me 1), .ref (me 2), .ref (me 3), .int (nI n)])), (me 1, .inl (kA, 96, .inl g)), (me 2, .inl (kA, 4, .inl (fun j => nI (ss j)))), (me 3, .inl (kA, 256, .inl mk))] H := hP
  have hD : va_D Az [(ad 0, .inr (1, [.ref (ad 1), .ref (ad 2), .ref (ad 3), .ref (ad 4), .ref (ad 5), .ref (ad 6), .ref (ad 7), .int (nI n)])), (ad 5, .inl (kA, 256, .inl fp)), (ad 6, .inl (kA, 256, .inl fk)), (ad 7, .inl (kA, 256, .inl fh)), (ad 1, .inr (0, [.ref (ad 8), .int (nI c0)])), (ad 8, .inl (kA, 24, .inl f0)), (ad 2, .inr (0, [.ref (ad 9), .int (nI c1)])), (ad 9, .inl (kA, 24, .inl f1)), (ad 3, .inr (0, [.ref (ad 10), .int (nI c2)])), (ad 10, .inl (kA, 24, .inl f2)), (ad 4, .inr (0, [.ref (ad 11), .int (nI c3)])), (ad 11, .inl (kA, 24, .inl f3)), (me 0, .inr (2, [.ref (me 1), .ref (me 2), .ref (me 3), .int (nI n)])), (me 1, .inl (kA, 96, .inl g)), (me 2, .inl (kA, 4, .inl (fun j => nI (ss j)))), (me 3, .inl (kA, 256, .inl mk))] := hD
  rcases l_start (xs (i + 1)) with ⟨k, hk1, hk, ex⟩ | ex
  · skip
    refine lv_aload_n hx hb dL_law_108 rfl (lv_at hl 1 rfl) ?_
    refine lv_aload_n hx hb dL_law_109 rfl (lv_at hl 0 rfl) ?_
    refine lv_iload_n hx hb dL_law_110 rfl (lv_at hl 3 rfl) ?_
    refine lv_iconst (v := nI 1) hx hb dL_law_111 (by decide) ?_
    refine vz_add hx hb dL_law_112 ?_
    refine vz_sld hx hb hX hbl hbA hS (by omega) (by omega) dL_law_113 ?_
    refine vz_top (y := (nI k)) ex ?_
    refine vz_callM (n := 1) (As := [.int (nI k)]) (rest := []) (q0 := 0) hcf (c_X1_start l D kA ad n fp fk fh c0 c1 c2 c3 f0 f1 f2 f3 hc0 hc1 hc2 k hk1 hk) gL_law_X1_start rfl hd_X1_start ⟨Nat.le_of_ble_eq_true rfl, Nat.le_of_ble_eq_true rfl⟩ hK hP hD hS [0, 1, 2, 3, 4, 5, 6, 7, 8, 9, 10, 11] (by decide) rfl rfl rfl rfl rfl rfl rfl hl.1 rfl (Nat.le_of_ble_eq_true rfl) ⟨Nat.le_of_ble_eq_true rfl, Nat.le_of_ble_eq_true rfl⟩ dL_law_114 (fun H locs hP hD hS => ?_)
    have hP : va_P D vwCl [(ad 0, .inr (1, [.ref (ad 1), .ref (ad 2), .ref (ad 3), .ref (ad 4), .ref (ad 5), .ref (ad 6), .ref (ad 7), .int (nI k)])), (ad 5, .inl (kA, 256, .inl (zpf fp k))), (ad 6, .inl (kA, 256, .inl (zmk 256 (fun _ => true) (nI 0) fk))), (ad 7, .inl (kA, 256, .inl fh)), (ad 1, .inr (0, [.ref (ad 8), .int (nI 0)])), (ad 8, .inl (kA, 24, .inl f0)), (ad 2, .inr (0, [.ref (ad 9), .int (nI 0)])), (ad 9, .inl (kA, 24, .inl f1)), (ad 3, .inr (0, [.ref (ad 10), .int (nI 0)])), (ad 10, .inl (kA, 24, .inl f2)), (ad 4, .inr (0, [.ref (ad 11), .int (nI c3)])), (ad 11, .inl (kA, 24, .inl f3)), (me 0, .inr (2, [.ref (me 1), .ref (me 2), .ref (me 3), .int (nI n)])), (me 1, .inl (kA, 96, .inl g)), (me 2, .inl (kA, 4, .inl (fun j => nI (ss j)))), (me 3, .inl (kA, 256, .inl mk))] H := hP
    have hD : va_D Az [(ad 0, .inr (1, [.ref (ad 1), .ref (ad 2), .ref (ad 3), .ref (ad 4), .ref (ad 5), .ref (ad 6), .ref (ad 7), .int (nI k)])), (ad 5, .inl (kA, 256, .inl (zpf fp k))), (ad 6, .inl (kA, 256, .inl (zmk 256 (fun _ => true) (nI 0) fk))), (ad 7, .inl (kA, 256, .inl fh)), (ad 1, .inr (0, [.ref (ad 8), .int (nI 0)])), (ad 8, .inl (kA, 24, .inl f0)), (ad 2, .inr (0, [.ref (ad 9), .int (nI 0)])), (ad 9, .inl (kA, 24, .inl f1)), (ad 3, .inr (0, [.ref (ad 10), .int (nI 0)])), (ad 10, .inl (kA, 24, .inl f2)), (ad 4, .inr (0, [.ref (ad 11), .int (nI c3)])), (ad 11, .inl (kA, 24, .inl f3)), (me 0, .inr (2, [.ref (me 1), .ref (me 2), .ref (me 3), .int (nI n)])), (me 1, .inl (kA, 96, .inl g)), (me 2, .inl (kA, 4, .inl (fun j => nI (ss j)))), (me 3, .inl (kA, 256, .inl mk))] := hD
    refine lv_aload_n hx hb dL_law_117 rfl (lv_at hl 2 rfl) ?_
    refine lv_aload_n hx hb dL_law_118 rfl (lv_at hl 0 rfl) ?_
    refine lv_iload_n hx hb dL_law_119 rfl (lv_at hl 3 rfl) ?_
    refine lv_iconst (v := nI 1) hx hb dL_law_120 (by decide) ?_
    refine vz_add hx hb dL_law_121 ?_
    refine vz_sld hx hb hX hbl hbA hS (by omega) (by omega) dL_law_122 ?_
    refine vz_top (y := (nI k)) ex ?_
    refine vz_callM (n := 1) (As := [.int (nI k)]) (rest := [.int (nI 1)]) (q0 := 0) hcf (c_X2_start l D kA me n g mk ss hn k hk1 hk) gL_law_X2_start rfl hd_X2_start ⟨Nat.le_of_ble_eq_true rfl, Nat.le_of_ble_eq_true rfl⟩ hK hP hD hS [12, 13, 14, 15] (by decide) rfl rfl rfl rfl rfl rfl rfl hl.1 rfl (Nat.le_of_ble_eq_true rfl) ⟨Nat.le_of_ble_eq_true rfl, Nat.le_of_ble_eq_true rfl⟩ dL_law_123 (fun H locs hP hD hS => ?_)
    have hP : va_P D vwCl [(ad 0, .inr (1, [.ref (ad 1), .ref (ad 2), .ref (ad 3), .ref (ad 4), .ref (ad 5), .ref (ad 6), .ref (ad 7), .int (nI k)])), (ad 5, .inl (kA, 256, .inl (zpf fp k))), (ad 6, .inl (kA, 256, .inl (zmk 256 (fun _ => true) (nI 0) fk))), (ad 7, .inl (kA, 256, .inl fh)), (ad 1, .inr (0, [.ref (ad 8), .int (nI 0)])), (ad 8, .inl (kA, 24, .inl f0)), (ad 2, .inr (0, [.ref (ad 9), .int (nI 0)])), (ad 9, .inl (kA, 24, .inl f1)), (ad 3, .inr (0, [.ref (ad 10), .int (nI 0)])), (ad 10, .inl (kA, 24, .inl f2)), (ad 4, .inr (0, [.ref (ad 11), .int (nI c3)])), (ad 11, .inl (kA, 24, .inl f3)), (me 0, .inr (2, [.ref (me 1), .ref (me 2), .ref (me 3), .int (nI k)])), (me 1, .inl (kA, 96, .inl g)), (me 2, .inl (kA, 4, .inl (fun j => nI ((zz0 4 ss) j)))), (me 3, .inl (kA, 256, .inl (zcp (zN k) (zMk k 0 (zv g 0) 0 (zv g 1)) mk)))] H := hP
    have hD : va_D Az [(ad 0, .inr (1, [.ref (ad 1), .ref (ad 2), .ref (ad 3), .ref (ad 4), .ref (ad 5), .ref (ad 6), .ref (ad 7), .int (nI k)])), (ad 5, .inl (kA, 256, .inl (zpf fp k))), (ad 6, .inl (kA, 256, .inl (zmk 256 (fun _ => true) (nI 0) fk))), (ad 7, .inl (kA, 256, .inl fh)), (ad 1, .inr (0, [.ref (ad 8), .int (nI 0)])), (ad 8, .inl (kA, 24, .inl f0)), (ad 2, .inr (0, [.ref (ad 9), .int (nI 0)])), (ad 9, .inl (kA, 24, .inl f1)), (ad 3, .inr (0, [.ref (ad 10), .int (nI 0)])), (ad 10, .inl (kA, 24, .inl f2)), (ad 4, .inr (0, [.ref (ad 11), .int (nI c3)])), (ad 11, .inl (kA, 24, .inl f3)), (me 0, .inr (2, [.ref (me 1), .ref (me 2), .ref (me 3), .int (nI k)])), (me 1, .inl (kA, 96, .inl g)), (me 2, .inl (kA, 4, .inl (fun j => nI ((zz0 4 ss) j)))), (me 3, .inl (kA, 256, .inl (zcp (zN k) (zMk k 0 (zv g 0) 0 (zv g 1)) mk)))] := hD
    refine lv_icmp_eq (tgt := 473) hx hb dL_law_126 (by decide) (fun c_126 => ?_) (fun c_126 => absurd c_126 (fun h => h rfl))
    subst hAz
    exact K k (zpf fp k) (zmk 256 (fun _ => true) (nI 0) fk) fh 0 0 0 c3 f0 f1 f2 f3 g (zcp (zN k) (zMk k 0 (zv g 0) 0 (zv g 1)) mk) (zz0 4 ss) _ _ _ (r_start hk1 hk hc3) hP hD hS hl
  · skip
    refine lv_aload_n hx hb dL_law_108 rfl (lv_at hl 1 rfl) ?_
    refine lv_aload_n hx hb dL_law_109 rfl (lv_at hl 0 rfl) ?_
    refine lv_iload_n hx hb dL_law_110 rfl (lv_at hl 3 rfl) ?_
    refine lv_iconst (v := nI 1) hx hb dL_law_111 (by decide) ?_
    refine vz_add hx hb dL_law_112 ?_
    refine vz_sld hx hb hX hbl hbA hS (by omega) (by omega) dL_law_113 ?_
    refine vz_callV (n := 1) (As := [.int (xs (i + 1))]) (rest := []) (q0 := 0) hcf (c_X1_start_no l D kA ad n fp fk fh c0 c1 c2 c3 f0 f1 f2 f3 (xs (i + 1)) ex) gL_law_X1_start rfl hd_X1_start ⟨Nat.le_of_ble_eq_true rfl, Nat.le_of_ble_eq_true rfl⟩ hK (hP.sub [0, 1, 2, 3, 4, 5, 6, 7, 8, 9, 10, 11] rfl) rfl rfl rfl rfl hl.1 rfl (Nat.le_of_ble_eq_true rfl) ⟨Nat.le_of_ble_eq_true rfl, Nat.le_of_ble_eq_true rfl⟩ dL_law_114 ?_
    refine lv_aload_n hx hb dL_law_117 rfl (lv_at hl 2 rfl) ?_
    refine lv_aload_n hx hb dL_law_118 rfl (lv_at hl 0 rfl) ?_
    refine lv_iload_n hx hb dL_law_119 rfl (lv_at hl 3 rfl) ?_
    refine lv_iconst (v := nI 1) hx hb dL_law_120 (by decide) ?_
    refine vz_add hx hb dL_law_121 ?_
    refine vz_sld hx hb hX hbl hbA hS (by omega) (by omega) dL_law_122 ?_
    refine vz_callV (n := 1) (As := [.int (xs (i + 1))]) (rest := [.int (nI 0)]) (q0 := 0) hcf (c_X2_start_no l D kA me n g mk ss hn (xs (i + 1)) ex) gL_law_X2_start rfl hd_X2_start ⟨Nat.le_of_ble_eq_true rfl, Nat.le_of_ble_eq_true rfl⟩ hK (hP.sub [12, 13, 14, 15] rfl) rfl rfl rfl rfl hl.1 rfl (Nat.le_of_ble_eq_true rfl) ⟨Nat.le_of_ble_eq_true rfl, Nat.le_of_ble_eq_true rfl⟩ dL_law_123 ?_
    refine lv_icmp_eq (tgt := 473) hx hb dL_law_126 (by decide) (fun c_126 => ?_) (fun c_126 => absurd c_126 (fun h => h rfl))
    subst hAz
    exact K n fp fk fh c0 c1 c2 c3 f0 f1 f2 f3 g mk ss _ _ _ r hP hD hS hl
set_option maxHeartbeats 4000000 in
set_option maxRecDepth 100000 in
theorem law_case1 {pz : Program} {l : Launch} {ez : Env} {sz : State} {mz : MethodId} {below : List Frame} {meth : Method} {cz : Code} {D : va_G} {kA : ClassId} {b L : Nat} {xs : Nat → Int32} (hL : L ≤ 1536) (C0 : lw_At pz sz mz meth cz b L xs) (hK : va_K D vwCl [(kA, .int)] sz) (i : Nat) (hi : i + 3 ≤ L) (ad me : Nat → Nat) (K : lw_K pz l ez sz mz below meth cz D kA b i ad me 473) : lw_K pz l ez sz mz below meth cz D kA b i ad me 131 := by
  intro n fp fk fh c0 c1 c2 c3 f0 f1 f2 f3 g mk ss H locs ls r hP hD hS hl
  obtain ⟨hx, hb, hr, hml, hown, hts0, hX, hbl, hlocks, hgv⟩ := C0
  have hts := fun w h => hts0 w (wsL_law_in w h)
  have hcf : CallFix pz mz cz cL_law 4 sz #[Value.ref b] wsL_law RL := ⟨hx, hb, hml, hown, hts⟩
  have O := r_ok r
  obtain ⟨⟨hn1, hn⟩, ⟨hc0, hc1, hc2, hc3⟩, ⟨hs0, hs1, hs2, hs3⟩, ⟨ha0, ha1, ha2⟩, ⟨hN0, hN1, hN2⟩, -⟩ := id r
  have hbA : ¬ (fun q : Nat => sz.heap.size ≤ q) b := Nat.not_le.mpr hbl
  generalize hAz : (fun q : Nat => sz.heap.size ≤ q) = Az at hD hS hbA
  have hP : va_P D vwCl [(ad 0, .inr (1, [.ref (ad 1), .ref (ad 2), .ref (ad 3), .ref (ad 4), .ref (ad 5), .ref (ad 6), .ref (ad 7), .int (nI n)])), (ad 5, .inl (kA, 256, .inl fp)), (ad 6, .inl (kA, 256, .inl fk)), (ad 7, .inl (kA, 256, .inl fh)), (ad 1, .inr (0, [.ref (ad 8), .int (nI c0)])), (ad 8, .inl (kA, 24, .inl f0)), (ad 2, .inr (0, [.ref (ad 9), .int (nI c1)])), (ad 9, .inl (kA, 24, .inl f1)), (ad 3, .inr (0, [.ref (ad 10), .int (nI c2)])), (ad 10, .inl (kA, 24, .inl f2)), (ad 4, .inr (0, [.ref (ad 11), .int (nI c3)])), (ad 11, .inl (kA, 24, .inl f3)), (me 0, .inr (2, [.ref (me 1), .ref (me 2), .ref (me 3), .int (nI n)])), (me 1, .inl (kA, 96, .inl g)), (me 2, .inl (kA, 4, .inl (fun j => nI (ss j)))), (me 3, .inl (kA, 256, .inl mk))] H := hP
  have hD : va_D Az [(ad 0, .inr (1, [.ref (ad 1), .ref (ad 2), .ref (ad 3), .ref (ad 4), .ref (ad 5), .ref (ad 6), .ref (ad 7), .int (nI n)])), (ad 5, .inl (kA, 256, .inl fp)), (ad 6, .inl (kA, 256, .inl fk)), (ad 7, .inl (kA, 256, .inl fh)), (ad 1, .inr (0, [.ref (ad 8), .int (nI c0)])), (ad 8, .inl (kA, 24, .inl f0)), (ad 2, .inr (0, [.ref (ad 9), .int (nI c1)])), (ad 9, .inl (kA, 24, .inl f1)), (ad 3, .inr (0, [.ref (ad 10), .int (nI c2)])), (ad 10, .inl (kA, 24, .inl f2)), (ad 4, .inr (0, [.ref (ad 11), .int (nI c3)])), (ad 11, .inl (kA, 24, .inl f3)), (me 0, .inr (2, [.ref (me 1), .ref (me 2), .ref (me 3), .int (nI n)])), (me 1, .inl (kA, 96, .inl g)), (me 2, .inl (kA, 4, .inl (fun j => nI (ss j)))), (me 3, .inl (kA, 256, .inl mk))] := hD
  refine lv_aload_n hx hb dL_law_131 rfl (lv_at hl 1 rfl) ?_
  refine vz_callV (n := 0) (As := []) (rest := []) (q0 := 0) hcf (c_X1_inputs l D kA ad n fp fk fh hn) gL_law_X1_inputs rfl hd_X1_inputs ⟨Nat.le_of_ble_eq_true rfl, Nat.le_of_ble_eq_true rfl⟩ hK (hP.sub [0, 1, 2, 3] rfl) rfl rfl rfl rfl hl.1 rfl (Nat.le_of_ble_eq_true rfl) ⟨Nat.le_of_ble_eq_true rfl, Nat.le_of_ble_eq_true rfl⟩ dL_law_132 ?_
  refine lv_aload_n hx hb dL_law_135 rfl (lv_at hl 2 rfl) ?_
  refine vz_callV (n := 0) (As := []) (rest := [.int (nI n)]) (q0 := 0) hcf (c_X2_inputs l D kA me n g mk ss hn) gL_law_X2_inputs rfl hd_X2_inputs ⟨Nat.le_of_ble_eq_true rfl, Nat.le_of_ble_eq_true rfl⟩ hK (hP.sub [12, 13, 14, 15] rfl) rfl rfl rfl rfl hl.1 rfl (Nat.le_of_ble_eq_true rfl) ⟨Nat.le_of_ble_eq_true rfl, Nat.le_of_ble_eq_true rfl⟩ dL_law_136 ?_
  refine lv_icmp_eq (tgt := 473) hx hb dL_law_139 (by decide) (fun c_139 => ?_) (fun c_139 => absurd c_139 (fun h => h rfl))
  subst hAz
  exact K n fp fk fh c0 c1 c2 c3 f0 f1 f2 f3 g mk ss _ _ _ r hP hD hS hl
set_option maxHeartbeats 4000000 in
set_option maxRecDepth 100000 in
theorem law_case2 {pz : Program} {l : Launch} {ez : Env} {sz : State} {mz : MethodId} {below : List Frame} {meth : Method} {cz : Code} {D : va_G} {kA : ClassId} {b L : Nat} {xs : Nat → Int32} (hL : L ≤ 1536) (C0 : lw_At pz sz mz meth cz b L xs) (hK : va_K D vwCl [(kA, .int)] sz) (i : Nat) (hi : i + 3 ≤ L) (ad me : Nat → Nat) (K : lw_K pz l ez sz mz below meth cz D kA b i ad me 473) : lw_K pz l ez sz mz below meth cz D kA b i ad me 144 := by
  intro n fp fk fh c0 c1 c2 c3 f0 f1 f2 f3 g mk ss H locs ls r hP hD hS hl
  obtain ⟨hx, hb, hr, hml, hown, hts0, hX, hbl, hlocks, hgv⟩ := C0
  have hts := fun w h => hts0 w (wsL_law_in w h)
  have hcf : CallFix pz mz cz cL_law 4 sz #[Value.ref b] wsL_law RL := ⟨hx, hb, hml, hown, hts⟩
  have O := r_ok r
  obtain ⟨⟨hn1, hn⟩, ⟨hc0, hc1, hc2, hc3⟩, ⟨hs0, hs1, hs2, hs3⟩, ⟨ha0, ha1, ha2⟩, ⟨hN0, hN1, hN2⟩, -⟩ := id r
  have hbA : ¬ (fun q : Nat => sz.heap.size ≤ q) b := Nat.not_le.mpr hbl
  generalize hAz : (fun q : Nat => sz.heap.size ≤ q) = Az at hD hS hbA
  have hP : va_P D vwCl [(ad 0, .inr (1, [.ref (ad 1), .ref (ad 2), .ref (ad 3), .ref (ad 4), .ref (ad 5), .ref (ad 6), .ref (ad 7), .int (nI n)])), (ad 5, .inl (kA, 256, .inl fp)), (ad 6, .inl (kA, 256, .inl fk)), (ad 7, .inl (kA, 256, .inl fh)), (ad 1, .inr (0, [.ref (ad 8), .int (nI c0)])), (ad 8, .inl (kA, 24, .inl f0)), (ad 2, .inr (0, [.ref (ad 9), .int (nI c1)])), (ad 9, .inl (kA, 24, .inl f1)), (ad 3, .inr (0, [.ref (ad 10), .int (nI c2)])), (ad 10, .inl (kA, 24, .inl f2)), (ad 4, .inr (0, [.ref (ad 11), .int (nI c3)])), (ad 11, .inl (kA, 24, .inl f3)), (me 0, .inr (2, [.ref (me 1), .ref (me 2), .ref (me 3), .int (nI n)])), (me 1, .inl (kA, 96, .inl g)), (me 2, .inl (kA, 4, .inl (fun j => nI (ss j)))), (me 3, .inl (kA, 256, .inl mk))] H := hP
  have hD : va_D Az [(ad 0, .inr (1, [.ref (ad 1), .ref (ad 2), .ref (ad 3), .ref (ad 4), .ref (ad 5), .ref (ad 6), .ref (ad 7), .int (nI n)])), (ad 5, .inl (kA, 256, .inl fp)), (ad 6, .inl (kA, 256, .inl fk)), (ad 7, .inl (kA, 256, .inl fh)), (ad 1, .inr (0, [.ref (ad 8), .int (nI c0)])), (ad 8, .inl (kA, 24, .inl f0)), (ad 2, .inr (0, [.ref (ad 9), .int (nI c1)])), (ad 9, .inl (kA, 24, .inl f1)), (ad 3, .inr (0, [.ref (ad 10), .int (nI c2)])), (ad 10, .inl (kA, 24, .inl f2)), (ad 4, .inr (0, [.ref (ad 11), .int (nI c3)])), (ad 11, .inl (kA, 24, .inl f3)), (me 0, .inr (2, [.ref (me 1), .ref (me 2), .ref (me 3), .int (nI n)])), (me 1, .inl (kA, 96, .inl g)), (me 2, .inl (kA, 4, .inl (fun j => nI (ss j)))), (me 3, .inl (kA, 256, .inl mk))] := hD
  by_cases hq : ((!decide ((xs (i + 1)) < 0) && !decide (nI (4 ^ n) ≤ (xs (i + 1)))) = true) ∧ c0 < 24
  · skip
    obtain ⟨hq, hcl⟩ := hq
    refine lv_aload_n hx hb dL_law_144 rfl (lv_at hl 1 rfl) ?_
    refine lv_aload_n hx hb dL_law_145 rfl (lv_at hl 0 rfl) ?_
    refine lv_iload_n hx hb dL_law_146 rfl (lv_at hl 3 rfl) ?_
    refine lv_iconst (v := nI 1) hx hb dL_law_147 (by decide) ?_
    refine vz_add hx hb dL_law_148 ?_
    refine vz_sld hx hb hX hbl hbA hS (by omega) (by omega) dL_law_149 ?_
    refine vz_callM (n := 1) (As := [.int (xs (i + 1))]) (rest := []) (q0 := 0) hcf (c_X1_on l D kA ad n fp fk fh c0 c1 c2 c3 f0 f1 f2 f3 hn hc2 hcl (xs (i + 1)) hq) gL_law_X1_on rfl hd_X1_on ⟨Nat.le_of_ble_eq_true rfl, Nat.le_of_ble_eq_true rfl⟩ hK hP hD hS [0, 1, 2, 3, 4, 5, 6, 7, 8, 9, 10, 11] (by decide) rfl rfl rfl rfl rfl rfl rfl hl.1 rfl (Nat.le_of_ble_eq_true rfl) ⟨Nat.le_of_ble_eq_true rfl, Nat.le_of_ble_eq_true rfl⟩ dL_law_150 (fun H locs hP hD hS => ?_)
    have hP : va_P D vwCl [(ad 0, .inr (1, [.ref (ad 1), .ref (ad 2), .ref (ad 3), .ref (ad 4), .ref (ad 5), .ref (ad 6), .ref (ad 7), .int (nI n)])), (ad 5, .inl (kA, 256, .inl fp)), (ad 6, .inl (kA, 256, .inl (zmk (zN n) (fun q => decide (fk q = 0) && zX_in fp (xs (i + 1)) q) (nI 1) fk))), (ad 7, .inl (kA, 256, .inl fh)), (ad 1, .inr (0, [.ref (ad 8), .int (nI (c0 + 1))])), (ad 8, .inl (kA, 24, .inl (upd f0 c0 (xs (i + 1))))), (ad 2, .inr (0, [.ref (ad 9), .int (nI c1)])), (ad 9, .inl (kA, 24, .inl f1)), (ad 3, .inr (0, [.ref (ad 10), .int (nI 0)])), (ad 10, .inl (kA, 24, .inl f2)), (ad 4, .inr (0, [.ref (ad 11), .int (nI c3)])), (ad 11, .inl (kA, 24, .inl f3)), (me 0, .inr (2, [.ref (me 1), .ref (me 2), .ref (me 3), .int (nI n)])), (me 1, .inl (kA, 96, .inl g)), (me 2, .inl (kA, 4, .inl (fun j => nI (ss j)))), (me 3, .inl (kA, 256, .inl mk))] H := hP
    have hD : va_D Az [(ad 0, .inr (1, [.ref (ad 1), .ref (ad 2), .ref (ad 3), .ref (ad 4), .ref (ad 5), .ref (ad 6), .ref (ad 7), .int (nI n)])), (ad 5, .inl (kA, 256, .inl fp)), (ad 6, .inl (kA, 256, .inl (zmk (zN n) (fun q => decide (fk q = 0) && zX_in fp (xs (i + 1)) q) (nI 1) fk))), (ad 7, .inl (kA, 256, .inl fh)), (ad 1, .inr (0, [.ref (ad 8), .int (nI (c0 + 1))])), (ad 8, .inl (kA, 24, .inl (upd f0 c0 (xs (i + 1))))), (ad 2, .inr (0, [.ref (ad 9), .int (nI c1)])), (ad 9, .inl (kA, 24, .inl f1)), (ad 3, .inr (0, [.ref (ad 10), .int (nI 0)])), (ad 10, .inl (kA, 24, .inl f2)), (ad 4, .inr (0, [.ref (ad 11), .int (nI c3)])), (ad 11, .inl (kA, 24, .inl f3)), (me 0, .inr (2, [.ref (me 1), .ref (me 2), .ref (me 3), .int (nI n)])), (me 1, .inl (kA, 96, .inl g)), (me 2, .inl (kA, 4, .inl (fun j => nI (ss j)))), (me 3, .inl (kA, 256, .inl mk))] := hD
    refine lv_aload_n hx hb dL_law_153 rfl (lv_at hl 2 rfl) ?_
    refine lv_aload_n hx hb dL_law_154 rfl (lv_at hl 0 rfl) ?_
    refine lv_iload_n hx hb dL_law_155 rfl (lv_at hl 3 rfl) ?_
    refine lv_iconst (v := nI 1) hx hb dL_law_156 (by decide) ?_
    refine vz_add hx hb dL_law_157 ?_
    refine vz_sld hx hb hX hbl hbA hS (by omega) (by omega) dL_law_158 ?_
    refine vz_callM (n := 1) (As := [.int (xs (i + 1))]) (rest := [.int (nI 1)]) (q0 := 0) hcf (c_X2_on l D kA me n g mk ss hn (xs (i + 1)) (by omega) hq (c0 + 1) c1 (zv (upd g (24 * 0 + ss 0) (xs (i + 1))) 0) (zv (upd g (24 * 0 + ss 0) (xs (i + 1))) 1) (by show ss 0 + 1 = c0 + 1; omega) (by show ss 1 = c1; exact hs1) (by omega) (by omega) (fun _ _ => rfl) (fun _ _ => rfl)) gL_law_X2_on rfl hd_X2_on ⟨Nat.le_of_ble_eq_true rfl, Nat.le_of_ble_eq_true rfl⟩ hK hP hD hS [12, 13, 14, 15] (by decide) rfl rfl rfl rfl rfl rfl rfl hl.1 rfl (Nat.le_of_ble_eq_true rfl) ⟨Nat.le_of_ble_eq_true rfl, Nat.le_of_ble_eq_true rfl⟩ dL_law_159 (fun H locs hP hD hS => ?_)
    have hP : va_P D vwCl [(ad 0, .inr (1, [.ref (ad 1), .ref (ad 2), .ref (ad 3), .ref (ad 4), .ref (ad 5), .ref (ad 6), .ref (ad 7), .int (nI n)])), (ad 5, .inl (kA, 256, .inl fp)), (ad 6, .inl (kA, 256, .inl (zmk (zN n) (fun q => decide (fk q = 0) && zX_in fp (xs (i + 1)) q) (nI 1) fk))), (ad 7, .inl (kA, 256, .inl fh)), (ad 1, .inr (0, [.ref (ad 8), .int (nI (c0 + 1))])), (ad 8, .inl (kA, 24, .inl (upd f0 c0 (xs (i + 1))))), (ad 2, .inr (0, [.ref (ad 9), .int (nI c1)])), (ad 9, .inl (kA, 24, .inl f1)), (ad 3, .inr (0, [.ref (ad 10), .int (nI 0)])), (ad 10, .inl (kA, 24, .inl f2)), (ad 4, .inr (0, [.ref (ad 11), .int (nI c3)])), (ad 11, .inl (kA, 24, .inl f3)), (me 0, .inr (2, [.ref (me 1), .ref (me 2), .ref (me 3), .int (nI n)])), (me 1, .inl (kA, 96, .inl (upd g (24 * 0 + ss 0) (xs (i + 1))))), (me 2, .inl (kA, 4, .inl (fun j => nI ((va_up (va_up ss 0 (ss 0 + 1)) 2 0) j)))), (me 3, .inl (kA, 256, .inl (zcp (zN n) (zMk n (c0 + 1) (zv (upd g (24 * 0 + ss 0) (xs (i + 1))) 0) c1 (zv (upd g (24 * 0 + ss 0) (xs (i + 1))) 1)) mk)))] H := hP
    have hD : va_D Az [(ad 0, .inr (1, [.ref (ad 1), .ref (ad 2), .ref (ad 3), .ref (ad 4), .ref (ad 5), .ref (ad 6), .ref (ad 7), .int (nI n)])), (ad 5, .inl (kA, 256, .inl fp)), (ad 6, .inl (kA, 256, .inl (zmk (zN n) (fun q => decide (fk q = 0) && zX_in fp (xs (i + 1)) q) (nI 1) fk))), (ad 7, .inl (kA, 256, .inl fh)), (ad 1, .inr (0, [.ref (ad 8), .int (nI (c0 + 1))])), (ad 8, .inl (kA, 24, .inl (upd f0 c0 (xs (i + 1))))), (ad 2, .inr (0, [.ref (ad 9), .int (nI c1)])), (ad 9, .inl (kA, 24, .inl f1)), (ad 3, .inr (0, [.ref (ad 10), .int (nI 0)])), (ad 10, .inl (kA, 24, .inl f2)), (ad 4, .inr (0, [.ref (ad 11), .int (nI c3)])), (ad 11, .inl (kA, 24, .inl f3)), (me 0, .inr (2, [.ref (me 1), .ref (me 2), .ref (me 3), .int (nI n)])), (me 1, .inl (kA, 96, .inl (upd g (24 * 0 + ss 0) (xs (i + 1))))), (me 2, .inl (kA, 4, .inl (fun j => nI ((va_up (va_up ss 0 (ss 0 + 1)) 2 0) j)))), (me 3, .inl (kA, 256, .inl (zcp (zN n) (zMk n (c0 + 1) (zv (upd g (24 * 0 + ss 0) (xs (i + 1))) 0) c1 (zv (upd g (24 * 0 + ss 0) (xs (i + 1))) 1)) mk)))] := hD
    refine lv_icmp_eq (tgt := 473) hx hb dL_law_162 (by decide) (fun c_162 => ?_) (fun c_162 => absurd c_162 (fun h => h rfl))
    subst hAz
    exact K n fp (zmk (zN n) (fun q => decide (fk q = 0) && zX_in fp (xs (i + 1)) q) (nI 1) fk) fh (c0 + 1) c1 0 c3 (upd f0 c0 (xs (i + 1))) f1 f2 f3 (upd g (24 * 0 + ss 0) (xs (i + 1))) (zcp (zN n) (zMk n (c0 + 1) (zv (upd g (24 * 0 + ss 0) (xs (i + 1))) 0) c1 (zv (upd g (24 * 0 + ss 0) (xs (i + 1))) 1)) mk) (va_up (va_up ss 0 (ss 0 + 1)) 2 0) _ _ _ (r_on r hq hcl) hP hD hS hl
  · skip
    have hq2 : (!decide ((xs (i + 1)) < 0) && !decide (nI (4 ^ n) ≤ (xs (i + 1)))) = false ∨ c0 = 24 := by
      cases hb9 : (!decide ((xs (i + 1)) < 0) && !decide (nI (4 ^ n) ≤ (xs (i + 1)))) with
      | false => exact Or.inl rfl
      | true =>
        have h7 : ¬ c0 < 24 := fun h => hq ⟨hb9, h⟩
        exact Or.inr (by omega)
    refine lv_aload_n hx hb dL_law_144 rfl (lv_at hl 1 rfl) ?_
    refine lv_aload_n hx hb dL_law_145 rfl (lv_at hl 0 rfl) ?_
    refine lv_iload_n hx hb dL_law_146 rfl (lv_at hl 3 rfl) ?_
    refine lv_iconst (v := nI 1) hx hb dL_law_147 (by decide) ?_
    refine vz_add hx hb dL_law_148 ?_
    refine vz_sld hx hb hX hbl hbA hS (by omega) (by omega) dL_law_149 ?_
    refine vz_callV (n := 1) (As := [.int (xs (i + 1))]) (rest := []) (q0 := 0) hcf (c_X1_on_no l D kA ad n fp fk fh c0 c1 c2 c3 f0 f1 f2 f3 hn (xs (i + 1)) hq2) gL_law_X1_on rfl hd_X1_on ⟨Nat.le_of_ble_eq_true rfl, Nat.le_of_ble_eq_true rfl⟩ hK (hP.sub [0, 1, 2, 3, 4, 5, 6, 7, 8, 9, 10, 11] rfl) rfl rfl rfl rfl hl.1 rfl (Nat.le_of_ble_eq_true rfl) ⟨Nat.le_of_ble_eq_true rfl, Nat.le_of_ble_eq_true rfl⟩ dL_law_150 ?_
    refine lv_aload_n hx hb dL_law_153 rfl (lv_at hl 2 rfl) ?_
    refine lv_aload_n hx hb dL_law_154 rfl (lv_at hl 0 rfl) ?_
    refine lv_iload_n hx hb dL_law_155 rfl (lv_at hl 3 rfl) ?_
    refine lv_iconst (v := nI 1) hx hb dL_law_156 (by decide) ?_
    refine vz_add hx hb dL_law_157 ?_
    refine vz_sld hx hb hX hbl hbA hS (by omega) (by omega) dL_law_158 ?_
    refine vz_callV (n := 1) (As := [.int (xs (i + 1))]) (rest := [.int (nI 0)]) (q0 := 0) hcf (c_X2_on_no l D kA me n g mk ss hn (xs (i + 1)) (by omega) (by rw [hs0]; exact hq2)) gL_law_X2_on rfl hd_X2_on ⟨Nat.le_of_ble_eq_true rfl, Nat.le_of_ble_eq_true rfl⟩ hK (hP.sub [12, 13, 14, 15] rfl) rfl rfl rfl rfl hl.1 rfl (Nat.le_of_ble_eq_true rfl) ⟨Nat.le_of_ble_eq_true rfl, Nat.le_of_ble_eq_true rfl⟩ dL_law_159 ?_
    refine lv_icmp_eq (tgt := 473) hx hb dL_law_162 (by decide) (fun c_162 => ?_) (fun c_162 => absurd c_162 (fun h => h rfl))
    subst hAz
    exact K n fp fk fh c0 c1 c2 c3 f0 f1 f2 f3 g mk ss _ _ _ r hP hD hS hl
set_option maxHeartbeats 4000000 in
set_option maxRecDepth 100000 in
theorem law_case3 {pz : Program} {l : Launch} {ez : Env} {sz : State} {mz : MethodId} {below : List Frame} {meth : Method} {cz : Code} {D : va_G} {kA : ClassId} {b L : Nat} {xs : Nat → Int32} (hL : L ≤ 1536) (C0 : lw_At pz sz mz meth cz b L xs) (hK : va_K D vwCl [(kA, .int)] sz) (i : Nat) (hi : i + 3 ≤ L) (ad me : Nat → Nat) (K : lw_K pz l ez sz mz below meth cz D kA b i ad me 473) : lw_K pz l ez sz mz below meth cz D kA b i ad me 167 := by
  intro n fp fk fh c0 c1 c2 c3 f0 f1 f2 f3 g mk ss H locs ls r hP hD hS hl
  obtain ⟨hx, hb, hr, hml, hown, hts0, hX, hbl, hlocks, hgv⟩ := C0
  have hts := fun w h => hts0 w (wsL_law_in w h)
  have hcf : CallFix pz mz cz cL_law 4 sz #[Value.ref b] wsL_law RL := ⟨hx, hb, hml, hown, hts⟩
  have O := r_ok r
  obtain ⟨⟨hn1, hn⟩, ⟨hc0, hc1, hc2, hc3⟩, ⟨hs0, hs1, hs2, hs3⟩, ⟨ha0, ha1, ha2⟩, ⟨hN0, hN1, hN2⟩, -⟩ := id r
  have hbA : ¬ (fun q : Nat => sz.heap.size ≤ q) b := Nat.not_le.mpr hbl
  generalize hAz : (fun q : Nat => sz.heap.size ≤ q) = Az at hD hS hbA
  have hP : va_P D vwCl [(ad 0, .inr (1, [.ref (ad 1), .ref (ad 2), .ref (ad 3), .ref (ad 4), .ref (ad 5), .ref (ad 6), .ref (ad 7), .int (nI n)])), (ad 5, .inl (kA, 256, .inl fp)), (ad 6, .inl (kA, 256, .inl fk)), (ad 7, .inl (kA, 256, .inl fh)), (ad 1, .inr (0, [.ref (ad 8), .int (nI c0)])), (ad 8, .inl (kA, 24, .inl f0)), (ad 2, .inr (0, [.ref (ad 9), .int (nI c1)])), (ad 9, .inl (kA, 24, .inl f1)), (ad 3, .inr (0, [.ref (ad 10), .int (nI c2)])), (ad 10, .inl (kA, 24, .inl f2)), (ad 4, .inr (0, [.ref (ad 11), .int (nI c3)])), (ad 11, .inl (kA, 24, .inl f3)), (me 0, .inr (2, [.ref (me 1), .ref (me 2), .ref (me 3), .int (nI n)])), (me 1, .inl (kA, 96, .inl g)), (me 2, .inl (kA, 4, .inl (fun j => nI (ss j)))), (me 3, .inl (kA, 256, .inl mk))] H := hP
  have hD : va_D Az [(ad 0, .inr (1, [.ref (ad 1), .ref (ad 2), .ref (ad 3), .ref (ad 4), .ref (ad 5), .ref (ad 6), .ref (ad 7), .int (nI n)])), (ad 5, .inl (kA, 256, .inl fp)), (ad 6, .inl (kA, 256, .inl fk)), (ad 7, .inl (kA, 256, .inl fh)), (ad 1, .inr (0, [.ref (ad 8), .int (nI c0)])), (ad 8, .inl (kA, 24, .inl f0)), (ad 2, .inr (0, [.ref (ad 9), .int (nI c1)])), (ad 9, .inl (kA, 24, .inl f1)), (ad 3, .inr (0, [.ref (ad 10), .int (nI c2)])), (ad 10, .inl (kA, 24, .inl f2)), (ad 4, .inr (0, [.ref (ad 11), .int (nI c3)])), (ad 11, .inl (kA, 24, .inl f3)), (me 0, .inr (2, [.ref (me 1), .ref (me 2), .ref (me 3), .int (nI n)])), (me 1, .inl (kA, 96, .inl g)), (me 2, .inl (kA, 4, .inl (fun j => nI (ss j)))), (me 3, .inl (kA, 256, .inl mk))] := hD
  by_cases hq : ((!decide ((xs (i + 1)) < 0) && !decide (nI (4 ^ n) ≤ (xs (i + 1)))) = true) ∧ c1 < 24
  · skip
    obtain ⟨hq, hcl⟩ := hq
    refine lv_aload_n hx hb dL_law_167 rfl (lv_at hl 1 rfl) ?_
    refine lv_aload_n hx hb dL_law_168 rfl (lv_at hl 0 rfl) ?_
    refine lv_iload_n hx hb dL_law_169 rfl (lv_at hl 3 rfl) ?_
    refine lv_iconst (v := nI 1) hx hb dL_law_170 (by decide) ?_
    refine vz_add hx hb dL_law_171 ?_
    refine vz_sld hx hb hX hbl hbA hS (by omega) (by omega) dL_law_172 ?_
    refine vz_callM (n := 1) (As := [.int (xs (i + 1))]) (rest := []) (q0 := 0) hcf (c_X1_dc l D kA ad n fp fk fh c0 c1 c2 c3 f0 f1 f2 f3 hn hc2 hcl (xs (i + 1)) hq) gL_law_X1_dc rfl hd_X1_dc ⟨Nat.le_of_ble_eq_true rfl, Nat.le_of_ble_eq_true rfl⟩ hK hP hD hS [0, 1, 2, 3, 4, 5, 6, 7, 8, 9, 10, 11] (by decide) rfl rfl rfl rfl rfl rfl rfl hl.1 rfl (Nat.le_of_ble_eq_true rfl) ⟨Nat.le_of_ble_eq_true rfl, Nat.le_of_ble_eq_true rfl⟩ dL_law_173 (fun H locs hP hD hS => ?_)
    have hP : va_P D vwCl [(ad 0, .inr (1, [.ref (ad 1), .ref (ad 2), .ref (ad 3), .ref (ad 4), .ref (ad 5), .ref (ad 6), .ref (ad 7), .int (nI n)])), (ad 5, .inl (kA, 256, .inl fp)), (ad 6, .inl (kA, 256, .inl (zmk (zN n) (zX_in fp (xs (i + 1))) (nI 2) fk))), (ad 7, .inl (kA, 256, .inl fh)), (ad 1, .inr (0, [.ref (ad 8), .int (nI c0)])), (ad 8, .inl (kA, 24, .inl f0)), (ad 2, .inr (0, [.ref (ad 9), .int (nI (c1 + 1))])), (ad 9, .inl (kA, 24, .inl (upd f1 c1 (xs (i + 1))))), (ad 3, .inr (0, [.ref (ad 10), .int (nI 0)])), (ad 10, .inl (kA, 24, .inl f2)), (ad 4, .inr (0, [.ref (ad 11), .int (nI c3)])), (ad 11, .inl (kA, 24, .inl f3)), (me 0, .inr (2, [.ref (me 1), .ref (me 2), .ref (me 3), .int (nI n)])), (me 1, .inl (kA, 96, .inl g)), (me 2, .inl (kA, 4, .inl (fun j => nI (ss j)))), (me 3, .inl (kA, 256, .inl mk))] H := hP
    have hD : va_D Az [(ad 0, .inr (1, [.ref (ad 1), .ref (ad 2), .ref (ad 3), .ref (ad 4), .ref (ad 5), .ref (ad 6), .ref (ad 7), .int (nI n)])), (ad 5, .inl (kA, 256, .inl fp)), (ad 6, .inl (kA, 256, .inl (zmk (zN n) (zX_in fp (xs (i + 1))) (nI 2) fk))), (ad 7, .inl (kA, 256, .inl fh)), (ad 1, .inr (0, [.ref (ad 8), .int (nI c0)])), (ad 8, .inl (kA, 24, .inl f0)), (ad 2, .inr (0, [.ref (ad 9), .int (nI (c1 + 1))])), (ad 9, .inl (kA, 24, .inl (upd f1 c1 (xs (i + 1))))), (ad 3, .inr (0, [.ref (ad 10), .int (nI 0)])), (ad 10, .inl (kA, 24, .inl f2)), (ad 4, .inr (0, [.ref (ad 11), .int (nI c3)])), (ad 11, .inl (kA, 24, .inl f3)), (me 0, .inr (2, [.ref (me 1), .ref (me 2), .ref (me 3), .int (nI n)])), (me 1, .inl (kA, 96, .inl g)), (me 2, .inl (kA, 4, .inl (fun j => nI (ss j)))), (me 3, .inl (kA, 256, .inl mk))] := hD
    refine lv_aload_n hx hb dL_law_176 rfl (lv_at hl 2 rfl) ?_
    refine lv_aload_n hx hb dL_law_177 rfl (lv_at hl 0 rfl) ?_
    refine lv_iload_n hx hb dL_law_178 rfl (lv_at hl 3 rfl) ?_
    refine lv_iconst (v := nI 1) hx hb dL_law_179 (by decide) ?_
    refine vz_add hx hb dL_law_180 ?_
    refine vz_sld hx hb hX hbl hbA hS (by omega) (by omega) dL_law_181 ?_
    refine vz_callM (n := 1) (As := [.int (xs (i + 1))]) (rest := [.int (nI 1)]) (q0 := 0) hcf (c_X2_dc l D kA me n g mk ss hn (xs (i + 1)) (by omega) hq c0 (c1 + 1) (zv (upd g (24 * 1 + ss 1) (xs (i + 1))) 0) (zv (upd g (24 * 1 + ss 1) (xs (i + 1))) 1) (by show ss 0 = c0; exact hs0) (by show ss 1 + 1 = c1 + 1; omega) (by omega) (by omega) (fun _ _ => rfl) (fun _ _ => rfl)) gL_law_X2_dc rfl hd_X2_dc ⟨Nat.le_of_ble_eq_true rfl, Nat.le_of_ble_eq_true rfl⟩ hK hP hD hS [12, 13, 14, 15] (by decide) rfl rfl rfl rfl rfl rfl rfl hl.1 rfl (Nat.le_of_ble_eq_true rfl) ⟨Nat.le_of_ble_eq_true rfl, Nat.le_of_ble_eq_true rfl⟩ dL_law_182 (fun H locs hP hD hS => ?_)
    have hP : va_P D vwCl [(ad 0, .inr (1, [.ref (ad 1), .ref (ad 2), .ref (ad 3), .ref (ad 4), .ref (ad 5), .ref (ad 6), .ref (ad 7), .int (nI n)])), (ad 5, .inl (kA, 256, .inl fp)), (ad 6, .inl (kA, 256, .inl (zmk (zN n) (zX_in fp (xs (i + 1))) (nI 2) fk))), (ad 7, .inl (kA, 256, .inl fh)), (ad 1, .inr (0, [.ref (ad 8), .int (nI c0)])), (ad 8, .inl (kA, 24, .inl f0)), (ad 2, .inr (0, [.ref (ad 9), .int (nI (c1 + 1))])), (ad 9, .inl (kA, 24, .inl (upd f1 c1 (xs (i + 1))))), (ad 3, .inr (0, [.ref (ad 10), .int (nI 0)])), (ad 10, .inl (kA, 24, .inl f2)), (ad 4, .inr (0, [.ref (ad 11), .int (nI c3)])), (ad 11, .inl (kA, 24, .inl f3)), (me 0, .inr (2, [.ref (me 1), .ref (me 2), .ref (me 3), .int (nI n)])), (me 1, .inl (kA, 96, .inl (upd g (24 * 1 + ss 1) (xs (i + 1))))), (me 2, .inl (kA, 4, .inl (fun j => nI ((va_up (va_up ss 1 (ss 1 + 1)) 2 0) j)))), (me 3, .inl (kA, 256, .inl (zcp (zN n) (zMk n c0 (zv (upd g (24 * 1 + ss 1) (xs (i + 1))) 0) (c1 + 1) (zv (upd g (24 * 1 + ss 1) (xs (i + 1))) 1)) mk)))] H := hP
    have hD : va_D Az [(ad 0, .inr (1, [.ref (ad 1), .ref (ad 2), .ref (ad 3), .ref (ad 4), .ref (ad 5), .ref (ad 6), .ref (ad 7), .int (nI n)])), (ad 5, .inl (kA, 256, .inl fp)), (ad 6, .inl (kA, 256, .inl (zmk (zN n) (zX_in fp (xs (i + 1))) (nI 2) fk))), (ad 7, .inl (kA, 256, .inl fh)), (ad 1, .inr (0, [.ref (ad 8), .int (nI c0)])), (ad 8, .inl (kA, 24, .inl f0)), (ad 2, .inr (0, [.ref (ad 9), .int (nI (c1 + 1))])), (ad 9, .inl (kA, 24, .inl (upd f1 c1 (xs (i + 1))))), (ad 3, .inr (0, [.ref (ad 10), .int (nI 0)])), (ad 10, .inl (kA, 24, .inl f2)), (ad 4, .inr (0, [.ref (ad 11), .int (nI c3)])), (ad 11, .inl (kA, 24, .inl f3)), (me 0, .inr (2, [.ref (me 1), .ref (me 2), .ref (me 3), .int (nI n)])), (me 1, .inl (kA, 96, .inl (upd g (24 * 1 + ss 1) (xs (i + 1))))), (me 2, .inl (kA, 4, .inl (fun j => nI ((va_up (va_up ss 1 (ss 1 + 1)) 2 0) j)))), (me 3, .inl (kA, 256, .inl (zcp (zN n) (zMk n c0 (zv (upd g (24 * 1 + ss 1) (xs (i + 1))) 0) (c1 + 1) (zv (upd g (24 * 1 + ss 1) (xs (i + 1))) 1)) mk)))] := hD
    refine lv_icmp_eq (tgt := 473) hx hb dL_law_185 (by decide) (fun c_185 => ?_) (fun c_185 => absurd c_185 (fun h => h rfl))
    subst hAz
    exact K n fp (zmk (zN n) (zX_in fp (xs (i + 1))) (nI 2) fk) fh c0 (c1 + 1) 0 c3 f0 (upd f1 c1 (xs (i + 1))) f2 f3 (upd g (24 * 1 + ss 1) (xs (i + 1))) (zcp (zN n) (zMk n c0 (zv (upd g (24 * 1 + ss 1) (xs (i + 1))) 0) (c1 + 1) (zv (upd g (24 * 1 + ss 1) (xs (i + 1))) 1)) mk) (va_up (va_up ss 1 (ss 1 + 1)) 2 0) _ _ _ (r_dc r hq hcl) hP hD hS hl
  · skip
    have hq2 : (!decide ((xs (i + 1)) < 0) && !decide (nI (4 ^ n) ≤ (xs (i + 1)))) = false ∨ c1 = 24 := by
      cases hb9 : (!decide ((xs (i + 1)) < 0) && !decide (nI (4 ^ n) ≤ (xs (i + 1)))) with
      | false => exact Or.inl rfl
      | true =>
        have h7 : ¬ c1 < 24 := fun h => hq ⟨hb9, h⟩
        exact Or.inr (by omega)
    refine lv_aload_n hx hb dL_law_167 rfl (lv_at hl 1 rfl) ?_
    refine lv_aload_n hx hb dL_law_168 rfl (lv_at hl 0 rfl) ?_
    refine lv_iload_n hx hb dL_law_169 rfl (lv_at hl 3 rfl) ?_
    refine lv_iconst (v := nI 1) hx hb dL_law_170 (by decide) ?_
    refine vz_add hx hb dL_law_171 ?_
    refine vz_sld hx hb hX hbl hbA hS (by omega) (by omega) dL_law_172 ?_
    refine vz_callV (n := 1) (As := [.int (xs (i + 1))]) (rest := []) (q0 := 0) hcf (c_X1_dc_no l D kA ad n fp fk fh c0 c1 c2 c3 f0 f1 f2 f3 hn (xs (i + 1)) hq2) gL_law_X1_dc rfl hd_X1_dc ⟨Nat.le_of_ble_eq_true rfl, Nat.le_of_ble_eq_true rfl⟩ hK (hP.sub [0, 1, 2, 3, 4, 5, 6, 7, 8, 9, 10, 11] rfl) rfl rfl rfl rfl hl.1 rfl (Nat.le_of_ble_eq_true rfl) ⟨Nat.le_of_ble_eq_true rfl, Nat.le_of_ble_eq_true rfl⟩ dL_law_173 ?_
    refine lv_aload_n hx hb dL_law_176 rfl (lv_at hl 2 rfl) ?_
    refine lv_aload_n hx hb dL_law_177 rfl (lv_at hl 0 rfl) ?_
    refine lv_iload_n hx hb dL_law_178 rfl (lv_at hl 3 rfl) ?_
    refine lv_iconst (v := nI 1) hx hb dL_law_179 (by decide) ?_
    refine vz_add hx hb dL_law_180 ?_
    refine vz_sld hx hb hX hbl hbA hS (by omega) (by omega) dL_law_181 ?_
    refine vz_callV (n := 1) (As := [.int (xs (i + 1))]) (rest := [.int (nI 0)]) (q0 := 0) hcf (c_X2_dc_no l D kA me n g mk ss hn (xs (i + 1)) (by omega) (by rw [hs1]; exact hq2)) gL_law_X2_dc rfl hd_X2_dc ⟨Nat.le_of_ble_eq_true rfl, Nat.le_of_ble_eq_true rfl⟩ hK (hP.sub [12, 13, 14, 15] rfl) rfl rfl rfl rfl hl.1 rfl (Nat.le_of_ble_eq_true rfl) ⟨Nat.le_of_ble_eq_true rfl, Nat.le_of_ble_eq_true rfl⟩ dL_law_182 ?_
    refine lv_icmp_eq (tgt := 473) hx hb dL_law_185 (by decide) (fun c_185 => ?_) (fun c_185 => absurd c_185 (fun h => h rfl))
    subst hAz
    exact K n fp fk fh c0 c1 c2 c3 f0 f1 f2 f3 g mk ss _ _ _ r hP hD hS hl
set_option maxHeartbeats 4000000 in
set_option maxRecDepth 100000 in
theorem law_case4 {pz : Program} {l : Launch} {ez : Env} {sz : State} {mz : MethodId} {below : List Frame} {meth : Method} {cz : Code} {D : va_G} {kA : ClassId} {b L : Nat} {xs : Nat → Int32} (hL : L ≤ 1536) (C0 : lw_At pz sz mz meth cz b L xs) (hK : va_K D vwCl [(kA, .int)] sz) (i : Nat) (hi : i + 3 ≤ L) (ad me : Nat → Nat) (K : lw_K pz l ez sz mz below meth cz D kA b i ad me 473) : lw_K pz l ez sz mz below meth cz D kA b i ad me 190 := by
  intro n fp fk fh c0 c1 c2 c3 f0 f1 f2 f3 g mk ss H locs ls r hP hD hS hl
  obtain ⟨hx, hb, hr, hml, hown, hts0, hX, hbl, hlocks, hgv⟩ := C0
  have hts := fun w h => hts0 w (wsL_law_in w h)
  have hcf : CallFix pz mz cz cL_law 4 sz #[Value.ref b] wsL_law RL := ⟨hx, hb, hml, hown, hts⟩
  have O := r_ok r
  obtain ⟨⟨hn1, hn⟩, ⟨hc0, hc1, hc2, hc3⟩, ⟨hs0, hs1, hs2, hs3⟩, ⟨ha0, ha1, ha2⟩, ⟨hN0, hN1, hN2⟩, -⟩ := id r
  have hbA : ¬ (fun q : Nat => sz.heap.size ≤ q) b := Nat.not_le.mpr hbl
  generalize hAz : (fun q : Nat => sz.heap.size ≤ q) = Az at hD hS hbA
  have hP : va_P D vwCl [(ad 0, .inr (1, [.ref (ad 1), .ref (ad 2), .ref (ad 3), .ref (ad 4), .ref (ad 5), .ref (ad 6), .ref (ad 7), .int (nI n)])), (ad 5, .inl (kA, 256, .inl fp)), (ad 6, .inl (kA, 256, .inl fk)), (ad 7, .inl (kA, 256, .inl fh)), (ad 1, .inr (0, [.ref (ad 8), .int (nI c0)])), (ad 8, .inl (kA, 24, .inl f0)), (ad 2, .inr (0, [.ref (ad 9), .int (nI c1)])), (ad 9, .inl (kA, 24, .inl f1)), (ad 3, .inr (0, [.ref (ad 10), .int (nI c2)])), (ad 10, .inl (kA, 24, .inl f2)), (ad 4, .inr (0, [.ref (ad 11), .int (nI c3)])), (ad 11, .inl (kA, 24, .inl f3)), (me 0, .inr (2, [.ref (me 1), .ref (me 2), .ref (me 3), .int (nI n)])), (me 1, .inl (kA, 96, .inl g)), (me 2, .inl (kA, 4, .inl (fun j => nI (ss j)))), (me 3, .inl (kA, 256, .inl mk))] H := hP
  have hD : va_D Az [(ad 0, .inr (1, [.ref (ad 1), .ref (ad 2), .ref (ad 3), .ref (ad 4), .ref (ad 5), .ref (ad 6), .ref (ad 7), .int (nI n)])), (ad 5, .inl (kA, 256, .inl fp)), (ad 6, .inl (kA, 256, .inl fk)), (ad 7, .inl (kA, 256, .inl fh)), (ad 1, .inr (0, [.ref (ad 8), .int (nI c0)])), (ad 8, .inl (kA, 24, .inl f0)), (ad 2, .inr (0, [.ref (ad 9), .int (nI c1)])), (ad 9, .inl (kA, 24, .inl f1)), (ad 3, .inr (0, [.ref (ad 10), .int (nI c2)])), (ad 10, .inl (kA, 24, .inl f2)), (ad 4, .inr (0, [.ref (ad 11), .int (nI c3)])), (ad 11, .inl (kA, 24, .inl f3)), (me 0, .inr (2, [.ref (me 1), .ref (me 2), .ref (me 3), .int (nI n)])), (me 1, .inl (kA, 96, .inl g)), (me 2, .inl (kA, 4, .inl (fun j => nI (ss j)))), (me 3, .inl (kA, 256, .inl mk))] := hD
  rcases l_list (xs (i + 1)) with ex | ex | ex | ⟨ex, ey⟩
  · skip
    refine lv_aload_n hx hb dL_law_190 rfl (lv_at hl 1 rfl) ?_
    refine lv_aload_n hx hb dL_law_191 rfl (lv_at hl 0 rfl) ?_
    refine lv_iload_n hx hb dL_law_192 rfl (lv_at hl 3 rfl) ?_
    refine lv_iconst (v := nI 1) hx hb dL_law_193 (by decide) ?_
    refine vz_add hx hb dL_law_194 ?_
    refine vz_sld hx hb hX hbl hbA hS (by omega) (by omega) dL_law_195 ?_
    refine vz_top (y := (nI 0)) ex ?_
    refine vz_callV (n := 1) (As := [.int (nI 0)]) (rest := []) (q0 := 0) hcf (c_X1_size0 l D kA ad n fp fk fh c0 c1 c2 c3 f0 f1 f2 f3 hn hc0) gL_law_X1_size rfl hd_X1_size ⟨Nat.le_of_ble_eq_true rfl, Nat.le_of_ble_eq_true rfl⟩ hK (hP.sub [0, 1, 2, 3, 4, 5, 6, 7, 8, 9, 10, 11] rfl) rfl rfl rfl rfl hl.1 rfl (Nat.le_of_ble_eq_true rfl) ⟨Nat.le_of_ble_eq_true rfl, Nat.le_of_ble_eq_true rfl⟩ dL_law_196 ?_
    refine lv_aload_n hx hb dL_law_199 rfl (lv_at hl 2 rfl) ?_
    refine lv_aload_n hx hb dL_law_200 rfl (lv_at hl 0 rfl) ?_
    refine lv_iload_n hx hb dL_law_201 rfl (lv_at hl 3 rfl) ?_
    refine lv_iconst (v := nI 1) hx hb dL_law_202 (by decide) ?_
    refine vz_add hx hb dL_law_203 ?_
    refine vz_sld hx hb hX hbl hbA hS (by omega) (by omega) dL_law_204 ?_
    refine vz_top (y := (nI 0)) ex ?_
    refine vz_callV (n := 1) (As := [.int (nI 0)]) (rest := [.int (nI c0)]) (q0 := 0) hcf (c_X2_size0 l D kA me n g mk ss hn c0 (zv g 0) hs0 hc0 (fun _ _ => rfl)) gL_law_X2_size rfl hd_X2_size ⟨Nat.le_of_ble_eq_true rfl, Nat.le_of_ble_eq_true rfl⟩ hK (hP.sub [12, 13, 14, 15] rfl) rfl rfl rfl rfl hl.1 rfl (Nat.le_of_ble_eq_true rfl) ⟨Nat.le_of_ble_eq_true rfl, Nat.le_of_ble_eq_true rfl⟩ dL_law_205 ?_
    refine lv_icmp_eq (tgt := 473) hx hb dL_law_208 (by decide) (fun c_208 => ?_) (fun c_208 => absurd c_208 (fun h => h rfl))
    subst hAz
    exact K n fp fk fh c0 c1 c2 c3 f0 f1 f2 f3 g mk ss _ _ _ r hP hD hS hl
  · skip
    refine lv_aload_n hx hb dL_law_190 rfl (lv_at hl 1 rfl) ?_
    refine lv_aload_n hx hb dL_law_191 rfl (lv_at hl 0 rfl) ?_
    refine lv_iload_n hx hb dL_law_192 rfl (lv_at hl 3 rfl) ?_
    refine lv_iconst (v := nI 1) hx hb dL_law_193 (by decide) ?_
    refine vz_add hx hb dL_law_194 ?_
    refine vz_sld hx hb hX hbl hbA hS (by omega) (by omega) dL_law_195 ?_
    refine vz_top (y := (nI 1)) ex ?_
    refine vz_callV (n := 1) (As := [.int (nI 1)]) (rest := []) (q0 := 0) hcf (c_X1_size1 l D kA ad n fp fk fh c0 c1 c2 c3 f0 f1 f2 f3 hn hc1) gL_law_X1_size rfl hd_X1_size ⟨Nat.le_of_ble_eq_true rfl, Nat.le_of_ble_eq_true rfl⟩ hK (hP.sub [0, 1, 2, 3, 4, 5, 6, 7, 8, 9, 10, 11] rfl) rfl rfl rfl rfl hl.1 rfl (Nat.le_of_ble_eq_true rfl) ⟨Nat.le_of_ble_eq_true rfl, Nat.le_of_ble_eq_true rfl⟩ dL_law_196 ?_
    refine lv_aload_n hx hb dL_law_199 rfl (lv_at hl 2 rfl) ?_
    refine lv_aload_n hx hb dL_law_200 rfl (lv_at hl 0 rfl) ?_
    refine lv_iload_n hx hb dL_law_201 rfl (lv_at hl 3 rfl) ?_
    refine lv_iconst (v := nI 1) hx hb dL_law_202 (by decide) ?_
    refine vz_add hx hb dL_law_203 ?_
    refine vz_sld hx hb hX hbl hbA hS (by omega) (by omega) dL_law_204 ?_
    refine vz_top (y := (nI 1)) ex ?_
    refine vz_callV (n := 1) (As := [.int (nI 1)]) (rest := [.int (nI c1)]) (q0 := 0) hcf (c_X2_size1 l D kA me n g mk ss hn c1 (zv g 1) hs1 hc1 (fun _ _ => rfl)) gL_law_X2_size rfl hd_X2_size ⟨Nat.le_of_ble_eq_true rfl, Nat.le_of_ble_eq_true rfl⟩ hK (hP.sub [12, 13, 14, 15] rfl) rfl rfl rfl rfl hl.1 rfl (Nat.le_of_ble_eq_true rfl) ⟨Nat.le_of_ble_eq_true rfl, Nat.le_of_ble_eq_true rfl⟩ dL_law_205 ?_
    refine lv_icmp_eq (tgt := 473) hx hb dL_law_208 (by decide) (fun c_208 => ?_) (fun c_208 => absurd c_208 (fun h => h rfl))
    subst hAz
    exact K n fp fk fh c0 c1 c2 c3 f0 f1 f2 f3 g mk ss _ _ _ r hP hD hS hl
  · skip
    refine lv_aload_n hx hb dL_law_190 rfl (lv_at hl 1 rfl) ?_
    refine lv_aload_n hx hb dL_law_191 rfl (lv_at hl 0 rfl) ?_
    refine lv_iload_n hx hb dL_law_192 rfl (lv_at hl 3 rfl) ?_
    refine lv_iconst (v := nI 1) hx hb dL_law_193 (by decide) ?_
    refine vz_add hx hb dL_law_194 ?_
    refine vz_sld hx hb hX hbl hbA hS (by omega) (by omega) dL_law_195 ?_
    refine vz_top (y := (nI 2)) ex ?_
    refine vz_callV (n := 1) (As := [.int (nI 2)]) (rest := []) (q0 := 0) hcf (c_X1_size2 l D kA ad n fp fk fh c0 c1 c2 c3 f0 f1 f2 f3 hn hc2) gL_law_X1_size rfl hd_X1_size ⟨Nat.le_of_ble_eq_true rfl, Nat.le_of_ble_eq_true rfl⟩ hK (hP.sub [0, 1, 2, 3, 4, 5, 6, 7, 8, 9, 10, 11] rfl) rfl rfl rfl rfl hl.1 rfl (Nat.le_of_ble_eq_true rfl) ⟨Nat.le_of_ble_eq_true rfl, Nat.le_of_ble_eq_true rfl⟩ dL_law_196 ?_
    refine lv_aload_n hx hb dL_law_199 rfl (lv_at hl 2 rfl) ?_
    refine lv_aload_n hx hb dL_law_200 rfl (lv_at hl 0 rfl) ?_
    refine lv_iload_n hx hb dL_law_201 rfl (lv_at hl 3 rfl) ?_
    refine lv_iconst (v := nI 1) hx hb dL_law_202 (by decide) ?_
    refine vz_add hx hb dL_law_203 ?_
    refine vz_sld hx hb hX hbl hbA hS (by omega) (by omega) dL_law_204 ?_
    refine vz_top (y := (nI 2)) ex ?_
    refine vz_callV (n := 1) (As := [.int (nI 2)]) (rest := [.int (nI c2)]) (q0 := 0) hcf (c_X2_size2 l D kA me n g mk ss hn c2 (zv g 2) hs2 hc2 (fun _ _ => rfl)) gL_law_X2_size rfl hd_X2_size ⟨Nat.le_of_ble_eq_true rfl, Nat.le_of_ble_eq_true rfl⟩ hK (hP.sub [12, 13, 14, 15] rfl) rfl rfl rfl rfl hl.1 rfl (Nat.le_of_ble_eq_true rfl) ⟨Nat.le_of_ble_eq_true rfl, Nat.le_of_ble_eq_true rfl⟩ dL_law_205 ?_
    refine lv_icmp_eq (tgt := 473) hx hb dL_law_208 (by decide) (fun c_208 => ?_) (fun c_208 => absurd c_208 (fun h => h rfl))
    subst hAz
    exact K n fp fk fh c0 c1 c2 c3 f0 f1 f2 f3 g mk ss _ _ _ r hP hD hS hl
  · skip
    refine lv_aload_n hx hb dL_law_190 rfl (lv_at hl 1 rfl) ?_
    refine lv_aload_n hx hb dL_law_191 rfl (lv_at hl 0 rfl) ?_
    refine lv_iload_n hx hb dL_law_192 rfl (lv_at hl 3 rfl) ?_
    refine lv_iconst (v := nI 1) hx hb dL_law_193 (by decide) ?_
    refine vz_add hx hb dL_law_194 ?_
    refine vz_sld hx hb hX hbl hbA hS (by omega) (by omega) dL_law_195 ?_
    refine vz_callV (n := 1) (As := [.int (xs (i + 1))]) (rest := []) (q0 := 0) hcf (c_X1_size3 l D kA ad n fp fk fh c0 c1 c2 c3 f0 f1 f2 f3 hn (xs (i + 1)) ex) gL_law_X1_size rfl hd_X1_size ⟨Nat.le_of_ble_eq_true rfl, Nat.le_of_ble_eq_true rfl⟩ hK (hP.sub [0, 1, 2, 3, 4, 5, 6, 7, 8, 9, 10, 11] rfl) rfl rfl rfl rfl hl.1 rfl (Nat.le_of_ble_eq_true rfl) ⟨Nat.le_of_ble_eq_true rfl, Nat.le_of_ble_eq_true rfl⟩ dL_law_196 ?_
    refine lv_aload_n hx hb dL_law_199 rfl (lv_at hl 2 rfl) ?_
    refine lv_aload_n hx hb dL_law_200 rfl (lv_at hl 0 rfl) ?_
    refine lv_iload_n hx hb dL_law_201 rfl (lv_at hl 3 rfl) ?_
    refine lv_iconst (v := nI 1) hx hb dL_law_202 (by decide) ?_
    refine vz_add hx hb dL_law_203 ?_
    refine vz_sld hx hb hX hbl hbA hS (by omega) (by omega) dL_law_204 ?_
    refine vz_callV (n := 1) (As := [.int (xs (i + 1))]) (rest := [.int (-1)]) (q0 := 0) hcf (c_X2_size3 l D kA me n g mk ss hn (xs (i + 1)) ey) gL_law_X2_size rfl hd_X2_size ⟨Nat.le_of_ble_eq_true rfl, Nat.le_of_ble_eq_true rfl⟩ hK (hP.sub [12, 13, 14, 15] rfl) rfl rfl rfl rfl hl.1 rfl (Nat.le_of_ble_eq_true rfl) ⟨Nat.le_of_ble_eq_true rfl, Nat.le_of_ble_eq_true rfl⟩ dL_law_205 ?_
    refine lv_icmp_eq (tgt := 473) hx hb dL_law_208 (by decide) (fun c_208 => ?_) (fun c_208 => absurd c_208 (fun h => h rfl))
    subst hAz
    exact K n fp fk fh c0 c1 c2 c3 f0 f1 f2 f3 g mk ss _ _ _ r hP hD hS hl
set_option maxHeartbeats 4000000 in
set_option maxRecDepth 100000 in
theorem law_case5 {pz : Program} {l : Launch} {ez : Env} {sz : State} {mz : MethodId} {below : List Frame} {meth : Method} {cz : Code} {D : va_G} {kA : ClassId} {b L : Nat} {xs : Nat → Int32} (hL : L ≤ 1536) (C0 : lw_At pz sz mz meth cz b L xs) (hK : va_K D vwCl [(kA, .int)] sz) (i : Nat) (hi : i + 3 ≤ L) (ad me : Nat → Nat) (K : lw_K pz l ez sz mz below meth cz D kA b i ad me 473) : lw_K pz l ez sz mz below meth cz D kA b i ad me 213 := by
  intro n fp fk fh c0 c1 c2 c3 f0 f1 f2 f3 g mk ss H locs ls r hP hD hS hl
  obtain ⟨hx, hb, hr, hml, hown, hts0, hX, hbl, hlocks, hgv⟩ := C0
  have hts := fun w h => hts0 w (wsL_law_in w h)
  have hcf : CallFix pz mz cz cL_law 4 sz #[Value.ref b] wsL_law RL := ⟨hx, hb, hml, hown, hts⟩
  have O := r_ok r
  obtain ⟨⟨hn1, hn⟩, ⟨hc0, hc1, hc2, hc3⟩, ⟨hs0, hs1, hs2, hs3⟩, ⟨ha0, ha1, ha2⟩, ⟨hN0, hN1, hN2⟩, -⟩ := id r
  have hbA : ¬ (fun q : Nat => sz.heap.size ≤ q) b := Nat.not_le.mpr hbl
  generalize hAz : (fun q : Nat => sz.heap.size ≤ q) = Az at hD hS hbA
  have hP : va_P D vwCl [(ad 0, .inr (1, [.ref (ad 1), .ref (ad 2), .ref (ad 3), .ref (ad 4), .ref (ad 5), .ref (ad 6), .ref (ad 7), .int (nI n)])), (ad 5, .inl (kA, 256, .inl fp)), (ad 6, .inl (kA, 256, .inl fk)), (ad 7, .inl (kA, 256, .inl fh)), (ad 1, .inr (0, [.ref (ad 8), .int (nI c0)])), (ad 8, .inl (kA, 24, .inl f0)), (ad 2, .inr (0, [.ref (ad 9), .int (nI c1)])), (ad 9, .inl (kA, 24, .inl f1)), (ad 3, .inr (0, [.ref (ad 10), .int (nI c2)])), (ad 10, .inl (kA, 24, .inl f2)), (ad 4, .inr (0, [.ref (ad 11), .int (nI c3)])), (ad 11, .inl (kA, 24, .inl f3)), (me 0, .inr (2, [.ref (me 1), .ref (me 2), .ref (me 3), .int (nI n)])), (me 1, .inl (kA, 96, .inl g)), (me 2, .inl (kA, 4, .inl (fun j => nI (ss j)))), (me 3, .inl (kA, 256, .inl mk))] H := hP
  have hD : va_D Az [(ad 0, .inr (1, [.ref (ad 1), .ref (ad 2), .ref (ad 3), .ref (ad 4), .ref (ad 5), .ref (ad 6), .ref (ad 7), .int (nI n)])), (ad 5, .inl (kA, 256, .inl fp)), (ad 6, .inl (kA, 256, .inl fk)), (ad 7, .inl (kA, 256, .inl fh)), (ad 1, .inr (0, [.ref (ad 8), .int (nI c0)])), (ad 8, .inl (kA, 24, .inl f0)), (ad 2, .inr (0, [.ref (ad 9), .int (nI c1)])), (ad 9, .inl (kA, 24, .inl f1)), (ad 3, .inr (0, [.ref (ad 10), .int (nI c2)])), (ad 10, .inl (kA, 24, .inl f2)), (ad 4, .inr (0, [.ref (ad 11), .int (nI c3)])), (ad 11, .inl (kA, 24, .inl f3)), (me 0, .inr (2, [.ref (me 1), .ref (me 2), .ref (me 3), .int (nI n)])), (me 1, .inl (kA, 96, .inl g)), (me 2, .inl (kA, 4, .inl (fun j => nI (ss j)))), (me 3, .inl (kA, 256, .inl mk))] := hD
  rcases l_list (xs (i + 1)) with ex | ex | ex | ⟨ex, ey⟩
  · skip
    refine lv_aload_n hx hb dL_law_213 rfl (lv_at hl 1 rfl) ?_
    refine lv_aload_n hx hb dL_law_214 rfl (lv_at hl 0 rfl) ?_
    refine lv_iload_n hx hb dL_law_215 rfl (lv_at hl 3 rfl) ?_
    refine lv_iconst (v := nI 1) hx hb dL_law_216 (by decide) ?_
    refine vz_add hx hb dL_law_217 ?_
    refine vz_sld hx hb hX hbl hbA hS (by omega) (by omega) dL_law_218 ?_
    refine vz_top (y := (nI 0)) ex ?_
    refine lv_aload_n hx hb dL_law_219 rfl (lv_at hl 0 rfl) ?_
    refine lv_iload_n hx hb dL_law_220 rfl (lv_at hl 3 rfl) ?_
    refine lv_iconst (v := nI 2) hx hb dL_law_221 (by decide) ?_
    refine vz_add hx hb dL_law_222 ?_
    refine vz_sld hx hb hX hbl hbA hS (by omega) (by omega) dL_law_223 ?_
    refine vz_callV (n := 2) (As := [.int (nI 0), .int (xs (i + 2))]) (rest := []) (q0 := 0) hcf (c_X1_cube0 l D kA ad n fp fk fh c0 c1 c2 c3 f0 f1 f2 f3 hn hc0 (xs (i + 2))) gL_law_X1_cube rfl hd_X1_cube ⟨Nat.le_of_ble_eq_true rfl, Nat.le_of_ble_eq_true rfl⟩ hK (hP.sub [0, 1, 2, 3, 4, 5, 6, 7, 8, 9, 10, 11] rfl) rfl rfl rfl rfl hl.1 rfl (Nat.le_of_ble_eq_true rfl) ⟨Nat.le_of_ble_eq_true rfl, Nat.le_of_ble_eq_true rfl⟩ dL_law_224 ?_
    refine lv_aload_n hx hb dL_law_227 rfl (lv_at hl 2 rfl) ?_
    refine lv_aload_n hx hb dL_law_228 rfl (lv_at hl 0 rfl) ?_
    refine lv_iload_n hx hb dL_law_229 rfl (lv_at hl 3 rfl) ?_
    refine lv_iconst (v := nI 1) hx hb dL_law_230 (by decide) ?_
    refine vz_add hx hb dL_law_231 ?_
    refine vz_sld hx hb hX hbl hbA hS (by omega) (by omega) dL_law_232 ?_
    refine vz_top (y := (nI 0)) ex ?_
    refine lv_aload_n hx hb dL_law_233 rfl (lv_at hl 0 rfl) ?_
    refine lv_iload_n hx hb dL_law_234 rfl (lv_at hl 3 rfl) ?_
    refine lv_iconst (v := nI 2) hx hb dL_law_235 (by decide) ?_
    refine vz_add hx hb dL_law_236 ?_
    refine vz_sld hx hb hX hbl hbA hS (by omega) (by omega) dL_law_237 ?_
    refine vz_callV (n := 2) (As := [.int (nI 0), .int (xs (i + 2))]) (rest := [.int (zat c0 f0 (xs (i + 2)))]) (q0 := 0) hcf (c_X2_cube0 l D kA me n g mk ss hn c0 (zv g 0) hs0 hc0 (fun _ _ => rfl) (xs (i + 2))) gL_law_X2_cube rfl hd_X2_cube ⟨Nat.le_of_ble_eq_true rfl, Nat.le_of_ble_eq_true rfl⟩ hK (hP.sub [12, 13, 14, 15] rfl) rfl rfl rfl rfl hl.1 rfl (Nat.le_of_ble_eq_true rfl) ⟨Nat.le_of_ble_eq_true rfl, Nat.le_of_ble_eq_true rfl⟩ dL_law_238 ?_
    refine lv_icmp_eq (tgt := 473) hx hb dL_law_241 (by decide) (fun c_241 => ?_) (fun c_241 => absurd c_241 (fun h => h (k_at hc0 ha0 _)))
    subst hAz
    exact K n fp fk fh c0 c1 c2 c3 f0 f1 f2 f3 g mk ss _ _ _ r hP hD hS hl
  · skip
    refine lv_aload_n hx hb dL_law_213 rfl (lv_at hl 1 rfl) ?_
    refine lv_aload_n hx hb dL_law_214 rfl (lv_at hl 0 rfl) ?_
    refine lv_iload_n hx hb dL_law_215 rfl (lv_at hl 3 rfl) ?_
    refine lv_iconst (v := nI 1) hx hb dL_law_216 (by decide) ?_
    refine vz_add hx hb dL_law_217 ?_
    refine vz_sld hx hb hX hbl hbA hS (by omega) (by omega) dL_law_218 ?_
    refine vz_top (y := (nI 1)) ex ?_
    refine lv_aload_n hx hb dL_law_219 rfl (lv_at hl 0 rfl) ?_
    refine lv_iload_n hx hb dL_law_220 rfl (lv_at hl 3 rfl) ?_
    refine lv_iconst (v := nI 2) hx hb dL_law_221 (by decide) ?_
    refine vz_add hx hb dL_law_222 ?_
    refine vz_sld hx hb hX hbl hbA hS (by omega) (by omega) dL_law_223 ?_
    refine vz_callV (n := 2) (As := [.int (nI 1), .int (xs (i + 2))]) (rest := []) (q0 := 0) hcf (c_X1_cube1 l D kA ad n fp fk fh c0 c1 c2 c3 f0 f1 f2 f3 hn hc1 (xs (i + 2))) gL_law_X1_cube rfl hd_X1_cube ⟨Nat.le_of_ble_eq_true rfl, Nat.le_of_ble_eq_true rfl⟩ hK (hP.sub [0, 1, 2, 3, 4, 5, 6, 7, 8, 9, 10, 11] rfl) rfl rfl rfl rfl hl.1 rfl (Nat.le_of_ble_eq_true rfl) ⟨Nat.le_of_ble_eq_true rfl, Nat.le_of_ble_eq_true rfl⟩ dL_law_224 ?_
    refine lv_aload_n hx hb dL_law_227 rfl (lv_at hl 2 rfl) ?_
    refine lv_aload_n hx hb dL_law_228 rfl (lv_at hl 0 rfl) ?_
    refine lv_iload_n hx hb dL_law_229 rfl (lv_at hl 3 rfl) ?_
    refine lv_iconst (v := nI 1) hx hb dL_law_230 (by decide) ?_
    refine vz_add hx hb dL_law_231 ?_
    refine vz_sld hx hb hX hbl hbA hS (by omega) (by omega) dL_law_232 ?_
    refine vz_top (y := (nI 1)) ex ?_
    refine lv_aload_n hx hb dL_law_233 rfl (lv_at hl 0 rfl) ?_
    refine lv_iload_n hx hb dL_law_234 rfl (lv_at hl 3 rfl) ?_
    refine lv_iconst (v := nI 2) hx hb dL_law_235 (by decide) ?_
    refine vz_add hx hb dL_law_236 ?_
    refine vz_sld hx hb hX hbl hbA hS (by omega) (by omega) dL_law_237 ?_
    refine vz_callV (n := 2) (As := [.int (nI 1), .int (xs (i + 2))]) (rest := [.int (zat c1 f1 (xs (i + 2)))]) (q0 := 0) hcf (c_X2_cube1 l D kA me n g mk ss hn c1 (zv g 1) hs1 hc1 (fun _ _ => rfl) (xs (i + 2))) gL_law_X2_cube rfl hd_X2_cube ⟨Nat.le_of_ble_eq_true rfl, Nat.le_of_ble_eq_true rfl⟩ hK (hP.sub [12, 13, 14, 15] rfl) rfl rfl rfl rfl hl.1 rfl (Nat.le_of_ble_eq_true rfl) ⟨Nat.le_of_ble_eq_true rfl, Nat.le_of_ble_eq_true rfl⟩ dL_law_238 ?_
    refine lv_icmp_eq (tgt := 473) hx hb dL_law_241 (by decide) (fun c_241 => ?_) (fun c_241 => absurd c_241 (fun h => h (k_at hc1 ha1 _)))
    subst hAz
    exact K n fp fk fh c0 c1 c2 c3 f0 f1 f2 f3 g mk ss _ _ _ r hP hD hS hl
  · skip
    refine lv_aload_n hx hb dL_law_213 rfl (lv_at hl 1 rfl) ?_
    refine lv_aload_n hx hb dL_law_214 rfl (lv_at hl 0 rfl) ?_
    refine lv_iload_n hx hb dL_law_215 rfl (lv_at hl 3 rfl) ?_
    refine lv_iconst (v := nI 1) hx hb dL_law_216 (by decide) ?_
    refine vz_add hx hb dL_law_217 ?_
    refine vz_sld hx hb hX hbl hbA hS (by omega) (by omega) dL_law_218 ?_
    refine vz_top (y := (nI 2)) ex ?_
    refine lv_aload_n hx hb dL_law_219 rfl (lv_at hl 0 rfl) ?_
    refine lv_iload_n hx hb dL_law_220 rfl (lv_at hl 3 rfl) ?_
    refine lv_iconst (v := nI 2) hx hb dL_law_221 (by decide) ?_
    refine vz_add hx hb dL_law_222 ?_
    refine vz_sld hx hb hX hbl hbA hS (by omega) (by omega) dL_law_223 ?_
    refine vz_callV (n := 2) (As := [.int (nI 2), .int (xs (i + 2))]) (rest := []) (q0 := 0) hcf (c_X1_cube2 l D kA ad n fp fk fh c0 c1 c2 c3 f0 f1 f2 f3 hn hc2 (xs (i + 2))) gL_law_X1_cube rfl hd_X1_cube ⟨Nat.le_of_ble_eq_true rfl, Nat.le_of_ble_eq_true rfl⟩ hK (hP.sub [0, 1, 2, 3, 4, 5, 6, 7, 8, 9, 10, 11] rfl) rfl rfl rfl rfl hl.1 rfl (Nat.le_of_ble_eq_true rfl) ⟨Nat.le_of_ble_eq_true rfl, Nat.le_of_ble_eq_true rfl⟩ dL_law_224 ?_
    refine lv_aload_n hx hb dL_law_227 rfl (lv_at hl 2 rfl) ?_
    refine lv_aload_n hx hb dL_law_228 rfl (lv_at hl 0 rfl) ?_
    refine lv_iload_n hx hb dL_law_229 rfl (lv_at hl 3 rfl) ?_
    refine lv_iconst (v := nI 1) hx hb dL_law_230 (by decide) ?_
    refine vz_add hx hb dL_law_231 ?_
    refine vz_sld hx hb hX hbl hbA hS (by omega) (by omega) dL_law_232 ?_
    refine vz_top (y := (nI 2)) ex ?_
    refine lv_aload_n hx hb dL_law_233 rfl (lv_at hl 0 rfl) ?_
    refine lv_iload_n hx hb dL_law_234 rfl (lv_at hl 3 rfl) ?_
    refine lv_iconst (v := nI 2) hx hb dL_law_235 (by decide) ?_
    refine vz_add hx hb dL_law_236 ?_
    refine vz_sld hx hb hX hbl hbA hS (by omega) (by omega) dL_law_237 ?_
    refine vz_callV (n := 2) (As := [.int (nI 2), .int (xs (i + 2))]) (rest := [.int (zat c2 f2 (xs (i + 2)))]) (q0 := 0) hcf (c_X2_cube2 l D kA me n g mk ss hn c2 (zv g 2) hs2 hc2 (fun _ _ => rfl) (xs (i + 2))) gL_law_X2_cube rfl hd_X2_cube ⟨Nat.le_of_ble_eq_true rfl, Nat.le_of_ble_eq_true rfl⟩ hK (hP.sub [12, 13, 14, 15] rfl) rfl rfl rfl rfl hl.1 rfl (Nat.le_of_ble_eq_true rfl) ⟨Nat.le_of_ble_eq_true rfl, Nat.le_of_ble_eq_true rfl⟩ dL_law_238 ?_
    refine lv_icmp_eq (tgt := 473) hx hb dL_law_241 (by decide) (fun c_241 => ?_) (fun c_241 => absurd c_241 (fun h => h (k_at hc2 ha2 _)))
    subst hAz
    exact K n fp fk fh c0 c1 c2 c3 f0 f1 f2 f3 g mk ss _ _ _ r hP hD hS hl
  · skip
    refine lv_aload_n hx hb dL_law_213 rfl (lv_at hl 1 rfl) ?_
    refine lv_aload_n hx hb dL_law_214 rfl (lv_at hl 0 rfl) ?_
    refine lv_iload_n hx hb dL_law_215 rfl (lv_at hl 3 rfl) ?_
    refine lv_iconst (v := nI 1) hx hb dL_law_216 (by decide) ?_
    refine vz_add hx hb dL_law_217 ?_
    refine vz_sld hx hb hX hbl hbA hS (by omega) (by omega) dL_law_218 ?_
    refine lv_aload_n hx hb dL_law_219 rfl (lv_at hl 0 rfl) ?_
    refine lv_iload_n hx hb dL_law_220 rfl (lv_at hl 3 rfl) ?_
    refine lv_iconst (v := nI 2) hx hb dL_law_221 (by decide) ?_
    refine vz_add hx hb dL_law_222 ?_
    refine vz_sld hx hb hX hbl hbA hS (by omega) (by omega) dL_law_223 ?_
    refine vz_callV (n := 2) (As := [.int (xs (i + 1)), .int (xs (i + 2))]) (rest := []) (q0 := 0) hcf (c_X1_cube3 l D kA ad n fp fk fh c0 c1 c2 c3 f0 f1 f2 f3 hn (xs (i + 1)) ex (xs (i + 2))) gL_law_X1_cube rfl hd_X1_cube ⟨Nat.le_of_ble_eq_true rfl, Nat.le_of_ble_eq_true rfl⟩ hK (hP.sub [0, 1, 2, 3, 4, 5, 6, 7, 8, 9, 10, 11] rfl) rfl rfl rfl rfl hl.1 rfl (Nat.le_of_ble_eq_true rfl) ⟨Nat.le_of_ble_eq_true rfl, Nat.le_of_ble_eq_true rfl⟩ dL_law_224 ?_
    refine lv_aload_n hx hb dL_law_227 rfl (lv_at hl 2 rfl) ?_
    refine lv_aload_n hx hb dL_law_228 rfl (lv_at hl 0 rfl) ?_
    refine lv_iload_n hx hb dL_law_229 rfl (lv_at hl 3 rfl) ?_
    refine lv_iconst (v := nI 1) hx hb dL_law_230 (by decide) ?_
    refine vz_add hx hb dL_law_231 ?_
    refine vz_sld hx hb hX hbl hbA hS (by omega) (by omega) dL_law_232 ?_
    refine lv_aload_n hx hb dL_law_233 rfl (lv_at hl 0 rfl) ?_
    refine lv_iload_n hx hb dL_law_234 rfl (lv_at hl 3 rfl) ?_
    refine lv_iconst (v := nI 2) hx hb dL_law_235 (by decide) ?_
    refine vz_add hx hb dL_law_236 ?_
    refine vz_sld hx hb hX hbl hbA hS (by omega) (by omega) dL_law_237 ?_
    refine vz_callV (n := 2) (As := [.int (xs (i + 1)), .int (xs (i + 2))]) (rest := [.int (-1)]) (q0 := 0) hcf (c_X2_cube3 l D kA me n g mk ss hn (xs (i + 1)) ey (xs (i + 2))) gL_law_X2_cube rfl hd_X2_cube ⟨Nat.le_of_ble_eq_true rfl, Nat.le_of_ble_eq_true rfl⟩ hK (hP.sub [12, 13, 14, 15] rfl) rfl rfl rfl rfl hl.1 rfl (Nat.le_of_ble_eq_true rfl) ⟨Nat.le_of_ble_eq_true rfl, Nat.le_of_ble_eq_true rfl⟩ dL_law_238 ?_
    refine lv_icmp_eq (tgt := 473) hx hb dL_law_241 (by decide) (fun c_241 => ?_) (fun c_241 => absurd c_241 (fun h => h rfl))
    subst hAz
    exact K n fp fk fh c0 c1 c2 c3 f0 f1 f2 f3 g mk ss _ _ _ r hP hD hS hl
set_option maxHeartbeats 4000000 in
set_option maxRecDepth 100000 in
theorem law_case6 {pz : Program} {l : Launch} {ez : Env} {sz : State} {mz : MethodId} {below : List Frame} {meth : Method} {cz : Code} {D : va_G} {kA : ClassId} {b L : Nat} {xs : Nat → Int32} (hL : L ≤ 1536) (C0 : lw_At pz sz mz meth cz b L xs) (hK : va_K D vwCl [(kA, .int)] sz) (i : Nat) (hi : i + 3 ≤ L) (ad me : Nat → Nat) (K : lw_K pz l ez sz mz below meth cz D kA b i ad me 473) : lw_K pz l ez sz mz below meth cz D kA b i ad me 246 := by
  intro n fp fk fh c0 c1 c2 c3 f0 f1 f2 f3 g mk ss H locs ls r hP hD hS hl
  obtain ⟨hx, hb, hr, hml, hown, hts0, hX, hbl, hlocks, hgv⟩ := C0
  have hts := fun w h => hts0 w (wsL_law_in w h)
  have hcf : CallFix pz mz cz cL_law 4 sz #[Value.ref b] wsL_law RL := ⟨hx, hb, hml, hown, hts⟩
  have O := r_ok r
  obtain ⟨⟨hn1, hn⟩, ⟨hc0, hc1, hc2, hc3⟩, ⟨hs0, hs1, hs2, hs3⟩, ⟨ha0, ha1, ha2⟩, ⟨hN0, hN1, hN2⟩, -⟩ := id r
  have hbA : ¬ (fun q : Nat => sz.heap.size ≤ q) b := Nat.not_le.mpr hbl
  generalize hAz : (fun q : Nat => sz.heap.size ≤ q) = Az at hD hS hbA
  have hP : va_P D vwCl [(ad 0, .inr (1, [.ref (ad 1), .ref (ad 2), .ref (ad 3), .ref (ad 4), .ref (ad 5), .ref (ad 6), .ref (ad 7), .int (nI n)])), (ad 5, .inl (kA, 256, .inl fp)), (ad 6, .inl (kA, 256, .inl fk)), (ad 7, .inl (kA, 256, .inl fh)), (ad 1, .inr (0, [.ref (ad 8), .int (nI c0)])), (ad 8, .inl (kA, 24, .inl f0)), (ad 2, .inr (0, [.ref (ad 9), .int (nI c1)])), (ad 9, .inl (kA, 24, .inl f1)), (ad 3, .inr (0, [.ref (ad 10), .int (nI c2)])), (ad 10, .inl (kA, 24, .inl f2)), (ad 4, .inr (0, [.ref (ad 11), .int (nI c3)])), (ad 11, .inl (kA, 24, .inl f3)), (me 0, .inr (2, [.ref (me 1), .ref (me 2), .ref (me 3), .int (nI n)])), (me 1, .inl (kA, 96, .inl g)), (me 2, .inl (kA, 4, .inl (fun j => nI (ss j)))), (me 3, .inl (kA, 256, .inl mk))] H := hP
  have hD : va_D Az [(ad 0, .inr (1, [.ref (ad 1), .ref (ad 2), .ref (ad 3), .ref (ad 4), .ref (ad 5), .ref (ad 6), .ref (ad 7), .int (nI n)])), (ad 5, .inl (kA, 256, .inl fp)), (ad 6, .inl (kA, 256, .inl fk)), (ad 7, .inl (kA, 256, .inl fh)), (ad 1, .inr (0, [.ref (ad 8), .int (nI c0)])), (ad 8, .inl (kA, 24, .inl f0)), (ad 2, .inr (0, [.ref (ad 9), .int (nI c1)])), (ad 9, .inl (kA, 24, .inl f1)), (ad 3, .inr (0, [.ref (ad 10), .int (nI c2)])), (ad 10, .inl (kA, 24, .inl f2)), (ad 4, .inr (0, [.ref (ad 11), .int (nI c3)])), (ad 11, .inl (kA, 24, .inl f3)), (me 0, .inr (2, [.ref (me 1), .ref (me 2), .ref (me 3), .int (nI n)])), (me 1, .inl (kA, 96, .inl g)), (me 2, .inl (kA, 4, .inl (fun j => nI (ss j)))), (me 3, .inl (kA, 256, .inl mk))] := hD
  rcases l_list (xs (i + 1)) with ex | ex | ex | ⟨ex, ey⟩
  · skip
    refine lv_aload_n hx hb dL_law_246 rfl (lv_at hl 1 rfl) ?_
    refine lv_aload_n hx hb dL_law_247 rfl (lv_at hl 0 rfl) ?_
    refine lv_iload_n hx hb dL_law_248 rfl (lv_at hl 3 rfl) ?_
    refine lv_iconst (v := nI 1) hx hb dL_law_249 (by decide) ?_
    refine vz_add hx hb dL_law_250 ?_
    refine vz_sld hx hb hX hbl hbA hS (by omega) (by omega) dL_law_251 ?_
    refine vz_top (y := (nI 0)) ex ?_
    refine vz_callV (n := 1) (As := [.int (nI 0)]) (rest := []) (q0 := 0) hcf (c_X1_literals0 l D kA ad n fp fk fh c0 c1 c2 c3 f0 f1 f2 f3 hn hc0) gL_law_X1_literals rfl hd_X1_literals ⟨Nat.le_of_ble_eq_true rfl, Nat.le_of_ble_eq_true rfl⟩ hK (hP.sub [0, 1, 2, 3, 4, 5, 6, 7, 8, 9, 10, 11] rfl) rfl rfl rfl rfl hl.1 rfl (Nat.le_of_ble_eq_true rfl) ⟨Nat.le_of_ble_eq_true rfl, Nat.le_of_ble_eq_true rfl⟩ dL_law_252 ?_
    refine lv_aload_n hx hb dL_law_255 rfl (lv_at hl 2 rfl) ?_
    refine lv_aload_n hx hb dL_law_256 rfl (lv_at hl 0 rfl) ?_
    refine lv_iload_n hx hb dL_law_257 rfl (lv_at hl 3 rfl) ?_
    refine lv_iconst (v := nI 1) hx hb dL_law_258 (by decide) ?_
    refine vz_add hx hb dL_law_259 ?_
    refine vz_sld hx hb hX hbl hbA hS (by omega) (by omega) dL_law_260 ?_
    refine vz_top (y := (nI 0)) ex ?_
    refine vz_callV (n := 1) (As := [.int (nI 0)]) (rest := [.int (nI (zlits n c0 f0))]) (q0 := 0) hcf (c_X2_literals0 l D kA me n g mk ss hn c0 (zv g 0) hs0 hc0 (fun _ _ => rfl)) gL_law_X2_literals rfl hd_X2_literals ⟨Nat.le_of_ble_eq_true rfl, Nat.le_of_ble_eq_true rfl⟩ hK (hP.sub [12, 13, 14, 15] rfl) rfl rfl rfl rfl hl.1 rfl (Nat.le_of_ble_eq_true rfl) ⟨Nat.le_of_ble_eq_true rfl, Nat.le_of_ble_eq_true rfl⟩ dL_law_261 ?_
    refine lv_icmp_eq (tgt := 473) hx hb dL_law_264 (by decide) (fun c_264 => ?_) (fun c_264 => absurd c_264 (fun h => h (congrArg nI (k_lits hn ha0))))
    subst hAz
    exact K n fp fk fh c0 c1 c2 c3 f0 f1 f2 f3 g mk ss _ _ _ r hP hD hS hl
  · skip
    refine lv_aload_n hx hb dL_law_246 rfl (lv_at hl 1 rfl) ?_
    refine lv_aload_n hx hb dL_law_247 rfl (lv_at hl 0 rfl) ?_
    refine lv_iload_n hx hb dL_law_248 rfl (lv_at hl 3 rfl) ?_
    refine lv_iconst (v := nI 1) hx hb dL_law_249 (by decide) ?_
    refine vz_add hx hb dL_law_250 ?_
    refine vz_sld hx hb hX hbl hbA hS (by omega) (by omega) dL_law_251 ?_
    refine vz_top (y := (nI 1)) ex ?_
    refine vz_callV (n := 1) (As := [.int (nI 1)]) (rest := []) (q0 := 0) hcf (c_X1_literals1 l D kA ad n fp fk fh c0 c1 c2 c3 f0 f1 f2 f3 hn hc1) gL_law_X1_literals rfl hd_X1_literals ⟨Nat.le_of_ble_eq_true rfl, Nat.le_of_ble_eq_true rfl⟩ hK (hP.sub [0, 1, 2, 3, 4, 5, 6, 7, 8, 9, 10, 11] rfl) rfl rfl rfl rfl hl.1 rfl (Nat.le_of_ble_eq_true rfl) ⟨Nat.le_of_ble_eq_true rfl, Nat.le_of_ble_eq_true rfl⟩ dL_law_252 ?_
    refine lv_aload_n hx hb dL_law_255 rfl (lv_at hl 2 rfl) ?_
    refine lv_aload_n hx hb dL_law_256 rfl (lv_at hl 0 rfl) ?_
    refine lv_iload_n hx hb dL_law_257 rfl (lv_at hl 3 rfl) ?_
    refine lv_iconst (v := nI 1) hx hb dL_law_258 (by decide) ?_
    refine vz_add hx hb dL_law_259 ?_
    refine vz_sld hx hb hX hbl hbA hS (by omega) (by omega) dL_law_260 ?_
    refine vz_top (y := (nI 1)) ex ?_
    refine vz_callV (n := 1) (As := [.int (nI 1)]) (rest := [.int (nI (zlits n c1 f1))]) (q0 := 0) hcf (c_X2_literals1 l D kA me n g mk ss hn c1 (zv g 1) hs1 hc1 (fun _ _ => rfl)) gL_law_X2_literals rfl hd_X2_literals ⟨Nat.le_of_ble_eq_true rfl, Nat.le_of_ble_eq_true rfl⟩ hK (hP.sub [12, 13, 14, 15] rfl) rfl rfl rfl rfl hl.1 rfl (Nat.le_of_ble_eq_true rfl) ⟨Nat.le_of_ble_eq_true rfl, Nat.le_of_ble_eq_true rfl⟩ dL_law_261 ?_
    refine lv_icmp_eq (tgt := 473) hx hb dL_law_264 (by decide) (fun c_264 => ?_) (fun c_264 => absurd c_264 (fun h => h (congrArg nI (k_lits hn ha1))))
    subst hAz
    exact K n fp fk fh c0 c1 c2 c3 f0 f1 f2 f3 g mk ss _ _ _ r hP hD hS hl
  · skip
    refine lv_aload_n hx hb dL_law_246 rfl (lv_at hl 1 rfl) ?_
    refine lv_aload_n hx hb dL_law_247 rfl (lv_at hl 0 rfl) ?_
    refine lv_iload_n hx hb dL_law_248 rfl (lv_at hl 3 rfl) ?_
    refine lv_iconst (v := nI 1) hx hb dL_law_249 (by decide) ?_
    refine vz_add hx hb dL_law_250 ?_
    refine vz_sld hx hb hX hbl hbA hS (by omega) (by omega) dL_law_251 ?_
    refine vz_top (y := (nI 2)) ex ?_
    refine vz_callV (n := 1) (As := [.int (nI 2)]) (rest := []) (q0 := 0) hcf (c_X1_literals2 l D kA ad n fp fk fh c0 c1 c2 c3 f0 f1 f2 f3 hn hc2) gL_law_X1_literals rfl hd_X1_literals ⟨Nat.le_of_ble_eq_true rfl, Nat.le_of_ble_eq_true rfl⟩ hK (hP.sub [0, 1, 2, 3, 4, 5, 6, 7, 8, 9, 10, 11] rfl) rfl rfl rfl rfl hl.1 rfl (Nat.le_of_ble_eq_true rfl) ⟨Nat.le_of_ble_eq_true rfl, Nat.le_of_ble_eq_true rfl⟩ dL_law_252 ?_
    refine lv_aload_n hx hb dL_law_255 rfl (lv_at hl 2 rfl) ?_
    refine lv_aload_n hx hb dL_law_256 rfl (lv_at hl 0 rfl) ?_
    refine lv_iload_n hx hb dL_law_257 rfl (lv_at hl 3 rfl) ?_
    refine lv_iconst (v := nI 1) hx hb dL_law_258 (by decide) ?_
    refine vz_add hx hb dL_law_259 ?_
    refine vz_sld hx hb hX hbl hbA hS (by omega) (by omega) dL_law_260 ?_
    refine vz_top (y := (nI 2)) ex ?_
    refine vz_callV (n := 1) (As := [.int (nI 2)]) (rest := [.int (nI (zlits n c2 f2))]) (q0 := 0) hcf (c_X2_literals2 l D kA me n g mk ss hn c2 (zv g 2) hs2 hc2 (fun _ _ => rfl)) gL_law_X2_literals rfl hd_X2_literals ⟨Nat.le_of_ble_eq_true rfl, Nat.le_of_ble_eq_true rfl⟩ hK (hP.sub [12, 13, 14, 15] rfl) rfl rfl rfl rfl hl.1 rfl (Nat.le_of_ble_eq_true rfl) ⟨Nat.le_of_ble_eq_true rfl, Nat.le_of_ble_eq_true rfl⟩ dL_law_261 ?_
    refine lv_icmp_eq (tgt := 473) hx hb dL_law_264 (by decide) (fun c_264 => ?_) (fun c_264 => absurd c_264 (fun h => h (congrArg nI (k_lits hn ha2))))
    subst hAz
    exact K n fp fk fh c0 c1 c2 c3 f0 f1 f2 f3 g mk ss _ _ _ r hP hD hS hl
  · skip
    refine lv_aload_n hx hb dL_law_246 rfl (lv_at hl 1 rfl) ?_
    refine lv_aload_n hx hb dL_law_247 rfl (lv_at hl 0 rfl) ?_
    refine lv_iload_n hx hb dL_law_248 rfl (lv_at hl 3 rfl) ?_
    refine lv_iconst (v := nI 1) hx hb dL_law_249 (by decide) ?_
    refine vz_add hx hb dL_law_250 ?_
    refine vz_sld hx hb hX hbl hbA hS (by omega) (by omega) dL_law_251 ?_
    refine vz_callV (n := 1) (As := [.int (xs (i + 1))]) (rest := []) (q0 := 0) hcf (c_X1_literals3 l D kA ad n fp fk fh c0 c1 c2 c3 f0 f1 f2 f3 hn (xs (i + 1)) ex) gL_law_X1_literals rfl hd_X1_literals ⟨Nat.le_of_ble_eq_true rfl, Nat.le_of_ble_eq_true rfl⟩ hK (hP.sub [0, 1, 2, 3, 4, 5, 6, 7, 8, 9, 10, 11] rfl) rfl rfl rfl rfl hl.1 rfl (Nat.le_of_ble_eq_true rfl) ⟨Nat.le_of_ble_eq_true rfl, Nat.le_of_ble_eq_true rfl⟩ dL_law_252 ?_
    refine lv_aload_n hx hb dL_law_255 rfl (lv_at hl 2 rfl) ?_
    refine lv_aload_n hx hb dL_law_256 rfl (lv_at hl 0 rfl) ?_
    refine lv_iload_n hx hb dL_law_257 rfl (lv_at hl 3 rfl) ?_
    refine lv_iconst (v := nI 1) hx hb dL_law_258 (by decide) ?_
    refine vz_add hx hb dL_law_259 ?_
    refine vz_sld hx hb hX hbl hbA hS (by omega) (by omega) dL_law_260 ?_
    refine vz_callV (n := 1) (As := [.int (xs (i + 1))]) (rest := [.int (-1)]) (q0 := 0) hcf (c_X2_literals3 l D kA me n g mk ss hn (xs (i + 1)) ey) gL_law_X2_literals rfl hd_X2_literals ⟨Nat.le_of_ble_eq_true rfl, Nat.le_of_ble_eq_true rfl⟩ hK (hP.sub [12, 13, 14, 15] rfl) rfl rfl rfl rfl hl.1 rfl (Nat.le_of_ble_eq_true rfl) ⟨Nat.le_of_ble_eq_true rfl, Nat.le_of_ble_eq_true rfl⟩ dL_law_261 ?_
    refine lv_icmp_eq (tgt := 473) hx hb dL_law_264 (by decide) (fun c_264 => ?_) (fun c_264 => absurd c_264 (fun h => h rfl))
    subst hAz
    exact K n fp fk fh c0 c1 c2 c3 f0 f1 f2 f3 g mk ss _ _ _ r hP hD hS hl
set_option maxHeartbeats 4000000 in
set_option maxRecDepth 100000 in
theorem law_case7 {pz : Program} {l : Launch} {ez : Env} {sz : State} {mz : MethodId} {below : List Frame} {meth : Method} {cz : Code} {D : va_G} {kA : ClassId} {b L : Nat} {xs : Nat → Int32} (hL : L ≤ 1536) (C0 : lw_At pz sz mz meth cz b L xs) (hK : va_K D vwCl [(kA, .int)] sz) (i : Nat) (hi : i + 3 ≤ L) (ad me : Nat → Nat) (K : lw_K pz l ez sz mz below meth cz D kA b i ad me 473) : lw_K pz l ez sz mz below meth cz D kA b i ad me 269 := by
  intro n fp fk fh c0 c1 c2 c3 f0 f1 f2 f3 g mk ss H locs ls r hP hD hS hl
  obtain ⟨hx, hb, hr, hml, hown, hts0, hX, hbl, hlocks, hgv⟩ := C0
  have hts := fun w h => hts0 w (wsL_law_in w h)
  have hcf : CallFix pz mz cz cL_law 4 sz #[Value.ref b] wsL_law RL := ⟨hx, hb, hml, hown, hts⟩
  have O := r_ok r
  obtain ⟨⟨hn1, hn⟩, ⟨hc0, hc1, hc2, hc3⟩, ⟨hs0, hs1, hs2, hs3⟩, ⟨ha0, ha1, ha2⟩, ⟨hN0, hN1, hN2⟩, -⟩ := id r
  have hbA : ¬ (fun q : Nat => sz.heap.size ≤ q) b := Nat.not_le.mpr hbl
  generalize hAz : (fun q : Nat => sz.heap.size ≤ q) = Az at hD hS hbA
  have hP : va_P D vwCl [(ad 0, .inr (1, [.ref (ad 1), .ref (ad 2), .ref (ad 3), .ref (ad 4), .ref (ad 5), .ref (ad 6), .ref (ad 7), .int (nI n)])), (ad 5, .inl (kA, 256, .inl fp)), (ad 6, .inl (kA, 256, .inl fk)), (ad 7, .inl (kA, 256, .inl fh)), (ad 1, .inr (0, [.ref (ad 8), .int (nI c0)])), (ad 8, .inl (kA, 24, .inl f0)), (ad 2, .inr (0, [.ref (ad 9), .int (nI c1)])), (ad 9, .inl (kA, 24, .inl f1)), (ad 3, .inr (0, [.ref (ad 10), .int (nI c2)])), (ad 10, .inl (kA, 24, .inl f2)), (ad 4, .inr (0, [.ref (ad 11), .int (nI c3)])), (ad 11, .inl (kA, 24, .inl f3)), (me 0, .inr (2, [.ref (me 1), .ref (me 2), .ref (me 3), .int (nI n)])), (me 1, .inl (kA, 96, .inl g)), (me 2, .inl (kA, 4, .inl (fun j => nI (ss j)))), (me 3, .inl (kA, 256, .inl mk))] H := hP
  have hD : va_D Az [(ad 0, .inr (1, [.ref (ad 1), .ref (ad 2), .ref (ad 3), .ref (ad 4), .ref (ad 5), .ref (ad 6), .ref (ad 7), .int (nI n)])), (ad 5, .inl (kA, 256, .inl fp)), (ad 6, .inl (kA, 256, .inl fk)), (ad 7, .inl (kA, 256, .inl fh)), (ad 1, .inr (0, [.ref (ad 8), .int (nI c0)])), (ad 8, .inl (kA, 24, .inl f0)), (ad 2, .inr (0, [.ref (ad 9), .int (nI c1)])), (ad 9, .inl (kA, 24, .inl f1)), (ad 3, .inr (0, [.ref (ad 10), .int (nI c2)])), (ad 10, .inl (kA, 24, .inl f2)), (ad 4, .inr (0, [.ref (ad 11), .int (nI c3)])), (ad 11, .inl (kA, 24, .inl f3)), (me 0, .inr (2, [.ref (me 1), .ref (me 2), .ref (me 3), .int (nI n)])), (me 1, .inl (kA, 96, .inl g)), (me 2, .inl (kA, 4, .inl (fun j => nI (ss j)))), (me 3, .inl (kA, 256, .inl mk))] := hD
  refine lv_aload_n hx hb dL_law_269 rfl (lv_at hl 1 rfl) ?_
  refine lv_aload_n hx hb dL_law_270 rfl (lv_at hl 0 rfl) ?_
  refine lv_iload_n hx hb dL_law_271 rfl (lv_at hl 3 rfl) ?_
  refine lv_iconst (v := nI 1) hx hb dL_law_272 (by decide) ?_
  refine vz_add hx hb dL_law_273 ?_
  refine vz_sld hx hb hX hbl hbA hS (by omega) (by omega) dL_law_274 ?_
  refine vz_callV (n := 1) (As := [.int (xs (i + 1))]) (rest := []) (q0 := 0) hcf (c_X1_kind l D kA ad n fp fk fh hn (xs (i + 1))) gL_law_X1_kind rfl hd_X1_kind ⟨Nat.le_of_ble_eq_true rfl, Nat.le_of_ble_eq_true rfl⟩ hK (hP.sub [0, 1, 2, 3] rfl) rfl rfl rfl rfl hl.1 rfl (Nat.le_of_ble_eq_true rfl) ⟨Nat.le_of_ble_eq_true rfl, Nat.le_of_ble_eq_true rfl⟩ dL_law_275 ?_
  refine lv_aload_n hx hb dL_law_278 rfl (lv_at hl 2 rfl) ?_
  refine lv_aload_n hx hb dL_law_279 rfl (lv_at hl 0 rfl) ?_
  refine lv_iload_n hx hb dL_law_280 rfl (lv_at hl 3 rfl) ?_
  refine lv_iconst (v := nI 1) hx hb dL_law_281 (by decide) ?_
  refine vz_add hx hb dL_law_282 ?_
  refine vz_sld hx hb hX hbl hbA hS (by omega) (by omega) dL_law_283 ?_
  refine vz_callV (n := 1) (As := [.int (xs (i + 1))]) (rest := [.int (if (!decide ((xs (i + 1)) < 0) && !decide (nI (zN n) ≤ (xs (i + 1)))) = true then fk (xs (i + 1)).toNatClampNeg else -1)]) (q0 := 0) hcf (c_X2_kind l D kA me n g mk ss hn (xs (i + 1))) gL_law_X2_kind rfl hd_X2_kind ⟨Nat.le_of_ble_eq_true rfl, Nat.le_of_ble_eq_true rfl⟩ hK (hP.sub [12, 13, 14, 15] rfl) rfl rfl rfl rfl hl.1 rfl (Nat.le_of_ble_eq_true rfl) ⟨Nat.le_of_ble_eq_true rfl, Nat.le_of_ble_eq_true rfl⟩ dL_law_284 ?_
  refine lv_icmp_eq (tgt := 473) hx hb dL_law_287 (by decide) (fun c_287 => ?_) (fun c_287 => absurd c_287 (fun h => h (r_kind O _)))
  subst hAz
  exact K n fp fk fh c0 c1 c2 c3 f0 f1 f2 f3 g mk ss _ _ _ r hP hD hS hl
