set_option maxHeartbeats 4000000 in
set_option maxRecDepth 100000 in
theorem law_loop {pz : Program} {l : Launch} {ez : Env} {sz : State} {mz : MethodId} {below : List Frame} {meth : Method} {cz : Code} {D : va_G} {kA : ClassId} {b L : Nat} {xs : Nat → Int32} (hL : L ≤ 1536) (C0 : lw_At pz sz mz meth cz b L xs) (hK : va_K D vwCl [(kA, .int)] sz) (ad me : Nat → Nat) : ∀ (d i : Nat), L - i < d → i ≤ L → lw_K pz l ez sz mz below meth cz D kA b i ad me 18 := by
  intro d
  induction d with
  | zero => intro i hd _; exact absurd hd (Nat.not_lt_zero _)
  | succ d ih =>
    intro i hd hi
    intro n fp fk fh c0 c1 c2 c3 f0 f1 f2 f3 g mk ss H locs ls r hP hD hS hl
    obtain ⟨hx, hb, hr, hml, hown, hts0, hX, hbl, hlocks, hgv⟩ := id C0
    have hb : cz.code = cL_law := hb
    have hbA : ¬ (fun q : Nat => sz.heap.size ≤ q) b := Nat.not_le.mpr hbl
    refine lv_iload_n hx hb dL_law_18 rfl (lv_at hl 3 rfl) ?_
    refine lv_aload_n hx hb dL_law_19 rfl (lv_at hl 0 rfl) ?_
    refine va_slen hx hb hX hbl hbA hS dL_law_20 ?_
    refine lv_iconst (v := nI 3) hx hb dL_law_21 (by decide) ?_
    refine lv_isub hx hb dL_law_22 ?_
    refine lv_icmp_gt (tgt := 479) hx hb dL_law_23 (by decide) (fun c_23 => ?_) (fun c_23 => ?_)
    · refine lv_iconst (v := 1) hx hb dL_law_479 (by decide) ?_
      refine va_forget (fun q hq => hS.2.2 q hq) ?_
      exact lw_ret hx hb hr hlocks dL_law_480
    · have hi3 : i + 3 ≤ L := Nat.le_of_not_lt (fun h => c_23 ((l_cmp hL hi).mpr h))
      refine lv_aload_n hx hb dL_law_26 rfl (lv_at hl 0 rfl) ?_
      refine lv_iload_n hx hb dL_law_27 rfl (lv_at hl 3 rfl) ?_
      refine vz_sld hx hb hX hbl hbA hS (by omega) (by omega) dL_law_28 ?_
      refine lv_bipush (v := nI 15) hx hb dL_law_29 (by decide) ?_
      refine lv_iand hx hb dL_law_31 ?_
      have K : lw_K pz l ez sz mz below meth cz D kA b i ad me 473 := by
        intro n fp fk fh c0 c1 c2 c3 f0 f1 f2 f3 g mk ss H locs ls r hP hD hS hl
        refine lv_iinc (v := (nI (i + 3))) (lv' := [(3, .int (nI (i + 3))), (0, .ref b), (1, .ref (ad 0)), (2, .ref (me 0))]) hx hb dL_law_473 hl (k := 3) rfl (nI_add _ 3) (by decide) rfl (fun ls hl => ?_)
        refine lv_goto (tgt := 18) hx hb dL_law_476 (by decide) ?_
        exact ih (i + 3) (by omega) hi3 _ _ _ _ _ _ _ _ _ _ _ _ _ _ _ _ _ _ r hP hD hS (lv_sub hl [1, 2, 3, 0] rfl)
      obtain ⟨j, hj, ej⟩ := pk_andE (xs i) (m := nI 15) 4 (by decide)
      refine vz_top ej ?_
      rcases (show j = 0 ∨ j = 1 ∨ j = 2 ∨ j = 3 ∨ j = 4 ∨ j = 5 ∨ j = 6 ∨ j = 7 ∨ j = 8 ∨ j = 9 ∨ j = 10 ∨ j = 11 ∨ j = 12 ∨ j = 13 ∨ j = 14 ∨ j = 15 by omega) with rfl | rfl | rfl | rfl | rfl | rfl | rfl | rfl | rfl | rfl | rfl | rfl | rfl | rfl | rfl | rfl
      · refine lv_tableIn (off := 76) (tgt := 108) hx hb dL_law_32 (by decide) (by decide) (by decide) (by decide) ?_
        exact law_case0 hL C0 hK i hi3 ad me K _ _ _ _ _ _ _ _ _ _ _ _ _ _ _ _ _ _ r hP hD hS hl
      · refine lv_tableIn (off := 99) (tgt := 131) hx hb dL_law_32 (by decide) (by decide) (by decide) (by decide) ?_
        exact law_case1 hL C0 hK i hi3 ad me K _ _ _ _ _ _ _ _ _ _ _ _ _ _ _ _ _ _ r hP hD hS hl
      · refine lv_tableIn (off := 112) (tgt := 144) hx hb dL_law_32 (by decide) (by decide) (by decide) (by decide) ?_
        exact law_case2 hL C0 hK i hi3 ad me K _ _ _ _ _ _ _ _ _ _ _ _ _ _ _ _ _ _ r hP hD hS hl
      · refine lv_tableIn (off := 135) (tgt := 167) hx hb dL_law_32 (by decide) (by decide) (by decide) (by decide) ?_
        exact law_case3 hL C0 hK i hi3 ad me K _ _ _ _ _ _ _ _ _ _ _ _ _ _ _ _ _ _ r hP hD hS hl
      · refine lv_tableIn (off := 158) (tgt := 190) hx hb dL_law_32 (by decide) (by decide) (by decide) (by decide) ?_
        exact law_case4 hL C0 hK i hi3 ad me K _ _ _ _ _ _ _ _ _ _ _ _ _ _ _ _ _ _ r hP hD hS hl
      · refine lv_tableIn (off := 181) (tgt := 213) hx hb dL_law_32 (by decide) (by decide) (by decide) (by decide) ?_
        exact law_case5 hL C0 hK i hi3 ad me K _ _ _ _ _ _ _ _ _ _ _ _ _ _ _ _ _ _ r hP hD hS hl
      · refine lv_tableIn (off := 214) (tgt := 246) hx hb dL_law_32 (by decide) (by decide) (by decide) (by decide) ?_
        exact law_case6 hL C0 hK i hi3 ad me K _ _ _ _ _ _ _ _ _ _ _ _ _ _ _ _ _ _ r hP hD hS hl
      · refine lv_tableIn (off := 237) (tgt := 269) hx hb dL_law_32 (by decide) (by decide) (by decide) (by decide) ?_
        exact law_case7 hL C0 hK i hi3 ad me K _ _ _ _ _ _ _ _ _ _ _ _ _ _ _ _ _ _ r hP hD hS hl
      · refine lv_tableIn (off := 260) (tgt := 292) hx hb dL_law_32 (by decide) (by decide) (by decide) (by decide) ?_
        exact law_case8 hL C0 hK i hi3 ad me K _ _ _ _ _ _ _ _ _ _ _ _ _ _ _ _ _ _ r hP hD hS hl
      · refine lv_tableIn (off := 293) (tgt := 325) hx hb dL_law_32 (by decide) (by decide) (by decide) (by decide) ?_
        exact law_case9 hL C0 hK i hi3 ad me K _ _ _ _ _ _ _ _ _ _ _ _ _ _ _ _ _ _ r hP hD hS hl
      · refine lv_tableIn (off := 316) (tgt := 348) hx hb dL_law_32 (by decide) (by decide) (by decide) (by decide) ?_
        exact law_case10 hL C0 hK i hi3 ad me K _ _ _ _ _ _ _ _ _ _ _ _ _ _ _ _ _ _ r hP hD hS hl
      · refine lv_tableIn (off := 339) (tgt := 371) hx hb dL_law_32 (by decide) (by decide) (by decide) (by decide) ?_
        exact law_case11 hL C0 hK i hi3 ad me K _ _ _ _ _ _ _ _ _ _ _ _ _ _ _ _ _ _ r hP hD hS hl
      · refine lv_tableIn (off := 372) (tgt := 404) hx hb dL_law_32 (by decide) (by decide) (by decide) (by decide) ?_
        exact law_case12 hL C0 hK i hi3 ad me K _ _ _ _ _ _ _ _ _ _ _ _ _ _ _ _ _ _ r hP hD hS hl
      · refine lv_tableIn (off := 405) (tgt := 437) hx hb dL_law_32 (by decide) (by decide) (by decide) (by decide) ?_
        exact law_case13 hL C0 hK i hi3 ad me K _ _ _ _ _ _ _ _ _ _ _ _ _ _ _ _ _ _ r hP hD hS hl
      · refine lv_tableIn (off := 428) (tgt := 460) hx hb dL_law_32 (by decide) (by decide) (by decide) (by decide) ?_
        exact law_case14 hL C0 hK i hi3 ad me K _ _ _ _ _ _ _ _ _ _ _ _ _ _ _ _ _ _ r hP hD hS hl
      · refine lv_tableOut (tgt := 473) hx hb dL_law_32 (by decide) (by decide) ?_
        exact K _ _ _ _ _ _ _ _ _ _ _ _ _ _ _ _ _ _ r hP hD hS hl
set_option maxHeartbeats 4000000 in
set_option maxRecDepth 100000 in
/-- THE LAW, from its entry -/
theorem whole_start {p : Program} {e : Env} {s : State} {m : MethodId} {below : List Frame} {meth : Method} {c : Code} (l : Launch) {b L : Nat} {xs : Nat → Int32} (hL : L ≤ 1536) (C0 : lw_At p s m meth c b L xs) : W p l e room_1 s m #[Value.ref b] below meth c s.heap [] 0 0 (lw_Z below #[Value.ref b] s) (entryFrame m ([Value.ref b] : List Value).toArray 4) := by
  obtain ⟨hx, hb, hr, hml, hown, hts0, hX, hbl, hlocks, hgv⟩ := id C0
  have hb : c.code = cL_law := hb
  have hown : s.vm.findClass RL = some m.cls := hown
  have hts := fun w h => hts0 w (wsL_law_in w h)
  have hA : ∀ q : Nat, s.heap.size ≤ q → (fun q : Nat => s.heap.size ≤ q) q := fun _ h => h
  obtain ⟨k0, iS0, hKn0⟩ := u_known (C := RX0) (T := TX0) (N := 2) (n := 2) hts0 inX0 (hts (.instantiable RX0 2) (by decide +kernel))
  obtain ⟨k1, iS1, hKn1⟩ := u_known (C := RX1) (T := TX1) (N := 8) (n := 8) hts0 inX1 (hts (.instantiable RX1 8) (by decide +kernel))
  obtain ⟨k2, iS2, hKn2⟩ := u_known (C := RX2) (T := TX2) (N := 4) (n := 4) hts0 inX2 (hts (.instantiable RX2 4) (by decide +kernel))
  obtain ⟨D, hKc⟩ : ∃ (D : va_G), ∀ (k : Nat) (q : vw_C), vwCl[k]? = some q → u_Kn s q.1 q.2.1 q.2.2 (D.1 k) (D.2 k) := by
    refine ⟨(fun k => if k = 0 then k0 else if k = 1 then k1 else k2, fun k => if k = 0 then iS0 else if k = 1 then iS1 else iS2), ?_⟩
    intro k q hq
    match k, hq with
    | 0, hq => cases hq; exact hKn0
    | 1, hq => cases hq; exact hKn1
    | 2, hq => cases hq; exact hKn2
    | k + 3, hq => simp [vwCl] at hq
  have hS : va_S (fun q : Nat => s.heap.size ≤ q) s.heap s.heap [] := va_S.rf
  have hK : va_K D vwCl [] s := ⟨hKc, fun k q h => by simp at h⟩
  have hP : va_P D vwCl [] s.heap := fun k q h => by simp at h
  have hD : va_D (fun q : Nat => s.heap.size ≤ q) [] := ⟨fun i j p q h => by simp at h, fun k q h => by simp at h⟩
  have hl := lv_entry ([.ref b]) (n := 4) (Nat.le_of_ble_eq_true rfl)
  rw [lg_entry_eq]
  generalize (lg_sl ([.ref b]) ++ List.replicate (4 - (lg_sl ([.ref b])).length) Slot.unset).toArray = ls at hl ⊢
  have hl : lv_has ls 4 [(0, .ref b)] := hl
  refine va_new (ci := 1) (fs := [.null, .null, .null, .null, .null, .null, .null, .int 0]) (C := RX1) (T := TX1) (N := 8) hx hb hts inlX1 tyX1 tyX1_ok hown (hts (.classLink RL 7 RX1) (by decide +kernel)) (hts (.instantiable RX1 8) (by decide +kernel)) (hts (.initialized RX1) (by decide +kernel)) hK hP hD hS hA rfl (fun j hj => by rcases (show j = 0 ∨ j = 1 ∨ j = 2 ∨ j = 3 ∨ j = 4 ∨ j = 5 ∨ j = 6 ∨ j = 7 by omega) with rfl | rfl | rfl | rfl | rfl | rfl | rfl | rfl <;> rfl) (Nat.le_of_ble_eq_true rfl) (Nat.le_of_ble_eq_true rfl) dL_law_0 (fun q0 H hP hD hS => ?_)
  have hP : va_P D vwCl [(q0, .inr (1, [.null, .null, .null, .null, .null, .null, .null, .int 0]))] H := hP
  have hD : va_D (fun q : Nat => s.heap.size ≤ q) [(q0, .inr (1, [.null, .null, .null, .null, .null, .null, .null, .int 0]))] := hD
  refine lv_dup hx hb dL_law_3 rfl ?_
  have hPc := hP.sub (ws' := [(q0, .inr (1, [.null, .null, .null, .null, .null, .null, .null, .int 0]))]) [0] rfl
  have hDc := hD.sub (ws' := [(q0, .inr (1, [.null, .null, .null, .null, .null, .null, .null, .int 0]))]) [0] (by decide) rfl
  have hKc := hK.sub (tys' := []) [] rfl
  have hFc := va_free (wc := [(q0, .inr (1, [.null, .null, .null, .null, .null, .null, .null, .int 0]))]) hD hS hA [0] rfl
  refine va_callv (va_runI (As := []) (rest := [.ref q0]) ⟨hx, hb, hml, hown, hts⟩ (c_X1_init l D q0 H.size) (cwI 0 hts gL_law_X1_init rfl rfl rfl (hts (.initialized RX1) (by decide +kernel)) (hts (.methodLink RL 9 yX1_init) (by decide +kernel)) (hts (.instanceMethod yX1_init) (by decide +kernel)) rfl (by decide +kernel) ⟨Nat.le_of_ble_eq_true rfl, Nat.le_of_ble_eq_true rfl⟩) ⟨fun a U g mk q => by obtain ⟨q0, q1, qP, qK, qD⟩ := q; exact ⟨q0, q1, qP, va_K.moved (u := U) (U := U.calling g mk a) (Vm.Alike.refl U.vm) qK, qD⟩, fun U hU hW => ⟨rfl, by rw [hU], by rw [hU]; exact hPc, va_K.moved hW.alike hKc, hDc.weaken (fun _ _ _ _ => trivial)⟩⟩ rfl rfl hl.1 rfl (lv_room (Nat.le_of_ble_eq_true rfl)) dL_law_4 ⟨Nat.le_of_ble_eq_true rfl, Nat.le_of_ble_eq_true rfl⟩) hS (fun q _ h => hFc q h) hFc (fun u t H1 locs ht hvm hw hB hz1 hk1 hS => ?_)
  obtain ⟨ad, kA⟩ := u
  obtain ⟨e0, hP1, hK1, hD1⟩ := hB
  have e0 : ad 0 = q0 := e0
  subst e0
  rw [ht] at hP1
  have hK : va_K D vwCl [(kA, .int)] s := va_K.moved hvm.symm hK1
  obtain ⟨hP, hD⟩ := va_join (wr := []) (w1 := [(ad 0, .inr (1, [.ref (ad 1), .ref (ad 2), .ref (ad 3), .ref (ad 4), .ref (ad 5), .ref (ad 6), .ref (ad 7), .int (nI 4)])), (ad 5, .inl (kA, 256, .inl (zpf (fun _ => 0) 4))), (ad 6, .inl (kA, 256, .inl (zmk 256 (fun _ => true) (nI 0) (fun _ => 0)))), (ad 7, .inl (kA, 256, .inl (fun _ => 0))), (ad 1, .inr (0, [.ref (ad 8), .int (nI 0)])), (ad 8, .inl (kA, 24, .inl (fun _ => 0))), (ad 2, .inr (0, [.ref (ad 9), .int (nI 0)])), (ad 9, .inl (kA, 24, .inl (fun _ => 0))), (ad 3, .inr (0, [.ref (ad 10), .int (nI 0)])), (ad 10, .inl (kA, 24, .inl (fun _ => 0))), (ad 4, .inr (0, [.ref (ad 11), .int (nI 0)])), (ad 11, .inl (kA, 24, .inl (fun _ => 0)))]) hP hD [0] [] rfl rfl (by decide) (by decide) hk1 hFc hP1 hD1
  generalize H1 = H at hP hS ⊢
  have hP : va_P D vwCl [(ad 0, .inr (1, [.ref (ad 1), .ref (ad 2), .ref (ad 3), .ref (ad 4), .ref (ad 5), .ref (ad 6), .ref (ad 7), .int (nI 4)])), (ad 5, .inl (kA, 256, .inl (zpf (fun _ => 0) 4))), (ad 6, .inl (kA, 256, .inl (zmk 256 (fun _ => true) (nI 0) (fun _ => 0)))), (ad 7, .inl (kA, 256, .inl (fun _ => 0))), (ad 1, .inr (0, [.ref (ad 8), .int (nI 0)])), (ad 8, .inl (kA, 24, .inl (fun _ => 0))), (ad 2, .inr (0, [.ref (ad 9), .int (nI 0)])), (ad 9, .inl (kA, 24, .inl (fun _ => 0))), (ad 3, .inr (0, [.ref (ad 10), .int (nI 0)])), (ad 10, .inl (kA, 24, .inl (fun _ => 0))), (ad 4, .inr (0, [.ref (ad 11), .int (nI 0)])), (ad 11, .inl (kA, 24, .inl (fun _ => 0)))] H := hP
  have hD : va_D (fun q : Nat => s.heap.size ≤ q) [(ad 0, .inr (1, [.ref (ad 1), .ref (ad 2), .ref (ad 3), .ref (ad 4), .ref (ad 5), .ref (ad 6), .ref (ad 7), .int (nI 4)])), (ad 5, .inl (kA, 256, .inl (zpf (fun _ => 0) 4))), (ad 6, .inl (kA, 256, .inl (zmk 256 (fun _ => true) (nI 0) (fun _ => 0)))), (ad 7, .inl (kA, 256, .inl (fun _ => 0))), (ad 1, .inr (0, [.ref (ad 8), .int (nI 0)])), (ad 8, .inl (kA, 24, .inl (fun _ => 0))), (ad 2, .inr (0, [.ref (ad 9), .int (nI 0)])), (ad 9, .inl (kA, 24, .inl (fun _ => 0))), (ad 3, .inr (0, [.ref (ad 10), .int (nI 0)])), (ad 10, .inl (kA, 24, .inl (fun _ => 0))), (ad 4, .inr (0, [.ref (ad 11), .int (nI 0)])), (ad 11, .inl (kA, 24, .inl (fun _ => 0)))] := hD
  refine lv_astore_n (lv' := [(1, .ref (ad 0)), (0, .ref b)]) hx hb dL_law_7 rfl hl (by decide) rfl (fun ls hl => ?_)
  refine va_new (ci := 2) (fs := [.null, .null, .null, .int 0]) (C := RX2) (T := TX2) (N := 4) hx hb hts inlX2 tyX2 tyX2_ok hown (hts (.classLink RL 10 RX2) (by decide +kernel)) (hts (.instantiable RX2 4) (by decide +kernel)) (hts (.initialized RX2) (by decide +kernel)) hK hP hD hS hA rfl (fun j hj => by rcases (show j = 0 ∨ j = 1 ∨ j = 2 ∨ j = 3 by omega) with rfl | rfl | rfl | rfl <;> rfl) (Nat.le_of_ble_eq_true rfl) (Nat.le_of_ble_eq_true rfl) dL_law_8 (fun m0 H hP hD hS => ?_)
  have hP : va_P D vwCl [(ad 0, .inr (1, [.ref (ad 1), .ref (ad 2), .ref (ad 3), .ref (ad 4), .ref (ad 5), .ref (ad 6), .ref (ad 7), .int (nI 4)])), (ad 5, .inl (kA, 256, .inl (zpf (fun _ => 0) 4))), (ad 6, .inl (kA, 256, .inl (zmk 256 (fun _ => true) (nI 0) (fun _ => 0)))), (ad 7, .inl (kA, 256, .inl (fun _ => 0))), (ad 1, .inr (0, [.ref (ad 8), .int (nI 0)])), (ad 8, .inl (kA, 24, .inl (fun _ => 0))), (ad 2, .inr (0, [.ref (ad 9), .int (nI 0)])), (ad 9, .inl (kA, 24, .inl (fun _ => 0))), (ad 3, .inr (0, [.ref (ad 10), .int (nI 0)])), (ad 10, .inl (kA, 24, .inl (fun _ => 0))), (ad 4, .inr (0, [.ref (ad 11), .int (nI 0)])), (ad 11, .inl (kA, 24, .inl (fun _ => 0))), (m0, .inr (2, [.null, .null, .null, .int 0]))] H := hP
  have hD : va_D (fun q : Nat => s.heap.size ≤ q) [(ad 0, .inr (1, [.ref (ad 1), .ref (ad 2), .ref (ad 3), .ref (ad 4), .ref (ad 5), .ref (ad 6), .ref (ad 7), .int (nI 4)])), (ad 5, .inl (kA, 256, .inl (zpf (fun _ => 0) 4))), (ad 6, .inl (kA, 256, .inl (zmk 256 (fun _ => true) (nI 0) (fun _ => 0)))), (ad 7, .inl (kA, 256, .inl (fun _ => 0))), (ad 1, .inr (0, [.ref (ad 8), .int (nI 0)])), (ad 8, .inl (kA, 24, .inl (fun _ => 0))), (ad 2, .inr (0, [.ref (ad 9), .int (nI 0)])), (ad 9, .inl (kA, 24, .inl (fun _ => 0))), (ad 3, .inr (0, [.ref (ad 10), .int (nI 0)])), (ad 10, .inl (kA, 24, .inl (fun _ => 0))), (ad 4, .inr (0, [.ref (ad 11), .int (nI 0)])), (ad 11, .inl (kA, 24, .inl (fun _ => 0))), (m0, .inr (2, [.null, .null, .null, .int 0]))] := hD
  refine lv_dup hx hb dL_law_11 rfl ?_
  have hPc := hP.sub (ws' := [(m0, .inr (2, [.null, .null, .null, .int 0]))]) [12] rfl
  have hDc := hD.sub (ws' := [(m0, .inr (2, [.null, .null, .null, .int 0]))]) [12] (by decide) rfl
  have hKc := hK
  have hFc := va_free (wc := [(m0, .inr (2, [.null, .null, .null, .int 0]))]) hD hS hA [12] rfl
  refine va_callv (va_runI (As := []) (rest := [.ref m0]) ⟨hx, hb, hml, hown, hts⟩ (c_X2_init l D kA m0 H.size) (cwI 0 hts gL_law_X2_init rfl rfl rfl (hts (.initialized RX2) (by decide +kernel)) (hts (.methodLink RL 12 yX2_init) (by decide +kernel)) (hts (.instanceMethod yX2_init) (by decide +kernel)) rfl (by decide +kernel) ⟨Nat.le_of_ble_eq_true rfl, Nat.le_of_ble_eq_true rfl⟩) ⟨fun a U g mk q => by obtain ⟨q0, q1, qP, qK, qD⟩ := q; exact ⟨q0, q1, qP, va_K.moved (u := U) (U := U.calling g mk a) (Vm.Alike.refl U.vm) qK, qD⟩, fun U hU hW => ⟨rfl, by rw [hU], by rw [hU]; exact hPc, va_K.moved hW.alike hKc, hDc.weaken (fun _ _ _ _ => trivial)⟩⟩ rfl rfl hl.1 rfl (lv_room (Nat.le_of_ble_eq_true rfl)) dL_law_12 ⟨Nat.le_of_ble_eq_true rfl, Nat.le_of_ble_eq_true rfl⟩) hS (fun q _ h => hFc q h) hFc (fun u t H1 locs ht hvm hw hB hz1 hk1 hS => ?_)
  obtain ⟨me, rfl⟩ : ∃ z, z = u := ⟨_, rfl⟩
  obtain ⟨e0, hP1, hK1, hD1⟩ := hB
  subst e0
  rw [ht] at hP1
  obtain ⟨hP, hD⟩ := va_join (wr := [(ad 0, .inr (1, [.ref (ad 1), .ref (ad 2), .ref (ad 3), .ref (ad 4), .ref (ad 5), .ref (ad 6), .ref (ad 7), .int (nI 4)])), (ad 5, .inl (kA, 256, .inl (zpf (fun _ => 0) 4))), (ad 6, .inl (kA, 256, .inl (zmk 256 (fun _ => true) (nI 0) (fun _ => 0)))), (ad 7, .inl (kA, 256, .inl (fun _ => 0))), (ad 1, .inr (0, [.ref (ad 8), .int (nI 0)])), (ad 8, .inl (kA, 24, .inl (fun _ => 0))), (ad 2, .inr (0, [.ref (ad 9), .int (nI 0)])), (ad 9, .inl (kA, 24, .inl (fun _ => 0))), (ad 3, .inr (0, [.ref (ad 10), .int (nI 0)])), (ad 10, .inl (kA, 24, .inl (fun _ => 0))), (ad 4, .inr (0, [.ref (ad 11), .int (nI 0)])), (ad 11, .inl (kA, 24, .inl (fun _ => 0)))]) (w1 := [(me 0, .inr (2, [.ref (me 1), .ref (me 2), .ref (me 3), .int (nI 4)])), (me 1, .inl (kA, 96, .inl (fun _ => 0))), (me 2, .inl (kA, 4, .inl (fun j => nI ((fun _ => 0) j)))), (me 3, .inl (kA, 256, .inl (fun _ => 0)))]) hP hD [12] [0, 1, 2, 3, 4, 5, 6, 7, 8, 9, 10, 11] rfl rfl (by decide) (by decide) hk1 hFc hP1 hD1
  generalize H1 = H at hP hS ⊢
  refine lv_astore_n (lv' := [(2, .ref (me 0)), (1, .ref (ad 0)), (0, .ref b)]) hx hb dL_law_15 rfl hl (by decide) rfl (fun ls hl => ?_)
  refine lv_iconst (v := nI 0) hx hb dL_law_16 (by decide) ?_
  refine lv_istore_n (lv' := [(3, .int (nI 0)), (2, .ref (me 0)), (1, .ref (ad 0)), (0, .ref b)]) hx hb dL_law_17 rfl hl (by decide) rfl (fun ls hl => ?_)
  exact law_loop hL C0 hK ad me (L + 1) 0 (by omega) (Nat.zero_le _) 4 (zpf (fun _ => 0) 4) (zmk 256 (fun _ => true) (nI 0) (fun _ => 0)) (fun _ => 0) 0 0 0 0 (fun _ => 0) (fun _ => 0) (fun _ => 0) (fun _ => 0) (fun _ => 0) (fun _ => 0) (fun _ => 0) _ _ _ r_init hP hD hS (lv_sub hl [3, 2, 1, 0] rfl)
