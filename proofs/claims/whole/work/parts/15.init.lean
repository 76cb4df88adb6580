/-! The constructors. -/
def zlist (l : List Nat) : Nat → Nat := fun k => l.getD k 0
theorem vz_kk {D : va_G} {cl : List vw_C} {k1 k2 : ClassId} {U : State} (h1 : va_K D cl [(k1, .int)] U) (h2 : va_K D cl [(k2, .int)] U) : k2 = k1 := by
  have a1 : U.vm.findClass ("[" ++ FieldType.int.toString) = some k1 := (h1.2 0 _ rfl).2
  have a2 : U.vm.findClass ("[" ++ FieldType.int.toString) = some k2 := (h2.2 0 _ rfl).2
  exact Option.some.inj (a2.symm.trans a1)
set_option maxHeartbeats 4000000 in
set_option maxRecDepth 100000 in
theorem c_X0_init (l : Launch) (D : va_G) (h0 z0 : Nat) : Met l yX0_init wsX0_init ({ frames := 1, cells := 1, slots := 24, locals := 12 }) (va_Pc [.ref h0] (fun U => U.heap.size = z0 ∧ va_P D vwCl [(h0, .inr (0, [.null, .int 0]))] U.heap ∧ va_K D vwCl [] U ∧ va_D (fun _ => True) [(h0, .inr (0, [.null, .int 0]))])) (va_Qv (fun _ : Nat × ClassId => True) (fun u t => va_P D vwCl [(h0, .inr (0, [.ref u.1, .int (nI 0)])), (u.1, .inl (u.2, 24, .inl (fun _ => 0)))] t.heap ∧ va_K D vwCl [(u.2, .int)] t ∧ va_D (va_A [(h0, .inr (0, [.null, .int 0]))] z0) [(h0, .inr (0, [.ref u.1, .int (nI 0)])), (u.1, .inl (u.2, 24, .inl (fun _ => 0)))]) (va_A [(h0, .inr (0, [.null, .int 0]))] z0)) 1 24 (va_A [(h0, .inr (0, [.null, .int 0]))] z0) := by
  refine Met.ofW (cc := cX0_init) (maxL := 1) (ret := none) (by decide) rfl ?_
  intro pz ez sz mz args below meth cz s₁ B hml hv
  obtain ⟨rfl, hsz, hP, hK, hD0⟩ := hv
  have hx := B.exec
  have hb := B.bytes
  have hr := B.returns
  have hts := atoms_spec (ws := wsX0_init) B.pre
  have hown : sz.vm.findClass RX0 = some mz.cls := findClass_of_methodNamed B.named
  have hlocks := B.notSynchronized
  have hin : meth.name = "<init>" := (name_of_methodNamed B.named B.method).1
  subst hsz
  have hD := hD0.self (sz := sz.heap.size)
  generalize hAe : va_A [(h0, .inr (0, [.null, .int 0]))] sz.heap.size = Az at hD ⊢
  have hA : ∀ q : Nat, sz.heap.size ≤ q → Az q := fun q h => by rw [← hAe]; exact Or.inr h
  have hS : va_S Az sz.heap sz.heap [] := va_S.rf
  have hl := lv_entry ([.ref h0]) (n := 1) (Nat.le_of_ble_eq_true rfl)
  rw [lg_entry_eq]
  generalize (lg_sl ([.ref h0]) ++ List.replicate (1 - (lg_sl ([.ref h0])).length) Slot.unset).toArray = ls at hl ⊢
  have hl : lv_has ls 1 [(0, .ref h0)] := hl
  refine lv_aload_n hx hb dX0_init_0 rfl (lv_at hl 0 rfl) ?_
  refine W.objInit hx hb hown (hts (.methodLink RX0 3 objectInit) (by decide +kernel)) (hts (.instanceMethod objectInit) (by decide +kernel)) (hts _ (List.mem_of_getElem? (i := 3) rfl)) rfl (by rw [hml]; exact hl.1) rfl dX0_init_1 (Nat.le_of_ble_eq_true rfl) (Nat.le_of_ble_eq_true rfl) ?_
  refine W.eq (g2 := F0 mz 4 ls []) rfl ?_
  refine lv_aload_n hx hb dX0_init_4 rfl (lv_at hl 0 rfl) ?_
  refine lv_bipush (v := nI 24) hx hb dX0_init_5 (by decide) ?_
  refine va_newa (atype := .int) (ty := .int) (n := nI 24) (N' := 24) (a0 := (24, .inl (fun _ => 0))) hx hb (hts (.arrayClass .int) (by decide +kernel)) rfl hK hP hD hS hA (fun _ => rfl) (by decide) (by decide) (by decide) (Nat.le_of_ble_eq_true rfl) (Nat.le_of_ble_eq_true rfl) dX0_init_7 (fun qa k_qa H hK2 hP hD hS => ?_)
  have hK : va_K D vwCl [(k_qa, .int)] sz := hK2
  have hP : va_P D vwCl [(h0, .inr (0, [.null, .int 0])), (qa, .inl (k_qa, 24, .inl (fun _ => 0)))] H := hP
  have hD : va_D Az [(h0, .inr (0, [.null, .int 0])), (qa, .inl (k_qa, 24, .inl (fun _ => 0)))] := hD
  refine va_putF (D := D) (ci := 0) (v := .ref qa) (ty := .array .int) (C := RX0) (T := TX0) (N := 2) hx hb hts (by decide +kernel) tyX0 tyX0_ok nmX0 hown hK hP hD hS 0 rfl rfl 0 (by decide) (hts (.fieldLink RX0 9 "CubeMin$CubeList" "cubes" "[I") (by decide +kernel)) (fun _ h9 => h9) rfl hin rfl (by decide +kernel) rfl rfl (Nat.le_of_ble_eq_true rfl) dX0_init_9 (fun H locs hP hD hS => ?_)
  have hP : va_P D vwCl [(h0, .inr (0, [.ref qa, .int 0])), (qa, .inl (k_qa, 24, .inl (fun _ => 0)))] H := hP
  have hD : va_D Az [(h0, .inr (0, [.ref qa, .int 0])), (qa, .inl (k_qa, 24, .inl (fun _ => 0)))] := hD
  refine lv_aload_n hx hb dX0_init_12 rfl (lv_at hl 0 rfl) ?_
  refine lv_iconst (v := nI 0) hx hb dX0_init_13 (by decide) ?_
  refine va_put (D := D) (ci := 0) (v := .int (nI 0)) (ty := .int) (C := RX0) (T := TX0) (N := 2) hx hb hts (by decide +kernel) tyX0 tyX0_ok nmX0 hown hK hP hD hS 0 rfl rfl 1 (by decide) (hts (.fieldLink RX0 15 "CubeMin$CubeList" "count" "I") (by decide +kernel)) (fun _ h9 => h9) rfl (by decide +kernel) rfl rfl (Nat.le_of_ble_eq_true rfl) dX0_init_14 (fun H locs hP hD hS => ?_)
  have hP : va_P D vwCl [(h0, .inr (0, [.ref qa, .int (nI 0)])), (qa, .inl (k_qa, 24, .inl (fun _ => 0)))] H := hP
  have hD : va_D Az [(h0, .inr (0, [.ref qa, .int (nI 0)])), (qa, .inl (k_qa, 24, .inl (fun _ => 0)))] := hD
  exact W.vret hx hb hr (fun t ht hW => ⟨⟨(qa, k_qa), rfl, trivial, by rw [ht]; exact hP, va_K.moved hW.alike hK, hD⟩, hS.F ht⟩) hS.2.2 dX0_init_17
set_option maxHeartbeats 4000000 in
set_option maxRecDepth 100000 in
theorem c_X2_init (l : Launch) (D : va_G) (kA : ClassId) (h0 z0 : Nat) : Met l yX2_init wsX2_init ({ frames := 1, cells := 3, slots := 356, locals := 12 }) (va_Pc [.ref h0] (fun U => U.heap.size = z0 ∧ va_P D vwCl [(h0, .inr (2, [.null, .null, .null, .int 0]))] U.heap ∧ va_K D vwCl [(kA, .int)] U ∧ va_D (fun _ => True) [(h0, .inr (2, [.null, .null, .null, .int 0]))])) (va_Qv (fun _ : Nat → Nat => True) (fun u t => u 0 = h0 ∧ va_P D vwCl [(u 0, .inr (2, [.ref (u 1), .ref (u 2), .ref (u 3), .int (nI 4)])), (u 1, .inl (kA, 96, .inl (fun _ => 0))), (u 2, .inl (kA, 4, .inl (fun j => nI ((fun _ => 0) j)))), (u 3, .inl (kA, 256, .inl (fun _ => 0)))] t.heap ∧ va_K D vwCl [(kA, .int)] t ∧ va_D (va_A [(h0, .inr (2, [.null, .null, .null, .int 0]))] z0) [(u 0, .inr (2, [.ref (u 1), .ref (u 2), .ref (u 3), .int (nI 4)])), (u 1, .inl (kA, 96, .inl (fun _ => 0))), (u 2, .inl (kA, 4, .inl (fun j => nI ((fun _ => 0) j)))), (u 3, .inl (kA, 256, .inl (fun _ => 0)))]) (va_A [(h0, .inr (2, [.null, .null, .null, .int 0]))] z0)) 3 356 (va_A [(h0, .inr (2, [.null, .null, .null, .int 0]))] z0) := by
  refine Met.ofW (cc := cX2_init) (maxL := 1) (ret := none) (by decide) rfl ?_
  intro pz ez sz mz args below meth cz s₁ B hml hv
  obtain ⟨rfl, hsz, hP, hK, hD0⟩ := hv
  have hx := B.exec
  have hb := B.bytes
  have hr := B.returns
  have hts := atoms_spec (ws := wsX2_init) B.pre
  have hown : sz.vm.findClass RX2 = some mz.cls := findClass_of_methodNamed B.named
  have hlocks := B.notSynchronized
  have hin : meth.name = "<init>" := (name_of_methodNamed B.named B.method).1
  subst hsz
  have hD := hD0.self (sz := sz.heap.size)
  generalize hAe : va_A [(h0, .inr (2, [.null, .null, .null, .int 0]))] sz.heap.size = Az at hD ⊢
  have hA : ∀ q : Nat, sz.heap.size ≤ q → Az q := fun q h => by rw [← hAe]; exact Or.inr h
  have hS : va_S Az sz.heap sz.heap [] := va_S.rf
  have hl := lv_entry ([.ref h0]) (n := 1) (Nat.le_of_ble_eq_true rfl)
  rw [lg_entry_eq]
  generalize (lg_sl ([.ref h0]) ++ List.replicate (1 - (lg_sl ([.ref h0])).length) Slot.unset).toArray = ls at hl ⊢
  have hl : lv_has ls 1 [(0, .ref h0)] := hl
  refine lv_aload_n hx hb dX2_init_0 rfl (lv_at hl 0 rfl) ?_
  refine W.objInit hx hb hown (hts (.methodLink RX2 1 objectInit) (by decide +kernel)) (hts (.instanceMethod objectInit) (by decide +kernel)) (hts _ (List.mem_of_getElem? (i := 3) rfl)) rfl (by rw [hml]; exact hl.1) rfl dX2_init_1 (Nat.le_of_ble_eq_true rfl) (Nat.le_of_ble_eq_true rfl) ?_
  refine W.eq (g2 := F0 mz 4 ls []) rfl ?_
  refine lv_aload_n hx hb dX2_init_4 rfl (lv_at hl 0 rfl) ?_
  refine lv_bipush (v := nI 96) hx hb dX2_init_5 (by decide) ?_
  refine va_newa (atype := .int) (ty := .int) (n := nI 96) (N' := 96) (a0 := (96, .inl (fun _ => 0))) hx hb (hts (.arrayClass .int) (by decide +kernel)) rfl hK hP hD hS hA (fun _ => rfl) (by decide) (by decide) (by decide) (Nat.le_of_ble_eq_true rfl) (Nat.le_of_ble_eq_true rfl) dX2_init_7 (fun q1 k_q1 H hK2 hP hD hS => ?_)
  have hK3 : va_K D vwCl [(k_q1, .int)] sz := hK2.sub [1] rfl
  obtain rfl : kA = k_q1 := (vz_kk hK hK3).symm
  have hP : va_P D vwCl [(h0, .inr (2, [.null, .null, .null, .int 0])), (q1, .inl (kA, 96, .inl (fun _ => 0)))] H := hP
  have hD : va_D Az [(h0, .inr (2, [.null, .null, .null, .int 0])), (q1, .inl (kA, 96, .inl (fun _ => 0)))] := hD
  refine va_putF (D := D) (ci := 2) (v := .ref q1) (ty := .array .int) (C := RX2) (T := TX2) (N := 4) hx hb hts (by decide +kernel) tyX2 tyX2_ok nmX2 hown hK hP hD hS 0 rfl rfl 0 (by decide) (hts (.fieldLink RX2 7 "CubeMinModel" "cubes" "[I") (by decide +kernel)) (fun _ h9 => h9) rfl hin rfl (by decide +kernel) rfl rfl (Nat.le_of_ble_eq_true rfl) dX2_init_9 (fun H locs hP hD hS => ?_)
  have hP : va_P D vwCl [(h0, .inr (2, [.ref q1, .null, .null, .int 0])), (q1, .inl (kA, 96, .inl (fun _ => 0)))] H := hP
  have hD : va_D Az [(h0, .inr (2, [.ref q1, .null, .null, .int 0])), (q1, .inl (kA, 96, .inl (fun _ => 0)))] := hD
  refine lv_aload_n hx hb dX2_init_12 rfl (lv_at hl 0 rfl) ?_
  refine lv_iconst (v := nI 4) hx hb dX2_init_13 (by decide) ?_
  refine va_newa (atype := .int) (ty := .int) (n := nI 4) (N' := 4) (a0 := (4, .inl (fun _ => 0))) hx hb (hts (.arrayClass .int) (by decide +kernel)) rfl hK hP hD hS hA (fun _ => rfl) (by decide) (by decide) (by decide) (Nat.le_of_ble_eq_true rfl) (Nat.le_of_ble_eq_true rfl) dX2_init_14 (fun q2 k_q2 H hK2 hP hD hS => ?_)
  have hK3 : va_K D vwCl [(k_q2, .int)] sz := hK2.sub [1] rfl
  obtain rfl : kA = k_q2 := (vz_kk hK hK3).symm
  have hP : va_P D vwCl [(h0, .inr (2, [.ref q1, .null, .null, .int 0])), (q1, .inl (kA, 96, .inl (fun _ => 0))), (q2, .inl (kA, 4, .inl (fun _ => 0)))] H := hP
  have hD : va_D Az [(h0, .inr (2, [.ref q1, .null, .null, .int 0])), (q1, .inl (kA, 96, .inl (fun _ => 0))), (q2, .inl (kA, 4, .inl (fun _ => 0)))] := hD
  refine va_putF (D := D) (ci := 2) (v := .ref q2) (ty := .array .int) (C := RX2) (T := TX2) (N := 4) hx hb hts (by decide +kernel) tyX2 tyX2_ok nmX2 hown hK hP hD hS 0 rfl rfl 1 (by decide) (hts (.fieldLink RX2 13 "CubeMinModel" "sizes" "[I") (by decide +kernel)) (fun _ h9 => h9) rfl hin rfl (by decide +kernel) rfl rfl (Nat.le_of_ble_eq_true rfl) dX2_init_16 (fun H locs hP hD hS => ?_)
  have hP : va_P D vwCl [(h0, .inr (2, [.ref q1, .ref q2, .null, .int 0])), (q1, .inl (kA, 96, .inl (fun _ => 0))), (q2, .inl (kA, 4, .inl (fun _ => 0)))] H := hP
  have hD : va_D Az [(h0, .inr (2, [.ref q1, .ref q2, .null, .int 0])), (q1, .inl (kA, 96, .inl (fun _ => 0))), (q2, .inl (kA, 4, .inl (fun _ => 0)))] := hD
  refine lv_aload_n hx hb dX2_init_19 rfl (lv_at hl 0 rfl) ?_
  refine lv_sipush (v := nI 256) hx hb dX2_init_20 (by decide) ?_
  refine va_newa (atype := .int) (ty := .int) (n := nI 256) (N' := 256) (a0 := (256, .inl (fun _ => 0))) hx hb (hts (.arrayClass .int) (by decide +kernel)) rfl hK hP hD hS hA (fun _ => rfl) (by decide) (by decide) (by decide) (Nat.le_of_ble_eq_true rfl) (Nat.le_of_ble_eq_true rfl) dX2_init_23 (fun q3 k_q3 H hK2 hP hD hS => ?_)
  have hK3 : va_K D vwCl [(k_q3, .int)] sz := hK2.sub [1] rfl
  obtain rfl : kA = k_q3 := (vz_kk hK hK3).symm
  have hP : va_P D vwCl [(h0, .inr (2, [.ref q1, .ref q2, .null, .int 0])), (q1, .inl (kA, 96, .inl (fun _ => 0))), (q2, .inl (kA, 4, .inl (fun _ => 0))), (q3, .inl (kA, 256, .inl (fun _ => 0)))] H := hP
  have hD : va_D Az [(h0, .inr (2, [.ref q1, .ref q2, .null, .int 0])), (q1, .inl (kA, 96, .inl (fun _ => 0))), (q2, .inl (kA, 4, .inl (fun _ => 0))), (q3, .inl (kA, 256, .inl (fun _ => 0)))] := hD
  refine va_putF (D := D) (ci := 2) (v := .ref q3) (ty := .array .int) (C := RX2) (T := TX2) (N := 4) hx hb hts (by decide +kernel) tyX2 tyX2_ok nmX2 hown hK hP hD hS 0 rfl rfl 2 (by decide) (hts (.fieldLink RX2 16 "CubeMinModel" "kinds" "[I") (by decide +kernel)) (fun _ h9 => h9) rfl hin rfl (by decide +kernel) rfl rfl (Nat.le_of_ble_eq_true rfl) dX2_init_25 (fun H locs hP hD hS => ?_)
  have hP : va_P D vwCl [(h0, .inr (2, [.ref q1, .ref q2, .ref q3, .int 0])), (q1, .inl (kA, 96, .inl (fun _ => 0))), (q2, .inl (kA, 4, .inl (fun _ => 0))), (q3, .inl (kA, 256, .inl (fun _ => 0)))] H := hP
  have hD : va_D Az [(h0, .inr (2, [.ref q1, .ref q2, .ref q3, .int 0])), (q1, .inl (kA, 96, .inl (fun _ => 0))), (q2, .inl (kA, 4, .inl (fun _ => 0))), (q3, .inl (kA, 256, .inl (fun _ => 0)))] := hD
  refine lv_aload_n hx hb dX2_init_28 rfl (lv_at hl 0 rfl) ?_
  refine lv_iconst (v := nI 4) hx hb dX2_init_29 (by decide) ?_
  refine va_put (D := D) (ci := 2) (v := .int (nI 4)) (ty := .int) (C := RX2) (T := TX2) (N := 4) hx hb hts (by decide +kernel) tyX2 tyX2_ok nmX2 hown hK hP hD hS 0 rfl rfl 3 (by decide) (hts (.fieldLink RX2 19 "CubeMinModel" "n" "I") (by decide +kernel)) (fun _ h9 => h9) rfl (by decide +kernel) rfl rfl (Nat.le_of_ble_eq_true rfl) dX2_init_30 (fun H locs hP hD hS => ?_)
  have hP : va_P D vwCl [(h0, .inr (2, [.ref q1, .ref q2, .ref q3, .int (nI 4)])), (q1, .inl (kA, 96, .inl (fun _ => 0))), (q2, .inl (kA, 4, .inl (fun _ => 0))), (q3, .inl (kA, 256, .inl (fun _ => 0)))] H := hP
  have hD : va_D Az [(h0, .inr (2, [.ref q1, .ref q2, .ref q3, .int (nI 4)])), (q1, .inl (kA, 96, .inl (fun _ => 0))), (q2, .inl (kA, 4, .inl (fun _ => 0))), (q3, .inl (kA, 256, .inl (fun _ => 0)))] := hD
  exact W.vret hx hb hr (fun t ht hW => ⟨⟨zlist [h0, q1, q2, q3], rfl, trivial, rfl, by rw [ht]; exact hP, va_K.moved hW.alike hK, hD⟩, hS.F ht⟩) hS.2.2 dX2_init_33
set_option maxHeartbeats 4000000 in
set_option maxRecDepth 100000 in
theorem c_X1_init (l : Launch) (D : va_G) (h0 z0 : Nat) : Met l yX1_init wsX1_init ({ frames := 2, cells := 11, slots := 872, locals := 45 }) (va_Pc [.ref h0] (fun U => U.heap.size = z0 ∧ va_P D vwCl [(h0, .inr (1, [.null, .null, .null, .null, .null, .null, .null, .int 0]))] U.heap ∧ va_K D vwCl [] U ∧ va_D (fun _ => True) [(h0, .inr (1, [.null, .null, .null, .null, .null, .null, .null, .int 0]))])) (va_Qv (fun _ : (Nat → Nat) × ClassId => True) (fun u t => u.1 0 = h0 ∧ va_P D vwCl [(u.1 0, .inr (1, [.ref (u.1 1), .ref (u.1 2), .ref (u.1 3), .ref (u.1 4), .ref (u.1 5), .ref (u.1 6), .ref (u.1 7), .int (nI 4)])), (u.1 5, .inl (u.2, 256, .inl (zpf (fun _ => 0) 4))), (u.1 6, .inl (u.2, 256, .inl (zmk 256 (fun _ => true) (nI 0) (fun _ => 0)))), (u.1 7, .inl (u.2, 256, .inl (fun _ => 0))), (u.1 1, .inr (0, [.ref (u.1 8), .int (nI 0)])), (u.1 8, .inl (u.2, 24, .inl (fun _ => 0))), (u.1 2, .inr (0, [.ref (u.1 9), .int (nI 0)])), (u.1 9, .inl (u.2, 24, .inl (fun _ => 0))), (u.1 3, .inr (0, [.ref (u.1 10), .int (nI 0)])), (u.1 10, .inl (u.2, 24, .inl (fun _ => 0))), (u.1 4, .inr (0, [.ref (u.1 11), .int (nI 0)])), (u.1 11, .inl (u.2, 24, .inl (fun _ => 0)))] t.heap ∧ va_K D vwCl [(u.2, .int)] t ∧ va_D (va_A [(h0, .inr (1, [.null, .null, .null, .null, .null, .null, .null, .int 0]))] z0) [(u.1 0, .inr (1, [.ref (u.1 1), .ref (u.1 2), .ref (u.1 3), .ref (u.1 4), .ref (u.1 5), .ref (u.1 6), .ref (u.1 7), .int (nI 4)])), (u.1 5, .inl (u.2, 256, .inl (zpf (fun _ => 0) 4))), (u.1 6, .inl (u.2, 256, .inl (zmk 256 (fun _ => true) (nI 0) (fun _ => 0)))), (u.1 7, .inl (u.2, 256, .inl (fun _ => 0))), (u.1 1, .inr (0, [.ref (u.1 8), .int (nI 0)])), (u.1 8, .inl (u.2, 24, .inl (fun _ => 0))), (u.1 2, .inr (0, [.ref (u.1 9), .int (nI 0)])), (u.1 9, .inl (u.2, 24, .inl (fun _ => 0))), (u.1 3, .inr (0, [.ref (u.1 10), .int (nI 0)])), (u.1 10, .inl (u.2, 24, .inl (fun _ => 0))), (u.1 4, .inr (0, [.ref (u.1 11), .int (nI 0)])), (u.1 11, .inl (u.2, 24, .inl (fun _ => 0)))]) (va_A [(h0, .inr (1, [.null, .null, .null, .null, .null, .null, .null, .int 0]))] z0)) 11 872 (va_A [(h0, .inr (1, [.null, .null, .null, .null, .null, .null, .null, .int 0]))] z0) := by
  refine Met.ofW (cc := cX1_init) (maxL := 1) (ret := none) (by decide) rfl ?_
  intro pz ez sz mz args below meth cz s₁ B hml hv
  obtain ⟨rfl, hsz, hP, hK, hD0⟩ := hv
  have hx := B.exec
  have hb := B.bytes
  have hr := B.returns
  have hts := atoms_spec (ws := wsX1_init) B.pre
  have hown : sz.vm.findClass RX1 = some mz.cls := findClass_of_methodNamed B.named
  have hlocks := B.notSynchronized
  have hin : meth.name = "<init>" := (name_of_methodNamed B.named B.method).1
  subst hsz
  have hD := hD0.self (sz := sz.heap.size)
  generalize hAe : va_A [(h0, .inr (1, [.null, .null, .null, .null, .null, .null, .null, .int 0]))] sz.heap.size = Az at hD ⊢
  have hA : ∀ q : Nat, sz.heap.size ≤ q → Az q := fun q h => by rw [← hAe]; exact Or.inr h
  have hS : va_S Az sz.heap sz.heap [] := va_S.rf
  have hl := lv_entry ([.ref h0]) (n := 1) (Nat.le_of_ble_eq_true rfl)
  rw [lg_entry_eq]
  generalize (lg_sl ([.ref h0]) ++ List.replicate (1 - (lg_sl ([.ref h0])).length) Slot.unset).toArray = ls at hl ⊢
  have hl : lv_has ls 1 [(0, .ref h0)] := hl
  refine lv_aload_n hx hb dX1_init_0 rfl (lv_at hl 0 rfl) ?_
  refine W.objInit hx hb hown (hts (.methodLink RX1 3 objectInit) (by decide +kernel)) (hts (.instanceMethod objectInit) (by decide +kernel)) (hts _ (List.mem_of_getElem? (i := 3) rfl)) rfl (by rw [hml]; exact hl.1) rfl dX1_init_1 (Nat.le_of_ble_eq_true rfl) (Nat.le_of_ble_eq_true rfl) ?_
  refine W.eq (g2 := F0 mz 4 ls []) rfl ?_
  refine lv_aload_n hx hb dX1_init_4 rfl (lv_at hl 0 rfl) ?_
  refine va_new (ci := 0) (fs := [.null, .int 0]) (C := RX0) (T := TX0) (N := 2) hx hb hts (by decide +kernel) tyX0 tyX0_ok hown (hts (.classLink RX1 9 RX0) (by decide +kernel)) (hts (.instantiable RX0 2) (by decide +kernel)) (hts (.initialized RX0) (by decide +kernel)) hK hP hD hS hA rfl (fun j hj => by rcases (show j = 0 ∨ j = 1 by omega) with rfl | rfl <;> rfl) (Nat.le_of_ble_eq_true rfl) (Nat.le_of_ble_eq_true rfl) dX1_init_5 (fun q1 H hP hD hS => ?_)
  have hP : va_P D vwCl [(h0, .inr (1, [.null, .null, .null, .null, .null, .null, .null, .int 0])), (q1, .inr (0, [.null, .int 0]))] H := hP
  have hD : va_D Az [(h0, .inr (1, [.null, .null, .null, .null, .null, .null, .null, .int 0])), (q1, .inr (0, [.null, .int 0]))] := hD
  refine lv_dup hx hb dX1_init_8 rfl ?_
  have hPc := hP.sub (ws' := [(q1, .inr (0, [.null, .int 0]))]) [1] rfl
  have hDc := hD.sub (ws' := [(q1, .inr (0, [.null, .int 0]))]) [1] (by decide) rfl
  have hKc := hK.sub (tys' := []) [] rfl
  have hFc := va_free (wc := [(q1, .inr (0, [.null, .int 0]))]) hD hS hA [1] rfl
  refine va_callv (va_runI (As := []) (rest := [.ref q1, .ref h0]) ⟨hx, hb, hml, hown, hts⟩ (c_X0_init l D q1 H.size) (cwI 0 hts gX1_init_X0_init rfl rfl rfl (hts (.initialized RX0) (by decide +kernel)) (hts (.methodLink RX1 11 yX0_init) (by decide +kernel)) (hts (.instanceMethod yX0_init) (by decide +kernel)) rfl (by decide +kernel) ⟨Nat.le_of_ble_eq_true rfl, Nat.le_of_ble_eq_true rfl⟩) ⟨fun a U g mk q => by obtain ⟨q0, q1, qP, qK, qD⟩ := q; exact ⟨q0, q1, qP, va_K.moved (u := U) (U := U.calling g mk a) (Vm.Alike.refl U.vm) qK, qD⟩, fun U hU hW => ⟨rfl, by rw [hU], by rw [hU]; exact hPc, va_K.moved hW.alike hKc, hDc.weaken (fun _ _ _ _ => trivial)⟩⟩ rfl rfl hl.1 rfl (lv_room (Nat.le_of_ble_eq_true rfl)) dX1_init_9 ⟨Nat.le_of_ble_eq_true rfl, Nat.le_of_ble_eq_true rfl⟩) hS (fun q _ h => hFc q h) hFc (fun u t H1 locs ht hvm hw hB hz1 hk1 hS => ?_)
  obtain ⟨a8, k0⟩ := u
  obtain ⟨hP1, hK1, hD1⟩ := hB
  rw [ht] at hP1
  have hK1 := va_K.moved hvm.symm hK1
  have hK : va_K D vwCl [(k0, .int)] sz := hK1
  obtain ⟨hP, hD⟩ := va_join (wr := [(h0, .inr (1, [.null, .null, .null, .null, .null, .null, .null, .int 0]))]) (w1 := [(q1, .inr (0, [.ref a8, .int (nI 0)])), (a8, .inl (k0, 24, .inl (fun _ => 0)))]) hP hD [1] [0] rfl rfl (by decide) (by decide) hk1 hFc hP1 hD1
  generalize H1 = H at hP hS ⊢
  have hP : va_P D vwCl [(h0, .inr (1, [.null, .null, .null, .null, .null, .null, .null, .int 0])), (q1, .inr (0, [.ref a8, .int (nI 0)])), (a8, .inl (k0, 24, .inl (fun _ => 0)))] H := hP
  have hD : va_D Az [(h0, .inr (1, [.null, .null, .null, .null, .null, .null, .null, .int 0])), (q1, .inr (0, [.ref a8, .int (nI 0)])), (a8, .inl (k0, 24, .inl (fun _ => 0)))] := hD
  refine va_putF (D := D) (ci := 1) (v := .ref q1) (ty := .object "CubeMin$CubeList") (C := RX1) (T := TX1) (N := 8) hx hb hts (by decide +kernel) tyX1 tyX1_ok nmX1 hown hK hP hD hS 0 rfl rfl 0 (by decide) (hts (.fieldLink RX1 12 "CubeMin" "onList" "LCubeMin$CubeList;") (by decide +kernel)) (fun _ h9 => h9) rfl hin rfl (by decide +kernel) rfl rfl (Nat.le_of_ble_eq_true rfl) dX1_init_12 (fun H locs hP hD hS => ?_)
  have hP : va_P D vwCl [(h0, .inr (1, [.ref q1, .null, .null, .null, .null, .null, .null, .int 0])), (q1, .inr (0, [.ref a8, .int (nI 0)])), (a8, .inl (k0, 24, .inl (fun _ => 0)))] H := hP
  have hD : va_D Az [(h0, .inr (1, [.ref q1, .null, .null, .null, .null, .null, .null, .int 0])), (q1, .inr (0, [.ref a8, .int (nI 0)])), (a8, .inl (k0, 24, .inl (fun _ => 0)))] := hD
  refine lv_aload_n hx hb dX1_init_15 rfl (lv_at hl 0 rfl) ?_
  refine va_new (ci := 0) (fs := [.null, .int 0]) (C := RX0) (T := TX0) (N := 2) hx hb hts (by decide +kernel) tyX0 tyX0_ok hown (hts (.classLink RX1 9 RX0) (by decide +kernel)) (hts (.instantiable RX0 2) (by decide +kernel)) (hts (.initialized RX0) (by decide +kernel)) hK hP hD hS hA rfl (fun j hj => by rcases (show j = 0 ∨ j = 1 by omega) with rfl | rfl <;> rfl) (Nat.le_of_ble_eq_true rfl) (Nat.le_of_ble_eq_true rfl) dX1_init_16 (fun q2 H hP hD hS => ?_)
  have hP : va_P D vwCl [(h0, .inr (1, [.ref q1, .null, .null, .null, .null, .null, .null, .int 0])), (q1, .inr (0, [.ref a8, .int (nI 0)])), (a8, .inl (k0, 24, .inl (fun _ => 0))), (q2, .inr (0, [.null, .int 0]))] H := hP
  have hD : va_D Az [(h0, .inr (1, [.ref q1, .null, .null, .null, .null, .null, .null, .int 0])), (q1, .inr (0, [.ref a8, .int (nI 0)])), (a8, .inl (k0, 24, .inl (fun _ => 0))), (q2, .inr (0, [.null, .int 0]))] := hD
  refine lv_dup hx hb dX1_init_19 rfl ?_
  have hPc := hP.sub (ws' := [(q2, .inr (0, [.null, .int 0]))]) [3] rfl
  have hDc := hD.sub (ws' := [(q2, .inr (0, [.null, .int 0]))]) [3] (by decide) rfl
  have hKc := hK.sub (tys' := []) [] rfl
  have hFc := va_free (wc := [(q2, .inr (0, [.null, .int 0]))]) hD hS hA [3] rfl
  refine va_callv (va_runI (As := []) (rest := [.ref q2, .ref h0]) ⟨hx, hb, hml, hown, hts⟩ (c_X0_init l D q2 H.size) (cwI 0 hts gX1_init_X0_init rfl rfl rfl (hts (.initialized RX0) (by decide +kernel)) (hts (.methodLink RX1 11 yX0_init) (by decide +kernel)) (hts (.instanceMethod yX0_init) (by decide +kernel)) rfl (by decide +kernel) ⟨Nat.le_of_ble_eq_true rfl, Nat.le_of_ble_eq_true rfl⟩) ⟨fun a U g mk q => by obtain ⟨q0, q1, qP, qK, qD⟩ := q; exact ⟨q0, q1, qP, va_K.moved (u := U) (U := U.calling g mk a) (Vm.Alike.refl U.vm) qK, qD⟩, fun U hU hW => ⟨rfl, by rw [hU], by rw [hU]; exact hPc, va_K.moved hW.alike hKc, hDc.weaken (fun _ _ _ _ => trivial)⟩⟩ rfl rfl hl.1 rfl (lv_room (Nat.le_of_ble_eq_true rfl)) dX1_init_20 ⟨Nat.le_of_ble_eq_true rfl, Nat.le_of_ble_eq_true rfl⟩) hS (fun q _ h => hFc q h) hFc (fun u t H1 locs ht hvm hw hB hz1 hk1 hS => ?_)
  obtain ⟨a9, k1⟩ := u
  obtain ⟨hP1, hK1, hD1⟩ := hB
  rw [ht] at hP1
  have hK1 := va_K.moved hvm.symm hK1
  have ek : k0 = k1 := (vz_kk hK hK1).symm
  subst ek
  obtain ⟨hP, hD⟩ := va_join (wr := [(h0, .inr (1, [.ref q1, .null, .null, .null, .null, .null, .null, .int 0])), (q1, .inr (0, [.ref a8, .int (nI 0)])), (a8, .inl (k0, 24, .inl (fun _ => 0)))]) (w1 := [(q2, .inr (0, [.ref a9, .int (nI 0)])), (a9, .inl (k0, 24, .inl (fun _ => 0)))]) hP hD [3] [0, 1, 2] rfl rfl (by decide) (by decide) hk1 hFc hP1 hD1
  generalize H1 = H at hP hS ⊢
  have hP : va_P D vwCl [(h0, .inr (1, [.ref q1, .null, .null, .null, .null, .null, .null, .int 0])), (q1, .inr (0, [.ref a8, .int (nI 0)])), (a8, .inl (k0, 24, .inl (fun _ => 0))), (q2, .inr (0, [.ref a9, .int (nI 0)])), (a9, .inl (k0, 24, .inl (fun _ => 0)))] H := hP
  have hD : va_D Az [(h0, .inr (1, [.ref q1, .null, .null, .null, .null, .null, .null, .int 0])), (q1, .inr (0, [.ref a8, .int (nI 0)])), (a8, .inl (k0, 24, .inl (fun _ => 0))), (q2, .inr (0, [.ref a9, .int (nI 0)])), (a9, .inl (k0, 24, .inl (fun _ => 0)))] := hD
  refine va_putF (D := D) (ci := 1) (v := .ref q2) (ty := .object "CubeMin$CubeList") (C := RX1) (T := TX1) (N := 8) hx hb hts (by decide +kernel) tyX1 tyX1_ok nmX1 hown hK hP hD hS 0 rfl rfl 1 (by decide) (hts (.fieldLink RX1 16 "CubeMin" "dcList" "LCubeMin$CubeList;") (by decide +kernel)) (fun _ h9 => h9) rfl hin rfl (by decide +kernel) rfl rfl (Nat.le_of_ble_eq_true rfl) dX1_init_23 (fun H locs hP hD hS => ?_)
  have hP : va_P D vwCl [(h0, .inr (1, [.ref q1, .ref q2, .null, .null, .null, .null, .null, .int 0])), (q1, .inr (0, [.ref a8, .int (nI 0)])), (a8, .inl (k0, 24, .inl (fun _ => 0))), (q2, .inr (0, [.ref a9, .int (nI 0)])), (a9, .inl (k0, 24, .inl (fun _ => 0)))] H := hP
  have hD : va_D Az [(h0, .inr (1, [.ref q1, .ref q2, .null, .null, .null, .null, .null, .int 0])), (q1, .inr (0, [.ref a8, .int (nI 0)])), (a8, .inl (k0, 24, .inl (fun _ => 0))), (q2, .inr (0, [.ref a9, .int (nI 0)])), (a9, .inl (k0, 24, .inl (fun _ => 0)))] := hD
  refine lv_aload_n hx hb dX1_init_26 rfl (lv_at hl 0 rfl) ?_
  refine va_new (ci := 0) (fs := [.null, .int 0]) (C := RX0) (T := TX0) (N := 2) hx hb hts (by decide +kernel) tyX0 tyX0_ok hown (hts (.classLink RX1 9 RX0) (by decide +kernel)) (hts (.instantiable RX0 2) (by decide +kernel)) (hts (.initialized RX0) (by decide +kernel)) hK hP hD hS hA rfl (fun j hj => by rcases (show j = 0 ∨ j = 1 by omega) with rfl | rfl <;> rfl) (Nat.le_of_ble_eq_true rfl) (Nat.le_of_ble_eq_true rfl) dX1_init_27 (fun q3 H hP hD hS => ?_)
  have hP : va_P D vwCl [(h0, .inr (1, [.ref q1, .ref q2, .null, .null, .null, .null, .null, .int 0])), (q1, .inr (0, [.ref a8, .int (nI 0)])), (a8, .inl (k0, 24, .inl (fun _ => 0))), (q2, .inr (0, [.ref a9, .int (nI 0)])), (a9, .inl (k0, 24, .inl (fun _ => 0))), (q3, .inr (0, [.null, .int 0]))] H := hP
  have hD : va_D Az [(h0, .inr (1, [.ref q1, .ref q2, .null, .null, .null, .null, .null, .int 0])), (q1, .inr (0, [.ref a8, .int (nI 0)])), (a8, .inl (k0, 24, .inl (fun _ => 0))), (q2, .inr (0, [.ref a9, .int (nI 0)])), (a9, .inl (k0, 24, .inl (fun _ => 0))), (q3, .inr (0, [.null, .int 0]))] := hD
  refine lv_dup hx hb dX1_init_30 rfl ?_
  have hPc := hP.sub (ws' := [(q3, .inr (0, [.null, .int 0]))]) [5] rfl
  have hDc := hD.sub (ws' := [(q3, .inr (0, [.null, .int 0]))]) [5] (by decide) rfl
  have hKc := hK.sub (tys' := []) [] rfl
  have hFc := va_free (wc := [(q3, .inr (0, [.null, .int 0]))]) hD hS hA [5] rfl
  refine va_callv (va_runI (As := []) (rest := [.ref q3, .ref h0]) ⟨hx, hb, hml, hown, hts⟩ (c_X0_init l D q3 H.size) (cwI 0 hts gX1_init_X0_init rfl rfl rfl (hts (.initialized RX0) (by decide +kernel)) (hts (.methodLink RX1 11 yX0_init) (by decide +kernel)) (hts (.instanceMethod yX0_init) (by decide +kernel)) rfl (by decide +kernel) ⟨Nat.le_of_ble_eq_true rfl, Nat.le_of_ble_eq_true rfl⟩) ⟨fun a U g mk q => by obtain ⟨q0, q1, qP, qK, qD⟩ := q; exact ⟨q0, q1, qP, va_K.moved (u := U) (U := U.calling g mk a) (Vm.Alike.refl U.vm) qK, qD⟩, fun U hU hW => ⟨rfl, by rw [hU], by rw [hU]; exact hPc, va_K.moved hW.alike hKc, hDc.weaken (fun _ _ _ _ => trivial)⟩⟩ rfl rfl hl.1 rfl (lv_room (Nat.le_of_ble_eq_true rfl)) dX1_init_31 ⟨Nat.le_of_ble_eq_true rfl, Nat.le_of_ble_eq_true rfl⟩) hS (fun q _ h => hFc q h) hFc (fun u t H1 locs ht hvm hw hB hz1 hk1 hS => ?_)
  obtain ⟨a10, k2⟩ := u
  obtain ⟨hP1, hK1, hD1⟩ := hB
  rw [ht] at hP1
  have hK1 := va_K.moved hvm.symm hK1
  have ek : k0 = k2 := (vz_kk hK hK1).symm
  subst ek
  obtain ⟨hP, hD⟩ := va_join (wr := [(h0, .inr (1, [.ref q1, .ref q2, .null, .null, .null, .null, .null, .int 0])), (q1, .inr (0, [.ref a8, .int (nI 0)])), (a8, .inl (k0, 24, .inl (fun _ => 0))), (q2, .inr (0, [.ref a9, .int (nI 0)])), (a9, .inl (k0, 24, .inl (fun _ => 0)))]) (w1 := [(q3, .inr (0, [.ref a10, .int (nI 0)])), (a10, .inl (k0, 24, .inl (fun _ => 0)))]) hP hD [5] [0, 1, 2, 3, 4] rfl rfl (by decide) (by decide) hk1 hFc hP1 hD1
  generalize H1 = H at hP hS ⊢
  have hP : va_P D vwCl [(h0, .inr (1, [.ref q1, .ref q2, .null, .null, .null, .null, .null, .int 0])), (q1, .inr (0, [.ref a8, .int (nI 0)])), (a8, .inl (k0, 24, .inl (fun _ => 0))), (q2, .inr (0, [.ref a9, .int (nI 0)])), (a9, .inl (k0, 24, .inl (fun _ => 0))), (q3, .inr (0, [.ref a10, .int (nI 0)])), (a10, .inl (k0, 24, .inl (fun _ => 0)))] H := hP
  have hD : va_D Az [(h0, .inr (1, [.ref q1, .ref q2, .null, .null, .null, .null, .null, .int 0])), (q1, .inr (0, [.ref a8, .int (nI 0)])), (a8, .inl (k0, 24, .inl (fun _ => 0))), (q2, .inr (0, [.ref a9, .int (nI 0)])), (a9, .inl (k0, 24, .inl (fun _ => 0))), (q3, .inr (0, [.ref a10, .int (nI 0)])), (a10, .inl (k0, 24, .inl (fun _ => 0)))] := hD
  refine va_putF (D := D) (ci := 1) (v := .ref q3) (ty := .object "CubeMin$CubeList") (C := RX1) (T := TX1) (N := 8) hx hb hts (by decide +kernel) tyX1 tyX1_ok nmX1 hown hK hP hD hS 0 rfl rfl 2 (by decide) (hts (.fieldLink RX1 19 "CubeMin" "coverList" "LCubeMin$CubeList;") (by decide +kernel)) (fun _ h9 => h9) rfl hin rfl (by decide +kernel) rfl rfl (Nat.le_of_ble_eq_true rfl) dX1_init_34 (fun H locs hP hD hS => ?_)
  have hP : va_P D vwCl [(h0, .inr (1, [.ref q1, .ref q2, .ref q3, .null, .null, .null, .null, .int 0])), (q1, .inr (0, [.ref a8, .int (nI 0)])), (a8, .inl (k0, 24, .inl (fun _ => 0))), (q2, .inr (0, [.ref a9, .int (nI 0)])), (a9, .inl (k0, 24, .inl (fun _ => 0))), (q3, .inr (0, [.ref a10, .int (nI 0)])), (a10, .inl (k0, 24, .inl (fun _ => 0)))] H := hP
  have hD : va_D Az [(h0, .inr (1, [.ref q1, .ref q2, .ref q3, .null, .null, .null, .null, .int 0])), (q1, .inr (0, [.ref a8, .int (nI 0)])), (a8, .inl (k0, 24, .inl (fun _ => 0))), (q2, .inr (0, [.ref a9, .int (nI 0)])), (a9, .inl (k0, 24, .inl (fun _ => 0))), (q3, .inr (0, [.ref a10, .int (nI 0)])), (a10, .inl (k0, 24, .inl (fun _ => 0)))] := hD
  refine lv_aload_n hx hb dX1_init_37 rfl (lv_at hl 0 rfl) ?_
  refine va_new (ci := 0) (fs := [.null, .int 0]) (C := RX0) (T := TX0) (N := 2) hx hb hts (by decide +kernel) tyX0 tyX0_ok hown (hts (.classLink RX1 9 RX0) (by decide +kernel)) (hts (.instantiable RX0 2) (by decide +kernel)) (hts (.initialized RX0) (by decide +kernel)) hK hP hD hS hA rfl (fun j hj => by rcases (show j = 0 ∨ j = 1 by omega) with rfl | rfl <;> rfl) (Nat.le_of_ble_eq_true rfl) (Nat.le_of_ble_eq_true rfl) dX1_init_38 (fun q4 H hP hD hS => ?_)
  have hP : va_P D vwCl [(h0, .inr (1, [.ref q1, .ref q2, .ref q3, .null, .null, .null, .null, .int 0])), (q1, .inr (0, [.ref a8, .int (nI 0)])), (a8, .inl (k0, 24, .inl (fun _ => 0))), (q2, .inr (0, [.ref a9, .int (nI 0)])), (a9, .inl (k0, 24, .inl (fun _ => 0))), (q3, .inr (0, [.ref a10, .int (nI 0)])), (a10, .inl (k0, 24, .inl (fun _ => 0))), (q4, .inr (0, [.null, .int 0]))] H := hP
  have hD : va_D Az [(h0, .inr (1, [.ref q1, .ref q2, .ref q3, .null, .null, .null, .null, .int 0])), (q1, .inr (0, [.ref a8, .int (nI 0)])), (a8, .inl (k0, 24, .inl (fun _ => 0))), (q2, .inr (0, [.ref a9, .int (nI 0)])), (a9, .inl (k0, 24, .inl (fun _ => 0))), (q3, .inr (0, [.ref a10, .int (nI 0)])), (a10, .inl (k0, 24, .inl (fun _ => 0))), (q4, .inr (0, [.null, .int 0]))] := hD
  refine lv_dup hx hb dX1_init_41 rfl ?_
  have hPc := hP.sub (ws' := [(q4, .inr (0, [.null, .int 0]))]) [7] rfl
  have hDc := hD.sub (ws' := [(q4, .inr (0, [.null, .int 0]))]) [7] (by decide) rfl
  have hKc := hK.sub (tys' := []) [] rfl
  have hFc := va_free (wc := [(q4, .inr (0, [.null, .int 0]))]) hD hS hA [7] rfl
  refine va_callv (va_runI (As := []) (rest := [.ref q4, .ref h0]) ⟨hx, hb, hml, hown, hts⟩ (c_X0_init l D q4 H.size) (cwI 0 hts gX1_init_X0_init rfl rfl rfl (hts (.initialized RX0) (by decide +kernel)) (hts (.methodLink RX1 11 yX0_init) (by decide +kernel)) (hts (.instanceMethod yX0_init) (by decide +kernel)) rfl (by decide +kernel) ⟨Nat.le_of_ble_eq_true rfl, Nat.le_of_ble_eq_true rfl⟩) ⟨fun a U g mk q => by obtain ⟨q0, q1, qP, qK, qD⟩ := q; exact ⟨q0, q1, qP, va_K.moved (u := U) (U := U.calling g mk a) (Vm.Alike.refl U.vm) qK, qD⟩, fun U hU hW => ⟨rfl, by rw [hU], by rw [hU]; exact hPc, va_K.moved hW.alike hKc, hDc.weaken (fun _ _ _ _ => trivial)⟩⟩ rfl rfl hl.1 rfl (lv_room (Nat.le_of_ble_eq_true rfl)) dX1_init_42 ⟨Nat.le_of_ble_eq_true rfl, Nat.le_of_ble_eq_true rfl⟩) hS (fun q _ h => hFc q h) hFc (fun u t H1 locs ht hvm hw hB hz1 hk1 hS => ?_)
  obtain ⟨a11, k3⟩ := u
  obtain ⟨hP1, hK1, hD1⟩ := hB
  rw [ht] at hP1
  have hK1 := va_K.moved hvm.symm hK1
  have ek : k0 = k3 := (vz_kk hK hK1).symm
  subst ek
  obtain ⟨hP, hD⟩ := va_join (wr := [(h0, .inr (1, [.ref q1, .ref q2, .ref q3, .null, .null, .null, .null, .int 0])), (q1, .inr (0, [.ref a8, .int (nI 0)])), (a8, .inl (k0, 24, .inl (fun _ => 0))), (q2, .inr (0, [.ref a9, .int (nI 0)])), (a9, .inl (k0, 24, .inl (fun _ => 0))), (q3, .inr (0, [.ref a10, .int (nI 0)])), (a10, .inl (k0, 24, .inl (fun _ => 0)))]) (w1 := [(q4, .inr (0, [.ref a11, .int (nI 0)])), (a11, .inl (k0, 24, .inl (fun _ => 0)))]) hP hD [7] [0, 1, 2, 3, 4, 5, 6] rfl rfl (by decide) (by decide) hk1 hFc hP1 hD1
  generalize H1 = H at hP hS ⊢
  have hP : va_P D vwCl [(h0, .inr (1, [.ref q1, .ref q2, .ref q3, .null, .null, .null, .null, .int 0])), (q1, .inr (0, [.ref a8, .int (nI 0)])), (a8, .inl (k0, 24, .inl (fun _ => 0))), (q2, .inr (0, [.ref a9, .int (nI 0)])), (a9, .inl (k0, 24, .inl (fun _ => 0))), (q3, .inr (0, [.ref a10, .int (nI 0)])), (a10, .inl (k0, 24, .inl (fun _ => 0))), (q4, .inr (0, [.ref a11, .int (nI 0)])), (a11, .inl (k0, 24, .inl (fun _ => 0)))] H := hP
  have hD : va_D Az [(h0, .inr (1, [.ref q1, .ref q2, .ref q3, .null, .null, .null, .null, .int 0])), (q1, .inr (0, [.ref a8, .int (nI 0)])), (a8, .inl (k0, 24, .inl (fun _ => 0))), (q2, .inr (0, [.ref a9, .int (nI 0)])), (a9, .inl (k0, 24, .inl (fun _ => 0))), (q3, .inr (0, [.ref a10, .int (nI 0)])), (a10, .inl (k0, 24, .inl (fun _ => 0))), (q4, .inr (0, [.ref a11, .int (nI 0)])), (a11, .inl (k0, 24, .inl (fun _ => 0)))] := hD
  refine va_putF (D := D) (ci := 1) (v := .ref q4) (ty := .object "CubeMin$CubeList") (C := RX1) (T := TX1) (N := 8) hx hb hts (by decide +kernel) tyX1 tyX1_ok nmX1 hown hK hP hD hS 0 rfl rfl 3 (by decide) (hts (.fieldLink RX1 22 "CubeMin" "trialList" "LCubeMin$CubeList;") (by decide +kernel)) (fun _ h9 => h9) rfl hin rfl (by decide +kernel) rfl rfl (Nat.le_of_ble_eq_true rfl) dX1_init_45 (fun H locs hP hD hS => ?_)
  have hP : va_P D vwCl [(h0, .inr (1, [.ref q1, .ref q2, .ref q3, .ref q4, .null, .null, .null, .int 0])), (q1, .inr (0, [.ref a8, .int (nI 0)])), (a8, .inl (k0, 24, .inl (fun _ => 0))), (q2, .inr (0, [.ref a9, .int (nI 0)])), (a9, .inl (k0, 24, .inl (fun _ => 0))), (q3, .inr (0, [.ref a10, .int (nI 0)])), (a10, .inl (k0, 24, .inl (fun _ => 0))), (q4, .inr (0, [.ref a11, .int (nI 0)])), (a11, .inl (k0, 24, .inl (fun _ => 0)))] H := hP
  have hD : va_D Az [(h0, .inr (1, [.ref q1, .ref q2, .ref q3, .ref q4, .null, .null, .null, .int 0])), (q1, .inr (0, [.ref a8, .int (nI 0)])), (a8, .inl (k0, 24, .inl (fun _ => 0))), (q2, .inr (0, [.ref a9, .int (nI 0)])), (a9, .inl (k0, 24, .inl (fun _ => 0))), (q3, .inr (0, [.ref a10, .int (nI 0)])), (a10, .inl (k0, 24, .inl (fun _ => 0))), (q4, .inr (0, [.ref a11, .int (nI 0)])), (a11, .inl (k0, 24, .inl (fun _ => 0)))] := hD
  refine lv_aload_n hx hb dX1_init_48 rfl (lv_at hl 0 rfl) ?_
  refine lv_sipush (v := nI 256) hx hb dX1_init_49 (by decide) ?_
  refine va_newa (atype := .int) (ty := .int) (n := nI 256) (N' := 256) (a0 := (256, .inl (fun _ => 0))) hx hb (hts (.arrayClass .int) (by decide +kernel)) rfl hK hP hD hS hA (fun _ => rfl) (by decide) (by decide) (by decide) (Nat.le_of_ble_eq_true rfl) (Nat.le_of_ble_eq_true rfl) dX1_init_52 (fun p5 k_p5 H hK2 hP hD hS => ?_)
  have hK3 : va_K D vwCl [(k_p5, .int)] sz := hK2.sub [1] rfl
  have ek : k0 = k_p5 := (vz_kk hK hK3).symm
  subst ek
  have hP : va_P D vwCl [(h0, .inr (1, [.ref q1, .ref q2, .ref q3, .ref q4, .null, .null, .null, .int 0])), (q1, .inr (0, [.ref a8, .int (nI 0)])), (a8, .inl (k0, 24, .inl (fun _ => 0))), (q2, .inr (0, [.ref a9, .int (nI 0)])), (a9, .inl (k0, 24, .inl (fun _ => 0))), (q3, .inr (0, [.ref a10, .int (nI 0)])), (a10, .inl (k0, 24, .inl (fun _ => 0))), (q4, .inr (0, [.ref a11, .int (nI 0)])), (a11, .inl (k0, 24, .inl (fun _ => 0))), (p5, .inl (k0, 256, .inl (fun _ => 0)))] H := hP
  have hD : va_D Az [(h0, .inr (1, [.ref q1, .ref q2, .ref q3, .ref q4, .null, .null, .null, .int 0])), (q1, .inr (0, [.ref a8, .int (nI 0)])), (a8, .inl (k0, 24, .inl (fun _ => 0))), (q2, .inr (0, [.ref a9, .int (nI 0)])), (a9, .inl (k0, 24, .inl (fun _ => 0))), (q3, .inr (0, [.ref a10, .int (nI 0)])), (a10, .inl (k0, 24, .inl (fun _ => 0))), (q4, .inr (0, [.ref a11, .int (nI 0)])), (a11, .inl (k0, 24, .inl (fun _ => 0))), (p5, .inl (k0, 256, .inl (fun _ => 0)))] := hD
  refine va_putF (D := D) (ci := 1) (v := .ref p5) (ty := .array .int) (C := RX1) (T := TX1) (N := 8) hx hb hts (by decide +kernel) tyX1 tyX1_ok nmX1 hown hK hP hD hS 0 rfl rfl 4 (by decide) (hts (.fieldLink RX1 25 "CubeMin" "pointCubes" "[I") (by decide +kernel)) (fun _ h9 => h9) rfl hin rfl (by decide +kernel) rfl rfl (Nat.le_of_ble_eq_true rfl) dX1_init_54 (fun H locs hP hD hS => ?_)
  have hP : va_P D vwCl [(h0, .inr (1, [.ref q1, .ref q2, .ref q3, .ref q4, .ref p5, .null, .null, .int 0])), (q1, .inr (0, [.ref a8, .int (nI 0)])), (a8, .inl (k0, 24, .inl (fun _ => 0))), (q2, .inr (0, [.ref a9, .int (nI 0)])), (a9, .inl (k0, 24, .inl (fun _ => 0))), (q3, .inr (0, [.ref a10, .int (nI 0)])), (a10, .inl (k0, 24, .inl (fun _ => 0))), (q4, .inr (0, [.ref a11, .int (nI 0)])), (a11, .inl (k0, 24, .inl (fun _ => 0))), (p5, .inl (k0, 256, .inl (fun _ => 0)))] H := hP
  have hD : va_D Az [(h0, .inr (1, [.ref q1, .ref q2, .ref q3, .ref q4, .ref p5, .null, .null, .int 0])), (q1, .inr (0, [.ref a8, .int (nI 0)])), (a8, .inl (k0, 24, .inl (fun _ => 0))), (q2, .inr (0, [.ref a9, .int (nI 0)])), (a9, .inl (k0, 24, .inl (fun _ => 0))), (q3, .inr (0, [.ref a10, .int (nI 0)])), (a10, .inl (k0, 24, .inl (fun _ => 0))), (q4, .inr (0, [.ref a11, .int (nI 0)])), (a11, .inl (k0, 24, .inl (fun _ => 0))), (p5, .inl (k0, 256, .inl (fun _ => 0)))] := hD
  refine lv_aload_n hx hb dX1_init_57 rfl (lv_at hl 0 rfl) ?_
  refine lv_sipush (v := nI 256) hx hb dX1_init_58 (by decide) ?_
  refine va_newa (atype := .int) (ty := .int) (n := nI 256) (N' := 256) (a0 := (256, .inl (fun _ => 0))) hx hb (hts (.arrayClass .int) (by decide +kernel)) rfl hK hP hD hS hA (fun _ => rfl) (by decide) (by decide) (by decide) (Nat.le_of_ble_eq_true rfl) (Nat.le_of_ble_eq_true rfl) dX1_init_61 (fun p6 k_p6 H hK2 hP hD hS => ?_)
  have hK3 : va_K D vwCl [(k_p6, .int)] sz := hK2.sub [1] rfl
  have ek : k0 = k_p6 := (vz_kk hK hK3).symm
  subst ek
  have hP : va_P D vwCl [(h0, .inr (1, [.ref q1, .ref q2, .ref q3, .ref q4, .ref p5, .null, .null, .int 0])), (q1, .inr (0, [.ref a8, .int (nI 0)])), (a8, .inl (k0, 24, .inl (fun _ => 0))), (q2, .inr (0, [.ref a9, .int (nI 0)])), (a9, .inl (k0, 24, .inl (fun _ => 0))), (q3, .inr (0, [.ref a10, .int (nI 0)])), (a10, .inl (k0, 24, .inl (fun _ => 0))), (q4, .inr (0, [.ref a11, .int (nI 0)])), (a11, .inl (k0, 24, .inl (fun _ => 0))), (p5, .inl (k0, 256, .inl (fun _ => 0))), (p6, .inl (k0, 256, .inl (fun _ => 0)))] H := hP
  have hD : va_D Az [(h0, .inr (1, [.ref q1, .ref q2, .ref q3, .ref q4, .ref p5, .null, .null, .int 0])), (q1, .inr (0, [.ref a8, .int (nI 0)])), (a8, .inl (k0, 24, .inl (fun _ => 0))), (q2, .inr (0, [.ref a9, .int (nI 0)])), (a9, .inl (k0, 24, .inl (fun _ => 0))), (q3, .inr (0, [.ref a10, .int (nI 0)])), (a10, .inl (k0, 24, .inl (fun _ => 0))), (q4, .inr (0, [.ref a11, .int (nI 0)])), (a11, .inl (k0, 24, .inl (fun _ => 0))), (p5, .inl (k0, 256, .inl (fun _ => 0))), (p6, .inl (k0, 256, .inl (fun _ => 0)))] := hD
  refine va_putF (D := D) (ci := 1) (v := .ref p6) (ty := .array .int) (C := RX1) (T := TX1) (N := 8) hx hb hts (by decide +kernel) tyX1 tyX1_ok nmX1 hown hK hP hD hS 0 rfl rfl 5 (by decide) (hts (.fieldLink RX1 29 "CubeMin" "kinds" "[I") (by decide +kernel)) (fun _ h9 => h9) rfl hin rfl (by decide +kernel) rfl rfl (Nat.le_of_ble_eq_true rfl) dX1_init_63 (fun H locs hP hD hS => ?_)
  have hP : va_P D vwCl [(h0, .inr (1, [.ref q1, .ref q2, .ref q3, .ref q4, .ref p5, .ref p6, .null, .int 0])), (q1, .inr (0, [.ref a8, .int (nI 0)])), (a8, .inl (k0, 24, .inl (fun _ => 0))), (q2, .inr (0, [.ref a9, .int (nI 0)])), (a9, .inl (k0, 24, .inl (fun _ => 0))), (q3, .inr (0, [.ref a10, .int (nI 0)])), (a10, .inl (k0, 24, .inl (fun _ => 0))), (q4, .inr (0, [.ref a11, .int (nI 0)])), (a11, .inl (k0, 24, .inl (fun _ => 0))), (p5, .inl (k0, 256, .inl (fun _ => 0))), (p6, .inl (k0, 256, .inl (fun _ => 0)))] H := hP
  have hD : va_D Az [(h0, .inr (1, [.ref q1, .ref q2, .ref q3, .ref q4, .ref p5, .ref p6, .null, .int 0])), (q1, .inr (0, [.ref a8, .int (nI 0)])), (a8, .inl (k0, 24, .inl (fun _ => 0))), (q2, .inr (0, [.ref a9, .int (nI 0)])), (a9, .inl (k0, 24, .inl (fun _ => 0))), (q3, .inr (0, [.ref a10, .int (nI 0)])), (a10, .inl (k0, 24, .inl (fun _ => 0))), (q4, .inr (0, [.ref a11, .int (nI 0)])), (a11, .inl (k0, 24, .inl (fun _ => 0))), (p5, .inl (k0, 256, .inl (fun _ => 0))), (p6, .inl (k0, 256, .inl (fun _ => 0)))] := hD
  refine lv_aload_n hx hb dX1_init_66 rfl (lv_at hl 0 rfl) ?_
  refine lv_sipush (v := nI 256) hx hb dX1_init_67 (by decide) ?_
  refine va_newa (atype := .int) (ty := .int) (n := nI 256) (N' := 256) (a0 := (256, .inl (fun _ => 0))) hx hb (hts (.arrayClass .int) (by decide +kernel)) rfl hK hP hD hS hA (fun _ => rfl) (by decide) (by decide) (by decide) (Nat.le_of_ble_eq_true rfl) (Nat.le_of_ble_eq_true rfl) dX1_init_70 (fun p7 k_p7 H hK2 hP hD hS => ?_)
  have hK3 : va_K D vwCl [(k_p7, .int)] sz := hK2.sub [1] rfl
  have ek : k0 = k_p7 := (vz_kk hK hK3).symm
  subst ek
  have hP : va_P D vwCl [(h0, .inr (1, [.ref q1, .ref q2, .ref q3, .ref q4, .ref p5, .ref p6, .null, .int 0])), (q1, .inr (0, [.ref a8, .int (nI 0)])), (a8, .inl (k0, 24, .inl (fun _ => 0))), (q2, .inr (0, [.ref a9, .int (nI 0)])), (a9, .inl (k0, 24, .inl (fun _ => 0))), (q3, .inr (0, [.ref a10, .int (nI 0)])), (a10, .inl (k0, 24, .inl (fun _ => 0))), (q4, .inr (0, [.ref a11, .int (nI 0)])), (a11, .inl (k0, 24, .inl (fun _ => 0))), (p5, .inl (k0, 256, .inl (fun _ => 0))), (p6, .inl (k0, 256, .inl (fun _ => 0))), (p7, .inl (k0, 256, .inl (fun _ => 0)))] H := hP
  have hD : va_D Az [(h0, .inr (1, [.ref q1, .ref q2, .ref q3, .ref q4, .ref p5, .ref p6, .null, .int 0])), (q1, .inr (0, [.ref a8, .int (nI 0)])), (a8, .inl (k0, 24, .inl (fun _ => 0))), (q2, .inr (0, [.ref a9, .int (nI 0)])), (a9, .inl (k0, 24, .inl (fun _ => 0))), (q3, .inr (0, [.ref a10, .int (nI 0)])), (a10, .inl (k0, 24, .inl (fun _ => 0))), (q4, .inr (0, [.ref a11, .int (nI 0)])), (a11, .inl (k0, 24, .inl (fun _ => 0))), (p5, .inl (k0, 256, .inl (fun _ => 0))), (p6, .inl (k0, 256, .inl (fun _ => 0))), (p7, .inl (k0, 256, .inl (fun _ => 0)))] := hD
  refine va_putF (D := D) (ci := 1) (v := .ref p7) (ty := .array .int) (C := RX1) (T := TX1) (N := 8) hx hb hts (by decide +kernel) tyX1 tyX1_ok nmX1 hown hK hP hD hS 0 rfl rfl 6 (by decide) (hts (.fieldLink RX1 32 "CubeMin" "holders" "[I") (by decide +kernel)) (fun _ h9 => h9) rfl hin rfl (by decide +kernel) rfl rfl (Nat.le_of_ble_eq_true rfl) dX1_init_72 (fun H locs hP hD hS => ?_)
  have hP : va_P D vwCl [(h0, .inr (1, [.ref q1, .ref q2, .ref q3, .ref q4, .ref p5, .ref p6, .ref p7, .int 0])), (q1, .inr (0, [.ref a8, .int (nI 0)])), (a8, .inl (k0, 24, .inl (fun _ => 0))), (q2, .inr (0, [.ref a9, .int (nI 0)])), (a9, .inl (k0, 24, .inl (fun _ => 0))), (q3, .inr (0, [.ref a10, .int (nI 0)])), (a10, .inl (k0, 24, .inl (fun _ => 0))), (q4, .inr (0, [.ref a11, .int (nI 0)])), (a11, .inl (k0, 24, .inl (fun _ => 0))), (p5, .inl (k0, 256, .inl (fun _ => 0))), (p6, .inl (k0, 256, .inl (fun _ => 0))), (p7, .inl (k0, 256, .inl (fun _ => 0)))] H := hP
  have hD : va_D Az [(h0, .inr (1, [.ref q1, .ref q2, .ref q3, .ref q4, .ref p5, .ref p6, .ref p7, .int 0])), (q1, .inr (0, [.ref a8, .int (nI 0)])), (a8, .inl (k0, 24, .inl (fun _ => 0))), (q2, .inr (0, [.ref a9, .int (nI 0)])), (a9, .inl (k0, 24, .inl (fun _ => 0))), (q3, .inr (0, [.ref a10, .int (nI 0)])), (a10, .inl (k0, 24, .inl (fun _ => 0))), (q4, .inr (0, [.ref a11, .int (nI 0)])), (a11, .inl (k0, 24, .inl (fun _ => 0))), (p5, .inl (k0, 256, .inl (fun _ => 0))), (p6, .inl (k0, 256, .inl (fun _ => 0))), (p7, .inl (k0, 256, .inl (fun _ => 0)))] := hD
  have hP := hP.sub [0, 9, 10, 11, 1, 2, 3, 4, 5, 6, 7, 8] rfl
  have hD := hD.sub (ws' := [((zlist [h0, q1, q2, q3, q4, p5, p6, p7, a8, a9, a10, a11]) 0, .inr (1, [.ref ((zlist [h0, q1, q2, q3, q4, p5, p6, p7, a8, a9, a10, a11]) 1), .ref ((zlist [h0, q1, q2, q3, q4, p5, p6, p7, a8, a9, a10, a11]) 2), .ref ((zlist [h0, q1, q2, q3, q4, p5, p6, p7, a8, a9, a10, a11]) 3), .ref ((zlist [h0, q1, q2, q3, q4, p5, p6, p7, a8, a9, a10, a11]) 4), .ref ((zlist [h0, q1, q2, q3, q4, p5, p6, p7, a8, a9, a10, a11]) 5), .ref ((zlist [h0, q1, q2, q3, q4, p5, p6, p7, a8, a9, a10, a11]) 6), .ref ((zlist [h0, q1, q2, q3, q4, p5, p6, p7, a8, a9, a10, a11]) 7), .int (nI 0)])), ((zlist [h0, q1, q2, q3, q4, p5, p6, p7, a8, a9, a10, a11]) 5, .inl (k0, 256, .inl (fun _ => 0))), ((zlist [h0, q1, q2, q3, q4, p5, p6, p7, a8, a9, a10, a11]) 6, .inl (k0, 256, .inl (fun _ => 0))), ((zlist [h0, q1, q2, q3, q4, p5, p6, p7, a8, a9, a10, a11]) 7, .inl (k0, 256, .inl (fun _ => 0))), ((zlist [h0, q1, q2, q3, q4, p5, p6, p7, a8, a9, a10, a11]) 1, .inr (0, [.ref ((zlist [h0, q1, q2, q3, q4, p5, p6, p7, a8, a9, a10, a11]) 8), .int (nI 0)])), ((zlist [h0, q1, q2, q3, q4, p5, p6, p7, a8, a9, a10, a11]) 8, .inl (k0, 24, .inl (fun _ => 0))), ((zlist [h0, q1, q2, q3, q4, p5, p6, p7, a8, a9, a10, a11]) 2, .inr (0, [.ref ((zlist [h0, q1, q2, q3, q4, p5, p6, p7, a8, a9, a10, a11]) 9), .int (nI 0)])), ((zlist [h0, q1, q2, q3, q4, p5, p6, p7, a8, a9, a10, a11]) 9, .inl (k0, 24, .inl (fun _ => 0))), ((zlist [h0, q1, q2, q3, q4, p5, p6, p7, a8, a9, a10, a11]) 3, .inr (0, [.ref ((zlist [h0, q1, q2, q3, q4, p5, p6, p7, a8, a9, a10, a11]) 10), .int (nI 0)])), ((zlist [h0, q1, q2, q3, q4, p5, p6, p7, a8, a9, a10, a11]) 10, .inl (k0, 24, .inl (fun _ => 0))), ((zlist [h0, q1, q2, q3, q4, p5, p6, p7, a8, a9, a10, a11]) 4, .inr (0, [.ref ((zlist [h0, q1, q2, q3, q4, p5, p6, p7, a8, a9, a10, a11]) 11), .int (nI 0)])), ((zlist [h0, q1, q2, q3, q4, p5, p6, p7, a8, a9, a10, a11]) 11, .inl (k0, 24, .inl (fun _ => 0)))]) [0, 9, 10, 11, 1, 2, 3, 4, 5, 6, 7, 8] (by decide) rfl
  have hP : va_P D vwCl [((zlist [h0, q1, q2, q3, q4, p5, p6, p7, a8, a9, a10, a11]) 0, .inr (1, [.ref ((zlist [h0, q1, q2, q3, q4, p5, p6, p7, a8, a9, a10, a11]) 1), .ref ((zlist [h0, q1, q2, q3, q4, p5, p6, p7, a8, a9, a10, a11]) 2), .ref ((zlist [h0, q1, q2, q3, q4, p5, p6, p7, a8, a9, a10, a11]) 3), .ref ((zlist [h0, q1, q2, q3, q4, p5, p6, p7, a8, a9, a10, a11]) 4), .ref ((zlist [h0, q1, q2, q3, q4, p5, p6, p7, a8, a9, a10, a11]) 5), .ref ((zlist [h0, q1, q2, q3, q4, p5, p6, p7, a8, a9, a10, a11]) 6), .ref ((zlist [h0, q1, q2, q3, q4, p5, p6, p7, a8, a9, a10, a11]) 7), .int (nI 0)])), ((zlist [h0, q1, q2, q3, q4, p5, p6, p7, a8, a9, a10, a11]) 5, .inl (k0, 256, .inl (fun _ => 0))), ((zlist [h0, q1, q2, q3, q4, p5, p6, p7, a8, a9, a10, a11]) 6, .inl (k0, 256, .inl (fun _ => 0))), ((zlist [h0, q1, q2, q3, q4, p5, p6, p7, a8, a9, a10, a11]) 7, .inl (k0, 256, .inl (fun _ => 0))), ((zlist [h0, q1, q2, q3, q4, p5, p6, p7, a8, a9, a10, a11]) 1, .inr (0, [.ref ((zlist [h0, q1, q2, q3, q4, p5, p6, p7, a8, a9, a10, a11]) 8), .int (nI 0)])), ((zlist [h0, q1, q2, q3, q4, p5, p6, p7, a8, a9, a10, a11]) 8, .inl (k0, 24, .inl (fun _ => 0))), ((zlist [h0, q1, q2, q3, q4, p5, p6, p7, a8, a9, a10, a11]) 2, .inr (0, [.ref ((zlist [h0, q1, q2, q3, q4, p5, p6, p7, a8, a9, a10, a11]) 9), .int (nI 0)])), ((zlist [h0, q1, q2, q3, q4, p5, p6, p7, a8, a9, a10, a11]) 9, .inl (k0, 24, .inl (fun _ => 0))), ((zlist [h0, q1, q2, q3, q4, p5, p6, p7, a8, a9, a10, a11]) 3, .inr (0, [.ref ((zlist [h0, q1, q2, q3, q4, p5, p6, p7, a8, a9, a10, a11]) 10), .int (nI 0)])), ((zlist [h0, q1, q2, q3, q4, p5, p6, p7, a8, a9, a10, a11]) 10, .inl (k0, 24, .inl (fun _ => 0))), ((zlist [h0, q1, q2, q3, q4, p5, p6, p7, a8, a9, a10, a11]) 4, .inr (0, [.ref ((zlist [h0, q1, q2, q3, q4, p5, p6, p7, a8, a9, a10, a11]) 11), .int (nI 0)])), ((zlist [h0, q1, q2, q3, q4, p5, p6, p7, a8, a9, a10, a11]) 11, .inl (k0, 24, .inl (fun _ => 0)))] H := hP
  refine lv_aload_n hx hb dX1_init_75 rfl (lv_at hl 0 rfl) ?_
  refine lv_iconst (v := nI 4) hx hb dX1_init_76 (by decide) ?_
  refine vz_callM (n := 1) (As := [.int (nI 4)]) (rest := []) (q0 := 0) ⟨hx, hb, hml, hown, hts⟩ (c_X1_begin l D k0 (zlist [h0, q1, q2, q3, q4, p5, p6, p7, a8, a9, a10, a11]) 0 (fun _ => 0) (fun _ => 0) (fun _ => 0) 0 0 0 0 (fun _ => 0) (fun _ => 0) (fun _ => 0) (fun _ => 0) (by decide) (by decide) (by decide) 4 (by decide)) gX1_init_X1_begin rfl hd_X1_begin ⟨Nat.le_of_ble_eq_true rfl, Nat.le_of_ble_eq_true rfl⟩ hK hP hD hS [0, 1, 2, 3, 4, 5, 6, 7, 8, 9, 10, 11] (by decide) rfl rfl rfl rfl rfl rfl rfl hl.1 rfl (Nat.le_of_ble_eq_true rfl) ⟨Nat.le_of_ble_eq_true rfl, Nat.le_of_ble_eq_true rfl⟩ dX1_init_77 (fun H locs hP hD hS => ?_)
  exact W.vret hx hb hr (fun t ht hW => ⟨⟨((zlist [h0, q1, q2, q3, q4, p5, p6, p7, a8, a9, a10, a11]), k0), rfl, trivial, rfl, by rw [ht]; exact hP, va_K.moved hW.alike hK, hD⟩, hS.F ht⟩) hS.2.2 dX1_init_80
