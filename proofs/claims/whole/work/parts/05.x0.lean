theorem hd_X0_length : yX0_length.cls = RX0 ∧ yX0_length.cls ≠ "java/lang/invoke/MethodHandle" ∧ yX0_length.cls ≠ "java/lang/invoke/VarHandle" ∧ (parseMethodDescriptor yX0_length.desc).map (fun d => d.parameters.length) = some 0 := by decide +kernel
theorem hd_X0_clear : yX0_clear.cls = RX0 ∧ yX0_clear.cls ≠ "java/lang/invoke/MethodHandle" ∧ yX0_clear.cls ≠ "java/lang/invoke/VarHandle" ∧ (parseMethodDescriptor yX0_clear.desc).map (fun d => d.parameters.length) = some 0 := by decide +kernel
theorem hd_X0_at : yX0_at.cls = RX0 ∧ yX0_at.cls ≠ "java/lang/invoke/MethodHandle" ∧ yX0_at.cls ≠ "java/lang/invoke/VarHandle" ∧ (parseMethodDescriptor yX0_at.desc).map (fun d => d.parameters.length) = some 1 := by decide +kernel
theorem hd_X0_append : yX0_append.cls = RX0 ∧ yX0_append.cls ≠ "java/lang/invoke/MethodHandle" ∧ yX0_append.cls ≠ "java/lang/invoke/VarHandle" ∧ (parseMethodDescriptor yX0_append.desc).map (fun d => d.parameters.length) = some 1 := by decide +kernel
theorem hd_X0_put : yX0_put.cls = RX0 ∧ yX0_put.cls ≠ "java/lang/invoke/MethodHandle" ∧ yX0_put.cls ≠ "java/lang/invoke/VarHandle" ∧ (parseMethodDescriptor yX0_put.desc).map (fun d => d.parameters.length) = some 2 := by decide +kernel
theorem hd_X0_takeOut : yX0_takeOut.cls = RX0 ∧ yX0_takeOut.cls ≠ "java/lang/invoke/MethodHandle" ∧ yX0_takeOut.cls ≠ "java/lang/invoke/VarHandle" ∧ (parseMethodDescriptor yX0_takeOut.desc).map (fun d => d.parameters.length) = some 1 := by decide +kernel
theorem hd_X0_copyFrom : yX0_copyFrom.cls = RX0 ∧ yX0_copyFrom.cls ≠ "java/lang/invoke/MethodHandle" ∧ yX0_copyFrom.cls ≠ "java/lang/invoke/VarHandle" ∧ (parseMethodDescriptor yX0_copyFrom.desc).map (fun d => d.parameters.length) = some 1 := by decide +kernel
theorem hd_X1_start : yX1_start.cls = RX1 ∧ yX1_start.cls ≠ "java/lang/invoke/MethodHandle" ∧ yX1_start.cls ≠ "java/lang/invoke/VarHandle" ∧ (parseMethodDescriptor yX1_start.desc).map (fun d => d.parameters.length) = some 1 := by decide +kernel
theorem hd_X1_inputs : yX1_inputs.cls = RX1 ∧ yX1_inputs.cls ≠ "java/lang/invoke/MethodHandle" ∧ yX1_inputs.cls ≠ "java/lang/invoke/VarHandle" ∧ (parseMethodDescriptor yX1_inputs.desc).map (fun d => d.parameters.length) = some 0 := by decide +kernel
theorem hd_X1_on : yX1_on.cls = RX1 ∧ yX1_on.cls ≠ "java/lang/invoke/MethodHandle" ∧ yX1_on.cls ≠ "java/lang/invoke/VarHandle" ∧ (parseMethodDescriptor yX1_on.desc).map (fun d => d.parameters.length) = some 1 := by decide +kernel
theorem hd_X1_dc : yX1_dc.cls = RX1 ∧ yX1_dc.cls ≠ "java/lang/invoke/MethodHandle" ∧ yX1_dc.cls ≠ "java/lang/invoke/VarHandle" ∧ (parseMethodDescriptor yX1_dc.desc).map (fun d => d.parameters.length) = some 1 := by decide +kernel
theorem hd_X1_size : yX1_size.cls = RX1 ∧ yX1_size.cls ≠ "java/lang/invoke/MethodHandle" ∧ yX1_size.cls ≠ "java/lang/invoke/VarHandle" ∧ (parseMethodDescriptor yX1_size.desc).map (fun d => d.parameters.length) = some 1 := by decide +kernel
theorem hd_X1_cube : yX1_cube.cls = RX1 ∧ yX1_cube.cls ≠ "java/lang/invoke/MethodHandle" ∧ yX1_cube.cls ≠ "java/lang/invoke/VarHandle" ∧ (parseMethodDescriptor yX1_cube.desc).map (fun d => d.parameters.length) = some 2 := by decide +kernel
theorem hd_X1_literals : yX1_literals.cls = RX1 ∧ yX1_literals.cls ≠ "java/lang/invoke/MethodHandle" ∧ yX1_literals.cls ≠ "java/lang/invoke/VarHandle" ∧ (parseMethodDescriptor yX1_literals.desc).map (fun d => d.parameters.length) = some 1 := by decide +kernel
theorem hd_X1_kind : yX1_kind.cls = RX1 ∧ yX1_kind.cls ≠ "java/lang/invoke/MethodHandle" ∧ yX1_kind.cls ≠ "java/lang/invoke/VarHandle" ∧ (parseMethodDescriptor yX1_kind.desc).map (fun d => d.parameters.length) = some 1 := by decide +kernel
theorem hd_X1_holds : yX1_holds.cls = RX1 ∧ yX1_holds.cls ≠ "java/lang/invoke/MethodHandle" ∧ yX1_holds.cls ≠ "java/lang/invoke/VarHandle" ∧ (parseMethodDescriptor yX1_holds.desc).map (fun d => d.parameters.length) = some 2 := by decide +kernel
theorem hd_X1_missing : yX1_missing.cls = RX1 ∧ yX1_missing.cls ≠ "java/lang/invoke/MethodHandle" ∧ yX1_missing.cls ≠ "java/lang/invoke/VarHandle" ∧ (parseMethodDescriptor yX1_missing.desc).map (fun d => d.parameters.length) = some 1 := by decide +kernel
theorem hd_X1_tautology : yX1_tautology.cls = RX1 ∧ yX1_tautology.cls ≠ "java/lang/invoke/MethodHandle" ∧ yX1_tautology.cls ≠ "java/lang/invoke/VarHandle" ∧ (parseMethodDescriptor yX1_tautology.desc).map (fun d => d.parameters.length) = some 1 := by decide +kernel
theorem hd_X1_same : yX1_same.cls = RX1 ∧ yX1_same.cls ≠ "java/lang/invoke/MethodHandle" ∧ yX1_same.cls ≠ "java/lang/invoke/VarHandle" ∧ (parseMethodDescriptor yX1_same.desc).map (fun d => d.parameters.length) = some 2 := by decide +kernel
theorem hd_X1_prime : yX1_prime.cls = RX1 ∧ yX1_prime.cls ≠ "java/lang/invoke/MethodHandle" ∧ yX1_prime.cls ≠ "java/lang/invoke/VarHandle" ∧ (parseMethodDescriptor yX1_prime.desc).map (fun d => d.parameters.length) = some 2 := by decide +kernel
theorem hd_X1_widen : yX1_widen.cls = RX1 ∧ yX1_widen.cls ≠ "java/lang/invoke/MethodHandle" ∧ yX1_widen.cls ≠ "java/lang/invoke/VarHandle" ∧ (parseMethodDescriptor yX1_widen.desc).map (fun d => d.parameters.length) = some 1 := by decide +kernel
theorem hd_X1_minimize : yX1_minimize.cls = RX1 ∧ yX1_minimize.cls ≠ "java/lang/invoke/MethodHandle" ∧ yX1_minimize.cls ≠ "java/lang/invoke/VarHandle" ∧ (parseMethodDescriptor yX1_minimize.desc).map (fun d => d.parameters.length) = some 0 := by decide +kernel
theorem hd_X1_begin : yX1_begin.cls = RX1 ∧ yX1_begin.cls ≠ "java/lang/invoke/MethodHandle" ∧ yX1_begin.cls ≠ "java/lang/invoke/VarHandle" ∧ (parseMethodDescriptor yX1_begin.desc).map (fun d => d.parameters.length) = some 1 := by decide +kernel
theorem hd_X1_fillPointCubes : yX1_fillPointCubes.cls = RX1 ∧ yX1_fillPointCubes.cls ≠ "java/lang/invoke/MethodHandle" ∧ yX1_fillPointCubes.cls ≠ "java/lang/invoke/VarHandle" ∧ (parseMethodDescriptor yX1_fillPointCubes.desc).map (fun d => d.parameters.length) = some 0 := by decide +kernel
theorem hd_X1_pointCount : yX1_pointCount.cls = RX1 ∧ yX1_pointCount.cls ≠ "java/lang/invoke/MethodHandle" ∧ yX1_pointCount.cls ≠ "java/lang/invoke/VarHandle" ∧ (parseMethodDescriptor yX1_pointCount.desc).map (fun d => d.parameters.length) = some 0 := by decide +kernel
theorem hd_X1_isPoint : yX1_isPoint.cls = RX1 ∧ yX1_isPoint.cls ≠ "java/lang/invoke/MethodHandle" ∧ yX1_isPoint.cls ≠ "java/lang/invoke/VarHandle" ∧ (parseMethodDescriptor yX1_isPoint.desc).map (fun d => d.parameters.length) = some 1 := by decide +kernel
theorem hd_X1_isCube : yX1_isCube.cls = RX1 ∧ yX1_isCube.cls ≠ "java/lang/invoke/MethodHandle" ∧ yX1_isCube.cls ≠ "java/lang/invoke/VarHandle" ∧ (parseMethodDescriptor yX1_isCube.desc).map (fun d => d.parameters.length) = some 1 := by decide +kernel
theorem hd_X1_listAt : yX1_listAt.cls = RX1 ∧ yX1_listAt.cls ≠ "java/lang/invoke/MethodHandle" ∧ yX1_listAt.cls ≠ "java/lang/invoke/VarHandle" ∧ (parseMethodDescriptor yX1_listAt.desc).map (fun d => d.parameters.length) = some 1 := by decide +kernel
theorem hd_X1_freed : yX1_freed.cls ≠ "java/lang/invoke/MethodHandle" ∧ yX1_freed.cls ≠ "java/lang/invoke/VarHandle" ∧ (parseMethodDescriptor yX1_freed.desc).map (fun d => d.parameters.length) = some 2 := by decide +kernel
theorem hd_X1_isVoid : yX1_isVoid.cls = RX1 ∧ yX1_isVoid.cls ≠ "java/lang/invoke/MethodHandle" ∧ yX1_isVoid.cls ≠ "java/lang/invoke/VarHandle" ∧ (parseMethodDescriptor yX1_isVoid.desc).map (fun d => d.parameters.length) = some 1 := by decide +kernel
theorem hd_X1_isInCube : yX1_isInCube.cls = RX1 ∧ yX1_isInCube.cls ≠ "java/lang/invoke/MethodHandle" ∧ yX1_isInCube.cls ≠ "java/lang/invoke/VarHandle" ∧ (parseMethodDescriptor yX1_isInCube.desc).map (fun d => d.parameters.length) = some 2 := by decide +kernel
theorem hd_X1_isInList : yX1_isInList.cls = RX1 ∧ yX1_isInList.cls ≠ "java/lang/invoke/MethodHandle" ∧ yX1_isInList.cls ≠ "java/lang/invoke/VarHandle" ∧ (parseMethodDescriptor yX1_isInList.desc).map (fun d => d.parameters.length) = some 2 := by decide +kernel
theorem hd_X1_markWanted : yX1_markWanted.cls = RX1 ∧ yX1_markWanted.cls ≠ "java/lang/invoke/MethodHandle" ∧ yX1_markWanted.cls ≠ "java/lang/invoke/VarHandle" ∧ (parseMethodDescriptor yX1_markWanted.desc).map (fun d => d.parameters.length) = some 1 := by decide +kernel
theorem hd_X1_markIndifferent : yX1_markIndifferent.cls = RX1 ∧ yX1_markIndifferent.cls ≠ "java/lang/invoke/MethodHandle" ∧ yX1_markIndifferent.cls ≠ "java/lang/invoke/VarHandle" ∧ (parseMethodDescriptor yX1_markIndifferent.desc).map (fun d => d.parameters.length) = some 1 := by decide +kernel
theorem hd_X1_countLiterals : yX1_countLiterals.cls = RX1 ∧ yX1_countLiterals.cls ≠ "java/lang/invoke/MethodHandle" ∧ yX1_countLiterals.cls ≠ "java/lang/invoke/VarHandle" ∧ (parseMethodDescriptor yX1_countLiterals.desc).map (fun d => d.parameters.length) = some 1 := by decide +kernel
theorem hd_X1_countMissing : yX1_countMissing.cls = RX1 ∧ yX1_countMissing.cls ≠ "java/lang/invoke/MethodHandle" ∧ yX1_countMissing.cls ≠ "java/lang/invoke/VarHandle" ∧ (parseMethodDescriptor yX1_countMissing.desc).map (fun d => d.parameters.length) = some 1 := by decide +kernel
theorem hd_X1_agree : yX1_agree.cls = RX1 ∧ yX1_agree.cls ≠ "java/lang/invoke/MethodHandle" ∧ yX1_agree.cls ≠ "java/lang/invoke/VarHandle" ∧ (parseMethodDescriptor yX1_agree.desc).map (fun d => d.parameters.length) = some 2 := by decide +kernel
theorem hd_X1_touches : yX1_touches.cls = RX1 ∧ yX1_touches.cls ≠ "java/lang/invoke/MethodHandle" ∧ yX1_touches.cls ≠ "java/lang/invoke/VarHandle" ∧ (parseMethodDescriptor yX1_touches.desc).map (fun d => d.parameters.length) = some 1 := by decide +kernel
theorem hd_X1_cannotGrow : yX1_cannotGrow.cls = RX1 ∧ yX1_cannotGrow.cls ≠ "java/lang/invoke/MethodHandle" ∧ yX1_cannotGrow.cls ≠ "java/lang/invoke/VarHandle" ∧ (parseMethodDescriptor yX1_cannotGrow.desc).map (fun d => d.parameters.length) = some 1 := by decide +kernel
theorem hd_X1_widened : yX1_widened.cls = RX1 ∧ yX1_widened.cls ≠ "java/lang/invoke/MethodHandle" ∧ yX1_widened.cls ≠ "java/lang/invoke/VarHandle" ∧ (parseMethodDescriptor yX1_widened.desc).map (fun d => d.parameters.length) = some 2 := by decide +kernel
theorem hd_X1_fillCover : yX1_fillCover.cls = RX1 ∧ yX1_fillCover.cls ≠ "java/lang/invoke/MethodHandle" ∧ yX1_fillCover.cls ≠ "java/lang/invoke/VarHandle" ∧ (parseMethodDescriptor yX1_fillCover.desc).map (fun d => d.parameters.length) = some 0 := by decide +kernel
theorem hd_X1_makePass : yX1_makePass.cls = RX1 ∧ yX1_makePass.cls ≠ "java/lang/invoke/MethodHandle" ∧ yX1_makePass.cls ≠ "java/lang/invoke/VarHandle" ∧ (parseMethodDescriptor yX1_makePass.desc).map (fun d => d.parameters.length) = some 2 := by decide +kernel
theorem hd_X1_dropNeedless : yX1_dropNeedless.cls = RX1 ∧ yX1_dropNeedless.cls ≠ "java/lang/invoke/MethodHandle" ∧ yX1_dropNeedless.cls ≠ "java/lang/invoke/VarHandle" ∧ (parseMethodDescriptor yX1_dropNeedless.desc).map (fun d => d.parameters.length) = some 1 := by decide +kernel
theorem hd_X1_narrow : yX1_narrow.cls = RX1 ∧ yX1_narrow.cls ≠ "java/lang/invoke/MethodHandle" ∧ yX1_narrow.cls ≠ "java/lang/invoke/VarHandle" ∧ (parseMethodDescriptor yX1_narrow.desc).map (fun d => d.parameters.length) = some 1 := by decide +kernel
theorem hd_X1_countHolders : yX1_countHolders.cls = RX1 ∧ yX1_countHolders.cls ≠ "java/lang/invoke/MethodHandle" ∧ yX1_countHolders.cls ≠ "java/lang/invoke/VarHandle" ∧ (parseMethodDescriptor yX1_countHolders.desc).map (fun d => d.parameters.length) = some 1 := by decide +kernel
theorem hd_X1_addToHolders : yX1_addToHolders.cls = RX1 ∧ yX1_addToHolders.cls ≠ "java/lang/invoke/MethodHandle" ∧ yX1_addToHolders.cls ≠ "java/lang/invoke/VarHandle" ∧ (parseMethodDescriptor yX1_addToHolders.desc).map (fun d => d.parameters.length) = some 2 := by decide +kernel
theorem hd_X1_ownPart : yX1_ownPart.cls = RX1 ∧ yX1_ownPart.cls ≠ "java/lang/invoke/MethodHandle" ∧ yX1_ownPart.cls ≠ "java/lang/invoke/VarHandle" ∧ (parseMethodDescriptor yX1_ownPart.desc).map (fun d => d.parameters.length) = some 1 := by decide +kernel
theorem hd_X1_isSmaller : yX1_isSmaller.cls = RX1 ∧ yX1_isSmaller.cls ≠ "java/lang/invoke/MethodHandle" ∧ yX1_isSmaller.cls ≠ "java/lang/invoke/VarHandle" ∧ (parseMethodDescriptor yX1_isSmaller.desc).map (fun d => d.parameters.length) = some 2 := by decide +kernel
theorem hd_X2_start : yX2_start.cls = RX2 ∧ yX2_start.cls ≠ "java/lang/invoke/MethodHandle" ∧ yX2_start.cls ≠ "java/lang/invoke/VarHandle" ∧ (parseMethodDescriptor yX2_start.desc).map (fun d => d.parameters.length) = some 1 := by decide +kernel
theorem hd_X2_inputs : yX2_inputs.cls = RX2 ∧ yX2_inputs.cls ≠ "java/lang/invoke/MethodHandle" ∧ yX2_inputs.cls ≠ "java/lang/invoke/VarHandle" ∧ (parseMethodDescriptor yX2_inputs.desc).map (fun d => d.parameters.length) = some 0 := by decide +kernel
theorem hd_X2_isCube : yX2_isCube.cls = RX2 ∧ yX2_isCube.cls ≠ "java/lang/invoke/MethodHandle" ∧ yX2_isCube.cls ≠ "java/lang/invoke/VarHandle" ∧ (parseMethodDescriptor yX2_isCube.desc).map (fun d => d.parameters.length) = some 1 := by decide +kernel
theorem hd_X2_isVoid : yX2_isVoid.cls = RX2 ∧ yX2_isVoid.cls ≠ "java/lang/invoke/MethodHandle" ∧ yX2_isVoid.cls ≠ "java/lang/invoke/VarHandle" ∧ (parseMethodDescriptor yX2_isVoid.desc).map (fun d => d.parameters.length) = some 1 := by decide +kernel
theorem hd_X2_in : yX2_in.cls = RX2 ∧ yX2_in.cls ≠ "java/lang/invoke/MethodHandle" ∧ yX2_in.cls ≠ "java/lang/invoke/VarHandle" ∧ (parseMethodDescriptor yX2_in.desc).map (fun d => d.parameters.length) = some 2 := by decide +kernel
theorem hd_X2_inList : yX2_inList.cls = RX2 ∧ yX2_inList.cls ≠ "java/lang/invoke/MethodHandle" ∧ yX2_inList.cls ≠ "java/lang/invoke/VarHandle" ∧ (parseMethodDescriptor yX2_inList.desc).map (fun d => d.parameters.length) = some 2 := by decide +kernel
theorem hd_X2_sort : yX2_sort.cls = RX2 ∧ yX2_sort.cls ≠ "java/lang/invoke/MethodHandle" ∧ yX2_sort.cls ≠ "java/lang/invoke/VarHandle" ∧ (parseMethodDescriptor yX2_sort.desc).map (fun d => d.parameters.length) = some 0 := by decide +kernel
theorem hd_X2_touches : yX2_touches.cls = RX2 ∧ yX2_touches.cls ≠ "java/lang/invoke/MethodHandle" ∧ yX2_touches.cls ≠ "java/lang/invoke/VarHandle" ∧ (parseMethodDescriptor yX2_touches.desc).map (fun d => d.parameters.length) = some 1 := by decide +kernel
theorem hd_X2_add : yX2_add.cls = RX2 ∧ yX2_add.cls ≠ "java/lang/invoke/MethodHandle" ∧ yX2_add.cls ≠ "java/lang/invoke/VarHandle" ∧ (parseMethodDescriptor yX2_add.desc).map (fun d => d.parameters.length) = some 2 := by decide +kernel
theorem hd_X2_on : yX2_on.cls = RX2 ∧ yX2_on.cls ≠ "java/lang/invoke/MethodHandle" ∧ yX2_on.cls ≠ "java/lang/invoke/VarHandle" ∧ (parseMethodDescriptor yX2_on.desc).map (fun d => d.parameters.length) = some 1 := by decide +kernel
theorem hd_X2_dc : yX2_dc.cls = RX2 ∧ yX2_dc.cls ≠ "java/lang/invoke/MethodHandle" ∧ yX2_dc.cls ≠ "java/lang/invoke/VarHandle" ∧ (parseMethodDescriptor yX2_dc.desc).map (fun d => d.parameters.length) = some 1 := by decide +kernel
theorem hd_X2_isList : yX2_isList.cls ≠ "java/lang/invoke/MethodHandle" ∧ yX2_isList.cls ≠ "java/lang/invoke/VarHandle" ∧ (parseMethodDescriptor yX2_isList.desc).map (fun d => d.parameters.length) = some 1 := by decide +kernel
theorem hd_X2_size : yX2_size.cls = RX2 ∧ yX2_size.cls ≠ "java/lang/invoke/MethodHandle" ∧ yX2_size.cls ≠ "java/lang/invoke/VarHandle" ∧ (parseMethodDescriptor yX2_size.desc).map (fun d => d.parameters.length) = some 1 := by decide +kernel
theorem hd_X2_cube : yX2_cube.cls = RX2 ∧ yX2_cube.cls ≠ "java/lang/invoke/MethodHandle" ∧ yX2_cube.cls ≠ "java/lang/invoke/VarHandle" ∧ (parseMethodDescriptor yX2_cube.desc).map (fun d => d.parameters.length) = some 2 := by decide +kernel
theorem hd_X2_literalsOf : yX2_literalsOf.cls = RX2 ∧ yX2_literalsOf.cls ≠ "java/lang/invoke/MethodHandle" ∧ yX2_literalsOf.cls ≠ "java/lang/invoke/VarHandle" ∧ (parseMethodDescriptor yX2_literalsOf.desc).map (fun d => d.parameters.length) = some 1 := by decide +kernel
theorem hd_X2_literals : yX2_literals.cls = RX2 ∧ yX2_literals.cls ≠ "java/lang/invoke/MethodHandle" ∧ yX2_literals.cls ≠ "java/lang/invoke/VarHandle" ∧ (parseMethodDescriptor yX2_literals.desc).map (fun d => d.parameters.length) = some 1 := by decide +kernel
theorem hd_X2_isPoint : yX2_isPoint.cls = RX2 ∧ yX2_isPoint.cls ≠ "java/lang/invoke/MethodHandle" ∧ yX2_isPoint.cls ≠ "java/lang/invoke/VarHandle" ∧ (parseMethodDescriptor yX2_isPoint.desc).map (fun d => d.parameters.length) = some 1 := by decide +kernel
theorem hd_X2_kind : yX2_kind.cls = RX2 ∧ yX2_kind.cls ≠ "java/lang/invoke/MethodHandle" ∧ yX2_kind.cls ≠ "java/lang/invoke/VarHandle" ∧ (parseMethodDescriptor yX2_kind.desc).map (fun d => d.parameters.length) = some 1 := by decide +kernel
theorem hd_X2_holds : yX2_holds.cls = RX2 ∧ yX2_holds.cls ≠ "java/lang/invoke/MethodHandle" ∧ yX2_holds.cls ≠ "java/lang/invoke/VarHandle" ∧ (parseMethodDescriptor yX2_holds.desc).map (fun d => d.parameters.length) = some 2 := by decide +kernel
theorem hd_X2_missing : yX2_missing.cls = RX2 ∧ yX2_missing.cls ≠ "java/lang/invoke/MethodHandle" ∧ yX2_missing.cls ≠ "java/lang/invoke/VarHandle" ∧ (parseMethodDescriptor yX2_missing.desc).map (fun d => d.parameters.length) = some 1 := by decide +kernel
theorem hd_X2_tautology : yX2_tautology.cls = RX2 ∧ yX2_tautology.cls ≠ "java/lang/invoke/MethodHandle" ∧ yX2_tautology.cls ≠ "java/lang/invoke/VarHandle" ∧ (parseMethodDescriptor yX2_tautology.desc).map (fun d => d.parameters.length) = some 1 := by decide +kernel
theorem hd_X2_same : yX2_same.cls = RX2 ∧ yX2_same.cls ≠ "java/lang/invoke/MethodHandle" ∧ yX2_same.cls ≠ "java/lang/invoke/VarHandle" ∧ (parseMethodDescriptor yX2_same.desc).map (fun d => d.parameters.length) = some 2 := by decide +kernel
theorem hd_X2_prime : yX2_prime.cls = RX2 ∧ yX2_prime.cls ≠ "java/lang/invoke/MethodHandle" ∧ yX2_prime.cls ≠ "java/lang/invoke/VarHandle" ∧ (parseMethodDescriptor yX2_prime.desc).map (fun d => d.parameters.length) = some 2 := by decide +kernel
theorem hd_X2_widened : yX2_widened.cls = RX2 ∧ yX2_widened.cls ≠ "java/lang/invoke/MethodHandle" ∧ yX2_widened.cls ≠ "java/lang/invoke/VarHandle" ∧ (parseMethodDescriptor yX2_widened.desc).map (fun d => d.parameters.length) = some 2 := by decide +kernel
theorem hd_X2_widen : yX2_widen.cls = RX2 ∧ yX2_widen.cls ≠ "java/lang/invoke/MethodHandle" ∧ yX2_widen.cls ≠ "java/lang/invoke/VarHandle" ∧ (parseMethodDescriptor yX2_widen.desc).map (fun d => d.parameters.length) = some 1 := by decide +kernel
theorem hd_X2_inAnother : yX2_inAnother.cls = RX2 ∧ yX2_inAnother.cls ≠ "java/lang/invoke/MethodHandle" ∧ yX2_inAnother.cls ≠ "java/lang/invoke/VarHandle" ∧ (parseMethodDescriptor yX2_inAnother.desc).map (fun d => d.parameters.length) = some 3 := by decide +kernel
theorem hd_X2_isNeeded : yX2_isNeeded.cls = RX2 ∧ yX2_isNeeded.cls ≠ "java/lang/invoke/MethodHandle" ∧ yX2_isNeeded.cls ≠ "java/lang/invoke/VarHandle" ∧ (parseMethodDescriptor yX2_isNeeded.desc).map (fun d => d.parameters.length) = some 2 := by decide +kernel
theorem hd_X2_pass : yX2_pass.cls = RX2 ∧ yX2_pass.cls ≠ "java/lang/invoke/MethodHandle" ∧ yX2_pass.cls ≠ "java/lang/invoke/VarHandle" ∧ (parseMethodDescriptor yX2_pass.desc).map (fun d => d.parameters.length) = some 2 := by decide +kernel
theorem hd_X2_narrow : yX2_narrow.cls = RX2 ∧ yX2_narrow.cls ≠ "java/lang/invoke/MethodHandle" ∧ yX2_narrow.cls ≠ "java/lang/invoke/VarHandle" ∧ (parseMethodDescriptor yX2_narrow.desc).map (fun d => d.parameters.length) = some 1 := by decide +kernel
theorem hd_X2_copy : yX2_copy.cls = RX2 ∧ yX2_copy.cls ≠ "java/lang/invoke/MethodHandle" ∧ yX2_copy.cls ≠ "java/lang/invoke/VarHandle" ∧ (parseMethodDescriptor yX2_copy.desc).map (fun d => d.parameters.length) = some 2 := by decide +kernel
theorem hd_X2_minimize : yX2_minimize.cls = RX2 ∧ yX2_minimize.cls ≠ "java/lang/invoke/MethodHandle" ∧ yX2_minimize.cls ≠ "java/lang/invoke/VarHandle" ∧ (parseMethodDescriptor yX2_minimize.desc).map (fun d => d.parameters.length) = some 0 := by decide +kernel
set_option maxHeartbeats 4000000 in
set_option maxRecDepth 100000 in
theorem c_X0_length (l : Launch) (D : va_G) (kA : ClassId) (h a c : Nat) (f : Nat → Int32) (hc : c ≤ 24) : vz_M l yX0_length wsX0_length 0 0 [.ref h] D kA [(h, .inr (0, [.ref a, .int (nI c)])), (a, .inl (kA, 24, .inl f))] (some (.int (nI c))) := by
  refine vz_start (cc := cX0_length) (maxL := 1) (ret := (some .int)) (own := RX0) (by decide) rfl rfl (Nat.le_of_ble_eq_true rfl) ?_
  intro pz ez sz mz below meth cz args Q ls hargs hx hb hml hown hts hr hlocks hP hK hQ hl
  have hcf : CallFix pz mz cz cX0_length 1 sz args wsX0_length RX0 := ⟨hx, hb, hml, hown, hts⟩
  have hi0 : ∀ w ∈ u_ws RX0 TX0 2, w ∈ wsX0_length := by decide +kernel
  have hf15 : (Cond.fieldLink RX0 15 "CubeMin$CubeList" "count" "I").before args sz = true := hts _ (by decide +kernel)
  have hl : lv_has ls 1 [(0, .ref h)] := hl
  refine lv_aload_n hx hb dX0_length_0 rfl (lv_at hl 0 rfl) ?_
  refine va_get (D := D) (ci := 0) (v := .int (nI c)) (C := RX0) (T := TX0) (N := 2) hx hb hts hi0 hown hK hP 0 rfl rfl 1 (by decide) hf15 (fun _ h9 => h9) rfl dX0_length_1 ?_
  exact vz_iret hx hb hr hlocks hQ (vp_nar_int _) dX0_length_4 rfl
set_option maxHeartbeats 4000000 in
set_option maxRecDepth 100000 in
theorem c_X0_clear (l : Launch) (D : va_G) (kA : ClassId) (h a c : Nat) (f : Nat → Int32) (hc : c ≤ 24) : vz_MM l yX0_clear wsX0_clear 0 0 [.ref h] D kA [(h, .inr (0, [.ref a, .int (nI c)])), (a, .inl (kA, 24, .inl f))] none [(h, .inr (0, [.ref a, .int (nI 0)])), (a, .inl (kA, 24, .inl f))] := by
  refine vz_startM (cc := cX0_clear) (maxL := 1) (ret := none) (own := RX0) (by decide) rfl rfl (Nat.le_of_ble_eq_true rfl) ?_
  intro pz ez sz mz below meth cz args Q ls H locs Az hargs hx hb hml hown hts hr hlocks hP hK hD hS hAe hQ hl
  have hcf : CallFix pz mz cz cX0_clear 1 sz args wsX0_clear RX0 := ⟨hx, hb, hml, hown, hts⟩
  have hi0 : ∀ w ∈ u_ws RX0 TX0 2, w ∈ wsX0_clear := by decide +kernel
  have hf15 : (Cond.fieldLink RX0 15 "CubeMin$CubeList" "count" "I").before args sz = true := hts _ (by decide +kernel)
  have hl : lv_has ls 1 [(0, .ref h)] := hl
  refine lv_aload_n hx hb dX0_clear_0 rfl (lv_at hl 0 rfl) ?_
  refine lv_iconst (v := nI 0) hx hb dX0_clear_1 (by decide) ?_
  refine va_put (D := D) (ci := 0) (v := .int (nI 0)) (ty := .int) (C := RX0) (T := TX0) (N := 2) hx hb hts hi0 tyX0 tyX0_ok nmX0 hown hK hP hD hS 0 rfl rfl 1 (by decide) hf15 (fun _ h9 => h9) rfl (by decide +kernel) rfl rfl (Nat.le_of_ble_eq_true rfl) dX0_clear_2 (fun H locs hP hD hS => ?_)
  have hP : va_P D vwCl [(h, .inr (0, [.ref a, .int (nI 0)])), (a, .inl (kA, 24, .inl f))] H := hP
  have hD : va_D Az [(h, .inr (0, [.ref a, .int (nI 0)])), (a, .inl (kA, 24, .inl f))] := hD
  exact vz_vretM hx hb hr hlocks hQ hAe dX0_clear_5 hS hP rfl
set_option maxHeartbeats 4000000 in
set_option maxRecDepth 100000 in
theorem c_X0_at (l : Launch) (D : va_G) (kA : ClassId) (h a c : Nat) (f : Nat → Int32) (hc : c ≤ 24) (k : Int32) : vz_M l yX0_at wsX0_at 0 0 [.ref h, .int k] D kA [(h, .inr (0, [.ref a, .int (nI c)])), (a, .inl (kA, 24, .inl f))] (some (.int (zat c f k))) := by
  refine vz_start (cc := cX0_at) (maxL := 2) (ret := (some .int)) (own := RX0) (by decide) rfl rfl (Nat.le_of_ble_eq_true rfl) ?_
  intro pz ez sz mz below meth cz args Q ls hargs hx hb hml hown hts hr hlocks hP hK hQ hl
  have hcf : CallFix pz mz cz cX0_at 2 sz args wsX0_at RX0 := ⟨hx, hb, hml, hown, hts⟩
  have hi0 : ∀ w ∈ u_ws RX0 TX0 2, w ∈ wsX0_at := by decide +kernel
  have hf9 : (Cond.fieldLink RX0 9 "CubeMin$CubeList" "cubes" "[I").before args sz = true := hts _ (by decide +kernel)
  have hf15 : (Cond.fieldLink RX0 15 "CubeMin$CubeList" "count" "I").before args sz = true := hts _ (by decide +kernel)
  have hl : lv_has ls 2 [(0, .ref h), (1, .int k)] := hl
  refine lv_iload_n hx hb dX0_at_0 rfl (lv_at hl 1 rfl) ?_
  refine lv_if_lt (tgt := 21) hx hb dX0_at_1 (by decide) (fun c_1 => ?_) (fun c_1 => ?_)
  · skip
    refine lv_iconst (v := -1) hx hb dX0_at_21 (by decide) ?_
    exact vz_iret hx hb hr hlocks hQ (vp_nar_int _) dX0_at_22 (by first | exact (zat_nI hj hc).symm | (simp only [zat]; first | rw [if_pos c_1] | rw [if_neg c_1, if_pos c_9]))
  · skip
    refine lv_iload_n hx hb dX0_at_4 rfl (lv_at hl 1 rfl) ?_
    refine lv_aload_n hx hb dX0_at_5 rfl (lv_at hl 0 rfl) ?_
    refine va_get (D := D) (ci := 0) (v := .int (nI c)) (C := RX0) (T := TX0) (N := 2) hx hb hts hi0 hown hK hP 0 rfl rfl 1 (by decide) hf15 (fun _ h9 => h9) rfl dX0_at_6 ?_
    refine lv_icmp_ge (tgt := 21) hx hb dX0_at_9 (by decide) (fun c_9 => ?_) (fun c_9 => ?_)
    · skip
      refine lv_iconst (v := -1) hx hb dX0_at_21 (by decide) ?_
      exact vz_iret hx hb hr hlocks hQ (vp_nar_int _) dX0_at_22 (by first | exact (zat_nI hj hc).symm | (simp only [zat]; first | rw [if_pos c_1] | rw [if_neg c_1, if_pos c_9]))
    · skip
      obtain ⟨j, hj, rfl⟩ : ∃ j : Nat, j < c ∧ k = nI j := by
        rcases pk_ix k (n := c) (by omega) with h1 | h1 | h1
        · exact absurd h1 c_1
        · exact absurd h1 c_9
        · exact h1
      refine lv_aload_n hx hb dX0_at_12 rfl (lv_at hl 0 rfl) ?_
      refine va_get (D := D) (ci := 0) (v := .ref a) (C := RX0) (T := TX0) (N := 2) hx hb hts hi0 hown hK hP 0 rfl rfl 0 (by decide) hf9 (fun _ h9 => h9) rfl dX0_at_13 ?_
      refine lv_iload_n hx hb dX0_at_16 rfl (lv_at hl 1 rfl) ?_
      refine vz_ald hx hb hK hP 1 rfl (by omega) (Nat.le_of_ble_eq_true rfl) dX0_at_17 ?_
      refine lv_goto (tgt := 22) hx hb dX0_at_18 (by decide) ?_
      exact vz_iret hx hb hr hlocks hQ (vp_nar_int _) dX0_at_22 (by first | exact (zat_nI hj hc).symm | (simp only [zat]; first | rw [if_pos c_1] | rw [if_neg c_1, if_pos c_9]))
set_option maxHeartbeats 4000000 in
set_option maxRecDepth 100000 in
theorem c_X0_append (l : Launch) (D : va_G) (kA : ClassId) (h a c : Nat) (f : Nat → Int32) (hc : c < 24) (v : Int32) : vz_MM l yX0_append wsX0_append 0 0 [.ref h, .int v] D kA [(h, .inr (0, [.ref a, .int (nI c)])), (a, .inl (kA, 24, .inl f))] (some (.int (nI 1))) [(h, .inr (0, [.ref a, .int (nI (c + 1))])), (a, .inl (kA, 24, .inl (upd f c v)))] := by
  refine vz_startM (cc := cX0_append) (maxL := 2) (ret := (some .boolean)) (own := RX0) (by decide) rfl rfl (Nat.le_of_ble_eq_true rfl) ?_
  intro pz ez sz mz below meth cz args Q ls H locs Az hargs hx hb hml hown hts hr hlocks hP hK hD hS hAe hQ hl
  have hcf : CallFix pz mz cz cX0_append 2 sz args wsX0_append RX0 := ⟨hx, hb, hml, hown, hts⟩
  have hi0 : ∀ w ∈ u_ws RX0 TX0 2, w ∈ wsX0_append := by decide +kernel
  have hf9 : (Cond.fieldLink RX0 9 "CubeMin$CubeList" "cubes" "[I").before args sz = true := hts _ (by decide +kernel)
  have hf15 : (Cond.fieldLink RX0 15 "CubeMin$CubeList" "count" "I").before args sz = true := hts _ (by decide +kernel)
  have hl : lv_has ls 2 [(0, .ref h), (1, .int v)] := hl
  refine lv_aload_n hx hb dX0_append_0 rfl (lv_at hl 0 rfl) ?_
  refine va_get (D := D) (ci := 0) (v := .int (nI c)) (C := RX0) (T := TX0) (N := 2) hx hb hts hi0 hown hK hP 0 rfl rfl 1 (by decide) hf15 (fun _ h9 => h9) rfl dX0_append_1 ?_
  refine lv_bipush (v := nI 24) hx hb dX0_append_4 (by decide) ?_
  refine vz_clt (tgt := 11) hx hb dX0_append_6 (by decide) (by omega) (by omega) (fun c_6 => ?_) (fun c_6 => absurd c_6 (by omega))
  refine lv_aload_n hx hb dX0_append_11 rfl (lv_at hl 0 rfl) ?_
  refine va_get (D := D) (ci := 0) (v := .ref a) (C := RX0) (T := TX0) (N := 2) hx hb hts hi0 hown hK hP 0 rfl rfl 0 (by decide) hf9 (fun _ h9 => h9) rfl dX0_append_12 ?_
  refine lv_aload_n hx hb dX0_append_15 rfl (lv_at hl 0 rfl) ?_
  refine va_get (D := D) (ci := 0) (v := .int (nI c)) (C := RX0) (T := TX0) (N := 2) hx hb hts hi0 hown hK hP 0 rfl rfl 1 (by decide) hf15 (fun _ h9 => h9) rfl dX0_append_16 ?_
  refine lv_iload_n hx hb dX0_append_19 rfl (lv_at hl 1 rfl) ?_
  refine vz_ast hx hb hK hP hD hS 1 rfl (by omega) (Nat.le_of_ble_eq_true rfl) dX0_append_20 (fun H locs hP hD hS => ?_)
  have hP : va_P D vwCl [(h, .inr (0, [.ref a, .int (nI c)])), (a, .inl (kA, 24, .inl (upd f c v)))] H := hP
  have hD : va_D Az [(h, .inr (0, [.ref a, .int (nI c)])), (a, .inl (kA, 24, .inl (upd f c v)))] := hD
  refine lv_aload_n hx hb dX0_append_21 rfl (lv_at hl 0 rfl) ?_
  refine lv_dup hx hb dX0_append_22 rfl ?_
  refine va_get (D := D) (ci := 0) (v := .int (nI c)) (C := RX0) (T := TX0) (N := 2) hx hb hts hi0 hown hK hP 0 rfl rfl 1 (by decide) hf15 (fun _ h9 => h9) rfl dX0_append_23 ?_
  refine lv_iconst (v := nI 1) hx hb dX0_append_26 (by decide) ?_
  refine vz_add hx hb dX0_append_27 ?_
  refine va_put (D := D) (ci := 0) (v := .int (nI (c + 1))) (ty := .int) (C := RX0) (T := TX0) (N := 2) hx hb hts hi0 tyX0 tyX0_ok nmX0 hown hK hP hD hS 0 rfl rfl 1 (by decide) hf15 (fun _ h9 => h9) rfl (by decide +kernel) rfl rfl (Nat.le_of_ble_eq_true rfl) dX0_append_28 (fun H locs hP hD hS => ?_)
  have hP : va_P D vwCl [(h, .inr (0, [.ref a, .int (nI (c + 1))])), (a, .inl (kA, 24, .inl (upd f c v)))] H := hP
  have hD : va_D Az [(h, .inr (0, [.ref a, .int (nI (c + 1))])), (a, .inl (kA, 24, .inl (upd f c v)))] := hD
  refine lv_iconst (v := nI 1) hx hb dX0_append_31 (by decide) ?_
  exact vz_iretM hx hb hr hlocks hQ hAe (rfl) dX0_append_32 rfl hS hP rfl
set_option maxHeartbeats 4000000 in
set_option maxRecDepth 100000 in
theorem c_X0_append_no (l : Launch) (D : va_G) (kA : ClassId) (h a c : Nat) (f : Nat → Int32) (hc : c = 24) (v : Int32) : vz_M l yX0_append wsX0_append 0 0 [.ref h, .int v] D kA [(h, .inr (0, [.ref a, .int (nI c)])), (a, .inl (kA, 24, .inl f))] (some (.int (nI 0))) := by
  refine vz_start (cc := cX0_append) (maxL := 2) (ret := (some .boolean)) (own := RX0) (by decide) rfl rfl (Nat.le_of_ble_eq_true rfl) ?_
  intro pz ez sz mz below meth cz args Q ls hargs hx hb hml hown hts hr hlocks hP hK hQ hl
  have hcf : CallFix pz mz cz cX0_append 2 sz args wsX0_append RX0 := ⟨hx, hb, hml, hown, hts⟩
  have hi0 : ∀ w ∈ u_ws RX0 TX0 2, w ∈ wsX0_append := by decide +kernel
  have hf9 : (Cond.fieldLink RX0 9 "CubeMin$CubeList" "cubes" "[I").before args sz = true := hts _ (by decide +kernel)
  have hf15 : (Cond.fieldLink RX0 15 "CubeMin$CubeList" "count" "I").before args sz = true := hts _ (by decide +kernel)
  have hl : lv_has ls 2 [(0, .ref h), (1, .int v)] := hl
  refine lv_aload_n hx hb dX0_append_0 rfl (lv_at hl 0 rfl) ?_
  refine va_get (D := D) (ci := 0) (v := .int (nI c)) (C := RX0) (T := TX0) (N := 2) hx hb hts hi0 hown hK hP 0 rfl rfl 1 (by decide) hf15 (fun _ h9 => h9) rfl dX0_append_1 ?_
  refine lv_bipush (v := nI 24) hx hb dX0_append_4 (by decide) ?_
  refine vz_clt (tgt := 11) hx hb dX0_append_6 (by decide) (by omega) (by omega) (fun c_6 => absurd c_6 (by omega)) (fun c_6 => ?_)
  refine lv_iconst (v := nI 0) hx hb dX0_append_9 (by decide) ?_
  exact vz_iret hx hb hr hlocks hQ (rfl) dX0_append_10 rfl
set_option maxHeartbeats 4000000 in
set_option maxRecDepth 100000 in
theorem c_X0_put (l : Launch) (D : va_G) (kA : ClassId) (h a c : Nat) (f : Nat → Int32) (hc : c ≤ 24) (k : Nat) (v : Int32) (hk : k < c) : vz_MM l yX0_put wsX0_put 0 0 [.ref h, .int (nI k), .int v] D kA [(h, .inr (0, [.ref a, .int (nI c)])), (a, .inl (kA, 24, .inl f))] none [(h, .inr (0, [.ref a, .int (nI c)])), (a, .inl (kA, 24, .inl (upd f k v)))] := by
  refine vz_startM (cc := cX0_put) (maxL := 3) (ret := none) (own := RX0) (by decide) rfl rfl (Nat.le_of_ble_eq_true rfl) ?_
  intro pz ez sz mz below meth cz args Q ls H locs Az hargs hx hb hml hown hts hr hlocks hP hK hD hS hAe hQ hl
  have hcf : CallFix pz mz cz cX0_put 3 sz args wsX0_put RX0 := ⟨hx, hb, hml, hown, hts⟩
  have hi0 : ∀ w ∈ u_ws RX0 TX0 2, w ∈ wsX0_put := by decide +kernel
  have hf9 : (Cond.fieldLink RX0 9 "CubeMin$CubeList" "cubes" "[I").before args sz = true := hts _ (by decide +kernel)
  have hf15 : (Cond.fieldLink RX0 15 "CubeMin$CubeList" "count" "I").before args sz = true := hts _ (by decide +kernel)
  have hl : lv_has ls 3 [(0, .ref h), (1, .int (nI k)), (2, .int v)] := hl
  refine lv_iload_n hx hb dX0_put_0 rfl (lv_at hl 1 rfl) ?_
  refine lv_if_lt (tgt := 19) hx hb dX0_put_1 (by decide) (fun c_1 => absurd c_1 (nI_pos (by omega))) (fun c_1 => ?_)
  refine lv_iload_n hx hb dX0_put_4 rfl (lv_at hl 1 rfl) ?_
  refine lv_aload_n hx hb dX0_put_5 rfl (lv_at hl 0 rfl) ?_
  refine va_get (D := D) (ci := 0) (v := .int (nI c)) (C := RX0) (T := TX0) (N := 2) hx hb hts hi0 hown hK hP 0 rfl rfl 1 (by decide) hf15 (fun _ h9 => h9) rfl dX0_put_6 ?_
  refine vz_cge (tgt := 19) hx hb dX0_put_9 (by decide) (by omega) (by omega) (fun c_9 => absurd c_9 (by omega)) (fun c_9 => ?_)
  refine lv_aload_n hx hb dX0_put_12 rfl (lv_at hl 0 rfl) ?_
  refine va_get (D := D) (ci := 0) (v := .ref a) (C := RX0) (T := TX0) (N := 2) hx hb hts hi0 hown hK hP 0 rfl rfl 0 (by decide) hf9 (fun _ h9 => h9) rfl dX0_put_13 ?_
  refine lv_iload_n hx hb dX0_put_16 rfl (lv_at hl 1 rfl) ?_
  refine lv_iload_n hx hb dX0_put_17 rfl (lv_at hl 2 rfl) ?_
  refine vz_ast hx hb hK hP hD hS 1 rfl (by omega) (Nat.le_of_ble_eq_true rfl) dX0_put_18 (fun H locs hP hD hS => ?_)
  have hP : va_P D vwCl [(h, .inr (0, [.ref a, .int (nI c)])), (a, .inl (kA, 24, .inl (upd f k v)))] H := hP
  have hD : va_D Az [(h, .inr (0, [.ref a, .int (nI c)])), (a, .inl (kA, 24, .inl (upd f k v)))] := hD
  exact vz_vretM hx hb hr hlocks hQ hAe dX0_put_19 hS hP rfl
set_option maxHeartbeats 4000000 in
set_option maxRecDepth 100000 in
theorem c_X0_takeOut (l : Launch) (D : va_G) (kA : ClassId) (h a c : Nat) (f : Nat → Int32) (hc : c ≤ 24) (k : Nat) (hk : k < c) : vz_MM l yX0_takeOut wsX0_takeOut 0 0 [.ref h, .int (nI k)] D kA [(h, .inr (0, [.ref a, .int (nI c)])), (a, .inl (kA, 24, .inl f))] none [(h, .inr (0, [.ref a, .int (nI (c - 1))])), (a, .inl (kA, 24, .inl (zsh f k c)))] := by
  refine vz_startM (cc := cX0_takeOut) (maxL := 3) (ret := none) (own := RX0) (by decide) rfl rfl (Nat.le_of_ble_eq_true rfl) ?_
  intro pz ez sz mz below meth cz args Q ls H locs Az hargs hx hb hml hown hts hr hlocks hP hK hD hS hAe hQ hl
  have hcf : CallFix pz mz cz cX0_takeOut 3 sz args wsX0_takeOut RX0 := ⟨hx, hb, hml, hown, hts⟩
  have hi0 : ∀ w ∈ u_ws RX0 TX0 2, w ∈ wsX0_takeOut := by decide +kernel
  have hf9 : (Cond.fieldLink RX0 9 "CubeMin$CubeList" "cubes" "[I").before args sz = true := hts _ (by decide +kernel)
  have hf15 : (Cond.fieldLink RX0 15 "CubeMin$CubeList" "count" "I").before args sz = true := hts _ (by decide +kernel)
  have hl : lv_has ls 3 [(0, .ref h), (1, .int (nI k))] := hl
  refine lv_iload_n hx hb dX0_takeOut_0 rfl (lv_at hl 1 rfl) ?_
  refine lv_if_lt (tgt := 12) hx hb dX0_takeOut_1 (by decide) (fun c_1 => absurd c_1 (nI_pos (by omega))) (fun c_1 => ?_)
  refine lv_iload_n hx hb dX0_takeOut_4 rfl (lv_at hl 1 rfl) ?_
  refine lv_aload_n hx hb dX0_takeOut_5 rfl (lv_at hl 0 rfl) ?_
  refine va_get (D := D) (ci := 0) (v := .int (nI c)) (C := RX0) (T := TX0) (N := 2) hx hb hts hi0 hown hK hP 0 rfl rfl 1 (by decide) hf15 (fun _ h9 => h9) rfl dX0_takeOut_6 ?_
  refine vz_clt (tgt := 13) hx hb dX0_takeOut_9 (by decide) (by omega) (by omega) (fun c_9 => ?_) (fun c_9 => absurd c_9 (by omega))
  refine lv_iload_n hx hb dX0_takeOut_13 rfl (lv_at hl 1 rfl) ?_
  refine lv_iconst (v := nI 1) hx hb dX0_takeOut_14 (by decide) ?_
  refine vz_add hx hb dX0_takeOut_15 ?_
  refine lv_istore_n (lv' := [(2, .int (nI (k + 1))), (0, .ref h), (1, .int (nI k))]) hx hb dX0_takeOut_16 rfl hl (by decide) rfl (fun ls hl => ?_)
  have lp1 : ∀ (dz : Nat) (i : Nat) (g : Nat → Int32) (H : Heap) (locs : List Loc) (ls : Array Slot), (c - i) < dz → (k < i) → (i ≤ c) → (g = zsh f k i) → va_P D vwCl [(h, .inr (0, [.ref a, .int (nI c)])), (a, .inl (kA, 24, .inl g))] H → va_D Az [(h, .inr (0, [.ref a, .int (nI c)])), (a, .inl (kA, 24, .inl g))] → va_S Az sz.heap H locs → lv_has ls 3 [(0, .ref h), (1, .int (nI k)), (2, .int (nI i))] → W pz l ez (vz_R 0 0) sz mz args below meth cz H locs 0 0 Q (F0 mz 17 ls []) := by
    intro dz
    induction dz with
    | zero => intro i g H locs ls hd h1 h2 hg hP hD hS hl; exact absurd hd (Nat.not_lt_zero _)
    | succ dz ih1 =>
      intro i g H locs ls hd h1 h2 hg hP hD hS hl
      refine lv_iload_n hx hb dX0_takeOut_17 rfl (lv_at hl 2 rfl) ?_
      refine lv_aload_n hx hb dX0_takeOut_18 rfl (lv_at hl 0 rfl) ?_
      refine va_get (D := D) (ci := 0) (v := .int (nI c)) (C := RX0) (T := TX0) (N := 2) hx hb hts hi0 hown hK hP 0 rfl rfl 1 (by decide) hf15 (fun _ h9 => h9) rfl dX0_takeOut_19 ?_
      refine vz_cge (tgt := 45) hx hb dX0_takeOut_22 (by decide) (by omega) (by omega) (fun c_22 => ?_) (fun c_22 => ?_)
      · skip
        obtain rfl : c = i := by omega
        refine lv_aload_n hx hb dX0_takeOut_45 rfl (lv_at hl 0 rfl) ?_
        refine lv_dup hx hb dX0_takeOut_46 rfl ?_
        refine va_get (D := D) (ci := 0) (v := .int (nI c)) (C := RX0) (T := TX0) (N := 2) hx hb hts hi0 hown hK hP 0 rfl rfl 1 (by decide) hf15 (fun _ h9 => h9) rfl dX0_takeOut_47 ?_
        refine lv_iconst (v := nI 1) hx hb dX0_takeOut_50 (by decide) ?_
        refine vz_sub hx hb dX0_takeOut_51 (by omega) ?_
        refine va_put (D := D) (ci := 0) (v := .int (nI (c - 1))) (ty := .int) (C := RX0) (T := TX0) (N := 2) hx hb hts hi0 tyX0 tyX0_ok nmX0 hown hK hP hD hS 0 rfl rfl 1 (by decide) hf15 (fun _ h9 => h9) rfl (by decide +kernel) rfl rfl (Nat.le_of_ble_eq_true rfl) dX0_takeOut_52 (fun H locs hP hD hS => ?_)
        have hP : va_P D vwCl [(h, .inr (0, [.ref a, .int (nI (c - 1))])), (a, .inl (kA, 24, .inl g))] H := hP
        have hD : va_D Az [(h, .inr (0, [.ref a, .int (nI (c - 1))])), (a, .inl (kA, 24, .inl g))] := hD
        exact vz_vretM hx hb hr hlocks hQ hAe dX0_takeOut_55 hS hP (by rw [hg])
      · skip
        refine lv_aload_n hx hb dX0_takeOut_25 rfl (lv_at hl 0 rfl) ?_
        refine va_get (D := D) (ci := 0) (v := .ref a) (C := RX0) (T := TX0) (N := 2) hx hb hts hi0 hown hK hP 0 rfl rfl 0 (by decide) hf9 (fun _ h9 => h9) rfl dX0_takeOut_26 ?_
        refine lv_iload_n hx hb dX0_takeOut_29 rfl (lv_at hl 2 rfl) ?_
        refine lv_iconst (v := nI 1) hx hb dX0_takeOut_30 (by decide) ?_
        refine vz_sub hx hb dX0_takeOut_31 (by omega) ?_
        refine lv_aload_n hx hb dX0_takeOut_32 rfl (lv_at hl 0 rfl) ?_
        refine va_get (D := D) (ci := 0) (v := .ref a) (C := RX0) (T := TX0) (N := 2) hx hb hts hi0 hown hK hP 0 rfl rfl 0 (by decide) hf9 (fun _ h9 => h9) rfl dX0_takeOut_33 ?_
        refine lv_iload_n hx hb dX0_takeOut_36 rfl (lv_at hl 2 rfl) ?_
        refine vz_ald hx hb hK hP 1 rfl (by omega) (Nat.le_of_ble_eq_true rfl) dX0_takeOut_37 ?_
        refine vz_ast hx hb hK hP hD hS 1 rfl (by omega) (Nat.le_of_ble_eq_true rfl) dX0_takeOut_38 (fun H locs hP hD hS => ?_)
        have hP : va_P D vwCl [(h, .inr (0, [.ref a, .int (nI c)])), (a, .inl (kA, 24, .inl (upd g (i - 1) (g i))))] H := hP
        have hD : va_D Az [(h, .inr (0, [.ref a, .int (nI c)])), (a, .inl (kA, 24, .inl (upd g (i - 1) (g i))))] := hD
        refine lv_iinc (v := (nI (i + 1))) (lv' := [(2, .int (nI (i + 1))), (0, .ref h), (1, .int (nI k))]) hx hb dX0_takeOut_39 hl (k := 2) rfl (nI_1 _) (by decide) rfl (fun ls hl => ?_)
        refine lv_goto (tgt := 17) hx hb dX0_takeOut_42 (by decide) ?_
        exact ih1 (i + 1) _ _ _ _ (by omega) (by omega) (by omega) (by rw [hg]; exact zsh_s h1) hP (vz_D hD rfl) hS (lv_sub hl [1, 2, 0] rfl)
  exact lp1 _ (k + 1) f _ _ _ (Nat.lt_succ_self _) (by omega) (by omega) zsh_0.symm hP (vz_D hD rfl) hS (lv_sub hl [1, 2, 0] rfl)
set_option maxHeartbeats 4000000 in
set_option maxRecDepth 100000 in
theorem c_X0_copyFrom (l : Launch) (D : va_G) (kA : ClassId) (h a c : Nat) (f : Nat → Int32) (h2 a2 c2 : Nat) (f2 : Nat → Int32) (hc2 : c2 ≤ 24) : vz_MM l yX0_copyFrom wsX0_copyFrom 1 21 [.ref h, .ref h2] D kA [(h, .inr (0, [.ref a, .int (nI c)])), (a, .inl (kA, 24, .inl f)), (h2, .inr (0, [.ref a2, .int (nI c2)])), (a2, .inl (kA, 24, .inl f2))] none [(h, .inr (0, [.ref a, .int (nI c2)])), (a, .inl (kA, 24, .inl (zcp c2 f2 f))), (h2, .inr (0, [.ref a2, .int (nI c2)])), (a2, .inl (kA, 24, .inl f2))] := by
  refine vz_startM (cc := cX0_copyFrom) (maxL := 3) (ret := none) (own := RX0) (by decide) rfl rfl (Nat.le_of_ble_eq_true rfl) ?_
  intro pz ez sz mz below meth cz args Q ls H locs Az hargs hx hb hml hown hts hr hlocks hP hK hD hS hAe hQ hl
  have hcf : CallFix pz mz cz cX0_copyFrom 3 sz args wsX0_copyFrom RX0 := ⟨hx, hb, hml, hown, hts⟩
  have hi0 : ∀ w ∈ u_ws RX0 TX0 2, w ∈ wsX0_copyFrom := by decide +kernel
  have hf15 : (Cond.fieldLink RX0 15 "CubeMin$CubeList" "count" "I").before args sz = true := hts _ (by decide +kernel)
  have hl : lv_has ls 3 [(0, .ref h), (1, .ref h2)] := hl
  refine lv_aload_n hx hb dX0_copyFrom_0 rfl (lv_at hl 0 rfl) ?_
  refine lv_iconst (v := nI 0) hx hb dX0_copyFrom_1 (by decide) ?_
  refine va_put (D := D) (ci := 0) (v := .int (nI 0)) (ty := .int) (C := RX0) (T := TX0) (N := 2) hx hb hts hi0 tyX0 tyX0_ok nmX0 hown hK hP hD hS 0 rfl rfl 1 (by decide) hf15 (fun _ h9 => h9) rfl (by decide +kernel) rfl rfl (Nat.le_of_ble_eq_true rfl) dX0_copyFrom_2 (fun H locs hP hD hS => ?_)
  have hP : va_P D vwCl [(h, .inr (0, [.ref a, .int (nI 0)])), (a, .inl (kA, 24, .inl f)), (h2, .inr (0, [.ref a2, .int (nI c2)])), (a2, .inl (kA, 24, .inl f2))] H := hP
  have hD : va_D Az [(h, .inr (0, [.ref a, .int (nI 0)])), (a, .inl (kA, 24, .inl f)), (h2, .inr (0, [.ref a2, .int (nI c2)])), (a2, .inl (kA, 24, .inl f2))] := hD
  refine lv_iconst (v := nI 0) hx hb dX0_copyFrom_5 (by decide) ?_
  refine lv_istore_n (lv' := [(2, .int (nI 0)), (0, .ref h), (1, .ref h2)]) hx hb dX0_copyFrom_6 rfl hl (by decide) rfl (fun ls hl => ?_)
  have lp1 : ∀ (dz : Nat) (i : Nat) (g : Nat → Int32) (H : Heap) (locs : List Loc) (ls : Array Slot), (c2 - i) < dz → (i ≤ c2) → (g = zcp i f2 f) → va_P D vwCl [(h, .inr (0, [.ref a, .int (nI i)])), (a, .inl (kA, 24, .inl g)), (h2, .inr (0, [.ref a2, .int (nI c2)])), (a2, .inl (kA, 24, .inl f2))] H → va_D Az [(h, .inr (0, [.ref a, .int (nI i)])), (a, .inl (kA, 24, .inl g)), (h2, .inr (0, [.ref a2, .int (nI c2)])), (a2, .inl (kA, 24, .inl f2))] → va_S Az sz.heap H locs → lv_has ls 3 [(0, .ref h), (1, .ref h2), (2, .int (nI i))] → W pz l ez (vz_R 1 21) sz mz args below meth cz H locs 0 0 Q (F0 mz 7 ls []) := by
    intro dz
    induction dz with
    | zero => intro i g H locs ls hd h1 hg hP hD hS hl; exact absurd hd (Nat.not_lt_zero _)
    | succ dz ih1 =>
      intro i g H locs ls hd h1 hg hP hD hS hl
      refine lv_iload_n hx hb dX0_copyFrom_7 rfl (lv_at hl 2 rfl) ?_
      refine lv_aload_n hx hb dX0_copyFrom_8 rfl (lv_at hl 1 rfl) ?_
      refine vz_callV (n := 0) (As := []) (rest := [.int (nI i)]) (q0 := 0) hcf (c_X0_length l D kA h2 a2 c2 f2 hc2) gX0_copyFrom_X0_length rfl hd_X0_length ⟨Nat.le_of_ble_eq_true rfl, Nat.le_of_ble_eq_true rfl⟩ hK (hP.sub [2, 3] rfl) rfl rfl rfl rfl hl.1 rfl (Nat.le_of_ble_eq_true rfl) ⟨Nat.zero_le _, Nat.zero_le _⟩ dX0_copyFrom_9 ?_
      refine vz_cge (tgt := 31) hx hb dX0_copyFrom_12 (by decide) (by omega) (by omega) (fun c_12 => ?_) (fun c_12 => ?_)
      · skip
        obtain rfl : c2 = i := by omega
        subst hg
        exact vz_vretM hx hb hr hlocks hQ hAe dX0_copyFrom_31 hS hP rfl
      · skip
        refine lv_aload_n hx hb dX0_copyFrom_15 rfl (lv_at hl 0 rfl) ?_
        refine lv_aload_n hx hb dX0_copyFrom_16 rfl (lv_at hl 1 rfl) ?_
        refine lv_iload_n hx hb dX0_copyFrom_17 rfl (lv_at hl 2 rfl) ?_
        refine vz_callV (n := 1) (As := [.int (nI i)]) (rest := [.ref h]) (q0 := 0) hcf (c_X0_at l D kA h2 a2 c2 f2 hc2 (nI i)) gX0_copyFrom_X0_at rfl hd_X0_at ⟨Nat.le_of_ble_eq_true rfl, Nat.le_of_ble_eq_true rfl⟩ hK (hP.sub [2, 3] rfl) rfl rfl rfl rfl hl.1 rfl (Nat.le_of_ble_eq_true rfl) ⟨Nat.zero_le _, Nat.zero_le _⟩ dX0_copyFrom_18 ?_
        refine vz_top (y := (f2 i)) (zat_nI c_12 hc2) ?_
        refine vz_callM (n := 1) (As := [.int (f2 i)]) (rest := []) (q0 := 0) hcf (c_X0_append l D kA h a i g (by omega) (f2 i)) gX0_copyFrom_X0_append rfl hd_X0_append ⟨Nat.le_of_ble_eq_true rfl, Nat.le_of_ble_eq_true rfl⟩ hK hP hD hS [0, 1] (by decide) rfl rfl rfl rfl rfl rfl rfl hl.1 rfl (Nat.le_of_ble_eq_true rfl) ⟨Nat.zero_le _, Nat.zero_le _⟩ dX0_copyFrom_21 (fun H locs hP hD hS => ?_)
        have hP : va_P D vwCl [(h, .inr (0, [.ref a, .int (nI (i + 1))])), (a, .inl (kA, 24, .inl (upd g i (f2 i)))), (h2, .inr (0, [.ref a2, .int (nI c2)])), (a2, .inl (kA, 24, .inl f2))] H := hP
        have hD : va_D Az [(h, .inr (0, [.ref a, .int (nI (i + 1))])), (a, .inl (kA, 24, .inl (upd g i (f2 i)))), (h2, .inr (0, [.ref a2, .int (nI c2)])), (a2, .inl (kA, 24, .inl f2))] := hD
        refine lv_pop hx hb dX0_copyFrom_24 rfl ?_
        refine lv_iinc (v := (nI (i + 1))) (lv' := [(2, .int (nI (i + 1))), (0, .ref h), (1, .ref h2)]) hx hb dX0_copyFrom_25 hl (k := 2) rfl (nI_1 _) (by decide) rfl (fun ls hl => ?_)
        refine lv_goto (tgt := 7) hx hb dX0_copyFrom_28 (by decide) ?_
        exact ih1 (i + 1) _ _ _ _ (by omega) (by omega) (by rw [hg]; exact zcp_s) hP (vz_D hD rfl) hS (lv_sub hl [1, 2, 0] rfl)
  exact lp1 _ 0 f _ _ _ (Nat.lt_succ_self _) (by omega) zcp_0.symm hP (vz_D hD rfl) hS (lv_sub hl [1, 2, 0] rfl)
