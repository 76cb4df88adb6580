section
-- ===== PART A: goes FIRST, ahead of the names: the tables' words, and 'selects' of the private methods out of them =====
/-- a private method of a class that the tables say can be made, by its rows of tables_1 -/
def lw_okq (q : MethodName × Nat) : Prop := (q.1.cls ≠ "java/lang/invoke/MethodHandle" ∧ q.1.cls ≠ "java/lang/invoke/VarHandle") ∧ Cond.instantiable q.1.cls q.2 ∈ tables_1 ∧ Cond.privateMethod q.1 ∈ tables_1 ∧ Cond.instanceMethod q.1 ∈ tables_1
theorem lw_p0 : lw_okq (⟨"CubeMin", "begin", "(I)V"⟩, 8) := ⟨⟨by decide +kernel, by decide +kernel⟩, List.mem_of_getElem? (i := 5) (by decide +kernel), List.mem_of_getElem? (i := 27) (by decide +kernel), List.mem_of_getElem? (i := 28) (by decide +kernel)⟩
theorem lw_p1 : lw_okq (⟨"CubeMin", "fillPointCubes", "()V"⟩, 8) := ⟨⟨by decide +kernel, by decide +kernel⟩, List.mem_of_getElem? (i := 5) (by decide +kernel), List.mem_of_getElem? (i := 35) (by decide +kernel), List.mem_of_getElem? (i := 36) (by decide +kernel)⟩
theorem lw_p2 : lw_okq (⟨"CubeMin", "isCube", "(I)Z"⟩, 8) := ⟨⟨by decide +kernel, by decide +kernel⟩, List.mem_of_getElem? (i := 5) (by decide +kernel), List.mem_of_getElem? (i := 76) (by decide +kernel), List.mem_of_getElem? (i := 77) (by decide +kernel)⟩
theorem lw_p3 : lw_okq (⟨"CubeMin", "markWanted", "(I)V"⟩, 8) := ⟨⟨by decide +kernel, by decide +kernel⟩, List.mem_of_getElem? (i := 5) (by decide +kernel), List.mem_of_getElem? (i := 84) (by decide +kernel), List.mem_of_getElem? (i := 85) (by decide +kernel)⟩
theorem lw_p4 : lw_okq (⟨"CubeMin", "pointCount", "()I"⟩, 8) := ⟨⟨by decide +kernel, by decide +kernel⟩, List.mem_of_getElem? (i := 5) (by decide +kernel), List.mem_of_getElem? (i := 88) (by decide +kernel), List.mem_of_getElem? (i := 89) (by decide +kernel)⟩
theorem lw_p5 : lw_okq (⟨"CubeMin", "isInCube", "(II)Z"⟩, 8) := ⟨⟨by decide +kernel, by decide +kernel⟩, List.mem_of_getElem? (i := 5) (by decide +kernel), List.mem_of_getElem? (i := 92) (by decide +kernel), List.mem_of_getElem? (i := 93) (by decide +kernel)⟩
theorem lw_p6 : lw_okq (⟨"CubeMin", "markIndifferent", "(I)V"⟩, 8) := ⟨⟨by decide +kernel, by decide +kernel⟩, List.mem_of_getElem? (i := 5) (by decide +kernel), List.mem_of_getElem? (i := 100) (by decide +kernel), List.mem_of_getElem? (i := 101) (by decide +kernel)⟩
theorem lw_p7 : lw_okq (⟨"CubeMin", "listAt", "(I)LCubeMin$CubeList;"⟩, 8) := ⟨⟨by decide +kernel, by decide +kernel⟩, List.mem_of_getElem? (i := 5) (by decide +kernel), List.mem_of_getElem? (i := 108) (by decide +kernel), List.mem_of_getElem? (i := 109) (by decide +kernel)⟩
theorem lw_p8 : lw_okq (⟨"CubeMin", "countLiterals", "(LCubeMin$CubeList;)I"⟩, 8) := ⟨⟨by decide +kernel, by decide +kernel⟩, List.mem_of_getElem? (i := 5) (by decide +kernel), List.mem_of_getElem? (i := 128) (by decide +kernel), List.mem_of_getElem? (i := 129) (by decide +kernel)⟩
theorem lw_p9 : lw_okq (⟨"CubeMin", "isPoint", "(I)Z"⟩, 8) := ⟨⟨by decide +kernel, by decide +kernel⟩, List.mem_of_getElem? (i := 5) (by decide +kernel), List.mem_of_getElem? (i := 139) (by decide +kernel), List.mem_of_getElem? (i := 140) (by decide +kernel)⟩
theorem lw_p10 : lw_okq (⟨"CubeMin", "isInList", "(LCubeMin$CubeList;I)Z"⟩, 8) := ⟨⟨by decide +kernel, by decide +kernel⟩, List.mem_of_getElem? (i := 5) (by decide +kernel), List.mem_of_getElem? (i := 147) (by decide +kernel), List.mem_of_getElem? (i := 148) (by decide +kernel)⟩
theorem lw_p11 : lw_okq (⟨"CubeMin", "countMissing", "(LCubeMin$CubeList;)I"⟩, 8) := ⟨⟨by decide +kernel, by decide +kernel⟩, List.mem_of_getElem? (i := 5) (by decide +kernel), List.mem_of_getElem? (i := 155) (by decide +kernel), List.mem_of_getElem? (i := 156) (by decide +kernel)⟩
theorem lw_p12 : lw_okq (⟨"CubeMin", "agree", "(LCubeMin$CubeList;LCubeMin$CubeList;)Z"⟩, 8) := ⟨⟨by decide +kernel, by decide +kernel⟩, List.mem_of_getElem? (i := 5) (by decide +kernel), List.mem_of_getElem? (i := 167) (by decide +kernel), List.mem_of_getElem? (i := 168) (by decide +kernel)⟩
theorem lw_p13 : lw_okq (⟨"CubeMin", "isVoid", "(I)Z"⟩, 8) := ⟨⟨by decide +kernel, by decide +kernel⟩, List.mem_of_getElem? (i := 5) (by decide +kernel), List.mem_of_getElem? (i := 175) (by decide +kernel), List.mem_of_getElem? (i := 176) (by decide +kernel)⟩
theorem lw_p14 : lw_okq (⟨"CubeMin", "touches", "(I)Z"⟩, 8) := ⟨⟨by decide +kernel, by decide +kernel⟩, List.mem_of_getElem? (i := 5) (by decide +kernel), List.mem_of_getElem? (i := 179) (by decide +kernel), List.mem_of_getElem? (i := 180) (by decide +kernel)⟩
theorem lw_p15 : lw_okq (⟨"CubeMin", "cannotGrow", "(I)Z"⟩, 8) := ⟨⟨by decide +kernel, by decide +kernel⟩, List.mem_of_getElem? (i := 5) (by decide +kernel), List.mem_of_getElem? (i := 183) (by decide +kernel), List.mem_of_getElem? (i := 184) (by decide +kernel)⟩
def lw_privs_1 : List (MethodName × Nat) := [(⟨"CubeMin", "begin", "(I)V"⟩, 8), (⟨"CubeMin", "fillPointCubes", "()V"⟩, 8), (⟨"CubeMin", "isCube", "(I)Z"⟩, 8), (⟨"CubeMin", "markWanted", "(I)V"⟩, 8), (⟨"CubeMin", "pointCount", "()I"⟩, 8), (⟨"CubeMin", "isInCube", "(II)Z"⟩, 8), (⟨"CubeMin", "markIndifferent", "(I)V"⟩, 8), (⟨"CubeMin", "listAt", "(I)LCubeMin$CubeList;"⟩, 8), (⟨"CubeMin", "countLiterals", "(LCubeMin$CubeList;)I"⟩, 8), (⟨"CubeMin", "isPoint", "(I)Z"⟩, 8), (⟨"CubeMin", "isInList", "(LCubeMin$CubeList;I)Z"⟩, 8), (⟨"CubeMin", "countMissing", "(LCubeMin$CubeList;)I"⟩, 8), (⟨"CubeMin", "agree", "(LCubeMin$CubeList;LCubeMin$CubeList;)Z"⟩, 8), (⟨"CubeMin", "isVoid", "(I)Z"⟩, 8), (⟨"CubeMin", "touches", "(I)Z"⟩, 8), (⟨"CubeMin", "cannotGrow", "(I)Z"⟩, 8)]
theorem lw_r1 : ∀ q ∈ lw_privs_1, lw_okq q := List.forall_mem_cons.mpr ⟨lw_p0, List.forall_mem_cons.mpr ⟨lw_p1, List.forall_mem_cons.mpr ⟨lw_p2, List.forall_mem_cons.mpr ⟨lw_p3, List.forall_mem_cons.mpr ⟨lw_p4, List.forall_mem_cons.mpr ⟨lw_p5, List.forall_mem_cons.mpr ⟨lw_p6, List.forall_mem_cons.mpr ⟨lw_p7, List.forall_mem_cons.mpr ⟨lw_p8, List.forall_mem_cons.mpr ⟨lw_p9, List.forall_mem_cons.mpr ⟨lw_p10, List.forall_mem_cons.mpr ⟨lw_p11, List.forall_mem_cons.mpr ⟨lw_p12, List.forall_mem_cons.mpr ⟨lw_p13, List.forall_mem_cons.mpr ⟨lw_p14, List.forall_mem_cons.mpr ⟨lw_p15, fun _ h => absurd h List.not_mem_nil⟩⟩⟩⟩⟩⟩⟩⟩⟩⟩⟩⟩⟩⟩⟩⟩
theorem lw_p16 : lw_okq (⟨"CubeMin", "widened", "(IZ)I"⟩, 8) := ⟨⟨by decide +kernel, by decide +kernel⟩, List.mem_of_getElem? (i := 5) (by decide +kernel), List.mem_of_getElem? (i := 191) (by decide +kernel), List.mem_of_getElem? (i := 192) (by decide +kernel)⟩
theorem lw_p17 : lw_okq (⟨"CubeMin", "fillCover", "()V"⟩, 8) := ⟨⟨by decide +kernel, by decide +kernel⟩, List.mem_of_getElem? (i := 5) (by decide +kernel), List.mem_of_getElem? (i := 199) (by decide +kernel), List.mem_of_getElem? (i := 200) (by decide +kernel)⟩
theorem lw_p18 : lw_okq (⟨"CubeMin", "makePass", "(LCubeMin$CubeList;Z)V"⟩, 8) := ⟨⟨by decide +kernel, by decide +kernel⟩, List.mem_of_getElem? (i := 5) (by decide +kernel), List.mem_of_getElem? (i := 203) (by decide +kernel), List.mem_of_getElem? (i := 204) (by decide +kernel)⟩
theorem lw_p19 : lw_okq (⟨"CubeMin", "dropNeedless", "(LCubeMin$CubeList;)V"⟩, 8) := ⟨⟨by decide +kernel, by decide +kernel⟩, List.mem_of_getElem? (i := 5) (by decide +kernel), List.mem_of_getElem? (i := 211) (by decide +kernel), List.mem_of_getElem? (i := 212) (by decide +kernel)⟩
theorem lw_p20 : lw_okq (⟨"CubeMin", "countHolders", "(LCubeMin$CubeList;)V"⟩, 8) := ⟨⟨by decide +kernel, by decide +kernel⟩, List.mem_of_getElem? (i := 5) (by decide +kernel), List.mem_of_getElem? (i := 215) (by decide +kernel), List.mem_of_getElem? (i := 216) (by decide +kernel)⟩
theorem lw_p21 : lw_okq (⟨"CubeMin", "addToHolders", "(II)V"⟩, 8) := ⟨⟨by decide +kernel, by decide +kernel⟩, List.mem_of_getElem? (i := 5) (by decide +kernel), List.mem_of_getElem? (i := 219) (by decide +kernel), List.mem_of_getElem? (i := 220) (by decide +kernel)⟩
theorem lw_p22 : lw_okq (⟨"CubeMin", "ownPart", "(I)I"⟩, 8) := ⟨⟨by decide +kernel, by decide +kernel⟩, List.mem_of_getElem? (i := 5) (by decide +kernel), List.mem_of_getElem? (i := 223) (by decide +kernel), List.mem_of_getElem? (i := 224) (by decide +kernel)⟩
theorem lw_p23 : lw_okq (⟨"CubeMin", "narrow", "(LCubeMin$CubeList;)V"⟩, 8) := ⟨⟨by decide +kernel, by decide +kernel⟩, List.mem_of_getElem? (i := 5) (by decide +kernel), List.mem_of_getElem? (i := 238) (by decide +kernel), List.mem_of_getElem? (i := 239) (by decide +kernel)⟩
theorem lw_p24 : lw_okq (⟨"CubeMin", "isSmaller", "(LCubeMin$CubeList;LCubeMin$CubeList;)Z"⟩, 8) := ⟨⟨by decide +kernel, by decide +kernel⟩, List.mem_of_getElem? (i := 5) (by decide +kernel), List.mem_of_getElem? (i := 242) (by decide +kernel), List.mem_of_getElem? (i := 243) (by decide +kernel)⟩
theorem lw_p25 : lw_okq (⟨"CubeMinModel", "sort", "()V"⟩, 4) := ⟨⟨by decide +kernel, by decide +kernel⟩, List.mem_of_getElem? (i := 246) (by decide +kernel), List.mem_of_getElem? (i := 269) (by decide +kernel), List.mem_of_getElem? (i := 270) (by decide +kernel)⟩
theorem lw_p26 : lw_okq (⟨"CubeMinModel", "inList", "(II)Z"⟩, 4) := ⟨⟨by decide +kernel, by decide +kernel⟩, List.mem_of_getElem? (i := 246) (by decide +kernel), List.mem_of_getElem? (i := 273) (by decide +kernel), List.mem_of_getElem? (i := 274) (by decide +kernel)⟩
theorem lw_p27 : lw_okq (⟨"CubeMinModel", "in", "(II)Z"⟩, 4) := ⟨⟨by decide +kernel, by decide +kernel⟩, List.mem_of_getElem? (i := 246) (by decide +kernel), List.mem_of_getElem? (i := 277) (by decide +kernel), List.mem_of_getElem? (i := 278) (by decide +kernel)⟩
theorem lw_p28 : lw_okq (⟨"CubeMinModel", "add", "(II)Z"⟩, 4) := ⟨⟨by decide +kernel, by decide +kernel⟩, List.mem_of_getElem? (i := 246) (by decide +kernel), List.mem_of_getElem? (i := 289) (by decide +kernel), List.mem_of_getElem? (i := 290) (by decide +kernel)⟩
theorem lw_p29 : lw_okq (⟨"CubeMinModel", "isCube", "(I)Z"⟩, 4) := ⟨⟨by decide +kernel, by decide +kernel⟩, List.mem_of_getElem? (i := 246) (by decide +kernel), List.mem_of_getElem? (i := 293) (by decide +kernel), List.mem_of_getElem? (i := 294) (by decide +kernel)⟩
theorem lw_p30 : lw_okq (⟨"CubeMinModel", "literalsOf", "(I)I"⟩, 4) := ⟨⟨by decide +kernel, by decide +kernel⟩, List.mem_of_getElem? (i := 246) (by decide +kernel), List.mem_of_getElem? (i := 316) (by decide +kernel), List.mem_of_getElem? (i := 317) (by decide +kernel)⟩
theorem lw_p31 : lw_okq (⟨"CubeMinModel", "isPoint", "(I)Z"⟩, 4) := ⟨⟨by decide +kernel, by decide +kernel⟩, List.mem_of_getElem? (i := 246) (by decide +kernel), List.mem_of_getElem? (i := 324) (by decide +kernel), List.mem_of_getElem? (i := 325) (by decide +kernel)⟩
def lw_privs_2 : List (MethodName × Nat) := [(⟨"CubeMin", "widened", "(IZ)I"⟩, 8), (⟨"CubeMin", "fillCover", "()V"⟩, 8), (⟨"CubeMin", "makePass", "(LCubeMin$CubeList;Z)V"⟩, 8), (⟨"CubeMin", "dropNeedless", "(LCubeMin$CubeList;)V"⟩, 8), (⟨"CubeMin", "countHolders", "(LCubeMin$CubeList;)V"⟩, 8), (⟨"CubeMin", "addToHolders", "(II)V"⟩, 8), (⟨"CubeMin", "ownPart", "(I)I"⟩, 8), (⟨"CubeMin", "narrow", "(LCubeMin$CubeList;)V"⟩, 8), (⟨"CubeMin", "isSmaller", "(LCubeMin$CubeList;LCubeMin$CubeList;)Z"⟩, 8), (⟨"CubeMinModel", "sort", "()V"⟩, 4), (⟨"CubeMinModel", "inList", "(II)Z"⟩, 4), (⟨"CubeMinModel", "in", "(II)Z"⟩, 4), (⟨"CubeMinModel", "add", "(II)Z"⟩, 4), (⟨"CubeMinModel", "isCube", "(I)Z"⟩, 4), (⟨"CubeMinModel", "literalsOf", "(I)I"⟩, 4), (⟨"CubeMinModel", "isPoint", "(I)Z"⟩, 4)]
theorem lw_r2 : ∀ q ∈ lw_privs_2, lw_okq q := List.forall_mem_cons.mpr ⟨lw_p16, List.forall_mem_cons.mpr ⟨lw_p17, List.forall_mem_cons.mpr ⟨lw_p18, List.forall_mem_cons.mpr ⟨lw_p19, List.forall_mem_cons.mpr ⟨lw_p20, List.forall_mem_cons.mpr ⟨lw_p21, List.forall_mem_cons.mpr ⟨lw_p22, List.forall_mem_cons.mpr ⟨lw_p23, List.forall_mem_cons.mpr ⟨lw_p24, List.forall_mem_cons.mpr ⟨lw_p25, List.forall_mem_cons.mpr ⟨lw_p26, List.forall_mem_cons.mpr ⟨lw_p27, List.forall_mem_cons.mpr ⟨lw_p28, List.forall_mem_cons.mpr ⟨lw_p29, List.forall_mem_cons.mpr ⟨lw_p30, List.forall_mem_cons.mpr ⟨lw_p31, fun _ h => absurd h List.not_mem_nil⟩⟩⟩⟩⟩⟩⟩⟩⟩⟩⟩⟩⟩⟩⟩⟩
theorem lw_p32 : lw_okq (⟨"CubeMinModel", "isVoid", "(I)Z"⟩, 4) := ⟨⟨by decide +kernel, by decide +kernel⟩, List.mem_of_getElem? (i := 246) (by decide +kernel), List.mem_of_getElem? (i := 350) (by decide +kernel), List.mem_of_getElem? (i := 351) (by decide +kernel)⟩
theorem lw_p33 : lw_okq (⟨"CubeMinModel", "touches", "(I)Z"⟩, 4) := ⟨⟨by decide +kernel, by decide +kernel⟩, List.mem_of_getElem? (i := 246) (by decide +kernel), List.mem_of_getElem? (i := 354) (by decide +kernel), List.mem_of_getElem? (i := 355) (by decide +kernel)⟩
theorem lw_p34 : lw_okq (⟨"CubeMinModel", "widened", "(IZ)I"⟩, 4) := ⟨⟨by decide +kernel, by decide +kernel⟩, List.mem_of_getElem? (i := 246) (by decide +kernel), List.mem_of_getElem? (i := 362) (by decide +kernel), List.mem_of_getElem? (i := 363) (by decide +kernel)⟩
theorem lw_p35 : lw_okq (⟨"CubeMinModel", "pass", "(IZ)V"⟩, 4) := ⟨⟨by decide +kernel, by decide +kernel⟩, List.mem_of_getElem? (i := 246) (by decide +kernel), List.mem_of_getElem? (i := 370) (by decide +kernel), List.mem_of_getElem? (i := 371) (by decide +kernel)⟩
theorem lw_p36 : lw_okq (⟨"CubeMinModel", "isNeeded", "(II)Z"⟩, 4) := ⟨⟨by decide +kernel, by decide +kernel⟩, List.mem_of_getElem? (i := 246) (by decide +kernel), List.mem_of_getElem? (i := 374) (by decide +kernel), List.mem_of_getElem? (i := 375) (by decide +kernel)⟩
theorem lw_p37 : lw_okq (⟨"CubeMinModel", "inAnother", "(III)Z"⟩, 4) := ⟨⟨by decide +kernel, by decide +kernel⟩, List.mem_of_getElem? (i := 246) (by decide +kernel), List.mem_of_getElem? (i := 378) (by decide +kernel), List.mem_of_getElem? (i := 379) (by decide +kernel)⟩
theorem lw_p38 : lw_okq (⟨"CubeMinModel", "copy", "(II)V"⟩, 4) := ⟨⟨by decide +kernel, by decide +kernel⟩, List.mem_of_getElem? (i := 246) (by decide +kernel), List.mem_of_getElem? (i := 382) (by decide +kernel), List.mem_of_getElem? (i := 383) (by decide +kernel)⟩
theorem lw_p39 : lw_okq (⟨"CubeMinModel", "narrow", "(I)V"⟩, 4) := ⟨⟨by decide +kernel, by decide +kernel⟩, List.mem_of_getElem? (i := 246) (by decide +kernel), List.mem_of_getElem? (i := 386) (by decide +kernel), List.mem_of_getElem? (i := 387) (by decide +kernel)⟩
def lw_privs_3 : List (MethodName × Nat) := [(⟨"CubeMinModel", "isVoid", "(I)Z"⟩, 4), (⟨"CubeMinModel", "touches", "(I)Z"⟩, 4), (⟨"CubeMinModel", "widened", "(IZ)I"⟩, 4), (⟨"CubeMinModel", "pass", "(IZ)V"⟩, 4), (⟨"CubeMinModel", "isNeeded", "(II)Z"⟩, 4), (⟨"CubeMinModel", "inAnother", "(III)Z"⟩, 4), (⟨"CubeMinModel", "copy", "(II)V"⟩, 4), (⟨"CubeMinModel", "narrow", "(I)V"⟩, 4)]
theorem lw_r3 : ∀ q ∈ lw_privs_3, lw_okq q := List.forall_mem_cons.mpr ⟨lw_p32, List.forall_mem_cons.mpr ⟨lw_p33, List.forall_mem_cons.mpr ⟨lw_p34, List.forall_mem_cons.mpr ⟨lw_p35, List.forall_mem_cons.mpr ⟨lw_p36, List.forall_mem_cons.mpr ⟨lw_p37, List.forall_mem_cons.mpr ⟨lw_p38, List.forall_mem_cons.mpr ⟨lw_p39, fun _ h => absurd h List.not_mem_nil⟩⟩⟩⟩⟩⟩⟩⟩
def lw_privs : List (MethodName × Nat) := lw_privs_1 ++ (lw_privs_2 ++ (lw_privs_3))
def lw_tbl : List Cond := k2_sels lw_privs ++ tables_1
theorem lw_privs_ok : ∀ q ∈ lw_privs, lw_okq q := by
  show ∀ q ∈ lw_privs_1 ++ (lw_privs_2 ++ (lw_privs_3)), lw_okq q
  exact List.forall_mem_append.mpr ⟨lw_r1, List.forall_mem_append.mpr ⟨lw_r2, lw_r3⟩⟩
end
section
/-! ===== BEGIN words of one list among another's, by their places ===== -/
theorem goodIn_r {big : List Cond} (ws : List Cond) (ps : List Nat) (hp : ws = ps.filterMap (fun i => big[i]?)) (h : ws.all goodWord = true) : GoodIn big ws := by
  intro w hw
  have h1 := List.all_eq_true.mp h w hw
  rw [hp] at hw
  obtain ⟨i, -, hi⟩ := List.mem_filterMap.mp hw
  have hm : w ∈ big := by first | exact List.mem_of_getElem? hi | exact List.getElem?_mem hi
  exact ⟨hm, good_of_word h1⟩
theorem goodIn_app {big a b : List Cond} (ha : GoodIn big a) (hb : GoodIn big b) : GoodIn big (a ++ b) := fun w h => (List.mem_append.mp h).elim (ha w) (hb w)
theorem goodIn_ca {big a b : List Cond} {c : Cond} (ha : GoodIn big (c :: a)) (hb : GoodIn big b) : GoodIn big (c :: (a ++ b)) := fun w h => (List.mem_cons.mp h).elim (fun e => ha w (List.mem_cons.mpr (Or.inl e))) (fun h => (List.mem_append.mp h).elim (fun h => ha w (List.mem_cons.mpr (Or.inr h))) (hb w))
theorem goodIn_sub {big ws : List Cond} (hm : ∀ w ∈ ws, w ∈ big) (h : ws.all goodWord = true) : GoodIn big ws := fun w hw => ⟨hm w hw, good_of_word (List.all_eq_true.mp h w hw)⟩
/-! ===== END ===== -/

/-! ===== BEGIN printed: names, fields, word lists, decode rows ===== -/
def RX0 : String := "CubeMin$CubeList"
def TX0 : u_T := fun k => match k with
  | 0 => ("CubeMin$CubeList", "cubes", "[I", true)
  | _ => ("CubeMin$CubeList", "count", "I", false)
def tyX0 : Nat → FieldType := fun k => match k with
  | 0 => .array .int
  | _ => .int
abbrev wsX00 : List Cond := u_ws RX0 TX0 2
theorem nmX0 : ∀ a, a < 2 → ∀ b, b < 2 → a ≠ b → (TX0 a).2.1 ≠ (TX0 b).2.1 := by decide +kernel
theorem tyX0_ok : ∀ k, k < 2 → parseFieldDescriptor (TX0 k).2.2.1 = some (tyX0 k) := by decide +kernel
abbrev cX0_init : ByteArray := prog_2_method_1_code
def yX0_init : MethodName := ⟨RX0, "<init>", "()V"⟩
abbrev cX0_length : ByteArray := prog_2_method_2_code
def yX0_length : MethodName := ⟨RX0, "length", "()I"⟩
abbrev cX0_clear : ByteArray := prog_2_method_3_code
def yX0_clear : MethodName := ⟨RX0, "clear", "()V"⟩
abbrev cX0_at : ByteArray := prog_2_method_4_code
def yX0_at : MethodName := ⟨RX0, "at", "(I)I"⟩
abbrev cX0_append : ByteArray := prog_2_method_5_code
def yX0_append : MethodName := ⟨RX0, "append", "(I)Z"⟩
abbrev cX0_put : ByteArray := prog_2_method_6_code
def yX0_put : MethodName := ⟨RX0, "put", "(II)V"⟩
abbrev cX0_takeOut : ByteArray := prog_2_method_7_code
def yX0_takeOut : MethodName := ⟨RX0, "takeOut", "(I)V"⟩
abbrev cX0_copyFrom : ByteArray := prog_2_method_8_code
def yX0_copyFrom : MethodName := ⟨RX0, "copyFrom", "(LCubeMin$CubeList;)V"⟩
def RX1 : String := "CubeMin"
def TX1 : u_T := fun k => match k with
  | 0 => ("CubeMin", "onList", "LCubeMin$CubeList;", true)
  | 1 => ("CubeMin", "dcList", "LCubeMin$CubeList;", true)
  | 2 => ("CubeMin", "coverList", "LCubeMin$CubeList;", true)
  | 3 => ("CubeMin", "trialList", "LCubeMin$CubeList;", true)
  | 4 => ("CubeMin", "pointCubes", "[I", true)
  | 5 => ("CubeMin", "kinds", "[I", true)
  | 6 => ("CubeMin", "holders", "[I", true)
  | _ => ("CubeMin", "inputCount", "I", false)
def tyX1 : Nat → FieldType := fun k => match k with
  | 0 => .object "CubeMin$CubeList"
  | 1 => .object "CubeMin$CubeList"
  | 2 => .object "CubeMin$CubeList"
  | 3 => .object "CubeMin$CubeList"
  | 4 => .array .int
  | 5 => .array .int
  | 6 => .array .int
  | _ => .int
abbrev wsX10 : List Cond := u_ws RX1 TX1 8
theorem nmX1 : ∀ a, a < 8 → ∀ b, b < 8 → a ≠ b → (TX1 a).2.1 ≠ (TX1 b).2.1 := by decide +kernel
theorem tyX1_ok : ∀ k, k < 8 → parseFieldDescriptor (TX1 k).2.2.1 = some (tyX1 k) := by decide +kernel
abbrev cX1_init : ByteArray := prog_1_method_1_code
def yX1_init : MethodName := ⟨RX1, "<init>", "()V"⟩
abbrev cX1_start : ByteArray := prog_1_method_2_code
def yX1_start : MethodName := ⟨RX1, "start", "(I)Z"⟩
abbrev cX1_inputs : ByteArray := prog_1_method_3_code
def yX1_inputs : MethodName := ⟨RX1, "inputs", "()I"⟩
abbrev cX1_on : ByteArray := prog_1_method_4_code
def yX1_on : MethodName := ⟨RX1, "on", "(I)Z"⟩
abbrev cX1_dc : ByteArray := prog_1_method_5_code
def yX1_dc : MethodName := ⟨RX1, "dc", "(I)Z"⟩
abbrev cX1_size : ByteArray := prog_1_method_6_code
def yX1_size : MethodName := ⟨RX1, "size", "(I)I"⟩
abbrev cX1_cube : ByteArray := prog_1_method_7_code
def yX1_cube : MethodName := ⟨RX1, "cube", "(II)I"⟩
abbrev cX1_literals : ByteArray := prog_1_method_8_code
def yX1_literals : MethodName := ⟨RX1, "literals", "(I)I"⟩
abbrev cX1_kind : ByteArray := prog_1_method_9_code
def yX1_kind : MethodName := ⟨RX1, "kind", "(I)I"⟩
abbrev cX1_holds : ByteArray := prog_1_method_10_code
def yX1_holds : MethodName := ⟨RX1, "holds", "(II)Z"⟩
abbrev cX1_missing : ByteArray := prog_1_method_11_code
def yX1_missing : MethodName := ⟨RX1, "missing", "(I)I"⟩
abbrev cX1_tautology : ByteArray := prog_1_method_12_code
def yX1_tautology : MethodName := ⟨RX1, "tautology", "(I)Z"⟩
abbrev cX1_same : ByteArray := prog_1_method_13_code
def yX1_same : MethodName := ⟨RX1, "same", "(II)Z"⟩
abbrev cX1_prime : ByteArray := prog_1_method_14_code
def yX1_prime : MethodName := ⟨RX1, "prime", "(II)Z"⟩
abbrev cX1_widen : ByteArray := prog_1_method_15_code
def yX1_widen : MethodName := ⟨RX1, "widen", "(I)I"⟩
abbrev cX1_minimize : ByteArray := prog_1_method_16_code
def yX1_minimize : MethodName := ⟨RX1, "minimize", "()I"⟩
abbrev cX1_begin : ByteArray := prog_1_method_17_code
def yX1_begin : MethodName := ⟨RX1, "begin", "(I)V"⟩
abbrev cX1_fillPointCubes : ByteArray := prog_1_method_18_code
def yX1_fillPointCubes : MethodName := ⟨RX1, "fillPointCubes", "()V"⟩
abbrev cX1_pointCount : ByteArray := prog_1_method_19_code
def yX1_pointCount : MethodName := ⟨RX1, "pointCount", "()I"⟩
abbrev cX1_isPoint : ByteArray := prog_1_method_20_code
def yX1_isPoint : MethodName := ⟨RX1, "isPoint", "(I)Z"⟩
abbrev cX1_isCube : ByteArray := prog_1_method_21_code
def yX1_isCube : MethodName := ⟨RX1, "isCube", "(I)Z"⟩
abbrev cX1_listAt : ByteArray := prog_1_method_22_code
def yX1_listAt : MethodName := ⟨RX1, "listAt", "(I)LCubeMin$CubeList;"⟩
abbrev cX1_freed : ByteArray := prog_1_method_23_code
def yX1_freed : MethodName := ⟨RX1, "freed", "(II)I"⟩
abbrev cX1_isVoid : ByteArray := prog_1_method_24_code
def yX1_isVoid : MethodName := ⟨RX1, "isVoid", "(I)Z"⟩
abbrev cX1_isInCube : ByteArray := prog_1_method_25_code
def yX1_isInCube : MethodName := ⟨RX1, "isInCube", "(II)Z"⟩
abbrev cX1_isInList : ByteArray := prog_1_method_26_code
def yX1_isInList : MethodName := ⟨RX1, "isInList", "(LCubeMin$CubeList;I)Z"⟩
abbrev cX1_markWanted : ByteArray := prog_1_method_27_code
def yX1_markWanted : MethodName := ⟨RX1, "markWanted", "(I)V"⟩
abbrev cX1_markIndifferent : ByteArray := prog_1_method_28_code
def yX1_markIndifferent : MethodName := ⟨RX1, "markIndifferent", "(I)V"⟩
abbrev cX1_countLiterals : ByteArray := prog_1_method_29_code
def yX1_countLiterals : MethodName := ⟨RX1, "countLiterals", "(LCubeMin$CubeList;)I"⟩
abbrev cX1_countMissing : ByteArray := prog_1_method_30_code
def yX1_countMissing : MethodName := ⟨RX1, "countMissing", "(LCubeMin$CubeList;)I"⟩
abbrev cX1_agree : ByteArray := prog_1_method_31_code
def yX1_agree : MethodName := ⟨RX1, "agree", "(LCubeMin$CubeList;LCubeMin$CubeList;)Z"⟩
abbrev cX1_touches : ByteArray := prog_1_method_32_code
def yX1_touches : MethodName := ⟨RX1, "touches", "(I)Z"⟩
abbrev cX1_cannotGrow : ByteArray := prog_1_method_33_code
def yX1_cannotGrow : MethodName := ⟨RX1, "cannotGrow", "(I)Z"⟩
abbrev cX1_widened : ByteArray := prog_1_method_34_code
def yX1_widened : MethodName := ⟨RX1, "widened", "(IZ)I"⟩
abbrev cX1_fillCover : ByteArray := prog_1_method_35_code
def yX1_fillCover : MethodName := ⟨RX1, "fillCover", "()V"⟩
abbrev cX1_makePass : ByteArray := prog_1_method_36_code
def yX1_makePass : MethodName := ⟨RX1, "makePass", "(LCubeMin$CubeList;Z)V"⟩
abbrev cX1_dropNeedless : ByteArray := prog_1_method_37_code
def yX1_dropNeedless : MethodName := ⟨RX1, "dropNeedless", "(LCubeMin$CubeList;)V"⟩
abbrev cX1_narrow : ByteArray := prog_1_method_38_code
def yX1_narrow : MethodName := ⟨RX1, "narrow", "(LCubeMin$CubeList;)V"⟩
abbrev cX1_countHolders : ByteArray := prog_1_method_39_code
def yX1_countHolders : MethodName := ⟨RX1, "countHolders", "(LCubeMin$CubeList;)V"⟩
abbrev cX1_addToHolders : ByteArray := prog_1_method_40_code
def yX1_addToHolders : MethodName := ⟨RX1, "addToHolders", "(II)V"⟩
abbrev cX1_ownPart : ByteArray := prog_1_method_41_code
def yX1_ownPart : MethodName := ⟨RX1, "ownPart", "(I)I"⟩
abbrev cX1_isSmaller : ByteArray := prog_1_method_42_code
def yX1_isSmaller : MethodName := ⟨RX1, "isSmaller", "(LCubeMin$CubeList;LCubeMin$CubeList;)Z"⟩
def RX2 : String := "CubeMinModel"
def TX2 : u_T := fun k => match k with
  | 0 => ("CubeMinModel", "cubes", "[I", true)
  | 1 => ("CubeMinModel", "sizes", "[I", true)
  | 2 => ("CubeMinModel", "kinds", "[I", true)
  | _ => ("CubeMinModel", "n", "I", false)
def tyX2 : Nat → FieldType := fun k => match k with
  | 0 => .array .int
  | 1 => .array .int
  | 2 => .array .int
  | _ => .int
abbrev wsX20 : List Cond := u_ws RX2 TX2 4
theorem nmX2 : ∀ a, a < 4 → ∀ b, b < 4 → a ≠ b → (TX2 a).2.1 ≠ (TX2 b).2.1 := by decide +kernel
theorem tyX2_ok : ∀ k, k < 4 → parseFieldDescriptor (TX2 k).2.2.1 = some (tyX2 k) := by decide +kernel
abbrev cX2_init : ByteArray := prog_4_method_1_code
def yX2_init : MethodName := ⟨RX2, "<init>", "()V"⟩
abbrev cX2_start : ByteArray := prog_4_method_2_code
def yX2_start : MethodName := ⟨RX2, "start", "(I)Z"⟩
abbrev cX2_inputs : ByteArray := prog_4_method_3_code
def yX2_inputs : MethodName := ⟨RX2, "inputs", "()I"⟩
abbrev cX2_isCube : ByteArray := prog_4_method_4_code
def yX2_isCube : MethodName := ⟨RX2, "isCube", "(I)Z"⟩
abbrev cX2_isVoid : ByteArray := prog_4_method_5_code
def yX2_isVoid : MethodName := ⟨RX2, "isVoid", "(I)Z"⟩
abbrev cX2_in : ByteArray := prog_4_method_6_code
def yX2_in : MethodName := ⟨RX2, "in", "(II)Z"⟩
abbrev cX2_inList : ByteArray := prog_4_method_7_code
def yX2_inList : MethodName := ⟨RX2, "inList", "(II)Z"⟩
abbrev cX2_sort : ByteArray := prog_4_method_8_code
def yX2_sort : MethodName := ⟨RX2, "sort", "()V"⟩
abbrev cX2_touches : ByteArray := prog_4_method_9_code
def yX2_touches : MethodName := ⟨RX2, "touches", "(I)Z"⟩
abbrev cX2_add : ByteArray := prog_4_method_10_code
def yX2_add : MethodName := ⟨RX2, "add", "(II)Z"⟩
abbrev cX2_on : ByteArray := prog_4_method_11_code
def yX2_on : MethodName := ⟨RX2, "on", "(I)Z"⟩
abbrev cX2_dc : ByteArray := prog_4_method_12_code
def yX2_dc : MethodName := ⟨RX2, "dc", "(I)Z"⟩
abbrev cX2_isList : ByteArray := prog_4_method_13_code
def yX2_isList : MethodName := ⟨RX2, "isList", "(I)Z"⟩
abbrev cX2_size : ByteArray := prog_4_method_14_code
def yX2_size : MethodName := ⟨RX2, "size", "(I)I"⟩
abbrev cX2_cube : ByteArray := prog_4_method_15_code
def yX2_cube : MethodName := ⟨RX2, "cube", "(II)I"⟩
abbrev cX2_literalsOf : ByteArray := prog_4_method_16_code
def yX2_literalsOf : MethodName := ⟨RX2, "literalsOf", "(I)I"⟩
abbrev cX2_literals : ByteArray := prog_4_method_17_code
def yX2_literals : MethodName := ⟨RX2, "literals", "(I)I"⟩
abbrev cX2_isPoint : ByteArray := prog_4_method_18_code
def yX2_isPoint : MethodName := ⟨RX2, "isPoint", "(I)Z"⟩
abbrev cX2_kind : ByteArray := prog_4_method_19_code
def yX2_kind : MethodName := ⟨RX2, "kind", "(I)I"⟩
abbrev cX2_holds : ByteArray := prog_4_method_20_code
def yX2_holds : MethodName := ⟨RX2, "holds", "(II)Z"⟩
abbrev cX2_missing : ByteArray := prog_4_method_21_code
def yX2_missing : MethodName := ⟨RX2, "missing", "(I)I"⟩
abbrev cX2_tautology : ByteArray := prog_4_method_22_code
def yX2_tautology : MethodName := ⟨RX2, "tautology", "(I)Z"⟩
abbrev cX2_same : ByteArray := prog_4_method_23_code
def yX2_same : MethodName := ⟨RX2, "same", "(II)Z"⟩
abbrev cX2_prime : ByteArray := prog_4_method_24_code
def yX2_prime : MethodName := ⟨RX2, "prime", "(II)Z"⟩
abbrev cX2_widened : ByteArray := prog_4_method_25_code
def yX2_widened : MethodName := ⟨RX2, "widened", "(IZ)I"⟩
abbrev cX2_widen : ByteArray := prog_4_method_26_code
def yX2_widen : MethodName := ⟨RX2, "widen", "(I)I"⟩
abbrev cX2_inAnother : ByteArray := prog_4_method_27_code
def yX2_inAnother : MethodName := ⟨RX2, "inAnother", "(III)Z"⟩
abbrev cX2_isNeeded : ByteArray := prog_4_method_28_code
def yX2_isNeeded : MethodName := ⟨RX2, "isNeeded", "(II)Z"⟩
abbrev cX2_pass : ByteArray := prog_4_method_29_code
def yX2_pass : MethodName := ⟨RX2, "pass", "(IZ)V"⟩
abbrev cX2_narrow : ByteArray := prog_4_method_30_code
def yX2_narrow : MethodName := ⟨RX2, "narrow", "(I)V"⟩
abbrev cX2_copy : ByteArray := prog_4_method_31_code
def yX2_copy : MethodName := ⟨RX2, "copy", "(II)V"⟩
abbrev cX2_minimize : ByteArray := prog_4_method_32_code
def yX2_minimize : MethodName := ⟨RX2, "minimize", "()I"⟩
def RL : String := "CubeMinLaw"
abbrev cL_law : ByteArray := code
def yL_law : MethodName := ⟨RL, "law", "([I)Z"⟩
def wsX0_init : List Cond := .code yX0_init cX0_init 1 none :: ([.methodLink RX0 3 objectInit, .instanceMethod objectInit, .code objectInit ⟨#[0xb1]⟩ 1 none, .arrayClass .int, .fieldLink RX0 9 "CubeMin$CubeList" "cubes" "[I", .fieldLink RX0 15 "CubeMin$CubeList" "count" "I"] ++ wsX00)
def wsX0_length : List Cond := .code yX0_length cX0_length 1 (some .int) :: ([.fieldLink RX0 15 "CubeMin$CubeList" "count" "I"] ++ wsX00)
def wsX0_clear : List Cond := .code yX0_clear cX0_clear 1 none :: ([.fieldLink RX0 15 "CubeMin$CubeList" "count" "I"] ++ wsX00)
def wsX0_at : List Cond := .code yX0_at cX0_at 2 (some .int) :: ([.fieldLink RX0 15 "CubeMin$CubeList" "count" "I", .fieldLink RX0 9 "CubeMin$CubeList" "cubes" "[I"] ++ wsX00)
def wsX0_append : List Cond := .code yX0_append cX0_append 2 (some .boolean) :: ([.fieldLink RX0 15 "CubeMin$CubeList" "count" "I", .fieldLink RX0 9 "CubeMin$CubeList" "cubes" "[I"] ++ wsX00)
def wsX0_put : List Cond := .code yX0_put cX0_put 3 none :: ([.fieldLink RX0 15 "CubeMin$CubeList" "count" "I", .fieldLink RX0 9 "CubeMin$CubeList" "cubes" "[I"] ++ wsX00)
def wsX0_takeOut : List Cond := .code yX0_takeOut cX0_takeOut 3 none :: ([.fieldLink RX0 15 "CubeMin$CubeList" "count" "I", .fieldLink RX0 9 "CubeMin$CubeList" "cubes" "[I"] ++ wsX00)
def wsX0_copyFrom : List Cond := .code yX0_copyFrom cX0_copyFrom 3 none :: ([.fieldLink RX0 15 "CubeMin$CubeList" "count" "I", .methodLink RX0 19 yX0_length, .instanceMethod yX0_length, .selects RX0 yX0_length yX0_length, .initialized RX0, .code yX0_length cX0_length 1 (some .int), .methodLink RX0 23 yX0_at, .instanceMethod yX0_at, .selects RX0 yX0_at yX0_at, .code yX0_at cX0_at 2 (some .int), .fieldLink RX0 9 "CubeMin$CubeList" "cubes" "[I", .methodLink RX0 27 yX0_append, .instanceMethod yX0_append, .selects RX0 yX0_append yX0_append, .code yX0_append cX0_append 2 (some .boolean)] ++ wsX00)
def wsX1_fillPointCubes : List Cond := .code yX1_fillPointCubes cX1_fillPointCubes 4 none :: ([.fieldLink RX1 25 "CubeMin" "pointCubes" "[I", .fieldLink RX1 39 "CubeMin" "inputCount" "I"] ++ wsX10)
def wsX1_begin : List Cond := .code yX1_begin cX1_begin 3 none :: ([.fieldLink RX1 39 "CubeMin" "inputCount" "I", .fieldLink RX1 12 "CubeMin" "onList" "LCubeMin$CubeList;", .fieldLink RX1 16 "CubeMin" "dcList" "LCubeMin$CubeList;", .fieldLink RX1 19 "CubeMin" "coverList" "LCubeMin$CubeList;", .fieldLink RX1 29 "CubeMin" "kinds" "[I", .methodLink RX1 53 yX0_clear, .instanceMethod yX0_clear, .selects RX0 yX0_clear yX0_clear, .initialized RX0, .code yX0_clear cX0_clear 1 none, .fieldLink RX0 15 "CubeMin$CubeList" "count" "I", .methodLink RX1 119 yX1_fillPointCubes, .instanceMethod yX1_fillPointCubes, .selects RX1 yX1_fillPointCubes yX1_fillPointCubes, .initialized RX1, .code yX1_fillPointCubes cX1_fillPointCubes 4 none, .fieldLink RX1 25 "CubeMin" "pointCubes" "[I"] ++ wsX10 ++ wsX00)
def wsX1_init_r1 : List Cond := [Cond.methodLink RX1 3 objectInit, Cond.instanceMethod objectInit, Cond.code objectInit ⟨#[0xb1]⟩ 1 none, Cond.classLink RX1 9 RX0, Cond.instantiable RX0 2, Cond.initialized RX0, Cond.fieldLink RX1 12 "CubeMin" "onList" "LCubeMin$CubeList;", Cond.fieldLink RX1 16 "CubeMin" "dcList" "LCubeMin$CubeList;", Cond.fieldLink RX1 19 "CubeMin" "coverList" "LCubeMin$CubeList;", Cond.fieldLink RX1 22 "CubeMin" "trialList" "LCubeMin$CubeList;", Cond.arrayClass .int, Cond.fieldLink RX1 25 "CubeMin" "pointCubes" "[I", Cond.fieldLink RX1 29 "CubeMin" "kinds" "[I", Cond.fieldLink RX1 32 "CubeMin" "holders" "[I", Cond.methodLink RX1 11 yX0_init, Cond.instanceMethod yX0_init, Cond.code yX0_init cX0_init 1 none, Cond.methodLink RX0 3 objectInit, Cond.fieldLink RX0 9 "CubeMin$CubeList" "cubes" "[I", Cond.fieldLink RX0 15 "CubeMin$CubeList" "count" "I", Cond.methodLink RX1 35 yX1_begin, Cond.instanceMethod yX1_begin, Cond.selects RX1 yX1_begin yX1_begin, Cond.initialized RX1]
def wsX1_init_r2 : List Cond := [Cond.code yX1_begin cX1_begin 3 none, Cond.fieldLink RX1 39 "CubeMin" "inputCount" "I", Cond.methodLink RX1 53 yX0_clear, Cond.instanceMethod yX0_clear, Cond.selects RX0 yX0_clear yX0_clear, Cond.code yX0_clear cX0_clear 1 none, Cond.methodLink RX1 119 yX1_fillPointCubes, Cond.instanceMethod yX1_fillPointCubes, Cond.selects RX1 yX1_fillPointCubes yX1_fillPointCubes, Cond.code yX1_fillPointCubes cX1_fillPointCubes 4 none]
def wsX1_init : List Cond := .code yX1_init cX1_init 1 none :: ((wsX1_init_r1 ++ wsX1_init_r2) ++ wsX00 ++ wsX10)
def wsX1_start : List Cond := .code yX1_start cX1_start 2 (some .boolean) :: ([.methodLink RX1 35 yX1_begin, .instanceMethod yX1_begin, .selects RX1 yX1_begin yX1_begin, .initialized RX1, .code yX1_begin cX1_begin 3 none, .fieldLink RX1 39 "CubeMin" "inputCount" "I", .fieldLink RX1 12 "CubeMin" "onList" "LCubeMin$CubeList;", .fieldLink RX1 16 "CubeMin" "dcList" "LCubeMin$CubeList;", .fieldLink RX1 19 "CubeMin" "coverList" "LCubeMin$CubeList;", .fieldLink RX1 29 "CubeMin" "kinds" "[I", .methodLink RX1 53 yX0_clear, .instanceMethod yX0_clear, .selects RX0 yX0_clear yX0_clear, .initialized RX0, .code yX0_clear cX0_clear 1 none, .fieldLink RX0 15 "CubeMin$CubeList" "count" "I", .methodLink RX1 119 yX1_fillPointCubes, .instanceMethod yX1_fillPointCubes, .selects RX1 yX1_fillPointCubes yX1_fillPointCubes, .code yX1_fillPointCubes cX1_fillPointCubes 4 none, .fieldLink RX1 25 "CubeMin" "pointCubes" "[I"] ++ wsX10 ++ wsX00)
def wsX1_inputs : List Cond := .code yX1_inputs cX1_inputs 1 (some .int) :: ([.fieldLink RX1 39 "CubeMin" "inputCount" "I"] ++ wsX10)
def wsX1_isCube : List Cond := .code yX1_isCube cX1_isCube 2 (some .boolean) :: ([.fieldLink RX1 39 "CubeMin" "inputCount" "I"] ++ wsX10)
def wsX1_pointCount : List Cond := .code yX1_pointCount cX1_pointCount 1 (some .int) :: ([.fieldLink RX1 39 "CubeMin" "inputCount" "I"] ++ wsX10)
def wsX1_isInCube : List Cond := .code yX1_isInCube cX1_isInCube 3 (some .boolean) :: ([.fieldLink RX1 25 "CubeMin" "pointCubes" "[I"] ++ wsX10)
def wsX1_markWanted : List Cond := .code yX1_markWanted cX1_markWanted 4 none :: ([.fieldLink RX1 29 "CubeMin" "kinds" "[I", .methodLink RX1 122 yX1_pointCount, .instanceMethod yX1_pointCount, .selects RX1 yX1_pointCount yX1_pointCount, .initialized RX1, .code yX1_pointCount cX1_pointCount 1 (some .int), .fieldLink RX1 39 "CubeMin" "inputCount" "I", .methodLink RX1 125 yX1_isInCube, .instanceMethod yX1_isInCube, .selects RX1 yX1_isInCube yX1_isInCube, .code yX1_isInCube cX1_isInCube 3 (some .boolean), .fieldLink RX1 25 "CubeMin" "pointCubes" "[I"] ++ wsX10)
def wsX1_on_r1 : List Cond := [Cond.fieldLink RX1 12 "CubeMin" "onList" "LCubeMin$CubeList;", Cond.fieldLink RX1 19 "CubeMin" "coverList" "LCubeMin$CubeList;", Cond.methodLink RX1 43 yX1_isCube, Cond.instanceMethod yX1_isCube, Cond.selects RX1 yX1_isCube yX1_isCube, Cond.initialized RX1, Cond.code yX1_isCube cX1_isCube 2 (some .boolean), Cond.fieldLink RX1 39 "CubeMin" "inputCount" "I", Cond.methodLink RX1 47 yX0_append, Cond.instanceMethod yX0_append, Cond.selects RX0 yX0_append yX0_append, Cond.initialized RX0, Cond.code yX0_append cX0_append 2 (some .boolean), Cond.fieldLink RX0 15 "CubeMin$CubeList" "count" "I", Cond.fieldLink RX0 9 "CubeMin$CubeList" "cubes" "[I", Cond.methodLink RX1 50 yX1_markWanted, Cond.instanceMethod yX1_markWanted, Cond.selects RX1 yX1_markWanted yX1_markWanted, Cond.code yX1_markWanted cX1_markWanted 4 none, Cond.fieldLink RX1 29 "CubeMin" "kinds" "[I", Cond.methodLink RX1 122 yX1_pointCount, Cond.instanceMethod yX1_pointCount, Cond.selects RX1 yX1_pointCount yX1_pointCount, Cond.code yX1_pointCount cX1_pointCount 1 (some .int)]
def wsX1_on_r2 : List Cond := [Cond.methodLink RX1 125 yX1_isInCube, Cond.instanceMethod yX1_isInCube, Cond.selects RX1 yX1_isInCube yX1_isInCube, Cond.code yX1_isInCube cX1_isInCube 3 (some .boolean), Cond.fieldLink RX1 25 "CubeMin" "pointCubes" "[I", Cond.methodLink RX1 53 yX0_clear, Cond.instanceMethod yX0_clear, Cond.selects RX0 yX0_clear yX0_clear, Cond.code yX0_clear cX0_clear 1 none]
def wsX1_on : List Cond := .code yX1_on cX1_on 2 (some .boolean) :: ((wsX1_on_r1 ++ wsX1_on_r2) ++ wsX10 ++ wsX00)
def wsX1_markIndifferent : List Cond := .code yX1_markIndifferent cX1_markIndifferent 4 none :: ([.fieldLink RX1 29 "CubeMin" "kinds" "[I", .methodLink RX1 122 yX1_pointCount, .instanceMethod yX1_pointCount, .selects RX1 yX1_pointCount yX1_pointCount, .initialized RX1, .code yX1_pointCount cX1_pointCount 1 (some .int), .fieldLink RX1 39 "CubeMin" "inputCount" "I", .methodLink RX1 125 yX1_isInCube, .instanceMethod yX1_isInCube, .selects RX1 yX1_isInCube yX1_isInCube, .code yX1_isInCube cX1_isInCube 3 (some .boolean), .fieldLink RX1 25 "CubeMin" "pointCubes" "[I"] ++ wsX10)
def wsX1_dc_r1 : List Cond := [Cond.fieldLink RX1 16 "CubeMin" "dcList" "LCubeMin$CubeList;", Cond.fieldLink RX1 19 "CubeMin" "coverList" "LCubeMin$CubeList;", Cond.methodLink RX1 43 yX1_isCube, Cond.instanceMethod yX1_isCube, Cond.selects RX1 yX1_isCube yX1_isCube, Cond.initialized RX1, Cond.code yX1_isCube cX1_isCube 2 (some .boolean), Cond.fieldLink RX1 39 "CubeMin" "inputCount" "I", Cond.methodLink RX1 47 yX0_append, Cond.instanceMethod yX0_append, Cond.selects RX0 yX0_append yX0_append, Cond.initialized RX0, Cond.code yX0_append cX0_append 2 (some .boolean), Cond.fieldLink RX0 15 "CubeMin$CubeList" "count" "I", Cond.fieldLink RX0 9 "CubeMin$CubeList" "cubes" "[I", Cond.methodLink RX1 56 yX1_markIndifferent, Cond.instanceMethod yX1_markIndifferent, Cond.selects RX1 yX1_markIndifferent yX1_markIndifferent, Cond.code yX1_markIndifferent cX1_markIndifferent 4 none, Cond.fieldLink RX1 29 "CubeMin" "kinds" "[I", Cond.methodLink RX1 122 yX1_pointCount, Cond.instanceMethod yX1_pointCount, Cond.selects RX1 yX1_pointCount yX1_pointCount, Cond.code yX1_pointCount cX1_pointCount 1 (some .int)]
def wsX1_dc_r2 : List Cond := [Cond.methodLink RX1 125 yX1_isInCube, Cond.instanceMethod yX1_isInCube, Cond.selects RX1 yX1_isInCube yX1_isInCube, Cond.code yX1_isInCube cX1_isInCube 3 (some .boolean), Cond.fieldLink RX1 25 "CubeMin" "pointCubes" "[I", Cond.methodLink RX1 53 yX0_clear, Cond.instanceMethod yX0_clear, Cond.selects RX0 yX0_clear yX0_clear, Cond.code yX0_clear cX0_clear 1 none]
def wsX1_dc : List Cond := .code yX1_dc cX1_dc 2 (some .boolean) :: ((wsX1_dc_r1 ++ wsX1_dc_r2) ++ wsX10 ++ wsX00)
def wsX1_listAt : List Cond := .code yX1_listAt cX1_listAt 2 (some (.object "CubeMin$CubeList")) :: ([.fieldLink RX1 12 "CubeMin" "onList" "LCubeMin$CubeList;", .fieldLink RX1 16 "CubeMin" "dcList" "LCubeMin$CubeList;", .fieldLink RX1 19 "CubeMin" "coverList" "LCubeMin$CubeList;"] ++ wsX10)
def wsX1_size : List Cond := .code yX1_size cX1_size 3 (some .int) :: ([.methodLink RX1 59 yX1_listAt, .instanceMethod yX1_listAt, .selects RX1 yX1_listAt yX1_listAt, .initialized RX1, .code yX1_listAt cX1_listAt 2 (some (.object "CubeMin$CubeList")), .fieldLink RX1 12 "CubeMin" "onList" "LCubeMin$CubeList;", .fieldLink RX1 16 "CubeMin" "dcList" "LCubeMin$CubeList;", .fieldLink RX1 19 "CubeMin" "coverList" "LCubeMin$CubeList;", .methodLink RX1 63 yX0_length, .instanceMethod yX0_length, .selects RX0 yX0_length yX0_length, .initialized RX0, .code yX0_length cX0_length 1 (some .int), .fieldLink RX0 15 "CubeMin$CubeList" "count" "I"] ++ wsX10 ++ wsX00)
def wsX1_cube : List Cond := .code yX1_cube cX1_cube 4 (some .int) :: ([.methodLink RX1 59 yX1_listAt, .instanceMethod yX1_listAt, .selects RX1 yX1_listAt yX1_listAt, .initialized RX1, .code yX1_listAt cX1_listAt 2 (some (.object "CubeMin$CubeList")), .fieldLink RX1 12 "CubeMin" "onList" "LCubeMin$CubeList;", .fieldLink RX1 16 "CubeMin" "dcList" "LCubeMin$CubeList;", .fieldLink RX1 19 "CubeMin" "coverList" "LCubeMin$CubeList;", .methodLink RX1 67 yX0_at, .instanceMethod yX0_at, .selects RX0 yX0_at yX0_at, .initialized RX0, .code yX0_at cX0_at 2 (some .int), .fieldLink RX0 15 "CubeMin$CubeList" "count" "I", .fieldLink RX0 9 "CubeMin$CubeList" "cubes" "[I"] ++ wsX10 ++ wsX00)
def wsX1_freed : List Cond := .code yX1_freed cX1_freed 2 (some .int) :: ([])
def wsX1_countLiterals : List Cond := .code yX1_countLiterals cX1_countLiterals 6 (some .int) :: ([.fieldLink RX1 39 "CubeMin" "inputCount" "I", .methodLink RX1 63 yX0_length, .instanceMethod yX0_length, .selects RX0 yX0_length yX0_length, .initialized RX0, .code yX0_length cX0_length 1 (some .int), .fieldLink RX0 15 "CubeMin$CubeList" "count" "I", .methodLink RX1 67 yX0_at, .instanceMethod yX0_at, .selects RX0 yX0_at yX0_at, .code yX0_at cX0_at 2 (some .int), .fieldLink RX0 9 "CubeMin$CubeList" "cubes" "[I", .methodLink RX1 129 yX1_freed, .static yX1_freed, .initialized RX1, .code yX1_freed cX1_freed 2 (some .int)] ++ wsX10 ++ wsX00)
def wsX1_literals_r1 : List Cond := [Cond.methodLink RX1 59 yX1_listAt, Cond.instanceMethod yX1_listAt, Cond.selects RX1 yX1_listAt yX1_listAt, Cond.initialized RX1, Cond.code yX1_listAt cX1_listAt 2 (some (.object "CubeMin$CubeList")), Cond.fieldLink RX1 12 "CubeMin" "onList" "LCubeMin$CubeList;", Cond.fieldLink RX1 16 "CubeMin" "dcList" "LCubeMin$CubeList;", Cond.fieldLink RX1 19 "CubeMin" "coverList" "LCubeMin$CubeList;", Cond.methodLink RX1 71 yX1_countLiterals, Cond.instanceMethod yX1_countLiterals, Cond.selects RX1 yX1_countLiterals yX1_countLiterals, Cond.code yX1_countLiterals cX1_countLiterals 6 (some .int), Cond.fieldLink RX1 39 "CubeMin" "inputCount" "I", Cond.methodLink RX1 63 yX0_length, Cond.instanceMethod yX0_length, Cond.selects RX0 yX0_length yX0_length, Cond.initialized RX0, Cond.code yX0_length cX0_length 1 (some .int), Cond.fieldLink RX0 15 "CubeMin$CubeList" "count" "I", Cond.methodLink RX1 67 yX0_at, Cond.instanceMethod yX0_at, Cond.selects RX0 yX0_at yX0_at, Cond.code yX0_at cX0_at 2 (some .int), Cond.fieldLink RX0 9 "CubeMin$CubeList" "cubes" "[I"]
def wsX1_literals_r2 : List Cond := [Cond.methodLink RX1 129 yX1_freed, Cond.static yX1_freed, Cond.code yX1_freed cX1_freed 2 (some .int)]
def wsX1_literals : List Cond := .code yX1_literals cX1_literals 3 (some .int) :: ((wsX1_literals_r1 ++ wsX1_literals_r2) ++ wsX10 ++ wsX00)
def wsX1_isPoint : List Cond := .code yX1_isPoint cX1_isPoint 2 (some .boolean) :: ([.methodLink RX1 122 yX1_pointCount, .instanceMethod yX1_pointCount, .selects RX1 yX1_pointCount yX1_pointCount, .initialized RX1, .code yX1_pointCount cX1_pointCount 1 (some .int), .fieldLink RX1 39 "CubeMin" "inputCount" "I"] ++ wsX10)
def wsX1_kind : List Cond := .code yX1_kind cX1_kind 2 (some .int) :: ([.fieldLink RX1 29 "CubeMin" "kinds" "[I", .methodLink RX1 75 yX1_isPoint, .instanceMethod yX1_isPoint, .selects RX1 yX1_isPoint yX1_isPoint, .initialized RX1, .code yX1_isPoint cX1_isPoint 2 (some .boolean), .methodLink RX1 122 yX1_pointCount, .instanceMethod yX1_pointCount, .selects RX1 yX1_pointCount yX1_pointCount, .code yX1_pointCount cX1_pointCount 1 (some .int), .fieldLink RX1 39 "CubeMin" "inputCount" "I"] ++ wsX10)
def wsX1_isInList : List Cond := .code yX1_isInList cX1_isInList 4 (some .boolean) :: ([.methodLink RX1 63 yX0_length, .instanceMethod yX0_length, .selects RX0 yX0_length yX0_length, .initialized RX0, .code yX0_length cX0_length 1 (some .int), .fieldLink RX0 15 "CubeMin$CubeList" "count" "I", .methodLink RX1 67 yX0_at, .instanceMethod yX0_at, .selects RX0 yX0_at yX0_at, .code yX0_at cX0_at 2 (some .int), .fieldLink RX0 9 "CubeMin$CubeList" "cubes" "[I", .methodLink RX1 125 yX1_isInCube, .instanceMethod yX1_isInCube, .selects RX1 yX1_isInCube yX1_isInCube, .initialized RX1, .code yX1_isInCube cX1_isInCube 3 (some .boolean), .fieldLink RX1 25 "CubeMin" "pointCubes" "[I"] ++ wsX00 ++ wsX10)
def wsX1_holds_r1 : List Cond := [Cond.methodLink RX1 59 yX1_listAt, Cond.instanceMethod yX1_listAt, Cond.selects RX1 yX1_listAt yX1_listAt, Cond.initialized RX1, Cond.code yX1_listAt cX1_listAt 2 (some (.object "CubeMin$CubeList")), Cond.fieldLink RX1 12 "CubeMin" "onList" "LCubeMin$CubeList;", Cond.fieldLink RX1 16 "CubeMin" "dcList" "LCubeMin$CubeList;", Cond.fieldLink RX1 19 "CubeMin" "coverList" "LCubeMin$CubeList;", Cond.methodLink RX1 75 yX1_isPoint, Cond.instanceMethod yX1_isPoint, Cond.selects RX1 yX1_isPoint yX1_isPoint, Cond.code yX1_isPoint cX1_isPoint 2 (some .boolean), Cond.methodLink RX1 122 yX1_pointCount, Cond.instanceMethod yX1_pointCount, Cond.selects RX1 yX1_pointCount yX1_pointCount, Cond.code yX1_pointCount cX1_pointCount 1 (some .int), Cond.fieldLink RX1 39 "CubeMin" "inputCount" "I", Cond.methodLink RX1 78 yX1_isInList, Cond.instanceMethod yX1_isInList, Cond.selects RX1 yX1_isInList yX1_isInList, Cond.code yX1_isInList cX1_isInList 4 (some .boolean), Cond.methodLink RX1 63 yX0_length, Cond.instanceMethod yX0_length, Cond.selects RX0 yX0_length yX0_length]
def wsX1_holds_r2 : List Cond := [Cond.initialized RX0, Cond.code yX0_length cX0_length 1 (some .int), Cond.fieldLink RX0 15 "CubeMin$CubeList" "count" "I", Cond.methodLink RX1 67 yX0_at, Cond.instanceMethod yX0_at, Cond.selects RX0 yX0_at yX0_at, Cond.code yX0_at cX0_at 2 (some .int), Cond.fieldLink RX0 9 "CubeMin$CubeList" "cubes" "[I", Cond.methodLink RX1 125 yX1_isInCube, Cond.instanceMethod yX1_isInCube, Cond.selects RX1 yX1_isInCube yX1_isInCube, Cond.code yX1_isInCube cX1_isInCube 3 (some .boolean), Cond.fieldLink RX1 25 "CubeMin" "pointCubes" "[I"]
def wsX1_holds : List Cond := .code yX1_holds cX1_holds 4 (some .boolean) :: ((wsX1_holds_r1 ++ wsX1_holds_r2) ++ wsX10 ++ wsX00)
def wsX1_countMissing_r1 : List Cond := [Cond.methodLink RX1 122 yX1_pointCount, Cond.instanceMethod yX1_pointCount, Cond.selects RX1 yX1_pointCount yX1_pointCount, Cond.initialized RX1, Cond.code yX1_pointCount cX1_pointCount 1 (some .int), Cond.fieldLink RX1 39 "CubeMin" "inputCount" "I", Cond.methodLink RX1 78 yX1_isInList, Cond.instanceMethod yX1_isInList, Cond.selects RX1 yX1_isInList yX1_isInList, Cond.code yX1_isInList cX1_isInList 4 (some .boolean), Cond.methodLink RX1 63 yX0_length, Cond.instanceMethod yX0_length, Cond.selects RX0 yX0_length yX0_length, Cond.initialized RX0, Cond.code yX0_length cX0_length 1 (some .int), Cond.fieldLink RX0 15 "CubeMin$CubeList" "count" "I", Cond.methodLink RX1 67 yX0_at, Cond.instanceMethod yX0_at, Cond.selects RX0 yX0_at yX0_at, Cond.code yX0_at cX0_at 2 (some .int), Cond.fieldLink RX0 9 "CubeMin$CubeList" "cubes" "[I", Cond.methodLink RX1 125 yX1_isInCube, Cond.instanceMethod yX1_isInCube, Cond.selects RX1 yX1_isInCube yX1_isInCube]
def wsX1_countMissing_r2 : List Cond := [Cond.code yX1_isInCube cX1_isInCube 3 (some .boolean), Cond.fieldLink RX1 25 "CubeMin" "pointCubes" "[I"]
def wsX1_countMissing : List Cond := .code yX1_countMissing cX1_countMissing 5 (some .int) :: ((wsX1_countMissing_r1 ++ wsX1_countMissing_r2) ++ wsX10 ++ wsX00)
def wsX1_missing_r1 : List Cond := [Cond.methodLink RX1 59 yX1_listAt, Cond.instanceMethod yX1_listAt, Cond.selects RX1 yX1_listAt yX1_listAt, Cond.initialized RX1, Cond.code yX1_listAt cX1_listAt 2 (some (.object "CubeMin$CubeList")), Cond.fieldLink RX1 12 "CubeMin" "onList" "LCubeMin$CubeList;", Cond.fieldLink RX1 16 "CubeMin" "dcList" "LCubeMin$CubeList;", Cond.fieldLink RX1 19 "CubeMin" "coverList" "LCubeMin$CubeList;", Cond.methodLink RX1 82 yX1_countMissing, Cond.instanceMethod yX1_countMissing, Cond.selects RX1 yX1_countMissing yX1_countMissing, Cond.code yX1_countMissing cX1_countMissing 5 (some .int), Cond.methodLink RX1 122 yX1_pointCount, Cond.instanceMethod yX1_pointCount, Cond.selects RX1 yX1_pointCount yX1_pointCount, Cond.code yX1_pointCount cX1_pointCount 1 (some .int), Cond.fieldLink RX1 39 "CubeMin" "inputCount" "I", Cond.methodLink RX1 78 yX1_isInList, Cond.instanceMethod yX1_isInList, Cond.selects RX1 yX1_isInList yX1_isInList, Cond.code yX1_isInList cX1_isInList 4 (some .boolean), Cond.methodLink RX1 63 yX0_length, Cond.instanceMethod yX0_length, Cond.selects RX0 yX0_length yX0_length]
def wsX1_missing_r2 : List Cond := [Cond.initialized RX0, Cond.code yX0_length cX0_length 1 (some .int), Cond.fieldLink RX0 15 "CubeMin$CubeList" "count" "I", Cond.methodLink RX1 67 yX0_at, Cond.instanceMethod yX0_at, Cond.selects RX0 yX0_at yX0_at, Cond.code yX0_at cX0_at 2 (some .int), Cond.fieldLink RX0 9 "CubeMin$CubeList" "cubes" "[I", Cond.methodLink RX1 125 yX1_isInCube, Cond.instanceMethod yX1_isInCube, Cond.selects RX1 yX1_isInCube yX1_isInCube, Cond.code yX1_isInCube cX1_isInCube 3 (some .boolean), Cond.fieldLink RX1 25 "CubeMin" "pointCubes" "[I"]
def wsX1_missing : List Cond := .code yX1_missing cX1_missing 3 (some .int) :: ((wsX1_missing_r1 ++ wsX1_missing_r2) ++ wsX10 ++ wsX00)
def wsX1_tautology_r1 : List Cond := [Cond.methodLink RX1 59 yX1_listAt, Cond.instanceMethod yX1_listAt, Cond.selects RX1 yX1_listAt yX1_listAt, Cond.initialized RX1, Cond.code yX1_listAt cX1_listAt 2 (some (.object "CubeMin$CubeList")), Cond.fieldLink RX1 12 "CubeMin" "onList" "LCubeMin$CubeList;", Cond.fieldLink RX1 16 "CubeMin" "dcList" "LCubeMin$CubeList;", Cond.fieldLink RX1 19 "CubeMin" "coverList" "LCubeMin$CubeList;", Cond.methodLink RX1 82 yX1_countMissing, Cond.instanceMethod yX1_countMissing, Cond.selects RX1 yX1_countMissing yX1_countMissing, Cond.code yX1_countMissing cX1_countMissing 5 (some .int), Cond.methodLink RX1 122 yX1_pointCount, Cond.instanceMethod yX1_pointCount, Cond.selects RX1 yX1_pointCount yX1_pointCount, Cond.code yX1_pointCount cX1_pointCount 1 (some .int), Cond.fieldLink RX1 39 "CubeMin" "inputCount" "I", Cond.methodLink RX1 78 yX1_isInList, Cond.instanceMethod yX1_isInList, Cond.selects RX1 yX1_isInList yX1_isInList, Cond.code yX1_isInList cX1_isInList 4 (some .boolean), Cond.methodLink RX1 63 yX0_length, Cond.instanceMethod yX0_length, Cond.selects RX0 yX0_length yX0_length]
def wsX1_tautology_r2 : List Cond := [Cond.initialized RX0, Cond.code yX0_length cX0_length 1 (some .int), Cond.fieldLink RX0 15 "CubeMin$CubeList" "count" "I", Cond.methodLink RX1 67 yX0_at, Cond.instanceMethod yX0_at, Cond.selects RX0 yX0_at yX0_at, Cond.code yX0_at cX0_at 2 (some .int), Cond.fieldLink RX0 9 "CubeMin$CubeList" "cubes" "[I", Cond.methodLink RX1 125 yX1_isInCube, Cond.instanceMethod yX1_isInCube, Cond.selects RX1 yX1_isInCube yX1_isInCube, Cond.code yX1_isInCube cX1_isInCube 3 (some .boolean), Cond.fieldLink RX1 25 "CubeMin" "pointCubes" "[I"]
def wsX1_tautology : List Cond := .code yX1_tautology cX1_tautology 3 (some .boolean) :: ((wsX1_tautology_r1 ++ wsX1_tautology_r2) ++ wsX10 ++ wsX00)
def wsX1_agree_r1 : List Cond := [Cond.fieldLink RX1 29 "CubeMin" "kinds" "[I", Cond.methodLink RX1 122 yX1_pointCount, Cond.instanceMethod yX1_pointCount, Cond.selects RX1 yX1_pointCount yX1_pointCount, Cond.initialized RX1, Cond.code yX1_pointCount cX1_pointCount 1 (some .int), Cond.fieldLink RX1 39 "CubeMin" "inputCount" "I", Cond.methodLink RX1 78 yX1_isInList, Cond.instanceMethod yX1_isInList, Cond.selects RX1 yX1_isInList yX1_isInList, Cond.code yX1_isInList cX1_isInList 4 (some .boolean), Cond.methodLink RX1 63 yX0_length, Cond.instanceMethod yX0_length, Cond.selects RX0 yX0_length yX0_length, Cond.initialized RX0, Cond.code yX0_length cX0_length 1 (some .int), Cond.fieldLink RX0 15 "CubeMin$CubeList" "count" "I", Cond.methodLink RX1 67 yX0_at, Cond.instanceMethod yX0_at, Cond.selects RX0 yX0_at yX0_at, Cond.code yX0_at cX0_at 2 (some .int), Cond.fieldLink RX0 9 "CubeMin$CubeList" "cubes" "[I", Cond.methodLink RX1 125 yX1_isInCube, Cond.instanceMethod yX1_isInCube]
def wsX1_agree_r2 : List Cond := [Cond.selects RX1 yX1_isInCube yX1_isInCube, Cond.code yX1_isInCube cX1_isInCube 3 (some .boolean), Cond.fieldLink RX1 25 "CubeMin" "pointCubes" "[I"]
def wsX1_agree : List Cond := .code yX1_agree cX1_agree 5 (some .boolean) :: ((wsX1_agree_r1 ++ wsX1_agree_r2) ++ wsX10 ++ wsX00)
def wsX1_same_r1 : List Cond := [Cond.methodLink RX1 59 yX1_listAt, Cond.instanceMethod yX1_listAt, Cond.selects RX1 yX1_listAt yX1_listAt, Cond.initialized RX1, Cond.code yX1_listAt cX1_listAt 2 (some (.object "CubeMin$CubeList")), Cond.fieldLink RX1 12 "CubeMin" "onList" "LCubeMin$CubeList;", Cond.fieldLink RX1 16 "CubeMin" "dcList" "LCubeMin$CubeList;", Cond.fieldLink RX1 19 "CubeMin" "coverList" "LCubeMin$CubeList;", Cond.methodLink RX1 85 yX1_agree, Cond.instanceMethod yX1_agree, Cond.selects RX1 yX1_agree yX1_agree, Cond.code yX1_agree cX1_agree 5 (some .boolean), Cond.fieldLink RX1 29 "CubeMin" "kinds" "[I", Cond.methodLink RX1 122 yX1_pointCount, Cond.instanceMethod yX1_pointCount, Cond.selects RX1 yX1_pointCount yX1_pointCount, Cond.code yX1_pointCount cX1_pointCount 1 (some .int), Cond.fieldLink RX1 39 "CubeMin" "inputCount" "I", Cond.methodLink RX1 78 yX1_isInList, Cond.instanceMethod yX1_isInList, Cond.selects RX1 yX1_isInList yX1_isInList, Cond.code yX1_isInList cX1_isInList 4 (some .boolean), Cond.methodLink RX1 63 yX0_length, Cond.instanceMethod yX0_length]
def wsX1_same_r2 : List Cond := [Cond.selects RX0 yX0_length yX0_length, Cond.initialized RX0, Cond.code yX0_length cX0_length 1 (some .int), Cond.fieldLink RX0 15 "CubeMin$CubeList" "count" "I", Cond.methodLink RX1 67 yX0_at, Cond.instanceMethod yX0_at, Cond.selects RX0 yX0_at yX0_at, Cond.code yX0_at cX0_at 2 (some .int), Cond.fieldLink RX0 9 "CubeMin$CubeList" "cubes" "[I", Cond.methodLink RX1 125 yX1_isInCube, Cond.instanceMethod yX1_isInCube, Cond.selects RX1 yX1_isInCube yX1_isInCube, Cond.code yX1_isInCube cX1_isInCube 3 (some .boolean), Cond.fieldLink RX1 25 "CubeMin" "pointCubes" "[I"]
def wsX1_same : List Cond := .code yX1_same cX1_same 5 (some .boolean) :: ((wsX1_same_r1 ++ wsX1_same_r2) ++ wsX10 ++ wsX00)
def wsX1_isVoid : List Cond := .code yX1_isVoid cX1_isVoid 3 (some .boolean) :: ([.fieldLink RX1 39 "CubeMin" "inputCount" "I"] ++ wsX10)
def wsX1_touches : List Cond := .code yX1_touches cX1_touches 4 (some .boolean) :: ([.fieldLink RX1 29 "CubeMin" "kinds" "[I", .methodLink RX1 122 yX1_pointCount, .instanceMethod yX1_pointCount, .selects RX1 yX1_pointCount yX1_pointCount, .initialized RX1, .code yX1_pointCount cX1_pointCount 1 (some .int), .fieldLink RX1 39 "CubeMin" "inputCount" "I", .methodLink RX1 125 yX1_isInCube, .instanceMethod yX1_isInCube, .selects RX1 yX1_isInCube yX1_isInCube, .code yX1_isInCube cX1_isInCube 3 (some .boolean), .fieldLink RX1 25 "CubeMin" "pointCubes" "[I"] ++ wsX10)
def wsX1_cannotGrow : List Cond := .code yX1_cannotGrow cX1_cannotGrow 4 (some .boolean) :: ([.fieldLink RX1 39 "CubeMin" "inputCount" "I", .methodLink RX1 129 yX1_freed, .static yX1_freed, .initialized RX1, .code yX1_freed cX1_freed 2 (some .int), .methodLink RX1 92 yX1_touches, .instanceMethod yX1_touches, .selects RX1 yX1_touches yX1_touches, .code yX1_touches cX1_touches 4 (some .boolean), .fieldLink RX1 29 "CubeMin" "kinds" "[I", .methodLink RX1 122 yX1_pointCount, .instanceMethod yX1_pointCount, .selects RX1 yX1_pointCount yX1_pointCount, .code yX1_pointCount cX1_pointCount 1 (some .int), .methodLink RX1 125 yX1_isInCube, .instanceMethod yX1_isInCube, .selects RX1 yX1_isInCube yX1_isInCube, .code yX1_isInCube cX1_isInCube 3 (some .boolean), .fieldLink RX1 25 "CubeMin" "pointCubes" "[I"] ++ wsX10)
def wsX1_prime_r1 : List Cond := [Cond.methodLink RX1 59 yX1_listAt, Cond.instanceMethod yX1_listAt, Cond.selects RX1 yX1_listAt yX1_listAt, Cond.initialized RX1, Cond.code yX1_listAt cX1_listAt 2 (some (.object "CubeMin$CubeList")), Cond.fieldLink RX1 12 "CubeMin" "onList" "LCubeMin$CubeList;", Cond.fieldLink RX1 16 "CubeMin" "dcList" "LCubeMin$CubeList;", Cond.fieldLink RX1 19 "CubeMin" "coverList" "LCubeMin$CubeList;", Cond.methodLink RX1 67 yX0_at, Cond.instanceMethod yX0_at, Cond.selects RX0 yX0_at yX0_at, Cond.initialized RX0, Cond.code yX0_at cX0_at 2 (some .int), Cond.fieldLink RX0 15 "CubeMin$CubeList" "count" "I", Cond.fieldLink RX0 9 "CubeMin$CubeList" "cubes" "[I", Cond.methodLink RX1 89 yX1_isVoid, Cond.instanceMethod yX1_isVoid, Cond.selects RX1 yX1_isVoid yX1_isVoid, Cond.code yX1_isVoid cX1_isVoid 3 (some .boolean), Cond.fieldLink RX1 39 "CubeMin" "inputCount" "I", Cond.methodLink RX1 92 yX1_touches, Cond.instanceMethod yX1_touches, Cond.selects RX1 yX1_touches yX1_touches, Cond.code yX1_touches cX1_touches 4 (some .boolean)]
def wsX1_prime_r2 : List Cond := [Cond.fieldLink RX1 29 "CubeMin" "kinds" "[I", Cond.methodLink RX1 122 yX1_pointCount, Cond.instanceMethod yX1_pointCount, Cond.selects RX1 yX1_pointCount yX1_pointCount, Cond.code yX1_pointCount cX1_pointCount 1 (some .int), Cond.methodLink RX1 125 yX1_isInCube, Cond.instanceMethod yX1_isInCube, Cond.selects RX1 yX1_isInCube yX1_isInCube, Cond.code yX1_isInCube cX1_isInCube 3 (some .boolean), Cond.fieldLink RX1 25 "CubeMin" "pointCubes" "[I", Cond.methodLink RX1 95 yX1_cannotGrow, Cond.instanceMethod yX1_cannotGrow, Cond.selects RX1 yX1_cannotGrow yX1_cannotGrow, Cond.code yX1_cannotGrow cX1_cannotGrow 4 (some .boolean), Cond.methodLink RX1 129 yX1_freed, Cond.static yX1_freed, Cond.code yX1_freed cX1_freed 2 (some .int)]
def wsX1_prime : List Cond := .code yX1_prime cX1_prime 5 (some .boolean) :: ((wsX1_prime_r1 ++ wsX1_prime_r2) ++ wsX10 ++ wsX00)
def wsX1_widened : List Cond := .code yX1_widened cX1_widened 7 (some .int) :: ([.fieldLink RX1 39 "CubeMin" "inputCount" "I", .methodLink RX1 129 yX1_freed, .static yX1_freed, .initialized RX1, .code yX1_freed cX1_freed 2 (some .int), .methodLink RX1 92 yX1_touches, .instanceMethod yX1_touches, .selects RX1 yX1_touches yX1_touches, .code yX1_touches cX1_touches 4 (some .boolean), .fieldLink RX1 29 "CubeMin" "kinds" "[I", .methodLink RX1 122 yX1_pointCount, .instanceMethod yX1_pointCount, .selects RX1 yX1_pointCount yX1_pointCount, .code yX1_pointCount cX1_pointCount 1 (some .int), .methodLink RX1 125 yX1_isInCube, .instanceMethod yX1_isInCube, .selects RX1 yX1_isInCube yX1_isInCube, .code yX1_isInCube cX1_isInCube 3 (some .boolean), .fieldLink RX1 25 "CubeMin" "pointCubes" "[I"] ++ wsX10)
def wsX1_widen_r1 : List Cond := [Cond.methodLink RX1 43 yX1_isCube, Cond.instanceMethod yX1_isCube, Cond.selects RX1 yX1_isCube yX1_isCube, Cond.initialized RX1, Cond.code yX1_isCube cX1_isCube 2 (some .boolean), Cond.fieldLink RX1 39 "CubeMin" "inputCount" "I", Cond.methodLink RX1 89 yX1_isVoid, Cond.instanceMethod yX1_isVoid, Cond.selects RX1 yX1_isVoid yX1_isVoid, Cond.code yX1_isVoid cX1_isVoid 3 (some .boolean), Cond.methodLink RX1 92 yX1_touches, Cond.instanceMethod yX1_touches, Cond.selects RX1 yX1_touches yX1_touches, Cond.code yX1_touches cX1_touches 4 (some .boolean), Cond.fieldLink RX1 29 "CubeMin" "kinds" "[I", Cond.methodLink RX1 122 yX1_pointCount, Cond.instanceMethod yX1_pointCount, Cond.selects RX1 yX1_pointCount yX1_pointCount, Cond.code yX1_pointCount cX1_pointCount 1 (some .int), Cond.methodLink RX1 125 yX1_isInCube, Cond.instanceMethod yX1_isInCube, Cond.selects RX1 yX1_isInCube yX1_isInCube, Cond.code yX1_isInCube cX1_isInCube 3 (some .boolean), Cond.fieldLink RX1 25 "CubeMin" "pointCubes" "[I"]
def wsX1_widen_r2 : List Cond := [Cond.methodLink RX1 98 yX1_widened, Cond.instanceMethod yX1_widened, Cond.selects RX1 yX1_widened yX1_widened, Cond.code yX1_widened cX1_widened 7 (some .int), Cond.methodLink RX1 129 yX1_freed, Cond.static yX1_freed, Cond.code yX1_freed cX1_freed 2 (some .int)]
def wsX1_widen : List Cond := .code yX1_widen cX1_widen 2 (some .int) :: ((wsX1_widen_r1 ++ wsX1_widen_r2) ++ wsX10)
def wsX1_fillCover_r1 : List Cond := [Cond.fieldLink RX1 19 "CubeMin" "coverList" "LCubeMin$CubeList;", Cond.fieldLink RX1 12 "CubeMin" "onList" "LCubeMin$CubeList;", Cond.methodLink RX1 53 yX0_clear, Cond.instanceMethod yX0_clear, Cond.selects RX0 yX0_clear yX0_clear, Cond.initialized RX0, Cond.code yX0_clear cX0_clear 1 none, Cond.fieldLink RX0 15 "CubeMin$CubeList" "count" "I", Cond.methodLink RX1 63 yX0_length, Cond.instanceMethod yX0_length, Cond.selects RX0 yX0_length yX0_length, Cond.code yX0_length cX0_length 1 (some .int), Cond.methodLink RX1 67 yX0_at, Cond.instanceMethod yX0_at, Cond.selects RX0 yX0_at yX0_at, Cond.code yX0_at cX0_at 2 (some .int), Cond.fieldLink RX0 9 "CubeMin$CubeList" "cubes" "[I", Cond.methodLink RX1 89 yX1_isVoid, Cond.instanceMethod yX1_isVoid, Cond.selects RX1 yX1_isVoid yX1_isVoid, Cond.initialized RX1, Cond.code yX1_isVoid cX1_isVoid 3 (some .boolean), Cond.fieldLink RX1 39 "CubeMin" "inputCount" "I", Cond.methodLink RX1 47 yX0_append]
def wsX1_fillCover_r2 : List Cond := [Cond.instanceMethod yX0_append, Cond.selects RX0 yX0_append yX0_append, Cond.code yX0_append cX0_append 2 (some .boolean)]
def wsX1_fillCover : List Cond := .code yX1_fillCover cX1_fillCover 3 none :: ((wsX1_fillCover_r1 ++ wsX1_fillCover_r2) ++ wsX10 ++ wsX00)
def wsX1_addToHolders : List Cond := .code yX1_addToHolders cX1_addToHolders 5 none :: ([.fieldLink RX1 32 "CubeMin" "holders" "[I", .methodLink RX1 122 yX1_pointCount, .instanceMethod yX1_pointCount, .selects RX1 yX1_pointCount yX1_pointCount, .initialized RX1, .code yX1_pointCount cX1_pointCount 1 (some .int), .fieldLink RX1 39 "CubeMin" "inputCount" "I", .methodLink RX1 125 yX1_isInCube, .instanceMethod yX1_isInCube, .selects RX1 yX1_isInCube yX1_isInCube, .code yX1_isInCube cX1_isInCube 3 (some .boolean), .fieldLink RX1 25 "CubeMin" "pointCubes" "[I"] ++ wsX10)
def wsX1_countHolders_r1 : List Cond := [Cond.fieldLink RX1 32 "CubeMin" "holders" "[I", Cond.methodLink RX1 63 yX0_length, Cond.instanceMethod yX0_length, Cond.selects RX0 yX0_length yX0_length, Cond.initialized RX0, Cond.code yX0_length cX0_length 1 (some .int), Cond.fieldLink RX0 15 "CubeMin$CubeList" "count" "I", Cond.methodLink RX1 67 yX0_at, Cond.instanceMethod yX0_at, Cond.selects RX0 yX0_at yX0_at, Cond.code yX0_at cX0_at 2 (some .int), Cond.fieldLink RX0 9 "CubeMin$CubeList" "cubes" "[I", Cond.methodLink RX1 146 yX1_addToHolders, Cond.instanceMethod yX1_addToHolders, Cond.selects RX1 yX1_addToHolders yX1_addToHolders, Cond.initialized RX1, Cond.code yX1_addToHolders cX1_addToHolders 5 none, Cond.methodLink RX1 122 yX1_pointCount, Cond.instanceMethod yX1_pointCount, Cond.selects RX1 yX1_pointCount yX1_pointCount, Cond.code yX1_pointCount cX1_pointCount 1 (some .int), Cond.fieldLink RX1 39 "CubeMin" "inputCount" "I", Cond.methodLink RX1 125 yX1_isInCube, Cond.instanceMethod yX1_isInCube]
def wsX1_countHolders_r2 : List Cond := [Cond.selects RX1 yX1_isInCube yX1_isInCube, Cond.code yX1_isInCube cX1_isInCube 3 (some .boolean), Cond.fieldLink RX1 25 "CubeMin" "pointCubes" "[I"]
def wsX1_countHolders : List Cond := .code yX1_countHolders cX1_countHolders 3 none :: ((wsX1_countHolders_r1 ++ wsX1_countHolders_r2) ++ wsX10 ++ wsX00)
def wsX1_ownPart : List Cond := .code yX1_ownPart cX1_ownPart 5 (some .int) :: ([.fieldLink RX1 29 "CubeMin" "kinds" "[I", .fieldLink RX1 32 "CubeMin" "holders" "[I", .fieldLink RX1 25 "CubeMin" "pointCubes" "[I", .methodLink RX1 122 yX1_pointCount, .instanceMethod yX1_pointCount, .selects RX1 yX1_pointCount yX1_pointCount, .initialized RX1, .code yX1_pointCount cX1_pointCount 1 (some .int), .fieldLink RX1 39 "CubeMin" "inputCount" "I", .methodLink RX1 125 yX1_isInCube, .instanceMethod yX1_isInCube, .selects RX1 yX1_isInCube yX1_isInCube, .code yX1_isInCube cX1_isInCube 3 (some .boolean)] ++ wsX10)
def wsX1_dropNeedless_r1 : List Cond := [Cond.methodLink RX1 140 yX1_countHolders, Cond.instanceMethod yX1_countHolders, Cond.selects RX1 yX1_countHolders yX1_countHolders, Cond.initialized RX1, Cond.code yX1_countHolders cX1_countHolders 3 none, Cond.fieldLink RX1 32 "CubeMin" "holders" "[I", Cond.methodLink RX1 63 yX0_length, Cond.instanceMethod yX0_length, Cond.selects RX0 yX0_length yX0_length, Cond.initialized RX0, Cond.code yX0_length cX0_length 1 (some .int), Cond.fieldLink RX0 15 "CubeMin$CubeList" "count" "I", Cond.methodLink RX1 67 yX0_at, Cond.instanceMethod yX0_at, Cond.selects RX0 yX0_at yX0_at, Cond.code yX0_at cX0_at 2 (some .int), Cond.fieldLink RX0 9 "CubeMin$CubeList" "cubes" "[I", Cond.methodLink RX1 146 yX1_addToHolders, Cond.instanceMethod yX1_addToHolders, Cond.selects RX1 yX1_addToHolders yX1_addToHolders, Cond.code yX1_addToHolders cX1_addToHolders 5 none, Cond.methodLink RX1 122 yX1_pointCount, Cond.instanceMethod yX1_pointCount, Cond.selects RX1 yX1_pointCount yX1_pointCount]
def wsX1_dropNeedless_r2 : List Cond := [Cond.code yX1_pointCount cX1_pointCount 1 (some .int), Cond.fieldLink RX1 39 "CubeMin" "inputCount" "I", Cond.methodLink RX1 125 yX1_isInCube, Cond.instanceMethod yX1_isInCube, Cond.selects RX1 yX1_isInCube yX1_isInCube, Cond.code yX1_isInCube cX1_isInCube 3 (some .boolean), Cond.fieldLink RX1 25 "CubeMin" "pointCubes" "[I", Cond.methodLink RX1 143 yX1_ownPart, Cond.instanceMethod yX1_ownPart, Cond.selects RX1 yX1_ownPart yX1_ownPart, Cond.code yX1_ownPart cX1_ownPart 5 (some .int), Cond.fieldLink RX1 29 "CubeMin" "kinds" "[I", Cond.methodLink RX1 149 yX0_takeOut, Cond.instanceMethod yX0_takeOut, Cond.selects RX0 yX0_takeOut yX0_takeOut, Cond.code yX0_takeOut cX0_takeOut 3 none]
def wsX1_dropNeedless : List Cond := .code yX1_dropNeedless cX1_dropNeedless 4 none :: ((wsX1_dropNeedless_r1 ++ wsX1_dropNeedless_r2) ++ wsX10 ++ wsX00)
def wsX1_makePass_r1 : List Cond := [Cond.methodLink RX1 63 yX0_length, Cond.instanceMethod yX0_length, Cond.selects RX0 yX0_length yX0_length, Cond.initialized RX0, Cond.code yX0_length cX0_length 1 (some .int), Cond.fieldLink RX0 15 "CubeMin$CubeList" "count" "I", Cond.methodLink RX1 67 yX0_at, Cond.instanceMethod yX0_at, Cond.selects RX0 yX0_at yX0_at, Cond.code yX0_at cX0_at 2 (some .int), Cond.fieldLink RX0 9 "CubeMin$CubeList" "cubes" "[I", Cond.methodLink RX1 98 yX1_widened, Cond.instanceMethod yX1_widened, Cond.selects RX1 yX1_widened yX1_widened, Cond.initialized RX1, Cond.code yX1_widened cX1_widened 7 (some .int), Cond.fieldLink RX1 39 "CubeMin" "inputCount" "I", Cond.methodLink RX1 129 yX1_freed, Cond.static yX1_freed, Cond.code yX1_freed cX1_freed 2 (some .int), Cond.methodLink RX1 92 yX1_touches, Cond.instanceMethod yX1_touches, Cond.selects RX1 yX1_touches yX1_touches, Cond.code yX1_touches cX1_touches 4 (some .boolean)]
def wsX1_makePass_r2 : List Cond := [Cond.fieldLink RX1 29 "CubeMin" "kinds" "[I", Cond.methodLink RX1 122 yX1_pointCount, Cond.instanceMethod yX1_pointCount, Cond.selects RX1 yX1_pointCount yX1_pointCount, Cond.code yX1_pointCount cX1_pointCount 1 (some .int), Cond.methodLink RX1 125 yX1_isInCube, Cond.instanceMethod yX1_isInCube, Cond.selects RX1 yX1_isInCube yX1_isInCube, Cond.code yX1_isInCube cX1_isInCube 3 (some .boolean), Cond.fieldLink RX1 25 "CubeMin" "pointCubes" "[I", Cond.methodLink RX1 133 yX0_put, Cond.instanceMethod yX0_put, Cond.selects RX0 yX0_put yX0_put, Cond.code yX0_put cX0_put 3 none, Cond.methodLink RX1 137 yX1_dropNeedless, Cond.instanceMethod yX1_dropNeedless, Cond.selects RX1 yX1_dropNeedless yX1_dropNeedless, Cond.code yX1_dropNeedless cX1_dropNeedless 4 none, Cond.methodLink RX1 140 yX1_countHolders, Cond.instanceMethod yX1_countHolders, Cond.selects RX1 yX1_countHolders yX1_countHolders, Cond.code yX1_countHolders cX1_countHolders 3 none, Cond.fieldLink RX1 32 "CubeMin" "holders" "[I", Cond.methodLink RX1 146 yX1_addToHolders]
def wsX1_makePass_r3 : List Cond := [Cond.instanceMethod yX1_addToHolders, Cond.selects RX1 yX1_addToHolders yX1_addToHolders, Cond.code yX1_addToHolders cX1_addToHolders 5 none, Cond.methodLink RX1 143 yX1_ownPart, Cond.instanceMethod yX1_ownPart, Cond.selects RX1 yX1_ownPart yX1_ownPart, Cond.code yX1_ownPart cX1_ownPart 5 (some .int), Cond.methodLink RX1 149 yX0_takeOut, Cond.instanceMethod yX0_takeOut, Cond.selects RX0 yX0_takeOut yX0_takeOut, Cond.code yX0_takeOut cX0_takeOut 3 none]
def wsX1_makePass : List Cond := .code yX1_makePass cX1_makePass 4 none :: ((wsX1_makePass_r1 ++ (wsX1_makePass_r2 ++ wsX1_makePass_r3)) ++ wsX00 ++ wsX10)
def wsX1_narrow_r1 : List Cond := [Cond.methodLink RX1 140 yX1_countHolders, Cond.instanceMethod yX1_countHolders, Cond.selects RX1 yX1_countHolders yX1_countHolders, Cond.initialized RX1, Cond.code yX1_countHolders cX1_countHolders 3 none, Cond.fieldLink RX1 32 "CubeMin" "holders" "[I", Cond.methodLink RX1 63 yX0_length, Cond.instanceMethod yX0_length, Cond.selects RX0 yX0_length yX0_length, Cond.initialized RX0, Cond.code yX0_length cX0_length 1 (some .int), Cond.fieldLink RX0 15 "CubeMin$CubeList" "count" "I", Cond.methodLink RX1 67 yX0_at, Cond.instanceMethod yX0_at, Cond.selects RX0 yX0_at yX0_at, Cond.code yX0_at cX0_at 2 (some .int), Cond.fieldLink RX0 9 "CubeMin$CubeList" "cubes" "[I", Cond.methodLink RX1 146 yX1_addToHolders, Cond.instanceMethod yX1_addToHolders, Cond.selects RX1 yX1_addToHolders yX1_addToHolders, Cond.code yX1_addToHolders cX1_addToHolders 5 none, Cond.methodLink RX1 122 yX1_pointCount, Cond.instanceMethod yX1_pointCount, Cond.selects RX1 yX1_pointCount yX1_pointCount]
def wsX1_narrow_r2 : List Cond := [Cond.code yX1_pointCount cX1_pointCount 1 (some .int), Cond.fieldLink RX1 39 "CubeMin" "inputCount" "I", Cond.methodLink RX1 125 yX1_isInCube, Cond.instanceMethod yX1_isInCube, Cond.selects RX1 yX1_isInCube yX1_isInCube, Cond.code yX1_isInCube cX1_isInCube 3 (some .boolean), Cond.fieldLink RX1 25 "CubeMin" "pointCubes" "[I", Cond.methodLink RX1 143 yX1_ownPart, Cond.instanceMethod yX1_ownPart, Cond.selects RX1 yX1_ownPart yX1_ownPart, Cond.code yX1_ownPart cX1_ownPart 5 (some .int), Cond.fieldLink RX1 29 "CubeMin" "kinds" "[I", Cond.methodLink RX1 133 yX0_put, Cond.instanceMethod yX0_put, Cond.selects RX0 yX0_put yX0_put, Cond.code yX0_put cX0_put 3 none]
def wsX1_narrow : List Cond := .code yX1_narrow cX1_narrow 5 none :: ((wsX1_narrow_r1 ++ wsX1_narrow_r2) ++ wsX10 ++ wsX00)
def wsX1_isSmaller : List Cond := .code yX1_isSmaller cX1_isSmaller 3 (some .boolean) :: ([.methodLink RX1 63 yX0_length, .instanceMethod yX0_length, .selects RX0 yX0_length yX0_length, .initialized RX0, .code yX0_length cX0_length 1 (some .int), .fieldLink RX0 15 "CubeMin$CubeList" "count" "I", .methodLink RX1 71 yX1_countLiterals, .instanceMethod yX1_countLiterals, .selects RX1 yX1_countLiterals yX1_countLiterals, .initialized RX1, .code yX1_countLiterals cX1_countLiterals 6 (some .int), .fieldLink RX1 39 "CubeMin" "inputCount" "I", .methodLink RX1 67 yX0_at, .instanceMethod yX0_at, .selects RX0 yX0_at yX0_at, .code yX0_at cX0_at 2 (some .int), .fieldLink RX0 9 "CubeMin$CubeList" "cubes" "[I", .methodLink RX1 129 yX1_freed, .static yX1_freed, .code yX1_freed cX1_freed 2 (some .int)] ++ wsX00 ++ wsX10)
def wsX1_minimize_r1 : List Cond := [Cond.fieldLink RX1 19 "CubeMin" "coverList" "LCubeMin$CubeList;", Cond.fieldLink RX1 22 "CubeMin" "trialList" "LCubeMin$CubeList;", Cond.methodLink RX1 102 yX1_fillCover, Cond.instanceMethod yX1_fillCover, Cond.selects RX1 yX1_fillCover yX1_fillCover, Cond.initialized RX1, Cond.code yX1_fillCover cX1_fillCover 3 none, Cond.fieldLink RX1 12 "CubeMin" "onList" "LCubeMin$CubeList;", Cond.methodLink RX1 53 yX0_clear, Cond.instanceMethod yX0_clear, Cond.selects RX0 yX0_clear yX0_clear, Cond.initialized RX0, Cond.code yX0_clear cX0_clear 1 none, Cond.fieldLink RX0 15 "CubeMin$CubeList" "count" "I", Cond.methodLink RX1 63 yX0_length, Cond.instanceMethod yX0_length, Cond.selects RX0 yX0_length yX0_length, Cond.code yX0_length cX0_length 1 (some .int), Cond.methodLink RX1 67 yX0_at, Cond.instanceMethod yX0_at, Cond.selects RX0 yX0_at yX0_at, Cond.code yX0_at cX0_at 2 (some .int), Cond.fieldLink RX0 9 "CubeMin$CubeList" "cubes" "[I", Cond.methodLink RX1 89 yX1_isVoid]
def wsX1_minimize_r2 : List Cond := [Cond.instanceMethod yX1_isVoid, Cond.selects RX1 yX1_isVoid yX1_isVoid, Cond.code yX1_isVoid cX1_isVoid 3 (some .boolean), Cond.fieldLink RX1 39 "CubeMin" "inputCount" "I", Cond.methodLink RX1 47 yX0_append, Cond.instanceMethod yX0_append, Cond.selects RX0 yX0_append yX0_append, Cond.code yX0_append cX0_append 2 (some .boolean), Cond.methodLink RX1 105 yX1_makePass, Cond.instanceMethod yX1_makePass, Cond.selects RX1 yX1_makePass yX1_makePass, Cond.code yX1_makePass cX1_makePass 4 none, Cond.methodLink RX1 98 yX1_widened, Cond.instanceMethod yX1_widened, Cond.selects RX1 yX1_widened yX1_widened, Cond.code yX1_widened cX1_widened 7 (some .int), Cond.methodLink RX1 129 yX1_freed, Cond.static yX1_freed, Cond.code yX1_freed cX1_freed 2 (some .int), Cond.methodLink RX1 92 yX1_touches, Cond.instanceMethod yX1_touches, Cond.selects RX1 yX1_touches yX1_touches, Cond.code yX1_touches cX1_touches 4 (some .boolean), Cond.fieldLink RX1 29 "CubeMin" "kinds" "[I"]
def wsX1_minimize_r3 : List Cond := [Cond.methodLink RX1 122 yX1_pointCount, Cond.instanceMethod yX1_pointCount, Cond.selects RX1 yX1_pointCount yX1_pointCount, Cond.code yX1_pointCount cX1_pointCount 1 (some .int), Cond.methodLink RX1 125 yX1_isInCube, Cond.instanceMethod yX1_isInCube, Cond.selects RX1 yX1_isInCube yX1_isInCube, Cond.code yX1_isInCube cX1_isInCube 3 (some .boolean), Cond.fieldLink RX1 25 "CubeMin" "pointCubes" "[I", Cond.methodLink RX1 133 yX0_put, Cond.instanceMethod yX0_put, Cond.selects RX0 yX0_put yX0_put, Cond.code yX0_put cX0_put 3 none, Cond.methodLink RX1 137 yX1_dropNeedless, Cond.instanceMethod yX1_dropNeedless, Cond.selects RX1 yX1_dropNeedless yX1_dropNeedless, Cond.code yX1_dropNeedless cX1_dropNeedless 4 none, Cond.methodLink RX1 140 yX1_countHolders, Cond.instanceMethod yX1_countHolders, Cond.selects RX1 yX1_countHolders yX1_countHolders, Cond.code yX1_countHolders cX1_countHolders 3 none, Cond.fieldLink RX1 32 "CubeMin" "holders" "[I", Cond.methodLink RX1 146 yX1_addToHolders, Cond.instanceMethod yX1_addToHolders]
def wsX1_minimize_r4 : List Cond := [Cond.selects RX1 yX1_addToHolders yX1_addToHolders, Cond.code yX1_addToHolders cX1_addToHolders 5 none, Cond.methodLink RX1 143 yX1_ownPart, Cond.instanceMethod yX1_ownPart, Cond.selects RX1 yX1_ownPart yX1_ownPart, Cond.code yX1_ownPart cX1_ownPart 5 (some .int), Cond.methodLink RX1 149 yX0_takeOut, Cond.instanceMethod yX0_takeOut, Cond.selects RX0 yX0_takeOut yX0_takeOut, Cond.code yX0_takeOut cX0_takeOut 3 none, Cond.methodLink RX1 109 yX0_copyFrom, Cond.instanceMethod yX0_copyFrom, Cond.selects RX0 yX0_copyFrom yX0_copyFrom, Cond.code yX0_copyFrom cX0_copyFrom 3 none, Cond.methodLink RX0 19 yX0_length, Cond.methodLink RX0 23 yX0_at, Cond.methodLink RX0 27 yX0_append, Cond.methodLink RX1 113 yX1_narrow, Cond.instanceMethod yX1_narrow, Cond.selects RX1 yX1_narrow yX1_narrow, Cond.code yX1_narrow cX1_narrow 5 none, Cond.methodLink RX1 116 yX1_isSmaller, Cond.instanceMethod yX1_isSmaller, Cond.selects RX1 yX1_isSmaller yX1_isSmaller]
def wsX1_minimize_r5 : List Cond := [Cond.code yX1_isSmaller cX1_isSmaller 3 (some .boolean), Cond.methodLink RX1 71 yX1_countLiterals, Cond.instanceMethod yX1_countLiterals, Cond.selects RX1 yX1_countLiterals yX1_countLiterals, Cond.code yX1_countLiterals cX1_countLiterals 6 (some .int)]
def wsX1_minimize : List Cond := .code yX1_minimize cX1_minimize 3 (some .int) :: ((wsX1_minimize_r1 ++ (wsX1_minimize_r2 ++ (wsX1_minimize_r3 ++ (wsX1_minimize_r4 ++ wsX1_minimize_r5)))) ++ wsX10 ++ wsX00)
def wsX2_init : List Cond := .code yX2_init cX2_init 1 none :: ([.methodLink RX2 1 objectInit, .instanceMethod objectInit, .code objectInit ⟨#[0xb1]⟩ 1 none, .arrayClass .int, .fieldLink RX2 7 "CubeMinModel" "cubes" "[I", .fieldLink RX2 13 "CubeMinModel" "sizes" "[I", .fieldLink RX2 16 "CubeMinModel" "kinds" "[I", .fieldLink RX2 19 "CubeMinModel" "n" "I"] ++ wsX20)
def wsX2_in : List Cond := .code yX2_in cX2_in 4 (some .boolean) :: ([.fieldLink RX2 19 "CubeMinModel" "n" "I"] ++ wsX20)
def wsX2_inList : List Cond := .code yX2_inList cX2_inList 4 (some .boolean) :: ([.fieldLink RX2 13 "CubeMinModel" "sizes" "[I", .fieldLink RX2 7 "CubeMinModel" "cubes" "[I", .methodLink RX2 26 yX2_in, .instanceMethod yX2_in, .selects RX2 yX2_in yX2_in, .initialized RX2, .code yX2_in cX2_in 4 (some .boolean), .fieldLink RX2 19 "CubeMinModel" "n" "I"] ++ wsX20)
def wsX2_sort : List Cond := .code yX2_sort cX2_sort 2 none :: ([.fieldLink RX2 19 "CubeMinModel" "n" "I", .fieldLink RX2 16 "CubeMinModel" "kinds" "[I", .methodLink RX2 30 yX2_inList, .instanceMethod yX2_inList, .selects RX2 yX2_inList yX2_inList, .initialized RX2, .code yX2_inList cX2_inList 4 (some .boolean), .fieldLink RX2 13 "CubeMinModel" "sizes" "[I", .fieldLink RX2 7 "CubeMinModel" "cubes" "[I", .methodLink RX2 26 yX2_in, .instanceMethod yX2_in, .selects RX2 yX2_in yX2_in, .code yX2_in cX2_in 4 (some .boolean)] ++ wsX20)
def wsX2_start : List Cond := .code yX2_start cX2_start 3 (some .boolean) :: ([.fieldLink RX2 19 "CubeMinModel" "n" "I", .fieldLink RX2 13 "CubeMinModel" "sizes" "[I", .methodLink RX2 23 yX2_sort, .instanceMethod yX2_sort, .selects RX2 yX2_sort yX2_sort, .initialized RX2, .code yX2_sort cX2_sort 2 none, .fieldLink RX2 16 "CubeMinModel" "kinds" "[I", .methodLink RX2 30 yX2_inList, .instanceMethod yX2_inList, .selects RX2 yX2_inList yX2_inList, .code yX2_inList cX2_inList 4 (some .boolean), .fieldLink RX2 7 "CubeMinModel" "cubes" "[I", .methodLink RX2 26 yX2_in, .instanceMethod yX2_in, .selects RX2 yX2_in yX2_in, .code yX2_in cX2_in 4 (some .boolean)] ++ wsX20)
def wsX2_inputs : List Cond := .code yX2_inputs cX2_inputs 1 (some .int) :: ([.fieldLink RX2 19 "CubeMinModel" "n" "I"] ++ wsX20)
def wsX2_isCube : List Cond := .code yX2_isCube cX2_isCube 2 (some .boolean) :: ([.fieldLink RX2 19 "CubeMinModel" "n" "I"] ++ wsX20)
def wsX2_isVoid : List Cond := .code yX2_isVoid cX2_isVoid 3 (some .boolean) :: ([.fieldLink RX2 19 "CubeMinModel" "n" "I"] ++ wsX20)
def wsX2_touches : List Cond := .code yX2_touches cX2_touches 3 (some .boolean) :: ([.fieldLink RX2 19 "CubeMinModel" "n" "I", .fieldLink RX2 16 "CubeMinModel" "kinds" "[I", .methodLink RX2 26 yX2_in, .instanceMethod yX2_in, .selects RX2 yX2_in yX2_in, .initialized RX2, .code yX2_in cX2_in 4 (some .boolean)] ++ wsX20)
def wsX2_add : List Cond := .code yX2_add cX2_add 3 (some .boolean) :: ([.fieldLink RX2 13 "CubeMinModel" "sizes" "[I", .fieldLink RX2 7 "CubeMinModel" "cubes" "[I", .methodLink RX2 33 yX2_isCube, .instanceMethod yX2_isCube, .selects RX2 yX2_isCube yX2_isCube, .initialized RX2, .code yX2_isCube cX2_isCube 2 (some .boolean), .fieldLink RX2 19 "CubeMinModel" "n" "I", .methodLink RX2 23 yX2_sort, .instanceMethod yX2_sort, .selects RX2 yX2_sort yX2_sort, .code yX2_sort cX2_sort 2 none, .fieldLink RX2 16 "CubeMinModel" "kinds" "[I", .methodLink RX2 30 yX2_inList, .instanceMethod yX2_inList, .selects RX2 yX2_inList yX2_inList, .code yX2_inList cX2_inList 4 (some .boolean), .methodLink RX2 26 yX2_in, .instanceMethod yX2_in, .selects RX2 yX2_in yX2_in, .code yX2_in cX2_in 4 (some .boolean)] ++ wsX20)
def wsX2_on_r1 : List Cond := [Cond.methodLink RX2 37 yX2_add, Cond.instanceMethod yX2_add, Cond.selects RX2 yX2_add yX2_add, Cond.initialized RX2, Cond.code yX2_add cX2_add 3 (some .boolean), Cond.fieldLink RX2 13 "CubeMinModel" "sizes" "[I", Cond.fieldLink RX2 7 "CubeMinModel" "cubes" "[I", Cond.methodLink RX2 33 yX2_isCube, Cond.instanceMethod yX2_isCube, Cond.selects RX2 yX2_isCube yX2_isCube, Cond.code yX2_isCube cX2_isCube 2 (some .boolean), Cond.fieldLink RX2 19 "CubeMinModel" "n" "I", Cond.methodLink RX2 23 yX2_sort, Cond.instanceMethod yX2_sort, Cond.selects RX2 yX2_sort yX2_sort, Cond.code yX2_sort cX2_sort 2 none, Cond.fieldLink RX2 16 "CubeMinModel" "kinds" "[I", Cond.methodLink RX2 30 yX2_inList, Cond.instanceMethod yX2_inList, Cond.selects RX2 yX2_inList yX2_inList, Cond.code yX2_inList cX2_inList 4 (some .boolean), Cond.methodLink RX2 26 yX2_in, Cond.instanceMethod yX2_in, Cond.selects RX2 yX2_in yX2_in]
def wsX2_on_r2 : List Cond := [Cond.code yX2_in cX2_in 4 (some .boolean)]
def wsX2_on : List Cond := .code yX2_on cX2_on 2 (some .boolean) :: ((wsX2_on_r1 ++ wsX2_on_r2) ++ wsX20)
def wsX2_dc_r1 : List Cond := [Cond.methodLink RX2 37 yX2_add, Cond.instanceMethod yX2_add, Cond.selects RX2 yX2_add yX2_add, Cond.initialized RX2, Cond.code yX2_add cX2_add 3 (some .boolean), Cond.fieldLink RX2 13 "CubeMinModel" "sizes" "[I", Cond.fieldLink RX2 7 "CubeMinModel" "cubes" "[I", Cond.methodLink RX2 33 yX2_isCube, Cond.instanceMethod yX2_isCube, Cond.selects RX2 yX2_isCube yX2_isCube, Cond.code yX2_isCube cX2_isCube 2 (some .boolean), Cond.fieldLink RX2 19 "CubeMinModel" "n" "I", Cond.methodLink RX2 23 yX2_sort, Cond.instanceMethod yX2_sort, Cond.selects RX2 yX2_sort yX2_sort, Cond.code yX2_sort cX2_sort 2 none, Cond.fieldLink RX2 16 "CubeMinModel" "kinds" "[I", Cond.methodLink RX2 30 yX2_inList, Cond.instanceMethod yX2_inList, Cond.selects RX2 yX2_inList yX2_inList, Cond.code yX2_inList cX2_inList 4 (some .boolean), Cond.methodLink RX2 26 yX2_in, Cond.instanceMethod yX2_in, Cond.selects RX2 yX2_in yX2_in]
def wsX2_dc_r2 : List Cond := [Cond.code yX2_in cX2_in 4 (some .boolean)]
def wsX2_dc : List Cond := .code yX2_dc cX2_dc 2 (some .boolean) :: ((wsX2_dc_r1 ++ wsX2_dc_r2) ++ wsX20)
def wsX2_isList : List Cond := .code yX2_isList cX2_isList 1 (some .boolean) :: ([])
def wsX2_size : List Cond := .code yX2_size cX2_size 2 (some .int) :: ([.fieldLink RX2 13 "CubeMinModel" "sizes" "[I", .methodLink RX2 40 yX2_isList, .static yX2_isList, .initialized RX2, .code yX2_isList cX2_isList 1 (some .boolean)] ++ wsX20)
def wsX2_cube : List Cond := .code yX2_cube cX2_cube 3 (some .int) :: ([.fieldLink RX2 13 "CubeMinModel" "sizes" "[I", .fieldLink RX2 7 "CubeMinModel" "cubes" "[I", .methodLink RX2 40 yX2_isList, .static yX2_isList, .initialized RX2, .code yX2_isList cX2_isList 1 (some .boolean)] ++ wsX20)
def wsX2_literalsOf : List Cond := .code yX2_literalsOf cX2_literalsOf 5 (some .int) :: ([.fieldLink RX2 13 "CubeMinModel" "sizes" "[I", .fieldLink RX2 19 "CubeMinModel" "n" "I", .fieldLink RX2 7 "CubeMinModel" "cubes" "[I"] ++ wsX20)
def wsX2_literals : List Cond := .code yX2_literals cX2_literals 2 (some .int) :: ([.methodLink RX2 40 yX2_isList, .static yX2_isList, .initialized RX2, .code yX2_isList cX2_isList 1 (some .boolean), .methodLink RX2 43 yX2_literalsOf, .instanceMethod yX2_literalsOf, .selects RX2 yX2_literalsOf yX2_literalsOf, .code yX2_literalsOf cX2_literalsOf 5 (some .int), .fieldLink RX2 13 "CubeMinModel" "sizes" "[I", .fieldLink RX2 19 "CubeMinModel" "n" "I", .fieldLink RX2 7 "CubeMinModel" "cubes" "[I"] ++ wsX20)
def wsX2_isPoint : List Cond := .code yX2_isPoint cX2_isPoint 2 (some .boolean) :: ([.fieldLink RX2 19 "CubeMinModel" "n" "I"] ++ wsX20)
def wsX2_kind : List Cond := .code yX2_kind cX2_kind 2 (some .int) :: ([.fieldLink RX2 16 "CubeMinModel" "kinds" "[I", .methodLink RX2 47 yX2_isPoint, .instanceMethod yX2_isPoint, .selects RX2 yX2_isPoint yX2_isPoint, .initialized RX2, .code yX2_isPoint cX2_isPoint 2 (some .boolean), .fieldLink RX2 19 "CubeMinModel" "n" "I"] ++ wsX20)
def wsX2_holds : List Cond := .code yX2_holds cX2_holds 3 (some .boolean) :: ([.methodLink RX2 40 yX2_isList, .static yX2_isList, .initialized RX2, .code yX2_isList cX2_isList 1 (some .boolean), .methodLink RX2 47 yX2_isPoint, .instanceMethod yX2_isPoint, .selects RX2 yX2_isPoint yX2_isPoint, .code yX2_isPoint cX2_isPoint 2 (some .boolean), .fieldLink RX2 19 "CubeMinModel" "n" "I", .methodLink RX2 30 yX2_inList, .instanceMethod yX2_inList, .selects RX2 yX2_inList yX2_inList, .code yX2_inList cX2_inList 4 (some .boolean), .fieldLink RX2 13 "CubeMinModel" "sizes" "[I", .fieldLink RX2 7 "CubeMinModel" "cubes" "[I", .methodLink RX2 26 yX2_in, .instanceMethod yX2_in, .selects RX2 yX2_in yX2_in, .code yX2_in cX2_in 4 (some .boolean)] ++ wsX20)
def wsX2_missing : List Cond := .code yX2_missing cX2_missing 4 (some .int) :: ([.fieldLink RX2 19 "CubeMinModel" "n" "I", .methodLink RX2 40 yX2_isList, .static yX2_isList, .initialized RX2, .code yX2_isList cX2_isList 1 (some .boolean), .methodLink RX2 30 yX2_inList, .instanceMethod yX2_inList, .selects RX2 yX2_inList yX2_inList, .code yX2_inList cX2_inList 4 (some .boolean), .fieldLink RX2 13 "CubeMinModel" "sizes" "[I", .fieldLink RX2 7 "CubeMinModel" "cubes" "[I", .methodLink RX2 26 yX2_in, .instanceMethod yX2_in, .selects RX2 yX2_in yX2_in, .code yX2_in cX2_in 4 (some .boolean)] ++ wsX20)
def wsX2_tautology : List Cond := .code yX2_tautology cX2_tautology 2 (some .boolean) :: ([.methodLink RX2 50 yX2_missing, .instanceMethod yX2_missing, .selects RX2 yX2_missing yX2_missing, .initialized RX2, .code yX2_missing cX2_missing 4 (some .int), .fieldLink RX2 19 "CubeMinModel" "n" "I", .methodLink RX2 40 yX2_isList, .static yX2_isList, .code yX2_isList cX2_isList 1 (some .boolean), .methodLink RX2 30 yX2_inList, .instanceMethod yX2_inList, .selects RX2 yX2_inList yX2_inList, .code yX2_inList cX2_inList 4 (some .boolean), .fieldLink RX2 13 "CubeMinModel" "sizes" "[I", .fieldLink RX2 7 "CubeMinModel" "cubes" "[I", .methodLink RX2 26 yX2_in, .instanceMethod yX2_in, .selects RX2 yX2_in yX2_in, .code yX2_in cX2_in 4 (some .boolean)] ++ wsX20)
def wsX2_same : List Cond := .code yX2_same cX2_same 4 (some .boolean) :: ([.fieldLink RX2 19 "CubeMinModel" "n" "I", .fieldLink RX2 16 "CubeMinModel" "kinds" "[I", .methodLink RX2 40 yX2_isList, .static yX2_isList, .initialized RX2, .code yX2_isList cX2_isList 1 (some .boolean), .methodLink RX2 30 yX2_inList, .instanceMethod yX2_inList, .selects RX2 yX2_inList yX2_inList, .code yX2_inList cX2_inList 4 (some .boolean), .fieldLink RX2 13 "CubeMinModel" "sizes" "[I", .fieldLink RX2 7 "CubeMinModel" "cubes" "[I", .methodLink RX2 26 yX2_in, .instanceMethod yX2_in, .selects RX2 yX2_in yX2_in, .code yX2_in cX2_in 4 (some .boolean)] ++ wsX20)
def wsX2_prime : List Cond := .code yX2_prime cX2_prime 6 (some .boolean) :: ([.fieldLink RX2 19 "CubeMinModel" "n" "I", .methodLink RX2 53 yX2_cube, .instanceMethod yX2_cube, .selects RX2 yX2_cube yX2_cube, .initialized RX2, .code yX2_cube cX2_cube 3 (some .int), .fieldLink RX2 13 "CubeMinModel" "sizes" "[I", .fieldLink RX2 7 "CubeMinModel" "cubes" "[I", .methodLink RX2 40 yX2_isList, .static yX2_isList, .code yX2_isList cX2_isList 1 (some .boolean), .methodLink RX2 57 yX2_isVoid, .instanceMethod yX2_isVoid, .selects RX2 yX2_isVoid yX2_isVoid, .code yX2_isVoid cX2_isVoid 3 (some .boolean), .methodLink RX2 60 yX2_touches, .instanceMethod yX2_touches, .selects RX2 yX2_touches yX2_touches, .code yX2_touches cX2_touches 3 (some .boolean), .fieldLink RX2 16 "CubeMinModel" "kinds" "[I", .methodLink RX2 26 yX2_in, .instanceMethod yX2_in, .selects RX2 yX2_in yX2_in, .code yX2_in cX2_in 4 (some .boolean)] ++ wsX20)
def wsX2_widened : List Cond := .code yX2_widened cX2_widened 7 (some .int) :: ([.fieldLink RX2 19 "CubeMinModel" "n" "I", .methodLink RX2 60 yX2_touches, .instanceMethod yX2_touches, .selects RX2 yX2_touches yX2_touches, .initialized RX2, .code yX2_touches cX2_touches 3 (some .boolean), .fieldLink RX2 16 "CubeMinModel" "kinds" "[I", .methodLink RX2 26 yX2_in, .instanceMethod yX2_in, .selects RX2 yX2_in yX2_in, .code yX2_in cX2_in 4 (some .boolean)] ++ wsX20)
def wsX2_widen : List Cond := .code yX2_widen cX2_widen 2 (some .int) :: ([.methodLink RX2 33 yX2_isCube, .instanceMethod yX2_isCube, .selects RX2 yX2_isCube yX2_isCube, .initialized RX2, .code yX2_isCube cX2_isCube 2 (some .boolean), .fieldLink RX2 19 "CubeMinModel" "n" "I", .methodLink RX2 57 yX2_isVoid, .instanceMethod yX2_isVoid, .selects RX2 yX2_isVoid yX2_isVoid, .code yX2_isVoid cX2_isVoid 3 (some .boolean), .methodLink RX2 60 yX2_touches, .instanceMethod yX2_touches, .selects RX2 yX2_touches yX2_touches, .code yX2_touches cX2_touches 3 (some .boolean), .fieldLink RX2 16 "CubeMinModel" "kinds" "[I", .methodLink RX2 26 yX2_in, .instanceMethod yX2_in, .selects RX2 yX2_in yX2_in, .code yX2_in cX2_in 4 (some .boolean), .methodLink RX2 63 yX2_widened, .instanceMethod yX2_widened, .selects RX2 yX2_widened yX2_widened, .code yX2_widened cX2_widened 7 (some .int)] ++ wsX20)
def wsX2_inAnother : List Cond := .code yX2_inAnother cX2_inAnother 5 (some .boolean) :: ([.fieldLink RX2 13 "CubeMinModel" "sizes" "[I", .fieldLink RX2 7 "CubeMinModel" "cubes" "[I", .methodLink RX2 26 yX2_in, .instanceMethod yX2_in, .selects RX2 yX2_in yX2_in, .initialized RX2, .code yX2_in cX2_in 4 (some .boolean), .fieldLink RX2 19 "CubeMinModel" "n" "I"] ++ wsX20)
def wsX2_isNeeded : List Cond := .code yX2_isNeeded cX2_isNeeded 4 (some .boolean) :: ([.fieldLink RX2 19 "CubeMinModel" "n" "I", .fieldLink RX2 16 "CubeMinModel" "kinds" "[I", .fieldLink RX2 7 "CubeMinModel" "cubes" "[I", .methodLink RX2 26 yX2_in, .instanceMethod yX2_in, .selects RX2 yX2_in yX2_in, .initialized RX2, .code yX2_in cX2_in 4 (some .boolean), .methodLink RX2 67 yX2_inAnother, .instanceMethod yX2_inAnother, .selects RX2 yX2_inAnother yX2_inAnother, .code yX2_inAnother cX2_inAnother 5 (some .boolean), .fieldLink RX2 13 "CubeMinModel" "sizes" "[I"] ++ wsX20)
def wsX2_pass_r1 : List Cond := [Cond.fieldLink RX2 13 "CubeMinModel" "sizes" "[I", Cond.fieldLink RX2 7 "CubeMinModel" "cubes" "[I", Cond.methodLink RX2 63 yX2_widened, Cond.instanceMethod yX2_widened, Cond.selects RX2 yX2_widened yX2_widened, Cond.initialized RX2, Cond.code yX2_widened cX2_widened 7 (some .int), Cond.fieldLink RX2 19 "CubeMinModel" "n" "I", Cond.methodLink RX2 60 yX2_touches, Cond.instanceMethod yX2_touches, Cond.selects RX2 yX2_touches yX2_touches, Cond.code yX2_touches cX2_touches 3 (some .boolean), Cond.fieldLink RX2 16 "CubeMinModel" "kinds" "[I", Cond.methodLink RX2 26 yX2_in, Cond.instanceMethod yX2_in, Cond.selects RX2 yX2_in yX2_in, Cond.code yX2_in cX2_in 4 (some .boolean), Cond.methodLink RX2 71 yX2_isNeeded, Cond.instanceMethod yX2_isNeeded, Cond.selects RX2 yX2_isNeeded yX2_isNeeded, Cond.code yX2_isNeeded cX2_isNeeded 4 (some .boolean), Cond.methodLink RX2 67 yX2_inAnother, Cond.instanceMethod yX2_inAnother, Cond.selects RX2 yX2_inAnother yX2_inAnother]
def wsX2_pass_r2 : List Cond := [Cond.code yX2_inAnother cX2_inAnother 5 (some .boolean)]
def wsX2_pass : List Cond := .code yX2_pass cX2_pass 5 none :: ((wsX2_pass_r1 ++ wsX2_pass_r2) ++ wsX20)
def wsX2_narrow : List Cond := .code yX2_narrow cX2_narrow 6 none :: ([.fieldLink RX2 13 "CubeMinModel" "sizes" "[I", .fieldLink RX2 19 "CubeMinModel" "n" "I", .fieldLink RX2 16 "CubeMinModel" "kinds" "[I", .fieldLink RX2 7 "CubeMinModel" "cubes" "[I", .methodLink RX2 26 yX2_in, .instanceMethod yX2_in, .selects RX2 yX2_in yX2_in, .initialized RX2, .code yX2_in cX2_in 4 (some .boolean), .methodLink RX2 67 yX2_inAnother, .instanceMethod yX2_inAnother, .selects RX2 yX2_inAnother yX2_inAnother, .code yX2_inAnother cX2_inAnother 5 (some .boolean)] ++ wsX20)
def wsX2_copy : List Cond := .code yX2_copy cX2_copy 4 none :: ([.fieldLink RX2 13 "CubeMinModel" "sizes" "[I", .fieldLink RX2 7 "CubeMinModel" "cubes" "[I"] ++ wsX20)
def wsX2_minimize_r1 : List Cond := [Cond.fieldLink RX2 13 "CubeMinModel" "sizes" "[I", Cond.fieldLink RX2 7 "CubeMinModel" "cubes" "[I", Cond.methodLink RX2 57 yX2_isVoid, Cond.instanceMethod yX2_isVoid, Cond.selects RX2 yX2_isVoid yX2_isVoid, Cond.initialized RX2, Cond.code yX2_isVoid cX2_isVoid 3 (some .boolean), Cond.fieldLink RX2 19 "CubeMinModel" "n" "I", Cond.methodLink RX2 74 yX2_pass, Cond.instanceMethod yX2_pass, Cond.selects RX2 yX2_pass yX2_pass, Cond.code yX2_pass cX2_pass 5 none, Cond.methodLink RX2 63 yX2_widened, Cond.instanceMethod yX2_widened, Cond.selects RX2 yX2_widened yX2_widened, Cond.code yX2_widened cX2_widened 7 (some .int), Cond.methodLink RX2 60 yX2_touches, Cond.instanceMethod yX2_touches, Cond.selects RX2 yX2_touches yX2_touches, Cond.code yX2_touches cX2_touches 3 (some .boolean), Cond.fieldLink RX2 16 "CubeMinModel" "kinds" "[I", Cond.methodLink RX2 26 yX2_in, Cond.instanceMethod yX2_in, Cond.selects RX2 yX2_in yX2_in]
def wsX2_minimize_r2 : List Cond := [Cond.code yX2_in cX2_in 4 (some .boolean), Cond.methodLink RX2 71 yX2_isNeeded, Cond.instanceMethod yX2_isNeeded, Cond.selects RX2 yX2_isNeeded yX2_isNeeded, Cond.code yX2_isNeeded cX2_isNeeded 4 (some .boolean), Cond.methodLink RX2 67 yX2_inAnother, Cond.instanceMethod yX2_inAnother, Cond.selects RX2 yX2_inAnother yX2_inAnother, Cond.code yX2_inAnother cX2_inAnother 5 (some .boolean), Cond.methodLink RX2 78 yX2_copy, Cond.instanceMethod yX2_copy, Cond.selects RX2 yX2_copy yX2_copy, Cond.code yX2_copy cX2_copy 4 none, Cond.methodLink RX2 82 yX2_narrow, Cond.instanceMethod yX2_narrow, Cond.selects RX2 yX2_narrow yX2_narrow, Cond.code yX2_narrow cX2_narrow 6 none, Cond.methodLink RX2 43 yX2_literalsOf, Cond.instanceMethod yX2_literalsOf, Cond.selects RX2 yX2_literalsOf yX2_literalsOf, Cond.code yX2_literalsOf cX2_literalsOf 5 (some .int)]
def wsX2_minimize : List Cond := .code yX2_minimize cX2_minimize 3 (some .int) :: ((wsX2_minimize_r1 ++ wsX2_minimize_r2) ++ wsX20)
def wsL_law_r1 : List Cond := [Cond.classLink RL 7 RX1, Cond.instantiable RX1 8, Cond.initialized RX1, Cond.classLink RL 10 RX2, Cond.instantiable RX2 4, Cond.initialized RX2, Cond.methodLink RL 9 yX1_init, Cond.instanceMethod yX1_init, Cond.code yX1_init cX1_init 1 none, Cond.methodLink RX1 3 objectInit, Cond.instanceMethod objectInit, Cond.code objectInit ⟨#[0xb1]⟩ 1 none, Cond.classLink RX1 9 RX0, Cond.instantiable RX0 2, Cond.initialized RX0, Cond.fieldLink RX1 12 "CubeMin" "onList" "LCubeMin$CubeList;", Cond.fieldLink RX1 16 "CubeMin" "dcList" "LCubeMin$CubeList;", Cond.fieldLink RX1 19 "CubeMin" "coverList" "LCubeMin$CubeList;", Cond.fieldLink RX1 22 "CubeMin" "trialList" "LCubeMin$CubeList;", Cond.arrayClass .int, Cond.fieldLink RX1 25 "CubeMin" "pointCubes" "[I", Cond.fieldLink RX1 29 "CubeMin" "kinds" "[I", Cond.fieldLink RX1 32 "CubeMin" "holders" "[I", Cond.methodLink RX1 11 yX0_init]
def wsL_law_r2 : List Cond := [Cond.instanceMethod yX0_init, Cond.code yX0_init cX0_init 1 none, Cond.methodLink RX0 3 objectInit, Cond.fieldLink RX0 9 "CubeMin$CubeList" "cubes" "[I", Cond.fieldLink RX0 15 "CubeMin$CubeList" "count" "I", Cond.methodLink RX1 35 yX1_begin, Cond.instanceMethod yX1_begin, Cond.selects RX1 yX1_begin yX1_begin, Cond.code yX1_begin cX1_begin 3 none, Cond.fieldLink RX1 39 "CubeMin" "inputCount" "I", Cond.methodLink RX1 53 yX0_clear, Cond.instanceMethod yX0_clear, Cond.selects RX0 yX0_clear yX0_clear, Cond.code yX0_clear cX0_clear 1 none, Cond.methodLink RX1 119 yX1_fillPointCubes, Cond.instanceMethod yX1_fillPointCubes, Cond.selects RX1 yX1_fillPointCubes yX1_fillPointCubes, Cond.code yX1_fillPointCubes cX1_fillPointCubes 4 none, Cond.methodLink RL 12 yX2_init, Cond.instanceMethod yX2_init, Cond.code yX2_init cX2_init 1 none, Cond.methodLink RX2 1 objectInit, Cond.fieldLink RX2 7 "CubeMinModel" "cubes" "[I", Cond.fieldLink RX2 13 "CubeMinModel" "sizes" "[I"]
def wsL_law_r3 : List Cond := [Cond.fieldLink RX2 16 "CubeMinModel" "kinds" "[I", Cond.fieldLink RX2 19 "CubeMinModel" "n" "I", Cond.methodLink RL 13 yX1_start, Cond.instanceMethod yX1_start, Cond.selects RX1 yX1_start yX1_start, Cond.code yX1_start cX1_start 2 (some .boolean), Cond.methodLink RL 17 yX2_start, Cond.instanceMethod yX2_start, Cond.selects RX2 yX2_start yX2_start, Cond.code yX2_start cX2_start 3 (some .boolean), Cond.methodLink RX2 23 yX2_sort, Cond.instanceMethod yX2_sort, Cond.selects RX2 yX2_sort yX2_sort, Cond.code yX2_sort cX2_sort 2 none, Cond.methodLink RX2 30 yX2_inList, Cond.instanceMethod yX2_inList, Cond.selects RX2 yX2_inList yX2_inList, Cond.code yX2_inList cX2_inList 4 (some .boolean), Cond.methodLink RX2 26 yX2_in, Cond.instanceMethod yX2_in, Cond.selects RX2 yX2_in yX2_in, Cond.code yX2_in cX2_in 4 (some .boolean), Cond.methodLink RL 18 yX1_inputs, Cond.instanceMethod yX1_inputs]
def wsL_law_r4 : List Cond := [Cond.selects RX1 yX1_inputs yX1_inputs, Cond.code yX1_inputs cX1_inputs 1 (some .int), Cond.methodLink RL 22 yX2_inputs, Cond.instanceMethod yX2_inputs, Cond.selects RX2 yX2_inputs yX2_inputs, Cond.code yX2_inputs cX2_inputs 1 (some .int), Cond.methodLink RL 23 yX1_on, Cond.instanceMethod yX1_on, Cond.selects RX1 yX1_on yX1_on, Cond.code yX1_on cX1_on 2 (some .boolean), Cond.methodLink RX1 43 yX1_isCube, Cond.instanceMethod yX1_isCube, Cond.selects RX1 yX1_isCube yX1_isCube, Cond.code yX1_isCube cX1_isCube 2 (some .boolean), Cond.methodLink RX1 47 yX0_append, Cond.instanceMethod yX0_append, Cond.selects RX0 yX0_append yX0_append, Cond.code yX0_append cX0_append 2 (some .boolean), Cond.methodLink RX1 50 yX1_markWanted, Cond.instanceMethod yX1_markWanted, Cond.selects RX1 yX1_markWanted yX1_markWanted, Cond.code yX1_markWanted cX1_markWanted 4 none, Cond.methodLink RX1 122 yX1_pointCount, Cond.instanceMethod yX1_pointCount]
def wsL_law_r5 : List Cond := [Cond.selects RX1 yX1_pointCount yX1_pointCount, Cond.code yX1_pointCount cX1_pointCount 1 (some .int), Cond.methodLink RX1 125 yX1_isInCube, Cond.instanceMethod yX1_isInCube, Cond.selects RX1 yX1_isInCube yX1_isInCube, Cond.code yX1_isInCube cX1_isInCube 3 (some .boolean), Cond.methodLink RL 26 yX2_on, Cond.instanceMethod yX2_on, Cond.selects RX2 yX2_on yX2_on, Cond.code yX2_on cX2_on 2 (some .boolean), Cond.methodLink RX2 37 yX2_add, Cond.instanceMethod yX2_add, Cond.selects RX2 yX2_add yX2_add, Cond.code yX2_add cX2_add 3 (some .boolean), Cond.methodLink RX2 33 yX2_isCube, Cond.instanceMethod yX2_isCube, Cond.selects RX2 yX2_isCube yX2_isCube, Cond.code yX2_isCube cX2_isCube 2 (some .boolean), Cond.methodLink RL 27 yX1_dc, Cond.instanceMethod yX1_dc, Cond.selects RX1 yX1_dc yX1_dc, Cond.code yX1_dc cX1_dc 2 (some .boolean), Cond.methodLink RX1 56 yX1_markIndifferent, Cond.instanceMethod yX1_markIndifferent]
def wsL_law_r6 : List Cond := [Cond.selects RX1 yX1_markIndifferent yX1_markIndifferent, Cond.code yX1_markIndifferent cX1_markIndifferent 4 none, Cond.methodLink RL 30 yX2_dc, Cond.instanceMethod yX2_dc, Cond.selects RX2 yX2_dc yX2_dc, Cond.code yX2_dc cX2_dc 2 (some .boolean), Cond.methodLink RL 31 yX1_size, Cond.instanceMethod yX1_size, Cond.selects RX1 yX1_size yX1_size, Cond.code yX1_size cX1_size 3 (some .int), Cond.methodLink RX1 59 yX1_listAt, Cond.instanceMethod yX1_listAt, Cond.selects RX1 yX1_listAt yX1_listAt, Cond.code yX1_listAt cX1_listAt 2 (some (.object "CubeMin$CubeList")), Cond.methodLink RX1 63 yX0_length, Cond.instanceMethod yX0_length, Cond.selects RX0 yX0_length yX0_length, Cond.code yX0_length cX0_length 1 (some .int), Cond.methodLink RL 35 yX2_size, Cond.instanceMethod yX2_size, Cond.selects RX2 yX2_size yX2_size, Cond.code yX2_size cX2_size 2 (some .int), Cond.methodLink RX2 40 yX2_isList, Cond.static yX2_isList]
def wsL_law_r7 : List Cond := [Cond.code yX2_isList cX2_isList 1 (some .boolean), Cond.methodLink RL 36 yX1_cube, Cond.instanceMethod yX1_cube, Cond.selects RX1 yX1_cube yX1_cube, Cond.code yX1_cube cX1_cube 4 (some .int), Cond.methodLink RX1 67 yX0_at, Cond.instanceMethod yX0_at, Cond.selects RX0 yX0_at yX0_at, Cond.code yX0_at cX0_at 2 (some .int), Cond.methodLink RL 40 yX2_cube, Cond.instanceMethod yX2_cube, Cond.selects RX2 yX2_cube yX2_cube, Cond.code yX2_cube cX2_cube 3 (some .int), Cond.methodLink RL 41 yX1_literals, Cond.instanceMethod yX1_literals, Cond.selects RX1 yX1_literals yX1_literals, Cond.code yX1_literals cX1_literals 3 (some .int), Cond.methodLink RX1 71 yX1_countLiterals, Cond.instanceMethod yX1_countLiterals, Cond.selects RX1 yX1_countLiterals yX1_countLiterals, Cond.code yX1_countLiterals cX1_countLiterals 6 (some .int), Cond.methodLink RX1 129 yX1_freed, Cond.static yX1_freed, Cond.code yX1_freed cX1_freed 2 (some .int)]
def wsL_law_r8 : List Cond := [Cond.methodLink RL 44 yX2_literals, Cond.instanceMethod yX2_literals, Cond.selects RX2 yX2_literals yX2_literals, Cond.code yX2_literals cX2_literals 2 (some .int), Cond.methodLink RX2 43 yX2_literalsOf, Cond.instanceMethod yX2_literalsOf, Cond.selects RX2 yX2_literalsOf yX2_literalsOf, Cond.code yX2_literalsOf cX2_literalsOf 5 (some .int), Cond.methodLink RL 45 yX1_kind, Cond.instanceMethod yX1_kind, Cond.selects RX1 yX1_kind yX1_kind, Cond.code yX1_kind cX1_kind 2 (some .int), Cond.methodLink RX1 75 yX1_isPoint, Cond.instanceMethod yX1_isPoint, Cond.selects RX1 yX1_isPoint yX1_isPoint, Cond.code yX1_isPoint cX1_isPoint 2 (some .boolean), Cond.methodLink RL 48 yX2_kind, Cond.instanceMethod yX2_kind, Cond.selects RX2 yX2_kind yX2_kind, Cond.code yX2_kind cX2_kind 2 (some .int), Cond.methodLink RX2 47 yX2_isPoint, Cond.instanceMethod yX2_isPoint, Cond.selects RX2 yX2_isPoint yX2_isPoint, Cond.code yX2_isPoint cX2_isPoint 2 (some .boolean)]
def wsL_law_r9 : List Cond := [Cond.methodLink RL 49 yX1_holds, Cond.instanceMethod yX1_holds, Cond.selects RX1 yX1_holds yX1_holds, Cond.code yX1_holds cX1_holds 4 (some .boolean), Cond.methodLink RX1 78 yX1_isInList, Cond.instanceMethod yX1_isInList, Cond.selects RX1 yX1_isInList yX1_isInList, Cond.code yX1_isInList cX1_isInList 4 (some .boolean), Cond.methodLink RL 53 yX2_holds, Cond.instanceMethod yX2_holds, Cond.selects RX2 yX2_holds yX2_holds, Cond.code yX2_holds cX2_holds 3 (some .boolean), Cond.methodLink RL 54 yX1_missing, Cond.instanceMethod yX1_missing, Cond.selects RX1 yX1_missing yX1_missing, Cond.code yX1_missing cX1_missing 3 (some .int), Cond.methodLink RX1 82 yX1_countMissing, Cond.instanceMethod yX1_countMissing, Cond.selects RX1 yX1_countMissing yX1_countMissing, Cond.code yX1_countMissing cX1_countMissing 5 (some .int), Cond.methodLink RL 57 yX2_missing, Cond.instanceMethod yX2_missing, Cond.selects RX2 yX2_missing yX2_missing, Cond.code yX2_missing cX2_missing 4 (some .int)]
def wsL_law_r10 : List Cond := [Cond.methodLink RL 58 yX1_tautology, Cond.instanceMethod yX1_tautology, Cond.selects RX1 yX1_tautology yX1_tautology, Cond.code yX1_tautology cX1_tautology 3 (some .boolean), Cond.methodLink RL 61 yX2_tautology, Cond.instanceMethod yX2_tautology, Cond.selects RX2 yX2_tautology yX2_tautology, Cond.code yX2_tautology cX2_tautology 2 (some .boolean), Cond.methodLink RX2 50 yX2_missing, Cond.methodLink RL 62 yX1_same, Cond.instanceMethod yX1_same, Cond.selects RX1 yX1_same yX1_same, Cond.code yX1_same cX1_same 5 (some .boolean), Cond.methodLink RX1 85 yX1_agree, Cond.instanceMethod yX1_agree, Cond.selects RX1 yX1_agree yX1_agree, Cond.code yX1_agree cX1_agree 5 (some .boolean), Cond.methodLink RL 65 yX2_same, Cond.instanceMethod yX2_same, Cond.selects RX2 yX2_same yX2_same, Cond.code yX2_same cX2_same 4 (some .boolean), Cond.methodLink RL 66 yX1_prime, Cond.instanceMethod yX1_prime, Cond.selects RX1 yX1_prime yX1_prime]
def wsL_law_r11 : List Cond := [Cond.code yX1_prime cX1_prime 5 (some .boolean), Cond.methodLink RX1 89 yX1_isVoid, Cond.instanceMethod yX1_isVoid, Cond.selects RX1 yX1_isVoid yX1_isVoid, Cond.code yX1_isVoid cX1_isVoid 3 (some .boolean), Cond.methodLink RX1 92 yX1_touches, Cond.instanceMethod yX1_touches, Cond.selects RX1 yX1_touches yX1_touches, Cond.code yX1_touches cX1_touches 4 (some .boolean), Cond.methodLink RX1 95 yX1_cannotGrow, Cond.instanceMethod yX1_cannotGrow, Cond.selects RX1 yX1_cannotGrow yX1_cannotGrow, Cond.code yX1_cannotGrow cX1_cannotGrow 4 (some .boolean), Cond.methodLink RL 69 yX2_prime, Cond.instanceMethod yX2_prime, Cond.selects RX2 yX2_prime yX2_prime, Cond.code yX2_prime cX2_prime 6 (some .boolean), Cond.methodLink RX2 53 yX2_cube, Cond.methodLink RX2 57 yX2_isVoid, Cond.instanceMethod yX2_isVoid, Cond.selects RX2 yX2_isVoid yX2_isVoid, Cond.code yX2_isVoid cX2_isVoid 3 (some .boolean), Cond.methodLink RX2 60 yX2_touches, Cond.instanceMethod yX2_touches]
def wsL_law_r12 : List Cond := [Cond.selects RX2 yX2_touches yX2_touches, Cond.code yX2_touches cX2_touches 3 (some .boolean), Cond.methodLink RL 70 yX1_widen, Cond.instanceMethod yX1_widen, Cond.selects RX1 yX1_widen yX1_widen, Cond.code yX1_widen cX1_widen 2 (some .int), Cond.methodLink RX1 98 yX1_widened, Cond.instanceMethod yX1_widened, Cond.selects RX1 yX1_widened yX1_widened, Cond.code yX1_widened cX1_widened 7 (some .int), Cond.methodLink RL 73 yX2_widen, Cond.instanceMethod yX2_widen, Cond.selects RX2 yX2_widen yX2_widen, Cond.code yX2_widen cX2_widen 2 (some .int), Cond.methodLink RX2 63 yX2_widened, Cond.instanceMethod yX2_widened, Cond.selects RX2 yX2_widened yX2_widened, Cond.code yX2_widened cX2_widened 7 (some .int), Cond.methodLink RL 74 yX1_minimize, Cond.instanceMethod yX1_minimize, Cond.selects RX1 yX1_minimize yX1_minimize, Cond.code yX1_minimize cX1_minimize 3 (some .int), Cond.methodLink RX1 102 yX1_fillCover, Cond.instanceMethod yX1_fillCover]
def wsL_law_r13 : List Cond := [Cond.selects RX1 yX1_fillCover yX1_fillCover, Cond.code yX1_fillCover cX1_fillCover 3 none, Cond.methodLink RX1 105 yX1_makePass, Cond.instanceMethod yX1_makePass, Cond.selects RX1 yX1_makePass yX1_makePass, Cond.code yX1_makePass cX1_makePass 4 none, Cond.methodLink RX1 133 yX0_put, Cond.instanceMethod yX0_put, Cond.selects RX0 yX0_put yX0_put, Cond.code yX0_put cX0_put 3 none, Cond.methodLink RX1 137 yX1_dropNeedless, Cond.instanceMethod yX1_dropNeedless, Cond.selects RX1 yX1_dropNeedless yX1_dropNeedless, Cond.code yX1_dropNeedless cX1_dropNeedless 4 none, Cond.methodLink RX1 140 yX1_countHolders, Cond.instanceMethod yX1_countHolders, Cond.selects RX1 yX1_countHolders yX1_countHolders, Cond.code yX1_countHolders cX1_countHolders 3 none, Cond.methodLink RX1 146 yX1_addToHolders, Cond.instanceMethod yX1_addToHolders, Cond.selects RX1 yX1_addToHolders yX1_addToHolders, Cond.code yX1_addToHolders cX1_addToHolders 5 none, Cond.methodLink RX1 143 yX1_ownPart, Cond.instanceMethod yX1_ownPart]
def wsL_law_r14 : List Cond := [Cond.selects RX1 yX1_ownPart yX1_ownPart, Cond.code yX1_ownPart cX1_ownPart 5 (some .int), Cond.methodLink RX1 149 yX0_takeOut, Cond.instanceMethod yX0_takeOut, Cond.selects RX0 yX0_takeOut yX0_takeOut, Cond.code yX0_takeOut cX0_takeOut 3 none, Cond.methodLink RX1 109 yX0_copyFrom, Cond.instanceMethod yX0_copyFrom, Cond.selects RX0 yX0_copyFrom yX0_copyFrom, Cond.code yX0_copyFrom cX0_copyFrom 3 none, Cond.methodLink RX0 19 yX0_length, Cond.methodLink RX0 23 yX0_at, Cond.methodLink RX0 27 yX0_append, Cond.methodLink RX1 113 yX1_narrow, Cond.instanceMethod yX1_narrow, Cond.selects RX1 yX1_narrow yX1_narrow, Cond.code yX1_narrow cX1_narrow 5 none, Cond.methodLink RX1 116 yX1_isSmaller, Cond.instanceMethod yX1_isSmaller, Cond.selects RX1 yX1_isSmaller yX1_isSmaller, Cond.code yX1_isSmaller cX1_isSmaller 3 (some .boolean), Cond.methodLink RL 77 yX2_minimize, Cond.instanceMethod yX2_minimize, Cond.selects RX2 yX2_minimize yX2_minimize]
def wsL_law_r15 : List Cond := [Cond.code yX2_minimize cX2_minimize 3 (some .int), Cond.methodLink RX2 74 yX2_pass, Cond.instanceMethod yX2_pass, Cond.selects RX2 yX2_pass yX2_pass, Cond.code yX2_pass cX2_pass 5 none, Cond.methodLink RX2 71 yX2_isNeeded, Cond.instanceMethod yX2_isNeeded, Cond.selects RX2 yX2_isNeeded yX2_isNeeded, Cond.code yX2_isNeeded cX2_isNeeded 4 (some .boolean), Cond.methodLink RX2 67 yX2_inAnother, Cond.instanceMethod yX2_inAnother, Cond.selects RX2 yX2_inAnother yX2_inAnother, Cond.code yX2_inAnother cX2_inAnother 5 (some .boolean), Cond.methodLink RX2 78 yX2_copy, Cond.instanceMethod yX2_copy, Cond.selects RX2 yX2_copy yX2_copy, Cond.code yX2_copy cX2_copy 4 none, Cond.methodLink RX2 82 yX2_narrow, Cond.instanceMethod yX2_narrow, Cond.selects RX2 yX2_narrow yX2_narrow, Cond.code yX2_narrow cX2_narrow 6 none]
def wsL_law : List Cond := (wsL_law_r1 ++ (wsL_law_r2 ++ (wsL_law_r3 ++ (wsL_law_r4 ++ (wsL_law_r5 ++ (wsL_law_r6 ++ (wsL_law_r7 ++ (wsL_law_r8 ++ (wsL_law_r9 ++ (wsL_law_r10 ++ (wsL_law_r11 ++ (wsL_law_r12 ++ (wsL_law_r13 ++ (wsL_law_r14 ++ wsL_law_r15)))))))))))))) ++ wsX10 ++ wsX20 ++ wsX00 ++ ([] : List Cond)
set_option maxRecDepth 20000 in
theorem wsL_law_in : ∀ w ∈ wsL_law, w ∈ lw_tbl := fun w h => (goodIn_p wsL_law [48, 51, 56, 69, 73, 77, 289, 106, 307, 311, 315, 319, 110, 323, 114, 118, 122, 126, 130, 134, 327, 331, 335, 138, 142, 339, 146, 150, 154, 343, 346, 158, 162, 350, 166, 170, 173, 354, 358, 177, 181, 362, 366, 185, 189, 370, 193, 197, 374, 201, 378, 205, 209, 383, 213, 217, 221, 225, 387, 392, 396, 229, 233, 400, 404, 237, 241, 245, 249, 253, 257, 261, 265, 269, 273, 280, 284, 408, 412, 416, 420, 424, 428] (by decide +kernel) (by decide +kernel) w h).1
theorem inlX0 : ∀ w ∈ wsX00, w ∈ wsL_law := fun _ h => List.mem_append_left _ (List.mem_append_right _ h)
theorem inX0 : ∀ w ∈ wsX00, w ∈ lw_tbl := fun w h => wsL_law_in w (inlX0 w h)
theorem inlX1 : ∀ w ∈ wsX10, w ∈ wsL_law := fun _ h => List.mem_append_left _ (List.mem_append_left _ (List.mem_append_left _ (List.mem_append_right _ h)))
theorem inX1 : ∀ w ∈ wsX10, w ∈ lw_tbl := fun w h => wsL_law_in w (inlX1 w h)
theorem inlX2 : ∀ w ∈ wsX20, w ∈ wsL_law := fun _ h => List.mem_append_left _ (List.mem_append_left _ (List.mem_append_right _ h))
theorem inX2 : ∀ w ∈ wsX20, w ∈ lw_tbl := fun w h => wsL_law_in w (inlX2 w h)
end
section
theorem dX0_init_0 : decode cX0_init 0 = .ok (.aload_n 0, 1) := by decide +kernel
theorem dX0_init_1 : decode cX0_init 1 = .ok (.invokespecial 3, 3) := by decide +kernel
theorem dX0_init_4 : decode cX0_init 4 = .ok (.aload_n 0, 1) := by decide +kernel
theorem dX0_init_5 : decode cX0_init 5 = .ok (.bipush 24, 2) := by decide +kernel
theorem dX0_init_7 : decode cX0_init 7 = .ok (.newarray .int, 2) := by decide +kernel
theorem dX0_init_9 : decode cX0_init 9 = .ok (.putfield 9, 3) := by decide +kernel
theorem dX0_init_12 : decode cX0_init 12 = .ok (.aload_n 0, 1) := by decide +kernel
theorem dX0_init_13 : decode cX0_init 13 = .ok (.iconst 0, 1) := by decide +kernel
theorem dX0_init_14 : decode cX0_init 14 = .ok (.putfield 15, 3) := by decide +kernel
theorem dX0_init_17 : decode cX0_init 17 = .ok (.return_, 1) := by decide +kernel
theorem dX0_length_0 : decode cX0_length 0 = .ok (.aload_n 0, 1) := by decide +kernel
theorem dX0_length_1 : decode cX0_length 1 = .ok (.getfield 15, 3) := by decide +kernel
theorem dX0_length_4 : decode cX0_length 4 = .ok (.ireturn, 1) := by decide +kernel
theorem dX0_clear_0 : decode cX0_clear 0 = .ok (.aload_n 0, 1) := by decide +kernel
theorem dX0_clear_1 : decode cX0_clear 1 = .ok (.iconst 0, 1) := by decide +kernel
theorem dX0_clear_2 : decode cX0_clear 2 = .ok (.putfield 15, 3) := by decide +kernel
theorem dX0_clear_5 : decode cX0_clear 5 = .ok (.return_, 1) := by decide +kernel
theorem dX0_at_0 : decode cX0_at 0 = .ok (.iload_n 1, 1) := by decide +kernel
theorem dX0_at_1 : decode cX0_at 1 = .ok (.ifCond .lt 20, 3) := by decide +kernel
theorem dX0_at_4 : decode cX0_at 4 = .ok (.iload_n 1, 1) := by decide +kernel
theorem dX0_at_5 : decode cX0_at 5 = .ok (.aload_n 0, 1) := by decide +kernel
theorem dX0_at_6 : decode cX0_at 6 = .ok (.getfield 15, 3) := by decide +kernel
theorem dX0_at_9 : decode cX0_at 9 = .ok (.if_icmp .ge 12, 3) := by decide +kernel
theorem dX0_at_12 : decode cX0_at 12 = .ok (.aload_n 0, 1) := by decide +kernel
theorem dX0_at_13 : decode cX0_at 13 = .ok (.getfield 9, 3) := by decide +kernel
theorem dX0_at_16 : decode cX0_at 16 = .ok (.iload_n 1, 1) := by decide +kernel
theorem dX0_at_17 : decode cX0_at 17 = .ok (.iaload, 1) := by decide +kernel
theorem dX0_at_18 : decode cX0_at 18 = .ok (.goto 4, 3) := by decide +kernel
theorem dX0_at_21 : decode cX0_at 21 = .ok (.iconst (-1), 1) := by decide +kernel
theorem dX0_at_22 : decode cX0_at 22 = .ok (.ireturn, 1) := by decide +kernel
theorem dX0_append_0 : decode cX0_append 0 = .ok (.aload_n 0, 1) := by decide +kernel
theorem dX0_append_1 : decode cX0_append 1 = .ok (.getfield 15, 3) := by decide +kernel
theorem dX0_append_4 : decode cX0_append 4 = .ok (.bipush 24, 2) := by decide +kernel
theorem dX0_append_6 : decode cX0_append 6 = .ok (.if_icmp .lt 5, 3) := by decide +kernel
theorem dX0_append_9 : decode cX0_append 9 = .ok (.iconst 0, 1) := by decide +kernel
theorem dX0_append_10 : decode cX0_append 10 = .ok (.ireturn, 1) := by decide +kernel
theorem dX0_append_11 : decode cX0_append 11 = .ok (.aload_n 0, 1) := by decide +kernel
theorem dX0_append_12 : decode cX0_append 12 = .ok (.getfield 9, 3) := by decide +kernel
theorem dX0_append_15 : decode cX0_append 15 = .ok (.aload_n 0, 1) := by decide +kernel
theorem dX0_append_16 : decode cX0_append 16 = .ok (.getfield 15, 3) := by decide +kernel
theorem dX0_append_19 : decode cX0_append 19 = .ok (.iload_n 1, 1) := by decide +kernel
theorem dX0_append_20 : decode cX0_append 20 = .ok (.iastore, 1) := by decide +kernel
theorem dX0_append_21 : decode cX0_append 21 = .ok (.aload_n 0, 1) := by decide +kernel
theorem dX0_append_22 : decode cX0_append 22 = .ok (.dup, 1) := by decide +kernel
theorem dX0_append_23 : decode cX0_append 23 = .ok (.getfield 15, 3) := by decide +kernel
theorem dX0_append_26 : decode cX0_append 26 = .ok (.iconst 1, 1) := by decide +kernel
theorem dX0_append_27 : decode cX0_append 27 = .ok (.iadd, 1) := by decide +kernel
theorem dX0_append_28 : decode cX0_append 28 = .ok (.putfield 15, 3) := by decide +kernel
theorem dX0_append_31 : decode cX0_append 31 = .ok (.iconst 1, 1) := by decide +kernel
theorem dX0_append_32 : decode cX0_append 32 = .ok (.ireturn, 1) := by decide +kernel
theorem dX0_put_0 : decode cX0_put 0 = .ok (.iload_n 1, 1) := by decide +kernel
theorem dX0_put_1 : decode cX0_put 1 = .ok (.ifCond .lt 18, 3) := by decide +kernel
theorem dX0_put_4 : decode cX0_put 4 = .ok (.iload_n 1, 1) := by decide +kernel
theorem dX0_put_5 : decode cX0_put 5 = .ok (.aload_n 0, 1) := by decide +kernel
theorem dX0_put_6 : decode cX0_put 6 = .ok (.getfield 15, 3) := by decide +kernel
theorem dX0_put_9 : decode cX0_put 9 = .ok (.if_icmp .ge 10, 3) := by decide +kernel
theorem dX0_put_12 : decode cX0_put 12 = .ok (.aload_n 0, 1) := by decide +kernel
theorem dX0_put_13 : decode cX0_put 13 = .ok (.getfield 9, 3) := by decide +kernel
theorem dX0_put_16 : decode cX0_put 16 = .ok (.iload_n 1, 1) := by decide +kernel
theorem dX0_put_17 : decode cX0_put 17 = .ok (.iload_n 2, 1) := by decide +kernel
theorem dX0_put_18 : decode cX0_put 18 = .ok (.iastore, 1) := by decide +kernel
theorem dX0_put_19 : decode cX0_put 19 = .ok (.return_, 1) := by decide +kernel
theorem dX0_takeOut_0 : decode cX0_takeOut 0 = .ok (.iload_n 1, 1) := by decide +kernel
theorem dX0_takeOut_1 : decode cX0_takeOut 1 = .ok (.ifCond .lt 11, 3) := by decide +kernel
theorem dX0_takeOut_4 : decode cX0_takeOut 4 = .ok (.iload_n 1, 1) := by decide +kernel
theorem dX0_takeOut_5 : decode cX0_takeOut 5 = .ok (.aload_n 0, 1) := by decide +kernel
theorem dX0_takeOut_6 : decode cX0_takeOut 6 = .ok (.getfield 15, 3) := by decide +kernel
theorem dX0_takeOut_9 : decode cX0_takeOut 9 = .ok (.if_icmp .lt 4, 3) := by decide +kernel
theorem dX0_takeOut_12 : decode cX0_takeOut 12 = .ok (.return_, 1) := by decide +kernel
theorem dX0_takeOut_13 : decode cX0_takeOut 13 = .ok (.iload_n 1, 1) := by decide +kernel
theorem dX0_takeOut_14 : decode cX0_takeOut 14 = .ok (.iconst 1, 1) := by decide +kernel
theorem dX0_takeOut_15 : decode cX0_takeOut 15 = .ok (.iadd, 1) := by decide +kernel
theorem dX0_takeOut_16 : decode cX0_takeOut 16 = .ok (.istore_n 2, 1) := by decide +kernel
theorem dX0_takeOut_17 : decode cX0_takeOut 17 = .ok (.iload_n 2, 1) := by decide +kernel
theorem dX0_takeOut_18 : decode cX0_takeOut 18 = .ok (.aload_n 0, 1) := by decide +kernel
theorem dX0_takeOut_19 : decode cX0_takeOut 19 = .ok (.getfield 15, 3) := by decide +kernel
theorem dX0_takeOut_22 : decode cX0_takeOut 22 = .ok (.if_icmp .ge 23, 3) := by decide +kernel
theorem dX0_takeOut_25 : decode cX0_takeOut 25 = .ok (.aload_n 0, 1) := by decide +kernel
theorem dX0_takeOut_26 : decode cX0_takeOut 26 = .ok (.getfield 9, 3) := by decide +kernel
theorem dX0_takeOut_29 : decode cX0_takeOut 29 = .ok (.iload_n 2, 1) := by decide +kernel
theorem dX0_takeOut_30 : decode cX0_takeOut 30 = .ok (.iconst 1, 1) := by decide +kernel
theorem dX0_takeOut_31 : decode cX0_takeOut 31 = .ok (.isub, 1) := by decide +kernel
theorem dX0_takeOut_32 : decode cX0_takeOut 32 = .ok (.aload_n 0, 1) := by decide +kernel
theorem dX0_takeOut_33 : decode cX0_takeOut 33 = .ok (.getfield 9, 3) := by decide +kernel
theorem dX0_takeOut_36 : decode cX0_takeOut 36 = .ok (.iload_n 2, 1) := by decide +kernel
theorem dX0_takeOut_37 : decode cX0_takeOut 37 = .ok (.iaload, 1) := by decide +kernel
theorem dX0_takeOut_38 : decode cX0_takeOut 38 = .ok (.iastore, 1) := by decide +kernel
theorem dX0_takeOut_39 : decode cX0_takeOut 39 = .ok (.iinc 2 1, 3) := by decide +kernel
theorem dX0_takeOut_42 : decode cX0_takeOut 42 = .ok (.goto (-25), 3) := by decide +kernel
theorem dX0_takeOut_45 : decode cX0_takeOut 45 = .ok (.aload_n 0, 1) := by decide +kernel
theorem dX0_takeOut_46 : decode cX0_takeOut 46 = .ok (.dup, 1) := by decide +kernel
theorem dX0_takeOut_47 : decode cX0_takeOut 47 = .ok (.getfield 15, 3) := by decide +kernel
theorem dX0_takeOut_50 : decode cX0_takeOut 50 = .ok (.iconst 1, 1) := by decide +kernel
theorem dX0_takeOut_51 : decode cX0_takeOut 51 = .ok (.isub, 1) := by decide +kernel
theorem dX0_takeOut_52 : decode cX0_takeOut 52 = .ok (.putfield 15, 3) := by decide +kernel
theorem dX0_takeOut_55 : decode cX0_takeOut 55 = .ok (.return_, 1) := by decide +kernel
set_option maxRecDepth 20000 in
theorem ggX0_copyFrom_X0_length : GoodIn wsX0_copyFrom wsX0_length := goodIn_r _ [6, 1, 16, 17] (by decide +kernel) (by decide +kernel)
set_option maxRecDepth 20000 in
theorem gX0_copyFrom_X0_length : GoodIn wsX0_copyFrom (wsV RX0 19 RX0 yX0_length wsX0_length) := goodIn_app (goodIn_of _ (by decide +kernel)) ggX0_copyFrom_X0_length
set_option maxRecDepth 20000 in
theorem ggX0_copyFrom_X0_at : GoodIn wsX0_copyFrom wsX0_at := goodIn_r _ [10, 1, 11, 16, 17] (by decide +kernel) (by decide +kernel)
set_option maxRecDepth 20000 in
theorem gX0_copyFrom_X0_at : GoodIn wsX0_copyFrom (wsV RX0 23 RX0 yX0_at wsX0_at) := goodIn_app (goodIn_of _ (by decide +kernel)) ggX0_copyFrom_X0_at
set_option maxRecDepth 20000 in
theorem ggX0_copyFrom_X0_append : GoodIn wsX0_copyFrom wsX0_append := goodIn_r _ [15, 1, 11, 16, 17] (by decide +kernel) (by decide +kernel)
set_option maxRecDepth 20000 in
theorem gX0_copyFrom_X0_append : GoodIn wsX0_copyFrom (wsV RX0 27 RX0 yX0_append wsX0_append) := goodIn_app (goodIn_of _ (by decide +kernel)) ggX0_copyFrom_X0_append
theorem dX0_copyFrom_0 : decode cX0_copyFrom 0 = .ok (.aload_n 0, 1) := by decide +kernel
theorem dX0_copyFrom_1 : decode cX0_copyFrom 1 = .ok (.iconst 0, 1) := by decide +kernel
theorem dX0_copyFrom_2 : decode cX0_copyFrom 2 = .ok (.putfield 15, 3) := by decide +kernel
theorem dX0_copyFrom_5 : decode cX0_copyFrom 5 = .ok (.iconst 0, 1) := by decide +kernel
theorem dX0_copyFrom_6 : decode cX0_copyFrom 6 = .ok (.istore_n 2, 1) := by decide +kernel
theorem dX0_copyFrom_7 : decode cX0_copyFrom 7 = .ok (.iload_n 2, 1) := by decide +kernel
theorem dX0_copyFrom_8 : decode cX0_copyFrom 8 = .ok (.aload_n 1, 1) := by decide +kernel
theorem dX0_copyFrom_9 : decode cX0_copyFrom 9 = .ok (.invokevirtual 19, 3) := by decide +kernel
theorem dX0_copyFrom_12 : decode cX0_copyFrom 12 = .ok (.if_icmp .ge 19, 3) := by decide +kernel
theorem dX0_copyFrom_15 : decode cX0_copyFrom 15 = .ok (.aload_n 0, 1) := by decide +kernel
theorem dX0_copyFrom_16 : decode cX0_copyFrom 16 = .ok (.aload_n 1, 1) := by decide +kernel
theorem dX0_copyFrom_17 : decode cX0_copyFrom 17 = .ok (.iload_n 2, 1) := by decide +kernel
theorem dX0_copyFrom_18 : decode cX0_copyFrom 18 = .ok (.invokevirtual 23, 3) := by decide +kernel
theorem dX0_copyFrom_21 : decode cX0_copyFrom 21 = .ok (.invokevirtual 27, 3) := by decide +kernel
theorem dX0_copyFrom_24 : decode cX0_copyFrom 24 = .ok (.pop, 1) := by decide +kernel
theorem dX0_copyFrom_25 : decode cX0_copyFrom 25 = .ok (.iinc 2 1, 3) := by decide +kernel
theorem dX0_copyFrom_28 : decode cX0_copyFrom 28 = .ok (.goto (-21), 3) := by decide +kernel
theorem dX0_copyFrom_31 : decode cX0_copyFrom 31 = .ok (.return_, 1) := by decide +kernel
set_option maxRecDepth 20000 in
theorem ggX1_init_X0_init : GoodIn wsX1_init wsX0_init := goodIn_r _ [17, 18, 2, 3, 11, 19, 20, 35, 36] (by decide +kernel) (by decide +kernel)
set_option maxRecDepth 20000 in
theorem gX1_init_X0_init : GoodIn wsX1_init (wsX0_init) := ggX1_init_X0_init
set_option maxRecDepth 20000 in
theorem ggX1_init_X1_begin : GoodIn wsX1_init wsX1_begin := goodIn_r _ [25, 26, 7, 8, 9, 13, 27, 28, 29, 6, 30, 20, 31, 32, 33, 24, 34, 12, 37, 38, 39, 40, 41, 42, 43, 44, 35, 36] (by decide +kernel) (by decide +kernel)
set_option maxRecDepth 20000 in
theorem gX1_init_X1_begin : GoodIn wsX1_init (wsV RX1 35 RX1 yX1_begin wsX1_begin) := goodIn_app (goodIn_of _ (by decide +kernel)) ggX1_init_X1_begin
theorem dX1_init_0 : decode cX1_init 0 = .ok (.aload_n 0, 1) := by decide +kernel
theorem dX1_init_1 : decode cX1_init 1 = .ok (.invokespecial 3, 3) := by decide +kernel
theorem dX1_init_4 : decode cX1_init 4 = .ok (.aload_n 0, 1) := by decide +kernel
theorem dX1_init_5 : decode cX1_init 5 = .ok (.new 9, 3) := by decide +kernel
theorem dX1_init_8 : decode cX1_init 8 = .ok (.dup, 1) := by decide +kernel
theorem dX1_init_9 : decode cX1_init 9 = .ok (.invokespecial 11, 3) := by decide +kernel
theorem dX1_init_12 : decode cX1_init 12 = .ok (.putfield 12, 3) := by decide +kernel
theorem dX1_init_15 : decode cX1_init 15 = .ok (.aload_n 0, 1) := by decide +kernel
theorem dX1_init_16 : decode cX1_init 16 = .ok (.new 9, 3) := by decide +kernel
theorem dX1_init_19 : decode cX1_init 19 = .ok (.dup, 1) := by decide +kernel
theorem dX1_init_20 : decode cX1_init 20 = .ok (.invokespecial 11, 3) := by decide +kernel
theorem dX1_init_23 : decode cX1_init 23 = .ok (.putfield 16, 3) := by decide +kernel
theorem dX1_init_26 : decode cX1_init 26 = .ok (.aload_n 0, 1) := by decide +kernel
theorem dX1_init_27 : decode cX1_init 27 = .ok (.new 9, 3) := by decide +kernel
theorem dX1_init_30 : decode cX1_init 30 = .ok (.dup, 1) := by decide +kernel
theorem dX1_init_31 : decode cX1_init 31 = .ok (.invokespecial 11, 3) := by decide +kernel
theorem dX1_init_34 : decode cX1_init 34 = .ok (.putfield 19, 3) := by decide +kernel
theorem dX1_init_37 : decode cX1_init 37 = .ok (.aload_n 0, 1) := by decide +kernel
theorem dX1_init_38 : decode cX1_init 38 = .ok (.new 9, 3) := by decide +kernel
theorem dX1_init_41 : decode cX1_init 41 = .ok (.dup, 1) := by decide +kernel
theorem dX1_init_42 : decode cX1_init 42 = .ok (.invokespecial 11, 3) := by decide +kernel
theorem dX1_init_45 : decode cX1_init 45 = .ok (.putfield 22, 3) := by decide +kernel
theorem dX1_init_48 : decode cX1_init 48 = .ok (.aload_n 0, 1) := by decide +kernel
theorem dX1_init_49 : decode cX1_init 49 = .ok (.sipush 256, 3) := by decide +kernel
theorem dX1_init_52 : decode cX1_init 52 = .ok (.newarray .int, 2) := by decide +kernel
theorem dX1_init_54 : decode cX1_init 54 = .ok (.putfield 25, 3) := by decide +kernel
theorem dX1_init_57 : decode cX1_init 57 = .ok (.aload_n 0, 1) := by decide +kernel
theorem dX1_init_58 : decode cX1_init 58 = .ok (.sipush 256, 3) := by decide +kernel
theorem dX1_init_61 : decode cX1_init 61 = .ok (.newarray .int, 2) := by decide +kernel
theorem dX1_init_63 : decode cX1_init 63 = .ok (.putfield 29, 3) := by decide +kernel
theorem dX1_init_66 : decode cX1_init 66 = .ok (.aload_n 0, 1) := by decide +kernel
theorem dX1_init_67 : decode cX1_init 67 = .ok (.sipush 256, 3) := by decide +kernel
theorem dX1_init_70 : decode cX1_init 70 = .ok (.newarray .int, 2) := by decide +kernel
theorem dX1_init_72 : decode cX1_init 72 = .ok (.putfield 32, 3) := by decide +kernel
theorem dX1_init_75 : decode cX1_init 75 = .ok (.aload_n 0, 1) := by decide +kernel
theorem dX1_init_76 : decode cX1_init 76 = .ok (.iconst 4, 1) := by decide +kernel
theorem dX1_init_77 : decode cX1_init 77 = .ok (.invokevirtual 35, 3) := by decide +kernel
theorem dX1_init_80 : decode cX1_init 80 = .ok (.return_, 1) := by decide +kernel
set_option maxRecDepth 20000 in
theorem ggX1_start_X1_begin : GoodIn wsX1_start wsX1_begin := goodIn_r _ [5, 6, 7, 8, 9, 10, 11, 12, 13, 14, 15, 16, 17, 18, 19, 4, 20, 21, 22, 23, 24, 25, 26, 27, 28, 29, 30, 31] (by decide +kernel) (by decide +kernel)
set_option maxRecDepth 20000 in
theorem gX1_start_X1_begin : GoodIn wsX1_start (wsV RX1 35 RX1 yX1_begin wsX1_begin) := goodIn_app (goodIn_of _ (by decide +kernel)) ggX1_start_X1_begin
theorem dX1_start_0 : decode cX1_start 0 = .ok (.iload_n 1, 1) := by decide +kernel
theorem dX1_start_1 : decode cX1_start 1 = .ok (.iconst 1, 1) := by decide +kernel
theorem dX1_start_2 : decode cX1_start 2 = .ok (.if_icmp .lt 9, 3) := by decide +kernel
theorem dX1_start_5 : decode cX1_start 5 = .ok (.iload_n 1, 1) := by decide +kernel
theorem dX1_start_6 : decode cX1_start 6 = .ok (.bipush 8, 2) := by decide +kernel
theorem dX1_start_8 : decode cX1_start 8 = .ok (.if_icmp .le 5, 3) := by decide +kernel
theorem dX1_start_11 : decode cX1_start 11 = .ok (.iconst 0, 1) := by decide +kernel
theorem dX1_start_12 : decode cX1_start 12 = .ok (.ireturn, 1) := by decide +kernel
theorem dX1_start_13 : decode cX1_start 13 = .ok (.aload_n 0, 1) := by decide +kernel
theorem dX1_start_14 : decode cX1_start 14 = .ok (.iload_n 1, 1) := by decide +kernel
theorem dX1_start_15 : decode cX1_start 15 = .ok (.invokevirtual 35, 3) := by decide +kernel
theorem dX1_start_18 : decode cX1_start 18 = .ok (.iconst 1, 1) := by decide +kernel
theorem dX1_start_19 : decode cX1_start 19 = .ok (.ireturn, 1) := by decide +kernel
theorem dX1_inputs_0 : decode cX1_inputs 0 = .ok (.aload_n 0, 1) := by decide +kernel
theorem dX1_inputs_1 : decode cX1_inputs 1 = .ok (.getfield 39, 3) := by decide +kernel
theorem dX1_inputs_4 : decode cX1_inputs 4 = .ok (.ireturn, 1) := by decide +kernel
set_option maxRecDepth 20000 in
theorem ggX1_on_X1_isCube : GoodIn wsX1_on wsX1_isCube := goodIn_r _ [7, 8, 34, 35, 36, 37, 38, 39, 40, 41] (by decide +kernel) (by decide +kernel)
set_option maxRecDepth 20000 in
theorem gX1_on_X1_isCube : GoodIn wsX1_on (wsV RX1 43 RX1 yX1_isCube wsX1_isCube) := goodIn_app (goodIn_of _ (by decide +kernel)) ggX1_on_X1_isCube
set_option maxRecDepth 20000 in
theorem ggX1_on_X0_append : GoodIn wsX1_on wsX0_append := goodIn_r _ [13, 14, 15, 42, 43] (by decide +kernel) (by decide +kernel)
set_option maxRecDepth 20000 in
theorem gX1_on_X0_append : GoodIn wsX1_on (wsV RX1 47 RX0 yX0_append wsX0_append) := goodIn_app (goodIn_of _ (by decide +kernel)) ggX1_on_X0_append
set_option maxRecDepth 20000 in
theorem ggX1_on_X1_markWanted : GoodIn wsX1_on wsX1_markWanted := goodIn_r _ [19, 20, 21, 22, 23, 6, 24, 8, 25, 26, 27, 28, 29, 34, 35, 36, 37, 38, 39, 40, 41] (by decide +kernel) (by decide +kernel)
set_option maxRecDepth 20000 in
theorem gX1_on_X1_markWanted : GoodIn wsX1_on (wsV RX1 50 RX1 yX1_markWanted wsX1_markWanted) := goodIn_app (goodIn_of _ (by decide +kernel)) ggX1_on_X1_markWanted
set_option maxRecDepth 20000 in
theorem ggX1_on_X0_clear : GoodIn wsX1_on wsX0_clear := goodIn_r _ [33, 14, 42, 43] (by decide +kernel) (by decide +kernel)
set_option maxRecDepth 20000 in
theorem gX1_on_X0_clear : GoodIn wsX1_on (wsV RX1 53 RX0 yX0_clear wsX0_clear) := goodIn_app (goodIn_of _ (by decide +kernel)) ggX1_on_X0_clear
theorem dX1_on_0 : decode cX1_on 0 = .ok (.aload_n 0, 1) := by decide +kernel
theorem dX1_on_1 : decode cX1_on 1 = .ok (.iload_n 1, 1) := by decide +kernel
theorem dX1_on_2 : decode cX1_on 2 = .ok (.invokevirtual 43, 3) := by decide +kernel
theorem dX1_on_5 : decode cX1_on 5 = .ok (.ifCond .eq 14, 3) := by decide +kernel
theorem dX1_on_8 : decode cX1_on 8 = .ok (.aload_n 0, 1) := by decide +kernel
theorem dX1_on_9 : decode cX1_on 9 = .ok (.getfield 12, 3) := by decide +kernel
theorem dX1_on_12 : decode cX1_on 12 = .ok (.iload_n 1, 1) := by decide +kernel
theorem dX1_on_13 : decode cX1_on 13 = .ok (.invokevirtual 47, 3) := by decide +kernel
theorem dX1_on_16 : decode cX1_on 16 = .ok (.ifCond .ne 5, 3) := by decide +kernel
theorem dX1_on_19 : decode cX1_on 19 = .ok (.iconst 0, 1) := by decide +kernel
theorem dX1_on_20 : decode cX1_on 20 = .ok (.ireturn, 1) := by decide +kernel
theorem dX1_on_21 : decode cX1_on 21 = .ok (.aload_n 0, 1) := by decide +kernel
theorem dX1_on_22 : decode cX1_on 22 = .ok (.iload_n 1, 1) := by decide +kernel
theorem dX1_on_23 : decode cX1_on 23 = .ok (.invokevirtual 50, 3) := by decide +kernel
theorem dX1_on_26 : decode cX1_on 26 = .ok (.aload_n 0, 1) := by decide +kernel
theorem dX1_on_27 : decode cX1_on 27 = .ok (.getfield 19, 3) := by decide +kernel
theorem dX1_on_30 : decode cX1_on 30 = .ok (.invokevirtual 53, 3) := by decide +kernel
theorem dX1_on_33 : decode cX1_on 33 = .ok (.iconst 1, 1) := by decide +kernel
theorem dX1_on_34 : decode cX1_on 34 = .ok (.ireturn, 1) := by decide +kernel
set_option maxRecDepth 20000 in
theorem ggX1_dc_X1_isCube : GoodIn wsX1_dc wsX1_isCube := goodIn_r _ [7, 8, 34, 35, 36, 37, 38, 39, 40, 41] (by decide +kernel) (by decide +kernel)
set_option maxRecDepth 20000 in
theorem gX1_dc_X1_isCube : GoodIn wsX1_dc (wsV RX1 43 RX1 yX1_isCube wsX1_isCube) := goodIn_app (goodIn_of _ (by decide +kernel)) ggX1_dc_X1_isCube
set_option maxRecDepth 20000 in
theorem ggX1_dc_X0_append : GoodIn wsX1_dc wsX0_append := goodIn_r _ [13, 14, 15, 42, 43] (by decide +kernel) (by decide +kernel)
set_option maxRecDepth 20000 in
theorem gX1_dc_X0_append : GoodIn wsX1_dc (wsV RX1 47 RX0 yX0_append wsX0_append) := goodIn_app (goodIn_of _ (by decide +kernel)) ggX1_dc_X0_append
set_option maxRecDepth 20000 in
theorem ggX1_dc_X1_markIndifferent : GoodIn wsX1_dc wsX1_markIndifferent := goodIn_r _ [19, 20, 21, 22, 23, 6, 24, 8, 25, 26, 27, 28, 29, 34, 35, 36, 37, 38, 39, 40, 41] (by decide +kernel) (by decide +kernel)
set_option maxRecDepth 20000 in
theorem gX1_dc_X1_markIndifferent : GoodIn wsX1_dc (wsV RX1 56 RX1 yX1_markIndifferent wsX1_markIndifferent) := goodIn_app (goodIn_of _ (by decide +kernel)) ggX1_dc_X1_markIndifferent
set_option maxRecDepth 20000 in
theorem ggX1_dc_X0_clear : GoodIn wsX1_dc wsX0_clear := goodIn_r _ [33, 14, 42, 43] (by decide +kernel) (by decide +kernel)
set_option maxRecDepth 20000 in
theorem gX1_dc_X0_clear : GoodIn wsX1_dc (wsV RX1 53 RX0 yX0_clear wsX0_clear) := goodIn_app (goodIn_of _ (by decide +kernel)) ggX1_dc_X0_clear
theorem dX1_dc_0 : decode cX1_dc 0 = .ok (.aload_n 0, 1) := by decide +kernel
theorem dX1_dc_1 : decode cX1_dc 1 = .ok (.iload_n 1, 1) := by decide +kernel
theorem dX1_dc_2 : decode cX1_dc 2 = .ok (.invokevirtual 43, 3) := by decide +kernel
theorem dX1_dc_5 : decode cX1_dc 5 = .ok (.ifCond .eq 14, 3) := by decide +kernel
theorem dX1_dc_8 : decode cX1_dc 8 = .ok (.aload_n 0, 1) := by decide +kernel
theorem dX1_dc_9 : decode cX1_dc 9 = .ok (.getfield 16, 3) := by decide +kernel
theorem dX1_dc_12 : decode cX1_dc 12 = .ok (.iload_n 1, 1) := by decide +kernel
theorem dX1_dc_13 : decode cX1_dc 13 = .ok (.invokevirtual 47, 3) := by decide +kernel
theorem dX1_dc_16 : decode cX1_dc 16 = .ok (.ifCond .ne 5, 3) := by decide +kernel
theorem dX1_dc_19 : decode cX1_dc 19 = .ok (.iconst 0, 1) := by decide +kernel
theorem dX1_dc_20 : decode cX1_dc 20 = .ok (.ireturn, 1) := by decide +kernel
theorem dX1_dc_21 : decode cX1_dc 21 = .ok (.aload_n 0, 1) := by decide +kernel
theorem dX1_dc_22 : decode cX1_dc 22 = .ok (.iload_n 1, 1) := by decide +kernel
theorem dX1_dc_23 : decode cX1_dc 23 = .ok (.invokevirtual 56, 3) := by decide +kernel
theorem dX1_dc_26 : decode cX1_dc 26 = .ok (.aload_n 0, 1) := by decide +kernel
theorem dX1_dc_27 : decode cX1_dc 27 = .ok (.getfield 19, 3) := by decide +kernel
theorem dX1_dc_30 : decode cX1_dc 30 = .ok (.invokevirtual 53, 3) := by decide +kernel
theorem dX1_dc_33 : decode cX1_dc 33 = .ok (.iconst 1, 1) := by decide +kernel
theorem dX1_dc_34 : decode cX1_dc 34 = .ok (.ireturn, 1) := by decide +kernel
set_option maxRecDepth 20000 in
theorem ggX1_size_X1_listAt : GoodIn wsX1_size wsX1_listAt := goodIn_r _ [5, 6, 7, 8, 15, 16, 17, 18, 19, 20, 21, 22] (by decide +kernel) (by decide +kernel)
set_option maxRecDepth 20000 in
theorem gX1_size_X1_listAt : GoodIn wsX1_size (wsV RX1 59 RX1 yX1_listAt wsX1_listAt) := goodIn_app (goodIn_of _ (by decide +kernel)) ggX1_size_X1_listAt
set_option maxRecDepth 20000 in
theorem ggX1_size_X0_length : GoodIn wsX1_size wsX0_length := goodIn_r _ [13, 14, 23, 24] (by decide +kernel) (by decide +kernel)
set_option maxRecDepth 20000 in
theorem gX1_size_X0_length : GoodIn wsX1_size (wsV RX1 63 RX0 yX0_length wsX0_length) := goodIn_app (goodIn_of _ (by decide +kernel)) ggX1_size_X0_length
theorem dX1_size_0 : decode cX1_size 0 = .ok (.aload_n 0, 1) := by decide +kernel
theorem dX1_size_1 : decode cX1_size 1 = .ok (.iload_n 1, 1) := by decide +kernel
theorem dX1_size_2 : decode cX1_size 2 = .ok (.invokevirtual 59, 3) := by decide +kernel
theorem dX1_size_5 : decode cX1_size 5 = .ok (.astore_n 2, 1) := by decide +kernel
theorem dX1_size_6 : decode cX1_size 6 = .ok (.aload_n 2, 1) := by decide +kernel
theorem dX1_size_7 : decode cX1_size 7 = .ok (.ifnonnull 7, 3) := by decide +kernel
theorem dX1_size_10 : decode cX1_size 10 = .ok (.iconst (-1), 1) := by decide +kernel
theorem dX1_size_11 : decode cX1_size 11 = .ok (.goto 7, 3) := by decide +kernel
theorem dX1_size_14 : decode cX1_size 14 = .ok (.aload_n 2, 1) := by decide +kernel
theorem dX1_size_15 : decode cX1_size 15 = .ok (.invokevirtual 63, 3) := by decide +kernel
theorem dX1_size_18 : decode cX1_size 18 = .ok (.ireturn, 1) := by decide +kernel
set_option maxRecDepth 20000 in
theorem ggX1_cube_X1_listAt : GoodIn wsX1_cube wsX1_listAt := goodIn_r _ [5, 6, 7, 8, 16, 17, 18, 19, 20, 21, 22, 23] (by decide +kernel) (by decide +kernel)
set_option maxRecDepth 20000 in
theorem gX1_cube_X1_listAt : GoodIn wsX1_cube (wsV RX1 59 RX1 yX1_listAt wsX1_listAt) := goodIn_app (goodIn_of _ (by decide +kernel)) ggX1_cube_X1_listAt
set_option maxRecDepth 20000 in
theorem ggX1_cube_X0_at : GoodIn wsX1_cube wsX0_at := goodIn_r _ [13, 14, 15, 24, 25] (by decide +kernel) (by decide +kernel)
set_option maxRecDepth 20000 in
theorem gX1_cube_X0_at : GoodIn wsX1_cube (wsV RX1 67 RX0 yX0_at wsX0_at) := goodIn_app (goodIn_of _ (by decide +kernel)) ggX1_cube_X0_at
theorem dX1_cube_0 : decode cX1_cube 0 = .ok (.aload_n 0, 1) := by decide +kernel
theorem dX1_cube_1 : decode cX1_cube 1 = .ok (.iload_n 1, 1) := by decide +kernel
theorem dX1_cube_2 : decode cX1_cube 2 = .ok (.invokevirtual 59, 3) := by decide +kernel
theorem dX1_cube_5 : decode cX1_cube 5 = .ok (.astore_n 3, 1) := by decide +kernel
theorem dX1_cube_6 : decode cX1_cube 6 = .ok (.aload_n 3, 1) := by decide +kernel
theorem dX1_cube_7 : decode cX1_cube 7 = .ok (.ifnonnull 7, 3) := by decide +kernel
theorem dX1_cube_10 : decode cX1_cube 10 = .ok (.iconst (-1), 1) := by decide +kernel
theorem dX1_cube_11 : decode cX1_cube 11 = .ok (.goto 8, 3) := by decide +kernel
theorem dX1_cube_14 : decode cX1_cube 14 = .ok (.aload_n 3, 1) := by decide +kernel
theorem dX1_cube_15 : decode cX1_cube 15 = .ok (.iload_n 2, 1) := by decide +kernel
theorem dX1_cube_16 : decode cX1_cube 16 = .ok (.invokevirtual 67, 3) := by decide +kernel
theorem dX1_cube_19 : decode cX1_cube 19 = .ok (.ireturn, 1) := by decide +kernel
set_option maxRecDepth 20000 in
theorem ggX1_literals_X1_listAt : GoodIn wsX1_literals wsX1_listAt := goodIn_r _ [5, 6, 7, 8, 28, 29, 30, 31, 32, 33, 34, 35] (by decide +kernel) (by decide +kernel)
set_option maxRecDepth 20000 in
theorem gX1_literals_X1_listAt : GoodIn wsX1_literals (wsV RX1 59 RX1 yX1_listAt wsX1_listAt) := goodIn_app (goodIn_of _ (by decide +kernel)) ggX1_literals_X1_listAt
set_option maxRecDepth 20000 in
theorem ggX1_literals_X1_countLiterals : GoodIn wsX1_literals wsX1_countLiterals := goodIn_r _ [12, 13, 14, 15, 16, 17, 18, 19, 20, 21, 22, 23, 24, 25, 26, 4, 27, 28, 29, 30, 31, 32, 33, 34, 35, 36, 37] (by decide +kernel) (by decide +kernel)
set_option maxRecDepth 20000 in
theorem gX1_literals_X1_countLiterals : GoodIn wsX1_literals (wsV RX1 71 RX1 yX1_countLiterals wsX1_countLiterals) := goodIn_app (goodIn_of _ (by decide +kernel)) ggX1_literals_X1_countLiterals
theorem dX1_literals_0 : decode cX1_literals 0 = .ok (.aload_n 0, 1) := by decide +kernel
theorem dX1_literals_1 : decode cX1_literals 1 = .ok (.iload_n 1, 1) := by decide +kernel
theorem dX1_literals_2 : decode cX1_literals 2 = .ok (.invokevirtual 59, 3) := by decide +kernel
theorem dX1_literals_5 : decode cX1_literals 5 = .ok (.astore_n 2, 1) := by decide +kernel
theorem dX1_literals_6 : decode cX1_literals 6 = .ok (.aload_n 2, 1) := by decide +kernel
theorem dX1_literals_7 : decode cX1_literals 7 = .ok (.ifnonnull 7, 3) := by decide +kernel
theorem dX1_literals_10 : decode cX1_literals 10 = .ok (.iconst (-1), 1) := by decide +kernel
theorem dX1_literals_11 : decode cX1_literals 11 = .ok (.goto 8, 3) := by decide +kernel
theorem dX1_literals_14 : decode cX1_literals 14 = .ok (.aload_n 0, 1) := by decide +kernel
theorem dX1_literals_15 : decode cX1_literals 15 = .ok (.aload_n 2, 1) := by decide +kernel
theorem dX1_literals_16 : decode cX1_literals 16 = .ok (.invokevirtual 71, 3) := by decide +kernel
theorem dX1_literals_19 : decode cX1_literals 19 = .ok (.ireturn, 1) := by decide +kernel
set_option maxRecDepth 20000 in
theorem ggX1_kind_X1_isPoint : GoodIn wsX1_kind wsX1_isPoint := goodIn_r _ [6, 7, 8, 9, 5, 10, 11, 12, 13, 14, 15, 16, 17, 18, 19] (by decide +kernel) (by decide +kernel)
set_option maxRecDepth 20000 in
theorem gX1_kind_X1_isPoint : GoodIn wsX1_kind (wsV RX1 75 RX1 yX1_isPoint wsX1_isPoint) := goodIn_app (goodIn_of _ (by decide +kernel)) ggX1_kind_X1_isPoint
theorem dX1_kind_0 : decode cX1_kind 0 = .ok (.aload_n 0, 1) := by decide +kernel
theorem dX1_kind_1 : decode cX1_kind 1 = .ok (.iload_n 1, 1) := by decide +kernel
theorem dX1_kind_2 : decode cX1_kind 2 = .ok (.invokevirtual 75, 3) := by decide +kernel
theorem dX1_kind_5 : decode cX1_kind 5 = .ok (.ifCond .eq 12, 3) := by decide +kernel
theorem dX1_kind_8 : decode cX1_kind 8 = .ok (.aload_n 0, 1) := by decide +kernel
theorem dX1_kind_9 : decode cX1_kind 9 = .ok (.getfield 29, 3) := by decide +kernel
theorem dX1_kind_12 : decode cX1_kind 12 = .ok (.iload_n 1, 1) := by decide +kernel
theorem dX1_kind_13 : decode cX1_kind 13 = .ok (.iaload, 1) := by decide +kernel
theorem dX1_kind_14 : decode cX1_kind 14 = .ok (.goto 4, 3) := by decide +kernel
theorem dX1_kind_17 : decode cX1_kind 17 = .ok (.iconst (-1), 1) := by decide +kernel
theorem dX1_kind_18 : decode cX1_kind 18 = .ok (.ireturn, 1) := by decide +kernel
set_option maxRecDepth 20000 in
theorem ggX1_holds_X1_listAt : GoodIn wsX1_holds wsX1_listAt := goodIn_r _ [5, 6, 7, 8, 38, 39, 40, 41, 42, 43, 44, 45] (by decide +kernel) (by decide +kernel)
set_option maxRecDepth 20000 in
theorem gX1_holds_X1_listAt : GoodIn wsX1_holds (wsV RX1 59 RX1 yX1_listAt wsX1_listAt) := goodIn_app (goodIn_of _ (by decide +kernel)) ggX1_holds_X1_listAt
set_option maxRecDepth 20000 in
theorem ggX1_holds_X1_isPoint : GoodIn wsX1_holds wsX1_isPoint := goodIn_r _ [12, 13, 14, 15, 4, 16, 17, 38, 39, 40, 41, 42, 43, 44, 45] (by decide +kernel) (by decide +kernel)
set_option maxRecDepth 20000 in
theorem gX1_holds_X1_isPoint : GoodIn wsX1_holds (wsV RX1 75 RX1 yX1_isPoint wsX1_isPoint) := goodIn_app (goodIn_of _ (by decide +kernel)) ggX1_holds_X1_isPoint
set_option maxRecDepth 20000 in
theorem ggX1_holds_X1_isInList : GoodIn wsX1_holds wsX1_isInList := goodIn_r _ [21, 22, 23, 24, 25, 26, 27, 28, 29, 30, 31, 32, 33, 34, 35, 4, 36, 37, 46, 47, 38, 39, 40, 41, 42, 43, 44, 45] (by decide +kernel) (by decide +kernel)
set_option maxRecDepth 20000 in
theorem gX1_holds_X1_isInList : GoodIn wsX1_holds (wsV RX1 78 RX1 yX1_isInList wsX1_isInList) := goodIn_app (goodIn_of _ (by decide +kernel)) ggX1_holds_X1_isInList
theorem dX1_holds_0 : decode cX1_holds 0 = .ok (.aload_n 0, 1) := by decide +kernel
theorem dX1_holds_1 : decode cX1_holds 1 = .ok (.iload_n 1, 1) := by decide +kernel
theorem dX1_holds_2 : decode cX1_holds 2 = .ok (.invokevirtual 59, 3) := by decide +kernel
theorem dX1_holds_5 : decode cX1_holds 5 = .ok (.astore_n 3, 1) := by decide +kernel
theorem dX1_holds_6 : decode cX1_holds 6 = .ok (.aload_n 3, 1) := by decide +kernel
theorem dX1_holds_7 : decode cX1_holds 7 = .ok (.ifnull 24, 3) := by decide +kernel
theorem dX1_holds_10 : decode cX1_holds 10 = .ok (.aload_n 0, 1) := by decide +kernel
theorem dX1_holds_11 : decode cX1_holds 11 = .ok (.iload_n 2, 1) := by decide +kernel
theorem dX1_holds_12 : decode cX1_holds 12 = .ok (.invokevirtual 75, 3) := by decide +kernel
theorem dX1_holds_15 : decode cX1_holds 15 = .ok (.ifCond .eq 16, 3) := by decide +kernel
theorem dX1_holds_18 : decode cX1_holds 18 = .ok (.aload_n 0, 1) := by decide +kernel
theorem dX1_holds_19 : decode cX1_holds 19 = .ok (.aload_n 3, 1) := by decide +kernel
theorem dX1_holds_20 : decode cX1_holds 20 = .ok (.iload_n 2, 1) := by decide +kernel
theorem dX1_holds_21 : decode cX1_holds 21 = .ok (.invokevirtual 78, 3) := by decide +kernel
theorem dX1_holds_24 : decode cX1_holds 24 = .ok (.ifCond .eq 7, 3) := by decide +kernel
theorem dX1_holds_27 : decode cX1_holds 27 = .ok (.iconst 1, 1) := by decide +kernel
theorem dX1_holds_28 : decode cX1_holds 28 = .ok (.goto 4, 3) := by decide +kernel
theorem dX1_holds_31 : decode cX1_holds 31 = .ok (.iconst 0, 1) := by decide +kernel
theorem dX1_holds_32 : decode cX1_holds 32 = .ok (.ireturn, 1) := by decide +kernel
set_option maxRecDepth 20000 in
theorem ggX1_missing_X1_listAt : GoodIn wsX1_missing wsX1_listAt := goodIn_r _ [5, 6, 7, 8, 38, 39, 40, 41, 42, 43, 44, 45] (by decide +kernel) (by decide +kernel)
set_option maxRecDepth 20000 in
theorem gX1_missing_X1_listAt : GoodIn wsX1_missing (wsV RX1 59 RX1 yX1_listAt wsX1_listAt) := goodIn_app (goodIn_of _ (by decide +kernel)) ggX1_missing_X1_listAt
set_option maxRecDepth 20000 in
theorem ggX1_missing_X1_countMissing : GoodIn wsX1_missing wsX1_countMissing := goodIn_r _ [12, 13, 14, 15, 4, 16, 17, 18, 19, 20, 21, 22, 23, 24, 25, 26, 27, 28, 29, 30, 31, 32, 33, 34, 35, 36, 37, 38, 39, 40, 41, 42, 43, 44, 45, 46, 47] (by decide +kernel) (by decide +kernel)
set_option maxRecDepth 20000 in
theorem gX1_missing_X1_countMissing : GoodIn wsX1_missing (wsV RX1 82 RX1 yX1_countMissing wsX1_countMissing) := goodIn_app (goodIn_of _ (by decide +kernel)) ggX1_missing_X1_countMissing
theorem dX1_missing_0 : decode cX1_missing 0 = .ok (.aload_n 0, 1) := by decide +kernel
theorem dX1_missing_1 : decode cX1_missing 1 = .ok (.iload_n 1, 1) := by decide +kernel
theorem dX1_missing_2 : decode cX1_missing 2 = .ok (.invokevirtual 59, 3) := by decide +kernel
theorem dX1_missing_5 : decode cX1_missing 5 = .ok (.astore_n 2, 1) := by decide +kernel
theorem dX1_missing_6 : decode cX1_missing 6 = .ok (.aload_n 2, 1) := by decide +kernel
theorem dX1_missing_7 : decode cX1_missing 7 = .ok (.ifnonnull 7, 3) := by decide +kernel
theorem dX1_missing_10 : decode cX1_missing 10 = .ok (.iconst (-1), 1) := by decide +kernel
theorem dX1_missing_11 : decode cX1_missing 11 = .ok (.goto 8, 3) := by decide +kernel
theorem dX1_missing_14 : decode cX1_missing 14 = .ok (.aload_n 0, 1) := by decide +kernel
theorem dX1_missing_15 : decode cX1_missing 15 = .ok (.aload_n 2, 1) := by decide +kernel
theorem dX1_missing_16 : decode cX1_missing 16 = .ok (.invokevirtual 82, 3) := by decide +kernel
theorem dX1_missing_19 : decode cX1_missing 19 = .ok (.ireturn, 1) := by decide +kernel
set_option maxRecDepth 20000 in
theorem ggX1_tautology_X1_listAt : GoodIn wsX1_tautology wsX1_listAt := goodIn_r _ [5, 6, 7, 8, 38, 39, 40, 41, 42, 43, 44, 45] (by decide +kernel) (by decide +kernel)
set_option maxRecDepth 20000 in
theorem gX1_tautology_X1_listAt : GoodIn wsX1_tautology (wsV RX1 59 RX1 yX1_listAt wsX1_listAt) := goodIn_app (goodIn_of _ (by decide +kernel)) ggX1_tautology_X1_listAt
set_option maxRecDepth 20000 in
theorem ggX1_tautology_X1_countMissing : GoodIn wsX1_tautology wsX1_countMissing := goodIn_r _ [12, 13, 14, 15, 4, 16, 17, 18, 19, 20, 21, 22, 23, 24, 25, 26, 27, 28, 29, 30, 31, 32, 33, 34, 35, 36, 37, 38, 39, 40, 41, 42, 43, 44, 45, 46, 47] (by decide +kernel) (by decide +kernel)
set_option maxRecDepth 20000 in
theorem gX1_tautology_X1_countMissing : GoodIn wsX1_tautology (wsV RX1 82 RX1 yX1_countMissing wsX1_countMissing) := goodIn_app (goodIn_of _ (by decide +kernel)) ggX1_tautology_X1_countMissing
theorem dX1_tautology_0 : decode cX1_tautology 0 = .ok (.aload_n 0, 1) := by decide +kernel
theorem dX1_tautology_1 : decode cX1_tautology 1 = .ok (.iload_n 1, 1) := by decide +kernel
theorem dX1_tautology_2 : decode cX1_tautology 2 = .ok (.invokevirtual 59, 3) := by decide +kernel
theorem dX1_tautology_5 : decode cX1_tautology 5 = .ok (.astore_n 2, 1) := by decide +kernel
theorem dX1_tautology_6 : decode cX1_tautology 6 = .ok (.aload_n 2, 1) := by decide +kernel
theorem dX1_tautology_7 : decode cX1_tautology 7 = .ok (.ifnull 15, 3) := by decide +kernel
theorem dX1_tautology_10 : decode cX1_tautology 10 = .ok (.aload_n 0, 1) := by decide +kernel
theorem dX1_tautology_11 : decode cX1_tautology 11 = .ok (.aload_n 2, 1) := by decide +kernel
theorem dX1_tautology_12 : decode cX1_tautology 12 = .ok (.invokevirtual 82, 3) := by decide +kernel
theorem dX1_tautology_15 : decode cX1_tautology 15 = .ok (.ifCond .ne 7, 3) := by decide +kernel
theorem dX1_tautology_18 : decode cX1_tautology 18 = .ok (.iconst 1, 1) := by decide +kernel
theorem dX1_tautology_19 : decode cX1_tautology 19 = .ok (.goto 4, 3) := by decide +kernel
theorem dX1_tautology_22 : decode cX1_tautology 22 = .ok (.iconst 0, 1) := by decide +kernel
theorem dX1_tautology_23 : decode cX1_tautology 23 = .ok (.ireturn, 1) := by decide +kernel
set_option maxRecDepth 20000 in
theorem ggX1_same_X1_listAt : GoodIn wsX1_same wsX1_listAt := goodIn_r _ [5, 6, 7, 8, 39, 40, 41, 42, 43, 44, 45, 46] (by decide +kernel) (by decide +kernel)
set_option maxRecDepth 20000 in
theorem gX1_same_X1_listAt : GoodIn wsX1_same (wsV RX1 59 RX1 yX1_listAt wsX1_listAt) := goodIn_app (goodIn_of _ (by decide +kernel)) ggX1_same_X1_listAt
set_option maxRecDepth 20000 in
theorem ggX1_same_X1_agree : GoodIn wsX1_same wsX1_agree := goodIn_r _ [12, 13, 14, 15, 16, 4, 17, 18, 19, 20, 21, 22, 23, 24, 25, 26, 27, 28, 29, 30, 31, 32, 33, 34, 35, 36, 37, 38, 39, 40, 41, 42, 43, 44, 45, 46, 47, 48] (by decide +kernel) (by decide +kernel)
set_option maxRecDepth 20000 in
theorem gX1_same_X1_agree : GoodIn wsX1_same (wsV RX1 85 RX1 yX1_agree wsX1_agree) := goodIn_app (goodIn_of _ (by decide +kernel)) ggX1_same_X1_agree
theorem dX1_same_0 : decode cX1_same 0 = .ok (.aload_n 0, 1) := by decide +kernel
theorem dX1_same_1 : decode cX1_same 1 = .ok (.iload_n 1, 1) := by decide +kernel
theorem dX1_same_2 : decode cX1_same 2 = .ok (.invokevirtual 59, 3) := by decide +kernel
theorem dX1_same_5 : decode cX1_same 5 = .ok (.astore_n 3, 1) := by decide +kernel
theorem dX1_same_6 : decode cX1_same 6 = .ok (.aload_n 0, 1) := by decide +kernel
theorem dX1_same_7 : decode cX1_same 7 = .ok (.iload_n 2, 1) := by decide +kernel
theorem dX1_same_8 : decode cX1_same 8 = .ok (.invokevirtual 59, 3) := by decide +kernel
theorem dX1_same_11 : decode cX1_same 11 = .ok (.astore 4, 2) := by decide +kernel
theorem dX1_same_13 : decode cX1_same 13 = .ok (.aload_n 3, 1) := by decide +kernel
theorem dX1_same_14 : decode cX1_same 14 = .ok (.ifnull 22, 3) := by decide +kernel
theorem dX1_same_17 : decode cX1_same 17 = .ok (.aload 4, 2) := by decide +kernel
theorem dX1_same_19 : decode cX1_same 19 = .ok (.ifnull 17, 3) := by decide +kernel
theorem dX1_same_22 : decode cX1_same 22 = .ok (.aload_n 0, 1) := by decide +kernel
theorem dX1_same_23 : decode cX1_same 23 = .ok (.aload_n 3, 1) := by decide +kernel
theorem dX1_same_24 : decode cX1_same 24 = .ok (.aload 4, 2) := by decide +kernel
theorem dX1_same_26 : decode cX1_same 26 = .ok (.invokevirtual 85, 3) := by decide +kernel
theorem dX1_same_29 : decode cX1_same 29 = .ok (.ifCond .eq 7, 3) := by decide +kernel
theorem dX1_same_32 : decode cX1_same 32 = .ok (.iconst 1, 1) := by decide +kernel
theorem dX1_same_33 : decode cX1_same 33 = .ok (.goto 4, 3) := by decide +kernel
theorem dX1_same_36 : decode cX1_same 36 = .ok (.iconst 0, 1) := by decide +kernel
theorem dX1_same_37 : decode cX1_same 37 = .ok (.ireturn, 1) := by decide +kernel
set_option maxRecDepth 20000 in
theorem ggX1_prime_X1_listAt : GoodIn wsX1_prime wsX1_listAt := goodIn_r _ [5, 6, 7, 8, 42, 43, 44, 45, 46, 47, 48, 49] (by decide +kernel) (by decide +kernel)
set_option maxRecDepth 20000 in
theorem gX1_prime_X1_listAt : GoodIn wsX1_prime (wsV RX1 59 RX1 yX1_listAt wsX1_listAt) := goodIn_app (goodIn_of _ (by decide +kernel)) ggX1_prime_X1_listAt
set_option maxRecDepth 20000 in
theorem ggX1_prime_X0_at : GoodIn wsX1_prime wsX0_at := goodIn_r _ [13, 14, 15, 50, 51] (by decide +kernel) (by decide +kernel)
set_option maxRecDepth 20000 in
theorem gX1_prime_X0_at : GoodIn wsX1_prime (wsV RX1 67 RX0 yX0_at wsX0_at) := goodIn_app (goodIn_of _ (by decide +kernel)) ggX1_prime_X0_at
set_option maxRecDepth 20000 in
theorem ggX1_prime_X1_isVoid : GoodIn wsX1_prime wsX1_isVoid := goodIn_r _ [19, 20, 42, 43, 44, 45, 46, 47, 48, 49] (by decide +kernel) (by decide +kernel)
set_option maxRecDepth 20000 in
theorem gX1_prime_X1_isVoid : GoodIn wsX1_prime (wsV RX1 89 RX1 yX1_isVoid wsX1_isVoid) := goodIn_app (goodIn_of _ (by decide +kernel)) ggX1_prime_X1_isVoid
set_option maxRecDepth 20000 in
theorem ggX1_prime_X1_touches : GoodIn wsX1_prime wsX1_touches := goodIn_r _ [24, 25, 26, 27, 28, 4, 29, 20, 30, 31, 32, 33, 34, 42, 43, 44, 45, 46, 47, 48, 49] (by decide +kernel) (by decide +kernel)
set_option maxRecDepth 20000 in
theorem gX1_prime_X1_touches : GoodIn wsX1_prime (wsV RX1 92 RX1 yX1_touches wsX1_touches) := goodIn_app (goodIn_of _ (by decide +kernel)) ggX1_prime_X1_touches
set_option maxRecDepth 20000 in
theorem ggX1_prime_X1_cannotGrow : GoodIn wsX1_prime wsX1_cannotGrow := goodIn_r _ [38, 20, 39, 40, 4, 41, 21, 22, 23, 24, 25, 26, 27, 28, 29, 30, 31, 32, 33, 34, 42, 43, 44, 45, 46, 47, 48, 49] (by decide +kernel) (by decide +kernel)
set_option maxRecDepth 20000 in
theorem gX1_prime_X1_cannotGrow : GoodIn wsX1_prime (wsV RX1 95 RX1 yX1_cannotGrow wsX1_cannotGrow) := goodIn_app (goodIn_of _ (by decide +kernel)) ggX1_prime_X1_cannotGrow
theorem dX1_prime_0 : decode cX1_prime 0 = .ok (.aload_n 0, 1) := by decide +kernel
theorem dX1_prime_1 : decode cX1_prime 1 = .ok (.iload_n 1, 1) := by decide +kernel
theorem dX1_prime_2 : decode cX1_prime 2 = .ok (.invokevirtual 59, 3) := by decide +kernel
theorem dX1_prime_5 : decode cX1_prime 5 = .ok (.astore_n 3, 1) := by decide +kernel
theorem dX1_prime_6 : decode cX1_prime 6 = .ok (.aload_n 3, 1) := by decide +kernel
theorem dX1_prime_7 : decode cX1_prime 7 = .ok (.ifnonnull 5, 3) := by decide +kernel
theorem dX1_prime_10 : decode cX1_prime 10 = .ok (.iconst 0, 1) := by decide +kernel
theorem dX1_prime_11 : decode cX1_prime 11 = .ok (.ireturn, 1) := by decide +kernel
theorem dX1_prime_12 : decode cX1_prime 12 = .ok (.aload_n 3, 1) := by decide +kernel
theorem dX1_prime_13 : decode cX1_prime 13 = .ok (.iload_n 2, 1) := by decide +kernel
theorem dX1_prime_14 : decode cX1_prime 14 = .ok (.invokevirtual 67, 3) := by decide +kernel
theorem dX1_prime_17 : decode cX1_prime 17 = .ok (.istore 4, 2) := by decide +kernel
theorem dX1_prime_19 : decode cX1_prime 19 = .ok (.iload 4, 2) := by decide +kernel
theorem dX1_prime_21 : decode cX1_prime 21 = .ok (.iconst (-1), 1) := by decide +kernel
theorem dX1_prime_22 : decode cX1_prime 22 = .ok (.if_icmp .eq 34, 3) := by decide +kernel
theorem dX1_prime_25 : decode cX1_prime 25 = .ok (.aload_n 0, 1) := by decide +kernel
theorem dX1_prime_26 : decode cX1_prime 26 = .ok (.iload 4, 2) := by decide +kernel
theorem dX1_prime_28 : decode cX1_prime 28 = .ok (.invokevirtual 89, 3) := by decide +kernel
theorem dX1_prime_31 : decode cX1_prime 31 = .ok (.ifCond .ne 25, 3) := by decide +kernel
theorem dX1_prime_34 : decode cX1_prime 34 = .ok (.aload_n 0, 1) := by decide +kernel
theorem dX1_prime_35 : decode cX1_prime 35 = .ok (.iload 4, 2) := by decide +kernel
theorem dX1_prime_37 : decode cX1_prime 37 = .ok (.invokevirtual 92, 3) := by decide +kernel
theorem dX1_prime_40 : decode cX1_prime 40 = .ok (.ifCond .ne 16, 3) := by decide +kernel
theorem dX1_prime_43 : decode cX1_prime 43 = .ok (.aload_n 0, 1) := by decide +kernel
theorem dX1_prime_44 : decode cX1_prime 44 = .ok (.iload 4, 2) := by decide +kernel
theorem dX1_prime_46 : decode cX1_prime 46 = .ok (.invokevirtual 95, 3) := by decide +kernel
theorem dX1_prime_49 : decode cX1_prime 49 = .ok (.ifCond .eq 7, 3) := by decide +kernel
theorem dX1_prime_52 : decode cX1_prime 52 = .ok (.iconst 1, 1) := by decide +kernel
theorem dX1_prime_53 : decode cX1_prime 53 = .ok (.goto 4, 3) := by decide +kernel
theorem dX1_prime_56 : decode cX1_prime 56 = .ok (.iconst 0, 1) := by decide +kernel
theorem dX1_prime_57 : decode cX1_prime 57 = .ok (.ireturn, 1) := by decide +kernel
set_option maxRecDepth 20000 in
theorem ggX1_widen_X1_isCube : GoodIn wsX1_widen wsX1_isCube := goodIn_r _ [5, 6, 32, 33, 34, 35, 36, 37, 38, 39] (by decide +kernel) (by decide +kernel)
set_option maxRecDepth 20000 in
theorem gX1_widen_X1_isCube : GoodIn wsX1_widen (wsV RX1 43 RX1 yX1_isCube wsX1_isCube) := goodIn_app (goodIn_of _ (by decide +kernel)) ggX1_widen_X1_isCube
set_option maxRecDepth 20000 in
theorem ggX1_widen_X1_isVoid : GoodIn wsX1_widen wsX1_isVoid := goodIn_r _ [10, 6, 32, 33, 34, 35, 36, 37, 38, 39] (by decide +kernel) (by decide +kernel)
set_option maxRecDepth 20000 in
theorem gX1_widen_X1_isVoid : GoodIn wsX1_widen (wsV RX1 89 RX1 yX1_isVoid wsX1_isVoid) := goodIn_app (goodIn_of _ (by decide +kernel)) ggX1_widen_X1_isVoid
set_option maxRecDepth 20000 in
theorem ggX1_widen_X1_touches : GoodIn wsX1_widen wsX1_touches := goodIn_r _ [14, 15, 16, 17, 18, 4, 19, 6, 20, 21, 22, 23, 24, 32, 33, 34, 35, 36, 37, 38, 39] (by decide +kernel) (by decide +kernel)
set_option maxRecDepth 20000 in
theorem gX1_widen_X1_touches : GoodIn wsX1_widen (wsV RX1 92 RX1 yX1_touches wsX1_touches) := goodIn_app (goodIn_of _ (by decide +kernel)) ggX1_widen_X1_touches
set_option maxRecDepth 20000 in
theorem ggX1_widen_X1_widened : GoodIn wsX1_widen wsX1_widened := goodIn_r _ [28, 6, 29, 30, 4, 31, 11, 12, 13, 14, 15, 16, 17, 18, 19, 20, 21, 22, 23, 24, 32, 33, 34, 35, 36, 37, 38, 39] (by decide +kernel) (by decide +kernel)
set_option maxRecDepth 20000 in
theorem gX1_widen_X1_widened : GoodIn wsX1_widen (wsV RX1 98 RX1 yX1_widened wsX1_widened) := goodIn_app (goodIn_of _ (by decide +kernel)) ggX1_widen_X1_widened
theorem dX1_widen_0 : decode cX1_widen 0 = .ok (.aload_n 0, 1) := by decide +kernel
theorem dX1_widen_1 : decode cX1_widen 1 = .ok (.iload_n 1, 1) := by decide +kernel
theorem dX1_widen_2 : decode cX1_widen 2 = .ok (.invokevirtual 43, 3) := by decide +kernel
theorem dX1_widen_5 : decode cX1_widen 5 = .ok (.ifCond .eq 19, 3) := by decide +kernel
theorem dX1_widen_8 : decode cX1_widen 8 = .ok (.aload_n 0, 1) := by decide +kernel
theorem dX1_widen_9 : decode cX1_widen 9 = .ok (.iload_n 1, 1) := by decide +kernel
theorem dX1_widen_10 : decode cX1_widen 10 = .ok (.invokevirtual 89, 3) := by decide +kernel
theorem dX1_widen_13 : decode cX1_widen 13 = .ok (.ifCond .ne 11, 3) := by decide +kernel
theorem dX1_widen_16 : decode cX1_widen 16 = .ok (.aload_n 0, 1) := by decide +kernel
theorem dX1_widen_17 : decode cX1_widen 17 = .ok (.iload_n 1, 1) := by decide +kernel
theorem dX1_widen_18 : decode cX1_widen 18 = .ok (.invokevirtual 92, 3) := by decide +kernel
theorem dX1_widen_21 : decode cX1_widen 21 = .ok (.ifCond .eq 5, 3) := by decide +kernel
theorem dX1_widen_24 : decode cX1_widen 24 = .ok (.iconst (-1), 1) := by decide +kernel
theorem dX1_widen_25 : decode cX1_widen 25 = .ok (.ireturn, 1) := by decide +kernel
theorem dX1_widen_26 : decode cX1_widen 26 = .ok (.aload_n 0, 1) := by decide +kernel
theorem dX1_widen_27 : decode cX1_widen 27 = .ok (.iload_n 1, 1) := by decide +kernel
theorem dX1_widen_28 : decode cX1_widen 28 = .ok (.iconst 1, 1) := by decide +kernel
theorem dX1_widen_29 : decode cX1_widen 29 = .ok (.invokevirtual 98, 3) := by decide +kernel
theorem dX1_widen_32 : decode cX1_widen 32 = .ok (.ireturn, 1) := by decide +kernel
set_option maxRecDepth 20000 in
theorem ggX1_minimize_X1_fillCover : GoodIn wsX1_minimize wsX1_fillCover := goodIn_r _ [7, 1, 8, 9, 10, 11, 12, 13, 14, 15, 16, 17, 18, 19, 20, 21, 22, 23, 24, 25, 26, 6, 27, 28, 29, 30, 31, 32, 102, 103, 104, 105, 106, 107, 108, 109, 110, 111] (by decide +kernel) (by decide +kernel)
set_option maxRecDepth 20000 in
theorem gX1_minimize_X1_fillCover : GoodIn wsX1_minimize (wsV RX1 102 RX1 yX1_fillCover wsX1_fillCover) := goodIn_app (goodIn_of _ (by decide +kernel)) ggX1_minimize_X1_fillCover
set_option maxRecDepth 20000 in
theorem ggX1_minimize_X1_makePass : GoodIn wsX1_minimize wsX1_makePass := goodIn_r _ [36, 15, 16, 17, 12, 18, 14, 19, 20, 21, 22, 23, 37, 38, 39, 6, 40, 28, 41, 42, 43, 44, 45, 46, 47, 48, 49, 50, 51, 52, 53, 54, 55, 56, 57, 58, 59, 60, 61, 62, 63, 64, 65, 66, 67, 68, 69, 70, 71, 72, 73, 74, 75, 76, 77, 78, 79, 80, 81, 82, 110, 111, 102, 103, 104, 105, 106, 107, 108, 109] (by decide +kernel) (by decide +kernel)
set_option maxRecDepth 20000 in
theorem gX1_minimize_X1_makePass : GoodIn wsX1_minimize (wsV RX1 105 RX1 yX1_makePass wsX1_makePass) := goodIn_app (goodIn_of _ (by decide +kernel)) ggX1_minimize_X1_makePass
set_option maxRecDepth 20000 in
theorem ggX1_minimize_X0_copyFrom : GoodIn wsX1_minimize wsX0_copyFrom := goodIn_r _ [86, 14, 87, 16, 17, 12, 18, 88, 20, 21, 22, 23, 89, 30, 31, 32, 110, 111] (by decide +kernel) (by decide +kernel)
set_option maxRecDepth 20000 in
theorem gX1_minimize_X0_copyFrom : GoodIn wsX1_minimize (wsV RX1 109 RX0 yX0_copyFrom wsX0_copyFrom) := goodIn_app (goodIn_of _ (by decide +kernel)) ggX1_minimize_X0_copyFrom
set_option maxRecDepth 20000 in
theorem ggX1_minimize_X1_narrow : GoodIn wsX1_minimize wsX1_narrow := goodIn_r _ [93, 66, 67, 68, 6, 69, 70, 15, 16, 17, 12, 18, 14, 19, 20, 21, 22, 23, 71, 72, 73, 74, 49, 50, 51, 52, 28, 53, 54, 55, 56, 57, 75, 76, 77, 78, 48, 58, 59, 60, 61, 102, 103, 104, 105, 106, 107, 108, 109, 110, 111] (by decide +kernel) (by decide +kernel)
set_option maxRecDepth 20000 in
theorem gX1_minimize_X1_narrow : GoodIn wsX1_minimize (wsV RX1 113 RX1 yX1_narrow wsX1_narrow) := goodIn_app (goodIn_of _ (by decide +kernel)) ggX1_minimize_X1_narrow
set_option maxRecDepth 20000 in
theorem ggX1_minimize_X1_isSmaller : GoodIn wsX1_minimize wsX1_isSmaller := goodIn_r _ [97, 15, 16, 17, 12, 18, 14, 98, 99, 100, 6, 101, 28, 19, 20, 21, 22, 23, 41, 42, 43, 110, 111, 102, 103, 104, 105, 106, 107, 108, 109] (by decide +kernel) (by decide +kernel)
set_option maxRecDepth 20000 in
theorem gX1_minimize_X1_isSmaller : GoodIn wsX1_minimize (wsV RX1 116 RX1 yX1_isSmaller wsX1_isSmaller) := goodIn_app (goodIn_of _ (by decide +kernel)) ggX1_minimize_X1_isSmaller
set_option maxRecDepth 20000 in
theorem ggX1_minimize_X0_length : GoodIn wsX1_minimize wsX0_length := goodIn_r _ [18, 14, 110, 111] (by decide +kernel) (by decide +kernel)
set_option maxRecDepth 20000 in
theorem gX1_minimize_X0_length : GoodIn wsX1_minimize (wsV RX1 63 RX0 yX0_length wsX0_length) := goodIn_app (goodIn_of _ (by decide +kernel)) ggX1_minimize_X0_length
theorem dX1_minimize_0 : decode cX1_minimize 0 = .ok (.aload_n 0, 1) := by decide +kernel
theorem dX1_minimize_1 : decode cX1_minimize 1 = .ok (.invokevirtual 102, 3) := by decide +kernel
theorem dX1_minimize_4 : decode cX1_minimize 4 = .ok (.aload_n 0, 1) := by decide +kernel
theorem dX1_minimize_5 : decode cX1_minimize 5 = .ok (.aload_n 0, 1) := by decide +kernel
theorem dX1_minimize_6 : decode cX1_minimize 6 = .ok (.getfield 19, 3) := by decide +kernel
theorem dX1_minimize_9 : decode cX1_minimize 9 = .ok (.iconst 1, 1) := by decide +kernel
theorem dX1_minimize_10 : decode cX1_minimize 10 = .ok (.invokevirtual 105, 3) := by decide +kernel
theorem dX1_minimize_13 : decode cX1_minimize 13 = .ok (.iconst 1, 1) := by decide +kernel
theorem dX1_minimize_14 : decode cX1_minimize 14 = .ok (.istore_n 1, 1) := by decide +kernel
theorem dX1_minimize_15 : decode cX1_minimize 15 = .ok (.iconst 1, 1) := by decide +kernel
theorem dX1_minimize_16 : decode cX1_minimize 16 = .ok (.istore_n 2, 1) := by decide +kernel
theorem dX1_minimize_17 : decode cX1_minimize 17 = .ok (.iload_n 2, 1) := by decide +kernel
theorem dX1_minimize_18 : decode cX1_minimize 18 = .ok (.bipush 8, 2) := by decide +kernel
theorem dX1_minimize_20 : decode cX1_minimize 20 = .ok (.if_icmp .gt 79, 3) := by decide +kernel
theorem dX1_minimize_23 : decode cX1_minimize 23 = .ok (.iload_n 1, 1) := by decide +kernel
theorem dX1_minimize_24 : decode cX1_minimize 24 = .ok (.ifCond .eq 75, 3) := by decide +kernel
theorem dX1_minimize_27 : decode cX1_minimize 27 = .ok (.aload_n 0, 1) := by decide +kernel
theorem dX1_minimize_28 : decode cX1_minimize 28 = .ok (.getfield 22, 3) := by decide +kernel
theorem dX1_minimize_31 : decode cX1_minimize 31 = .ok (.aload_n 0, 1) := by decide +kernel
theorem dX1_minimize_32 : decode cX1_minimize 32 = .ok (.getfield 19, 3) := by decide +kernel
theorem dX1_minimize_35 : decode cX1_minimize 35 = .ok (.invokevirtual 109, 3) := by decide +kernel
theorem dX1_minimize_38 : decode cX1_minimize 38 = .ok (.aload_n 0, 1) := by decide +kernel
theorem dX1_minimize_39 : decode cX1_minimize 39 = .ok (.aload_n 0, 1) := by decide +kernel
theorem dX1_minimize_40 : decode cX1_minimize 40 = .ok (.getfield 22, 3) := by decide +kernel
theorem dX1_minimize_43 : decode cX1_minimize 43 = .ok (.invokevirtual 113, 3) := by decide +kernel
theorem dX1_minimize_46 : decode cX1_minimize 46 = .ok (.aload_n 0, 1) := by decide +kernel
theorem dX1_minimize_47 : decode cX1_minimize 47 = .ok (.aload_n 0, 1) := by decide +kernel
theorem dX1_minimize_48 : decode cX1_minimize 48 = .ok (.getfield 22, 3) := by decide +kernel
theorem dX1_minimize_51 : decode cX1_minimize 51 = .ok (.iload_n 2, 1) := by decide +kernel
theorem dX1_minimize_52 : decode cX1_minimize 52 = .ok (.iconst 2, 1) := by decide +kernel
theorem dX1_minimize_53 : decode cX1_minimize 53 = .ok (.irem, 1) := by decide +kernel
theorem dX1_minimize_54 : decode cX1_minimize 54 = .ok (.ifCond .ne 7, 3) := by decide +kernel
theorem dX1_minimize_57 : decode cX1_minimize 57 = .ok (.iconst 1, 1) := by decide +kernel
theorem dX1_minimize_58 : decode cX1_minimize 58 = .ok (.goto 4, 3) := by decide +kernel
theorem dX1_minimize_61 : decode cX1_minimize 61 = .ok (.iconst 0, 1) := by decide +kernel
theorem dX1_minimize_62 : decode cX1_minimize 62 = .ok (.invokevirtual 105, 3) := by decide +kernel
theorem dX1_minimize_65 : decode cX1_minimize 65 = .ok (.aload_n 0, 1) := by decide +kernel
theorem dX1_minimize_66 : decode cX1_minimize 66 = .ok (.aload_n 0, 1) := by decide +kernel
theorem dX1_minimize_67 : decode cX1_minimize 67 = .ok (.getfield 22, 3) := by decide +kernel
theorem dX1_minimize_70 : decode cX1_minimize 70 = .ok (.aload_n 0, 1) := by decide +kernel
theorem dX1_minimize_71 : decode cX1_minimize 71 = .ok (.getfield 19, 3) := by decide +kernel
theorem dX1_minimize_74 : decode cX1_minimize 74 = .ok (.invokevirtual 116, 3) := by decide +kernel
theorem dX1_minimize_77 : decode cX1_minimize 77 = .ok (.istore_n 1, 1) := by decide +kernel
theorem dX1_minimize_78 : decode cX1_minimize 78 = .ok (.iload_n 1, 1) := by decide +kernel
theorem dX1_minimize_79 : decode cX1_minimize 79 = .ok (.ifCond .eq 14, 3) := by decide +kernel
theorem dX1_minimize_82 : decode cX1_minimize 82 = .ok (.aload_n 0, 1) := by decide +kernel
theorem dX1_minimize_83 : decode cX1_minimize 83 = .ok (.getfield 19, 3) := by decide +kernel
theorem dX1_minimize_86 : decode cX1_minimize 86 = .ok (.aload_n 0, 1) := by decide +kernel
theorem dX1_minimize_87 : decode cX1_minimize 87 = .ok (.getfield 22, 3) := by decide +kernel
theorem dX1_minimize_90 : decode cX1_minimize 90 = .ok (.invokevirtual 109, 3) := by decide +kernel
theorem dX1_minimize_93 : decode cX1_minimize 93 = .ok (.iinc 2 1, 3) := by decide +kernel
theorem dX1_minimize_96 : decode cX1_minimize 96 = .ok (.goto (-79), 3) := by decide +kernel
theorem dX1_minimize_99 : decode cX1_minimize 99 = .ok (.aload_n 0, 1) := by decide +kernel
theorem dX1_minimize_100 : decode cX1_minimize 100 = .ok (.getfield 19, 3) := by decide +kernel
theorem dX1_minimize_103 : decode cX1_minimize 103 = .ok (.invokevirtual 63, 3) := by decide +kernel
theorem dX1_minimize_106 : decode cX1_minimize 106 = .ok (.ireturn, 1) := by decide +kernel
set_option maxRecDepth 20000 in
theorem ggX1_begin_X0_clear : GoodIn wsX1_begin wsX0_clear := goodIn_r _ [10, 11, 26, 27] (by decide +kernel) (by decide +kernel)
set_option maxRecDepth 20000 in
theorem gX1_begin_X0_clear : GoodIn wsX1_begin (wsV RX1 53 RX0 yX0_clear wsX0_clear) := goodIn_app (goodIn_of _ (by decide +kernel)) ggX1_begin_X0_clear
set_option maxRecDepth 20000 in
theorem ggX1_begin_X1_fillPointCubes : GoodIn wsX1_begin wsX1_fillPointCubes := goodIn_r _ [16, 17, 1, 18, 19, 20, 21, 22, 23, 24, 25] (by decide +kernel) (by decide +kernel)
set_option maxRecDepth 20000 in
theorem gX1_begin_X1_fillPointCubes : GoodIn wsX1_begin (wsV RX1 119 RX1 yX1_fillPointCubes wsX1_fillPointCubes) := goodIn_app (goodIn_of _ (by decide +kernel)) ggX1_begin_X1_fillPointCubes
theorem dX1_begin_0 : decode cX1_begin 0 = .ok (.aload_n 0, 1) := by decide +kernel
theorem dX1_begin_1 : decode cX1_begin 1 = .ok (.iload_n 1, 1) := by decide +kernel
theorem dX1_begin_2 : decode cX1_begin 2 = .ok (.putfield 39, 3) := by decide +kernel
theorem dX1_begin_5 : decode cX1_begin 5 = .ok (.aload_n 0, 1) := by decide +kernel
theorem dX1_begin_6 : decode cX1_begin 6 = .ok (.getfield 12, 3) := by decide +kernel
theorem dX1_begin_9 : decode cX1_begin 9 = .ok (.invokevirtual 53, 3) := by decide +kernel
theorem dX1_begin_12 : decode cX1_begin 12 = .ok (.aload_n 0, 1) := by decide +kernel
end
section
theorem dX1_begin_13 : decode cX1_begin 13 = .ok (.getfield 16, 3) := by decide +kernel
theorem dX1_begin_16 : decode cX1_begin 16 = .ok (.invokevirtual 53, 3) := by decide +kernel
theorem dX1_begin_19 : decode cX1_begin 19 = .ok (.aload_n 0, 1) := by decide +kernel
theorem dX1_begin_20 : decode cX1_begin 20 = .ok (.getfield 19, 3) := by decide +kernel
theorem dX1_begin_23 : decode cX1_begin 23 = .ok (.invokevirtual 53, 3) := by decide +kernel
theorem dX1_begin_26 : decode cX1_begin 26 = .ok (.aload_n 0, 1) := by decide +kernel
theorem dX1_begin_27 : decode cX1_begin 27 = .ok (.invokevirtual 119, 3) := by decide +kernel
theorem dX1_begin_30 : decode cX1_begin 30 = .ok (.iconst 0, 1) := by decide +kernel
theorem dX1_begin_31 : decode cX1_begin 31 = .ok (.istore_n 2, 1) := by decide +kernel
theorem dX1_begin_32 : decode cX1_begin 32 = .ok (.iload_n 2, 1) := by decide +kernel
theorem dX1_begin_33 : decode cX1_begin 33 = .ok (.sipush 256, 3) := by decide +kernel
theorem dX1_begin_36 : decode cX1_begin 36 = .ok (.if_icmp .ge 16, 3) := by decide +kernel
theorem dX1_begin_39 : decode cX1_begin 39 = .ok (.aload_n 0, 1) := by decide +kernel
theorem dX1_begin_40 : decode cX1_begin 40 = .ok (.getfield 29, 3) := by decide +kernel
theorem dX1_begin_43 : decode cX1_begin 43 = .ok (.iload_n 2, 1) := by decide +kernel
theorem dX1_begin_44 : decode cX1_begin 44 = .ok (.iconst 0, 1) := by decide +kernel
theorem dX1_begin_45 : decode cX1_begin 45 = .ok (.iastore, 1) := by decide +kernel
theorem dX1_begin_46 : decode cX1_begin 46 = .ok (.iinc 2 1, 3) := by decide +kernel
theorem dX1_begin_49 : decode cX1_begin 49 = .ok (.goto (-17), 3) := by decide +kernel
theorem dX1_begin_52 : decode cX1_begin 52 = .ok (.return_, 1) := by decide +kernel
theorem dX1_fillPointCubes_0 : decode cX1_fillPointCubes 0 = .ok (.aload_n 0, 1) := by decide +kernel
theorem dX1_fillPointCubes_1 : decode cX1_fillPointCubes 1 = .ok (.getfield 25, 3) := by decide +kernel
theorem dX1_fillPointCubes_4 : decode cX1_fillPointCubes 4 = .ok (.iconst 0, 1) := by decide +kernel
theorem dX1_fillPointCubes_5 : decode cX1_fillPointCubes 5 = .ok (.iconst 0, 1) := by decide +kernel
theorem dX1_fillPointCubes_6 : decode cX1_fillPointCubes 6 = .ok (.iastore, 1) := by decide +kernel
theorem dX1_fillPointCubes_7 : decode cX1_fillPointCubes 7 = .ok (.iconst 0, 1) := by decide +kernel
theorem dX1_fillPointCubes_8 : decode cX1_fillPointCubes 8 = .ok (.istore_n 1, 1) := by decide +kernel
theorem dX1_fillPointCubes_9 : decode cX1_fillPointCubes 9 = .ok (.iload_n 1, 1) := by decide +kernel
theorem dX1_fillPointCubes_10 : decode cX1_fillPointCubes 10 = .ok (.aload_n 0, 1) := by decide +kernel
theorem dX1_fillPointCubes_11 : decode cX1_fillPointCubes 11 = .ok (.getfield 39, 3) := by decide +kernel
theorem dX1_fillPointCubes_14 : decode cX1_fillPointCubes 14 = .ok (.if_icmp .ge 60, 3) := by decide +kernel
theorem dX1_fillPointCubes_17 : decode cX1_fillPointCubes 17 = .ok (.iconst 1, 1) := by decide +kernel
theorem dX1_fillPointCubes_18 : decode cX1_fillPointCubes 18 = .ok (.iload_n 1, 1) := by decide +kernel
theorem dX1_fillPointCubes_19 : decode cX1_fillPointCubes 19 = .ok (.ishl, 1) := by decide +kernel
theorem dX1_fillPointCubes_20 : decode cX1_fillPointCubes 20 = .ok (.istore_n 2, 1) := by decide +kernel
theorem dX1_fillPointCubes_21 : decode cX1_fillPointCubes 21 = .ok (.iconst 0, 1) := by decide +kernel
theorem dX1_fillPointCubes_22 : decode cX1_fillPointCubes 22 = .ok (.istore_n 3, 1) := by decide +kernel
theorem dX1_fillPointCubes_23 : decode cX1_fillPointCubes 23 = .ok (.iload_n 3, 1) := by decide +kernel
theorem dX1_fillPointCubes_24 : decode cX1_fillPointCubes 24 = .ok (.iload_n 2, 1) := by decide +kernel
theorem dX1_fillPointCubes_25 : decode cX1_fillPointCubes 25 = .ok (.if_icmp .ge 43, 3) := by decide +kernel
theorem dX1_fillPointCubes_28 : decode cX1_fillPointCubes 28 = .ok (.aload_n 0, 1) := by decide +kernel
theorem dX1_fillPointCubes_29 : decode cX1_fillPointCubes 29 = .ok (.getfield 25, 3) := by decide +kernel
theorem dX1_fillPointCubes_32 : decode cX1_fillPointCubes 32 = .ok (.iload_n 3, 1) := by decide +kernel
theorem dX1_fillPointCubes_33 : decode cX1_fillPointCubes 33 = .ok (.iload_n 2, 1) := by decide +kernel
theorem dX1_fillPointCubes_34 : decode cX1_fillPointCubes 34 = .ok (.iadd, 1) := by decide +kernel
theorem dX1_fillPointCubes_35 : decode cX1_fillPointCubes 35 = .ok (.aload_n 0, 1) := by decide +kernel
theorem dX1_fillPointCubes_36 : decode cX1_fillPointCubes 36 = .ok (.getfield 25, 3) := by decide +kernel
theorem dX1_fillPointCubes_39 : decode cX1_fillPointCubes 39 = .ok (.iload_n 3, 1) := by decide +kernel
theorem dX1_fillPointCubes_40 : decode cX1_fillPointCubes 40 = .ok (.iaload, 1) := by decide +kernel
theorem dX1_fillPointCubes_41 : decode cX1_fillPointCubes 41 = .ok (.iconst 2, 1) := by decide +kernel
theorem dX1_fillPointCubes_42 : decode cX1_fillPointCubes 42 = .ok (.iconst 2, 1) := by decide +kernel
theorem dX1_fillPointCubes_43 : decode cX1_fillPointCubes 43 = .ok (.iload_n 1, 1) := by decide +kernel
theorem dX1_fillPointCubes_44 : decode cX1_fillPointCubes 44 = .ok (.imul, 1) := by decide +kernel
theorem dX1_fillPointCubes_45 : decode cX1_fillPointCubes 45 = .ok (.ishl, 1) := by decide +kernel
theorem dX1_fillPointCubes_46 : decode cX1_fillPointCubes 46 = .ok (.ior, 1) := by decide +kernel
theorem dX1_fillPointCubes_47 : decode cX1_fillPointCubes 47 = .ok (.iastore, 1) := by decide +kernel
theorem dX1_fillPointCubes_48 : decode cX1_fillPointCubes 48 = .ok (.aload_n 0, 1) := by decide +kernel
theorem dX1_fillPointCubes_49 : decode cX1_fillPointCubes 49 = .ok (.getfield 25, 3) := by decide +kernel
theorem dX1_fillPointCubes_52 : decode cX1_fillPointCubes 52 = .ok (.iload_n 3, 1) := by decide +kernel
theorem dX1_fillPointCubes_53 : decode cX1_fillPointCubes 53 = .ok (.dup2, 1) := by decide +kernel
theorem dX1_fillPointCubes_54 : decode cX1_fillPointCubes 54 = .ok (.iaload, 1) := by decide +kernel
theorem dX1_fillPointCubes_55 : decode cX1_fillPointCubes 55 = .ok (.iconst 1, 1) := by decide +kernel
theorem dX1_fillPointCubes_56 : decode cX1_fillPointCubes 56 = .ok (.iconst 2, 1) := by decide +kernel
theorem dX1_fillPointCubes_57 : decode cX1_fillPointCubes 57 = .ok (.iload_n 1, 1) := by decide +kernel
theorem dX1_fillPointCubes_58 : decode cX1_fillPointCubes 58 = .ok (.imul, 1) := by decide +kernel
theorem dX1_fillPointCubes_59 : decode cX1_fillPointCubes 59 = .ok (.ishl, 1) := by decide +kernel
theorem dX1_fillPointCubes_60 : decode cX1_fillPointCubes 60 = .ok (.ior, 1) := by decide +kernel
theorem dX1_fillPointCubes_61 : decode cX1_fillPointCubes 61 = .ok (.iastore, 1) := by decide +kernel
theorem dX1_fillPointCubes_62 : decode cX1_fillPointCubes 62 = .ok (.iinc 3 1, 3) := by decide +kernel
theorem dX1_fillPointCubes_65 : decode cX1_fillPointCubes 65 = .ok (.goto (-42), 3) := by decide +kernel
theorem dX1_fillPointCubes_68 : decode cX1_fillPointCubes 68 = .ok (.iinc 1 1, 3) := by decide +kernel
theorem dX1_fillPointCubes_71 : decode cX1_fillPointCubes 71 = .ok (.goto (-62), 3) := by decide +kernel
theorem dX1_fillPointCubes_74 : decode cX1_fillPointCubes 74 = .ok (.return_, 1) := by decide +kernel
theorem dX1_pointCount_0 : decode cX1_pointCount 0 = .ok (.iconst 1, 1) := by decide +kernel
theorem dX1_pointCount_1 : decode cX1_pointCount 1 = .ok (.aload_n 0, 1) := by decide +kernel
theorem dX1_pointCount_2 : decode cX1_pointCount 2 = .ok (.getfield 39, 3) := by decide +kernel
theorem dX1_pointCount_5 : decode cX1_pointCount 5 = .ok (.ishl, 1) := by decide +kernel
theorem dX1_pointCount_6 : decode cX1_pointCount 6 = .ok (.ireturn, 1) := by decide +kernel
set_option maxRecDepth 20000 in
theorem ggX1_isPoint_X1_pointCount : GoodIn wsX1_isPoint wsX1_pointCount := goodIn_r _ [5, 6, 7, 8, 9, 10, 11, 12, 13, 14] (by decide +kernel) (by decide +kernel)
set_option maxRecDepth 20000 in
theorem gX1_isPoint_X1_pointCount : GoodIn wsX1_isPoint (wsV RX1 122 RX1 yX1_pointCount wsX1_pointCount) := goodIn_app (goodIn_of _ (by decide +kernel)) ggX1_isPoint_X1_pointCount
theorem dX1_isPoint_0 : decode cX1_isPoint 0 = .ok (.iload_n 1, 1) := by decide +kernel
theorem dX1_isPoint_1 : decode cX1_isPoint 1 = .ok (.ifCond .lt 15, 3) := by decide +kernel
theorem dX1_isPoint_4 : decode cX1_isPoint 4 = .ok (.iload_n 1, 1) := by decide +kernel
theorem dX1_isPoint_5 : decode cX1_isPoint 5 = .ok (.aload_n 0, 1) := by decide +kernel
theorem dX1_isPoint_6 : decode cX1_isPoint 6 = .ok (.invokevirtual 122, 3) := by decide +kernel
theorem dX1_isPoint_9 : decode cX1_isPoint 9 = .ok (.if_icmp .ge 7, 3) := by decide +kernel
theorem dX1_isPoint_12 : decode cX1_isPoint 12 = .ok (.iconst 1, 1) := by decide +kernel
theorem dX1_isPoint_13 : decode cX1_isPoint 13 = .ok (.goto 4, 3) := by decide +kernel
theorem dX1_isPoint_16 : decode cX1_isPoint 16 = .ok (.iconst 0, 1) := by decide +kernel
theorem dX1_isPoint_17 : decode cX1_isPoint 17 = .ok (.ireturn, 1) := by decide +kernel
theorem dX1_isCube_0 : decode cX1_isCube 0 = .ok (.iload_n 1, 1) := by decide +kernel
theorem dX1_isCube_1 : decode cX1_isCube 1 = .ok (.ifCond .lt 19, 3) := by decide +kernel
theorem dX1_isCube_4 : decode cX1_isCube 4 = .ok (.iload_n 1, 1) := by decide +kernel
theorem dX1_isCube_5 : decode cX1_isCube 5 = .ok (.iconst 1, 1) := by decide +kernel
theorem dX1_isCube_6 : decode cX1_isCube 6 = .ok (.iconst 2, 1) := by decide +kernel
theorem dX1_isCube_7 : decode cX1_isCube 7 = .ok (.aload_n 0, 1) := by decide +kernel
theorem dX1_isCube_8 : decode cX1_isCube 8 = .ok (.getfield 39, 3) := by decide +kernel
theorem dX1_isCube_11 : decode cX1_isCube 11 = .ok (.imul, 1) := by decide +kernel
theorem dX1_isCube_12 : decode cX1_isCube 12 = .ok (.ishl, 1) := by decide +kernel
theorem dX1_isCube_13 : decode cX1_isCube 13 = .ok (.if_icmp .ge 7, 3) := by decide +kernel
theorem dX1_isCube_16 : decode cX1_isCube 16 = .ok (.iconst 1, 1) := by decide +kernel
theorem dX1_isCube_17 : decode cX1_isCube 17 = .ok (.goto 4, 3) := by decide +kernel
theorem dX1_isCube_20 : decode cX1_isCube 20 = .ok (.iconst 0, 1) := by decide +kernel
theorem dX1_isCube_21 : decode cX1_isCube 21 = .ok (.ireturn, 1) := by decide +kernel
theorem dX1_listAt_0 : decode cX1_listAt 0 = .ok (.iload_n 1, 1) := by decide +kernel
theorem dX1_listAt_1 : decode cX1_listAt 1 = .ok (.tableswitch 42 0 2 #[27, 32, 37], 27) := by decide +kernel
theorem dX1_listAt_28 : decode cX1_listAt 28 = .ok (.aload_n 0, 1) := by decide +kernel
theorem dX1_listAt_29 : decode cX1_listAt 29 = .ok (.getfield 12, 3) := by decide +kernel
theorem dX1_listAt_32 : decode cX1_listAt 32 = .ok (.areturn, 1) := by decide +kernel
theorem dX1_listAt_33 : decode cX1_listAt 33 = .ok (.aload_n 0, 1) := by decide +kernel
theorem dX1_listAt_34 : decode cX1_listAt 34 = .ok (.getfield 16, 3) := by decide +kernel
theorem dX1_listAt_37 : decode cX1_listAt 37 = .ok (.areturn, 1) := by decide +kernel
theorem dX1_listAt_38 : decode cX1_listAt 38 = .ok (.aload_n 0, 1) := by decide +kernel
theorem dX1_listAt_39 : decode cX1_listAt 39 = .ok (.getfield 19, 3) := by decide +kernel
theorem dX1_listAt_42 : decode cX1_listAt 42 = .ok (.areturn, 1) := by decide +kernel
theorem dX1_listAt_43 : decode cX1_listAt 43 = .ok (.aconst_null, 1) := by decide +kernel
theorem dX1_listAt_44 : decode cX1_listAt 44 = .ok (.areturn, 1) := by decide +kernel
theorem dX1_freed_0 : decode cX1_freed 0 = .ok (.iload_n 0, 1) := by decide +kernel
theorem dX1_freed_1 : decode cX1_freed 1 = .ok (.iconst 3, 1) := by decide +kernel
theorem dX1_freed_2 : decode cX1_freed 2 = .ok (.iconst 2, 1) := by decide +kernel
theorem dX1_freed_3 : decode cX1_freed 3 = .ok (.iload_n 1, 1) := by decide +kernel
theorem dX1_freed_4 : decode cX1_freed 4 = .ok (.imul, 1) := by decide +kernel
theorem dX1_freed_5 : decode cX1_freed 5 = .ok (.ishl, 1) := by decide +kernel
theorem dX1_freed_6 : decode cX1_freed 6 = .ok (.ior, 1) := by decide +kernel
theorem dX1_freed_7 : decode cX1_freed 7 = .ok (.ireturn, 1) := by decide +kernel
theorem dX1_isVoid_0 : decode cX1_isVoid 0 = .ok (.iconst 0, 1) := by decide +kernel
theorem dX1_isVoid_1 : decode cX1_isVoid 1 = .ok (.istore_n 2, 1) := by decide +kernel
theorem dX1_isVoid_2 : decode cX1_isVoid 2 = .ok (.iload_n 2, 1) := by decide +kernel
theorem dX1_isVoid_3 : decode cX1_isVoid 3 = .ok (.aload_n 0, 1) := by decide +kernel
theorem dX1_isVoid_4 : decode cX1_isVoid 4 = .ok (.getfield 39, 3) := by decide +kernel
theorem dX1_isVoid_7 : decode cX1_isVoid 7 = .ok (.if_icmp .ge 21, 3) := by decide +kernel
theorem dX1_isVoid_10 : decode cX1_isVoid 10 = .ok (.iload_n 1, 1) := by decide +kernel
theorem dX1_isVoid_11 : decode cX1_isVoid 11 = .ok (.iconst 2, 1) := by decide +kernel
theorem dX1_isVoid_12 : decode cX1_isVoid 12 = .ok (.iload_n 2, 1) := by decide +kernel
theorem dX1_isVoid_13 : decode cX1_isVoid 13 = .ok (.imul, 1) := by decide +kernel
theorem dX1_isVoid_14 : decode cX1_isVoid 14 = .ok (.ishr, 1) := by decide +kernel
theorem dX1_isVoid_15 : decode cX1_isVoid 15 = .ok (.iconst 3, 1) := by decide +kernel
theorem dX1_isVoid_16 : decode cX1_isVoid 16 = .ok (.iand, 1) := by decide +kernel
theorem dX1_isVoid_17 : decode cX1_isVoid 17 = .ok (.ifCond .ne 5, 3) := by decide +kernel
theorem dX1_isVoid_20 : decode cX1_isVoid 20 = .ok (.iconst 1, 1) := by decide +kernel
theorem dX1_isVoid_21 : decode cX1_isVoid 21 = .ok (.ireturn, 1) := by decide +kernel
theorem dX1_isVoid_22 : decode cX1_isVoid 22 = .ok (.iinc 2 1, 3) := by decide +kernel
theorem dX1_isVoid_25 : decode cX1_isVoid 25 = .ok (.goto (-23), 3) := by decide +kernel
theorem dX1_isVoid_28 : decode cX1_isVoid 28 = .ok (.iconst 0, 1) := by decide +kernel
theorem dX1_isVoid_29 : decode cX1_isVoid 29 = .ok (.ireturn, 1) := by decide +kernel
theorem dX1_isInCube_0 : decode cX1_isInCube 0 = .ok (.aload_n 0, 1) := by decide +kernel
theorem dX1_isInCube_1 : decode cX1_isInCube 1 = .ok (.getfield 25, 3) := by decide +kernel
theorem dX1_isInCube_4 : decode cX1_isInCube 4 = .ok (.iload_n 2, 1) := by decide +kernel
theorem dX1_isInCube_5 : decode cX1_isInCube 5 = .ok (.iaload, 1) := by decide +kernel
theorem dX1_isInCube_6 : decode cX1_isInCube 6 = .ok (.iload_n 1, 1) := by decide +kernel
theorem dX1_isInCube_7 : decode cX1_isInCube 7 = .ok (.iconst (-1), 1) := by decide +kernel
theorem dX1_isInCube_8 : decode cX1_isInCube 8 = .ok (.ixor, 1) := by decide +kernel
theorem dX1_isInCube_9 : decode cX1_isInCube 9 = .ok (.iand, 1) := by decide +kernel
theorem dX1_isInCube_10 : decode cX1_isInCube 10 = .ok (.ifCond .ne 7, 3) := by decide +kernel
theorem dX1_isInCube_13 : decode cX1_isInCube 13 = .ok (.iconst 1, 1) := by decide +kernel
theorem dX1_isInCube_14 : decode cX1_isInCube 14 = .ok (.goto 4, 3) := by decide +kernel
theorem dX1_isInCube_17 : decode cX1_isInCube 17 = .ok (.iconst 0, 1) := by decide +kernel
theorem dX1_isInCube_18 : decode cX1_isInCube 18 = .ok (.ireturn, 1) := by decide +kernel
set_option maxRecDepth 20000 in
theorem ggX1_isInList_X0_length : GoodIn wsX1_isInList wsX0_length := goodIn_r _ [5, 6, 18, 19] (by decide +kernel) (by decide +kernel)
set_option maxRecDepth 20000 in
theorem gX1_isInList_X0_length : GoodIn wsX1_isInList (wsV RX1 63 RX0 yX0_length wsX0_length) := goodIn_app (goodIn_of _ (by decide +kernel)) ggX1_isInList_X0_length
set_option maxRecDepth 20000 in
theorem ggX1_isInList_X0_at : GoodIn wsX1_isInList wsX0_at := goodIn_r _ [10, 6, 11, 18, 19] (by decide +kernel) (by decide +kernel)
set_option maxRecDepth 20000 in
theorem gX1_isInList_X0_at : GoodIn wsX1_isInList (wsV RX1 67 RX0 yX0_at wsX0_at) := goodIn_app (goodIn_of _ (by decide +kernel)) ggX1_isInList_X0_at
set_option maxRecDepth 20000 in
theorem ggX1_isInList_X1_isInCube : GoodIn wsX1_isInList wsX1_isInCube := goodIn_r _ [16, 17, 20, 21, 22, 23, 24, 25, 26, 27] (by decide +kernel) (by decide +kernel)
set_option maxRecDepth 20000 in
theorem gX1_isInList_X1_isInCube : GoodIn wsX1_isInList (wsV RX1 125 RX1 yX1_isInCube wsX1_isInCube) := goodIn_app (goodIn_of _ (by decide +kernel)) ggX1_isInList_X1_isInCube
theorem dX1_isInList_0 : decode cX1_isInList 0 = .ok (.iconst 0, 1) := by decide +kernel
theorem dX1_isInList_1 : decode cX1_isInList 1 = .ok (.istore_n 3, 1) := by decide +kernel
theorem dX1_isInList_2 : decode cX1_isInList 2 = .ok (.iload_n 3, 1) := by decide +kernel
theorem dX1_isInList_3 : decode cX1_isInList 3 = .ok (.aload_n 1, 1) := by decide +kernel
theorem dX1_isInList_4 : decode cX1_isInList 4 = .ok (.invokevirtual 63, 3) := by decide +kernel
theorem dX1_isInList_7 : decode cX1_isInList 7 = .ok (.if_icmp .ge 24, 3) := by decide +kernel
theorem dX1_isInList_10 : decode cX1_isInList 10 = .ok (.aload_n 0, 1) := by decide +kernel
theorem dX1_isInList_11 : decode cX1_isInList 11 = .ok (.aload_n 1, 1) := by decide +kernel
theorem dX1_isInList_12 : decode cX1_isInList 12 = .ok (.iload_n 3, 1) := by decide +kernel
theorem dX1_isInList_13 : decode cX1_isInList 13 = .ok (.invokevirtual 67, 3) := by decide +kernel
theorem dX1_isInList_16 : decode cX1_isInList 16 = .ok (.iload_n 2, 1) := by decide +kernel
theorem dX1_isInList_17 : decode cX1_isInList 17 = .ok (.invokevirtual 125, 3) := by decide +kernel
theorem dX1_isInList_20 : decode cX1_isInList 20 = .ok (.ifCond .eq 5, 3) := by decide +kernel
theorem dX1_isInList_23 : decode cX1_isInList 23 = .ok (.iconst 1, 1) := by decide +kernel
theorem dX1_isInList_24 : decode cX1_isInList 24 = .ok (.ireturn, 1) := by decide +kernel
theorem dX1_isInList_25 : decode cX1_isInList 25 = .ok (.iinc 3 1, 3) := by decide +kernel
theorem dX1_isInList_28 : decode cX1_isInList 28 = .ok (.goto (-26), 3) := by decide +kernel
theorem dX1_isInList_31 : decode cX1_isInList 31 = .ok (.iconst 0, 1) := by decide +kernel
theorem dX1_isInList_32 : decode cX1_isInList 32 = .ok (.ireturn, 1) := by decide +kernel
set_option maxRecDepth 20000 in
theorem ggX1_markWanted_X1_pointCount : GoodIn wsX1_markWanted wsX1_pointCount := goodIn_r _ [6, 7, 13, 14, 15, 16, 17, 18, 19, 20] (by decide +kernel) (by decide +kernel)
set_option maxRecDepth 20000 in
theorem gX1_markWanted_X1_pointCount : GoodIn wsX1_markWanted (wsV RX1 122 RX1 yX1_pointCount wsX1_pointCount) := goodIn_app (goodIn_of _ (by decide +kernel)) ggX1_markWanted_X1_pointCount
set_option maxRecDepth 20000 in
theorem ggX1_markWanted_X1_isInCube : GoodIn wsX1_markWanted wsX1_isInCube := goodIn_r _ [11, 12, 13, 14, 15, 16, 17, 18, 19, 20] (by decide +kernel) (by decide +kernel)
set_option maxRecDepth 20000 in
theorem gX1_markWanted_X1_isInCube : GoodIn wsX1_markWanted (wsV RX1 125 RX1 yX1_isInCube wsX1_isInCube) := goodIn_app (goodIn_of _ (by decide +kernel)) ggX1_markWanted_X1_isInCube
theorem dX1_markWanted_0 : decode cX1_markWanted 0 = .ok (.aload_n 0, 1) := by decide +kernel
theorem dX1_markWanted_1 : decode cX1_markWanted 1 = .ok (.invokevirtual 122, 3) := by decide +kernel
theorem dX1_markWanted_4 : decode cX1_markWanted 4 = .ok (.istore_n 2, 1) := by decide +kernel
theorem dX1_markWanted_5 : decode cX1_markWanted 5 = .ok (.iconst 0, 1) := by decide +kernel
theorem dX1_markWanted_6 : decode cX1_markWanted 6 = .ok (.istore_n 3, 1) := by decide +kernel
theorem dX1_markWanted_7 : decode cX1_markWanted 7 = .ok (.iload_n 3, 1) := by decide +kernel
theorem dX1_markWanted_8 : decode cX1_markWanted 8 = .ok (.iload_n 2, 1) := by decide +kernel
theorem dX1_markWanted_9 : decode cX1_markWanted 9 = .ok (.if_icmp .ge 34, 3) := by decide +kernel
theorem dX1_markWanted_12 : decode cX1_markWanted 12 = .ok (.aload_n 0, 1) := by decide +kernel
theorem dX1_markWanted_13 : decode cX1_markWanted 13 = .ok (.getfield 29, 3) := by decide +kernel
theorem dX1_markWanted_16 : decode cX1_markWanted 16 = .ok (.iload_n 3, 1) := by decide +kernel
theorem dX1_markWanted_17 : decode cX1_markWanted 17 = .ok (.iaload, 1) := by decide +kernel
theorem dX1_markWanted_18 : decode cX1_markWanted 18 = .ok (.ifCond .ne 19, 3) := by decide +kernel
theorem dX1_markWanted_21 : decode cX1_markWanted 21 = .ok (.aload_n 0, 1) := by decide +kernel
theorem dX1_markWanted_22 : decode cX1_markWanted 22 = .ok (.iload_n 1, 1) := by decide +kernel
theorem dX1_markWanted_23 : decode cX1_markWanted 23 = .ok (.iload_n 3, 1) := by decide +kernel
theorem dX1_markWanted_24 : decode cX1_markWanted 24 = .ok (.invokevirtual 125, 3) := by decide +kernel
theorem dX1_markWanted_27 : decode cX1_markWanted 27 = .ok (.ifCond .eq 10, 3) := by decide +kernel
theorem dX1_markWanted_30 : decode cX1_markWanted 30 = .ok (.aload_n 0, 1) := by decide +kernel
theorem dX1_markWanted_31 : decode cX1_markWanted 31 = .ok (.getfield 29, 3) := by decide +kernel
theorem dX1_markWanted_34 : decode cX1_markWanted 34 = .ok (.iload_n 3, 1) := by decide +kernel
theorem dX1_markWanted_35 : decode cX1_markWanted 35 = .ok (.iconst 1, 1) := by decide +kernel
theorem dX1_markWanted_36 : decode cX1_markWanted 36 = .ok (.iastore, 1) := by decide +kernel
theorem dX1_markWanted_37 : decode cX1_markWanted 37 = .ok (.iinc 3 1, 3) := by decide +kernel
theorem dX1_markWanted_40 : decode cX1_markWanted 40 = .ok (.goto (-33), 3) := by decide +kernel
theorem dX1_markWanted_43 : decode cX1_markWanted 43 = .ok (.return_, 1) := by decide +kernel
set_option maxRecDepth 20000 in
theorem ggX1_markIndifferent_X1_pointCount : GoodIn wsX1_markIndifferent wsX1_pointCount := goodIn_r _ [6, 7, 13, 14, 15, 16, 17, 18, 19, 20] (by decide +kernel) (by decide +kernel)
set_option maxRecDepth 20000 in
theorem gX1_markIndifferent_X1_pointCount : GoodIn wsX1_markIndifferent (wsV RX1 122 RX1 yX1_pointCount wsX1_pointCount) := goodIn_app (goodIn_of _ (by decide +kernel)) ggX1_markIndifferent_X1_pointCount
set_option maxRecDepth 20000 in
theorem ggX1_markIndifferent_X1_isInCube : GoodIn wsX1_markIndifferent wsX1_isInCube := goodIn_r _ [11, 12, 13, 14, 15, 16, 17, 18, 19, 20] (by decide +kernel) (by decide +kernel)
set_option maxRecDepth 20000 in
theorem gX1_markIndifferent_X1_isInCube : GoodIn wsX1_markIndifferent (wsV RX1 125 RX1 yX1_isInCube wsX1_isInCube) := goodIn_app (goodIn_of _ (by decide +kernel)) ggX1_markIndifferent_X1_isInCube
theorem dX1_markIndifferent_0 : decode cX1_markIndifferent 0 = .ok (.aload_n 0, 1) := by decide +kernel
theorem dX1_markIndifferent_1 : decode cX1_markIndifferent 1 = .ok (.invokevirtual 122, 3) := by decide +kernel
theorem dX1_markIndifferent_4 : decode cX1_markIndifferent 4 = .ok (.istore_n 2, 1) := by decide +kernel
theorem dX1_markIndifferent_5 : decode cX1_markIndifferent 5 = .ok (.iconst 0, 1) := by decide +kernel
theorem dX1_markIndifferent_6 : decode cX1_markIndifferent 6 = .ok (.istore_n 3, 1) := by decide +kernel
theorem dX1_markIndifferent_7 : decode cX1_markIndifferent 7 = .ok (.iload_n 3, 1) := by decide +kernel
theorem dX1_markIndifferent_8 : decode cX1_markIndifferent 8 = .ok (.iload_n 2, 1) := by decide +kernel
theorem dX1_markIndifferent_9 : decode cX1_markIndifferent 9 = .ok (.if_icmp .ge 25, 3) := by decide +kernel
theorem dX1_markIndifferent_12 : decode cX1_markIndifferent 12 = .ok (.aload_n 0, 1) := by decide +kernel
theorem dX1_markIndifferent_13 : decode cX1_markIndifferent 13 = .ok (.iload_n 1, 1) := by decide +kernel
theorem dX1_markIndifferent_14 : decode cX1_markIndifferent 14 = .ok (.iload_n 3, 1) := by decide +kernel
theorem dX1_markIndifferent_15 : decode cX1_markIndifferent 15 = .ok (.invokevirtual 125, 3) := by decide +kernel
theorem dX1_markIndifferent_18 : decode cX1_markIndifferent 18 = .ok (.ifCond .eq 10, 3) := by decide +kernel
theorem dX1_markIndifferent_21 : decode cX1_markIndifferent 21 = .ok (.aload_n 0, 1) := by decide +kernel
theorem dX1_markIndifferent_22 : decode cX1_markIndifferent 22 = .ok (.getfield 29, 3) := by decide +kernel
theorem dX1_markIndifferent_25 : decode cX1_markIndifferent 25 = .ok (.iload_n 3, 1) := by decide +kernel
theorem dX1_markIndifferent_26 : decode cX1_markIndifferent 26 = .ok (.iconst 2, 1) := by decide +kernel
theorem dX1_markIndifferent_27 : decode cX1_markIndifferent 27 = .ok (.iastore, 1) := by decide +kernel
theorem dX1_markIndifferent_28 : decode cX1_markIndifferent 28 = .ok (.iinc 3 1, 3) := by decide +kernel
theorem dX1_markIndifferent_31 : decode cX1_markIndifferent 31 = .ok (.goto (-24), 3) := by decide +kernel
theorem dX1_markIndifferent_34 : decode cX1_markIndifferent 34 = .ok (.return_, 1) := by decide +kernel
set_option maxRecDepth 20000 in
theorem ggX1_countLiterals_X0_length : GoodIn wsX1_countLiterals wsX0_length := goodIn_r _ [6, 7, 25, 26] (by decide +kernel) (by decide +kernel)
set_option maxRecDepth 20000 in
theorem gX1_countLiterals_X0_length : GoodIn wsX1_countLiterals (wsV RX1 63 RX0 yX0_length wsX0_length) := goodIn_app (goodIn_of _ (by decide +kernel)) ggX1_countLiterals_X0_length
set_option maxRecDepth 20000 in
theorem ggX1_countLiterals_X0_at : GoodIn wsX1_countLiterals wsX0_at := goodIn_r _ [11, 7, 12, 25, 26] (by decide +kernel) (by decide +kernel)
set_option maxRecDepth 20000 in
theorem gX1_countLiterals_X0_at : GoodIn wsX1_countLiterals (wsV RX1 67 RX0 yX0_at wsX0_at) := goodIn_app (goodIn_of _ (by decide +kernel)) ggX1_countLiterals_X0_at
set_option maxRecDepth 20000 in
theorem ggX1_countLiterals_X1_freed : GoodIn wsX1_countLiterals wsX1_freed := goodIn_r _ [16] (by decide +kernel) (by decide +kernel)
set_option maxRecDepth 20000 in
theorem gX1_countLiterals_X1_freed : GoodIn wsX1_countLiterals (va_wsS RX1 129 yX1_freed wsX1_freed) := goodIn_app (goodIn_of _ (by decide +kernel)) ggX1_countLiterals_X1_freed
theorem dX1_countLiterals_0 : decode cX1_countLiterals 0 = .ok (.iconst 0, 1) := by decide +kernel
theorem dX1_countLiterals_1 : decode cX1_countLiterals 1 = .ok (.istore_n 2, 1) := by decide +kernel
theorem dX1_countLiterals_2 : decode cX1_countLiterals 2 = .ok (.iconst 0, 1) := by decide +kernel
theorem dX1_countLiterals_3 : decode cX1_countLiterals 3 = .ok (.istore_n 3, 1) := by decide +kernel
theorem dX1_countLiterals_4 : decode cX1_countLiterals 4 = .ok (.iload_n 3, 1) := by decide +kernel
theorem dX1_countLiterals_5 : decode cX1_countLiterals 5 = .ok (.aload_n 1, 1) := by decide +kernel
theorem dX1_countLiterals_6 : decode cX1_countLiterals 6 = .ok (.invokevirtual 63, 3) := by decide +kernel
theorem dX1_countLiterals_9 : decode cX1_countLiterals 9 = .ok (.if_icmp .ge 49, 3) := by decide +kernel
theorem dX1_countLiterals_12 : decode cX1_countLiterals 12 = .ok (.aload_n 1, 1) := by decide +kernel
theorem dX1_countLiterals_13 : decode cX1_countLiterals 13 = .ok (.iload_n 3, 1) := by decide +kernel
theorem dX1_countLiterals_14 : decode cX1_countLiterals 14 = .ok (.invokevirtual 67, 3) := by decide +kernel
theorem dX1_countLiterals_17 : decode cX1_countLiterals 17 = .ok (.istore 4, 2) := by decide +kernel
theorem dX1_countLiterals_19 : decode cX1_countLiterals 19 = .ok (.iconst 0, 1) := by decide +kernel
theorem dX1_countLiterals_20 : decode cX1_countLiterals 20 = .ok (.istore 5, 2) := by decide +kernel
theorem dX1_countLiterals_22 : decode cX1_countLiterals 22 = .ok (.iload 5, 2) := by decide +kernel
theorem dX1_countLiterals_24 : decode cX1_countLiterals 24 = .ok (.aload_n 0, 1) := by decide +kernel
theorem dX1_countLiterals_25 : decode cX1_countLiterals 25 = .ok (.getfield 39, 3) := by decide +kernel
theorem dX1_countLiterals_28 : decode cX1_countLiterals 28 = .ok (.if_icmp .ge 24, 3) := by decide +kernel
theorem dX1_countLiterals_31 : decode cX1_countLiterals 31 = .ok (.iload 4, 2) := by decide +kernel
theorem dX1_countLiterals_33 : decode cX1_countLiterals 33 = .ok (.iload 5, 2) := by decide +kernel
theorem dX1_countLiterals_35 : decode cX1_countLiterals 35 = .ok (.invokestatic 129, 3) := by decide +kernel
theorem dX1_countLiterals_38 : decode cX1_countLiterals 38 = .ok (.iload 4, 2) := by decide +kernel
theorem dX1_countLiterals_40 : decode cX1_countLiterals 40 = .ok (.if_icmp .eq 6, 3) := by decide +kernel
theorem dX1_countLiterals_43 : decode cX1_countLiterals 43 = .ok (.iinc 2 1, 3) := by decide +kernel
theorem dX1_countLiterals_46 : decode cX1_countLiterals 46 = .ok (.iinc 5 1, 3) := by decide +kernel
theorem dX1_countLiterals_49 : decode cX1_countLiterals 49 = .ok (.goto (-27), 3) := by decide +kernel
theorem dX1_countLiterals_52 : decode cX1_countLiterals 52 = .ok (.iinc 3 1, 3) := by decide +kernel
theorem dX1_countLiterals_55 : decode cX1_countLiterals 55 = .ok (.goto (-51), 3) := by decide +kernel
theorem dX1_countLiterals_58 : decode cX1_countLiterals 58 = .ok (.iload_n 2, 1) := by decide +kernel
theorem dX1_countLiterals_59 : decode cX1_countLiterals 59 = .ok (.ireturn, 1) := by decide +kernel
set_option maxRecDepth 20000 in
theorem ggX1_countMissing_X1_pointCount : GoodIn wsX1_countMissing wsX1_pointCount := goodIn_r _ [5, 6, 27, 28, 29, 30, 31, 32, 33, 34] (by decide +kernel) (by decide +kernel)
set_option maxRecDepth 20000 in
theorem gX1_countMissing_X1_pointCount : GoodIn wsX1_countMissing (wsV RX1 122 RX1 yX1_pointCount wsX1_pointCount) := goodIn_app (goodIn_of _ (by decide +kernel)) ggX1_countMissing_X1_pointCount
set_option maxRecDepth 20000 in
theorem ggX1_countMissing_X1_isInList : GoodIn wsX1_countMissing wsX1_isInList := goodIn_r _ [10, 11, 12, 13, 14, 15, 16, 17, 18, 19, 20, 21, 22, 23, 24, 4, 25, 26, 35, 36, 27, 28, 29, 30, 31, 32, 33, 34] (by decide +kernel) (by decide +kernel)
set_option maxRecDepth 20000 in
theorem gX1_countMissing_X1_isInList : GoodIn wsX1_countMissing (wsV RX1 78 RX1 yX1_isInList wsX1_isInList) := goodIn_app (goodIn_of _ (by decide +kernel)) ggX1_countMissing_X1_isInList
theorem dX1_countMissing_0 : decode cX1_countMissing 0 = .ok (.aload_n 0, 1) := by decide +kernel
theorem dX1_countMissing_1 : decode cX1_countMissing 1 = .ok (.invokevirtual 122, 3) := by decide +kernel
theorem dX1_countMissing_4 : decode cX1_countMissing 4 = .ok (.istore_n 2, 1) := by decide +kernel
theorem dX1_countMissing_5 : decode cX1_countMissing 5 = .ok (.iconst 0, 1) := by decide +kernel
theorem dX1_countMissing_6 : decode cX1_countMissing 6 = .ok (.istore_n 3, 1) := by decide +kernel
theorem dX1_countMissing_7 : decode cX1_countMissing 7 = .ok (.iconst 0, 1) := by decide +kernel
theorem dX1_countMissing_8 : decode cX1_countMissing 8 = .ok (.istore 4, 2) := by decide +kernel
theorem dX1_countMissing_10 : decode cX1_countMissing 10 = .ok (.iload 4, 2) := by decide +kernel
theorem dX1_countMissing_12 : decode cX1_countMissing 12 = .ok (.iload_n 2, 1) := by decide +kernel
theorem dX1_countMissing_13 : decode cX1_countMissing 13 = .ok (.if_icmp .ge 22, 3) := by decide +kernel
theorem dX1_countMissing_16 : decode cX1_countMissing 16 = .ok (.aload_n 0, 1) := by decide +kernel
theorem dX1_countMissing_17 : decode cX1_countMissing 17 = .ok (.aload_n 1, 1) := by decide +kernel
theorem dX1_countMissing_18 : decode cX1_countMissing 18 = .ok (.iload 4, 2) := by decide +kernel
theorem dX1_countMissing_20 : decode cX1_countMissing 20 = .ok (.invokevirtual 78, 3) := by decide +kernel
theorem dX1_countMissing_23 : decode cX1_countMissing 23 = .ok (.ifCond .ne 6, 3) := by decide +kernel
theorem dX1_countMissing_26 : decode cX1_countMissing 26 = .ok (.iinc 3 1, 3) := by decide +kernel
theorem dX1_countMissing_29 : decode cX1_countMissing 29 = .ok (.iinc 4 1, 3) := by decide +kernel
theorem dX1_countMissing_32 : decode cX1_countMissing 32 = .ok (.goto (-22), 3) := by decide +kernel
theorem dX1_countMissing_35 : decode cX1_countMissing 35 = .ok (.iload_n 3, 1) := by decide +kernel
theorem dX1_countMissing_36 : decode cX1_countMissing 36 = .ok (.ireturn, 1) := by decide +kernel
set_option maxRecDepth 20000 in
theorem ggX1_agree_X1_pointCount : GoodIn wsX1_agree wsX1_pointCount := goodIn_r _ [6, 7, 28, 29, 30, 31, 32, 33, 34, 35] (by decide +kernel) (by decide +kernel)
set_option maxRecDepth 20000 in
theorem gX1_agree_X1_pointCount : GoodIn wsX1_agree (wsV RX1 122 RX1 yX1_pointCount wsX1_pointCount) := goodIn_app (goodIn_of _ (by decide +kernel)) ggX1_agree_X1_pointCount
set_option maxRecDepth 20000 in
theorem ggX1_agree_X1_isInList : GoodIn wsX1_agree wsX1_isInList := goodIn_r _ [11, 12, 13, 14, 15, 16, 17, 18, 19, 20, 21, 22, 23, 24, 25, 5, 26, 27, 36, 37, 28, 29, 30, 31, 32, 33, 34, 35] (by decide +kernel) (by decide +kernel)
set_option maxRecDepth 20000 in
theorem gX1_agree_X1_isInList : GoodIn wsX1_agree (wsV RX1 78 RX1 yX1_isInList wsX1_isInList) := goodIn_app (goodIn_of _ (by decide +kernel)) ggX1_agree_X1_isInList
theorem dX1_agree_0 : decode cX1_agree 0 = .ok (.aload_n 0, 1) := by decide +kernel
theorem dX1_agree_1 : decode cX1_agree 1 = .ok (.invokevirtual 122, 3) := by decide +kernel
theorem dX1_agree_4 : decode cX1_agree 4 = .ok (.istore_n 3, 1) := by decide +kernel
theorem dX1_agree_5 : decode cX1_agree 5 = .ok (.iconst 0, 1) := by decide +kernel
theorem dX1_agree_6 : decode cX1_agree 6 = .ok (.istore 4, 2) := by decide +kernel
theorem dX1_agree_8 : decode cX1_agree 8 = .ok (.iload 4, 2) := by decide +kernel
theorem dX1_agree_10 : decode cX1_agree 10 = .ok (.iload_n 3, 1) := by decide +kernel
theorem dX1_agree_11 : decode cX1_agree 11 = .ok (.if_icmp .ge 39, 3) := by decide +kernel
theorem dX1_agree_14 : decode cX1_agree 14 = .ok (.aload_n 0, 1) := by decide +kernel
theorem dX1_agree_15 : decode cX1_agree 15 = .ok (.getfield 29, 3) := by decide +kernel
theorem dX1_agree_18 : decode cX1_agree 18 = .ok (.iload 4, 2) := by decide +kernel
theorem dX1_agree_20 : decode cX1_agree 20 = .ok (.iaload, 1) := by decide +kernel
theorem dX1_agree_21 : decode cX1_agree 21 = .ok (.iconst 2, 1) := by decide +kernel
theorem dX1_agree_22 : decode cX1_agree 22 = .ok (.if_icmp .eq 22, 3) := by decide +kernel
theorem dX1_agree_25 : decode cX1_agree 25 = .ok (.aload_n 0, 1) := by decide +kernel
theorem dX1_agree_26 : decode cX1_agree 26 = .ok (.aload_n 1, 1) := by decide +kernel
theorem dX1_agree_27 : decode cX1_agree 27 = .ok (.iload 4, 2) := by decide +kernel
theorem dX1_agree_29 : decode cX1_agree 29 = .ok (.invokevirtual 78, 3) := by decide +kernel
theorem dX1_agree_32 : decode cX1_agree 32 = .ok (.aload_n 0, 1) := by decide +kernel
theorem dX1_agree_33 : decode cX1_agree 33 = .ok (.aload_n 2, 1) := by decide +kernel
theorem dX1_agree_34 : decode cX1_agree 34 = .ok (.iload 4, 2) := by decide +kernel
theorem dX1_agree_36 : decode cX1_agree 36 = .ok (.invokevirtual 78, 3) := by decide +kernel
theorem dX1_agree_39 : decode cX1_agree 39 = .ok (.if_icmp .eq 5, 3) := by decide +kernel
theorem dX1_agree_42 : decode cX1_agree 42 = .ok (.iconst 0, 1) := by decide +kernel
theorem dX1_agree_43 : decode cX1_agree 43 = .ok (.ireturn, 1) := by decide +kernel
theorem dX1_agree_44 : decode cX1_agree 44 = .ok (.iinc 4 1, 3) := by decide +kernel
theorem dX1_agree_47 : decode cX1_agree 47 = .ok (.goto (-39), 3) := by decide +kernel
theorem dX1_agree_50 : decode cX1_agree 50 = .ok (.iconst 1, 1) := by decide +kernel
theorem dX1_agree_51 : decode cX1_agree 51 = .ok (.ireturn, 1) := by decide +kernel
set_option maxRecDepth 20000 in
theorem ggX1_touches_X1_pointCount : GoodIn wsX1_touches wsX1_pointCount := goodIn_r _ [6, 7, 13, 14, 15, 16, 17, 18, 19, 20] (by decide +kernel) (by decide +kernel)
set_option maxRecDepth 20000 in
theorem gX1_touches_X1_pointCount : GoodIn wsX1_touches (wsV RX1 122 RX1 yX1_pointCount wsX1_pointCount) := goodIn_app (goodIn_of _ (by decide +kernel)) ggX1_touches_X1_pointCount
set_option maxRecDepth 20000 in
theorem ggX1_touches_X1_isInCube : GoodIn wsX1_touches wsX1_isInCube := goodIn_r _ [11, 12, 13, 14, 15, 16, 17, 18, 19, 20] (by decide +kernel) (by decide +kernel)
set_option maxRecDepth 20000 in
theorem gX1_touches_X1_isInCube : GoodIn wsX1_touches (wsV RX1 125 RX1 yX1_isInCube wsX1_isInCube) := goodIn_app (goodIn_of _ (by decide +kernel)) ggX1_touches_X1_isInCube
theorem dX1_touches_0 : decode cX1_touches 0 = .ok (.aload_n 0, 1) := by decide +kernel
theorem dX1_touches_1 : decode cX1_touches 1 = .ok (.invokevirtual 122, 3) := by decide +kernel
theorem dX1_touches_4 : decode cX1_touches 4 = .ok (.istore_n 2, 1) := by decide +kernel
theorem dX1_touches_5 : decode cX1_touches 5 = .ok (.iconst 0, 1) := by decide +kernel
theorem dX1_touches_6 : decode cX1_touches 6 = .ok (.istore_n 3, 1) := by decide +kernel
theorem dX1_touches_7 : decode cX1_touches 7 = .ok (.iload_n 3, 1) := by decide +kernel
theorem dX1_touches_8 : decode cX1_touches 8 = .ok (.iload_n 2, 1) := by decide +kernel
theorem dX1_touches_9 : decode cX1_touches 9 = .ok (.if_icmp .ge 29, 3) := by decide +kernel
theorem dX1_touches_12 : decode cX1_touches 12 = .ok (.aload_n 0, 1) := by decide +kernel
theorem dX1_touches_13 : decode cX1_touches 13 = .ok (.getfield 29, 3) := by decide +kernel
theorem dX1_touches_16 : decode cX1_touches 16 = .ok (.iload_n 3, 1) := by decide +kernel
theorem dX1_touches_17 : decode cX1_touches 17 = .ok (.iaload, 1) := by decide +kernel
theorem dX1_touches_18 : decode cX1_touches 18 = .ok (.ifCond .ne 14, 3) := by decide +kernel
theorem dX1_touches_21 : decode cX1_touches 21 = .ok (.aload_n 0, 1) := by decide +kernel
theorem dX1_touches_22 : decode cX1_touches 22 = .ok (.iload_n 1, 1) := by decide +kernel
theorem dX1_touches_23 : decode cX1_touches 23 = .ok (.iload_n 3, 1) := by decide +kernel
theorem dX1_touches_24 : decode cX1_touches 24 = .ok (.invokevirtual 125, 3) := by decide +kernel
theorem dX1_touches_27 : decode cX1_touches 27 = .ok (.ifCond .eq 5, 3) := by decide +kernel
theorem dX1_touches_30 : decode cX1_touches 30 = .ok (.iconst 1, 1) := by decide +kernel
theorem dX1_touches_31 : decode cX1_touches 31 = .ok (.ireturn, 1) := by decide +kernel
theorem dX1_touches_32 : decode cX1_touches 32 = .ok (.iinc 3 1, 3) := by decide +kernel
theorem dX1_touches_35 : decode cX1_touches 35 = .ok (.goto (-28), 3) := by decide +kernel
theorem dX1_touches_38 : decode cX1_touches 38 = .ok (.iconst 0, 1) := by decide +kernel
theorem dX1_touches_39 : decode cX1_touches 39 = .ok (.ireturn, 1) := by decide +kernel
set_option maxRecDepth 20000 in
theorem ggX1_cannotGrow_X1_freed : GoodIn wsX1_cannotGrow wsX1_freed := goodIn_r _ [5] (by decide +kernel) (by decide +kernel)
set_option maxRecDepth 20000 in
theorem gX1_cannotGrow_X1_freed : GoodIn wsX1_cannotGrow (va_wsS RX1 129 yX1_freed wsX1_freed) := goodIn_app (goodIn_of _ (by decide +kernel)) ggX1_cannotGrow_X1_freed
set_option maxRecDepth 20000 in
theorem ggX1_cannotGrow_X1_touches : GoodIn wsX1_cannotGrow wsX1_touches := goodIn_r _ [9, 10, 11, 12, 13, 4, 14, 1, 15, 16, 17, 18, 19, 20, 21, 22, 23, 24, 25, 26, 27] (by decide +kernel) (by decide +kernel)
set_option maxRecDepth 20000 in
theorem gX1_cannotGrow_X1_touches : GoodIn wsX1_cannotGrow (wsV RX1 92 RX1 yX1_touches wsX1_touches) := goodIn_app (goodIn_of _ (by decide +kernel)) ggX1_cannotGrow_X1_touches
theorem dX1_cannotGrow_0 : decode cX1_cannotGrow 0 = .ok (.iconst 0, 1) := by decide +kernel
theorem dX1_cannotGrow_1 : decode cX1_cannotGrow 1 = .ok (.istore_n 2, 1) := by decide +kernel
theorem dX1_cannotGrow_2 : decode cX1_cannotGrow 2 = .ok (.iload_n 2, 1) := by decide +kernel
theorem dX1_cannotGrow_3 : decode cX1_cannotGrow 3 = .ok (.aload_n 0, 1) := by decide +kernel
theorem dX1_cannotGrow_4 : decode cX1_cannotGrow 4 = .ok (.getfield 39, 3) := by decide +kernel
theorem dX1_cannotGrow_7 : decode cX1_cannotGrow 7 = .ok (.if_icmp .ge 30, 3) := by decide +kernel
theorem dX1_cannotGrow_10 : decode cX1_cannotGrow 10 = .ok (.iload_n 1, 1) := by decide +kernel
theorem dX1_cannotGrow_11 : decode cX1_cannotGrow 11 = .ok (.iload_n 2, 1) := by decide +kernel
theorem dX1_cannotGrow_12 : decode cX1_cannotGrow 12 = .ok (.invokestatic 129, 3) := by decide +kernel
theorem dX1_cannotGrow_15 : decode cX1_cannotGrow 15 = .ok (.istore_n 3, 1) := by decide +kernel
theorem dX1_cannotGrow_16 : decode cX1_cannotGrow 16 = .ok (.iload_n 3, 1) := by decide +kernel
theorem dX1_cannotGrow_17 : decode cX1_cannotGrow 17 = .ok (.iload_n 1, 1) := by decide +kernel
theorem dX1_cannotGrow_18 : decode cX1_cannotGrow 18 = .ok (.if_icmp .eq 13, 3) := by decide +kernel
theorem dX1_cannotGrow_21 : decode cX1_cannotGrow 21 = .ok (.aload_n 0, 1) := by decide +kernel
theorem dX1_cannotGrow_22 : decode cX1_cannotGrow 22 = .ok (.iload_n 3, 1) := by decide +kernel
theorem dX1_cannotGrow_23 : decode cX1_cannotGrow 23 = .ok (.invokevirtual 92, 3) := by decide +kernel
theorem dX1_cannotGrow_26 : decode cX1_cannotGrow 26 = .ok (.ifCond .ne 5, 3) := by decide +kernel
theorem dX1_cannotGrow_29 : decode cX1_cannotGrow 29 = .ok (.iconst 0, 1) := by decide +kernel
theorem dX1_cannotGrow_30 : decode cX1_cannotGrow 30 = .ok (.ireturn, 1) := by decide +kernel
theorem dX1_cannotGrow_31 : decode cX1_cannotGrow 31 = .ok (.iinc 2 1, 3) := by decide +kernel
theorem dX1_cannotGrow_34 : decode cX1_cannotGrow 34 = .ok (.goto (-32), 3) := by decide +kernel
theorem dX1_cannotGrow_37 : decode cX1_cannotGrow 37 = .ok (.iconst 1, 1) := by decide +kernel
theorem dX1_cannotGrow_38 : decode cX1_cannotGrow 38 = .ok (.ireturn, 1) := by decide +kernel
set_option maxRecDepth 20000 in
theorem ggX1_widened_X1_freed : GoodIn wsX1_widened wsX1_freed := goodIn_r _ [5] (by decide +kernel) (by decide +kernel)
set_option maxRecDepth 20000 in
theorem gX1_widened_X1_freed : GoodIn wsX1_widened (va_wsS RX1 129 yX1_freed wsX1_freed) := goodIn_app (goodIn_of _ (by decide +kernel)) ggX1_widened_X1_freed
set_option maxRecDepth 20000 in
theorem ggX1_widened_X1_touches : GoodIn wsX1_widened wsX1_touches := goodIn_r _ [9, 10, 11, 12, 13, 4, 14, 1, 15, 16, 17, 18, 19, 20, 21, 22, 23, 24, 25, 26, 27] (by decide +kernel) (by decide +kernel)
set_option maxRecDepth 20000 in
theorem gX1_widened_X1_touches : GoodIn wsX1_widened (wsV RX1 92 RX1 yX1_touches wsX1_touches) := goodIn_app (goodIn_of _ (by decide +kernel)) ggX1_widened_X1_touches
theorem dX1_widened_0 : decode cX1_widened 0 = .ok (.iload_n 1, 1) := by decide +kernel
theorem dX1_widened_1 : decode cX1_widened 1 = .ok (.istore_n 3, 1) := by decide +kernel
theorem dX1_widened_2 : decode cX1_widened 2 = .ok (.iconst 0, 1) := by decide +kernel
theorem dX1_widened_3 : decode cX1_widened 3 = .ok (.istore 4, 2) := by decide +kernel
theorem dX1_widened_5 : decode cX1_widened 5 = .ok (.iload 4, 2) := by decide +kernel
theorem dX1_widened_7 : decode cX1_widened 7 = .ok (.aload_n 0, 1) := by decide +kernel
theorem dX1_widened_8 : decode cX1_widened 8 = .ok (.getfield 39, 3) := by decide +kernel
theorem dX1_widened_11 : decode cX1_widened 11 = .ok (.if_icmp .ge 55, 3) := by decide +kernel
theorem dX1_widened_14 : decode cX1_widened 14 = .ok (.iload_n 2, 1) := by decide +kernel
theorem dX1_widened_15 : decode cX1_widened 15 = .ok (.ifCond .eq 8, 3) := by decide +kernel
theorem dX1_widened_18 : decode cX1_widened 18 = .ok (.iload 4, 2) := by decide +kernel
theorem dX1_widened_20 : decode cX1_widened 20 = .ok (.goto 12, 3) := by decide +kernel
theorem dX1_widened_23 : decode cX1_widened 23 = .ok (.aload_n 0, 1) := by decide +kernel
theorem dX1_widened_24 : decode cX1_widened 24 = .ok (.getfield 39, 3) := by decide +kernel
theorem dX1_widened_27 : decode cX1_widened 27 = .ok (.iconst 1, 1) := by decide +kernel
theorem dX1_widened_28 : decode cX1_widened 28 = .ok (.isub, 1) := by decide +kernel
theorem dX1_widened_29 : decode cX1_widened 29 = .ok (.iload 4, 2) := by decide +kernel
theorem dX1_widened_31 : decode cX1_widened 31 = .ok (.isub, 1) := by decide +kernel
theorem dX1_widened_32 : decode cX1_widened 32 = .ok (.istore 5, 2) := by decide +kernel
theorem dX1_widened_34 : decode cX1_widened 34 = .ok (.iload_n 3, 1) := by decide +kernel
theorem dX1_widened_35 : decode cX1_widened 35 = .ok (.iload 5, 2) := by decide +kernel
theorem dX1_widened_37 : decode cX1_widened 37 = .ok (.invokestatic 129, 3) := by decide +kernel
theorem dX1_widened_40 : decode cX1_widened 40 = .ok (.istore 6, 2) := by decide +kernel
theorem dX1_widened_42 : decode cX1_widened 42 = .ok (.iload 6, 2) := by decide +kernel
theorem dX1_widened_44 : decode cX1_widened 44 = .ok (.iload_n 3, 1) := by decide +kernel
theorem dX1_widened_45 : decode cX1_widened 45 = .ok (.if_icmp .eq 15, 3) := by decide +kernel
theorem dX1_widened_48 : decode cX1_widened 48 = .ok (.aload_n 0, 1) := by decide +kernel
theorem dX1_widened_49 : decode cX1_widened 49 = .ok (.iload 6, 2) := by decide +kernel
theorem dX1_widened_51 : decode cX1_widened 51 = .ok (.invokevirtual 92, 3) := by decide +kernel
theorem dX1_widened_54 : decode cX1_widened 54 = .ok (.ifCond .ne 6, 3) := by decide +kernel
theorem dX1_widened_57 : decode cX1_widened 57 = .ok (.iload 6, 2) := by decide +kernel
theorem dX1_widened_59 : decode cX1_widened 59 = .ok (.istore_n 3, 1) := by decide +kernel
theorem dX1_widened_60 : decode cX1_widened 60 = .ok (.iinc 4 1, 3) := by decide +kernel
theorem dX1_widened_63 : decode cX1_widened 63 = .ok (.goto (-58), 3) := by decide +kernel
theorem dX1_widened_66 : decode cX1_widened 66 = .ok (.iload_n 3, 1) := by decide +kernel
theorem dX1_widened_67 : decode cX1_widened 67 = .ok (.ireturn, 1) := by decide +kernel
set_option maxRecDepth 20000 in
theorem ggX1_fillCover_X0_clear : GoodIn wsX1_fillCover wsX0_clear := goodIn_r _ [7, 8, 36, 37] (by decide +kernel) (by decide +kernel)
set_option maxRecDepth 20000 in
theorem gX1_fillCover_X0_clear : GoodIn wsX1_fillCover (wsV RX1 53 RX0 yX0_clear wsX0_clear) := goodIn_app (goodIn_of _ (by decide +kernel)) ggX1_fillCover_X0_clear
set_option maxRecDepth 20000 in
theorem ggX1_fillCover_X0_length : GoodIn wsX1_fillCover wsX0_length := goodIn_r _ [12, 8, 36, 37] (by decide +kernel) (by decide +kernel)
set_option maxRecDepth 20000 in
theorem gX1_fillCover_X0_length : GoodIn wsX1_fillCover (wsV RX1 63 RX0 yX0_length wsX0_length) := goodIn_app (goodIn_of _ (by decide +kernel)) ggX1_fillCover_X0_length
set_option maxRecDepth 20000 in
theorem ggX1_fillCover_X0_at : GoodIn wsX1_fillCover wsX0_at := goodIn_r _ [16, 8, 17, 36, 37] (by decide +kernel) (by decide +kernel)
set_option maxRecDepth 20000 in
theorem gX1_fillCover_X0_at : GoodIn wsX1_fillCover (wsV RX1 67 RX0 yX0_at wsX0_at) := goodIn_app (goodIn_of _ (by decide +kernel)) ggX1_fillCover_X0_at
set_option maxRecDepth 20000 in
theorem ggX1_fillCover_X1_isVoid : GoodIn wsX1_fillCover wsX1_isVoid := goodIn_r _ [22, 23, 28, 29, 30, 31, 32, 33, 34, 35] (by decide +kernel) (by decide +kernel)
set_option maxRecDepth 20000 in
theorem gX1_fillCover_X1_isVoid : GoodIn wsX1_fillCover (wsV RX1 89 RX1 yX1_isVoid wsX1_isVoid) := goodIn_app (goodIn_of _ (by decide +kernel)) ggX1_fillCover_X1_isVoid
set_option maxRecDepth 20000 in
theorem ggX1_fillCover_X0_append : GoodIn wsX1_fillCover wsX0_append := goodIn_r _ [27, 8, 17, 36, 37] (by decide +kernel) (by decide +kernel)
set_option maxRecDepth 20000 in
theorem gX1_fillCover_X0_append : GoodIn wsX1_fillCover (wsV RX1 47 RX0 yX0_append wsX0_append) := goodIn_app (goodIn_of _ (by decide +kernel)) ggX1_fillCover_X0_append
theorem dX1_fillCover_0 : decode cX1_fillCover 0 = .ok (.aload_n 0, 1) := by decide +kernel
theorem dX1_fillCover_1 : decode cX1_fillCover 1 = .ok (.getfield 19, 3) := by decide +kernel
theorem dX1_fillCover_4 : decode cX1_fillCover 4 = .ok (.invokevirtual 53, 3) := by decide +kernel
theorem dX1_fillCover_7 : decode cX1_fillCover 7 = .ok (.iconst 0, 1) := by decide +kernel
theorem dX1_fillCover_8 : decode cX1_fillCover 8 = .ok (.istore_n 1, 1) := by decide +kernel
theorem dX1_fillCover_9 : decode cX1_fillCover 9 = .ok (.iload_n 1, 1) := by decide +kernel
theorem dX1_fillCover_10 : decode cX1_fillCover 10 = .ok (.aload_n 0, 1) := by decide +kernel
theorem dX1_fillCover_11 : decode cX1_fillCover 11 = .ok (.getfield 12, 3) := by decide +kernel
theorem dX1_fillCover_14 : decode cX1_fillCover 14 = .ok (.invokevirtual 63, 3) := by decide +kernel
theorem dX1_fillCover_17 : decode cX1_fillCover 17 = .ok (.if_icmp .ge 35, 3) := by decide +kernel
theorem dX1_fillCover_20 : decode cX1_fillCover 20 = .ok (.aload_n 0, 1) := by decide +kernel
theorem dX1_fillCover_21 : decode cX1_fillCover 21 = .ok (.getfield 12, 3) := by decide +kernel
theorem dX1_fillCover_24 : decode cX1_fillCover 24 = .ok (.iload_n 1, 1) := by decide +kernel
theorem dX1_fillCover_25 : decode cX1_fillCover 25 = .ok (.invokevirtual 67, 3) := by decide +kernel
theorem dX1_fillCover_28 : decode cX1_fillCover 28 = .ok (.istore_n 2, 1) := by decide +kernel
theorem dX1_fillCover_29 : decode cX1_fillCover 29 = .ok (.aload_n 0, 1) := by decide +kernel
theorem dX1_fillCover_30 : decode cX1_fillCover 30 = .ok (.iload_n 2, 1) := by decide +kernel
theorem dX1_fillCover_31 : decode cX1_fillCover 31 = .ok (.invokevirtual 89, 3) := by decide +kernel
theorem dX1_fillCover_34 : decode cX1_fillCover 34 = .ok (.ifCond .ne 12, 3) := by decide +kernel
theorem dX1_fillCover_37 : decode cX1_fillCover 37 = .ok (.aload_n 0, 1) := by decide +kernel
theorem dX1_fillCover_38 : decode cX1_fillCover 38 = .ok (.getfield 19, 3) := by decide +kernel
theorem dX1_fillCover_41 : decode cX1_fillCover 41 = .ok (.iload_n 2, 1) := by decide +kernel
theorem dX1_fillCover_42 : decode cX1_fillCover 42 = .ok (.invokevirtual 47, 3) := by decide +kernel
theorem dX1_fillCover_45 : decode cX1_fillCover 45 = .ok (.pop, 1) := by decide +kernel
theorem dX1_fillCover_46 : decode cX1_fillCover 46 = .ok (.iinc 1 1, 3) := by decide +kernel
theorem dX1_fillCover_49 : decode cX1_fillCover 49 = .ok (.goto (-40), 3) := by decide +kernel
theorem dX1_fillCover_52 : decode cX1_fillCover 52 = .ok (.return_, 1) := by decide +kernel
set_option maxRecDepth 20000 in
theorem ggX1_makePass_X0_length : GoodIn wsX1_makePass wsX0_length := goodIn_r _ [5, 6, 60, 61] (by decide +kernel) (by decide +kernel)
set_option maxRecDepth 20000 in
theorem gX1_makePass_X0_length : GoodIn wsX1_makePass (wsV RX1 63 RX0 yX0_length wsX0_length) := goodIn_app (goodIn_of _ (by decide +kernel)) ggX1_makePass_X0_length
set_option maxRecDepth 20000 in
theorem ggX1_makePass_X0_at : GoodIn wsX1_makePass wsX0_at := goodIn_r _ [10, 6, 11, 60, 61] (by decide +kernel) (by decide +kernel)
set_option maxRecDepth 20000 in
theorem gX1_makePass_X0_at : GoodIn wsX1_makePass (wsV RX1 67 RX0 yX0_at wsX0_at) := goodIn_app (goodIn_of _ (by decide +kernel)) ggX1_makePass_X0_at
set_option maxRecDepth 20000 in
theorem ggX1_makePass_X1_widened : GoodIn wsX1_makePass wsX1_widened := goodIn_r _ [16, 17, 18, 19, 15, 20, 21, 22, 23, 24, 25, 26, 27, 28, 29, 30, 31, 32, 33, 34, 62, 63, 64, 65, 66, 67, 68, 69] (by decide +kernel) (by decide +kernel)
set_option maxRecDepth 20000 in
theorem gX1_makePass_X1_widened : GoodIn wsX1_makePass (wsV RX1 98 RX1 yX1_widened wsX1_widened) := goodIn_app (goodIn_of _ (by decide +kernel)) ggX1_makePass_X1_widened
set_option maxRecDepth 20000 in
theorem ggX1_makePass_X0_put : GoodIn wsX1_makePass wsX0_put := goodIn_r _ [38, 6, 11, 60, 61] (by decide +kernel) (by decide +kernel)
set_option maxRecDepth 20000 in
theorem gX1_makePass_X0_put : GoodIn wsX1_makePass (wsV RX1 133 RX0 yX0_put wsX0_put) := goodIn_app (goodIn_of _ (by decide +kernel)) ggX1_makePass_X0_put
set_option maxRecDepth 20000 in
theorem ggX1_makePass_X1_dropNeedless : GoodIn wsX1_makePass wsX1_dropNeedless := goodIn_r _ [42, 43, 44, 45, 15, 46, 47, 1, 2, 3, 4, 5, 6, 7, 8, 9, 10, 11, 48, 49, 50, 51, 26, 27, 28, 29, 17, 30, 31, 32, 33, 34, 52, 53, 54, 55, 25, 56, 57, 58, 59, 62, 63, 64, 65, 66, 67, 68, 69, 60, 61] (by decide +kernel) (by decide +kernel)
set_option maxRecDepth 20000 in
theorem gX1_makePass_X1_dropNeedless : GoodIn wsX1_makePass (wsV RX1 137 RX1 yX1_dropNeedless wsX1_dropNeedless) := goodIn_app (goodIn_of _ (by decide +kernel)) ggX1_makePass_X1_dropNeedless
theorem dX1_makePass_0 : decode cX1_makePass 0 = .ok (.iconst 0, 1) := by decide +kernel
theorem dX1_makePass_1 : decode cX1_makePass 1 = .ok (.istore_n 3, 1) := by decide +kernel
theorem dX1_makePass_2 : decode cX1_makePass 2 = .ok (.iload_n 3, 1) := by decide +kernel
theorem dX1_makePass_3 : decode cX1_makePass 3 = .ok (.aload_n 1, 1) := by decide +kernel
theorem dX1_makePass_4 : decode cX1_makePass 4 = .ok (.invokevirtual 63, 3) := by decide +kernel
theorem dX1_makePass_7 : decode cX1_makePass 7 = .ok (.if_icmp .ge 24, 3) := by decide +kernel
theorem dX1_makePass_10 : decode cX1_makePass 10 = .ok (.aload_n 1, 1) := by decide +kernel
theorem dX1_makePass_11 : decode cX1_makePass 11 = .ok (.iload_n 3, 1) := by decide +kernel
theorem dX1_makePass_12 : decode cX1_makePass 12 = .ok (.aload_n 0, 1) := by decide +kernel
theorem dX1_makePass_13 : decode cX1_makePass 13 = .ok (.aload_n 1, 1) := by decide +kernel
theorem dX1_makePass_14 : decode cX1_makePass 14 = .ok (.iload_n 3, 1) := by decide +kernel
theorem dX1_makePass_15 : decode cX1_makePass 15 = .ok (.invokevirtual 67, 3) := by decide +kernel
theorem dX1_makePass_18 : decode cX1_makePass 18 = .ok (.iload_n 2, 1) := by decide +kernel
theorem dX1_makePass_19 : decode cX1_makePass 19 = .ok (.invokevirtual 98, 3) := by decide +kernel
theorem dX1_makePass_22 : decode cX1_makePass 22 = .ok (.invokevirtual 133, 3) := by decide +kernel
theorem dX1_makePass_25 : decode cX1_makePass 25 = .ok (.iinc 3 1, 3) := by decide +kernel
theorem dX1_makePass_28 : decode cX1_makePass 28 = .ok (.goto (-26), 3) := by decide +kernel
theorem dX1_makePass_31 : decode cX1_makePass 31 = .ok (.aload_n 0, 1) := by decide +kernel
theorem dX1_makePass_32 : decode cX1_makePass 32 = .ok (.aload_n 1, 1) := by decide +kernel
theorem dX1_makePass_33 : decode cX1_makePass 33 = .ok (.invokevirtual 137, 3) := by decide +kernel
theorem dX1_makePass_36 : decode cX1_makePass 36 = .ok (.return_, 1) := by decide +kernel
set_option maxRecDepth 20000 in
theorem ggX1_dropNeedless_X1_countHolders : GoodIn wsX1_dropNeedless wsX1_countHolders := goodIn_r _ [5, 6, 7, 8, 9, 10, 11, 12, 13, 14, 15, 16, 17, 18, 19, 20, 4, 21, 22, 23, 24, 25, 26, 27, 28, 29, 30, 31, 41, 42, 43, 44, 45, 46, 47, 48, 49, 50] (by decide +kernel) (by decide +kernel)
set_option maxRecDepth 20000 in
theorem gX1_dropNeedless_X1_countHolders : GoodIn wsX1_dropNeedless (wsV RX1 140 RX1 yX1_countHolders wsX1_countHolders) := goodIn_app (goodIn_of _ (by decide +kernel)) ggX1_dropNeedless_X1_countHolders
set_option maxRecDepth 20000 in
theorem ggX1_dropNeedless_X0_length : GoodIn wsX1_dropNeedless wsX0_length := goodIn_r _ [11, 12, 49, 50] (by decide +kernel) (by decide +kernel)
set_option maxRecDepth 20000 in
theorem gX1_dropNeedless_X0_length : GoodIn wsX1_dropNeedless (wsV RX1 63 RX0 yX0_length wsX0_length) := goodIn_app (goodIn_of _ (by decide +kernel)) ggX1_dropNeedless_X0_length
set_option maxRecDepth 20000 in
theorem ggX1_dropNeedless_X0_at : GoodIn wsX1_dropNeedless wsX0_at := goodIn_r _ [16, 12, 17, 49, 50] (by decide +kernel) (by decide +kernel)
set_option maxRecDepth 20000 in
theorem gX1_dropNeedless_X0_at : GoodIn wsX1_dropNeedless (wsV RX1 67 RX0 yX0_at wsX0_at) := goodIn_app (goodIn_of _ (by decide +kernel)) ggX1_dropNeedless_X0_at
set_option maxRecDepth 20000 in
theorem ggX1_dropNeedless_X1_ownPart : GoodIn wsX1_dropNeedless wsX1_ownPart := goodIn_r _ [35, 36, 6, 31, 22, 23, 24, 4, 25, 26, 27, 28, 29, 30, 41, 42, 43, 44, 45, 46, 47, 48] (by decide +kernel) (by decide +kernel)
set_option maxRecDepth 20000 in
theorem gX1_dropNeedless_X1_ownPart : GoodIn wsX1_dropNeedless (wsV RX1 143 RX1 yX1_ownPart wsX1_ownPart) := goodIn_app (goodIn_of _ (by decide +kernel)) ggX1_dropNeedless_X1_ownPart
set_option maxRecDepth 20000 in
theorem ggX1_dropNeedless_X1_addToHolders : GoodIn wsX1_dropNeedless wsX1_addToHolders := goodIn_r _ [21, 6, 22, 23, 24, 4, 25, 26, 27, 28, 29, 30, 31, 41, 42, 43, 44, 45, 46, 47, 48] (by decide +kernel) (by decide +kernel)
set_option maxRecDepth 20000 in
theorem gX1_dropNeedless_X1_addToHolders : GoodIn wsX1_dropNeedless (wsV RX1 146 RX1 yX1_addToHolders wsX1_addToHolders) := goodIn_app (goodIn_of _ (by decide +kernel)) ggX1_dropNeedless_X1_addToHolders
set_option maxRecDepth 20000 in
theorem ggX1_dropNeedless_X0_takeOut : GoodIn wsX1_dropNeedless wsX0_takeOut := goodIn_r _ [40, 12, 17, 49, 50] (by decide +kernel) (by decide +kernel)
set_option maxRecDepth 20000 in
theorem gX1_dropNeedless_X0_takeOut : GoodIn wsX1_dropNeedless (wsV RX1 149 RX0 yX0_takeOut wsX0_takeOut) := goodIn_app (goodIn_of _ (by decide +kernel)) ggX1_dropNeedless_X0_takeOut
theorem dX1_dropNeedless_0 : decode cX1_dropNeedless 0 = .ok (.aload_n 0, 1) := by decide +kernel
theorem dX1_dropNeedless_1 : decode cX1_dropNeedless 1 = .ok (.aload_n 1, 1) := by decide +kernel
theorem dX1_dropNeedless_2 : decode cX1_dropNeedless 2 = .ok (.invokevirtual 140, 3) := by decide +kernel
theorem dX1_dropNeedless_5 : decode cX1_dropNeedless 5 = .ok (.aload_n 1, 1) := by decide +kernel
theorem dX1_dropNeedless_6 : decode cX1_dropNeedless 6 = .ok (.invokevirtual 63, 3) := by decide +kernel
theorem dX1_dropNeedless_9 : decode cX1_dropNeedless 9 = .ok (.iconst 1, 1) := by decide +kernel
theorem dX1_dropNeedless_10 : decode cX1_dropNeedless 10 = .ok (.isub, 1) := by decide +kernel
theorem dX1_dropNeedless_11 : decode cX1_dropNeedless 11 = .ok (.istore_n 2, 1) := by decide +kernel
theorem dX1_dropNeedless_12 : decode cX1_dropNeedless 12 = .ok (.iload_n 2, 1) := by decide +kernel
theorem dX1_dropNeedless_13 : decode cX1_dropNeedless 13 = .ok (.ifCond .lt 34, 3) := by decide +kernel
theorem dX1_dropNeedless_16 : decode cX1_dropNeedless 16 = .ok (.aload_n 1, 1) := by decide +kernel
theorem dX1_dropNeedless_17 : decode cX1_dropNeedless 17 = .ok (.iload_n 2, 1) := by decide +kernel
theorem dX1_dropNeedless_18 : decode cX1_dropNeedless 18 = .ok (.invokevirtual 67, 3) := by decide +kernel
theorem dX1_dropNeedless_21 : decode cX1_dropNeedless 21 = .ok (.istore_n 3, 1) := by decide +kernel
theorem dX1_dropNeedless_22 : decode cX1_dropNeedless 22 = .ok (.aload_n 0, 1) := by decide +kernel
theorem dX1_dropNeedless_23 : decode cX1_dropNeedless 23 = .ok (.iload_n 3, 1) := by decide +kernel
theorem dX1_dropNeedless_24 : decode cX1_dropNeedless 24 = .ok (.invokevirtual 143, 3) := by decide +kernel
theorem dX1_dropNeedless_27 : decode cX1_dropNeedless 27 = .ok (.ifCond .ne 14, 3) := by decide +kernel
theorem dX1_dropNeedless_30 : decode cX1_dropNeedless 30 = .ok (.aload_n 0, 1) := by decide +kernel
theorem dX1_dropNeedless_31 : decode cX1_dropNeedless 31 = .ok (.iload_n 3, 1) := by decide +kernel
theorem dX1_dropNeedless_32 : decode cX1_dropNeedless 32 = .ok (.iconst (-1), 1) := by decide +kernel
theorem dX1_dropNeedless_33 : decode cX1_dropNeedless 33 = .ok (.invokevirtual 146, 3) := by decide +kernel
theorem dX1_dropNeedless_36 : decode cX1_dropNeedless 36 = .ok (.aload_n 1, 1) := by decide +kernel
theorem dX1_dropNeedless_37 : decode cX1_dropNeedless 37 = .ok (.iload_n 2, 1) := by decide +kernel
theorem dX1_dropNeedless_38 : decode cX1_dropNeedless 38 = .ok (.invokevirtual 149, 3) := by decide +kernel
theorem dX1_dropNeedless_41 : decode cX1_dropNeedless 41 = .ok (.iinc 2 (-1), 3) := by decide +kernel
theorem dX1_dropNeedless_44 : decode cX1_dropNeedless 44 = .ok (.goto (-32), 3) := by decide +kernel
theorem dX1_dropNeedless_47 : decode cX1_dropNeedless 47 = .ok (.return_, 1) := by decide +kernel
set_option maxRecDepth 20000 in
theorem ggX1_narrow_X1_countHolders : GoodIn wsX1_narrow wsX1_countHolders := goodIn_r _ [5, 6, 7, 8, 9, 10, 11, 12, 13, 14, 15, 16, 17, 18, 19, 20, 4, 21, 22, 23, 24, 25, 26, 27, 28, 29, 30, 31, 41, 42, 43, 44, 45, 46, 47, 48, 49, 50] (by decide +kernel) (by decide +kernel)
set_option maxRecDepth 20000 in
theorem gX1_narrow_X1_countHolders : GoodIn wsX1_narrow (wsV RX1 140 RX1 yX1_countHolders wsX1_countHolders) := goodIn_app (goodIn_of _ (by decide +kernel)) ggX1_narrow_X1_countHolders
set_option maxRecDepth 20000 in
theorem ggX1_narrow_X0_length : GoodIn wsX1_narrow wsX0_length := goodIn_r _ [11, 12, 49, 50] (by decide +kernel) (by decide +kernel)
set_option maxRecDepth 20000 in
theorem gX1_narrow_X0_length : GoodIn wsX1_narrow (wsV RX1 63 RX0 yX0_length wsX0_length) := goodIn_app (goodIn_of _ (by decide +kernel)) ggX1_narrow_X0_length
set_option maxRecDepth 20000 in
theorem ggX1_narrow_X0_at : GoodIn wsX1_narrow wsX0_at := goodIn_r _ [16, 12, 17, 49, 50] (by decide +kernel) (by decide +kernel)
set_option maxRecDepth 20000 in
theorem gX1_narrow_X0_at : GoodIn wsX1_narrow (wsV RX1 67 RX0 yX0_at wsX0_at) := goodIn_app (goodIn_of _ (by decide +kernel)) ggX1_narrow_X0_at
set_option maxRecDepth 20000 in
theorem ggX1_narrow_X1_ownPart : GoodIn wsX1_narrow wsX1_ownPart := goodIn_r _ [35, 36, 6, 31, 22, 23, 24, 4, 25, 26, 27, 28, 29, 30, 41, 42, 43, 44, 45, 46, 47, 48] (by decide +kernel) (by decide +kernel)
set_option maxRecDepth 20000 in
theorem gX1_narrow_X1_ownPart : GoodIn wsX1_narrow (wsV RX1 143 RX1 yX1_ownPart wsX1_ownPart) := goodIn_app (goodIn_of _ (by decide +kernel)) ggX1_narrow_X1_ownPart
set_option maxRecDepth 20000 in
theorem ggX1_narrow_X1_addToHolders : GoodIn wsX1_narrow wsX1_addToHolders := goodIn_r _ [21, 6, 22, 23, 24, 4, 25, 26, 27, 28, 29, 30, 31, 41, 42, 43, 44, 45, 46, 47, 48] (by decide +kernel) (by decide +kernel)
set_option maxRecDepth 20000 in
theorem gX1_narrow_X1_addToHolders : GoodIn wsX1_narrow (wsV RX1 146 RX1 yX1_addToHolders wsX1_addToHolders) := goodIn_app (goodIn_of _ (by decide +kernel)) ggX1_narrow_X1_addToHolders
set_option maxRecDepth 20000 in
theorem ggX1_narrow_X0_put : GoodIn wsX1_narrow wsX0_put := goodIn_r _ [40, 12, 17, 49, 50] (by decide +kernel) (by decide +kernel)
set_option maxRecDepth 20000 in
theorem gX1_narrow_X0_put : GoodIn wsX1_narrow (wsV RX1 133 RX0 yX0_put wsX0_put) := goodIn_app (goodIn_of _ (by decide +kernel)) ggX1_narrow_X0_put
theorem dX1_narrow_0 : decode cX1_narrow 0 = .ok (.aload_n 0, 1) := by decide +kernel
theorem dX1_narrow_1 : decode cX1_narrow 1 = .ok (.aload_n 1, 1) := by decide +kernel
theorem dX1_narrow_2 : decode cX1_narrow 2 = .ok (.invokevirtual 140, 3) := by decide +kernel
theorem dX1_narrow_5 : decode cX1_narrow 5 = .ok (.iconst 0, 1) := by decide +kernel
theorem dX1_narrow_6 : decode cX1_narrow 6 = .ok (.istore_n 2, 1) := by decide +kernel
theorem dX1_narrow_7 : decode cX1_narrow 7 = .ok (.iload_n 2, 1) := by decide +kernel
theorem dX1_narrow_8 : decode cX1_narrow 8 = .ok (.aload_n 1, 1) := by decide +kernel
theorem dX1_narrow_9 : decode cX1_narrow 9 = .ok (.invokevirtual 63, 3) := by decide +kernel
theorem dX1_narrow_12 : decode cX1_narrow 12 = .ok (.if_icmp .ge 42, 3) := by decide +kernel
theorem dX1_narrow_15 : decode cX1_narrow 15 = .ok (.aload_n 1, 1) := by decide +kernel
theorem dX1_narrow_16 : decode cX1_narrow 16 = .ok (.iload_n 2, 1) := by decide +kernel
theorem dX1_narrow_17 : decode cX1_narrow 17 = .ok (.invokevirtual 67, 3) := by decide +kernel
theorem dX1_narrow_20 : decode cX1_narrow 20 = .ok (.istore_n 3, 1) := by decide +kernel
theorem dX1_narrow_21 : decode cX1_narrow 21 = .ok (.aload_n 0, 1) := by decide +kernel
theorem dX1_narrow_22 : decode cX1_narrow 22 = .ok (.iload_n 3, 1) := by decide +kernel
theorem dX1_narrow_23 : decode cX1_narrow 23 = .ok (.invokevirtual 143, 3) := by decide +kernel
theorem dX1_narrow_26 : decode cX1_narrow 26 = .ok (.istore 4, 2) := by decide +kernel
theorem dX1_narrow_28 : decode cX1_narrow 28 = .ok (.aload_n 0, 1) := by decide +kernel
theorem dX1_narrow_29 : decode cX1_narrow 29 = .ok (.iload_n 3, 1) := by decide +kernel
theorem dX1_narrow_30 : decode cX1_narrow 30 = .ok (.iconst (-1), 1) := by decide +kernel
theorem dX1_narrow_31 : decode cX1_narrow 31 = .ok (.invokevirtual 146, 3) := by decide +kernel
theorem dX1_narrow_34 : decode cX1_narrow 34 = .ok (.aload_n 0, 1) := by decide +kernel
theorem dX1_narrow_35 : decode cX1_narrow 35 = .ok (.iload 4, 2) := by decide +kernel
theorem dX1_narrow_37 : decode cX1_narrow 37 = .ok (.iconst 1, 1) := by decide +kernel
theorem dX1_narrow_38 : decode cX1_narrow 38 = .ok (.invokevirtual 146, 3) := by decide +kernel
theorem dX1_narrow_41 : decode cX1_narrow 41 = .ok (.aload_n 1, 1) := by decide +kernel
theorem dX1_narrow_42 : decode cX1_narrow 42 = .ok (.iload_n 2, 1) := by decide +kernel
theorem dX1_narrow_43 : decode cX1_narrow 43 = .ok (.iload 4, 2) := by decide +kernel
theorem dX1_narrow_45 : decode cX1_narrow 45 = .ok (.invokevirtual 133, 3) := by decide +kernel
theorem dX1_narrow_48 : decode cX1_narrow 48 = .ok (.iinc 2 1, 3) := by decide +kernel
theorem dX1_narrow_51 : decode cX1_narrow 51 = .ok (.goto (-44), 3) := by decide +kernel
theorem dX1_narrow_54 : decode cX1_narrow 54 = .ok (.return_, 1) := by decide +kernel
set_option maxRecDepth 20000 in
theorem ggX1_countHolders_X0_length : GoodIn wsX1_countHolders wsX0_length := goodIn_r _ [6, 7, 36, 37] (by decide +kernel) (by decide +kernel)
set_option maxRecDepth 20000 in
theorem gX1_countHolders_X0_length : GoodIn wsX1_countHolders (wsV RX1 63 RX0 yX0_length wsX0_length) := goodIn_app (goodIn_of _ (by decide +kernel)) ggX1_countHolders_X0_length
set_option maxRecDepth 20000 in
theorem ggX1_countHolders_X0_at : GoodIn wsX1_countHolders wsX0_at := goodIn_r _ [11, 7, 12, 36, 37] (by decide +kernel) (by decide +kernel)
set_option maxRecDepth 20000 in
theorem gX1_countHolders_X0_at : GoodIn wsX1_countHolders (wsV RX1 67 RX0 yX0_at wsX0_at) := goodIn_app (goodIn_of _ (by decide +kernel)) ggX1_countHolders_X0_at
set_option maxRecDepth 20000 in
theorem ggX1_countHolders_X1_addToHolders : GoodIn wsX1_countHolders wsX1_addToHolders := goodIn_r _ [17, 1, 18, 19, 20, 16, 21, 22, 23, 24, 25, 26, 27, 28, 29, 30, 31, 32, 33, 34, 35] (by decide +kernel) (by decide +kernel)
set_option maxRecDepth 20000 in
theorem gX1_countHolders_X1_addToHolders : GoodIn wsX1_countHolders (wsV RX1 146 RX1 yX1_addToHolders wsX1_addToHolders) := goodIn_app (goodIn_of _ (by decide +kernel)) ggX1_countHolders_X1_addToHolders
theorem dX1_countHolders_0 : decode cX1_countHolders 0 = .ok (.iconst 0, 1) := by decide +kernel
theorem dX1_countHolders_1 : decode cX1_countHolders 1 = .ok (.istore_n 2, 1) := by decide +kernel
theorem dX1_countHolders_2 : decode cX1_countHolders 2 = .ok (.iload_n 2, 1) := by decide +kernel
theorem dX1_countHolders_3 : decode cX1_countHolders 3 = .ok (.sipush 256, 3) := by decide +kernel
theorem dX1_countHolders_6 : decode cX1_countHolders 6 = .ok (.if_icmp .ge 16, 3) := by decide +kernel
theorem dX1_countHolders_9 : decode cX1_countHolders 9 = .ok (.aload_n 0, 1) := by decide +kernel
theorem dX1_countHolders_10 : decode cX1_countHolders 10 = .ok (.getfield 32, 3) := by decide +kernel
theorem dX1_countHolders_13 : decode cX1_countHolders 13 = .ok (.iload_n 2, 1) := by decide +kernel
theorem dX1_countHolders_14 : decode cX1_countHolders 14 = .ok (.iconst 0, 1) := by decide +kernel
theorem dX1_countHolders_15 : decode cX1_countHolders 15 = .ok (.iastore, 1) := by decide +kernel
theorem dX1_countHolders_16 : decode cX1_countHolders 16 = .ok (.iinc 2 1, 3) := by decide +kernel
theorem dX1_countHolders_19 : decode cX1_countHolders 19 = .ok (.goto (-17), 3) := by decide +kernel
theorem dX1_countHolders_22 : decode cX1_countHolders 22 = .ok (.iconst 0, 1) := by decide +kernel
theorem dX1_countHolders_23 : decode cX1_countHolders 23 = .ok (.istore_n 2, 1) := by decide +kernel
theorem dX1_countHolders_24 : decode cX1_countHolders 24 = .ok (.iload_n 2, 1) := by decide +kernel
theorem dX1_countHolders_25 : decode cX1_countHolders 25 = .ok (.aload_n 1, 1) := by decide +kernel
theorem dX1_countHolders_26 : decode cX1_countHolders 26 = .ok (.invokevirtual 63, 3) := by decide +kernel
theorem dX1_countHolders_29 : decode cX1_countHolders 29 = .ok (.if_icmp .ge 19, 3) := by decide +kernel
theorem dX1_countHolders_32 : decode cX1_countHolders 32 = .ok (.aload_n 0, 1) := by decide +kernel
theorem dX1_countHolders_33 : decode cX1_countHolders 33 = .ok (.aload_n 1, 1) := by decide +kernel
theorem dX1_countHolders_34 : decode cX1_countHolders 34 = .ok (.iload_n 2, 1) := by decide +kernel
theorem dX1_countHolders_35 : decode cX1_countHolders 35 = .ok (.invokevirtual 67, 3) := by decide +kernel
theorem dX1_countHolders_38 : decode cX1_countHolders 38 = .ok (.iconst 1, 1) := by decide +kernel
theorem dX1_countHolders_39 : decode cX1_countHolders 39 = .ok (.invokevirtual 146, 3) := by decide +kernel
end
section
theorem dX1_countHolders_42 : decode cX1_countHolders 42 = .ok (.iinc 2 1, 3) := by decide +kernel
theorem dX1_countHolders_45 : decode cX1_countHolders 45 = .ok (.goto (-21), 3) := by decide +kernel
theorem dX1_countHolders_48 : decode cX1_countHolders 48 = .ok (.return_, 1) := by decide +kernel
set_option maxRecDepth 20000 in
theorem ggX1_addToHolders_X1_pointCount : GoodIn wsX1_addToHolders wsX1_pointCount := goodIn_r _ [6, 7, 13, 14, 15, 16, 17, 18, 19, 20] (by decide +kernel) (by decide +kernel)
set_option maxRecDepth 20000 in
theorem gX1_addToHolders_X1_pointCount : GoodIn wsX1_addToHolders (wsV RX1 122 RX1 yX1_pointCount wsX1_pointCount) := goodIn_app (goodIn_of _ (by decide +kernel)) ggX1_addToHolders_X1_pointCount
set_option maxRecDepth 20000 in
theorem ggX1_addToHolders_X1_isInCube : GoodIn wsX1_addToHolders wsX1_isInCube := goodIn_r _ [11, 12, 13, 14, 15, 16, 17, 18, 19, 20] (by decide +kernel) (by decide +kernel)
set_option maxRecDepth 20000 in
theorem gX1_addToHolders_X1_isInCube : GoodIn wsX1_addToHolders (wsV RX1 125 RX1 yX1_isInCube wsX1_isInCube) := goodIn_app (goodIn_of _ (by decide +kernel)) ggX1_addToHolders_X1_isInCube
theorem dX1_addToHolders_0 : decode cX1_addToHolders 0 = .ok (.aload_n 0, 1) := by decide +kernel
theorem dX1_addToHolders_1 : decode cX1_addToHolders 1 = .ok (.invokevirtual 122, 3) := by decide +kernel
theorem dX1_addToHolders_4 : decode cX1_addToHolders 4 = .ok (.istore_n 3, 1) := by decide +kernel
theorem dX1_addToHolders_5 : decode cX1_addToHolders 5 = .ok (.iconst 0, 1) := by decide +kernel
theorem dX1_addToHolders_6 : decode cX1_addToHolders 6 = .ok (.istore 4, 2) := by decide +kernel
theorem dX1_addToHolders_8 : decode cX1_addToHolders 8 = .ok (.iload 4, 2) := by decide +kernel
theorem dX1_addToHolders_10 : decode cX1_addToHolders 10 = .ok (.iload_n 3, 1) := by decide +kernel
theorem dX1_addToHolders_11 : decode cX1_addToHolders 11 = .ok (.if_icmp .ge 30, 3) := by decide +kernel
theorem dX1_addToHolders_14 : decode cX1_addToHolders 14 = .ok (.aload_n 0, 1) := by decide +kernel
theorem dX1_addToHolders_15 : decode cX1_addToHolders 15 = .ok (.iload_n 1, 1) := by decide +kernel
theorem dX1_addToHolders_16 : decode cX1_addToHolders 16 = .ok (.iload 4, 2) := by decide +kernel
theorem dX1_addToHolders_18 : decode cX1_addToHolders 18 = .ok (.invokevirtual 125, 3) := by decide +kernel
theorem dX1_addToHolders_21 : decode cX1_addToHolders 21 = .ok (.ifCond .eq 14, 3) := by decide +kernel
theorem dX1_addToHolders_24 : decode cX1_addToHolders 24 = .ok (.aload_n 0, 1) := by decide +kernel
theorem dX1_addToHolders_25 : decode cX1_addToHolders 25 = .ok (.getfield 32, 3) := by decide +kernel
theorem dX1_addToHolders_28 : decode cX1_addToHolders 28 = .ok (.iload 4, 2) := by decide +kernel
theorem dX1_addToHolders_30 : decode cX1_addToHolders 30 = .ok (.dup2, 1) := by decide +kernel
theorem dX1_addToHolders_31 : decode cX1_addToHolders 31 = .ok (.iaload, 1) := by decide +kernel
theorem dX1_addToHolders_32 : decode cX1_addToHolders 32 = .ok (.iload_n 2, 1) := by decide +kernel
theorem dX1_addToHolders_33 : decode cX1_addToHolders 33 = .ok (.iadd, 1) := by decide +kernel
theorem dX1_addToHolders_34 : decode cX1_addToHolders 34 = .ok (.iastore, 1) := by decide +kernel
theorem dX1_addToHolders_35 : decode cX1_addToHolders 35 = .ok (.iinc 4 1, 3) := by decide +kernel
theorem dX1_addToHolders_38 : decode cX1_addToHolders 38 = .ok (.goto (-30), 3) := by decide +kernel
theorem dX1_addToHolders_41 : decode cX1_addToHolders 41 = .ok (.return_, 1) := by decide +kernel
set_option maxRecDepth 20000 in
theorem ggX1_ownPart_X1_pointCount : GoodIn wsX1_ownPart wsX1_pointCount := goodIn_r _ [8, 9, 14, 15, 16, 17, 18, 19, 20, 21] (by decide +kernel) (by decide +kernel)
set_option maxRecDepth 20000 in
theorem gX1_ownPart_X1_pointCount : GoodIn wsX1_ownPart (wsV RX1 122 RX1 yX1_pointCount wsX1_pointCount) := goodIn_app (goodIn_of _ (by decide +kernel)) ggX1_ownPart_X1_pointCount
set_option maxRecDepth 20000 in
theorem ggX1_ownPart_X1_isInCube : GoodIn wsX1_ownPart wsX1_isInCube := goodIn_r _ [13, 3, 14, 15, 16, 17, 18, 19, 20, 21] (by decide +kernel) (by decide +kernel)
set_option maxRecDepth 20000 in
theorem gX1_ownPart_X1_isInCube : GoodIn wsX1_ownPart (wsV RX1 125 RX1 yX1_isInCube wsX1_isInCube) := goodIn_app (goodIn_of _ (by decide +kernel)) ggX1_ownPart_X1_isInCube
theorem dX1_ownPart_0 : decode cX1_ownPart 0 = .ok (.aload_n 0, 1) := by decide +kernel
theorem dX1_ownPart_1 : decode cX1_ownPart 1 = .ok (.invokevirtual 122, 3) := by decide +kernel
theorem dX1_ownPart_4 : decode cX1_ownPart 4 = .ok (.istore_n 2, 1) := by decide +kernel
theorem dX1_ownPart_5 : decode cX1_ownPart 5 = .ok (.iconst 0, 1) := by decide +kernel
theorem dX1_ownPart_6 : decode cX1_ownPart 6 = .ok (.istore_n 3, 1) := by decide +kernel
theorem dX1_ownPart_7 : decode cX1_ownPart 7 = .ok (.iconst 0, 1) := by decide +kernel
theorem dX1_ownPart_8 : decode cX1_ownPart 8 = .ok (.istore 4, 2) := by decide +kernel
theorem dX1_ownPart_10 : decode cX1_ownPart 10 = .ok (.iload 4, 2) := by decide +kernel
theorem dX1_ownPart_12 : decode cX1_ownPart 12 = .ok (.iload_n 2, 1) := by decide +kernel
theorem dX1_ownPart_13 : decode cX1_ownPart 13 = .ok (.if_icmp .ge 51, 3) := by decide +kernel
theorem dX1_ownPart_16 : decode cX1_ownPart 16 = .ok (.aload_n 0, 1) := by decide +kernel
theorem dX1_ownPart_17 : decode cX1_ownPart 17 = .ok (.getfield 29, 3) := by decide +kernel
theorem dX1_ownPart_20 : decode cX1_ownPart 20 = .ok (.iload 4, 2) := by decide +kernel
theorem dX1_ownPart_22 : decode cX1_ownPart 22 = .ok (.iaload, 1) := by decide +kernel
theorem dX1_ownPart_23 : decode cX1_ownPart 23 = .ok (.iconst 1, 1) := by decide +kernel
theorem dX1_ownPart_24 : decode cX1_ownPart 24 = .ok (.if_icmp .ne 34, 3) := by decide +kernel
theorem dX1_ownPart_27 : decode cX1_ownPart 27 = .ok (.aload_n 0, 1) := by decide +kernel
theorem dX1_ownPart_28 : decode cX1_ownPart 28 = .ok (.getfield 32, 3) := by decide +kernel
theorem dX1_ownPart_31 : decode cX1_ownPart 31 = .ok (.iload 4, 2) := by decide +kernel
theorem dX1_ownPart_33 : decode cX1_ownPart 33 = .ok (.iaload, 1) := by decide +kernel
theorem dX1_ownPart_34 : decode cX1_ownPart 34 = .ok (.iconst 1, 1) := by decide +kernel
theorem dX1_ownPart_35 : decode cX1_ownPart 35 = .ok (.if_icmp .ne 23, 3) := by decide +kernel
theorem dX1_ownPart_38 : decode cX1_ownPart 38 = .ok (.aload_n 0, 1) := by decide +kernel
theorem dX1_ownPart_39 : decode cX1_ownPart 39 = .ok (.iload_n 1, 1) := by decide +kernel
theorem dX1_ownPart_40 : decode cX1_ownPart 40 = .ok (.iload 4, 2) := by decide +kernel
theorem dX1_ownPart_42 : decode cX1_ownPart 42 = .ok (.invokevirtual 125, 3) := by decide +kernel
theorem dX1_ownPart_45 : decode cX1_ownPart 45 = .ok (.ifCond .eq 13, 3) := by decide +kernel
theorem dX1_ownPart_48 : decode cX1_ownPart 48 = .ok (.iload_n 3, 1) := by decide +kernel
theorem dX1_ownPart_49 : decode cX1_ownPart 49 = .ok (.aload_n 0, 1) := by decide +kernel
theorem dX1_ownPart_50 : decode cX1_ownPart 50 = .ok (.getfield 25, 3) := by decide +kernel
theorem dX1_ownPart_53 : decode cX1_ownPart 53 = .ok (.iload 4, 2) := by decide +kernel
theorem dX1_ownPart_55 : decode cX1_ownPart 55 = .ok (.iaload, 1) := by decide +kernel
theorem dX1_ownPart_56 : decode cX1_ownPart 56 = .ok (.ior, 1) := by decide +kernel
theorem dX1_ownPart_57 : decode cX1_ownPart 57 = .ok (.istore_n 3, 1) := by decide +kernel
theorem dX1_ownPart_58 : decode cX1_ownPart 58 = .ok (.iinc 4 1, 3) := by decide +kernel
theorem dX1_ownPart_61 : decode cX1_ownPart 61 = .ok (.goto (-51), 3) := by decide +kernel
theorem dX1_ownPart_64 : decode cX1_ownPart 64 = .ok (.iload_n 3, 1) := by decide +kernel
theorem dX1_ownPart_65 : decode cX1_ownPart 65 = .ok (.ireturn, 1) := by decide +kernel
set_option maxRecDepth 20000 in
theorem ggX1_isSmaller_X0_length : GoodIn wsX1_isSmaller wsX0_length := goodIn_r _ [5, 6, 21, 22] (by decide +kernel) (by decide +kernel)
set_option maxRecDepth 20000 in
theorem gX1_isSmaller_X0_length : GoodIn wsX1_isSmaller (wsV RX1 63 RX0 yX0_length wsX0_length) := goodIn_app (goodIn_of _ (by decide +kernel)) ggX1_isSmaller_X0_length
set_option maxRecDepth 20000 in
theorem ggX1_isSmaller_X1_countLiterals : GoodIn wsX1_isSmaller wsX1_countLiterals := goodIn_r _ [11, 12, 1, 2, 3, 4, 5, 6, 13, 14, 15, 16, 17, 18, 19, 10, 20, 23, 24, 25, 26, 27, 28, 29, 30, 21, 22] (by decide +kernel) (by decide +kernel)
set_option maxRecDepth 20000 in
theorem gX1_isSmaller_X1_countLiterals : GoodIn wsX1_isSmaller (wsV RX1 71 RX1 yX1_countLiterals wsX1_countLiterals) := goodIn_app (goodIn_of _ (by decide +kernel)) ggX1_isSmaller_X1_countLiterals
theorem dX1_isSmaller_0 : decode cX1_isSmaller 0 = .ok (.aload_n 1, 1) := by decide +kernel
theorem dX1_isSmaller_1 : decode cX1_isSmaller 1 = .ok (.invokevirtual 63, 3) := by decide +kernel
theorem dX1_isSmaller_4 : decode cX1_isSmaller 4 = .ok (.aload_n 2, 1) := by decide +kernel
theorem dX1_isSmaller_5 : decode cX1_isSmaller 5 = .ok (.invokevirtual 63, 3) := by decide +kernel
theorem dX1_isSmaller_8 : decode cX1_isSmaller 8 = .ok (.if_icmp .eq 20, 3) := by decide +kernel
theorem dX1_isSmaller_11 : decode cX1_isSmaller 11 = .ok (.aload_n 1, 1) := by decide +kernel
theorem dX1_isSmaller_12 : decode cX1_isSmaller 12 = .ok (.invokevirtual 63, 3) := by decide +kernel
theorem dX1_isSmaller_15 : decode cX1_isSmaller 15 = .ok (.aload_n 2, 1) := by decide +kernel
theorem dX1_isSmaller_16 : decode cX1_isSmaller 16 = .ok (.invokevirtual 63, 3) := by decide +kernel
theorem dX1_isSmaller_19 : decode cX1_isSmaller 19 = .ok (.if_icmp .ge 7, 3) := by decide +kernel
theorem dX1_isSmaller_22 : decode cX1_isSmaller 22 = .ok (.iconst 1, 1) := by decide +kernel
theorem dX1_isSmaller_23 : decode cX1_isSmaller 23 = .ok (.goto 4, 3) := by decide +kernel
theorem dX1_isSmaller_26 : decode cX1_isSmaller 26 = .ok (.iconst 0, 1) := by decide +kernel
theorem dX1_isSmaller_27 : decode cX1_isSmaller 27 = .ok (.ireturn, 1) := by decide +kernel
theorem dX1_isSmaller_28 : decode cX1_isSmaller 28 = .ok (.aload_n 0, 1) := by decide +kernel
theorem dX1_isSmaller_29 : decode cX1_isSmaller 29 = .ok (.aload_n 1, 1) := by decide +kernel
theorem dX1_isSmaller_30 : decode cX1_isSmaller 30 = .ok (.invokevirtual 71, 3) := by decide +kernel
theorem dX1_isSmaller_33 : decode cX1_isSmaller 33 = .ok (.aload_n 0, 1) := by decide +kernel
theorem dX1_isSmaller_34 : decode cX1_isSmaller 34 = .ok (.aload_n 2, 1) := by decide +kernel
theorem dX1_isSmaller_35 : decode cX1_isSmaller 35 = .ok (.invokevirtual 71, 3) := by decide +kernel
theorem dX1_isSmaller_38 : decode cX1_isSmaller 38 = .ok (.if_icmp .ge 7, 3) := by decide +kernel
theorem dX1_isSmaller_41 : decode cX1_isSmaller 41 = .ok (.iconst 1, 1) := by decide +kernel
theorem dX1_isSmaller_42 : decode cX1_isSmaller 42 = .ok (.goto 4, 3) := by decide +kernel
theorem dX1_isSmaller_45 : decode cX1_isSmaller 45 = .ok (.iconst 0, 1) := by decide +kernel
theorem dX1_isSmaller_46 : decode cX1_isSmaller 46 = .ok (.ireturn, 1) := by decide +kernel
theorem dX2_init_0 : decode cX2_init 0 = .ok (.aload_n 0, 1) := by decide +kernel
theorem dX2_init_1 : decode cX2_init 1 = .ok (.invokespecial 1, 3) := by decide +kernel
theorem dX2_init_4 : decode cX2_init 4 = .ok (.aload_n 0, 1) := by decide +kernel
theorem dX2_init_5 : decode cX2_init 5 = .ok (.bipush 96, 2) := by decide +kernel
theorem dX2_init_7 : decode cX2_init 7 = .ok (.newarray .int, 2) := by decide +kernel
theorem dX2_init_9 : decode cX2_init 9 = .ok (.putfield 7, 3) := by decide +kernel
theorem dX2_init_12 : decode cX2_init 12 = .ok (.aload_n 0, 1) := by decide +kernel
theorem dX2_init_13 : decode cX2_init 13 = .ok (.iconst 4, 1) := by decide +kernel
theorem dX2_init_14 : decode cX2_init 14 = .ok (.newarray .int, 2) := by decide +kernel
theorem dX2_init_16 : decode cX2_init 16 = .ok (.putfield 13, 3) := by decide +kernel
theorem dX2_init_19 : decode cX2_init 19 = .ok (.aload_n 0, 1) := by decide +kernel
theorem dX2_init_20 : decode cX2_init 20 = .ok (.sipush 256, 3) := by decide +kernel
theorem dX2_init_23 : decode cX2_init 23 = .ok (.newarray .int, 2) := by decide +kernel
theorem dX2_init_25 : decode cX2_init 25 = .ok (.putfield 16, 3) := by decide +kernel
theorem dX2_init_28 : decode cX2_init 28 = .ok (.aload_n 0, 1) := by decide +kernel
theorem dX2_init_29 : decode cX2_init 29 = .ok (.iconst 4, 1) := by decide +kernel
theorem dX2_init_30 : decode cX2_init 30 = .ok (.putfield 19, 3) := by decide +kernel
theorem dX2_init_33 : decode cX2_init 33 = .ok (.return_, 1) := by decide +kernel
set_option maxRecDepth 20000 in
theorem ggX2_start_X2_sort : GoodIn wsX2_start wsX2_sort := goodIn_r _ [7, 1, 8, 9, 10, 11, 6, 12, 2, 13, 14, 15, 16, 17, 18, 19, 20, 21] (by decide +kernel) (by decide +kernel)
set_option maxRecDepth 20000 in
theorem gX2_start_X2_sort : GoodIn wsX2_start (wsV RX2 23 RX2 yX2_sort wsX2_sort) := goodIn_app (goodIn_of _ (by decide +kernel)) ggX2_start_X2_sort
theorem dX2_start_0 : decode cX2_start 0 = .ok (.iload_n 1, 1) := by decide +kernel
theorem dX2_start_1 : decode cX2_start 1 = .ok (.iconst 1, 1) := by decide +kernel
theorem dX2_start_2 : decode cX2_start 2 = .ok (.if_icmp .lt 9, 3) := by decide +kernel
theorem dX2_start_5 : decode cX2_start 5 = .ok (.iload_n 1, 1) := by decide +kernel
theorem dX2_start_6 : decode cX2_start 6 = .ok (.bipush 8, 2) := by decide +kernel
theorem dX2_start_8 : decode cX2_start 8 = .ok (.if_icmp .le 5, 3) := by decide +kernel
theorem dX2_start_11 : decode cX2_start 11 = .ok (.iconst 0, 1) := by decide +kernel
theorem dX2_start_12 : decode cX2_start 12 = .ok (.ireturn, 1) := by decide +kernel
theorem dX2_start_13 : decode cX2_start 13 = .ok (.aload_n 0, 1) := by decide +kernel
theorem dX2_start_14 : decode cX2_start 14 = .ok (.iload_n 1, 1) := by decide +kernel
theorem dX2_start_15 : decode cX2_start 15 = .ok (.putfield 19, 3) := by decide +kernel
theorem dX2_start_18 : decode cX2_start 18 = .ok (.iconst 0, 1) := by decide +kernel
theorem dX2_start_19 : decode cX2_start 19 = .ok (.istore_n 2, 1) := by decide +kernel
theorem dX2_start_20 : decode cX2_start 20 = .ok (.iload_n 2, 1) := by decide +kernel
theorem dX2_start_21 : decode cX2_start 21 = .ok (.iconst 4, 1) := by decide +kernel
theorem dX2_start_22 : decode cX2_start 22 = .ok (.if_icmp .ge 16, 3) := by decide +kernel
theorem dX2_start_25 : decode cX2_start 25 = .ok (.aload_n 0, 1) := by decide +kernel
theorem dX2_start_26 : decode cX2_start 26 = .ok (.getfield 13, 3) := by decide +kernel
theorem dX2_start_29 : decode cX2_start 29 = .ok (.iload_n 2, 1) := by decide +kernel
theorem dX2_start_30 : decode cX2_start 30 = .ok (.iconst 0, 1) := by decide +kernel
theorem dX2_start_31 : decode cX2_start 31 = .ok (.iastore, 1) := by decide +kernel
theorem dX2_start_32 : decode cX2_start 32 = .ok (.iinc 2 1, 3) := by decide +kernel
theorem dX2_start_35 : decode cX2_start 35 = .ok (.goto (-15), 3) := by decide +kernel
theorem dX2_start_38 : decode cX2_start 38 = .ok (.aload_n 0, 1) := by decide +kernel
theorem dX2_start_39 : decode cX2_start 39 = .ok (.invokevirtual 23, 3) := by decide +kernel
theorem dX2_start_42 : decode cX2_start 42 = .ok (.iconst 1, 1) := by decide +kernel
theorem dX2_start_43 : decode cX2_start 43 = .ok (.ireturn, 1) := by decide +kernel
theorem dX2_inputs_0 : decode cX2_inputs 0 = .ok (.aload_n 0, 1) := by decide +kernel
theorem dX2_inputs_1 : decode cX2_inputs 1 = .ok (.getfield 19, 3) := by decide +kernel
theorem dX2_inputs_4 : decode cX2_inputs 4 = .ok (.ireturn, 1) := by decide +kernel
theorem dX2_isCube_0 : decode cX2_isCube 0 = .ok (.iload_n 1, 1) := by decide +kernel
theorem dX2_isCube_1 : decode cX2_isCube 1 = .ok (.ifCond .lt 19, 3) := by decide +kernel
theorem dX2_isCube_4 : decode cX2_isCube 4 = .ok (.iload_n 1, 1) := by decide +kernel
theorem dX2_isCube_5 : decode cX2_isCube 5 = .ok (.iconst 1, 1) := by decide +kernel
theorem dX2_isCube_6 : decode cX2_isCube 6 = .ok (.iconst 2, 1) := by decide +kernel
theorem dX2_isCube_7 : decode cX2_isCube 7 = .ok (.aload_n 0, 1) := by decide +kernel
theorem dX2_isCube_8 : decode cX2_isCube 8 = .ok (.getfield 19, 3) := by decide +kernel
theorem dX2_isCube_11 : decode cX2_isCube 11 = .ok (.imul, 1) := by decide +kernel
theorem dX2_isCube_12 : decode cX2_isCube 12 = .ok (.ishl, 1) := by decide +kernel
theorem dX2_isCube_13 : decode cX2_isCube 13 = .ok (.if_icmp .ge 7, 3) := by decide +kernel
theorem dX2_isCube_16 : decode cX2_isCube 16 = .ok (.iconst 1, 1) := by decide +kernel
theorem dX2_isCube_17 : decode cX2_isCube 17 = .ok (.goto 4, 3) := by decide +kernel
theorem dX2_isCube_20 : decode cX2_isCube 20 = .ok (.iconst 0, 1) := by decide +kernel
theorem dX2_isCube_21 : decode cX2_isCube 21 = .ok (.ireturn, 1) := by decide +kernel
theorem dX2_isVoid_0 : decode cX2_isVoid 0 = .ok (.iconst 0, 1) := by decide +kernel
theorem dX2_isVoid_1 : decode cX2_isVoid 1 = .ok (.istore_n 2, 1) := by decide +kernel
theorem dX2_isVoid_2 : decode cX2_isVoid 2 = .ok (.iload_n 2, 1) := by decide +kernel
theorem dX2_isVoid_3 : decode cX2_isVoid 3 = .ok (.aload_n 0, 1) := by decide +kernel
theorem dX2_isVoid_4 : decode cX2_isVoid 4 = .ok (.getfield 19, 3) := by decide +kernel
theorem dX2_isVoid_7 : decode cX2_isVoid 7 = .ok (.if_icmp .ge 21, 3) := by decide +kernel
theorem dX2_isVoid_10 : decode cX2_isVoid 10 = .ok (.iload_n 1, 1) := by decide +kernel
theorem dX2_isVoid_11 : decode cX2_isVoid 11 = .ok (.iconst 2, 1) := by decide +kernel
theorem dX2_isVoid_12 : decode cX2_isVoid 12 = .ok (.iload_n 2, 1) := by decide +kernel
theorem dX2_isVoid_13 : decode cX2_isVoid 13 = .ok (.imul, 1) := by decide +kernel
theorem dX2_isVoid_14 : decode cX2_isVoid 14 = .ok (.ishr, 1) := by decide +kernel
theorem dX2_isVoid_15 : decode cX2_isVoid 15 = .ok (.iconst 3, 1) := by decide +kernel
theorem dX2_isVoid_16 : decode cX2_isVoid 16 = .ok (.iand, 1) := by decide +kernel
theorem dX2_isVoid_17 : decode cX2_isVoid 17 = .ok (.ifCond .ne 5, 3) := by decide +kernel
theorem dX2_isVoid_20 : decode cX2_isVoid 20 = .ok (.iconst 1, 1) := by decide +kernel
theorem dX2_isVoid_21 : decode cX2_isVoid 21 = .ok (.ireturn, 1) := by decide +kernel
theorem dX2_isVoid_22 : decode cX2_isVoid 22 = .ok (.iinc 2 1, 3) := by decide +kernel
theorem dX2_isVoid_25 : decode cX2_isVoid 25 = .ok (.goto (-23), 3) := by decide +kernel
theorem dX2_isVoid_28 : decode cX2_isVoid 28 = .ok (.iconst 0, 1) := by decide +kernel
theorem dX2_isVoid_29 : decode cX2_isVoid 29 = .ok (.ireturn, 1) := by decide +kernel
theorem dX2_in_0 : decode cX2_in 0 = .ok (.iconst 0, 1) := by decide +kernel
theorem dX2_in_1 : decode cX2_in 1 = .ok (.istore_n 3, 1) := by decide +kernel
theorem dX2_in_2 : decode cX2_in 2 = .ok (.iload_n 3, 1) := by decide +kernel
theorem dX2_in_3 : decode cX2_in 3 = .ok (.aload_n 0, 1) := by decide +kernel
theorem dX2_in_4 : decode cX2_in 4 = .ok (.getfield 19, 3) := by decide +kernel
theorem dX2_in_7 : decode cX2_in 7 = .ok (.if_icmp .ge 27, 3) := by decide +kernel
theorem dX2_in_10 : decode cX2_in 10 = .ok (.iload_n 2, 1) := by decide +kernel
theorem dX2_in_11 : decode cX2_in 11 = .ok (.iconst 2, 1) := by decide +kernel
theorem dX2_in_12 : decode cX2_in 12 = .ok (.iload_n 3, 1) := by decide +kernel
theorem dX2_in_13 : decode cX2_in 13 = .ok (.imul, 1) := by decide +kernel
theorem dX2_in_14 : decode cX2_in 14 = .ok (.iload_n 1, 1) := by decide +kernel
theorem dX2_in_15 : decode cX2_in 15 = .ok (.iload_n 3, 1) := by decide +kernel
theorem dX2_in_16 : decode cX2_in 16 = .ok (.ishr, 1) := by decide +kernel
theorem dX2_in_17 : decode cX2_in 17 = .ok (.iconst 1, 1) := by decide +kernel
theorem dX2_in_18 : decode cX2_in 18 = .ok (.iand, 1) := by decide +kernel
theorem dX2_in_19 : decode cX2_in 19 = .ok (.iadd, 1) := by decide +kernel
theorem dX2_in_20 : decode cX2_in 20 = .ok (.ishr, 1) := by decide +kernel
theorem dX2_in_21 : decode cX2_in 21 = .ok (.iconst 1, 1) := by decide +kernel
theorem dX2_in_22 : decode cX2_in 22 = .ok (.iand, 1) := by decide +kernel
theorem dX2_in_23 : decode cX2_in 23 = .ok (.ifCond .ne 5, 3) := by decide +kernel
theorem dX2_in_26 : decode cX2_in 26 = .ok (.iconst 0, 1) := by decide +kernel
theorem dX2_in_27 : decode cX2_in 27 = .ok (.ireturn, 1) := by decide +kernel
theorem dX2_in_28 : decode cX2_in 28 = .ok (.iinc 3 1, 3) := by decide +kernel
theorem dX2_in_31 : decode cX2_in 31 = .ok (.goto (-29), 3) := by decide +kernel
theorem dX2_in_34 : decode cX2_in 34 = .ok (.iconst 1, 1) := by decide +kernel
theorem dX2_in_35 : decode cX2_in 35 = .ok (.ireturn, 1) := by decide +kernel
set_option maxRecDepth 20000 in
theorem ggX2_inList_X2_in : GoodIn wsX2_inList wsX2_in := goodIn_r _ [7, 8, 9, 10, 11, 12] (by decide +kernel) (by decide +kernel)
set_option maxRecDepth 20000 in
theorem gX2_inList_X2_in : GoodIn wsX2_inList (wsV RX2 26 RX2 yX2_in wsX2_in) := goodIn_app (goodIn_of _ (by decide +kernel)) ggX2_inList_X2_in
theorem dX2_inList_0 : decode cX2_inList 0 = .ok (.iconst 0, 1) := by decide +kernel
theorem dX2_inList_1 : decode cX2_inList 1 = .ok (.istore_n 3, 1) := by decide +kernel
theorem dX2_inList_2 : decode cX2_inList 2 = .ok (.iload_n 3, 1) := by decide +kernel
theorem dX2_inList_3 : decode cX2_inList 3 = .ok (.aload_n 0, 1) := by decide +kernel
theorem dX2_inList_4 : decode cX2_inList 4 = .ok (.getfield 13, 3) := by decide +kernel
theorem dX2_inList_7 : decode cX2_inList 7 = .ok (.iload_n 2, 1) := by decide +kernel
theorem dX2_inList_8 : decode cX2_inList 8 = .ok (.iaload, 1) := by decide +kernel
theorem dX2_inList_9 : decode cX2_inList 9 = .ok (.if_icmp .ge 30, 3) := by decide +kernel
theorem dX2_inList_12 : decode cX2_inList 12 = .ok (.aload_n 0, 1) := by decide +kernel
theorem dX2_inList_13 : decode cX2_inList 13 = .ok (.iload_n 1, 1) := by decide +kernel
theorem dX2_inList_14 : decode cX2_inList 14 = .ok (.aload_n 0, 1) := by decide +kernel
theorem dX2_inList_15 : decode cX2_inList 15 = .ok (.getfield 7, 3) := by decide +kernel
theorem dX2_inList_18 : decode cX2_inList 18 = .ok (.bipush 24, 2) := by decide +kernel
theorem dX2_inList_20 : decode cX2_inList 20 = .ok (.iload_n 2, 1) := by decide +kernel
theorem dX2_inList_21 : decode cX2_inList 21 = .ok (.imul, 1) := by decide +kernel
theorem dX2_inList_22 : decode cX2_inList 22 = .ok (.iload_n 3, 1) := by decide +kernel
theorem dX2_inList_23 : decode cX2_inList 23 = .ok (.iadd, 1) := by decide +kernel
theorem dX2_inList_24 : decode cX2_inList 24 = .ok (.iaload, 1) := by decide +kernel
theorem dX2_inList_25 : decode cX2_inList 25 = .ok (.invokevirtual 26, 3) := by decide +kernel
theorem dX2_inList_28 : decode cX2_inList 28 = .ok (.ifCond .eq 5, 3) := by decide +kernel
theorem dX2_inList_31 : decode cX2_inList 31 = .ok (.iconst 1, 1) := by decide +kernel
theorem dX2_inList_32 : decode cX2_inList 32 = .ok (.ireturn, 1) := by decide +kernel
theorem dX2_inList_33 : decode cX2_inList 33 = .ok (.iinc 3 1, 3) := by decide +kernel
theorem dX2_inList_36 : decode cX2_inList 36 = .ok (.goto (-34), 3) := by decide +kernel
theorem dX2_inList_39 : decode cX2_inList 39 = .ok (.iconst 0, 1) := by decide +kernel
theorem dX2_inList_40 : decode cX2_inList 40 = .ok (.ireturn, 1) := by decide +kernel
set_option maxRecDepth 20000 in
theorem ggX2_sort_X2_inList : GoodIn wsX2_sort wsX2_inList := goodIn_r _ [7, 8, 9, 10, 11, 12, 6, 13, 1, 14, 15, 16, 17] (by decide +kernel) (by decide +kernel)
set_option maxRecDepth 20000 in
theorem gX2_sort_X2_inList : GoodIn wsX2_sort (wsV RX2 30 RX2 yX2_inList wsX2_inList) := goodIn_app (goodIn_of _ (by decide +kernel)) ggX2_sort_X2_inList
theorem dX2_sort_0 : decode cX2_sort 0 = .ok (.iconst 0, 1) := by decide +kernel
theorem dX2_sort_1 : decode cX2_sort 1 = .ok (.istore_n 1, 1) := by decide +kernel
theorem dX2_sort_2 : decode cX2_sort 2 = .ok (.iload_n 1, 1) := by decide +kernel
theorem dX2_sort_3 : decode cX2_sort 3 = .ok (.iconst 1, 1) := by decide +kernel
theorem dX2_sort_4 : decode cX2_sort 4 = .ok (.aload_n 0, 1) := by decide +kernel
theorem dX2_sort_5 : decode cX2_sort 5 = .ok (.getfield 19, 3) := by decide +kernel
theorem dX2_sort_8 : decode cX2_sort 8 = .ok (.ishl, 1) := by decide +kernel
theorem dX2_sort_9 : decode cX2_sort 9 = .ok (.if_icmp .ge 42, 3) := by decide +kernel
theorem dX2_sort_12 : decode cX2_sort 12 = .ok (.aload_n 0, 1) := by decide +kernel
theorem dX2_sort_13 : decode cX2_sort 13 = .ok (.getfield 16, 3) := by decide +kernel
theorem dX2_sort_16 : decode cX2_sort 16 = .ok (.iload_n 1, 1) := by decide +kernel
theorem dX2_sort_17 : decode cX2_sort 17 = .ok (.aload_n 0, 1) := by decide +kernel
theorem dX2_sort_18 : decode cX2_sort 18 = .ok (.iload_n 1, 1) := by decide +kernel
theorem dX2_sort_19 : decode cX2_sort 19 = .ok (.iconst 1, 1) := by decide +kernel
theorem dX2_sort_20 : decode cX2_sort 20 = .ok (.invokevirtual 30, 3) := by decide +kernel
theorem dX2_sort_23 : decode cX2_sort 23 = .ok (.ifCond .eq 7, 3) := by decide +kernel
theorem dX2_sort_26 : decode cX2_sort 26 = .ok (.iconst 2, 1) := by decide +kernel
theorem dX2_sort_27 : decode cX2_sort 27 = .ok (.goto 17, 3) := by decide +kernel
theorem dX2_sort_30 : decode cX2_sort 30 = .ok (.aload_n 0, 1) := by decide +kernel
theorem dX2_sort_31 : decode cX2_sort 31 = .ok (.iload_n 1, 1) := by decide +kernel
theorem dX2_sort_32 : decode cX2_sort 32 = .ok (.iconst 0, 1) := by decide +kernel
theorem dX2_sort_33 : decode cX2_sort 33 = .ok (.invokevirtual 30, 3) := by decide +kernel
theorem dX2_sort_36 : decode cX2_sort 36 = .ok (.ifCond .eq 7, 3) := by decide +kernel
theorem dX2_sort_39 : decode cX2_sort 39 = .ok (.iconst 1, 1) := by decide +kernel
theorem dX2_sort_40 : decode cX2_sort 40 = .ok (.goto 4, 3) := by decide +kernel
theorem dX2_sort_43 : decode cX2_sort 43 = .ok (.iconst 0, 1) := by decide +kernel
theorem dX2_sort_44 : decode cX2_sort 44 = .ok (.iastore, 1) := by decide +kernel
theorem dX2_sort_45 : decode cX2_sort 45 = .ok (.iinc 1 1, 3) := by decide +kernel
theorem dX2_sort_48 : decode cX2_sort 48 = .ok (.goto (-46), 3) := by decide +kernel
theorem dX2_sort_51 : decode cX2_sort 51 = .ok (.return_, 1) := by decide +kernel
set_option maxRecDepth 20000 in
theorem ggX2_touches_X2_in : GoodIn wsX2_touches wsX2_in := goodIn_r _ [7, 1, 8, 9, 10, 11] (by decide +kernel) (by decide +kernel)
set_option maxRecDepth 20000 in
theorem gX2_touches_X2_in : GoodIn wsX2_touches (wsV RX2 26 RX2 yX2_in wsX2_in) := goodIn_app (goodIn_of _ (by decide +kernel)) ggX2_touches_X2_in
theorem dX2_touches_0 : decode cX2_touches 0 = .ok (.iconst 0, 1) := by decide +kernel
theorem dX2_touches_1 : decode cX2_touches 1 = .ok (.istore_n 2, 1) := by decide +kernel
theorem dX2_touches_2 : decode cX2_touches 2 = .ok (.iload_n 2, 1) := by decide +kernel
theorem dX2_touches_3 : decode cX2_touches 3 = .ok (.iconst 1, 1) := by decide +kernel
theorem dX2_touches_4 : decode cX2_touches 4 = .ok (.aload_n 0, 1) := by decide +kernel
theorem dX2_touches_5 : decode cX2_touches 5 = .ok (.getfield 19, 3) := by decide +kernel
theorem dX2_touches_8 : decode cX2_touches 8 = .ok (.ishl, 1) := by decide +kernel
theorem dX2_touches_9 : decode cX2_touches 9 = .ok (.if_icmp .ge 29, 3) := by decide +kernel
theorem dX2_touches_12 : decode cX2_touches 12 = .ok (.aload_n 0, 1) := by decide +kernel
theorem dX2_touches_13 : decode cX2_touches 13 = .ok (.getfield 16, 3) := by decide +kernel
theorem dX2_touches_16 : decode cX2_touches 16 = .ok (.iload_n 2, 1) := by decide +kernel
theorem dX2_touches_17 : decode cX2_touches 17 = .ok (.iaload, 1) := by decide +kernel
theorem dX2_touches_18 : decode cX2_touches 18 = .ok (.ifCond .ne 14, 3) := by decide +kernel
theorem dX2_touches_21 : decode cX2_touches 21 = .ok (.aload_n 0, 1) := by decide +kernel
theorem dX2_touches_22 : decode cX2_touches 22 = .ok (.iload_n 2, 1) := by decide +kernel
theorem dX2_touches_23 : decode cX2_touches 23 = .ok (.iload_n 1, 1) := by decide +kernel
theorem dX2_touches_24 : decode cX2_touches 24 = .ok (.invokevirtual 26, 3) := by decide +kernel
theorem dX2_touches_27 : decode cX2_touches 27 = .ok (.ifCond .eq 5, 3) := by decide +kernel
theorem dX2_touches_30 : decode cX2_touches 30 = .ok (.iconst 1, 1) := by decide +kernel
theorem dX2_touches_31 : decode cX2_touches 31 = .ok (.ireturn, 1) := by decide +kernel
theorem dX2_touches_32 : decode cX2_touches 32 = .ok (.iinc 2 1, 3) := by decide +kernel
theorem dX2_touches_35 : decode cX2_touches 35 = .ok (.goto (-33), 3) := by decide +kernel
theorem dX2_touches_38 : decode cX2_touches 38 = .ok (.iconst 0, 1) := by decide +kernel
theorem dX2_touches_39 : decode cX2_touches 39 = .ok (.ireturn, 1) := by decide +kernel
set_option maxRecDepth 20000 in
theorem ggX2_add_X2_isCube : GoodIn wsX2_add wsX2_isCube := goodIn_r _ [7, 8, 22, 23, 24, 25] (by decide +kernel) (by decide +kernel)
set_option maxRecDepth 20000 in
theorem gX2_add_X2_isCube : GoodIn wsX2_add (wsV RX2 33 RX2 yX2_isCube wsX2_isCube) := goodIn_app (goodIn_of _ (by decide +kernel)) ggX2_add_X2_isCube
set_option maxRecDepth 20000 in
theorem ggX2_add_X2_sort : GoodIn wsX2_add wsX2_sort := goodIn_r _ [12, 8, 13, 14, 15, 16, 6, 17, 1, 2, 18, 19, 20, 21, 22, 23, 24, 25] (by decide +kernel) (by decide +kernel)
set_option maxRecDepth 20000 in
theorem gX2_add_X2_sort : GoodIn wsX2_add (wsV RX2 23 RX2 yX2_sort wsX2_sort) := goodIn_app (goodIn_of _ (by decide +kernel)) ggX2_add_X2_sort
theorem dX2_add_0 : decode cX2_add 0 = .ok (.aload_n 0, 1) := by decide +kernel
theorem dX2_add_1 : decode cX2_add 1 = .ok (.iload_n 2, 1) := by decide +kernel
theorem dX2_add_2 : decode cX2_add 2 = .ok (.invokevirtual 33, 3) := by decide +kernel
theorem dX2_add_5 : decode cX2_add 5 = .ok (.ifCond .eq 14, 3) := by decide +kernel
theorem dX2_add_8 : decode cX2_add 8 = .ok (.aload_n 0, 1) := by decide +kernel
theorem dX2_add_9 : decode cX2_add 9 = .ok (.getfield 13, 3) := by decide +kernel
theorem dX2_add_12 : decode cX2_add 12 = .ok (.iload_n 1, 1) := by decide +kernel
theorem dX2_add_13 : decode cX2_add 13 = .ok (.iaload, 1) := by decide +kernel
theorem dX2_add_14 : decode cX2_add 14 = .ok (.bipush 24, 2) := by decide +kernel
theorem dX2_add_16 : decode cX2_add 16 = .ok (.if_icmp .ne 5, 3) := by decide +kernel
theorem dX2_add_19 : decode cX2_add 19 = .ok (.iconst 0, 1) := by decide +kernel
theorem dX2_add_20 : decode cX2_add 20 = .ok (.ireturn, 1) := by decide +kernel
theorem dX2_add_21 : decode cX2_add 21 = .ok (.aload_n 0, 1) := by decide +kernel
theorem dX2_add_22 : decode cX2_add 22 = .ok (.getfield 7, 3) := by decide +kernel
theorem dX2_add_25 : decode cX2_add 25 = .ok (.bipush 24, 2) := by decide +kernel
theorem dX2_add_27 : decode cX2_add 27 = .ok (.iload_n 1, 1) := by decide +kernel
theorem dX2_add_28 : decode cX2_add 28 = .ok (.imul, 1) := by decide +kernel
theorem dX2_add_29 : decode cX2_add 29 = .ok (.aload_n 0, 1) := by decide +kernel
theorem dX2_add_30 : decode cX2_add 30 = .ok (.getfield 13, 3) := by decide +kernel
theorem dX2_add_33 : decode cX2_add 33 = .ok (.iload_n 1, 1) := by decide +kernel
theorem dX2_add_34 : decode cX2_add 34 = .ok (.iaload, 1) := by decide +kernel
theorem dX2_add_35 : decode cX2_add 35 = .ok (.iadd, 1) := by decide +kernel
theorem dX2_add_36 : decode cX2_add 36 = .ok (.iload_n 2, 1) := by decide +kernel
theorem dX2_add_37 : decode cX2_add 37 = .ok (.iastore, 1) := by decide +kernel
theorem dX2_add_38 : decode cX2_add 38 = .ok (.aload_n 0, 1) := by decide +kernel
theorem dX2_add_39 : decode cX2_add 39 = .ok (.getfield 13, 3) := by decide +kernel
theorem dX2_add_42 : decode cX2_add 42 = .ok (.iload_n 1, 1) := by decide +kernel
theorem dX2_add_43 : decode cX2_add 43 = .ok (.dup2, 1) := by decide +kernel
theorem dX2_add_44 : decode cX2_add 44 = .ok (.iaload, 1) := by decide +kernel
theorem dX2_add_45 : decode cX2_add 45 = .ok (.iconst 1, 1) := by decide +kernel
theorem dX2_add_46 : decode cX2_add 46 = .ok (.iadd, 1) := by decide +kernel
theorem dX2_add_47 : decode cX2_add 47 = .ok (.iastore, 1) := by decide +kernel
theorem dX2_add_48 : decode cX2_add 48 = .ok (.aload_n 0, 1) := by decide +kernel
theorem dX2_add_49 : decode cX2_add 49 = .ok (.getfield 13, 3) := by decide +kernel
theorem dX2_add_52 : decode cX2_add 52 = .ok (.iconst 2, 1) := by decide +kernel
theorem dX2_add_53 : decode cX2_add 53 = .ok (.iconst 0, 1) := by decide +kernel
theorem dX2_add_54 : decode cX2_add 54 = .ok (.iastore, 1) := by decide +kernel
theorem dX2_add_55 : decode cX2_add 55 = .ok (.aload_n 0, 1) := by decide +kernel
theorem dX2_add_56 : decode cX2_add 56 = .ok (.invokevirtual 23, 3) := by decide +kernel
theorem dX2_add_59 : decode cX2_add 59 = .ok (.iconst 1, 1) := by decide +kernel
theorem dX2_add_60 : decode cX2_add 60 = .ok (.ireturn, 1) := by decide +kernel
set_option maxRecDepth 20000 in
theorem ggX2_on_X2_add : GoodIn wsX2_on wsX2_add := goodIn_r _ [5, 6, 7, 8, 9, 10, 4, 11, 12, 13, 14, 15, 16, 17, 18, 19, 20, 21, 22, 23, 24, 25, 26, 27, 28, 29] (by decide +kernel) (by decide +kernel)
set_option maxRecDepth 20000 in
theorem gX2_on_X2_add : GoodIn wsX2_on (wsV RX2 37 RX2 yX2_add wsX2_add) := goodIn_app (goodIn_of _ (by decide +kernel)) ggX2_on_X2_add
theorem dX2_on_0 : decode cX2_on 0 = .ok (.aload_n 0, 1) := by decide +kernel
theorem dX2_on_1 : decode cX2_on 1 = .ok (.iconst 0, 1) := by decide +kernel
theorem dX2_on_2 : decode cX2_on 2 = .ok (.iload_n 1, 1) := by decide +kernel
theorem dX2_on_3 : decode cX2_on 3 = .ok (.invokevirtual 37, 3) := by decide +kernel
theorem dX2_on_6 : decode cX2_on 6 = .ok (.ireturn, 1) := by decide +kernel
set_option maxRecDepth 20000 in
theorem ggX2_dc_X2_add : GoodIn wsX2_dc wsX2_add := goodIn_r _ [5, 6, 7, 8, 9, 10, 4, 11, 12, 13, 14, 15, 16, 17, 18, 19, 20, 21, 22, 23, 24, 25, 26, 27, 28, 29] (by decide +kernel) (by decide +kernel)
set_option maxRecDepth 20000 in
theorem gX2_dc_X2_add : GoodIn wsX2_dc (wsV RX2 37 RX2 yX2_add wsX2_add) := goodIn_app (goodIn_of _ (by decide +kernel)) ggX2_dc_X2_add
theorem dX2_dc_0 : decode cX2_dc 0 = .ok (.aload_n 0, 1) := by decide +kernel
theorem dX2_dc_1 : decode cX2_dc 1 = .ok (.iconst 1, 1) := by decide +kernel
theorem dX2_dc_2 : decode cX2_dc 2 = .ok (.iload_n 1, 1) := by decide +kernel
theorem dX2_dc_3 : decode cX2_dc 3 = .ok (.invokevirtual 37, 3) := by decide +kernel
theorem dX2_dc_6 : decode cX2_dc 6 = .ok (.ireturn, 1) := by decide +kernel
theorem dX2_isList_0 : decode cX2_isList 0 = .ok (.iload_n 0, 1) := by decide +kernel
theorem dX2_isList_1 : decode cX2_isList 1 = .ok (.ifCond .lt 12, 3) := by decide +kernel
theorem dX2_isList_4 : decode cX2_isList 4 = .ok (.iload_n 0, 1) := by decide +kernel
theorem dX2_isList_5 : decode cX2_isList 5 = .ok (.iconst 2, 1) := by decide +kernel
theorem dX2_isList_6 : decode cX2_isList 6 = .ok (.if_icmp .gt 7, 3) := by decide +kernel
theorem dX2_isList_9 : decode cX2_isList 9 = .ok (.iconst 1, 1) := by decide +kernel
theorem dX2_isList_10 : decode cX2_isList 10 = .ok (.goto 4, 3) := by decide +kernel
theorem dX2_isList_13 : decode cX2_isList 13 = .ok (.iconst 0, 1) := by decide +kernel
theorem dX2_isList_14 : decode cX2_isList 14 = .ok (.ireturn, 1) := by decide +kernel
set_option maxRecDepth 20000 in
theorem ggX2_size_X2_isList : GoodIn wsX2_size wsX2_isList := goodIn_r _ [5] (by decide +kernel) (by decide +kernel)
set_option maxRecDepth 20000 in
theorem gX2_size_X2_isList : GoodIn wsX2_size (va_wsS RX2 40 yX2_isList wsX2_isList) := goodIn_app (goodIn_of _ (by decide +kernel)) ggX2_size_X2_isList
theorem dX2_size_0 : decode cX2_size 0 = .ok (.iload_n 1, 1) := by decide +kernel
theorem dX2_size_1 : decode cX2_size 1 = .ok (.invokestatic 40, 3) := by decide +kernel
theorem dX2_size_4 : decode cX2_size 4 = .ok (.ifCond .eq 12, 3) := by decide +kernel
theorem dX2_size_7 : decode cX2_size 7 = .ok (.aload_n 0, 1) := by decide +kernel
theorem dX2_size_8 : decode cX2_size 8 = .ok (.getfield 13, 3) := by decide +kernel
theorem dX2_size_11 : decode cX2_size 11 = .ok (.iload_n 1, 1) := by decide +kernel
theorem dX2_size_12 : decode cX2_size 12 = .ok (.iaload, 1) := by decide +kernel
theorem dX2_size_13 : decode cX2_size 13 = .ok (.goto 4, 3) := by decide +kernel
theorem dX2_size_16 : decode cX2_size 16 = .ok (.iconst (-1), 1) := by decide +kernel
theorem dX2_size_17 : decode cX2_size 17 = .ok (.ireturn, 1) := by decide +kernel
set_option maxRecDepth 20000 in
theorem ggX2_cube_X2_isList : GoodIn wsX2_cube wsX2_isList := goodIn_r _ [6] (by decide +kernel) (by decide +kernel)
set_option maxRecDepth 20000 in
theorem gX2_cube_X2_isList : GoodIn wsX2_cube (va_wsS RX2 40 yX2_isList wsX2_isList) := goodIn_app (goodIn_of _ (by decide +kernel)) ggX2_cube_X2_isList
theorem dX2_cube_0 : decode cX2_cube 0 = .ok (.iload_n 1, 1) := by decide +kernel
theorem dX2_cube_1 : decode cX2_cube 1 = .ok (.invokestatic 40, 3) := by decide +kernel
theorem dX2_cube_4 : decode cX2_cube 4 = .ok (.ifCond .eq 31, 3) := by decide +kernel
theorem dX2_cube_7 : decode cX2_cube 7 = .ok (.iload_n 2, 1) := by decide +kernel
theorem dX2_cube_8 : decode cX2_cube 8 = .ok (.ifCond .lt 27, 3) := by decide +kernel
theorem dX2_cube_11 : decode cX2_cube 11 = .ok (.iload_n 2, 1) := by decide +kernel
theorem dX2_cube_12 : decode cX2_cube 12 = .ok (.aload_n 0, 1) := by decide +kernel
theorem dX2_cube_13 : decode cX2_cube 13 = .ok (.getfield 13, 3) := by decide +kernel
theorem dX2_cube_16 : decode cX2_cube 16 = .ok (.iload_n 1, 1) := by decide +kernel
theorem dX2_cube_17 : decode cX2_cube 17 = .ok (.iaload, 1) := by decide +kernel
theorem dX2_cube_18 : decode cX2_cube 18 = .ok (.if_icmp .ge 17, 3) := by decide +kernel
theorem dX2_cube_21 : decode cX2_cube 21 = .ok (.aload_n 0, 1) := by decide +kernel
theorem dX2_cube_22 : decode cX2_cube 22 = .ok (.getfield 7, 3) := by decide +kernel
theorem dX2_cube_25 : decode cX2_cube 25 = .ok (.bipush 24, 2) := by decide +kernel
theorem dX2_cube_27 : decode cX2_cube 27 = .ok (.iload_n 1, 1) := by decide +kernel
theorem dX2_cube_28 : decode cX2_cube 28 = .ok (.imul, 1) := by decide +kernel
theorem dX2_cube_29 : decode cX2_cube 29 = .ok (.iload_n 2, 1) := by decide +kernel
theorem dX2_cube_30 : decode cX2_cube 30 = .ok (.iadd, 1) := by decide +kernel
theorem dX2_cube_31 : decode cX2_cube 31 = .ok (.iaload, 1) := by decide +kernel
theorem dX2_cube_32 : decode cX2_cube 32 = .ok (.goto 4, 3) := by decide +kernel
theorem dX2_cube_35 : decode cX2_cube 35 = .ok (.iconst (-1), 1) := by decide +kernel
theorem dX2_cube_36 : decode cX2_cube 36 = .ok (.ireturn, 1) := by decide +kernel
theorem dX2_literalsOf_0 : decode cX2_literalsOf 0 = .ok (.iconst 0, 1) := by decide +kernel
theorem dX2_literalsOf_1 : decode cX2_literalsOf 1 = .ok (.istore_n 2, 1) := by decide +kernel
theorem dX2_literalsOf_2 : decode cX2_literalsOf 2 = .ok (.iconst 0, 1) := by decide +kernel
theorem dX2_literalsOf_3 : decode cX2_literalsOf 3 = .ok (.istore_n 3, 1) := by decide +kernel
theorem dX2_literalsOf_4 : decode cX2_literalsOf 4 = .ok (.iload_n 3, 1) := by decide +kernel
theorem dX2_literalsOf_5 : decode cX2_literalsOf 5 = .ok (.aload_n 0, 1) := by decide +kernel
theorem dX2_literalsOf_6 : decode cX2_literalsOf 6 = .ok (.getfield 13, 3) := by decide +kernel
theorem dX2_literalsOf_9 : decode cX2_literalsOf 9 = .ok (.iload_n 1, 1) := by decide +kernel
theorem dX2_literalsOf_10 : decode cX2_literalsOf 10 = .ok (.iaload, 1) := by decide +kernel
theorem dX2_literalsOf_11 : decode cX2_literalsOf 11 = .ok (.if_icmp .ge 52, 3) := by decide +kernel
theorem dX2_literalsOf_14 : decode cX2_literalsOf 14 = .ok (.iconst 0, 1) := by decide +kernel
theorem dX2_literalsOf_15 : decode cX2_literalsOf 15 = .ok (.istore 4, 2) := by decide +kernel
theorem dX2_literalsOf_17 : decode cX2_literalsOf 17 = .ok (.iload 4, 2) := by decide +kernel
theorem dX2_literalsOf_19 : decode cX2_literalsOf 19 = .ok (.aload_n 0, 1) := by decide +kernel
theorem dX2_literalsOf_20 : decode cX2_literalsOf 20 = .ok (.getfield 19, 3) := by decide +kernel
theorem dX2_literalsOf_23 : decode cX2_literalsOf 23 = .ok (.if_icmp .ge 34, 3) := by decide +kernel
theorem dX2_literalsOf_26 : decode cX2_literalsOf 26 = .ok (.aload_n 0, 1) := by decide +kernel
theorem dX2_literalsOf_27 : decode cX2_literalsOf 27 = .ok (.getfield 7, 3) := by decide +kernel
theorem dX2_literalsOf_30 : decode cX2_literalsOf 30 = .ok (.bipush 24, 2) := by decide +kernel
theorem dX2_literalsOf_32 : decode cX2_literalsOf 32 = .ok (.iload_n 1, 1) := by decide +kernel
theorem dX2_literalsOf_33 : decode cX2_literalsOf 33 = .ok (.imul, 1) := by decide +kernel
theorem dX2_literalsOf_34 : decode cX2_literalsOf 34 = .ok (.iload_n 3, 1) := by decide +kernel
theorem dX2_literalsOf_35 : decode cX2_literalsOf 35 = .ok (.iadd, 1) := by decide +kernel
theorem dX2_literalsOf_36 : decode cX2_literalsOf 36 = .ok (.iaload, 1) := by decide +kernel
theorem dX2_literalsOf_37 : decode cX2_literalsOf 37 = .ok (.iconst 2, 1) := by decide +kernel
theorem dX2_literalsOf_38 : decode cX2_literalsOf 38 = .ok (.iload 4, 2) := by decide +kernel
theorem dX2_literalsOf_40 : decode cX2_literalsOf 40 = .ok (.imul, 1) := by decide +kernel
theorem dX2_literalsOf_41 : decode cX2_literalsOf 41 = .ok (.ishr, 1) := by decide +kernel
theorem dX2_literalsOf_42 : decode cX2_literalsOf 42 = .ok (.iconst 3, 1) := by decide +kernel
theorem dX2_literalsOf_43 : decode cX2_literalsOf 43 = .ok (.iand, 1) := by decide +kernel
theorem dX2_literalsOf_44 : decode cX2_literalsOf 44 = .ok (.iconst 3, 1) := by decide +kernel
theorem dX2_literalsOf_45 : decode cX2_literalsOf 45 = .ok (.if_icmp .eq 6, 3) := by decide +kernel
theorem dX2_literalsOf_48 : decode cX2_literalsOf 48 = .ok (.iinc 2 1, 3) := by decide +kernel
theorem dX2_literalsOf_51 : decode cX2_literalsOf 51 = .ok (.iinc 4 1, 3) := by decide +kernel
theorem dX2_literalsOf_54 : decode cX2_literalsOf 54 = .ok (.goto (-37), 3) := by decide +kernel
theorem dX2_literalsOf_57 : decode cX2_literalsOf 57 = .ok (.iinc 3 1, 3) := by decide +kernel
theorem dX2_literalsOf_60 : decode cX2_literalsOf 60 = .ok (.goto (-56), 3) := by decide +kernel
theorem dX2_literalsOf_63 : decode cX2_literalsOf 63 = .ok (.iload_n 2, 1) := by decide +kernel
theorem dX2_literalsOf_64 : decode cX2_literalsOf 64 = .ok (.ireturn, 1) := by decide +kernel
set_option maxRecDepth 20000 in
theorem ggX2_literals_X2_isList : GoodIn wsX2_literals wsX2_isList := goodIn_r _ [4] (by decide +kernel) (by decide +kernel)
set_option maxRecDepth 20000 in
theorem gX2_literals_X2_isList : GoodIn wsX2_literals (va_wsS RX2 40 yX2_isList wsX2_isList) := goodIn_app (goodIn_of _ (by decide +kernel)) ggX2_literals_X2_isList
set_option maxRecDepth 20000 in
theorem ggX2_literals_X2_literalsOf : GoodIn wsX2_literals wsX2_literalsOf := goodIn_r _ [8, 9, 10, 11, 12, 13, 14, 15] (by decide +kernel) (by decide +kernel)
set_option maxRecDepth 20000 in
theorem gX2_literals_X2_literalsOf : GoodIn wsX2_literals (wsV RX2 43 RX2 yX2_literalsOf wsX2_literalsOf) := goodIn_app (goodIn_of _ (by decide +kernel)) ggX2_literals_X2_literalsOf
theorem dX2_literals_0 : decode cX2_literals 0 = .ok (.iload_n 1, 1) := by decide +kernel
theorem dX2_literals_1 : decode cX2_literals 1 = .ok (.invokestatic 40, 3) := by decide +kernel
theorem dX2_literals_4 : decode cX2_literals 4 = .ok (.ifCond .eq 11, 3) := by decide +kernel
theorem dX2_literals_7 : decode cX2_literals 7 = .ok (.aload_n 0, 1) := by decide +kernel
theorem dX2_literals_8 : decode cX2_literals 8 = .ok (.iload_n 1, 1) := by decide +kernel
theorem dX2_literals_9 : decode cX2_literals 9 = .ok (.invokevirtual 43, 3) := by decide +kernel
theorem dX2_literals_12 : decode cX2_literals 12 = .ok (.goto 4, 3) := by decide +kernel
theorem dX2_literals_15 : decode cX2_literals 15 = .ok (.iconst (-1), 1) := by decide +kernel
theorem dX2_literals_16 : decode cX2_literals 16 = .ok (.ireturn, 1) := by decide +kernel
theorem dX2_isPoint_0 : decode cX2_isPoint 0 = .ok (.iload_n 1, 1) := by decide +kernel
theorem dX2_isPoint_1 : decode cX2_isPoint 1 = .ok (.ifCond .lt 17, 3) := by decide +kernel
theorem dX2_isPoint_4 : decode cX2_isPoint 4 = .ok (.iload_n 1, 1) := by decide +kernel
theorem dX2_isPoint_5 : decode cX2_isPoint 5 = .ok (.iconst 1, 1) := by decide +kernel
theorem dX2_isPoint_6 : decode cX2_isPoint 6 = .ok (.aload_n 0, 1) := by decide +kernel
theorem dX2_isPoint_7 : decode cX2_isPoint 7 = .ok (.getfield 19, 3) := by decide +kernel
theorem dX2_isPoint_10 : decode cX2_isPoint 10 = .ok (.ishl, 1) := by decide +kernel
theorem dX2_isPoint_11 : decode cX2_isPoint 11 = .ok (.if_icmp .ge 7, 3) := by decide +kernel
theorem dX2_isPoint_14 : decode cX2_isPoint 14 = .ok (.iconst 1, 1) := by decide +kernel
theorem dX2_isPoint_15 : decode cX2_isPoint 15 = .ok (.goto 4, 3) := by decide +kernel
theorem dX2_isPoint_18 : decode cX2_isPoint 18 = .ok (.iconst 0, 1) := by decide +kernel
theorem dX2_isPoint_19 : decode cX2_isPoint 19 = .ok (.ireturn, 1) := by decide +kernel
set_option maxRecDepth 20000 in
theorem ggX2_kind_X2_isPoint : GoodIn wsX2_kind wsX2_isPoint := goodIn_r _ [6, 7, 8, 9, 10, 11] (by decide +kernel) (by decide +kernel)
set_option maxRecDepth 20000 in
theorem gX2_kind_X2_isPoint : GoodIn wsX2_kind (wsV RX2 47 RX2 yX2_isPoint wsX2_isPoint) := goodIn_app (goodIn_of _ (by decide +kernel)) ggX2_kind_X2_isPoint
theorem dX2_kind_0 : decode cX2_kind 0 = .ok (.aload_n 0, 1) := by decide +kernel
theorem dX2_kind_1 : decode cX2_kind 1 = .ok (.iload_n 1, 1) := by decide +kernel
theorem dX2_kind_2 : decode cX2_kind 2 = .ok (.invokevirtual 47, 3) := by decide +kernel
theorem dX2_kind_5 : decode cX2_kind 5 = .ok (.ifCond .eq 12, 3) := by decide +kernel
theorem dX2_kind_8 : decode cX2_kind 8 = .ok (.aload_n 0, 1) := by decide +kernel
theorem dX2_kind_9 : decode cX2_kind 9 = .ok (.getfield 16, 3) := by decide +kernel
theorem dX2_kind_12 : decode cX2_kind 12 = .ok (.iload_n 1, 1) := by decide +kernel
theorem dX2_kind_13 : decode cX2_kind 13 = .ok (.iaload, 1) := by decide +kernel
theorem dX2_kind_14 : decode cX2_kind 14 = .ok (.goto 4, 3) := by decide +kernel
theorem dX2_kind_17 : decode cX2_kind 17 = .ok (.iconst (-1), 1) := by decide +kernel
theorem dX2_kind_18 : decode cX2_kind 18 = .ok (.ireturn, 1) := by decide +kernel
set_option maxRecDepth 20000 in
theorem ggX2_holds_X2_isList : GoodIn wsX2_holds wsX2_isList := goodIn_r _ [4] (by decide +kernel) (by decide +kernel)
set_option maxRecDepth 20000 in
theorem gX2_holds_X2_isList : GoodIn wsX2_holds (va_wsS RX2 40 yX2_isList wsX2_isList) := goodIn_app (goodIn_of _ (by decide +kernel)) ggX2_holds_X2_isList
set_option maxRecDepth 20000 in
theorem ggX2_holds_X2_isPoint : GoodIn wsX2_holds wsX2_isPoint := goodIn_r _ [8, 9, 20, 21, 22, 23] (by decide +kernel) (by decide +kernel)
set_option maxRecDepth 20000 in
theorem gX2_holds_X2_isPoint : GoodIn wsX2_holds (wsV RX2 47 RX2 yX2_isPoint wsX2_isPoint) := goodIn_app (goodIn_of _ (by decide +kernel)) ggX2_holds_X2_isPoint
set_option maxRecDepth 20000 in
theorem ggX2_holds_X2_inList : GoodIn wsX2_holds wsX2_inList := goodIn_r _ [13, 14, 15, 16, 17, 18, 3, 19, 9, 20, 21, 22, 23] (by decide +kernel) (by decide +kernel)
set_option maxRecDepth 20000 in
theorem gX2_holds_X2_inList : GoodIn wsX2_holds (wsV RX2 30 RX2 yX2_inList wsX2_inList) := goodIn_app (goodIn_of _ (by decide +kernel)) ggX2_holds_X2_inList
theorem dX2_holds_0 : decode cX2_holds 0 = .ok (.iload_n 1, 1) := by decide +kernel
theorem dX2_holds_1 : decode cX2_holds 1 = .ok (.invokestatic 40, 3) := by decide +kernel
theorem dX2_holds_4 : decode cX2_holds 4 = .ok (.ifCond .eq 24, 3) := by decide +kernel
theorem dX2_holds_7 : decode cX2_holds 7 = .ok (.aload_n 0, 1) := by decide +kernel
theorem dX2_holds_8 : decode cX2_holds 8 = .ok (.iload_n 2, 1) := by decide +kernel
theorem dX2_holds_9 : decode cX2_holds 9 = .ok (.invokevirtual 47, 3) := by decide +kernel
theorem dX2_holds_12 : decode cX2_holds 12 = .ok (.ifCond .eq 16, 3) := by decide +kernel
theorem dX2_holds_15 : decode cX2_holds 15 = .ok (.aload_n 0, 1) := by decide +kernel
theorem dX2_holds_16 : decode cX2_holds 16 = .ok (.iload_n 2, 1) := by decide +kernel
theorem dX2_holds_17 : decode cX2_holds 17 = .ok (.iload_n 1, 1) := by decide +kernel
theorem dX2_holds_18 : decode cX2_holds 18 = .ok (.invokevirtual 30, 3) := by decide +kernel
theorem dX2_holds_21 : decode cX2_holds 21 = .ok (.ifCond .eq 7, 3) := by decide +kernel
theorem dX2_holds_24 : decode cX2_holds 24 = .ok (.iconst 1, 1) := by decide +kernel
theorem dX2_holds_25 : decode cX2_holds 25 = .ok (.goto 4, 3) := by decide +kernel
theorem dX2_holds_28 : decode cX2_holds 28 = .ok (.iconst 0, 1) := by decide +kernel
theorem dX2_holds_29 : decode cX2_holds 29 = .ok (.ireturn, 1) := by decide +kernel
set_option maxRecDepth 20000 in
theorem ggX2_missing_X2_isList : GoodIn wsX2_missing wsX2_isList := goodIn_r _ [5] (by decide +kernel) (by decide +kernel)
set_option maxRecDepth 20000 in
theorem gX2_missing_X2_isList : GoodIn wsX2_missing (va_wsS RX2 40 yX2_isList wsX2_isList) := goodIn_app (goodIn_of _ (by decide +kernel)) ggX2_missing_X2_isList
set_option maxRecDepth 20000 in
theorem ggX2_missing_X2_inList : GoodIn wsX2_missing wsX2_inList := goodIn_r _ [9, 10, 11, 12, 13, 14, 4, 15, 1, 16, 17, 18, 19] (by decide +kernel) (by decide +kernel)
set_option maxRecDepth 20000 in
theorem gX2_missing_X2_inList : GoodIn wsX2_missing (wsV RX2 30 RX2 yX2_inList wsX2_inList) := goodIn_app (goodIn_of _ (by decide +kernel)) ggX2_missing_X2_inList
theorem dX2_missing_0 : decode cX2_missing 0 = .ok (.iload_n 1, 1) := by decide +kernel
theorem dX2_missing_1 : decode cX2_missing 1 = .ok (.invokestatic 40, 3) := by decide +kernel
theorem dX2_missing_4 : decode cX2_missing 4 = .ok (.ifCond .ne 5, 3) := by decide +kernel
theorem dX2_missing_7 : decode cX2_missing 7 = .ok (.iconst (-1), 1) := by decide +kernel
theorem dX2_missing_8 : decode cX2_missing 8 = .ok (.ireturn, 1) := by decide +kernel
theorem dX2_missing_9 : decode cX2_missing 9 = .ok (.iconst 0, 1) := by decide +kernel
theorem dX2_missing_10 : decode cX2_missing 10 = .ok (.istore_n 2, 1) := by decide +kernel
theorem dX2_missing_11 : decode cX2_missing 11 = .ok (.iconst 0, 1) := by decide +kernel
theorem dX2_missing_12 : decode cX2_missing 12 = .ok (.istore_n 3, 1) := by decide +kernel
theorem dX2_missing_13 : decode cX2_missing 13 = .ok (.iload_n 3, 1) := by decide +kernel
theorem dX2_missing_14 : decode cX2_missing 14 = .ok (.iconst 1, 1) := by decide +kernel
theorem dX2_missing_15 : decode cX2_missing 15 = .ok (.aload_n 0, 1) := by decide +kernel
theorem dX2_missing_16 : decode cX2_missing 16 = .ok (.getfield 19, 3) := by decide +kernel
theorem dX2_missing_19 : decode cX2_missing 19 = .ok (.ishl, 1) := by decide +kernel
theorem dX2_missing_20 : decode cX2_missing 20 = .ok (.if_icmp .ge 21, 3) := by decide +kernel
theorem dX2_missing_23 : decode cX2_missing 23 = .ok (.aload_n 0, 1) := by decide +kernel
theorem dX2_missing_24 : decode cX2_missing 24 = .ok (.iload_n 3, 1) := by decide +kernel
theorem dX2_missing_25 : decode cX2_missing 25 = .ok (.iload_n 1, 1) := by decide +kernel
theorem dX2_missing_26 : decode cX2_missing 26 = .ok (.invokevirtual 30, 3) := by decide +kernel
theorem dX2_missing_29 : decode cX2_missing 29 = .ok (.ifCond .ne 6, 3) := by decide +kernel
theorem dX2_missing_32 : decode cX2_missing 32 = .ok (.iinc 2 1, 3) := by decide +kernel
theorem dX2_missing_35 : decode cX2_missing 35 = .ok (.iinc 3 1, 3) := by decide +kernel
theorem dX2_missing_38 : decode cX2_missing 38 = .ok (.goto (-25), 3) := by decide +kernel
theorem dX2_missing_41 : decode cX2_missing 41 = .ok (.iload_n 2, 1) := by decide +kernel
theorem dX2_missing_42 : decode cX2_missing 42 = .ok (.ireturn, 1) := by decide +kernel
set_option maxRecDepth 20000 in
theorem ggX2_tautology_X2_missing : GoodIn wsX2_tautology wsX2_missing := goodIn_r _ [5, 6, 7, 8, 4, 9, 10, 11, 12, 13, 14, 15, 16, 17, 18, 19, 20, 21, 22, 23] (by decide +kernel) (by decide +kernel)
set_option maxRecDepth 20000 in
theorem gX2_tautology_X2_missing : GoodIn wsX2_tautology (wsV RX2 50 RX2 yX2_missing wsX2_missing) := goodIn_app (goodIn_of _ (by decide +kernel)) ggX2_tautology_X2_missing
theorem dX2_tautology_0 : decode cX2_tautology 0 = .ok (.aload_n 0, 1) := by decide +kernel
theorem dX2_tautology_1 : decode cX2_tautology 1 = .ok (.iload_n 1, 1) := by decide +kernel
theorem dX2_tautology_2 : decode cX2_tautology 2 = .ok (.invokevirtual 50, 3) := by decide +kernel
theorem dX2_tautology_5 : decode cX2_tautology 5 = .ok (.ifCond .ne 7, 3) := by decide +kernel
theorem dX2_tautology_8 : decode cX2_tautology 8 = .ok (.iconst 1, 1) := by decide +kernel
theorem dX2_tautology_9 : decode cX2_tautology 9 = .ok (.goto 4, 3) := by decide +kernel
theorem dX2_tautology_12 : decode cX2_tautology 12 = .ok (.iconst 0, 1) := by decide +kernel
theorem dX2_tautology_13 : decode cX2_tautology 13 = .ok (.ireturn, 1) := by decide +kernel
set_option maxRecDepth 20000 in
theorem ggX2_same_X2_isList : GoodIn wsX2_same wsX2_isList := goodIn_r _ [6] (by decide +kernel) (by decide +kernel)
set_option maxRecDepth 20000 in
theorem gX2_same_X2_isList : GoodIn wsX2_same (va_wsS RX2 40 yX2_isList wsX2_isList) := goodIn_app (goodIn_of _ (by decide +kernel)) ggX2_same_X2_isList
set_option maxRecDepth 20000 in
theorem ggX2_same_X2_inList : GoodIn wsX2_same wsX2_inList := goodIn_r _ [10, 11, 12, 13, 14, 15, 5, 16, 1, 17, 18, 19, 20] (by decide +kernel) (by decide +kernel)
set_option maxRecDepth 20000 in
theorem gX2_same_X2_inList : GoodIn wsX2_same (wsV RX2 30 RX2 yX2_inList wsX2_inList) := goodIn_app (goodIn_of _ (by decide +kernel)) ggX2_same_X2_inList
theorem dX2_same_0 : decode cX2_same 0 = .ok (.iload_n 1, 1) := by decide +kernel
theorem dX2_same_1 : decode cX2_same 1 = .ok (.invokestatic 40, 3) := by decide +kernel
theorem dX2_same_4 : decode cX2_same 4 = .ok (.ifCond .eq 10, 3) := by decide +kernel
theorem dX2_same_7 : decode cX2_same 7 = .ok (.iload_n 2, 1) := by decide +kernel
theorem dX2_same_8 : decode cX2_same 8 = .ok (.invokestatic 40, 3) := by decide +kernel
theorem dX2_same_11 : decode cX2_same 11 = .ok (.ifCond .ne 5, 3) := by decide +kernel
theorem dX2_same_14 : decode cX2_same 14 = .ok (.iconst 0, 1) := by decide +kernel
theorem dX2_same_15 : decode cX2_same 15 = .ok (.ireturn, 1) := by decide +kernel
theorem dX2_same_16 : decode cX2_same 16 = .ok (.iconst 0, 1) := by decide +kernel
theorem dX2_same_17 : decode cX2_same 17 = .ok (.istore_n 3, 1) := by decide +kernel
theorem dX2_same_18 : decode cX2_same 18 = .ok (.iload_n 3, 1) := by decide +kernel
theorem dX2_same_19 : decode cX2_same 19 = .ok (.iconst 1, 1) := by decide +kernel
theorem dX2_same_20 : decode cX2_same 20 = .ok (.aload_n 0, 1) := by decide +kernel
theorem dX2_same_21 : decode cX2_same 21 = .ok (.getfield 19, 3) := by decide +kernel
theorem dX2_same_24 : decode cX2_same 24 = .ok (.ishl, 1) := by decide +kernel
theorem dX2_same_25 : decode cX2_same 25 = .ok (.if_icmp .ge 36, 3) := by decide +kernel
theorem dX2_same_28 : decode cX2_same 28 = .ok (.aload_n 0, 1) := by decide +kernel
theorem dX2_same_29 : decode cX2_same 29 = .ok (.getfield 16, 3) := by decide +kernel
theorem dX2_same_32 : decode cX2_same 32 = .ok (.iload_n 3, 1) := by decide +kernel
theorem dX2_same_33 : decode cX2_same 33 = .ok (.iaload, 1) := by decide +kernel
theorem dX2_same_34 : decode cX2_same 34 = .ok (.iconst 2, 1) := by decide +kernel
theorem dX2_same_35 : decode cX2_same 35 = .ok (.if_icmp .eq 20, 3) := by decide +kernel
theorem dX2_same_38 : decode cX2_same 38 = .ok (.aload_n 0, 1) := by decide +kernel
theorem dX2_same_39 : decode cX2_same 39 = .ok (.iload_n 3, 1) := by decide +kernel
theorem dX2_same_40 : decode cX2_same 40 = .ok (.iload_n 1, 1) := by decide +kernel
theorem dX2_same_41 : decode cX2_same 41 = .ok (.invokevirtual 30, 3) := by decide +kernel
theorem dX2_same_44 : decode cX2_same 44 = .ok (.aload_n 0, 1) := by decide +kernel
theorem dX2_same_45 : decode cX2_same 45 = .ok (.iload_n 3, 1) := by decide +kernel
theorem dX2_same_46 : decode cX2_same 46 = .ok (.iload_n 2, 1) := by decide +kernel
theorem dX2_same_47 : decode cX2_same 47 = .ok (.invokevirtual 30, 3) := by decide +kernel
theorem dX2_same_50 : decode cX2_same 50 = .ok (.if_icmp .eq 5, 3) := by decide +kernel
theorem dX2_same_53 : decode cX2_same 53 = .ok (.iconst 0, 1) := by decide +kernel
theorem dX2_same_54 : decode cX2_same 54 = .ok (.ireturn, 1) := by decide +kernel
theorem dX2_same_55 : decode cX2_same 55 = .ok (.iinc 3 1, 3) := by decide +kernel
theorem dX2_same_58 : decode cX2_same 58 = .ok (.goto (-40), 3) := by decide +kernel
theorem dX2_same_61 : decode cX2_same 61 = .ok (.iconst 1, 1) := by decide +kernel
theorem dX2_same_62 : decode cX2_same 62 = .ok (.ireturn, 1) := by decide +kernel
set_option maxRecDepth 20000 in
theorem ggX2_prime_X2_cube : GoodIn wsX2_prime wsX2_cube := goodIn_r _ [6, 7, 8, 9, 10, 5, 11, 25, 26, 27, 28] (by decide +kernel) (by decide +kernel)
set_option maxRecDepth 20000 in
theorem gX2_prime_X2_cube : GoodIn wsX2_prime (wsV RX2 53 RX2 yX2_cube wsX2_cube) := goodIn_app (goodIn_of _ (by decide +kernel)) ggX2_prime_X2_cube
set_option maxRecDepth 20000 in
theorem ggX2_prime_X2_isVoid : GoodIn wsX2_prime wsX2_isVoid := goodIn_r _ [15, 1, 25, 26, 27, 28] (by decide +kernel) (by decide +kernel)
set_option maxRecDepth 20000 in
theorem gX2_prime_X2_isVoid : GoodIn wsX2_prime (wsV RX2 57 RX2 yX2_isVoid wsX2_isVoid) := goodIn_app (goodIn_of _ (by decide +kernel)) ggX2_prime_X2_isVoid
set_option maxRecDepth 20000 in
theorem ggX2_prime_X2_touches : GoodIn wsX2_prime wsX2_touches := goodIn_r _ [19, 1, 20, 21, 22, 23, 5, 24, 25, 26, 27, 28] (by decide +kernel) (by decide +kernel)
set_option maxRecDepth 20000 in
theorem gX2_prime_X2_touches : GoodIn wsX2_prime (wsV RX2 60 RX2 yX2_touches wsX2_touches) := goodIn_app (goodIn_of _ (by decide +kernel)) ggX2_prime_X2_touches
theorem dX2_prime_0 : decode cX2_prime 0 = .ok (.aload_n 0, 1) := by decide +kernel
theorem dX2_prime_1 : decode cX2_prime 1 = .ok (.iload_n 1, 1) := by decide +kernel
theorem dX2_prime_2 : decode cX2_prime 2 = .ok (.iload_n 2, 1) := by decide +kernel
theorem dX2_prime_3 : decode cX2_prime 3 = .ok (.invokevirtual 53, 3) := by decide +kernel
theorem dX2_prime_6 : decode cX2_prime 6 = .ok (.istore_n 3, 1) := by decide +kernel
theorem dX2_prime_7 : decode cX2_prime 7 = .ok (.iload_n 3, 1) := by decide +kernel
theorem dX2_prime_8 : decode cX2_prime 8 = .ok (.ifCond .lt 19, 3) := by decide +kernel
theorem dX2_prime_11 : decode cX2_prime 11 = .ok (.aload_n 0, 1) := by decide +kernel
theorem dX2_prime_12 : decode cX2_prime 12 = .ok (.iload_n 3, 1) := by decide +kernel
theorem dX2_prime_13 : decode cX2_prime 13 = .ok (.invokevirtual 57, 3) := by decide +kernel
theorem dX2_prime_16 : decode cX2_prime 16 = .ok (.ifCond .ne 11, 3) := by decide +kernel
theorem dX2_prime_19 : decode cX2_prime 19 = .ok (.aload_n 0, 1) := by decide +kernel
theorem dX2_prime_20 : decode cX2_prime 20 = .ok (.iload_n 3, 1) := by decide +kernel
theorem dX2_prime_21 : decode cX2_prime 21 = .ok (.invokevirtual 60, 3) := by decide +kernel
theorem dX2_prime_24 : decode cX2_prime 24 = .ok (.ifCond .eq 5, 3) := by decide +kernel
theorem dX2_prime_27 : decode cX2_prime 27 = .ok (.iconst 0, 1) := by decide +kernel
theorem dX2_prime_28 : decode cX2_prime 28 = .ok (.ireturn, 1) := by decide +kernel
theorem dX2_prime_29 : decode cX2_prime 29 = .ok (.iconst 0, 1) := by decide +kernel
theorem dX2_prime_30 : decode cX2_prime 30 = .ok (.istore 4, 2) := by decide +kernel
theorem dX2_prime_32 : decode cX2_prime 32 = .ok (.iload 4, 2) := by decide +kernel
theorem dX2_prime_34 : decode cX2_prime 34 = .ok (.aload_n 0, 1) := by decide +kernel
theorem dX2_prime_35 : decode cX2_prime 35 = .ok (.getfield 19, 3) := by decide +kernel
theorem dX2_prime_38 : decode cX2_prime 38 = .ok (.if_icmp .ge 36, 3) := by decide +kernel
theorem dX2_prime_41 : decode cX2_prime 41 = .ok (.iload_n 3, 1) := by decide +kernel
theorem dX2_prime_42 : decode cX2_prime 42 = .ok (.iconst 3, 1) := by decide +kernel
theorem dX2_prime_43 : decode cX2_prime 43 = .ok (.iconst 2, 1) := by decide +kernel
theorem dX2_prime_44 : decode cX2_prime 44 = .ok (.iload 4, 2) := by decide +kernel
theorem dX2_prime_46 : decode cX2_prime 46 = .ok (.imul, 1) := by decide +kernel
theorem dX2_prime_47 : decode cX2_prime 47 = .ok (.ishl, 1) := by decide +kernel
theorem dX2_prime_48 : decode cX2_prime 48 = .ok (.ior, 1) := by decide +kernel
theorem dX2_prime_49 : decode cX2_prime 49 = .ok (.istore 5, 2) := by decide +kernel
theorem dX2_prime_51 : decode cX2_prime 51 = .ok (.iload 5, 2) := by decide +kernel
theorem dX2_prime_53 : decode cX2_prime 53 = .ok (.iload_n 3, 1) := by decide +kernel
theorem dX2_prime_54 : decode cX2_prime 54 = .ok (.if_icmp .eq 14, 3) := by decide +kernel
theorem dX2_prime_57 : decode cX2_prime 57 = .ok (.aload_n 0, 1) := by decide +kernel
theorem dX2_prime_58 : decode cX2_prime 58 = .ok (.iload 5, 2) := by decide +kernel
theorem dX2_prime_60 : decode cX2_prime 60 = .ok (.invokevirtual 60, 3) := by decide +kernel
theorem dX2_prime_63 : decode cX2_prime 63 = .ok (.ifCond .ne 5, 3) := by decide +kernel
theorem dX2_prime_66 : decode cX2_prime 66 = .ok (.iconst 0, 1) := by decide +kernel
theorem dX2_prime_67 : decode cX2_prime 67 = .ok (.ireturn, 1) := by decide +kernel
theorem dX2_prime_68 : decode cX2_prime 68 = .ok (.iinc 4 1, 3) := by decide +kernel
theorem dX2_prime_71 : decode cX2_prime 71 = .ok (.goto (-39), 3) := by decide +kernel
theorem dX2_prime_74 : decode cX2_prime 74 = .ok (.iconst 1, 1) := by decide +kernel
theorem dX2_prime_75 : decode cX2_prime 75 = .ok (.ireturn, 1) := by decide +kernel
set_option maxRecDepth 20000 in
theorem ggX2_widened_X2_touches : GoodIn wsX2_widened wsX2_touches := goodIn_r _ [6, 1, 7, 8, 9, 10, 5, 11, 12, 13, 14, 15] (by decide +kernel) (by decide +kernel)
set_option maxRecDepth 20000 in
theorem gX2_widened_X2_touches : GoodIn wsX2_widened (wsV RX2 60 RX2 yX2_touches wsX2_touches) := goodIn_app (goodIn_of _ (by decide +kernel)) ggX2_widened_X2_touches
theorem dX2_widened_0 : decode cX2_widened 0 = .ok (.iload_n 1, 1) := by decide +kernel
theorem dX2_widened_1 : decode cX2_widened 1 = .ok (.istore_n 3, 1) := by decide +kernel
theorem dX2_widened_2 : decode cX2_widened 2 = .ok (.iconst 0, 1) := by decide +kernel
theorem dX2_widened_3 : decode cX2_widened 3 = .ok (.istore 4, 2) := by decide +kernel
theorem dX2_widened_5 : decode cX2_widened 5 = .ok (.iload 4, 2) := by decide +kernel
end
section
theorem dX2_widened_7 : decode cX2_widened 7 = .ok (.aload_n 0, 1) := by decide +kernel
theorem dX2_widened_8 : decode cX2_widened 8 = .ok (.getfield 19, 3) := by decide +kernel
theorem dX2_widened_11 : decode cX2_widened 11 = .ok (.if_icmp .ge 51, 3) := by decide +kernel
theorem dX2_widened_14 : decode cX2_widened 14 = .ok (.iload_n 2, 1) := by decide +kernel
theorem dX2_widened_15 : decode cX2_widened 15 = .ok (.ifCond .eq 8, 3) := by decide +kernel
theorem dX2_widened_18 : decode cX2_widened 18 = .ok (.iload 4, 2) := by decide +kernel
theorem dX2_widened_20 : decode cX2_widened 20 = .ok (.goto 12, 3) := by decide +kernel
theorem dX2_widened_23 : decode cX2_widened 23 = .ok (.aload_n 0, 1) := by decide +kernel
theorem dX2_widened_24 : decode cX2_widened 24 = .ok (.getfield 19, 3) := by decide +kernel
theorem dX2_widened_27 : decode cX2_widened 27 = .ok (.iconst 1, 1) := by decide +kernel
theorem dX2_widened_28 : decode cX2_widened 28 = .ok (.isub, 1) := by decide +kernel
theorem dX2_widened_29 : decode cX2_widened 29 = .ok (.iload 4, 2) := by decide +kernel
theorem dX2_widened_31 : decode cX2_widened 31 = .ok (.isub, 1) := by decide +kernel
theorem dX2_widened_32 : decode cX2_widened 32 = .ok (.istore 5, 2) := by decide +kernel
theorem dX2_widened_34 : decode cX2_widened 34 = .ok (.iload_n 3, 1) := by decide +kernel
theorem dX2_widened_35 : decode cX2_widened 35 = .ok (.iconst 3, 1) := by decide +kernel
theorem dX2_widened_36 : decode cX2_widened 36 = .ok (.iconst 2, 1) := by decide +kernel
theorem dX2_widened_37 : decode cX2_widened 37 = .ok (.iload 5, 2) := by decide +kernel
theorem dX2_widened_39 : decode cX2_widened 39 = .ok (.imul, 1) := by decide +kernel
theorem dX2_widened_40 : decode cX2_widened 40 = .ok (.ishl, 1) := by decide +kernel
theorem dX2_widened_41 : decode cX2_widened 41 = .ok (.ior, 1) := by decide +kernel
theorem dX2_widened_42 : decode cX2_widened 42 = .ok (.istore 6, 2) := by decide +kernel
theorem dX2_widened_44 : decode cX2_widened 44 = .ok (.aload_n 0, 1) := by decide +kernel
theorem dX2_widened_45 : decode cX2_widened 45 = .ok (.iload 6, 2) := by decide +kernel
theorem dX2_widened_47 : decode cX2_widened 47 = .ok (.invokevirtual 60, 3) := by decide +kernel
theorem dX2_widened_50 : decode cX2_widened 50 = .ok (.ifCond .ne 6, 3) := by decide +kernel
theorem dX2_widened_53 : decode cX2_widened 53 = .ok (.iload 6, 2) := by decide +kernel
theorem dX2_widened_55 : decode cX2_widened 55 = .ok (.istore_n 3, 1) := by decide +kernel
theorem dX2_widened_56 : decode cX2_widened 56 = .ok (.iinc 4 1, 3) := by decide +kernel
theorem dX2_widened_59 : decode cX2_widened 59 = .ok (.goto (-54), 3) := by decide +kernel
theorem dX2_widened_62 : decode cX2_widened 62 = .ok (.iload_n 3, 1) := by decide +kernel
theorem dX2_widened_63 : decode cX2_widened 63 = .ok (.ireturn, 1) := by decide +kernel
set_option maxRecDepth 20000 in
theorem ggX2_widen_X2_isCube : GoodIn wsX2_widen wsX2_isCube := goodIn_r _ [5, 6, 24, 25, 26, 27] (by decide +kernel) (by decide +kernel)
set_option maxRecDepth 20000 in
theorem gX2_widen_X2_isCube : GoodIn wsX2_widen (wsV RX2 33 RX2 yX2_isCube wsX2_isCube) := goodIn_app (goodIn_of _ (by decide +kernel)) ggX2_widen_X2_isCube
set_option maxRecDepth 20000 in
theorem ggX2_widen_X2_isVoid : GoodIn wsX2_widen wsX2_isVoid := goodIn_r _ [10, 6, 24, 25, 26, 27] (by decide +kernel) (by decide +kernel)
set_option maxRecDepth 20000 in
theorem gX2_widen_X2_isVoid : GoodIn wsX2_widen (wsV RX2 57 RX2 yX2_isVoid wsX2_isVoid) := goodIn_app (goodIn_of _ (by decide +kernel)) ggX2_widen_X2_isVoid
set_option maxRecDepth 20000 in
theorem ggX2_widen_X2_touches : GoodIn wsX2_widen wsX2_touches := goodIn_r _ [14, 6, 15, 16, 17, 18, 4, 19, 24, 25, 26, 27] (by decide +kernel) (by decide +kernel)
set_option maxRecDepth 20000 in
theorem gX2_widen_X2_touches : GoodIn wsX2_widen (wsV RX2 60 RX2 yX2_touches wsX2_touches) := goodIn_app (goodIn_of _ (by decide +kernel)) ggX2_widen_X2_touches
set_option maxRecDepth 20000 in
theorem ggX2_widen_X2_widened : GoodIn wsX2_widen wsX2_widened := goodIn_r _ [23, 6, 11, 12, 13, 4, 14, 15, 16, 17, 18, 19, 24, 25, 26, 27] (by decide +kernel) (by decide +kernel)
set_option maxRecDepth 20000 in
theorem gX2_widen_X2_widened : GoodIn wsX2_widen (wsV RX2 63 RX2 yX2_widened wsX2_widened) := goodIn_app (goodIn_of _ (by decide +kernel)) ggX2_widen_X2_widened
theorem dX2_widen_0 : decode cX2_widen 0 = .ok (.aload_n 0, 1) := by decide +kernel
theorem dX2_widen_1 : decode cX2_widen 1 = .ok (.iload_n 1, 1) := by decide +kernel
theorem dX2_widen_2 : decode cX2_widen 2 = .ok (.invokevirtual 33, 3) := by decide +kernel
theorem dX2_widen_5 : decode cX2_widen 5 = .ok (.ifCond .eq 19, 3) := by decide +kernel
theorem dX2_widen_8 : decode cX2_widen 8 = .ok (.aload_n 0, 1) := by decide +kernel
theorem dX2_widen_9 : decode cX2_widen 9 = .ok (.iload_n 1, 1) := by decide +kernel
theorem dX2_widen_10 : decode cX2_widen 10 = .ok (.invokevirtual 57, 3) := by decide +kernel
theorem dX2_widen_13 : decode cX2_widen 13 = .ok (.ifCond .ne 11, 3) := by decide +kernel
theorem dX2_widen_16 : decode cX2_widen 16 = .ok (.aload_n 0, 1) := by decide +kernel
theorem dX2_widen_17 : decode cX2_widen 17 = .ok (.iload_n 1, 1) := by decide +kernel
theorem dX2_widen_18 : decode cX2_widen 18 = .ok (.invokevirtual 60, 3) := by decide +kernel
theorem dX2_widen_21 : decode cX2_widen 21 = .ok (.ifCond .eq 7, 3) := by decide +kernel
theorem dX2_widen_24 : decode cX2_widen 24 = .ok (.iconst (-1), 1) := by decide +kernel
theorem dX2_widen_25 : decode cX2_widen 25 = .ok (.goto 9, 3) := by decide +kernel
theorem dX2_widen_28 : decode cX2_widen 28 = .ok (.aload_n 0, 1) := by decide +kernel
theorem dX2_widen_29 : decode cX2_widen 29 = .ok (.iload_n 1, 1) := by decide +kernel
theorem dX2_widen_30 : decode cX2_widen 30 = .ok (.iconst 1, 1) := by decide +kernel
theorem dX2_widen_31 : decode cX2_widen 31 = .ok (.invokevirtual 63, 3) := by decide +kernel
theorem dX2_widen_34 : decode cX2_widen 34 = .ok (.ireturn, 1) := by decide +kernel
set_option maxRecDepth 20000 in
theorem ggX2_inAnother_X2_in : GoodIn wsX2_inAnother wsX2_in := goodIn_r _ [7, 8, 9, 10, 11, 12] (by decide +kernel) (by decide +kernel)
set_option maxRecDepth 20000 in
theorem gX2_inAnother_X2_in : GoodIn wsX2_inAnother (wsV RX2 26 RX2 yX2_in wsX2_in) := goodIn_app (goodIn_of _ (by decide +kernel)) ggX2_inAnother_X2_in
theorem dX2_inAnother_0 : decode cX2_inAnother 0 = .ok (.iconst 0, 1) := by decide +kernel
theorem dX2_inAnother_1 : decode cX2_inAnother 1 = .ok (.istore 4, 2) := by decide +kernel
theorem dX2_inAnother_3 : decode cX2_inAnother 3 = .ok (.iload 4, 2) := by decide +kernel
theorem dX2_inAnother_5 : decode cX2_inAnother 5 = .ok (.aload_n 0, 1) := by decide +kernel
theorem dX2_inAnother_6 : decode cX2_inAnother 6 = .ok (.getfield 13, 3) := by decide +kernel
theorem dX2_inAnother_9 : decode cX2_inAnother 9 = .ok (.iload_n 2, 1) := by decide +kernel
theorem dX2_inAnother_10 : decode cX2_inAnother 10 = .ok (.iaload, 1) := by decide +kernel
theorem dX2_inAnother_11 : decode cX2_inAnother 11 = .ok (.if_icmp .ge 37, 3) := by decide +kernel
theorem dX2_inAnother_14 : decode cX2_inAnother 14 = .ok (.iload 4, 2) := by decide +kernel
theorem dX2_inAnother_16 : decode cX2_inAnother 16 = .ok (.iload_n 3, 1) := by decide +kernel
theorem dX2_inAnother_17 : decode cX2_inAnother 17 = .ok (.if_icmp .eq 25, 3) := by decide +kernel
theorem dX2_inAnother_20 : decode cX2_inAnother 20 = .ok (.aload_n 0, 1) := by decide +kernel
theorem dX2_inAnother_21 : decode cX2_inAnother 21 = .ok (.iload_n 1, 1) := by decide +kernel
theorem dX2_inAnother_22 : decode cX2_inAnother 22 = .ok (.aload_n 0, 1) := by decide +kernel
theorem dX2_inAnother_23 : decode cX2_inAnother 23 = .ok (.getfield 7, 3) := by decide +kernel
theorem dX2_inAnother_26 : decode cX2_inAnother 26 = .ok (.bipush 24, 2) := by decide +kernel
theorem dX2_inAnother_28 : decode cX2_inAnother 28 = .ok (.iload_n 2, 1) := by decide +kernel
theorem dX2_inAnother_29 : decode cX2_inAnother 29 = .ok (.imul, 1) := by decide +kernel
theorem dX2_inAnother_30 : decode cX2_inAnother 30 = .ok (.iload 4, 2) := by decide +kernel
theorem dX2_inAnother_32 : decode cX2_inAnother 32 = .ok (.iadd, 1) := by decide +kernel
theorem dX2_inAnother_33 : decode cX2_inAnother 33 = .ok (.iaload, 1) := by decide +kernel
theorem dX2_inAnother_34 : decode cX2_inAnother 34 = .ok (.invokevirtual 26, 3) := by decide +kernel
theorem dX2_inAnother_37 : decode cX2_inAnother 37 = .ok (.ifCond .eq 5, 3) := by decide +kernel
theorem dX2_inAnother_40 : decode cX2_inAnother 40 = .ok (.iconst 1, 1) := by decide +kernel
theorem dX2_inAnother_41 : decode cX2_inAnother 41 = .ok (.ireturn, 1) := by decide +kernel
theorem dX2_inAnother_42 : decode cX2_inAnother 42 = .ok (.iinc 4 1, 3) := by decide +kernel
theorem dX2_inAnother_45 : decode cX2_inAnother 45 = .ok (.goto (-42), 3) := by decide +kernel
theorem dX2_inAnother_48 : decode cX2_inAnother 48 = .ok (.iconst 0, 1) := by decide +kernel
theorem dX2_inAnother_49 : decode cX2_inAnother 49 = .ok (.ireturn, 1) := by decide +kernel
set_option maxRecDepth 20000 in
theorem ggX2_isNeeded_X2_in : GoodIn wsX2_isNeeded wsX2_in := goodIn_r _ [8, 1, 14, 15, 16, 17] (by decide +kernel) (by decide +kernel)
set_option maxRecDepth 20000 in
theorem gX2_isNeeded_X2_in : GoodIn wsX2_isNeeded (wsV RX2 26 RX2 yX2_in wsX2_in) := goodIn_app (goodIn_of _ (by decide +kernel)) ggX2_isNeeded_X2_in
set_option maxRecDepth 20000 in
theorem ggX2_isNeeded_X2_inAnother : GoodIn wsX2_isNeeded wsX2_inAnother := goodIn_r _ [12, 13, 3, 4, 5, 6, 7, 8, 1, 14, 15, 16, 17] (by decide +kernel) (by decide +kernel)
set_option maxRecDepth 20000 in
theorem gX2_isNeeded_X2_inAnother : GoodIn wsX2_isNeeded (wsV RX2 67 RX2 yX2_inAnother wsX2_inAnother) := goodIn_app (goodIn_of _ (by decide +kernel)) ggX2_isNeeded_X2_inAnother
theorem dX2_isNeeded_0 : decode cX2_isNeeded 0 = .ok (.iconst 0, 1) := by decide +kernel
theorem dX2_isNeeded_1 : decode cX2_isNeeded 1 = .ok (.istore_n 3, 1) := by decide +kernel
theorem dX2_isNeeded_2 : decode cX2_isNeeded 2 = .ok (.iload_n 3, 1) := by decide +kernel
theorem dX2_isNeeded_3 : decode cX2_isNeeded 3 = .ok (.iconst 1, 1) := by decide +kernel
theorem dX2_isNeeded_4 : decode cX2_isNeeded 4 = .ok (.aload_n 0, 1) := by decide +kernel
theorem dX2_isNeeded_5 : decode cX2_isNeeded 5 = .ok (.getfield 19, 3) := by decide +kernel
theorem dX2_isNeeded_8 : decode cX2_isNeeded 8 = .ok (.ishl, 1) := by decide +kernel
theorem dX2_isNeeded_9 : decode cX2_isNeeded 9 = .ok (.if_icmp .ge 50, 3) := by decide +kernel
theorem dX2_isNeeded_12 : decode cX2_isNeeded 12 = .ok (.aload_n 0, 1) := by decide +kernel
theorem dX2_isNeeded_13 : decode cX2_isNeeded 13 = .ok (.getfield 16, 3) := by decide +kernel
theorem dX2_isNeeded_16 : decode cX2_isNeeded 16 = .ok (.iload_n 3, 1) := by decide +kernel
theorem dX2_isNeeded_17 : decode cX2_isNeeded 17 = .ok (.iaload, 1) := by decide +kernel
theorem dX2_isNeeded_18 : decode cX2_isNeeded 18 = .ok (.iconst 1, 1) := by decide +kernel
theorem dX2_isNeeded_19 : decode cX2_isNeeded 19 = .ok (.if_icmp .ne 34, 3) := by decide +kernel
theorem dX2_isNeeded_22 : decode cX2_isNeeded 22 = .ok (.aload_n 0, 1) := by decide +kernel
theorem dX2_isNeeded_23 : decode cX2_isNeeded 23 = .ok (.iload_n 3, 1) := by decide +kernel
theorem dX2_isNeeded_24 : decode cX2_isNeeded 24 = .ok (.aload_n 0, 1) := by decide +kernel
theorem dX2_isNeeded_25 : decode cX2_isNeeded 25 = .ok (.getfield 7, 3) := by decide +kernel
theorem dX2_isNeeded_28 : decode cX2_isNeeded 28 = .ok (.bipush 24, 2) := by decide +kernel
theorem dX2_isNeeded_30 : decode cX2_isNeeded 30 = .ok (.iload_n 1, 1) := by decide +kernel
theorem dX2_isNeeded_31 : decode cX2_isNeeded 31 = .ok (.imul, 1) := by decide +kernel
theorem dX2_isNeeded_32 : decode cX2_isNeeded 32 = .ok (.iload_n 2, 1) := by decide +kernel
theorem dX2_isNeeded_33 : decode cX2_isNeeded 33 = .ok (.iadd, 1) := by decide +kernel
theorem dX2_isNeeded_34 : decode cX2_isNeeded 34 = .ok (.iaload, 1) := by decide +kernel
theorem dX2_isNeeded_35 : decode cX2_isNeeded 35 = .ok (.invokevirtual 26, 3) := by decide +kernel
theorem dX2_isNeeded_38 : decode cX2_isNeeded 38 = .ok (.ifCond .eq 15, 3) := by decide +kernel
theorem dX2_isNeeded_41 : decode cX2_isNeeded 41 = .ok (.aload_n 0, 1) := by decide +kernel
theorem dX2_isNeeded_42 : decode cX2_isNeeded 42 = .ok (.iload_n 3, 1) := by decide +kernel
theorem dX2_isNeeded_43 : decode cX2_isNeeded 43 = .ok (.iload_n 1, 1) := by decide +kernel
theorem dX2_isNeeded_44 : decode cX2_isNeeded 44 = .ok (.iload_n 2, 1) := by decide +kernel
theorem dX2_isNeeded_45 : decode cX2_isNeeded 45 = .ok (.invokevirtual 67, 3) := by decide +kernel
theorem dX2_isNeeded_48 : decode cX2_isNeeded 48 = .ok (.ifCond .ne 5, 3) := by decide +kernel
theorem dX2_isNeeded_51 : decode cX2_isNeeded 51 = .ok (.iconst 1, 1) := by decide +kernel
theorem dX2_isNeeded_52 : decode cX2_isNeeded 52 = .ok (.ireturn, 1) := by decide +kernel
theorem dX2_isNeeded_53 : decode cX2_isNeeded 53 = .ok (.iinc 3 1, 3) := by decide +kernel
theorem dX2_isNeeded_56 : decode cX2_isNeeded 56 = .ok (.goto (-54), 3) := by decide +kernel
theorem dX2_isNeeded_59 : decode cX2_isNeeded 59 = .ok (.iconst 0, 1) := by decide +kernel
theorem dX2_isNeeded_60 : decode cX2_isNeeded 60 = .ok (.ireturn, 1) := by decide +kernel
set_option maxRecDepth 20000 in
theorem ggX2_pass_X2_widened : GoodIn wsX2_pass wsX2_widened := goodIn_r _ [7, 8, 9, 10, 11, 6, 12, 13, 14, 15, 16, 17, 26, 27, 28, 29] (by decide +kernel) (by decide +kernel)
set_option maxRecDepth 20000 in
theorem gX2_pass_X2_widened : GoodIn wsX2_pass (wsV RX2 63 RX2 yX2_widened wsX2_widened) := goodIn_app (goodIn_of _ (by decide +kernel)) ggX2_pass_X2_widened
set_option maxRecDepth 20000 in
theorem ggX2_pass_X2_isNeeded : GoodIn wsX2_pass wsX2_isNeeded := goodIn_r _ [21, 8, 13, 2, 14, 15, 16, 6, 17, 22, 23, 24, 25, 1, 26, 27, 28, 29] (by decide +kernel) (by decide +kernel)
set_option maxRecDepth 20000 in
theorem gX2_pass_X2_isNeeded : GoodIn wsX2_pass (wsV RX2 71 RX2 yX2_isNeeded wsX2_isNeeded) := goodIn_app (goodIn_of _ (by decide +kernel)) ggX2_pass_X2_isNeeded
theorem dX2_pass_0 : decode cX2_pass 0 = .ok (.iconst 0, 1) := by decide +kernel
theorem dX2_pass_1 : decode cX2_pass 1 = .ok (.istore_n 3, 1) := by decide +kernel
theorem dX2_pass_2 : decode cX2_pass 2 = .ok (.iload_n 3, 1) := by decide +kernel
theorem dX2_pass_3 : decode cX2_pass 3 = .ok (.aload_n 0, 1) := by decide +kernel
theorem dX2_pass_4 : decode cX2_pass 4 = .ok (.getfield 13, 3) := by decide +kernel
theorem dX2_pass_7 : decode cX2_pass 7 = .ok (.iload_n 1, 1) := by decide +kernel
theorem dX2_pass_8 : decode cX2_pass 8 = .ok (.iaload, 1) := by decide +kernel
theorem dX2_pass_9 : decode cX2_pass 9 = .ok (.if_icmp .ge 40, 3) := by decide +kernel
theorem dX2_pass_12 : decode cX2_pass 12 = .ok (.aload_n 0, 1) := by decide +kernel
theorem dX2_pass_13 : decode cX2_pass 13 = .ok (.aload_n 0, 1) := by decide +kernel
theorem dX2_pass_14 : decode cX2_pass 14 = .ok (.getfield 7, 3) := by decide +kernel
theorem dX2_pass_17 : decode cX2_pass 17 = .ok (.bipush 24, 2) := by decide +kernel
theorem dX2_pass_19 : decode cX2_pass 19 = .ok (.iload_n 1, 1) := by decide +kernel
theorem dX2_pass_20 : decode cX2_pass 20 = .ok (.imul, 1) := by decide +kernel
theorem dX2_pass_21 : decode cX2_pass 21 = .ok (.iload_n 3, 1) := by decide +kernel
theorem dX2_pass_22 : decode cX2_pass 22 = .ok (.iadd, 1) := by decide +kernel
theorem dX2_pass_23 : decode cX2_pass 23 = .ok (.iaload, 1) := by decide +kernel
theorem dX2_pass_24 : decode cX2_pass 24 = .ok (.iload_n 2, 1) := by decide +kernel
theorem dX2_pass_25 : decode cX2_pass 25 = .ok (.invokevirtual 63, 3) := by decide +kernel
theorem dX2_pass_28 : decode cX2_pass 28 = .ok (.istore 4, 2) := by decide +kernel
theorem dX2_pass_30 : decode cX2_pass 30 = .ok (.aload_n 0, 1) := by decide +kernel
theorem dX2_pass_31 : decode cX2_pass 31 = .ok (.getfield 7, 3) := by decide +kernel
theorem dX2_pass_34 : decode cX2_pass 34 = .ok (.bipush 24, 2) := by decide +kernel
theorem dX2_pass_36 : decode cX2_pass 36 = .ok (.iload_n 1, 1) := by decide +kernel
theorem dX2_pass_37 : decode cX2_pass 37 = .ok (.imul, 1) := by decide +kernel
theorem dX2_pass_38 : decode cX2_pass 38 = .ok (.iload_n 3, 1) := by decide +kernel
theorem dX2_pass_39 : decode cX2_pass 39 = .ok (.iadd, 1) := by decide +kernel
theorem dX2_pass_40 : decode cX2_pass 40 = .ok (.iload 4, 2) := by decide +kernel
theorem dX2_pass_42 : decode cX2_pass 42 = .ok (.iastore, 1) := by decide +kernel
theorem dX2_pass_43 : decode cX2_pass 43 = .ok (.iinc 3 1, 3) := by decide +kernel
theorem dX2_pass_46 : decode cX2_pass 46 = .ok (.goto (-44), 3) := by decide +kernel
theorem dX2_pass_49 : decode cX2_pass 49 = .ok (.aload_n 0, 1) := by decide +kernel
theorem dX2_pass_50 : decode cX2_pass 50 = .ok (.getfield 13, 3) := by decide +kernel
theorem dX2_pass_53 : decode cX2_pass 53 = .ok (.iload_n 1, 1) := by decide +kernel
theorem dX2_pass_54 : decode cX2_pass 54 = .ok (.iaload, 1) := by decide +kernel
theorem dX2_pass_55 : decode cX2_pass 55 = .ok (.iconst 1, 1) := by decide +kernel
theorem dX2_pass_56 : decode cX2_pass 56 = .ok (.isub, 1) := by decide +kernel
theorem dX2_pass_57 : decode cX2_pass 57 = .ok (.istore_n 3, 1) := by decide +kernel
theorem dX2_pass_58 : decode cX2_pass 58 = .ok (.iload_n 3, 1) := by decide +kernel
theorem dX2_pass_59 : decode cX2_pass 59 = .ok (.ifCond .lt 76, 3) := by decide +kernel
theorem dX2_pass_62 : decode cX2_pass 62 = .ok (.aload_n 0, 1) := by decide +kernel
theorem dX2_pass_63 : decode cX2_pass 63 = .ok (.iload_n 1, 1) := by decide +kernel
theorem dX2_pass_64 : decode cX2_pass 64 = .ok (.iload_n 3, 1) := by decide +kernel
theorem dX2_pass_65 : decode cX2_pass 65 = .ok (.invokevirtual 71, 3) := by decide +kernel
theorem dX2_pass_68 : decode cX2_pass 68 = .ok (.ifCond .ne 61, 3) := by decide +kernel
theorem dX2_pass_71 : decode cX2_pass 71 = .ok (.iload_n 3, 1) := by decide +kernel
theorem dX2_pass_72 : decode cX2_pass 72 = .ok (.iconst 1, 1) := by decide +kernel
theorem dX2_pass_73 : decode cX2_pass 73 = .ok (.iadd, 1) := by decide +kernel
theorem dX2_pass_74 : decode cX2_pass 74 = .ok (.istore 4, 2) := by decide +kernel
theorem dX2_pass_76 : decode cX2_pass 76 = .ok (.iload 4, 2) := by decide +kernel
theorem dX2_pass_78 : decode cX2_pass 78 = .ok (.aload_n 0, 1) := by decide +kernel
theorem dX2_pass_79 : decode cX2_pass 79 = .ok (.getfield 13, 3) := by decide +kernel
theorem dX2_pass_82 : decode cX2_pass 82 = .ok (.iload_n 1, 1) := by decide +kernel
theorem dX2_pass_83 : decode cX2_pass 83 = .ok (.iaload, 1) := by decide +kernel
theorem dX2_pass_84 : decode cX2_pass 84 = .ok (.if_icmp .ge 35, 3) := by decide +kernel
theorem dX2_pass_87 : decode cX2_pass 87 = .ok (.aload_n 0, 1) := by decide +kernel
theorem dX2_pass_88 : decode cX2_pass 88 = .ok (.getfield 7, 3) := by decide +kernel
theorem dX2_pass_91 : decode cX2_pass 91 = .ok (.bipush 24, 2) := by decide +kernel
theorem dX2_pass_93 : decode cX2_pass 93 = .ok (.iload_n 1, 1) := by decide +kernel
theorem dX2_pass_94 : decode cX2_pass 94 = .ok (.imul, 1) := by decide +kernel
theorem dX2_pass_95 : decode cX2_pass 95 = .ok (.iload 4, 2) := by decide +kernel
theorem dX2_pass_97 : decode cX2_pass 97 = .ok (.iadd, 1) := by decide +kernel
theorem dX2_pass_98 : decode cX2_pass 98 = .ok (.iconst 1, 1) := by decide +kernel
theorem dX2_pass_99 : decode cX2_pass 99 = .ok (.isub, 1) := by decide +kernel
theorem dX2_pass_100 : decode cX2_pass 100 = .ok (.aload_n 0, 1) := by decide +kernel
theorem dX2_pass_101 : decode cX2_pass 101 = .ok (.getfield 7, 3) := by decide +kernel
theorem dX2_pass_104 : decode cX2_pass 104 = .ok (.bipush 24, 2) := by decide +kernel
theorem dX2_pass_106 : decode cX2_pass 106 = .ok (.iload_n 1, 1) := by decide +kernel
theorem dX2_pass_107 : decode cX2_pass 107 = .ok (.imul, 1) := by decide +kernel
theorem dX2_pass_108 : decode cX2_pass 108 = .ok (.iload 4, 2) := by decide +kernel
theorem dX2_pass_110 : decode cX2_pass 110 = .ok (.iadd, 1) := by decide +kernel
theorem dX2_pass_111 : decode cX2_pass 111 = .ok (.iaload, 1) := by decide +kernel
theorem dX2_pass_112 : decode cX2_pass 112 = .ok (.iastore, 1) := by decide +kernel
theorem dX2_pass_113 : decode cX2_pass 113 = .ok (.iinc 4 1, 3) := by decide +kernel
theorem dX2_pass_116 : decode cX2_pass 116 = .ok (.goto (-40), 3) := by decide +kernel
theorem dX2_pass_119 : decode cX2_pass 119 = .ok (.aload_n 0, 1) := by decide +kernel
theorem dX2_pass_120 : decode cX2_pass 120 = .ok (.getfield 13, 3) := by decide +kernel
theorem dX2_pass_123 : decode cX2_pass 123 = .ok (.iload_n 1, 1) := by decide +kernel
theorem dX2_pass_124 : decode cX2_pass 124 = .ok (.dup2, 1) := by decide +kernel
theorem dX2_pass_125 : decode cX2_pass 125 = .ok (.iaload, 1) := by decide +kernel
theorem dX2_pass_126 : decode cX2_pass 126 = .ok (.iconst 1, 1) := by decide +kernel
theorem dX2_pass_127 : decode cX2_pass 127 = .ok (.isub, 1) := by decide +kernel
theorem dX2_pass_128 : decode cX2_pass 128 = .ok (.iastore, 1) := by decide +kernel
theorem dX2_pass_129 : decode cX2_pass 129 = .ok (.iinc 3 (-1), 3) := by decide +kernel
theorem dX2_pass_132 : decode cX2_pass 132 = .ok (.goto (-74), 3) := by decide +kernel
theorem dX2_pass_135 : decode cX2_pass 135 = .ok (.return_, 1) := by decide +kernel
set_option maxRecDepth 20000 in
theorem ggX2_narrow_X2_in : GoodIn wsX2_narrow wsX2_in := goodIn_r _ [9, 2, 14, 15, 16, 17] (by decide +kernel) (by decide +kernel)
set_option maxRecDepth 20000 in
theorem gX2_narrow_X2_in : GoodIn wsX2_narrow (wsV RX2 26 RX2 yX2_in wsX2_in) := goodIn_app (goodIn_of _ (by decide +kernel)) ggX2_narrow_X2_in
set_option maxRecDepth 20000 in
theorem ggX2_narrow_X2_inAnother : GoodIn wsX2_narrow wsX2_inAnother := goodIn_r _ [13, 1, 4, 5, 6, 7, 8, 9, 2, 14, 15, 16, 17] (by decide +kernel) (by decide +kernel)
set_option maxRecDepth 20000 in
theorem gX2_narrow_X2_inAnother : GoodIn wsX2_narrow (wsV RX2 67 RX2 yX2_inAnother wsX2_inAnother) := goodIn_app (goodIn_of _ (by decide +kernel)) ggX2_narrow_X2_inAnother
theorem dX2_narrow_0 : decode cX2_narrow 0 = .ok (.iconst 0, 1) := by decide +kernel
theorem dX2_narrow_1 : decode cX2_narrow 1 = .ok (.istore_n 2, 1) := by decide +kernel
theorem dX2_narrow_2 : decode cX2_narrow 2 = .ok (.iload_n 2, 1) := by decide +kernel
theorem dX2_narrow_3 : decode cX2_narrow 3 = .ok (.aload_n 0, 1) := by decide +kernel
theorem dX2_narrow_4 : decode cX2_narrow 4 = .ok (.getfield 13, 3) := by decide +kernel
theorem dX2_narrow_7 : decode cX2_narrow 7 = .ok (.iload_n 1, 1) := by decide +kernel
theorem dX2_narrow_8 : decode cX2_narrow 8 = .ok (.iaload, 1) := by decide +kernel
theorem dX2_narrow_9 : decode cX2_narrow 9 = .ok (.if_icmp .ge 120, 3) := by decide +kernel
theorem dX2_narrow_12 : decode cX2_narrow 12 = .ok (.iconst 0, 1) := by decide +kernel
theorem dX2_narrow_13 : decode cX2_narrow 13 = .ok (.istore_n 3, 1) := by decide +kernel
theorem dX2_narrow_14 : decode cX2_narrow 14 = .ok (.iconst 0, 1) := by decide +kernel
theorem dX2_narrow_15 : decode cX2_narrow 15 = .ok (.istore 4, 2) := by decide +kernel
theorem dX2_narrow_17 : decode cX2_narrow 17 = .ok (.iload 4, 2) := by decide +kernel
theorem dX2_narrow_19 : decode cX2_narrow 19 = .ok (.iconst 1, 1) := by decide +kernel
theorem dX2_narrow_20 : decode cX2_narrow 20 = .ok (.aload_n 0, 1) := by decide +kernel
theorem dX2_narrow_21 : decode cX2_narrow 21 = .ok (.getfield 19, 3) := by decide +kernel
theorem dX2_narrow_24 : decode cX2_narrow 24 = .ok (.ishl, 1) := by decide +kernel
theorem dX2_narrow_25 : decode cX2_narrow 25 = .ok (.if_icmp .ge 86, 3) := by decide +kernel
theorem dX2_narrow_28 : decode cX2_narrow 28 = .ok (.aload_n 0, 1) := by decide +kernel
theorem dX2_narrow_29 : decode cX2_narrow 29 = .ok (.getfield 16, 3) := by decide +kernel
theorem dX2_narrow_32 : decode cX2_narrow 32 = .ok (.iload 4, 2) := by decide +kernel
theorem dX2_narrow_34 : decode cX2_narrow 34 = .ok (.iaload, 1) := by decide +kernel
theorem dX2_narrow_35 : decode cX2_narrow 35 = .ok (.iconst 1, 1) := by decide +kernel
theorem dX2_narrow_36 : decode cX2_narrow 36 = .ok (.if_icmp .ne 69, 3) := by decide +kernel
theorem dX2_narrow_39 : decode cX2_narrow 39 = .ok (.aload_n 0, 1) := by decide +kernel
theorem dX2_narrow_40 : decode cX2_narrow 40 = .ok (.iload 4, 2) := by decide +kernel
theorem dX2_narrow_42 : decode cX2_narrow 42 = .ok (.aload_n 0, 1) := by decide +kernel
theorem dX2_narrow_43 : decode cX2_narrow 43 = .ok (.getfield 7, 3) := by decide +kernel
theorem dX2_narrow_46 : decode cX2_narrow 46 = .ok (.bipush 24, 2) := by decide +kernel
theorem dX2_narrow_48 : decode cX2_narrow 48 = .ok (.iload_n 1, 1) := by decide +kernel
theorem dX2_narrow_49 : decode cX2_narrow 49 = .ok (.imul, 1) := by decide +kernel
theorem dX2_narrow_50 : decode cX2_narrow 50 = .ok (.iload_n 2, 1) := by decide +kernel
theorem dX2_narrow_51 : decode cX2_narrow 51 = .ok (.iadd, 1) := by decide +kernel
theorem dX2_narrow_52 : decode cX2_narrow 52 = .ok (.iaload, 1) := by decide +kernel
theorem dX2_narrow_53 : decode cX2_narrow 53 = .ok (.invokevirtual 26, 3) := by decide +kernel
theorem dX2_narrow_56 : decode cX2_narrow 56 = .ok (.ifCond .eq 49, 3) := by decide +kernel
theorem dX2_narrow_59 : decode cX2_narrow 59 = .ok (.aload_n 0, 1) := by decide +kernel
theorem dX2_narrow_60 : decode cX2_narrow 60 = .ok (.iload 4, 2) := by decide +kernel
theorem dX2_narrow_62 : decode cX2_narrow 62 = .ok (.iload_n 1, 1) := by decide +kernel
theorem dX2_narrow_63 : decode cX2_narrow 63 = .ok (.iload_n 2, 1) := by decide +kernel
theorem dX2_narrow_64 : decode cX2_narrow 64 = .ok (.invokevirtual 67, 3) := by decide +kernel
theorem dX2_narrow_67 : decode cX2_narrow 67 = .ok (.ifCond .ne 38, 3) := by decide +kernel
theorem dX2_narrow_70 : decode cX2_narrow 70 = .ok (.iconst 0, 1) := by decide +kernel
theorem dX2_narrow_71 : decode cX2_narrow 71 = .ok (.istore 5, 2) := by decide +kernel
theorem dX2_narrow_73 : decode cX2_narrow 73 = .ok (.iload 5, 2) := by decide +kernel
theorem dX2_narrow_75 : decode cX2_narrow 75 = .ok (.aload_n 0, 1) := by decide +kernel
theorem dX2_narrow_76 : decode cX2_narrow 76 = .ok (.getfield 19, 3) := by decide +kernel
theorem dX2_narrow_79 : decode cX2_narrow 79 = .ok (.if_icmp .ge 26, 3) := by decide +kernel
theorem dX2_narrow_82 : decode cX2_narrow 82 = .ok (.iload_n 3, 1) := by decide +kernel
theorem dX2_narrow_83 : decode cX2_narrow 83 = .ok (.iconst 1, 1) := by decide +kernel
theorem dX2_narrow_84 : decode cX2_narrow 84 = .ok (.iconst 2, 1) := by decide +kernel
theorem dX2_narrow_85 : decode cX2_narrow 85 = .ok (.iload 5, 2) := by decide +kernel
theorem dX2_narrow_87 : decode cX2_narrow 87 = .ok (.imul, 1) := by decide +kernel
theorem dX2_narrow_88 : decode cX2_narrow 88 = .ok (.iload 4, 2) := by decide +kernel
theorem dX2_narrow_90 : decode cX2_narrow 90 = .ok (.iload 5, 2) := by decide +kernel
theorem dX2_narrow_92 : decode cX2_narrow 92 = .ok (.ishr, 1) := by decide +kernel
theorem dX2_narrow_93 : decode cX2_narrow 93 = .ok (.iconst 1, 1) := by decide +kernel
theorem dX2_narrow_94 : decode cX2_narrow 94 = .ok (.iand, 1) := by decide +kernel
theorem dX2_narrow_95 : decode cX2_narrow 95 = .ok (.iadd, 1) := by decide +kernel
theorem dX2_narrow_96 : decode cX2_narrow 96 = .ok (.ishl, 1) := by decide +kernel
theorem dX2_narrow_97 : decode cX2_narrow 97 = .ok (.ior, 1) := by decide +kernel
theorem dX2_narrow_98 : decode cX2_narrow 98 = .ok (.istore_n 3, 1) := by decide +kernel
theorem dX2_narrow_99 : decode cX2_narrow 99 = .ok (.iinc 5 1, 3) := by decide +kernel
theorem dX2_narrow_102 : decode cX2_narrow 102 = .ok (.goto (-29), 3) := by decide +kernel
theorem dX2_narrow_105 : decode cX2_narrow 105 = .ok (.iinc 4 1, 3) := by decide +kernel
theorem dX2_narrow_108 : decode cX2_narrow 108 = .ok (.goto (-91), 3) := by decide +kernel
theorem dX2_narrow_111 : decode cX2_narrow 111 = .ok (.aload_n 0, 1) := by decide +kernel
theorem dX2_narrow_112 : decode cX2_narrow 112 = .ok (.getfield 7, 3) := by decide +kernel
theorem dX2_narrow_115 : decode cX2_narrow 115 = .ok (.bipush 24, 2) := by decide +kernel
theorem dX2_narrow_117 : decode cX2_narrow 117 = .ok (.iload_n 1, 1) := by decide +kernel
theorem dX2_narrow_118 : decode cX2_narrow 118 = .ok (.imul, 1) := by decide +kernel
theorem dX2_narrow_119 : decode cX2_narrow 119 = .ok (.iload_n 2, 1) := by decide +kernel
theorem dX2_narrow_120 : decode cX2_narrow 120 = .ok (.iadd, 1) := by decide +kernel
theorem dX2_narrow_121 : decode cX2_narrow 121 = .ok (.iload_n 3, 1) := by decide +kernel
theorem dX2_narrow_122 : decode cX2_narrow 122 = .ok (.iastore, 1) := by decide +kernel
theorem dX2_narrow_123 : decode cX2_narrow 123 = .ok (.iinc 2 1, 3) := by decide +kernel
theorem dX2_narrow_126 : decode cX2_narrow 126 = .ok (.goto (-124), 3) := by decide +kernel
theorem dX2_narrow_129 : decode cX2_narrow 129 = .ok (.return_, 1) := by decide +kernel
theorem dX2_copy_0 : decode cX2_copy 0 = .ok (.iconst 0, 1) := by decide +kernel
theorem dX2_copy_1 : decode cX2_copy 1 = .ok (.istore_n 3, 1) := by decide +kernel
theorem dX2_copy_2 : decode cX2_copy 2 = .ok (.iload_n 3, 1) := by decide +kernel
theorem dX2_copy_3 : decode cX2_copy 3 = .ok (.aload_n 0, 1) := by decide +kernel
theorem dX2_copy_4 : decode cX2_copy 4 = .ok (.getfield 13, 3) := by decide +kernel
theorem dX2_copy_7 : decode cX2_copy 7 = .ok (.iload_n 1, 1) := by decide +kernel
theorem dX2_copy_8 : decode cX2_copy 8 = .ok (.iaload, 1) := by decide +kernel
theorem dX2_copy_9 : decode cX2_copy 9 = .ok (.if_icmp .ge 31, 3) := by decide +kernel
theorem dX2_copy_12 : decode cX2_copy 12 = .ok (.aload_n 0, 1) := by decide +kernel
theorem dX2_copy_13 : decode cX2_copy 13 = .ok (.getfield 7, 3) := by decide +kernel
theorem dX2_copy_16 : decode cX2_copy 16 = .ok (.bipush 24, 2) := by decide +kernel
theorem dX2_copy_18 : decode cX2_copy 18 = .ok (.iload_n 2, 1) := by decide +kernel
theorem dX2_copy_19 : decode cX2_copy 19 = .ok (.imul, 1) := by decide +kernel
theorem dX2_copy_20 : decode cX2_copy 20 = .ok (.iload_n 3, 1) := by decide +kernel
theorem dX2_copy_21 : decode cX2_copy 21 = .ok (.iadd, 1) := by decide +kernel
theorem dX2_copy_22 : decode cX2_copy 22 = .ok (.aload_n 0, 1) := by decide +kernel
theorem dX2_copy_23 : decode cX2_copy 23 = .ok (.getfield 7, 3) := by decide +kernel
theorem dX2_copy_26 : decode cX2_copy 26 = .ok (.bipush 24, 2) := by decide +kernel
theorem dX2_copy_28 : decode cX2_copy 28 = .ok (.iload_n 1, 1) := by decide +kernel
theorem dX2_copy_29 : decode cX2_copy 29 = .ok (.imul, 1) := by decide +kernel
theorem dX2_copy_30 : decode cX2_copy 30 = .ok (.iload_n 3, 1) := by decide +kernel
theorem dX2_copy_31 : decode cX2_copy 31 = .ok (.iadd, 1) := by decide +kernel
theorem dX2_copy_32 : decode cX2_copy 32 = .ok (.iaload, 1) := by decide +kernel
theorem dX2_copy_33 : decode cX2_copy 33 = .ok (.iastore, 1) := by decide +kernel
theorem dX2_copy_34 : decode cX2_copy 34 = .ok (.iinc 3 1, 3) := by decide +kernel
theorem dX2_copy_37 : decode cX2_copy 37 = .ok (.goto (-35), 3) := by decide +kernel
theorem dX2_copy_40 : decode cX2_copy 40 = .ok (.aload_n 0, 1) := by decide +kernel
theorem dX2_copy_41 : decode cX2_copy 41 = .ok (.getfield 13, 3) := by decide +kernel
theorem dX2_copy_44 : decode cX2_copy 44 = .ok (.iload_n 2, 1) := by decide +kernel
theorem dX2_copy_45 : decode cX2_copy 45 = .ok (.aload_n 0, 1) := by decide +kernel
theorem dX2_copy_46 : decode cX2_copy 46 = .ok (.getfield 13, 3) := by decide +kernel
theorem dX2_copy_49 : decode cX2_copy 49 = .ok (.iload_n 1, 1) := by decide +kernel
theorem dX2_copy_50 : decode cX2_copy 50 = .ok (.iaload, 1) := by decide +kernel
theorem dX2_copy_51 : decode cX2_copy 51 = .ok (.iastore, 1) := by decide +kernel
theorem dX2_copy_52 : decode cX2_copy 52 = .ok (.return_, 1) := by decide +kernel
set_option maxRecDepth 20000 in
theorem ggX2_minimize_X2_isVoid : GoodIn wsX2_minimize wsX2_isVoid := goodIn_r _ [7, 8, 46, 47, 48, 49] (by decide +kernel) (by decide +kernel)
set_option maxRecDepth 20000 in
theorem gX2_minimize_X2_isVoid : GoodIn wsX2_minimize (wsV RX2 57 RX2 yX2_isVoid wsX2_isVoid) := goodIn_app (goodIn_of _ (by decide +kernel)) ggX2_minimize_X2_isVoid
set_option maxRecDepth 20000 in
theorem ggX2_minimize_X2_pass : GoodIn wsX2_minimize wsX2_pass := goodIn_r _ [12, 1, 2, 13, 14, 15, 6, 16, 8, 17, 18, 19, 20, 21, 22, 23, 24, 25, 26, 27, 28, 29, 30, 31, 32, 33, 46, 47, 48, 49] (by decide +kernel) (by decide +kernel)
set_option maxRecDepth 20000 in
theorem gX2_minimize_X2_pass : GoodIn wsX2_minimize (wsV RX2 74 RX2 yX2_pass wsX2_pass) := goodIn_app (goodIn_of _ (by decide +kernel)) ggX2_minimize_X2_pass
set_option maxRecDepth 20000 in
theorem ggX2_minimize_X2_copy : GoodIn wsX2_minimize wsX2_copy := goodIn_r _ [37, 1, 2, 46, 47, 48, 49] (by decide +kernel) (by decide +kernel)
set_option maxRecDepth 20000 in
theorem gX2_minimize_X2_copy : GoodIn wsX2_minimize (wsV RX2 78 RX2 yX2_copy wsX2_copy) := goodIn_app (goodIn_of _ (by decide +kernel)) ggX2_minimize_X2_copy
set_option maxRecDepth 20000 in
theorem ggX2_minimize_X2_narrow : GoodIn wsX2_minimize wsX2_narrow := goodIn_r _ [41, 1, 8, 21, 2, 22, 23, 24, 6, 25, 30, 31, 32, 33, 46, 47, 48, 49] (by decide +kernel) (by decide +kernel)
set_option maxRecDepth 20000 in
theorem gX2_minimize_X2_narrow : GoodIn wsX2_minimize (wsV RX2 82 RX2 yX2_narrow wsX2_narrow) := goodIn_app (goodIn_of _ (by decide +kernel)) ggX2_minimize_X2_narrow
set_option maxRecDepth 20000 in
theorem ggX2_minimize_X2_literalsOf : GoodIn wsX2_minimize wsX2_literalsOf := goodIn_r _ [45, 1, 8, 2, 46, 47, 48, 49] (by decide +kernel) (by decide +kernel)
set_option maxRecDepth 20000 in
theorem gX2_minimize_X2_literalsOf : GoodIn wsX2_minimize (wsV RX2 43 RX2 yX2_literalsOf wsX2_literalsOf) := goodIn_app (goodIn_of _ (by decide +kernel)) ggX2_minimize_X2_literalsOf
theorem dX2_minimize_0 : decode cX2_minimize 0 = .ok (.aload_n 0, 1) := by decide +kernel
theorem dX2_minimize_1 : decode cX2_minimize 1 = .ok (.getfield 13, 3) := by decide +kernel
theorem dX2_minimize_4 : decode cX2_minimize 4 = .ok (.iconst 2, 1) := by decide +kernel
theorem dX2_minimize_5 : decode cX2_minimize 5 = .ok (.iconst 0, 1) := by decide +kernel
theorem dX2_minimize_6 : decode cX2_minimize 6 = .ok (.iastore, 1) := by decide +kernel
theorem dX2_minimize_7 : decode cX2_minimize 7 = .ok (.iconst 0, 1) := by decide +kernel
theorem dX2_minimize_8 : decode cX2_minimize 8 = .ok (.istore_n 1, 1) := by decide +kernel
theorem dX2_minimize_9 : decode cX2_minimize 9 = .ok (.iload_n 1, 1) := by decide +kernel
theorem dX2_minimize_10 : decode cX2_minimize 10 = .ok (.aload_n 0, 1) := by decide +kernel
theorem dX2_minimize_11 : decode cX2_minimize 11 = .ok (.getfield 13, 3) := by decide +kernel
theorem dX2_minimize_14 : decode cX2_minimize 14 = .ok (.iconst 0, 1) := by decide +kernel
theorem dX2_minimize_15 : decode cX2_minimize 15 = .ok (.iaload, 1) := by decide +kernel
theorem dX2_minimize_16 : decode cX2_minimize 16 = .ok (.if_icmp .ge 52, 3) := by decide +kernel
theorem dX2_minimize_19 : decode cX2_minimize 19 = .ok (.aload_n 0, 1) := by decide +kernel
theorem dX2_minimize_20 : decode cX2_minimize 20 = .ok (.aload_n 0, 1) := by decide +kernel
theorem dX2_minimize_21 : decode cX2_minimize 21 = .ok (.getfield 7, 3) := by decide +kernel
theorem dX2_minimize_24 : decode cX2_minimize 24 = .ok (.iload_n 1, 1) := by decide +kernel
theorem dX2_minimize_25 : decode cX2_minimize 25 = .ok (.iaload, 1) := by decide +kernel
theorem dX2_minimize_26 : decode cX2_minimize 26 = .ok (.invokevirtual 57, 3) := by decide +kernel
theorem dX2_minimize_29 : decode cX2_minimize 29 = .ok (.ifCond .ne 33, 3) := by decide +kernel
theorem dX2_minimize_32 : decode cX2_minimize 32 = .ok (.aload_n 0, 1) := by decide +kernel
theorem dX2_minimize_33 : decode cX2_minimize 33 = .ok (.getfield 7, 3) := by decide +kernel
theorem dX2_minimize_36 : decode cX2_minimize 36 = .ok (.bipush 48, 2) := by decide +kernel
theorem dX2_minimize_38 : decode cX2_minimize 38 = .ok (.aload_n 0, 1) := by decide +kernel
theorem dX2_minimize_39 : decode cX2_minimize 39 = .ok (.getfield 13, 3) := by decide +kernel
theorem dX2_minimize_42 : decode cX2_minimize 42 = .ok (.iconst 2, 1) := by decide +kernel
theorem dX2_minimize_43 : decode cX2_minimize 43 = .ok (.iaload, 1) := by decide +kernel
theorem dX2_minimize_44 : decode cX2_minimize 44 = .ok (.iadd, 1) := by decide +kernel
theorem dX2_minimize_45 : decode cX2_minimize 45 = .ok (.aload_n 0, 1) := by decide +kernel
theorem dX2_minimize_46 : decode cX2_minimize 46 = .ok (.getfield 7, 3) := by decide +kernel
theorem dX2_minimize_49 : decode cX2_minimize 49 = .ok (.iload_n 1, 1) := by decide +kernel
theorem dX2_minimize_50 : decode cX2_minimize 50 = .ok (.iaload, 1) := by decide +kernel
theorem dX2_minimize_51 : decode cX2_minimize 51 = .ok (.iastore, 1) := by decide +kernel
theorem dX2_minimize_52 : decode cX2_minimize 52 = .ok (.aload_n 0, 1) := by decide +kernel
theorem dX2_minimize_53 : decode cX2_minimize 53 = .ok (.getfield 13, 3) := by decide +kernel
theorem dX2_minimize_56 : decode cX2_minimize 56 = .ok (.iconst 2, 1) := by decide +kernel
theorem dX2_minimize_57 : decode cX2_minimize 57 = .ok (.dup2, 1) := by decide +kernel
theorem dX2_minimize_58 : decode cX2_minimize 58 = .ok (.iaload, 1) := by decide +kernel
theorem dX2_minimize_59 : decode cX2_minimize 59 = .ok (.iconst 1, 1) := by decide +kernel
theorem dX2_minimize_60 : decode cX2_minimize 60 = .ok (.iadd, 1) := by decide +kernel
theorem dX2_minimize_61 : decode cX2_minimize 61 = .ok (.iastore, 1) := by decide +kernel
theorem dX2_minimize_62 : decode cX2_minimize 62 = .ok (.iinc 1 1, 3) := by decide +kernel
theorem dX2_minimize_65 : decode cX2_minimize 65 = .ok (.goto (-56), 3) := by decide +kernel
theorem dX2_minimize_68 : decode cX2_minimize 68 = .ok (.aload_n 0, 1) := by decide +kernel
theorem dX2_minimize_69 : decode cX2_minimize 69 = .ok (.iconst 2, 1) := by decide +kernel
theorem dX2_minimize_70 : decode cX2_minimize 70 = .ok (.iconst 1, 1) := by decide +kernel
theorem dX2_minimize_71 : decode cX2_minimize 71 = .ok (.invokevirtual 74, 3) := by decide +kernel
theorem dX2_minimize_74 : decode cX2_minimize 74 = .ok (.iconst 1, 1) := by decide +kernel
theorem dX2_minimize_75 : decode cX2_minimize 75 = .ok (.istore_n 1, 1) := by decide +kernel
theorem dX2_minimize_76 : decode cX2_minimize 76 = .ok (.iconst 1, 1) := by decide +kernel
theorem dX2_minimize_77 : decode cX2_minimize 77 = .ok (.istore_n 2, 1) := by decide +kernel
theorem dX2_minimize_78 : decode cX2_minimize 78 = .ok (.iload_n 2, 1) := by decide +kernel
theorem dX2_minimize_79 : decode cX2_minimize 79 = .ok (.bipush 8, 2) := by decide +kernel
theorem dX2_minimize_81 : decode cX2_minimize 81 = .ok (.if_icmp .gt 99, 3) := by decide +kernel
theorem dX2_minimize_84 : decode cX2_minimize 84 = .ok (.iload_n 1, 1) := by decide +kernel
theorem dX2_minimize_85 : decode cX2_minimize 85 = .ok (.ifCond .eq 95, 3) := by decide +kernel
theorem dX2_minimize_88 : decode cX2_minimize 88 = .ok (.aload_n 0, 1) := by decide +kernel
theorem dX2_minimize_89 : decode cX2_minimize 89 = .ok (.iconst 2, 1) := by decide +kernel
theorem dX2_minimize_90 : decode cX2_minimize 90 = .ok (.iconst 3, 1) := by decide +kernel
theorem dX2_minimize_91 : decode cX2_minimize 91 = .ok (.invokevirtual 78, 3) := by decide +kernel
theorem dX2_minimize_94 : decode cX2_minimize 94 = .ok (.aload_n 0, 1) := by decide +kernel
theorem dX2_minimize_95 : decode cX2_minimize 95 = .ok (.iconst 3, 1) := by decide +kernel
theorem dX2_minimize_96 : decode cX2_minimize 96 = .ok (.invokevirtual 82, 3) := by decide +kernel
theorem dX2_minimize_99 : decode cX2_minimize 99 = .ok (.aload_n 0, 1) := by decide +kernel
theorem dX2_minimize_100 : decode cX2_minimize 100 = .ok (.iconst 3, 1) := by decide +kernel
theorem dX2_minimize_101 : decode cX2_minimize 101 = .ok (.iload_n 2, 1) := by decide +kernel
theorem dX2_minimize_102 : decode cX2_minimize 102 = .ok (.iconst 2, 1) := by decide +kernel
theorem dX2_minimize_103 : decode cX2_minimize 103 = .ok (.irem, 1) := by decide +kernel
theorem dX2_minimize_104 : decode cX2_minimize 104 = .ok (.ifCond .ne 7, 3) := by decide +kernel
theorem dX2_minimize_107 : decode cX2_minimize 107 = .ok (.iconst 1, 1) := by decide +kernel
theorem dX2_minimize_108 : decode cX2_minimize 108 = .ok (.goto 4, 3) := by decide +kernel
theorem dX2_minimize_111 : decode cX2_minimize 111 = .ok (.iconst 0, 1) := by decide +kernel
theorem dX2_minimize_112 : decode cX2_minimize 112 = .ok (.invokevirtual 74, 3) := by decide +kernel
theorem dX2_minimize_115 : decode cX2_minimize 115 = .ok (.aload_n 0, 1) := by decide +kernel
theorem dX2_minimize_116 : decode cX2_minimize 116 = .ok (.getfield 13, 3) := by decide +kernel
theorem dX2_minimize_119 : decode cX2_minimize 119 = .ok (.iconst 3, 1) := by decide +kernel
theorem dX2_minimize_120 : decode cX2_minimize 120 = .ok (.iaload, 1) := by decide +kernel
theorem dX2_minimize_121 : decode cX2_minimize 121 = .ok (.aload_n 0, 1) := by decide +kernel
theorem dX2_minimize_122 : decode cX2_minimize 122 = .ok (.getfield 13, 3) := by decide +kernel
theorem dX2_minimize_125 : decode cX2_minimize 125 = .ok (.iconst 2, 1) := by decide +kernel
theorem dX2_minimize_126 : decode cX2_minimize 126 = .ok (.iaload, 1) := by decide +kernel
theorem dX2_minimize_127 : decode cX2_minimize 127 = .ok (.if_icmp .lt 31, 3) := by decide +kernel
theorem dX2_minimize_130 : decode cX2_minimize 130 = .ok (.aload_n 0, 1) := by decide +kernel
theorem dX2_minimize_131 : decode cX2_minimize 131 = .ok (.getfield 13, 3) := by decide +kernel
theorem dX2_minimize_134 : decode cX2_minimize 134 = .ok (.iconst 3, 1) := by decide +kernel
theorem dX2_minimize_135 : decode cX2_minimize 135 = .ok (.iaload, 1) := by decide +kernel
theorem dX2_minimize_136 : decode cX2_minimize 136 = .ok (.aload_n 0, 1) := by decide +kernel
theorem dX2_minimize_137 : decode cX2_minimize 137 = .ok (.getfield 13, 3) := by decide +kernel
theorem dX2_minimize_140 : decode cX2_minimize 140 = .ok (.iconst 2, 1) := by decide +kernel
theorem dX2_minimize_141 : decode cX2_minimize 141 = .ok (.iaload, 1) := by decide +kernel
theorem dX2_minimize_142 : decode cX2_minimize 142 = .ok (.if_icmp .ne 20, 3) := by decide +kernel
theorem dX2_minimize_145 : decode cX2_minimize 145 = .ok (.aload_n 0, 1) := by decide +kernel
theorem dX2_minimize_146 : decode cX2_minimize 146 = .ok (.iconst 3, 1) := by decide +kernel
theorem dX2_minimize_147 : decode cX2_minimize 147 = .ok (.invokevirtual 43, 3) := by decide +kernel
theorem dX2_minimize_150 : decode cX2_minimize 150 = .ok (.aload_n 0, 1) := by decide +kernel
theorem dX2_minimize_151 : decode cX2_minimize 151 = .ok (.iconst 2, 1) := by decide +kernel
theorem dX2_minimize_152 : decode cX2_minimize 152 = .ok (.invokevirtual 43, 3) := by decide +kernel
theorem dX2_minimize_155 : decode cX2_minimize 155 = .ok (.if_icmp .ge 7, 3) := by decide +kernel
theorem dX2_minimize_158 : decode cX2_minimize 158 = .ok (.iconst 1, 1) := by decide +kernel
theorem dX2_minimize_159 : decode cX2_minimize 159 = .ok (.goto 4, 3) := by decide +kernel
theorem dX2_minimize_162 : decode cX2_minimize 162 = .ok (.iconst 0, 1) := by decide +kernel
theorem dX2_minimize_163 : decode cX2_minimize 163 = .ok (.istore_n 1, 1) := by decide +kernel
theorem dX2_minimize_164 : decode cX2_minimize 164 = .ok (.iload_n 1, 1) := by decide +kernel
theorem dX2_minimize_165 : decode cX2_minimize 165 = .ok (.ifCond .eq 9, 3) := by decide +kernel
theorem dX2_minimize_168 : decode cX2_minimize 168 = .ok (.aload_n 0, 1) := by decide +kernel
theorem dX2_minimize_169 : decode cX2_minimize 169 = .ok (.iconst 3, 1) := by decide +kernel
theorem dX2_minimize_170 : decode cX2_minimize 170 = .ok (.iconst 2, 1) := by decide +kernel
theorem dX2_minimize_171 : decode cX2_minimize 171 = .ok (.invokevirtual 78, 3) := by decide +kernel
theorem dX2_minimize_174 : decode cX2_minimize 174 = .ok (.iinc 2 1, 3) := by decide +kernel
theorem dX2_minimize_177 : decode cX2_minimize 177 = .ok (.goto (-99), 3) := by decide +kernel
theorem dX2_minimize_180 : decode cX2_minimize 180 = .ok (.aload_n 0, 1) := by decide +kernel
theorem dX2_minimize_181 : decode cX2_minimize 181 = .ok (.getfield 13, 3) := by decide +kernel
theorem dX2_minimize_184 : decode cX2_minimize 184 = .ok (.iconst 2, 1) := by decide +kernel
theorem dX2_minimize_185 : decode cX2_minimize 185 = .ok (.iaload, 1) := by decide +kernel
theorem dX2_minimize_186 : decode cX2_minimize 186 = .ok (.ireturn, 1) := by decide +kernel
set_option maxRecDepth 20000 in
theorem ggL_law_X1_init : GoodIn wsL_law wsX1_init := goodIn_r _ [8, 9, 10, 11, 12, 13, 14, 15, 16, 17, 18, 19, 20, 21, 22, 23, 24, 25, 26, 27, 28, 29, 30, 31, 2, 32, 33, 34, 35, 36, 37, 38, 39, 40, 41, 369, 370, 357, 358, 359, 360, 361, 362, 363, 364] (by decide +kernel) (by decide +kernel)
set_option maxRecDepth 20000 in
theorem gL_law_X1_init : GoodIn wsL_law (wsX1_init) := ggL_law_X1_init
set_option maxRecDepth 20000 in
theorem ggL_law_X2_init : GoodIn wsL_law wsX2_init := goodIn_r _ [44, 45, 10, 11, 19, 46, 47, 48, 49, 365, 366, 367, 368] (by decide +kernel) (by decide +kernel)
set_option maxRecDepth 20000 in
theorem gL_law_X2_init : GoodIn wsL_law (wsX2_init) := ggL_law_X2_init
set_option maxRecDepth 20000 in
theorem ggL_law_X1_start : GoodIn wsL_law wsX1_start := goodIn_r _ [53, 29, 30, 31, 2, 32, 33, 15, 16, 17, 21, 34, 35, 36, 14, 37, 28, 38, 39, 40, 41, 20, 357, 358, 359, 360, 361, 362, 363, 364, 369, 370] (by decide +kernel) (by decide +kernel)
set_option maxRecDepth 20000 in
theorem gL_law_X1_start : GoodIn wsL_law (wsV RL 13 RX1 yX1_start wsX1_start) := goodIn_app (goodIn_of _ (by decide +kernel)) ggL_law_X1_start
set_option maxRecDepth 20000 in
theorem ggL_law_X2_start : GoodIn wsL_law wsX2_start := goodIn_r _ [57, 49, 47, 58, 59, 60, 5, 61, 48, 62, 63, 64, 65, 46, 66, 67, 68, 69, 365, 366, 367, 368] (by decide +kernel) (by decide +kernel)
set_option maxRecDepth 20000 in
theorem gL_law_X2_start : GoodIn wsL_law (wsV RL 17 RX2 yX2_start wsX2_start) := goodIn_app (goodIn_of _ (by decide +kernel)) ggL_law_X2_start
set_option maxRecDepth 20000 in
theorem ggL_law_X1_inputs : GoodIn wsL_law wsX1_inputs := goodIn_r _ [73, 33, 357, 358, 359, 360, 361, 362, 363, 364] (by decide +kernel) (by decide +kernel)
set_option maxRecDepth 20000 in
theorem gL_law_X1_inputs : GoodIn wsL_law (wsV RL 18 RX1 yX1_inputs wsX1_inputs) := goodIn_app (goodIn_of _ (by decide +kernel)) ggL_law_X1_inputs
set_option maxRecDepth 20000 in
theorem ggL_law_X2_inputs : GoodIn wsL_law wsX2_inputs := goodIn_r _ [77, 49, 365, 366, 367, 368] (by decide +kernel) (by decide +kernel)
set_option maxRecDepth 20000 in
theorem gL_law_X2_inputs : GoodIn wsL_law (wsV RL 22 RX2 yX2_inputs wsX2_inputs) := goodIn_app (goodIn_of _ (by decide +kernel)) ggL_law_X2_inputs
set_option maxRecDepth 20000 in
theorem ggL_law_X1_on : GoodIn wsL_law wsX1_on := goodIn_r _ [81, 15, 17, 82, 83, 84, 2, 85, 33, 86, 87, 88, 14, 89, 28, 27, 90, 91, 92, 93, 21, 94, 95, 96, 97, 98, 99, 100, 101, 20, 34, 35, 36, 37, 357, 358, 359, 360, 361, 362, 363, 364, 369, 370] (by decide +kernel) (by decide +kernel)
set_option maxRecDepth 20000 in
theorem gL_law_X1_on : GoodIn wsL_law (wsV RL 23 RX1 yX1_on wsX1_on) := goodIn_app (goodIn_of _ (by decide +kernel)) ggL_law_X1_on
set_option maxRecDepth 20000 in
theorem ggL_law_X2_on : GoodIn wsL_law wsX2_on := goodIn_r _ [105, 106, 107, 108, 5, 109, 47, 46, 110, 111, 112, 113, 49, 58, 59, 60, 61, 48, 62, 63, 64, 65, 66, 67, 68, 69, 365, 366, 367, 368] (by decide +kernel) (by decide +kernel)
set_option maxRecDepth 20000 in
theorem gL_law_X2_on : GoodIn wsL_law (wsV RL 26 RX2 yX2_on wsX2_on) := goodIn_app (goodIn_of _ (by decide +kernel)) ggL_law_X2_on
set_option maxRecDepth 20000 in
theorem ggL_law_X1_dc : GoodIn wsL_law wsX1_dc := goodIn_r _ [117, 16, 17, 82, 83, 84, 2, 85, 33, 86, 87, 88, 14, 89, 28, 27, 118, 119, 120, 121, 21, 94, 95, 96, 97, 98, 99, 100, 101, 20, 34, 35, 36, 37, 357, 358, 359, 360, 361, 362, 363, 364, 369, 370] (by decide +kernel) (by decide +kernel)
set_option maxRecDepth 20000 in
theorem gL_law_X1_dc : GoodIn wsL_law (wsV RL 27 RX1 yX1_dc wsX1_dc) := goodIn_app (goodIn_of _ (by decide +kernel)) ggL_law_X1_dc
set_option maxRecDepth 20000 in
theorem ggL_law_X2_dc : GoodIn wsL_law wsX2_dc := goodIn_r _ [125, 106, 107, 108, 5, 109, 47, 46, 110, 111, 112, 113, 49, 58, 59, 60, 61, 48, 62, 63, 64, 65, 66, 67, 68, 69, 365, 366, 367, 368] (by decide +kernel) (by decide +kernel)
set_option maxRecDepth 20000 in
theorem gL_law_X2_dc : GoodIn wsL_law (wsV RL 30 RX2 yX2_dc wsX2_dc) := goodIn_app (goodIn_of _ (by decide +kernel)) ggL_law_X2_dc
set_option maxRecDepth 20000 in
theorem ggL_law_X1_size : GoodIn wsL_law wsX1_size := goodIn_r _ [129, 130, 131, 132, 2, 133, 15, 16, 17, 134, 135, 136, 14, 137, 28, 357, 358, 359, 360, 361, 362, 363, 364, 369, 370] (by decide +kernel) (by decide +kernel)
set_option maxRecDepth 20000 in
theorem gL_law_X1_size : GoodIn wsL_law (wsV RL 31 RX1 yX1_size wsX1_size) := goodIn_app (goodIn_of _ (by decide +kernel)) ggL_law_X1_size
set_option maxRecDepth 20000 in
theorem ggL_law_X2_size : GoodIn wsL_law wsX2_size := goodIn_r _ [141, 47, 142, 143, 5, 144, 365, 366, 367, 368] (by decide +kernel) (by decide +kernel)
set_option maxRecDepth 20000 in
theorem gL_law_X2_size : GoodIn wsL_law (wsV RL 35 RX2 yX2_size wsX2_size) := goodIn_app (goodIn_of _ (by decide +kernel)) ggL_law_X2_size
set_option maxRecDepth 20000 in
theorem ggL_law_X1_cube : GoodIn wsL_law wsX1_cube := goodIn_r _ [148, 130, 131, 132, 2, 133, 15, 16, 17, 149, 150, 151, 14, 152, 28, 27, 357, 358, 359, 360, 361, 362, 363, 364, 369, 370] (by decide +kernel) (by decide +kernel)
set_option maxRecDepth 20000 in
theorem gL_law_X1_cube : GoodIn wsL_law (wsV RL 36 RX1 yX1_cube wsX1_cube) := goodIn_app (goodIn_of _ (by decide +kernel)) ggL_law_X1_cube
set_option maxRecDepth 20000 in
theorem ggL_law_X2_cube : GoodIn wsL_law wsX2_cube := goodIn_r _ [156, 47, 46, 142, 143, 5, 144, 365, 366, 367, 368] (by decide +kernel) (by decide +kernel)
set_option maxRecDepth 20000 in
theorem gL_law_X2_cube : GoodIn wsL_law (wsV RL 40 RX2 yX2_cube wsX2_cube) := goodIn_app (goodIn_of _ (by decide +kernel)) ggL_law_X2_cube
set_option maxRecDepth 20000 in
theorem ggL_law_X1_literals : GoodIn wsL_law wsX1_literals := goodIn_r _ [160, 130, 131, 132, 2, 133, 15, 16, 17, 161, 162, 163, 164, 33, 134, 135, 136, 14, 137, 28, 149, 150, 151, 152, 27, 165, 166, 167, 357, 358, 359, 360, 361, 362, 363, 364, 369, 370] (by decide +kernel) (by decide +kernel)
set_option maxRecDepth 20000 in
theorem gL_law_X1_literals : GoodIn wsL_law (wsV RL 41 RX1 yX1_literals wsX1_literals) := goodIn_app (goodIn_of _ (by decide +kernel)) ggL_law_X1_literals
set_option maxRecDepth 20000 in
theorem ggL_law_X2_literals : GoodIn wsL_law wsX2_literals := goodIn_r _ [171, 142, 143, 5, 144, 172, 173, 174, 175, 47, 49, 46, 365, 366, 367, 368] (by decide +kernel) (by decide +kernel)
set_option maxRecDepth 20000 in
theorem gL_law_X2_literals : GoodIn wsL_law (wsV RL 44 RX2 yX2_literals wsX2_literals) := goodIn_app (goodIn_of _ (by decide +kernel)) ggL_law_X2_literals
set_option maxRecDepth 20000 in
theorem ggL_law_X1_kind : GoodIn wsL_law wsX1_kind := goodIn_r _ [179, 21, 180, 181, 182, 2, 183, 94, 95, 96, 97, 33, 357, 358, 359, 360, 361, 362, 363, 364] (by decide +kernel) (by decide +kernel)
set_option maxRecDepth 20000 in
theorem gL_law_X1_kind : GoodIn wsL_law (wsV RL 45 RX1 yX1_kind wsX1_kind) := goodIn_app (goodIn_of _ (by decide +kernel)) ggL_law_X1_kind
set_option maxRecDepth 20000 in
theorem ggL_law_X2_kind : GoodIn wsL_law wsX2_kind := goodIn_r _ [187, 48, 188, 189, 190, 5, 191, 49, 365, 366, 367, 368] (by decide +kernel) (by decide +kernel)
set_option maxRecDepth 20000 in
theorem gL_law_X2_kind : GoodIn wsL_law (wsV RL 48 RX2 yX2_kind wsX2_kind) := goodIn_app (goodIn_of _ (by decide +kernel)) ggL_law_X2_kind
set_option maxRecDepth 20000 in
theorem ggL_law_X1_holds : GoodIn wsL_law wsX1_holds := goodIn_r _ [195, 130, 131, 132, 2, 133, 15, 16, 17, 180, 181, 182, 183, 94, 95, 96, 97, 33, 196, 197, 198, 199, 134, 135, 136, 14, 137, 28, 149, 150, 151, 152, 27, 98, 99, 100, 101, 20, 357, 358, 359, 360, 361, 362, 363, 364, 369, 370] (by decide +kernel) (by decide +kernel)
set_option maxRecDepth 20000 in
theorem gL_law_X1_holds : GoodIn wsL_law (wsV RL 49 RX1 yX1_holds wsX1_holds) := goodIn_app (goodIn_of _ (by decide +kernel)) ggL_law_X1_holds
set_option maxRecDepth 20000 in
theorem ggL_law_X2_holds : GoodIn wsL_law wsX2_holds := goodIn_r _ [203, 142, 143, 5, 144, 188, 189, 190, 191, 49, 62, 63, 64, 65, 47, 46, 66, 67, 68, 69, 365, 366, 367, 368] (by decide +kernel) (by decide +kernel)
set_option maxRecDepth 20000 in
theorem gL_law_X2_holds : GoodIn wsL_law (wsV RL 53 RX2 yX2_holds wsX2_holds) := goodIn_app (goodIn_of _ (by decide +kernel)) ggL_law_X2_holds
set_option maxRecDepth 20000 in
theorem ggL_law_X1_missing : GoodIn wsL_law wsX1_missing := goodIn_r _ [207, 130, 131, 132, 2, 133, 15, 16, 17, 208, 209, 210, 211, 94, 95, 96, 97, 33, 196, 197, 198, 199, 134, 135, 136, 14, 137, 28, 149, 150, 151, 152, 27, 98, 99, 100, 101, 20, 357, 358, 359, 360, 361, 362, 363, 364, 369, 370] (by decide +kernel) (by decide +kernel)
set_option maxRecDepth 20000 in
theorem gL_law_X1_missing : GoodIn wsL_law (wsV RL 54 RX1 yX1_missing wsX1_missing) := goodIn_app (goodIn_of _ (by decide +kernel)) ggL_law_X1_missing
set_option maxRecDepth 20000 in
theorem ggL_law_X2_missing : GoodIn wsL_law wsX2_missing := goodIn_r _ [215, 49, 142, 143, 5, 144, 62, 63, 64, 65, 47, 46, 66, 67, 68, 69, 365, 366, 367, 368] (by decide +kernel) (by decide +kernel)
set_option maxRecDepth 20000 in
theorem gL_law_X2_missing : GoodIn wsL_law (wsV RL 57 RX2 yX2_missing wsX2_missing) := goodIn_app (goodIn_of _ (by decide +kernel)) ggL_law_X2_missing
set_option maxRecDepth 20000 in
theorem ggL_law_X1_tautology : GoodIn wsL_law wsX1_tautology := goodIn_r _ [219, 130, 131, 132, 2, 133, 15, 16, 17, 208, 209, 210, 211, 94, 95, 96, 97, 33, 196, 197, 198, 199, 134, 135, 136, 14, 137, 28, 149, 150, 151, 152, 27, 98, 99, 100, 101, 20, 357, 358, 359, 360, 361, 362, 363, 364, 369, 370] (by decide +kernel) (by decide +kernel)
set_option maxRecDepth 20000 in
theorem gL_law_X1_tautology : GoodIn wsL_law (wsV RL 58 RX1 yX1_tautology wsX1_tautology) := goodIn_app (goodIn_of _ (by decide +kernel)) ggL_law_X1_tautology
set_option maxRecDepth 20000 in
theorem ggL_law_X2_tautology : GoodIn wsL_law wsX2_tautology := goodIn_r _ [223, 224, 213, 214, 5, 215, 49, 142, 143, 144, 62, 63, 64, 65, 47, 46, 66, 67, 68, 69, 365, 366, 367, 368] (by decide +kernel) (by decide +kernel)
set_option maxRecDepth 20000 in
theorem gL_law_X2_tautology : GoodIn wsL_law (wsV RL 61 RX2 yX2_tautology wsX2_tautology) := goodIn_app (goodIn_of _ (by decide +kernel)) ggL_law_X2_tautology
set_option maxRecDepth 20000 in
theorem ggL_law_X1_same : GoodIn wsL_law wsX1_same := goodIn_r _ [228, 130, 131, 132, 2, 133, 15, 16, 17, 229, 230, 231, 232, 21, 94, 95, 96, 97, 33, 196, 197, 198, 199, 134, 135, 136, 14, 137, 28, 149, 150, 151, 152, 27, 98, 99, 100, 101, 20, 357, 358, 359, 360, 361, 362, 363, 364, 369, 370] (by decide +kernel) (by decide +kernel)
set_option maxRecDepth 20000 in
theorem gL_law_X1_same : GoodIn wsL_law (wsV RL 62 RX1 yX1_same wsX1_same) := goodIn_app (goodIn_of _ (by decide +kernel)) ggL_law_X1_same
set_option maxRecDepth 20000 in
theorem ggL_law_X2_same : GoodIn wsL_law wsX2_same := goodIn_r _ [236, 49, 48, 142, 143, 5, 144, 62, 63, 64, 65, 47, 46, 66, 67, 68, 69, 365, 366, 367, 368] (by decide +kernel) (by decide +kernel)
set_option maxRecDepth 20000 in
theorem gL_law_X2_same : GoodIn wsL_law (wsV RL 65 RX2 yX2_same wsX2_same) := goodIn_app (goodIn_of _ (by decide +kernel)) ggL_law_X2_same
set_option maxRecDepth 20000 in
theorem ggL_law_X1_prime : GoodIn wsL_law wsX1_prime := goodIn_r _ [240, 130, 131, 132, 2, 133, 15, 16, 17, 149, 150, 151, 14, 152, 28, 27, 241, 242, 243, 244, 33, 245, 246, 247, 248, 21, 94, 95, 96, 97, 98, 99, 100, 101, 20, 249, 250, 251, 252, 165, 166, 167, 357, 358, 359, 360, 361, 362, 363, 364, 369, 370] (by decide +kernel) (by decide +kernel)
set_option maxRecDepth 20000 in
theorem gL_law_X1_prime : GoodIn wsL_law (wsV RL 66 RX1 yX1_prime wsX1_prime) := goodIn_app (goodIn_of _ (by decide +kernel)) ggL_law_X1_prime
set_option maxRecDepth 20000 in
theorem ggL_law_X2_prime : GoodIn wsL_law wsX2_prime := goodIn_r _ [256, 49, 257, 154, 155, 5, 156, 47, 46, 142, 143, 144, 258, 259, 260, 261, 262, 263, 264, 265, 48, 66, 67, 68, 69, 365, 366, 367, 368] (by decide +kernel) (by decide +kernel)
set_option maxRecDepth 20000 in
theorem gL_law_X2_prime : GoodIn wsL_law (wsV RL 69 RX2 yX2_prime wsX2_prime) := goodIn_app (goodIn_of _ (by decide +kernel)) ggL_law_X2_prime
set_option maxRecDepth 20000 in
theorem ggL_law_X1_widen : GoodIn wsL_law wsX1_widen := goodIn_r _ [269, 82, 83, 84, 2, 85, 33, 241, 242, 243, 244, 245, 246, 247, 248, 21, 94, 95, 96, 97, 98, 99, 100, 101, 20, 270, 271, 272, 273, 165, 166, 167, 357, 358, 359, 360, 361, 362, 363, 364] (by decide +kernel) (by decide +kernel)
set_option maxRecDepth 20000 in
theorem gL_law_X1_widen : GoodIn wsL_law (wsV RL 70 RX1 yX1_widen wsX1_widen) := goodIn_app (goodIn_of _ (by decide +kernel)) ggL_law_X1_widen
set_option maxRecDepth 20000 in
theorem ggL_law_X2_widen : GoodIn wsL_law wsX2_widen := goodIn_r _ [277, 110, 111, 112, 5, 113, 49, 258, 259, 260, 261, 262, 263, 264, 265, 48, 66, 67, 68, 69, 278, 279, 280, 281, 365, 366, 367, 368] (by decide +kernel) (by decide +kernel)
set_option maxRecDepth 20000 in
theorem gL_law_X2_widen : GoodIn wsL_law (wsV RL 73 RX2 yX2_widen wsX2_widen) := goodIn_app (goodIn_of _ (by decide +kernel)) ggL_law_X2_widen
set_option maxRecDepth 20000 in
theorem ggL_law_X1_minimize : GoodIn wsL_law wsX1_minimize := goodIn_r _ [285, 17, 18, 286, 287, 288, 2, 289, 15, 34, 35, 36, 14, 37, 28, 134, 135, 136, 137, 149, 150, 151, 152, 27, 241, 242, 243, 244, 33, 86, 87, 88, 89, 290, 291, 292, 293, 270, 271, 272, 273, 165, 166, 167, 245, 246, 247, 248, 21, 94, 95, 96, 97, 98, 99, 100, 101, 20, 294, 295, 296, 297, 298, 299, 300, 301, 302, 303, 304, 305, 22, 306, 307, 308, 309, 310, 311, 312, 313, 314, 315, 316, 317, 318, 319, 320, 321, 322, 323, 324, 325, 326, 327, 328, 329, 330, 331, 332, 161, 162, 163, 164, 357, 358, 359, 360, 361, 362, 363, 364, 369, 370] (by decide +kernel) (by decide +kernel)
set_option maxRecDepth 20000 in
theorem gL_law_X1_minimize : GoodIn wsL_law (wsV RL 74 RX1 yX1_minimize wsX1_minimize) := goodIn_app (goodIn_of _ (by decide +kernel)) ggL_law_X1_minimize
set_option maxRecDepth 20000 in
theorem ggL_law_X2_minimize : GoodIn wsL_law wsX2_minimize := goodIn_r _ [336, 47, 46, 258, 259, 260, 5, 261, 49, 337, 338, 339, 340, 278, 279, 280, 281, 262, 263, 264, 265, 48, 66, 67, 68, 69, 341, 342, 343, 344, 345, 346, 347, 348, 349, 350, 351, 352, 353, 354, 355, 356, 172, 173, 174, 175, 365, 366, 367, 368] (by decide +kernel) (by decide +kernel)
set_option maxRecDepth 20000 in
theorem gL_law_X2_minimize : GoodIn wsL_law (wsV RL 77 RX2 yX2_minimize wsX2_minimize) := goodIn_app (goodIn_of _ (by decide +kernel)) ggL_law_X2_minimize
theorem dL_law_0 : decode cL_law 0 = .ok (.new 7, 3) := by decide +kernel
theorem dL_law_3 : decode cL_law 3 = .ok (.dup, 1) := by decide +kernel
theorem dL_law_4 : decode cL_law 4 = .ok (.invokespecial 9, 3) := by decide +kernel
theorem dL_law_7 : decode cL_law 7 = .ok (.astore_n 1, 1) := by decide +kernel
theorem dL_law_8 : decode cL_law 8 = .ok (.new 10, 3) := by decide +kernel
theorem dL_law_11 : decode cL_law 11 = .ok (.dup, 1) := by decide +kernel
theorem dL_law_12 : decode cL_law 12 = .ok (.invokespecial 12, 3) := by decide +kernel
theorem dL_law_15 : decode cL_law 15 = .ok (.astore_n 2, 1) := by decide +kernel
theorem dL_law_16 : decode cL_law 16 = .ok (.iconst 0, 1) := by decide +kernel
theorem dL_law_17 : decode cL_law 17 = .ok (.istore_n 3, 1) := by decide +kernel
theorem dL_law_18 : decode cL_law 18 = .ok (.iload_n 3, 1) := by decide +kernel
theorem dL_law_19 : decode cL_law 19 = .ok (.aload_n 0, 1) := by decide +kernel
theorem dL_law_20 : decode cL_law 20 = .ok (.arraylength, 1) := by decide +kernel
theorem dL_law_21 : decode cL_law 21 = .ok (.iconst 3, 1) := by decide +kernel
theorem dL_law_22 : decode cL_law 22 = .ok (.isub, 1) := by decide +kernel
theorem dL_law_23 : decode cL_law 23 = .ok (.if_icmp .gt 456, 3) := by decide +kernel
theorem dL_law_26 : decode cL_law 26 = .ok (.aload_n 0, 1) := by decide +kernel
theorem dL_law_27 : decode cL_law 27 = .ok (.iload_n 3, 1) := by decide +kernel
theorem dL_law_28 : decode cL_law 28 = .ok (.iaload, 1) := by decide +kernel
theorem dL_law_29 : decode cL_law 29 = .ok (.bipush 15, 2) := by decide +kernel
theorem dL_law_31 : decode cL_law 31 = .ok (.iand, 1) := by decide +kernel
theorem dL_law_32 : decode cL_law 32 = .ok (.tableswitch 441 0 14 #[76, 99, 112, 135, 158, 181, 214, 237, 260, 293, 316, 339, 372, 405, 428], 76) := by decide +kernel
theorem dL_law_108 : decode cL_law 108 = .ok (.aload_n 1, 1) := by decide +kernel
theorem dL_law_109 : decode cL_law 109 = .ok (.aload_n 0, 1) := by decide +kernel
theorem dL_law_110 : decode cL_law 110 = .ok (.iload_n 3, 1) := by decide +kernel
theorem dL_law_111 : decode cL_law 111 = .ok (.iconst 1, 1) := by decide +kernel
theorem dL_law_112 : decode cL_law 112 = .ok (.iadd, 1) := by decide +kernel
theorem dL_law_113 : decode cL_law 113 = .ok (.iaload, 1) := by decide +kernel
theorem dL_law_114 : decode cL_law 114 = .ok (.invokevirtual 13, 3) := by decide +kernel
theorem dL_law_117 : decode cL_law 117 = .ok (.aload_n 2, 1) := by decide +kernel
theorem dL_law_118 : decode cL_law 118 = .ok (.aload_n 0, 1) := by decide +kernel
theorem dL_law_119 : decode cL_law 119 = .ok (.iload_n 3, 1) := by decide +kernel
theorem dL_law_120 : decode cL_law 120 = .ok (.iconst 1, 1) := by decide +kernel
theorem dL_law_121 : decode cL_law 121 = .ok (.iadd, 1) := by decide +kernel
theorem dL_law_122 : decode cL_law 122 = .ok (.iaload, 1) := by decide +kernel
theorem dL_law_123 : decode cL_law 123 = .ok (.invokevirtual 17, 3) := by decide +kernel
theorem dL_law_126 : decode cL_law 126 = .ok (.if_icmp .eq 347, 3) := by decide +kernel
theorem dL_law_129 : decode cL_law 129 = .ok (.iconst 0, 1) := by decide +kernel
theorem dL_law_130 : decode cL_law 130 = .ok (.ireturn, 1) := by decide +kernel
theorem dL_law_131 : decode cL_law 131 = .ok (.aload_n 1, 1) := by decide +kernel
theorem dL_law_132 : decode cL_law 132 = .ok (.invokevirtual 18, 3) := by decide +kernel
theorem dL_law_135 : decode cL_law 135 = .ok (.aload_n 2, 1) := by decide +kernel
theorem dL_law_136 : decode cL_law 136 = .ok (.invokevirtual 22, 3) := by decide +kernel
theorem dL_law_139 : decode cL_law 139 = .ok (.if_icmp .eq 334, 3) := by decide +kernel
theorem dL_law_142 : decode cL_law 142 = .ok (.iconst 0, 1) := by decide +kernel
theorem dL_law_143 : decode cL_law 143 = .ok (.ireturn, 1) := by decide +kernel
theorem dL_law_144 : decode cL_law 144 = .ok (.aload_n 1, 1) := by decide +kernel
theorem dL_law_145 : decode cL_law 145 = .ok (.aload_n 0, 1) := by decide +kernel
theorem dL_law_146 : decode cL_law 146 = .ok (.iload_n 3, 1) := by decide +kernel
theorem dL_law_147 : decode cL_law 147 = .ok (.iconst 1, 1) := by decide +kernel
theorem dL_law_148 : decode cL_law 148 = .ok (.iadd, 1) := by decide +kernel
theorem dL_law_149 : decode cL_law 149 = .ok (.iaload, 1) := by decide +kernel
theorem dL_law_150 : decode cL_law 150 = .ok (.invokevirtual 23, 3) := by decide +kernel
theorem dL_law_153 : decode cL_law 153 = .ok (.aload_n 2, 1) := by decide +kernel
theorem dL_law_154 : decode cL_law 154 = .ok (.aload_n 0, 1) := by decide +kernel
theorem dL_law_155 : decode cL_law 155 = .ok (.iload_n 3, 1) := by decide +kernel
theorem dL_law_156 : decode cL_law 156 = .ok (.iconst 1, 1) := by decide +kernel
theorem dL_law_157 : decode cL_law 157 = .ok (.iadd, 1) := by decide +kernel
theorem dL_law_158 : decode cL_law 158 = .ok (.iaload, 1) := by decide +kernel
theorem dL_law_159 : decode cL_law 159 = .ok (.invokevirtual 26, 3) := by decide +kernel
theorem dL_law_162 : decode cL_law 162 = .ok (.if_icmp .eq 311, 3) := by decide +kernel
theorem dL_law_165 : decode cL_law 165 = .ok (.iconst 0, 1) := by decide +kernel
theorem dL_law_166 : decode cL_law 166 = .ok (.ireturn, 1) := by decide +kernel
theorem dL_law_167 : decode cL_law 167 = .ok (.aload_n 1, 1) := by decide +kernel
theorem dL_law_168 : decode cL_law 168 = .ok (.aload_n 0, 1) := by decide +kernel
theorem dL_law_169 : decode cL_law 169 = .ok (.iload_n 3, 1) := by decide +kernel
theorem dL_law_170 : decode cL_law 170 = .ok (.iconst 1, 1) := by decide +kernel
theorem dL_law_171 : decode cL_law 171 = .ok (.iadd, 1) := by decide +kernel
theorem dL_law_172 : decode cL_law 172 = .ok (.iaload, 1) := by decide +kernel
theorem dL_law_173 : decode cL_law 173 = .ok (.invokevirtual 27, 3) := by decide +kernel
theorem dL_law_176 : decode cL_law 176 = .ok (.aload_n 2, 1) := by decide +kernel
theorem dL_law_177 : decode cL_law 177 = .ok (.aload_n 0, 1) := by decide +kernel
theorem dL_law_178 : decode cL_law 178 = .ok (.iload_n 3, 1) := by decide +kernel
theorem dL_law_179 : decode cL_law 179 = .ok (.iconst 1, 1) := by decide +kernel
theorem dL_law_180 : decode cL_law 180 = .ok (.iadd, 1) := by decide +kernel
theorem dL_law_181 : decode cL_law 181 = .ok (.iaload, 1) := by decide +kernel
theorem dL_law_182 : decode cL_law 182 = .ok (.invokevirtual 30, 3) := by decide +kernel
theorem dL_law_185 : decode cL_law 185 = .ok (.if_icmp .eq 288, 3) := by decide +kernel
theorem dL_law_188 : decode cL_law 188 = .ok (.iconst 0, 1) := by decide +kernel
theorem dL_law_189 : decode cL_law 189 = .ok (.ireturn, 1) := by decide +kernel
theorem dL_law_190 : decode cL_law 190 = .ok (.aload_n 1, 1) := by decide +kernel
theorem dL_law_191 : decode cL_law 191 = .ok (.aload_n 0, 1) := by decide +kernel
theorem dL_law_192 : decode cL_law 192 = .ok (.iload_n 3, 1) := by decide +kernel
theorem dL_law_193 : decode cL_law 193 = .ok (.iconst 1, 1) := by decide +kernel
theorem dL_law_194 : decode cL_law 194 = .ok (.iadd, 1) := by decide +kernel
theorem dL_law_195 : decode cL_law 195 = .ok (.iaload, 1) := by decide +kernel
theorem dL_law_196 : decode cL_law 196 = .ok (.invokevirtual 31, 3) := by decide +kernel
theorem dL_law_199 : decode cL_law 199 = .ok (.aload_n 2, 1) := by decide +kernel
theorem dL_law_200 : decode cL_law 200 = .ok (.aload_n 0, 1) := by decide +kernel
theorem dL_law_201 : decode cL_law 201 = .ok (.iload_n 3, 1) := by decide +kernel
theorem dL_law_202 : decode cL_law 202 = .ok (.iconst 1, 1) := by decide +kernel
theorem dL_law_203 : decode cL_law 203 = .ok (.iadd, 1) := by decide +kernel
theorem dL_law_204 : decode cL_law 204 = .ok (.iaload, 1) := by decide +kernel
theorem dL_law_205 : decode cL_law 205 = .ok (.invokevirtual 35, 3) := by decide +kernel
theorem dL_law_208 : decode cL_law 208 = .ok (.if_icmp .eq 265, 3) := by decide +kernel
theorem dL_law_211 : decode cL_law 211 = .ok (.iconst 0, 1) := by decide +kernel
theorem dL_law_212 : decode cL_law 212 = .ok (.ireturn, 1) := by decide +kernel
theorem dL_law_213 : decode cL_law 213 = .ok (.aload_n 1, 1) := by decide +kernel
theorem dL_law_214 : decode cL_law 214 = .ok (.aload_n 0, 1) := by decide +kernel
theorem dL_law_215 : decode cL_law 215 = .ok (.iload_n 3, 1) := by decide +kernel
theorem dL_law_216 : decode cL_law 216 = .ok (.iconst 1, 1) := by decide +kernel
theorem dL_law_217 : decode cL_law 217 = .ok (.iadd, 1) := by decide +kernel
theorem dL_law_218 : decode cL_law 218 = .ok (.iaload, 1) := by decide +kernel
theorem dL_law_219 : decode cL_law 219 = .ok (.aload_n 0, 1) := by decide +kernel
theorem dL_law_220 : decode cL_law 220 = .ok (.iload_n 3, 1) := by decide +kernel
theorem dL_law_221 : decode cL_law 221 = .ok (.iconst 2, 1) := by decide +kernel
theorem dL_law_222 : decode cL_law 222 = .ok (.iadd, 1) := by decide +kernel
theorem dL_law_223 : decode cL_law 223 = .ok (.iaload, 1) := by decide +kernel
theorem dL_law_224 : decode cL_law 224 = .ok (.invokevirtual 36, 3) := by decide +kernel
theorem dL_law_227 : decode cL_law 227 = .ok (.aload_n 2, 1) := by decide +kernel
theorem dL_law_228 : decode cL_law 228 = .ok (.aload_n 0, 1) := by decide +kernel
theorem dL_law_229 : decode cL_law 229 = .ok (.iload_n 3, 1) := by decide +kernel
theorem dL_law_230 : decode cL_law 230 = .ok (.iconst 1, 1) := by decide +kernel
theorem dL_law_231 : decode cL_law 231 = .ok (.iadd, 1) := by decide +kernel
theorem dL_law_232 : decode cL_law 232 = .ok (.iaload, 1) := by decide +kernel
theorem dL_law_233 : decode cL_law 233 = .ok (.aload_n 0, 1) := by decide +kernel
theorem dL_law_234 : decode cL_law 234 = .ok (.iload_n 3, 1) := by decide +kernel
theorem dL_law_235 : decode cL_law 235 = .ok (.iconst 2, 1) := by decide +kernel
theorem dL_law_236 : decode cL_law 236 = .ok (.iadd, 1) := by decide +kernel
theorem dL_law_237 : decode cL_law 237 = .ok (.iaload, 1) := by decide +kernel
theorem dL_law_238 : decode cL_law 238 = .ok (.invokevirtual 40, 3) := by decide +kernel
theorem dL_law_241 : decode cL_law 241 = .ok (.if_icmp .eq 232, 3) := by decide +kernel
theorem dL_law_244 : decode cL_law 244 = .ok (.iconst 0, 1) := by decide +kernel
theorem dL_law_245 : decode cL_law 245 = .ok (.ireturn, 1) := by decide +kernel
theorem dL_law_246 : decode cL_law 246 = .ok (.aload_n 1, 1) := by decide +kernel
theorem dL_law_247 : decode cL_law 247 = .ok (.aload_n 0, 1) := by decide +kernel
theorem dL_law_248 : decode cL_law 248 = .ok (.iload_n 3, 1) := by decide +kernel
theorem dL_law_249 : decode cL_law 249 = .ok (.iconst 1, 1) := by decide +kernel
theorem dL_law_250 : decode cL_law 250 = .ok (.iadd, 1) := by decide +kernel
theorem dL_law_251 : decode cL_law 251 = .ok (.iaload, 1) := by decide +kernel
theorem dL_law_252 : decode cL_law 252 = .ok (.invokevirtual 41, 3) := by decide +kernel
theorem dL_law_255 : decode cL_law 255 = .ok (.aload_n 2, 1) := by decide +kernel
theorem dL_law_256 : decode cL_law 256 = .ok (.aload_n 0, 1) := by decide +kernel
theorem dL_law_257 : decode cL_law 257 = .ok (.iload_n 3, 1) := by decide +kernel
theorem dL_law_258 : decode cL_law 258 = .ok (.iconst 1, 1) := by decide +kernel
theorem dL_law_259 : decode cL_law 259 = .ok (.iadd, 1) := by decide +kernel
theorem dL_law_260 : decode cL_law 260 = .ok (.iaload, 1) := by decide +kernel
theorem dL_law_261 : decode cL_law 261 = .ok (.invokevirtual 44, 3) := by decide +kernel
theorem dL_law_264 : decode cL_law 264 = .ok (.if_icmp .eq 209, 3) := by decide +kernel
theorem dL_law_267 : decode cL_law 267 = .ok (.iconst 0, 1) := by decide +kernel
theorem dL_law_268 : decode cL_law 268 = .ok (.ireturn, 1) := by decide +kernel
theorem dL_law_269 : decode cL_law 269 = .ok (.aload_n 1, 1) := by decide +kernel
theorem dL_law_270 : decode cL_law 270 = .ok (.aload_n 0, 1) := by decide +kernel
theorem dL_law_271 : decode cL_law 271 = .ok (.iload_n 3, 1) := by decide +kernel
theorem dL_law_272 : decode cL_law 272 = .ok (.iconst 1, 1) := by decide +kernel
theorem dL_law_273 : decode cL_law 273 = .ok (.iadd, 1) := by decide +kernel
theorem dL_law_274 : decode cL_law 274 = .ok (.iaload, 1) := by decide +kernel
theorem dL_law_275 : decode cL_law 275 = .ok (.invokevirtual 45, 3) := by decide +kernel
theorem dL_law_278 : decode cL_law 278 = .ok (.aload_n 2, 1) := by decide +kernel
theorem dL_law_279 : decode cL_law 279 = .ok (.aload_n 0, 1) := by decide +kernel
theorem dL_law_280 : decode cL_law 280 = .ok (.iload_n 3, 1) := by decide +kernel
theorem dL_law_281 : decode cL_law 281 = .ok (.iconst 1, 1) := by decide +kernel
theorem dL_law_282 : decode cL_law 282 = .ok (.iadd, 1) := by decide +kernel
theorem dL_law_283 : decode cL_law 283 = .ok (.iaload, 1) := by decide +kernel
theorem dL_law_284 : decode cL_law 284 = .ok (.invokevirtual 48, 3) := by decide +kernel
theorem dL_law_287 : decode cL_law 287 = .ok (.if_icmp .eq 186, 3) := by decide +kernel
theorem dL_law_290 : decode cL_law 290 = .ok (.iconst 0, 1) := by decide +kernel
theorem dL_law_291 : decode cL_law 291 = .ok (.ireturn, 1) := by decide +kernel
theorem dL_law_292 : decode cL_law 292 = .ok (.aload_n 1, 1) := by decide +kernel
theorem dL_law_293 : decode cL_law 293 = .ok (.aload_n 0, 1) := by decide +kernel
theorem dL_law_294 : decode cL_law 294 = .ok (.iload_n 3, 1) := by decide +kernel
theorem dL_law_295 : decode cL_law 295 = .ok (.iconst 1, 1) := by decide +kernel
theorem dL_law_296 : decode cL_law 296 = .ok (.iadd, 1) := by decide +kernel
theorem dL_law_297 : decode cL_law 297 = .ok (.iaload, 1) := by decide +kernel
theorem dL_law_298 : decode cL_law 298 = .ok (.aload_n 0, 1) := by decide +kernel
theorem dL_law_299 : decode cL_law 299 = .ok (.iload_n 3, 1) := by decide +kernel
theorem dL_law_300 : decode cL_law 300 = .ok (.iconst 2, 1) := by decide +kernel
theorem dL_law_301 : decode cL_law 301 = .ok (.iadd, 1) := by decide +kernel
theorem dL_law_302 : decode cL_law 302 = .ok (.iaload, 1) := by decide +kernel
theorem dL_law_303 : decode cL_law 303 = .ok (.invokevirtual 49, 3) := by decide +kernel
theorem dL_law_306 : decode cL_law 306 = .ok (.aload_n 2, 1) := by decide +kernel
theorem dL_law_307 : decode cL_law 307 = .ok (.aload_n 0, 1) := by decide +kernel
theorem dL_law_308 : decode cL_law 308 = .ok (.iload_n 3, 1) := by decide +kernel
theorem dL_law_309 : decode cL_law 309 = .ok (.iconst 1, 1) := by decide +kernel
theorem dL_law_310 : decode cL_law 310 = .ok (.iadd, 1) := by decide +kernel
theorem dL_law_311 : decode cL_law 311 = .ok (.iaload, 1) := by decide +kernel
theorem dL_law_312 : decode cL_law 312 = .ok (.aload_n 0, 1) := by decide +kernel
theorem dL_law_313 : decode cL_law 313 = .ok (.iload_n 3, 1) := by decide +kernel
theorem dL_law_314 : decode cL_law 314 = .ok (.iconst 2, 1) := by decide +kernel
theorem dL_law_315 : decode cL_law 315 = .ok (.iadd, 1) := by decide +kernel
theorem dL_law_316 : decode cL_law 316 = .ok (.iaload, 1) := by decide +kernel
theorem dL_law_317 : decode cL_law 317 = .ok (.invokevirtual 53, 3) := by decide +kernel
theorem dL_law_320 : decode cL_law 320 = .ok (.if_icmp .eq 153, 3) := by decide +kernel
theorem dL_law_323 : decode cL_law 323 = .ok (.iconst 0, 1) := by decide +kernel
theorem dL_law_324 : decode cL_law 324 = .ok (.ireturn, 1) := by decide +kernel
theorem dL_law_325 : decode cL_law 325 = .ok (.aload_n 1, 1) := by decide +kernel
theorem dL_law_326 : decode cL_law 326 = .ok (.aload_n 0, 1) := by decide +kernel
theorem dL_law_327 : decode cL_law 327 = .ok (.iload_n 3, 1) := by decide +kernel
theorem dL_law_328 : decode cL_law 328 = .ok (.iconst 1, 1) := by decide +kernel
theorem dL_law_329 : decode cL_law 329 = .ok (.iadd, 1) := by decide +kernel
theorem dL_law_330 : decode cL_law 330 = .ok (.iaload, 1) := by decide +kernel
theorem dL_law_331 : decode cL_law 331 = .ok (.invokevirtual 54, 3) := by decide +kernel
theorem dL_law_334 : decode cL_law 334 = .ok (.aload_n 2, 1) := by decide +kernel
theorem dL_law_335 : decode cL_law 335 = .ok (.aload_n 0, 1) := by decide +kernel
theorem dL_law_336 : decode cL_law 336 = .ok (.iload_n 3, 1) := by decide +kernel
theorem dL_law_337 : decode cL_law 337 = .ok (.iconst 1, 1) := by decide +kernel
theorem dL_law_338 : decode cL_law 338 = .ok (.iadd, 1) := by decide +kernel
theorem dL_law_339 : decode cL_law 339 = .ok (.iaload, 1) := by decide +kernel
theorem dL_law_340 : decode cL_law 340 = .ok (.invokevirtual 57, 3) := by decide +kernel
theorem dL_law_343 : decode cL_law 343 = .ok (.if_icmp .eq 130, 3) := by decide +kernel
theorem dL_law_346 : decode cL_law 346 = .ok (.iconst 0, 1) := by decide +kernel
theorem dL_law_347 : decode cL_law 347 = .ok (.ireturn, 1) := by decide +kernel
theorem dL_law_348 : decode cL_law 348 = .ok (.aload_n 1, 1) := by decide +kernel
theorem dL_law_349 : decode cL_law 349 = .ok (.aload_n 0, 1) := by decide +kernel
theorem dL_law_350 : decode cL_law 350 = .ok (.iload_n 3, 1) := by decide +kernel
theorem dL_law_351 : decode cL_law 351 = .ok (.iconst 1, 1) := by decide +kernel
theorem dL_law_352 : decode cL_law 352 = .ok (.iadd, 1) := by decide +kernel
theorem dL_law_353 : decode cL_law 353 = .ok (.iaload, 1) := by decide +kernel
theorem dL_law_354 : decode cL_law 354 = .ok (.invokevirtual 58, 3) := by decide +kernel
theorem dL_law_357 : decode cL_law 357 = .ok (.aload_n 2, 1) := by decide +kernel
theorem dL_law_358 : decode cL_law 358 = .ok (.aload_n 0, 1) := by decide +kernel
theorem dL_law_359 : decode cL_law 359 = .ok (.iload_n 3, 1) := by decide +kernel
theorem dL_law_360 : decode cL_law 360 = .ok (.iconst 1, 1) := by decide +kernel
theorem dL_law_361 : decode cL_law 361 = .ok (.iadd, 1) := by decide +kernel
theorem dL_law_362 : decode cL_law 362 = .ok (.iaload, 1) := by decide +kernel
theorem dL_law_363 : decode cL_law 363 = .ok (.invokevirtual 61, 3) := by decide +kernel
theorem dL_law_366 : decode cL_law 366 = .ok (.if_icmp .eq 107, 3) := by decide +kernel
theorem dL_law_369 : decode cL_law 369 = .ok (.iconst 0, 1) := by decide +kernel
theorem dL_law_370 : decode cL_law 370 = .ok (.ireturn, 1) := by decide +kernel
theorem dL_law_371 : decode cL_law 371 = .ok (.aload_n 1, 1) := by decide +kernel
theorem dL_law_372 : decode cL_law 372 = .ok (.aload_n 0, 1) := by decide +kernel
theorem dL_law_373 : decode cL_law 373 = .ok (.iload_n 3, 1) := by decide +kernel
theorem dL_law_374 : decode cL_law 374 = .ok (.iconst 1, 1) := by decide +kernel
theorem dL_law_375 : decode cL_law 375 = .ok (.iadd, 1) := by decide +kernel
theorem dL_law_376 : decode cL_law 376 = .ok (.iaload, 1) := by decide +kernel
theorem dL_law_377 : decode cL_law 377 = .ok (.aload_n 0, 1) := by decide +kernel
theorem dL_law_378 : decode cL_law 378 = .ok (.iload_n 3, 1) := by decide +kernel
theorem dL_law_379 : decode cL_law 379 = .ok (.iconst 2, 1) := by decide +kernel
theorem dL_law_380 : decode cL_law 380 = .ok (.iadd, 1) := by decide +kernel
theorem dL_law_381 : decode cL_law 381 = .ok (.iaload, 1) := by decide +kernel
theorem dL_law_382 : decode cL_law 382 = .ok (.invokevirtual 62, 3) := by decide +kernel
theorem dL_law_385 : decode cL_law 385 = .ok (.aload_n 2, 1) := by decide +kernel
theorem dL_law_386 : decode cL_law 386 = .ok (.aload_n 0, 1) := by decide +kernel
theorem dL_law_387 : decode cL_law 387 = .ok (.iload_n 3, 1) := by decide +kernel
theorem dL_law_388 : decode cL_law 388 = .ok (.iconst 1, 1) := by decide +kernel
theorem dL_law_389 : decode cL_law 389 = .ok (.iadd, 1) := by decide +kernel
theorem dL_law_390 : decode cL_law 390 = .ok (.iaload, 1) := by decide +kernel
theorem dL_law_391 : decode cL_law 391 = .ok (.aload_n 0, 1) := by decide +kernel
theorem dL_law_392 : decode cL_law 392 = .ok (.iload_n 3, 1) := by decide +kernel
theorem dL_law_393 : decode cL_law 393 = .ok (.iconst 2, 1) := by decide +kernel
theorem dL_law_394 : decode cL_law 394 = .ok (.iadd, 1) := by decide +kernel
theorem dL_law_395 : decode cL_law 395 = .ok (.iaload, 1) := by decide +kernel
theorem dL_law_396 : decode cL_law 396 = .ok (.invokevirtual 65, 3) := by decide +kernel
theorem dL_law_399 : decode cL_law 399 = .ok (.if_icmp .eq 74, 3) := by decide +kernel
theorem dL_law_402 : decode cL_law 402 = .ok (.iconst 0, 1) := by decide +kernel
theorem dL_law_403 : decode cL_law 403 = .ok (.ireturn, 1) := by decide +kernel
theorem dL_law_404 : decode cL_law 404 = .ok (.aload_n 1, 1) := by decide +kernel
theorem dL_law_405 : decode cL_law 405 = .ok (.aload_n 0, 1) := by decide +kernel
theorem dL_law_406 : decode cL_law 406 = .ok (.iload_n 3, 1) := by decide +kernel
theorem dL_law_407 : decode cL_law 407 = .ok (.iconst 1, 1) := by decide +kernel
theorem dL_law_408 : decode cL_law 408 = .ok (.iadd, 1) := by decide +kernel
theorem dL_law_409 : decode cL_law 409 = .ok (.iaload, 1) := by decide +kernel
theorem dL_law_410 : decode cL_law 410 = .ok (.aload_n 0, 1) := by decide +kernel
theorem dL_law_411 : decode cL_law 411 = .ok (.iload_n 3, 1) := by decide +kernel
theorem dL_law_412 : decode cL_law 412 = .ok (.iconst 2, 1) := by decide +kernel
theorem dL_law_413 : decode cL_law 413 = .ok (.iadd, 1) := by decide +kernel
theorem dL_law_414 : decode cL_law 414 = .ok (.iaload, 1) := by decide +kernel
theorem dL_law_415 : decode cL_law 415 = .ok (.invokevirtual 66, 3) := by decide +kernel
theorem dL_law_418 : decode cL_law 418 = .ok (.aload_n 2, 1) := by decide +kernel
theorem dL_law_419 : decode cL_law 419 = .ok (.aload_n 0, 1) := by decide +kernel
theorem dL_law_420 : decode cL_law 420 = .ok (.iload_n 3, 1) := by decide +kernel
theorem dL_law_421 : decode cL_law 421 = .ok (.iconst 1, 1) := by decide +kernel
theorem dL_law_422 : decode cL_law 422 = .ok (.iadd, 1) := by decide +kernel
theorem dL_law_423 : decode cL_law 423 = .ok (.iaload, 1) := by decide +kernel
theorem dL_law_424 : decode cL_law 424 = .ok (.aload_n 0, 1) := by decide +kernel
theorem dL_law_425 : decode cL_law 425 = .ok (.iload_n 3, 1) := by decide +kernel
theorem dL_law_426 : decode cL_law 426 = .ok (.iconst 2, 1) := by decide +kernel
theorem dL_law_427 : decode cL_law 427 = .ok (.iadd, 1) := by decide +kernel
theorem dL_law_428 : decode cL_law 428 = .ok (.iaload, 1) := by decide +kernel
theorem dL_law_429 : decode cL_law 429 = .ok (.invokevirtual 69, 3) := by decide +kernel
theorem dL_law_432 : decode cL_law 432 = .ok (.if_icmp .eq 41, 3) := by decide +kernel
theorem dL_law_435 : decode cL_law 435 = .ok (.iconst 0, 1) := by decide +kernel
theorem dL_law_436 : decode cL_law 436 = .ok (.ireturn, 1) := by decide +kernel
theorem dL_law_437 : decode cL_law 437 = .ok (.aload_n 1, 1) := by decide +kernel
theorem dL_law_438 : decode cL_law 438 = .ok (.aload_n 0, 1) := by decide +kernel
theorem dL_law_439 : decode cL_law 439 = .ok (.iload_n 3, 1) := by decide +kernel
theorem dL_law_440 : decode cL_law 440 = .ok (.iconst 1, 1) := by decide +kernel
theorem dL_law_441 : decode cL_law 441 = .ok (.iadd, 1) := by decide +kernel
theorem dL_law_442 : decode cL_law 442 = .ok (.iaload, 1) := by decide +kernel
theorem dL_law_443 : decode cL_law 443 = .ok (.invokevirtual 70, 3) := by decide +kernel
theorem dL_law_446 : decode cL_law 446 = .ok (.aload_n 2, 1) := by decide +kernel
theorem dL_law_447 : decode cL_law 447 = .ok (.aload_n 0, 1) := by decide +kernel
theorem dL_law_448 : decode cL_law 448 = .ok (.iload_n 3, 1) := by decide +kernel
theorem dL_law_449 : decode cL_law 449 = .ok (.iconst 1, 1) := by decide +kernel
theorem dL_law_450 : decode cL_law 450 = .ok (.iadd, 1) := by decide +kernel
theorem dL_law_451 : decode cL_law 451 = .ok (.iaload, 1) := by decide +kernel
theorem dL_law_452 : decode cL_law 452 = .ok (.invokevirtual 73, 3) := by decide +kernel
theorem dL_law_455 : decode cL_law 455 = .ok (.if_icmp .eq 18, 3) := by decide +kernel
theorem dL_law_458 : decode cL_law 458 = .ok (.iconst 0, 1) := by decide +kernel
theorem dL_law_459 : decode cL_law 459 = .ok (.ireturn, 1) := by decide +kernel
theorem dL_law_460 : decode cL_law 460 = .ok (.aload_n 1, 1) := by decide +kernel
theorem dL_law_461 : decode cL_law 461 = .ok (.invokevirtual 74, 3) := by decide +kernel
theorem dL_law_464 : decode cL_law 464 = .ok (.aload_n 2, 1) := by decide +kernel
theorem dL_law_465 : decode cL_law 465 = .ok (.invokevirtual 77, 3) := by decide +kernel
theorem dL_law_468 : decode cL_law 468 = .ok (.if_icmp .eq 5, 3) := by decide +kernel
theorem dL_law_471 : decode cL_law 471 = .ok (.iconst 0, 1) := by decide +kernel
theorem dL_law_472 : decode cL_law 472 = .ok (.ireturn, 1) := by decide +kernel
theorem dL_law_473 : decode cL_law 473 = .ok (.iinc 3 3, 3) := by decide +kernel
theorem dL_law_476 : decode cL_law 476 = .ok (.goto (-458), 3) := by decide +kernel
theorem dL_law_479 : decode cL_law 479 = .ok (.iconst 1, 1) := by decide +kernel
theorem dL_law_480 : decode cL_law 480 = .ok (.ireturn, 1) := by decide +kernel
abbrev vwCl : List vw_C := [(RX0, TX0, 2), (RX1, TX1, 8), (RX2, TX2, 4)]
end
section
/-! Contracts with a definite answer and a definite world behind the call. vz_M: nothing is changed. vz_MM: the cells of wz become those of wy (same places). -/
def vz_in (wz : va_W) : Addr → Prop := fun q => ∃ (k : Nat) (x : va_E), wz[k]? = some (q, x)
def vz_no : Addr → Prop := fun _ => False
def vz_B (D : va_G) (kA : ClassId) (wz : va_W) (U : State) : Prop := va_P D vwCl wz U.heap ∧ va_K D vwCl [(kA, .int)] U
def vz_Q (v : Option Value) : Array Value → State → Outcome → State → Prop := fun _ st oc t => oc = .returned v ∧ t.heap = st.heap
def vz_M (l : Launch) (y : MethodName) (ws : List Cond) (fr lo : Nat) (av : List Value) (D : va_G) (kA : ClassId) (wz : va_W) (r : Option Value) : Prop := Met l y ws { frames := fr, cells := 0, slots := 0, locals := lo } (va_Pc av (vz_B D kA wz)) (vz_Q r) 0 0 vz_no
def vz_Qm (D : va_G) (wz wy : va_W) (v : Option Value) : Array Value → State → Outcome → State → Prop := fun _ st oc t => (oc = .returned v ∧ va_P D vwCl wy t.heap) ∧ va_F (vz_in wz) st t
def vz_MM (l : Launch) (y : MethodName) (ws : List Cond) (fr lo : Nat) (av : List Value) (D : va_G) (kA : ClassId) (wz : va_W) (r : Option Value) (wy : va_W) : Prop := Met l y ws { frames := fr, cells := 0, slots := 0, locals := lo } (va_Pc av (fun U => vz_B D kA wz U ∧ va_D (fun _ => True) wz)) (vz_Qm D wz wy r) 0 0 (vz_in wz)
abbrev vz_R (fr lo : Nat) : Room := { frames := fr, cells := 0, slots := 0, locals := lo }
theorem vz_B_calling {D : va_G} {kA : ClassId} {wz : va_W} {U : State} {g : JFrame} {mk : MethodId} {a : Array Value} (h : vz_B D kA wz U) : vz_B D kA wz (U.calling g mk a) := ⟨h.1, va_K.moved (u := U) (U := U.calling g mk a) (Vm.Alike.refl U.vm) h.2⟩
/-- the entry of a method that changes nothing -/
theorem vz_start {l : Launch} {y : MethodName} {ws ws' : List Cond} {fr lo : Nat} {av : List Value} {D : va_G} {kA : ClassId} {wz : va_W} {r : Option Value} {cc : ByteArray} {maxL : Nat} {ret : Option FieldType} {own : String}
    (hy : plainName y.cls = true) (hw : ws = Cond.code y cc maxL ret :: ws') (ho : y.cls = own) (hn : (lg_sl av).length ≤ maxL)
    (body : ∀ (p : Program) (e : Env) (s : State) (m : MethodId) (below : List Frame) (meth : Method) (c : Code) (args : Array Value) (Q : State → Prop) (ls : Array Slot), args = av.toArray → p.tables.exec = Jvm.exec → c.code = cc → c.maxLocals = maxL → s.vm.findClass own = some m.cls → (∀ w ∈ ws, w.before args s = true) → meth.sig.returnType = ret → meth.locks = false → va_P D vwCl wz s.heap → va_K D vwCl [(kA, .int)] s → Q = MQ below (vz_Q r) args s 0 0 vz_no → lv_has ls maxL (lv_args 0 av) →
      W p l e (vz_R fr lo) s m args below meth c s.heap [] 0 0 Q (F0 m 0 ls [])) : vz_M l y ws fr lo av D kA wz r := by
  refine Met.ofW (cc := cc) (maxL := maxL) (ret := ret) hy hw ?_
  intro p e s m args below meth c s₁ B hml hv
  obtain ⟨rfl, hP, hK⟩ := hv
  have hts := atoms_spec (ws := ws) B.pre
  have hown : s.vm.findClass own = some m.cls := by rw [← ho]; exact findClass_of_methodNamed B.named
  have hl := lv_entry av (n := maxL) hn
  rw [lg_entry_eq]
  exact body p e s m below meth c _ _ _ rfl B.exec B.bytes hml hown hts B.returns B.notSynchronized hP hK rfl hl
/-- the entry of a method that changes its cells -/
theorem vz_startM {l : Launch} {y : MethodName} {ws ws' : List Cond} {fr lo : Nat} {av : List Value} {D : va_G} {kA : ClassId} {wz wy : va_W} {r : Option Value} {cc : ByteArray} {maxL : Nat} {ret : Option FieldType} {own : String}
    (hy : plainName y.cls = true) (hw : ws = Cond.code y cc maxL ret :: ws') (ho : y.cls = own) (hn : (lg_sl av).length ≤ maxL)
    (body : ∀ (p : Program) (e : Env) (s : State) (m : MethodId) (below : List Frame) (meth : Method) (c : Code) (args : Array Value) (Q : State → Prop) (ls : Array Slot) (H : Heap) (locs : List Loc) (A : Nat → Prop), args = av.toArray → p.tables.exec = Jvm.exec → c.code = cc → c.maxLocals = maxL → s.vm.findClass own = some m.cls → (∀ w ∈ ws, w.before args s = true) → meth.sig.returnType = ret → meth.locks = false → va_P D vwCl wz H → va_K D vwCl [(kA, .int)] s → va_D A wz → va_S A s.heap H locs → A = vz_in wz → Q = MQ below (vz_Qm D wz wy r) args s 0 0 (vz_in wz) → lv_has ls maxL (lv_args 0 av) →
      W p l e (vz_R fr lo) s m args below meth c H locs 0 0 Q (F0 m 0 ls [])) : vz_MM l y ws fr lo av D kA wz r wy := by
  refine Met.ofW (cc := cc) (maxL := maxL) (ret := ret) hy hw ?_
  intro p e s m args below meth c s₁ B hml hv
  obtain ⟨rfl, ⟨hP, hK⟩, hD⟩ := hv
  have hts := atoms_spec (ws := ws) B.pre
  have hown : s.vm.findClass own = some m.cls := by rw [← ho]; exact findClass_of_methodNamed B.named
  have hl := lv_entry av (n := maxL) hn
  rw [lg_entry_eq]
  exact body p e s m below meth c _ _ _ _ _ _ rfl B.exec B.bytes hml hown hts B.returns B.notSynchronized hP hK ⟨hD.1, fun k q hk => ⟨k, q.2, hk⟩⟩ va_S.rf rfl rfl hl
/-- cells put in the places is -/
def vz_set : va_W → List Nat → va_W → va_W
  | w, i :: is, q :: qs => vz_set (w.set i q) is qs
  | w, _, _ => w
theorem vz_set_at : ∀ (is : List Nat) (qs w : va_W) (k : Nat) (x : Nat × va_E), is.length = qs.length → (vz_set w is qs)[k]? = some x → (k ∉ is ∧ w[k]? = some x) ∨ x ∈ qs := by
  intro is
  induction is with
  | nil => intro qs w k x hl h; cases qs with
    | nil => exact Or.inl ⟨List.not_mem_nil, h⟩
    | cons q qs => simp at hl
  | cons i is ih =>
    intro qs w k x hl h
    cases qs with
    | nil => simp at hl
    | cons q qs =>
      rcases ih qs (w.set i q) k x (by simpa using hl) h with ⟨h1, h2⟩ | h1
      · by_cases hk : i = k
        · subst hk
          rw [List.getElem?_set] at h2
          simp only [if_true] at h2
          split at h2
          · exact Or.inr (by cases h2; exact List.mem_cons_self)
          · cases h2
        · rw [List.getElem?_set_ne hk] at h2
          exact Or.inl ⟨fun hm => by rcases List.mem_cons.mp hm with h | h; exact hk h.symm; exact h1 h, h2⟩
      · exact Or.inr (List.mem_cons_of_mem _ h1)
theorem vz_D {A : Nat → Prop} {w w' : va_W} (hD : va_D A w) (h : w'.map Prod.fst = w.map Prod.fst) : va_D A w' := by
  have key : ∀ (k : Nat) (q : Nat × va_E), w'[k]? = some q → ∃ q0, w[k]? = some q0 ∧ q0.1 = q.1 := by
    intro k q hk
    have h1 : (w'.map Prod.fst)[k]? = some q.1 := by rw [List.getElem?_map, hk]; rfl
    rw [h, List.getElem?_map] at h1
    cases h2 : w[k]? with
    | none => rw [h2] at h1; cases h1
    | some q0 => rw [h2] at h1; exact ⟨q0, rfl, Option.some.inj h1⟩
  refine ⟨fun i j p q hi hj hpq => ?_, fun k q hk => ?_⟩
  · obtain ⟨p0, a1, a2⟩ := key i p hi
    obtain ⟨q0, b1, b2⟩ := key j q hj
    exact hD.1 i j p0 q0 a1 b1 (by rw [a2, b2, hpq])
  · obtain ⟨q0, b1, b2⟩ := key k q hk
    rw [← b2]
    exact hD.2 k q0 b1
theorem vz_at {is : List Nat} {wz wc : va_W} (hC : is.map (fun i => wz[i]?) = wc.map some) {k : Nat} {q : Nat × va_E} (hq : wc[k]? = some q) : ∃ i, is[k]? = some i ∧ wz[i]? = some q := by
  have h1 : (is.map (fun i => wz[i]?))[k]? = some (some q) := by rw [hC, List.getElem?_map, hq]; rfl
  rw [List.getElem?_map] at h1
  cases hi : is[k]? with
  | none => rw [hi] at h1; cases h1
  | some i => rw [hi] at h1; exact ⟨i, rfl, Option.some.inj h1⟩
theorem vz_join {A0 : Nat → Prop} {D : va_G} {wz wc wy : va_W} {H H1 : Heap} (hP : va_P D vwCl wz H) (hD : va_D A0 wz) (is : List Nat) (hC : is.map (fun i => wz[i]?) = wc.map some) (hl : is.length = wy.length)
    (hk : ∀ q : Nat, q < H.size → ¬ vz_in wc q → H1[q]? = H[q]?) (hP1 : va_P D vwCl wy H1) : va_P D vwCl (vz_set wz is wy) H1 := by
  intro k q hq
  rcases vz_set_at is wy wz k q hl hq with ⟨h1, h2⟩ | h1
  · have hlt := (hP k q h2).lt
    refine (hP k q h2).kept (hk q.1 hlt ?_)
    rintro ⟨j, x, hx⟩
    obtain ⟨i, g1, g2⟩ := vz_at hC hx
    have hij := hD.1 k i q (q.1, x) h2 g2 rfl
    subst hij
    exact h1 (List.mem_of_getElem? g1)
  · obtain ⟨j, hj⟩ := List.getElem?_of_mem h1
    exact hP1 j q hj
section VZ
variable {p : Program} {l : Launch} {e : Env} {R : Room} {s : State} {m : MethodId} {args : Array Value} {below : List Frame} {meth : Method} {c : Code} {H : Heap} {locs : List Loc} {cells slots : Nat} {Q : State → Prop}
variable {cc : ByteArray} {pc : Nat} {ls : Array Slot} {rest : List Value}
theorem vz_iret {ty : FieldType} {v w : Int32} (hx : p.tables.exec = Jvm.exec) (hb : c.code = cc) (hr : meth.sig.returnType = some ty) (hlocks : meth.locks = false) (hQ : Q = MQ below (vz_Q (some (.int w))) args s 0 0 vz_no) (hn : narrow ty (.int v) = .int v) (hdg : decode cc pc = .ok (.ireturn, 1)) (hv : v = w) : W p l e R s m args below meth c s.heap [] 0 0 Q (F0 m pc ls [.int v]) := by
  subst hQ
  subst hv
  exact W.zret hx hb hr hn (fun t ht _ => ⟨rfl, ht⟩) (fun q h => by cases h) hdg hlocks
theorem vz_aret {rt : FieldType} {v w : Value} (hx : p.tables.exec = Jvm.exec) (hb : c.code = cc) (hr : meth.sig.returnType = some rt) (hlocks : meth.locks = false) (hQ : Q = MQ below (vz_Q (some w)) args s 0 0 vz_no) (hrt : (∃ n, rt = .object n) ∨ ∃ t, rt = .array t) (hvv : v = .null ∨ ∃ a, v = .ref a) (hdg : decode cc pc = .ok (.areturn, 1)) (hv : v = w) : W p l e R s m args below meth c s.heap [] 0 0 Q (F0 m pc ls [v]) := by
  subst hQ
  subst hv
  exact W.aret hx hb hr hrt hvv (fun t ht _ => ⟨rfl, ht⟩) (fun q h => by cases h) hdg hlocks
theorem vz_iretM {D : va_G} {wz wy wf : va_W} {A : Nat → Prop} {ty : FieldType} {v w : Int32} (hx : p.tables.exec = Jvm.exec) (hb : c.code = cc) (hr : meth.sig.returnType = some ty) (hlocks : meth.locks = false) (hQ : Q = MQ below (vz_Qm D wz wy (some (.int w))) args s 0 0 (vz_in wz)) (hA : A = vz_in wz) (hn : narrow ty (.int v) = .int v) (hdg : decode cc pc = .ok (.ireturn, 1)) (hv : v = w) (hS : va_S A s.heap H locs) (hP : va_P D vwCl wf H) (hf : wf = wy) : W p l e R s m args below meth c H locs 0 0 Q (F0 m pc ls [.int v]) := by
  subst hQ
  subst hv
  subst hA
  subst hf
  exact W.zret hx hb hr hn (fun t ht _ => ⟨⟨rfl, by rw [ht]; exact hP⟩, hS.F ht⟩) hS.2.2 hdg hlocks
theorem vz_vretM {D : va_G} {wz wy wf : va_W} {A : Nat → Prop} (hx : p.tables.exec = Jvm.exec) (hb : c.code = cc) (hr : meth.sig.returnType = none) (hlocks : meth.locks = false) (hQ : Q = MQ below (vz_Qm D wz wy none) args s 0 0 (vz_in wz)) (hA : A = vz_in wz) (hdg : decode cc pc = .ok (.return_, 1)) (hS : va_S A s.heap H locs) (hP : va_P D vwCl wf H) (hf : wf = wy) : W p l e R s m args below meth c H locs 0 0 Q (F0 m pc ls []) := by
  subst hQ
  subst hA
  subst hf
  exact W.vret hx hb hr (fun t ht _ => ⟨⟨rfl, by rw [ht]; exact hP⟩, hS.F ht⟩) hS.2.2 hdg hlocks
/-- a call that changes nothing -/
theorem vz_callV {nL n index fr lo maxL : Nat} {Ts ws ws' : List Cond} {own C : String} {y : MethodName} {bytes : ByteArray} {ret : Option FieldType} {D : va_G} {kA : ClassId} {wc : va_W} {v : Value} {b : Addr} {As st : List Value} {q0 ci : Nat} {fs : List Value} {q : vw_C}
    (S : CallFix p m c cc nL s args Ts own) (hM : vz_M l y ws fr lo (.ref b :: As) D kA wc (some v)) (hG : GoodIn Ts (wsV own index C y ws)) (hw : ws = Cond.code y bytes maxL ret :: ws')
    (hd : y.cls = C ∧ y.cls ≠ "java/lang/invoke/MethodHandle" ∧ y.cls ≠ "java/lang/invoke/VarHandle" ∧ (parseMethodDescriptor y.desc).map (fun d => d.parameters.length) = some n) (hR : fr + 1 ≤ R.frames ∧ 8 + (maxL + 11) + lo ≤ R.locals)
    (hK : va_K D vwCl [(kA, .int)] s) (hP : va_P D vwCl wc H) (he : wc[q0]? = some (b, .inr (ci, fs))) (hc : vwCl[ci]? = some q) (hC : q.1 = C) (hn : As.length = n) (hsize : ls.size = nL) (hst : st = As.reverse ++ .ref b :: rest) (hW : (rest.map fun v => v.category).sum ≤ 8)
    (hf : cells ≤ R.cells ∧ slots ≤ R.slots) (hdg : decode cc pc = .ok (.invokevirtual index, 3)) (kk : W p l e R s m args below meth c H locs cells slots Q (F0 m (pc + 3) ls (v :: rest))) : W p l e R s m args below meth c H locs cells slots Q (F0 m pc ls st) := by
  subst hC
  have hr := va_runV (p := p) (l := l) (e := e) (below := below) (meth := meth) (locs := locs) (cells := cells) (slots := slots) (rest := rest) (g := F0 m pc ls st) S hM (cwV n S.2.2.2.2 hG hw rfl rfl hd hR)
    ⟨fun a U g mk h => ⟨h.1, vz_B_calling h.2⟩, va_recv hK hP hc he, fun U hU hW => ⟨rfl, by rw [hU]; exact hP, va_K.moved hW.alike hK⟩⟩ rfl hn hsize hst (lv_room hW) hdg hf
  intro T hT X
  obtain ⟨v', st₀, t, T', L, h0, X', hL, e1, e2, ⟨hv, hh⟩, stp⟩ := hr T hT X
  have hLn : L = [] := List.eq_nil_iff_forall_not_mem.mpr (fun q hq => hL q hq)
  subst hLn
  cases hv
  rw [List.append_nil] at X'
  obtain ⟨t2, a1, b1⟩ := kk T' (by rw [e1, hh, h0]) X'
  exact ⟨t2, stp t2 a1, b1⟩
theorem vz_callS {nL n index fr lo maxL : Nat} {Ts ws ws' : List Cond} {own : String} {y : MethodName} {bytes : ByteArray} {ret : Option FieldType} {D : va_G} {kA : ClassId} {wc : va_W} {v : Value} {As st : List Value}
    (S : CallFix p m c cc nL s args Ts own) (hM : vz_M l y ws fr lo As D kA wc (some v)) (hG : GoodIn Ts (va_wsS own index y ws)) (hw : ws = Cond.code y bytes maxL ret :: ws')
    (hd : y.cls ≠ "java/lang/invoke/MethodHandle" ∧ y.cls ≠ "java/lang/invoke/VarHandle" ∧ (parseMethodDescriptor y.desc).map (fun d => d.parameters.length) = some n) (hR : fr + 1 ≤ R.frames ∧ 8 + (maxL + 11) + lo ≤ R.locals)
    (hK : va_K D vwCl [(kA, .int)] s) (hP : va_P D vwCl wc H) (hn : As.length = n) (hsize : ls.size = nL) (hst : st = As.reverse ++ rest) (hW : (rest.map fun v => v.category).sum ≤ 8)
    (hf : cells ≤ R.cells ∧ slots ≤ R.slots) (hdg : decode cc pc = .ok (.invokestatic index, 3)) (kk : W p l e R s m args below meth c H locs cells slots Q (F0 m (pc + 3) ls (v :: rest))) : W p l e R s m args below meth c H locs cells slots Q (F0 m pc ls st) := by
  have hr := va_runS (p := p) (l := l) (e := e) (below := below) (meth := meth) (locs := locs) (cells := cells) (slots := slots) (rest := rest) (g := F0 m pc ls st) S hM (va_cwS n S.2.2.2.2 hG hw rfl rfl hd hR)
    ⟨fun a U g mk h => ⟨h.1, vz_B_calling h.2⟩, fun U hU hW => ⟨rfl, by rw [hU]; exact hP, va_K.moved hW.alike hK⟩⟩ rfl hn hsize hst (lv_room hW) hdg hf
  intro T hT X
  obtain ⟨v', st₀, t, T', L, h0, X', hL, e1, e2, ⟨hv, hh⟩, stp⟩ := hr T hT X
  have hLn : L = [] := List.eq_nil_iff_forall_not_mem.mpr (fun q hq => hL q hq)
  subst hLn
  cases hv
  rw [List.append_nil] at X'
  obtain ⟨t2, a1, b1⟩ := kk T' (by rw [e1, hh, h0]) X'
  exact ⟨t2, stp t2 a1, b1⟩
/-- a call that changes the cells in the places is -/
theorem vz_callM {nL n index fr lo maxL : Nat} {Ts ws ws' : List Cond} {own C : String} {y : MethodName} {bytes : ByteArray} {ret : Option FieldType} {D : va_G} {kA : ClassId} {wz wc wy : va_W} {v : Option Value} {b : Addr} {As st : List Value} {q0 ci : Nat} {fs : List Value} {q : vw_C} {A0 : Nat → Prop} {H0 : Heap}
    (S : CallFix p m c cc nL s args Ts own) (hM : vz_MM l y ws fr lo (.ref b :: As) D kA wc v wy) (hG : GoodIn Ts (wsV own index C y ws)) (hw : ws = Cond.code y bytes maxL ret :: ws')
    (hd : y.cls = C ∧ y.cls ≠ "java/lang/invoke/MethodHandle" ∧ y.cls ≠ "java/lang/invoke/VarHandle" ∧ (parseMethodDescriptor y.desc).map (fun d => d.parameters.length) = some n) (hR : fr + 1 ≤ R.frames ∧ 8 + (maxL + 11) + lo ≤ R.locals)
    (hK : va_K D vwCl [(kA, .int)] s) (hP : va_P D vwCl wz H) (hD : va_D A0 wz) (hS : va_S A0 H0 H locs) (is : List Nat) (hnd : va_nd is = true) (hC0 : is.map (fun i => wz[i]?) = wc.map some) (hfst : wy.map Prod.fst = wc.map Prod.fst) (hfst2 : (vz_set wz is wy).map Prod.fst = wz.map Prod.fst)
    (he : wc[q0]? = some (b, .inr (ci, fs))) (hc : vwCl[ci]? = some q) (hC : q.1 = C) (hn : As.length = n) (hsize : ls.size = nL) (hst : st = As.reverse ++ .ref b :: rest) (hW : (rest.map fun v => v.category).sum ≤ 8)
    (hf : cells ≤ R.cells ∧ slots ≤ R.slots) (hdg : decode cc pc = .ok (.invokevirtual index, 3)) (kk : ∀ (H1 : Heap) (locs1 : List Loc), va_P D vwCl (vz_set wz is wy) H1 → va_D A0 (vz_set wz is wy) → va_S A0 H0 H1 locs1 → W p l e R s m args below meth c H1 locs1 cells slots Q (F0 m (pc + 3) ls (v.toList ++ rest))) : W p l e R s m args below meth c H locs cells slots Q (F0 m pc ls st) := by
  subst hC
  have hPc : va_P D vwCl wc H := fun k q hk => by
    obtain ⟨i, -, h2⟩ := vz_at hC0 hk
    exact hP i q h2
  have hDc := hD.sub is hnd hC0
  have hin : ∀ q, vz_in wc q → A0 q := by
    rintro q ⟨k, x, hk⟩
    obtain ⟨i, -, h2⟩ := vz_at hC0 hk
    exact hD.2 i _ h2
  have hlen : is.length = wy.length := by
    have h1 := congrArg List.length hC0
    have h2 := congrArg List.length hfst
    simp only [List.length_map] at h1 h2
    omega
  have hr := va_runV (p := p) (l := l) (e := e) (below := below) (meth := meth) (locs := locs) (cells := cells) (slots := slots) (rest := rest) (g := F0 m pc ls st) S hM (cwV n S.2.2.2.2 hG hw rfl rfl hd hR)
    ⟨fun a U g mk h => ⟨h.1, vz_B_calling h.2.1, h.2.2⟩, va_recv hK hPc hc he, fun U hU hW => ⟨rfl, ⟨by rw [hU]; exact hPc, va_K.moved hW.alike hK⟩, hDc.weaken (fun _ _ _ _ => trivial)⟩⟩ rfl hn hsize hst (lv_room hW) hdg hf
  intro T hT X
  obtain ⟨v', st₀, t, T', L, h0, X', hL, e1, e2, ⟨⟨hv, hP1⟩, hz, hk⟩, stp⟩ := hr T hT X
  cases hv
  rw [h0] at hz hk
  obtain ⟨t2, a1, b1⟩ := kk T'.heap (locs ++ L) (by rw [e1]; exact vz_join hP hD is hC0 hlen hk hP1) (vz_D hD hfst2)
    ⟨Nat.le_trans hS.1 (by rw [e1]; exact hz), fun q h1 h2 => by rw [e1, hk q (Nat.lt_of_lt_of_le h1 hS.1) (fun z => h2 (hin q z))]; exact hS.2.1 q h1 h2, fun q hq => by
      rcases List.mem_append.mp hq with h | h
      · exact hS.2.2 q h
      · exact hin _ (hL q h)⟩ T' rfl X'
  exact ⟨t2, stp t2 a1, b1⟩
-- the top of the stack, said otherwise
theorem vz_top {x y : Int32} (h : x = y) (k : W p l e R s m args below meth c H locs cells slots Q (F0 m pc ls (.int y :: rest))) : W p l e R s m args below meth c H locs cells slots Q (F0 m pc ls (.int x :: rest)) := by rw [h]; exact k
-- numbers
theorem vz_add {a b : Nat} (hx : p.tables.exec = Jvm.exec) (hb : c.code = cc) (hdg : decode cc pc = .ok (.iadd, 1)) (k : W p l e R s m args below meth c H locs cells slots Q (F0 m (pc + 1) ls (.int (nI (a + b)) :: rest))) : W p l e R s m args below meth c H locs cells slots Q (F0 m pc ls (.int (nI b) :: .int (nI a) :: rest)) := lv_iadd hx hb hdg (by rw [nI_add]; exact k)
theorem vz_sub {a b : Nat} (hx : p.tables.exec = Jvm.exec) (hb : c.code = cc) (hdg : decode cc pc = .ok (.isub, 1)) (h : b ≤ a) (k : W p l e R s m args below meth c H locs cells slots Q (F0 m (pc + 1) ls (.int (nI (a - b)) :: rest))) : W p l e R s m args below meth c H locs cells slots Q (F0 m pc ls (.int (nI b) :: .int (nI a) :: rest)) := lv_isub hx hb hdg (by rw [pk_sub h]; exact k)
theorem vz_mul {a b : Nat} (hx : p.tables.exec = Jvm.exec) (hb : c.code = cc) (hdg : decode cc pc = .ok (.imul, 1)) (k : W p l e R s m args below meth c H locs cells slots Q (F0 m (pc + 1) ls (.int (nI (a * b)) :: rest))) : W p l e R s m args below meth c H locs cells slots Q (F0 m pc ls (.int (nI b) :: .int (nI a) :: rest)) := lv_imul hx hb hdg (by rw [pk_mul]; exact k)
theorem vz_cge {a b tgt : Nat} {off : Int} (hx : p.tables.exec = Jvm.exec) (hb : c.code = cc) (hdg : decode cc pc = .ok (.if_icmp .ge off, 3)) (ht : (pc : Int) + off = (tgt : Int)) (ha : a < 2 ^ 31) (hbb : b < 2 ^ 31) (kt : b ≤ a → W p l e R s m args below meth c H locs cells slots Q (F0 m tgt ls rest)) (kf : a < b → W p l e R s m args below meth c H locs cells slots Q (F0 m (pc + 3) ls rest)) : W p l e R s m args below meth c H locs cells slots Q (F0 m pc ls (.int (nI b) :: .int (nI a) :: rest)) :=
  lv_icmp_ge hx hb hdg ht (fun h => kt ((nI_leI hbb ha).mp h)) (fun h => kf (Nat.lt_of_not_le (fun q => h ((nI_leI hbb ha).mpr q))))
theorem vz_clt {a b tgt : Nat} {off : Int} (hx : p.tables.exec = Jvm.exec) (hb : c.code = cc) (hdg : decode cc pc = .ok (.if_icmp .lt off, 3)) (ht : (pc : Int) + off = (tgt : Int)) (ha : a < 2 ^ 31) (hbb : b < 2 ^ 31) (kt : a < b → W p l e R s m args below meth c H locs cells slots Q (F0 m tgt ls rest)) (kf : b ≤ a → W p l e R s m args below meth c H locs cells slots Q (F0 m (pc + 3) ls rest)) : W p l e R s m args below meth c H locs cells slots Q (F0 m pc ls (.int (nI b) :: .int (nI a) :: rest)) :=
  lv_icmp_lt hx hb hdg ht (fun h => kt ((nI_ltI ha hbb).mp h)) (fun h => kf (Nat.le_of_not_lt (fun q => h ((nI_ltI ha hbb).mpr q))))
theorem vz_cgt {a b tgt : Nat} {off : Int} (hx : p.tables.exec = Jvm.exec) (hb : c.code = cc) (hdg : decode cc pc = .ok (.if_icmp .gt off, 3)) (ht : (pc : Int) + off = (tgt : Int)) (ha : a < 2 ^ 31) (hbb : b < 2 ^ 31) (kt : b < a → W p l e R s m args below meth c H locs cells slots Q (F0 m tgt ls rest)) (kf : a ≤ b → W p l e R s m args below meth c H locs cells slots Q (F0 m (pc + 3) ls rest)) : W p l e R s m args below meth c H locs cells slots Q (F0 m pc ls (.int (nI b) :: .int (nI a) :: rest)) :=
  lv_icmp_gt hx hb hdg ht (fun h => kt ((nI_ltI hbb ha).mp h)) (fun h => kf (Nat.le_of_not_lt (fun q => h ((nI_ltI hbb ha).mpr q))))
theorem vz_cle {a b tgt : Nat} {off : Int} (hx : p.tables.exec = Jvm.exec) (hb : c.code = cc) (hdg : decode cc pc = .ok (.if_icmp .le off, 3)) (ht : (pc : Int) + off = (tgt : Int)) (ha : a < 2 ^ 31) (hbb : b < 2 ^ 31) (kt : a ≤ b → W p l e R s m args below meth c H locs cells slots Q (F0 m tgt ls rest)) (kf : b < a → W p l e R s m args below meth c H locs cells slots Q (F0 m (pc + 3) ls rest)) : W p l e R s m args below meth c H locs cells slots Q (F0 m pc ls (.int (nI b) :: .int (nI a) :: rest)) :=
  lv_icmp_le hx hb hdg ht (fun h => kt ((nI_leI ha hbb).mp h)) (fun h => kf (Nat.lt_of_not_le (fun q => h ((nI_leI ha hbb).mpr q))))
theorem vz_ceq {a b tgt : Nat} {off : Int} (hx : p.tables.exec = Jvm.exec) (hb : c.code = cc) (hdg : decode cc pc = .ok (.if_icmp .eq off, 3)) (ht : (pc : Int) + off = (tgt : Int)) (ha : a < 2 ^ 31) (hbb : b < 2 ^ 31) (kt : a = b → W p l e R s m args below meth c H locs cells slots Q (F0 m tgt ls rest)) (kf : a ≠ b → W p l e R s m args below meth c H locs cells slots Q (F0 m (pc + 3) ls rest)) : W p l e R s m args below meth c H locs cells slots Q (F0 m pc ls (.int (nI b) :: .int (nI a) :: rest)) :=
  lv_icmp_eq hx hb hdg ht (fun h => kt ((nI_eq ha hbb).mp h)) (fun h => kf (fun q => h ((nI_eq ha hbb).mpr q)))
theorem vz_cne {a b tgt : Nat} {off : Int} (hx : p.tables.exec = Jvm.exec) (hb : c.code = cc) (hdg : decode cc pc = .ok (.if_icmp .ne off, 3)) (ht : (pc : Int) + off = (tgt : Int)) (ha : a < 2 ^ 31) (hbb : b < 2 ^ 31) (kt : a ≠ b → W p l e R s m args below meth c H locs cells slots Q (F0 m tgt ls rest)) (kf : a = b → W p l e R s m args below meth c H locs cells slots Q (F0 m (pc + 3) ls rest)) : W p l e R s m args below meth c H locs cells slots Q (F0 m pc ls (.int (nI b) :: .int (nI a) :: rest)) :=
  lv_icmp_ne hx hb hdg ht (fun h => kt (fun q => h ((nI_eq ha hbb).mpr q))) (fun h => kf ((nI_eq ha hbb).mp h))
end VZ
/-- a boolean, as the machine has it -/
def vz_b (b : Bool) : Int32 := if b = true then 1 else 0
theorem vz_b_t : vz_b true = 1 := rfl
theorem vz_b_f : vz_b false = 0 := rfl
theorem vz_b_0 {b : Bool} : vz_b b = 0 ↔ b = false := by cases b <;> decide
theorem vz_b_1 {b : Bool} : vz_b b = 1 ↔ b = true := by cases b <;> decide
theorem vz_b_eq {b d : Bool} : vz_b b = vz_b d ↔ b = d := by cases b <;> cases d <;> decide
theorem vz_nb (b : Bool) : narrow .boolean (.int (vz_b b)) = .int (vz_b b) := by cases b <;> rfl
section VZ2
variable {p : Program} {l : Launch} {e : Env} {R : Room} {s : State} {m : MethodId} {args : Array Value} {below : List Frame} {meth : Method} {c : Code} {H : Heap} {locs : List Loc} {cells slots : Nat} {Q : State → Prop}
variable {cc : ByteArray} {pc : Nat} {ls : Array Slot} {rest : List Value}
theorem vz_ifeqB {b : Bool} {off : Int} {tgt : Nat} (hx : p.tables.exec = Jvm.exec) (hb : c.code = cc) (hdg : decode cc pc = .ok (.ifCond .eq off, 3)) (ht : (pc : Int) + off = (tgt : Int)) (kt : b = false → W p l e R s m args below meth c H locs cells slots Q (F0 m tgt ls rest)) (kf : b = true → W p l e R s m args below meth c H locs cells slots Q (F0 m (pc + 3) ls rest)) : W p l e R s m args below meth c H locs cells slots Q (F0 m pc ls (.int (vz_b b) :: rest)) :=
  lv_if_eq hx hb hdg ht (fun h => kt (vz_b_0.mp h)) (fun h => kf (by cases b; exact absurd rfl h; rfl))
theorem vz_ifneB {b : Bool} {off : Int} {tgt : Nat} (hx : p.tables.exec = Jvm.exec) (hb : c.code = cc) (hdg : decode cc pc = .ok (.ifCond .ne off, 3)) (ht : (pc : Int) + off = (tgt : Int)) (kt : b = true → W p l e R s m args below meth c H locs cells slots Q (F0 m tgt ls rest)) (kf : b = false → W p l e R s m args below meth c H locs cells slots Q (F0 m (pc + 3) ls rest)) : W p l e R s m args below meth c H locs cells slots Q (F0 m pc ls (.int (vz_b b) :: rest)) :=
  lv_if_ne hx hb hdg ht (fun h => kt (by cases b; exact absurd rfl h; rfl)) (fun h => kf (vz_b_0.mp h))
theorem vz_ald {D : va_G} {wz : va_W} {kA : ClassId} {a : Addr} (hx : p.tables.exec = Jvm.exec) (hb : c.code = cc) (hK : va_K D vwCl [(kA, .int)] s) (hP : va_P D vwCl wz H) (q0 : Nat) {n : Nat} {f : Nat → Int32} (ha : wz[q0]? = some (a, .inl (kA, n, .inl f))) {k : Nat} (hk : k < n) (hn : n < 2 ^ 31) (hdg : decode cc pc = .ok (.iaload, 1)) (kk : W p l e R s m args below meth c H locs cells slots Q (F0 m (pc + 1) ls (.int (f k) :: rest))) : W p l e R s m args below meth c H locs cells slots Q (F0 m pc ls (.int (nI k) :: .ref a :: rest)) :=
  va_iald hx hb hK hP q0 0 ha rfl (vp_in_nI hk hn) hdg (by rw [nI_clamp (Nat.lt_trans hk hn)]; exact kk)
theorem vz_ast {D : va_G} {wz : va_W} {kA : ClassId} {a : Addr} {A : Nat → Prop} {H0 : Heap} (hx : p.tables.exec = Jvm.exec) (hb : c.code = cc) (hK : va_K D vwCl [(kA, .int)] s) (hP : va_P D vwCl wz H) (hD : va_D A wz) (hS : va_S A H0 H locs) (q0 : Nat) {n : Nat} {f : Nat → Int32} (ha : wz[q0]? = some (a, .inl (kA, n, .inl f))) {k : Nat} {x : Int32} (hk : k < n) (hn : n < 2 ^ 31) (hdg : decode cc pc = .ok (.iastore, 1)) (kk : ∀ (H1 : Heap) (locs1 : List Loc), va_P D vwCl (wz.set q0 (a, .inl (kA, n, .inl (upd f k x)))) H1 → va_D A (wz.set q0 (a, .inl (kA, n, .inl (upd f k x)))) → va_S A H0 H1 locs1 → W p l e R s m args below meth c H1 locs1 cells slots Q (F0 m (pc + 1) ls rest)) : W p l e R s m args below meth c H locs cells slots Q (F0 m pc ls (.int x :: .int (nI k) :: .ref a :: rest)) :=
  va_iast hx hb hK hP hD hS q0 0 ha rfl (vp_in_nI hk hn) hdg (by rw [nI_clamp (Nat.lt_trans hk hn)]; exact kk)
end VZ2
end
section
/-! What the methods compute, as functions of the cells' contents. -/
def zN (n : Nat) : Nat := 2 ^ n
theorem zN_le {n : Nat} (h : n ≤ 8) : zN n ≤ 256 := Nat.pow_le_pow_right (by omega) h
theorem zN_pos (n : Nat) : 0 < zN n := Nat.pow_pos (by omega)
theorem zN_sh : ∀ n, n ≤ 8 → nI 1 <<< (nI n &&& 31) = nI (zN n) := by
  intro n h
  rcases (show n = 0 ∨ n = 1 ∨ n = 2 ∨ n = 3 ∨ n = 4 ∨ n = 5 ∨ n = 6 ∨ n = 7 ∨ n = 8 by omega) with rfl | rfl | rfl | rfl | rfl | rfl | rfl | rfl | rfl <;> decide
theorem zN4_sh : ∀ n, n ≤ 8 → nI 1 <<< (nI (2 * n) &&& 31) = nI (4 ^ n) := by
  intro n h
  rcases (show n = 0 ∨ n = 1 ∨ n = 2 ∨ n = 3 ∨ n = 4 ∨ n = 5 ∨ n = 6 ∨ n = 7 ∨ n = 8 by omega) with rfl | rfl | rfl | rfl | rfl | rfl | rfl | rfl | rfl <;> decide
theorem zN4_le {n : Nat} (h : n ≤ 8) : 4 ^ n ≤ 65536 := Nat.pow_le_pow_right (n := 4) (by omega) h
/-- some j below n has P -/
def exB : Nat → (Nat → Bool) → Bool
  | 0, _ => false
  | n + 1, P => exB n P || P n
theorem exB_t {n i : Nat} {P : Nat → Bool} (hi : i < n) (h : P i = true) : exB n P = true := by
  induction n with
  | zero => omega
  | succ n ih =>
    by_cases hn : i = n
    · subst hn; simp [exB, h]
    · simp [exB, ih (by omega)]
theorem exB_f {n : Nat} {P : Nat → Bool} (h : ∀ j, j < n → P j = false) : exB n P = false := by
  induction n with
  | zero => rfl
  | succ n ih => simp [exB, ih (fun j hj => h j (by omega)), h n (by omega)]
theorem exB_iff {n : Nat} {P : Nat → Bool} : exB n P = true ↔ ∃ i, i < n ∧ P i = true := by
  constructor
  · intro h
    induction n with
    | zero => cases h
    | succ n ih =>
      simp only [exB, Bool.or_eq_true] at h
      rcases h with h | h
      · obtain ⟨i, h1, h2⟩ := ih h; exact ⟨i, by omega, h2⟩
      · exact ⟨n, by omega, h⟩
  · rintro ⟨i, h1, h2⟩; exact exB_t h1 h2
theorem exB_congr {n : Nat} {P Q : Nat → Bool} (h : ∀ j, j < n → P j = Q j) : exB n P = exB n Q := by
  induction n with
  | zero => rfl
  | succ n ih => simp [exB, ih (fun j hj => h j (by omega)), h n (by omega)]
theorem lt_sB {i : Nat} {P : Nat → Bool} (h : ∀ j, j < i → P j = false) (hi : P i = false) : ∀ j, j < i + 1 → P j = false := fun j hj => by
  by_cases e : j = i
  · rw [e]; exact hi
  · exact h j (by omega)
theorem lt_0B {P : Nat → Bool} : ∀ j, j < 0 → P j = false := fun j h => absurd h (Nat.not_lt_zero _)
/-- how many j below n have P -/
def cnB : Nat → (Nat → Bool) → Nat
  | 0, _ => 0
  | n + 1, P => cnB n P + (if P n = true then 1 else 0)
theorem cnB_le (n : Nat) (P : Nat → Bool) : cnB n P ≤ n := by
  induction n with
  | zero => exact Nat.le_refl _
  | succ n ih => simp only [cnB]; split <;> omega
theorem cnB_congr {n : Nat} {P Q : Nat → Bool} (h : ∀ j, j < n → P j = Q j) : cnB n P = cnB n Q := by
  induction n with
  | zero => rfl
  | succ n ih => simp [cnB, ih (fun j hj => h j (by omega)), h n (by omega)]
def smN : Nat → (Nat → Nat) → Nat
  | 0, _ => 0
  | n + 1, F => smN n F + F n
theorem smN_le {n b : Nat} {F : Nat → Nat} (h : ∀ j, F j ≤ b) : smN n F ≤ n * b := by
  induction n with
  | zero => simp [smN]
  | succ n ih => simp only [smN, Nat.succ_mul]; have := h n; omega
theorem smN_congr {n : Nat} {F G : Nat → Nat} (h : ∀ j, j < n → F j = G j) : smN n F = smN n G := by
  induction n with
  | zero => rfl
  | succ n ih => simp [smN, ih (fun j hj => h j (by omega)), h n (by omega)]
/-- the or of F j over those j below n that have C -/
def orI : Nat → (Nat → Bool) → (Nat → Int32) → Int32
  | 0, _, _ => 0
  | n + 1, C, F => if C n = true then orI n C F ||| F n else orI n C F
theorem orI_congr {n : Nat} {C E : Nat → Bool} {F G : Nat → Int32} (h : ∀ j, j < n → C j = E j) (hf : ∀ j, j < n → C j = true → F j = G j) : orI n C F = orI n E G := by
  induction n with
  | zero => rfl
  | succ n ih =>
    have e := ih (fun j hj => h j (by omega)) (fun j hj hc => hf j (by omega) hc)
    simp only [orI, e, ← h n (by omega)]
    split
    · rename_i hc; rw [hf n (by omega) hc]
    · rfl
-- cubes and points, the class
def zX_in (fp : Nat → Int32) (c : Int32) (p : Nat) : Bool := decide (fp p &&& (c ^^^ -1) = 0)
def zX_inL (fp : Nat → Int32) (c : Nat) (f : Nat → Int32) (p : Nat) : Bool := exB c (fun k => zX_in fp (f k) p)
def zfr (c : Int32) (i : Nat) : Int32 := c ||| nI 3 <<< (nI (2 * i) &&& 31)
def zvoid (n : Nat) (c : Int32) : Bool := exB n (fun i => decide (c >>> (nI (2 * i) &&& 31) &&& nI 3 = 0))
def ztch (n : Nat) (fk : Nat → Int32) (In : Int32 → Nat → Bool) (c : Int32) : Bool := exB (zN n) (fun p => decide (fk p = 0) && In c p)
def zcg (n : Nat) (T : Int32 → Bool) (c : Int32) : Bool := exB n (fun i => !decide (zfr c i = c) && !T (zfr c i))
def zord (n : Nat) (asc : Bool) (k : Nat) : Nat := if asc = true then k else n - 1 - k
def zwd (n : Nat) (T : Int32 → Bool) (asc : Bool) : Nat → Int32 → Int32
  | 0, c => c
  | k + 1, c => if (!decide (zfr (zwd n T asc k c) (zord n asc k) = zwd n T asc k c) && !T (zfr (zwd n T asc k c) (zord n asc k))) = true then zfr (zwd n T asc k c) (zord n asc k) else zwd n T asc k c
def zlit (n : Nat) (c : Int32) : Nat := cnB n (fun i => !decide (zfr c i = c))
def zlits (n c : Nat) (f : Nat → Int32) : Nat := smN c (fun k => zlit n (f k))
theorem zlits_le {n c : Nat} {f : Nat → Int32} (hn : n ≤ 8) (hc : c ≤ 24) : zlits n c f ≤ 192 := Nat.le_trans (smN_le (b := 8) (fun j => Nat.le_trans (cnB_le _ _) hn)) (by omega)
/-- what at(k) answers of a list -/
def zat (c : Nat) (f : Nat → Int32) (k : Int32) : Int32 := if k < 0 then -1 else if nI c ≤ k then -1 else f k.toNatClampNeg
theorem zat_nI {c : Nat} {f : Nat → Int32} {k : Nat} (hk : k < c) (hc : c ≤ 24) : zat c f (nI k) = f k := by
  have h1 : ¬ nI k < 0 := nI_pos (by omega)
  have h2 : ¬ nI c ≤ nI k := nI_ge hk (by omega)
  simp only [zat, h1, h2, if_false]
  rw [nI_clamp (by omega)]
/-- the places below i that have C become v -/
def zmk (i : Nat) (C : Nat → Bool) (v : Int32) (f : Nat → Int32) : Nat → Int32 := fun q => if (decide (q < i) && C q) = true then v else f q
theorem zmk_0 {C : Nat → Bool} {v : Int32} {f : Nat → Int32} : zmk 0 C v f = f := by funext q; simp [zmk]
theorem zmk_t {i : Nat} {C : Nat → Bool} {v : Int32} {f : Nat → Int32} (h : C i = true) : upd (zmk i C v f) i v = zmk (i + 1) C v f := by
  funext q
  by_cases e : q = i
  · subst e; simp [zmk, upd, h]
  · have : decide (q < i + 1) = decide (q < i) := by simp; omega
    simp [zmk, upd, e, this]
theorem zmk_f {i : Nat} {C : Nat → Bool} {v : Int32} {f : Nat → Int32} (h : C i = false) : zmk i C v f = zmk (i + 1) C v f := by
  funext q
  by_cases e : q = i
  · subst e; simp [zmk, h]
  · have : decide (q < i + 1) = decide (q < i) := by simp; omega
    simp [zmk, this]
theorem zmk_at {i : Nat} {C : Nat → Bool} {v : Int32} {f : Nat → Int32} : zmk i C v f i = f i := by simp [zmk]
/-- the places below i that have C grow by v -/
def zad (i : Nat) (C : Nat → Bool) (v : Int32) (f : Nat → Int32) : Nat → Int32 := fun q => if (decide (q < i) && C q) = true then f q + v else f q
theorem zad_0 {C : Nat → Bool} {v : Int32} {f : Nat → Int32} : zad 0 C v f = f := by funext q; simp [zad]
theorem zad_at {i : Nat} {C : Nat → Bool} {v : Int32} {f : Nat → Int32} : zad i C v f i = f i := by simp [zad]
theorem zad_t {i : Nat} {C : Nat → Bool} {v : Int32} {f : Nat → Int32} (h : C i = true) : upd (zad i C v f) i (zad i C v f i + v) = zad (i + 1) C v f := by
  funext q
  by_cases e : q = i
  · subst e; simp [zad, upd, h]
  · have : decide (q < i + 1) = decide (q < i) := by simp; omega
    simp [zad, upd, e, this]
theorem zad_f {i : Nat} {C : Nat → Bool} {v : Int32} {f : Nat → Int32} (h : C i = false) : zad i C v f = zad (i + 1) C v f := by
  funext q
  by_cases e : q = i
  · subst e; simp [zad, h]
  · have : decide (q < i + 1) = decide (q < i) := by simp; omega
    simp [zad, this]
/-- place j is taken out of c places: those behind it move up, as far as place m -/
def zsh (f : Nat → Int32) (j m : Nat) : Nat → Int32 := fun q => if j ≤ q ∧ q + 1 < m then f (q + 1) else f q
theorem zsh_0 {f : Nat → Int32} {j : Nat} : zsh f j (j + 1) = f := by
  funext q
  simp only [zsh]
  rw [if_neg (by omega)]
theorem zsh_s {f : Nat → Int32} {j m : Nat} (h : j < m) : upd (zsh f j m) (m - 1) (zsh f j m m) = zsh f j (m + 1) := by
  funext q
  by_cases e : q = m - 1
  · subst e
    simp only [upd, zsh, if_true]
    rw [if_neg (by omega : ¬ (j ≤ m ∧ m + 1 < m)), if_pos (by omega)]
    congr 1; omega
  · simp only [upd, zsh, if_neg e]
    by_cases h1 : j ≤ q ∧ q + 1 < m
    · rw [if_pos h1, if_pos (by omega)]
    · rw [if_neg h1, if_neg (by omega)]
/-- the first i places of g, the rest of f -/
def zcp (i : Nat) (g f : Nat → Int32) : Nat → Int32 := fun q => if q < i then g q else f q
theorem zcp_0 {g f : Nat → Int32} : zcp 0 g f = f := by funext q; simp [zcp]
theorem zcp_s {i : Nat} {g f : Nat → Int32} : upd (zcp i g f) i (g i) = zcp (i + 1) g f := by
  funext q
  by_cases e : q = i
  · subst e; simp [zcp, upd]
  · have : (q < i + 1) = (q < i) := propext (by omega)
    simp [zcp, upd, e, this]
theorem zcp_at {i : Nat} {g f : Nat → Int32} : zcp i g f i = f i := by simp [zcp]
/-- a counter that falls: its value and its number -/
theorem zdn (j : Nat) : (j = 0 ∧ nI j + -1 = -1) ∨ (1 ≤ j ∧ nI j + -1 = nI (j - 1)) := by
  cases j with
  | zero => left; exact ⟨rfl, by decide⟩
  | succ j => right; exact ⟨by omega, by rw [pk_m1]; rfl⟩
theorem zdn0 (j : Nat) : (j = 0 ∧ nI j - nI 1 = -1) ∨ (1 ≤ j ∧ nI j - nI 1 = nI (j - 1)) := by
  cases j with
  | zero => left; exact ⟨rfl, by decide⟩
  | succ j => right; exact ⟨by omega, by rw [pk_sub (by omega)]⟩
theorem zdn_neg {j : Nat} {kv : Int32} (h : (j = 0 ∧ kv = -1) ∨ (1 ≤ j ∧ kv = nI (j - 1))) (hj : j ≤ 24) (hk : kv < 0) : j = 0 := by
  rcases h with h | ⟨h1, h2⟩
  · exact h.1
  · subst h2; exact absurd hk (nI_pos (by omega))
theorem zdn_pos {j : Nat} {kv : Int32} (h : (j = 0 ∧ kv = -1) ∨ (1 ≤ j ∧ kv = nI (j - 1))) (hk : ¬ kv < 0) : ∃ i, j = i + 1 ∧ kv = nI i := by
  rcases h with ⟨h1, h2⟩ | ⟨h1, h2⟩
  · subst h2; exact absurd (by decide) hk
  · exact ⟨j - 1, by omega, h2⟩
end
section
theorem hd_X0_length : yX0_length.cls = RX0 ∧ yX0_length.cls ≠ "java/lang/invoke/MethodHandle" ∧ yX0_length.cls ≠ "java/lang/invoke/VarHandle" ∧ (parseMethodDescriptor yX0_length.desc).map (fun d => d.parameters.length) = some 0 := by decide +kernel
theorem hd_X0_clear : yX0_clear.cls = RX0 ∧ yX0_clear.cls ≠ "java/lang/invoke/MethodHandle" ∧ yX0_clear.cls ≠ "java/lang/invoke/VarHandle" ∧ (parseMethodDescriptor yX0_clear.desc).map (fun d => d.parameters.length) = some 0 := by decide +kernel
theorem hd_X0_at : yX0_at.cls = RX0 ∧ yX0_at.cls ≠ "java/lang/invoke/MethodHandle" ∧ yX0_at.cls ≠ "java/lang/invoke/VarHandle" ∧ (parseMethodDescriptor yX0_at.desc).map (fun d => d.parameters.length) = some 1 := by decide +kernel
theorem hd_X0_append : yX0_append.cls = RX0 ∧ yX0_append.cls ≠ "java/lang/invoke/MethodHandle" ∧ yX0_append.cls ≠ "java/lang/invoke/VarHandle" ∧ (parseMethodDescriptor yX0_append.desc).map (fun d => d.parameters.length) = some 1 := by decide +kernel
theorem hd_X0_put : yX0_put.cls = RX0 ∧ yX0_put.cls ≠ "java/lang/invoke/MethodHandle" ∧ yX0_put.cls ≠ "java/lang/invoke/VarHandle" ∧ (parseMethodDescriptor yX0_put.desc).map (fun d => d.parameters.length) = some 2 := by decide +kernel
theorem hd_X0_takeOut : yX0_takeOut.cls = RX0 ∧ yX0_takeOut.cls ≠ "java/lang/invoke/MethodHandle" ∧ yX0_takeOut.cls ≠ "java/lang/invoke/VarHandle" ∧ (parseMethodDescriptor yX0_takeOut.desc).map (fun d => d.parameters.length) = some 1 := by decide +kernel
theorem hd_X0_copyFrom : yX0_copyFrom.cls = RX0 ∧ yX0_copyFrom.cls ≠ "java/lang/invoke/MethodHandle" ∧ yX0_copyFrom.cls ≠ "java/lang/invoke/VarHandle" ∧ (parseMethodDescriptor yX0_copyFrom.desc).map (fun d => d.parameters.length) = some 1 := by decide +kernel
theorem hd_X1_start : yX1_start.cls = RX1 ∧ yX1_start.cls ≠ "java/lang/invoke/MethodHandle" ∧ yX1_start.cls ≠ "java/lang/invoke/VarHandle" ∧ (parseMethodDescriptor yX1_start.desc).map (fun d => d.parameters.length) = some 1 := by decide +kernel
theorem hd_X1_inputs : yX1_inputs.cls = RX1 ∧ yX1_inputs.cls ≠ "java/lang/invoke/MethodHandle" ∧ yX1_inputs.cls ≠ "java/lang/invoke/VarHandle" ∧ (parseMethodDescriptor yX1_inputs.desc).map (fun d => d.parameters.length) = some 0 := by decide +kernel
theorem hd_X1_on : yX1_on.cls = RX1 ∧ yX1_on.cls ≠ "java/lang/invoke/MethodHandle" ∧ yX1_on.cls ≠ "java/lang/invoke/VarHandle" ∧ (parseMethodDescriptor yX1_on.desc).map (fun d => d.parameters.length) = some 1 := by decide +kernel
theorem hd_X1_dc : yX1_dc.cls = RX1 ∧ yX1_dc.cls ≠ "java/lang/invoke/MethodHandle" ∧ yX1_dc.cls ≠ "java/lang/invoke/VarHandle" ∧ (parseMethodDescriptor yX1_dc.desc).map (fun d => d.parameters.length) = some 1 := by decide +kernel
theorem hd_X1_size : yX1_size.cls = RX1 ∧ yX1_size.cls ≠ "java/lang/invoke/MethodHandle" ∧ yX1_size.cls ≠ "java/lang/invoke/VarHandle" ∧ (parseMethodDescriptor yX1_size.desc).map (fun d => d.parameters.length) = some 1 := by decide +kernel
theorem hd_X1_cube : yX1_cube.cls = RX1 ∧ yX1_cube.cls ≠ "java/lang/invoke/MethodHandle" ∧ yX1_cube.cls ≠ "java/lang/invoke/VarHandle" ∧ (parseMethodDescriptor yX1_cube.desc).map (fun d => d.parameters.length) = some 2 := by decide +kernel
theorem hd_X1_literals : yX1_literals.cls = RX1 ∧ yX1_literals.cls ≠ "java/lang/invoke/MethodHandle" ∧ yX1_literals.cls ≠ "java/lang/invoke/VarHandle" ∧ (parseMethodDescriptor yX1_literals.desc).map (fun d => d.parameters.length) = some 1 := by decide +kernel
theorem hd_X1_kind : yX1_kind.cls = RX1 ∧ yX1_kind.cls ≠ "java/lang/invoke/MethodHandle" ∧ yX1_kind.cls ≠ "java/lang/invoke/VarHandle" ∧ (parseMethodDescriptor yX1_kind.desc).map (fun d => d.parameters.length) = some 1 := by decide +kernel
theorem hd_X1_holds : yX1_holds.cls = RX1 ∧ yX1_holds.cls ≠ "java/lang/invoke/MethodHandle" ∧ yX1_holds.cls ≠ "java/lang/invoke/VarHandle" ∧ (parseMethodDescriptor yX1_holds.desc).map (fun d => d.parameters.length) = some 2 := by decide +kernel
theorem hd_X1_missing : yX1_missing.cls = RX1 ∧ yX1_missing.cls ≠ "java/lang/invoke/MethodHandle" ∧ yX1_missing.cls ≠ "java/lang/invoke/VarHandle" ∧ (parseMethodDescriptor yX1_missing.desc).map (fun d => d.parameters.length) = some 1 := by decide +kernel
theorem hd_X1_tautology : yX1_tautology.cls = RX1 ∧ yX1_tautology.cls ≠ "java/lang/invoke/MethodHandle" ∧ yX1_tautology.cls ≠ "java/lang/invoke/VarHandle" ∧ (parseMethodDescriptor yX1_tautology.desc).map (fun d => d.parameters.length) = some 1 := by decide +kernel
theorem hd_X1_same : yX1_same.cls = RX1 ∧ yX1_same.cls ≠ "java/lang/invoke/MethodHandle" ∧ yX1_same.cls ≠ "java/lang/invoke/VarHandle" ∧ (parseMethodDescriptor yX1_same.desc).map (fun d => d.parameters.length) = some 2 := by decide +kernel
theorem hd_X1_prime : yX1_prime.cls = RX1 ∧ yX1_prime.cls ≠ "java/lang/invoke/MethodHandle" ∧ yX1_prime.cls ≠ "java/lang/invoke/VarHandle" ∧ (parseMethodDescriptor yX1_prime.desc).map (fun d => d.parameters.length) = some 2 := by decide +kernel
theorem hd_X1_widen : yX1_widen.cls = RX1 ∧ yX1_widen.cls ≠ "java/lang/invoke/MethodHandle" ∧ yX1_widen.cls ≠ "java/lang/invoke/VarHandle" ∧ (parseMethodDescriptor yX1_widen.desc).map (fun d => d.parameters.length) = some 1 := by decide +kernel
theorem hd_X1_minimize : yX1_minimize.cls = RX1 ∧ yX1_minimize.cls ≠ "java/lang/invoke/MethodHandle" ∧ yX1_minimize.cls ≠ "java/lang/invoke/VarHandle" ∧ (parseMethodDescriptor yX1_minimize.desc).map (fun d => d.parameters.length) = some 0 := by decide +kernel
theorem hd_X1_begin : yX1_begin.cls = RX1 ∧ yX1_begin.cls ≠ "java/lang/invoke/MethodHandle" ∧ yX1_begin.cls ≠ "java/lang/invoke/VarHandle" ∧ (parseMethodDescriptor yX1_begin.desc).map (fun d => d.parameters.length) = some 1 := by decide +kernel
theorem hd_X1_fillPointCubes : yX1_fillPointCubes.cls = RX1 ∧ yX1_fillPointCubes.cls ≠ "java/lang/invoke/MethodHandle" ∧ yX1_fillPointCubes.cls ≠ "java/lang/invoke/VarHandle" ∧ (parseMethodDescriptor yX1_fillPointCubes.desc).map (fun d => d.parameters.length) = some 0 := by decide +kernel
theorem hd_X1_pointCount : yX1_pointCount.cls = RX1 ∧ yX1_pointCount.cls ≠ "java/lang/invoke/MethodHandle" ∧ yX1_pointCount.cls ≠ "java/lang/invoke/VarHandle" ∧ (parseMethodDescriptor yX1_pointCount.desc).map (fun d => d.parameters.length) = some 0 := by decide +kernel
theorem hd_X1_isPoint : yX1_isPoint.cls = RX1 ∧ yX1_isPoint.cls ≠ "java/lang/invoke/MethodHandle" ∧ yX1_isPoint.cls ≠ "java/lang/invoke/VarHandle" ∧ (parseMethodDescriptor yX1_isPoint.desc).map (fun d => d.parameters.length) = some 1 := by decide +kernel
theorem hd_X1_isCube : yX1_isCube.cls = RX1 ∧ yX1_isCube.cls ≠ "java/lang/invoke/MethodHandle" ∧ yX1_isCube.cls ≠ "java/lang/invoke/VarHandle" ∧ (parseMethodDescriptor yX1_isCube.desc).map (fun d => d.parameters.length) = some 1 := by decide +kernel
theorem hd_X1_listAt : yX1_listAt.cls = RX1 ∧ yX1_listAt.cls ≠ "java/lang/invoke/MethodHandle" ∧ yX1_listAt.cls ≠ "java/lang/invoke/VarHandle" ∧ (parseMethodDescriptor yX1_listAt.desc).map (fun d => d.parameters.length) = some 1 := by decide +kernel
theorem hd_X1_freed : yX1_freed.cls ≠ "java/lang/invoke/MethodHandle" ∧ yX1_freed.cls ≠ "java/lang/invoke/VarHandle" ∧ (parseMethodDescriptor yX1_freed.desc).map (fun d => d.parameters.length) = some 2 := by decide +kernel
theorem hd_X1_isVoid : yX1_isVoid.cls = RX1 ∧ yX1_isVoid.cls ≠ "java/lang/invoke/MethodHandle" ∧ yX1_isVoid.cls ≠ "java/lang/invoke/VarHandle" ∧ (parseMethodDescriptor yX1_isVoid.desc).map (fun d => d.parameters.length) = some 1 := by decide +kernel
theorem hd_X1_isInCube : yX1_isInCube.cls = RX1 ∧ yX1_isInCube.cls ≠ "java/lang/invoke/MethodHandle" ∧ yX1_isInCube.cls ≠ "java/lang/invoke/VarHandle" ∧ (parseMethodDescriptor yX1_isInCube.desc).map (fun d => d.parameters.length) = some 2 := by decide +kernel
theorem hd_X1_isInList : yX1_isInList.cls = RX1 ∧ yX1_isInList.cls ≠ "java/lang/invoke/MethodHandle" ∧ yX1_isInList.cls ≠ "java/lang/invoke/VarHandle" ∧ (parseMethodDescriptor yX1_isInList.desc).map (fun d => d.parameters.length) = some 2 := by decide +kernel
theorem hd_X1_markWanted : yX1_markWanted.cls = RX1 ∧ yX1_markWanted.cls ≠ "java/lang/invoke/MethodHandle" ∧ yX1_markWanted.cls ≠ "java/lang/invoke/VarHandle" ∧ (parseMethodDescriptor yX1_markWanted.desc).map (fun d => d.parameters.length) = some 1 := by decide +kernel
theorem hd_X1_markIndifferent : yX1_markIndifferent.cls = RX1 ∧ yX1_markIndifferent.cls ≠ "java/lang/invoke/MethodHandle" ∧ yX1_markIndifferent.cls ≠ "java/lang/invoke/VarHandle" ∧ (parseMethodDescriptor yX1_markIndifferent.desc).map (fun d => d.parameters.length) = some 1 := by decide +kernel
theorem hd_X1_countLiterals : yX1_countLiterals.cls = RX1 ∧ yX1_countLiterals.cls ≠ "java/lang/invoke/MethodHandle" ∧ yX1_countLiterals.cls ≠ "java/lang/invoke/VarHandle" ∧ (parseMethodDescriptor yX1_countLiterals.desc).map (fun d => d.parameters.length) = some 1 := by decide +kernel
theorem hd_X1_countMissing : yX1_countMissing.cls = RX1 ∧ yX1_countMissing.cls ≠ "java/lang/invoke/MethodHandle" ∧ yX1_countMissing.cls ≠ "java/lang/invoke/VarHandle" ∧ (parseMethodDescriptor yX1_countMissing.desc).map (fun d => d.parameters.length) = some 1 := by decide +kernel
theorem hd_X1_agree : yX1_agree.cls = RX1 ∧ yX1_agree.cls ≠ "java/lang/invoke/MethodHandle" ∧ yX1_agree.cls ≠ "java/lang/invoke/VarHandle" ∧ (parseMethodDescriptor yX1_agree.desc).map (fun d => d.parameters.length) = some 2 := by decide +kernel
theorem hd_X1_touches : yX1_touches.cls = RX1 ∧ yX1_touches.cls ≠ "java/lang/invoke/MethodHandle" ∧ yX1_touches.cls ≠ "java/lang/invoke/VarHandle" ∧ (parseMethodDescriptor yX1_touches.desc).map (fun d => d.parameters.length) = some 1 := by decide +kernel
theorem hd_X1_cannotGrow : yX1_cannotGrow.cls = RX1 ∧ yX1_cannotGrow.cls ≠ "java/lang/invoke/MethodHandle" ∧ yX1_cannotGrow.cls ≠ "java/lang/invoke/VarHandle" ∧ (parseMethodDescriptor yX1_cannotGrow.desc).map (fun d => d.parameters.length) = some 1 := by decide +kernel
theorem hd_X1_widened : yX1_widened.cls = RX1 ∧ yX1_widened.cls ≠ "java/lang/invoke/MethodHandle" ∧ yX1_widened.cls ≠ "java/lang/invoke/VarHandle" ∧ (parseMethodDescriptor yX1_widened.desc).map (fun d => d.parameters.length) = some 2 := by decide +kernel
theorem hd_X1_fillCover : yX1_fillCover.cls = RX1 ∧ yX1_fillCover.cls ≠ "java/lang/invoke/MethodHandle" ∧ yX1_fillCover.cls ≠ "java/lang/invoke/VarHandle" ∧ (parseMethodDescriptor yX1_fillCover.desc).map (fun d => d.parameters.length) = some 0 := by decide +kernel
theorem hd_X1_makePass : yX1_makePass.cls = RX1 ∧ yX1_makePass.cls ≠ "java/lang/invoke/MethodHandle" ∧ yX1_makePass.cls ≠ "java/lang/invoke/VarHandle" ∧ (parseMethodDescriptor yX1_makePass.desc).map (fun d => d.parameters.length) = some 2 := by decide +kernel
theorem hd_X1_dropNeedless : yX1_dropNeedless.cls = RX1 ∧ yX1_dropNeedless.cls ≠ "java/lang/invoke/MethodHandle" ∧ yX1_dropNeedless.cls ≠ "java/lang/invoke/VarHandle" ∧ (parseMethodDescriptor yX1_dropNeedless.desc).map (fun d => d.parameters.length) = some 1 := by decide +kernel
theorem hd_X1_narrow : yX1_narrow.cls = RX1 ∧ yX1_narrow.cls ≠ "java/lang/invoke/MethodHandle" ∧ yX1_narrow.cls ≠ "java/lang/invoke/VarHandle" ∧ (parseMethodDescriptor yX1_narrow.desc).map (fun d => d.parameters.length) = some 1 := by decide +kernel
theorem hd_X1_countHolders : yX1_countHolders.cls = RX1 ∧ yX1_countHolders.cls ≠ "java/lang/invoke/MethodHandle" ∧ yX1_countHolders.cls ≠ "java/lang/invoke/VarHandle" ∧ (parseMethodDescriptor yX1_countHolders.desc).map (fun d => d.parameters.length) = some 1 := by decide +kernel
theorem hd_X1_addToHolders : yX1_addToHolders.cls = RX1 ∧ yX1_addToHolders.cls ≠ "java/lang/invoke/MethodHandle" ∧ yX1_addToHolders.cls ≠ "java/lang/invoke/VarHandle" ∧ (parseMethodDescriptor yX1_addToHolders.desc).map (fun d => d.parameters.length) = some 2 := by decide +kernel
theorem hd_X1_ownPart : yX1_ownPart.cls = RX1 ∧ yX1_ownPart.cls ≠ "java/lang/invoke/MethodHandle" ∧ yX1_ownPart.cls ≠ "java/lang/invoke/VarHandle" ∧ (parseMethodDescriptor yX1_ownPart.desc).map (fun d => d.parameters.length) = some 1 := by decide +kernel
theorem hd_X1_isSmaller : yX1_isSmaller.cls = RX1 ∧ yX1_isSmaller.cls ≠ "java/lang/invoke/MethodHandle" ∧ yX1_isSmaller.cls ≠ "java/lang/invoke/VarHandle" ∧ (parseMethodDescriptor yX1_isSmaller.desc).map (fun d => d.parameters.length) = some 2 := by decide +kernel
theorem hd_X2_start : yX2_start.cls = RX2 ∧ yX2_start.cls ≠ "java/lang/invoke/MethodHandle" ∧ yX2_start.cls ≠ "java/lang/invoke/VarHandle" ∧ (parseMethodDescriptor yX2_start.desc).map (fun d => d.parameters.length) = some 1 := by decide +kernel
theorem hd_X2_inputs : yX2_inputs.cls = RX2 ∧ yX2_inputs.cls ≠ "java/lang/invoke/MethodHandle" ∧ yX2_inputs.cls ≠ "java/lang/invoke/VarHandle" ∧ (parseMethodDescriptor yX2_inputs.desc).map (fun d => d.parameters.length) = some 0 := by decide +kernel
theorem hd_X2_isCube : yX2_isCube.cls = RX2 ∧ yX2_isCube.cls ≠ "java/lang/invoke/MethodHandle" ∧ yX2_isCube.cls ≠ "java/lang/invoke/VarHandle" ∧ (parseMethodDescriptor yX2_isCube.desc).map (fun d => d.parameters.length) = some 1 := by decide +kernel
theorem hd_X2_isVoid : yX2_isVoid.cls = RX2 ∧ yX2_isVoid.cls ≠ "java/lang/invoke/MethodHandle" ∧ yX2_isVoid.cls ≠ "java/lang/invoke/VarHandle" ∧ (parseMethodDescriptor yX2_isVoid.desc).map (fun d => d.parameters.length) = some 1 := by decide +kernel
theorem hd_X2_in : yX2_in.cls = RX2 ∧ yX2_in.cls ≠ "java/lang/invoke/MethodHandle" ∧ yX2_in.cls ≠ "java/lang/invoke/VarHandle" ∧ (parseMethodDescriptor yX2_in.desc).map (fun d => d.parameters.length) = some 2 := by decide +kernel
theorem hd_X2_inList : yX2_inList.cls = RX2 ∧ yX2_inList.cls ≠ "java/lang/invoke/MethodHandle" ∧ yX2_inList.cls ≠ "java/lang/invoke/VarHandle" ∧ (parseMethodDescriptor yX2_inList.desc).map (fun d => d.parameters.length) = some 2 := by decide +kernel
theorem hd_X2_sort : yX2_sort.cls = RX2 ∧ yX2_sort.cls ≠ "java/lang/invoke/MethodHandle" ∧ yX2_sort.cls ≠ "java/lang/invoke/VarHandle" ∧ (parseMethodDescriptor yX2_sort.desc).map (fun d => d.parameters.length) = some 0 := by decide +kernel
theorem hd_X2_touches : yX2_touches.cls = RX2 ∧ yX2_touches.cls ≠ "java/lang/invoke/MethodHandle" ∧ yX2_touches.cls ≠ "java/lang/invoke/VarHandle" ∧ (parseMethodDescriptor yX2_touches.desc).map (fun d => d.parameters.length) = some 1 := by decide +kernel
theorem hd_X2_add : yX2_add.cls = RX2 ∧ yX2_add.cls ≠ "java/lang/invoke/MethodHandle" ∧ yX2_add.cls ≠ "java/lang/invoke/VarHandle" ∧ (parseMethodDescriptor yX2_add.desc).map (fun d => d.parameters.length) = some 2 := by decide +kernel
theorem hd_X2_on : yX2_on.cls = RX2 ∧ yX2_on.cls ≠ "java/lang/invoke/MethodHandle" ∧ yX2_on.cls ≠ "java/lang/invoke/VarHandle" ∧ (parseMethodDescriptor yX2_on.desc).map (fun d => d.parameters.length) = some 1 := by decide +kernel
theorem hd_X2_dc : yX2_dc.cls = RX2 ∧ yX2_dc.cls ≠ "java/lang/invoke/MethodHandle" ∧ yX2_dc.cls ≠ "java/lang/invoke/VarHandle" ∧ (parseMethodDescriptor yX2_dc.desc).map (fun d => d.parameters.length) = some 1 := by decide +kernel
theorem hd_X2_isList : yX2_isList.cls ≠ "java/lang/invoke/MethodHandle" ∧ yX2_isList.cls ≠ "java/lang/invoke/VarHandle" ∧ (parseMethodDescriptor yX2_isList.desc).map (fun d => d.parameters.length) = some 1 := by decide +kernel
theorem hd_X2_size : yX2_size.cls = RX2 ∧ yX2_size.cls ≠ "java/lang/invoke/MethodHandle" ∧ yX2_size.cls ≠ "java/lang/invoke/VarHandle" ∧ (parseMethodDescriptor yX2_size.desc).map (fun d => d.parameters.length) = some 1 := by decide +kernel
theorem hd_X2_cube : yX2_cube.cls = RX2 ∧ yX2_cube.cls ≠ "java/lang/invoke/MethodHandle" ∧ yX2_cube.cls ≠ "java/lang/invoke/VarHandle" ∧ (parseMethodDescriptor yX2_cube.desc).map (fun d => d.parameters.length) = some 2 := by decide +kernel
theorem hd_X2_literalsOf : yX2_literalsOf.cls = RX2 ∧ yX2_literalsOf.cls ≠ "java/lang/invoke/MethodHandle" ∧ yX2_literalsOf.cls ≠ "java/lang/invoke/VarHandle" ∧ (parseMethodDescriptor yX2_literalsOf.desc).map (fun d => d.parameters.length) = some 1 := by decide +kernel
theorem hd_X2_literals : yX2_literals.cls = RX2 ∧ yX2_literals.cls ≠ "java/lang/invoke/MethodHandle" ∧ yX2_literals.cls ≠ "java/lang/invoke/VarHandle" ∧ (parseMethodDescriptor yX2_literals.desc).map (fun d => d.parameters.length) = some 1 := by decide +kernel
theorem hd_X2_isPoint : yX2_isPoint.cls = RX2 ∧ yX2_isPoint.cls ≠ "java/lang/invoke/MethodHandle" ∧ yX2_isPoint.cls ≠ "java/lang/invoke/VarHandle" ∧ (parseMethodDescriptor yX2_isPoint.desc).map (fun d => d.parameters.length) = some 1 := by decide +kernel
theorem hd_X2_kind : yX2_kind.cls = RX2 ∧ yX2_kind.cls ≠ "java/lang/invoke/MethodHandle" ∧ yX2_kind.cls ≠ "java/lang/invoke/VarHandle" ∧ (parseMethodDescriptor yX2_kind.desc).map (fun d => d.parameters.length) = some 1 := by decide +kernel
theorem hd_X2_holds : yX2_holds.cls = RX2 ∧ yX2_holds.cls ≠ "java/lang/invoke/MethodHandle" ∧ yX2_holds.cls ≠ "java/lang/invoke/VarHandle" ∧ (parseMethodDescriptor yX2_holds.desc).map (fun d => d.parameters.length) = some 2 := by decide +kernel
theorem hd_X2_missing : yX2_missing.cls = RX2 ∧ yX2_missing.cls ≠ "java/lang/invoke/MethodHandle" ∧ yX2_missing.cls ≠ "java/lang/invoke/VarHandle" ∧ (parseMethodDescriptor yX2_missing.desc).map (fun d => d.parameters.length) = some 1 := by decide +kernel
theorem hd_X2_tautology : yX2_tautology.cls = RX2 ∧ yX2_tautology.cls ≠ "java/lang/invoke/MethodHandle" ∧ yX2_tautology.cls ≠ "java/lang/invoke/VarHandle" ∧ (parseMethodDescriptor yX2_tautology.desc).map (fun d => d.parameters.length) = some 1 := by decide +kernel
theorem hd_X2_same : yX2_same.cls = RX2 ∧ yX2_same.cls ≠ "java/lang/invoke/MethodHandle" ∧ yX2_same.cls ≠ "java/lang/invoke/VarHandle" ∧ (parseMethodDescriptor yX2_same.desc).map (fun d => d.parameters.length) = some 2 := by decide +kernel
theorem hd_X2_prime : yX2_prime.cls = RX2 ∧ yX2_prime.cls ≠ "java/lang/invoke/MethodHandle" ∧ yX2_prime.cls ≠ "java/lang/invoke/VarHandle" ∧ (parseMethodDescriptor yX2_prime.desc).map (fun d => d.parameters.length) = some 2 := by decide +kernel
theorem hd_X2_widened : yX2_widened.cls = RX2 ∧ yX2_widened.cls ≠ "java/lang/invoke/MethodHandle" ∧ yX2_widened.cls ≠ "java/lang/invoke/VarHandle" ∧ (parseMethodDescriptor yX2_widened.desc).map (fun d => d.parameters.length) = some 2 := by decide +kernel
theorem hd_X2_widen : yX2_widen.cls = RX2 ∧ yX2_widen.cls ≠ "java/lang/invoke/MethodHandle" ∧ yX2_widen.cls ≠ "java/lang/invoke/VarHandle" ∧ (parseMethodDescriptor yX2_widen.desc).map (fun d => d.parameters.length) = some 1 := by decide +kernel
theorem hd_X2_inAnother : yX2_inAnother.cls = RX2 ∧ yX2_inAnother.cls ≠ "java/lang/invoke/MethodHandle" ∧ yX2_inAnother.cls ≠ "java/lang/invoke/VarHandle" ∧ (parseMethodDescriptor yX2_inAnother.desc).map (fun d => d.parameters.length) = some 3 := by decide +kernel
theorem hd_X2_isNeeded : yX2_isNeeded.cls = RX2 ∧ yX2_isNeeded.cls ≠ "java/lang/invoke/MethodHandle" ∧ yX2_isNeeded.cls ≠ "java/lang/invoke/VarHandle" ∧ (parseMethodDescriptor yX2_isNeeded.desc).map (fun d => d.parameters.length) = some 2 := by decide +kernel
theorem hd_X2_pass : yX2_pass.cls = RX2 ∧ yX2_pass.cls ≠ "java/lang/invoke/MethodHandle" ∧ yX2_pass.cls ≠ "java/lang/invoke/VarHandle" ∧ (parseMethodDescriptor yX2_pass.desc).map (fun d => d.parameters.length) = some 2 := by decide +kernel
theorem hd_X2_narrow : yX2_narrow.cls = RX2 ∧ yX2_narrow.cls ≠ "java/lang/invoke/MethodHandle" ∧ yX2_narrow.cls ≠ "java/lang/invoke/VarHandle" ∧ (parseMethodDescriptor yX2_narrow.desc).map (fun d => d.parameters.length) = some 1 := by decide +kernel
theorem hd_X2_copy : yX2_copy.cls = RX2 ∧ yX2_copy.cls ≠ "java/lang/invoke/MethodHandle" ∧ yX2_copy.cls ≠ "java/lang/invoke/VarHandle" ∧ (parseMethodDescriptor yX2_copy.desc).map (fun d => d.parameters.length) = some 2 := by decide +kernel
theorem hd_X2_minimize : yX2_minimize.cls = RX2 ∧ yX2_minimize.cls ≠ "java/lang/invoke/MethodHandle" ∧ yX2_minimize.cls ≠ "java/lang/invoke/VarHandle" ∧ (parseMethodDescriptor yX2_minimize.desc).map (fun d => d.parameters.length) = some 0 := by decide +kernel
set_option maxHeartbeats 4000000 in
set_option maxRecDepth 100000 in
theorem c_X0_length (l : Launch) (D : va_G) (kA : ClassId) (h a c : Nat) (f : Nat → Int32) (hc : c ≤ 24) : vz_M l yX0_length wsX0_length 0 0 [.ref h] D kA [(h, .inr (0, [.ref a, .int (nI c)])), (a, .inl (kA, 24, .inl f))] (some (.int (nI c))) := by
  refine vz_start (cc := cX0_length) (maxL := 1) (ret := (some .int)) (own := RX0) (by decide) rfl rfl (Nat.le_of_ble_eq_true rfl) ?_
  intro pz ez sz mz below meth cz args Q ls hargs hx hb hml hown hts hr hlocks hP hK hQ hl
  have hcf : CallFix pz mz cz cX0_length 1 sz args wsX0_length RX0 := ⟨hx, hb, hml, hown, hts⟩
  have hi0 : ∀ w ∈ u_ws RX0 TX0 2, w ∈ wsX0_length := by decide +kernel
  have hf15 : (Cond.fieldLink RX0 15 "CubeMin$CubeList" "count" "I").before args sz = true := hts _ (by decide +kernel)
  have hl : lv_has ls 1 [(0, .ref h)] := hl
  refine lv_aload_n hx hb dX0_length_0 rfl (lv_at hl 0 rfl) ?_
  refine va_get (D := D) (ci := 0) (v := .int (nI c)) (C := RX0) (T := TX0) (N := 2) hx hb hts hi0 hown hK hP 0 rfl rfl 1 (by decide) hf15 (fun _ h9 => h9) rfl dX0_length_1 ?_
  exact vz_iret hx hb hr hlocks hQ (vp_nar_int _) dX0_length_4 rfl
set_option maxHeartbeats 4000000 in
set_option maxRecDepth 100000 in
theorem c_X0_clear (l : Launch) (D : va_G) (kA : ClassId) (h a c : Nat) (f : Nat → Int32) (hc : c ≤ 24) : vz_MM l yX0_clear wsX0_clear 0 0 [.ref h] D kA [(h, .inr (0, [.ref a, .int (nI c)])), (a, .inl (kA, 24, .inl f))] none [(h, .inr (0, [.ref a, .int (nI 0)])), (a, .inl (kA, 24, .inl f))] := by
  refine vz_startM (cc := cX0_clear) (maxL := 1) (ret := none) (own := RX0) (by decide) rfl rfl (Nat.le_of_ble_eq_true rfl) ?_
  intro pz ez sz mz below meth cz args Q ls H locs Az hargs hx hb hml hown hts hr hlocks hP hK hD hS hAe hQ hl
  have hcf : CallFix pz mz cz cX0_clear 1 sz args wsX0_clear RX0 := ⟨hx, hb, hml, hown, hts⟩
  have hi0 : ∀ w ∈ u_ws RX0 TX0 2, w ∈ wsX0_clear := by decide +kernel
  have hf15 : (Cond.fieldLink RX0 15 "CubeMin$CubeList" "count" "I").before args sz = true := hts _ (by decide +kernel)
  have hl : lv_has ls 1 [(0, .ref h)] := hl
  refine lv_aload_n hx hb dX0_clear_0 rfl (lv_at hl 0 rfl) ?_
  refine lv_iconst (v := nI 0) hx hb dX0_clear_1 (by decide) ?_
  refine va_put (D := D) (ci := 0) (v := .int (nI 0)) (ty := .int) (C := RX0) (T := TX0) (N := 2) hx hb hts hi0 tyX0 tyX0_ok nmX0 hown hK hP hD hS 0 rfl rfl 1 (by decide) hf15 (fun _ h9 => h9) rfl (by decide +kernel) rfl rfl (Nat.le_of_ble_eq_true rfl) dX0_clear_2 (fun H locs hP hD hS => ?_)
  have hP : va_P D vwCl [(h, .inr (0, [.ref a, .int (nI 0)])), (a, .inl (kA, 24, .inl f))] H := hP
  have hD : va_D Az [(h, .inr (0, [.ref a, .int (nI 0)])), (a, .inl (kA, 24, .inl f))] := hD
  exact vz_vretM hx hb hr hlocks hQ hAe dX0_clear_5 hS hP rfl
set_option maxHeartbeats 4000000 in
set_option maxRecDepth 100000 in
theorem c_X0_at (l : Launch) (D : va_G) (kA : ClassId) (h a c : Nat) (f : Nat → Int32) (hc : c ≤ 24) (k : Int32) : vz_M l yX0_at wsX0_at 0 0 [.ref h, .int k] D kA [(h, .inr (0, [.ref a, .int (nI c)])), (a, .inl (kA, 24, .inl f))] (some (.int (zat c f k))) := by
  refine vz_start (cc := cX0_at) (maxL := 2) (ret := (some .int)) (own := RX0) (by decide) rfl rfl (Nat.le_of_ble_eq_true rfl) ?_
  intro pz ez sz mz below meth cz args Q ls hargs hx hb hml hown hts hr hlocks hP hK hQ hl
  have hcf : CallFix pz mz cz cX0_at 2 sz args wsX0_at RX0 := ⟨hx, hb, hml, hown, hts⟩
  have hi0 : ∀ w ∈ u_ws RX0 TX0 2, w ∈ wsX0_at := by decide +kernel
  have hf9 : (Cond.fieldLink RX0 9 "CubeMin$CubeList" "cubes" "[I").before args sz = true := hts _ (by decide +kernel)
  have hf15 : (Cond.fieldLink RX0 15 "CubeMin$CubeList" "count" "I").before args sz = true := hts _ (by decide +kernel)
  have hl : lv_has ls 2 [(0, .ref h), (1, .int k)] := hl
  refine lv_iload_n hx hb dX0_at_0 rfl (lv_at hl 1 rfl) ?_
  refine lv_if_lt (tgt := 21) hx hb dX0_at_1 (by decide) (fun c_1 => ?_) (fun c_1 => ?_)
  · skip
    refine lv_iconst (v := -1) hx hb dX0_at_21 (by decide) ?_
    exact vz_iret hx hb hr hlocks hQ (vp_nar_int _) dX0_at_22 (by first | exact (zat_nI hj hc).symm | (simp only [zat]; first | rw [if_pos c_1] | rw [if_neg c_1, if_pos c_9]))
  · skip
    refine lv_iload_n hx hb dX0_at_4 rfl (lv_at hl 1 rfl) ?_
    refine lv_aload_n hx hb dX0_at_5 rfl (lv_at hl 0 rfl) ?_
    refine va_get (D := D) (ci := 0) (v := .int (nI c)) (C := RX0) (T := TX0) (N := 2) hx hb hts hi0 hown hK hP 0 rfl rfl 1 (by decide) hf15 (fun _ h9 => h9) rfl dX0_at_6 ?_
    refine lv_icmp_ge (tgt := 21) hx hb dX0_at_9 (by decide) (fun c_9 => ?_) (fun c_9 => ?_)
    · skip
      refine lv_iconst (v := -1) hx hb dX0_at_21 (by decide) ?_
      exact vz_iret hx hb hr hlocks hQ (vp_nar_int _) dX0_at_22 (by first | exact (zat_nI hj hc).symm | (simp only [zat]; first | rw [if_pos c_1] | rw [if_neg c_1, if_pos c_9]))
    · skip
      obtain ⟨j, hj, rfl⟩ : ∃ j : Nat, j < c ∧ k = nI j := by
        rcases pk_ix k (n := c) (by omega) with h1 | h1 | h1
        · exact absurd h1 c_1
        · exact absurd h1 c_9
        · exact h1
      refine lv_aload_n hx hb dX0_at_12 rfl (lv_at hl 0 rfl) ?_
      refine va_get (D := D) (ci := 0) (v := .ref a) (C := RX0) (T := TX0) (N := 2) hx hb hts hi0 hown hK hP 0 rfl rfl 0 (by decide) hf9 (fun _ h9 => h9) rfl dX0_at_13 ?_
      refine lv_iload_n hx hb dX0_at_16 rfl (lv_at hl 1 rfl) ?_
      refine vz_ald hx hb hK hP 1 rfl (by omega) (Nat.le_of_ble_eq_true rfl) dX0_at_17 ?_
      refine lv_goto (tgt := 22) hx hb dX0_at_18 (by decide) ?_
      exact vz_iret hx hb hr hlocks hQ (vp_nar_int _) dX0_at_22 (by first | exact (zat_nI hj hc).symm | (simp only [zat]; first | rw [if_pos c_1] | rw [if_neg c_1, if_pos c_9]))
set_option maxHeartbeats 4000000 in
set_option maxRecDepth 100000 in
theorem c_X0_append (l : Launch) (D : va_G) (kA : ClassId) (h a c : Nat) (f : Nat → Int32) (hc : c < 24) (v : Int32) : vz_MM l yX0_append wsX0_append 0 0 [.ref h, .int v] D kA [(h, .inr (0, [.ref a, .int (nI c)])), (a, .inl (kA, 24, .inl f))] (some (.int (nI 1))) [(h, .inr (0, [.ref a, .int (nI (c + 1))])), (a, .inl (kA, 24, .inl (upd f c v)))] := by
  refine vz_startM (cc := cX0_append) (maxL := 2) (ret := (some .boolean)) (own := RX0) (by decide) rfl rfl (Nat.le_of_ble_eq_true rfl) ?_
  intro pz ez sz mz below meth cz args Q ls H locs Az hargs hx hb hml hown hts hr hlocks hP hK hD hS hAe hQ hl
  have hcf : CallFix pz mz cz cX0_append 2 sz args wsX0_append RX0 := ⟨hx, hb, hml, hown, hts⟩
  have hi0 : ∀ w ∈ u_ws RX0 TX0 2, w ∈ wsX0_append := by decide +kernel
  have hf9 : (Cond.fieldLink RX0 9 "CubeMin$CubeList" "cubes" "[I").before args sz = true := hts _ (by decide +kernel)
  have hf15 : (Cond.fieldLink RX0 15 "CubeMin$CubeList" "count" "I").before args sz = true := hts _ (by decide +kernel)
  have hl : lv_has ls 2 [(0, .ref h), (1, .int v)] := hl
  refine lv_aload_n hx hb dX0_append_0 rfl (lv_at hl 0 rfl) ?_
  refine va_get (D := D) (ci := 0) (v := .int (nI c)) (C := RX0) (T := TX0) (N := 2) hx hb hts hi0 hown hK hP 0 rfl rfl 1 (by decide) hf15 (fun _ h9 => h9) rfl dX0_append_1 ?_
  refine lv_bipush (v := nI 24) hx hb dX0_append_4 (by decide) ?_
  refine vz_clt (tgt := 11) hx hb dX0_append_6 (by decide) (by omega) (by omega) (fun c_6 => ?_) (fun c_6 => absurd c_6 (by omega))
  refine lv_aload_n hx hb dX0_append_11 rfl (lv_at hl 0 rfl) ?_
  refine va_get (D := D) (ci := 0) (v := .ref a) (C := RX0) (T := TX0) (N := 2) hx hb hts hi0 hown hK hP 0 rfl rfl 0 (by decide) hf9 (fun _ h9 => h9) rfl dX0_append_12 ?_
  refine lv_aload_n hx hb dX0_append_15 rfl (lv_at hl 0 rfl) ?_
  refine va_get (D := D) (ci := 0) (v := .int (nI c)) (C := RX0) (T := TX0) (N := 2) hx hb hts hi0 hown hK hP 0 rfl rfl 1 (by decide) hf15 (fun _ h9 => h9) rfl dX0_append_16 ?_
  refine lv_iload_n hx hb dX0_append_19 rfl (lv_at hl 1 rfl) ?_
  refine vz_ast hx hb hK hP hD hS 1 rfl (by omega) (Nat.le_of_ble_eq_true rfl) dX0_append_20 (fun H locs hP hD hS => ?_)
  have hP : va_P D vwCl [(h, .inr (0, [.ref a, .int (nI c)])), (a, .inl (kA, 24, .inl (upd f c v)))] H := hP
  have hD : va_D Az [(h, .inr (0, [.ref a, .int (nI c)])), (a, .inl (kA, 24, .inl (upd f c v)))] := hD
  refine lv_aload_n hx hb dX0_append_21 rfl (lv_at hl 0 rfl) ?_
  refine lv_dup hx hb dX0_append_22 rfl ?_
  refine va_get (D := D) (ci := 0) (v := .int (nI c)) (C := RX0) (T := TX0) (N := 2) hx hb hts hi0 hown hK hP 0 rfl rfl 1 (by decide) hf15 (fun _ h9 => h9) rfl dX0_append_23 ?_
  refine lv_iconst (v := nI 1) hx hb dX0_append_26 (by decide) ?_
  refine vz_add hx hb dX0_append_27 ?_
  refine va_put (D := D) (ci := 0) (v := .int (nI (c + 1))) (ty := .int) (C := RX0) (T := TX0) (N := 2) hx hb hts hi0 tyX0 tyX0_ok nmX0 hown hK hP hD hS 0 rfl rfl 1 (by decide) hf15 (fun _ h9 => h9) rfl (by decide +kernel) rfl rfl (Nat.le_of_ble_eq_true rfl) dX0_append_28 (fun H locs hP hD hS => ?_)
  have hP : va_P D vwCl [(h, .inr (0, [.ref a, .int (nI (c + 1))])), (a, .inl (kA, 24, .inl (upd f c v)))] H := hP
  have hD : va_D Az [(h, .inr (0, [.ref a, .int (nI (c + 1))])), (a, .inl (kA, 24, .inl (upd f c v)))] := hD
  refine lv_iconst (v := nI 1) hx hb dX0_append_31 (by decide) ?_
  exact vz_iretM hx hb hr hlocks hQ hAe (rfl) dX0_append_32 rfl hS hP rfl
set_option maxHeartbeats 4000000 in
set_option maxRecDepth 100000 in
theorem c_X0_append_no (l : Launch) (D : va_G) (kA : ClassId) (h a c : Nat) (f : Nat → Int32) (hc : c = 24) (v : Int32) : vz_M l yX0_append wsX0_append 0 0 [.ref h, .int v] D kA [(h, .inr (0, [.ref a, .int (nI c)])), (a, .inl (kA, 24, .inl f))] (some (.int (nI 0))) := by
  refine vz_start (cc := cX0_append) (maxL := 2) (ret := (some .boolean)) (own := RX0) (by decide) rfl rfl (Nat.le_of_ble_eq_true rfl) ?_
  intro pz ez sz mz below meth cz args Q ls hargs hx hb hml hown hts hr hlocks hP hK hQ hl
  have hcf : CallFix pz mz cz cX0_append 2 sz args wsX0_append RX0 := ⟨hx, hb, hml, hown, hts⟩
  have hi0 : ∀ w ∈ u_ws RX0 TX0 2, w ∈ wsX0_append := by decide +kernel
  have hf9 : (Cond.fieldLink RX0 9 "CubeMin$CubeList" "cubes" "[I").before args sz = true := hts _ (by decide +kernel)
  have hf15 : (Cond.fieldLink RX0 15 "CubeMin$CubeList" "count" "I").before args sz = true := hts _ (by decide +kernel)
  have hl : lv_has ls 2 [(0, .ref h), (1, .int v)] := hl
  refine lv_aload_n hx hb dX0_append_0 rfl (lv_at hl 0 rfl) ?_
  refine va_get (D := D) (ci := 0) (v := .int (nI c)) (C := RX0) (T := TX0) (N := 2) hx hb hts hi0 hown hK hP 0 rfl rfl 1 (by decide) hf15 (fun _ h9 => h9) rfl dX0_append_1 ?_
  refine lv_bipush (v := nI 24) hx hb dX0_append_4 (by decide) ?_
  refine vz_clt (tgt := 11) hx hb dX0_append_6 (by decide) (by omega) (by omega) (fun c_6 => absurd c_6 (by omega)) (fun c_6 => ?_)
  refine lv_iconst (v := nI 0) hx hb dX0_append_9 (by decide) ?_
  exact vz_iret hx hb hr hlocks hQ (rfl) dX0_append_10 rfl
set_option maxHeartbeats 4000000 in
set_option maxRecDepth 100000 in
theorem c_X0_put (l : Launch) (D : va_G) (kA : ClassId) (h a c : Nat) (f : Nat → Int32) (hc : c ≤ 24) (k : Nat) (v : Int32) (hk : k < c) : vz_MM l yX0_put wsX0_put 0 0 [.ref h, .int (nI k), .int v] D kA [(h, .inr (0, [.ref a, .int (nI c)])), (a, .inl (kA, 24, .inl f))] none [(h, .inr (0, [.ref a, .int (nI c)])), (a, .inl (kA, 24, .inl (upd f k v)))] := by
  refine vz_startM (cc := cX0_put) (maxL := 3) (ret := none) (own := RX0) (by decide) rfl rfl (Nat.le_of_ble_eq_true rfl) ?_
  intro pz ez sz mz below meth cz args Q ls H locs Az hargs hx hb hml hown hts hr hlocks hP hK hD hS hAe hQ hl
  have hcf : CallFix pz mz cz cX0_put 3 sz args wsX0_put RX0 := ⟨hx, hb, hml, hown, hts⟩
  have hi0 : ∀ w ∈ u_ws RX0 TX0 2, w ∈ wsX0_put := by decide +kernel
  have hf9 : (Cond.fieldLink RX0 9 "CubeMin$CubeList" "cubes" "[I").before args sz = true := hts _ (by decide +kernel)
  have hf15 : (Cond.fieldLink RX0 15 "CubeMin$CubeList" "count" "I").before args sz = true := hts _ (by decide +kernel)
  have hl : lv_has ls 3 [(0, .ref h), (1, .int (nI k)), (2, .int v)] := hl
  refine lv_iload_n hx hb dX0_put_0 rfl (lv_at hl 1 rfl) ?_
  refine lv_if_lt (tgt := 19) hx hb dX0_put_1 (by decide) (fun c_1 => absurd c_1 (nI_pos (by omega))) (fun c_1 => ?_)
  refine lv_iload_n hx hb dX0_put_4 rfl (lv_at hl 1 rfl) ?_
  refine lv_aload_n hx hb dX0_put_5 rfl (lv_at hl 0 rfl) ?_
  refine va_get (D := D) (ci := 0) (v := .int (nI c)) (C := RX0) (T := TX0) (N := 2) hx hb hts hi0 hown hK hP 0 rfl rfl 1 (by decide) hf15 (fun _ h9 => h9) rfl dX0_put_6 ?_
  refine vz_cge (tgt := 19) hx hb dX0_put_9 (by decide) (by omega) (by omega) (fun c_9 => absurd c_9 (by omega)) (fun c_9 => ?_)
  refine lv_aload_n hx hb dX0_put_12 rfl (lv_at hl 0 rfl) ?_
  refine va_get (D := D) (ci := 0) (v := .ref a) (C := RX0) (T := TX0) (N := 2) hx hb hts hi0 hown hK hP 0 rfl rfl 0 (by decide) hf9 (fun _ h9 => h9) rfl dX0_put_13 ?_
  refine lv_iload_n hx hb dX0_put_16 rfl (lv_at hl 1 rfl) ?_
  refine lv_iload_n hx hb dX0_put_17 rfl (lv_at hl 2 rfl) ?_
  refine vz_ast hx hb hK hP hD hS 1 rfl (by omega) (Nat.le_of_ble_eq_true rfl) dX0_put_18 (fun H locs hP hD hS => ?_)
  have hP : va_P D vwCl [(h, .inr (0, [.ref a, .int (nI c)])), (a, .inl (kA, 24, .inl (upd f k v)))] H := hP
  have hD : va_D Az [(h, .inr (0, [.ref a, .int (nI c)])), (a, .inl (kA, 24, .inl (upd f k v)))] := hD
  exact vz_vretM hx hb hr hlocks hQ hAe dX0_put_19 hS hP rfl
set_option maxHeartbeats 4000000 in
set_option maxRecDepth 100000 in
theorem c_X0_takeOut (l : Launch) (D : va_G) (kA : ClassId) (h a c : Nat) (f : Nat → Int32) (hc : c ≤ 24) (k : Nat) (hk : k < c) : vz_MM l yX0_takeOut wsX0_takeOut 0 0 [.ref h, .int (nI k)] D kA [(h, .inr (0, [.ref a, .int (nI c)])), (a, .inl (kA, 24, .inl f))] none [(h, .inr (0, [.ref a, .int (nI (c - 1))])), (a, .inl (kA, 24, .inl (zsh f k c)))] := by
  refine vz_startM (cc := cX0_takeOut) (maxL := 3) (ret := none) (own := RX0) (by decide) rfl rfl (Nat.le_of_ble_eq_true rfl) ?_
  intro pz ez sz mz below meth cz args Q ls H locs Az hargs hx hb hml hown hts hr hlocks hP hK hD hS hAe hQ hl
  have hcf : CallFix pz mz cz cX0_takeOut 3 sz args wsX0_takeOut RX0 := ⟨hx, hb, hml, hown, hts⟩
  have hi0 : ∀ w ∈ u_ws RX0 TX0 2, w ∈ wsX0_takeOut := by decide +kernel
  have hf9 : (Cond.fieldLink RX0 9 "CubeMin$CubeList" "cubes" "[I").before args sz = true := hts _ (by decide +kernel)
  have hf15 : (Cond.fieldLink RX0 15 "CubeMin$CubeList" "count" "I").before args sz = true := hts _ (by decide +kernel)
  have hl : lv_has ls 3 [(0, .ref h), (1, .int (nI k))] := hl
  refine lv_iload_n hx hb dX0_takeOut_0 rfl (lv_at hl 1 rfl) ?_
  refine lv_if_lt (tgt := 12) hx hb dX0_takeOut_1 (by decide) (fun c_1 => absurd c_1 (nI_pos (by omega))) (fun c_1 => ?_)
  refine lv_iload_n hx hb dX0_takeOut_4 rfl (lv_at hl 1 rfl) ?_
  refine lv_aload_n hx hb dX0_takeOut_5 rfl (lv_at hl 0 rfl) ?_
  refine va_get (D := D) (ci := 0) (v := .int (nI c)) (C := RX0) (T := TX0) (N := 2) hx hb hts hi0 hown hK hP 0 rfl rfl 1 (by decide) hf15 (fun _ h9 => h9) rfl dX0_takeOut_6 ?_
  refine vz_clt (tgt := 13) hx hb dX0_takeOut_9 (by decide) (by omega) (by omega) (fun c_9 => ?_) (fun c_9 => absurd c_9 (by omega))
  refine lv_iload_n hx hb dX0_takeOut_13 rfl (lv_at hl 1 rfl) ?_
  refine lv_iconst (v := nI 1) hx hb dX0_takeOut_14 (by decide) ?_
  refine vz_add hx hb dX0_takeOut_15 ?_
  refine lv_istore_n (lv' := [(2, .int (nI (k + 1))), (0, .ref h), (1, .int (nI k))]) hx hb dX0_takeOut_16 rfl hl (by decide) rfl (fun ls hl => ?_)
  have lp1 : ∀ (dz : Nat) (i : Nat) (g : Nat → Int32) (H : Heap) (locs : List Loc) (ls : Array Slot), (c - i) < dz → (k < i) → (i ≤ c) → (g = zsh f k i) → va_P D vwCl [(h, .inr (0, [.ref a, .int (nI c)])), (a, .inl (kA, 24, .inl g))] H → va_D Az [(h, .inr (0, [.ref a, .int (nI c)])), (a, .inl (kA, 24, .inl g))] → va_S Az sz.heap H locs → lv_has ls 3 [(0, .ref h), (1, .int (nI k)), (2, .int (nI i))] → W pz l ez (vz_R 0 0) sz mz args below meth cz H locs 0 0 Q (F0 mz 17 ls []) := by
    intro dz
    induction dz with
    | zero => intro i g H locs ls hd h1 h2 hg hP hD hS hl; exact absurd hd (Nat.not_lt_zero _)
    | succ dz ih1 =>
      intro i g H locs ls hd h1 h2 hg hP hD hS hl
      refine lv_iload_n hx hb dX0_takeOut_17 rfl (lv_at hl 2 rfl) ?_
      refine lv_aload_n hx hb dX0_takeOut_18 rfl (lv_at hl 0 rfl) ?_
      refine va_get (D := D) (ci := 0) (v := .int (nI c)) (C := RX0) (T := TX0) (N := 2) hx hb hts hi0 hown hK hP 0 rfl rfl 1 (by decide) hf15 (fun _ h9 => h9) rfl dX0_takeOut_19 ?_
      refine vz_cge (tgt := 45) hx hb dX0_takeOut_22 (by decide) (by omega) (by omega) (fun c_22 => ?_) (fun c_22 => ?_)
      · skip
        obtain rfl : c = i := by omega
        refine lv_aload_n hx hb dX0_takeOut_45 rfl (lv_at hl 0 rfl) ?_
        refine lv_dup hx hb dX0_takeOut_46 rfl ?_
        refine va_get (D := D) (ci := 0) (v := .int (nI c)) (C := RX0) (T := TX0) (N := 2) hx hb hts hi0 hown hK hP 0 rfl rfl 1 (by decide) hf15 (fun _ h9 => h9) rfl dX0_takeOut_47 ?_
        refine lv_iconst (v := nI 1) hx hb dX0_takeOut_50 (by decide) ?_
        refine vz_sub hx hb dX0_takeOut_51 (by omega) ?_
        refine va_put (D := D) (ci := 0) (v := .int (nI (c - 1))) (ty := .int) (C := RX0) (T := TX0) (N := 2) hx hb hts hi0 tyX0 tyX0_ok nmX0 hown hK hP hD hS 0 rfl rfl 1 (by decide) hf15 (fun _ h9 => h9) rfl (by decide +kernel) rfl rfl (Nat.le_of_ble_eq_true rfl) dX0_takeOut_52 (fun H locs hP hD hS => ?_)
        have hP : va_P D vwCl [(h, .inr (0, [.ref a, .int (nI (c - 1))])), (a, .inl (kA, 24, .inl g))] H := hP
        have hD : va_D Az [(h, .inr (0, [.ref a, .int (nI (c - 1))])), (a, .inl (kA, 24, .inl g))] := hD
        exact vz_vretM hx hb hr hlocks hQ hAe dX0_takeOut_55 hS hP (by rw [hg])
      · skip
        refine lv_aload_n hx hb dX0_takeOut_25 rfl (lv_at hl 0 rfl) ?_
        refine va_get (D := D) (ci := 0) (v := .ref a) (C := RX0) (T := TX0) (N := 2) hx hb hts hi0 hown hK hP 0 rfl rfl 0 (by decide) hf9 (fun _ h9 => h9) rfl dX0_takeOut_26 ?_
        refine lv_iload_n hx hb dX0_takeOut_29 rfl (lv_at hl 2 rfl) ?_
        refine lv_iconst (v := nI 1) hx hb dX0_takeOut_30 (by decide) ?_
        refine vz_sub hx hb dX0_takeOut_31 (by omega) ?_
        refine lv_aload_n hx hb dX0_takeOut_32 rfl (lv_at hl 0 rfl) ?_
        refine va_get (D := D) (ci := 0) (v := .ref a) (C := RX0) (T := TX0) (N := 2) hx hb hts hi0 hown hK hP 0 rfl rfl 0 (by decide) hf9 (fun _ h9 => h9) rfl dX0_takeOut_33 ?_
        refine lv_iload_n hx hb dX0_takeOut_36 rfl (lv_at hl 2 rfl) ?_
        refine vz_ald hx hb hK hP 1 rfl (by omega) (Nat.le_of_ble_eq_true rfl) dX0_takeOut_37 ?_
        refine vz_ast hx hb hK hP hD hS 1 rfl (by omega) (Nat.le_of_ble_eq_true rfl) dX0_takeOut_38 (fun H locs hP hD hS => ?_)
        have hP : va_P D vwCl [(h, .inr (0, [.ref a, .int (nI c)])), (a, .inl (kA, 24, .inl (upd g (i - 1) (g i))))] H := hP
        have hD : va_D Az [(h, .inr (0, [.ref a, .int (nI c)])), (a, .inl (kA, 24, .inl (upd g (i - 1) (g i))))] := hD
        refine lv_iinc (v := (nI (i + 1))) (lv' := [(2, .int (nI (i + 1))), (0, .ref h), (1, .int (nI k))]) hx hb dX0_takeOut_39 hl (k := 2) rfl (nI_1 _) (by decide) rfl (fun ls hl => ?_)
        refine lv_goto (tgt := 17) hx hb dX0_takeOut_42 (by decide) ?_
        exact ih1 (i + 1) _ _ _ _ (by omega) (by omega) (by omega) (by rw [hg]; exact zsh_s h1) hP (vz_D hD rfl) hS (lv_sub hl [1, 2, 0] rfl)
  exact lp1 _ (k + 1) f _ _ _ (Nat.lt_succ_self _) (by omega) (by omega) zsh_0.symm hP (vz_D hD rfl) hS (lv_sub hl [1, 2, 0] rfl)
set_option maxHeartbeats 4000000 in
set_option maxRecDepth 100000 in
theorem c_X0_copyFrom (l : Launch) (D : va_G) (kA : ClassId) (h a c : Nat) (f : Nat → Int32) (h2 a2 c2 : Nat) (f2 : Nat → Int32) (hc2 : c2 ≤ 24) : vz_MM l yX0_copyFrom wsX0_copyFrom 1 21 [.ref h, .ref h2] D kA [(h, .inr (0, [.ref a, .int (nI c)])), (a, .inl (kA, 24, .inl f)), (h2, .inr (0, [.ref a2, .int (nI c2)])), (a2, .inl (kA, 24, .inl f2))] none [(h, .inr (0, [.ref a, .int (nI c2)])), (a, .inl (kA, 24, .inl (zcp c2 f2 f))), (h2, .inr (0, [.ref a2, .int (nI c2)])), (a2, .inl (kA, 24, .inl f2))] := by
  refine vz_startM (cc := cX0_copyFrom) (maxL := 3) (ret := none) (own := RX0) (by decide) rfl rfl (Nat.le_of_ble_eq_true rfl) ?_
  intro pz ez sz mz below meth cz args Q ls H locs Az hargs hx hb hml hown hts hr hlocks hP hK hD hS hAe hQ hl
  have hcf : CallFix pz mz cz cX0_copyFrom 3 sz args wsX0_copyFrom RX0 := ⟨hx, hb, hml, hown, hts⟩
  have hi0 : ∀ w ∈ u_ws RX0 TX0 2, w ∈ wsX0_copyFrom := by decide +kernel
  have hf15 : (Cond.fieldLink RX0 15 "CubeMin$CubeList" "count" "I").before args sz = true := hts _ (by decide +kernel)
  have hl : lv_has ls 3 [(0, .ref h), (1, .ref h2)] := hl
  refine lv_aload_n hx hb dX0_copyFrom_0 rfl (lv_at hl 0 rfl) ?_
  refine lv_iconst (v := nI 0) hx hb dX0_copyFrom_1 (by decide) ?_
  refine va_put (D := D) (ci := 0) (v := .int (nI 0)) (ty := .int) (C := RX0) (T := TX0) (N := 2) hx hb hts hi0 tyX0 tyX0_ok nmX0 hown hK hP hD hS 0 rfl rfl 1 (by decide) hf15 (fun _ h9 => h9) rfl (by decide +kernel) rfl rfl (Nat.le_of_ble_eq_true rfl) dX0_copyFrom_2 (fun H locs hP hD hS => ?_)
  have hP : va_P D vwCl [(h, .inr (0, [.ref a, .int (nI 0)])), (a, .inl (kA, 24, .inl f)), (h2, .inr (0, [.ref a2, .int (nI c2)])), (a2, .inl (kA, 24, .inl f2))] H := hP
  have hD : va_D Az [(h, .inr (0, [.ref a, .int (nI 0)])), (a, .inl (kA, 24, .inl f)), (h2, .inr (0, [.ref a2, .int (nI c2)])), (a2, .inl (kA, 24, .inl f2))] := hD
  refine lv_iconst (v := nI 0) hx hb dX0_copyFrom_5 (by decide) ?_
  refine lv_istore_n (lv' := [(2, .int (nI 0)), (0, .ref h), (1, .ref h2)]) hx hb dX0_copyFrom_6 rfl hl (by decide) rfl (fun ls hl => ?_)
  have lp1 : ∀ (dz : Nat) (i : Nat) (g : Nat → Int32) (H : Heap) (locs : List Loc) (ls : Array Slot), (c2 - i) < dz → (i ≤ c2) → (g = zcp i f2 f) → va_P D vwCl [(h, .inr (0, [.ref a, .int (nI i)])), (a, .inl (kA, 24, .inl g)), (h2, .inr (0, [.ref a2, .int (nI c2)])), (a2, .inl (kA, 24, .inl f2))] H → va_D Az [(h, .inr (0, [.ref a, .int (nI i)])), (a, .inl (kA, 24, .inl g)), (h2, .inr (0, [.ref a2, .int (nI c2)])), (a2, .inl (kA, 24, .inl f2))] → va_S Az sz.heap H locs → lv_has ls 3 [(0, .ref h), (1, .ref h2), (2, .int (nI i))] → W pz l ez (vz_R 1 21) sz mz args below meth cz H locs 0 0 Q (F0 mz 7 ls []) := by
    intro dz
    induction dz with
    | zero => intro i g H locs ls hd h1 hg hP hD hS hl; exact absurd hd (Nat.not_lt_zero _)
    | succ dz ih1 =>
      intro i g H locs ls hd h1 hg hP hD hS hl
      refine lv_iload_n hx hb dX0_copyFrom_7 rfl (lv_at hl 2 rfl) ?_
      refine lv_aload_n hx hb dX0_copyFrom_8 rfl (lv_at hl 1 rfl) ?_
      refine vz_callV (n := 0) (As := []) (rest := [.int (nI i)]) (q0 := 0) hcf (c_X0_length l D kA h2 a2 c2 f2 hc2) gX0_copyFrom_X0_length rfl hd_X0_length ⟨Nat.le_of_ble_eq_true rfl, Nat.le_of_ble_eq_true rfl⟩ hK (hP.sub [2, 3] rfl) rfl rfl rfl rfl hl.1 rfl (Nat.le_of_ble_eq_true rfl) ⟨Nat.zero_le _, Nat.zero_le _⟩ dX0_copyFrom_9 ?_
      refine vz_cge (tgt := 31) hx hb dX0_copyFrom_12 (by decide) (by omega) (by omega) (fun c_12 => ?_) (fun c_12 => ?_)
      · skip
        obtain rfl : c2 = i := by omega
        subst hg
        exact vz_vretM hx hb hr hlocks hQ hAe dX0_copyFrom_31 hS hP rfl
      · skip
        refine lv_aload_n hx hb dX0_copyFrom_15 rfl (lv_at hl 0 rfl) ?_
        refine lv_aload_n hx hb dX0_copyFrom_16 rfl (lv_at hl 1 rfl) ?_
        refine lv_iload_n hx hb dX0_copyFrom_17 rfl (lv_at hl 2 rfl) ?_
        refine vz_callV (n := 1) (As := [.int (nI i)]) (rest := [.ref h]) (q0 := 0) hcf (c_X0_at l D kA h2 a2 c2 f2 hc2 (nI i)) gX0_copyFrom_X0_at rfl hd_X0_at ⟨Nat.le_of_ble_eq_true rfl, Nat.le_of_ble_eq_true rfl⟩ hK (hP.sub [2, 3] rfl) rfl rfl rfl rfl hl.1 rfl (Nat.le_of_ble_eq_true rfl) ⟨Nat.zero_le _, Nat.zero_le _⟩ dX0_copyFrom_18 ?_
        refine vz_top (y := (f2 i)) (zat_nI c_12 hc2) ?_
        refine vz_callM (n := 1) (As := [.int (f2 i)]) (rest := []) (q0 := 0) hcf (c_X0_append l D kA h a i g (by omega) (f2 i)) gX0_copyFrom_X0_append rfl hd_X0_append ⟨Nat.le_of_ble_eq_true rfl, Nat.le_of_ble_eq_true rfl⟩ hK hP hD hS [0, 1] (by decide) rfl rfl rfl rfl rfl rfl rfl hl.1 rfl (Nat.le_of_ble_eq_true rfl) ⟨Nat.zero_le _, Nat.zero_le _⟩ dX0_copyFrom_21 (fun H locs hP hD hS => ?_)
        have hP : va_P D vwCl [(h, .inr (0, [.ref a, .int (nI (i + 1))])), (a, .inl (kA, 24, .inl (upd g i (f2 i)))), (h2, .inr (0, [.ref a2, .int (nI c2)])), (a2, .inl (kA, 24, .inl f2))] H := hP
        have hD : va_D Az [(h, .inr (0, [.ref a, .int (nI (i + 1))])), (a, .inl (kA, 24, .inl (upd g i (f2 i)))), (h2, .inr (0, [.ref a2, .int (nI c2)])), (a2, .inl (kA, 24, .inl f2))] := hD
        refine lv_pop hx hb dX0_copyFrom_24 rfl ?_
        refine lv_iinc (v := (nI (i + 1))) (lv' := [(2, .int (nI (i + 1))), (0, .ref h), (1, .ref h2)]) hx hb dX0_copyFrom_25 hl (k := 2) rfl (nI_1 _) (by decide) rfl (fun ls hl => ?_)
        refine lv_goto (tgt := 7) hx hb dX0_copyFrom_28 (by decide) ?_
        exact ih1 (i + 1) _ _ _ _ (by omega) (by omega) (by rw [hg]; exact zcp_s) hP (vz_D hD rfl) hS (lv_sub hl [1, 2, 0] rfl)
  exact lp1 _ 0 f _ _ _ (Nat.lt_succ_self _) (by omega) zcp_0.symm hP (vz_D hD rfl) hS (lv_sub hl [1, 2, 0] rfl)
end
section
/-! What the class's own methods do with the lists and the holders. -/
def zown (n : Nat) (fp fk fh : Nat → Int32) (x : Int32) : Int32 := orI (zN n) (fun p => decide (fk p = nI 1) && (decide (fh p = nI 1) && zX_in fp x p)) fp
def zhc (N : Nat) (fp f h0 : Nat → Int32) : Nat → Nat → Int32
  | 0 => h0
  | k + 1 => zad N (zX_in fp (f k)) (nI 1) (zhc N fp f h0 k)
def zdr (n : Nat) (fp fk : Nat → Int32) : Nat → Nat × (Nat → Int32) × (Nat → Int32) → Nat × (Nat → Int32) × (Nat → Int32)
  | 0, st => st
  | k + 1, st => zdr n fp fk k (if zown n fp fk st.2.2 (st.2.1 k) = 0 then (st.1 - 1, zsh st.2.1 k st.1, zad (zN n) (zX_in fp (st.2.1 k)) (-1) st.2.2) else st)
def zdn_ (n : Nat) (fp fk : Nat → Int32) (c : Nat) (f fh : Nat → Int32) : Nat × (Nat → Int32) × (Nat → Int32) := zdr n fp fk c (c, f, zhc (zN n) fp f (zmk 256 (fun _ => true) (nI 0) fh) c)
def znr (n : Nat) (fp fk f h0 : Nat → Int32) : Nat → (Nat → Int32) × (Nat → Int32)
  | 0 => (f, h0)
  | k + 1 => (upd (znr n fp fk f h0 k).1 k (zown n fp fk (znr n fp fk f h0 k).2 ((znr n fp fk f h0 k).1 k)), zad (zN n) (zX_in fp (zown n fp fk (znr n fp fk f h0 k).2 ((znr n fp fk f h0 k).1 k))) (nI 1) (zad (zN n) (zX_in fp ((znr n fp fk f h0 k).1 k)) (-1) (znr n fp fk f h0 k).2))
def znw (n : Nat) (fp fk : Nat → Int32) (c : Nat) (f fh : Nat → Int32) : (Nat → Int32) × (Nat → Int32) := znr n fp fk f (zhc (zN n) fp f (zmk 256 (fun _ => true) (nI 0) fh) c) c
def zps (n : Nat) (fp fk : Nat → Int32) (asc : Bool) (c : Nat) (f fh : Nat → Int32) : Nat × (Nat → Int32) × (Nat → Int32) := zdn_ n fp fk c (zcp c (fun q => zwd n (ztch n fk (zX_in fp)) asc n (f q)) f) fh
theorem zdr_le {n : Nat} {fp fk : Nat → Int32} : ∀ (k : Nat) (st : Nat × (Nat → Int32) × (Nat → Int32)), (zdr n fp fk k st).1 ≤ st.1 := by
  intro k
  induction k with
  | zero => intro st; exact Nat.le_refl _
  | succ k ih =>
    intro st
    rw [zdr]
    refine Nat.le_trans (ih _) ?_
    split
    · exact Nat.sub_le _ _
    · exact Nat.le_refl _
theorem zps_le {n : Nat} {fp fk : Nat → Int32} {asc : Bool} {c : Nat} {f fh : Nat → Int32} : (zps n fp fk asc c f fh).1 ≤ c := zdr_le c _
/-- the points' cubes: input i is added to the first p of the 2^i points and their doubles -/
def zpo (i p : Nat) (g : Nat → Int32) : Nat → Int32 := fun q => if q < p then g q ||| nI 1 <<< (nI (2 * i) &&& 31) else if zN i ≤ q ∧ q < zN i + p then g (q - zN i) ||| nI 2 <<< (nI (2 * i) &&& 31) else g q
def zpf (f : Nat → Int32) : Nat → Nat → Int32
  | 0 => upd f 0 (nI 0)
  | i + 1 => zpo i (zN i) (zpf f i)
theorem zN_half {i : Nat} (h : i < 8) : zN i ≤ 128 := Nat.pow_le_pow_right (n := 2) (by omega) (show i ≤ 7 by omega)
theorem zpo_0 {i : Nat} {g : Nat → Int32} : zpo i 0 g = g := by
  funext q
  simp only [zpo]
  rw [if_neg (by omega), if_neg (by omega)]
theorem zpo_at {i p : Nat} {g : Nat → Int32} (h : p < zN i) : zpo i p g p = g p := by
  simp only [zpo]
  rw [if_neg (by omega), if_neg (by omega)]
theorem zpo_s {i p : Nat} {g : Nat → Int32} (h : p < zN i) : upd (upd (zpo i p g) (p + zN i) (g p ||| nI 2 <<< (nI (2 * i) &&& 31))) p (g p ||| nI 1 <<< (nI (2 * i) &&& 31)) = zpo i (p + 1) g := by
  funext q
  by_cases e1 : q = p
  · subst e1
    simp only [upd, zpo, if_true]
    rw [if_pos (by omega)]
  · by_cases e2 : q = p + zN i
    · subst e2
      simp only [upd, zpo, if_true, if_neg e1]
      rw [if_neg (by omega), if_pos (by omega), Nat.add_sub_cancel]
    · simp only [upd, zpo, if_neg e1, if_neg e2]
      by_cases h1 : q < p
      · rw [if_pos h1, if_pos (by omega)]
      · rw [if_neg h1, if_neg (show ¬ q < p + 1 by omega)]
        by_cases h2 : zN i ≤ q ∧ q < zN i + p
        · rw [if_pos h2, if_pos (by omega)]
        · rw [if_neg h2, if_neg (by omega)]
/-- the cubes of the first k places of f0 that are not void, behind each other -/
def zfc (n : Nat) (f0 f2 : Nat → Int32) : Nat → Nat × (Nat → Int32)
  | 0 => (0, f2)
  | k + 1 => if zvoid n (f0 k) = true then zfc n f0 f2 k else ((zfc n f0 f2 k).1 + 1, upd (zfc n f0 f2 k).2 (zfc n f0 f2 k).1 (f0 k))
theorem zfc_le {n : Nat} {f0 f2 : Nat → Int32} : ∀ k, (zfc n f0 f2 k).1 ≤ k := by
  intro k
  induction k with
  | zero => exact Nat.le_refl _
  | succ k ih =>
    rw [zfc]
    split
    · exact Nat.le_succ_of_le ih
    · exact Nat.succ_le_succ ih
/-- one list's cubes fewer, or as many and fewer literals -/
def zsm (n c : Nat) (f : Nat → Int32) (c2 : Nat) (f2 : Nat → Int32) : Bool := if c = c2 then decide (zlits n c f < zlits n c2 f2) else decide (c < c2)
/-- a round: the state is COVER (2), the trial list (3), the holders -/
abbrev zS5 : Type := Nat × (Nat → Int32) × Nat × (Nat → Int32) × (Nat → Int32)
def zr1 (n : Nat) (fp fk : Nat → Int32) (r : Nat) (st : zS5) : Nat × (Nat → Int32) × (Nat → Int32) := zps n fp fk (decide (r % 2 = 0)) st.1 (znw n fp fk st.1 (zcp st.1 st.2.1 st.2.2.2.1) st.2.2.2.2).1 (znw n fp fk st.1 (zcp st.1 st.2.1 st.2.2.2.1) st.2.2.2.2).2
def zrb (n : Nat) (fp fk : Nat → Int32) (r : Nat) (st : zS5) : Bool := zsm n (zr1 n fp fk r st).1 (zr1 n fp fk r st).2.1 st.1 st.2.1
def zr2 (n : Nat) (fp fk : Nat → Int32) (r : Nat) (st : zS5) : zS5 := if zrb n fp fk r st = true then ((zr1 n fp fk r st).1, zcp (zr1 n fp fk r st).1 (zr1 n fp fk r st).2.1 st.2.1, (zr1 n fp fk r st).1, (zr1 n fp fk r st).2.1, (zr1 n fp fk r st).2.2) else (st.1, st.2.1, (zr1 n fp fk r st).1, (zr1 n fp fk r st).2.1, (zr1 n fp fk r st).2.2)
/-- the rounds from r on, k of them at most -/
def zrs (n : Nat) (fp fk : Nat → Int32) : Nat → Nat → Bool → zS5 → zS5
  | 0, _, _, st => st
  | k + 1, r, b, st => if b = true then zrs n fp fk k (r + 1) (zrb n fp fk r st) (zr2 n fp fk r st) else st
def zmz0 (n : Nat) (fp fk : Nat → Int32) (c0 : Nat) (f0 f2 fh : Nat → Int32) : Nat × (Nat → Int32) × (Nat → Int32) := zps n fp fk true (zfc n f0 f2 c0).1 (zfc n f0 f2 c0).2 fh
def zmz (n : Nat) (fp fk : Nat → Int32) (c0 : Nat) (f0 f2 : Nat → Int32) (c3 : Nat) (f3 fh : Nat → Int32) : zS5 := zrs n fp fk 8 1 true ((zmz0 n fp fk c0 f0 f2 fh).1, (zmz0 n fp fk c0 f0 f2 fh).2.1, c3, f3, (zmz0 n fp fk c0 f0 f2 fh).2.2)
theorem zmod2 : ∀ r, r ≤ 8 → nI r - nI r / nI 2 * nI 2 = nI (r % 2) := fun r h => pk_rem (by omega) (by decide) (by decide)
end
section
set_option maxHeartbeats 4000000 in
set_option maxRecDepth 100000 in
theorem c_X1_pointCount (l : Launch) (D : va_G) (kA : ClassId) (ad : Nat → Nat) (n : Nat) (fp fk fh : Nat → Int32) (hn : n ≤ 8) : vz_M l yX1_pointCount wsX1_pointCount 0 0 [.ref (ad 0)] D kA [(ad 0, .inr (1, [.ref (ad 1), .ref (ad 2), .ref (ad 3), .ref (ad 4), .ref (ad 5), .ref (ad 6), .ref (ad 7), .int (nI n)])), (ad 5, .inl (kA, 256, .inl fp)), (ad 6, .inl (kA, 256, .inl fk)), (ad 7, .inl (kA, 256, .inl fh))] (some (.int (nI (zN n)))) := by
  refine vz_start (cc := cX1_pointCount) (maxL := 1) (ret := (some .int)) (own := RX1) (by decide) rfl rfl (Nat.le_of_ble_eq_true rfl) ?_
  intro pz ez sz mz below meth cz args Q ls hargs hx hb hml hown hts hr hlocks hP hK hQ hl
  have hcf : CallFix pz mz cz cX1_pointCount 1 sz args wsX1_pointCount RX1 := ⟨hx, hb, hml, hown, hts⟩
  have hi0 : ∀ w ∈ u_ws RX1 TX1 8, w ∈ wsX1_pointCount := by decide +kernel
  have hf39 : (Cond.fieldLink RX1 39 "CubeMin" "inputCount" "I").before args sz = true := hts _ (by decide +kernel)
  have hl : lv_has ls 1 [(0, .ref (ad 0))] := hl
  refine lv_iconst (v := nI 1) hx hb dX1_pointCount_0 (by decide) ?_
  refine lv_aload_n hx hb dX1_pointCount_1 rfl (lv_at hl 0 rfl) ?_
  refine va_get (D := D) (ci := 1) (v := .int (nI n)) (C := RX1) (T := TX1) (N := 8) hx hb hts hi0 hown hK hP 0 rfl rfl 7 (by decide) hf39 (fun _ h9 => h9) rfl dX1_pointCount_2 ?_
  refine lv_ishl hx hb dX1_pointCount_5 ?_
  refine vz_top (y := (nI (zN n))) (zN_sh n hn) ?_
  exact vz_iret hx hb hr hlocks hQ (vp_nar_int _) dX1_pointCount_6 rfl
set_option maxHeartbeats 4000000 in
set_option maxRecDepth 100000 in
theorem c_X1_isPoint (l : Launch) (D : va_G) (kA : ClassId) (ad : Nat → Nat) (n : Nat) (fp fk fh : Nat → Int32) (hn : n ≤ 8) (x : Int32) : vz_M l yX1_isPoint wsX1_isPoint 1 20 [.ref (ad 0), .int x] D kA [(ad 0, .inr (1, [.ref (ad 1), .ref (ad 2), .ref (ad 3), .ref (ad 4), .ref (ad 5), .ref (ad 6), .ref (ad 7), .int (nI n)])), (ad 5, .inl (kA, 256, .inl fp)), (ad 6, .inl (kA, 256, .inl fk)), (ad 7, .inl (kA, 256, .inl fh))] (some (.int (vz_b (!decide (x < 0) && !decide (nI (zN n) ≤ x))))) := by
  refine vz_start (cc := cX1_isPoint) (maxL := 2) (ret := (some .boolean)) (own := RX1) (by decide) rfl rfl (Nat.le_of_ble_eq_true rfl) ?_
  intro pz ez sz mz below meth cz args Q ls hargs hx hb hml hown hts hr hlocks hP hK hQ hl
  have hcf : CallFix pz mz cz cX1_isPoint 2 sz args wsX1_isPoint RX1 := ⟨hx, hb, hml, hown, hts⟩
  have hl : lv_has ls 2 [(0, .ref (ad 0)), (1, .int x)] := hl
  have hN := zN_le hn
  refine lv_iload_n hx hb dX1_isPoint_0 rfl (lv_at hl 1 rfl) ?_
  refine lv_if_lt (tgt := 16) hx hb dX1_isPoint_1 (by decide) (fun c_1 => ?_) (fun c_1 => ?_)
  · skip
    refine lv_iconst (v := nI 0) hx hb dX1_isPoint_16 (by decide) ?_
    exact vz_iret hx hb hr hlocks hQ (rfl) dX1_isPoint_17 (by first | simp [c_1, c_9]; rfl | simp [c_1]; rfl)
  · skip
    refine lv_iload_n hx hb dX1_isPoint_4 rfl (lv_at hl 1 rfl) ?_
    refine lv_aload_n hx hb dX1_isPoint_5 rfl (lv_at hl 0 rfl) ?_
    refine vz_callV (n := 0) (As := []) (rest := [.int x]) (q0 := 0) hcf (c_X1_pointCount l D kA ad n fp fk fh hn) gX1_isPoint_X1_pointCount rfl hd_X1_pointCount ⟨Nat.le_of_ble_eq_true rfl, Nat.le_of_ble_eq_true rfl⟩ hK (hP.sub [0, 1, 2, 3] rfl) rfl rfl rfl rfl hl.1 rfl (Nat.le_of_ble_eq_true rfl) ⟨Nat.zero_le _, Nat.zero_le _⟩ dX1_isPoint_6 ?_
    refine lv_icmp_ge (tgt := 16) hx hb dX1_isPoint_9 (by decide) (fun c_9 => ?_) (fun c_9 => ?_)
    · skip
      refine lv_iconst (v := nI 0) hx hb dX1_isPoint_16 (by decide) ?_
      exact vz_iret hx hb hr hlocks hQ (rfl) dX1_isPoint_17 (by first | simp [c_1, c_9]; rfl | simp [c_1]; rfl)
    · skip
      refine lv_iconst (v := nI 1) hx hb dX1_isPoint_12 (by decide) ?_
      refine lv_goto (tgt := 17) hx hb dX1_isPoint_13 (by decide) ?_
      exact vz_iret hx hb hr hlocks hQ (rfl) dX1_isPoint_17 (by first | simp [c_1, c_9]; rfl | simp [c_1]; rfl)
set_option maxHeartbeats 4000000 in
set_option maxRecDepth 100000 in
theorem c_X1_isCube (l : Launch) (D : va_G) (kA : ClassId) (ad : Nat → Nat) (n : Nat) (fp fk fh : Nat → Int32) (hn : n ≤ 8) (x : Int32) : vz_M l yX1_isCube wsX1_isCube 0 0 [.ref (ad 0), .int x] D kA [(ad 0, .inr (1, [.ref (ad 1), .ref (ad 2), .ref (ad 3), .ref (ad 4), .ref (ad 5), .ref (ad 6), .ref (ad 7), .int (nI n)])), (ad 5, .inl (kA, 256, .inl fp)), (ad 6, .inl (kA, 256, .inl fk)), (ad 7, .inl (kA, 256, .inl fh))] (some (.int (vz_b (!decide (x < 0) && !decide (nI (4 ^ n) ≤ x))))) := by
  refine vz_start (cc := cX1_isCube) (maxL := 2) (ret := (some .boolean)) (own := RX1) (by decide) rfl rfl (Nat.le_of_ble_eq_true rfl) ?_
  intro pz ez sz mz below meth cz args Q ls hargs hx hb hml hown hts hr hlocks hP hK hQ hl
  have hcf : CallFix pz mz cz cX1_isCube 2 sz args wsX1_isCube RX1 := ⟨hx, hb, hml, hown, hts⟩
  have hi0 : ∀ w ∈ u_ws RX1 TX1 8, w ∈ wsX1_isCube := by decide +kernel
  have hf39 : (Cond.fieldLink RX1 39 "CubeMin" "inputCount" "I").before args sz = true := hts _ (by decide +kernel)
  have hl : lv_has ls 2 [(0, .ref (ad 0)), (1, .int x)] := hl
  refine lv_iload_n hx hb dX1_isCube_0 rfl (lv_at hl 1 rfl) ?_
  refine lv_if_lt (tgt := 20) hx hb dX1_isCube_1 (by decide) (fun c_1 => ?_) (fun c_1 => ?_)
  · skip
    refine lv_iconst (v := nI 0) hx hb dX1_isCube_20 (by decide) ?_
    exact vz_iret hx hb hr hlocks hQ (rfl) dX1_isCube_21 (by first | simp [c_1, c_13]; rfl | simp [c_1]; rfl)
  · skip
    refine lv_iload_n hx hb dX1_isCube_4 rfl (lv_at hl 1 rfl) ?_
    refine lv_iconst (v := nI 1) hx hb dX1_isCube_5 (by decide) ?_
    refine lv_iconst (v := nI 2) hx hb dX1_isCube_6 (by decide) ?_
    refine lv_aload_n hx hb dX1_isCube_7 rfl (lv_at hl 0 rfl) ?_
    refine va_get (D := D) (ci := 1) (v := .int (nI n)) (C := RX1) (T := TX1) (N := 8) hx hb hts hi0 hown hK hP 0 rfl rfl 7 (by decide) hf39 (fun _ h9 => h9) rfl dX1_isCube_8 ?_
    refine vz_mul hx hb dX1_isCube_11 ?_
    refine lv_ishl hx hb dX1_isCube_12 ?_
    refine vz_top (y := (nI (4 ^ n))) (zN4_sh n hn) ?_
    refine lv_icmp_ge (tgt := 20) hx hb dX1_isCube_13 (by decide) (fun c_13 => ?_) (fun c_13 => ?_)
    · skip
      refine lv_iconst (v := nI 0) hx hb dX1_isCube_20 (by decide) ?_
      exact vz_iret hx hb hr hlocks hQ (rfl) dX1_isCube_21 (by first | simp [c_1, c_13]; rfl | simp [c_1]; rfl)
    · skip
      refine lv_iconst (v := nI 1) hx hb dX1_isCube_16 (by decide) ?_
      refine lv_goto (tgt := 21) hx hb dX1_isCube_17 (by decide) ?_
      exact vz_iret hx hb hr hlocks hQ (rfl) dX1_isCube_21 (by first | simp [c_1, c_13]; rfl | simp [c_1]; rfl)
set_option maxHeartbeats 4000000 in
set_option maxRecDepth 100000 in
theorem c_X1_freed (l : Launch) (D : va_G) (kA : ClassId) (x : Int32) (i : Nat) : vz_M l yX1_freed wsX1_freed 0 0 [.int x, .int (nI i)] D kA [] (some (.int (zfr x i))) := by
  refine vz_start (cc := cX1_freed) (maxL := 2) (ret := (some .int)) (own := RX1) (by decide) rfl rfl (Nat.le_of_ble_eq_true rfl) ?_
  intro pz ez sz mz below meth cz args Q ls hargs hx hb hml hown hts hr hlocks hP hK hQ hl
  have hcf : CallFix pz mz cz cX1_freed 2 sz args wsX1_freed RX1 := ⟨hx, hb, hml, hown, hts⟩
  have hl : lv_has ls 2 [(0, .int x), (1, .int (nI i))] := hl
  refine lv_iload_n hx hb dX1_freed_0 rfl (lv_at hl 0 rfl) ?_
  refine lv_iconst (v := nI 3) hx hb dX1_freed_1 (by decide) ?_
  refine lv_iconst (v := nI 2) hx hb dX1_freed_2 (by decide) ?_
  refine lv_iload_n hx hb dX1_freed_3 rfl (lv_at hl 1 rfl) ?_
  refine vz_mul hx hb dX1_freed_4 ?_
  refine lv_ishl hx hb dX1_freed_5 ?_
  refine lv_ior hx hb dX1_freed_6 ?_
  exact vz_iret hx hb hr hlocks hQ (vp_nar_int _) dX1_freed_7 rfl
set_option maxHeartbeats 4000000 in
set_option maxRecDepth 100000 in
theorem c_X1_isVoid (l : Launch) (D : va_G) (kA : ClassId) (ad : Nat → Nat) (n : Nat) (fp fk fh : Nat → Int32) (hn : n ≤ 8) (x : Int32) : vz_M l yX1_isVoid wsX1_isVoid 0 0 [.ref (ad 0), .int x] D kA [(ad 0, .inr (1, [.ref (ad 1), .ref (ad 2), .ref (ad 3), .ref (ad 4), .ref (ad 5), .ref (ad 6), .ref (ad 7), .int (nI n)])), (ad 5, .inl (kA, 256, .inl fp)), (ad 6, .inl (kA, 256, .inl fk)), (ad 7, .inl (kA, 256, .inl fh))] (some (.int (vz_b (zvoid n x)))) := by
  refine vz_start (cc := cX1_isVoid) (maxL := 3) (ret := (some .boolean)) (own := RX1) (by decide) rfl rfl (Nat.le_of_ble_eq_true rfl) ?_
  intro pz ez sz mz below meth cz args Q ls hargs hx hb hml hown hts hr hlocks hP hK hQ hl
  have hcf : CallFix pz mz cz cX1_isVoid 3 sz args wsX1_isVoid RX1 := ⟨hx, hb, hml, hown, hts⟩
  have hi0 : ∀ w ∈ u_ws RX1 TX1 8, w ∈ wsX1_isVoid := by decide +kernel
  have hf39 : (Cond.fieldLink RX1 39 "CubeMin" "inputCount" "I").before args sz = true := hts _ (by decide +kernel)
  have hl : lv_has ls 3 [(0, .ref (ad 0)), (1, .int x)] := hl
  refine lv_iconst (v := nI 0) hx hb dX1_isVoid_0 (by decide) ?_
  refine lv_istore_n (lv' := [(2, .int (nI 0)), (0, .ref (ad 0)), (1, .int x)]) hx hb dX1_isVoid_1 rfl hl (by decide) rfl (fun ls hl => ?_)
  have lp1 : ∀ (dz : Nat) (i : Nat) (ls : Array Slot), (n - i) < dz → (i ≤ n) → (∀ j, j < i → decide (x >>> (nI (2 * j) &&& 31) &&& nI 3 = 0) = false) → lv_has ls 3 [(0, .ref (ad 0)), (1, .int x), (2, .int (nI i))] → W pz l ez (vz_R 0 0) sz mz args below meth cz sz.heap [] 0 0 Q (F0 mz 2 ls []) := by
    intro dz
    induction dz with
    | zero => intro i ls hd h1 h2 hl; exact absurd hd (Nat.not_lt_zero _)
    | succ dz ih1 =>
      intro i ls hd h1 h2 hl
      refine lv_iload_n hx hb dX1_isVoid_2 rfl (lv_at hl 2 rfl) ?_
      refine lv_aload_n hx hb dX1_isVoid_3 rfl (lv_at hl 0 rfl) ?_
      refine va_get (D := D) (ci := 1) (v := .int (nI n)) (C := RX1) (T := TX1) (N := 8) hx hb hts hi0 hown hK hP 0 rfl rfl 7 (by decide) hf39 (fun _ h9 => h9) rfl dX1_isVoid_4 ?_
      refine vz_cge (tgt := 28) hx hb dX1_isVoid_7 (by decide) (by omega) (by omega) (fun c_7 => ?_) (fun c_7 => ?_)
      · skip
        refine lv_iconst (v := nI 0) hx hb dX1_isVoid_28 (by decide) ?_
        exact vz_iret hx hb hr hlocks hQ (rfl) dX1_isVoid_29 ((congrArg vz_b (exB_f (fun j hj => h2 j (by omega)))).symm)
      · skip
        refine lv_iload_n hx hb dX1_isVoid_10 rfl (lv_at hl 1 rfl) ?_
        refine lv_iconst (v := nI 2) hx hb dX1_isVoid_11 (by decide) ?_
        refine lv_iload_n hx hb dX1_isVoid_12 rfl (lv_at hl 2 rfl) ?_
        refine vz_mul hx hb dX1_isVoid_13 ?_
        refine lv_ishr hx hb dX1_isVoid_14 ?_
        refine lv_iconst (v := nI 3) hx hb dX1_isVoid_15 (by decide) ?_
        refine lv_iand hx hb dX1_isVoid_16 ?_
        refine lv_if_ne (tgt := 22) hx hb dX1_isVoid_17 (by decide) (fun c_17 => ?_) (fun c_17 => ?_)
        · skip
          refine lv_iinc (v := (nI (i + 1))) (lv' := [(2, .int (nI (i + 1))), (0, .ref (ad 0)), (1, .int x)]) hx hb dX1_isVoid_22 hl (k := 2) rfl (nI_1 _) (by decide) rfl (fun ls hl => ?_)
          refine lv_goto (tgt := 2) hx hb dX1_isVoid_25 (by decide) ?_
          exact ih1 (i + 1) _ (by omega) (by omega) (lt_sB h2 (decide_eq_false c_17)) (lv_sub hl [1, 2, 0] rfl)
        · skip
          refine lv_iconst (v := nI 1) hx hb dX1_isVoid_20 (by decide) ?_
          exact vz_iret hx hb hr hlocks hQ (rfl) dX1_isVoid_21 ((congrArg vz_b (exB_t c_7 (decide_eq_true c_17))).symm)
  exact lp1 _ 0 _ (Nat.lt_succ_self _) (by omega) lt_0B (lv_sub hl [1, 2, 0] rfl)
set_option maxHeartbeats 4000000 in
set_option maxRecDepth 100000 in
theorem c_X1_isInCube (l : Launch) (D : va_G) (kA : ClassId) (ad : Nat → Nat) (n : Nat) (fp fk fh : Nat → Int32) (hn : n ≤ 8) (x : Int32) (p : Nat) (hp : p < 256) : vz_M l yX1_isInCube wsX1_isInCube 0 0 [.ref (ad 0), .int x, .int (nI p)] D kA [(ad 0, .inr (1, [.ref (ad 1), .ref (ad 2), .ref (ad 3), .ref (ad 4), .ref (ad 5), .ref (ad 6), .ref (ad 7), .int (nI n)])), (ad 5, .inl (kA, 256, .inl fp)), (ad 6, .inl (kA, 256, .inl fk)), (ad 7, .inl (kA, 256, .inl fh))] (some (.int (vz_b (zX_in fp x p)))) := by
  refine vz_start (cc := cX1_isInCube) (maxL := 3) (ret := (some .boolean)) (own := RX1) (by decide) rfl rfl (Nat.le_of_ble_eq_true rfl) ?_
  intro pz ez sz mz below meth cz args Q ls hargs hx hb hml hown hts hr hlocks hP hK hQ hl
  have hcf : CallFix pz mz cz cX1_isInCube 3 sz args wsX1_isInCube RX1 := ⟨hx, hb, hml, hown, hts⟩
  have hi0 : ∀ w ∈ u_ws RX1 TX1 8, w ∈ wsX1_isInCube := by decide +kernel
  have hf25 : (Cond.fieldLink RX1 25 "CubeMin" "pointCubes" "[I").before args sz = true := hts _ (by decide +kernel)
  have hl : lv_has ls 3 [(0, .ref (ad 0)), (1, .int x), (2, .int (nI p))] := hl
  refine lv_aload_n hx hb dX1_isInCube_0 rfl (lv_at hl 0 rfl) ?_
  refine va_get (D := D) (ci := 1) (v := .ref (ad 5)) (C := RX1) (T := TX1) (N := 8) hx hb hts hi0 hown hK hP 0 rfl rfl 4 (by decide) hf25 (fun _ h9 => h9) rfl dX1_isInCube_1 ?_
  refine lv_iload_n hx hb dX1_isInCube_4 rfl (lv_at hl 2 rfl) ?_
  refine vz_ald hx hb hK hP 1 rfl (by omega) (Nat.le_of_ble_eq_true rfl) dX1_isInCube_5 ?_
  refine lv_iload_n hx hb dX1_isInCube_6 rfl (lv_at hl 1 rfl) ?_
  refine lv_iconst (v := -1) hx hb dX1_isInCube_7 (by decide) ?_
  refine lv_ixor hx hb dX1_isInCube_8 ?_
  refine lv_iand hx hb dX1_isInCube_9 ?_
  refine lv_if_ne (tgt := 17) hx hb dX1_isInCube_10 (by decide) (fun c_10 => ?_) (fun c_10 => ?_)
  · skip
    refine lv_iconst (v := nI 0) hx hb dX1_isInCube_17 (by decide) ?_
    exact vz_iret hx hb hr hlocks hQ (rfl) dX1_isInCube_18 (by simp only [zX_in, c_10]; rfl)
  · skip
    refine lv_iconst (v := nI 1) hx hb dX1_isInCube_13 (by decide) ?_
    refine lv_goto (tgt := 18) hx hb dX1_isInCube_14 (by decide) ?_
    exact vz_iret hx hb hr hlocks hQ (rfl) dX1_isInCube_18 (by simp only [zX_in, c_10]; rfl)
set_option maxHeartbeats 4000000 in
set_option maxRecDepth 100000 in
theorem c_X1_isInList (l : Launch) (D : va_G) (kA : ClassId) (ad : Nat → Nat) (n : Nat) (fp fk fh : Nat → Int32) (hn : n ≤ 8) (h a c : Nat) (f : Nat → Int32) (hc : c ≤ 24) (p : Nat) (hp : p < 256) : vz_M l yX1_isInList wsX1_isInList 1 22 [.ref (ad 0), .ref h, .int (nI p)] D kA [(ad 0, .inr (1, [.ref (ad 1), .ref (ad 2), .ref (ad 3), .ref (ad 4), .ref (ad 5), .ref (ad 6), .ref (ad 7), .int (nI n)])), (ad 5, .inl (kA, 256, .inl fp)), (ad 6, .inl (kA, 256, .inl fk)), (ad 7, .inl (kA, 256, .inl fh)), (h, .inr (0, [.ref a, .int (nI c)])), (a, .inl (kA, 24, .inl f))] (some (.int (vz_b (zX_inL fp c f p)))) := by
  refine vz_start (cc := cX1_isInList) (maxL := 4) (ret := (some .boolean)) (own := RX1) (by decide) rfl rfl (Nat.le_of_ble_eq_true rfl) ?_
  intro pz ez sz mz below meth cz args Q ls hargs hx hb hml hown hts hr hlocks hP hK hQ hl
  have hcf : CallFix pz mz cz cX1_isInList 4 sz args wsX1_isInList RX1 := ⟨hx, hb, hml, hown, hts⟩
  have hl : lv_has ls 4 [(0, .ref (ad 0)), (1, .ref h), (2, .int (nI p))] := hl
  refine lv_iconst (v := nI 0) hx hb dX1_isInList_0 (by decide) ?_
  refine lv_istore_n (lv' := [(3, .int (nI 0)), (0, .ref (ad 0)), (1, .ref h), (2, .int (nI p))]) hx hb dX1_isInList_1 rfl hl (by decide) rfl (fun ls hl => ?_)
  have lp1 : ∀ (dz : Nat) (i : Nat) (ls : Array Slot), (c - i) < dz → (i ≤ c) → (∀ j, j < i → zX_in fp (f j) p = false) → lv_has ls 4 [(0, .ref (ad 0)), (1, .ref h), (2, .int (nI p)), (3, .int (nI i))] → W pz l ez (vz_R 1 22) sz mz args below meth cz sz.heap [] 0 0 Q (F0 mz 2 ls []) := by
    intro dz
    induction dz with
    | zero => intro i ls hd h1 h2 hl; exact absurd hd (Nat.not_lt_zero _)
    | succ dz ih1 =>
      intro i ls hd h1 h2 hl
      refine lv_iload_n hx hb dX1_isInList_2 rfl (lv_at hl 3 rfl) ?_
      refine lv_aload_n hx hb dX1_isInList_3 rfl (lv_at hl 1 rfl) ?_
      refine vz_callV (n := 0) (As := []) (rest := [.int (nI i)]) (q0 := 0) hcf (c_X0_length l D kA h a c f hc) gX1_isInList_X0_length rfl hd_X0_length ⟨Nat.le_of_ble_eq_true rfl, Nat.le_of_ble_eq_true rfl⟩ hK (hP.sub [4, 5] rfl) rfl rfl rfl rfl hl.1 rfl (Nat.le_of_ble_eq_true rfl) ⟨Nat.zero_le _, Nat.zero_le _⟩ dX1_isInList_4 ?_
      refine vz_cge (tgt := 31) hx hb dX1_isInList_7 (by decide) (by omega) (by omega) (fun c_7 => ?_) (fun c_7 => ?_)
      · skip
        refine lv_iconst (v := nI 0) hx hb dX1_isInList_31 (by decide) ?_
        exact vz_iret hx hb hr hlocks hQ (rfl) dX1_isInList_32 ((congrArg vz_b (exB_f (P := fun k => zX_in fp (f k) p) (fun j hj => h2 j (by omega)))).symm)
      · skip
        refine lv_aload_n hx hb dX1_isInList_10 rfl (lv_at hl 0 rfl) ?_
        refine lv_aload_n hx hb dX1_isInList_11 rfl (lv_at hl 1 rfl) ?_
        refine lv_iload_n hx hb dX1_isInList_12 rfl (lv_at hl 3 rfl) ?_
        refine vz_callV (n := 1) (As := [.int (nI i)]) (rest := [.ref (ad 0)]) (q0 := 0) hcf (c_X0_at l D kA h a c f hc (nI i)) gX1_isInList_X0_at rfl hd_X0_at ⟨Nat.le_of_ble_eq_true rfl, Nat.le_of_ble_eq_true rfl⟩ hK (hP.sub [4, 5] rfl) rfl rfl rfl rfl hl.1 rfl (Nat.le_of_ble_eq_true rfl) ⟨Nat.zero_le _, Nat.zero_le _⟩ dX1_isInList_13 ?_
        refine vz_top (y := (f i)) (zat_nI c_7 hc) ?_
        refine lv_iload_n hx hb dX1_isInList_16 rfl (lv_at hl 2 rfl) ?_
        refine vz_callV (n := 2) (As := [.int (f i), .int (nI p)]) (rest := []) (q0 := 0) hcf (c_X1_isInCube l D kA ad n fp fk fh hn (f i) p hp) gX1_isInList_X1_isInCube rfl hd_X1_isInCube ⟨Nat.le_of_ble_eq_true rfl, Nat.le_of_ble_eq_true rfl⟩ hK (hP.sub [0, 1, 2, 3] rfl) rfl rfl rfl rfl hl.1 rfl (Nat.le_of_ble_eq_true rfl) ⟨Nat.zero_le _, Nat.zero_le _⟩ dX1_isInList_17 ?_
        refine vz_ifeqB (tgt := 25) hx hb dX1_isInList_20 (by decide) (fun c_20 => ?_) (fun c_20 => ?_)
        · skip
          refine lv_iinc (v := (nI (i + 1))) (lv' := [(3, .int (nI (i + 1))), (0, .ref (ad 0)), (1, .ref h), (2, .int (nI p))]) hx hb dX1_isInList_25 hl (k := 3) rfl (nI_1 _) (by decide) rfl (fun ls hl => ?_)
          refine lv_goto (tgt := 2) hx hb dX1_isInList_28 (by decide) ?_
          exact ih1 (i + 1) _ (by omega) (by omega) (lt_sB h2 c_20) (lv_sub hl [1, 2, 3, 0] rfl)
        · skip
          refine lv_iconst (v := nI 1) hx hb dX1_isInList_23 (by decide) ?_
          exact vz_iret hx hb hr hlocks hQ (rfl) dX1_isInList_24 ((congrArg vz_b (exB_t (P := fun k => zX_in fp (f k) p) c_7 c_20)).symm)
  exact lp1 _ 0 _ (Nat.lt_succ_self _) (by omega) lt_0B (lv_sub hl [1, 2, 3, 0] rfl)
set_option maxHeartbeats 4000000 in
set_option maxRecDepth 100000 in
theorem c_X1_countLiterals (l : Launch) (D : va_G) (kA : ClassId) (ad : Nat → Nat) (n : Nat) (fp fk fh : Nat → Int32) (hn : n ≤ 8) (h a c : Nat) (f : Nat → Int32) (hc : c ≤ 24) : vz_M l yX1_countLiterals wsX1_countLiterals 1 21 [.ref (ad 0), .ref h] D kA [(ad 0, .inr (1, [.ref (ad 1), .ref (ad 2), .ref (ad 3), .ref (ad 4), .ref (ad 5), .ref (ad 6), .ref (ad 7), .int (nI n)])), (ad 5, .inl (kA, 256, .inl fp)), (ad 6, .inl (kA, 256, .inl fk)), (ad 7, .inl (kA, 256, .inl fh)), (h, .inr (0, [.ref a, .int (nI c)])), (a, .inl (kA, 24, .inl f))] (some (.int (nI (zlits n c f)))) := by
  refine vz_start (cc := cX1_countLiterals) (maxL := 6) (ret := (some .int)) (own := RX1) (by decide) rfl rfl (Nat.le_of_ble_eq_true rfl) ?_
  intro pz ez sz mz below meth cz args Q ls hargs hx hb hml hown hts hr hlocks hP hK hQ hl
  have hcf : CallFix pz mz cz cX1_countLiterals 6 sz args wsX1_countLiterals RX1 := ⟨hx, hb, hml, hown, hts⟩
  have hi0 : ∀ w ∈ u_ws RX1 TX1 8, w ∈ wsX1_countLiterals := by decide +kernel
  have hf39 : (Cond.fieldLink RX1 39 "CubeMin" "inputCount" "I").before args sz = true := hts _ (by decide +kernel)
  have hl : lv_has ls 6 [(0, .ref (ad 0)), (1, .ref h)] := hl
  refine lv_iconst (v := nI 0) hx hb dX1_countLiterals_0 (by decide) ?_
  refine lv_istore_n (lv' := [(2, .int (nI 0)), (0, .ref (ad 0)), (1, .ref h)]) hx hb dX1_countLiterals_1 rfl hl (by decide) rfl (fun ls hl => ?_)
  refine lv_iconst (v := nI 0) hx hb dX1_countLiterals_2 (by decide) ?_
  refine lv_istore_n (lv' := [(3, .int (nI 0)), (2, .int (nI 0)), (0, .ref (ad 0)), (1, .ref h)]) hx hb dX1_countLiterals_3 rfl hl (by decide) rfl (fun ls hl => ?_)
  have lp1 : ∀ (dz : Nat) (t i : Nat) (ls : Array Slot), (c - i) < dz → (i ≤ c) → (t = smN i (fun k => zlit n (f k))) → lv_has ls 6 [(0, .ref (ad 0)), (1, .ref h), (2, .int (nI t)), (3, .int (nI i))] → W pz l ez (vz_R 1 21) sz mz args below meth cz sz.heap [] 0 0 Q (F0 mz 4 ls []) := by
    intro dz
    induction dz with
    | zero => intro t i ls hd h1 h2 hl; exact absurd hd (Nat.not_lt_zero _)
    | succ dz ih1 =>
      intro t i ls hd h1 h2 hl
      refine lv_iload_n hx hb dX1_countLiterals_4 rfl (lv_at hl 3 rfl) ?_
      refine lv_aload_n hx hb dX1_countLiterals_5 rfl (lv_at hl 1 rfl) ?_
      refine vz_callV (n := 0) (As := []) (rest := [.int (nI i)]) (q0 := 0) hcf (c_X0_length l D kA h a c f hc) gX1_countLiterals_X0_length rfl hd_X0_length ⟨Nat.le_of_ble_eq_true rfl, Nat.le_of_ble_eq_true rfl⟩ hK (hP.sub [4, 5] rfl) rfl rfl rfl rfl hl.1 rfl (Nat.le_of_ble_eq_true rfl) ⟨Nat.zero_le _, Nat.zero_le _⟩ dX1_countLiterals_6 ?_
      refine vz_cge (tgt := 58) hx hb dX1_countLiterals_9 (by decide) (by omega) (by omega) (fun c_9 => ?_) (fun c_9 => ?_)
      · skip
        obtain rfl : c = i := by omega
        refine lv_iload_n hx hb dX1_countLiterals_58 rfl (lv_at hl 2 rfl) ?_
        exact vz_iret hx hb hr hlocks hQ (vp_nar_int _) dX1_countLiterals_59 (by rw [h2]; rfl)
      · skip
        refine lv_aload_n hx hb dX1_countLiterals_12 rfl (lv_at hl 1 rfl) ?_
        refine lv_iload_n hx hb dX1_countLiterals_13 rfl (lv_at hl 3 rfl) ?_
        refine vz_callV (n := 1) (As := [.int (nI i)]) (rest := []) (q0 := 0) hcf (c_X0_at l D kA h a c f hc (nI i)) gX1_countLiterals_X0_at rfl hd_X0_at ⟨Nat.le_of_ble_eq_true rfl, Nat.le_of_ble_eq_true rfl⟩ hK (hP.sub [4, 5] rfl) rfl rfl rfl rfl hl.1 rfl (Nat.le_of_ble_eq_true rfl) ⟨Nat.zero_le _, Nat.zero_le _⟩ dX1_countLiterals_14 ?_
        refine vz_top (y := (f i)) (zat_nI c_9 hc) ?_
        refine lv_istore (lv' := [(4, .int (f i)), (0, .ref (ad 0)), (1, .ref h), (2, .int (nI t)), (3, .int (nI i))]) hx hb dX1_countLiterals_17 hl (by decide) rfl (fun ls hl => ?_)
        refine lv_iconst (v := nI 0) hx hb dX1_countLiterals_19 (by decide) ?_
        refine lv_istore (lv' := [(5, .int (nI 0)), (4, .int (f i)), (0, .ref (ad 0)), (1, .ref h), (2, .int (nI t)), (3, .int (nI i))]) hx hb dX1_countLiterals_20 hl (by decide) rfl (fun ls hl => ?_)
        have lp2 : ∀ (dz : Nat) (t2 j : Nat) (ls : Array Slot), (n - j) < dz → (j ≤ n) → (t2 = t + cnB j (fun k => !decide (zfr (f i) k = f i))) → lv_has ls 6 [(0, .ref (ad 0)), (1, .ref h), (2, .int (nI t2)), (3, .int (nI i)), (4, .int (f i)), (5, .int (nI j))] → W pz l ez (vz_R 1 21) sz mz args below meth cz sz.heap [] 0 0 Q (F0 mz 22 ls []) := by
          intro dz
          induction dz with
          | zero => intro t2 j ls hd g1 g2 hl; exact absurd hd (Nat.not_lt_zero _)
          | succ dz ih2 =>
            intro t2 j ls hd g1 g2 hl
            refine lv_iload hx hb dX1_countLiterals_22 (lv_at hl 5 rfl) ?_
            refine lv_aload_n hx hb dX1_countLiterals_24 rfl (lv_at hl 0 rfl) ?_
            refine va_get (D := D) (ci := 1) (v := .int (nI n)) (C := RX1) (T := TX1) (N := 8) hx hb hts hi0 hown hK hP 0 rfl rfl 7 (by decide) hf39 (fun _ h9 => h9) rfl dX1_countLiterals_25 ?_
            refine vz_cge (tgt := 52) hx hb dX1_countLiterals_28 (by decide) (by omega) (by omega) (fun c_28 => ?_) (fun c_28 => ?_)
            · skip
              refine lv_iinc (v := (nI (i + 1))) (lv' := [(3, .int (nI (i + 1))), (0, .ref (ad 0)), (1, .ref h), (2, .int (nI t2)), (4, .int (f i)), (5, .int (nI j))]) hx hb dX1_countLiterals_52 hl (k := 3) rfl (nI_1 _) (by decide) rfl (fun ls hl => ?_)
              refine lv_goto (tgt := 4) hx hb dX1_countLiterals_55 (by decide) ?_
              exact ih1 t2 (i + 1) _ (by omega) (by omega) (by rw [g2, h2]; obtain rfl : n = j := (by omega); rfl) (lv_sub hl [1, 2, 3, 0] rfl)
            · skip
              refine lv_iload hx hb dX1_countLiterals_31 (lv_at hl 4 rfl) ?_
              refine lv_iload hx hb dX1_countLiterals_33 (lv_at hl 5 rfl) ?_
              refine vz_callS (n := 2) (As := [.int (f i), .int (nI j)]) (rest := []) hcf (c_X1_freed l D kA (f i) j) gX1_countLiterals_X1_freed rfl hd_X1_freed ⟨Nat.le_of_ble_eq_true rfl, Nat.le_of_ble_eq_true rfl⟩ hK (hP.sub [] rfl) rfl hl.1 rfl (Nat.le_of_ble_eq_true rfl) ⟨Nat.zero_le _, Nat.zero_le _⟩ dX1_countLiterals_35 ?_
              refine lv_iload hx hb dX1_countLiterals_38 (lv_at hl 4 rfl) ?_
              refine lv_icmp_eq (tgt := 46) hx hb dX1_countLiterals_40 (by decide) (fun c_40 => ?_) (fun c_40 => ?_)
              · skip
                refine lv_iinc (v := (nI (j + 1))) (lv' := [(5, .int (nI (j + 1))), (0, .ref (ad 0)), (1, .ref h), (2, .int (nI t2)), (3, .int (nI i)), (4, .int (f i))]) hx hb dX1_countLiterals_46 hl (k := 5) rfl (nI_1 _) (by decide) rfl (fun ls hl => ?_)
                refine lv_goto (tgt := 22) hx hb dX1_countLiterals_49 (by decide) ?_
                exact ih2 t2 (j + 1) _ (by omega) (by omega) (by simp [cnB, c_40, g2]) (lv_sub hl [1, 2, 3, 4, 5, 0] rfl)
              · skip
                refine lv_iinc (v := (nI (t2 + 1))) (lv' := [(2, .int (nI (t2 + 1))), (0, .ref (ad 0)), (1, .ref h), (3, .int (nI i)), (4, .int (f i)), (5, .int (nI j))]) hx hb dX1_countLiterals_43 hl (k := 2) rfl (nI_1 _) (by decide) rfl (fun ls hl => ?_)
                refine lv_iinc (v := (nI (j + 1))) (lv' := [(5, .int (nI (j + 1))), (2, .int (nI (t2 + 1))), (0, .ref (ad 0)), (1, .ref h), (3, .int (nI i)), (4, .int (f i))]) hx hb dX1_countLiterals_46 hl (k := 5) rfl (nI_1 _) (by decide) rfl (fun ls hl => ?_)
                refine lv_goto (tgt := 22) hx hb dX1_countLiterals_49 (by decide) ?_
                exact ih2 (t2 + 1) (j + 1) _ (by omega) (by omega) (by simp [cnB, c_40, g2]; omega) (lv_sub hl [2, 3, 1, 4, 5, 0] rfl)
        exact lp2 _ t 0 _ (Nat.lt_succ_self _) (by omega) rfl (lv_sub hl [2, 3, 4, 5, 1, 0] rfl)
  exact lp1 _ 0 0 _ (Nat.lt_succ_self _) (by omega) rfl (lv_sub hl [2, 3, 1, 0] rfl)
set_option maxHeartbeats 4000000 in
set_option maxRecDepth 100000 in
theorem c_X1_countMissing (l : Launch) (D : va_G) (kA : ClassId) (ad : Nat → Nat) (n : Nat) (fp fk fh : Nat → Int32) (hn : n ≤ 8) (h a c : Nat) (f : Nat → Int32) (hc : c ≤ 24) : vz_M l yX1_countMissing wsX1_countMissing 2 45 [.ref (ad 0), .ref h] D kA [(ad 0, .inr (1, [.ref (ad 1), .ref (ad 2), .ref (ad 3), .ref (ad 4), .ref (ad 5), .ref (ad 6), .ref (ad 7), .int (nI n)])), (ad 5, .inl (kA, 256, .inl fp)), (ad 6, .inl (kA, 256, .inl fk)), (ad 7, .inl (kA, 256, .inl fh)), (h, .inr (0, [.ref a, .int (nI c)])), (a, .inl (kA, 24, .inl f))] (some (.int (nI (cnB (zN n) (fun p => !zX_inL fp c f p))))) := by
  refine vz_start (cc := cX1_countMissing) (maxL := 5) (ret := (some .int)) (own := RX1) (by decide) rfl rfl (Nat.le_of_ble_eq_true rfl) ?_
  intro pz ez sz mz below meth cz args Q ls hargs hx hb hml hown hts hr hlocks hP hK hQ hl
  have hcf : CallFix pz mz cz cX1_countMissing 5 sz args wsX1_countMissing RX1 := ⟨hx, hb, hml, hown, hts⟩
  have hl : lv_has ls 5 [(0, .ref (ad 0)), (1, .ref h)] := hl
  have hN := zN_le hn
  refine lv_aload_n hx hb dX1_countMissing_0 rfl (lv_at hl 0 rfl) ?_
  refine vz_callV (n := 0) (As := []) (rest := []) (q0 := 0) hcf (c_X1_pointCount l D kA ad n fp fk fh hn) gX1_countMissing_X1_pointCount rfl hd_X1_pointCount ⟨Nat.le_of_ble_eq_true rfl, Nat.le_of_ble_eq_true rfl⟩ hK (hP.sub [0, 1, 2, 3] rfl) rfl rfl rfl rfl hl.1 rfl (Nat.le_of_ble_eq_true rfl) ⟨Nat.zero_le _, Nat.zero_le _⟩ dX1_countMissing_1 ?_
  refine lv_istore_n (lv' := [(2, .int (nI (zN n))), (0, .ref (ad 0)), (1, .ref h)]) hx hb dX1_countMissing_4 rfl hl (by decide) rfl (fun ls hl => ?_)
  refine lv_iconst (v := nI 0) hx hb dX1_countMissing_5 (by decide) ?_
  refine lv_istore_n (lv' := [(3, .int (nI 0)), (2, .int (nI (zN n))), (0, .ref (ad 0)), (1, .ref h)]) hx hb dX1_countMissing_6 rfl hl (by decide) rfl (fun ls hl => ?_)
  refine lv_iconst (v := nI 0) hx hb dX1_countMissing_7 (by decide) ?_
  refine lv_istore (lv' := [(4, .int (nI 0)), (3, .int (nI 0)), (2, .int (nI (zN n))), (0, .ref (ad 0)), (1, .ref h)]) hx hb dX1_countMissing_8 hl (by decide) rfl (fun ls hl => ?_)
  have lp1 : ∀ (dz : Nat) (t i : Nat) (ls : Array Slot), (zN n - i) < dz → (i ≤ zN n) → (t = cnB i (fun p => !zX_inL fp c f p)) → lv_has ls 5 [(0, .ref (ad 0)), (1, .ref h), (2, .int (nI (zN n))), (3, .int (nI t)), (4, .int (nI i))] → W pz l ez (vz_R 2 45) sz mz args below meth cz sz.heap [] 0 0 Q (F0 mz 10 ls []) := by
    intro dz
    induction dz with
    | zero => intro t i ls hd h1 h2 hl; exact absurd hd (Nat.not_lt_zero _)
    | succ dz ih1 =>
      intro t i ls hd h1 h2 hl
      refine lv_iload hx hb dX1_countMissing_10 (lv_at hl 4 rfl) ?_
      refine lv_iload_n hx hb dX1_countMissing_12 rfl (lv_at hl 2 rfl) ?_
      refine vz_cge (tgt := 35) hx hb dX1_countMissing_13 (by decide) (by omega) (by omega) (fun c_13 => ?_) (fun c_13 => ?_)
      · skip
        obtain rfl : i = zN n := by omega
        refine lv_iload_n hx hb dX1_countMissing_35 rfl (lv_at hl 3 rfl) ?_
        exact vz_iret hx hb hr hlocks hQ (vp_nar_int _) dX1_countMissing_36 (by rw [h2])
      · skip
        refine lv_aload_n hx hb dX1_countMissing_16 rfl (lv_at hl 0 rfl) ?_
        refine lv_aload_n hx hb dX1_countMissing_17 rfl (lv_at hl 1 rfl) ?_
        refine lv_iload hx hb dX1_countMissing_18 (lv_at hl 4 rfl) ?_
        refine vz_callV (n := 2) (As := [.ref h, .int (nI i)]) (rest := []) (q0 := 0) hcf (c_X1_isInList l D kA ad n fp fk fh hn h a c f hc i (by omega)) gX1_countMissing_X1_isInList rfl hd_X1_isInList ⟨Nat.le_of_ble_eq_true rfl, Nat.le_of_ble_eq_true rfl⟩ hK (hP.sub [0, 1, 2, 3, 4, 5] rfl) rfl rfl rfl rfl hl.1 rfl (Nat.le_of_ble_eq_true rfl) ⟨Nat.zero_le _, Nat.zero_le _⟩ dX1_countMissing_20 ?_
        refine vz_ifneB (tgt := 29) hx hb dX1_countMissing_23 (by decide) (fun c_23 => ?_) (fun c_23 => ?_)
        · skip
          refine lv_iinc (v := (nI (i + 1))) (lv' := [(4, .int (nI (i + 1))), (0, .ref (ad 0)), (1, .ref h), (2, .int (nI (zN n))), (3, .int (nI t))]) hx hb dX1_countMissing_29 hl (k := 4) rfl (nI_1 _) (by decide) rfl (fun ls hl => ?_)
          refine lv_goto (tgt := 10) hx hb dX1_countMissing_32 (by decide) ?_
          exact ih1 t (i + 1) _ (by omega) (by omega) (by simp [cnB, c_23, h2]) (lv_sub hl [1, 2, 3, 4, 0] rfl)
        · skip
          refine lv_iinc (v := (nI (t + 1))) (lv' := [(3, .int (nI (t + 1))), (0, .ref (ad 0)), (1, .ref h), (2, .int (nI (zN n))), (4, .int (nI i))]) hx hb dX1_countMissing_26 hl (k := 3) rfl (nI_1 _) (by decide) rfl (fun ls hl => ?_)
          refine lv_iinc (v := (nI (i + 1))) (lv' := [(4, .int (nI (i + 1))), (3, .int (nI (t + 1))), (0, .ref (ad 0)), (1, .ref h), (2, .int (nI (zN n)))]) hx hb dX1_countMissing_29 hl (k := 4) rfl (nI_1 _) (by decide) rfl (fun ls hl => ?_)
          refine lv_goto (tgt := 10) hx hb dX1_countMissing_32 (by decide) ?_
          exact ih1 (t + 1) (i + 1) _ (by omega) (by omega) (by simp [cnB, c_23, h2]) (lv_sub hl [2, 3, 4, 1, 0] rfl)
  exact lp1 _ 0 0 _ (Nat.lt_succ_self _) (by omega) rfl (lv_sub hl [3, 4, 2, 1, 0] rfl)
set_option maxHeartbeats 4000000 in
set_option maxRecDepth 100000 in
theorem c_X1_agree (l : Launch) (D : va_G) (kA : ClassId) (ad : Nat → Nat) (n : Nat) (fp fk fh : Nat → Int32) (hn : n ≤ 8) (h a c : Nat) (f : Nat → Int32) (hc : c ≤ 24) (h2 a2 c2 : Nat) (f2 : Nat → Int32) (hc2 : c2 ≤ 24) : vz_M l yX1_agree wsX1_agree 2 45 [.ref (ad 0), .ref h, .ref h2] D kA [(ad 0, .inr (1, [.ref (ad 1), .ref (ad 2), .ref (ad 3), .ref (ad 4), .ref (ad 5), .ref (ad 6), .ref (ad 7), .int (nI n)])), (ad 5, .inl (kA, 256, .inl fp)), (ad 6, .inl (kA, 256, .inl fk)), (ad 7, .inl (kA, 256, .inl fh)), (h, .inr (0, [.ref a, .int (nI c)])), (a, .inl (kA, 24, .inl f)), (h2, .inr (0, [.ref a2, .int (nI c2)])), (a2, .inl (kA, 24, .inl f2))] (some (.int (vz_b (!exB (zN n) (fun p => !decide (fk p = nI 2) && (zX_inL fp c f p != zX_inL fp c2 f2 p)))))) := by
  refine vz_start (cc := cX1_agree) (maxL := 5) (ret := (some .boolean)) (own := RX1) (by decide) rfl rfl (Nat.le_of_ble_eq_true rfl) ?_
  intro pz ez sz mz below meth cz args Q ls hargs hx hb hml hown hts hr hlocks hP hK hQ hl
  have hcf : CallFix pz mz cz cX1_agree 5 sz args wsX1_agree RX1 := ⟨hx, hb, hml, hown, hts⟩
  have hi0 : ∀ w ∈ u_ws RX1 TX1 8, w ∈ wsX1_agree := by decide +kernel
  have hf29 : (Cond.fieldLink RX1 29 "CubeMin" "kinds" "[I").before args sz = true := hts _ (by decide +kernel)
  have hl : lv_has ls 5 [(0, .ref (ad 0)), (1, .ref h), (2, .ref h2)] := hl
  have hN := zN_le hn
  refine lv_aload_n hx hb dX1_agree_0 rfl (lv_at hl 0 rfl) ?_
  refine vz_callV (n := 0) (As := []) (rest := []) (q0 := 0) hcf (c_X1_pointCount l D kA ad n fp fk fh hn) gX1_agree_X1_pointCount rfl hd_X1_pointCount ⟨Nat.le_of_ble_eq_true rfl, Nat.le_of_ble_eq_true rfl⟩ hK (hP.sub [0, 1, 2, 3] rfl) rfl rfl rfl rfl hl.1 rfl (Nat.le_of_ble_eq_true rfl) ⟨Nat.zero_le _, Nat.zero_le _⟩ dX1_agree_1 ?_
  refine lv_istore_n (lv' := [(3, .int (nI (zN n))), (0, .ref (ad 0)), (1, .ref h), (2, .ref h2)]) hx hb dX1_agree_4 rfl hl (by decide) rfl (fun ls hl => ?_)
  refine lv_iconst (v := nI 0) hx hb dX1_agree_5 (by decide) ?_
  refine lv_istore (lv' := [(4, .int (nI 0)), (3, .int (nI (zN n))), (0, .ref (ad 0)), (1, .ref h), (2, .ref h2)]) hx hb dX1_agree_6 hl (by decide) rfl (fun ls hl => ?_)
  have lp1 : ∀ (dz : Nat) (i : Nat) (ls : Array Slot), (zN n - i) < dz → (i ≤ zN n) → (∀ p, p < i → (!decide (fk p = nI 2) && (zX_inL fp c f p != zX_inL fp c2 f2 p)) = false) → lv_has ls 5 [(0, .ref (ad 0)), (1, .ref h), (2, .ref h2), (3, .int (nI (zN n))), (4, .int (nI i))] → W pz l ez (vz_R 2 45) sz mz args below meth cz sz.heap [] 0 0 Q (F0 mz 8 ls []) := by
    intro dz
    induction dz with
    | zero => intro i ls hd h1 h3 hl; exact absurd hd (Nat.not_lt_zero _)
    | succ dz ih1 =>
      intro i ls hd h1 h3 hl
      refine lv_iload hx hb dX1_agree_8 (lv_at hl 4 rfl) ?_
      refine lv_iload_n hx hb dX1_agree_10 rfl (lv_at hl 3 rfl) ?_
      refine vz_cge (tgt := 50) hx hb dX1_agree_11 (by decide) (by omega) (by omega) (fun c_11 => ?_) (fun c_11 => ?_)
      · skip
        refine lv_iconst (v := nI 1) hx hb dX1_agree_50 (by decide) ?_
        exact vz_iret hx hb hr hlocks hQ (rfl) dX1_agree_51 (by rw [exB_f (fun j hj => h3 j (by omega))]; rfl)
      · skip
        refine lv_aload_n hx hb dX1_agree_14 rfl (lv_at hl 0 rfl) ?_
        refine va_get (D := D) (ci := 1) (v := .ref (ad 6)) (C := RX1) (T := TX1) (N := 8) hx hb hts hi0 hown hK hP 0 rfl rfl 5 (by decide) hf29 (fun _ h9 => h9) rfl dX1_agree_15 ?_
        refine lv_iload hx hb dX1_agree_18 (lv_at hl 4 rfl) ?_
        refine vz_ald hx hb hK hP 2 rfl (by omega) (Nat.le_of_ble_eq_true rfl) dX1_agree_20 ?_
        refine lv_iconst (v := nI 2) hx hb dX1_agree_21 (by decide) ?_
        refine lv_icmp_eq (tgt := 44) hx hb dX1_agree_22 (by decide) (fun c_22 => ?_) (fun c_22 => ?_)
        · skip
          refine lv_iinc (v := (nI (i + 1))) (lv' := [(4, .int (nI (i + 1))), (0, .ref (ad 0)), (1, .ref h), (2, .ref h2), (3, .int (nI (zN n)))]) hx hb dX1_agree_44 hl (k := 4) rfl (nI_1 _) (by decide) rfl (fun ls hl => ?_)
          refine lv_goto (tgt := 8) hx hb dX1_agree_47 (by decide) ?_
          exact ih1 (i + 1) _ (by omega) (by omega) (lt_sB h3 (by first | (simp [c_22]; done) | (have c_40 := vz_b_eq.mp c_39; simp [c_40]))) (lv_sub hl [1, 2, 3, 4, 0] rfl)
        · skip
          refine lv_aload_n hx hb dX1_agree_25 rfl (lv_at hl 0 rfl) ?_
          refine lv_aload_n hx hb dX1_agree_26 rfl (lv_at hl 1 rfl) ?_
          refine lv_iload hx hb dX1_agree_27 (lv_at hl 4 rfl) ?_
          refine vz_callV (n := 2) (As := [.ref h, .int (nI i)]) (rest := []) (q0 := 0) hcf (c_X1_isInList l D kA ad n fp fk fh hn h a c f hc i (by omega)) gX1_agree_X1_isInList rfl hd_X1_isInList ⟨Nat.le_of_ble_eq_true rfl, Nat.le_of_ble_eq_true rfl⟩ hK (hP.sub [0, 1, 2, 3, 4, 5] rfl) rfl rfl rfl rfl hl.1 rfl (Nat.le_of_ble_eq_true rfl) ⟨Nat.zero_le _, Nat.zero_le _⟩ dX1_agree_29 ?_
          refine lv_aload_n hx hb dX1_agree_32 rfl (lv_at hl 0 rfl) ?_
          refine lv_aload_n hx hb dX1_agree_33 rfl (lv_at hl 2 rfl) ?_
          refine lv_iload hx hb dX1_agree_34 (lv_at hl 4 rfl) ?_
          refine vz_callV (n := 2) (As := [.ref h2, .int (nI i)]) (rest := [.int (vz_b (zX_inL fp c f i))]) (q0 := 0) hcf (c_X1_isInList l D kA ad n fp fk fh hn h2 a2 c2 f2 hc2 i (by omega)) gX1_agree_X1_isInList rfl hd_X1_isInList ⟨Nat.le_of_ble_eq_true rfl, Nat.le_of_ble_eq_true rfl⟩ hK (hP.sub [0, 1, 2, 3, 6, 7] rfl) rfl rfl rfl rfl hl.1 rfl (Nat.le_of_ble_eq_true rfl) ⟨Nat.zero_le _, Nat.zero_le _⟩ dX1_agree_36 ?_
          refine lv_icmp_eq (tgt := 44) hx hb dX1_agree_39 (by decide) (fun c_39 => ?_) (fun c_39 => ?_)
          · skip
            refine lv_iinc (v := (nI (i + 1))) (lv' := [(4, .int (nI (i + 1))), (0, .ref (ad 0)), (1, .ref h), (2, .ref h2), (3, .int (nI (zN n)))]) hx hb dX1_agree_44 hl (k := 4) rfl (nI_1 _) (by decide) rfl (fun ls hl => ?_)
            refine lv_goto (tgt := 8) hx hb dX1_agree_47 (by decide) ?_
            exact ih1 (i + 1) _ (by omega) (by omega) (lt_sB h3 (by first | (simp [c_22]; done) | (have c_40 := vz_b_eq.mp c_39; simp [c_40]))) (lv_sub hl [1, 2, 3, 4, 0] rfl)
          · skip
            refine lv_iconst (v := nI 0) hx hb dX1_agree_42 (by decide) ?_
            exact vz_iret hx hb hr hlocks hQ (rfl) dX1_agree_43 (by rw [exB_t (i := i) (by omega) (by have c_40 : ¬ zX_inL fp c f i = zX_inL fp c2 f2 i := fun q => c_39 (vz_b_eq.mpr q); simp [c_22, c_40])]; rfl)
  exact lp1 _ 0 _ (Nat.lt_succ_self _) (by omega) lt_0B (lv_sub hl [2, 3, 4, 1, 0] rfl)
set_option maxHeartbeats 4000000 in
set_option maxRecDepth 100000 in
theorem c_X1_touches (l : Launch) (D : va_G) (kA : ClassId) (ad : Nat → Nat) (n : Nat) (fp fk fh : Nat → Int32) (hn : n ≤ 8) (x : Int32) : vz_M l yX1_touches wsX1_touches 1 22 [.ref (ad 0), .int x] D kA [(ad 0, .inr (1, [.ref (ad 1), .ref (ad 2), .ref (ad 3), .ref (ad 4), .ref (ad 5), .ref (ad 6), .ref (ad 7), .int (nI n)])), (ad 5, .inl (kA, 256, .inl fp)), (ad 6, .inl (kA, 256, .inl fk)), (ad 7, .inl (kA, 256, .inl fh))] (some (.int (vz_b (ztch n fk (zX_in fp) x)))) := by
  refine vz_start (cc := cX1_touches) (maxL := 4) (ret := (some .boolean)) (own := RX1) (by decide) rfl rfl (Nat.le_of_ble_eq_true rfl) ?_
  intro pz ez sz mz below meth cz args Q ls hargs hx hb hml hown hts hr hlocks hP hK hQ hl
  have hcf : CallFix pz mz cz cX1_touches 4 sz args wsX1_touches RX1 := ⟨hx, hb, hml, hown, hts⟩
  have hi0 : ∀ w ∈ u_ws RX1 TX1 8, w ∈ wsX1_touches := by decide +kernel
  have hf29 : (Cond.fieldLink RX1 29 "CubeMin" "kinds" "[I").before args sz = true := hts _ (by decide +kernel)
  have hl : lv_has ls 4 [(0, .ref (ad 0)), (1, .int x)] := hl
  have hN := zN_le hn
  refine lv_aload_n hx hb dX1_touches_0 rfl (lv_at hl 0 rfl) ?_
  refine vz_callV (n := 0) (As := []) (rest := []) (q0 := 0) hcf (c_X1_pointCount l D kA ad n fp fk fh hn) gX1_touches_X1_pointCount rfl hd_X1_pointCount ⟨Nat.le_of_ble_eq_true rfl, Nat.le_of_ble_eq_true rfl⟩ hK (hP.sub [0, 1, 2, 3] rfl) rfl rfl rfl rfl hl.1 rfl (Nat.le_of_ble_eq_true rfl) ⟨Nat.zero_le _, Nat.zero_le _⟩ dX1_touches_1 ?_
  refine lv_istore_n (lv' := [(2, .int (nI (zN n))), (0, .ref (ad 0)), (1, .int x)]) hx hb dX1_touches_4 rfl hl (by decide) rfl (fun ls hl => ?_)
  refine lv_iconst (v := nI 0) hx hb dX1_touches_5 (by decide) ?_
  refine lv_istore_n (lv' := [(3, .int (nI 0)), (2, .int (nI (zN n))), (0, .ref (ad 0)), (1, .int x)]) hx hb dX1_touches_6 rfl hl (by decide) rfl (fun ls hl => ?_)
  have lp1 : ∀ (dz : Nat) (i : Nat) (ls : Array Slot), (zN n - i) < dz → (i ≤ zN n) → (∀ p, p < i → (decide (fk p = 0) && zX_in fp x p) = false) → lv_has ls 4 [(0, .ref (ad 0)), (1, .int x), (2, .int (nI (zN n))), (3, .int (nI i))] → W pz l ez (vz_R 1 22) sz mz args below meth cz sz.heap [] 0 0 Q (F0 mz 7 ls []) := by
    intro dz
    induction dz with
    | zero => intro i ls hd h1 h2 hl; exact absurd hd (Nat.not_lt_zero _)
    | succ dz ih1 =>
      intro i ls hd h1 h2 hl
      refine lv_iload_n hx hb dX1_touches_7 rfl (lv_at hl 3 rfl) ?_
      refine lv_iload_n hx hb dX1_touches_8 rfl (lv_at hl 2 rfl) ?_
      refine vz_cge (tgt := 38) hx hb dX1_touches_9 (by decide) (by omega) (by omega) (fun c_9 => ?_) (fun c_9 => ?_)
      · skip
        refine lv_iconst (v := nI 0) hx hb dX1_touches_38 (by decide) ?_
        exact vz_iret hx hb hr hlocks hQ (rfl) dX1_touches_39 ((congrArg vz_b (exB_f (fun j hj => h2 j (by omega)))).symm)
      · skip
        refine lv_aload_n hx hb dX1_touches_12 rfl (lv_at hl 0 rfl) ?_
        refine va_get (D := D) (ci := 1) (v := .ref (ad 6)) (C := RX1) (T := TX1) (N := 8) hx hb hts hi0 hown hK hP 0 rfl rfl 5 (by decide) hf29 (fun _ h9 => h9) rfl dX1_touches_13 ?_
        refine lv_iload_n hx hb dX1_touches_16 rfl (lv_at hl 3 rfl) ?_
        refine vz_ald hx hb hK hP 2 rfl (by omega) (Nat.le_of_ble_eq_true rfl) dX1_touches_17 ?_
        refine lv_if_ne (tgt := 32) hx hb dX1_touches_18 (by decide) (fun c_18 => ?_) (fun c_18 => ?_)
        · skip
          refine lv_iinc (v := (nI (i + 1))) (lv' := [(3, .int (nI (i + 1))), (0, .ref (ad 0)), (1, .int x), (2, .int (nI (zN n)))]) hx hb dX1_touches_32 hl (k := 3) rfl (nI_1 _) (by decide) rfl (fun ls hl => ?_)
          refine lv_goto (tgt := 7) hx hb dX1_touches_35 (by decide) ?_
          exact ih1 (i + 1) _ (by omega) (by omega) (lt_sB h2 (by first | (simp [c_18]; done) | (simp [c_27]; done))) (lv_sub hl [1, 2, 3, 0] rfl)
        · skip
          refine lv_aload_n hx hb dX1_touches_21 rfl (lv_at hl 0 rfl) ?_
          refine lv_iload_n hx hb dX1_touches_22 rfl (lv_at hl 1 rfl) ?_
          refine lv_iload_n hx hb dX1_touches_23 rfl (lv_at hl 3 rfl) ?_
          refine vz_callV (n := 2) (As := [.int x, .int (nI i)]) (rest := []) (q0 := 0) hcf (c_X1_isInCube l D kA ad n fp fk fh hn x i (by omega)) gX1_touches_X1_isInCube rfl hd_X1_isInCube ⟨Nat.le_of_ble_eq_true rfl, Nat.le_of_ble_eq_true rfl⟩ hK (hP.sub [0, 1, 2, 3] rfl) rfl rfl rfl rfl hl.1 rfl (Nat.le_of_ble_eq_true rfl) ⟨Nat.zero_le _, Nat.zero_le _⟩ dX1_touches_24 ?_
          refine vz_ifeqB (tgt := 32) hx hb dX1_touches_27 (by decide) (fun c_27 => ?_) (fun c_27 => ?_)
          · skip
            refine lv_iinc (v := (nI (i + 1))) (lv' := [(3, .int (nI (i + 1))), (0, .ref (ad 0)), (1, .int x), (2, .int (nI (zN n)))]) hx hb dX1_touches_32 hl (k := 3) rfl (nI_1 _) (by decide) rfl (fun ls hl => ?_)
            refine lv_goto (tgt := 7) hx hb dX1_touches_35 (by decide) ?_
            exact ih1 (i + 1) _ (by omega) (by omega) (lt_sB h2 (by first | (simp [c_18]; done) | (simp [c_27]; done))) (lv_sub hl [1, 2, 3, 0] rfl)
          · skip
            refine lv_iconst (v := nI 1) hx hb dX1_touches_30 (by decide) ?_
            exact vz_iret hx hb hr hlocks hQ (rfl) dX1_touches_31 ((congrArg vz_b (exB_t (i := i) (by omega) (by simp [c_18, c_27]))).symm)
  exact lp1 _ 0 _ (Nat.lt_succ_self _) (by omega) lt_0B (lv_sub hl [2, 3, 1, 0] rfl)
set_option maxHeartbeats 4000000 in
set_option maxRecDepth 100000 in
theorem c_X1_cannotGrow (l : Launch) (D : va_G) (kA : ClassId) (ad : Nat → Nat) (n : Nat) (fp fk fh : Nat → Int32) (hn : n ≤ 8) (x : Int32) : vz_M l yX1_cannotGrow wsX1_cannotGrow 2 45 [.ref (ad 0), .int x] D kA [(ad 0, .inr (1, [.ref (ad 1), .ref (ad 2), .ref (ad 3), .ref (ad 4), .ref (ad 5), .ref (ad 6), .ref (ad 7), .int (nI n)])), (ad 5, .inl (kA, 256, .inl fp)), (ad 6, .inl (kA, 256, .inl fk)), (ad 7, .inl (kA, 256, .inl fh))] (some (.int (vz_b (!zcg n (ztch n fk (zX_in fp)) x)))) := by
  refine vz_start (cc := cX1_cannotGrow) (maxL := 4) (ret := (some .boolean)) (own := RX1) (by decide) rfl rfl (Nat.le_of_ble_eq_true rfl) ?_
  intro pz ez sz mz below meth cz args Q ls hargs hx hb hml hown hts hr hlocks hP hK hQ hl
  have hcf : CallFix pz mz cz cX1_cannotGrow 4 sz args wsX1_cannotGrow RX1 := ⟨hx, hb, hml, hown, hts⟩
  have hi0 : ∀ w ∈ u_ws RX1 TX1 8, w ∈ wsX1_cannotGrow := by decide +kernel
  have hf39 : (Cond.fieldLink RX1 39 "CubeMin" "inputCount" "I").before args sz = true := hts _ (by decide +kernel)
  have hl : lv_has ls 4 [(0, .ref (ad 0)), (1, .int x)] := hl
  refine lv_iconst (v := nI 0) hx hb dX1_cannotGrow_0 (by decide) ?_
  refine lv_istore_n (lv' := [(2, .int (nI 0)), (0, .ref (ad 0)), (1, .int x)]) hx hb dX1_cannotGrow_1 rfl hl (by decide) rfl (fun ls hl => ?_)
  have lp1 : ∀ (dz : Nat) (i : Nat) (ls : Array Slot), (n - i) < dz → (i ≤ n) → (∀ j, j < i → (!decide (zfr x j = x) && !ztch n fk (zX_in fp) (zfr x j)) = false) → lv_has ls 4 [(0, .ref (ad 0)), (1, .int x), (2, .int (nI i))] → W pz l ez (vz_R 2 45) sz mz args below meth cz sz.heap [] 0 0 Q (F0 mz 2 ls []) := by
    intro dz
    induction dz with
    | zero => intro i ls hd h1 h2 hl; exact absurd hd (Nat.not_lt_zero _)
    | succ dz ih1 =>
      intro i ls hd h1 h2 hl
      refine lv_iload_n hx hb dX1_cannotGrow_2 rfl (lv_at hl 2 rfl) ?_
      refine lv_aload_n hx hb dX1_cannotGrow_3 rfl (lv_at hl 0 rfl) ?_
      refine va_get (D := D) (ci := 1) (v := .int (nI n)) (C := RX1) (T := TX1) (N := 8) hx hb hts hi0 hown hK hP 0 rfl rfl 7 (by decide) hf39 (fun _ h9 => h9) rfl dX1_cannotGrow_4 ?_
      refine vz_cge (tgt := 37) hx hb dX1_cannotGrow_7 (by decide) (by omega) (by omega) (fun c_7 => ?_) (fun c_7 => ?_)
      · skip
        refine lv_iconst (v := nI 1) hx hb dX1_cannotGrow_37 (by decide) ?_
        exact vz_iret hx hb hr hlocks hQ (rfl) dX1_cannotGrow_38 (by rw [zcg, exB_f (fun j hj => h2 j (by omega))]; rfl)
      · skip
        refine lv_iload_n hx hb dX1_cannotGrow_10 rfl (lv_at hl 1 rfl) ?_
        refine lv_iload_n hx hb dX1_cannotGrow_11 rfl (lv_at hl 2 rfl) ?_
        refine vz_callS (n := 2) (As := [.int x, .int (nI i)]) (rest := []) hcf (c_X1_freed l D kA x i) gX1_cannotGrow_X1_freed rfl hd_X1_freed ⟨Nat.le_of_ble_eq_true rfl, Nat.le_of_ble_eq_true rfl⟩ hK (hP.sub [] rfl) rfl hl.1 rfl (Nat.le_of_ble_eq_true rfl) ⟨Nat.zero_le _, Nat.zero_le _⟩ dX1_cannotGrow_12 ?_
        refine lv_istore_n (lv' := [(3, .int (zfr x i)), (0, .ref (ad 0)), (1, .int x), (2, .int (nI i))]) hx hb dX1_cannotGrow_15 rfl hl (by decide) rfl (fun ls hl => ?_)
        refine lv_iload_n hx hb dX1_cannotGrow_16 rfl (lv_at hl 0 rfl) ?_
        refine lv_iload_n hx hb dX1_cannotGrow_17 rfl (lv_at hl 2 rfl) ?_
        refine lv_icmp_eq (tgt := 31) hx hb dX1_cannotGrow_18 (by decide) (fun c_18 => ?_) (fun c_18 => ?_)
        · skip
          refine lv_iinc (v := (nI (i + 1))) (lv' := [(2, .int (nI (i + 1))), (3, .int (zfr x i)), (0, .ref (ad 0)), (1, .int x)]) hx hb dX1_cannotGrow_31 hl (k := 3) rfl (nI_1 _) (by decide) rfl (fun ls hl => ?_)
          refine lv_goto (tgt := 2) hx hb dX1_cannotGrow_34 (by decide) ?_
          exact ih1 (i + 1) _ (by omega) (by omega) (lt_sB h2 (by first | (simp [c_18]; done) | (simp [c_26]; done))) (lv_sub hl [2, 3, 0] rfl)
        · skip
          refine lv_aload_n hx hb dX1_cannotGrow_21 rfl (lv_at hl 1 rfl) ?_
          refine lv_iload_n hx hb dX1_cannotGrow_22 rfl (lv_at hl 0 rfl) ?_
          refine vz_callV (n := 1) (As := [.int (zfr x i)]) (rest := []) (q0 := 0) hcf (c_X1_touches l D kA ad n fp fk fh hn (zfr x i)) gX1_cannotGrow_X1_touches rfl hd_X1_touches ⟨Nat.le_of_ble_eq_true rfl, Nat.le_of_ble_eq_true rfl⟩ hK (hP.sub [0, 1, 2, 3] rfl) rfl rfl rfl rfl hl.1 rfl (Nat.le_of_ble_eq_true rfl) ⟨Nat.zero_le _, Nat.zero_le _⟩ dX1_cannotGrow_23 ?_
          refine vz_ifneB (tgt := 31) hx hb dX1_cannotGrow_26 (by decide) (fun c_26 => ?_) (fun c_26 => ?_)
          · skip
            refine lv_iinc (v := (nI (i + 1))) (lv' := [(2, .int (nI (i + 1))), (3, .int (zfr x i)), (0, .ref (ad 0)), (1, .int x)]) hx hb dX1_cannotGrow_31 hl (k := 3) rfl (nI_1 _) (by decide) rfl (fun ls hl => ?_)
            refine lv_goto (tgt := 2) hx hb dX1_cannotGrow_34 (by decide) ?_
            exact ih1 (i + 1) _ (by omega) (by omega) (lt_sB h2 (by first | (simp [c_18]; done) | (simp [c_26]; done))) (lv_sub hl [2, 3, 0] rfl)
          · skip
            refine lv_iconst (v := nI 0) hx hb dX1_cannotGrow_29 (by decide) ?_
            exact vz_iret hx hb hr hlocks hQ (rfl) dX1_cannotGrow_30 (by rw [zcg, exB_t (i := i) (by omega) (by simp [c_18, c_26])]; rfl)
  exact lp1 _ 0 _ (Nat.lt_succ_self _) (by omega) lt_0B (lv_sub hl [1, 2, 0] rfl)
set_option maxHeartbeats 4000000 in
set_option maxRecDepth 100000 in
theorem c_X1_widened (l : Launch) (D : va_G) (kA : ClassId) (ad : Nat → Nat) (n : Nat) (fp fk fh : Nat → Int32) (hn : n ≤ 8) (x : Int32) (asc : Bool) : vz_M l yX1_widened wsX1_widened 2 45 [.ref (ad 0), .int x, .int (vz_b asc)] D kA [(ad 0, .inr (1, [.ref (ad 1), .ref (ad 2), .ref (ad 3), .ref (ad 4), .ref (ad 5), .ref (ad 6), .ref (ad 7), .int (nI n)])), (ad 5, .inl (kA, 256, .inl fp)), (ad 6, .inl (kA, 256, .inl fk)), (ad 7, .inl (kA, 256, .inl fh))] (some (.int (zwd n (ztch n fk (zX_in fp)) asc n x))) := by
  refine vz_start (cc := cX1_widened) (maxL := 7) (ret := (some .int)) (own := RX1) (by decide) rfl rfl (Nat.le_of_ble_eq_true rfl) ?_
  intro pz ez sz mz below meth cz args Q ls hargs hx hb hml hown hts hr hlocks hP hK hQ hl
  have hcf : CallFix pz mz cz cX1_widened 7 sz args wsX1_widened RX1 := ⟨hx, hb, hml, hown, hts⟩
  have hi0 : ∀ w ∈ u_ws RX1 TX1 8, w ∈ wsX1_widened := by decide +kernel
  have hf39 : (Cond.fieldLink RX1 39 "CubeMin" "inputCount" "I").before args sz = true := hts _ (by decide +kernel)
  have hl : lv_has ls 7 [(0, .ref (ad 0)), (1, .int x), (2, .int (vz_b asc))] := hl
  refine lv_iload_n hx hb dX1_widened_0 rfl (lv_at hl 1 rfl) ?_
  refine lv_istore_n (lv' := [(3, .int x), (0, .ref (ad 0)), (1, .int x), (2, .int (vz_b asc))]) hx hb dX1_widened_1 rfl hl (by decide) rfl (fun ls hl => ?_)
  refine lv_iconst (v := nI 0) hx hb dX1_widened_2 (by decide) ?_
  refine lv_istore (lv' := [(4, .int (nI 0)), (3, .int x), (0, .ref (ad 0)), (1, .int x), (2, .int (vz_b asc))]) hx hb dX1_widened_3 hl (by decide) rfl (fun ls hl => ?_)
  have lp1 : ∀ (dz : Nat) (i : Nat) (y : Int32) (ls : Array Slot), (n - i) < dz → (i ≤ n) → (y = zwd n (ztch n fk (zX_in fp)) asc i x) → lv_has ls 7 [(0, .ref (ad 0)), (1, .int x), (2, .int (vz_b asc)), (3, .int y), (4, .int (nI i))] → W pz l ez (vz_R 2 45) sz mz args below meth cz sz.heap [] 0 0 Q (F0 mz 5 ls []) := by
    intro dz
    induction dz with
    | zero => intro i y ls hd h1 h2 hl; exact absurd hd (Nat.not_lt_zero _)
    | succ dz ih1 =>
      intro i y ls hd h1 h2 hl
      refine lv_iload hx hb dX1_widened_5 (lv_at hl 4 rfl) ?_
      refine lv_aload_n hx hb dX1_widened_7 rfl (lv_at hl 0 rfl) ?_
      refine va_get (D := D) (ci := 1) (v := .int (nI n)) (C := RX1) (T := TX1) (N := 8) hx hb hts hi0 hown hK hP 0 rfl rfl 7 (by decide) hf39 (fun _ h9 => h9) rfl dX1_widened_8 ?_
      refine vz_cge (tgt := 66) hx hb dX1_widened_11 (by decide) (by omega) (by omega) (fun c_11 => ?_) (fun c_11 => ?_)
      · skip
        obtain rfl : n = i := by omega
        refine lv_iload_n hx hb dX1_widened_66 rfl (lv_at hl 3 rfl) ?_
        exact vz_iret hx hb hr hlocks hQ (vp_nar_int _) dX1_widened_67 h2
      · skip
        refine lv_iload_n hx hb dX1_widened_14 rfl (lv_at hl 2 rfl) ?_
        refine vz_ifeqB (tgt := 23) hx hb dX1_widened_15 (by decide) (fun c_15 => ?_) (fun c_15 => ?_)
        · skip
          refine lv_aload_n hx hb dX1_widened_23 rfl (lv_at hl 0 rfl) ?_
          refine va_get (D := D) (ci := 1) (v := .int (nI n)) (C := RX1) (T := TX1) (N := 8) hx hb hts hi0 hown hK hP 0 rfl rfl 7 (by decide) hf39 (fun _ h9 => h9) rfl dX1_widened_24 ?_
          refine lv_iconst (v := nI 1) hx hb dX1_widened_27 (by decide) ?_
          refine vz_sub hx hb dX1_widened_28 (by omega) ?_
          refine lv_iload hx hb dX1_widened_29 (lv_at hl 4 rfl) ?_
          refine vz_sub hx hb dX1_widened_31 (by omega) ?_
          refine lv_istore (lv' := [(5, .int (nI ((n - 1) - i))), (0, .ref (ad 0)), (1, .int x), (2, .int (vz_b asc)), (3, .int y), (4, .int (nI i))]) hx hb dX1_widened_32 hl (by decide) rfl (fun ls hl => ?_)
          refine lv_iload_n hx hb dX1_widened_34 rfl (lv_at hl 4 rfl) ?_
          refine lv_iload hx hb dX1_widened_35 (lv_at hl 0 rfl) ?_
          refine vz_callS (n := 2) (As := [.int y, .int (nI ((n - 1) - i))]) (rest := []) hcf (c_X1_freed l D kA y ((n - 1) - i)) gX1_widened_X1_freed rfl hd_X1_freed ⟨Nat.le_of_ble_eq_true rfl, Nat.le_of_ble_eq_true rfl⟩ hK (hP.sub [] rfl) rfl hl.1 rfl (Nat.le_of_ble_eq_true rfl) ⟨Nat.zero_le _, Nat.zero_le _⟩ dX1_widened_37 ?_
          refine lv_istore (lv' := [(6, .int (zfr y ((n - 1) - i))), (5, .int (nI ((n - 1) - i))), (0, .ref (ad 0)), (1, .int x), (2, .int (vz_b asc)), (3, .int y), (4, .int (nI i))]) hx hb dX1_widened_40 hl (by decide) rfl (fun ls hl => ?_)
          refine lv_iload hx hb dX1_widened_42 (lv_at hl 0 rfl) ?_
          refine lv_iload_n hx hb dX1_widened_44 rfl (lv_at hl 5 rfl) ?_
          refine lv_icmp_eq (tgt := 60) hx hb dX1_widened_45 (by decide) (fun c_45 => ?_) (fun c_45 => ?_)
          · skip
            refine lv_iinc (v := (nI (i + 1))) (lv' := [(4, .int (nI (i + 1))), (6, .int (zfr y ((n - 1) - i))), (5, .int (nI ((n - 1) - i))), (0, .ref (ad 0)), (1, .int x), (2, .int (vz_b asc)), (3, .int y)]) hx hb dX1_widened_60 hl (k := 6) rfl (nI_1 _) (by decide) rfl (fun ls hl => ?_)
            refine lv_goto (tgt := 5) hx hb dX1_widened_63 (by decide) ?_
            exact ih1 (i + 1) y _ (by omega) (by omega) (by subst h2; rw [zwd, show zord n asc i = ((n - 1) - i) by simp [zord, c_15], if_neg (by first | (simp [c_45]; done) | (simp [c_54]; done))]) (lv_sub hl [3, 4, 5, 6, 0] rfl)
          · skip
            refine lv_aload_n hx hb dX1_widened_48 rfl (lv_at hl 2 rfl) ?_
            refine lv_iload hx hb dX1_widened_49 (lv_at hl 0 rfl) ?_
            refine vz_callV (n := 1) (As := [.int (zfr y ((n - 1) - i))]) (rest := []) (q0 := 0) hcf (c_X1_touches l D kA ad n fp fk fh hn (zfr y ((n - 1) - i))) gX1_widened_X1_touches rfl hd_X1_touches ⟨Nat.le_of_ble_eq_true rfl, Nat.le_of_ble_eq_true rfl⟩ hK (hP.sub [0, 1, 2, 3] rfl) rfl rfl rfl rfl hl.1 rfl (Nat.le_of_ble_eq_true rfl) ⟨Nat.zero_le _, Nat.zero_le _⟩ dX1_widened_51 ?_
            refine vz_ifneB (tgt := 60) hx hb dX1_widened_54 (by decide) (fun c_54 => ?_) (fun c_54 => ?_)
            · skip
              refine lv_iinc (v := (nI (i + 1))) (lv' := [(4, .int (nI (i + 1))), (6, .int (zfr y ((n - 1) - i))), (5, .int (nI ((n - 1) - i))), (0, .ref (ad 0)), (1, .int x), (2, .int (vz_b asc)), (3, .int y)]) hx hb dX1_widened_60 hl (k := 6) rfl (nI_1 _) (by decide) rfl (fun ls hl => ?_)
              refine lv_goto (tgt := 5) hx hb dX1_widened_63 (by decide) ?_
              exact ih1 (i + 1) y _ (by omega) (by omega) (by subst h2; rw [zwd, show zord n asc i = ((n - 1) - i) by simp [zord, c_15], if_neg (by first | (simp [c_45]; done) | (simp [c_54]; done))]) (lv_sub hl [3, 4, 5, 6, 0] rfl)
            · skip
              refine lv_iload hx hb dX1_widened_57 (lv_at hl 0 rfl) ?_
              refine lv_istore_n (lv' := [(3, .int (zfr y ((n - 1) - i))), (6, .int (zfr y ((n - 1) - i))), (5, .int (nI ((n - 1) - i))), (0, .ref (ad 0)), (1, .int x), (2, .int (vz_b asc)), (4, .int (nI i))]) hx hb dX1_widened_59 rfl hl (by decide) rfl (fun ls hl => ?_)
              refine lv_iinc (v := (nI (i + 1))) (lv' := [(4, .int (nI (i + 1))), (3, .int (zfr y ((n - 1) - i))), (6, .int (zfr y ((n - 1) - i))), (5, .int (nI ((n - 1) - i))), (0, .ref (ad 0)), (1, .int x), (2, .int (vz_b asc))]) hx hb dX1_widened_60 hl (k := 6) rfl (nI_1 _) (by decide) rfl (fun ls hl => ?_)
              refine lv_goto (tgt := 5) hx hb dX1_widened_63 (by decide) ?_
              exact ih1 (i + 1) (zfr y ((n - 1) - i)) _ (by omega) (by omega) (by subst h2; rw [zwd, show zord n asc i = ((n - 1) - i) by simp [zord, c_15], if_pos (by simp [c_45, c_54])]) (lv_sub hl [4, 5, 6, 1, 0] rfl)
        · skip
          refine lv_iload hx hb dX1_widened_18 (lv_at hl 4 rfl) ?_
          refine lv_goto (tgt := 32) hx hb dX1_widened_20 (by decide) ?_
          refine lv_istore (lv' := [(5, .int (nI i)), (0, .ref (ad 0)), (1, .int x), (2, .int (vz_b asc)), (3, .int y), (4, .int (nI i))]) hx hb dX1_widened_32 hl (by decide) rfl (fun ls hl => ?_)
          refine lv_iload_n hx hb dX1_widened_34 rfl (lv_at hl 4 rfl) ?_
          refine lv_iload hx hb dX1_widened_35 (lv_at hl 0 rfl) ?_
          refine vz_callS (n := 2) (As := [.int y, .int (nI i)]) (rest := []) hcf (c_X1_freed l D kA y i) gX1_widened_X1_freed rfl hd_X1_freed ⟨Nat.le_of_ble_eq_true rfl, Nat.le_of_ble_eq_true rfl⟩ hK (hP.sub [] rfl) rfl hl.1 rfl (Nat.le_of_ble_eq_true rfl) ⟨Nat.zero_le _, Nat.zero_le _⟩ dX1_widened_37 ?_
          refine lv_istore (lv' := [(6, .int (zfr y i)), (5, .int (nI i)), (0, .ref (ad 0)), (1, .int x), (2, .int (vz_b asc)), (3, .int y), (4, .int (nI i))]) hx hb dX1_widened_40 hl (by decide) rfl (fun ls hl => ?_)
          refine lv_iload hx hb dX1_widened_42 (lv_at hl 0 rfl) ?_
          refine lv_iload_n hx hb dX1_widened_44 rfl (lv_at hl 5 rfl) ?_
          refine lv_icmp_eq (tgt := 60) hx hb dX1_widened_45 (by decide) (fun c_45 => ?_) (fun c_45 => ?_)
          · skip
            refine lv_iinc (v := (nI (i + 1))) (lv' := [(4, .int (nI (i + 1))), (6, .int (zfr y i)), (5, .int (nI i)), (0, .ref (ad 0)), (1, .int x), (2, .int (vz_b asc)), (3, .int y)]) hx hb dX1_widened_60 hl (k := 6) rfl (nI_1 _) (by decide) rfl (fun ls hl => ?_)
            refine lv_goto (tgt := 5) hx hb dX1_widened_63 (by decide) ?_
            exact ih1 (i + 1) y _ (by omega) (by omega) (by subst h2; rw [zwd, show zord n asc i = i by simp [zord, c_15], if_neg (by first | (simp [c_45]; done) | (simp [c_54]; done))]) (lv_sub hl [3, 4, 5, 6, 0] rfl)
          · skip
            refine lv_aload_n hx hb dX1_widened_48 rfl (lv_at hl 2 rfl) ?_
            refine lv_iload hx hb dX1_widened_49 (lv_at hl 0 rfl) ?_
            refine vz_callV (n := 1) (As := [.int (zfr y i)]) (rest := []) (q0 := 0) hcf (c_X1_touches l D kA ad n fp fk fh hn (zfr y i)) gX1_widened_X1_touches rfl hd_X1_touches ⟨Nat.le_of_ble_eq_true rfl, Nat.le_of_ble_eq_true rfl⟩ hK (hP.sub [0, 1, 2, 3] rfl) rfl rfl rfl rfl hl.1 rfl (Nat.le_of_ble_eq_true rfl) ⟨Nat.zero_le _, Nat.zero_le _⟩ dX1_widened_51 ?_
            refine vz_ifneB (tgt := 60) hx hb dX1_widened_54 (by decide) (fun c_54 => ?_) (fun c_54 => ?_)
            · skip
              refine lv_iinc (v := (nI (i + 1))) (lv' := [(4, .int (nI (i + 1))), (6, .int (zfr y i)), (5, .int (nI i)), (0, .ref (ad 0)), (1, .int x), (2, .int (vz_b asc)), (3, .int y)]) hx hb dX1_widened_60 hl (k := 6) rfl (nI_1 _) (by decide) rfl (fun ls hl => ?_)
              refine lv_goto (tgt := 5) hx hb dX1_widened_63 (by decide) ?_
              exact ih1 (i + 1) y _ (by omega) (by omega) (by subst h2; rw [zwd, show zord n asc i = i by simp [zord, c_15], if_neg (by first | (simp [c_45]; done) | (simp [c_54]; done))]) (lv_sub hl [3, 4, 5, 6, 0] rfl)
            · skip
              refine lv_iload hx hb dX1_widened_57 (lv_at hl 0 rfl) ?_
              refine lv_istore_n (lv' := [(3, .int (zfr y i)), (6, .int (zfr y i)), (5, .int (nI i)), (0, .ref (ad 0)), (1, .int x), (2, .int (vz_b asc)), (4, .int (nI i))]) hx hb dX1_widened_59 rfl hl (by decide) rfl (fun ls hl => ?_)
              refine lv_iinc (v := (nI (i + 1))) (lv' := [(4, .int (nI (i + 1))), (3, .int (zfr y i)), (6, .int (zfr y i)), (5, .int (nI i)), (0, .ref (ad 0)), (1, .int x), (2, .int (vz_b asc))]) hx hb dX1_widened_60 hl (k := 6) rfl (nI_1 _) (by decide) rfl (fun ls hl => ?_)
              refine lv_goto (tgt := 5) hx hb dX1_widened_63 (by decide) ?_
              exact ih1 (i + 1) (zfr y i) _ (by omega) (by omega) (by subst h2; rw [zwd, show zord n asc i = i by simp [zord, c_15], if_pos (by simp [c_45, c_54])]) (lv_sub hl [4, 5, 6, 1, 0] rfl)
  exact lp1 _ 0 x _ (Nat.lt_succ_self _) (by omega) rfl (lv_sub hl [2, 3, 4, 1, 0] rfl)
set_option maxHeartbeats 4000000 in
set_option maxRecDepth 100000 in
theorem c_X1_ownPart (l : Launch) (D : va_G) (kA : ClassId) (ad : Nat → Nat) (n : Nat) (fp fk fh : Nat → Int32) (hn : n ≤ 8) (x : Int32) : vz_M l yX1_ownPart wsX1_ownPart 1 22 [.ref (ad 0), .int x] D kA [(ad 0, .inr (1, [.ref (ad 1), .ref (ad 2), .ref (ad 3), .ref (ad 4), .ref (ad 5), .ref (ad 6), .ref (ad 7), .int (nI n)])), (ad 5, .inl (kA, 256, .inl fp)), (ad 6, .inl (kA, 256, .inl fk)), (ad 7, .inl (kA, 256, .inl fh))] (some (.int (zown n fp fk fh x))) := by
  refine vz_start (cc := cX1_ownPart) (maxL := 5) (ret := (some .int)) (own := RX1) (by decide) rfl rfl (Nat.le_of_ble_eq_true rfl) ?_
  intro pz ez sz mz below meth cz args Q ls hargs hx hb hml hown hts hr hlocks hP hK hQ hl
  have hcf : CallFix pz mz cz cX1_ownPart 5 sz args wsX1_ownPart RX1 := ⟨hx, hb, hml, hown, hts⟩
  have hi0 : ∀ w ∈ u_ws RX1 TX1 8, w ∈ wsX1_ownPart := by decide +kernel
  have hf25 : (Cond.fieldLink RX1 25 "CubeMin" "pointCubes" "[I").before args sz = true := hts _ (by decide +kernel)
  have hf29 : (Cond.fieldLink RX1 29 "CubeMin" "kinds" "[I").before args sz = true := hts _ (by decide +kernel)
  have hf32 : (Cond.fieldLink RX1 32 "CubeMin" "holders" "[I").before args sz = true := hts _ (by decide +kernel)
  have hl : lv_has ls 5 [(0, .ref (ad 0)), (1, .int x)] := hl
  have hN := zN_le hn
  refine lv_aload_n hx hb dX1_ownPart_0 rfl (lv_at hl 0 rfl) ?_
  refine vz_callV (n := 0) (As := []) (rest := []) (q0 := 0) hcf (c_X1_pointCount l D kA ad n fp fk fh hn) gX1_ownPart_X1_pointCount rfl hd_X1_pointCount ⟨Nat.le_of_ble_eq_true rfl, Nat.le_of_ble_eq_true rfl⟩ hK (hP.sub [0, 1, 2, 3] rfl) rfl rfl rfl rfl hl.1 rfl (Nat.le_of_ble_eq_true rfl) ⟨Nat.zero_le _, Nat.zero_le _⟩ dX1_ownPart_1 ?_
  refine lv_istore_n (lv' := [(2, .int (nI (zN n))), (0, .ref (ad 0)), (1, .int x)]) hx hb dX1_ownPart_4 rfl hl (by decide) rfl (fun ls hl => ?_)
  refine lv_iconst (v := nI 0) hx hb dX1_ownPart_5 (by decide) ?_
  refine lv_istore_n (lv' := [(3, .int (nI 0)), (2, .int (nI (zN n))), (0, .ref (ad 0)), (1, .int x)]) hx hb dX1_ownPart_6 rfl hl (by decide) rfl (fun ls hl => ?_)
  refine lv_iconst (v := nI 0) hx hb dX1_ownPart_7 (by decide) ?_
  refine lv_istore (lv' := [(4, .int (nI 0)), (3, .int (nI 0)), (2, .int (nI (zN n))), (0, .ref (ad 0)), (1, .int x)]) hx hb dX1_ownPart_8 hl (by decide) rfl (fun ls hl => ?_)
  have lp1 : ∀ (dz : Nat) (t : Int32) (i : Nat) (ls : Array Slot), (zN n - i) < dz → (i ≤ zN n) → (t = orI i (fun p => decide (fk p = nI 1) && (decide (fh p = nI 1) && zX_in fp x p)) fp) → lv_has ls 5 [(0, .ref (ad 0)), (1, .int x), (2, .int (nI (zN n))), (3, .int t), (4, .int (nI i))] → W pz l ez (vz_R 1 22) sz mz args below meth cz sz.heap [] 0 0 Q (F0 mz 10 ls []) := by
    intro dz
    induction dz with
    | zero => intro t i ls hd h1 h2 hl; exact absurd hd (Nat.not_lt_zero _)
    | succ dz ih1 =>
      intro t i ls hd h1 h2 hl
      refine lv_iload hx hb dX1_ownPart_10 (lv_at hl 4 rfl) ?_
      refine lv_iload_n hx hb dX1_ownPart_12 rfl (lv_at hl 2 rfl) ?_
      refine vz_cge (tgt := 64) hx hb dX1_ownPart_13 (by decide) (by omega) (by omega) (fun c_13 => ?_) (fun c_13 => ?_)
      · skip
        obtain rfl : i = zN n := by omega
        refine lv_iload_n hx hb dX1_ownPart_64 rfl (lv_at hl 3 rfl) ?_
        exact vz_iret hx hb hr hlocks hQ (vp_nar_int _) dX1_ownPart_65 h2
      · skip
        refine lv_aload_n hx hb dX1_ownPart_16 rfl (lv_at hl 0 rfl) ?_
        refine va_get (D := D) (ci := 1) (v := .ref (ad 6)) (C := RX1) (T := TX1) (N := 8) hx hb hts hi0 hown hK hP 0 rfl rfl 5 (by decide) hf29 (fun _ h9 => h9) rfl dX1_ownPart_17 ?_
        refine lv_iload hx hb dX1_ownPart_20 (lv_at hl 4 rfl) ?_
        refine vz_ald hx hb hK hP 2 rfl (by omega) (Nat.le_of_ble_eq_true rfl) dX1_ownPart_22 ?_
        refine lv_iconst (v := nI 1) hx hb dX1_ownPart_23 (by decide) ?_
        refine lv_icmp_ne (tgt := 58) hx hb dX1_ownPart_24 (by decide) (fun c_24 => ?_) (fun c_24 => ?_)
        · skip
          refine lv_iinc (v := (nI (i + 1))) (lv' := [(4, .int (nI (i + 1))), (0, .ref (ad 0)), (1, .int x), (2, .int (nI (zN n))), (3, .int t)]) hx hb dX1_ownPart_58 hl (k := 4) rfl (nI_1 _) (by decide) rfl (fun ls hl => ?_)
          refine lv_goto (tgt := 10) hx hb dX1_ownPart_61 (by decide) ?_
          exact ih1 t (i + 1) _ (by omega) (by omega) (by rw [orI, if_neg (by first | (simp [c_24]; done) | (simp [c_35]; done) | (simp [c_45]; done))]; exact h2) (lv_sub hl [1, 2, 3, 4, 0] rfl)
        · skip
          refine lv_aload_n hx hb dX1_ownPart_27 rfl (lv_at hl 0 rfl) ?_
          refine va_get (D := D) (ci := 1) (v := .ref (ad 7)) (C := RX1) (T := TX1) (N := 8) hx hb hts hi0 hown hK hP 0 rfl rfl 6 (by decide) hf32 (fun _ h9 => h9) rfl dX1_ownPart_28 ?_
          refine lv_iload hx hb dX1_ownPart_31 (lv_at hl 4 rfl) ?_
          refine vz_ald hx hb hK hP 3 rfl (by omega) (Nat.le_of_ble_eq_true rfl) dX1_ownPart_33 ?_
          refine lv_iconst (v := nI 1) hx hb dX1_ownPart_34 (by decide) ?_
          refine lv_icmp_ne (tgt := 58) hx hb dX1_ownPart_35 (by decide) (fun c_35 => ?_) (fun c_35 => ?_)
          · skip
            refine lv_iinc (v := (nI (i + 1))) (lv' := [(4, .int (nI (i + 1))), (0, .ref (ad 0)), (1, .int x), (2, .int (nI (zN n))), (3, .int t)]) hx hb dX1_ownPart_58 hl (k := 4) rfl (nI_1 _) (by decide) rfl (fun ls hl => ?_)
            refine lv_goto (tgt := 10) hx hb dX1_ownPart_61 (by decide) ?_
            exact ih1 t (i + 1) _ (by omega) (by omega) (by rw [orI, if_neg (by first | (simp [c_24]; done) | (simp [c_35]; done) | (simp [c_45]; done))]; exact h2) (lv_sub hl [1, 2, 3, 4, 0] rfl)
          · skip
            refine lv_aload_n hx hb dX1_ownPart_38 rfl (lv_at hl 0 rfl) ?_
            refine lv_iload_n hx hb dX1_ownPart_39 rfl (lv_at hl 1 rfl) ?_
            refine lv_iload hx hb dX1_ownPart_40 (lv_at hl 4 rfl) ?_
            refine vz_callV (n := 2) (As := [.int x, .int (nI i)]) (rest := []) (q0 := 0) hcf (c_X1_isInCube l D kA ad n fp fk fh hn x i (by omega)) gX1_ownPart_X1_isInCube rfl hd_X1_isInCube ⟨Nat.le_of_ble_eq_true rfl, Nat.le_of_ble_eq_true rfl⟩ hK (hP.sub [0, 1, 2, 3] rfl) rfl rfl rfl rfl hl.1 rfl (Nat.le_of_ble_eq_true rfl) ⟨Nat.zero_le _, Nat.zero_le _⟩ dX1_ownPart_42 ?_
            refine vz_ifeqB (tgt := 58) hx hb dX1_ownPart_45 (by decide) (fun c_45 => ?_) (fun c_45 => ?_)
            · skip
              refine lv_iinc (v := (nI (i + 1))) (lv' := [(4, .int (nI (i + 1))), (0, .ref (ad 0)), (1, .int x), (2, .int (nI (zN n))), (3, .int t)]) hx hb dX1_ownPart_58 hl (k := 4) rfl (nI_1 _) (by decide) rfl (fun ls hl => ?_)
              refine lv_goto (tgt := 10) hx hb dX1_ownPart_61 (by decide) ?_
              exact ih1 t (i + 1) _ (by omega) (by omega) (by rw [orI, if_neg (by first | (simp [c_24]; done) | (simp [c_35]; done) | (simp [c_45]; done))]; exact h2) (lv_sub hl [1, 2, 3, 4, 0] rfl)
            · skip
              refine lv_iload_n hx hb dX1_ownPart_48 rfl (lv_at hl 3 rfl) ?_
              refine lv_aload_n hx hb dX1_ownPart_49 rfl (lv_at hl 0 rfl) ?_
              refine va_get (D := D) (ci := 1) (v := .ref (ad 5)) (C := RX1) (T := TX1) (N := 8) hx hb hts hi0 hown hK hP 0 rfl rfl 4 (by decide) hf25 (fun _ h9 => h9) rfl dX1_ownPart_50 ?_
              refine lv_iload hx hb dX1_ownPart_53 (lv_at hl 4 rfl) ?_
              refine vz_ald hx hb hK hP 1 rfl (by omega) (Nat.le_of_ble_eq_true rfl) dX1_ownPart_55 ?_
              refine lv_ior hx hb dX1_ownPart_56 ?_
              refine lv_istore_n (lv' := [(3, .int (t ||| (fp i))), (0, .ref (ad 0)), (1, .int x), (2, .int (nI (zN n))), (4, .int (nI i))]) hx hb dX1_ownPart_57 rfl hl (by decide) rfl (fun ls hl => ?_)
              refine lv_iinc (v := (nI (i + 1))) (lv' := [(4, .int (nI (i + 1))), (3, .int (t ||| (fp i))), (0, .ref (ad 0)), (1, .int x), (2, .int (nI (zN n)))]) hx hb dX1_ownPart_58 hl (k := 4) rfl (nI_1 _) (by decide) rfl (fun ls hl => ?_)
              refine lv_goto (tgt := 10) hx hb dX1_ownPart_61 (by decide) ?_
              exact ih1 (t ||| (fp i)) (i + 1) _ (by omega) (by omega) (by rw [orI, if_pos (by simp [c_24, c_35, c_45]), h2]) (lv_sub hl [2, 3, 4, 1, 0] rfl)
  exact lp1 _ (nI 0) 0 _ (Nat.lt_succ_self _) (by omega) rfl (lv_sub hl [3, 4, 2, 1, 0] rfl)
set_option maxHeartbeats 4000000 in
set_option maxRecDepth 100000 in
theorem c_X1_isSmaller (l : Launch) (D : va_G) (kA : ClassId) (ad : Nat → Nat) (n : Nat) (fp fk fh : Nat → Int32) (hn : n ≤ 8) (h a c : Nat) (f : Nat → Int32) (hc : c ≤ 24) (h2 a2 c2 : Nat) (f2 : Nat → Int32) (hc2 : c2 ≤ 24) : vz_M l yX1_isSmaller wsX1_isSmaller 2 46 [.ref (ad 0), .ref h, .ref h2] D kA [(ad 0, .inr (1, [.ref (ad 1), .ref (ad 2), .ref (ad 3), .ref (ad 4), .ref (ad 5), .ref (ad 6), .ref (ad 7), .int (nI n)])), (ad 5, .inl (kA, 256, .inl fp)), (ad 6, .inl (kA, 256, .inl fk)), (ad 7, .inl (kA, 256, .inl fh)), (h, .inr (0, [.ref a, .int (nI c)])), (a, .inl (kA, 24, .inl f)), (h2, .inr (0, [.ref a2, .int (nI c2)])), (a2, .inl (kA, 24, .inl f2))] (some (.int (vz_b (zsm n c f c2 f2)))) := by
  refine vz_start (cc := cX1_isSmaller) (maxL := 3) (ret := (some .boolean)) (own := RX1) (by decide) rfl rfl (Nat.le_of_ble_eq_true rfl) ?_
  intro pz ez sz mz below meth cz args Q ls hargs hx hb hml hown hts hr hlocks hP hK hQ hl
  have hcf : CallFix pz mz cz cX1_isSmaller 3 sz args wsX1_isSmaller RX1 := ⟨hx, hb, hml, hown, hts⟩
  have hl : lv_has ls 3 [(0, .ref (ad 0)), (1, .ref h), (2, .ref h2)] := hl
  have hz1 : zlits n c f ≤ 192 := zlits_le hn hc
  have hz2 : zlits n c2 f2 ≤ 192 := zlits_le hn hc2
  refine lv_aload_n hx hb dX1_isSmaller_0 rfl (lv_at hl 1 rfl) ?_
  refine vz_callV (n := 0) (As := []) (rest := []) (q0 := 0) hcf (c_X0_length l D kA h a c f hc) gX1_isSmaller_X0_length rfl hd_X0_length ⟨Nat.le_of_ble_eq_true rfl, Nat.le_of_ble_eq_true rfl⟩ hK (hP.sub [4, 5] rfl) rfl rfl rfl rfl hl.1 rfl (Nat.le_of_ble_eq_true rfl) ⟨Nat.zero_le _, Nat.zero_le _⟩ dX1_isSmaller_1 ?_
  refine lv_aload_n hx hb dX1_isSmaller_4 rfl (lv_at hl 2 rfl) ?_
  refine vz_callV (n := 0) (As := []) (rest := [.int (nI c)]) (q0 := 0) hcf (c_X0_length l D kA h2 a2 c2 f2 hc2) gX1_isSmaller_X0_length rfl hd_X0_length ⟨Nat.le_of_ble_eq_true rfl, Nat.le_of_ble_eq_true rfl⟩ hK (hP.sub [6, 7] rfl) rfl rfl rfl rfl hl.1 rfl (Nat.le_of_ble_eq_true rfl) ⟨Nat.zero_le _, Nat.zero_le _⟩ dX1_isSmaller_5 ?_
  refine vz_ceq (tgt := 28) hx hb dX1_isSmaller_8 (by decide) (by omega) (by omega) (fun c_8 => ?_) (fun c_8 => ?_)
  · skip
    refine lv_aload_n hx hb dX1_isSmaller_28 rfl (lv_at hl 0 rfl) ?_
    refine lv_aload_n hx hb dX1_isSmaller_29 rfl (lv_at hl 1 rfl) ?_
    refine vz_callV (n := 1) (As := [.ref h]) (rest := []) (q0 := 0) hcf (c_X1_countLiterals l D kA ad n fp fk fh hn h a c f hc) gX1_isSmaller_X1_countLiterals rfl hd_X1_countLiterals ⟨Nat.le_of_ble_eq_true rfl, Nat.le_of_ble_eq_true rfl⟩ hK (hP.sub [0, 1, 2, 3, 4, 5] rfl) rfl rfl rfl rfl hl.1 rfl (Nat.le_of_ble_eq_true rfl) ⟨Nat.zero_le _, Nat.zero_le _⟩ dX1_isSmaller_30 ?_
    refine lv_aload_n hx hb dX1_isSmaller_33 rfl (lv_at hl 0 rfl) ?_
    refine lv_aload_n hx hb dX1_isSmaller_34 rfl (lv_at hl 2 rfl) ?_
    refine vz_callV (n := 1) (As := [.ref h2]) (rest := [.int (nI (zlits n c f))]) (q0 := 0) hcf (c_X1_countLiterals l D kA ad n fp fk fh hn h2 a2 c2 f2 hc2) gX1_isSmaller_X1_countLiterals rfl hd_X1_countLiterals ⟨Nat.le_of_ble_eq_true rfl, Nat.le_of_ble_eq_true rfl⟩ hK (hP.sub [0, 1, 2, 3, 6, 7] rfl) rfl rfl rfl rfl hl.1 rfl (Nat.le_of_ble_eq_true rfl) ⟨Nat.zero_le _, Nat.zero_le _⟩ dX1_isSmaller_35 ?_
    refine vz_cge (tgt := 45) hx hb dX1_isSmaller_38 (by decide) (by omega) (by omega) (fun c_38 => ?_) (fun c_38 => ?_)
    · skip
      refine lv_iconst (v := nI 0) hx hb dX1_isSmaller_45 (by decide) ?_
      exact vz_iret hx hb hr hlocks hQ (rfl) dX1_isSmaller_46 (by rw [zsm, if_pos c_8]; first | (rw [decide_eq_true (show zlits n c f < zlits n c2 f2 by omega)]; rfl) | (rw [decide_eq_false (show ¬ zlits n c f < zlits n c2 f2 by omega)]; rfl))
    · skip
      refine lv_iconst (v := nI 1) hx hb dX1_isSmaller_41 (by decide) ?_
      refine lv_goto (tgt := 46) hx hb dX1_isSmaller_42 (by decide) ?_
      exact vz_iret hx hb hr hlocks hQ (rfl) dX1_isSmaller_46 (by rw [zsm, if_pos c_8]; first | (rw [decide_eq_true (show zlits n c f < zlits n c2 f2 by omega)]; rfl) | (rw [decide_eq_false (show ¬ zlits n c f < zlits n c2 f2 by omega)]; rfl))
  · skip
    refine lv_aload_n hx hb dX1_isSmaller_11 rfl (lv_at hl 1 rfl) ?_
    refine vz_callV (n := 0) (As := []) (rest := []) (q0 := 0) hcf (c_X0_length l D kA h a c f hc) gX1_isSmaller_X0_length rfl hd_X0_length ⟨Nat.le_of_ble_eq_true rfl, Nat.le_of_ble_eq_true rfl⟩ hK (hP.sub [4, 5] rfl) rfl rfl rfl rfl hl.1 rfl (Nat.le_of_ble_eq_true rfl) ⟨Nat.zero_le _, Nat.zero_le _⟩ dX1_isSmaller_12 ?_
    refine lv_aload_n hx hb dX1_isSmaller_15 rfl (lv_at hl 2 rfl) ?_
    refine vz_callV (n := 0) (As := []) (rest := [.int (nI c)]) (q0 := 0) hcf (c_X0_length l D kA h2 a2 c2 f2 hc2) gX1_isSmaller_X0_length rfl hd_X0_length ⟨Nat.le_of_ble_eq_true rfl, Nat.le_of_ble_eq_true rfl⟩ hK (hP.sub [6, 7] rfl) rfl rfl rfl rfl hl.1 rfl (Nat.le_of_ble_eq_true rfl) ⟨Nat.zero_le _, Nat.zero_le _⟩ dX1_isSmaller_16 ?_
    refine vz_cge (tgt := 26) hx hb dX1_isSmaller_19 (by decide) (by omega) (by omega) (fun c_19 => ?_) (fun c_19 => ?_)
    · skip
      refine lv_iconst (v := nI 0) hx hb dX1_isSmaller_26 (by decide) ?_
      exact vz_iret hx hb hr hlocks hQ (rfl) dX1_isSmaller_27 (by rw [zsm, if_neg c_8]; first | (rw [decide_eq_true (show c < c2 by omega)]; rfl) | (rw [decide_eq_false (show ¬ c < c2 by omega)]; rfl))
    · skip
      refine lv_iconst (v := nI 1) hx hb dX1_isSmaller_22 (by decide) ?_
      refine lv_goto (tgt := 27) hx hb dX1_isSmaller_23 (by decide) ?_
      exact vz_iret hx hb hr hlocks hQ (rfl) dX1_isSmaller_27 (by rw [zsm, if_neg c_8]; first | (rw [decide_eq_true (show c < c2 by omega)]; rfl) | (rw [decide_eq_false (show ¬ c < c2 by omega)]; rfl))
end
section
set_option maxHeartbeats 4000000 in
set_option maxRecDepth 100000 in
theorem c_X1_markWanted (l : Launch) (D : va_G) (kA : ClassId) (ad : Nat → Nat) (n : Nat) (fp fk fh : Nat → Int32) (hn : n ≤ 8) (x : Int32) : vz_MM l yX1_markWanted wsX1_markWanted 1 22 [.ref (ad 0), .int x] D kA [(ad 0, .inr (1, [.ref (ad 1), .ref (ad 2), .ref (ad 3), .ref (ad 4), .ref (ad 5), .ref (ad 6), .ref (ad 7), .int (nI n)])), (ad 5, .inl (kA, 256, .inl fp)), (ad 6, .inl (kA, 256, .inl fk)), (ad 7, .inl (kA, 256, .inl fh))] none [(ad 0, .inr (1, [.ref (ad 1), .ref (ad 2), .ref (ad 3), .ref (ad 4), .ref (ad 5), .ref (ad 6), .ref (ad 7), .int (nI n)])), (ad 5, .inl (kA, 256, .inl fp)), (ad 6, .inl (kA, 256, .inl (zmk (zN n) (fun q => decide (fk q = 0) && zX_in fp x q) (nI 1) fk))), (ad 7, .inl (kA, 256, .inl fh))] := by
  refine vz_startM (cc := cX1_markWanted) (maxL := 4) (ret := none) (own := RX1) (by decide) rfl rfl (Nat.le_of_ble_eq_true rfl) ?_
  intro pz ez sz mz below meth cz args Q ls H locs Az hargs hx hb hml hown hts hr hlocks hP hK hD hS hAe hQ hl
  have hcf : CallFix pz mz cz cX1_markWanted 4 sz args wsX1_markWanted RX1 := ⟨hx, hb, hml, hown, hts⟩
  have hi0 : ∀ w ∈ u_ws RX1 TX1 8, w ∈ wsX1_markWanted := by decide +kernel
  have hf29 : (Cond.fieldLink RX1 29 "CubeMin" "kinds" "[I").before args sz = true := hts _ (by decide +kernel)
  have hl : lv_has ls 4 [(0, .ref (ad 0)), (1, .int x)] := hl
  have hN := zN_le hn
  refine lv_aload_n hx hb dX1_markWanted_0 rfl (lv_at hl 0 rfl) ?_
  refine vz_callV (n := 0) (As := []) (rest := []) (q0 := 0) hcf (c_X1_pointCount l D kA ad n fp fk fh hn) gX1_markWanted_X1_pointCount rfl hd_X1_pointCount ⟨Nat.le_of_ble_eq_true rfl, Nat.le_of_ble_eq_true rfl⟩ hK (hP.sub [0, 1, 2, 3] rfl) rfl rfl rfl rfl hl.1 rfl (Nat.le_of_ble_eq_true rfl) ⟨Nat.zero_le _, Nat.zero_le _⟩ dX1_markWanted_1 ?_
  refine lv_istore_n (lv' := [(2, .int (nI (zN n))), (0, .ref (ad 0)), (1, .int x)]) hx hb dX1_markWanted_4 rfl hl (by decide) rfl (fun ls hl => ?_)
  refine lv_iconst (v := nI 0) hx hb dX1_markWanted_5 (by decide) ?_
  refine lv_istore_n (lv' := [(3, .int (nI 0)), (2, .int (nI (zN n))), (0, .ref (ad 0)), (1, .int x)]) hx hb dX1_markWanted_6 rfl hl (by decide) rfl (fun ls hl => ?_)
  have lp1 : ∀ (dz : Nat) (i : Nat) (g : Nat → Int32) (H : Heap) (locs : List Loc) (ls : Array Slot), (zN n - i) < dz → (i ≤ zN n) → (g = zmk i (fun q => decide (fk q = 0) && zX_in fp x q) (nI 1) fk) → va_P D vwCl [(ad 0, .inr (1, [.ref (ad 1), .ref (ad 2), .ref (ad 3), .ref (ad 4), .ref (ad 5), .ref (ad 6), .ref (ad 7), .int (nI n)])), (ad 5, .inl (kA, 256, .inl fp)), (ad 6, .inl (kA, 256, .inl g)), (ad 7, .inl (kA, 256, .inl fh))] H → va_D Az [(ad 0, .inr (1, [.ref (ad 1), .ref (ad 2), .ref (ad 3), .ref (ad 4), .ref (ad 5), .ref (ad 6), .ref (ad 7), .int (nI n)])), (ad 5, .inl (kA, 256, .inl fp)), (ad 6, .inl (kA, 256, .inl g)), (ad 7, .inl (kA, 256, .inl fh))] → va_S Az sz.heap H locs → lv_has ls 4 [(0, .ref (ad 0)), (1, .int x), (2, .int (nI (zN n))), (3, .int (nI i))] → W pz l ez (vz_R 1 22) sz mz args below meth cz H locs 0 0 Q (F0 mz 7 ls []) := by
    intro dz
    induction dz with
    | zero => intro i g H locs ls hd h1 hg hP hD hS hl; exact absurd hd (Nat.not_lt_zero _)
    | succ dz ih1 =>
      intro i g H locs ls hd h1 hg hP hD hS hl
      refine lv_iload_n hx hb dX1_markWanted_7 rfl (lv_at hl 3 rfl) ?_
      refine lv_iload_n hx hb dX1_markWanted_8 rfl (lv_at hl 2 rfl) ?_
      refine vz_cge (tgt := 43) hx hb dX1_markWanted_9 (by decide) (by omega) (by omega) (fun c_9 => ?_) (fun c_9 => ?_)
      · skip
        obtain rfl : i = zN n := by omega
        subst hg
        exact vz_vretM hx hb hr hlocks hQ hAe dX1_markWanted_43 hS hP rfl
      · skip
        refine lv_aload_n hx hb dX1_markWanted_12 rfl (lv_at hl 0 rfl) ?_
        refine va_get (D := D) (ci := 1) (v := .ref (ad 6)) (C := RX1) (T := TX1) (N := 8) hx hb hts hi0 hown hK hP 0 rfl rfl 5 (by decide) hf29 (fun _ h9 => h9) rfl dX1_markWanted_13 ?_
        refine lv_iload_n hx hb dX1_markWanted_16 rfl (lv_at hl 3 rfl) ?_
        refine vz_ald hx hb hK hP 2 rfl (by omega) (Nat.le_of_ble_eq_true rfl) dX1_markWanted_17 ?_
        refine vz_top (y := (fk i)) (by rw [hg]; exact zmk_at) ?_
        refine lv_if_ne (tgt := 37) hx hb dX1_markWanted_18 (by decide) (fun c_18 => ?_) (fun c_18 => ?_)
        · skip
          refine lv_iinc (v := (nI (i + 1))) (lv' := [(3, .int (nI (i + 1))), (0, .ref (ad 0)), (1, .int x), (2, .int (nI (zN n)))]) hx hb dX1_markWanted_37 hl (k := 3) rfl (nI_1 _) (by decide) rfl (fun ls hl => ?_)
          refine lv_goto (tgt := 7) hx hb dX1_markWanted_40 (by decide) ?_
          exact ih1 (i + 1) g _ _ _ (by omega) (by omega) (by rw [hg]; exact zmk_f (by first | (simp [c_18]; done) | (simp [c_27]; done))) hP (vz_D hD rfl) hS (lv_sub hl [1, 2, 3, 0] rfl)
        · skip
          refine lv_aload_n hx hb dX1_markWanted_21 rfl (lv_at hl 0 rfl) ?_
          refine lv_iload_n hx hb dX1_markWanted_22 rfl (lv_at hl 1 rfl) ?_
          refine lv_iload_n hx hb dX1_markWanted_23 rfl (lv_at hl 3 rfl) ?_
          refine vz_callV (n := 2) (As := [.int x, .int (nI i)]) (rest := []) (q0 := 0) hcf (c_X1_isInCube l D kA ad n fp g fh hn x i (by omega)) gX1_markWanted_X1_isInCube rfl hd_X1_isInCube ⟨Nat.le_of_ble_eq_true rfl, Nat.le_of_ble_eq_true rfl⟩ hK (hP.sub [0, 1, 2, 3] rfl) rfl rfl rfl rfl hl.1 rfl (Nat.le_of_ble_eq_true rfl) ⟨Nat.zero_le _, Nat.zero_le _⟩ dX1_markWanted_24 ?_
          refine vz_ifeqB (tgt := 37) hx hb dX1_markWanted_27 (by decide) (fun c_27 => ?_) (fun c_27 => ?_)
          · skip
            refine lv_iinc (v := (nI (i + 1))) (lv' := [(3, .int (nI (i + 1))), (0, .ref (ad 0)), (1, .int x), (2, .int (nI (zN n)))]) hx hb dX1_markWanted_37 hl (k := 3) rfl (nI_1 _) (by decide) rfl (fun ls hl => ?_)
            refine lv_goto (tgt := 7) hx hb dX1_markWanted_40 (by decide) ?_
            exact ih1 (i + 1) g _ _ _ (by omega) (by omega) (by rw [hg]; exact zmk_f (by first | (simp [c_18]; done) | (simp [c_27]; done))) hP (vz_D hD rfl) hS (lv_sub hl [1, 2, 3, 0] rfl)
          · skip
            refine lv_aload_n hx hb dX1_markWanted_30 rfl (lv_at hl 0 rfl) ?_
            refine va_get (D := D) (ci := 1) (v := .ref (ad 6)) (C := RX1) (T := TX1) (N := 8) hx hb hts hi0 hown hK hP 0 rfl rfl 5 (by decide) hf29 (fun _ h9 => h9) rfl dX1_markWanted_31 ?_
            refine lv_iload_n hx hb dX1_markWanted_34 rfl (lv_at hl 3 rfl) ?_
            refine lv_iconst (v := nI 1) hx hb dX1_markWanted_35 (by decide) ?_
            refine vz_ast hx hb hK hP hD hS 2 rfl (by omega) (Nat.le_of_ble_eq_true rfl) dX1_markWanted_36 (fun H locs hP hD hS => ?_)
            have hP : va_P D vwCl [(ad 0, .inr (1, [.ref (ad 1), .ref (ad 2), .ref (ad 3), .ref (ad 4), .ref (ad 5), .ref (ad 6), .ref (ad 7), .int (nI n)])), (ad 5, .inl (kA, 256, .inl fp)), (ad 6, .inl (kA, 256, .inl (upd g i (nI 1)))), (ad 7, .inl (kA, 256, .inl fh))] H := hP
            have hD : va_D Az [(ad 0, .inr (1, [.ref (ad 1), .ref (ad 2), .ref (ad 3), .ref (ad 4), .ref (ad 5), .ref (ad 6), .ref (ad 7), .int (nI n)])), (ad 5, .inl (kA, 256, .inl fp)), (ad 6, .inl (kA, 256, .inl (upd g i (nI 1)))), (ad 7, .inl (kA, 256, .inl fh))] := hD
            refine lv_iinc (v := (nI (i + 1))) (lv' := [(3, .int (nI (i + 1))), (0, .ref (ad 0)), (1, .int x), (2, .int (nI (zN n)))]) hx hb dX1_markWanted_37 hl (k := 3) rfl (nI_1 _) (by decide) rfl (fun ls hl => ?_)
            refine lv_goto (tgt := 7) hx hb dX1_markWanted_40 (by decide) ?_
            exact ih1 (i + 1) (upd g i (nI 1)) _ _ _ (by omega) (by omega) (by rw [hg]; exact zmk_t (by simp [c_18, c_27])) hP (vz_D hD rfl) hS (lv_sub hl [1, 2, 3, 0] rfl)
  exact lp1 _ 0 fk _ _ _ (Nat.lt_succ_self _) (by omega) zmk_0.symm hP (vz_D hD rfl) hS (lv_sub hl [2, 3, 1, 0] rfl)
set_option maxHeartbeats 4000000 in
set_option maxRecDepth 100000 in
theorem c_X1_markIndifferent (l : Launch) (D : va_G) (kA : ClassId) (ad : Nat → Nat) (n : Nat) (fp fk fh : Nat → Int32) (hn : n ≤ 8) (x : Int32) : vz_MM l yX1_markIndifferent wsX1_markIndifferent 1 22 [.ref (ad 0), .int x] D kA [(ad 0, .inr (1, [.ref (ad 1), .ref (ad 2), .ref (ad 3), .ref (ad 4), .ref (ad 5), .ref (ad 6), .ref (ad 7), .int (nI n)])), (ad 5, .inl (kA, 256, .inl fp)), (ad 6, .inl (kA, 256, .inl fk)), (ad 7, .inl (kA, 256, .inl fh))] none [(ad 0, .inr (1, [.ref (ad 1), .ref (ad 2), .ref (ad 3), .ref (ad 4), .ref (ad 5), .ref (ad 6), .ref (ad 7), .int (nI n)])), (ad 5, .inl (kA, 256, .inl fp)), (ad 6, .inl (kA, 256, .inl (zmk (zN n) (zX_in fp x) (nI 2) fk))), (ad 7, .inl (kA, 256, .inl fh))] := by
  refine vz_startM (cc := cX1_markIndifferent) (maxL := 4) (ret := none) (own := RX1) (by decide) rfl rfl (Nat.le_of_ble_eq_true rfl) ?_
  intro pz ez sz mz below meth cz args Q ls H locs Az hargs hx hb hml hown hts hr hlocks hP hK hD hS hAe hQ hl
  have hcf : CallFix pz mz cz cX1_markIndifferent 4 sz args wsX1_markIndifferent RX1 := ⟨hx, hb, hml, hown, hts⟩
  have hi0 : ∀ w ∈ u_ws RX1 TX1 8, w ∈ wsX1_markIndifferent := by decide +kernel
  have hf29 : (Cond.fieldLink RX1 29 "CubeMin" "kinds" "[I").before args sz = true := hts _ (by decide +kernel)
  have hl : lv_has ls 4 [(0, .ref (ad 0)), (1, .int x)] := hl
  have hN := zN_le hn
  refine lv_aload_n hx hb dX1_markIndifferent_0 rfl (lv_at hl 0 rfl) ?_
  refine vz_callV (n := 0) (As := []) (rest := []) (q0 := 0) hcf (c_X1_pointCount l D kA ad n fp fk fh hn) gX1_markIndifferent_X1_pointCount rfl hd_X1_pointCount ⟨Nat.le_of_ble_eq_true rfl, Nat.le_of_ble_eq_true rfl⟩ hK (hP.sub [0, 1, 2, 3] rfl) rfl rfl rfl rfl hl.1 rfl (Nat.le_of_ble_eq_true rfl) ⟨Nat.zero_le _, Nat.zero_le _⟩ dX1_markIndifferent_1 ?_
  refine lv_istore_n (lv' := [(2, .int (nI (zN n))), (0, .ref (ad 0)), (1, .int x)]) hx hb dX1_markIndifferent_4 rfl hl (by decide) rfl (fun ls hl => ?_)
  refine lv_iconst (v := nI 0) hx hb dX1_markIndifferent_5 (by decide) ?_
  refine lv_istore_n (lv' := [(3, .int (nI 0)), (2, .int (nI (zN n))), (0, .ref (ad 0)), (1, .int x)]) hx hb dX1_markIndifferent_6 rfl hl (by decide) rfl (fun ls hl => ?_)
  have lp1 : ∀ (dz : Nat) (i : Nat) (g : Nat → Int32) (H : Heap) (locs : List Loc) (ls : Array Slot), (zN n - i) < dz → (i ≤ zN n) → (g = zmk i (zX_in fp x) (nI 2) fk) → va_P D vwCl [(ad 0, .inr (1, [.ref (ad 1), .ref (ad 2), .ref (ad 3), .ref (ad 4), .ref (ad 5), .ref (ad 6), .ref (ad 7), .int (nI n)])), (ad 5, .inl (kA, 256, .inl fp)), (ad 6, .inl (kA, 256, .inl g)), (ad 7, .inl (kA, 256, .inl fh))] H → va_D Az [(ad 0, .inr (1, [.ref (ad 1), .ref (ad 2), .ref (ad 3), .ref (ad 4), .ref (ad 5), .ref (ad 6), .ref (ad 7), .int (nI n)])), (ad 5, .inl (kA, 256, .inl fp)), (ad 6, .inl (kA, 256, .inl g)), (ad 7, .inl (kA, 256, .inl fh))] → va_S Az sz.heap H locs → lv_has ls 4 [(0, .ref (ad 0)), (1, .int x), (2, .int (nI (zN n))), (3, .int (nI i))] → W pz l ez (vz_R 1 22) sz mz args below meth cz H locs 0 0 Q (F0 mz 7 ls []) := by
    intro dz
    induction dz with
    | zero => intro i g H locs ls hd h1 hg hP hD hS hl; exact absurd hd (Nat.not_lt_zero _)
    | succ dz ih1 =>
      intro i g H locs ls hd h1 hg hP hD hS hl
      refine lv_iload_n hx hb dX1_markIndifferent_7 rfl (lv_at hl 3 rfl) ?_
      refine lv_iload_n hx hb dX1_markIndifferent_8 rfl (lv_at hl 2 rfl) ?_
      refine vz_cge (tgt := 34) hx hb dX1_markIndifferent_9 (by decide) (by omega) (by omega) (fun c_9 => ?_) (fun c_9 => ?_)
      · skip
        obtain rfl : i = zN n := by omega
        subst hg
        exact vz_vretM hx hb hr hlocks hQ hAe dX1_markIndifferent_34 hS hP rfl
      · skip
        refine lv_aload_n hx hb dX1_markIndifferent_12 rfl (lv_at hl 0 rfl) ?_
        refine lv_iload_n hx hb dX1_markIndifferent_13 rfl (lv_at hl 1 rfl) ?_
        refine lv_iload_n hx hb dX1_markIndifferent_14 rfl (lv_at hl 3 rfl) ?_
        refine vz_callV (n := 2) (As := [.int x, .int (nI i)]) (rest := []) (q0 := 0) hcf (c_X1_isInCube l D kA ad n fp g fh hn x i (by omega)) gX1_markIndifferent_X1_isInCube rfl hd_X1_isInCube ⟨Nat.le_of_ble_eq_true rfl, Nat.le_of_ble_eq_true rfl⟩ hK (hP.sub [0, 1, 2, 3] rfl) rfl rfl rfl rfl hl.1 rfl (Nat.le_of_ble_eq_true rfl) ⟨Nat.zero_le _, Nat.zero_le _⟩ dX1_markIndifferent_15 ?_
        refine vz_ifeqB (tgt := 28) hx hb dX1_markIndifferent_18 (by decide) (fun c_18 => ?_) (fun c_18 => ?_)
        · skip
          refine lv_iinc (v := (nI (i + 1))) (lv' := [(3, .int (nI (i + 1))), (0, .ref (ad 0)), (1, .int x), (2, .int (nI (zN n)))]) hx hb dX1_markIndifferent_28 hl (k := 3) rfl (nI_1 _) (by decide) rfl (fun ls hl => ?_)
          refine lv_goto (tgt := 7) hx hb dX1_markIndifferent_31 (by decide) ?_
          exact ih1 (i + 1) g _ _ _ (by omega) (by omega) (by rw [hg]; exact zmk_f c_18) hP (vz_D hD rfl) hS (lv_sub hl [1, 2, 3, 0] rfl)
        · skip
          refine lv_aload_n hx hb dX1_markIndifferent_21 rfl (lv_at hl 0 rfl) ?_
          refine va_get (D := D) (ci := 1) (v := .ref (ad 6)) (C := RX1) (T := TX1) (N := 8) hx hb hts hi0 hown hK hP 0 rfl rfl 5 (by decide) hf29 (fun _ h9 => h9) rfl dX1_markIndifferent_22 ?_
          refine lv_iload_n hx hb dX1_markIndifferent_25 rfl (lv_at hl 3 rfl) ?_
          refine lv_iconst (v := nI 2) hx hb dX1_markIndifferent_26 (by decide) ?_
          refine vz_ast hx hb hK hP hD hS 2 rfl (by omega) (Nat.le_of_ble_eq_true rfl) dX1_markIndifferent_27 (fun H locs hP hD hS => ?_)
          have hP : va_P D vwCl [(ad 0, .inr (1, [.ref (ad 1), .ref (ad 2), .ref (ad 3), .ref (ad 4), .ref (ad 5), .ref (ad 6), .ref (ad 7), .int (nI n)])), (ad 5, .inl (kA, 256, .inl fp)), (ad 6, .inl (kA, 256, .inl (upd g i (nI 2)))), (ad 7, .inl (kA, 256, .inl fh))] H := hP
          have hD : va_D Az [(ad 0, .inr (1, [.ref (ad 1), .ref (ad 2), .ref (ad 3), .ref (ad 4), .ref (ad 5), .ref (ad 6), .ref (ad 7), .int (nI n)])), (ad 5, .inl (kA, 256, .inl fp)), (ad 6, .inl (kA, 256, .inl (upd g i (nI 2)))), (ad 7, .inl (kA, 256, .inl fh))] := hD
          refine lv_iinc (v := (nI (i + 1))) (lv' := [(3, .int (nI (i + 1))), (0, .ref (ad 0)), (1, .int x), (2, .int (nI (zN n)))]) hx hb dX1_markIndifferent_28 hl (k := 3) rfl (nI_1 _) (by decide) rfl (fun ls hl => ?_)
          refine lv_goto (tgt := 7) hx hb dX1_markIndifferent_31 (by decide) ?_
          exact ih1 (i + 1) (upd g i (nI 2)) _ _ _ (by omega) (by omega) (by rw [hg]; exact zmk_t c_18) hP (vz_D hD rfl) hS (lv_sub hl [1, 2, 3, 0] rfl)
  exact lp1 _ 0 fk _ _ _ (Nat.lt_succ_self _) (by omega) zmk_0.symm hP (vz_D hD rfl) hS (lv_sub hl [2, 3, 1, 0] rfl)
set_option maxHeartbeats 4000000 in
set_option maxRecDepth 100000 in
theorem c_X1_addToHolders (l : Launch) (D : va_G) (kA : ClassId) (ad : Nat → Nat) (n : Nat) (fp fk fh : Nat → Int32) (hn : n ≤ 8) (x ch : Int32) : vz_MM l yX1_addToHolders wsX1_addToHolders 1 22 [.ref (ad 0), .int x, .int ch] D kA [(ad 0, .inr (1, [.ref (ad 1), .ref (ad 2), .ref (ad 3), .ref (ad 4), .ref (ad 5), .ref (ad 6), .ref (ad 7), .int (nI n)])), (ad 5, .inl (kA, 256, .inl fp)), (ad 6, .inl (kA, 256, .inl fk)), (ad 7, .inl (kA, 256, .inl fh))] none [(ad 0, .inr (1, [.ref (ad 1), .ref (ad 2), .ref (ad 3), .ref (ad 4), .ref (ad 5), .ref (ad 6), .ref (ad 7), .int (nI n)])), (ad 5, .inl (kA, 256, .inl fp)), (ad 6, .inl (kA, 256, .inl fk)), (ad 7, .inl (kA, 256, .inl (zad (zN n) (zX_in fp x) ch fh)))] := by
  refine vz_startM (cc := cX1_addToHolders) (maxL := 5) (ret := none) (own := RX1) (by decide) rfl rfl (Nat.le_of_ble_eq_true rfl) ?_
  intro pz ez sz mz below meth cz args Q ls H locs Az hargs hx hb hml hown hts hr hlocks hP hK hD hS hAe hQ hl
  have hcf : CallFix pz mz cz cX1_addToHolders 5 sz args wsX1_addToHolders RX1 := ⟨hx, hb, hml, hown, hts⟩
  have hi0 : ∀ w ∈ u_ws RX1 TX1 8, w ∈ wsX1_addToHolders := by decide +kernel
  have hf32 : (Cond.fieldLink RX1 32 "CubeMin" "holders" "[I").before args sz = true := hts _ (by decide +kernel)
  have hl : lv_has ls 5 [(0, .ref (ad 0)), (1, .int x), (2, .int ch)] := hl
  have hN := zN_le hn
  refine lv_aload_n hx hb dX1_addToHolders_0 rfl (lv_at hl 0 rfl) ?_
  refine vz_callV (n := 0) (As := []) (rest := []) (q0 := 0) hcf (c_X1_pointCount l D kA ad n fp fk fh hn) gX1_addToHolders_X1_pointCount rfl hd_X1_pointCount ⟨Nat.le_of_ble_eq_true rfl, Nat.le_of_ble_eq_true rfl⟩ hK (hP.sub [0, 1, 2, 3] rfl) rfl rfl rfl rfl hl.1 rfl (Nat.le_of_ble_eq_true rfl) ⟨Nat.zero_le _, Nat.zero_le _⟩ dX1_addToHolders_1 ?_
  refine lv_istore_n (lv' := [(3, .int (nI (zN n))), (0, .ref (ad 0)), (1, .int x), (2, .int ch)]) hx hb dX1_addToHolders_4 rfl hl (by decide) rfl (fun ls hl => ?_)
  refine lv_iconst (v := nI 0) hx hb dX1_addToHolders_5 (by decide) ?_
  refine lv_istore (lv' := [(4, .int (nI 0)), (3, .int (nI (zN n))), (0, .ref (ad 0)), (1, .int x), (2, .int ch)]) hx hb dX1_addToHolders_6 hl (by decide) rfl (fun ls hl => ?_)
  have lp1 : ∀ (dz : Nat) (i : Nat) (g : Nat → Int32) (H : Heap) (locs : List Loc) (ls : Array Slot), (zN n - i) < dz → (i ≤ zN n) → (g = zad i (zX_in fp x) ch fh) → va_P D vwCl [(ad 0, .inr (1, [.ref (ad 1), .ref (ad 2), .ref (ad 3), .ref (ad 4), .ref (ad 5), .ref (ad 6), .ref (ad 7), .int (nI n)])), (ad 5, .inl (kA, 256, .inl fp)), (ad 6, .inl (kA, 256, .inl fk)), (ad 7, .inl (kA, 256, .inl g))] H → va_D Az [(ad 0, .inr (1, [.ref (ad 1), .ref (ad 2), .ref (ad 3), .ref (ad 4), .ref (ad 5), .ref (ad 6), .ref (ad 7), .int (nI n)])), (ad 5, .inl (kA, 256, .inl fp)), (ad 6, .inl (kA, 256, .inl fk)), (ad 7, .inl (kA, 256, .inl g))] → va_S Az sz.heap H locs → lv_has ls 5 [(0, .ref (ad 0)), (1, .int x), (2, .int ch), (3, .int (nI (zN n))), (4, .int (nI i))] → W pz l ez (vz_R 1 22) sz mz args below meth cz H locs 0 0 Q (F0 mz 8 ls []) := by
    intro dz
    induction dz with
    | zero => intro i g H locs ls hd h1 hg hP hD hS hl; exact absurd hd (Nat.not_lt_zero _)
    | succ dz ih1 =>
      intro i g H locs ls hd h1 hg hP hD hS hl
      refine lv_iload hx hb dX1_addToHolders_8 (lv_at hl 4 rfl) ?_
      refine lv_iload_n hx hb dX1_addToHolders_10 rfl (lv_at hl 3 rfl) ?_
      refine vz_cge (tgt := 41) hx hb dX1_addToHolders_11 (by decide) (by omega) (by omega) (fun c_11 => ?_) (fun c_11 => ?_)
      · skip
        obtain rfl : i = zN n := by omega
        subst hg
        exact vz_vretM hx hb hr hlocks hQ hAe dX1_addToHolders_41 hS hP rfl
      · skip
        refine lv_aload_n hx hb dX1_addToHolders_14 rfl (lv_at hl 0 rfl) ?_
        refine lv_iload_n hx hb dX1_addToHolders_15 rfl (lv_at hl 1 rfl) ?_
        refine lv_iload hx hb dX1_addToHolders_16 (lv_at hl 4 rfl) ?_
        refine vz_callV (n := 2) (As := [.int x, .int (nI i)]) (rest := []) (q0 := 0) hcf (c_X1_isInCube l D kA ad n fp fk g hn x i (by omega)) gX1_addToHolders_X1_isInCube rfl hd_X1_isInCube ⟨Nat.le_of_ble_eq_true rfl, Nat.le_of_ble_eq_true rfl⟩ hK (hP.sub [0, 1, 2, 3] rfl) rfl rfl rfl rfl hl.1 rfl (Nat.le_of_ble_eq_true rfl) ⟨Nat.zero_le _, Nat.zero_le _⟩ dX1_addToHolders_18 ?_
        refine vz_ifeqB (tgt := 35) hx hb dX1_addToHolders_21 (by decide) (fun c_21 => ?_) (fun c_21 => ?_)
        · skip
          refine lv_iinc (v := (nI (i + 1))) (lv' := [(4, .int (nI (i + 1))), (0, .ref (ad 0)), (1, .int x), (2, .int ch), (3, .int (nI (zN n)))]) hx hb dX1_addToHolders_35 hl (k := 4) rfl (nI_1 _) (by decide) rfl (fun ls hl => ?_)
          refine lv_goto (tgt := 8) hx hb dX1_addToHolders_38 (by decide) ?_
          exact ih1 (i + 1) g _ _ _ (by omega) (by omega) (by rw [hg]; exact zad_f c_21) hP (vz_D hD rfl) hS (lv_sub hl [1, 2, 3, 4, 0] rfl)
        · skip
          refine lv_aload_n hx hb dX1_addToHolders_24 rfl (lv_at hl 0 rfl) ?_
          refine va_get (D := D) (ci := 1) (v := .ref (ad 7)) (C := RX1) (T := TX1) (N := 8) hx hb hts hi0 hown hK hP 0 rfl rfl 6 (by decide) hf32 (fun _ h9 => h9) rfl dX1_addToHolders_25 ?_
          refine lv_iload hx hb dX1_addToHolders_28 (lv_at hl 4 rfl) ?_
          refine lv_dup2_11 hx hb dX1_addToHolders_30 rfl rfl ?_
          refine vz_ald hx hb hK hP 3 rfl (by omega) (Nat.le_of_ble_eq_true rfl) dX1_addToHolders_31 ?_
          refine lv_iload_n hx hb dX1_addToHolders_32 rfl (lv_at hl 2 rfl) ?_
          refine lv_iadd hx hb dX1_addToHolders_33 ?_
          refine vz_ast hx hb hK hP hD hS 3 rfl (by omega) (Nat.le_of_ble_eq_true rfl) dX1_addToHolders_34 (fun H locs hP hD hS => ?_)
          have hP : va_P D vwCl [(ad 0, .inr (1, [.ref (ad 1), .ref (ad 2), .ref (ad 3), .ref (ad 4), .ref (ad 5), .ref (ad 6), .ref (ad 7), .int (nI n)])), (ad 5, .inl (kA, 256, .inl fp)), (ad 6, .inl (kA, 256, .inl fk)), (ad 7, .inl (kA, 256, .inl (upd g i ((g i) + ch))))] H := hP
          have hD : va_D Az [(ad 0, .inr (1, [.ref (ad 1), .ref (ad 2), .ref (ad 3), .ref (ad 4), .ref (ad 5), .ref (ad 6), .ref (ad 7), .int (nI n)])), (ad 5, .inl (kA, 256, .inl fp)), (ad 6, .inl (kA, 256, .inl fk)), (ad 7, .inl (kA, 256, .inl (upd g i ((g i) + ch))))] := hD
          refine lv_iinc (v := (nI (i + 1))) (lv' := [(4, .int (nI (i + 1))), (0, .ref (ad 0)), (1, .int x), (2, .int ch), (3, .int (nI (zN n)))]) hx hb dX1_addToHolders_35 hl (k := 4) rfl (nI_1 _) (by decide) rfl (fun ls hl => ?_)
          refine lv_goto (tgt := 8) hx hb dX1_addToHolders_38 (by decide) ?_
          exact ih1 (i + 1) (upd g i ((g i) + ch)) _ _ _ (by omega) (by omega) (by rw [hg]; exact zad_t c_21) hP (vz_D hD rfl) hS (lv_sub hl [1, 2, 3, 4, 0] rfl)
  exact lp1 _ 0 fh _ _ _ (Nat.lt_succ_self _) (by omega) zad_0.symm hP (vz_D hD rfl) hS (lv_sub hl [2, 3, 4, 1, 0] rfl)
set_option maxHeartbeats 4000000 in
set_option maxRecDepth 100000 in
theorem c_X1_countHolders (l : Launch) (D : va_G) (kA : ClassId) (ad : Nat → Nat) (n : Nat) (fp fk fh : Nat → Int32) (hn : n ≤ 8) (h a c : Nat) (f : Nat → Int32) (hc : c ≤ 24) : vz_MM l yX1_countHolders wsX1_countHolders 2 46 [.ref (ad 0), .ref h] D kA [(ad 0, .inr (1, [.ref (ad 1), .ref (ad 2), .ref (ad 3), .ref (ad 4), .ref (ad 5), .ref (ad 6), .ref (ad 7), .int (nI n)])), (ad 5, .inl (kA, 256, .inl fp)), (ad 6, .inl (kA, 256, .inl fk)), (ad 7, .inl (kA, 256, .inl fh)), (h, .inr (0, [.ref a, .int (nI c)])), (a, .inl (kA, 24, .inl f))] none [(ad 0, .inr (1, [.ref (ad 1), .ref (ad 2), .ref (ad 3), .ref (ad 4), .ref (ad 5), .ref (ad 6), .ref (ad 7), .int (nI n)])), (ad 5, .inl (kA, 256, .inl fp)), (ad 6, .inl (kA, 256, .inl fk)), (ad 7, .inl (kA, 256, .inl (zhc (zN n) fp f (zmk 256 (fun _ => true) (nI 0) fh) c))), (h, .inr (0, [.ref a, .int (nI c)])), (a, .inl (kA, 24, .inl f))] := by
  refine vz_startM (cc := cX1_countHolders) (maxL := 3) (ret := none) (own := RX1) (by decide) rfl rfl (Nat.le_of_ble_eq_true rfl) ?_
  intro pz ez sz mz below meth cz args Q ls H locs Az hargs hx hb hml hown hts hr hlocks hP hK hD hS hAe hQ hl
  have hcf : CallFix pz mz cz cX1_countHolders 3 sz args wsX1_countHolders RX1 := ⟨hx, hb, hml, hown, hts⟩
  have hi0 : ∀ w ∈ u_ws RX1 TX1 8, w ∈ wsX1_countHolders := by decide +kernel
  have hf32 : (Cond.fieldLink RX1 32 "CubeMin" "holders" "[I").before args sz = true := hts _ (by decide +kernel)
  have hl : lv_has ls 3 [(0, .ref (ad 0)), (1, .ref h)] := hl
  have hN := zN_le hn
  refine lv_iconst (v := nI 0) hx hb dX1_countHolders_0 (by decide) ?_
  refine lv_istore_n (lv' := [(2, .int (nI 0)), (0, .ref (ad 0)), (1, .ref h)]) hx hb dX1_countHolders_1 rfl hl (by decide) rfl (fun ls hl => ?_)
  have lp1 : ∀ (dz : Nat) (i : Nat) (g : Nat → Int32) (H : Heap) (locs : List Loc) (ls : Array Slot), (256 - i) < dz → (i ≤ 256) → (g = zmk i (fun _ => true) (nI 0) fh) → va_P D vwCl [(ad 0, .inr (1, [.ref (ad 1), .ref (ad 2), .ref (ad 3), .ref (ad 4), .ref (ad 5), .ref (ad 6), .ref (ad 7), .int (nI n)])), (ad 5, .inl (kA, 256, .inl fp)), (ad 6, .inl (kA, 256, .inl fk)), (ad 7, .inl (kA, 256, .inl g)), (h, .inr (0, [.ref a, .int (nI c)])), (a, .inl (kA, 24, .inl f))] H → va_D Az [(ad 0, .inr (1, [.ref (ad 1), .ref (ad 2), .ref (ad 3), .ref (ad 4), .ref (ad 5), .ref (ad 6), .ref (ad 7), .int (nI n)])), (ad 5, .inl (kA, 256, .inl fp)), (ad 6, .inl (kA, 256, .inl fk)), (ad 7, .inl (kA, 256, .inl g)), (h, .inr (0, [.ref a, .int (nI c)])), (a, .inl (kA, 24, .inl f))] → va_S Az sz.heap H locs → lv_has ls 3 [(0, .ref (ad 0)), (1, .ref h), (2, .int (nI i))] → W pz l ez (vz_R 2 46) sz mz args below meth cz H locs 0 0 Q (F0 mz 2 ls []) := by
    intro dz
    induction dz with
    | zero => intro i g H locs ls hd h1 hg hP hD hS hl; exact absurd hd (Nat.not_lt_zero _)
    | succ dz ih1 =>
      intro i g H locs ls hd h1 hg hP hD hS hl
      refine lv_iload_n hx hb dX1_countHolders_2 rfl (lv_at hl 2 rfl) ?_
      refine lv_sipush (v := nI 256) hx hb dX1_countHolders_3 (by decide) ?_
      refine vz_cge (tgt := 22) hx hb dX1_countHolders_6 (by decide) (by omega) (by omega) (fun c_6 => ?_) (fun c_6 => ?_)
      · skip
        obtain rfl : i = 256 := by omega
        subst hg
        refine lv_iconst (v := nI 0) hx hb dX1_countHolders_22 (by decide) ?_
        refine lv_istore_n (lv' := [(2, .int (nI 0)), (0, .ref (ad 0)), (1, .ref h)]) hx hb dX1_countHolders_23 rfl hl (by decide) rfl (fun ls hl => ?_)
        have lp2 : ∀ (dz : Nat) (j : Nat) (g : Nat → Int32) (H : Heap) (locs : List Loc) (ls : Array Slot), (c - j) < dz → (j ≤ c) → (g = zhc (zN n) fp f (zmk 256 (fun _ => true) (nI 0) fh) j) → va_P D vwCl [(ad 0, .inr (1, [.ref (ad 1), .ref (ad 2), .ref (ad 3), .ref (ad 4), .ref (ad 5), .ref (ad 6), .ref (ad 7), .int (nI n)])), (ad 5, .inl (kA, 256, .inl fp)), (ad 6, .inl (kA, 256, .inl fk)), (ad 7, .inl (kA, 256, .inl g)), (h, .inr (0, [.ref a, .int (nI c)])), (a, .inl (kA, 24, .inl f))] H → va_D Az [(ad 0, .inr (1, [.ref (ad 1), .ref (ad 2), .ref (ad 3), .ref (ad 4), .ref (ad 5), .ref (ad 6), .ref (ad 7), .int (nI n)])), (ad 5, .inl (kA, 256, .inl fp)), (ad 6, .inl (kA, 256, .inl fk)), (ad 7, .inl (kA, 256, .inl g)), (h, .inr (0, [.ref a, .int (nI c)])), (a, .inl (kA, 24, .inl f))] → va_S Az sz.heap H locs → lv_has ls 3 [(0, .ref (ad 0)), (1, .ref h), (2, .int (nI j))] → W pz l ez (vz_R 2 46) sz mz args below meth cz H locs 0 0 Q (F0 mz 24 ls []) := by
          intro dz
          induction dz with
          | zero => intro j g H locs ls hd h3 hg2 hP hD hS hl; exact absurd hd (Nat.not_lt_zero _)
          | succ dz ih2 =>
            intro j g H locs ls hd h3 hg2 hP hD hS hl
            refine lv_iload_n hx hb dX1_countHolders_24 rfl (lv_at hl 2 rfl) ?_
            refine lv_aload_n hx hb dX1_countHolders_25 rfl (lv_at hl 1 rfl) ?_
            refine vz_callV (n := 0) (As := []) (rest := [.int (nI j)]) (q0 := 0) hcf (c_X0_length l D kA h a c f hc) gX1_countHolders_X0_length rfl hd_X0_length ⟨Nat.le_of_ble_eq_true rfl, Nat.le_of_ble_eq_true rfl⟩ hK (hP.sub [4, 5] rfl) rfl rfl rfl rfl hl.1 rfl (Nat.le_of_ble_eq_true rfl) ⟨Nat.zero_le _, Nat.zero_le _⟩ dX1_countHolders_26 ?_
            refine vz_cge (tgt := 48) hx hb dX1_countHolders_29 (by decide) (by omega) (by omega) (fun c_29 => ?_) (fun c_29 => ?_)
            · skip
              obtain rfl : c = j := by omega
              subst hg2
              exact vz_vretM hx hb hr hlocks hQ hAe dX1_countHolders_48 hS hP rfl
            · skip
              refine lv_aload_n hx hb dX1_countHolders_32 rfl (lv_at hl 0 rfl) ?_
              refine lv_aload_n hx hb dX1_countHolders_33 rfl (lv_at hl 1 rfl) ?_
              refine lv_iload_n hx hb dX1_countHolders_34 rfl (lv_at hl 2 rfl) ?_
              refine vz_callV (n := 1) (As := [.int (nI j)]) (rest := [.ref (ad 0)]) (q0 := 0) hcf (c_X0_at l D kA h a c f hc (nI j)) gX1_countHolders_X0_at rfl hd_X0_at ⟨Nat.le_of_ble_eq_true rfl, Nat.le_of_ble_eq_true rfl⟩ hK (hP.sub [4, 5] rfl) rfl rfl rfl rfl hl.1 rfl (Nat.le_of_ble_eq_true rfl) ⟨Nat.zero_le _, Nat.zero_le _⟩ dX1_countHolders_35 ?_
              refine vz_top (y := (f j)) (zat_nI c_29 hc) ?_
              refine lv_iconst (v := nI 1) hx hb dX1_countHolders_38 (by decide) ?_
              refine vz_callM (n := 2) (As := [.int (f j), .int (nI 1)]) (rest := []) (q0 := 0) hcf (c_X1_addToHolders l D kA ad n fp fk g hn (f j) (nI 1)) gX1_countHolders_X1_addToHolders rfl hd_X1_addToHolders ⟨Nat.le_of_ble_eq_true rfl, Nat.le_of_ble_eq_true rfl⟩ hK hP hD hS [0, 1, 2, 3] (by decide) rfl rfl rfl rfl rfl rfl rfl hl.1 rfl (Nat.le_of_ble_eq_true rfl) ⟨Nat.zero_le _, Nat.zero_le _⟩ dX1_countHolders_39 (fun H locs hP hD hS => ?_)
              have hP : va_P D vwCl [(ad 0, .inr (1, [.ref (ad 1), .ref (ad 2), .ref (ad 3), .ref (ad 4), .ref (ad 5), .ref (ad 6), .ref (ad 7), .int (nI n)])), (ad 5, .inl (kA, 256, .inl fp)), (ad 6, .inl (kA, 256, .inl fk)), (ad 7, .inl (kA, 256, .inl (zad (zN n) (zX_in fp (f j)) (nI 1) g))), (h, .inr (0, [.ref a, .int (nI c)])), (a, .inl (kA, 24, .inl f))] H := hP
              have hD : va_D Az [(ad 0, .inr (1, [.ref (ad 1), .ref (ad 2), .ref (ad 3), .ref (ad 4), .ref (ad 5), .ref (ad 6), .ref (ad 7), .int (nI n)])), (ad 5, .inl (kA, 256, .inl fp)), (ad 6, .inl (kA, 256, .inl fk)), (ad 7, .inl (kA, 256, .inl (zad (zN n) (zX_in fp (f j)) (nI 1) g))), (h, .inr (0, [.ref a, .int (nI c)])), (a, .inl (kA, 24, .inl f))] := hD
              refine lv_iinc (v := (nI (j + 1))) (lv' := [(2, .int (nI (j + 1))), (0, .ref (ad 0)), (1, .ref h)]) hx hb dX1_countHolders_42 hl (k := 2) rfl (nI_1 _) (by decide) rfl (fun ls hl => ?_)
              refine lv_goto (tgt := 24) hx hb dX1_countHolders_45 (by decide) ?_
              exact ih2 (j + 1) (zad (zN n) (zX_in fp (f j)) (nI 1) g) _ _ _ (by omega) (by omega) (by rw [hg2]; rfl) hP (vz_D hD rfl) hS (lv_sub hl [1, 2, 0] rfl)
        exact lp2 _ 0 _ _ _ _ (Nat.lt_succ_self _) (by omega) rfl hP (vz_D hD rfl) hS (lv_sub hl [1, 2, 0] rfl)
      · skip
        refine lv_aload_n hx hb dX1_countHolders_9 rfl (lv_at hl 0 rfl) ?_
        refine va_get (D := D) (ci := 1) (v := .ref (ad 7)) (C := RX1) (T := TX1) (N := 8) hx hb hts hi0 hown hK hP 0 rfl rfl 6 (by decide) hf32 (fun _ h9 => h9) rfl dX1_countHolders_10 ?_
        refine lv_iload_n hx hb dX1_countHolders_13 rfl (lv_at hl 2 rfl) ?_
        refine lv_iconst (v := nI 0) hx hb dX1_countHolders_14 (by decide) ?_
        refine vz_ast hx hb hK hP hD hS 3 rfl (by omega) (Nat.le_of_ble_eq_true rfl) dX1_countHolders_15 (fun H locs hP hD hS => ?_)
        have hP : va_P D vwCl [(ad 0, .inr (1, [.ref (ad 1), .ref (ad 2), .ref (ad 3), .ref (ad 4), .ref (ad 5), .ref (ad 6), .ref (ad 7), .int (nI n)])), (ad 5, .inl (kA, 256, .inl fp)), (ad 6, .inl (kA, 256, .inl fk)), (ad 7, .inl (kA, 256, .inl (upd g i (nI 0)))), (h, .inr (0, [.ref a, .int (nI c)])), (a, .inl (kA, 24, .inl f))] H := hP
        have hD : va_D Az [(ad 0, .inr (1, [.ref (ad 1), .ref (ad 2), .ref (ad 3), .ref (ad 4), .ref (ad 5), .ref (ad 6), .ref (ad 7), .int (nI n)])), (ad 5, .inl (kA, 256, .inl fp)), (ad 6, .inl (kA, 256, .inl fk)), (ad 7, .inl (kA, 256, .inl (upd g i (nI 0)))), (h, .inr (0, [.ref a, .int (nI c)])), (a, .inl (kA, 24, .inl f))] := hD
        refine lv_iinc (v := (nI (i + 1))) (lv' := [(2, .int (nI (i + 1))), (0, .ref (ad 0)), (1, .ref h)]) hx hb dX1_countHolders_16 hl (k := 2) rfl (nI_1 _) (by decide) rfl (fun ls hl => ?_)
        refine lv_goto (tgt := 2) hx hb dX1_countHolders_19 (by decide) ?_
        exact ih1 (i + 1) (upd g i (nI 0)) _ _ _ (by omega) (by omega) (by rw [hg]; exact zmk_t rfl) hP (vz_D hD rfl) hS (lv_sub hl [1, 2, 0] rfl)
  exact lp1 _ 0 fh _ _ _ (Nat.lt_succ_self _) (by omega) zmk_0.symm hP (vz_D hD rfl) hS (lv_sub hl [1, 2, 0] rfl)
set_option maxHeartbeats 4000000 in
set_option maxRecDepth 100000 in
theorem c_X1_dropNeedless (l : Launch) (D : va_G) (kA : ClassId) (ad : Nat → Nat) (n : Nat) (fp fk fh : Nat → Int32) (hn : n ≤ 8) (h a c : Nat) (f : Nat → Int32) (hc : c ≤ 24) : vz_MM l yX1_dropNeedless wsX1_dropNeedless 3 68 [.ref (ad 0), .ref h] D kA [(ad 0, .inr (1, [.ref (ad 1), .ref (ad 2), .ref (ad 3), .ref (ad 4), .ref (ad 5), .ref (ad 6), .ref (ad 7), .int (nI n)])), (ad 5, .inl (kA, 256, .inl fp)), (ad 6, .inl (kA, 256, .inl fk)), (ad 7, .inl (kA, 256, .inl fh)), (h, .inr (0, [.ref a, .int (nI c)])), (a, .inl (kA, 24, .inl f))] none [(ad 0, .inr (1, [.ref (ad 1), .ref (ad 2), .ref (ad 3), .ref (ad 4), .ref (ad 5), .ref (ad 6), .ref (ad 7), .int (nI n)])), (ad 5, .inl (kA, 256, .inl fp)), (ad 6, .inl (kA, 256, .inl fk)), (ad 7, .inl (kA, 256, .inl ((zdn_ n fp fk c f fh).2.2))), (h, .inr (0, [.ref a, .int (nI ((zdn_ n fp fk c f fh).1))])), (a, .inl (kA, 24, .inl ((zdn_ n fp fk c f fh).2.1)))] := by
  refine vz_startM (cc := cX1_dropNeedless) (maxL := 4) (ret := none) (own := RX1) (by decide) rfl rfl (Nat.le_of_ble_eq_true rfl) ?_
  intro pz ez sz mz below meth cz args Q ls H locs Az hargs hx hb hml hown hts hr hlocks hP hK hD hS hAe hQ hl
  have hcf : CallFix pz mz cz cX1_dropNeedless 4 sz args wsX1_dropNeedless RX1 := ⟨hx, hb, hml, hown, hts⟩
  have hl : lv_has ls 4 [(0, .ref (ad 0)), (1, .ref h)] := hl
  have hN := zN_le hn
  refine lv_aload_n hx hb dX1_dropNeedless_0 rfl (lv_at hl 0 rfl) ?_
  refine lv_aload_n hx hb dX1_dropNeedless_1 rfl (lv_at hl 1 rfl) ?_
  refine vz_callM (n := 1) (As := [.ref h]) (rest := []) (q0 := 0) hcf (c_X1_countHolders l D kA ad n fp fk fh hn h a c f hc) gX1_dropNeedless_X1_countHolders rfl hd_X1_countHolders ⟨Nat.le_of_ble_eq_true rfl, Nat.le_of_ble_eq_true rfl⟩ hK hP hD hS [0, 1, 2, 3, 4, 5] (by decide) rfl rfl rfl rfl rfl rfl rfl hl.1 rfl (Nat.le_of_ble_eq_true rfl) ⟨Nat.zero_le _, Nat.zero_le _⟩ dX1_dropNeedless_2 (fun H locs hP hD hS => ?_)
  have hP : va_P D vwCl [(ad 0, .inr (1, [.ref (ad 1), .ref (ad 2), .ref (ad 3), .ref (ad 4), .ref (ad 5), .ref (ad 6), .ref (ad 7), .int (nI n)])), (ad 5, .inl (kA, 256, .inl fp)), (ad 6, .inl (kA, 256, .inl fk)), (ad 7, .inl (kA, 256, .inl (zhc (zN n) fp f (zmk 256 (fun _ => true) (nI 0) fh) c))), (h, .inr (0, [.ref a, .int (nI c)])), (a, .inl (kA, 24, .inl f))] H := hP
  have hD : va_D Az [(ad 0, .inr (1, [.ref (ad 1), .ref (ad 2), .ref (ad 3), .ref (ad 4), .ref (ad 5), .ref (ad 6), .ref (ad 7), .int (nI n)])), (ad 5, .inl (kA, 256, .inl fp)), (ad 6, .inl (kA, 256, .inl fk)), (ad 7, .inl (kA, 256, .inl (zhc (zN n) fp f (zmk 256 (fun _ => true) (nI 0) fh) c))), (h, .inr (0, [.ref a, .int (nI c)])), (a, .inl (kA, 24, .inl f))] := hD
  refine lv_aload_n hx hb dX1_dropNeedless_5 rfl (lv_at hl 1 rfl) ?_
  refine vz_callV (n := 0) (As := []) (rest := []) (q0 := 0) hcf (c_X0_length l D kA h a c f hc) gX1_dropNeedless_X0_length rfl hd_X0_length ⟨Nat.le_of_ble_eq_true rfl, Nat.le_of_ble_eq_true rfl⟩ hK (hP.sub [4, 5] rfl) rfl rfl rfl rfl hl.1 rfl (Nat.le_of_ble_eq_true rfl) ⟨Nat.zero_le _, Nat.zero_le _⟩ dX1_dropNeedless_6 ?_
  refine lv_iconst (v := nI 1) hx hb dX1_dropNeedless_9 (by decide) ?_
  refine lv_isub hx hb dX1_dropNeedless_10 ?_
  refine lv_istore_n (lv' := [(2, .int ((nI c) - (nI 1))), (0, .ref (ad 0)), (1, .ref h)]) hx hb dX1_dropNeedless_11 rfl hl (by decide) rfl (fun ls hl => ?_)
  have lp1 : ∀ (dz : Nat) (j t : Nat) (g hh : Nat → Int32) (kv : Int32) (H : Heap) (locs : List Loc) (ls : Array Slot), j < dz → (j ≤ t) → (t ≤ 24) → (zdr n fp fk j (t, g, hh) = zdn_ n fp fk c f fh) → ((j = 0 ∧ kv = -1) ∨ (1 ≤ j ∧ kv = nI (j - 1))) → va_P D vwCl [(ad 0, .inr (1, [.ref (ad 1), .ref (ad 2), .ref (ad 3), .ref (ad 4), .ref (ad 5), .ref (ad 6), .ref (ad 7), .int (nI n)])), (ad 5, .inl (kA, 256, .inl fp)), (ad 6, .inl (kA, 256, .inl fk)), (ad 7, .inl (kA, 256, .inl hh)), (h, .inr (0, [.ref a, .int (nI t)])), (a, .inl (kA, 24, .inl g))] H → va_D Az [(ad 0, .inr (1, [.ref (ad 1), .ref (ad 2), .ref (ad 3), .ref (ad 4), .ref (ad 5), .ref (ad 6), .ref (ad 7), .int (nI n)])), (ad 5, .inl (kA, 256, .inl fp)), (ad 6, .inl (kA, 256, .inl fk)), (ad 7, .inl (kA, 256, .inl hh)), (h, .inr (0, [.ref a, .int (nI t)])), (a, .inl (kA, 24, .inl g))] → va_S Az sz.heap H locs → lv_has ls 4 [(0, .ref (ad 0)), (1, .ref h), (2, .int kv)] → W pz l ez (vz_R 3 68) sz mz args below meth cz H locs 0 0 Q (F0 mz 12 ls []) := by
    intro dz
    induction dz with
    | zero => intro j t g hh kv H locs ls hd h1 h2 h3 h4 hP hD hS hl; exact absurd hd (Nat.not_lt_zero _)
    | succ dz ih1 =>
      intro j t g hh kv H locs ls hd h1 h2 h3 h4 hP hD hS hl
      refine lv_iload_n hx hb dX1_dropNeedless_12 rfl (lv_at hl 2 rfl) ?_
      refine lv_if_lt (tgt := 47) hx hb dX1_dropNeedless_13 (by decide) (fun c_13 => ?_) (fun c_13 => ?_)
      · skip
        obtain rfl : j = 0 := zdn_neg h4 (by omega) c_13
        have h5 : (t, g, hh) = zdn_ n fp fk c f fh := h3
        rw [← h5] at hQ
        exact vz_vretM hx hb hr hlocks hQ hAe dX1_dropNeedless_47 hS hP rfl
      · skip
        obtain ⟨i, rfl, rfl⟩ := zdn_pos h4 c_13
        refine lv_aload_n hx hb dX1_dropNeedless_16 rfl (lv_at hl 1 rfl) ?_
        refine lv_iload_n hx hb dX1_dropNeedless_17 rfl (lv_at hl 2 rfl) ?_
        refine vz_callV (n := 1) (As := [.int (nI i)]) (rest := []) (q0 := 0) hcf (c_X0_at l D kA h a t g h2 (nI i)) gX1_dropNeedless_X0_at rfl hd_X0_at ⟨Nat.le_of_ble_eq_true rfl, Nat.le_of_ble_eq_true rfl⟩ hK (hP.sub [4, 5] rfl) rfl rfl rfl rfl hl.1 rfl (Nat.le_of_ble_eq_true rfl) ⟨Nat.zero_le _, Nat.zero_le _⟩ dX1_dropNeedless_18 ?_
        refine vz_top (y := (g i)) (zat_nI (by omega) h2) ?_
        refine lv_istore_n (lv' := [(3, .int (g i)), (0, .ref (ad 0)), (1, .ref h), (2, .int (nI i))]) hx hb dX1_dropNeedless_21 rfl hl (by decide) rfl (fun ls hl => ?_)
        refine lv_aload_n hx hb dX1_dropNeedless_22 rfl (lv_at hl 1 rfl) ?_
        refine lv_iload_n hx hb dX1_dropNeedless_23 rfl (lv_at hl 0 rfl) ?_
        refine vz_callV (n := 1) (As := [.int (g i)]) (rest := []) (q0 := 0) hcf (c_X1_ownPart l D kA ad n fp fk hh hn (g i)) gX1_dropNeedless_X1_ownPart rfl hd_X1_ownPart ⟨Nat.le_of_ble_eq_true rfl, Nat.le_of_ble_eq_true rfl⟩ hK (hP.sub [0, 1, 2, 3] rfl) rfl rfl rfl rfl hl.1 rfl (Nat.le_of_ble_eq_true rfl) ⟨Nat.zero_le _, Nat.zero_le _⟩ dX1_dropNeedless_24 ?_
        refine lv_if_ne (tgt := 41) hx hb dX1_dropNeedless_27 (by decide) (fun c_27 => ?_) (fun c_27 => ?_)
        · skip
          refine lv_iinc (v := ((nI i) + -1)) (lv' := [(2, .int ((nI i) + -1)), (3, .int (g i)), (0, .ref (ad 0)), (1, .ref h)]) hx hb dX1_dropNeedless_41 hl (k := 3) rfl (rfl) (by decide) rfl (fun ls hl => ?_)
          refine lv_goto (tgt := 12) hx hb dX1_dropNeedless_44 (by decide) ?_
          exact ih1 i t g hh ((nI i) + -1) _ _ _ (by omega) (by omega) (by omega) (by rw [← h3, zdr, if_neg c_27]) (zdn i) hP (vz_D hD rfl) hS (lv_sub hl [2, 3, 0] rfl)
        · skip
          refine lv_aload_n hx hb dX1_dropNeedless_30 rfl (lv_at hl 1 rfl) ?_
          refine lv_iload_n hx hb dX1_dropNeedless_31 rfl (lv_at hl 0 rfl) ?_
          refine lv_iconst (v := -1) hx hb dX1_dropNeedless_32 (by decide) ?_
          refine vz_callM (n := 2) (As := [.int (g i), .int (-1)]) (rest := []) (q0 := 0) hcf (c_X1_addToHolders l D kA ad n fp fk hh hn (g i) (-1)) gX1_dropNeedless_X1_addToHolders rfl hd_X1_addToHolders ⟨Nat.le_of_ble_eq_true rfl, Nat.le_of_ble_eq_true rfl⟩ hK hP hD hS [0, 1, 2, 3] (by decide) rfl rfl rfl rfl rfl rfl rfl hl.1 rfl (Nat.le_of_ble_eq_true rfl) ⟨Nat.zero_le _, Nat.zero_le _⟩ dX1_dropNeedless_33 (fun H locs hP hD hS => ?_)
          have hP : va_P D vwCl [(ad 0, .inr (1, [.ref (ad 1), .ref (ad 2), .ref (ad 3), .ref (ad 4), .ref (ad 5), .ref (ad 6), .ref (ad 7), .int (nI n)])), (ad 5, .inl (kA, 256, .inl fp)), (ad 6, .inl (kA, 256, .inl fk)), (ad 7, .inl (kA, 256, .inl (zad (zN n) (zX_in fp (g i)) (-1) hh))), (h, .inr (0, [.ref a, .int (nI t)])), (a, .inl (kA, 24, .inl g))] H := hP
          have hD : va_D Az [(ad 0, .inr (1, [.ref (ad 1), .ref (ad 2), .ref (ad 3), .ref (ad 4), .ref (ad 5), .ref (ad 6), .ref (ad 7), .int (nI n)])), (ad 5, .inl (kA, 256, .inl fp)), (ad 6, .inl (kA, 256, .inl fk)), (ad 7, .inl (kA, 256, .inl (zad (zN n) (zX_in fp (g i)) (-1) hh))), (h, .inr (0, [.ref a, .int (nI t)])), (a, .inl (kA, 24, .inl g))] := hD
          refine lv_aload_n hx hb dX1_dropNeedless_36 rfl (lv_at hl 2 rfl) ?_
          refine lv_iload_n hx hb dX1_dropNeedless_37 rfl (lv_at hl 3 rfl) ?_
          refine vz_callM (n := 1) (As := [.int (nI i)]) (rest := []) (q0 := 0) hcf (c_X0_takeOut l D kA h a t g h2 i (by omega)) gX1_dropNeedless_X0_takeOut rfl hd_X0_takeOut ⟨Nat.le_of_ble_eq_true rfl, Nat.le_of_ble_eq_true rfl⟩ hK hP hD hS [4, 5] (by decide) rfl rfl rfl rfl rfl rfl rfl hl.1 rfl (Nat.le_of_ble_eq_true rfl) ⟨Nat.zero_le _, Nat.zero_le _⟩ dX1_dropNeedless_38 (fun H locs hP hD hS => ?_)
          have hP : va_P D vwCl [(ad 0, .inr (1, [.ref (ad 1), .ref (ad 2), .ref (ad 3), .ref (ad 4), .ref (ad 5), .ref (ad 6), .ref (ad 7), .int (nI n)])), (ad 5, .inl (kA, 256, .inl fp)), (ad 6, .inl (kA, 256, .inl fk)), (ad 7, .inl (kA, 256, .inl (zad (zN n) (zX_in fp (g i)) (-1) hh))), (h, .inr (0, [.ref a, .int (nI (t - 1))])), (a, .inl (kA, 24, .inl (zsh g i t)))] H := hP
          have hD : va_D Az [(ad 0, .inr (1, [.ref (ad 1), .ref (ad 2), .ref (ad 3), .ref (ad 4), .ref (ad 5), .ref (ad 6), .ref (ad 7), .int (nI n)])), (ad 5, .inl (kA, 256, .inl fp)), (ad 6, .inl (kA, 256, .inl fk)), (ad 7, .inl (kA, 256, .inl (zad (zN n) (zX_in fp (g i)) (-1) hh))), (h, .inr (0, [.ref a, .int (nI (t - 1))])), (a, .inl (kA, 24, .inl (zsh g i t)))] := hD
          refine lv_iinc (v := ((nI i) + -1)) (lv' := [(2, .int ((nI i) + -1)), (3, .int (g i)), (0, .ref (ad 0)), (1, .ref h)]) hx hb dX1_dropNeedless_41 hl (k := 3) rfl (rfl) (by decide) rfl (fun ls hl => ?_)
          refine lv_goto (tgt := 12) hx hb dX1_dropNeedless_44 (by decide) ?_
          exact ih1 i (t - 1) (zsh g i t) (zad (zN n) (zX_in fp (g i)) (-1) hh) ((nI i) + -1) _ _ _ (by omega) (by omega) (by omega) (by rw [← h3, zdr, if_pos c_27]) (zdn i) hP (vz_D hD rfl) hS (lv_sub hl [2, 3, 0] rfl)
  exact lp1 _ c c f _ _ _ _ _ (Nat.lt_succ_self _) (by omega) (by omega) rfl (zdn0 c) hP (vz_D hD rfl) hS (lv_sub hl [1, 2, 0] rfl)
set_option maxHeartbeats 4000000 in
set_option maxRecDepth 100000 in
theorem c_X1_narrow (l : Launch) (D : va_G) (kA : ClassId) (ad : Nat → Nat) (n : Nat) (fp fk fh : Nat → Int32) (hn : n ≤ 8) (h a c : Nat) (f : Nat → Int32) (hc : c ≤ 24) : vz_MM l yX1_narrow wsX1_narrow 3 68 [.ref (ad 0), .ref h] D kA [(ad 0, .inr (1, [.ref (ad 1), .ref (ad 2), .ref (ad 3), .ref (ad 4), .ref (ad 5), .ref (ad 6), .ref (ad 7), .int (nI n)])), (ad 5, .inl (kA, 256, .inl fp)), (ad 6, .inl (kA, 256, .inl fk)), (ad 7, .inl (kA, 256, .inl fh)), (h, .inr (0, [.ref a, .int (nI c)])), (a, .inl (kA, 24, .inl f))] none [(ad 0, .inr (1, [.ref (ad 1), .ref (ad 2), .ref (ad 3), .ref (ad 4), .ref (ad 5), .ref (ad 6), .ref (ad 7), .int (nI n)])), (ad 5, .inl (kA, 256, .inl fp)), (ad 6, .inl (kA, 256, .inl fk)), (ad 7, .inl (kA, 256, .inl ((znw n fp fk c f fh).2))), (h, .inr (0, [.ref a, .int (nI c)])), (a, .inl (kA, 24, .inl ((znw n fp fk c f fh).1)))] := by
  refine vz_startM (cc := cX1_narrow) (maxL := 5) (ret := none) (own := RX1) (by decide) rfl rfl (Nat.le_of_ble_eq_true rfl) ?_
  intro pz ez sz mz below meth cz args Q ls H locs Az hargs hx hb hml hown hts hr hlocks hP hK hD hS hAe hQ hl
  have hcf : CallFix pz mz cz cX1_narrow 5 sz args wsX1_narrow RX1 := ⟨hx, hb, hml, hown, hts⟩
  have hl : lv_has ls 5 [(0, .ref (ad 0)), (1, .ref h)] := hl
  have hN := zN_le hn
  refine lv_aload_n hx hb dX1_narrow_0 rfl (lv_at hl 0 rfl) ?_
  refine lv_aload_n hx hb dX1_narrow_1 rfl (lv_at hl 1 rfl) ?_
  refine vz_callM (n := 1) (As := [.ref h]) (rest := []) (q0 := 0) hcf (c_X1_countHolders l D kA ad n fp fk fh hn h a c f hc) gX1_narrow_X1_countHolders rfl hd_X1_countHolders ⟨Nat.le_of_ble_eq_true rfl, Nat.le_of_ble_eq_true rfl⟩ hK hP hD hS [0, 1, 2, 3, 4, 5] (by decide) rfl rfl rfl rfl rfl rfl rfl hl.1 rfl (Nat.le_of_ble_eq_true rfl) ⟨Nat.zero_le _, Nat.zero_le _⟩ dX1_narrow_2 (fun H locs hP hD hS => ?_)
  have hP : va_P D vwCl [(ad 0, .inr (1, [.ref (ad 1), .ref (ad 2), .ref (ad 3), .ref (ad 4), .ref (ad 5), .ref (ad 6), .ref (ad 7), .int (nI n)])), (ad 5, .inl (kA, 256, .inl fp)), (ad 6, .inl (kA, 256, .inl fk)), (ad 7, .inl (kA, 256, .inl (zhc (zN n) fp f (zmk 256 (fun _ => true) (nI 0) fh) c))), (h, .inr (0, [.ref a, .int (nI c)])), (a, .inl (kA, 24, .inl f))] H := hP
  have hD : va_D Az [(ad 0, .inr (1, [.ref (ad 1), .ref (ad 2), .ref (ad 3), .ref (ad 4), .ref (ad 5), .ref (ad 6), .ref (ad 7), .int (nI n)])), (ad 5, .inl (kA, 256, .inl fp)), (ad 6, .inl (kA, 256, .inl fk)), (ad 7, .inl (kA, 256, .inl (zhc (zN n) fp f (zmk 256 (fun _ => true) (nI 0) fh) c))), (h, .inr (0, [.ref a, .int (nI c)])), (a, .inl (kA, 24, .inl f))] := hD
  refine lv_iconst (v := nI 0) hx hb dX1_narrow_5 (by decide) ?_
  refine lv_istore_n (lv' := [(2, .int (nI 0)), (0, .ref (ad 0)), (1, .ref h)]) hx hb dX1_narrow_6 rfl hl (by decide) rfl (fun ls hl => ?_)
  have lp1 : ∀ (dz : Nat) (i : Nat) (g hh : Nat → Int32) (H : Heap) (locs : List Loc) (ls : Array Slot), (c - i) < dz → (i ≤ c) → ((g, hh) = znr n fp fk f (zhc (zN n) fp f (zmk 256 (fun _ => true) (nI 0) fh) c) i) → va_P D vwCl [(ad 0, .inr (1, [.ref (ad 1), .ref (ad 2), .ref (ad 3), .ref (ad 4), .ref (ad 5), .ref (ad 6), .ref (ad 7), .int (nI n)])), (ad 5, .inl (kA, 256, .inl fp)), (ad 6, .inl (kA, 256, .inl fk)), (ad 7, .inl (kA, 256, .inl hh)), (h, .inr (0, [.ref a, .int (nI c)])), (a, .inl (kA, 24, .inl g))] H → va_D Az [(ad 0, .inr (1, [.ref (ad 1), .ref (ad 2), .ref (ad 3), .ref (ad 4), .ref (ad 5), .ref (ad 6), .ref (ad 7), .int (nI n)])), (ad 5, .inl (kA, 256, .inl fp)), (ad 6, .inl (kA, 256, .inl fk)), (ad 7, .inl (kA, 256, .inl hh)), (h, .inr (0, [.ref a, .int (nI c)])), (a, .inl (kA, 24, .inl g))] → va_S Az sz.heap H locs → lv_has ls 5 [(0, .ref (ad 0)), (1, .ref h), (2, .int (nI i))] → W pz l ez (vz_R 3 68) sz mz args below meth cz H locs 0 0 Q (F0 mz 7 ls []) := by
    intro dz
    induction dz with
    | zero => intro i g hh H locs ls hd h1 h2 hP hD hS hl; exact absurd hd (Nat.not_lt_zero _)
    | succ dz ih1 =>
      intro i g hh H locs ls hd h1 h2 hP hD hS hl
      refine lv_iload_n hx hb dX1_narrow_7 rfl (lv_at hl 2 rfl) ?_
      refine lv_aload_n hx hb dX1_narrow_8 rfl (lv_at hl 1 rfl) ?_
      refine vz_callV (n := 0) (As := []) (rest := [.int (nI i)]) (q0 := 0) hcf (c_X0_length l D kA h a c g hc) gX1_narrow_X0_length rfl hd_X0_length ⟨Nat.le_of_ble_eq_true rfl, Nat.le_of_ble_eq_true rfl⟩ hK (hP.sub [4, 5] rfl) rfl rfl rfl rfl hl.1 rfl (Nat.le_of_ble_eq_true rfl) ⟨Nat.zero_le _, Nat.zero_le _⟩ dX1_narrow_9 ?_
      refine vz_cge (tgt := 54) hx hb dX1_narrow_12 (by decide) (by omega) (by omega) (fun c_12 => ?_) (fun c_12 => ?_)
      · skip
        obtain rfl : c = i := by omega
        have h5 : (g, hh) = znw n fp fk c f fh := h2
        rw [← h5] at hQ
        exact vz_vretM hx hb hr hlocks hQ hAe dX1_narrow_54 hS hP rfl
      · skip
        refine lv_aload_n hx hb dX1_narrow_15 rfl (lv_at hl 1 rfl) ?_
        refine lv_iload_n hx hb dX1_narrow_16 rfl (lv_at hl 2 rfl) ?_
        refine vz_callV (n := 1) (As := [.int (nI i)]) (rest := []) (q0 := 0) hcf (c_X0_at l D kA h a c g hc (nI i)) gX1_narrow_X0_at rfl hd_X0_at ⟨Nat.le_of_ble_eq_true rfl, Nat.le_of_ble_eq_true rfl⟩ hK (hP.sub [4, 5] rfl) rfl rfl rfl rfl hl.1 rfl (Nat.le_of_ble_eq_true rfl) ⟨Nat.zero_le _, Nat.zero_le _⟩ dX1_narrow_17 ?_
        refine vz_top (y := (g i)) (zat_nI c_12 hc) ?_
        refine lv_istore_n (lv' := [(3, .int (g i)), (0, .ref (ad 0)), (1, .ref h), (2, .int (nI i))]) hx hb dX1_narrow_20 rfl hl (by decide) rfl (fun ls hl => ?_)
        refine lv_aload_n hx hb dX1_narrow_21 rfl (lv_at hl 1 rfl) ?_
        refine lv_iload_n hx hb dX1_narrow_22 rfl (lv_at hl 0 rfl) ?_
        refine vz_callV (n := 1) (As := [.int (g i)]) (rest := []) (q0 := 0) hcf (c_X1_ownPart l D kA ad n fp fk hh hn (g i)) gX1_narrow_X1_ownPart rfl hd_X1_ownPart ⟨Nat.le_of_ble_eq_true rfl, Nat.le_of_ble_eq_true rfl⟩ hK (hP.sub [0, 1, 2, 3] rfl) rfl rfl rfl rfl hl.1 rfl (Nat.le_of_ble_eq_true rfl) ⟨Nat.zero_le _, Nat.zero_le _⟩ dX1_narrow_23 ?_
        refine lv_istore (lv' := [(4, .int (zown n fp fk hh (g i))), (3, .int (g i)), (0, .ref (ad 0)), (1, .ref h), (2, .int (nI i))]) hx hb dX1_narrow_26 hl (by decide) rfl (fun ls hl => ?_)
        refine lv_aload_n hx hb dX1_narrow_28 rfl (lv_at hl 2 rfl) ?_
        refine lv_iload_n hx hb dX1_narrow_29 rfl (lv_at hl 1 rfl) ?_
        refine lv_iconst (v := -1) hx hb dX1_narrow_30 (by decide) ?_
        refine vz_callM (n := 2) (As := [.int (g i), .int (-1)]) (rest := []) (q0 := 0) hcf (c_X1_addToHolders l D kA ad n fp fk hh hn (g i) (-1)) gX1_narrow_X1_addToHolders rfl hd_X1_addToHolders ⟨Nat.le_of_ble_eq_true rfl, Nat.le_of_ble_eq_true rfl⟩ hK hP hD hS [0, 1, 2, 3] (by decide) rfl rfl rfl rfl rfl rfl rfl hl.1 rfl (Nat.le_of_ble_eq_true rfl) ⟨Nat.zero_le _, Nat.zero_le _⟩ dX1_narrow_31 (fun H locs hP hD hS => ?_)
        have hP : va_P D vwCl [(ad 0, .inr (1, [.ref (ad 1), .ref (ad 2), .ref (ad 3), .ref (ad 4), .ref (ad 5), .ref (ad 6), .ref (ad 7), .int (nI n)])), (ad 5, .inl (kA, 256, .inl fp)), (ad 6, .inl (kA, 256, .inl fk)), (ad 7, .inl (kA, 256, .inl (zad (zN n) (zX_in fp (g i)) (-1) hh))), (h, .inr (0, [.ref a, .int (nI c)])), (a, .inl (kA, 24, .inl g))] H := hP
        have hD : va_D Az [(ad 0, .inr (1, [.ref (ad 1), .ref (ad 2), .ref (ad 3), .ref (ad 4), .ref (ad 5), .ref (ad 6), .ref (ad 7), .int (nI n)])), (ad 5, .inl (kA, 256, .inl fp)), (ad 6, .inl (kA, 256, .inl fk)), (ad 7, .inl (kA, 256, .inl (zad (zN n) (zX_in fp (g i)) (-1) hh))), (h, .inr (0, [.ref a, .int (nI c)])), (a, .inl (kA, 24, .inl g))] := hD
        refine lv_aload_n hx hb dX1_narrow_34 rfl (lv_at hl 2 rfl) ?_
        refine lv_iload hx hb dX1_narrow_35 (lv_at hl 0 rfl) ?_
        refine lv_iconst (v := nI 1) hx hb dX1_narrow_37 (by decide) ?_
        refine vz_callM (n := 2) (As := [.int (zown n fp fk hh (g i)), .int (nI 1)]) (rest := []) (q0 := 0) hcf (c_X1_addToHolders l D kA ad n fp fk (zad (zN n) (zX_in fp (g i)) (-1) hh) hn (zown n fp fk hh (g i)) (nI 1)) gX1_narrow_X1_addToHolders rfl hd_X1_addToHolders ⟨Nat.le_of_ble_eq_true rfl, Nat.le_of_ble_eq_true rfl⟩ hK hP hD hS [0, 1, 2, 3] (by decide) rfl rfl rfl rfl rfl rfl rfl hl.1 rfl (Nat.le_of_ble_eq_true rfl) ⟨Nat.zero_le _, Nat.zero_le _⟩ dX1_narrow_38 (fun H locs hP hD hS => ?_)
        have hP : va_P D vwCl [(ad 0, .inr (1, [.ref (ad 1), .ref (ad 2), .ref (ad 3), .ref (ad 4), .ref (ad 5), .ref (ad 6), .ref (ad 7), .int (nI n)])), (ad 5, .inl (kA, 256, .inl fp)), (ad 6, .inl (kA, 256, .inl fk)), (ad 7, .inl (kA, 256, .inl (zad (zN n) (zX_in fp (zown n fp fk hh (g i))) (nI 1) (zad (zN n) (zX_in fp (g i)) (-1) hh)))), (h, .inr (0, [.ref a, .int (nI c)])), (a, .inl (kA, 24, .inl g))] H := hP
        have hD : va_D Az [(ad 0, .inr (1, [.ref (ad 1), .ref (ad 2), .ref (ad 3), .ref (ad 4), .ref (ad 5), .ref (ad 6), .ref (ad 7), .int (nI n)])), (ad 5, .inl (kA, 256, .inl fp)), (ad 6, .inl (kA, 256, .inl fk)), (ad 7, .inl (kA, 256, .inl (zad (zN n) (zX_in fp (zown n fp fk hh (g i))) (nI 1) (zad (zN n) (zX_in fp (g i)) (-1) hh)))), (h, .inr (0, [.ref a, .int (nI c)])), (a, .inl (kA, 24, .inl g))] := hD
        refine lv_aload_n hx hb dX1_narrow_41 rfl (lv_at hl 3 rfl) ?_
        refine lv_iload_n hx hb dX1_narrow_42 rfl (lv_at hl 4 rfl) ?_
        refine lv_iload hx hb dX1_narrow_43 (lv_at hl 0 rfl) ?_
        refine vz_callM (n := 2) (As := [.int (nI i), .int (zown n fp fk hh (g i))]) (rest := []) (q0 := 0) hcf (c_X0_put l D kA h a c g hc i (zown n fp fk hh (g i)) c_12) gX1_narrow_X0_put rfl hd_X0_put ⟨Nat.le_of_ble_eq_true rfl, Nat.le_of_ble_eq_true rfl⟩ hK hP hD hS [4, 5] (by decide) rfl rfl rfl rfl rfl rfl rfl hl.1 rfl (Nat.le_of_ble_eq_true rfl) ⟨Nat.zero_le _, Nat.zero_le _⟩ dX1_narrow_45 (fun H locs hP hD hS => ?_)
        have hP : va_P D vwCl [(ad 0, .inr (1, [.ref (ad 1), .ref (ad 2), .ref (ad 3), .ref (ad 4), .ref (ad 5), .ref (ad 6), .ref (ad 7), .int (nI n)])), (ad 5, .inl (kA, 256, .inl fp)), (ad 6, .inl (kA, 256, .inl fk)), (ad 7, .inl (kA, 256, .inl (zad (zN n) (zX_in fp (zown n fp fk hh (g i))) (nI 1) (zad (zN n) (zX_in fp (g i)) (-1) hh)))), (h, .inr (0, [.ref a, .int (nI c)])), (a, .inl (kA, 24, .inl (upd g i (zown n fp fk hh (g i)))))] H := hP
        have hD : va_D Az [(ad 0, .inr (1, [.ref (ad 1), .ref (ad 2), .ref (ad 3), .ref (ad 4), .ref (ad 5), .ref (ad 6), .ref (ad 7), .int (nI n)])), (ad 5, .inl (kA, 256, .inl fp)), (ad 6, .inl (kA, 256, .inl fk)), (ad 7, .inl (kA, 256, .inl (zad (zN n) (zX_in fp (zown n fp fk hh (g i))) (nI 1) (zad (zN n) (zX_in fp (g i)) (-1) hh)))), (h, .inr (0, [.ref a, .int (nI c)])), (a, .inl (kA, 24, .inl (upd g i (zown n fp fk hh (g i)))))] := hD
        refine lv_iinc (v := (nI (i + 1))) (lv' := [(2, .int (nI (i + 1))), (4, .int (zown n fp fk hh (g i))), (3, .int (g i)), (0, .ref (ad 0)), (1, .ref h)]) hx hb dX1_narrow_48 hl (k := 4) rfl (nI_1 _) (by decide) rfl (fun ls hl => ?_)
        refine lv_goto (tgt := 7) hx hb dX1_narrow_51 (by decide) ?_
        exact ih1 (i + 1) (upd g i (zown n fp fk hh (g i))) (zad (zN n) (zX_in fp (zown n fp fk hh (g i))) (nI 1) (zad (zN n) (zX_in fp (g i)) (-1) hh)) _ _ _ (by omega) (by omega) (by rw [znr, ← h2]) hP (vz_D hD rfl) hS (lv_sub hl [3, 4, 0] rfl)
  exact lp1 _ 0 f _ _ _ _ (Nat.lt_succ_self _) (by omega) rfl hP (vz_D hD rfl) hS (lv_sub hl [1, 2, 0] rfl)
set_option maxHeartbeats 4000000 in
set_option maxRecDepth 100000 in
theorem c_X1_makePass (l : Launch) (D : va_G) (kA : ClassId) (ad : Nat → Nat) (n : Nat) (fp fk fh : Nat → Int32) (hn : n ≤ 8) (h a c : Nat) (f : Nat → Int32) (hc : c ≤ 24) (asc : Bool) : vz_MM l yX1_makePass wsX1_makePass 4 91 [.ref (ad 0), .ref h, .int (vz_b asc)] D kA [(ad 0, .inr (1, [.ref (ad 1), .ref (ad 2), .ref (ad 3), .ref (ad 4), .ref (ad 5), .ref (ad 6), .ref (ad 7), .int (nI n)])), (ad 5, .inl (kA, 256, .inl fp)), (ad 6, .inl (kA, 256, .inl fk)), (ad 7, .inl (kA, 256, .inl fh)), (h, .inr (0, [.ref a, .int (nI c)])), (a, .inl (kA, 24, .inl f))] none [(ad 0, .inr (1, [.ref (ad 1), .ref (ad 2), .ref (ad 3), .ref (ad 4), .ref (ad 5), .ref (ad 6), .ref (ad 7), .int (nI n)])), (ad 5, .inl (kA, 256, .inl fp)), (ad 6, .inl (kA, 256, .inl fk)), (ad 7, .inl (kA, 256, .inl ((zps n fp fk asc c f fh).2.2))), (h, .inr (0, [.ref a, .int (nI ((zps n fp fk asc c f fh).1))])), (a, .inl (kA, 24, .inl ((zps n fp fk asc c f fh).2.1)))] := by
  refine vz_startM (cc := cX1_makePass) (maxL := 4) (ret := none) (own := RX1) (by decide) rfl rfl (Nat.le_of_ble_eq_true rfl) ?_
  intro pz ez sz mz below meth cz args Q ls H locs Az hargs hx hb hml hown hts hr hlocks hP hK hD hS hAe hQ hl
  have hcf : CallFix pz mz cz cX1_makePass 4 sz args wsX1_makePass RX1 := ⟨hx, hb, hml, hown, hts⟩
  have hl : lv_has ls 4 [(0, .ref (ad 0)), (1, .ref h), (2, .int (vz_b asc))] := hl
  have hN := zN_le hn
  refine lv_iconst (v := nI 0) hx hb dX1_makePass_0 (by decide) ?_
  refine lv_istore_n (lv' := [(3, .int (nI 0)), (0, .ref (ad 0)), (1, .ref h), (2, .int (vz_b asc))]) hx hb dX1_makePass_1 rfl hl (by decide) rfl (fun ls hl => ?_)
  have lp1 : ∀ (dz : Nat) (i : Nat) (g : Nat → Int32) (H : Heap) (locs : List Loc) (ls : Array Slot), (c - i) < dz → (i ≤ c) → (g = zcp i (fun q => zwd n (ztch n fk (zX_in fp)) asc n (f q)) f) → va_P D vwCl [(ad 0, .inr (1, [.ref (ad 1), .ref (ad 2), .ref (ad 3), .ref (ad 4), .ref (ad 5), .ref (ad 6), .ref (ad 7), .int (nI n)])), (ad 5, .inl (kA, 256, .inl fp)), (ad 6, .inl (kA, 256, .inl fk)), (ad 7, .inl (kA, 256, .inl fh)), (h, .inr (0, [.ref a, .int (nI c)])), (a, .inl (kA, 24, .inl g))] H → va_D Az [(ad 0, .inr (1, [.ref (ad 1), .ref (ad 2), .ref (ad 3), .ref (ad 4), .ref (ad 5), .ref (ad 6), .ref (ad 7), .int (nI n)])), (ad 5, .inl (kA, 256, .inl fp)), (ad 6, .inl (kA, 256, .inl fk)), (ad 7, .inl (kA, 256, .inl fh)), (h, .inr (0, [.ref a, .int (nI c)])), (a, .inl (kA, 24, .inl g))] → va_S Az sz.heap H locs → lv_has ls 4 [(0, .ref (ad 0)), (1, .ref h), (2, .int (vz_b asc)), (3, .int (nI i))] → W pz l ez (vz_R 4 91) sz mz args below meth cz H locs 0 0 Q (F0 mz 2 ls []) := by
    intro dz
    induction dz with
    | zero => intro i g H locs ls hd h1 hg hP hD hS hl; exact absurd hd (Nat.not_lt_zero _)
    | succ dz ih1 =>
      intro i g H locs ls hd h1 hg hP hD hS hl
      refine lv_iload_n hx hb dX1_makePass_2 rfl (lv_at hl 3 rfl) ?_
      refine lv_aload_n hx hb dX1_makePass_3 rfl (lv_at hl 1 rfl) ?_
      refine vz_callV (n := 0) (As := []) (rest := [.int (nI i)]) (q0 := 0) hcf (c_X0_length l D kA h a c g hc) gX1_makePass_X0_length rfl hd_X0_length ⟨Nat.le_of_ble_eq_true rfl, Nat.le_of_ble_eq_true rfl⟩ hK (hP.sub [4, 5] rfl) rfl rfl rfl rfl hl.1 rfl (Nat.le_of_ble_eq_true rfl) ⟨Nat.zero_le _, Nat.zero_le _⟩ dX1_makePass_4 ?_
      refine vz_cge (tgt := 31) hx hb dX1_makePass_7 (by decide) (by omega) (by omega) (fun c_7 => ?_) (fun c_7 => ?_)
      · skip
        obtain rfl : c = i := by omega
        subst hg
        refine lv_aload_n hx hb dX1_makePass_31 rfl (lv_at hl 0 rfl) ?_
        refine lv_aload_n hx hb dX1_makePass_32 rfl (lv_at hl 1 rfl) ?_
        refine vz_callM (n := 1) (As := [.ref h]) (rest := []) (q0 := 0) hcf (c_X1_dropNeedless l D kA ad n fp fk fh hn h a c (zcp c (fun q => zwd n (ztch n fk (zX_in fp)) asc n (f q)) f) hc) gX1_makePass_X1_dropNeedless rfl hd_X1_dropNeedless ⟨Nat.le_of_ble_eq_true rfl, Nat.le_of_ble_eq_true rfl⟩ hK hP hD hS [0, 1, 2, 3, 4, 5] (by decide) rfl rfl rfl rfl rfl rfl rfl hl.1 rfl (Nat.le_of_ble_eq_true rfl) ⟨Nat.zero_le _, Nat.zero_le _⟩ dX1_makePass_33 (fun H locs hP hD hS => ?_)
        have hP : va_P D vwCl [(ad 0, .inr (1, [.ref (ad 1), .ref (ad 2), .ref (ad 3), .ref (ad 4), .ref (ad 5), .ref (ad 6), .ref (ad 7), .int (nI n)])), (ad 5, .inl (kA, 256, .inl fp)), (ad 6, .inl (kA, 256, .inl fk)), (ad 7, .inl (kA, 256, .inl ((zps n fp fk asc c f fh).2.2))), (h, .inr (0, [.ref a, .int (nI ((zps n fp fk asc c f fh).1))])), (a, .inl (kA, 24, .inl ((zps n fp fk asc c f fh).2.1)))] H := hP
        have hD : va_D Az [(ad 0, .inr (1, [.ref (ad 1), .ref (ad 2), .ref (ad 3), .ref (ad 4), .ref (ad 5), .ref (ad 6), .ref (ad 7), .int (nI n)])), (ad 5, .inl (kA, 256, .inl fp)), (ad 6, .inl (kA, 256, .inl fk)), (ad 7, .inl (kA, 256, .inl ((zps n fp fk asc c f fh).2.2))), (h, .inr (0, [.ref a, .int (nI ((zps n fp fk asc c f fh).1))])), (a, .inl (kA, 24, .inl ((zps n fp fk asc c f fh).2.1)))] := hD
        exact vz_vretM hx hb hr hlocks hQ hAe dX1_makePass_36 hS hP rfl
      · skip
        refine lv_aload_n hx hb dX1_makePass_10 rfl (lv_at hl 1 rfl) ?_
        refine lv_iload_n hx hb dX1_makePass_11 rfl (lv_at hl 3 rfl) ?_
        refine lv_aload_n hx hb dX1_makePass_12 rfl (lv_at hl 0 rfl) ?_
        refine lv_aload_n hx hb dX1_makePass_13 rfl (lv_at hl 1 rfl) ?_
        refine lv_iload_n hx hb dX1_makePass_14 rfl (lv_at hl 3 rfl) ?_
        refine vz_callV (n := 1) (As := [.int (nI i)]) (rest := [.ref (ad 0), .int (nI i), .ref h]) (q0 := 0) hcf (c_X0_at l D kA h a c g hc (nI i)) gX1_makePass_X0_at rfl hd_X0_at ⟨Nat.le_of_ble_eq_true rfl, Nat.le_of_ble_eq_true rfl⟩ hK (hP.sub [4, 5] rfl) rfl rfl rfl rfl hl.1 rfl (Nat.le_of_ble_eq_true rfl) ⟨Nat.zero_le _, Nat.zero_le _⟩ dX1_makePass_15 ?_
        refine vz_top (y := (f i)) (by rw [zat_nI c_7 hc, hg]; exact zcp_at) ?_
        refine lv_iload_n hx hb dX1_makePass_18 rfl (lv_at hl 2 rfl) ?_
        refine vz_callV (n := 2) (As := [.int (f i), .int (vz_b asc)]) (rest := [.int (nI i), .ref h]) (q0 := 0) hcf (c_X1_widened l D kA ad n fp fk fh hn (f i) asc) gX1_makePass_X1_widened rfl hd_X1_widened ⟨Nat.le_of_ble_eq_true rfl, Nat.le_of_ble_eq_true rfl⟩ hK (hP.sub [0, 1, 2, 3] rfl) rfl rfl rfl rfl hl.1 rfl (Nat.le_of_ble_eq_true rfl) ⟨Nat.zero_le _, Nat.zero_le _⟩ dX1_makePass_19 ?_
        refine vz_callM (n := 2) (As := [.int (nI i), .int (zwd n (ztch n fk (zX_in fp)) asc n (f i))]) (rest := []) (q0 := 0) hcf (c_X0_put l D kA h a c g hc i (zwd n (ztch n fk (zX_in fp)) asc n (f i)) c_7) gX1_makePass_X0_put rfl hd_X0_put ⟨Nat.le_of_ble_eq_true rfl, Nat.le_of_ble_eq_true rfl⟩ hK hP hD hS [4, 5] (by decide) rfl rfl rfl rfl rfl rfl rfl hl.1 rfl (Nat.le_of_ble_eq_true rfl) ⟨Nat.zero_le _, Nat.zero_le _⟩ dX1_makePass_22 (fun H locs hP hD hS => ?_)
        have hP : va_P D vwCl [(ad 0, .inr (1, [.ref (ad 1), .ref (ad 2), .ref (ad 3), .ref (ad 4), .ref (ad 5), .ref (ad 6), .ref (ad 7), .int (nI n)])), (ad 5, .inl (kA, 256, .inl fp)), (ad 6, .inl (kA, 256, .inl fk)), (ad 7, .inl (kA, 256, .inl fh)), (h, .inr (0, [.ref a, .int (nI c)])), (a, .inl (kA, 24, .inl (upd g i (zwd n (ztch n fk (zX_in fp)) asc n (f i)))))] H := hP
        have hD : va_D Az [(ad 0, .inr (1, [.ref (ad 1), .ref (ad 2), .ref (ad 3), .ref (ad 4), .ref (ad 5), .ref (ad 6), .ref (ad 7), .int (nI n)])), (ad 5, .inl (kA, 256, .inl fp)), (ad 6, .inl (kA, 256, .inl fk)), (ad 7, .inl (kA, 256, .inl fh)), (h, .inr (0, [.ref a, .int (nI c)])), (a, .inl (kA, 24, .inl (upd g i (zwd n (ztch n fk (zX_in fp)) asc n (f i)))))] := hD
        refine lv_iinc (v := (nI (i + 1))) (lv' := [(3, .int (nI (i + 1))), (0, .ref (ad 0)), (1, .ref h), (2, .int (vz_b asc))]) hx hb dX1_makePass_25 hl (k := 3) rfl (nI_1 _) (by decide) rfl (fun ls hl => ?_)
        refine lv_goto (tgt := 2) hx hb dX1_makePass_28 (by decide) ?_
        exact ih1 (i + 1) (upd g i (zwd n (ztch n fk (zX_in fp)) asc n (f i))) _ _ _ (by omega) (by omega) (by rw [hg]; exact zcp_s (g := (fun q => zwd n (ztch n fk (zX_in fp)) asc n (f q)))) hP (vz_D hD rfl) hS (lv_sub hl [1, 2, 3, 0] rfl)
  exact lp1 _ 0 f _ _ _ (Nat.lt_succ_self _) (by omega) zcp_0.symm hP (vz_D hD rfl) hS (lv_sub hl [1, 2, 3, 0] rfl)
end
section
set_option maxHeartbeats 4000000 in
set_option maxRecDepth 100000 in
theorem c_X1_fillPointCubes (l : Launch) (D : va_G) (kA : ClassId) (ad : Nat → Nat) (n : Nat) (fp fk fh : Nat → Int32) (hn : n ≤ 8) : vz_MM l yX1_fillPointCubes wsX1_fillPointCubes 0 0 [.ref (ad 0)] D kA [(ad 0, .inr (1, [.ref (ad 1), .ref (ad 2), .ref (ad 3), .ref (ad 4), .ref (ad 5), .ref (ad 6), .ref (ad 7), .int (nI n)])), (ad 5, .inl (kA, 256, .inl fp)), (ad 6, .inl (kA, 256, .inl fk)), (ad 7, .inl (kA, 256, .inl fh))] none [(ad 0, .inr (1, [.ref (ad 1), .ref (ad 2), .ref (ad 3), .ref (ad 4), .ref (ad 5), .ref (ad 6), .ref (ad 7), .int (nI n)])), (ad 5, .inl (kA, 256, .inl (zpf fp n))), (ad 6, .inl (kA, 256, .inl fk)), (ad 7, .inl (kA, 256, .inl fh))] := by
  refine vz_startM (cc := cX1_fillPointCubes) (maxL := 4) (ret := none) (own := RX1) (by decide) rfl rfl (Nat.le_of_ble_eq_true rfl) ?_
  intro pz ez sz mz below meth cz args Q ls H locs Az hargs hx hb hml hown hts hr hlocks hP hK hD hS hAe hQ hl
  have hcf : CallFix pz mz cz cX1_fillPointCubes 4 sz args wsX1_fillPointCubes RX1 := ⟨hx, hb, hml, hown, hts⟩
  have hi0 : ∀ w ∈ u_ws RX1 TX1 8, w ∈ wsX1_fillPointCubes := by decide +kernel
  have hf25 : (Cond.fieldLink RX1 25 "CubeMin" "pointCubes" "[I").before args sz = true := hts _ (by decide +kernel)
  have hf39 : (Cond.fieldLink RX1 39 "CubeMin" "inputCount" "I").before args sz = true := hts _ (by decide +kernel)
  have hl : lv_has ls 4 [(0, .ref (ad 0))] := hl
  have hN := zN_le hn
  refine lv_aload_n hx hb dX1_fillPointCubes_0 rfl (lv_at hl 0 rfl) ?_
  refine va_get (D := D) (ci := 1) (v := .ref (ad 5)) (C := RX1) (T := TX1) (N := 8) hx hb hts hi0 hown hK hP 0 rfl rfl 4 (by decide) hf25 (fun _ h9 => h9) rfl dX1_fillPointCubes_1 ?_
  refine lv_iconst (v := nI 0) hx hb dX1_fillPointCubes_4 (by decide) ?_
  refine lv_iconst (v := nI 0) hx hb dX1_fillPointCubes_5 (by decide) ?_
  refine vz_ast hx hb hK hP hD hS 1 rfl (by omega) (Nat.le_of_ble_eq_true rfl) dX1_fillPointCubes_6 (fun H locs hP hD hS => ?_)
  have hP : va_P D vwCl [(ad 0, .inr (1, [.ref (ad 1), .ref (ad 2), .ref (ad 3), .ref (ad 4), .ref (ad 5), .ref (ad 6), .ref (ad 7), .int (nI n)])), (ad 5, .inl (kA, 256, .inl (upd fp 0 (nI 0)))), (ad 6, .inl (kA, 256, .inl fk)), (ad 7, .inl (kA, 256, .inl fh))] H := hP
  have hD : va_D Az [(ad 0, .inr (1, [.ref (ad 1), .ref (ad 2), .ref (ad 3), .ref (ad 4), .ref (ad 5), .ref (ad 6), .ref (ad 7), .int (nI n)])), (ad 5, .inl (kA, 256, .inl (upd fp 0 (nI 0)))), (ad 6, .inl (kA, 256, .inl fk)), (ad 7, .inl (kA, 256, .inl fh))] := hD
  refine lv_iconst (v := nI 0) hx hb dX1_fillPointCubes_7 (by decide) ?_
  refine lv_istore_n (lv' := [(1, .int (nI 0)), (0, .ref (ad 0))]) hx hb dX1_fillPointCubes_8 rfl hl (by decide) rfl (fun ls hl => ?_)
  have lp1 : ∀ (dz : Nat) (i : Nat) (g1 : Nat → Int32) (H : Heap) (locs : List Loc) (ls : Array Slot), (n - i) < dz → (i ≤ n) → (g1 = zpf fp i) → va_P D vwCl [(ad 0, .inr (1, [.ref (ad 1), .ref (ad 2), .ref (ad 3), .ref (ad 4), .ref (ad 5), .ref (ad 6), .ref (ad 7), .int (nI n)])), (ad 5, .inl (kA, 256, .inl g1)), (ad 6, .inl (kA, 256, .inl fk)), (ad 7, .inl (kA, 256, .inl fh))] H → va_D Az [(ad 0, .inr (1, [.ref (ad 1), .ref (ad 2), .ref (ad 3), .ref (ad 4), .ref (ad 5), .ref (ad 6), .ref (ad 7), .int (nI n)])), (ad 5, .inl (kA, 256, .inl g1)), (ad 6, .inl (kA, 256, .inl fk)), (ad 7, .inl (kA, 256, .inl fh))] → va_S Az sz.heap H locs → lv_has ls 4 [(0, .ref (ad 0)), (1, .int (nI i))] → W pz l ez (vz_R 0 0) sz mz args below meth cz H locs 0 0 Q (F0 mz 9 ls []) := by
    intro dz
    induction dz with
    | zero => intro i g1 H locs ls hd h1 hg1 hP hD hS hl; exact absurd hd (Nat.not_lt_zero _)
    | succ dz ih1 =>
      intro i g1 H locs ls hd h1 hg1 hP hD hS hl
      refine lv_iload_n hx hb dX1_fillPointCubes_9 rfl (lv_at hl 1 rfl) ?_
      refine lv_aload_n hx hb dX1_fillPointCubes_10 rfl (lv_at hl 0 rfl) ?_
      refine va_get (D := D) (ci := 1) (v := .int (nI n)) (C := RX1) (T := TX1) (N := 8) hx hb hts hi0 hown hK hP 0 rfl rfl 7 (by decide) hf39 (fun _ h9 => h9) rfl dX1_fillPointCubes_11 ?_
      refine vz_cge (tgt := 74) hx hb dX1_fillPointCubes_14 (by decide) (by omega) (by omega) (fun c_14 => ?_) (fun c_14 => ?_)
      · skip
        obtain rfl : n = i := by omega
        subst hg1
        exact vz_vretM hx hb hr hlocks hQ hAe dX1_fillPointCubes_74 hS hP rfl
      · skip
        have hh := zN_half (show i < 8 by omega)
        refine lv_iconst (v := nI 1) hx hb dX1_fillPointCubes_17 (by decide) ?_
        refine lv_iload_n hx hb dX1_fillPointCubes_18 rfl (lv_at hl 1 rfl) ?_
        refine lv_ishl hx hb dX1_fillPointCubes_19 ?_
        refine vz_top (y := (nI (zN i))) (zN_sh i (by omega)) ?_
        refine lv_istore_n (lv' := [(2, .int (nI (zN i))), (0, .ref (ad 0)), (1, .int (nI i))]) hx hb dX1_fillPointCubes_20 rfl hl (by decide) rfl (fun ls hl => ?_)
        refine lv_iconst (v := nI 0) hx hb dX1_fillPointCubes_21 (by decide) ?_
        refine lv_istore_n (lv' := [(3, .int (nI 0)), (2, .int (nI (zN i))), (0, .ref (ad 0)), (1, .int (nI i))]) hx hb dX1_fillPointCubes_22 rfl hl (by decide) rfl (fun ls hl => ?_)
        have lp2 : ∀ (dz : Nat) (q : Nat) (g : Nat → Int32) (H : Heap) (locs : List Loc) (ls : Array Slot), (zN i - q) < dz → (q ≤ zN i) → (g = zpo i q g1) → va_P D vwCl [(ad 0, .inr (1, [.ref (ad 1), .ref (ad 2), .ref (ad 3), .ref (ad 4), .ref (ad 5), .ref (ad 6), .ref (ad 7), .int (nI n)])), (ad 5, .inl (kA, 256, .inl g)), (ad 6, .inl (kA, 256, .inl fk)), (ad 7, .inl (kA, 256, .inl fh))] H → va_D Az [(ad 0, .inr (1, [.ref (ad 1), .ref (ad 2), .ref (ad 3), .ref (ad 4), .ref (ad 5), .ref (ad 6), .ref (ad 7), .int (nI n)])), (ad 5, .inl (kA, 256, .inl g)), (ad 6, .inl (kA, 256, .inl fk)), (ad 7, .inl (kA, 256, .inl fh))] → va_S Az sz.heap H locs → lv_has ls 4 [(0, .ref (ad 0)), (1, .int (nI i)), (2, .int (nI (zN i))), (3, .int (nI q))] → W pz l ez (vz_R 0 0) sz mz args below meth cz H locs 0 0 Q (F0 mz 23 ls []) := by
          intro dz
          induction dz with
          | zero => intro q g H locs ls hd h2 hg hP hD hS hl; exact absurd hd (Nat.not_lt_zero _)
          | succ dz ih2 =>
            intro q g H locs ls hd h2 hg hP hD hS hl
            refine lv_iload_n hx hb dX1_fillPointCubes_23 rfl (lv_at hl 3 rfl) ?_
            refine lv_iload_n hx hb dX1_fillPointCubes_24 rfl (lv_at hl 2 rfl) ?_
            refine vz_cge (tgt := 68) hx hb dX1_fillPointCubes_25 (by decide) (by omega) (by omega) (fun c_25 => ?_) (fun c_25 => ?_)
            · skip
              refine lv_iinc (v := (nI (i + 1))) (lv' := [(1, .int (nI (i + 1))), (0, .ref (ad 0)), (2, .int (nI (zN i))), (3, .int (nI q))]) hx hb dX1_fillPointCubes_68 hl (k := 1) rfl (nI_1 _) (by decide) rfl (fun ls hl => ?_)
              refine lv_goto (tgt := 9) hx hb dX1_fillPointCubes_71 (by decide) ?_
              exact ih1 (i + 1) g _ _ _ (by omega) (by omega) (by rw [hg, hg1]; obtain rfl : q = zN i := (by omega); rfl) hP (vz_D hD rfl) hS (lv_sub hl [1, 0] rfl)
            · skip
              refine lv_aload_n hx hb dX1_fillPointCubes_28 rfl (lv_at hl 0 rfl) ?_
              refine va_get (D := D) (ci := 1) (v := .ref (ad 5)) (C := RX1) (T := TX1) (N := 8) hx hb hts hi0 hown hK hP 0 rfl rfl 4 (by decide) hf25 (fun _ h9 => h9) rfl dX1_fillPointCubes_29 ?_
              refine lv_iload_n hx hb dX1_fillPointCubes_32 rfl (lv_at hl 3 rfl) ?_
              refine lv_iload_n hx hb dX1_fillPointCubes_33 rfl (lv_at hl 2 rfl) ?_
              refine vz_add hx hb dX1_fillPointCubes_34 ?_
              refine lv_aload_n hx hb dX1_fillPointCubes_35 rfl (lv_at hl 0 rfl) ?_
              refine va_get (D := D) (ci := 1) (v := .ref (ad 5)) (C := RX1) (T := TX1) (N := 8) hx hb hts hi0 hown hK hP 0 rfl rfl 4 (by decide) hf25 (fun _ h9 => h9) rfl dX1_fillPointCubes_36 ?_
              refine lv_iload_n hx hb dX1_fillPointCubes_39 rfl (lv_at hl 3 rfl) ?_
              refine vz_ald hx hb hK hP 1 rfl (by omega) (Nat.le_of_ble_eq_true rfl) dX1_fillPointCubes_40 ?_
              refine vz_top (y := (g1 q)) (by rw [hg]; exact zpo_at c_25) ?_
              refine lv_iconst (v := nI 2) hx hb dX1_fillPointCubes_41 (by decide) ?_
              refine lv_iconst (v := nI 2) hx hb dX1_fillPointCubes_42 (by decide) ?_
              refine lv_iload_n hx hb dX1_fillPointCubes_43 rfl (lv_at hl 1 rfl) ?_
              refine vz_mul hx hb dX1_fillPointCubes_44 ?_
              refine lv_ishl hx hb dX1_fillPointCubes_45 ?_
              refine lv_ior hx hb dX1_fillPointCubes_46 ?_
              refine vz_ast hx hb hK hP hD hS 1 rfl (by omega) (Nat.le_of_ble_eq_true rfl) dX1_fillPointCubes_47 (fun H locs hP hD hS => ?_)
              have hP : va_P D vwCl [(ad 0, .inr (1, [.ref (ad 1), .ref (ad 2), .ref (ad 3), .ref (ad 4), .ref (ad 5), .ref (ad 6), .ref (ad 7), .int (nI n)])), (ad 5, .inl (kA, 256, .inl (upd g (q + (zN i)) ((g1 q) ||| ((nI 2) <<< ((nI (2 * i)) &&& 31)))))), (ad 6, .inl (kA, 256, .inl fk)), (ad 7, .inl (kA, 256, .inl fh))] H := hP
              have hD : va_D Az [(ad 0, .inr (1, [.ref (ad 1), .ref (ad 2), .ref (ad 3), .ref (ad 4), .ref (ad 5), .ref (ad 6), .ref (ad 7), .int (nI n)])), (ad 5, .inl (kA, 256, .inl (upd g (q + (zN i)) ((g1 q) ||| ((nI 2) <<< ((nI (2 * i)) &&& 31)))))), (ad 6, .inl (kA, 256, .inl fk)), (ad 7, .inl (kA, 256, .inl fh))] := hD
              refine lv_aload_n hx hb dX1_fillPointCubes_48 rfl (lv_at hl 0 rfl) ?_
              refine va_get (D := D) (ci := 1) (v := .ref (ad 5)) (C := RX1) (T := TX1) (N := 8) hx hb hts hi0 hown hK hP 0 rfl rfl 4 (by decide) hf25 (fun _ h9 => h9) rfl dX1_fillPointCubes_49 ?_
              refine lv_iload_n hx hb dX1_fillPointCubes_52 rfl (lv_at hl 3 rfl) ?_
              refine lv_dup2_11 hx hb dX1_fillPointCubes_53 rfl rfl ?_
              refine vz_ald hx hb hK hP 1 rfl (by omega) (Nat.le_of_ble_eq_true rfl) dX1_fillPointCubes_54 ?_
              refine vz_top (y := (g1 q)) (by simp only [upd]; rw [if_neg (by have := zN_pos i; omega), hg]; exact zpo_at c_25) ?_
              refine lv_iconst (v := nI 1) hx hb dX1_fillPointCubes_55 (by decide) ?_
              refine lv_iconst (v := nI 2) hx hb dX1_fillPointCubes_56 (by decide) ?_
              refine lv_iload_n hx hb dX1_fillPointCubes_57 rfl (lv_at hl 1 rfl) ?_
              refine vz_mul hx hb dX1_fillPointCubes_58 ?_
              refine lv_ishl hx hb dX1_fillPointCubes_59 ?_
              refine lv_ior hx hb dX1_fillPointCubes_60 ?_
              refine vz_ast hx hb hK hP hD hS 1 rfl (by omega) (Nat.le_of_ble_eq_true rfl) dX1_fillPointCubes_61 (fun H locs hP hD hS => ?_)
              have hP : va_P D vwCl [(ad 0, .inr (1, [.ref (ad 1), .ref (ad 2), .ref (ad 3), .ref (ad 4), .ref (ad 5), .ref (ad 6), .ref (ad 7), .int (nI n)])), (ad 5, .inl (kA, 256, .inl (upd (upd g (q + (zN i)) ((g1 q) ||| ((nI 2) <<< ((nI (2 * i)) &&& 31)))) q ((g1 q) ||| ((nI 1) <<< ((nI (2 * i)) &&& 31)))))), (ad 6, .inl (kA, 256, .inl fk)), (ad 7, .inl (kA, 256, .inl fh))] H := hP
              have hD : va_D Az [(ad 0, .inr (1, [.ref (ad 1), .ref (ad 2), .ref (ad 3), .ref (ad 4), .ref (ad 5), .ref (ad 6), .ref (ad 7), .int (nI n)])), (ad 5, .inl (kA, 256, .inl (upd (upd g (q + (zN i)) ((g1 q) ||| ((nI 2) <<< ((nI (2 * i)) &&& 31)))) q ((g1 q) ||| ((nI 1) <<< ((nI (2 * i)) &&& 31)))))), (ad 6, .inl (kA, 256, .inl fk)), (ad 7, .inl (kA, 256, .inl fh))] := hD
              refine lv_iinc (v := (nI (q + 1))) (lv' := [(3, .int (nI (q + 1))), (0, .ref (ad 0)), (1, .int (nI i)), (2, .int (nI (zN i)))]) hx hb dX1_fillPointCubes_62 hl (k := 3) rfl (nI_1 _) (by decide) rfl (fun ls hl => ?_)
              refine lv_goto (tgt := 23) hx hb dX1_fillPointCubes_65 (by decide) ?_
              exact ih2 (q + 1) (upd (upd g (q + (zN i)) ((g1 q) ||| ((nI 2) <<< ((nI (2 * i)) &&& 31)))) q ((g1 q) ||| ((nI 1) <<< ((nI (2 * i)) &&& 31)))) _ _ _ (by omega) (by omega) (by rw [hg]; exact zpo_s c_25) hP (vz_D hD rfl) hS (lv_sub hl [1, 2, 3, 0] rfl)
        exact lp2 _ 0 g1 _ _ _ (Nat.lt_succ_self _) (by omega) zpo_0.symm hP (vz_D hD rfl) hS (lv_sub hl [2, 3, 1, 0] rfl)
  exact lp1 _ 0 _ _ _ _ (Nat.lt_succ_self _) (by omega) rfl hP (vz_D hD rfl) hS (lv_sub hl [1, 0] rfl)
set_option maxHeartbeats 4000000 in
set_option maxRecDepth 100000 in
theorem c_X1_begin (l : Launch) (D : va_G) (kA : ClassId) (ad : Nat → Nat) (n : Nat) (fp fk fh : Nat → Int32) (c0 c1 c2 c3 : Nat) (f0 f1 f2 f3 : Nat → Int32) (hc0 : c0 ≤ 24) (hc1 : c1 ≤ 24) (hc2 : c2 ≤ 24) (k : Nat) (hk : k ≤ 8) : vz_MM l yX1_begin wsX1_begin 1 23 [.ref (ad 0), .int (nI k)] D kA [(ad 0, .inr (1, [.ref (ad 1), .ref (ad 2), .ref (ad 3), .ref (ad 4), .ref (ad 5), .ref (ad 6), .ref (ad 7), .int (nI n)])), (ad 5, .inl (kA, 256, .inl fp)), (ad 6, .inl (kA, 256, .inl fk)), (ad 7, .inl (kA, 256, .inl fh)), (ad 1, .inr (0, [.ref (ad 8), .int (nI c0)])), (ad 8, .inl (kA, 24, .inl f0)), (ad 2, .inr (0, [.ref (ad 9), .int (nI c1)])), (ad 9, .inl (kA, 24, .inl f1)), (ad 3, .inr (0, [.ref (ad 10), .int (nI c2)])), (ad 10, .inl (kA, 24, .inl f2)), (ad 4, .inr (0, [.ref (ad 11), .int (nI c3)])), (ad 11, .inl (kA, 24, .inl f3))] none [(ad 0, .inr (1, [.ref (ad 1), .ref (ad 2), .ref (ad 3), .ref (ad 4), .ref (ad 5), .ref (ad 6), .ref (ad 7), .int (nI k)])), (ad 5, .inl (kA, 256, .inl (zpf fp k))), (ad 6, .inl (kA, 256, .inl (zmk 256 (fun _ => true) (nI 0) fk))), (ad 7, .inl (kA, 256, .inl fh)), (ad 1, .inr (0, [.ref (ad 8), .int (nI 0)])), (ad 8, .inl (kA, 24, .inl f0)), (ad 2, .inr (0, [.ref (ad 9), .int (nI 0)])), (ad 9, .inl (kA, 24, .inl f1)), (ad 3, .inr (0, [.ref (ad 10), .int (nI 0)])), (ad 10, .inl (kA, 24, .inl f2)), (ad 4, .inr (0, [.ref (ad 11), .int (nI c3)])), (ad 11, .inl (kA, 24, .inl f3))] := by
  refine vz_startM (cc := cX1_begin) (maxL := 3) (ret := none) (own := RX1) (by decide) rfl rfl (Nat.le_of_ble_eq_true rfl) ?_
  intro pz ez sz mz below meth cz args Q ls H locs Az hargs hx hb hml hown hts hr hlocks hP hK hD hS hAe hQ hl
  have hcf : CallFix pz mz cz cX1_begin 3 sz args wsX1_begin RX1 := ⟨hx, hb, hml, hown, hts⟩
  have hi0 : ∀ w ∈ u_ws RX1 TX1 8, w ∈ wsX1_begin := by decide +kernel
  have hf12 : (Cond.fieldLink RX1 12 "CubeMin" "onList" "LCubeMin$CubeList;").before args sz = true := hts _ (by decide +kernel)
  have hf16 : (Cond.fieldLink RX1 16 "CubeMin" "dcList" "LCubeMin$CubeList;").before args sz = true := hts _ (by decide +kernel)
  have hf19 : (Cond.fieldLink RX1 19 "CubeMin" "coverList" "LCubeMin$CubeList;").before args sz = true := hts _ (by decide +kernel)
  have hf29 : (Cond.fieldLink RX1 29 "CubeMin" "kinds" "[I").before args sz = true := hts _ (by decide +kernel)
  have hf39 : (Cond.fieldLink RX1 39 "CubeMin" "inputCount" "I").before args sz = true := hts _ (by decide +kernel)
  have hl : lv_has ls 3 [(0, .ref (ad 0)), (1, .int (nI k))] := hl
  refine lv_aload_n hx hb dX1_begin_0 rfl (lv_at hl 0 rfl) ?_
  refine lv_iload_n hx hb dX1_begin_1 rfl (lv_at hl 1 rfl) ?_
  refine va_put (D := D) (ci := 1) (v := .int (nI k)) (ty := .int) (C := RX1) (T := TX1) (N := 8) hx hb hts hi0 tyX1 tyX1_ok nmX1 hown hK hP hD hS 0 rfl rfl 7 (by decide) hf39 (fun _ h9 => h9) rfl (by decide +kernel) rfl rfl (Nat.le_of_ble_eq_true rfl) dX1_begin_2 (fun H locs hP hD hS => ?_)
  have hP : va_P D vwCl [(ad 0, .inr (1, [.ref (ad 1), .ref (ad 2), .ref (ad 3), .ref (ad 4), .ref (ad 5), .ref (ad 6), .ref (ad 7), .int (nI k)])), (ad 5, .inl (kA, 256, .inl fp)), (ad 6, .inl (kA, 256, .inl fk)), (ad 7, .inl (kA, 256, .inl fh)), (ad 1, .inr (0, [.ref (ad 8), .int (nI c0)])), (ad 8, .inl (kA, 24, .inl f0)), (ad 2, .inr (0, [.ref (ad 9), .int (nI c1)])), (ad 9, .inl (kA, 24, .inl f1)), (ad 3, .inr (0, [.ref (ad 10), .int (nI c2)])), (ad 10, .inl (kA, 24, .inl f2)), (ad 4, .inr (0, [.ref (ad 11), .int (nI c3)])), (ad 11, .inl (kA, 24, .inl f3))] H := hP
  have hD : va_D Az [(ad 0, .inr (1, [.ref (ad 1), .ref (ad 2), .ref (ad 3), .ref (ad 4), .ref (ad 5), .ref (ad 6), .ref (ad 7), .int (nI k)])), (ad 5, .inl (kA, 256, .inl fp)), (ad 6, .inl (kA, 256, .inl fk)), (ad 7, .inl (kA, 256, .inl fh)), (ad 1, .inr (0, [.ref (ad 8), .int (nI c0)])), (ad 8, .inl (kA, 24, .inl f0)), (ad 2, .inr (0, [.ref (ad 9), .int (nI c1)])), (ad 9, .inl (kA, 24, .inl f1)), (ad 3, .inr (0, [.ref (ad 10), .int (nI c2)])), (ad 10, .inl (kA, 24, .inl f2)), (ad 4, .inr (0, [.ref (ad 11), .int (nI c3)])), (ad 11, .inl (kA, 24, .inl f3))] := hD
  refine lv_aload_n hx hb dX1_begin_5 rfl (lv_at hl 0 rfl) ?_
  refine va_get (D := D) (ci := 1) (v := .ref (ad 1)) (C := RX1) (T := TX1) (N := 8) hx hb hts hi0 hown hK hP 0 rfl rfl 0 (by decide) hf12 (fun _ h9 => h9) rfl dX1_begin_6 ?_
  refine vz_callM (n := 0) (As := []) (rest := []) (q0 := 0) hcf (c_X0_clear l D kA (ad 1) (ad 8) c0 f0 hc0) gX1_begin_X0_clear rfl hd_X0_clear ⟨Nat.le_of_ble_eq_true rfl, Nat.le_of_ble_eq_true rfl⟩ hK hP hD hS [4, 5] (by decide) rfl rfl rfl rfl rfl rfl rfl hl.1 rfl (Nat.le_of_ble_eq_true rfl) ⟨Nat.zero_le _, Nat.zero_le _⟩ dX1_begin_9 (fun H locs hP hD hS => ?_)
  have hP : va_P D vwCl [(ad 0, .inr (1, [.ref (ad 1), .ref (ad 2), .ref (ad 3), .ref (ad 4), .ref (ad 5), .ref (ad 6), .ref (ad 7), .int (nI k)])), (ad 5, .inl (kA, 256, .inl fp)), (ad 6, .inl (kA, 256, .inl fk)), (ad 7, .inl (kA, 256, .inl fh)), (ad 1, .inr (0, [.ref (ad 8), .int (nI 0)])), (ad 8, .inl (kA, 24, .inl f0)), (ad 2, .inr (0, [.ref (ad 9), .int (nI c1)])), (ad 9, .inl (kA, 24, .inl f1)), (ad 3, .inr (0, [.ref (ad 10), .int (nI c2)])), (ad 10, .inl (kA, 24, .inl f2)), (ad 4, .inr (0, [.ref (ad 11), .int (nI c3)])), (ad 11, .inl (kA, 24, .inl f3))] H := hP
  have hD : va_D Az [(ad 0, .inr (1, [.ref (ad 1), .ref (ad 2), .ref (ad 3), .ref (ad 4), .ref (ad 5), .ref (ad 6), .ref (ad 7), .int (nI k)])), (ad 5, .inl (kA, 256, .inl fp)), (ad 6, .inl (kA, 256, .inl fk)), (ad 7, .inl (kA, 256, .inl fh)), (ad 1, .inr (0, [.ref (ad 8), .int (nI 0)])), (ad 8, .inl (kA, 24, .inl f0)), (ad 2, .inr (0, [.ref (ad 9), .int (nI c1)])), (ad 9, .inl (kA, 24, .inl f1)), (ad 3, .inr (0, [.ref (ad 10), .int (nI c2)])), (ad 10, .inl (kA, 24, .inl f2)), (ad 4, .inr (0, [.ref (ad 11), .int (nI c3)])), (ad 11, .inl (kA, 24, .inl f3))] := hD
  refine lv_aload_n hx hb dX1_begin_12 rfl (lv_at hl 0 rfl) ?_
  refine va_get (D := D) (ci := 1) (v := .ref (ad 2)) (C := RX1) (T := TX1) (N := 8) hx hb hts hi0 hown hK hP 0 rfl rfl 1 (by decide) hf16 (fun _ h9 => h9) rfl dX1_begin_13 ?_
  refine vz_callM (n := 0) (As := []) (rest := []) (q0 := 0) hcf (c_X0_clear l D kA (ad 2) (ad 9) c1 f1 hc1) gX1_begin_X0_clear rfl hd_X0_clear ⟨Nat.le_of_ble_eq_true rfl, Nat.le_of_ble_eq_true rfl⟩ hK hP hD hS [6, 7] (by decide) rfl rfl rfl rfl rfl rfl rfl hl.1 rfl (Nat.le_of_ble_eq_true rfl) ⟨Nat.zero_le _, Nat.zero_le _⟩ dX1_begin_16 (fun H locs hP hD hS => ?_)
  have hP : va_P D vwCl [(ad 0, .inr (1, [.ref (ad 1), .ref (ad 2), .ref (ad 3), .ref (ad 4), .ref (ad 5), .ref (ad 6), .ref (ad 7), .int (nI k)])), (ad 5, .inl (kA, 256, .inl fp)), (ad 6, .inl (kA, 256, .inl fk)), (ad 7, .inl (kA, 256, .inl fh)), (ad 1, .inr (0, [.ref (ad 8), .int (nI 0)])), (ad 8, .inl (kA, 24, .inl f0)), (ad 2, .inr (0, [.ref (ad 9), .int (nI 0)])), (ad 9, .inl (kA, 24, .inl f1)), (ad 3, .inr (0, [.ref (ad 10), .int (nI c2)])), (ad 10, .inl (kA, 24, .inl f2)), (ad 4, .inr (0, [.ref (ad 11), .int (nI c3)])), (ad 11, .inl (kA, 24, .inl f3))] H := hP
  have hD : va_D Az [(ad 0, .inr (1, [.ref (ad 1), .ref (ad 2), .ref (ad 3), .ref (ad 4), .ref (ad 5), .ref (ad 6), .ref (ad 7), .int (nI k)])), (ad 5, .inl (kA, 256, .inl fp)), (ad 6, .inl (kA, 256, .inl fk)), (ad 7, .inl (kA, 256, .inl fh)), (ad 1, .inr (0, [.ref (ad 8), .int (nI 0)])), (ad 8, .inl (kA, 24, .inl f0)), (ad 2, .inr (0, [.ref (ad 9), .int (nI 0)])), (ad 9, .inl (kA, 24, .inl f1)), (ad 3, .inr (0, [.ref (ad 10), .int (nI c2)])), (ad 10, .inl (kA, 24, .inl f2)), (ad 4, .inr (0, [.ref (ad 11), .int (nI c3)])), (ad 11, .inl (kA, 24, .inl f3))] := hD
  refine lv_aload_n hx hb dX1_begin_19 rfl (lv_at hl 0 rfl) ?_
  refine va_get (D := D) (ci := 1) (v := .ref (ad 3)) (C := RX1) (T := TX1) (N := 8) hx hb hts hi0 hown hK hP 0 rfl rfl 2 (by decide) hf19 (fun _ h9 => h9) rfl dX1_begin_20 ?_
  refine vz_callM (n := 0) (As := []) (rest := []) (q0 := 0) hcf (c_X0_clear l D kA (ad 3) (ad 10) c2 f2 hc2) gX1_begin_X0_clear rfl hd_X0_clear ⟨Nat.le_of_ble_eq_true rfl, Nat.le_of_ble_eq_true rfl⟩ hK hP hD hS [8, 9] (by decide) rfl rfl rfl rfl rfl rfl rfl hl.1 rfl (Nat.le_of_ble_eq_true rfl) ⟨Nat.zero_le _, Nat.zero_le _⟩ dX1_begin_23 (fun H locs hP hD hS => ?_)
  have hP : va_P D vwCl [(ad 0, .inr (1, [.ref (ad 1), .ref (ad 2), .ref (ad 3), .ref (ad 4), .ref (ad 5), .ref (ad 6), .ref (ad 7), .int (nI k)])), (ad 5, .inl (kA, 256, .inl fp)), (ad 6, .inl (kA, 256, .inl fk)), (ad 7, .inl (kA, 256, .inl fh)), (ad 1, .inr (0, [.ref (ad 8), .int (nI 0)])), (ad 8, .inl (kA, 24, .inl f0)), (ad 2, .inr (0, [.ref (ad 9), .int (nI 0)])), (ad 9, .inl (kA, 24, .inl f1)), (ad 3, .inr (0, [.ref (ad 10), .int (nI 0)])), (ad 10, .inl (kA, 24, .inl f2)), (ad 4, .inr (0, [.ref (ad 11), .int (nI c3)])), (ad 11, .inl (kA, 24, .inl f3))] H := hP
  have hD : va_D Az [(ad 0, .inr (1, [.ref (ad 1), .ref (ad 2), .ref (ad 3), .ref (ad 4), .ref (ad 5), .ref (ad 6), .ref (ad 7), .int (nI k)])), (ad 5, .inl (kA, 256, .inl fp)), (ad 6, .inl (kA, 256, .inl fk)), (ad 7, .inl (kA, 256, .inl fh)), (ad 1, .inr (0, [.ref (ad 8), .int (nI 0)])), (ad 8, .inl (kA, 24, .inl f0)), (ad 2, .inr (0, [.ref (ad 9), .int (nI 0)])), (ad 9, .inl (kA, 24, .inl f1)), (ad 3, .inr (0, [.ref (ad 10), .int (nI 0)])), (ad 10, .inl (kA, 24, .inl f2)), (ad 4, .inr (0, [.ref (ad 11), .int (nI c3)])), (ad 11, .inl (kA, 24, .inl f3))] := hD
  refine lv_aload_n hx hb dX1_begin_26 rfl (lv_at hl 0 rfl) ?_
  refine vz_callM (n := 0) (As := []) (rest := []) (q0 := 0) hcf (c_X1_fillPointCubes l D kA ad k fp fk fh hk) gX1_begin_X1_fillPointCubes rfl hd_X1_fillPointCubes ⟨Nat.le_of_ble_eq_true rfl, Nat.le_of_ble_eq_true rfl⟩ hK hP hD hS [0, 1, 2, 3] (by decide) rfl rfl rfl rfl rfl rfl rfl hl.1 rfl (Nat.le_of_ble_eq_true rfl) ⟨Nat.zero_le _, Nat.zero_le _⟩ dX1_begin_27 (fun H locs hP hD hS => ?_)
  have hP : va_P D vwCl [(ad 0, .inr (1, [.ref (ad 1), .ref (ad 2), .ref (ad 3), .ref (ad 4), .ref (ad 5), .ref (ad 6), .ref (ad 7), .int (nI k)])), (ad 5, .inl (kA, 256, .inl (zpf fp k))), (ad 6, .inl (kA, 256, .inl fk)), (ad 7, .inl (kA, 256, .inl fh)), (ad 1, .inr (0, [.ref (ad 8), .int (nI 0)])), (ad 8, .inl (kA, 24, .inl f0)), (ad 2, .inr (0, [.ref (ad 9), .int (nI 0)])), (ad 9, .inl (kA, 24, .inl f1)), (ad 3, .inr (0, [.ref (ad 10), .int (nI 0)])), (ad 10, .inl (kA, 24, .inl f2)), (ad 4, .inr (0, [.ref (ad 11), .int (nI c3)])), (ad 11, .inl (kA, 24, .inl f3))] H := hP
  have hD : va_D Az [(ad 0, .inr (1, [.ref (ad 1), .ref (ad 2), .ref (ad 3), .ref (ad 4), .ref (ad 5), .ref (ad 6), .ref (ad 7), .int (nI k)])), (ad 5, .inl (kA, 256, .inl (zpf fp k))), (ad 6, .inl (kA, 256, .inl fk)), (ad 7, .inl (kA, 256, .inl fh)), (ad 1, .inr (0, [.ref (ad 8), .int (nI 0)])), (ad 8, .inl (kA, 24, .inl f0)), (ad 2, .inr (0, [.ref (ad 9), .int (nI 0)])), (ad 9, .inl (kA, 24, .inl f1)), (ad 3, .inr (0, [.ref (ad 10), .int (nI 0)])), (ad 10, .inl (kA, 24, .inl f2)), (ad 4, .inr (0, [.ref (ad 11), .int (nI c3)])), (ad 11, .inl (kA, 24, .inl f3))] := hD
  refine lv_iconst (v := nI 0) hx hb dX1_begin_30 (by decide) ?_
  refine lv_istore_n (lv' := [(2, .int (nI 0)), (0, .ref (ad 0)), (1, .int (nI k))]) hx hb dX1_begin_31 rfl hl (by decide) rfl (fun ls hl => ?_)
  have lp1 : ∀ (dz : Nat) (i : Nat) (g : Nat → Int32) (H : Heap) (locs : List Loc) (ls : Array Slot), (256 - i) < dz → (i ≤ 256) → (g = zmk i (fun _ => true) (nI 0) fk) → va_P D vwCl [(ad 0, .inr (1, [.ref (ad 1), .ref (ad 2), .ref (ad 3), .ref (ad 4), .ref (ad 5), .ref (ad 6), .ref (ad 7), .int (nI k)])), (ad 5, .inl (kA, 256, .inl (zpf fp k))), (ad 6, .inl (kA, 256, .inl g)), (ad 7, .inl (kA, 256, .inl fh)), (ad 1, .inr (0, [.ref (ad 8), .int (nI 0)])), (ad 8, .inl (kA, 24, .inl f0)), (ad 2, .inr (0, [.ref (ad 9), .int (nI 0)])), (ad 9, .inl (kA, 24, .inl f1)), (ad 3, .inr (0, [.ref (ad 10), .int (nI 0)])), (ad 10, .inl (kA, 24, .inl f2)), (ad 4, .inr (0, [.ref (ad 11), .int (nI c3)])), (ad 11, .inl (kA, 24, .inl f3))] H → va_D Az [(ad 0, .inr (1, [.ref (ad 1), .ref (ad 2), .ref (ad 3), .ref (ad 4), .ref (ad 5), .ref (ad 6), .ref (ad 7), .int (nI k)])), (ad 5, .inl (kA, 256, .inl (zpf fp k))), (ad 6, .inl (kA, 256, .inl g)), (ad 7, .inl (kA, 256, .inl fh)), (ad 1, .inr (0, [.ref (ad 8), .int (nI 0)])), (ad 8, .inl (kA, 24, .inl f0)), (ad 2, .inr (0, [.ref (ad 9), .int (nI 0)])), (ad 9, .inl (kA, 24, .inl f1)), (ad 3, .inr (0, [.ref (ad 10), .int (nI 0)])), (ad 10, .inl (kA, 24, .inl f2)), (ad 4, .inr (0, [.ref (ad 11), .int (nI c3)])), (ad 11, .inl (kA, 24, .inl f3))] → va_S Az sz.heap H locs → lv_has ls 3 [(0, .ref (ad 0)), (1, .int (nI k)), (2, .int (nI i))] → W pz l ez (vz_R 1 23) sz mz args below meth cz H locs 0 0 Q (F0 mz 32 ls []) := by
    intro dz
    induction dz with
    | zero => intro i g H locs ls hd h1 hg hP hD hS hl; exact absurd hd (Nat.not_lt_zero _)
    | succ dz ih1 =>
      intro i g H locs ls hd h1 hg hP hD hS hl
      refine lv_iload_n hx hb dX1_begin_32 rfl (lv_at hl 2 rfl) ?_
      refine lv_sipush (v := nI 256) hx hb dX1_begin_33 (by decide) ?_
      refine vz_cge (tgt := 52) hx hb dX1_begin_36 (by decide) (by omega) (by omega) (fun c_36 => ?_) (fun c_36 => ?_)
      · skip
        obtain rfl : i = 256 := by omega
        subst hg
        exact vz_vretM hx hb hr hlocks hQ hAe dX1_begin_52 hS hP rfl
      · skip
        refine lv_aload_n hx hb dX1_begin_39 rfl (lv_at hl 0 rfl) ?_
        refine va_get (D := D) (ci := 1) (v := .ref (ad 6)) (C := RX1) (T := TX1) (N := 8) hx hb hts hi0 hown hK hP 0 rfl rfl 5 (by decide) hf29 (fun _ h9 => h9) rfl dX1_begin_40 ?_
        refine lv_iload_n hx hb dX1_begin_43 rfl (lv_at hl 2 rfl) ?_
        refine lv_iconst (v := nI 0) hx hb dX1_begin_44 (by decide) ?_
        refine vz_ast hx hb hK hP hD hS 2 rfl (by omega) (Nat.le_of_ble_eq_true rfl) dX1_begin_45 (fun H locs hP hD hS => ?_)
        have hP : va_P D vwCl [(ad 0, .inr (1, [.ref (ad 1), .ref (ad 2), .ref (ad 3), .ref (ad 4), .ref (ad 5), .ref (ad 6), .ref (ad 7), .int (nI k)])), (ad 5, .inl (kA, 256, .inl (zpf fp k))), (ad 6, .inl (kA, 256, .inl (upd g i (nI 0)))), (ad 7, .inl (kA, 256, .inl fh)), (ad 1, .inr (0, [.ref (ad 8), .int (nI 0)])), (ad 8, .inl (kA, 24, .inl f0)), (ad 2, .inr (0, [.ref (ad 9), .int (nI 0)])), (ad 9, .inl (kA, 24, .inl f1)), (ad 3, .inr (0, [.ref (ad 10), .int (nI 0)])), (ad 10, .inl (kA, 24, .inl f2)), (ad 4, .inr (0, [.ref (ad 11), .int (nI c3)])), (ad 11, .inl (kA, 24, .inl f3))] H := hP
        have hD : va_D Az [(ad 0, .inr (1, [.ref (ad 1), .ref (ad 2), .ref (ad 3), .ref (ad 4), .ref (ad 5), .ref (ad 6), .ref (ad 7), .int (nI k)])), (ad 5, .inl (kA, 256, .inl (zpf fp k))), (ad 6, .inl (kA, 256, .inl (upd g i (nI 0)))), (ad 7, .inl (kA, 256, .inl fh)), (ad 1, .inr (0, [.ref (ad 8), .int (nI 0)])), (ad 8, .inl (kA, 24, .inl f0)), (ad 2, .inr (0, [.ref (ad 9), .int (nI 0)])), (ad 9, .inl (kA, 24, .inl f1)), (ad 3, .inr (0, [.ref (ad 10), .int (nI 0)])), (ad 10, .inl (kA, 24, .inl f2)), (ad 4, .inr (0, [.ref (ad 11), .int (nI c3)])), (ad 11, .inl (kA, 24, .inl f3))] := hD
        refine lv_iinc (v := (nI (i + 1))) (lv' := [(2, .int (nI (i + 1))), (0, .ref (ad 0)), (1, .int (nI k))]) hx hb dX1_begin_46 hl (k := 2) rfl (nI_1 _) (by decide) rfl (fun ls hl => ?_)
        refine lv_goto (tgt := 32) hx hb dX1_begin_49 (by decide) ?_
        exact ih1 (i + 1) (upd g i (nI 0)) _ _ _ (by omega) (by omega) (by rw [hg]; exact zmk_t rfl) hP (vz_D hD rfl) hS (lv_sub hl [1, 2, 0] rfl)
  exact lp1 _ 0 fk _ _ _ (Nat.lt_succ_self _) (by omega) zmk_0.symm hP (vz_D hD rfl) hS (lv_sub hl [1, 2, 0] rfl)
set_option maxHeartbeats 4000000 in
set_option maxRecDepth 100000 in
theorem c_X1_start (l : Launch) (D : va_G) (kA : ClassId) (ad : Nat → Nat) (n : Nat) (fp fk fh : Nat → Int32) (c0 c1 c2 c3 : Nat) (f0 f1 f2 f3 : Nat → Int32) (hc0 : c0 ≤ 24) (hc1 : c1 ≤ 24) (hc2 : c2 ≤ 24) (k : Nat) (hk1 : 1 ≤ k) (hk : k ≤ 8) : vz_MM l yX1_start wsX1_start 2 45 [.ref (ad 0), .int (nI k)] D kA [(ad 0, .inr (1, [.ref (ad 1), .ref (ad 2), .ref (ad 3), .ref (ad 4), .ref (ad 5), .ref (ad 6), .ref (ad 7), .int (nI n)])), (ad 5, .inl (kA, 256, .inl fp)), (ad 6, .inl (kA, 256, .inl fk)), (ad 7, .inl (kA, 256, .inl fh)), (ad 1, .inr (0, [.ref (ad 8), .int (nI c0)])), (ad 8, .inl (kA, 24, .inl f0)), (ad 2, .inr (0, [.ref (ad 9), .int (nI c1)])), (ad 9, .inl (kA, 24, .inl f1)), (ad 3, .inr (0, [.ref (ad 10), .int (nI c2)])), (ad 10, .inl (kA, 24, .inl f2)), (ad 4, .inr (0, [.ref (ad 11), .int (nI c3)])), (ad 11, .inl (kA, 24, .inl f3))] (some (.int (nI 1))) [(ad 0, .inr (1, [.ref (ad 1), .ref (ad 2), .ref (ad 3), .ref (ad 4), .ref (ad 5), .ref (ad 6), .ref (ad 7), .int (nI k)])), (ad 5, .inl (kA, 256, .inl (zpf fp k))), (ad 6, .inl (kA, 256, .inl (zmk 256 (fun _ => true) (nI 0) fk))), (ad 7, .inl (kA, 256, .inl fh)), (ad 1, .inr (0, [.ref (ad 8), .int (nI 0)])), (ad 8, .inl (kA, 24, .inl f0)), (ad 2, .inr (0, [.ref (ad 9), .int (nI 0)])), (ad 9, .inl (kA, 24, .inl f1)), (ad 3, .inr (0, [.ref (ad 10), .int (nI 0)])), (ad 10, .inl (kA, 24, .inl f2)), (ad 4, .inr (0, [.ref (ad 11), .int (nI c3)])), (ad 11, .inl (kA, 24, .inl f3))] := by
  refine vz_startM (cc := cX1_start) (maxL := 2) (ret := (some .boolean)) (own := RX1) (by decide) rfl rfl (Nat.le_of_ble_eq_true rfl) ?_
  intro pz ez sz mz below meth cz args Q ls H locs Az hargs hx hb hml hown hts hr hlocks hP hK hD hS hAe hQ hl
  have hcf : CallFix pz mz cz cX1_start 2 sz args wsX1_start RX1 := ⟨hx, hb, hml, hown, hts⟩
  have hl : lv_has ls 2 [(0, .ref (ad 0)), (1, .int (nI k))] := hl
  refine lv_iload_n hx hb dX1_start_0 rfl (lv_at hl 1 rfl) ?_
  refine lv_iconst (v := nI 1) hx hb dX1_start_1 (by decide) ?_
  refine vz_clt (tgt := 11) hx hb dX1_start_2 (by decide) (by omega) (by omega) (fun c_2 => absurd c_2 (by omega)) (fun c_2 => ?_)
  refine lv_iload_n hx hb dX1_start_5 rfl (lv_at hl 1 rfl) ?_
  refine lv_bipush (v := nI 8) hx hb dX1_start_6 (by decide) ?_
  refine vz_cle (tgt := 13) hx hb dX1_start_8 (by decide) (by omega) (by omega) (fun c_8 => ?_) (fun c_8 => absurd c_8 (by omega))
  refine lv_aload_n hx hb dX1_start_13 rfl (lv_at hl 0 rfl) ?_
  refine lv_iload_n hx hb dX1_start_14 rfl (lv_at hl 1 rfl) ?_
  refine vz_callM (n := 1) (As := [.int (nI k)]) (rest := []) (q0 := 0) hcf (c_X1_begin l D kA ad n fp fk fh c0 c1 c2 c3 f0 f1 f2 f3 hc0 hc1 hc2 k hk) gX1_start_X1_begin rfl hd_X1_begin ⟨Nat.le_of_ble_eq_true rfl, Nat.le_of_ble_eq_true rfl⟩ hK hP hD hS [0, 1, 2, 3, 4, 5, 6, 7, 8, 9, 10, 11] (by decide) rfl rfl rfl rfl rfl rfl rfl hl.1 rfl (Nat.le_of_ble_eq_true rfl) ⟨Nat.zero_le _, Nat.zero_le _⟩ dX1_start_15 (fun H locs hP hD hS => ?_)
  have hP : va_P D vwCl [(ad 0, .inr (1, [.ref (ad 1), .ref (ad 2), .ref (ad 3), .ref (ad 4), .ref (ad 5), .ref (ad 6), .ref (ad 7), .int (nI k)])), (ad 5, .inl (kA, 256, .inl (zpf fp k))), (ad 6, .inl (kA, 256, .inl (zmk 256 (fun _ => true) (nI 0) fk))), (ad 7, .inl (kA, 256, .inl fh)), (ad 1, .inr (0, [.ref (ad 8), .int (nI 0)])), (ad 8, .inl (kA, 24, .inl f0)), (ad 2, .inr (0, [.ref (ad 9), .int (nI 0)])), (ad 9, .inl (kA, 24, .inl f1)), (ad 3, .inr (0, [.ref (ad 10), .int (nI 0)])), (ad 10, .inl (kA, 24, .inl f2)), (ad 4, .inr (0, [.ref (ad 11), .int (nI c3)])), (ad 11, .inl (kA, 24, .inl f3))] H := hP
  have hD : va_D Az [(ad 0, .inr (1, [.ref (ad 1), .ref (ad 2), .ref (ad 3), .ref (ad 4), .ref (ad 5), .ref (ad 6), .ref (ad 7), .int (nI k)])), (ad 5, .inl (kA, 256, .inl (zpf fp k))), (ad 6, .inl (kA, 256, .inl (zmk 256 (fun _ => true) (nI 0) fk))), (ad 7, .inl (kA, 256, .inl fh)), (ad 1, .inr (0, [.ref (ad 8), .int (nI 0)])), (ad 8, .inl (kA, 24, .inl f0)), (ad 2, .inr (0, [.ref (ad 9), .int (nI 0)])), (ad 9, .inl (kA, 24, .inl f1)), (ad 3, .inr (0, [.ref (ad 10), .int (nI 0)])), (ad 10, .inl (kA, 24, .inl f2)), (ad 4, .inr (0, [.ref (ad 11), .int (nI c3)])), (ad 11, .inl (kA, 24, .inl f3))] := hD
  refine lv_iconst (v := nI 1) hx hb dX1_start_18 (by decide) ?_
  exact vz_iretM hx hb hr hlocks hQ hAe (rfl) dX1_start_19 rfl hS hP rfl
set_option maxHeartbeats 4000000 in
set_option maxRecDepth 100000 in
theorem c_X1_start_no (l : Launch) (D : va_G) (kA : ClassId) (ad : Nat → Nat) (n : Nat) (fp fk fh : Nat → Int32) (c0 c1 c2 c3 : Nat) (f0 f1 f2 f3 : Nat → Int32) (x : Int32) (hx1 : x < nI 1 ∨ nI 8 < x) : vz_M l yX1_start wsX1_start 0 0 [.ref (ad 0), .int x] D kA [(ad 0, .inr (1, [.ref (ad 1), .ref (ad 2), .ref (ad 3), .ref (ad 4), .ref (ad 5), .ref (ad 6), .ref (ad 7), .int (nI n)])), (ad 5, .inl (kA, 256, .inl fp)), (ad 6, .inl (kA, 256, .inl fk)), (ad 7, .inl (kA, 256, .inl fh)), (ad 1, .inr (0, [.ref (ad 8), .int (nI c0)])), (ad 8, .inl (kA, 24, .inl f0)), (ad 2, .inr (0, [.ref (ad 9), .int (nI c1)])), (ad 9, .inl (kA, 24, .inl f1)), (ad 3, .inr (0, [.ref (ad 10), .int (nI c2)])), (ad 10, .inl (kA, 24, .inl f2)), (ad 4, .inr (0, [.ref (ad 11), .int (nI c3)])), (ad 11, .inl (kA, 24, .inl f3))] (some (.int (nI 0))) := by
  refine vz_start (cc := cX1_start) (maxL := 2) (ret := (some .boolean)) (own := RX1) (by decide) rfl rfl (Nat.le_of_ble_eq_true rfl) ?_
  intro pz ez sz mz below meth cz args Q ls hargs hx hb hml hown hts hr hlocks hP hK hQ hl
  have hcf : CallFix pz mz cz cX1_start 2 sz args wsX1_start RX1 := ⟨hx, hb, hml, hown, hts⟩
  have hl : lv_has ls 2 [(0, .ref (ad 0)), (1, .int x)] := hl
  refine lv_iload_n hx hb dX1_start_0 rfl (lv_at hl 1 rfl) ?_
  refine lv_iconst (v := nI 1) hx hb dX1_start_1 (by decide) ?_
  refine lv_icmp_lt (tgt := 11) hx hb dX1_start_2 (by decide) (fun c_2 => ?_) (fun c_2 => ?_)
  · skip
    refine lv_iconst (v := nI 0) hx hb dX1_start_11 (by decide) ?_
    exact vz_iret hx hb hr hlocks hQ (rfl) dX1_start_12 rfl
  · skip
    refine lv_iload_n hx hb dX1_start_5 rfl (lv_at hl 1 rfl) ?_
    refine lv_bipush (v := nI 8) hx hb dX1_start_6 (by decide) ?_
    refine lv_icmp_le (tgt := 13) hx hb dX1_start_8 (by decide) (fun c_8 => absurd c_8 (by rcases hx1 with h | h; exact absurd h c_2; exact Int32.not_le.mpr h)) (fun c_8 => ?_)
    refine lv_iconst (v := nI 0) hx hb dX1_start_11 (by decide) ?_
    exact vz_iret hx hb hr hlocks hQ (rfl) dX1_start_12 rfl
set_option maxHeartbeats 4000000 in
set_option maxRecDepth 100000 in
theorem c_X1_inputs (l : Launch) (D : va_G) (kA : ClassId) (ad : Nat → Nat) (n : Nat) (fp fk fh : Nat → Int32) (hn : n ≤ 8) : vz_M l yX1_inputs wsX1_inputs 0 0 [.ref (ad 0)] D kA [(ad 0, .inr (1, [.ref (ad 1), .ref (ad 2), .ref (ad 3), .ref (ad 4), .ref (ad 5), .ref (ad 6), .ref (ad 7), .int (nI n)])), (ad 5, .inl (kA, 256, .inl fp)), (ad 6, .inl (kA, 256, .inl fk)), (ad 7, .inl (kA, 256, .inl fh))] (some (.int (nI n))) := by
  refine vz_start (cc := cX1_inputs) (maxL := 1) (ret := (some .int)) (own := RX1) (by decide) rfl rfl (Nat.le_of_ble_eq_true rfl) ?_
  intro pz ez sz mz below meth cz args Q ls hargs hx hb hml hown hts hr hlocks hP hK hQ hl
  have hcf : CallFix pz mz cz cX1_inputs 1 sz args wsX1_inputs RX1 := ⟨hx, hb, hml, hown, hts⟩
  have hi0 : ∀ w ∈ u_ws RX1 TX1 8, w ∈ wsX1_inputs := by decide +kernel
  have hf39 : (Cond.fieldLink RX1 39 "CubeMin" "inputCount" "I").before args sz = true := hts _ (by decide +kernel)
  have hl : lv_has ls 1 [(0, .ref (ad 0))] := hl
  refine lv_aload_n hx hb dX1_inputs_0 rfl (lv_at hl 0 rfl) ?_
  refine va_get (D := D) (ci := 1) (v := .int (nI n)) (C := RX1) (T := TX1) (N := 8) hx hb hts hi0 hown hK hP 0 rfl rfl 7 (by decide) hf39 (fun _ h9 => h9) rfl dX1_inputs_1 ?_
  exact vz_iret hx hb hr hlocks hQ (vp_nar_int _) dX1_inputs_4 rfl
set_option maxHeartbeats 4000000 in
set_option maxRecDepth 100000 in
theorem c_X1_on (l : Launch) (D : va_G) (kA : ClassId) (ad : Nat → Nat) (n : Nat) (fp fk fh : Nat → Int32) (c0 c1 c2 c3 : Nat) (f0 f1 f2 f3 : Nat → Int32) (hn : n ≤ 8) (hc2 : c2 ≤ 24) (hcl : c0 < 24) (x : Int32) (hq : (!decide (x < 0) && !decide (nI (4 ^ n) ≤ x)) = true) : vz_MM l yX1_on wsX1_on 2 45 [.ref (ad 0), .int x] D kA [(ad 0, .inr (1, [.ref (ad 1), .ref (ad 2), .ref (ad 3), .ref (ad 4), .ref (ad 5), .ref (ad 6), .ref (ad 7), .int (nI n)])), (ad 5, .inl (kA, 256, .inl fp)), (ad 6, .inl (kA, 256, .inl fk)), (ad 7, .inl (kA, 256, .inl fh)), (ad 1, .inr (0, [.ref (ad 8), .int (nI c0)])), (ad 8, .inl (kA, 24, .inl f0)), (ad 2, .inr (0, [.ref (ad 9), .int (nI c1)])), (ad 9, .inl (kA, 24, .inl f1)), (ad 3, .inr (0, [.ref (ad 10), .int (nI c2)])), (ad 10, .inl (kA, 24, .inl f2)), (ad 4, .inr (0, [.ref (ad 11), .int (nI c3)])), (ad 11, .inl (kA, 24, .inl f3))] (some (.int (nI 1))) [(ad 0, .inr (1, [.ref (ad 1), .ref (ad 2), .ref (ad 3), .ref (ad 4), .ref (ad 5), .ref (ad 6), .ref (ad 7), .int (nI n)])), (ad 5, .inl (kA, 256, .inl fp)), (ad 6, .inl (kA, 256, .inl (zmk (zN n) (fun q => decide (fk q = 0) && zX_in fp x q) (nI 1) fk))), (ad 7, .inl (kA, 256, .inl fh)), (ad 1, .inr (0, [.ref (ad 8), .int (nI (c0 + 1))])), (ad 8, .inl (kA, 24, .inl (upd f0 c0 x))), (ad 2, .inr (0, [.ref (ad 9), .int (nI c1)])), (ad 9, .inl (kA, 24, .inl f1)), (ad 3, .inr (0, [.ref (ad 10), .int (nI 0)])), (ad 10, .inl (kA, 24, .inl f2)), (ad 4, .inr (0, [.ref (ad 11), .int (nI c3)])), (ad 11, .inl (kA, 24, .inl f3))] := by
  refine vz_startM (cc := cX1_on) (maxL := 2) (ret := (some .boolean)) (own := RX1) (by decide) rfl rfl (Nat.le_of_ble_eq_true rfl) ?_
  intro pz ez sz mz below meth cz args Q ls H locs Az hargs hx hb hml hown hts hr hlocks hP hK hD hS hAe hQ hl
  have hcf : CallFix pz mz cz cX1_on 2 sz args wsX1_on RX1 := ⟨hx, hb, hml, hown, hts⟩
  have hi0 : ∀ w ∈ u_ws RX1 TX1 8, w ∈ wsX1_on := by decide +kernel
  have hf12 : (Cond.fieldLink RX1 12 "CubeMin" "onList" "LCubeMin$CubeList;").before args sz = true := hts _ (by decide +kernel)
  have hf19 : (Cond.fieldLink RX1 19 "CubeMin" "coverList" "LCubeMin$CubeList;").before args sz = true := hts _ (by decide +kernel)
  have hl : lv_has ls 2 [(0, .ref (ad 0)), (1, .int x)] := hl
  refine lv_aload_n hx hb dX1_on_0 rfl (lv_at hl 0 rfl) ?_
  refine lv_iload_n hx hb dX1_on_1 rfl (lv_at hl 1 rfl) ?_
  refine vz_callV (n := 1) (As := [.int x]) (rest := []) (q0 := 0) hcf (c_X1_isCube l D kA ad n fp fk fh hn x) gX1_on_X1_isCube rfl hd_X1_isCube ⟨Nat.le_of_ble_eq_true rfl, Nat.le_of_ble_eq_true rfl⟩ hK (hP.sub [0, 1, 2, 3] rfl) rfl rfl rfl rfl hl.1 rfl (Nat.le_of_ble_eq_true rfl) ⟨Nat.zero_le _, Nat.zero_le _⟩ dX1_on_2 ?_
  refine vz_ifeqB (tgt := 19) hx hb dX1_on_5 (by decide) (fun c_5 => absurd c_5 (by rw [hq]; decide)) (fun c_5 => ?_)
  refine lv_aload_n hx hb dX1_on_8 rfl (lv_at hl 0 rfl) ?_
  refine va_get (D := D) (ci := 1) (v := .ref (ad 1)) (C := RX1) (T := TX1) (N := 8) hx hb hts hi0 hown hK hP 0 rfl rfl 0 (by decide) hf12 (fun _ h9 => h9) rfl dX1_on_9 ?_
  refine lv_iload_n hx hb dX1_on_12 rfl (lv_at hl 1 rfl) ?_
  refine vz_callM (n := 1) (As := [.int x]) (rest := []) (q0 := 0) hcf (c_X0_append l D kA (ad 1) (ad 8) c0 f0 hcl x) gX1_on_X0_append rfl hd_X0_append ⟨Nat.le_of_ble_eq_true rfl, Nat.le_of_ble_eq_true rfl⟩ hK hP hD hS [4, 5] (by decide) rfl rfl rfl rfl rfl rfl rfl hl.1 rfl (Nat.le_of_ble_eq_true rfl) ⟨Nat.zero_le _, Nat.zero_le _⟩ dX1_on_13 (fun H locs hP hD hS => ?_)
  have hP : va_P D vwCl [(ad 0, .inr (1, [.ref (ad 1), .ref (ad 2), .ref (ad 3), .ref (ad 4), .ref (ad 5), .ref (ad 6), .ref (ad 7), .int (nI n)])), (ad 5, .inl (kA, 256, .inl fp)), (ad 6, .inl (kA, 256, .inl fk)), (ad 7, .inl (kA, 256, .inl fh)), (ad 1, .inr (0, [.ref (ad 8), .int (nI (c0 + 1))])), (ad 8, .inl (kA, 24, .inl (upd f0 c0 x))), (ad 2, .inr (0, [.ref (ad 9), .int (nI c1)])), (ad 9, .inl (kA, 24, .inl f1)), (ad 3, .inr (0, [.ref (ad 10), .int (nI c2)])), (ad 10, .inl (kA, 24, .inl f2)), (ad 4, .inr (0, [.ref (ad 11), .int (nI c3)])), (ad 11, .inl (kA, 24, .inl f3))] H := hP
  have hD : va_D Az [(ad 0, .inr (1, [.ref (ad 1), .ref (ad 2), .ref (ad 3), .ref (ad 4), .ref (ad 5), .ref (ad 6), .ref (ad 7), .int (nI n)])), (ad 5, .inl (kA, 256, .inl fp)), (ad 6, .inl (kA, 256, .inl fk)), (ad 7, .inl (kA, 256, .inl fh)), (ad 1, .inr (0, [.ref (ad 8), .int (nI (c0 + 1))])), (ad 8, .inl (kA, 24, .inl (upd f0 c0 x))), (ad 2, .inr (0, [.ref (ad 9), .int (nI c1)])), (ad 9, .inl (kA, 24, .inl f1)), (ad 3, .inr (0, [.ref (ad 10), .int (nI c2)])), (ad 10, .inl (kA, 24, .inl f2)), (ad 4, .inr (0, [.ref (ad 11), .int (nI c3)])), (ad 11, .inl (kA, 24, .inl f3))] := hD
  refine lv_if_ne (tgt := 21) hx hb dX1_on_16 (by decide) (fun c_16 => ?_) (fun c_16 => absurd c_16 (by decide))
  refine lv_aload_n hx hb dX1_on_21 rfl (lv_at hl 0 rfl) ?_
  refine lv_iload_n hx hb dX1_on_22 rfl (lv_at hl 1 rfl) ?_
  refine vz_callM (n := 1) (As := [.int x]) (rest := []) (q0 := 0) hcf (c_X1_markWanted l D kA ad n fp fk fh hn x) gX1_on_X1_markWanted rfl hd_X1_markWanted ⟨Nat.le_of_ble_eq_true rfl, Nat.le_of_ble_eq_true rfl⟩ hK hP hD hS [0, 1, 2, 3] (by decide) rfl rfl rfl rfl rfl rfl rfl hl.1 rfl (Nat.le_of_ble_eq_true rfl) ⟨Nat.zero_le _, Nat.zero_le _⟩ dX1_on_23 (fun H locs hP hD hS => ?_)
  have hP : va_P D vwCl [(ad 0, .inr (1, [.ref (ad 1), .ref (ad 2), .ref (ad 3), .ref (ad 4), .ref (ad 5), .ref (ad 6), .ref (ad 7), .int (nI n)])), (ad 5, .inl (kA, 256, .inl fp)), (ad 6, .inl (kA, 256, .inl (zmk (zN n) (fun q => decide (fk q = 0) && zX_in fp x q) (nI 1) fk))), (ad 7, .inl (kA, 256, .inl fh)), (ad 1, .inr (0, [.ref (ad 8), .int (nI (c0 + 1))])), (ad 8, .inl (kA, 24, .inl (upd f0 c0 x))), (ad 2, .inr (0, [.ref (ad 9), .int (nI c1)])), (ad 9, .inl (kA, 24, .inl f1)), (ad 3, .inr (0, [.ref (ad 10), .int (nI c2)])), (ad 10, .inl (kA, 24, .inl f2)), (ad 4, .inr (0, [.ref (ad 11), .int (nI c3)])), (ad 11, .inl (kA, 24, .inl f3))] H := hP
  have hD : va_D Az [(ad 0, .inr (1, [.ref (ad 1), .ref (ad 2), .ref (ad 3), .ref (ad 4), .ref (ad 5), .ref (ad 6), .ref (ad 7), .int (nI n)])), (ad 5, .inl (kA, 256, .inl fp)), (ad 6, .inl (kA, 256, .inl (zmk (zN n) (fun q => decide (fk q = 0) && zX_in fp x q) (nI 1) fk))), (ad 7, .inl (kA, 256, .inl fh)), (ad 1, .inr (0, [.ref (ad 8), .int (nI (c0 + 1))])), (ad 8, .inl (kA, 24, .inl (upd f0 c0 x))), (ad 2, .inr (0, [.ref (ad 9), .int (nI c1)])), (ad 9, .inl (kA, 24, .inl f1)), (ad 3, .inr (0, [.ref (ad 10), .int (nI c2)])), (ad 10, .inl (kA, 24, .inl f2)), (ad 4, .inr (0, [.ref (ad 11), .int (nI c3)])), (ad 11, .inl (kA, 24, .inl f3))] := hD
  refine lv_aload_n hx hb dX1_on_26 rfl (lv_at hl 0 rfl) ?_
  refine va_get (D := D) (ci := 1) (v := .ref (ad 3)) (C := RX1) (T := TX1) (N := 8) hx hb hts hi0 hown hK hP 0 rfl rfl 2 (by decide) hf19 (fun _ h9 => h9) rfl dX1_on_27 ?_
  refine vz_callM (n := 0) (As := []) (rest := []) (q0 := 0) hcf (c_X0_clear l D kA (ad 3) (ad 10) c2 f2 hc2) gX1_on_X0_clear rfl hd_X0_clear ⟨Nat.le_of_ble_eq_true rfl, Nat.le_of_ble_eq_true rfl⟩ hK hP hD hS [8, 9] (by decide) rfl rfl rfl rfl rfl rfl rfl hl.1 rfl (Nat.le_of_ble_eq_true rfl) ⟨Nat.zero_le _, Nat.zero_le _⟩ dX1_on_30 (fun H locs hP hD hS => ?_)
  have hP : va_P D vwCl [(ad 0, .inr (1, [.ref (ad 1), .ref (ad 2), .ref (ad 3), .ref (ad 4), .ref (ad 5), .ref (ad 6), .ref (ad 7), .int (nI n)])), (ad 5, .inl (kA, 256, .inl fp)), (ad 6, .inl (kA, 256, .inl (zmk (zN n) (fun q => decide (fk q = 0) && zX_in fp x q) (nI 1) fk))), (ad 7, .inl (kA, 256, .inl fh)), (ad 1, .inr (0, [.ref (ad 8), .int (nI (c0 + 1))])), (ad 8, .inl (kA, 24, .inl (upd f0 c0 x))), (ad 2, .inr (0, [.ref (ad 9), .int (nI c1)])), (ad 9, .inl (kA, 24, .inl f1)), (ad 3, .inr (0, [.ref (ad 10), .int (nI 0)])), (ad 10, .inl (kA, 24, .inl f2)), (ad 4, .inr (0, [.ref (ad 11), .int (nI c3)])), (ad 11, .inl (kA, 24, .inl f3))] H := hP
  have hD : va_D Az [(ad 0, .inr (1, [.ref (ad 1), .ref (ad 2), .ref (ad 3), .ref (ad 4), .ref (ad 5), .ref (ad 6), .ref (ad 7), .int (nI n)])), (ad 5, .inl (kA, 256, .inl fp)), (ad 6, .inl (kA, 256, .inl (zmk (zN n) (fun q => decide (fk q = 0) && zX_in fp x q) (nI 1) fk))), (ad 7, .inl (kA, 256, .inl fh)), (ad 1, .inr (0, [.ref (ad 8), .int (nI (c0 + 1))])), (ad 8, .inl (kA, 24, .inl (upd f0 c0 x))), (ad 2, .inr (0, [.ref (ad 9), .int (nI c1)])), (ad 9, .inl (kA, 24, .inl f1)), (ad 3, .inr (0, [.ref (ad 10), .int (nI 0)])), (ad 10, .inl (kA, 24, .inl f2)), (ad 4, .inr (0, [.ref (ad 11), .int (nI c3)])), (ad 11, .inl (kA, 24, .inl f3))] := hD
  refine lv_iconst (v := nI 1) hx hb dX1_on_33 (by decide) ?_
  exact vz_iretM hx hb hr hlocks hQ hAe (rfl) dX1_on_34 rfl hS hP rfl
set_option maxHeartbeats 4000000 in
set_option maxRecDepth 100000 in
theorem c_X1_on_no (l : Launch) (D : va_G) (kA : ClassId) (ad : Nat → Nat) (n : Nat) (fp fk fh : Nat → Int32) (c0 c1 c2 c3 : Nat) (f0 f1 f2 f3 : Nat → Int32) (hn : n ≤ 8) (x : Int32) (hq : (!decide (x < 0) && !decide (nI (4 ^ n) ≤ x)) = false ∨ c0 = 24) : vz_M l yX1_on wsX1_on 1 21 [.ref (ad 0), .int x] D kA [(ad 0, .inr (1, [.ref (ad 1), .ref (ad 2), .ref (ad 3), .ref (ad 4), .ref (ad 5), .ref (ad 6), .ref (ad 7), .int (nI n)])), (ad 5, .inl (kA, 256, .inl fp)), (ad 6, .inl (kA, 256, .inl fk)), (ad 7, .inl (kA, 256, .inl fh)), (ad 1, .inr (0, [.ref (ad 8), .int (nI c0)])), (ad 8, .inl (kA, 24, .inl f0)), (ad 2, .inr (0, [.ref (ad 9), .int (nI c1)])), (ad 9, .inl (kA, 24, .inl f1)), (ad 3, .inr (0, [.ref (ad 10), .int (nI c2)])), (ad 10, .inl (kA, 24, .inl f2)), (ad 4, .inr (0, [.ref (ad 11), .int (nI c3)])), (ad 11, .inl (kA, 24, .inl f3))] (some (.int (nI 0))) := by
  refine vz_start (cc := cX1_on) (maxL := 2) (ret := (some .boolean)) (own := RX1) (by decide) rfl rfl (Nat.le_of_ble_eq_true rfl) ?_
  intro pz ez sz mz below meth cz args Q ls hargs hx hb hml hown hts hr hlocks hP hK hQ hl
  have hcf : CallFix pz mz cz cX1_on 2 sz args wsX1_on RX1 := ⟨hx, hb, hml, hown, hts⟩
  have hi0 : ∀ w ∈ u_ws RX1 TX1 8, w ∈ wsX1_on := by decide +kernel
  have hf12 : (Cond.fieldLink RX1 12 "CubeMin" "onList" "LCubeMin$CubeList;").before args sz = true := hts _ (by decide +kernel)
  have hf19 : (Cond.fieldLink RX1 19 "CubeMin" "coverList" "LCubeMin$CubeList;").before args sz = true := hts _ (by decide +kernel)
  have hl : lv_has ls 2 [(0, .ref (ad 0)), (1, .int x)] := hl
  refine lv_aload_n hx hb dX1_on_0 rfl (lv_at hl 0 rfl) ?_
  refine lv_iload_n hx hb dX1_on_1 rfl (lv_at hl 1 rfl) ?_
  refine vz_callV (n := 1) (As := [.int x]) (rest := []) (q0 := 0) hcf (c_X1_isCube l D kA ad n fp fk fh hn x) gX1_on_X1_isCube rfl hd_X1_isCube ⟨Nat.le_of_ble_eq_true rfl, Nat.le_of_ble_eq_true rfl⟩ hK (hP.sub [0, 1, 2, 3] rfl) rfl rfl rfl rfl hl.1 rfl (Nat.le_of_ble_eq_true rfl) ⟨Nat.zero_le _, Nat.zero_le _⟩ dX1_on_2 ?_
  refine vz_ifeqB (tgt := 19) hx hb dX1_on_5 (by decide) (fun c_5 => ?_) (fun c_5 => ?_)
  · skip
    refine lv_iconst (v := nI 0) hx hb dX1_on_19 (by decide) ?_
    exact vz_iret hx hb hr hlocks hQ (rfl) dX1_on_20 rfl
  · skip
    have hcl : c0 = 24 := by rcases hq with h | h; exact absurd (h.symm.trans c_5) (by decide); exact h
    refine lv_aload_n hx hb dX1_on_8 rfl (lv_at hl 0 rfl) ?_
    refine va_get (D := D) (ci := 1) (v := .ref (ad 1)) (C := RX1) (T := TX1) (N := 8) hx hb hts hi0 hown hK hP 0 rfl rfl 0 (by decide) hf12 (fun _ h9 => h9) rfl dX1_on_9 ?_
    refine lv_iload_n hx hb dX1_on_12 rfl (lv_at hl 1 rfl) ?_
    refine vz_callV (n := 1) (As := [.int x]) (rest := []) (q0 := 0) hcf (c_X0_append_no l D kA (ad 1) (ad 8) c0 f0 hcl x) gX1_on_X0_append rfl hd_X0_append ⟨Nat.le_of_ble_eq_true rfl, Nat.le_of_ble_eq_true rfl⟩ hK (hP.sub [4, 5] rfl) rfl rfl rfl rfl hl.1 rfl (Nat.le_of_ble_eq_true rfl) ⟨Nat.zero_le _, Nat.zero_le _⟩ dX1_on_13 ?_
    refine lv_if_ne (tgt := 21) hx hb dX1_on_16 (by decide) (fun c_16 => absurd c_16 (fun h => h (by decide))) (fun c_16 => ?_)
    refine lv_iconst (v := nI 0) hx hb dX1_on_19 (by decide) ?_
    exact vz_iret hx hb hr hlocks hQ (rfl) dX1_on_20 rfl
set_option maxHeartbeats 4000000 in
set_option maxRecDepth 100000 in
theorem c_X1_dc (l : Launch) (D : va_G) (kA : ClassId) (ad : Nat → Nat) (n : Nat) (fp fk fh : Nat → Int32) (c0 c1 c2 c3 : Nat) (f0 f1 f2 f3 : Nat → Int32) (hn : n ≤ 8) (hc2 : c2 ≤ 24) (hcl : c1 < 24) (x : Int32) (hq : (!decide (x < 0) && !decide (nI (4 ^ n) ≤ x)) = true) : vz_MM l yX1_dc wsX1_dc 2 45 [.ref (ad 0), .int x] D kA [(ad 0, .inr (1, [.ref (ad 1), .ref (ad 2), .ref (ad 3), .ref (ad 4), .ref (ad 5), .ref (ad 6), .ref (ad 7), .int (nI n)])), (ad 5, .inl (kA, 256, .inl fp)), (ad 6, .inl (kA, 256, .inl fk)), (ad 7, .inl (kA, 256, .inl fh)), (ad 1, .inr (0, [.ref (ad 8), .int (nI c0)])), (ad 8, .inl (kA, 24, .inl f0)), (ad 2, .inr (0, [.ref (ad 9), .int (nI c1)])), (ad 9, .inl (kA, 24, .inl f1)), (ad 3, .inr (0, [.ref (ad 10), .int (nI c2)])), (ad 10, .inl (kA, 24, .inl f2)), (ad 4, .inr (0, [.ref (ad 11), .int (nI c3)])), (ad 11, .inl (kA, 24, .inl f3))] (some (.int (nI 1))) [(ad 0, .inr (1, [.ref (ad 1), .ref (ad 2), .ref (ad 3), .ref (ad 4), .ref (ad 5), .ref (ad 6), .ref (ad 7), .int (nI n)])), (ad 5, .inl (kA, 256, .inl fp)), (ad 6, .inl (kA, 256, .inl (zmk (zN n) (zX_in fp x) (nI 2) fk))), (ad 7, .inl (kA, 256, .inl fh)), (ad 1, .inr (0, [.ref (ad 8), .int (nI c0)])), (ad 8, .inl (kA, 24, .inl f0)), (ad 2, .inr (0, [.ref (ad 9), .int (nI (c1 + 1))])), (ad 9, .inl (kA, 24, .inl (upd f1 c1 x))), (ad 3, .inr (0, [.ref (ad 10), .int (nI 0)])), (ad 10, .inl (kA, 24, .inl f2)), (ad 4, .inr (0, [.ref (ad 11), .int (nI c3)])), (ad 11, .inl (kA, 24, .inl f3))] := by
  refine vz_startM (cc := cX1_dc) (maxL := 2) (ret := (some .boolean)) (own := RX1) (by decide) rfl rfl (Nat.le_of_ble_eq_true rfl) ?_
  intro pz ez sz mz below meth cz args Q ls H locs Az hargs hx hb hml hown hts hr hlocks hP hK hD hS hAe hQ hl
  have hcf : CallFix pz mz cz cX1_dc 2 sz args wsX1_dc RX1 := ⟨hx, hb, hml, hown, hts⟩
  have hi0 : ∀ w ∈ u_ws RX1 TX1 8, w ∈ wsX1_dc := by decide +kernel
  have hf16 : (Cond.fieldLink RX1 16 "CubeMin" "dcList" "LCubeMin$CubeList;").before args sz = true := hts _ (by decide +kernel)
  have hf19 : (Cond.fieldLink RX1 19 "CubeMin" "coverList" "LCubeMin$CubeList;").before args sz = true := hts _ (by decide +kernel)
  have hl : lv_has ls 2 [(0, .ref (ad 0)), (1, .int x)] := hl
  refine lv_aload_n hx hb dX1_dc_0 rfl (lv_at hl 0 rfl) ?_
  refine lv_iload_n hx hb dX1_dc_1 rfl (lv_at hl 1 rfl) ?_
  refine vz_callV (n := 1) (As := [.int x]) (rest := []) (q0 := 0) hcf (c_X1_isCube l D kA ad n fp fk fh hn x) gX1_dc_X1_isCube rfl hd_X1_isCube ⟨Nat.le_of_ble_eq_true rfl, Nat.le_of_ble_eq_true rfl⟩ hK (hP.sub [0, 1, 2, 3] rfl) rfl rfl rfl rfl hl.1 rfl (Nat.le_of_ble_eq_true rfl) ⟨Nat.zero_le _, Nat.zero_le _⟩ dX1_dc_2 ?_
  refine vz_ifeqB (tgt := 19) hx hb dX1_dc_5 (by decide) (fun c_5 => absurd c_5 (by rw [hq]; decide)) (fun c_5 => ?_)
  refine lv_aload_n hx hb dX1_dc_8 rfl (lv_at hl 0 rfl) ?_
  refine va_get (D := D) (ci := 1) (v := .ref (ad 2)) (C := RX1) (T := TX1) (N := 8) hx hb hts hi0 hown hK hP 0 rfl rfl 1 (by decide) hf16 (fun _ h9 => h9) rfl dX1_dc_9 ?_
  refine lv_iload_n hx hb dX1_dc_12 rfl (lv_at hl 1 rfl) ?_
  refine vz_callM (n := 1) (As := [.int x]) (rest := []) (q0 := 0) hcf (c_X0_append l D kA (ad 2) (ad 9) c1 f1 hcl x) gX1_dc_X0_append rfl hd_X0_append ⟨Nat.le_of_ble_eq_true rfl, Nat.le_of_ble_eq_true rfl⟩ hK hP hD hS [6, 7] (by decide) rfl rfl rfl rfl rfl rfl rfl hl.1 rfl (Nat.le_of_ble_eq_true rfl) ⟨Nat.zero_le _, Nat.zero_le _⟩ dX1_dc_13 (fun H locs hP hD hS => ?_)
  have hP : va_P D vwCl [(ad 0, .inr (1, [.ref (ad 1), .ref (ad 2), .ref (ad 3), .ref (ad 4), .ref (ad 5), .ref (ad 6), .ref (ad 7), .int (nI n)])), (ad 5, .inl (kA, 256, .inl fp)), (ad 6, .inl (kA, 256, .inl fk)), (ad 7, .inl (kA, 256, .inl fh)), (ad 1, .inr (0, [.ref (ad 8), .int (nI c0)])), (ad 8, .inl (kA, 24, .inl f0)), (ad 2, .inr (0, [.ref (ad 9), .int (nI (c1 + 1))])), (ad 9, .inl (kA, 24, .inl (upd f1 c1 x))), (ad 3, .inr (0, [.ref (ad 10), .int (nI c2)])), (ad 10, .inl (kA, 24, .inl f2)), (ad 4, .inr (0, [.ref (ad 11), .int (nI c3)])), (ad 11, .inl (kA, 24, .inl f3))] H := hP
  have hD : va_D Az [(ad 0, .inr (1, [.ref (ad 1), .ref (ad 2), .ref (ad 3), .ref (ad 4), .ref (ad 5), .ref (ad 6), .ref (ad 7), .int (nI n)])), (ad 5, .inl (kA, 256, .inl fp)), (ad 6, .inl (kA, 256, .inl fk)), (ad 7, .inl (kA, 256, .inl fh)), (ad 1, .inr (0, [.ref (ad 8), .int (nI c0)])), (ad 8, .inl (kA, 24, .inl f0)), (ad 2, .inr (0, [.ref (ad 9), .int (nI (c1 + 1))])), (ad 9, .inl (kA, 24, .inl (upd f1 c1 x))), (ad 3, .inr (0, [.ref (ad 10), .int (nI c2)])), (ad 10, .inl (kA, 24, .inl f2)), (ad 4, .inr (0, [.ref (ad 11), .int (nI c3)])), (ad 11, .inl (kA, 24, .inl f3))] := hD
  refine lv_if_ne (tgt := 21) hx hb dX1_dc_16 (by decide) (fun c_16 => ?_) (fun c_16 => absurd c_16 (by decide))
  refine lv_aload_n hx hb dX1_dc_21 rfl (lv_at hl 0 rfl) ?_
  refine lv_iload_n hx hb dX1_dc_22 rfl (lv_at hl 1 rfl) ?_
  refine vz_callM (n := 1) (As := [.int x]) (rest := []) (q0 := 0) hcf (c_X1_markIndifferent l D kA ad n fp fk fh hn x) gX1_dc_X1_markIndifferent rfl hd_X1_markIndifferent ⟨Nat.le_of_ble_eq_true rfl, Nat.le_of_ble_eq_true rfl⟩ hK hP hD hS [0, 1, 2, 3] (by decide) rfl rfl rfl rfl rfl rfl rfl hl.1 rfl (Nat.le_of_ble_eq_true rfl) ⟨Nat.zero_le _, Nat.zero_le _⟩ dX1_dc_23 (fun H locs hP hD hS => ?_)
  have hP : va_P D vwCl [(ad 0, .inr (1, [.ref (ad 1), .ref (ad 2), .ref (ad 3), .ref (ad 4), .ref (ad 5), .ref (ad 6), .ref (ad 7), .int (nI n)])), (ad 5, .inl (kA, 256, .inl fp)), (ad 6, .inl (kA, 256, .inl (zmk (zN n) (zX_in fp x) (nI 2) fk))), (ad 7, .inl (kA, 256, .inl fh)), (ad 1, .inr (0, [.ref (ad 8), .int (nI c0)])), (ad 8, .inl (kA, 24, .inl f0)), (ad 2, .inr (0, [.ref (ad 9), .int (nI (c1 + 1))])), (ad 9, .inl (kA, 24, .inl (upd f1 c1 x))), (ad 3, .inr (0, [.ref (ad 10), .int (nI c2)])), (ad 10, .inl (kA, 24, .inl f2)), (ad 4, .inr (0, [.ref (ad 11), .int (nI c3)])), (ad 11, .inl (kA, 24, .inl f3))] H := hP
  have hD : va_D Az [(ad 0, .inr (1, [.ref (ad 1), .ref (ad 2), .ref (ad 3), .ref (ad 4), .ref (ad 5), .ref (ad 6), .ref (ad 7), .int (nI n)])), (ad 5, .inl (kA, 256, .inl fp)), (ad 6, .inl (kA, 256, .inl (zmk (zN n) (zX_in fp x) (nI 2) fk))), (ad 7, .inl (kA, 256, .inl fh)), (ad 1, .inr (0, [.ref (ad 8), .int (nI c0)])), (ad 8, .inl (kA, 24, .inl f0)), (ad 2, .inr (0, [.ref (ad 9), .int (nI (c1 + 1))])), (ad 9, .inl (kA, 24, .inl (upd f1 c1 x))), (ad 3, .inr (0, [.ref (ad 10), .int (nI c2)])), (ad 10, .inl (kA, 24, .inl f2)), (ad 4, .inr (0, [.ref (ad 11), .int (nI c3)])), (ad 11, .inl (kA, 24, .inl f3))] := hD
  refine lv_aload_n hx hb dX1_dc_26 rfl (lv_at hl 0 rfl) ?_
  refine va_get (D := D) (ci := 1) (v := .ref (ad 3)) (C := RX1) (T := TX1) (N := 8) hx hb hts hi0 hown hK hP 0 rfl rfl 2 (by decide) hf19 (fun _ h9 => h9) rfl dX1_dc_27 ?_
  refine vz_callM (n := 0) (As := []) (rest := []) (q0 := 0) hcf (c_X0_clear l D kA (ad 3) (ad 10) c2 f2 hc2) gX1_dc_X0_clear rfl hd_X0_clear ⟨Nat.le_of_ble_eq_true rfl, Nat.le_of_ble_eq_true rfl⟩ hK hP hD hS [8, 9] (by decide) rfl rfl rfl rfl rfl rfl rfl hl.1 rfl (Nat.le_of_ble_eq_true rfl) ⟨Nat.zero_le _, Nat.zero_le _⟩ dX1_dc_30 (fun H locs hP hD hS => ?_)
  have hP : va_P D vwCl [(ad 0, .inr (1, [.ref (ad 1), .ref (ad 2), .ref (ad 3), .ref (ad 4), .ref (ad 5), .ref (ad 6), .ref (ad 7), .int (nI n)])), (ad 5, .inl (kA, 256, .inl fp)), (ad 6, .inl (kA, 256, .inl (zmk (zN n) (zX_in fp x) (nI 2) fk))), (ad 7, .inl (kA, 256, .inl fh)), (ad 1, .inr (0, [.ref (ad 8), .int (nI c0)])), (ad 8, .inl (kA, 24, .inl f0)), (ad 2, .inr (0, [.ref (ad 9), .int (nI (c1 + 1))])), (ad 9, .inl (kA, 24, .inl (upd f1 c1 x))), (ad 3, .inr (0, [.ref (ad 10), .int (nI 0)])), (ad 10, .inl (kA, 24, .inl f2)), (ad 4, .inr (0, [.ref (ad 11), .int (nI c3)])), (ad 11, .inl (kA, 24, .inl f3))] H := hP
  have hD : va_D Az [(ad 0, .inr (1, [.ref (ad 1), .ref (ad 2), .ref (ad 3), .ref (ad 4), .ref (ad 5), .ref (ad 6), .ref (ad 7), .int (nI n)])), (ad 5, .inl (kA, 256, .inl fp)), (ad 6, .inl (kA, 256, .inl (zmk (zN n) (zX_in fp x) (nI 2) fk))), (ad 7, .inl (kA, 256, .inl fh)), (ad 1, .inr (0, [.ref (ad 8), .int (nI c0)])), (ad 8, .inl (kA, 24, .inl f0)), (ad 2, .inr (0, [.ref (ad 9), .int (nI (c1 + 1))])), (ad 9, .inl (kA, 24, .inl (upd f1 c1 x))), (ad 3, .inr (0, [.ref (ad 10), .int (nI 0)])), (ad 10, .inl (kA, 24, .inl f2)), (ad 4, .inr (0, [.ref (ad 11), .int (nI c3)])), (ad 11, .inl (kA, 24, .inl f3))] := hD
  refine lv_iconst (v := nI 1) hx hb dX1_dc_33 (by decide) ?_
  exact vz_iretM hx hb hr hlocks hQ hAe (rfl) dX1_dc_34 rfl hS hP rfl
set_option maxHeartbeats 4000000 in
set_option maxRecDepth 100000 in
theorem c_X1_dc_no (l : Launch) (D : va_G) (kA : ClassId) (ad : Nat → Nat) (n : Nat) (fp fk fh : Nat → Int32) (c0 c1 c2 c3 : Nat) (f0 f1 f2 f3 : Nat → Int32) (hn : n ≤ 8) (x : Int32) (hq : (!decide (x < 0) && !decide (nI (4 ^ n) ≤ x)) = false ∨ c1 = 24) : vz_M l yX1_dc wsX1_dc 1 21 [.ref (ad 0), .int x] D kA [(ad 0, .inr (1, [.ref (ad 1), .ref (ad 2), .ref (ad 3), .ref (ad 4), .ref (ad 5), .ref (ad 6), .ref (ad 7), .int (nI n)])), (ad 5, .inl (kA, 256, .inl fp)), (ad 6, .inl (kA, 256, .inl fk)), (ad 7, .inl (kA, 256, .inl fh)), (ad 1, .inr (0, [.ref (ad 8), .int (nI c0)])), (ad 8, .inl (kA, 24, .inl f0)), (ad 2, .inr (0, [.ref (ad 9), .int (nI c1)])), (ad 9, .inl (kA, 24, .inl f1)), (ad 3, .inr (0, [.ref (ad 10), .int (nI c2)])), (ad 10, .inl (kA, 24, .inl f2)), (ad 4, .inr (0, [.ref (ad 11), .int (nI c3)])), (ad 11, .inl (kA, 24, .inl f3))] (some (.int (nI 0))) := by
  refine vz_start (cc := cX1_dc) (maxL := 2) (ret := (some .boolean)) (own := RX1) (by decide) rfl rfl (Nat.le_of_ble_eq_true rfl) ?_
  intro pz ez sz mz below meth cz args Q ls hargs hx hb hml hown hts hr hlocks hP hK hQ hl
  have hcf : CallFix pz mz cz cX1_dc 2 sz args wsX1_dc RX1 := ⟨hx, hb, hml, hown, hts⟩
  have hi0 : ∀ w ∈ u_ws RX1 TX1 8, w ∈ wsX1_dc := by decide +kernel
  have hf16 : (Cond.fieldLink RX1 16 "CubeMin" "dcList" "LCubeMin$CubeList;").before args sz = true := hts _ (by decide +kernel)
  have hf19 : (Cond.fieldLink RX1 19 "CubeMin" "coverList" "LCubeMin$CubeList;").before args sz = true := hts _ (by decide +kernel)
  have hl : lv_has ls 2 [(0, .ref (ad 0)), (1, .int x)] := hl
  refine lv_aload_n hx hb dX1_dc_0 rfl (lv_at hl 0 rfl) ?_
  refine lv_iload_n hx hb dX1_dc_1 rfl (lv_at hl 1 rfl) ?_
  refine vz_callV (n := 1) (As := [.int x]) (rest := []) (q0 := 0) hcf (c_X1_isCube l D kA ad n fp fk fh hn x) gX1_dc_X1_isCube rfl hd_X1_isCube ⟨Nat.le_of_ble_eq_true rfl, Nat.le_of_ble_eq_true rfl⟩ hK (hP.sub [0, 1, 2, 3] rfl) rfl rfl rfl rfl hl.1 rfl (Nat.le_of_ble_eq_true rfl) ⟨Nat.zero_le _, Nat.zero_le _⟩ dX1_dc_2 ?_
  refine vz_ifeqB (tgt := 19) hx hb dX1_dc_5 (by decide) (fun c_5 => ?_) (fun c_5 => ?_)
  · skip
    refine lv_iconst (v := nI 0) hx hb dX1_dc_19 (by decide) ?_
    exact vz_iret hx hb hr hlocks hQ (rfl) dX1_dc_20 rfl
  · skip
    have hcl : c1 = 24 := by rcases hq with h | h; exact absurd (h.symm.trans c_5) (by decide); exact h
    refine lv_aload_n hx hb dX1_dc_8 rfl (lv_at hl 0 rfl) ?_
    refine va_get (D := D) (ci := 1) (v := .ref (ad 2)) (C := RX1) (T := TX1) (N := 8) hx hb hts hi0 hown hK hP 0 rfl rfl 1 (by decide) hf16 (fun _ h9 => h9) rfl dX1_dc_9 ?_
    refine lv_iload_n hx hb dX1_dc_12 rfl (lv_at hl 1 rfl) ?_
    refine vz_callV (n := 1) (As := [.int x]) (rest := []) (q0 := 0) hcf (c_X0_append_no l D kA (ad 2) (ad 9) c1 f1 hcl x) gX1_dc_X0_append rfl hd_X0_append ⟨Nat.le_of_ble_eq_true rfl, Nat.le_of_ble_eq_true rfl⟩ hK (hP.sub [6, 7] rfl) rfl rfl rfl rfl hl.1 rfl (Nat.le_of_ble_eq_true rfl) ⟨Nat.zero_le _, Nat.zero_le _⟩ dX1_dc_13 ?_
    refine lv_if_ne (tgt := 21) hx hb dX1_dc_16 (by decide) (fun c_16 => absurd c_16 (fun h => h (by decide))) (fun c_16 => ?_)
    refine lv_iconst (v := nI 0) hx hb dX1_dc_19 (by decide) ?_
    exact vz_iret hx hb hr hlocks hQ (rfl) dX1_dc_20 rfl
set_option maxHeartbeats 4000000 in
set_option maxRecDepth 100000 in
theorem c_X1_listAt0 (l : Launch) (D : va_G) (kA : ClassId) (ad : Nat → Nat) (n : Nat) (fp fk fh : Nat → Int32) (hn : n ≤ 8) : vz_M l yX1_listAt wsX1_listAt 0 0 [.ref (ad 0), .int (nI 0)] D kA [(ad 0, .inr (1, [.ref (ad 1), .ref (ad 2), .ref (ad 3), .ref (ad 4), .ref (ad 5), .ref (ad 6), .ref (ad 7), .int (nI n)])), (ad 5, .inl (kA, 256, .inl fp)), (ad 6, .inl (kA, 256, .inl fk)), (ad 7, .inl (kA, 256, .inl fh))] (some (.ref (ad 1))) := by
  refine vz_start (cc := cX1_listAt) (maxL := 2) (ret := (some (.object "CubeMin$CubeList"))) (own := RX1) (by decide) rfl rfl (Nat.le_of_ble_eq_true rfl) ?_
  intro pz ez sz mz below meth cz args Q ls hargs hx hb hml hown hts hr hlocks hP hK hQ hl
  have hcf : CallFix pz mz cz cX1_listAt 2 sz args wsX1_listAt RX1 := ⟨hx, hb, hml, hown, hts⟩
  have hi0 : ∀ w ∈ u_ws RX1 TX1 8, w ∈ wsX1_listAt := by decide +kernel
  have hf12 : (Cond.fieldLink RX1 12 "CubeMin" "onList" "LCubeMin$CubeList;").before args sz = true := hts _ (by decide +kernel)
  have hf16 : (Cond.fieldLink RX1 16 "CubeMin" "dcList" "LCubeMin$CubeList;").before args sz = true := hts _ (by decide +kernel)
  have hf19 : (Cond.fieldLink RX1 19 "CubeMin" "coverList" "LCubeMin$CubeList;").before args sz = true := hts _ (by decide +kernel)
  have hl : lv_has ls 2 [(0, .ref (ad 0)), (1, .int (nI 0))] := hl
  refine lv_iload_n hx hb dX1_listAt_0 rfl (lv_at hl 1 rfl) ?_
  refine lv_tableIn (off := 27) (tgt := 28) hx hb dX1_listAt_1 (by decide) (by decide) (by decide) (by decide) ?_
  refine lv_aload_n hx hb dX1_listAt_28 rfl (lv_at hl 0 rfl) ?_
  refine va_get (D := D) (ci := 1) (v := .ref (ad 1)) (C := RX1) (T := TX1) (N := 8) hx hb hts hi0 hown hK hP 0 rfl rfl 0 (by decide) hf12 (fun _ h9 => h9) rfl dX1_listAt_29 ?_
  exact vz_aret hx hb hr hlocks hQ (Or.inl ⟨_, rfl⟩) (Or.inr ⟨_, rfl⟩) dX1_listAt_32 rfl
set_option maxHeartbeats 4000000 in
set_option maxRecDepth 100000 in
theorem c_X1_listAt1 (l : Launch) (D : va_G) (kA : ClassId) (ad : Nat → Nat) (n : Nat) (fp fk fh : Nat → Int32) (hn : n ≤ 8) : vz_M l yX1_listAt wsX1_listAt 0 0 [.ref (ad 0), .int (nI 1)] D kA [(ad 0, .inr (1, [.ref (ad 1), .ref (ad 2), .ref (ad 3), .ref (ad 4), .ref (ad 5), .ref (ad 6), .ref (ad 7), .int (nI n)])), (ad 5, .inl (kA, 256, .inl fp)), (ad 6, .inl (kA, 256, .inl fk)), (ad 7, .inl (kA, 256, .inl fh))] (some (.ref (ad 2))) := by
  refine vz_start (cc := cX1_listAt) (maxL := 2) (ret := (some (.object "CubeMin$CubeList"))) (own := RX1) (by decide) rfl rfl (Nat.le_of_ble_eq_true rfl) ?_
  intro pz ez sz mz below meth cz args Q ls hargs hx hb hml hown hts hr hlocks hP hK hQ hl
  have hcf : CallFix pz mz cz cX1_listAt 2 sz args wsX1_listAt RX1 := ⟨hx, hb, hml, hown, hts⟩
  have hi0 : ∀ w ∈ u_ws RX1 TX1 8, w ∈ wsX1_listAt := by decide +kernel
  have hf12 : (Cond.fieldLink RX1 12 "CubeMin" "onList" "LCubeMin$CubeList;").before args sz = true := hts _ (by decide +kernel)
  have hf16 : (Cond.fieldLink RX1 16 "CubeMin" "dcList" "LCubeMin$CubeList;").before args sz = true := hts _ (by decide +kernel)
  have hf19 : (Cond.fieldLink RX1 19 "CubeMin" "coverList" "LCubeMin$CubeList;").before args sz = true := hts _ (by decide +kernel)
  have hl : lv_has ls 2 [(0, .ref (ad 0)), (1, .int (nI 1))] := hl
  refine lv_iload_n hx hb dX1_listAt_0 rfl (lv_at hl 1 rfl) ?_
  refine lv_tableIn (off := 32) (tgt := 33) hx hb dX1_listAt_1 (by decide) (by decide) (by decide) (by decide) ?_
  refine lv_aload_n hx hb dX1_listAt_33 rfl (lv_at hl 0 rfl) ?_
  refine va_get (D := D) (ci := 1) (v := .ref (ad 2)) (C := RX1) (T := TX1) (N := 8) hx hb hts hi0 hown hK hP 0 rfl rfl 1 (by decide) hf16 (fun _ h9 => h9) rfl dX1_listAt_34 ?_
  exact vz_aret hx hb hr hlocks hQ (Or.inl ⟨_, rfl⟩) (Or.inr ⟨_, rfl⟩) dX1_listAt_37 rfl
set_option maxHeartbeats 4000000 in
set_option maxRecDepth 100000 in
theorem c_X1_listAt2 (l : Launch) (D : va_G) (kA : ClassId) (ad : Nat → Nat) (n : Nat) (fp fk fh : Nat → Int32) (hn : n ≤ 8) : vz_M l yX1_listAt wsX1_listAt 0 0 [.ref (ad 0), .int (nI 2)] D kA [(ad 0, .inr (1, [.ref (ad 1), .ref (ad 2), .ref (ad 3), .ref (ad 4), .ref (ad 5), .ref (ad 6), .ref (ad 7), .int (nI n)])), (ad 5, .inl (kA, 256, .inl fp)), (ad 6, .inl (kA, 256, .inl fk)), (ad 7, .inl (kA, 256, .inl fh))] (some (.ref (ad 3))) := by
  refine vz_start (cc := cX1_listAt) (maxL := 2) (ret := (some (.object "CubeMin$CubeList"))) (own := RX1) (by decide) rfl rfl (Nat.le_of_ble_eq_true rfl) ?_
  intro pz ez sz mz below meth cz args Q ls hargs hx hb hml hown hts hr hlocks hP hK hQ hl
  have hcf : CallFix pz mz cz cX1_listAt 2 sz args wsX1_listAt RX1 := ⟨hx, hb, hml, hown, hts⟩
  have hi0 : ∀ w ∈ u_ws RX1 TX1 8, w ∈ wsX1_listAt := by decide +kernel
  have hf12 : (Cond.fieldLink RX1 12 "CubeMin" "onList" "LCubeMin$CubeList;").before args sz = true := hts _ (by decide +kernel)
  have hf16 : (Cond.fieldLink RX1 16 "CubeMin" "dcList" "LCubeMin$CubeList;").before args sz = true := hts _ (by decide +kernel)
  have hf19 : (Cond.fieldLink RX1 19 "CubeMin" "coverList" "LCubeMin$CubeList;").before args sz = true := hts _ (by decide +kernel)
  have hl : lv_has ls 2 [(0, .ref (ad 0)), (1, .int (nI 2))] := hl
  refine lv_iload_n hx hb dX1_listAt_0 rfl (lv_at hl 1 rfl) ?_
  refine lv_tableIn (off := 37) (tgt := 38) hx hb dX1_listAt_1 (by decide) (by decide) (by decide) (by decide) ?_
  refine lv_aload_n hx hb dX1_listAt_38 rfl (lv_at hl 0 rfl) ?_
  refine va_get (D := D) (ci := 1) (v := .ref (ad 3)) (C := RX1) (T := TX1) (N := 8) hx hb hts hi0 hown hK hP 0 rfl rfl 2 (by decide) hf19 (fun _ h9 => h9) rfl dX1_listAt_39 ?_
  exact vz_aret hx hb hr hlocks hQ (Or.inl ⟨_, rfl⟩) (Or.inr ⟨_, rfl⟩) dX1_listAt_42 rfl
set_option maxHeartbeats 4000000 in
set_option maxRecDepth 100000 in
theorem c_X1_listAt3 (l : Launch) (D : va_G) (kA : ClassId) (ad : Nat → Nat) (n : Nat) (fp fk fh : Nat → Int32) (hn : n ≤ 8) (x : Int32) (hx3 : x.toInt < 0 ∨ 2 < x.toInt) : vz_M l yX1_listAt wsX1_listAt 0 0 [.ref (ad 0), .int x] D kA [(ad 0, .inr (1, [.ref (ad 1), .ref (ad 2), .ref (ad 3), .ref (ad 4), .ref (ad 5), .ref (ad 6), .ref (ad 7), .int (nI n)])), (ad 5, .inl (kA, 256, .inl fp)), (ad 6, .inl (kA, 256, .inl fk)), (ad 7, .inl (kA, 256, .inl fh))] (some (.null)) := by
  refine vz_start (cc := cX1_listAt) (maxL := 2) (ret := (some (.object "CubeMin$CubeList"))) (own := RX1) (by decide) rfl rfl (Nat.le_of_ble_eq_true rfl) ?_
  intro pz ez sz mz below meth cz args Q ls hargs hx hb hml hown hts hr hlocks hP hK hQ hl
  have hcf : CallFix pz mz cz cX1_listAt 2 sz args wsX1_listAt RX1 := ⟨hx, hb, hml, hown, hts⟩
  have hi0 : ∀ w ∈ u_ws RX1 TX1 8, w ∈ wsX1_listAt := by decide +kernel
  have hf12 : (Cond.fieldLink RX1 12 "CubeMin" "onList" "LCubeMin$CubeList;").before args sz = true := hts _ (by decide +kernel)
  have hf16 : (Cond.fieldLink RX1 16 "CubeMin" "dcList" "LCubeMin$CubeList;").before args sz = true := hts _ (by decide +kernel)
  have hf19 : (Cond.fieldLink RX1 19 "CubeMin" "coverList" "LCubeMin$CubeList;").before args sz = true := hts _ (by decide +kernel)
  have hl : lv_has ls 2 [(0, .ref (ad 0)), (1, .int x)] := hl
  refine lv_iload_n hx hb dX1_listAt_0 rfl (lv_at hl 1 rfl) ?_
  refine lv_tableOut (tgt := 43) hx hb dX1_listAt_1 hx3 (by decide) ?_
  refine lv_null hx hb dX1_listAt_43 ?_
  exact vz_aret hx hb hr hlocks hQ (Or.inl ⟨_, rfl⟩) (Or.inl rfl) dX1_listAt_44 rfl
set_option maxHeartbeats 4000000 in
set_option maxRecDepth 100000 in
theorem c_X1_size0 (l : Launch) (D : va_G) (kA : ClassId) (ad : Nat → Nat) (n : Nat) (fp fk fh : Nat → Int32) (c0 c1 c2 c3 : Nat) (f0 f1 f2 f3 : Nat → Int32) (hn : n ≤ 8) (hc : c0 ≤ 24) : vz_M l yX1_size wsX1_size 1 21 [.ref (ad 0), .int (nI 0)] D kA [(ad 0, .inr (1, [.ref (ad 1), .ref (ad 2), .ref (ad 3), .ref (ad 4), .ref (ad 5), .ref (ad 6), .ref (ad 7), .int (nI n)])), (ad 5, .inl (kA, 256, .inl fp)), (ad 6, .inl (kA, 256, .inl fk)), (ad 7, .inl (kA, 256, .inl fh)), (ad 1, .inr (0, [.ref (ad 8), .int (nI c0)])), (ad 8, .inl (kA, 24, .inl f0)), (ad 2, .inr (0, [.ref (ad 9), .int (nI c1)])), (ad 9, .inl (kA, 24, .inl f1)), (ad 3, .inr (0, [.ref (ad 10), .int (nI c2)])), (ad 10, .inl (kA, 24, .inl f2)), (ad 4, .inr (0, [.ref (ad 11), .int (nI c3)])), (ad 11, .inl (kA, 24, .inl f3))] (some (.int (nI c0))) := by
  refine vz_start (cc := cX1_size) (maxL := 3) (ret := (some .int)) (own := RX1) (by decide) rfl rfl (Nat.le_of_ble_eq_true rfl) ?_
  intro pz ez sz mz below meth cz args Q ls hargs hx hb hml hown hts hr hlocks hP hK hQ hl
  have hcf : CallFix pz mz cz cX1_size 3 sz args wsX1_size RX1 := ⟨hx, hb, hml, hown, hts⟩
  have hl : lv_has ls 3 [(0, .ref (ad 0)), (1, .int (nI 0))] := hl
  refine lv_aload_n hx hb dX1_size_0 rfl (lv_at hl 0 rfl) ?_
  refine lv_iload_n hx hb dX1_size_1 rfl (lv_at hl 1 rfl) ?_
  refine vz_callV (n := 1) (As := [.int (nI 0)]) (rest := []) (q0 := 0) hcf (c_X1_listAt0 l D kA ad n fp fk fh hn) gX1_size_X1_listAt rfl hd_X1_listAt ⟨Nat.le_of_ble_eq_true rfl, Nat.le_of_ble_eq_true rfl⟩ hK (hP.sub [0, 1, 2, 3] rfl) rfl rfl rfl rfl hl.1 rfl (Nat.le_of_ble_eq_true rfl) ⟨Nat.zero_le _, Nat.zero_le _⟩ dX1_size_2 ?_
  refine lv_astore_n (lv' := [(2, .ref (ad 1)), (0, .ref (ad 0)), (1, .int (nI 0))]) hx hb dX1_size_5 rfl hl (by decide) rfl (fun ls hl => ?_)
  refine lv_aload_n hx hb dX1_size_6 rfl (lv_at hl 0 rfl) ?_
  refine lv_ifnonnull (tgt := 14) hx hb dX1_size_7 (by decide) ?_
  refine lv_aload_n hx hb dX1_size_14 rfl (lv_at hl 0 rfl) ?_
  refine vz_callV (n := 0) (As := []) (rest := []) (q0 := 0) hcf (c_X0_length l D kA (ad 1) (ad 8) c0 f0 hc) gX1_size_X0_length rfl hd_X0_length ⟨Nat.le_of_ble_eq_true rfl, Nat.le_of_ble_eq_true rfl⟩ hK (hP.sub [4, 5] rfl) rfl rfl rfl rfl hl.1 rfl (Nat.le_of_ble_eq_true rfl) ⟨Nat.zero_le _, Nat.zero_le _⟩ dX1_size_15 ?_
  exact vz_iret hx hb hr hlocks hQ (vp_nar_int _) dX1_size_18 rfl
set_option maxHeartbeats 4000000 in
set_option maxRecDepth 100000 in
theorem c_X1_cube0 (l : Launch) (D : va_G) (kA : ClassId) (ad : Nat → Nat) (n : Nat) (fp fk fh : Nat → Int32) (c0 c1 c2 c3 : Nat) (f0 f1 f2 f3 : Nat → Int32) (hn : n ≤ 8) (hc : c0 ≤ 24) (z : Int32) : vz_M l yX1_cube wsX1_cube 1 21 [.ref (ad 0), .int (nI 0), .int z] D kA [(ad 0, .inr (1, [.ref (ad 1), .ref (ad 2), .ref (ad 3), .ref (ad 4), .ref (ad 5), .ref (ad 6), .ref (ad 7), .int (nI n)])), (ad 5, .inl (kA, 256, .inl fp)), (ad 6, .inl (kA, 256, .inl fk)), (ad 7, .inl (kA, 256, .inl fh)), (ad 1, .inr (0, [.ref (ad 8), .int (nI c0)])), (ad 8, .inl (kA, 24, .inl f0)), (ad 2, .inr (0, [.ref (ad 9), .int (nI c1)])), (ad 9, .inl (kA, 24, .inl f1)), (ad 3, .inr (0, [.ref (ad 10), .int (nI c2)])), (ad 10, .inl (kA, 24, .inl f2)), (ad 4, .inr (0, [.ref (ad 11), .int (nI c3)])), (ad 11, .inl (kA, 24, .inl f3))] (some (.int (zat c0 f0 z))) := by
  refine vz_start (cc := cX1_cube) (maxL := 4) (ret := (some .int)) (own := RX1) (by decide) rfl rfl (Nat.le_of_ble_eq_true rfl) ?_
  intro pz ez sz mz below meth cz args Q ls hargs hx hb hml hown hts hr hlocks hP hK hQ hl
  have hcf : CallFix pz mz cz cX1_cube 4 sz args wsX1_cube RX1 := ⟨hx, hb, hml, hown, hts⟩
  have hl : lv_has ls 4 [(0, .ref (ad 0)), (1, .int (nI 0)), (2, .int z)] := hl
  refine lv_aload_n hx hb dX1_cube_0 rfl (lv_at hl 0 rfl) ?_
  refine lv_iload_n hx hb dX1_cube_1 rfl (lv_at hl 1 rfl) ?_
  refine vz_callV (n := 1) (As := [.int (nI 0)]) (rest := []) (q0 := 0) hcf (c_X1_listAt0 l D kA ad n fp fk fh hn) gX1_cube_X1_listAt rfl hd_X1_listAt ⟨Nat.le_of_ble_eq_true rfl, Nat.le_of_ble_eq_true rfl⟩ hK (hP.sub [0, 1, 2, 3] rfl) rfl rfl rfl rfl hl.1 rfl (Nat.le_of_ble_eq_true rfl) ⟨Nat.zero_le _, Nat.zero_le _⟩ dX1_cube_2 ?_
  refine lv_astore_n (lv' := [(3, .ref (ad 1)), (0, .ref (ad 0)), (1, .int (nI 0)), (2, .int z)]) hx hb dX1_cube_5 rfl hl (by decide) rfl (fun ls hl => ?_)
  refine lv_aload_n hx hb dX1_cube_6 rfl (lv_at hl 0 rfl) ?_
  refine lv_ifnonnull (tgt := 14) hx hb dX1_cube_7 (by decide) ?_
  refine lv_aload_n hx hb dX1_cube_14 rfl (lv_at hl 0 rfl) ?_
  refine lv_iload_n hx hb dX1_cube_15 rfl (lv_at hl 3 rfl) ?_
  refine vz_callV (n := 1) (As := [.int z]) (rest := []) (q0 := 0) hcf (c_X0_at l D kA (ad 1) (ad 8) c0 f0 hc z) gX1_cube_X0_at rfl hd_X0_at ⟨Nat.le_of_ble_eq_true rfl, Nat.le_of_ble_eq_true rfl⟩ hK (hP.sub [4, 5] rfl) rfl rfl rfl rfl hl.1 rfl (Nat.le_of_ble_eq_true rfl) ⟨Nat.zero_le _, Nat.zero_le _⟩ dX1_cube_16 ?_
  exact vz_iret hx hb hr hlocks hQ (vp_nar_int _) dX1_cube_19 rfl
set_option maxHeartbeats 4000000 in
set_option maxRecDepth 100000 in
theorem c_X1_literals0 (l : Launch) (D : va_G) (kA : ClassId) (ad : Nat → Nat) (n : Nat) (fp fk fh : Nat → Int32) (c0 c1 c2 c3 : Nat) (f0 f1 f2 f3 : Nat → Int32) (hn : n ≤ 8) (hc : c0 ≤ 24) : vz_M l yX1_literals wsX1_literals 2 46 [.ref (ad 0), .int (nI 0)] D kA [(ad 0, .inr (1, [.ref (ad 1), .ref (ad 2), .ref (ad 3), .ref (ad 4), .ref (ad 5), .ref (ad 6), .ref (ad 7), .int (nI n)])), (ad 5, .inl (kA, 256, .inl fp)), (ad 6, .inl (kA, 256, .inl fk)), (ad 7, .inl (kA, 256, .inl fh)), (ad 1, .inr (0, [.ref (ad 8), .int (nI c0)])), (ad 8, .inl (kA, 24, .inl f0)), (ad 2, .inr (0, [.ref (ad 9), .int (nI c1)])), (ad 9, .inl (kA, 24, .inl f1)), (ad 3, .inr (0, [.ref (ad 10), .int (nI c2)])), (ad 10, .inl (kA, 24, .inl f2)), (ad 4, .inr (0, [.ref (ad 11), .int (nI c3)])), (ad 11, .inl (kA, 24, .inl f3))] (some (.int (nI (zlits n c0 f0)))) := by
  refine vz_start (cc := cX1_literals) (maxL := 3) (ret := (some .int)) (own := RX1) (by decide) rfl rfl (Nat.le_of_ble_eq_true rfl) ?_
  intro pz ez sz mz below meth cz args Q ls hargs hx hb hml hown hts hr hlocks hP hK hQ hl
  have hcf : CallFix pz mz cz cX1_literals 3 sz args wsX1_literals RX1 := ⟨hx, hb, hml, hown, hts⟩
  have hl : lv_has ls 3 [(0, .ref (ad 0)), (1, .int (nI 0))] := hl
  refine lv_aload_n hx hb dX1_literals_0 rfl (lv_at hl 0 rfl) ?_
  refine lv_iload_n hx hb dX1_literals_1 rfl (lv_at hl 1 rfl) ?_
  refine vz_callV (n := 1) (As := [.int (nI 0)]) (rest := []) (q0 := 0) hcf (c_X1_listAt0 l D kA ad n fp fk fh hn) gX1_literals_X1_listAt rfl hd_X1_listAt ⟨Nat.le_of_ble_eq_true rfl, Nat.le_of_ble_eq_true rfl⟩ hK (hP.sub [0, 1, 2, 3] rfl) rfl rfl rfl rfl hl.1 rfl (Nat.le_of_ble_eq_true rfl) ⟨Nat.zero_le _, Nat.zero_le _⟩ dX1_literals_2 ?_
  refine lv_astore_n (lv' := [(2, .ref (ad 1)), (0, .ref (ad 0)), (1, .int (nI 0))]) hx hb dX1_literals_5 rfl hl (by decide) rfl (fun ls hl => ?_)
  refine lv_aload_n hx hb dX1_literals_6 rfl (lv_at hl 0 rfl) ?_
  refine lv_ifnonnull (tgt := 14) hx hb dX1_literals_7 (by decide) ?_
  refine lv_aload_n hx hb dX1_literals_14 rfl (lv_at hl 1 rfl) ?_
  refine lv_aload_n hx hb dX1_literals_15 rfl (lv_at hl 0 rfl) ?_
  refine vz_callV (n := 1) (As := [.ref (ad 1)]) (rest := []) (q0 := 0) hcf (c_X1_countLiterals l D kA ad n fp fk fh hn (ad 1) (ad 8) c0 f0 hc) gX1_literals_X1_countLiterals rfl hd_X1_countLiterals ⟨Nat.le_of_ble_eq_true rfl, Nat.le_of_ble_eq_true rfl⟩ hK (hP.sub [0, 1, 2, 3, 4, 5] rfl) rfl rfl rfl rfl hl.1 rfl (Nat.le_of_ble_eq_true rfl) ⟨Nat.zero_le _, Nat.zero_le _⟩ dX1_literals_16 ?_
  exact vz_iret hx hb hr hlocks hQ (vp_nar_int _) dX1_literals_19 rfl
set_option maxHeartbeats 4000000 in
set_option maxRecDepth 100000 in
theorem c_X1_missing0 (l : Launch) (D : va_G) (kA : ClassId) (ad : Nat → Nat) (n : Nat) (fp fk fh : Nat → Int32) (c0 c1 c2 c3 : Nat) (f0 f1 f2 f3 : Nat → Int32) (hn : n ≤ 8) (hc : c0 ≤ 24) : vz_M l yX1_missing wsX1_missing 3 69 [.ref (ad 0), .int (nI 0)] D kA [(ad 0, .inr (1, [.ref (ad 1), .ref (ad 2), .ref (ad 3), .ref (ad 4), .ref (ad 5), .ref (ad 6), .ref (ad 7), .int (nI n)])), (ad 5, .inl (kA, 256, .inl fp)), (ad 6, .inl (kA, 256, .inl fk)), (ad 7, .inl (kA, 256, .inl fh)), (ad 1, .inr (0, [.ref (ad 8), .int (nI c0)])), (ad 8, .inl (kA, 24, .inl f0)), (ad 2, .inr (0, [.ref (ad 9), .int (nI c1)])), (ad 9, .inl (kA, 24, .inl f1)), (ad 3, .inr (0, [.ref (ad 10), .int (nI c2)])), (ad 10, .inl (kA, 24, .inl f2)), (ad 4, .inr (0, [.ref (ad 11), .int (nI c3)])), (ad 11, .inl (kA, 24, .inl f3))] (some (.int (nI (cnB (zN n) (fun p => !zX_inL fp c0 f0 p))))) := by
  refine vz_start (cc := cX1_missing) (maxL := 3) (ret := (some .int)) (own := RX1) (by decide) rfl rfl (Nat.le_of_ble_eq_true rfl) ?_
  intro pz ez sz mz below meth cz args Q ls hargs hx hb hml hown hts hr hlocks hP hK hQ hl
  have hcf : CallFix pz mz cz cX1_missing 3 sz args wsX1_missing RX1 := ⟨hx, hb, hml, hown, hts⟩
  have hl : lv_has ls 3 [(0, .ref (ad 0)), (1, .int (nI 0))] := hl
  refine lv_aload_n hx hb dX1_missing_0 rfl (lv_at hl 0 rfl) ?_
  refine lv_iload_n hx hb dX1_missing_1 rfl (lv_at hl 1 rfl) ?_
  refine vz_callV (n := 1) (As := [.int (nI 0)]) (rest := []) (q0 := 0) hcf (c_X1_listAt0 l D kA ad n fp fk fh hn) gX1_missing_X1_listAt rfl hd_X1_listAt ⟨Nat.le_of_ble_eq_true rfl, Nat.le_of_ble_eq_true rfl⟩ hK (hP.sub [0, 1, 2, 3] rfl) rfl rfl rfl rfl hl.1 rfl (Nat.le_of_ble_eq_true rfl) ⟨Nat.zero_le _, Nat.zero_le _⟩ dX1_missing_2 ?_
  refine lv_astore_n (lv' := [(2, .ref (ad 1)), (0, .ref (ad 0)), (1, .int (nI 0))]) hx hb dX1_missing_5 rfl hl (by decide) rfl (fun ls hl => ?_)
  refine lv_aload_n hx hb dX1_missing_6 rfl (lv_at hl 0 rfl) ?_
  refine lv_ifnonnull (tgt := 14) hx hb dX1_missing_7 (by decide) ?_
  refine lv_aload_n hx hb dX1_missing_14 rfl (lv_at hl 1 rfl) ?_
  refine lv_aload_n hx hb dX1_missing_15 rfl (lv_at hl 0 rfl) ?_
  refine vz_callV (n := 1) (As := [.ref (ad 1)]) (rest := []) (q0 := 0) hcf (c_X1_countMissing l D kA ad n fp fk fh hn (ad 1) (ad 8) c0 f0 hc) gX1_missing_X1_countMissing rfl hd_X1_countMissing ⟨Nat.le_of_ble_eq_true rfl, Nat.le_of_ble_eq_true rfl⟩ hK (hP.sub [0, 1, 2, 3, 4, 5] rfl) rfl rfl rfl rfl hl.1 rfl (Nat.le_of_ble_eq_true rfl) ⟨Nat.zero_le _, Nat.zero_le _⟩ dX1_missing_16 ?_
  exact vz_iret hx hb hr hlocks hQ (vp_nar_int _) dX1_missing_19 rfl
set_option maxHeartbeats 4000000 in
set_option maxRecDepth 100000 in
theorem c_X1_tautology0 (l : Launch) (D : va_G) (kA : ClassId) (ad : Nat → Nat) (n : Nat) (fp fk fh : Nat → Int32) (c0 c1 c2 c3 : Nat) (f0 f1 f2 f3 : Nat → Int32) (hn : n ≤ 8) (hc : c0 ≤ 24) : vz_M l yX1_tautology wsX1_tautology 3 69 [.ref (ad 0), .int (nI 0)] D kA [(ad 0, .inr (1, [.ref (ad 1), .ref (ad 2), .ref (ad 3), .ref (ad 4), .ref (ad 5), .ref (ad 6), .ref (ad 7), .int (nI n)])), (ad 5, .inl (kA, 256, .inl fp)), (ad 6, .inl (kA, 256, .inl fk)), (ad 7, .inl (kA, 256, .inl fh)), (ad 1, .inr (0, [.ref (ad 8), .int (nI c0)])), (ad 8, .inl (kA, 24, .inl f0)), (ad 2, .inr (0, [.ref (ad 9), .int (nI c1)])), (ad 9, .inl (kA, 24, .inl f1)), (ad 3, .inr (0, [.ref (ad 10), .int (nI c2)])), (ad 10, .inl (kA, 24, .inl f2)), (ad 4, .inr (0, [.ref (ad 11), .int (nI c3)])), (ad 11, .inl (kA, 24, .inl f3))] (some (.int (vz_b (decide (cnB (zN n) (fun p => !zX_inL fp c0 f0 p) = 0))))) := by
  refine vz_start (cc := cX1_tautology) (maxL := 3) (ret := (some .boolean)) (own := RX1) (by decide) rfl rfl (Nat.le_of_ble_eq_true rfl) ?_
  intro pz ez sz mz below meth cz args Q ls hargs hx hb hml hown hts hr hlocks hP hK hQ hl
  have hcf : CallFix pz mz cz cX1_tautology 3 sz args wsX1_tautology RX1 := ⟨hx, hb, hml, hown, hts⟩
  have hl : lv_has ls 3 [(0, .ref (ad 0)), (1, .int (nI 0))] := hl
  have hN := zN_le hn
  have hm := cnB_le (zN n) (fun p => !zX_inL fp c0 f0 p)
  refine lv_aload_n hx hb dX1_tautology_0 rfl (lv_at hl 0 rfl) ?_
  refine lv_iload_n hx hb dX1_tautology_1 rfl (lv_at hl 1 rfl) ?_
  refine vz_callV (n := 1) (As := [.int (nI 0)]) (rest := []) (q0 := 0) hcf (c_X1_listAt0 l D kA ad n fp fk fh hn) gX1_tautology_X1_listAt rfl hd_X1_listAt ⟨Nat.le_of_ble_eq_true rfl, Nat.le_of_ble_eq_true rfl⟩ hK (hP.sub [0, 1, 2, 3] rfl) rfl rfl rfl rfl hl.1 rfl (Nat.le_of_ble_eq_true rfl) ⟨Nat.zero_le _, Nat.zero_le _⟩ dX1_tautology_2 ?_
  refine lv_astore_n (lv' := [(2, .ref (ad 1)), (0, .ref (ad 0)), (1, .int (nI 0))]) hx hb dX1_tautology_5 rfl hl (by decide) rfl (fun ls hl => ?_)
  refine lv_aload_n hx hb dX1_tautology_6 rfl (lv_at hl 0 rfl) ?_
  refine lv_ifnull hx hb dX1_tautology_7 ?_
  refine lv_aload_n hx hb dX1_tautology_10 rfl (lv_at hl 1 rfl) ?_
  refine lv_aload_n hx hb dX1_tautology_11 rfl (lv_at hl 0 rfl) ?_
  refine vz_callV (n := 1) (As := [.ref (ad 1)]) (rest := []) (q0 := 0) hcf (c_X1_countMissing l D kA ad n fp fk fh hn (ad 1) (ad 8) c0 f0 hc) gX1_tautology_X1_countMissing rfl hd_X1_countMissing ⟨Nat.le_of_ble_eq_true rfl, Nat.le_of_ble_eq_true rfl⟩ hK (hP.sub [0, 1, 2, 3, 4, 5] rfl) rfl rfl rfl rfl hl.1 rfl (Nat.le_of_ble_eq_true rfl) ⟨Nat.zero_le _, Nat.zero_le _⟩ dX1_tautology_12 ?_
  refine lv_if_ne (tgt := 22) hx hb dX1_tautology_15 (by decide) (fun c_15 => ?_) (fun c_15 => ?_)
  · skip
    have c_16 := fun q => c_15 (congrArg nI q)
    refine lv_iconst (v := nI 0) hx hb dX1_tautology_22 (by decide) ?_
    exact vz_iret hx hb hr hlocks hQ (rfl) dX1_tautology_23 (by first | (rw [decide_eq_true c_16]; rfl) | (rw [decide_eq_false (fun q => c_15 (congrArg nI q))]; rfl))
  · skip
    have c_16 := (nI_eq (by omega) (by omega)).mp (c_15.trans nI_0.symm)
    refine lv_iconst (v := nI 1) hx hb dX1_tautology_18 (by decide) ?_
    refine lv_goto (tgt := 23) hx hb dX1_tautology_19 (by decide) ?_
    exact vz_iret hx hb hr hlocks hQ (rfl) dX1_tautology_23 (by first | (rw [decide_eq_true c_16]; rfl) | (rw [decide_eq_false (fun q => c_15 (congrArg nI q))]; rfl))
set_option maxHeartbeats 4000000 in
set_option maxRecDepth 100000 in
theorem c_X1_holds0 (l : Launch) (D : va_G) (kA : ClassId) (ad : Nat → Nat) (n : Nat) (fp fk fh : Nat → Int32) (c0 c1 c2 c3 : Nat) (f0 f1 f2 f3 : Nat → Int32) (hn : n ≤ 8) (hc : c0 ≤ 24) (z : Int32) : vz_M l yX1_holds wsX1_holds 2 45 [.ref (ad 0), .int (nI 0), .int z] D kA [(ad 0, .inr (1, [.ref (ad 1), .ref (ad 2), .ref (ad 3), .ref (ad 4), .ref (ad 5), .ref (ad 6), .ref (ad 7), .int (nI n)])), (ad 5, .inl (kA, 256, .inl fp)), (ad 6, .inl (kA, 256, .inl fk)), (ad 7, .inl (kA, 256, .inl fh)), (ad 1, .inr (0, [.ref (ad 8), .int (nI c0)])), (ad 8, .inl (kA, 24, .inl f0)), (ad 2, .inr (0, [.ref (ad 9), .int (nI c1)])), (ad 9, .inl (kA, 24, .inl f1)), (ad 3, .inr (0, [.ref (ad 10), .int (nI c2)])), (ad 10, .inl (kA, 24, .inl f2)), (ad 4, .inr (0, [.ref (ad 11), .int (nI c3)])), (ad 11, .inl (kA, 24, .inl f3))] (some (.int (vz_b ((!decide (z < 0) && !decide (nI (zN n) ≤ z)) && zX_inL fp c0 f0 z.toNatClampNeg)))) := by
  refine vz_start (cc := cX1_holds) (maxL := 4) (ret := (some .boolean)) (own := RX1) (by decide) rfl rfl (Nat.le_of_ble_eq_true rfl) ?_
  intro pz ez sz mz below meth cz args Q ls hargs hx hb hml hown hts hr hlocks hP hK hQ hl
  have hcf : CallFix pz mz cz cX1_holds 4 sz args wsX1_holds RX1 := ⟨hx, hb, hml, hown, hts⟩
  have hl : lv_has ls 4 [(0, .ref (ad 0)), (1, .int (nI 0)), (2, .int z)] := hl
  have hN := zN_le hn
  refine lv_aload_n hx hb dX1_holds_0 rfl (lv_at hl 0 rfl) ?_
  refine lv_iload_n hx hb dX1_holds_1 rfl (lv_at hl 1 rfl) ?_
  refine vz_callV (n := 1) (As := [.int (nI 0)]) (rest := []) (q0 := 0) hcf (c_X1_listAt0 l D kA ad n fp fk fh hn) gX1_holds_X1_listAt rfl hd_X1_listAt ⟨Nat.le_of_ble_eq_true rfl, Nat.le_of_ble_eq_true rfl⟩ hK (hP.sub [0, 1, 2, 3] rfl) rfl rfl rfl rfl hl.1 rfl (Nat.le_of_ble_eq_true rfl) ⟨Nat.zero_le _, Nat.zero_le _⟩ dX1_holds_2 ?_
  refine lv_astore_n (lv' := [(3, .ref (ad 1)), (0, .ref (ad 0)), (1, .int (nI 0)), (2, .int z)]) hx hb dX1_holds_5 rfl hl (by decide) rfl (fun ls hl => ?_)
  refine lv_aload_n hx hb dX1_holds_6 rfl (lv_at hl 0 rfl) ?_
  refine lv_ifnull hx hb dX1_holds_7 ?_
  refine lv_aload_n hx hb dX1_holds_10 rfl (lv_at hl 1 rfl) ?_
  refine lv_iload_n hx hb dX1_holds_11 rfl (lv_at hl 3 rfl) ?_
  refine vz_callV (n := 1) (As := [.int z]) (rest := []) (q0 := 0) hcf (c_X1_isPoint l D kA ad n fp fk fh hn z) gX1_holds_X1_isPoint rfl hd_X1_isPoint ⟨Nat.le_of_ble_eq_true rfl, Nat.le_of_ble_eq_true rfl⟩ hK (hP.sub [0, 1, 2, 3] rfl) rfl rfl rfl rfl hl.1 rfl (Nat.le_of_ble_eq_true rfl) ⟨Nat.zero_le _, Nat.zero_le _⟩ dX1_holds_12 ?_
  refine vz_ifeqB (tgt := 31) hx hb dX1_holds_15 (by decide) (fun c_15 => ?_) (fun c_15 => ?_)
  · skip
    refine lv_iconst (v := nI 0) hx hb dX1_holds_31 (by decide) ?_
    exact vz_iret hx hb hr hlocks hQ (rfl) dX1_holds_32 (by first | rfl | (rw [c_15]; rfl) | (rw [hqc, c_24, c_15]; rfl) | (rw [c_15]; rw [hqc, c_24]; rfl) | (rw [hqc, c_24]; simp; rfl))
  · skip
    obtain ⟨q, hq, rfl⟩ : ∃ q : Nat, q < zN n ∧ z = nI q := by
      simp only [Bool.and_eq_true, Bool.not_eq_true', decide_eq_false_iff_not] at c_15
      rcases pk_ix z (n := zN n) (by omega) with h1 | h1 | h1
      · exact absurd h1 c_15.1
      · exact absurd h1 c_15.2
      · exact h1
    have hqc : (nI q).toNatClampNeg = q := nI_clamp (by omega)
    refine lv_aload_n hx hb dX1_holds_18 rfl (lv_at hl 1 rfl) ?_
    refine lv_aload_n hx hb dX1_holds_19 rfl (lv_at hl 0 rfl) ?_
    refine lv_iload_n hx hb dX1_holds_20 rfl (lv_at hl 3 rfl) ?_
    refine vz_callV (n := 2) (As := [.ref (ad 1), .int (nI q)]) (rest := []) (q0 := 0) hcf (c_X1_isInList l D kA ad n fp fk fh hn (ad 1) (ad 8) c0 f0 hc q (by omega)) gX1_holds_X1_isInList rfl hd_X1_isInList ⟨Nat.le_of_ble_eq_true rfl, Nat.le_of_ble_eq_true rfl⟩ hK (hP.sub [0, 1, 2, 3, 4, 5] rfl) rfl rfl rfl rfl hl.1 rfl (Nat.le_of_ble_eq_true rfl) ⟨Nat.zero_le _, Nat.zero_le _⟩ dX1_holds_21 ?_
    refine vz_ifeqB (tgt := 31) hx hb dX1_holds_24 (by decide) (fun c_24 => ?_) (fun c_24 => ?_)
    · skip
      refine lv_iconst (v := nI 0) hx hb dX1_holds_31 (by decide) ?_
      exact vz_iret hx hb hr hlocks hQ (rfl) dX1_holds_32 (by first | rfl | (rw [c_15]; rfl) | (rw [hqc, c_24, c_15]; rfl) | (rw [c_15]; rw [hqc, c_24]; rfl) | (rw [hqc, c_24]; simp; rfl))
    · skip
      refine lv_iconst (v := nI 1) hx hb dX1_holds_27 (by decide) ?_
      refine lv_goto (tgt := 32) hx hb dX1_holds_28 (by decide) ?_
      exact vz_iret hx hb hr hlocks hQ (rfl) dX1_holds_32 (by first | rfl | (rw [c_15]; rfl) | (rw [hqc, c_24, c_15]; rfl) | (rw [c_15]; rw [hqc, c_24]; rfl) | (rw [hqc, c_24]; simp; rfl))
set_option maxHeartbeats 4000000 in
set_option maxRecDepth 100000 in
theorem c_X1_prime0 (l : Launch) (D : va_G) (kA : ClassId) (ad : Nat → Nat) (n : Nat) (fp fk fh : Nat → Int32) (c0 c1 c2 c3 : Nat) (f0 f1 f2 f3 : Nat → Int32) (hn : n ≤ 8) (hc : c0 ≤ 24) (z : Int32) : vz_M l yX1_prime wsX1_prime 3 68 [.ref (ad 0), .int (nI 0), .int z] D kA [(ad 0, .inr (1, [.ref (ad 1), .ref (ad 2), .ref (ad 3), .ref (ad 4), .ref (ad 5), .ref (ad 6), .ref (ad 7), .int (nI n)])), (ad 5, .inl (kA, 256, .inl fp)), (ad 6, .inl (kA, 256, .inl fk)), (ad 7, .inl (kA, 256, .inl fh)), (ad 1, .inr (0, [.ref (ad 8), .int (nI c0)])), (ad 8, .inl (kA, 24, .inl f0)), (ad 2, .inr (0, [.ref (ad 9), .int (nI c1)])), (ad 9, .inl (kA, 24, .inl f1)), (ad 3, .inr (0, [.ref (ad 10), .int (nI c2)])), (ad 10, .inl (kA, 24, .inl f2)), (ad 4, .inr (0, [.ref (ad 11), .int (nI c3)])), (ad 11, .inl (kA, 24, .inl f3))] (some (.int (vz_b (!decide (zat c0 f0 z = -1) && (!zvoid n (zat c0 f0 z) && (!ztch n fk (zX_in fp) (zat c0 f0 z) && !zcg n (ztch n fk (zX_in fp)) (zat c0 f0 z))))))) := by
  refine vz_start (cc := cX1_prime) (maxL := 5) (ret := (some .boolean)) (own := RX1) (by decide) rfl rfl (Nat.le_of_ble_eq_true rfl) ?_
  intro pz ez sz mz below meth cz args Q ls hargs hx hb hml hown hts hr hlocks hP hK hQ hl
  have hcf : CallFix pz mz cz cX1_prime 5 sz args wsX1_prime RX1 := ⟨hx, hb, hml, hown, hts⟩
  have hl : lv_has ls 5 [(0, .ref (ad 0)), (1, .int (nI 0)), (2, .int z)] := hl
  refine lv_aload_n hx hb dX1_prime_0 rfl (lv_at hl 0 rfl) ?_
  refine lv_iload_n hx hb dX1_prime_1 rfl (lv_at hl 1 rfl) ?_
  refine vz_callV (n := 1) (As := [.int (nI 0)]) (rest := []) (q0 := 0) hcf (c_X1_listAt0 l D kA ad n fp fk fh hn) gX1_prime_X1_listAt rfl hd_X1_listAt ⟨Nat.le_of_ble_eq_true rfl, Nat.le_of_ble_eq_true rfl⟩ hK (hP.sub [0, 1, 2, 3] rfl) rfl rfl rfl rfl hl.1 rfl (Nat.le_of_ble_eq_true rfl) ⟨Nat.zero_le _, Nat.zero_le _⟩ dX1_prime_2 ?_
  refine lv_astore_n (lv' := [(3, .ref (ad 1)), (0, .ref (ad 0)), (1, .int (nI 0)), (2, .int z)]) hx hb dX1_prime_5 rfl hl (by decide) rfl (fun ls hl => ?_)
  refine lv_aload_n hx hb dX1_prime_6 rfl (lv_at hl 0 rfl) ?_
  refine lv_ifnonnull (tgt := 12) hx hb dX1_prime_7 (by decide) ?_
  refine lv_aload_n hx hb dX1_prime_12 rfl (lv_at hl 0 rfl) ?_
  refine lv_iload_n hx hb dX1_prime_13 rfl (lv_at hl 3 rfl) ?_
  refine vz_callV (n := 1) (As := [.int z]) (rest := []) (q0 := 0) hcf (c_X0_at l D kA (ad 1) (ad 8) c0 f0 hc z) gX1_prime_X0_at rfl hd_X0_at ⟨Nat.le_of_ble_eq_true rfl, Nat.le_of_ble_eq_true rfl⟩ hK (hP.sub [4, 5] rfl) rfl rfl rfl rfl hl.1 rfl (Nat.le_of_ble_eq_true rfl) ⟨Nat.zero_le _, Nat.zero_le _⟩ dX1_prime_14 ?_
  refine lv_istore (lv' := [(4, .int (zat c0 f0 z)), (3, .ref (ad 1)), (0, .ref (ad 0)), (1, .int (nI 0)), (2, .int z)]) hx hb dX1_prime_17 hl (by decide) rfl (fun ls hl => ?_)
  refine lv_iload hx hb dX1_prime_19 (lv_at hl 0 rfl) ?_
  refine lv_iconst (v := -1) hx hb dX1_prime_21 (by decide) ?_
  refine lv_icmp_eq (tgt := 56) hx hb dX1_prime_22 (by decide) (fun c_22 => ?_) (fun c_22 => ?_)
  · skip
    refine lv_iconst (v := nI 0) hx hb dX1_prime_56 (by decide) ?_
    exact vz_iret hx hb hr hlocks hQ (rfl) dX1_prime_57 (by first | (rw [decide_eq_true c_22]; rfl) | (rw [decide_eq_false c_22, c_31]; rfl) | (rw [decide_eq_false c_22, c_31, c_40]; rfl) | (rw [decide_eq_false c_22, c_31, c_40, c_49]; rfl))
  · skip
    refine lv_aload_n hx hb dX1_prime_25 rfl (lv_at hl 2 rfl) ?_
    refine lv_iload hx hb dX1_prime_26 (lv_at hl 0 rfl) ?_
    refine vz_callV (n := 1) (As := [.int (zat c0 f0 z)]) (rest := []) (q0 := 0) hcf (c_X1_isVoid l D kA ad n fp fk fh hn (zat c0 f0 z)) gX1_prime_X1_isVoid rfl hd_X1_isVoid ⟨Nat.le_of_ble_eq_true rfl, Nat.le_of_ble_eq_true rfl⟩ hK (hP.sub [0, 1, 2, 3] rfl) rfl rfl rfl rfl hl.1 rfl (Nat.le_of_ble_eq_true rfl) ⟨Nat.zero_le _, Nat.zero_le _⟩ dX1_prime_28 ?_
    refine vz_ifneB (tgt := 56) hx hb dX1_prime_31 (by decide) (fun c_31 => ?_) (fun c_31 => ?_)
    · skip
      refine lv_iconst (v := nI 0) hx hb dX1_prime_56 (by decide) ?_
      exact vz_iret hx hb hr hlocks hQ (rfl) dX1_prime_57 (by first | (rw [decide_eq_true c_22]; rfl) | (rw [decide_eq_false c_22, c_31]; rfl) | (rw [decide_eq_false c_22, c_31, c_40]; rfl) | (rw [decide_eq_false c_22, c_31, c_40, c_49]; rfl))
    · skip
      refine lv_aload_n hx hb dX1_prime_34 rfl (lv_at hl 2 rfl) ?_
      refine lv_iload hx hb dX1_prime_35 (lv_at hl 0 rfl) ?_
      refine vz_callV (n := 1) (As := [.int (zat c0 f0 z)]) (rest := []) (q0 := 0) hcf (c_X1_touches l D kA ad n fp fk fh hn (zat c0 f0 z)) gX1_prime_X1_touches rfl hd_X1_touches ⟨Nat.le_of_ble_eq_true rfl, Nat.le_of_ble_eq_true rfl⟩ hK (hP.sub [0, 1, 2, 3] rfl) rfl rfl rfl rfl hl.1 rfl (Nat.le_of_ble_eq_true rfl) ⟨Nat.zero_le _, Nat.zero_le _⟩ dX1_prime_37 ?_
      refine vz_ifneB (tgt := 56) hx hb dX1_prime_40 (by decide) (fun c_40 => ?_) (fun c_40 => ?_)
      · skip
        refine lv_iconst (v := nI 0) hx hb dX1_prime_56 (by decide) ?_
        exact vz_iret hx hb hr hlocks hQ (rfl) dX1_prime_57 (by first | (rw [decide_eq_true c_22]; rfl) | (rw [decide_eq_false c_22, c_31]; rfl) | (rw [decide_eq_false c_22, c_31, c_40]; rfl) | (rw [decide_eq_false c_22, c_31, c_40, c_49]; rfl))
      · skip
        refine lv_aload_n hx hb dX1_prime_43 rfl (lv_at hl 2 rfl) ?_
        refine lv_iload hx hb dX1_prime_44 (lv_at hl 0 rfl) ?_
        refine vz_callV (n := 1) (As := [.int (zat c0 f0 z)]) (rest := []) (q0 := 0) hcf (c_X1_cannotGrow l D kA ad n fp fk fh hn (zat c0 f0 z)) gX1_prime_X1_cannotGrow rfl hd_X1_cannotGrow ⟨Nat.le_of_ble_eq_true rfl, Nat.le_of_ble_eq_true rfl⟩ hK (hP.sub [0, 1, 2, 3] rfl) rfl rfl rfl rfl hl.1 rfl (Nat.le_of_ble_eq_true rfl) ⟨Nat.zero_le _, Nat.zero_le _⟩ dX1_prime_46 ?_
        refine vz_ifeqB (tgt := 56) hx hb dX1_prime_49 (by decide) (fun c_49 => ?_) (fun c_49 => ?_)
        · skip
          refine lv_iconst (v := nI 0) hx hb dX1_prime_56 (by decide) ?_
          exact vz_iret hx hb hr hlocks hQ (rfl) dX1_prime_57 (by first | (rw [decide_eq_true c_22]; rfl) | (rw [decide_eq_false c_22, c_31]; rfl) | (rw [decide_eq_false c_22, c_31, c_40]; rfl) | (rw [decide_eq_false c_22, c_31, c_40, c_49]; rfl))
        · skip
          refine lv_iconst (v := nI 1) hx hb dX1_prime_52 (by decide) ?_
          refine lv_goto (tgt := 57) hx hb dX1_prime_53 (by decide) ?_
          exact vz_iret hx hb hr hlocks hQ (rfl) dX1_prime_57 (by first | (rw [decide_eq_true c_22]; rfl) | (rw [decide_eq_false c_22, c_31]; rfl) | (rw [decide_eq_false c_22, c_31, c_40]; rfl) | (rw [decide_eq_false c_22, c_31, c_40, c_49]; rfl))
set_option maxHeartbeats 4000000 in
set_option maxRecDepth 100000 in
theorem c_X1_size1 (l : Launch) (D : va_G) (kA : ClassId) (ad : Nat → Nat) (n : Nat) (fp fk fh : Nat → Int32) (c0 c1 c2 c3 : Nat) (f0 f1 f2 f3 : Nat → Int32) (hn : n ≤ 8) (hc : c1 ≤ 24) : vz_M l yX1_size wsX1_size 1 21 [.ref (ad 0), .int (nI 1)] D kA [(ad 0, .inr (1, [.ref (ad 1), .ref (ad 2), .ref (ad 3), .ref (ad 4), .ref (ad 5), .ref (ad 6), .ref (ad 7), .int (nI n)])), (ad 5, .inl (kA, 256, .inl fp)), (ad 6, .inl (kA, 256, .inl fk)), (ad 7, .inl (kA, 256, .inl fh)), (ad 1, .inr (0, [.ref (ad 8), .int (nI c0)])), (ad 8, .inl (kA, 24, .inl f0)), (ad 2, .inr (0, [.ref (ad 9), .int (nI c1)])), (ad 9, .inl (kA, 24, .inl f1)), (ad 3, .inr (0, [.ref (ad 10), .int (nI c2)])), (ad 10, .inl (kA, 24, .inl f2)), (ad 4, .inr (0, [.ref (ad 11), .int (nI c3)])), (ad 11, .inl (kA, 24, .inl f3))] (some (.int (nI c1))) := by
  refine vz_start (cc := cX1_size) (maxL := 3) (ret := (some .int)) (own := RX1) (by decide) rfl rfl (Nat.le_of_ble_eq_true rfl) ?_
  intro pz ez sz mz below meth cz args Q ls hargs hx hb hml hown hts hr hlocks hP hK hQ hl
  have hcf : CallFix pz mz cz cX1_size 3 sz args wsX1_size RX1 := ⟨hx, hb, hml, hown, hts⟩
  have hl : lv_has ls 3 [(0, .ref (ad 0)), (1, .int (nI 1))] := hl
  refine lv_aload_n hx hb dX1_size_0 rfl (lv_at hl 0 rfl) ?_
  refine lv_iload_n hx hb dX1_size_1 rfl (lv_at hl 1 rfl) ?_
  refine vz_callV (n := 1) (As := [.int (nI 1)]) (rest := []) (q0 := 0) hcf (c_X1_listAt1 l D kA ad n fp fk fh hn) gX1_size_X1_listAt rfl hd_X1_listAt ⟨Nat.le_of_ble_eq_true rfl, Nat.le_of_ble_eq_true rfl⟩ hK (hP.sub [0, 1, 2, 3] rfl) rfl rfl rfl rfl hl.1 rfl (Nat.le_of_ble_eq_true rfl) ⟨Nat.zero_le _, Nat.zero_le _⟩ dX1_size_2 ?_
  refine lv_astore_n (lv' := [(2, .ref (ad 2)), (0, .ref (ad 0)), (1, .int (nI 1))]) hx hb dX1_size_5 rfl hl (by decide) rfl (fun ls hl => ?_)
  refine lv_aload_n hx hb dX1_size_6 rfl (lv_at hl 0 rfl) ?_
  refine lv_ifnonnull (tgt := 14) hx hb dX1_size_7 (by decide) ?_
  refine lv_aload_n hx hb dX1_size_14 rfl (lv_at hl 0 rfl) ?_
  refine vz_callV (n := 0) (As := []) (rest := []) (q0 := 0) hcf (c_X0_length l D kA (ad 2) (ad 9) c1 f1 hc) gX1_size_X0_length rfl hd_X0_length ⟨Nat.le_of_ble_eq_true rfl, Nat.le_of_ble_eq_true rfl⟩ hK (hP.sub [6, 7] rfl) rfl rfl rfl rfl hl.1 rfl (Nat.le_of_ble_eq_true rfl) ⟨Nat.zero_le _, Nat.zero_le _⟩ dX1_size_15 ?_
  exact vz_iret hx hb hr hlocks hQ (vp_nar_int _) dX1_size_18 rfl
set_option maxHeartbeats 4000000 in
set_option maxRecDepth 100000 in
theorem c_X1_cube1 (l : Launch) (D : va_G) (kA : ClassId) (ad : Nat → Nat) (n : Nat) (fp fk fh : Nat → Int32) (c0 c1 c2 c3 : Nat) (f0 f1 f2 f3 : Nat → Int32) (hn : n ≤ 8) (hc : c1 ≤ 24) (z : Int32) : vz_M l yX1_cube wsX1_cube 1 21 [.ref (ad 0), .int (nI 1), .int z] D kA [(ad 0, .inr (1, [.ref (ad 1), .ref (ad 2), .ref (ad 3), .ref (ad 4), .ref (ad 5), .ref (ad 6), .ref (ad 7), .int (nI n)])), (ad 5, .inl (kA, 256, .inl fp)), (ad 6, .inl (kA, 256, .inl fk)), (ad 7, .inl (kA, 256, .inl fh)), (ad 1, .inr (0, [.ref (ad 8), .int (nI c0)])), (ad 8, .inl (kA, 24, .inl f0)), (ad 2, .inr (0, [.ref (ad 9), .int (nI c1)])), (ad 9, .inl (kA, 24, .inl f1)), (ad 3, .inr (0, [.ref (ad 10), .int (nI c2)])), (ad 10, .inl (kA, 24, .inl f2)), (ad 4, .inr (0, [.ref (ad 11), .int (nI c3)])), (ad 11, .inl (kA, 24, .inl f3))] (some (.int (zat c1 f1 z))) := by
  refine vz_start (cc := cX1_cube) (maxL := 4) (ret := (some .int)) (own := RX1) (by decide) rfl rfl (Nat.le_of_ble_eq_true rfl) ?_
  intro pz ez sz mz below meth cz args Q ls hargs hx hb hml hown hts hr hlocks hP hK hQ hl
  have hcf : CallFix pz mz cz cX1_cube 4 sz args wsX1_cube RX1 := ⟨hx, hb, hml, hown, hts⟩
  have hl : lv_has ls 4 [(0, .ref (ad 0)), (1, .int (nI 1)), (2, .int z)] := hl
  refine lv_aload_n hx hb dX1_cube_0 rfl (lv_at hl 0 rfl) ?_
  refine lv_iload_n hx hb dX1_cube_1 rfl (lv_at hl 1 rfl) ?_
  refine vz_callV (n := 1) (As := [.int (nI 1)]) (rest := []) (q0 := 0) hcf (c_X1_listAt1 l D kA ad n fp fk fh hn) gX1_cube_X1_listAt rfl hd_X1_listAt ⟨Nat.le_of_ble_eq_true rfl, Nat.le_of_ble_eq_true rfl⟩ hK (hP.sub [0, 1, 2, 3] rfl) rfl rfl rfl rfl hl.1 rfl (Nat.le_of_ble_eq_true rfl) ⟨Nat.zero_le _, Nat.zero_le _⟩ dX1_cube_2 ?_
  refine lv_astore_n (lv' := [(3, .ref (ad 2)), (0, .ref (ad 0)), (1, .int (nI 1)), (2, .int z)]) hx hb dX1_cube_5 rfl hl (by decide) rfl (fun ls hl => ?_)
  refine lv_aload_n hx hb dX1_cube_6 rfl (lv_at hl 0 rfl) ?_
  refine lv_ifnonnull (tgt := 14) hx hb dX1_cube_7 (by decide) ?_
  refine lv_aload_n hx hb dX1_cube_14 rfl (lv_at hl 0 rfl) ?_
  refine lv_iload_n hx hb dX1_cube_15 rfl (lv_at hl 3 rfl) ?_
  refine vz_callV (n := 1) (As := [.int z]) (rest := []) (q0 := 0) hcf (c_X0_at l D kA (ad 2) (ad 9) c1 f1 hc z) gX1_cube_X0_at rfl hd_X0_at ⟨Nat.le_of_ble_eq_true rfl, Nat.le_of_ble_eq_true rfl⟩ hK (hP.sub [6, 7] rfl) rfl rfl rfl rfl hl.1 rfl (Nat.le_of_ble_eq_true rfl) ⟨Nat.zero_le _, Nat.zero_le _⟩ dX1_cube_16 ?_
  exact vz_iret hx hb hr hlocks hQ (vp_nar_int _) dX1_cube_19 rfl
set_option maxHeartbeats 4000000 in
set_option maxRecDepth 100000 in
theorem c_X1_literals1 (l : Launch) (D : va_G) (kA : ClassId) (ad : Nat → Nat) (n : Nat) (fp fk fh : Nat → Int32) (c0 c1 c2 c3 : Nat) (f0 f1 f2 f3 : Nat → Int32) (hn : n ≤ 8) (hc : c1 ≤ 24) : vz_M l yX1_literals wsX1_literals 2 46 [.ref (ad 0), .int (nI 1)] D kA [(ad 0, .inr (1, [.ref (ad 1), .ref (ad 2), .ref (ad 3), .ref (ad 4), .ref (ad 5), .ref (ad 6), .ref (ad 7), .int (nI n)])), (ad 5, .inl (kA, 256, .inl fp)), (ad 6, .inl (kA, 256, .inl fk)), (ad 7, .inl (kA, 256, .inl fh)), (ad 1, .inr (0, [.ref (ad 8), .int (nI c0)])), (ad 8, .inl (kA, 24, .inl f0)), (ad 2, .inr (0, [.ref (ad 9), .int (nI c1)])), (ad 9, .inl (kA, 24, .inl f1)), (ad 3, .inr (0, [.ref (ad 10), .int (nI c2)])), (ad 10, .inl (kA, 24, .inl f2)), (ad 4, .inr (0, [.ref (ad 11), .int (nI c3)])), (ad 11, .inl (kA, 24, .inl f3))] (some (.int (nI (zlits n c1 f1)))) := by
  refine vz_start (cc := cX1_literals) (maxL := 3) (ret := (some .int)) (own := RX1) (by decide) rfl rfl (Nat.le_of_ble_eq_true rfl) ?_
  intro pz ez sz mz below meth cz args Q ls hargs hx hb hml hown hts hr hlocks hP hK hQ hl
  have hcf : CallFix pz mz cz cX1_literals 3 sz args wsX1_literals RX1 := ⟨hx, hb, hml, hown, hts⟩
  have hl : lv_has ls 3 [(0, .ref (ad 0)), (1, .int (nI 1))] := hl
  refine lv_aload_n hx hb dX1_literals_0 rfl (lv_at hl 0 rfl) ?_
  refine lv_iload_n hx hb dX1_literals_1 rfl (lv_at hl 1 rfl) ?_
  refine vz_callV (n := 1) (As := [.int (nI 1)]) (rest := []) (q0 := 0) hcf (c_X1_listAt1 l D kA ad n fp fk fh hn) gX1_literals_X1_listAt rfl hd_X1_listAt ⟨Nat.le_of_ble_eq_true rfl, Nat.le_of_ble_eq_true rfl⟩ hK (hP.sub [0, 1, 2, 3] rfl) rfl rfl rfl rfl hl.1 rfl (Nat.le_of_ble_eq_true rfl) ⟨Nat.zero_le _, Nat.zero_le _⟩ dX1_literals_2 ?_
  refine lv_astore_n (lv' := [(2, .ref (ad 2)), (0, .ref (ad 0)), (1, .int (nI 1))]) hx hb dX1_literals_5 rfl hl (by decide) rfl (fun ls hl => ?_)
  refine lv_aload_n hx hb dX1_literals_6 rfl (lv_at hl 0 rfl) ?_
  refine lv_ifnonnull (tgt := 14) hx hb dX1_literals_7 (by decide) ?_
  refine lv_aload_n hx hb dX1_literals_14 rfl (lv_at hl 1 rfl) ?_
  refine lv_aload_n hx hb dX1_literals_15 rfl (lv_at hl 0 rfl) ?_
  refine vz_callV (n := 1) (As := [.ref (ad 2)]) (rest := []) (q0 := 0) hcf (c_X1_countLiterals l D kA ad n fp fk fh hn (ad 2) (ad 9) c1 f1 hc) gX1_literals_X1_countLiterals rfl hd_X1_countLiterals ⟨Nat.le_of_ble_eq_true rfl, Nat.le_of_ble_eq_true rfl⟩ hK (hP.sub [0, 1, 2, 3, 6, 7] rfl) rfl rfl rfl rfl hl.1 rfl (Nat.le_of_ble_eq_true rfl) ⟨Nat.zero_le _, Nat.zero_le _⟩ dX1_literals_16 ?_
  exact vz_iret hx hb hr hlocks hQ (vp_nar_int _) dX1_literals_19 rfl
set_option maxHeartbeats 4000000 in
set_option maxRecDepth 100000 in
theorem c_X1_missing1 (l : Launch) (D : va_G) (kA : ClassId) (ad : Nat → Nat) (n : Nat) (fp fk fh : Nat → Int32) (c0 c1 c2 c3 : Nat) (f0 f1 f2 f3 : Nat → Int32) (hn : n ≤ 8) (hc : c1 ≤ 24) : vz_M l yX1_missing wsX1_missing 3 69 [.ref (ad 0), .int (nI 1)] D kA [(ad 0, .inr (1, [.ref (ad 1), .ref (ad 2), .ref (ad 3), .ref (ad 4), .ref (ad 5), .ref (ad 6), .ref (ad 7), .int (nI n)])), (ad 5, .inl (kA, 256, .inl fp)), (ad 6, .inl (kA, 256, .inl fk)), (ad 7, .inl (kA, 256, .inl fh)), (ad 1, .inr (0, [.ref (ad 8), .int (nI c0)])), (ad 8, .inl (kA, 24, .inl f0)), (ad 2, .inr (0, [.ref (ad 9), .int (nI c1)])), (ad 9, .inl (kA, 24, .inl f1)), (ad 3, .inr (0, [.ref (ad 10), .int (nI c2)])), (ad 10, .inl (kA, 24, .inl f2)), (ad 4, .inr (0, [.ref (ad 11), .int (nI c3)])), (ad 11, .inl (kA, 24, .inl f3))] (some (.int (nI (cnB (zN n) (fun p => !zX_inL fp c1 f1 p))))) := by
  refine vz_start (cc := cX1_missing) (maxL := 3) (ret := (some .int)) (own := RX1) (by decide) rfl rfl (Nat.le_of_ble_eq_true rfl) ?_
  intro pz ez sz mz below meth cz args Q ls hargs hx hb hml hown hts hr hlocks hP hK hQ hl
  have hcf : CallFix pz mz cz cX1_missing 3 sz args wsX1_missing RX1 := ⟨hx, hb, hml, hown, hts⟩
  have hl : lv_has ls 3 [(0, .ref (ad 0)), (1, .int (nI 1))] := hl
  refine lv_aload_n hx hb dX1_missing_0 rfl (lv_at hl 0 rfl) ?_
  refine lv_iload_n hx hb dX1_missing_1 rfl (lv_at hl 1 rfl) ?_
  refine vz_callV (n := 1) (As := [.int (nI 1)]) (rest := []) (q0 := 0) hcf (c_X1_listAt1 l D kA ad n fp fk fh hn) gX1_missing_X1_listAt rfl hd_X1_listAt ⟨Nat.le_of_ble_eq_true rfl, Nat.le_of_ble_eq_true rfl⟩ hK (hP.sub [0, 1, 2, 3] rfl) rfl rfl rfl rfl hl.1 rfl (Nat.le_of_ble_eq_true rfl) ⟨Nat.zero_le _, Nat.zero_le _⟩ dX1_missing_2 ?_
  refine lv_astore_n (lv' := [(2, .ref (ad 2)), (0, .ref (ad 0)), (1, .int (nI 1))]) hx hb dX1_missing_5 rfl hl (by decide) rfl (fun ls hl => ?_)
  refine lv_aload_n hx hb dX1_missing_6 rfl (lv_at hl 0 rfl) ?_
  refine lv_ifnonnull (tgt := 14) hx hb dX1_missing_7 (by decide) ?_
  refine lv_aload_n hx hb dX1_missing_14 rfl (lv_at hl 1 rfl) ?_
  refine lv_aload_n hx hb dX1_missing_15 rfl (lv_at hl 0 rfl) ?_
  refine vz_callV (n := 1) (As := [.ref (ad 2)]) (rest := []) (q0 := 0) hcf (c_X1_countMissing l D kA ad n fp fk fh hn (ad 2) (ad 9) c1 f1 hc) gX1_missing_X1_countMissing rfl hd_X1_countMissing ⟨Nat.le_of_ble_eq_true rfl, Nat.le_of_ble_eq_true rfl⟩ hK (hP.sub [0, 1, 2, 3, 6, 7] rfl) rfl rfl rfl rfl hl.1 rfl (Nat.le_of_ble_eq_true rfl) ⟨Nat.zero_le _, Nat.zero_le _⟩ dX1_missing_16 ?_
  exact vz_iret hx hb hr hlocks hQ (vp_nar_int _) dX1_missing_19 rfl
set_option maxHeartbeats 4000000 in
set_option maxRecDepth 100000 in
theorem c_X1_tautology1 (l : Launch) (D : va_G) (kA : ClassId) (ad : Nat → Nat) (n : Nat) (fp fk fh : Nat → Int32) (c0 c1 c2 c3 : Nat) (f0 f1 f2 f3 : Nat → Int32) (hn : n ≤ 8) (hc : c1 ≤ 24) : vz_M l yX1_tautology wsX1_tautology 3 69 [.ref (ad 0), .int (nI 1)] D kA [(ad 0, .inr (1, [.ref (ad 1), .ref (ad 2), .ref (ad 3), .ref (ad 4), .ref (ad 5), .ref (ad 6), .ref (ad 7), .int (nI n)])), (ad 5, .inl (kA, 256, .inl fp)), (ad 6, .inl (kA, 256, .inl fk)), (ad 7, .inl (kA, 256, .inl fh)), (ad 1, .inr (0, [.ref (ad 8), .int (nI c0)])), (ad 8, .inl (kA, 24, .inl f0)), (ad 2, .inr (0, [.ref (ad 9), .int (nI c1)])), (ad 9, .inl (kA, 24, .inl f1)), (ad 3, .inr (0, [.ref (ad 10), .int (nI c2)])), (ad 10, .inl (kA, 24, .inl f2)), (ad 4, .inr (0, [.ref (ad 11), .int (nI c3)])), (ad 11, .inl (kA, 24, .inl f3))] (some (.int (vz_b (decide (cnB (zN n) (fun p => !zX_inL fp c1 f1 p) = 0))))) := by
  refine vz_start (cc := cX1_tautology) (maxL := 3) (ret := (some .boolean)) (own := RX1) (by decide) rfl rfl (Nat.le_of_ble_eq_true rfl) ?_
  intro pz ez sz mz below meth cz args Q ls hargs hx hb hml hown hts hr hlocks hP hK hQ hl
  have hcf : CallFix pz mz cz cX1_tautology 3 sz args wsX1_tautology RX1 := ⟨hx, hb, hml, hown, hts⟩
  have hl : lv_has ls 3 [(0, .ref (ad 0)), (1, .int (nI 1))] := hl
  have hN := zN_le hn
  have hm := cnB_le (zN n) (fun p => !zX_inL fp c1 f1 p)
  refine lv_aload_n hx hb dX1_tautology_0 rfl (lv_at hl 0 rfl) ?_
  refine lv_iload_n hx hb dX1_tautology_1 rfl (lv_at hl 1 rfl) ?_
  refine vz_callV (n := 1) (As := [.int (nI 1)]) (rest := []) (q0 := 0) hcf (c_X1_listAt1 l D kA ad n fp fk fh hn) gX1_tautology_X1_listAt rfl hd_X1_listAt ⟨Nat.le_of_ble_eq_true rfl, Nat.le_of_ble_eq_true rfl⟩ hK (hP.sub [0, 1, 2, 3] rfl) rfl rfl rfl rfl hl.1 rfl (Nat.le_of_ble_eq_true rfl) ⟨Nat.zero_le _, Nat.zero_le _⟩ dX1_tautology_2 ?_
  refine lv_astore_n (lv' := [(2, .ref (ad 2)), (0, .ref (ad 0)), (1, .int (nI 1))]) hx hb dX1_tautology_5 rfl hl (by decide) rfl (fun ls hl => ?_)
  refine lv_aload_n hx hb dX1_tautology_6 rfl (lv_at hl 0 rfl) ?_
  refine lv_ifnull hx hb dX1_tautology_7 ?_
  refine lv_aload_n hx hb dX1_tautology_10 rfl (lv_at hl 1 rfl) ?_
  refine lv_aload_n hx hb dX1_tautology_11 rfl (lv_at hl 0 rfl) ?_
  refine vz_callV (n := 1) (As := [.ref (ad 2)]) (rest := []) (q0 := 0) hcf (c_X1_countMissing l D kA ad n fp fk fh hn (ad 2) (ad 9) c1 f1 hc) gX1_tautology_X1_countMissing rfl hd_X1_countMissing ⟨Nat.le_of_ble_eq_true rfl, Nat.le_of_ble_eq_true rfl⟩ hK (hP.sub [0, 1, 2, 3, 6, 7] rfl) rfl rfl rfl rfl hl.1 rfl (Nat.le_of_ble_eq_true rfl) ⟨Nat.zero_le _, Nat.zero_le _⟩ dX1_tautology_12 ?_
  refine lv_if_ne (tgt := 22) hx hb dX1_tautology_15 (by decide) (fun c_15 => ?_) (fun c_15 => ?_)
  · skip
    have c_16 := fun q => c_15 (congrArg nI q)
    refine lv_iconst (v := nI 0) hx hb dX1_tautology_22 (by decide) ?_
    exact vz_iret hx hb hr hlocks hQ (rfl) dX1_tautology_23 (by first | (rw [decide_eq_true c_16]; rfl) | (rw [decide_eq_false (fun q => c_15 (congrArg nI q))]; rfl))
  · skip
    have c_16 := (nI_eq (by omega) (by omega)).mp (c_15.trans nI_0.symm)
    refine lv_iconst (v := nI 1) hx hb dX1_tautology_18 (by decide) ?_
    refine lv_goto (tgt := 23) hx hb dX1_tautology_19 (by decide) ?_
    exact vz_iret hx hb hr hlocks hQ (rfl) dX1_tautology_23 (by first | (rw [decide_eq_true c_16]; rfl) | (rw [decide_eq_false (fun q => c_15 (congrArg nI q))]; rfl))
set_option maxHeartbeats 4000000 in
set_option maxRecDepth 100000 in
theorem c_X1_holds1 (l : Launch) (D : va_G) (kA : ClassId) (ad : Nat → Nat) (n : Nat) (fp fk fh : Nat → Int32) (c0 c1 c2 c3 : Nat) (f0 f1 f2 f3 : Nat → Int32) (hn : n ≤ 8) (hc : c1 ≤ 24) (z : Int32) : vz_M l yX1_holds wsX1_holds 2 45 [.ref (ad 0), .int (nI 1), .int z] D kA [(ad 0, .inr (1, [.ref (ad 1), .ref (ad 2), .ref (ad 3), .ref (ad 4), .ref (ad 5), .ref (ad 6), .ref (ad 7), .int (nI n)])), (ad 5, .inl (kA, 256, .inl fp)), (ad 6, .inl (kA, 256, .inl fk)), (ad 7, .inl (kA, 256, .inl fh)), (ad 1, .inr (0, [.ref (ad 8), .int (nI c0)])), (ad 8, .inl (kA, 24, .inl f0)), (ad 2, .inr (0, [.ref (ad 9), .int (nI c1)])), (ad 9, .inl (kA, 24, .inl f1)), (ad 3, .inr (0, [.ref (ad 10), .int (nI c2)])), (ad 10, .inl (kA, 24, .inl f2)), (ad 4, .inr (0, [.ref (ad 11), .int (nI c3)])), (ad 11, .inl (kA, 24, .inl f3))] (some (.int (vz_b ((!decide (z < 0) && !decide (nI (zN n) ≤ z)) && zX_inL fp c1 f1 z.toNatClampNeg)))) := by
  refine vz_start (cc := cX1_holds) (maxL := 4) (ret := (some .boolean)) (own := RX1) (by decide) rfl rfl (Nat.le_of_ble_eq_true rfl) ?_
  intro pz ez sz mz below meth cz args Q ls hargs hx hb hml hown hts hr hlocks hP hK hQ hl
  have hcf : CallFix pz mz cz cX1_holds 4 sz args wsX1_holds RX1 := ⟨hx, hb, hml, hown, hts⟩
  have hl : lv_has ls 4 [(0, .ref (ad 0)), (1, .int (nI 1)), (2, .int z)] := hl
  have hN := zN_le hn
  refine lv_aload_n hx hb dX1_holds_0 rfl (lv_at hl 0 rfl) ?_
  refine lv_iload_n hx hb dX1_holds_1 rfl (lv_at hl 1 rfl) ?_
  refine vz_callV (n := 1) (As := [.int (nI 1)]) (rest := []) (q0 := 0) hcf (c_X1_listAt1 l D kA ad n fp fk fh hn) gX1_holds_X1_listAt rfl hd_X1_listAt ⟨Nat.le_of_ble_eq_true rfl, Nat.le_of_ble_eq_true rfl⟩ hK (hP.sub [0, 1, 2, 3] rfl) rfl rfl rfl rfl hl.1 rfl (Nat.le_of_ble_eq_true rfl) ⟨Nat.zero_le _, Nat.zero_le _⟩ dX1_holds_2 ?_
  refine lv_astore_n (lv' := [(3, .ref (ad 2)), (0, .ref (ad 0)), (1, .int (nI 1)), (2, .int z)]) hx hb dX1_holds_5 rfl hl (by decide) rfl (fun ls hl => ?_)
  refine lv_aload_n hx hb dX1_holds_6 rfl (lv_at hl 0 rfl) ?_
  refine lv_ifnull hx hb dX1_holds_7 ?_
  refine lv_aload_n hx hb dX1_holds_10 rfl (lv_at hl 1 rfl) ?_
  refine lv_iload_n hx hb dX1_holds_11 rfl (lv_at hl 3 rfl) ?_
  refine vz_callV (n := 1) (As := [.int z]) (rest := []) (q0 := 0) hcf (c_X1_isPoint l D kA ad n fp fk fh hn z) gX1_holds_X1_isPoint rfl hd_X1_isPoint ⟨Nat.le_of_ble_eq_true rfl, Nat.le_of_ble_eq_true rfl⟩ hK (hP.sub [0, 1, 2, 3] rfl) rfl rfl rfl rfl hl.1 rfl (Nat.le_of_ble_eq_true rfl) ⟨Nat.zero_le _, Nat.zero_le _⟩ dX1_holds_12 ?_
  refine vz_ifeqB (tgt := 31) hx hb dX1_holds_15 (by decide) (fun c_15 => ?_) (fun c_15 => ?_)
  · skip
    refine lv_iconst (v := nI 0) hx hb dX1_holds_31 (by decide) ?_
    exact vz_iret hx hb hr hlocks hQ (rfl) dX1_holds_32 (by first | rfl | (rw [c_15]; rfl) | (rw [hqc, c_24, c_15]; rfl) | (rw [c_15]; rw [hqc, c_24]; rfl) | (rw [hqc, c_24]; simp; rfl))
  · skip
    obtain ⟨q, hq, rfl⟩ : ∃ q : Nat, q < zN n ∧ z = nI q := by
      simp only [Bool.and_eq_true, Bool.not_eq_true', decide_eq_false_iff_not] at c_15
      rcases pk_ix z (n := zN n) (by omega) with h1 | h1 | h1
      · exact absurd h1 c_15.1
      · exact absurd h1 c_15.2
      · exact h1
    have hqc : (nI q).toNatClampNeg = q := nI_clamp (by omega)
    refine lv_aload_n hx hb dX1_holds_18 rfl (lv_at hl 1 rfl) ?_
    refine lv_aload_n hx hb dX1_holds_19 rfl (lv_at hl 0 rfl) ?_
    refine lv_iload_n hx hb dX1_holds_20 rfl (lv_at hl 3 rfl) ?_
    refine vz_callV (n := 2) (As := [.ref (ad 2), .int (nI q)]) (rest := []) (q0 := 0) hcf (c_X1_isInList l D kA ad n fp fk fh hn (ad 2) (ad 9) c1 f1 hc q (by omega)) gX1_holds_X1_isInList rfl hd_X1_isInList ⟨Nat.le_of_ble_eq_true rfl, Nat.le_of_ble_eq_true rfl⟩ hK (hP.sub [0, 1, 2, 3, 6, 7] rfl) rfl rfl rfl rfl hl.1 rfl (Nat.le_of_ble_eq_true rfl) ⟨Nat.zero_le _, Nat.zero_le _⟩ dX1_holds_21 ?_
    refine vz_ifeqB (tgt := 31) hx hb dX1_holds_24 (by decide) (fun c_24 => ?_) (fun c_24 => ?_)
    · skip
      refine lv_iconst (v := nI 0) hx hb dX1_holds_31 (by decide) ?_
      exact vz_iret hx hb hr hlocks hQ (rfl) dX1_holds_32 (by first | rfl | (rw [c_15]; rfl) | (rw [hqc, c_24, c_15]; rfl) | (rw [c_15]; rw [hqc, c_24]; rfl) | (rw [hqc, c_24]; simp; rfl))
    · skip
      refine lv_iconst (v := nI 1) hx hb dX1_holds_27 (by decide) ?_
      refine lv_goto (tgt := 32) hx hb dX1_holds_28 (by decide) ?_
      exact vz_iret hx hb hr hlocks hQ (rfl) dX1_holds_32 (by first | rfl | (rw [c_15]; rfl) | (rw [hqc, c_24, c_15]; rfl) | (rw [c_15]; rw [hqc, c_24]; rfl) | (rw [hqc, c_24]; simp; rfl))
set_option maxHeartbeats 4000000 in
set_option maxRecDepth 100000 in
theorem c_X1_prime1 (l : Launch) (D : va_G) (kA : ClassId) (ad : Nat → Nat) (n : Nat) (fp fk fh : Nat → Int32) (c0 c1 c2 c3 : Nat) (f0 f1 f2 f3 : Nat → Int32) (hn : n ≤ 8) (hc : c1 ≤ 24) (z : Int32) : vz_M l yX1_prime wsX1_prime 3 68 [.ref (ad 0), .int (nI 1), .int z] D kA [(ad 0, .inr (1, [.ref (ad 1), .ref (ad 2), .ref (ad 3), .ref (ad 4), .ref (ad 5), .ref (ad 6), .ref (ad 7), .int (nI n)])), (ad 5, .inl (kA, 256, .inl fp)), (ad 6, .inl (kA, 256, .inl fk)), (ad 7, .inl (kA, 256, .inl fh)), (ad 1, .inr (0, [.ref (ad 8), .int (nI c0)])), (ad 8, .inl (kA, 24, .inl f0)), (ad 2, .inr (0, [.ref (ad 9), .int (nI c1)])), (ad 9, .inl (kA, 24, .inl f1)), (ad 3, .inr (0, [.ref (ad 10), .int (nI c2)])), (ad 10, .inl (kA, 24, .inl f2)), (ad 4, .inr (0, [.ref (ad 11), .int (nI c3)])), (ad 11, .inl (kA, 24, .inl f3))] (some (.int (vz_b (!decide (zat c1 f1 z = -1) && (!zvoid n (zat c1 f1 z) && (!ztch n fk (zX_in fp) (zat c1 f1 z) && !zcg n (ztch n fk (zX_in fp)) (zat c1 f1 z))))))) := by
  refine vz_start (cc := cX1_prime) (maxL := 5) (ret := (some .boolean)) (own := RX1) (by decide) rfl rfl (Nat.le_of_ble_eq_true rfl) ?_
  intro pz ez sz mz below meth cz args Q ls hargs hx hb hml hown hts hr hlocks hP hK hQ hl
  have hcf : CallFix pz mz cz cX1_prime 5 sz args wsX1_prime RX1 := ⟨hx, hb, hml, hown, hts⟩
  have hl : lv_has ls 5 [(0, .ref (ad 0)), (1, .int (nI 1)), (2, .int z)] := hl
  refine lv_aload_n hx hb dX1_prime_0 rfl (lv_at hl 0 rfl) ?_
  refine lv_iload_n hx hb dX1_prime_1 rfl (lv_at hl 1 rfl) ?_
  refine vz_callV (n := 1) (As := [.int (nI 1)]) (rest := []) (q0 := 0) hcf (c_X1_listAt1 l D kA ad n fp fk fh hn) gX1_prime_X1_listAt rfl hd_X1_listAt ⟨Nat.le_of_ble_eq_true rfl, Nat.le_of_ble_eq_true rfl⟩ hK (hP.sub [0, 1, 2, 3] rfl) rfl rfl rfl rfl hl.1 rfl (Nat.le_of_ble_eq_true rfl) ⟨Nat.zero_le _, Nat.zero_le _⟩ dX1_prime_2 ?_
  refine lv_astore_n (lv' := [(3, .ref (ad 2)), (0, .ref (ad 0)), (1, .int (nI 1)), (2, .int z)]) hx hb dX1_prime_5 rfl hl (by decide) rfl (fun ls hl => ?_)
  refine lv_aload_n hx hb dX1_prime_6 rfl (lv_at hl 0 rfl) ?_
  refine lv_ifnonnull (tgt := 12) hx hb dX1_prime_7 (by decide) ?_
  refine lv_aload_n hx hb dX1_prime_12 rfl (lv_at hl 0 rfl) ?_
  refine lv_iload_n hx hb dX1_prime_13 rfl (lv_at hl 3 rfl) ?_
  refine vz_callV (n := 1) (As := [.int z]) (rest := []) (q0 := 0) hcf (c_X0_at l D kA (ad 2) (ad 9) c1 f1 hc z) gX1_prime_X0_at rfl hd_X0_at ⟨Nat.le_of_ble_eq_true rfl, Nat.le_of_ble_eq_true rfl⟩ hK (hP.sub [6, 7] rfl) rfl rfl rfl rfl hl.1 rfl (Nat.le_of_ble_eq_true rfl) ⟨Nat.zero_le _, Nat.zero_le _⟩ dX1_prime_14 ?_
  refine lv_istore (lv' := [(4, .int (zat c1 f1 z)), (3, .ref (ad 2)), (0, .ref (ad 0)), (1, .int (nI 1)), (2, .int z)]) hx hb dX1_prime_17 hl (by decide) rfl (fun ls hl => ?_)
  refine lv_iload hx hb dX1_prime_19 (lv_at hl 0 rfl) ?_
  refine lv_iconst (v := -1) hx hb dX1_prime_21 (by decide) ?_
  refine lv_icmp_eq (tgt := 56) hx hb dX1_prime_22 (by decide) (fun c_22 => ?_) (fun c_22 => ?_)
  · skip
    refine lv_iconst (v := nI 0) hx hb dX1_prime_56 (by decide) ?_
    exact vz_iret hx hb hr hlocks hQ (rfl) dX1_prime_57 (by first | (rw [decide_eq_true c_22]; rfl) | (rw [decide_eq_false c_22, c_31]; rfl) | (rw [decide_eq_false c_22, c_31, c_40]; rfl) | (rw [decide_eq_false c_22, c_31, c_40, c_49]; rfl))
  · skip
    refine lv_aload_n hx hb dX1_prime_25 rfl (lv_at hl 2 rfl) ?_
    refine lv_iload hx hb dX1_prime_26 (lv_at hl 0 rfl) ?_
    refine vz_callV (n := 1) (As := [.int (zat c1 f1 z)]) (rest := []) (q0 := 0) hcf (c_X1_isVoid l D kA ad n fp fk fh hn (zat c1 f1 z)) gX1_prime_X1_isVoid rfl hd_X1_isVoid ⟨Nat.le_of_ble_eq_true rfl, Nat.le_of_ble_eq_true rfl⟩ hK (hP.sub [0, 1, 2, 3] rfl) rfl rfl rfl rfl hl.1 rfl (Nat.le_of_ble_eq_true rfl) ⟨Nat.zero_le _, Nat.zero_le _⟩ dX1_prime_28 ?_
    refine vz_ifneB (tgt := 56) hx hb dX1_prime_31 (by decide) (fun c_31 => ?_) (fun c_31 => ?_)
    · skip
      refine lv_iconst (v := nI 0) hx hb dX1_prime_56 (by decide) ?_
      exact vz_iret hx hb hr hlocks hQ (rfl) dX1_prime_57 (by first | (rw [decide_eq_true c_22]; rfl) | (rw [decide_eq_false c_22, c_31]; rfl) | (rw [decide_eq_false c_22, c_31, c_40]; rfl) | (rw [decide_eq_false c_22, c_31, c_40, c_49]; rfl))
    · skip
      refine lv_aload_n hx hb dX1_prime_34 rfl (lv_at hl 2 rfl) ?_
      refine lv_iload hx hb dX1_prime_35 (lv_at hl 0 rfl) ?_
      refine vz_callV (n := 1) (As := [.int (zat c1 f1 z)]) (rest := []) (q0 := 0) hcf (c_X1_touches l D kA ad n fp fk fh hn (zat c1 f1 z)) gX1_prime_X1_touches rfl hd_X1_touches ⟨Nat.le_of_ble_eq_true rfl, Nat.le_of_ble_eq_true rfl⟩ hK (hP.sub [0, 1, 2, 3] rfl) rfl rfl rfl rfl hl.1 rfl (Nat.le_of_ble_eq_true rfl) ⟨Nat.zero_le _, Nat.zero_le _⟩ dX1_prime_37 ?_
      refine vz_ifneB (tgt := 56) hx hb dX1_prime_40 (by decide) (fun c_40 => ?_) (fun c_40 => ?_)
      · skip
        refine lv_iconst (v := nI 0) hx hb dX1_prime_56 (by decide) ?_
        exact vz_iret hx hb hr hlocks hQ (rfl) dX1_prime_57 (by first | (rw [decide_eq_true c_22]; rfl) | (rw [decide_eq_false c_22, c_31]; rfl) | (rw [decide_eq_false c_22, c_31, c_40]; rfl) | (rw [decide_eq_false c_22, c_31, c_40, c_49]; rfl))
      · skip
        refine lv_aload_n hx hb dX1_prime_43 rfl (lv_at hl 2 rfl) ?_
        refine lv_iload hx hb dX1_prime_44 (lv_at hl 0 rfl) ?_
        refine vz_callV (n := 1) (As := [.int (zat c1 f1 z)]) (rest := []) (q0 := 0) hcf (c_X1_cannotGrow l D kA ad n fp fk fh hn (zat c1 f1 z)) gX1_prime_X1_cannotGrow rfl hd_X1_cannotGrow ⟨Nat.le_of_ble_eq_true rfl, Nat.le_of_ble_eq_true rfl⟩ hK (hP.sub [0, 1, 2, 3] rfl) rfl rfl rfl rfl hl.1 rfl (Nat.le_of_ble_eq_true rfl) ⟨Nat.zero_le _, Nat.zero_le _⟩ dX1_prime_46 ?_
        refine vz_ifeqB (tgt := 56) hx hb dX1_prime_49 (by decide) (fun c_49 => ?_) (fun c_49 => ?_)
        · skip
          refine lv_iconst (v := nI 0) hx hb dX1_prime_56 (by decide) ?_
          exact vz_iret hx hb hr hlocks hQ (rfl) dX1_prime_57 (by first | (rw [decide_eq_true c_22]; rfl) | (rw [decide_eq_false c_22, c_31]; rfl) | (rw [decide_eq_false c_22, c_31, c_40]; rfl) | (rw [decide_eq_false c_22, c_31, c_40, c_49]; rfl))
        · skip
          refine lv_iconst (v := nI 1) hx hb dX1_prime_52 (by decide) ?_
          refine lv_goto (tgt := 57) hx hb dX1_prime_53 (by decide) ?_
          exact vz_iret hx hb hr hlocks hQ (rfl) dX1_prime_57 (by first | (rw [decide_eq_true c_22]; rfl) | (rw [decide_eq_false c_22, c_31]; rfl) | (rw [decide_eq_false c_22, c_31, c_40]; rfl) | (rw [decide_eq_false c_22, c_31, c_40, c_49]; rfl))
set_option maxHeartbeats 4000000 in
set_option maxRecDepth 100000 in
theorem c_X1_size2 (l : Launch) (D : va_G) (kA : ClassId) (ad : Nat → Nat) (n : Nat) (fp fk fh : Nat → Int32) (c0 c1 c2 c3 : Nat) (f0 f1 f2 f3 : Nat → Int32) (hn : n ≤ 8) (hc : c2 ≤ 24) : vz_M l yX1_size wsX1_size 1 21 [.ref (ad 0), .int (nI 2)] D kA [(ad 0, .inr (1, [.ref (ad 1), .ref (ad 2), .ref (ad 3), .ref (ad 4), .ref (ad 5), .ref (ad 6), .ref (ad 7), .int (nI n)])), (ad 5, .inl (kA, 256, .inl fp)), (ad 6, .inl (kA, 256, .inl fk)), (ad 7, .inl (kA, 256, .inl fh)), (ad 1, .inr (0, [.ref (ad 8), .int (nI c0)])), (ad 8, .inl (kA, 24, .inl f0)), (ad 2, .inr (0, [.ref (ad 9), .int (nI c1)])), (ad 9, .inl (kA, 24, .inl f1)), (ad 3, .inr (0, [.ref (ad 10), .int (nI c2)])), (ad 10, .inl (kA, 24, .inl f2)), (ad 4, .inr (0, [.ref (ad 11), .int (nI c3)])), (ad 11, .inl (kA, 24, .inl f3))] (some (.int (nI c2))) := by
  refine vz_start (cc := cX1_size) (maxL := 3) (ret := (some .int)) (own := RX1) (by decide) rfl rfl (Nat.le_of_ble_eq_true rfl) ?_
  intro pz ez sz mz below meth cz args Q ls hargs hx hb hml hown hts hr hlocks hP hK hQ hl
  have hcf : CallFix pz mz cz cX1_size 3 sz args wsX1_size RX1 := ⟨hx, hb, hml, hown, hts⟩
  have hl : lv_has ls 3 [(0, .ref (ad 0)), (1, .int (nI 2))] := hl
  refine lv_aload_n hx hb dX1_size_0 rfl (lv_at hl 0 rfl) ?_
  refine lv_iload_n hx hb dX1_size_1 rfl (lv_at hl 1 rfl) ?_
  refine vz_callV (n := 1) (As := [.int (nI 2)]) (rest := []) (q0 := 0) hcf (c_X1_listAt2 l D kA ad n fp fk fh hn) gX1_size_X1_listAt rfl hd_X1_listAt ⟨Nat.le_of_ble_eq_true rfl, Nat.le_of_ble_eq_true rfl⟩ hK (hP.sub [0, 1, 2, 3] rfl) rfl rfl rfl rfl hl.1 rfl (Nat.le_of_ble_eq_true rfl) ⟨Nat.zero_le _, Nat.zero_le _⟩ dX1_size_2 ?_
  refine lv_astore_n (lv' := [(2, .ref (ad 3)), (0, .ref (ad 0)), (1, .int (nI 2))]) hx hb dX1_size_5 rfl hl (by decide) rfl (fun ls hl => ?_)
  refine lv_aload_n hx hb dX1_size_6 rfl (lv_at hl 0 rfl) ?_
  refine lv_ifnonnull (tgt := 14) hx hb dX1_size_7 (by decide) ?_
  refine lv_aload_n hx hb dX1_size_14 rfl (lv_at hl 0 rfl) ?_
  refine vz_callV (n := 0) (As := []) (rest := []) (q0 := 0) hcf (c_X0_length l D kA (ad 3) (ad 10) c2 f2 hc) gX1_size_X0_length rfl hd_X0_length ⟨Nat.le_of_ble_eq_true rfl, Nat.le_of_ble_eq_true rfl⟩ hK (hP.sub [8, 9] rfl) rfl rfl rfl rfl hl.1 rfl (Nat.le_of_ble_eq_true rfl) ⟨Nat.zero_le _, Nat.zero_le _⟩ dX1_size_15 ?_
  exact vz_iret hx hb hr hlocks hQ (vp_nar_int _) dX1_size_18 rfl
set_option maxHeartbeats 4000000 in
set_option maxRecDepth 100000 in
theorem c_X1_cube2 (l : Launch) (D : va_G) (kA : ClassId) (ad : Nat → Nat) (n : Nat) (fp fk fh : Nat → Int32) (c0 c1 c2 c3 : Nat) (f0 f1 f2 f3 : Nat → Int32) (hn : n ≤ 8) (hc : c2 ≤ 24) (z : Int32) : vz_M l yX1_cube wsX1_cube 1 21 [.ref (ad 0), .int (nI 2), .int z] D kA [(ad 0, .inr (1, [.ref (ad 1), .ref (ad 2), .ref (ad 3), .ref (ad 4), .ref (ad 5), .ref (ad 6), .ref (ad 7), .int (nI n)])), (ad 5, .inl (kA, 256, .inl fp)), (ad 6, .inl (kA, 256, .inl fk)), (ad 7, .inl (kA, 256, .inl fh)), (ad 1, .inr (0, [.ref (ad 8), .int (nI c0)])), (ad 8, .inl (kA, 24, .inl f0)), (ad 2, .inr (0, [.ref (ad 9), .int (nI c1)])), (ad 9, .inl (kA, 24, .inl f1)), (ad 3, .inr (0, [.ref (ad 10), .int (nI c2)])), (ad 10, .inl (kA, 24, .inl f2)), (ad 4, .inr (0, [.ref (ad 11), .int (nI c3)])), (ad 11, .inl (kA, 24, .inl f3))] (some (.int (zat c2 f2 z))) := by
  refine vz_start (cc := cX1_cube) (maxL := 4) (ret := (some .int)) (own := RX1) (by decide) rfl rfl (Nat.le_of_ble_eq_true rfl) ?_
  intro pz ez sz mz below meth cz args Q ls hargs hx hb hml hown hts hr hlocks hP hK hQ hl
  have hcf : CallFix pz mz cz cX1_cube 4 sz args wsX1_cube RX1 := ⟨hx, hb, hml, hown, hts⟩
  have hl : lv_has ls 4 [(0, .ref (ad 0)), (1, .int (nI 2)), (2, .int z)] := hl
  refine lv_aload_n hx hb dX1_cube_0 rfl (lv_at hl 0 rfl) ?_
  refine lv_iload_n hx hb dX1_cube_1 rfl (lv_at hl 1 rfl) ?_
  refine vz_callV (n := 1) (As := [.int (nI 2)]) (rest := []) (q0 := 0) hcf (c_X1_listAt2 l D kA ad n fp fk fh hn) gX1_cube_X1_listAt rfl hd_X1_listAt ⟨Nat.le_of_ble_eq_true rfl, Nat.le_of_ble_eq_true rfl⟩ hK (hP.sub [0, 1, 2, 3] rfl) rfl rfl rfl rfl hl.1 rfl (Nat.le_of_ble_eq_true rfl) ⟨Nat.zero_le _, Nat.zero_le _⟩ dX1_cube_2 ?_
  refine lv_astore_n (lv' := [(3, .ref (ad 3)), (0, .ref (ad 0)), (1, .int (nI 2)), (2, .int z)]) hx hb dX1_cube_5 rfl hl (by decide) rfl (fun ls hl => ?_)
  refine lv_aload_n hx hb dX1_cube_6 rfl (lv_at hl 0 rfl) ?_
  refine lv_ifnonnull (tgt := 14) hx hb dX1_cube_7 (by decide) ?_
  refine lv_aload_n hx hb dX1_cube_14 rfl (lv_at hl 0 rfl) ?_
  refine lv_iload_n hx hb dX1_cube_15 rfl (lv_at hl 3 rfl) ?_
  refine vz_callV (n := 1) (As := [.int z]) (rest := []) (q0 := 0) hcf (c_X0_at l D kA (ad 3) (ad 10) c2 f2 hc z) gX1_cube_X0_at rfl hd_X0_at ⟨Nat.le_of_ble_eq_true rfl, Nat.le_of_ble_eq_true rfl⟩ hK (hP.sub [8, 9] rfl) rfl rfl rfl rfl hl.1 rfl (Nat.le_of_ble_eq_true rfl) ⟨Nat.zero_le _, Nat.zero_le _⟩ dX1_cube_16 ?_
  exact vz_iret hx hb hr hlocks hQ (vp_nar_int _) dX1_cube_19 rfl
set_option maxHeartbeats 4000000 in
set_option maxRecDepth 100000 in
theorem c_X1_literals2 (l : Launch) (D : va_G) (kA : ClassId) (ad : Nat → Nat) (n : Nat) (fp fk fh : Nat → Int32) (c0 c1 c2 c3 : Nat) (f0 f1 f2 f3 : Nat → Int32) (hn : n ≤ 8) (hc : c2 ≤ 24) : vz_M l yX1_literals wsX1_literals 2 46 [.ref (ad 0), .int (nI 2)] D kA [(ad 0, .inr (1, [.ref (ad 1), .ref (ad 2), .ref (ad 3), .ref (ad 4), .ref (ad 5), .ref (ad 6), .ref (ad 7), .int (nI n)])), (ad 5, .inl (kA, 256, .inl fp)), (ad 6, .inl (kA, 256, .inl fk)), (ad 7, .inl (kA, 256, .inl fh)), (ad 1, .inr (0, [.ref (ad 8), .int (nI c0)])), (ad 8, .inl (kA, 24, .inl f0)), (ad 2, .inr (0, [.ref (ad 9), .int (nI c1)])), (ad 9, .inl (kA, 24, .inl f1)), (ad 3, .inr (0, [.ref (ad 10), .int (nI c2)])), (ad 10, .inl (kA, 24, .inl f2)), (ad 4, .inr (0, [.ref (ad 11), .int (nI c3)])), (ad 11, .inl (kA, 24, .inl f3))] (some (.int (nI (zlits n c2 f2)))) := by
  refine vz_start (cc := cX1_literals) (maxL := 3) (ret := (some .int)) (own := RX1) (by decide) rfl rfl (Nat.le_of_ble_eq_true rfl) ?_
  intro pz ez sz mz below meth cz args Q ls hargs hx hb hml hown hts hr hlocks hP hK hQ hl
  have hcf : CallFix pz mz cz cX1_literals 3 sz args wsX1_literals RX1 := ⟨hx, hb, hml, hown, hts⟩
  have hl : lv_has ls 3 [(0, .ref (ad 0)), (1, .int (nI 2))] := hl
  refine lv_aload_n hx hb dX1_literals_0 rfl (lv_at hl 0 rfl) ?_
  refine lv_iload_n hx hb dX1_literals_1 rfl (lv_at hl 1 rfl) ?_
  refine vz_callV (n := 1) (As := [.int (nI 2)]) (rest := []) (q0 := 0) hcf (c_X1_listAt2 l D kA ad n fp fk fh hn) gX1_literals_X1_listAt rfl hd_X1_listAt ⟨Nat.le_of_ble_eq_true rfl, Nat.le_of_ble_eq_true rfl⟩ hK (hP.sub [0, 1, 2, 3] rfl) rfl rfl rfl rfl hl.1 rfl (Nat.le_of_ble_eq_true rfl) ⟨Nat.zero_le _, Nat.zero_le _⟩ dX1_literals_2 ?_
  refine lv_astore_n (lv' := [(2, .ref (ad 3)), (0, .ref (ad 0)), (1, .int (nI 2))]) hx hb dX1_literals_5 rfl hl (by decide) rfl (fun ls hl => ?_)
  refine lv_aload_n hx hb dX1_literals_6 rfl (lv_at hl 0 rfl) ?_
  refine lv_ifnonnull (tgt := 14) hx hb dX1_literals_7 (by decide) ?_
  refine lv_aload_n hx hb dX1_literals_14 rfl (lv_at hl 1 rfl) ?_
  refine lv_aload_n hx hb dX1_literals_15 rfl (lv_at hl 0 rfl) ?_
  refine vz_callV (n := 1) (As := [.ref (ad 3)]) (rest := []) (q0 := 0) hcf (c_X1_countLiterals l D kA ad n fp fk fh hn (ad 3) (ad 10) c2 f2 hc) gX1_literals_X1_countLiterals rfl hd_X1_countLiterals ⟨Nat.le_of_ble_eq_true rfl, Nat.le_of_ble_eq_true rfl⟩ hK (hP.sub [0, 1, 2, 3, 8, 9] rfl) rfl rfl rfl rfl hl.1 rfl (Nat.le_of_ble_eq_true rfl) ⟨Nat.zero_le _, Nat.zero_le _⟩ dX1_literals_16 ?_
  exact vz_iret hx hb hr hlocks hQ (vp_nar_int _) dX1_literals_19 rfl
set_option maxHeartbeats 4000000 in
set_option maxRecDepth 100000 in
theorem c_X1_missing2 (l : Launch) (D : va_G) (kA : ClassId) (ad : Nat → Nat) (n : Nat) (fp fk fh : Nat → Int32) (c0 c1 c2 c3 : Nat) (f0 f1 f2 f3 : Nat → Int32) (hn : n ≤ 8) (hc : c2 ≤ 24) : vz_M l yX1_missing wsX1_missing 3 69 [.ref (ad 0), .int (nI 2)] D kA [(ad 0, .inr (1, [.ref (ad 1), .ref (ad 2), .ref (ad 3), .ref (ad 4), .ref (ad 5), .ref (ad 6), .ref (ad 7), .int (nI n)])), (ad 5, .inl (kA, 256, .inl fp)), (ad 6, .inl (kA, 256, .inl fk)), (ad 7, .inl (kA, 256, .inl fh)), (ad 1, .inr (0, [.ref (ad 8), .int (nI c0)])), (ad 8, .inl (kA, 24, .inl f0)), (ad 2, .inr (0, [.ref (ad 9), .int (nI c1)])), (ad 9, .inl (kA, 24, .inl f1)), (ad 3, .inr (0, [.ref (ad 10), .int (nI c2)])), (ad 10, .inl (kA, 24, .inl f2)), (ad 4, .inr (0, [.ref (ad 11), .int (nI c3)])), (ad 11, .inl (kA, 24, .inl f3))] (some (.int (nI (cnB (zN n) (fun p => !zX_inL fp c2 f2 p))))) := by
  refine vz_start (cc := cX1_missing) (maxL := 3) (ret := (some .int)) (own := RX1) (by decide) rfl rfl (Nat.le_of_ble_eq_true rfl) ?_
  intro pz ez sz mz below meth cz args Q ls hargs hx hb hml hown hts hr hlocks hP hK hQ hl
  have hcf : CallFix pz mz cz cX1_missing 3 sz args wsX1_missing RX1 := ⟨hx, hb, hml, hown, hts⟩
  have hl : lv_has ls 3 [(0, .ref (ad 0)), (1, .int (nI 2))] := hl
  refine lv_aload_n hx hb dX1_missing_0 rfl (lv_at hl 0 rfl) ?_
  refine lv_iload_n hx hb dX1_missing_1 rfl (lv_at hl 1 rfl) ?_
  refine vz_callV (n := 1) (As := [.int (nI 2)]) (rest := []) (q0 := 0) hcf (c_X1_listAt2 l D kA ad n fp fk fh hn) gX1_missing_X1_listAt rfl hd_X1_listAt ⟨Nat.le_of_ble_eq_true rfl, Nat.le_of_ble_eq_true rfl⟩ hK (hP.sub [0, 1, 2, 3] rfl) rfl rfl rfl rfl hl.1 rfl (Nat.le_of_ble_eq_true rfl) ⟨Nat.zero_le _, Nat.zero_le _⟩ dX1_missing_2 ?_
  refine lv_astore_n (lv' := [(2, .ref (ad 3)), (0, .ref (ad 0)), (1, .int (nI 2))]) hx hb dX1_missing_5 rfl hl (by decide) rfl (fun ls hl => ?_)
  refine lv_aload_n hx hb dX1_missing_6 rfl (lv_at hl 0 rfl) ?_
  refine lv_ifnonnull (tgt := 14) hx hb dX1_missing_7 (by decide) ?_
  refine lv_aload_n hx hb dX1_missing_14 rfl (lv_at hl 1 rfl) ?_
  refine lv_aload_n hx hb dX1_missing_15 rfl (lv_at hl 0 rfl) ?_
  refine vz_callV (n := 1) (As := [.ref (ad 3)]) (rest := []) (q0 := 0) hcf (c_X1_countMissing l D kA ad n fp fk fh hn (ad 3) (ad 10) c2 f2 hc) gX1_missing_X1_countMissing rfl hd_X1_countMissing ⟨Nat.le_of_ble_eq_true rfl, Nat.le_of_ble_eq_true rfl⟩ hK (hP.sub [0, 1, 2, 3, 8, 9] rfl) rfl rfl rfl rfl hl.1 rfl (Nat.le_of_ble_eq_true rfl) ⟨Nat.zero_le _, Nat.zero_le _⟩ dX1_missing_16 ?_
  exact vz_iret hx hb hr hlocks hQ (vp_nar_int _) dX1_missing_19 rfl
set_option maxHeartbeats 4000000 in
set_option maxRecDepth 100000 in
theorem c_X1_tautology2 (l : Launch) (D : va_G) (kA : ClassId) (ad : Nat → Nat) (n : Nat) (fp fk fh : Nat → Int32) (c0 c1 c2 c3 : Nat) (f0 f1 f2 f3 : Nat → Int32) (hn : n ≤ 8) (hc : c2 ≤ 24) : vz_M l yX1_tautology wsX1_tautology 3 69 [.ref (ad 0), .int (nI 2)] D kA [(ad 0, .inr (1, [.ref (ad 1), .ref (ad 2), .ref (ad 3), .ref (ad 4), .ref (ad 5), .ref (ad 6), .ref (ad 7), .int (nI n)])), (ad 5, .inl (kA, 256, .inl fp)), (ad 6, .inl (kA, 256, .inl fk)), (ad 7, .inl (kA, 256, .inl fh)), (ad 1, .inr (0, [.ref (ad 8), .int (nI c0)])), (ad 8, .inl (kA, 24, .inl f0)), (ad 2, .inr (0, [.ref (ad 9), .int (nI c1)])), (ad 9, .inl (kA, 24, .inl f1)), (ad 3, .inr (0, [.ref (ad 10), .int (nI c2)])), (ad 10, .inl (kA, 24, .inl f2)), (ad 4, .inr (0, [.ref (ad 11), .int (nI c3)])), (ad 11, .inl (kA, 24, .inl f3))] (some (.int (vz_b (decide (cnB (zN n) (fun p => !zX_inL fp c2 f2 p) = 0))))) := by
  refine vz_start (cc := cX1_tautology) (maxL := 3) (ret := (some .boolean)) (own := RX1) (by decide) rfl rfl (Nat.le_of_ble_eq_true rfl) ?_
  intro pz ez sz mz below meth cz args Q ls hargs hx hb hml hown hts hr hlocks hP hK hQ hl
  have hcf : CallFix pz mz cz cX1_tautology 3 sz args wsX1_tautology RX1 := ⟨hx, hb, hml, hown, hts⟩
  have hl : lv_has ls 3 [(0, .ref (ad 0)), (1, .int (nI 2))] := hl
  have hN := zN_le hn
  have hm := cnB_le (zN n) (fun p => !zX_inL fp c2 f2 p)
  refine lv_aload_n hx hb dX1_tautology_0 rfl (lv_at hl 0 rfl) ?_
  refine lv_iload_n hx hb dX1_tautology_1 rfl (lv_at hl 1 rfl) ?_
  refine vz_callV (n := 1) (As := [.int (nI 2)]) (rest := []) (q0 := 0) hcf (c_X1_listAt2 l D kA ad n fp fk fh hn) gX1_tautology_X1_listAt rfl hd_X1_listAt ⟨Nat.le_of_ble_eq_true rfl, Nat.le_of_ble_eq_true rfl⟩ hK (hP.sub [0, 1, 2, 3] rfl) rfl rfl rfl rfl hl.1 rfl (Nat.le_of_ble_eq_true rfl) ⟨Nat.zero_le _, Nat.zero_le _⟩ dX1_tautology_2 ?_
  refine lv_astore_n (lv' := [(2, .ref (ad 3)), (0, .ref (ad 0)), (1, .int (nI 2))]) hx hb dX1_tautology_5 rfl hl (by decide) rfl (fun ls hl => ?_)
  refine lv_aload_n hx hb dX1_tautology_6 rfl (lv_at hl 0 rfl) ?_
  refine lv_ifnull hx hb dX1_tautology_7 ?_
  refine lv_aload_n hx hb dX1_tautology_10 rfl (lv_at hl 1 rfl) ?_
  refine lv_aload_n hx hb dX1_tautology_11 rfl (lv_at hl 0 rfl) ?_
  refine vz_callV (n := 1) (As := [.ref (ad 3)]) (rest := []) (q0 := 0) hcf (c_X1_countMissing l D kA ad n fp fk fh hn (ad 3) (ad 10) c2 f2 hc) gX1_tautology_X1_countMissing rfl hd_X1_countMissing ⟨Nat.le_of_ble_eq_true rfl, Nat.le_of_ble_eq_true rfl⟩ hK (hP.sub [0, 1, 2, 3, 8, 9] rfl) rfl rfl rfl rfl hl.1 rfl (Nat.le_of_ble_eq_true rfl) ⟨Nat.zero_le _, Nat.zero_le _⟩ dX1_tautology_12 ?_
  refine lv_if_ne (tgt := 22) hx hb dX1_tautology_15 (by decide) (fun c_15 => ?_) (fun c_15 => ?_)
  · skip
    have c_16 := fun q => c_15 (congrArg nI q)
    refine lv_iconst (v := nI 0) hx hb dX1_tautology_22 (by decide) ?_
    exact vz_iret hx hb hr hlocks hQ (rfl) dX1_tautology_23 (by first | (rw [decide_eq_true c_16]; rfl) | (rw [decide_eq_false (fun q => c_15 (congrArg nI q))]; rfl))
  · skip
    have c_16 := (nI_eq (by omega) (by omega)).mp (c_15.trans nI_0.symm)
    refine lv_iconst (v := nI 1) hx hb dX1_tautology_18 (by decide) ?_
    refine lv_goto (tgt := 23) hx hb dX1_tautology_19 (by decide) ?_
    exact vz_iret hx hb hr hlocks hQ (rfl) dX1_tautology_23 (by first | (rw [decide_eq_true c_16]; rfl) | (rw [decide_eq_false (fun q => c_15 (congrArg nI q))]; rfl))
set_option maxHeartbeats 4000000 in
set_option maxRecDepth 100000 in
theorem c_X1_holds2 (l : Launch) (D : va_G) (kA : ClassId) (ad : Nat → Nat) (n : Nat) (fp fk fh : Nat → Int32) (c0 c1 c2 c3 : Nat) (f0 f1 f2 f3 : Nat → Int32) (hn : n ≤ 8) (hc : c2 ≤ 24) (z : Int32) : vz_M l yX1_holds wsX1_holds 2 45 [.ref (ad 0), .int (nI 2), .int z] D kA [(ad 0, .inr (1, [.ref (ad 1), .ref (ad 2), .ref (ad 3), .ref (ad 4), .ref (ad 5), .ref (ad 6), .ref (ad 7), .int (nI n)])), (ad 5, .inl (kA, 256, .inl fp)), (ad 6, .inl (kA, 256, .inl fk)), (ad 7, .inl (kA, 256, .inl fh)), (ad 1, .inr (0, [.ref (ad 8), .int (nI c0)])), (ad 8, .inl (kA, 24, .inl f0)), (ad 2, .inr (0, [.ref (ad 9), .int (nI c1)])), (ad 9, .inl (kA, 24, .inl f1)), (ad 3, .inr (0, [.ref (ad 10), .int (nI c2)])), (ad 10, .inl (kA, 24, .inl f2)), (ad 4, .inr (0, [.ref (ad 11), .int (nI c3)])), (ad 11, .inl (kA, 24, .inl f3))] (some (.int (vz_b ((!decide (z < 0) && !decide (nI (zN n) ≤ z)) && zX_inL fp c2 f2 z.toNatClampNeg)))) := by
  refine vz_start (cc := cX1_holds) (maxL := 4) (ret := (some .boolean)) (own := RX1) (by decide) rfl rfl (Nat.le_of_ble_eq_true rfl) ?_
  intro pz ez sz mz below meth cz args Q ls hargs hx hb hml hown hts hr hlocks hP hK hQ hl
  have hcf : CallFix pz mz cz cX1_holds 4 sz args wsX1_holds RX1 := ⟨hx, hb, hml, hown, hts⟩
  have hl : lv_has ls 4 [(0, .ref (ad 0)), (1, .int (nI 2)), (2, .int z)] := hl
  have hN := zN_le hn
  refine lv_aload_n hx hb dX1_holds_0 rfl (lv_at hl 0 rfl) ?_
  refine lv_iload_n hx hb dX1_holds_1 rfl (lv_at hl 1 rfl) ?_
  refine vz_callV (n := 1) (As := [.int (nI 2)]) (rest := []) (q0 := 0) hcf (c_X1_listAt2 l D kA ad n fp fk fh hn) gX1_holds_X1_listAt rfl hd_X1_listAt ⟨Nat.le_of_ble_eq_true rfl, Nat.le_of_ble_eq_true rfl⟩ hK (hP.sub [0, 1, 2, 3] rfl) rfl rfl rfl rfl hl.1 rfl (Nat.le_of_ble_eq_true rfl) ⟨Nat.zero_le _, Nat.zero_le _⟩ dX1_holds_2 ?_
  refine lv_astore_n (lv' := [(3, .ref (ad 3)), (0, .ref (ad 0)), (1, .int (nI 2)), (2, .int z)]) hx hb dX1_holds_5 rfl hl (by decide) rfl (fun ls hl => ?_)
  refine lv_aload_n hx hb dX1_holds_6 rfl (lv_at hl 0 rfl) ?_
  refine lv_ifnull hx hb dX1_holds_7 ?_
  refine lv_aload_n hx hb dX1_holds_10 rfl (lv_at hl 1 rfl) ?_
  refine lv_iload_n hx hb dX1_holds_11 rfl (lv_at hl 3 rfl) ?_
  refine vz_callV (n := 1) (As := [.int z]) (rest := []) (q0 := 0) hcf (c_X1_isPoint l D kA ad n fp fk fh hn z) gX1_holds_X1_isPoint rfl hd_X1_isPoint ⟨Nat.le_of_ble_eq_true rfl, Nat.le_of_ble_eq_true rfl⟩ hK (hP.sub [0, 1, 2, 3] rfl) rfl rfl rfl rfl hl.1 rfl (Nat.le_of_ble_eq_true rfl) ⟨Nat.zero_le _, Nat.zero_le _⟩ dX1_holds_12 ?_
  refine vz_ifeqB (tgt := 31) hx hb dX1_holds_15 (by decide) (fun c_15 => ?_) (fun c_15 => ?_)
  · skip
    refine lv_iconst (v := nI 0) hx hb dX1_holds_31 (by decide) ?_
    exact vz_iret hx hb hr hlocks hQ (rfl) dX1_holds_32 (by first | rfl | (rw [c_15]; rfl) | (rw [hqc, c_24, c_15]; rfl) | (rw [c_15]; rw [hqc, c_24]; rfl) | (rw [hqc, c_24]; simp; rfl))
  · skip
    obtain ⟨q, hq, rfl⟩ : ∃ q : Nat, q < zN n ∧ z = nI q := by
      simp only [Bool.and_eq_true, Bool.not_eq_true', decide_eq_false_iff_not] at c_15
      rcases pk_ix z (n := zN n) (by omega) with h1 | h1 | h1
      · exact absurd h1 c_15.1
      · exact absurd h1 c_15.2
      · exact h1
    have hqc : (nI q).toNatClampNeg = q := nI_clamp (by omega)
    refine lv_aload_n hx hb dX1_holds_18 rfl (lv_at hl 1 rfl) ?_
    refine lv_aload_n hx hb dX1_holds_19 rfl (lv_at hl 0 rfl) ?_
    refine lv_iload_n hx hb dX1_holds_20 rfl (lv_at hl 3 rfl) ?_
    refine vz_callV (n := 2) (As := [.ref (ad 3), .int (nI q)]) (rest := []) (q0 := 0) hcf (c_X1_isInList l D kA ad n fp fk fh hn (ad 3) (ad 10) c2 f2 hc q (by omega)) gX1_holds_X1_isInList rfl hd_X1_isInList ⟨Nat.le_of_ble_eq_true rfl, Nat.le_of_ble_eq_true rfl⟩ hK (hP.sub [0, 1, 2, 3, 8, 9] rfl) rfl rfl rfl rfl hl.1 rfl (Nat.le_of_ble_eq_true rfl) ⟨Nat.zero_le _, Nat.zero_le _⟩ dX1_holds_21 ?_
    refine vz_ifeqB (tgt := 31) hx hb dX1_holds_24 (by decide) (fun c_24 => ?_) (fun c_24 => ?_)
    · skip
      refine lv_iconst (v := nI 0) hx hb dX1_holds_31 (by decide) ?_
      exact vz_iret hx hb hr hlocks hQ (rfl) dX1_holds_32 (by first | rfl | (rw [c_15]; rfl) | (rw [hqc, c_24, c_15]; rfl) | (rw [c_15]; rw [hqc, c_24]; rfl) | (rw [hqc, c_24]; simp; rfl))
    · skip
      refine lv_iconst (v := nI 1) hx hb dX1_holds_27 (by decide) ?_
      refine lv_goto (tgt := 32) hx hb dX1_holds_28 (by decide) ?_
      exact vz_iret hx hb hr hlocks hQ (rfl) dX1_holds_32 (by first | rfl | (rw [c_15]; rfl) | (rw [hqc, c_24, c_15]; rfl) | (rw [c_15]; rw [hqc, c_24]; rfl) | (rw [hqc, c_24]; simp; rfl))
set_option maxHeartbeats 4000000 in
set_option maxRecDepth 100000 in
theorem c_X1_prime2 (l : Launch) (D : va_G) (kA : ClassId) (ad : Nat → Nat) (n : Nat) (fp fk fh : Nat → Int32) (c0 c1 c2 c3 : Nat) (f0 f1 f2 f3 : Nat → Int32) (hn : n ≤ 8) (hc : c2 ≤ 24) (z : Int32) : vz_M l yX1_prime wsX1_prime 3 68 [.ref (ad 0), .int (nI 2), .int z] D kA [(ad 0, .inr (1, [.ref (ad 1), .ref (ad 2), .ref (ad 3), .ref (ad 4), .ref (ad 5), .ref (ad 6), .ref (ad 7), .int (nI n)])), (ad 5, .inl (kA, 256, .inl fp)), (ad 6, .inl (kA, 256, .inl fk)), (ad 7, .inl (kA, 256, .inl fh)), (ad 1, .inr (0, [.ref (ad 8), .int (nI c0)])), (ad 8, .inl (kA, 24, .inl f0)), (ad 2, .inr (0, [.ref (ad 9), .int (nI c1)])), (ad 9, .inl (kA, 24, .inl f1)), (ad 3, .inr (0, [.ref (ad 10), .int (nI c2)])), (ad 10, .inl (kA, 24, .inl f2)), (ad 4, .inr (0, [.ref (ad 11), .int (nI c3)])), (ad 11, .inl (kA, 24, .inl f3))] (some (.int (vz_b (!decide (zat c2 f2 z = -1) && (!zvoid n (zat c2 f2 z) && (!ztch n fk (zX_in fp) (zat c2 f2 z) && !zcg n (ztch n fk (zX_in fp)) (zat c2 f2 z))))))) := by
  refine vz_start (cc := cX1_prime) (maxL := 5) (ret := (some .boolean)) (own := RX1) (by decide) rfl rfl (Nat.le_of_ble_eq_true rfl) ?_
  intro pz ez sz mz below meth cz args Q ls hargs hx hb hml hown hts hr hlocks hP hK hQ hl
  have hcf : CallFix pz mz cz cX1_prime 5 sz args wsX1_prime RX1 := ⟨hx, hb, hml, hown, hts⟩
  have hl : lv_has ls 5 [(0, .ref (ad 0)), (1, .int (nI 2)), (2, .int z)] := hl
  refine lv_aload_n hx hb dX1_prime_0 rfl (lv_at hl 0 rfl) ?_
  refine lv_iload_n hx hb dX1_prime_1 rfl (lv_at hl 1 rfl) ?_
  refine vz_callV (n := 1) (As := [.int (nI 2)]) (rest := []) (q0 := 0) hcf (c_X1_listAt2 l D kA ad n fp fk fh hn) gX1_prime_X1_listAt rfl hd_X1_listAt ⟨Nat.le_of_ble_eq_true rfl, Nat.le_of_ble_eq_true rfl⟩ hK (hP.sub [0, 1, 2, 3] rfl) rfl rfl rfl rfl hl.1 rfl (Nat.le_of_ble_eq_true rfl) ⟨Nat.zero_le _, Nat.zero_le _⟩ dX1_prime_2 ?_
  refine lv_astore_n (lv' := [(3, .ref (ad 3)), (0, .ref (ad 0)), (1, .int (nI 2)), (2, .int z)]) hx hb dX1_prime_5 rfl hl (by decide) rfl (fun ls hl => ?_)
  refine lv_aload_n hx hb dX1_prime_6 rfl (lv_at hl 0 rfl) ?_
  refine lv_ifnonnull (tgt := 12) hx hb dX1_prime_7 (by decide) ?_
  refine lv_aload_n hx hb dX1_prime_12 rfl (lv_at hl 0 rfl) ?_
  refine lv_iload_n hx hb dX1_prime_13 rfl (lv_at hl 3 rfl) ?_
  refine vz_callV (n := 1) (As := [.int z]) (rest := []) (q0 := 0) hcf (c_X0_at l D kA (ad 3) (ad 10) c2 f2 hc z) gX1_prime_X0_at rfl hd_X0_at ⟨Nat.le_of_ble_eq_true rfl, Nat.le_of_ble_eq_true rfl⟩ hK (hP.sub [8, 9] rfl) rfl rfl rfl rfl hl.1 rfl (Nat.le_of_ble_eq_true rfl) ⟨Nat.zero_le _, Nat.zero_le _⟩ dX1_prime_14 ?_
  refine lv_istore (lv' := [(4, .int (zat c2 f2 z)), (3, .ref (ad 3)), (0, .ref (ad 0)), (1, .int (nI 2)), (2, .int z)]) hx hb dX1_prime_17 hl (by decide) rfl (fun ls hl => ?_)
  refine lv_iload hx hb dX1_prime_19 (lv_at hl 0 rfl) ?_
  refine lv_iconst (v := -1) hx hb dX1_prime_21 (by decide) ?_
  refine lv_icmp_eq (tgt := 56) hx hb dX1_prime_22 (by decide) (fun c_22 => ?_) (fun c_22 => ?_)
  · skip
    refine lv_iconst (v := nI 0) hx hb dX1_prime_56 (by decide) ?_
    exact vz_iret hx hb hr hlocks hQ (rfl) dX1_prime_57 (by first | (rw [decide_eq_true c_22]; rfl) | (rw [decide_eq_false c_22, c_31]; rfl) | (rw [decide_eq_false c_22, c_31, c_40]; rfl) | (rw [decide_eq_false c_22, c_31, c_40, c_49]; rfl))
  · skip
    refine lv_aload_n hx hb dX1_prime_25 rfl (lv_at hl 2 rfl) ?_
    refine lv_iload hx hb dX1_prime_26 (lv_at hl 0 rfl) ?_
    refine vz_callV (n := 1) (As := [.int (zat c2 f2 z)]) (rest := []) (q0 := 0) hcf (c_X1_isVoid l D kA ad n fp fk fh hn (zat c2 f2 z)) gX1_prime_X1_isVoid rfl hd_X1_isVoid ⟨Nat.le_of_ble_eq_true rfl, Nat.le_of_ble_eq_true rfl⟩ hK (hP.sub [0, 1, 2, 3] rfl) rfl rfl rfl rfl hl.1 rfl (Nat.le_of_ble_eq_true rfl) ⟨Nat.zero_le _, Nat.zero_le _⟩ dX1_prime_28 ?_
    refine vz_ifneB (tgt := 56) hx hb dX1_prime_31 (by decide) (fun c_31 => ?_) (fun c_31 => ?_)
    · skip
      refine lv_iconst (v := nI 0) hx hb dX1_prime_56 (by decide) ?_
      exact vz_iret hx hb hr hlocks hQ (rfl) dX1_prime_57 (by first | (rw [decide_eq_true c_22]; rfl) | (rw [decide_eq_false c_22, c_31]; rfl) | (rw [decide_eq_false c_22, c_31, c_40]; rfl) | (rw [decide_eq_false c_22, c_31, c_40, c_49]; rfl))
    · skip
      refine lv_aload_n hx hb dX1_prime_34 rfl (lv_at hl 2 rfl) ?_
      refine lv_iload hx hb dX1_prime_35 (lv_at hl 0 rfl) ?_
      refine vz_callV (n := 1) (As := [.int (zat c2 f2 z)]) (rest := []) (q0 := 0) hcf (c_X1_touches l D kA ad n fp fk fh hn (zat c2 f2 z)) gX1_prime_X1_touches rfl hd_X1_touches ⟨Nat.le_of_ble_eq_true rfl, Nat.le_of_ble_eq_true rfl⟩ hK (hP.sub [0, 1, 2, 3] rfl) rfl rfl rfl rfl hl.1 rfl (Nat.le_of_ble_eq_true rfl) ⟨Nat.zero_le _, Nat.zero_le _⟩ dX1_prime_37 ?_
      refine vz_ifneB (tgt := 56) hx hb dX1_prime_40 (by decide) (fun c_40 => ?_) (fun c_40 => ?_)
      · skip
        refine lv_iconst (v := nI 0) hx hb dX1_prime_56 (by decide) ?_
        exact vz_iret hx hb hr hlocks hQ (rfl) dX1_prime_57 (by first | (rw [decide_eq_true c_22]; rfl) | (rw [decide_eq_false c_22, c_31]; rfl) | (rw [decide_eq_false c_22, c_31, c_40]; rfl) | (rw [decide_eq_false c_22, c_31, c_40, c_49]; rfl))
      · skip
        refine lv_aload_n hx hb dX1_prime_43 rfl (lv_at hl 2 rfl) ?_
        refine lv_iload hx hb dX1_prime_44 (lv_at hl 0 rfl) ?_
        refine vz_callV (n := 1) (As := [.int (zat c2 f2 z)]) (rest := []) (q0 := 0) hcf (c_X1_cannotGrow l D kA ad n fp fk fh hn (zat c2 f2 z)) gX1_prime_X1_cannotGrow rfl hd_X1_cannotGrow ⟨Nat.le_of_ble_eq_true rfl, Nat.le_of_ble_eq_true rfl⟩ hK (hP.sub [0, 1, 2, 3] rfl) rfl rfl rfl rfl hl.1 rfl (Nat.le_of_ble_eq_true rfl) ⟨Nat.zero_le _, Nat.zero_le _⟩ dX1_prime_46 ?_
        refine vz_ifeqB (tgt := 56) hx hb dX1_prime_49 (by decide) (fun c_49 => ?_) (fun c_49 => ?_)
        · skip
          refine lv_iconst (v := nI 0) hx hb dX1_prime_56 (by decide) ?_
          exact vz_iret hx hb hr hlocks hQ (rfl) dX1_prime_57 (by first | (rw [decide_eq_true c_22]; rfl) | (rw [decide_eq_false c_22, c_31]; rfl) | (rw [decide_eq_false c_22, c_31, c_40]; rfl) | (rw [decide_eq_false c_22, c_31, c_40, c_49]; rfl))
        · skip
          refine lv_iconst (v := nI 1) hx hb dX1_prime_52 (by decide) ?_
          refine lv_goto (tgt := 57) hx hb dX1_prime_53 (by decide) ?_
          exact vz_iret hx hb hr hlocks hQ (rfl) dX1_prime_57 (by first | (rw [decide_eq_true c_22]; rfl) | (rw [decide_eq_false c_22, c_31]; rfl) | (rw [decide_eq_false c_22, c_31, c_40]; rfl) | (rw [decide_eq_false c_22, c_31, c_40, c_49]; rfl))
set_option maxHeartbeats 4000000 in
set_option maxRecDepth 100000 in
theorem c_X1_size3 (l : Launch) (D : va_G) (kA : ClassId) (ad : Nat → Nat) (n : Nat) (fp fk fh : Nat → Int32) (c0 c1 c2 c3 : Nat) (f0 f1 f2 f3 : Nat → Int32) (hn : n ≤ 8) (x : Int32) (hx3 : x.toInt < 0 ∨ 2 < x.toInt) : vz_M l yX1_size wsX1_size 1 21 [.ref (ad 0), .int x] D kA [(ad 0, .inr (1, [.ref (ad 1), .ref (ad 2), .ref (ad 3), .ref (ad 4), .ref (ad 5), .ref (ad 6), .ref (ad 7), .int (nI n)])), (ad 5, .inl (kA, 256, .inl fp)), (ad 6, .inl (kA, 256, .inl fk)), (ad 7, .inl (kA, 256, .inl fh)), (ad 1, .inr (0, [.ref (ad 8), .int (nI c0)])), (ad 8, .inl (kA, 24, .inl f0)), (ad 2, .inr (0, [.ref (ad 9), .int (nI c1)])), (ad 9, .inl (kA, 24, .inl f1)), (ad 3, .inr (0, [.ref (ad 10), .int (nI c2)])), (ad 10, .inl (kA, 24, .inl f2)), (ad 4, .inr (0, [.ref (ad 11), .int (nI c3)])), (ad 11, .inl (kA, 24, .inl f3))] (some (.int (-1))) := by
  refine vz_start (cc := cX1_size) (maxL := 3) (ret := (some .int)) (own := RX1) (by decide) rfl rfl (Nat.le_of_ble_eq_true rfl) ?_
  intro pz ez sz mz below meth cz args Q ls hargs hx hb hml hown hts hr hlocks hP hK hQ hl
  have hcf : CallFix pz mz cz cX1_size 3 sz args wsX1_size RX1 := ⟨hx, hb, hml, hown, hts⟩
  have hl : lv_has ls 3 [(0, .ref (ad 0)), (1, .int x)] := hl
  refine lv_aload_n hx hb dX1_size_0 rfl (lv_at hl 0 rfl) ?_
  refine lv_iload_n hx hb dX1_size_1 rfl (lv_at hl 1 rfl) ?_
  refine vz_callV (n := 1) (As := [.int x]) (rest := []) (q0 := 0) hcf (c_X1_listAt3 l D kA ad n fp fk fh hn x hx3) gX1_size_X1_listAt rfl hd_X1_listAt ⟨Nat.le_of_ble_eq_true rfl, Nat.le_of_ble_eq_true rfl⟩ hK (hP.sub [0, 1, 2, 3] rfl) rfl rfl rfl rfl hl.1 rfl (Nat.le_of_ble_eq_true rfl) ⟨Nat.zero_le _, Nat.zero_le _⟩ dX1_size_2 ?_
  refine lv_astore_nN (lv' := [(2, .null), (0, .ref (ad 0)), (1, .int x)]) hx hb dX1_size_5 rfl hl (by decide) rfl (fun ls hl => ?_)
  refine lv_aload_nN hx hb dX1_size_6 rfl (lv_at hl 0 rfl) ?_
  refine lv_ifnonnullN hx hb dX1_size_7 ?_
  refine lv_iconst (v := -1) hx hb dX1_size_10 (by decide) ?_
  refine lv_goto (tgt := 18) hx hb dX1_size_11 (by decide) ?_
  exact vz_iret hx hb hr hlocks hQ (vp_nar_int _) dX1_size_18 rfl
set_option maxHeartbeats 4000000 in
set_option maxRecDepth 100000 in
theorem c_X1_cube3 (l : Launch) (D : va_G) (kA : ClassId) (ad : Nat → Nat) (n : Nat) (fp fk fh : Nat → Int32) (c0 c1 c2 c3 : Nat) (f0 f1 f2 f3 : Nat → Int32) (hn : n ≤ 8) (x : Int32) (hx3 : x.toInt < 0 ∨ 2 < x.toInt) (z : Int32) : vz_M l yX1_cube wsX1_cube 1 21 [.ref (ad 0), .int x, .int z] D kA [(ad 0, .inr (1, [.ref (ad 1), .ref (ad 2), .ref (ad 3), .ref (ad 4), .ref (ad 5), .ref (ad 6), .ref (ad 7), .int (nI n)])), (ad 5, .inl (kA, 256, .inl fp)), (ad 6, .inl (kA, 256, .inl fk)), (ad 7, .inl (kA, 256, .inl fh)), (ad 1, .inr (0, [.ref (ad 8), .int (nI c0)])), (ad 8, .inl (kA, 24, .inl f0)), (ad 2, .inr (0, [.ref (ad 9), .int (nI c1)])), (ad 9, .inl (kA, 24, .inl f1)), (ad 3, .inr (0, [.ref (ad 10), .int (nI c2)])), (ad 10, .inl (kA, 24, .inl f2)), (ad 4, .inr (0, [.ref (ad 11), .int (nI c3)])), (ad 11, .inl (kA, 24, .inl f3))] (some (.int (-1))) := by
  refine vz_start (cc := cX1_cube) (maxL := 4) (ret := (some .int)) (own := RX1) (by decide) rfl rfl (Nat.le_of_ble_eq_true rfl) ?_
  intro pz ez sz mz below meth cz args Q ls hargs hx hb hml hown hts hr hlocks hP hK hQ hl
  have hcf : CallFix pz mz cz cX1_cube 4 sz args wsX1_cube RX1 := ⟨hx, hb, hml, hown, hts⟩
  have hl : lv_has ls 4 [(0, .ref (ad 0)), (1, .int x), (2, .int z)] := hl
  refine lv_aload_n hx hb dX1_cube_0 rfl (lv_at hl 0 rfl) ?_
  refine lv_iload_n hx hb dX1_cube_1 rfl (lv_at hl 1 rfl) ?_
  refine vz_callV (n := 1) (As := [.int x]) (rest := []) (q0 := 0) hcf (c_X1_listAt3 l D kA ad n fp fk fh hn x hx3) gX1_cube_X1_listAt rfl hd_X1_listAt ⟨Nat.le_of_ble_eq_true rfl, Nat.le_of_ble_eq_true rfl⟩ hK (hP.sub [0, 1, 2, 3] rfl) rfl rfl rfl rfl hl.1 rfl (Nat.le_of_ble_eq_true rfl) ⟨Nat.zero_le _, Nat.zero_le _⟩ dX1_cube_2 ?_
  refine lv_astore_nN (lv' := [(3, .null), (0, .ref (ad 0)), (1, .int x), (2, .int z)]) hx hb dX1_cube_5 rfl hl (by decide) rfl (fun ls hl => ?_)
  refine lv_aload_nN hx hb dX1_cube_6 rfl (lv_at hl 0 rfl) ?_
  refine lv_ifnonnullN hx hb dX1_cube_7 ?_
  refine lv_iconst (v := -1) hx hb dX1_cube_10 (by decide) ?_
  refine lv_goto (tgt := 19) hx hb dX1_cube_11 (by decide) ?_
  exact vz_iret hx hb hr hlocks hQ (vp_nar_int _) dX1_cube_19 rfl
set_option maxHeartbeats 4000000 in
set_option maxRecDepth 100000 in
theorem c_X1_literals3 (l : Launch) (D : va_G) (kA : ClassId) (ad : Nat → Nat) (n : Nat) (fp fk fh : Nat → Int32) (c0 c1 c2 c3 : Nat) (f0 f1 f2 f3 : Nat → Int32) (hn : n ≤ 8) (x : Int32) (hx3 : x.toInt < 0 ∨ 2 < x.toInt) : vz_M l yX1_literals wsX1_literals 1 21 [.ref (ad 0), .int x] D kA [(ad 0, .inr (1, [.ref (ad 1), .ref (ad 2), .ref (ad 3), .ref (ad 4), .ref (ad 5), .ref (ad 6), .ref (ad 7), .int (nI n)])), (ad 5, .inl (kA, 256, .inl fp)), (ad 6, .inl (kA, 256, .inl fk)), (ad 7, .inl (kA, 256, .inl fh)), (ad 1, .inr (0, [.ref (ad 8), .int (nI c0)])), (ad 8, .inl (kA, 24, .inl f0)), (ad 2, .inr (0, [.ref (ad 9), .int (nI c1)])), (ad 9, .inl (kA, 24, .inl f1)), (ad 3, .inr (0, [.ref (ad 10), .int (nI c2)])), (ad 10, .inl (kA, 24, .inl f2)), (ad 4, .inr (0, [.ref (ad 11), .int (nI c3)])), (ad 11, .inl (kA, 24, .inl f3))] (some (.int (-1))) := by
  refine vz_start (cc := cX1_literals) (maxL := 3) (ret := (some .int)) (own := RX1) (by decide) rfl rfl (Nat.le_of_ble_eq_true rfl) ?_
  intro pz ez sz mz below meth cz args Q ls hargs hx hb hml hown hts hr hlocks hP hK hQ hl
  have hcf : CallFix pz mz cz cX1_literals 3 sz args wsX1_literals RX1 := ⟨hx, hb, hml, hown, hts⟩
  have hl : lv_has ls 3 [(0, .ref (ad 0)), (1, .int x)] := hl
  refine lv_aload_n hx hb dX1_literals_0 rfl (lv_at hl 0 rfl) ?_
  refine lv_iload_n hx hb dX1_literals_1 rfl (lv_at hl 1 rfl) ?_
  refine vz_callV (n := 1) (As := [.int x]) (rest := []) (q0 := 0) hcf (c_X1_listAt3 l D kA ad n fp fk fh hn x hx3) gX1_literals_X1_listAt rfl hd_X1_listAt ⟨Nat.le_of_ble_eq_true rfl, Nat.le_of_ble_eq_true rfl⟩ hK (hP.sub [0, 1, 2, 3] rfl) rfl rfl rfl rfl hl.1 rfl (Nat.le_of_ble_eq_true rfl) ⟨Nat.zero_le _, Nat.zero_le _⟩ dX1_literals_2 ?_
  refine lv_astore_nN (lv' := [(2, .null), (0, .ref (ad 0)), (1, .int x)]) hx hb dX1_literals_5 rfl hl (by decide) rfl (fun ls hl => ?_)
  refine lv_aload_nN hx hb dX1_literals_6 rfl (lv_at hl 0 rfl) ?_
  refine lv_ifnonnullN hx hb dX1_literals_7 ?_
  refine lv_iconst (v := -1) hx hb dX1_literals_10 (by decide) ?_
  refine lv_goto (tgt := 19) hx hb dX1_literals_11 (by decide) ?_
  exact vz_iret hx hb hr hlocks hQ (vp_nar_int _) dX1_literals_19 rfl
set_option maxHeartbeats 4000000 in
set_option maxRecDepth 100000 in
theorem c_X1_missing3 (l : Launch) (D : va_G) (kA : ClassId) (ad : Nat → Nat) (n : Nat) (fp fk fh : Nat → Int32) (c0 c1 c2 c3 : Nat) (f0 f1 f2 f3 : Nat → Int32) (hn : n ≤ 8) (x : Int32) (hx3 : x.toInt < 0 ∨ 2 < x.toInt) : vz_M l yX1_missing wsX1_missing 1 21 [.ref (ad 0), .int x] D kA [(ad 0, .inr (1, [.ref (ad 1), .ref (ad 2), .ref (ad 3), .ref (ad 4), .ref (ad 5), .ref (ad 6), .ref (ad 7), .int (nI n)])), (ad 5, .inl (kA, 256, .inl fp)), (ad 6, .inl (kA, 256, .inl fk)), (ad 7, .inl (kA, 256, .inl fh)), (ad 1, .inr (0, [.ref (ad 8), .int (nI c0)])), (ad 8, .inl (kA, 24, .inl f0)), (ad 2, .inr (0, [.ref (ad 9), .int (nI c1)])), (ad 9, .inl (kA, 24, .inl f1)), (ad 3, .inr (0, [.ref (ad 10), .int (nI c2)])), (ad 10, .inl (kA, 24, .inl f2)), (ad 4, .inr (0, [.ref (ad 11), .int (nI c3)])), (ad 11, .inl (kA, 24, .inl f3))] (some (.int (-1))) := by
  refine vz_start (cc := cX1_missing) (maxL := 3) (ret := (some .int)) (own := RX1) (by decide) rfl rfl (Nat.le_of_ble_eq_true rfl) ?_
  intro pz ez sz mz below meth cz args Q ls hargs hx hb hml hown hts hr hlocks hP hK hQ hl
  have hcf : CallFix pz mz cz cX1_missing 3 sz args wsX1_missing RX1 := ⟨hx, hb, hml, hown, hts⟩
  have hl : lv_has ls 3 [(0, .ref (ad 0)), (1, .int x)] := hl
  refine lv_aload_n hx hb dX1_missing_0 rfl (lv_at hl 0 rfl) ?_
  refine lv_iload_n hx hb dX1_missing_1 rfl (lv_at hl 1 rfl) ?_
  refine vz_callV (n := 1) (As := [.int x]) (rest := []) (q0 := 0) hcf (c_X1_listAt3 l D kA ad n fp fk fh hn x hx3) gX1_missing_X1_listAt rfl hd_X1_listAt ⟨Nat.le_of_ble_eq_true rfl, Nat.le_of_ble_eq_true rfl⟩ hK (hP.sub [0, 1, 2, 3] rfl) rfl rfl rfl rfl hl.1 rfl (Nat.le_of_ble_eq_true rfl) ⟨Nat.zero_le _, Nat.zero_le _⟩ dX1_missing_2 ?_
  refine lv_astore_nN (lv' := [(2, .null), (0, .ref (ad 0)), (1, .int x)]) hx hb dX1_missing_5 rfl hl (by decide) rfl (fun ls hl => ?_)
  refine lv_aload_nN hx hb dX1_missing_6 rfl (lv_at hl 0 rfl) ?_
  refine lv_ifnonnullN hx hb dX1_missing_7 ?_
  refine lv_iconst (v := -1) hx hb dX1_missing_10 (by decide) ?_
  refine lv_goto (tgt := 19) hx hb dX1_missing_11 (by decide) ?_
  exact vz_iret hx hb hr hlocks hQ (vp_nar_int _) dX1_missing_19 rfl
set_option maxHeartbeats 4000000 in
set_option maxRecDepth 100000 in
theorem c_X1_tautology3 (l : Launch) (D : va_G) (kA : ClassId) (ad : Nat → Nat) (n : Nat) (fp fk fh : Nat → Int32) (c0 c1 c2 c3 : Nat) (f0 f1 f2 f3 : Nat → Int32) (hn : n ≤ 8) (x : Int32) (hx3 : x.toInt < 0 ∨ 2 < x.toInt) : vz_M l yX1_tautology wsX1_tautology 1 21 [.ref (ad 0), .int x] D kA [(ad 0, .inr (1, [.ref (ad 1), .ref (ad 2), .ref (ad 3), .ref (ad 4), .ref (ad 5), .ref (ad 6), .ref (ad 7), .int (nI n)])), (ad 5, .inl (kA, 256, .inl fp)), (ad 6, .inl (kA, 256, .inl fk)), (ad 7, .inl (kA, 256, .inl fh)), (ad 1, .inr (0, [.ref (ad 8), .int (nI c0)])), (ad 8, .inl (kA, 24, .inl f0)), (ad 2, .inr (0, [.ref (ad 9), .int (nI c1)])), (ad 9, .inl (kA, 24, .inl f1)), (ad 3, .inr (0, [.ref (ad 10), .int (nI c2)])), (ad 10, .inl (kA, 24, .inl f2)), (ad 4, .inr (0, [.ref (ad 11), .int (nI c3)])), (ad 11, .inl (kA, 24, .inl f3))] (some (.int (nI 0))) := by
  refine vz_start (cc := cX1_tautology) (maxL := 3) (ret := (some .boolean)) (own := RX1) (by decide) rfl rfl (Nat.le_of_ble_eq_true rfl) ?_
  intro pz ez sz mz below meth cz args Q ls hargs hx hb hml hown hts hr hlocks hP hK hQ hl
  have hcf : CallFix pz mz cz cX1_tautology 3 sz args wsX1_tautology RX1 := ⟨hx, hb, hml, hown, hts⟩
  have hl : lv_has ls 3 [(0, .ref (ad 0)), (1, .int x)] := hl
  refine lv_aload_n hx hb dX1_tautology_0 rfl (lv_at hl 0 rfl) ?_
  refine lv_iload_n hx hb dX1_tautology_1 rfl (lv_at hl 1 rfl) ?_
  refine vz_callV (n := 1) (As := [.int x]) (rest := []) (q0 := 0) hcf (c_X1_listAt3 l D kA ad n fp fk fh hn x hx3) gX1_tautology_X1_listAt rfl hd_X1_listAt ⟨Nat.le_of_ble_eq_true rfl, Nat.le_of_ble_eq_true rfl⟩ hK (hP.sub [0, 1, 2, 3] rfl) rfl rfl rfl rfl hl.1 rfl (Nat.le_of_ble_eq_true rfl) ⟨Nat.zero_le _, Nat.zero_le _⟩ dX1_tautology_2 ?_
  refine lv_astore_nN (lv' := [(2, .null), (0, .ref (ad 0)), (1, .int x)]) hx hb dX1_tautology_5 rfl hl (by decide) rfl (fun ls hl => ?_)
  refine lv_aload_nN hx hb dX1_tautology_6 rfl (lv_at hl 0 rfl) ?_
  refine lv_ifnullN (tgt := 22) hx hb dX1_tautology_7 (by decide) ?_
  refine lv_iconst (v := nI 0) hx hb dX1_tautology_22 (by decide) ?_
  exact vz_iret hx hb hr hlocks hQ (rfl) dX1_tautology_23 rfl
set_option maxHeartbeats 4000000 in
set_option maxRecDepth 100000 in
theorem c_X1_holds3 (l : Launch) (D : va_G) (kA : ClassId) (ad : Nat → Nat) (n : Nat) (fp fk fh : Nat → Int32) (c0 c1 c2 c3 : Nat) (f0 f1 f2 f3 : Nat → Int32) (hn : n ≤ 8) (x : Int32) (hx3 : x.toInt < 0 ∨ 2 < x.toInt) (z : Int32) : vz_M l yX1_holds wsX1_holds 1 21 [.ref (ad 0), .int x, .int z] D kA [(ad 0, .inr (1, [.ref (ad 1), .ref (ad 2), .ref (ad 3), .ref (ad 4), .ref (ad 5), .ref (ad 6), .ref (ad 7), .int (nI n)])), (ad 5, .inl (kA, 256, .inl fp)), (ad 6, .inl (kA, 256, .inl fk)), (ad 7, .inl (kA, 256, .inl fh)), (ad 1, .inr (0, [.ref (ad 8), .int (nI c0)])), (ad 8, .inl (kA, 24, .inl f0)), (ad 2, .inr (0, [.ref (ad 9), .int (nI c1)])), (ad 9, .inl (kA, 24, .inl f1)), (ad 3, .inr (0, [.ref (ad 10), .int (nI c2)])), (ad 10, .inl (kA, 24, .inl f2)), (ad 4, .inr (0, [.ref (ad 11), .int (nI c3)])), (ad 11, .inl (kA, 24, .inl f3))] (some (.int (nI 0))) := by
  refine vz_start (cc := cX1_holds) (maxL := 4) (ret := (some .boolean)) (own := RX1) (by decide) rfl rfl (Nat.le_of_ble_eq_true rfl) ?_
  intro pz ez sz mz below meth cz args Q ls hargs hx hb hml hown hts hr hlocks hP hK hQ hl
  have hcf : CallFix pz mz cz cX1_holds 4 sz args wsX1_holds RX1 := ⟨hx, hb, hml, hown, hts⟩
  have hl : lv_has ls 4 [(0, .ref (ad 0)), (1, .int x), (2, .int z)] := hl
  have hN := zN_le hn
  refine lv_aload_n hx hb dX1_holds_0 rfl (lv_at hl 0 rfl) ?_
  refine lv_iload_n hx hb dX1_holds_1 rfl (lv_at hl 1 rfl) ?_
  refine vz_callV (n := 1) (As := [.int x]) (rest := []) (q0 := 0) hcf (c_X1_listAt3 l D kA ad n fp fk fh hn x hx3) gX1_holds_X1_listAt rfl hd_X1_listAt ⟨Nat.le_of_ble_eq_true rfl, Nat.le_of_ble_eq_true rfl⟩ hK (hP.sub [0, 1, 2, 3] rfl) rfl rfl rfl rfl hl.1 rfl (Nat.le_of_ble_eq_true rfl) ⟨Nat.zero_le _, Nat.zero_le _⟩ dX1_holds_2 ?_
  refine lv_astore_nN (lv' := [(3, .null), (0, .ref (ad 0)), (1, .int x), (2, .int z)]) hx hb dX1_holds_5 rfl hl (by decide) rfl (fun ls hl => ?_)
  refine lv_aload_nN hx hb dX1_holds_6 rfl (lv_at hl 0 rfl) ?_
  refine lv_ifnullN (tgt := 31) hx hb dX1_holds_7 (by decide) ?_
  refine lv_iconst (v := nI 0) hx hb dX1_holds_31 (by decide) ?_
  exact vz_iret hx hb hr hlocks hQ (rfl) dX1_holds_32 (by first | rfl | (rw [c_15]; rfl) | (rw [hqc, c_24, c_15]; rfl) | (rw [c_15]; rw [hqc, c_24]; rfl) | (rw [hqc, c_24]; simp; rfl))
set_option maxHeartbeats 4000000 in
set_option maxRecDepth 100000 in
theorem c_X1_prime3 (l : Launch) (D : va_G) (kA : ClassId) (ad : Nat → Nat) (n : Nat) (fp fk fh : Nat → Int32) (c0 c1 c2 c3 : Nat) (f0 f1 f2 f3 : Nat → Int32) (hn : n ≤ 8) (x : Int32) (hx3 : x.toInt < 0 ∨ 2 < x.toInt) (z : Int32) : vz_M l yX1_prime wsX1_prime 1 21 [.ref (ad 0), .int x, .int z] D kA [(ad 0, .inr (1, [.ref (ad 1), .ref (ad 2), .ref (ad 3), .ref (ad 4), .ref (ad 5), .ref (ad 6), .ref (ad 7), .int (nI n)])), (ad 5, .inl (kA, 256, .inl fp)), (ad 6, .inl (kA, 256, .inl fk)), (ad 7, .inl (kA, 256, .inl fh)), (ad 1, .inr (0, [.ref (ad 8), .int (nI c0)])), (ad 8, .inl (kA, 24, .inl f0)), (ad 2, .inr (0, [.ref (ad 9), .int (nI c1)])), (ad 9, .inl (kA, 24, .inl f1)), (ad 3, .inr (0, [.ref (ad 10), .int (nI c2)])), (ad 10, .inl (kA, 24, .inl f2)), (ad 4, .inr (0, [.ref (ad 11), .int (nI c3)])), (ad 11, .inl (kA, 24, .inl f3))] (some (.int (nI 0))) := by
  refine vz_start (cc := cX1_prime) (maxL := 5) (ret := (some .boolean)) (own := RX1) (by decide) rfl rfl (Nat.le_of_ble_eq_true rfl) ?_
  intro pz ez sz mz below meth cz args Q ls hargs hx hb hml hown hts hr hlocks hP hK hQ hl
  have hcf : CallFix pz mz cz cX1_prime 5 sz args wsX1_prime RX1 := ⟨hx, hb, hml, hown, hts⟩
  have hl : lv_has ls 5 [(0, .ref (ad 0)), (1, .int x), (2, .int z)] := hl
  refine lv_aload_n hx hb dX1_prime_0 rfl (lv_at hl 0 rfl) ?_
  refine lv_iload_n hx hb dX1_prime_1 rfl (lv_at hl 1 rfl) ?_
  refine vz_callV (n := 1) (As := [.int x]) (rest := []) (q0 := 0) hcf (c_X1_listAt3 l D kA ad n fp fk fh hn x hx3) gX1_prime_X1_listAt rfl hd_X1_listAt ⟨Nat.le_of_ble_eq_true rfl, Nat.le_of_ble_eq_true rfl⟩ hK (hP.sub [0, 1, 2, 3] rfl) rfl rfl rfl rfl hl.1 rfl (Nat.le_of_ble_eq_true rfl) ⟨Nat.zero_le _, Nat.zero_le _⟩ dX1_prime_2 ?_
  refine lv_astore_nN (lv' := [(3, .null), (0, .ref (ad 0)), (1, .int x), (2, .int z)]) hx hb dX1_prime_5 rfl hl (by decide) rfl (fun ls hl => ?_)
  refine lv_aload_nN hx hb dX1_prime_6 rfl (lv_at hl 0 rfl) ?_
  refine lv_ifnonnullN hx hb dX1_prime_7 ?_
  refine lv_iconst (v := nI 0) hx hb dX1_prime_10 (by decide) ?_
  exact vz_iret hx hb hr hlocks hQ (rfl) dX1_prime_11 rfl
set_option maxHeartbeats 4000000 in
set_option maxRecDepth 100000 in
theorem c_X1_kind (l : Launch) (D : va_G) (kA : ClassId) (ad : Nat → Nat) (n : Nat) (fp fk fh : Nat → Int32) (hn : n ≤ 8) (z : Int32) : vz_M l yX1_kind wsX1_kind 2 41 [.ref (ad 0), .int z] D kA [(ad 0, .inr (1, [.ref (ad 1), .ref (ad 2), .ref (ad 3), .ref (ad 4), .ref (ad 5), .ref (ad 6), .ref (ad 7), .int (nI n)])), (ad 5, .inl (kA, 256, .inl fp)), (ad 6, .inl (kA, 256, .inl fk)), (ad 7, .inl (kA, 256, .inl fh))] (some (.int (if (!decide (z < 0) && !decide (nI (zN n) ≤ z)) = true then fk z.toNatClampNeg else -1))) := by
  refine vz_start (cc := cX1_kind) (maxL := 2) (ret := (some .int)) (own := RX1) (by decide) rfl rfl (Nat.le_of_ble_eq_true rfl) ?_
  intro pz ez sz mz below meth cz args Q ls hargs hx hb hml hown hts hr hlocks hP hK hQ hl
  have hcf : CallFix pz mz cz cX1_kind 2 sz args wsX1_kind RX1 := ⟨hx, hb, hml, hown, hts⟩
  have hi0 : ∀ w ∈ u_ws RX1 TX1 8, w ∈ wsX1_kind := by decide +kernel
  have hf29 : (Cond.fieldLink RX1 29 "CubeMin" "kinds" "[I").before args sz = true := hts _ (by decide +kernel)
  have hl : lv_has ls 2 [(0, .ref (ad 0)), (1, .int z)] := hl
  have hN := zN_le hn
  refine lv_aload_n hx hb dX1_kind_0 rfl (lv_at hl 0 rfl) ?_
  refine lv_iload_n hx hb dX1_kind_1 rfl (lv_at hl 1 rfl) ?_
  refine vz_callV (n := 1) (As := [.int z]) (rest := []) (q0 := 0) hcf (c_X1_isPoint l D kA ad n fp fk fh hn z) gX1_kind_X1_isPoint rfl hd_X1_isPoint ⟨Nat.le_of_ble_eq_true rfl, Nat.le_of_ble_eq_true rfl⟩ hK (hP.sub [0, 1, 2, 3] rfl) rfl rfl rfl rfl hl.1 rfl (Nat.le_of_ble_eq_true rfl) ⟨Nat.zero_le _, Nat.zero_le _⟩ dX1_kind_2 ?_
  refine vz_ifeqB (tgt := 17) hx hb dX1_kind_5 (by decide) (fun c_5 => ?_) (fun c_5 => ?_)
  · skip
    refine lv_iconst (v := -1) hx hb dX1_kind_17 (by decide) ?_
    exact vz_iret hx hb hr hlocks hQ (vp_nar_int _) dX1_kind_18 (by first | (rw [if_pos c_5, hqc]) | (rw [if_neg (by rw [c_5]; decide)]))
  · skip
    obtain ⟨q, hq, rfl⟩ : ∃ q : Nat, q < zN n ∧ z = nI q := by
      have c_15 := c_5
      simp only [Bool.and_eq_true, Bool.not_eq_true', decide_eq_false_iff_not] at c_15
      rcases pk_ix z (n := zN n) (by omega) with h1 | h1 | h1
      · exact absurd h1 c_15.1
      · exact absurd h1 c_15.2
      · exact h1
    have hqc : (nI q).toNatClampNeg = q := nI_clamp (by omega)
    refine lv_aload_n hx hb dX1_kind_8 rfl (lv_at hl 0 rfl) ?_
    refine va_get (D := D) (ci := 1) (v := .ref (ad 6)) (C := RX1) (T := TX1) (N := 8) hx hb hts hi0 hown hK hP 0 rfl rfl 5 (by decide) hf29 (fun _ h9 => h9) rfl dX1_kind_9 ?_
    refine lv_iload_n hx hb dX1_kind_12 rfl (lv_at hl 1 rfl) ?_
    refine vz_ald hx hb hK hP 2 rfl (by omega) (Nat.le_of_ble_eq_true rfl) dX1_kind_13 ?_
    refine lv_goto (tgt := 18) hx hb dX1_kind_14 (by decide) ?_
    exact vz_iret hx hb hr hlocks hQ (vp_nar_int _) dX1_kind_18 (by first | (rw [if_pos c_5, hqc]) | (rw [if_neg (by rw [c_5]; decide)]))
set_option maxHeartbeats 4000000 in
set_option maxRecDepth 100000 in
theorem c_X1_same00 (l : Launch) (D : va_G) (kA : ClassId) (ad : Nat → Nat) (n : Nat) (fp fk fh : Nat → Int32) (c0 c1 c2 c3 : Nat) (f0 f1 f2 f3 : Nat → Int32) (hn : n ≤ 8) (hci : c0 ≤ 24) (hcj : c0 ≤ 24) : vz_M l yX1_same wsX1_same 3 69 [.ref (ad 0), .int (nI 0), .int (nI 0)] D kA [(ad 0, .inr (1, [.ref (ad 1), .ref (ad 2), .ref (ad 3), .ref (ad 4), .ref (ad 5), .ref (ad 6), .ref (ad 7), .int (nI n)])), (ad 5, .inl (kA, 256, .inl fp)), (ad 6, .inl (kA, 256, .inl fk)), (ad 7, .inl (kA, 256, .inl fh)), (ad 1, .inr (0, [.ref (ad 8), .int (nI c0)])), (ad 8, .inl (kA, 24, .inl f0)), (ad 2, .inr (0, [.ref (ad 9), .int (nI c1)])), (ad 9, .inl (kA, 24, .inl f1)), (ad 3, .inr (0, [.ref (ad 10), .int (nI c2)])), (ad 10, .inl (kA, 24, .inl f2)), (ad 4, .inr (0, [.ref (ad 11), .int (nI c3)])), (ad 11, .inl (kA, 24, .inl f3))] (some (.int (vz_b (!exB (zN n) (fun p => !decide (fk p = nI 2) && (zX_inL fp c0 f0 p != zX_inL fp c0 f0 p)))))) := by
  refine vz_start (cc := cX1_same) (maxL := 5) (ret := (some .boolean)) (own := RX1) (by decide) rfl rfl (Nat.le_of_ble_eq_true rfl) ?_
  intro pz ez sz mz below meth cz args Q ls hargs hx hb hml hown hts hr hlocks hP hK hQ hl
  have hcf : CallFix pz mz cz cX1_same 5 sz args wsX1_same RX1 := ⟨hx, hb, hml, hown, hts⟩
  have hl : lv_has ls 5 [(0, .ref (ad 0)), (1, .int (nI 0)), (2, .int (nI 0))] := hl
  refine lv_aload_n hx hb dX1_same_0 rfl (lv_at hl 0 rfl) ?_
  refine lv_iload_n hx hb dX1_same_1 rfl (lv_at hl 1 rfl) ?_
  refine vz_callV (n := 1) (As := [.int (nI 0)]) (rest := []) (q0 := 0) hcf (c_X1_listAt0 l D kA ad n fp fk fh hn) gX1_same_X1_listAt rfl hd_X1_listAt ⟨Nat.le_of_ble_eq_true rfl, Nat.le_of_ble_eq_true rfl⟩ hK (hP.sub [0, 1, 2, 3] rfl) rfl rfl rfl rfl hl.1 rfl (Nat.le_of_ble_eq_true rfl) ⟨Nat.zero_le _, Nat.zero_le _⟩ dX1_same_2 ?_
  refine lv_astore_n (lv' := [(3, .ref (ad 1)), (0, .ref (ad 0)), (1, .int (nI 0)), (2, .int (nI 0))]) hx hb dX1_same_5 rfl hl (by decide) rfl (fun ls hl => ?_)
  refine lv_aload_n hx hb dX1_same_6 rfl (lv_at hl 1 rfl) ?_
  refine lv_iload_n hx hb dX1_same_7 rfl (lv_at hl 3 rfl) ?_
  refine vz_callV (n := 1) (As := [.int (nI 0)]) (rest := []) (q0 := 0) hcf (c_X1_listAt0 l D kA ad n fp fk fh hn) gX1_same_X1_listAt rfl hd_X1_listAt ⟨Nat.le_of_ble_eq_true rfl, Nat.le_of_ble_eq_true rfl⟩ hK (hP.sub [0, 1, 2, 3] rfl) rfl rfl rfl rfl hl.1 rfl (Nat.le_of_ble_eq_true rfl) ⟨Nat.zero_le _, Nat.zero_le _⟩ dX1_same_8 ?_
  refine lv_astore (lv' := [(4, .ref (ad 1)), (3, .ref (ad 1)), (0, .ref (ad 0)), (1, .int (nI 0)), (2, .int (nI 0))]) hx hb dX1_same_11 hl (by decide) rfl (fun ls hl => ?_)
  refine lv_aload_n hx hb dX1_same_13 rfl (lv_at hl 1 rfl) ?_
  refine lv_ifnull hx hb dX1_same_14 ?_
  refine lv_aload hx hb dX1_same_17 (lv_at hl 0 rfl) ?_
  refine lv_ifnull hx hb dX1_same_19 ?_
  refine lv_aload_n hx hb dX1_same_22 rfl (lv_at hl 2 rfl) ?_
  refine lv_aload_n hx hb dX1_same_23 rfl (lv_at hl 1 rfl) ?_
  refine lv_aload hx hb dX1_same_24 (lv_at hl 0 rfl) ?_
  refine vz_callV (n := 2) (As := [.ref (ad 1), .ref (ad 1)]) (rest := []) (q0 := 0) hcf (c_X1_agree l D kA ad n fp fk fh hn (ad 1) (ad 8) c0 f0 hci (ad 1) (ad 8) c0 f0 hcj) gX1_same_X1_agree rfl hd_X1_agree ⟨Nat.le_of_ble_eq_true rfl, Nat.le_of_ble_eq_true rfl⟩ hK (hP.sub [0, 1, 2, 3, 4, 5, 4, 5] rfl) rfl rfl rfl rfl hl.1 rfl (Nat.le_of_ble_eq_true rfl) ⟨Nat.zero_le _, Nat.zero_le _⟩ dX1_same_26 ?_
  refine vz_ifeqB (tgt := 36) hx hb dX1_same_29 (by decide) (fun c_29 => ?_) (fun c_29 => ?_)
  · skip
    refine lv_iconst (v := nI 0) hx hb dX1_same_36 (by decide) ?_
    exact vz_iret hx hb hr hlocks hQ (rfl) dX1_same_37 (by first | rfl | (rw [c_29]; rfl))
  · skip
    refine lv_iconst (v := nI 1) hx hb dX1_same_32 (by decide) ?_
    refine lv_goto (tgt := 37) hx hb dX1_same_33 (by decide) ?_
    exact vz_iret hx hb hr hlocks hQ (rfl) dX1_same_37 (by first | rfl | (rw [c_29]; rfl))
set_option maxHeartbeats 4000000 in
set_option maxRecDepth 100000 in
theorem c_X1_same01 (l : Launch) (D : va_G) (kA : ClassId) (ad : Nat → Nat) (n : Nat) (fp fk fh : Nat → Int32) (c0 c1 c2 c3 : Nat) (f0 f1 f2 f3 : Nat → Int32) (hn : n ≤ 8) (hci : c0 ≤ 24) (hcj : c1 ≤ 24) : vz_M l yX1_same wsX1_same 3 69 [.ref (ad 0), .int (nI 0), .int (nI 1)] D kA [(ad 0, .inr (1, [.ref (ad 1), .ref (ad 2), .ref (ad 3), .ref (ad 4), .ref (ad 5), .ref (ad 6), .ref (ad 7), .int (nI n)])), (ad 5, .inl (kA, 256, .inl fp)), (ad 6, .inl (kA, 256, .inl fk)), (ad 7, .inl (kA, 256, .inl fh)), (ad 1, .inr (0, [.ref (ad 8), .int (nI c0)])), (ad 8, .inl (kA, 24, .inl f0)), (ad 2, .inr (0, [.ref (ad 9), .int (nI c1)])), (ad 9, .inl (kA, 24, .inl f1)), (ad 3, .inr (0, [.ref (ad 10), .int (nI c2)])), (ad 10, .inl (kA, 24, .inl f2)), (ad 4, .inr (0, [.ref (ad 11), .int (nI c3)])), (ad 11, .inl (kA, 24, .inl f3))] (some (.int (vz_b (!exB (zN n) (fun p => !decide (fk p = nI 2) && (zX_inL fp c0 f0 p != zX_inL fp c1 f1 p)))))) := by
  refine vz_start (cc := cX1_same) (maxL := 5) (ret := (some .boolean)) (own := RX1) (by decide) rfl rfl (Nat.le_of_ble_eq_true rfl) ?_
  intro pz ez sz mz below meth cz args Q ls hargs hx hb hml hown hts hr hlocks hP hK hQ hl
  have hcf : CallFix pz mz cz cX1_same 5 sz args wsX1_same RX1 := ⟨hx, hb, hml, hown, hts⟩
  have hl : lv_has ls 5 [(0, .ref (ad 0)), (1, .int (nI 0)), (2, .int (nI 1))] := hl
  refine lv_aload_n hx hb dX1_same_0 rfl (lv_at hl 0 rfl) ?_
  refine lv_iload_n hx hb dX1_same_1 rfl (lv_at hl 1 rfl) ?_
  refine vz_callV (n := 1) (As := [.int (nI 0)]) (rest := []) (q0 := 0) hcf (c_X1_listAt0 l D kA ad n fp fk fh hn) gX1_same_X1_listAt rfl hd_X1_listAt ⟨Nat.le_of_ble_eq_true rfl, Nat.le_of_ble_eq_true rfl⟩ hK (hP.sub [0, 1, 2, 3] rfl) rfl rfl rfl rfl hl.1 rfl (Nat.le_of_ble_eq_true rfl) ⟨Nat.zero_le _, Nat.zero_le _⟩ dX1_same_2 ?_
  refine lv_astore_n (lv' := [(3, .ref (ad 1)), (0, .ref (ad 0)), (1, .int (nI 0)), (2, .int (nI 1))]) hx hb dX1_same_5 rfl hl (by decide) rfl (fun ls hl => ?_)
  refine lv_aload_n hx hb dX1_same_6 rfl (lv_at hl 1 rfl) ?_
  refine lv_iload_n hx hb dX1_same_7 rfl (lv_at hl 3 rfl) ?_
  refine vz_callV (n := 1) (As := [.int (nI 1)]) (rest := []) (q0 := 0) hcf (c_X1_listAt1 l D kA ad n fp fk fh hn) gX1_same_X1_listAt rfl hd_X1_listAt ⟨Nat.le_of_ble_eq_true rfl, Nat.le_of_ble_eq_true rfl⟩ hK (hP.sub [0, 1, 2, 3] rfl) rfl rfl rfl rfl hl.1 rfl (Nat.le_of_ble_eq_true rfl) ⟨Nat.zero_le _, Nat.zero_le _⟩ dX1_same_8 ?_
  refine lv_astore (lv' := [(4, .ref (ad 2)), (3, .ref (ad 1)), (0, .ref (ad 0)), (1, .int (nI 0)), (2, .int (nI 1))]) hx hb dX1_same_11 hl (by decide) rfl (fun ls hl => ?_)
  refine lv_aload_n hx hb dX1_same_13 rfl (lv_at hl 1 rfl) ?_
  refine lv_ifnull hx hb dX1_same_14 ?_
  refine lv_aload hx hb dX1_same_17 (lv_at hl 0 rfl) ?_
  refine lv_ifnull hx hb dX1_same_19 ?_
  refine lv_aload_n hx hb dX1_same_22 rfl (lv_at hl 2 rfl) ?_
  refine lv_aload_n hx hb dX1_same_23 rfl (lv_at hl 1 rfl) ?_
  refine lv_aload hx hb dX1_same_24 (lv_at hl 0 rfl) ?_
  refine vz_callV (n := 2) (As := [.ref (ad 1), .ref (ad 2)]) (rest := []) (q0 := 0) hcf (c_X1_agree l D kA ad n fp fk fh hn (ad 1) (ad 8) c0 f0 hci (ad 2) (ad 9) c1 f1 hcj) gX1_same_X1_agree rfl hd_X1_agree ⟨Nat.le_of_ble_eq_true rfl, Nat.le_of_ble_eq_true rfl⟩ hK (hP.sub [0, 1, 2, 3, 4, 5, 6, 7] rfl) rfl rfl rfl rfl hl.1 rfl (Nat.le_of_ble_eq_true rfl) ⟨Nat.zero_le _, Nat.zero_le _⟩ dX1_same_26 ?_
  refine vz_ifeqB (tgt := 36) hx hb dX1_same_29 (by decide) (fun c_29 => ?_) (fun c_29 => ?_)
  · skip
    refine lv_iconst (v := nI 0) hx hb dX1_same_36 (by decide) ?_
    exact vz_iret hx hb hr hlocks hQ (rfl) dX1_same_37 (by first | rfl | (rw [c_29]; rfl))
  · skip
    refine lv_iconst (v := nI 1) hx hb dX1_same_32 (by decide) ?_
    refine lv_goto (tgt := 37) hx hb dX1_same_33 (by decide) ?_
    exact vz_iret hx hb hr hlocks hQ (rfl) dX1_same_37 (by first | rfl | (rw [c_29]; rfl))
set_option maxHeartbeats 4000000 in
set_option maxRecDepth 100000 in
theorem c_X1_same02 (l : Launch) (D : va_G) (kA : ClassId) (ad : Nat → Nat) (n : Nat) (fp fk fh : Nat → Int32) (c0 c1 c2 c3 : Nat) (f0 f1 f2 f3 : Nat → Int32) (hn : n ≤ 8) (hci : c0 ≤ 24) (hcj : c2 ≤ 24) : vz_M l yX1_same wsX1_same 3 69 [.ref (ad 0), .int (nI 0), .int (nI 2)] D kA [(ad 0, .inr (1, [.ref (ad 1), .ref (ad 2), .ref (ad 3), .ref (ad 4), .ref (ad 5), .ref (ad 6), .ref (ad 7), .int (nI n)])), (ad 5, .inl (kA, 256, .inl fp)), (ad 6, .inl (kA, 256, .inl fk)), (ad 7, .inl (kA, 256, .inl fh)), (ad 1, .inr (0, [.ref (ad 8), .int (nI c0)])), (ad 8, .inl (kA, 24, .inl f0)), (ad 2, .inr (0, [.ref (ad 9), .int (nI c1)])), (ad 9, .inl (kA, 24, .inl f1)), (ad 3, .inr (0, [.ref (ad 10), .int (nI c2)])), (ad 10, .inl (kA, 24, .inl f2)), (ad 4, .inr (0, [.ref (ad 11), .int (nI c3)])), (ad 11, .inl (kA, 24, .inl f3))] (some (.int (vz_b (!exB (zN n) (fun p => !decide (fk p = nI 2) && (zX_inL fp c0 f0 p != zX_inL fp c2 f2 p)))))) := by
  refine vz_start (cc := cX1_same) (maxL := 5) (ret := (some .boolean)) (own := RX1) (by decide) rfl rfl (Nat.le_of_ble_eq_true rfl) ?_
  intro pz ez sz mz below meth cz args Q ls hargs hx hb hml hown hts hr hlocks hP hK hQ hl
  have hcf : CallFix pz mz cz cX1_same 5 sz args wsX1_same RX1 := ⟨hx, hb, hml, hown, hts⟩
  have hl : lv_has ls 5 [(0, .ref (ad 0)), (1, .int (nI 0)), (2, .int (nI 2))] := hl
  refine lv_aload_n hx hb dX1_same_0 rfl (lv_at hl 0 rfl) ?_
  refine lv_iload_n hx hb dX1_same_1 rfl (lv_at hl 1 rfl) ?_
  refine vz_callV (n := 1) (As := [.int (nI 0)]) (rest := []) (q0 := 0) hcf (c_X1_listAt0 l D kA ad n fp fk fh hn) gX1_same_X1_listAt rfl hd_X1_listAt ⟨Nat.le_of_ble_eq_true rfl, Nat.le_of_ble_eq_true rfl⟩ hK (hP.sub [0, 1, 2, 3] rfl) rfl rfl rfl rfl hl.1 rfl (Nat.le_of_ble_eq_true rfl) ⟨Nat.zero_le _, Nat.zero_le _⟩ dX1_same_2 ?_
  refine lv_astore_n (lv' := [(3, .ref (ad 1)), (0, .ref (ad 0)), (1, .int (nI 0)), (2, .int (nI 2))]) hx hb dX1_same_5 rfl hl (by decide) rfl (fun ls hl => ?_)
  refine lv_aload_n hx hb dX1_same_6 rfl (lv_at hl 1 rfl) ?_
  refine lv_iload_n hx hb dX1_same_7 rfl (lv_at hl 3 rfl) ?_
  refine vz_callV (n := 1) (As := [.int (nI 2)]) (rest := []) (q0 := 0) hcf (c_X1_listAt2 l D kA ad n fp fk fh hn) gX1_same_X1_listAt rfl hd_X1_listAt ⟨Nat.le_of_ble_eq_true rfl, Nat.le_of_ble_eq_true rfl⟩ hK (hP.sub [0, 1, 2, 3] rfl) rfl rfl rfl rfl hl.1 rfl (Nat.le_of_ble_eq_true rfl) ⟨Nat.zero_le _, Nat.zero_le _⟩ dX1_same_8 ?_
  refine lv_astore (lv' := [(4, .ref (ad 3)), (3, .ref (ad 1)), (0, .ref (ad 0)), (1, .int (nI 0)), (2, .int (nI 2))]) hx hb dX1_same_11 hl (by decide) rfl (fun ls hl => ?_)
  refine lv_aload_n hx hb dX1_same_13 rfl (lv_at hl 1 rfl) ?_
  refine lv_ifnull hx hb dX1_same_14 ?_
  refine lv_aload hx hb dX1_same_17 (lv_at hl 0 rfl) ?_
  refine lv_ifnull hx hb dX1_same_19 ?_
  refine lv_aload_n hx hb dX1_same_22 rfl (lv_at hl 2 rfl) ?_
  refine lv_aload_n hx hb dX1_same_23 rfl (lv_at hl 1 rfl) ?_
  refine lv_aload hx hb dX1_same_24 (lv_at hl 0 rfl) ?_
  refine vz_callV (n := 2) (As := [.ref (ad 1), .ref (ad 3)]) (rest := []) (q0 := 0) hcf (c_X1_agree l D kA ad n fp fk fh hn (ad 1) (ad 8) c0 f0 hci (ad 3) (ad 10) c2 f2 hcj) gX1_same_X1_agree rfl hd_X1_agree ⟨Nat.le_of_ble_eq_true rfl, Nat.le_of_ble_eq_true rfl⟩ hK (hP.sub [0, 1, 2, 3, 4, 5, 8, 9] rfl) rfl rfl rfl rfl hl.1 rfl (Nat.le_of_ble_eq_true rfl) ⟨Nat.zero_le _, Nat.zero_le _⟩ dX1_same_26 ?_
  refine vz_ifeqB (tgt := 36) hx hb dX1_same_29 (by decide) (fun c_29 => ?_) (fun c_29 => ?_)
  · skip
    refine lv_iconst (v := nI 0) hx hb dX1_same_36 (by decide) ?_
    exact vz_iret hx hb hr hlocks hQ (rfl) dX1_same_37 (by first | rfl | (rw [c_29]; rfl))
  · skip
    refine lv_iconst (v := nI 1) hx hb dX1_same_32 (by decide) ?_
    refine lv_goto (tgt := 37) hx hb dX1_same_33 (by decide) ?_
    exact vz_iret hx hb hr hlocks hQ (rfl) dX1_same_37 (by first | rfl | (rw [c_29]; rfl))
set_option maxHeartbeats 4000000 in
set_option maxRecDepth 100000 in
theorem c_X1_same03 (l : Launch) (D : va_G) (kA : ClassId) (ad : Nat → Nat) (n : Nat) (fp fk fh : Nat → Int32) (c0 c1 c2 c3 : Nat) (f0 f1 f2 f3 : Nat → Int32) (hn : n ≤ 8) (y : Int32) (hy3 : y.toInt < 0 ∨ 2 < y.toInt) : vz_M l yX1_same wsX1_same 1 21 [.ref (ad 0), .int (nI 0), .int y] D kA [(ad 0, .inr (1, [.ref (ad 1), .ref (ad 2), .ref (ad 3), .ref (ad 4), .ref (ad 5), .ref (ad 6), .ref (ad 7), .int (nI n)])), (ad 5, .inl (kA, 256, .inl fp)), (ad 6, .inl (kA, 256, .inl fk)), (ad 7, .inl (kA, 256, .inl fh)), (ad 1, .inr (0, [.ref (ad 8), .int (nI c0)])), (ad 8, .inl (kA, 24, .inl f0)), (ad 2, .inr (0, [.ref (ad 9), .int (nI c1)])), (ad 9, .inl (kA, 24, .inl f1)), (ad 3, .inr (0, [.ref (ad 10), .int (nI c2)])), (ad 10, .inl (kA, 24, .inl f2)), (ad 4, .inr (0, [.ref (ad 11), .int (nI c3)])), (ad 11, .inl (kA, 24, .inl f3))] (some (.int (nI 0))) := by
  refine vz_start (cc := cX1_same) (maxL := 5) (ret := (some .boolean)) (own := RX1) (by decide) rfl rfl (Nat.le_of_ble_eq_true rfl) ?_
  intro pz ez sz mz below meth cz args Q ls hargs hx hb hml hown hts hr hlocks hP hK hQ hl
  have hcf : CallFix pz mz cz cX1_same 5 sz args wsX1_same RX1 := ⟨hx, hb, hml, hown, hts⟩
  have hl : lv_has ls 5 [(0, .ref (ad 0)), (1, .int (nI 0)), (2, .int y)] := hl
  refine lv_aload_n hx hb dX1_same_0 rfl (lv_at hl 0 rfl) ?_
  refine lv_iload_n hx hb dX1_same_1 rfl (lv_at hl 1 rfl) ?_
  refine vz_callV (n := 1) (As := [.int (nI 0)]) (rest := []) (q0 := 0) hcf (c_X1_listAt0 l D kA ad n fp fk fh hn) gX1_same_X1_listAt rfl hd_X1_listAt ⟨Nat.le_of_ble_eq_true rfl, Nat.le_of_ble_eq_true rfl⟩ hK (hP.sub [0, 1, 2, 3] rfl) rfl rfl rfl rfl hl.1 rfl (Nat.le_of_ble_eq_true rfl) ⟨Nat.zero_le _, Nat.zero_le _⟩ dX1_same_2 ?_
  refine lv_astore_n (lv' := [(3, .ref (ad 1)), (0, .ref (ad 0)), (1, .int (nI 0)), (2, .int y)]) hx hb dX1_same_5 rfl hl (by decide) rfl (fun ls hl => ?_)
  refine lv_aload_n hx hb dX1_same_6 rfl (lv_at hl 1 rfl) ?_
  refine lv_iload_n hx hb dX1_same_7 rfl (lv_at hl 3 rfl) ?_
  refine vz_callV (n := 1) (As := [.int y]) (rest := []) (q0 := 0) hcf (c_X1_listAt3 l D kA ad n fp fk fh hn y hy3) gX1_same_X1_listAt rfl hd_X1_listAt ⟨Nat.le_of_ble_eq_true rfl, Nat.le_of_ble_eq_true rfl⟩ hK (hP.sub [0, 1, 2, 3] rfl) rfl rfl rfl rfl hl.1 rfl (Nat.le_of_ble_eq_true rfl) ⟨Nat.zero_le _, Nat.zero_le _⟩ dX1_same_8 ?_
  refine lv_astoreN (lv' := [(4, .null), (3, .ref (ad 1)), (0, .ref (ad 0)), (1, .int (nI 0)), (2, .int y)]) hx hb dX1_same_11 hl (by decide) rfl (fun ls hl => ?_)
  refine lv_aload_n hx hb dX1_same_13 rfl (lv_at hl 1 rfl) ?_
  refine lv_ifnull hx hb dX1_same_14 ?_
  refine lv_aloadN hx hb dX1_same_17 (lv_at hl 0 rfl) ?_
  refine lv_ifnullN (tgt := 36) hx hb dX1_same_19 (by decide) ?_
  refine lv_iconst (v := nI 0) hx hb dX1_same_36 (by decide) ?_
  exact vz_iret hx hb hr hlocks hQ (rfl) dX1_same_37 (by first | rfl | (rw [c_29]; rfl))
set_option maxHeartbeats 4000000 in
set_option maxRecDepth 100000 in
theorem c_X1_same10 (l : Launch) (D : va_G) (kA : ClassId) (ad : Nat → Nat) (n : Nat) (fp fk fh : Nat → Int32) (c0 c1 c2 c3 : Nat) (f0 f1 f2 f3 : Nat → Int32) (hn : n ≤ 8) (hci : c1 ≤ 24) (hcj : c0 ≤ 24) : vz_M l yX1_same wsX1_same 3 69 [.ref (ad 0), .int (nI 1), .int (nI 0)] D kA [(ad 0, .inr (1, [.ref (ad 1), .ref (ad 2), .ref (ad 3), .ref (ad 4), .ref (ad 5), .ref (ad 6), .ref (ad 7), .int (nI n)])), (ad 5, .inl (kA, 256, .inl fp)), (ad 6, .inl (kA, 256, .inl fk)), (ad 7, .inl (kA, 256, .inl fh)), (ad 1, .inr (0, [.ref (ad 8), .int (nI c0)])), (ad 8, .inl (kA, 24, .inl f0)), (ad 2, .inr (0, [.ref (ad 9), .int (nI c1)])), (ad 9, .inl (kA, 24, .inl f1)), (ad 3, .inr (0, [.ref (ad 10), .int (nI c2)])), (ad 10, .inl (kA, 24, .inl f2)), (ad 4, .inr (0, [.ref (ad 11), .int (nI c3)])), (ad 11, .inl (kA, 24, .inl f3))] (some (.int (vz_b (!exB (zN n) (fun p => !decide (fk p = nI 2) && (zX_inL fp c1 f1 p != zX_inL fp c0 f0 p)))))) := by
  refine vz_start (cc := cX1_same) (maxL := 5) (ret := (some .boolean)) (own := RX1) (by decide) rfl rfl (Nat.le_of_ble_eq_true rfl) ?_
  intro pz ez sz mz below meth cz args Q ls hargs hx hb hml hown hts hr hlocks hP hK hQ hl
  have hcf : CallFix pz mz cz cX1_same 5 sz args wsX1_same RX1 := ⟨hx, hb, hml, hown, hts⟩
  have hl : lv_has ls 5 [(0, .ref (ad 0)), (1, .int (nI 1)), (2, .int (nI 0))] := hl
  refine lv_aload_n hx hb dX1_same_0 rfl (lv_at hl 0 rfl) ?_
  refine lv_iload_n hx hb dX1_same_1 rfl (lv_at hl 1 rfl) ?_
  refine vz_callV (n := 1) (As := [.int (nI 1)]) (rest := []) (q0 := 0) hcf (c_X1_listAt1 l D kA ad n fp fk fh hn) gX1_same_X1_listAt rfl hd_X1_listAt ⟨Nat.le_of_ble_eq_true rfl, Nat.le_of_ble_eq_true rfl⟩ hK (hP.sub [0, 1, 2, 3] rfl) rfl rfl rfl rfl hl.1 rfl (Nat.le_of_ble_eq_true rfl) ⟨Nat.zero_le _, Nat.zero_le _⟩ dX1_same_2 ?_
  refine lv_astore_n (lv' := [(3, .ref (ad 2)), (0, .ref (ad 0)), (1, .int (nI 1)), (2, .int (nI 0))]) hx hb dX1_same_5 rfl hl (by decide) rfl (fun ls hl => ?_)
  refine lv_aload_n hx hb dX1_same_6 rfl (lv_at hl 1 rfl) ?_
  refine lv_iload_n hx hb dX1_same_7 rfl (lv_at hl 3 rfl) ?_
  refine vz_callV (n := 1) (As := [.int (nI 0)]) (rest := []) (q0 := 0) hcf (c_X1_listAt0 l D kA ad n fp fk fh hn) gX1_same_X1_listAt rfl hd_X1_listAt ⟨Nat.le_of_ble_eq_true rfl, Nat.le_of_ble_eq_true rfl⟩ hK (hP.sub [0, 1, 2, 3] rfl) rfl rfl rfl rfl hl.1 rfl (Nat.le_of_ble_eq_true rfl) ⟨Nat.zero_le _, Nat.zero_le _⟩ dX1_same_8 ?_
  refine lv_astore (lv' := [(4, .ref (ad 1)), (3, .ref (ad 2)), (0, .ref (ad 0)), (1, .int (nI 1)), (2, .int (nI 0))]) hx hb dX1_same_11 hl (by decide) rfl (fun ls hl => ?_)
  refine lv_aload_n hx hb dX1_same_13 rfl (lv_at hl 1 rfl) ?_
  refine lv_ifnull hx hb dX1_same_14 ?_
  refine lv_aload hx hb dX1_same_17 (lv_at hl 0 rfl) ?_
  refine lv_ifnull hx hb dX1_same_19 ?_
  refine lv_aload_n hx hb dX1_same_22 rfl (lv_at hl 2 rfl) ?_
  refine lv_aload_n hx hb dX1_same_23 rfl (lv_at hl 1 rfl) ?_
  refine lv_aload hx hb dX1_same_24 (lv_at hl 0 rfl) ?_
  refine vz_callV (n := 2) (As := [.ref (ad 2), .ref (ad 1)]) (rest := []) (q0 := 0) hcf (c_X1_agree l D kA ad n fp fk fh hn (ad 2) (ad 9) c1 f1 hci (ad 1) (ad 8) c0 f0 hcj) gX1_same_X1_agree rfl hd_X1_agree ⟨Nat.le_of_ble_eq_true rfl, Nat.le_of_ble_eq_true rfl⟩ hK (hP.sub [0, 1, 2, 3, 6, 7, 4, 5] rfl) rfl rfl rfl rfl hl.1 rfl (Nat.le_of_ble_eq_true rfl) ⟨Nat.zero_le _, Nat.zero_le _⟩ dX1_same_26 ?_
  refine vz_ifeqB (tgt := 36) hx hb dX1_same_29 (by decide) (fun c_29 => ?_) (fun c_29 => ?_)
  · skip
    refine lv_iconst (v := nI 0) hx hb dX1_same_36 (by decide) ?_
    exact vz_iret hx hb hr hlocks hQ (rfl) dX1_same_37 (by first | rfl | (rw [c_29]; rfl))
  · skip
    refine lv_iconst (v := nI 1) hx hb dX1_same_32 (by decide) ?_
    refine lv_goto (tgt := 37) hx hb dX1_same_33 (by decide) ?_
    exact vz_iret hx hb hr hlocks hQ (rfl) dX1_same_37 (by first | rfl | (rw [c_29]; rfl))
set_option maxHeartbeats 4000000 in
set_option maxRecDepth 100000 in
theorem c_X1_same11 (l : Launch) (D : va_G) (kA : ClassId) (ad : Nat → Nat) (n : Nat) (fp fk fh : Nat → Int32) (c0 c1 c2 c3 : Nat) (f0 f1 f2 f3 : Nat → Int32) (hn : n ≤ 8) (hci : c1 ≤ 24) (hcj : c1 ≤ 24) : vz_M l yX1_same wsX1_same 3 69 [.ref (ad 0), .int (nI 1), .int (nI 1)] D kA [(ad 0, .inr (1, [.ref (ad 1), .ref (ad 2), .ref (ad 3), .ref (ad 4), .ref (ad 5), .ref (ad 6), .ref (ad 7), .int (nI n)])), (ad 5, .inl (kA, 256, .inl fp)), (ad 6, .inl (kA, 256, .inl fk)), (ad 7, .inl (kA, 256, .inl fh)), (ad 1, .inr (0, [.ref (ad 8), .int (nI c0)])), (ad 8, .inl (kA, 24, .inl f0)), (ad 2, .inr (0, [.ref (ad 9), .int (nI c1)])), (ad 9, .inl (kA, 24, .inl f1)), (ad 3, .inr (0, [.ref (ad 10), .int (nI c2)])), (ad 10, .inl (kA, 24, .inl f2)), (ad 4, .inr (0, [.ref (ad 11), .int (nI c3)])), (ad 11, .inl (kA, 24, .inl f3))] (some (.int (vz_b (!exB (zN n) (fun p => !decide (fk p = nI 2) && (zX_inL fp c1 f1 p != zX_inL fp c1 f1 p)))))) := by
  refine vz_start (cc := cX1_same) (maxL := 5) (ret := (some .boolean)) (own := RX1) (by decide) rfl rfl (Nat.le_of_ble_eq_true rfl) ?_
  intro pz ez sz mz below meth cz args Q ls hargs hx hb hml hown hts hr hlocks hP hK hQ hl
  have hcf : CallFix pz mz cz cX1_same 5 sz args wsX1_same RX1 := ⟨hx, hb, hml, hown, hts⟩
  have hl : lv_has ls 5 [(0, .ref (ad 0)), (1, .int (nI 1)), (2, .int (nI 1))] := hl
  refine lv_aload_n hx hb dX1_same_0 rfl (lv_at hl 0 rfl) ?_
  refine lv_iload_n hx hb dX1_same_1 rfl (lv_at hl 1 rfl) ?_
  refine vz_callV (n := 1) (As := [.int (nI 1)]) (rest := []) (q0 := 0) hcf (c_X1_listAt1 l D kA ad n fp fk fh hn) gX1_same_X1_listAt rfl hd_X1_listAt ⟨Nat.le_of_ble_eq_true rfl, Nat.le_of_ble_eq_true rfl⟩ hK (hP.sub [0, 1, 2, 3] rfl) rfl rfl rfl rfl hl.1 rfl (Nat.le_of_ble_eq_true rfl) ⟨Nat.zero_le _, Nat.zero_le _⟩ dX1_same_2 ?_
  refine lv_astore_n (lv' := [(3, .ref (ad 2)), (0, .ref (ad 0)), (1, .int (nI 1)), (2, .int (nI 1))]) hx hb dX1_same_5 rfl hl (by decide) rfl (fun ls hl => ?_)
  refine lv_aload_n hx hb dX1_same_6 rfl (lv_at hl 1 rfl) ?_
  refine lv_iload_n hx hb dX1_same_7 rfl (lv_at hl 3 rfl) ?_
  refine vz_callV (n := 1) (As := [.int (nI 1)]) (rest := []) (q0 := 0) hcf (c_X1_listAt1 l D kA ad n fp fk fh hn) gX1_same_X1_listAt rfl hd_X1_listAt ⟨Nat.le_of_ble_eq_true rfl, Nat.le_of_ble_eq_true rfl⟩ hK (hP.sub [0, 1, 2, 3] rfl) rfl rfl rfl rfl hl.1 rfl (Nat.le_of_ble_eq_true rfl) ⟨Nat.zero_le _, Nat.zero_le _⟩ dX1_same_8 ?_
  refine lv_astore (lv' := [(4, .ref (ad 2)), (3, .ref (ad 2)), (0, .ref (ad 0)), (1, .int (nI 1)), (2, .int (nI 1))]) hx hb dX1_same_11 hl (by decide) rfl (fun ls hl => ?_)
  refine lv_aload_n hx hb dX1_same_13 rfl (lv_at hl 1 rfl) ?_
  refine lv_ifnull hx hb dX1_same_14 ?_
  refine lv_aload hx hb dX1_same_17 (lv_at hl 0 rfl) ?_
  refine lv_ifnull hx hb dX1_same_19 ?_
  refine lv_aload_n hx hb dX1_same_22 rfl (lv_at hl 2 rfl) ?_
  refine lv_aload_n hx hb dX1_same_23 rfl (lv_at hl 1 rfl) ?_
  refine lv_aload hx hb dX1_same_24 (lv_at hl 0 rfl) ?_
  refine vz_callV (n := 2) (As := [.ref (ad 2), .ref (ad 2)]) (rest := []) (q0 := 0) hcf (c_X1_agree l D kA ad n fp fk fh hn (ad 2) (ad 9) c1 f1 hci (ad 2) (ad 9) c1 f1 hcj) gX1_same_X1_agree rfl hd_X1_agree ⟨Nat.le_of_ble_eq_true rfl, Nat.le_of_ble_eq_true rfl⟩ hK (hP.sub [0, 1, 2, 3, 6, 7, 6, 7] rfl) rfl rfl rfl rfl hl.1 rfl (Nat.le_of_ble_eq_true rfl) ⟨Nat.zero_le _, Nat.zero_le _⟩ dX1_same_26 ?_
  refine vz_ifeqB (tgt := 36) hx hb dX1_same_29 (by decide) (fun c_29 => ?_) (fun c_29 => ?_)
  · skip
    refine lv_iconst (v := nI 0) hx hb dX1_same_36 (by decide) ?_
    exact vz_iret hx hb hr hlocks hQ (rfl) dX1_same_37 (by first | rfl | (rw [c_29]; rfl))
  · skip
    refine lv_iconst (v := nI 1) hx hb dX1_same_32 (by decide) ?_
    refine lv_goto (tgt := 37) hx hb dX1_same_33 (by decide) ?_
    exact vz_iret hx hb hr hlocks hQ (rfl) dX1_same_37 (by first | rfl | (rw [c_29]; rfl))
set_option maxHeartbeats 4000000 in
set_option maxRecDepth 100000 in
theorem c_X1_same12 (l : Launch) (D : va_G) (kA : ClassId) (ad : Nat → Nat) (n : Nat) (fp fk fh : Nat → Int32) (c0 c1 c2 c3 : Nat) (f0 f1 f2 f3 : Nat → Int32) (hn : n ≤ 8) (hci : c1 ≤ 24) (hcj : c2 ≤ 24) : vz_M l yX1_same wsX1_same 3 69 [.ref (ad 0), .int (nI 1), .int (nI 2)] D kA [(ad 0, .inr (1, [.ref (ad 1), .ref (ad 2), .ref (ad 3), .ref (ad 4), .ref (ad 5), .ref (ad 6), .ref (ad 7), .int (nI n)])), (ad 5, .inl (kA, 256, .inl fp)), (ad 6, .inl (kA, 256, .inl fk)), (ad 7, .inl (kA, 256, .inl fh)), (ad 1, .inr (0, [.ref (ad 8), .int (nI c0)])), (ad 8, .inl (kA, 24, .inl f0)), (ad 2, .inr (0, [.ref (ad 9), .int (nI c1)])), (ad 9, .inl (kA, 24, .inl f1)), (ad 3, .inr (0, [.ref (ad 10), .int (nI c2)])), (ad 10, .inl (kA, 24, .inl f2)), (ad 4, .inr (0, [.ref (ad 11), .int (nI c3)])), (ad 11, .inl (kA, 24, .inl f3))] (some (.int (vz_b (!exB (zN n) (fun p => !decide (fk p = nI 2) && (zX_inL fp c1 f1 p != zX_inL fp c2 f2 p)))))) := by
  refine vz_start (cc := cX1_same) (maxL := 5) (ret := (some .boolean)) (own := RX1) (by decide) rfl rfl (Nat.le_of_ble_eq_true rfl) ?_
  intro pz ez sz mz below meth cz args Q ls hargs hx hb hml hown hts hr hlocks hP hK hQ hl
  have hcf : CallFix pz mz cz cX1_same 5 sz args wsX1_same RX1 := ⟨hx, hb, hml, hown, hts⟩
  have hl : lv_has ls 5 [(0, .ref (ad 0)), (1, .int (nI 1)), (2, .int (nI 2))] := hl
  refine lv_aload_n hx hb dX1_same_0 rfl (lv_at hl 0 rfl) ?_
  refine lv_iload_n hx hb dX1_same_1 rfl (lv_at hl 1 rfl) ?_
  refine vz_callV (n := 1) (As := [.int (nI 1)]) (rest := []) (q0 := 0) hcf (c_X1_listAt1 l D kA ad n fp fk fh hn) gX1_same_X1_listAt rfl hd_X1_listAt ⟨Nat.le_of_ble_eq_true rfl, Nat.le_of_ble_eq_true rfl⟩ hK (hP.sub [0, 1, 2, 3] rfl) rfl rfl rfl rfl hl.1 rfl (Nat.le_of_ble_eq_true rfl) ⟨Nat.zero_le _, Nat.zero_le _⟩ dX1_same_2 ?_
  refine lv_astore_n (lv' := [(3, .ref (ad 2)), (0, .ref (ad 0)), (1, .int (nI 1)), (2, .int (nI 2))]) hx hb dX1_same_5 rfl hl (by decide) rfl (fun ls hl => ?_)
  refine lv_aload_n hx hb dX1_same_6 rfl (lv_at hl 1 rfl) ?_
  refine lv_iload_n hx hb dX1_same_7 rfl (lv_at hl 3 rfl) ?_
  refine vz_callV (n := 1) (As := [.int (nI 2)]) (rest := []) (q0 := 0) hcf (c_X1_listAt2 l D kA ad n fp fk fh hn) gX1_same_X1_listAt rfl hd_X1_listAt ⟨Nat.le_of_ble_eq_true rfl, Nat.le_of_ble_eq_true rfl⟩ hK (hP.sub [0, 1, 2, 3] rfl) rfl rfl rfl rfl hl.1 rfl (Nat.le_of_ble_eq_true rfl) ⟨Nat.zero_le _, Nat.zero_le _⟩ dX1_same_8 ?_
  refine lv_astore (lv' := [(4, .ref (ad 3)), (3, .ref (ad 2)), (0, .ref (ad 0)), (1, .int (nI 1)), (2, .int (nI 2))]) hx hb dX1_same_11 hl (by decide) rfl (fun ls hl => ?_)
  refine lv_aload_n hx hb dX1_same_13 rfl (lv_at hl 1 rfl) ?_
  refine lv_ifnull hx hb dX1_same_14 ?_
  refine lv_aload hx hb dX1_same_17 (lv_at hl 0 rfl) ?_
  refine lv_ifnull hx hb dX1_same_19 ?_
  refine lv_aload_n hx hb dX1_same_22 rfl (lv_at hl 2 rfl) ?_
  refine lv_aload_n hx hb dX1_same_23 rfl (lv_at hl 1 rfl) ?_
  refine lv_aload hx hb dX1_same_24 (lv_at hl 0 rfl) ?_
  refine vz_callV (n := 2) (As := [.ref (ad 2), .ref (ad 3)]) (rest := []) (q0 := 0) hcf (c_X1_agree l D kA ad n fp fk fh hn (ad 2) (ad 9) c1 f1 hci (ad 3) (ad 10) c2 f2 hcj) gX1_same_X1_agree rfl hd_X1_agree ⟨Nat.le_of_ble_eq_true rfl, Nat.le_of_ble_eq_true rfl⟩ hK (hP.sub [0, 1, 2, 3, 6, 7, 8, 9] rfl) rfl rfl rfl rfl hl.1 rfl (Nat.le_of_ble_eq_true rfl) ⟨Nat.zero_le _, Nat.zero_le _⟩ dX1_same_26 ?_
  refine vz_ifeqB (tgt := 36) hx hb dX1_same_29 (by decide) (fun c_29 => ?_) (fun c_29 => ?_)
  · skip
    refine lv_iconst (v := nI 0) hx hb dX1_same_36 (by decide) ?_
    exact vz_iret hx hb hr hlocks hQ (rfl) dX1_same_37 (by first | rfl | (rw [c_29]; rfl))
  · skip
    refine lv_iconst (v := nI 1) hx hb dX1_same_32 (by decide) ?_
    refine lv_goto (tgt := 37) hx hb dX1_same_33 (by decide) ?_
    exact vz_iret hx hb hr hlocks hQ (rfl) dX1_same_37 (by first | rfl | (rw [c_29]; rfl))
set_option maxHeartbeats 4000000 in
set_option maxRecDepth 100000 in
theorem c_X1_same13 (l : Launch) (D : va_G) (kA : ClassId) (ad : Nat → Nat) (n : Nat) (fp fk fh : Nat → Int32) (c0 c1 c2 c3 : Nat) (f0 f1 f2 f3 : Nat → Int32) (hn : n ≤ 8) (y : Int32) (hy3 : y.toInt < 0 ∨ 2 < y.toInt) : vz_M l yX1_same wsX1_same 1 21 [.ref (ad 0), .int (nI 1), .int y] D kA [(ad 0, .inr (1, [.ref (ad 1), .ref (ad 2), .ref (ad 3), .ref (ad 4), .ref (ad 5), .ref (ad 6), .ref (ad 7), .int (nI n)])), (ad 5, .inl (kA, 256, .inl fp)), (ad 6, .inl (kA, 256, .inl fk)), (ad 7, .inl (kA, 256, .inl fh)), (ad 1, .inr (0, [.ref (ad 8), .int (nI c0)])), (ad 8, .inl (kA, 24, .inl f0)), (ad 2, .inr (0, [.ref (ad 9), .int (nI c1)])), (ad 9, .inl (kA, 24, .inl f1)), (ad 3, .inr (0, [.ref (ad 10), .int (nI c2)])), (ad 10, .inl (kA, 24, .inl f2)), (ad 4, .inr (0, [.ref (ad 11), .int (nI c3)])), (ad 11, .inl (kA, 24, .inl f3))] (some (.int (nI 0))) := by
  refine vz_start (cc := cX1_same) (maxL := 5) (ret := (some .boolean)) (own := RX1) (by decide) rfl rfl (Nat.le_of_ble_eq_true rfl) ?_
  intro pz ez sz mz below meth cz args Q ls hargs hx hb hml hown hts hr hlocks hP hK hQ hl
  have hcf : CallFix pz mz cz cX1_same 5 sz args wsX1_same RX1 := ⟨hx, hb, hml, hown, hts⟩
  have hl : lv_has ls 5 [(0, .ref (ad 0)), (1, .int (nI 1)), (2, .int y)] := hl
  refine lv_aload_n hx hb dX1_same_0 rfl (lv_at hl 0 rfl) ?_
  refine lv_iload_n hx hb dX1_same_1 rfl (lv_at hl 1 rfl) ?_
  refine vz_callV (n := 1) (As := [.int (nI 1)]) (rest := []) (q0 := 0) hcf (c_X1_listAt1 l D kA ad n fp fk fh hn) gX1_same_X1_listAt rfl hd_X1_listAt ⟨Nat.le_of_ble_eq_true rfl, Nat.le_of_ble_eq_true rfl⟩ hK (hP.sub [0, 1, 2, 3] rfl) rfl rfl rfl rfl hl.1 rfl (Nat.le_of_ble_eq_true rfl) ⟨Nat.zero_le _, Nat.zero_le _⟩ dX1_same_2 ?_
  refine lv_astore_n (lv' := [(3, .ref (ad 2)), (0, .ref (ad 0)), (1, .int (nI 1)), (2, .int y)]) hx hb dX1_same_5 rfl hl (by decide) rfl (fun ls hl => ?_)
  refine lv_aload_n hx hb dX1_same_6 rfl (lv_at hl 1 rfl) ?_
  refine lv_iload_n hx hb dX1_same_7 rfl (lv_at hl 3 rfl) ?_
  refine vz_callV (n := 1) (As := [.int y]) (rest := []) (q0 := 0) hcf (c_X1_listAt3 l D kA ad n fp fk fh hn y hy3) gX1_same_X1_listAt rfl hd_X1_listAt ⟨Nat.le_of_ble_eq_true rfl, Nat.le_of_ble_eq_true rfl⟩ hK (hP.sub [0, 1, 2, 3] rfl) rfl rfl rfl rfl hl.1 rfl (Nat.le_of_ble_eq_true rfl) ⟨Nat.zero_le _, Nat.zero_le _⟩ dX1_same_8 ?_
  refine lv_astoreN (lv' := [(4, .null), (3, .ref (ad 2)), (0, .ref (ad 0)), (1, .int (nI 1)), (2, .int y)]) hx hb dX1_same_11 hl (by decide) rfl (fun ls hl => ?_)
  refine lv_aload_n hx hb dX1_same_13 rfl (lv_at hl 1 rfl) ?_
  refine lv_ifnull hx hb dX1_same_14 ?_
  refine lv_aloadN hx hb dX1_same_17 (lv_at hl 0 rfl) ?_
  refine lv_ifnullN (tgt := 36) hx hb dX1_same_19 (by decide) ?_
  refine lv_iconst (v := nI 0) hx hb dX1_same_36 (by decide) ?_
  exact vz_iret hx hb hr hlocks hQ (rfl) dX1_same_37 (by first | rfl | (rw [c_29]; rfl))
set_option maxHeartbeats 4000000 in
set_option maxRecDepth 100000 in
theorem c_X1_same20 (l : Launch) (D : va_G) (kA : ClassId) (ad : Nat → Nat) (n : Nat) (fp fk fh : Nat → Int32) (c0 c1 c2 c3 : Nat) (f0 f1 f2 f3 : Nat → Int32) (hn : n ≤ 8) (hci : c2 ≤ 24) (hcj : c0 ≤ 24) : vz_M l yX1_same wsX1_same 3 69 [.ref (ad 0), .int (nI 2), .int (nI 0)] D kA [(ad 0, .inr (1, [.ref (ad 1), .ref (ad 2), .ref (ad 3), .ref (ad 4), .ref (ad 5), .ref (ad 6), .ref (ad 7), .int (nI n)])), (ad 5, .inl (kA, 256, .inl fp)), (ad 6, .inl (kA, 256, .inl fk)), (ad 7, .inl (kA, 256, .inl fh)), (ad 1, .inr (0, [.ref (ad 8), .int (nI c0)])), (ad 8, .inl (kA, 24, .inl f0)), (ad 2, .inr (0, [.ref (ad 9), .int (nI c1)])), (ad 9, .inl (kA, 24, .inl f1)), (ad 3, .inr (0, [.ref (ad 10), .int (nI c2)])), (ad 10, .inl (kA, 24, .inl f2)), (ad 4, .inr (0, [.ref (ad 11), .int (nI c3)])), (ad 11, .inl (kA, 24, .inl f3))] (some (.int (vz_b (!exB (zN n) (fun p => !decide (fk p = nI 2) && (zX_inL fp c2 f2 p != zX_inL fp c0 f0 p)))))) := by
  refine vz_start (cc := cX1_same) (maxL := 5) (ret := (some .boolean)) (own := RX1) (by decide) rfl rfl (Nat.le_of_ble_eq_true rfl) ?_
  intro pz ez sz mz below meth cz args Q ls hargs hx hb hml hown hts hr hlocks hP hK hQ hl
  have hcf : CallFix pz mz cz cX1_same 5 sz args wsX1_same RX1 := ⟨hx, hb, hml, hown, hts⟩
  have hl : lv_has ls 5 [(0, .ref (ad 0)), (1, .int (nI 2)), (2, .int (nI 0))] := hl
  refine lv_aload_n hx hb dX1_same_0 rfl (lv_at hl 0 rfl) ?_
  refine lv_iload_n hx hb dX1_same_1 rfl (lv_at hl 1 rfl) ?_
  refine vz_callV (n := 1) (As := [.int (nI 2)]) (rest := []) (q0 := 0) hcf (c_X1_listAt2 l D kA ad n fp fk fh hn) gX1_same_X1_listAt rfl hd_X1_listAt ⟨Nat.le_of_ble_eq_true rfl, Nat.le_of_ble_eq_true rfl⟩ hK (hP.sub [0, 1, 2, 3] rfl) rfl rfl rfl rfl hl.1 rfl (Nat.le_of_ble_eq_true rfl) ⟨Nat.zero_le _, Nat.zero_le _⟩ dX1_same_2 ?_
  refine lv_astore_n (lv' := [(3, .ref (ad 3)), (0, .ref (ad 0)), (1, .int (nI 2)), (2, .int (nI 0))]) hx hb dX1_same_5 rfl hl (by decide) rfl (fun ls hl => ?_)
  refine lv_aload_n hx hb dX1_same_6 rfl (lv_at hl 1 rfl) ?_
  refine lv_iload_n hx hb dX1_same_7 rfl (lv_at hl 3 rfl) ?_
  refine vz_callV (n := 1) (As := [.int (nI 0)]) (rest := []) (q0 := 0) hcf (c_X1_listAt0 l D kA ad n fp fk fh hn) gX1_same_X1_listAt rfl hd_X1_listAt ⟨Nat.le_of_ble_eq_true rfl, Nat.le_of_ble_eq_true rfl⟩ hK (hP.sub [0, 1, 2, 3] rfl) rfl rfl rfl rfl hl.1 rfl (Nat.le_of_ble_eq_true rfl) ⟨Nat.zero_le _, Nat.zero_le _⟩ dX1_same_8 ?_
  refine lv_astore (lv' := [(4, .ref (ad 1)), (3, .ref (ad 3)), (0, .ref (ad 0)), (1, .int (nI 2)), (2, .int (nI 0))]) hx hb dX1_same_11 hl (by decide) rfl (fun ls hl => ?_)
  refine lv_aload_n hx hb dX1_same_13 rfl (lv_at hl 1 rfl) ?_
  refine lv_ifnull hx hb dX1_same_14 ?_
  refine lv_aload hx hb dX1_same_17 (lv_at hl 0 rfl) ?_
  refine lv_ifnull hx hb dX1_same_19 ?_
  refine lv_aload_n hx hb dX1_same_22 rfl (lv_at hl 2 rfl) ?_
  refine lv_aload_n hx hb dX1_same_23 rfl (lv_at hl 1 rfl) ?_
  refine lv_aload hx hb dX1_same_24 (lv_at hl 0 rfl) ?_
  refine vz_callV (n := 2) (As := [.ref (ad 3), .ref (ad 1)]) (rest := []) (q0 := 0) hcf (c_X1_agree l D kA ad n fp fk fh hn (ad 3) (ad 10) c2 f2 hci (ad 1) (ad 8) c0 f0 hcj) gX1_same_X1_agree rfl hd_X1_agree ⟨Nat.le_of_ble_eq_true rfl, Nat.le_of_ble_eq_true rfl⟩ hK (hP.sub [0, 1, 2, 3, 8, 9, 4, 5] rfl) rfl rfl rfl rfl hl.1 rfl (Nat.le_of_ble_eq_true rfl) ⟨Nat.zero_le _, Nat.zero_le _⟩ dX1_same_26 ?_
  refine vz_ifeqB (tgt := 36) hx hb dX1_same_29 (by decide) (fun c_29 => ?_) (fun c_29 => ?_)
  · skip
    refine lv_iconst (v := nI 0) hx hb dX1_same_36 (by decide) ?_
    exact vz_iret hx hb hr hlocks hQ (rfl) dX1_same_37 (by first | rfl | (rw [c_29]; rfl))
  · skip
    refine lv_iconst (v := nI 1) hx hb dX1_same_32 (by decide) ?_
    refine lv_goto (tgt := 37) hx hb dX1_same_33 (by decide) ?_
    exact vz_iret hx hb hr hlocks hQ (rfl) dX1_same_37 (by first | rfl | (rw [c_29]; rfl))
set_option maxHeartbeats 4000000 in
set_option maxRecDepth 100000 in
theorem c_X1_same21 (l : Launch) (D : va_G) (kA : ClassId) (ad : Nat → Nat) (n : Nat) (fp fk fh : Nat → Int32) (c0 c1 c2 c3 : Nat) (f0 f1 f2 f3 : Nat → Int32) (hn : n ≤ 8) (hci : c2 ≤ 24) (hcj : c1 ≤ 24) : vz_M l yX1_same wsX1_same 3 69 [.ref (ad 0), .int (nI 2), .int (nI 1)] D kA [(ad 0, .inr (1, [.ref (ad 1), .ref (ad 2), .ref (ad 3), .ref (ad 4), .ref (ad 5), .ref (ad 6), .ref (ad 7), .int (nI n)])), (ad 5, .inl (kA, 256, .inl fp)), (ad 6, .inl (kA, 256, .inl fk)), (ad 7, .inl (kA, 256, .inl fh)), (ad 1, .inr (0, [.ref (ad 8), .int (nI c0)])), (ad 8, .inl (kA, 24, .inl f0)), (ad 2, .inr (0, [.ref (ad 9), .int (nI c1)])), (ad 9, .inl (kA, 24, .inl f1)), (ad 3, .inr (0, [.ref (ad 10), .int (nI c2)])), (ad 10, .inl (kA, 24, .inl f2)), (ad 4, .inr (0, [.ref (ad 11), .int (nI c3)])), (ad 11, .inl (kA, 24, .inl f3))] (some (.int (vz_b (!exB (zN n) (fun p => !decide (fk p = nI 2) && (zX_inL fp c2 f2 p != zX_inL fp c1 f1 p)))))) := by
  refine vz_start (cc := cX1_same) (maxL := 5) (ret := (some .boolean)) (own := RX1) (by decide) rfl rfl (Nat.le_of_ble_eq_true rfl) ?_
  intro pz ez sz mz below meth cz args Q ls hargs hx hb hml hown hts hr hlocks hP hK hQ hl
  have hcf : CallFix pz mz cz cX1_same 5 sz args wsX1_same RX1 := ⟨hx, hb, hml, hown, hts⟩
  have hl : lv_has ls 5 [(0, .ref (ad 0)), (1, .int (nI 2)), (2, .int (nI 1))] := hl
  refine lv_aload_n hx hb dX1_same_0 rfl (lv_at hl 0 rfl) ?_
  refine lv_iload_n hx hb dX1_same_1 rfl (lv_at hl 1 rfl) ?_
  refine vz_callV (n := 1) (As := [.int (nI 2)]) (rest := []) (q0 := 0) hcf (c_X1_listAt2 l D kA ad n fp fk fh hn) gX1_same_X1_listAt rfl hd_X1_listAt ⟨Nat.le_of_ble_eq_true rfl, Nat.le_of_ble_eq_true rfl⟩ hK (hP.sub [0, 1, 2, 3] rfl) rfl rfl rfl rfl hl.1 rfl (Nat.le_of_ble_eq_true rfl) ⟨Nat.zero_le _, Nat.zero_le _⟩ dX1_same_2 ?_
  refine lv_astore_n (lv' := [(3, .ref (ad 3)), (0, .ref (ad 0)), (1, .int (nI 2)), (2, .int (nI 1))]) hx hb dX1_same_5 rfl hl (by decide) rfl (fun ls hl => ?_)
  refine lv_aload_n hx hb dX1_same_6 rfl (lv_at hl 1 rfl) ?_
  refine lv_iload_n hx hb dX1_same_7 rfl (lv_at hl 3 rfl) ?_
  refine vz_callV (n := 1) (As := [.int (nI 1)]) (rest := []) (q0 := 0) hcf (c_X1_listAt1 l D kA ad n fp fk fh hn) gX1_same_X1_listAt rfl hd_X1_listAt ⟨Nat.le_of_ble_eq_true rfl, Nat.le_of_ble_eq_true rfl⟩ hK (hP.sub [0, 1, 2, 3] rfl) rfl rfl rfl rfl hl.1 rfl (Nat.le_of_ble_eq_true rfl) ⟨Nat.zero_le _, Nat.zero_le _⟩ dX1_same_8 ?_
  refine lv_astore (lv' := [(4, .ref (ad 2)), (3, .ref (ad 3)), (0, .ref (ad 0)), (1, .int (nI 2)), (2, .int (nI 1))]) hx hb dX1_same_11 hl (by decide) rfl (fun ls hl => ?_)
  refine lv_aload_n hx hb dX1_same_13 rfl (lv_at hl 1 rfl) ?_
  refine lv_ifnull hx hb dX1_same_14 ?_
  refine lv_aload hx hb dX1_same_17 (lv_at hl 0 rfl) ?_
  refine lv_ifnull hx hb dX1_same_19 ?_
  refine lv_aload_n hx hb dX1_same_22 rfl (lv_at hl 2 rfl) ?_
  refine lv_aload_n hx hb dX1_same_23 rfl (lv_at hl 1 rfl) ?_
  refine lv_aload hx hb dX1_same_24 (lv_at hl 0 rfl) ?_
  refine vz_callV (n := 2) (As := [.ref (ad 3), .ref (ad 2)]) (rest := []) (q0 := 0) hcf (c_X1_agree l D kA ad n fp fk fh hn (ad 3) (ad 10) c2 f2 hci (ad 2) (ad 9) c1 f1 hcj) gX1_same_X1_agree rfl hd_X1_agree ⟨Nat.le_of_ble_eq_true rfl, Nat.le_of_ble_eq_true rfl⟩ hK (hP.sub [0, 1, 2, 3, 8, 9, 6, 7] rfl) rfl rfl rfl rfl hl.1 rfl (Nat.le_of_ble_eq_true rfl) ⟨Nat.zero_le _, Nat.zero_le _⟩ dX1_same_26 ?_
  refine vz_ifeqB (tgt := 36) hx hb dX1_same_29 (by decide) (fun c_29 => ?_) (fun c_29 => ?_)
  · skip
    refine lv_iconst (v := nI 0) hx hb dX1_same_36 (by decide) ?_
    exact vz_iret hx hb hr hlocks hQ (rfl) dX1_same_37 (by first | rfl | (rw [c_29]; rfl))
  · skip
    refine lv_iconst (v := nI 1) hx hb dX1_same_32 (by decide) ?_
    refine lv_goto (tgt := 37) hx hb dX1_same_33 (by decide) ?_
    exact vz_iret hx hb hr hlocks hQ (rfl) dX1_same_37 (by first | rfl | (rw [c_29]; rfl))
set_option maxHeartbeats 4000000 in
set_option maxRecDepth 100000 in
theorem c_X1_same22 (l : Launch) (D : va_G) (kA : ClassId) (ad : Nat → Nat) (n : Nat) (fp fk fh : Nat → Int32) (c0 c1 c2 c3 : Nat) (f0 f1 f2 f3 : Nat → Int32) (hn : n ≤ 8) (hci : c2 ≤ 24) (hcj : c2 ≤ 24) : vz_M l yX1_same wsX1_same 3 69 [.ref (ad 0), .int (nI 2), .int (nI 2)] D kA [(ad 0, .inr (1, [.ref (ad 1), .ref (ad 2), .ref (ad 3), .ref (ad 4), .ref (ad 5), .ref (ad 6), .ref (ad 7), .int (nI n)])), (ad 5, .inl (kA, 256, .inl fp)), (ad 6, .inl (kA, 256, .inl fk)), (ad 7, .inl (kA, 256, .inl fh)), (ad 1, .inr (0, [.ref (ad 8), .int (nI c0)])), (ad 8, .inl (kA, 24, .inl f0)), (ad 2, .inr (0, [.ref (ad 9), .int (nI c1)])), (ad 9, .inl (kA, 24, .inl f1)), (ad 3, .inr (0, [.ref (ad 10), .int (nI c2)])), (ad 10, .inl (kA, 24, .inl f2)), (ad 4, .inr (0, [.ref (ad 11), .int (nI c3)])), (ad 11, .inl (kA, 24, .inl f3))] (some (.int (vz_b (!exB (zN n) (fun p => !decide (fk p = nI 2) && (zX_inL fp c2 f2 p != zX_inL fp c2 f2 p)))))) := by
  refine vz_start (cc := cX1_same) (maxL := 5) (ret := (some .boolean)) (own := RX1) (by decide) rfl rfl (Nat.le_of_ble_eq_true rfl) ?_
  intro pz ez sz mz below meth cz args Q ls hargs hx hb hml hown hts hr hlocks hP hK hQ hl
  have hcf : CallFix pz mz cz cX1_same 5 sz args wsX1_same RX1 := ⟨hx, hb, hml, hown, hts⟩
  have hl : lv_has ls 5 [(0, .ref (ad 0)), (1, .int (nI 2)), (2, .int (nI 2))] := hl
  refine lv_aload_n hx hb dX1_same_0 rfl (lv_at hl 0 rfl) ?_
  refine lv_iload_n hx hb dX1_same_1 rfl (lv_at hl 1 rfl) ?_
  refine vz_callV (n := 1) (As := [.int (nI 2)]) (rest := []) (q0 := 0) hcf (c_X1_listAt2 l D kA ad n fp fk fh hn) gX1_same_X1_listAt rfl hd_X1_listAt ⟨Nat.le_of_ble_eq_true rfl, Nat.le_of_ble_eq_true rfl⟩ hK (hP.sub [0, 1, 2, 3] rfl) rfl rfl rfl rfl hl.1 rfl (Nat.le_of_ble_eq_true rfl) ⟨Nat.zero_le _, Nat.zero_le _⟩ dX1_same_2 ?_
  refine lv_astore_n (lv' := [(3, .ref (ad 3)), (0, .ref (ad 0)), (1, .int (nI 2)), (2, .int (nI 2))]) hx hb dX1_same_5 rfl hl (by decide) rfl (fun ls hl => ?_)
  refine lv_aload_n hx hb dX1_same_6 rfl (lv_at hl 1 rfl) ?_
  refine lv_iload_n hx hb dX1_same_7 rfl (lv_at hl 3 rfl) ?_
  refine vz_callV (n := 1) (As := [.int (nI 2)]) (rest := []) (q0 := 0) hcf (c_X1_listAt2 l D kA ad n fp fk fh hn) gX1_same_X1_listAt rfl hd_X1_listAt ⟨Nat.le_of_ble_eq_true rfl, Nat.le_of_ble_eq_true rfl⟩ hK (hP.sub [0, 1, 2, 3] rfl) rfl rfl rfl rfl hl.1 rfl (Nat.le_of_ble_eq_true rfl) ⟨Nat.zero_le _, Nat.zero_le _⟩ dX1_same_8 ?_
  refine lv_astore (lv' := [(4, .ref (ad 3)), (3, .ref (ad 3)), (0, .ref (ad 0)), (1, .int (nI 2)), (2, .int (nI 2))]) hx hb dX1_same_11 hl (by decide) rfl (fun ls hl => ?_)
  refine lv_aload_n hx hb dX1_same_13 rfl (lv_at hl 1 rfl) ?_
  refine lv_ifnull hx hb dX1_same_14 ?_
  refine lv_aload hx hb dX1_same_17 (lv_at hl 0 rfl) ?_
  refine lv_ifnull hx hb dX1_same_19 ?_
  refine lv_aload_n hx hb dX1_same_22 rfl (lv_at hl 2 rfl) ?_
  refine lv_aload_n hx hb dX1_same_23 rfl (lv_at hl 1 rfl) ?_
  refine lv_aload hx hb dX1_same_24 (lv_at hl 0 rfl) ?_
  refine vz_callV (n := 2) (As := [.ref (ad 3), .ref (ad 3)]) (rest := []) (q0 := 0) hcf (c_X1_agree l D kA ad n fp fk fh hn (ad 3) (ad 10) c2 f2 hci (ad 3) (ad 10) c2 f2 hcj) gX1_same_X1_agree rfl hd_X1_agree ⟨Nat.le_of_ble_eq_true rfl, Nat.le_of_ble_eq_true rfl⟩ hK (hP.sub [0, 1, 2, 3, 8, 9, 8, 9] rfl) rfl rfl rfl rfl hl.1 rfl (Nat.le_of_ble_eq_true rfl) ⟨Nat.zero_le _, Nat.zero_le _⟩ dX1_same_26 ?_
  refine vz_ifeqB (tgt := 36) hx hb dX1_same_29 (by decide) (fun c_29 => ?_) (fun c_29 => ?_)
  · skip
    refine lv_iconst (v := nI 0) hx hb dX1_same_36 (by decide) ?_
    exact vz_iret hx hb hr hlocks hQ (rfl) dX1_same_37 (by first | rfl | (rw [c_29]; rfl))
  · skip
    refine lv_iconst (v := nI 1) hx hb dX1_same_32 (by decide) ?_
    refine lv_goto (tgt := 37) hx hb dX1_same_33 (by decide) ?_
    exact vz_iret hx hb hr hlocks hQ (rfl) dX1_same_37 (by first | rfl | (rw [c_29]; rfl))
set_option maxHeartbeats 4000000 in
set_option maxRecDepth 100000 in
theorem c_X1_same23 (l : Launch) (D : va_G) (kA : ClassId) (ad : Nat → Nat) (n : Nat) (fp fk fh : Nat → Int32) (c0 c1 c2 c3 : Nat) (f0 f1 f2 f3 : Nat → Int32) (hn : n ≤ 8) (y : Int32) (hy3 : y.toInt < 0 ∨ 2 < y.toInt) : vz_M l yX1_same wsX1_same 1 21 [.ref (ad 0), .int (nI 2), .int y] D kA [(ad 0, .inr (1, [.ref (ad 1), .ref (ad 2), .ref (ad 3), .ref (ad 4), .ref (ad 5), .ref (ad 6), .ref (ad 7), .int (nI n)])), (ad 5, .inl (kA, 256, .inl fp)), (ad 6, .inl (kA, 256, .inl fk)), (ad 7, .inl (kA, 256, .inl fh)), (ad 1, .inr (0, [.ref (ad 8), .int (nI c0)])), (ad 8, .inl (kA, 24, .inl f0)), (ad 2, .inr (0, [.ref (ad 9), .int (nI c1)])), (ad 9, .inl (kA, 24, .inl f1)), (ad 3, .inr (0, [.ref (ad 10), .int (nI c2)])), (ad 10, .inl (kA, 24, .inl f2)), (ad 4, .inr (0, [.ref (ad 11), .int (nI c3)])), (ad 11, .inl (kA, 24, .inl f3))] (some (.int (nI 0))) := by
  refine vz_start (cc := cX1_same) (maxL := 5) (ret := (some .boolean)) (own := RX1) (by decide) rfl rfl (Nat.le_of_ble_eq_true rfl) ?_
  intro pz ez sz mz below meth cz args Q ls hargs hx hb hml hown hts hr hlocks hP hK hQ hl
  have hcf : CallFix pz mz cz cX1_same 5 sz args wsX1_same RX1 := ⟨hx, hb, hml, hown, hts⟩
  have hl : lv_has ls 5 [(0, .ref (ad 0)), (1, .int (nI 2)), (2, .int y)] := hl
  refine lv_aload_n hx hb dX1_same_0 rfl (lv_at hl 0 rfl) ?_
  refine lv_iload_n hx hb dX1_same_1 rfl (lv_at hl 1 rfl) ?_
  refine vz_callV (n := 1) (As := [.int (nI 2)]) (rest := []) (q0 := 0) hcf (c_X1_listAt2 l D kA ad n fp fk fh hn) gX1_same_X1_listAt rfl hd_X1_listAt ⟨Nat.le_of_ble_eq_true rfl, Nat.le_of_ble_eq_true rfl⟩ hK (hP.sub [0, 1, 2, 3] rfl) rfl rfl rfl rfl hl.1 rfl (Nat.le_of_ble_eq_true rfl) ⟨Nat.zero_le _, Nat.zero_le _⟩ dX1_same_2 ?_
  refine lv_astore_n (lv' := [(3, .ref (ad 3)), (0, .ref (ad 0)), (1, .int (nI 2)), (2, .int y)]) hx hb dX1_same_5 rfl hl (by decide) rfl (fun ls hl => ?_)
  refine lv_aload_n hx hb dX1_same_6 rfl (lv_at hl 1 rfl) ?_
  refine lv_iload_n hx hb dX1_same_7 rfl (lv_at hl 3 rfl) ?_
  refine vz_callV (n := 1) (As := [.int y]) (rest := []) (q0 := 0) hcf (c_X1_listAt3 l D kA ad n fp fk fh hn y hy3) gX1_same_X1_listAt rfl hd_X1_listAt ⟨Nat.le_of_ble_eq_true rfl, Nat.le_of_ble_eq_true rfl⟩ hK (hP.sub [0, 1, 2, 3] rfl) rfl rfl rfl rfl hl.1 rfl (Nat.le_of_ble_eq_true rfl) ⟨Nat.zero_le _, Nat.zero_le _⟩ dX1_same_8 ?_
  refine lv_astoreN (lv' := [(4, .null), (3, .ref (ad 3)), (0, .ref (ad 0)), (1, .int (nI 2)), (2, .int y)]) hx hb dX1_same_11 hl (by decide) rfl (fun ls hl => ?_)
  refine lv_aload_n hx hb dX1_same_13 rfl (lv_at hl 1 rfl) ?_
  refine lv_ifnull hx hb dX1_same_14 ?_
  refine lv_aloadN hx hb dX1_same_17 (lv_at hl 0 rfl) ?_
  refine lv_ifnullN (tgt := 36) hx hb dX1_same_19 (by decide) ?_
  refine lv_iconst (v := nI 0) hx hb dX1_same_36 (by decide) ?_
  exact vz_iret hx hb hr hlocks hQ (rfl) dX1_same_37 (by first | rfl | (rw [c_29]; rfl))
set_option maxHeartbeats 4000000 in
set_option maxRecDepth 100000 in
theorem c_X1_same30 (l : Launch) (D : va_G) (kA : ClassId) (ad : Nat → Nat) (n : Nat) (fp fk fh : Nat → Int32) (c0 c1 c2 c3 : Nat) (f0 f1 f2 f3 : Nat → Int32) (hn : n ≤ 8) (x : Int32) (hx3 : x.toInt < 0 ∨ 2 < x.toInt) : vz_M l yX1_same wsX1_same 1 21 [.ref (ad 0), .int x, .int (nI 0)] D kA [(ad 0, .inr (1, [.ref (ad 1), .ref (ad 2), .ref (ad 3), .ref (ad 4), .ref (ad 5), .ref (ad 6), .ref (ad 7), .int (nI n)])), (ad 5, .inl (kA, 256, .inl fp)), (ad 6, .inl (kA, 256, .inl fk)), (ad 7, .inl (kA, 256, .inl fh)), (ad 1, .inr (0, [.ref (ad 8), .int (nI c0)])), (ad 8, .inl (kA, 24, .inl f0)), (ad 2, .inr (0, [.ref (ad 9), .int (nI c1)])), (ad 9, .inl (kA, 24, .inl f1)), (ad 3, .inr (0, [.ref (ad 10), .int (nI c2)])), (ad 10, .inl (kA, 24, .inl f2)), (ad 4, .inr (0, [.ref (ad 11), .int (nI c3)])), (ad 11, .inl (kA, 24, .inl f3))] (some (.int (nI 0))) := by
  refine vz_start (cc := cX1_same) (maxL := 5) (ret := (some .boolean)) (own := RX1) (by decide) rfl rfl (Nat.le_of_ble_eq_true rfl) ?_
  intro pz ez sz mz below meth cz args Q ls hargs hx hb hml hown hts hr hlocks hP hK hQ hl
  have hcf : CallFix pz mz cz cX1_same 5 sz args wsX1_same RX1 := ⟨hx, hb, hml, hown, hts⟩
  have hl : lv_has ls 5 [(0, .ref (ad 0)), (1, .int x), (2, .int (nI 0))] := hl
  refine lv_aload_n hx hb dX1_same_0 rfl (lv_at hl 0 rfl) ?_
  refine lv_iload_n hx hb dX1_same_1 rfl (lv_at hl 1 rfl) ?_
  refine vz_callV (n := 1) (As := [.int x]) (rest := []) (q0 := 0) hcf (c_X1_listAt3 l D kA ad n fp fk fh hn x hx3) gX1_same_X1_listAt rfl hd_X1_listAt ⟨Nat.le_of_ble_eq_true rfl, Nat.le_of_ble_eq_true rfl⟩ hK (hP.sub [0, 1, 2, 3] rfl) rfl rfl rfl rfl hl.1 rfl (Nat.le_of_ble_eq_true rfl) ⟨Nat.zero_le _, Nat.zero_le _⟩ dX1_same_2 ?_
  refine lv_astore_nN (lv' := [(3, .null), (0, .ref (ad 0)), (1, .int x), (2, .int (nI 0))]) hx hb dX1_same_5 rfl hl (by decide) rfl (fun ls hl => ?_)
  refine lv_aload_n hx hb dX1_same_6 rfl (lv_at hl 1 rfl) ?_
  refine lv_iload_n hx hb dX1_same_7 rfl (lv_at hl 3 rfl) ?_
  refine vz_callV (n := 1) (As := [.int (nI 0)]) (rest := []) (q0 := 0) hcf (c_X1_listAt0 l D kA ad n fp fk fh hn) gX1_same_X1_listAt rfl hd_X1_listAt ⟨Nat.le_of_ble_eq_true rfl, Nat.le_of_ble_eq_true rfl⟩ hK (hP.sub [0, 1, 2, 3] rfl) rfl rfl rfl rfl hl.1 rfl (Nat.le_of_ble_eq_true rfl) ⟨Nat.zero_le _, Nat.zero_le _⟩ dX1_same_8 ?_
  refine lv_astore (lv' := [(4, .ref (ad 1)), (3, .null), (0, .ref (ad 0)), (1, .int x), (2, .int (nI 0))]) hx hb dX1_same_11 hl (by decide) rfl (fun ls hl => ?_)
  refine lv_aload_nN hx hb dX1_same_13 rfl (lv_at hl 1 rfl) ?_
  refine lv_ifnullN (tgt := 36) hx hb dX1_same_14 (by decide) ?_
  refine lv_iconst (v := nI 0) hx hb dX1_same_36 (by decide) ?_
  exact vz_iret hx hb hr hlocks hQ (rfl) dX1_same_37 (by first | rfl | (rw [c_29]; rfl))
set_option maxHeartbeats 4000000 in
set_option maxRecDepth 100000 in
theorem c_X1_same31 (l : Launch) (D : va_G) (kA : ClassId) (ad : Nat → Nat) (n : Nat) (fp fk fh : Nat → Int32) (c0 c1 c2 c3 : Nat) (f0 f1 f2 f3 : Nat → Int32) (hn : n ≤ 8) (x : Int32) (hx3 : x.toInt < 0 ∨ 2 < x.toInt) : vz_M l yX1_same wsX1_same 1 21 [.ref (ad 0), .int x, .int (nI 1)] D kA [(ad 0, .inr (1, [.ref (ad 1), .ref (ad 2), .ref (ad 3), .ref (ad 4), .ref (ad 5), .ref (ad 6), .ref (ad 7), .int (nI n)])), (ad 5, .inl (kA, 256, .inl fp)), (ad 6, .inl (kA, 256, .inl fk)), (ad 7, .inl (kA, 256, .inl fh)), (ad 1, .inr (0, [.ref (ad 8), .int (nI c0)])), (ad 8, .inl (kA, 24, .inl f0)), (ad 2, .inr (0, [.ref (ad 9), .int (nI c1)])), (ad 9, .inl (kA, 24, .inl f1)), (ad 3, .inr (0, [.ref (ad 10), .int (nI c2)])), (ad 10, .inl (kA, 24, .inl f2)), (ad 4, .inr (0, [.ref (ad 11), .int (nI c3)])), (ad 11, .inl (kA, 24, .inl f3))] (some (.int (nI 0))) := by
  refine vz_start (cc := cX1_same) (maxL := 5) (ret := (some .boolean)) (own := RX1) (by decide) rfl rfl (Nat.le_of_ble_eq_true rfl) ?_
  intro pz ez sz mz below meth cz args Q ls hargs hx hb hml hown hts hr hlocks hP hK hQ hl
  have hcf : CallFix pz mz cz cX1_same 5 sz args wsX1_same RX1 := ⟨hx, hb, hml, hown, hts⟩
  have hl : lv_has ls 5 [(0, .ref (ad 0)), (1, .int x), (2, .int (nI 1))] := hl
  refine lv_aload_n hx hb dX1_same_0 rfl (lv_at hl 0 rfl) ?_
  refine lv_iload_n hx hb dX1_same_1 rfl (lv_at hl 1 rfl) ?_
  refine vz_callV (n := 1) (As := [.int x]) (rest := []) (q0 := 0) hcf (c_X1_listAt3 l D kA ad n fp fk fh hn x hx3) gX1_same_X1_listAt rfl hd_X1_listAt ⟨Nat.le_of_ble_eq_true rfl, Nat.le_of_ble_eq_true rfl⟩ hK (hP.sub [0, 1, 2, 3] rfl) rfl rfl rfl rfl hl.1 rfl (Nat.le_of_ble_eq_true rfl) ⟨Nat.zero_le _, Nat.zero_le _⟩ dX1_same_2 ?_
  refine lv_astore_nN (lv' := [(3, .null), (0, .ref (ad 0)), (1, .int x), (2, .int (nI 1))]) hx hb dX1_same_5 rfl hl (by decide) rfl (fun ls hl => ?_)
  refine lv_aload_n hx hb dX1_same_6 rfl (lv_at hl 1 rfl) ?_
  refine lv_iload_n hx hb dX1_same_7 rfl (lv_at hl 3 rfl) ?_
  refine vz_callV (n := 1) (As := [.int (nI 1)]) (rest := []) (q0 := 0) hcf (c_X1_listAt1 l D kA ad n fp fk fh hn) gX1_same_X1_listAt rfl hd_X1_listAt ⟨Nat.le_of_ble_eq_true rfl, Nat.le_of_ble_eq_true rfl⟩ hK (hP.sub [0, 1, 2, 3] rfl) rfl rfl rfl rfl hl.1 rfl (Nat.le_of_ble_eq_true rfl) ⟨Nat.zero_le _, Nat.zero_le _⟩ dX1_same_8 ?_
  refine lv_astore (lv' := [(4, .ref (ad 2)), (3, .null), (0, .ref (ad 0)), (1, .int x), (2, .int (nI 1))]) hx hb dX1_same_11 hl (by decide) rfl (fun ls hl => ?_)
  refine lv_aload_nN hx hb dX1_same_13 rfl (lv_at hl 1 rfl) ?_
  refine lv_ifnullN (tgt := 36) hx hb dX1_same_14 (by decide) ?_
  refine lv_iconst (v := nI 0) hx hb dX1_same_36 (by decide) ?_
  exact vz_iret hx hb hr hlocks hQ (rfl) dX1_same_37 (by first | rfl | (rw [c_29]; rfl))
set_option maxHeartbeats 4000000 in
set_option maxRecDepth 100000 in
theorem c_X1_same32 (l : Launch) (D : va_G) (kA : ClassId) (ad : Nat → Nat) (n : Nat) (fp fk fh : Nat → Int32) (c0 c1 c2 c3 : Nat) (f0 f1 f2 f3 : Nat → Int32) (hn : n ≤ 8) (x : Int32) (hx3 : x.toInt < 0 ∨ 2 < x.toInt) : vz_M l yX1_same wsX1_same 1 21 [.ref (ad 0), .int x, .int (nI 2)] D kA [(ad 0, .inr (1, [.ref (ad 1), .ref (ad 2), .ref (ad 3), .ref (ad 4), .ref (ad 5), .ref (ad 6), .ref (ad 7), .int (nI n)])), (ad 5, .inl (kA, 256, .inl fp)), (ad 6, .inl (kA, 256, .inl fk)), (ad 7, .inl (kA, 256, .inl fh)), (ad 1, .inr (0, [.ref (ad 8), .int (nI c0)])), (ad 8, .inl (kA, 24, .inl f0)), (ad 2, .inr (0, [.ref (ad 9), .int (nI c1)])), (ad 9, .inl (kA, 24, .inl f1)), (ad 3, .inr (0, [.ref (ad 10), .int (nI c2)])), (ad 10, .inl (kA, 24, .inl f2)), (ad 4, .inr (0, [.ref (ad 11), .int (nI c3)])), (ad 11, .inl (kA, 24, .inl f3))] (some (.int (nI 0))) := by
  refine vz_start (cc := cX1_same) (maxL := 5) (ret := (some .boolean)) (own := RX1) (by decide) rfl rfl (Nat.le_of_ble_eq_true rfl) ?_
  intro pz ez sz mz below meth cz args Q ls hargs hx hb hml hown hts hr hlocks hP hK hQ hl
  have hcf : CallFix pz mz cz cX1_same 5 sz args wsX1_same RX1 := ⟨hx, hb, hml, hown, hts⟩
  have hl : lv_has ls 5 [(0, .ref (ad 0)), (1, .int x), (2, .int (nI 2))] := hl
  refine lv_aload_n hx hb dX1_same_0 rfl (lv_at hl 0 rfl) ?_
  refine lv_iload_n hx hb dX1_same_1 rfl (lv_at hl 1 rfl) ?_
  refine vz_callV (n := 1) (As := [.int x]) (rest := []) (q0 := 0) hcf (c_X1_listAt3 l D kA ad n fp fk fh hn x hx3) gX1_same_X1_listAt rfl hd_X1_listAt ⟨Nat.le_of_ble_eq_true rfl, Nat.le_of_ble_eq_true rfl⟩ hK (hP.sub [0, 1, 2, 3] rfl) rfl rfl rfl rfl hl.1 rfl (Nat.le_of_ble_eq_true rfl) ⟨Nat.zero_le _, Nat.zero_le _⟩ dX1_same_2 ?_
  refine lv_astore_nN (lv' := [(3, .null), (0, .ref (ad 0)), (1, .int x), (2, .int (nI 2))]) hx hb dX1_same_5 rfl hl (by decide) rfl (fun ls hl => ?_)
  refine lv_aload_n hx hb dX1_same_6 rfl (lv_at hl 1 rfl) ?_
  refine lv_iload_n hx hb dX1_same_7 rfl (lv_at hl 3 rfl) ?_
  refine vz_callV (n := 1) (As := [.int (nI 2)]) (rest := []) (q0 := 0) hcf (c_X1_listAt2 l D kA ad n fp fk fh hn) gX1_same_X1_listAt rfl hd_X1_listAt ⟨Nat.le_of_ble_eq_true rfl, Nat.le_of_ble_eq_true rfl⟩ hK (hP.sub [0, 1, 2, 3] rfl) rfl rfl rfl rfl hl.1 rfl (Nat.le_of_ble_eq_true rfl) ⟨Nat.zero_le _, Nat.zero_le _⟩ dX1_same_8 ?_
  refine lv_astore (lv' := [(4, .ref (ad 3)), (3, .null), (0, .ref (ad 0)), (1, .int x), (2, .int (nI 2))]) hx hb dX1_same_11 hl (by decide) rfl (fun ls hl => ?_)
  refine lv_aload_nN hx hb dX1_same_13 rfl (lv_at hl 1 rfl) ?_
  refine lv_ifnullN (tgt := 36) hx hb dX1_same_14 (by decide) ?_
  refine lv_iconst (v := nI 0) hx hb dX1_same_36 (by decide) ?_
  exact vz_iret hx hb hr hlocks hQ (rfl) dX1_same_37 (by first | rfl | (rw [c_29]; rfl))
set_option maxHeartbeats 4000000 in
set_option maxRecDepth 100000 in
theorem c_X1_same33 (l : Launch) (D : va_G) (kA : ClassId) (ad : Nat → Nat) (n : Nat) (fp fk fh : Nat → Int32) (c0 c1 c2 c3 : Nat) (f0 f1 f2 f3 : Nat → Int32) (hn : n ≤ 8) (x y : Int32) (hx3 : x.toInt < 0 ∨ 2 < x.toInt) (hy3 : y.toInt < 0 ∨ 2 < y.toInt) : vz_M l yX1_same wsX1_same 1 21 [.ref (ad 0), .int x, .int y] D kA [(ad 0, .inr (1, [.ref (ad 1), .ref (ad 2), .ref (ad 3), .ref (ad 4), .ref (ad 5), .ref (ad 6), .ref (ad 7), .int (nI n)])), (ad 5, .inl (kA, 256, .inl fp)), (ad 6, .inl (kA, 256, .inl fk)), (ad 7, .inl (kA, 256, .inl fh)), (ad 1, .inr (0, [.ref (ad 8), .int (nI c0)])), (ad 8, .inl (kA, 24, .inl f0)), (ad 2, .inr (0, [.ref (ad 9), .int (nI c1)])), (ad 9, .inl (kA, 24, .inl f1)), (ad 3, .inr (0, [.ref (ad 10), .int (nI c2)])), (ad 10, .inl (kA, 24, .inl f2)), (ad 4, .inr (0, [.ref (ad 11), .int (nI c3)])), (ad 11, .inl (kA, 24, .inl f3))] (some (.int (nI 0))) := by
  refine vz_start (cc := cX1_same) (maxL := 5) (ret := (some .boolean)) (own := RX1) (by decide) rfl rfl (Nat.le_of_ble_eq_true rfl) ?_
  intro pz ez sz mz below meth cz args Q ls hargs hx hb hml hown hts hr hlocks hP hK hQ hl
  have hcf : CallFix pz mz cz cX1_same 5 sz args wsX1_same RX1 := ⟨hx, hb, hml, hown, hts⟩
  have hl : lv_has ls 5 [(0, .ref (ad 0)), (1, .int x), (2, .int y)] := hl
  refine lv_aload_n hx hb dX1_same_0 rfl (lv_at hl 0 rfl) ?_
  refine lv_iload_n hx hb dX1_same_1 rfl (lv_at hl 1 rfl) ?_
  refine vz_callV (n := 1) (As := [.int x]) (rest := []) (q0 := 0) hcf (c_X1_listAt3 l D kA ad n fp fk fh hn x hx3) gX1_same_X1_listAt rfl hd_X1_listAt ⟨Nat.le_of_ble_eq_true rfl, Nat.le_of_ble_eq_true rfl⟩ hK (hP.sub [0, 1, 2, 3] rfl) rfl rfl rfl rfl hl.1 rfl (Nat.le_of_ble_eq_true rfl) ⟨Nat.zero_le _, Nat.zero_le _⟩ dX1_same_2 ?_
  refine lv_astore_nN (lv' := [(3, .null), (0, .ref (ad 0)), (1, .int x), (2, .int y)]) hx hb dX1_same_5 rfl hl (by decide) rfl (fun ls hl => ?_)
  refine lv_aload_n hx hb dX1_same_6 rfl (lv_at hl 1 rfl) ?_
  refine lv_iload_n hx hb dX1_same_7 rfl (lv_at hl 3 rfl) ?_
  refine vz_callV (n := 1) (As := [.int y]) (rest := []) (q0 := 0) hcf (c_X1_listAt3 l D kA ad n fp fk fh hn y hy3) gX1_same_X1_listAt rfl hd_X1_listAt ⟨Nat.le_of_ble_eq_true rfl, Nat.le_of_ble_eq_true rfl⟩ hK (hP.sub [0, 1, 2, 3] rfl) rfl rfl rfl rfl hl.1 rfl (Nat.le_of_ble_eq_true rfl) ⟨Nat.zero_le _, Nat.zero_le _⟩ dX1_same_8 ?_
  refine lv_astoreN (lv' := [(4, .null), (3, .null), (0, .ref (ad 0)), (1, .int x), (2, .int y)]) hx hb dX1_same_11 hl (by decide) rfl (fun ls hl => ?_)
  refine lv_aload_nN hx hb dX1_same_13 rfl (lv_at hl 1 rfl) ?_
  refine lv_ifnullN (tgt := 36) hx hb dX1_same_14 (by decide) ?_
  refine lv_iconst (v := nI 0) hx hb dX1_same_36 (by decide) ?_
  exact vz_iret hx hb hr hlocks hQ (rfl) dX1_same_37 (by first | rfl | (rw [c_29]; rfl))
set_option maxHeartbeats 4000000 in
set_option maxRecDepth 100000 in
theorem c_X1_widen (l : Launch) (D : va_G) (kA : ClassId) (ad : Nat → Nat) (n : Nat) (fp fk fh : Nat → Int32) (hn : n ≤ 8) (x : Int32) : vz_M l yX1_widen wsX1_widen 3 71 [.ref (ad 0), .int x] D kA [(ad 0, .inr (1, [.ref (ad 1), .ref (ad 2), .ref (ad 3), .ref (ad 4), .ref (ad 5), .ref (ad 6), .ref (ad 7), .int (nI n)])), (ad 5, .inl (kA, 256, .inl fp)), (ad 6, .inl (kA, 256, .inl fk)), (ad 7, .inl (kA, 256, .inl fh))] (some (.int (if ((!decide (x < 0) && !decide (nI (4 ^ n) ≤ x)) && (!zvoid n x && !ztch n fk (zX_in fp) x)) = true then zwd n (ztch n fk (zX_in fp)) true n x else -1))) := by
  refine vz_start (cc := cX1_widen) (maxL := 2) (ret := (some .int)) (own := RX1) (by decide) rfl rfl (Nat.le_of_ble_eq_true rfl) ?_
  intro pz ez sz mz below meth cz args Q ls hargs hx hb hml hown hts hr hlocks hP hK hQ hl
  have hcf : CallFix pz mz cz cX1_widen 2 sz args wsX1_widen RX1 := ⟨hx, hb, hml, hown, hts⟩
  have hl : lv_has ls 2 [(0, .ref (ad 0)), (1, .int x)] := hl
  refine lv_aload_n hx hb dX1_widen_0 rfl (lv_at hl 0 rfl) ?_
  refine lv_iload_n hx hb dX1_widen_1 rfl (lv_at hl 1 rfl) ?_
  refine vz_callV (n := 1) (As := [.int x]) (rest := []) (q0 := 0) hcf (c_X1_isCube l D kA ad n fp fk fh hn x) gX1_widen_X1_isCube rfl hd_X1_isCube ⟨Nat.le_of_ble_eq_true rfl, Nat.le_of_ble_eq_true rfl⟩ hK (hP.sub [0, 1, 2, 3] rfl) rfl rfl rfl rfl hl.1 rfl (Nat.le_of_ble_eq_true rfl) ⟨Nat.zero_le _, Nat.zero_le _⟩ dX1_widen_2 ?_
  refine vz_ifeqB (tgt := 24) hx hb dX1_widen_5 (by decide) (fun c_5 => ?_) (fun c_5 => ?_)
  · skip
    refine lv_iconst (v := -1) hx hb dX1_widen_24 (by decide) ?_
    exact vz_iret hx hb hr hlocks hQ (vp_nar_int _) dX1_widen_25 (by rw [if_neg]; first | (rw [c_5]; simp; done) | (rw [c_5, c_13]; simp; done) | (rw [c_5, c_13, c_21]; simp; done))
  · skip
    refine lv_aload_n hx hb dX1_widen_8 rfl (lv_at hl 0 rfl) ?_
    refine lv_iload_n hx hb dX1_widen_9 rfl (lv_at hl 1 rfl) ?_
    refine vz_callV (n := 1) (As := [.int x]) (rest := []) (q0 := 0) hcf (c_X1_isVoid l D kA ad n fp fk fh hn x) gX1_widen_X1_isVoid rfl hd_X1_isVoid ⟨Nat.le_of_ble_eq_true rfl, Nat.le_of_ble_eq_true rfl⟩ hK (hP.sub [0, 1, 2, 3] rfl) rfl rfl rfl rfl hl.1 rfl (Nat.le_of_ble_eq_true rfl) ⟨Nat.zero_le _, Nat.zero_le _⟩ dX1_widen_10 ?_
    refine vz_ifneB (tgt := 24) hx hb dX1_widen_13 (by decide) (fun c_13 => ?_) (fun c_13 => ?_)
    · skip
      refine lv_iconst (v := -1) hx hb dX1_widen_24 (by decide) ?_
      exact vz_iret hx hb hr hlocks hQ (vp_nar_int _) dX1_widen_25 (by rw [if_neg]; first | (rw [c_5]; simp; done) | (rw [c_5, c_13]; simp; done) | (rw [c_5, c_13, c_21]; simp; done))
    · skip
      refine lv_aload_n hx hb dX1_widen_16 rfl (lv_at hl 0 rfl) ?_
      refine lv_iload_n hx hb dX1_widen_17 rfl (lv_at hl 1 rfl) ?_
      refine vz_callV (n := 1) (As := [.int x]) (rest := []) (q0 := 0) hcf (c_X1_touches l D kA ad n fp fk fh hn x) gX1_widen_X1_touches rfl hd_X1_touches ⟨Nat.le_of_ble_eq_true rfl, Nat.le_of_ble_eq_true rfl⟩ hK (hP.sub [0, 1, 2, 3] rfl) rfl rfl rfl rfl hl.1 rfl (Nat.le_of_ble_eq_true rfl) ⟨Nat.zero_le _, Nat.zero_le _⟩ dX1_widen_18 ?_
      refine vz_ifeqB (tgt := 26) hx hb dX1_widen_21 (by decide) (fun c_21 => ?_) (fun c_21 => ?_)
      · skip
        refine lv_aload_n hx hb dX1_widen_26 rfl (lv_at hl 0 rfl) ?_
        refine lv_iload_n hx hb dX1_widen_27 rfl (lv_at hl 1 rfl) ?_
        refine lv_iconst (v := nI 1) hx hb dX1_widen_28 (by decide) ?_
        refine vz_callV (n := 2) (As := [.int x, .int (nI 1)]) (rest := []) (q0 := 0) hcf (c_X1_widened l D kA ad n fp fk fh hn x true) gX1_widen_X1_widened rfl hd_X1_widened ⟨Nat.le_of_ble_eq_true rfl, Nat.le_of_ble_eq_true rfl⟩ hK (hP.sub [0, 1, 2, 3] rfl) rfl rfl rfl rfl hl.1 rfl (Nat.le_of_ble_eq_true rfl) ⟨Nat.zero_le _, Nat.zero_le _⟩ dX1_widen_29 ?_
        exact vz_iret hx hb hr hlocks hQ (vp_nar_int _) dX1_widen_32 (by rw [if_pos (by rw [c_5, c_13, c_21]; rfl)])
      · skip
        refine lv_iconst (v := -1) hx hb dX1_widen_24 (by decide) ?_
        exact vz_iret hx hb hr hlocks hQ (vp_nar_int _) dX1_widen_25 (by rw [if_neg]; first | (rw [c_5]; simp; done) | (rw [c_5, c_13]; simp; done) | (rw [c_5, c_13, c_21]; simp; done))
set_option maxHeartbeats 4000000 in
set_option maxRecDepth 100000 in
theorem c_X1_fillCover (l : Launch) (D : va_G) (kA : ClassId) (ad : Nat → Nat) (n : Nat) (fp fk fh : Nat → Int32) (c0 c1 c2 c3 : Nat) (f0 f1 f2 f3 : Nat → Int32) (hn : n ≤ 8) (hc0 : c0 ≤ 24) (hc2 : c2 ≤ 24) : vz_MM l yX1_fillCover wsX1_fillCover 1 22 [.ref (ad 0)] D kA [(ad 0, .inr (1, [.ref (ad 1), .ref (ad 2), .ref (ad 3), .ref (ad 4), .ref (ad 5), .ref (ad 6), .ref (ad 7), .int (nI n)])), (ad 5, .inl (kA, 256, .inl fp)), (ad 6, .inl (kA, 256, .inl fk)), (ad 7, .inl (kA, 256, .inl fh)), (ad 1, .inr (0, [.ref (ad 8), .int (nI c0)])), (ad 8, .inl (kA, 24, .inl f0)), (ad 2, .inr (0, [.ref (ad 9), .int (nI c1)])), (ad 9, .inl (kA, 24, .inl f1)), (ad 3, .inr (0, [.ref (ad 10), .int (nI c2)])), (ad 10, .inl (kA, 24, .inl f2)), (ad 4, .inr (0, [.ref (ad 11), .int (nI c3)])), (ad 11, .inl (kA, 24, .inl f3))] none [(ad 0, .inr (1, [.ref (ad 1), .ref (ad 2), .ref (ad 3), .ref (ad 4), .ref (ad 5), .ref (ad 6), .ref (ad 7), .int (nI n)])), (ad 5, .inl (kA, 256, .inl fp)), (ad 6, .inl (kA, 256, .inl fk)), (ad 7, .inl (kA, 256, .inl fh)), (ad 1, .inr (0, [.ref (ad 8), .int (nI c0)])), (ad 8, .inl (kA, 24, .inl f0)), (ad 2, .inr (0, [.ref (ad 9), .int (nI c1)])), (ad 9, .inl (kA, 24, .inl f1)), (ad 3, .inr (0, [.ref (ad 10), .int (nI ((zfc n f0 f2 c0).1))])), (ad 10, .inl (kA, 24, .inl ((zfc n f0 f2 c0).2))), (ad 4, .inr (0, [.ref (ad 11), .int (nI c3)])), (ad 11, .inl (kA, 24, .inl f3))] := by
  refine vz_startM (cc := cX1_fillCover) (maxL := 3) (ret := none) (own := RX1) (by decide) rfl rfl (Nat.le_of_ble_eq_true rfl) ?_
  intro pz ez sz mz below meth cz args Q ls H locs Az hargs hx hb hml hown hts hr hlocks hP hK hD hS hAe hQ hl
  have hcf : CallFix pz mz cz cX1_fillCover 3 sz args wsX1_fillCover RX1 := ⟨hx, hb, hml, hown, hts⟩
  have hi0 : ∀ w ∈ u_ws RX1 TX1 8, w ∈ wsX1_fillCover := by decide +kernel
  have hf12 : (Cond.fieldLink RX1 12 "CubeMin" "onList" "LCubeMin$CubeList;").before args sz = true := hts _ (by decide +kernel)
  have hf19 : (Cond.fieldLink RX1 19 "CubeMin" "coverList" "LCubeMin$CubeList;").before args sz = true := hts _ (by decide +kernel)
  have hl : lv_has ls 3 [(0, .ref (ad 0))] := hl
  refine lv_aload_n hx hb dX1_fillCover_0 rfl (lv_at hl 0 rfl) ?_
  refine va_get (D := D) (ci := 1) (v := .ref (ad 3)) (C := RX1) (T := TX1) (N := 8) hx hb hts hi0 hown hK hP 0 rfl rfl 2 (by decide) hf19 (fun _ h9 => h9) rfl dX1_fillCover_1 ?_
  refine vz_callM (n := 0) (As := []) (rest := []) (q0 := 0) hcf (c_X0_clear l D kA (ad 3) (ad 10) c2 f2 hc2) gX1_fillCover_X0_clear rfl hd_X0_clear ⟨Nat.le_of_ble_eq_true rfl, Nat.le_of_ble_eq_true rfl⟩ hK hP hD hS [8, 9] (by decide) rfl rfl rfl rfl rfl rfl rfl hl.1 rfl (Nat.le_of_ble_eq_true rfl) ⟨Nat.zero_le _, Nat.zero_le _⟩ dX1_fillCover_4 (fun H locs hP hD hS => ?_)
  have hP : va_P D vwCl [(ad 0, .inr (1, [.ref (ad 1), .ref (ad 2), .ref (ad 3), .ref (ad 4), .ref (ad 5), .ref (ad 6), .ref (ad 7), .int (nI n)])), (ad 5, .inl (kA, 256, .inl fp)), (ad 6, .inl (kA, 256, .inl fk)), (ad 7, .inl (kA, 256, .inl fh)), (ad 1, .inr (0, [.ref (ad 8), .int (nI c0)])), (ad 8, .inl (kA, 24, .inl f0)), (ad 2, .inr (0, [.ref (ad 9), .int (nI c1)])), (ad 9, .inl (kA, 24, .inl f1)), (ad 3, .inr (0, [.ref (ad 10), .int (nI 0)])), (ad 10, .inl (kA, 24, .inl f2)), (ad 4, .inr (0, [.ref (ad 11), .int (nI c3)])), (ad 11, .inl (kA, 24, .inl f3))] H := hP
  have hD : va_D Az [(ad 0, .inr (1, [.ref (ad 1), .ref (ad 2), .ref (ad 3), .ref (ad 4), .ref (ad 5), .ref (ad 6), .ref (ad 7), .int (nI n)])), (ad 5, .inl (kA, 256, .inl fp)), (ad 6, .inl (kA, 256, .inl fk)), (ad 7, .inl (kA, 256, .inl fh)), (ad 1, .inr (0, [.ref (ad 8), .int (nI c0)])), (ad 8, .inl (kA, 24, .inl f0)), (ad 2, .inr (0, [.ref (ad 9), .int (nI c1)])), (ad 9, .inl (kA, 24, .inl f1)), (ad 3, .inr (0, [.ref (ad 10), .int (nI 0)])), (ad 10, .inl (kA, 24, .inl f2)), (ad 4, .inr (0, [.ref (ad 11), .int (nI c3)])), (ad 11, .inl (kA, 24, .inl f3))] := hD
  refine lv_iconst (v := nI 0) hx hb dX1_fillCover_7 (by decide) ?_
  refine lv_istore_n (lv' := [(1, .int (nI 0)), (0, .ref (ad 0))]) hx hb dX1_fillCover_8 rfl hl (by decide) rfl (fun ls hl => ?_)
  have lp1 : ∀ (dz : Nat) (i t : Nat) (g : Nat → Int32) (H : Heap) (locs : List Loc) (ls : Array Slot), (c0 - i) < dz → (i ≤ c0) → (t ≤ i) → ((t, g) = zfc n f0 f2 i) → va_P D vwCl [(ad 0, .inr (1, [.ref (ad 1), .ref (ad 2), .ref (ad 3), .ref (ad 4), .ref (ad 5), .ref (ad 6), .ref (ad 7), .int (nI n)])), (ad 5, .inl (kA, 256, .inl fp)), (ad 6, .inl (kA, 256, .inl fk)), (ad 7, .inl (kA, 256, .inl fh)), (ad 1, .inr (0, [.ref (ad 8), .int (nI c0)])), (ad 8, .inl (kA, 24, .inl f0)), (ad 2, .inr (0, [.ref (ad 9), .int (nI c1)])), (ad 9, .inl (kA, 24, .inl f1)), (ad 3, .inr (0, [.ref (ad 10), .int (nI t)])), (ad 10, .inl (kA, 24, .inl g)), (ad 4, .inr (0, [.ref (ad 11), .int (nI c3)])), (ad 11, .inl (kA, 24, .inl f3))] H → va_D Az [(ad 0, .inr (1, [.ref (ad 1), .ref (ad 2), .ref (ad 3), .ref (ad 4), .ref (ad 5), .ref (ad 6), .ref (ad 7), .int (nI n)])), (ad 5, .inl (kA, 256, .inl fp)), (ad 6, .inl (kA, 256, .inl fk)), (ad 7, .inl (kA, 256, .inl fh)), (ad 1, .inr (0, [.ref (ad 8), .int (nI c0)])), (ad 8, .inl (kA, 24, .inl f0)), (ad 2, .inr (0, [.ref (ad 9), .int (nI c1)])), (ad 9, .inl (kA, 24, .inl f1)), (ad 3, .inr (0, [.ref (ad 10), .int (nI t)])), (ad 10, .inl (kA, 24, .inl g)), (ad 4, .inr (0, [.ref (ad 11), .int (nI c3)])), (ad 11, .inl (kA, 24, .inl f3))] → va_S Az sz.heap H locs → lv_has ls 3 [(0, .ref (ad 0)), (1, .int (nI i))] → W pz l ez (vz_R 1 22) sz mz args below meth cz H locs 0 0 Q (F0 mz 9 ls []) := by
    intro dz
    induction dz with
    | zero => intro i t g H locs ls hd h1 h2 h3 hP hD hS hl; exact absurd hd (Nat.not_lt_zero _)
    | succ dz ih1 =>
      intro i t g H locs ls hd h1 h2 h3 hP hD hS hl
      refine lv_iload_n hx hb dX1_fillCover_9 rfl (lv_at hl 1 rfl) ?_
      refine lv_aload_n hx hb dX1_fillCover_10 rfl (lv_at hl 0 rfl) ?_
      refine va_get (D := D) (ci := 1) (v := .ref (ad 1)) (C := RX1) (T := TX1) (N := 8) hx hb hts hi0 hown hK hP 0 rfl rfl 0 (by decide) hf12 (fun _ h9 => h9) rfl dX1_fillCover_11 ?_
      refine vz_callV (n := 0) (As := []) (rest := [.int (nI i)]) (q0 := 0) hcf (c_X0_length l D kA (ad 1) (ad 8) c0 f0 hc0) gX1_fillCover_X0_length rfl hd_X0_length ⟨Nat.le_of_ble_eq_true rfl, Nat.le_of_ble_eq_true rfl⟩ hK (hP.sub [4, 5] rfl) rfl rfl rfl rfl hl.1 rfl (Nat.le_of_ble_eq_true rfl) ⟨Nat.zero_le _, Nat.zero_le _⟩ dX1_fillCover_14 ?_
      refine vz_cge (tgt := 52) hx hb dX1_fillCover_17 (by decide) (by omega) (by omega) (fun c_17 => ?_) (fun c_17 => ?_)
      · skip
        obtain rfl : c0 = i := by omega
        rw [← h3] at hQ
        exact vz_vretM hx hb hr hlocks hQ hAe dX1_fillCover_52 hS hP rfl
      · skip
        refine lv_aload_n hx hb dX1_fillCover_20 rfl (lv_at hl 0 rfl) ?_
        refine va_get (D := D) (ci := 1) (v := .ref (ad 1)) (C := RX1) (T := TX1) (N := 8) hx hb hts hi0 hown hK hP 0 rfl rfl 0 (by decide) hf12 (fun _ h9 => h9) rfl dX1_fillCover_21 ?_
        refine lv_iload_n hx hb dX1_fillCover_24 rfl (lv_at hl 1 rfl) ?_
        refine vz_callV (n := 1) (As := [.int (nI i)]) (rest := []) (q0 := 0) hcf (c_X0_at l D kA (ad 1) (ad 8) c0 f0 hc0 (nI i)) gX1_fillCover_X0_at rfl hd_X0_at ⟨Nat.le_of_ble_eq_true rfl, Nat.le_of_ble_eq_true rfl⟩ hK (hP.sub [4, 5] rfl) rfl rfl rfl rfl hl.1 rfl (Nat.le_of_ble_eq_true rfl) ⟨Nat.zero_le _, Nat.zero_le _⟩ dX1_fillCover_25 ?_
        refine vz_top (y := (f0 i)) (zat_nI c_17 hc0) ?_
        refine lv_istore_n (lv' := [(2, .int (f0 i)), (0, .ref (ad 0)), (1, .int (nI i))]) hx hb dX1_fillCover_28 rfl hl (by decide) rfl (fun ls hl => ?_)
        refine lv_aload_n hx hb dX1_fillCover_29 rfl (lv_at hl 1 rfl) ?_
        refine lv_iload_n hx hb dX1_fillCover_30 rfl (lv_at hl 0 rfl) ?_
        refine vz_callV (n := 1) (As := [.int (f0 i)]) (rest := []) (q0 := 0) hcf (c_X1_isVoid l D kA ad n fp fk fh hn (f0 i)) gX1_fillCover_X1_isVoid rfl hd_X1_isVoid ⟨Nat.le_of_ble_eq_true rfl, Nat.le_of_ble_eq_true rfl⟩ hK (hP.sub [0, 1, 2, 3] rfl) rfl rfl rfl rfl hl.1 rfl (Nat.le_of_ble_eq_true rfl) ⟨Nat.zero_le _, Nat.zero_le _⟩ dX1_fillCover_31 ?_
        refine vz_ifneB (tgt := 46) hx hb dX1_fillCover_34 (by decide) (fun c_34 => ?_) (fun c_34 => ?_)
        · skip
          refine lv_iinc (v := (nI (i + 1))) (lv' := [(1, .int (nI (i + 1))), (2, .int (f0 i)), (0, .ref (ad 0))]) hx hb dX1_fillCover_46 hl (k := 2) rfl (nI_1 _) (by decide) rfl (fun ls hl => ?_)
          refine lv_goto (tgt := 9) hx hb dX1_fillCover_49 (by decide) ?_
          exact ih1 (i + 1) t g _ _ _ (by omega) (by omega) (by omega) (by rw [zfc, if_pos c_34]; exact h3) hP (vz_D hD rfl) hS (lv_sub hl [2, 0] rfl)
        · skip
          refine lv_aload_n hx hb dX1_fillCover_37 rfl (lv_at hl 1 rfl) ?_
          refine va_get (D := D) (ci := 1) (v := .ref (ad 3)) (C := RX1) (T := TX1) (N := 8) hx hb hts hi0 hown hK hP 0 rfl rfl 2 (by decide) hf19 (fun _ h9 => h9) rfl dX1_fillCover_38 ?_
          refine lv_iload_n hx hb dX1_fillCover_41 rfl (lv_at hl 0 rfl) ?_
          refine vz_callM (n := 1) (As := [.int (f0 i)]) (rest := []) (q0 := 0) hcf (c_X0_append l D kA (ad 3) (ad 10) t g (by omega) (f0 i)) gX1_fillCover_X0_append rfl hd_X0_append ⟨Nat.le_of_ble_eq_true rfl, Nat.le_of_ble_eq_true rfl⟩ hK hP hD hS [8, 9] (by decide) rfl rfl rfl rfl rfl rfl rfl hl.1 rfl (Nat.le_of_ble_eq_true rfl) ⟨Nat.zero_le _, Nat.zero_le _⟩ dX1_fillCover_42 (fun H locs hP hD hS => ?_)
          have hP : va_P D vwCl [(ad 0, .inr (1, [.ref (ad 1), .ref (ad 2), .ref (ad 3), .ref (ad 4), .ref (ad 5), .ref (ad 6), .ref (ad 7), .int (nI n)])), (ad 5, .inl (kA, 256, .inl fp)), (ad 6, .inl (kA, 256, .inl fk)), (ad 7, .inl (kA, 256, .inl fh)), (ad 1, .inr (0, [.ref (ad 8), .int (nI c0)])), (ad 8, .inl (kA, 24, .inl f0)), (ad 2, .inr (0, [.ref (ad 9), .int (nI c1)])), (ad 9, .inl (kA, 24, .inl f1)), (ad 3, .inr (0, [.ref (ad 10), .int (nI (t + 1))])), (ad 10, .inl (kA, 24, .inl (upd g t (f0 i)))), (ad 4, .inr (0, [.ref (ad 11), .int (nI c3)])), (ad 11, .inl (kA, 24, .inl f3))] H := hP
          have hD : va_D Az [(ad 0, .inr (1, [.ref (ad 1), .ref (ad 2), .ref (ad 3), .ref (ad 4), .ref (ad 5), .ref (ad 6), .ref (ad 7), .int (nI n)])), (ad 5, .inl (kA, 256, .inl fp)), (ad 6, .inl (kA, 256, .inl fk)), (ad 7, .inl (kA, 256, .inl fh)), (ad 1, .inr (0, [.ref (ad 8), .int (nI c0)])), (ad 8, .inl (kA, 24, .inl f0)), (ad 2, .inr (0, [.ref (ad 9), .int (nI c1)])), (ad 9, .inl (kA, 24, .inl f1)), (ad 3, .inr (0, [.ref (ad 10), .int (nI (t + 1))])), (ad 10, .inl (kA, 24, .inl (upd g t (f0 i)))), (ad 4, .inr (0, [.ref (ad 11), .int (nI c3)])), (ad 11, .inl (kA, 24, .inl f3))] := hD
          refine lv_pop hx hb dX1_fillCover_45 rfl ?_
          refine lv_iinc (v := (nI (i + 1))) (lv' := [(1, .int (nI (i + 1))), (2, .int (f0 i)), (0, .ref (ad 0))]) hx hb dX1_fillCover_46 hl (k := 2) rfl (nI_1 _) (by decide) rfl (fun ls hl => ?_)
          refine lv_goto (tgt := 9) hx hb dX1_fillCover_49 (by decide) ?_
          exact ih1 (i + 1) (t + 1) (upd g t (f0 i)) _ _ _ (by omega) (by omega) (by omega) (by rw [zfc, if_neg (by rw [c_34]; decide), ← h3]) hP (vz_D hD rfl) hS (lv_sub hl [2, 0] rfl)
  exact lp1 _ 0 0 f2 _ _ _ (Nat.lt_succ_self _) (by omega) (by omega) rfl hP (vz_D hD rfl) hS (lv_sub hl [1, 0] rfl)
set_option maxHeartbeats 4000000 in
set_option maxRecDepth 100000 in
theorem c_X1_minimize (l : Launch) (D : va_G) (kA : ClassId) (ad : Nat → Nat) (n : Nat) (fp fk fh : Nat → Int32) (c0 c1 c2 c3 : Nat) (f0 f1 f2 f3 : Nat → Int32) (hn : n ≤ 8) (hc0 : c0 ≤ 24) (hc2 : c2 ≤ 24) (hc3 : c3 ≤ 24) : vz_MM l yX1_minimize wsX1_minimize 5 114 [.ref (ad 0)] D kA [(ad 0, .inr (1, [.ref (ad 1), .ref (ad 2), .ref (ad 3), .ref (ad 4), .ref (ad 5), .ref (ad 6), .ref (ad 7), .int (nI n)])), (ad 5, .inl (kA, 256, .inl fp)), (ad 6, .inl (kA, 256, .inl fk)), (ad 7, .inl (kA, 256, .inl fh)), (ad 1, .inr (0, [.ref (ad 8), .int (nI c0)])), (ad 8, .inl (kA, 24, .inl f0)), (ad 2, .inr (0, [.ref (ad 9), .int (nI c1)])), (ad 9, .inl (kA, 24, .inl f1)), (ad 3, .inr (0, [.ref (ad 10), .int (nI c2)])), (ad 10, .inl (kA, 24, .inl f2)), (ad 4, .inr (0, [.ref (ad 11), .int (nI c3)])), (ad 11, .inl (kA, 24, .inl f3))] (some (.int (nI ((zmz n fp fk c0 f0 f2 c3 f3 fh).1)))) [(ad 0, .inr (1, [.ref (ad 1), .ref (ad 2), .ref (ad 3), .ref (ad 4), .ref (ad 5), .ref (ad 6), .ref (ad 7), .int (nI n)])), (ad 5, .inl (kA, 256, .inl fp)), (ad 6, .inl (kA, 256, .inl fk)), (ad 7, .inl (kA, 256, .inl ((zmz n fp fk c0 f0 f2 c3 f3 fh).2.2.2.2))), (ad 1, .inr (0, [.ref (ad 8), .int (nI c0)])), (ad 8, .inl (kA, 24, .inl f0)), (ad 2, .inr (0, [.ref (ad 9), .int (nI c1)])), (ad 9, .inl (kA, 24, .inl f1)), (ad 3, .inr (0, [.ref (ad 10), .int (nI ((zmz n fp fk c0 f0 f2 c3 f3 fh).1))])), (ad 10, .inl (kA, 24, .inl ((zmz n fp fk c0 f0 f2 c3 f3 fh).2.1))), (ad 4, .inr (0, [.ref (ad 11), .int (nI ((zmz n fp fk c0 f0 f2 c3 f3 fh).2.2.1))])), (ad 11, .inl (kA, 24, .inl ((zmz n fp fk c0 f0 f2 c3 f3 fh).2.2.2.1)))] := by
  refine vz_startM (cc := cX1_minimize) (maxL := 3) (ret := (some .int)) (own := RX1) (by decide) rfl rfl (Nat.le_of_ble_eq_true rfl) ?_
  intro pz ez sz mz below meth cz args Q ls H locs Az hargs hx hb hml hown hts hr hlocks hP hK hD hS hAe hQ hl
  have hcf : CallFix pz mz cz cX1_minimize 3 sz args wsX1_minimize RX1 := ⟨hx, hb, hml, hown, hts⟩
  have hi0 : ∀ w ∈ u_ws RX1 TX1 8, w ∈ wsX1_minimize := by decide +kernel
  have hf19 : (Cond.fieldLink RX1 19 "CubeMin" "coverList" "LCubeMin$CubeList;").before args sz = true := hts _ (by decide +kernel)
  have hf22 : (Cond.fieldLink RX1 22 "CubeMin" "trialList" "LCubeMin$CubeList;").before args sz = true := hts _ (by decide +kernel)
  have hl : lv_has ls 3 [(0, .ref (ad 0))] := hl
  have hz := @zfc_le n f0 f2 c0
  refine lv_aload_n hx hb dX1_minimize_0 rfl (lv_at hl 0 rfl) ?_
  refine vz_callM (n := 0) (As := []) (rest := []) (q0 := 0) hcf (c_X1_fillCover l D kA ad n fp fk fh c0 c1 c2 c3 f0 f1 f2 f3 hn hc0 hc2) gX1_minimize_X1_fillCover rfl hd_X1_fillCover ⟨Nat.le_of_ble_eq_true rfl, Nat.le_of_ble_eq_true rfl⟩ hK hP hD hS [0, 1, 2, 3, 4, 5, 6, 7, 8, 9, 10, 11] (by decide) rfl rfl rfl rfl rfl rfl rfl hl.1 rfl (Nat.le_of_ble_eq_true rfl) ⟨Nat.zero_le _, Nat.zero_le _⟩ dX1_minimize_1 (fun H locs hP hD hS => ?_)
  have hP : va_P D vwCl [(ad 0, .inr (1, [.ref (ad 1), .ref (ad 2), .ref (ad 3), .ref (ad 4), .ref (ad 5), .ref (ad 6), .ref (ad 7), .int (nI n)])), (ad 5, .inl (kA, 256, .inl fp)), (ad 6, .inl (kA, 256, .inl fk)), (ad 7, .inl (kA, 256, .inl fh)), (ad 1, .inr (0, [.ref (ad 8), .int (nI c0)])), (ad 8, .inl (kA, 24, .inl f0)), (ad 2, .inr (0, [.ref (ad 9), .int (nI c1)])), (ad 9, .inl (kA, 24, .inl f1)), (ad 3, .inr (0, [.ref (ad 10), .int (nI ((zfc n f0 f2 c0).1))])), (ad 10, .inl (kA, 24, .inl ((zfc n f0 f2 c0).2))), (ad 4, .inr (0, [.ref (ad 11), .int (nI c3)])), (ad 11, .inl (kA, 24, .inl f3))] H := hP
  have hD : va_D Az [(ad 0, .inr (1, [.ref (ad 1), .ref (ad 2), .ref (ad 3), .ref (ad 4), .ref (ad 5), .ref (ad 6), .ref (ad 7), .int (nI n)])), (ad 5, .inl (kA, 256, .inl fp)), (ad 6, .inl (kA, 256, .inl fk)), (ad 7, .inl (kA, 256, .inl fh)), (ad 1, .inr (0, [.ref (ad 8), .int (nI c0)])), (ad 8, .inl (kA, 24, .inl f0)), (ad 2, .inr (0, [.ref (ad 9), .int (nI c1)])), (ad 9, .inl (kA, 24, .inl f1)), (ad 3, .inr (0, [.ref (ad 10), .int (nI ((zfc n f0 f2 c0).1))])), (ad 10, .inl (kA, 24, .inl ((zfc n f0 f2 c0).2))), (ad 4, .inr (0, [.ref (ad 11), .int (nI c3)])), (ad 11, .inl (kA, 24, .inl f3))] := hD
  refine lv_aload_n hx hb dX1_minimize_4 rfl (lv_at hl 0 rfl) ?_
  refine lv_aload_n hx hb dX1_minimize_5 rfl (lv_at hl 0 rfl) ?_
  refine va_get (D := D) (ci := 1) (v := .ref (ad 3)) (C := RX1) (T := TX1) (N := 8) hx hb hts hi0 hown hK hP 0 rfl rfl 2 (by decide) hf19 (fun _ h9 => h9) rfl dX1_minimize_6 ?_
  refine lv_iconst (v := nI 1) hx hb dX1_minimize_9 (by decide) ?_
  refine vz_top (y := (vz_b true)) rfl ?_
  refine vz_callM (n := 2) (As := [.ref (ad 3), .int (vz_b true)]) (rest := []) (q0 := 0) hcf (c_X1_makePass l D kA ad n fp fk fh hn (ad 3) (ad 10) (zfc n f0 f2 c0).1 (zfc n f0 f2 c0).2 (by omega) true) gX1_minimize_X1_makePass rfl hd_X1_makePass ⟨Nat.le_of_ble_eq_true rfl, Nat.le_of_ble_eq_true rfl⟩ hK hP hD hS [0, 1, 2, 3, 8, 9] (by decide) rfl rfl rfl rfl rfl rfl rfl hl.1 rfl (Nat.le_of_ble_eq_true rfl) ⟨Nat.zero_le _, Nat.zero_le _⟩ dX1_minimize_10 (fun H locs hP hD hS => ?_)
  have hP : va_P D vwCl [(ad 0, .inr (1, [.ref (ad 1), .ref (ad 2), .ref (ad 3), .ref (ad 4), .ref (ad 5), .ref (ad 6), .ref (ad 7), .int (nI n)])), (ad 5, .inl (kA, 256, .inl fp)), (ad 6, .inl (kA, 256, .inl fk)), (ad 7, .inl (kA, 256, .inl ((zmz0 n fp fk c0 f0 f2 fh).2.2))), (ad 1, .inr (0, [.ref (ad 8), .int (nI c0)])), (ad 8, .inl (kA, 24, .inl f0)), (ad 2, .inr (0, [.ref (ad 9), .int (nI c1)])), (ad 9, .inl (kA, 24, .inl f1)), (ad 3, .inr (0, [.ref (ad 10), .int (nI ((zmz0 n fp fk c0 f0 f2 fh).1))])), (ad 10, .inl (kA, 24, .inl ((zmz0 n fp fk c0 f0 f2 fh).2.1))), (ad 4, .inr (0, [.ref (ad 11), .int (nI c3)])), (ad 11, .inl (kA, 24, .inl f3))] H := hP
  have hD : va_D Az [(ad 0, .inr (1, [.ref (ad 1), .ref (ad 2), .ref (ad 3), .ref (ad 4), .ref (ad 5), .ref (ad 6), .ref (ad 7), .int (nI n)])), (ad 5, .inl (kA, 256, .inl fp)), (ad 6, .inl (kA, 256, .inl fk)), (ad 7, .inl (kA, 256, .inl ((zmz0 n fp fk c0 f0 f2 fh).2.2))), (ad 1, .inr (0, [.ref (ad 8), .int (nI c0)])), (ad 8, .inl (kA, 24, .inl f0)), (ad 2, .inr (0, [.ref (ad 9), .int (nI c1)])), (ad 9, .inl (kA, 24, .inl f1)), (ad 3, .inr (0, [.ref (ad 10), .int (nI ((zmz0 n fp fk c0 f0 f2 fh).1))])), (ad 10, .inl (kA, 24, .inl ((zmz0 n fp fk c0 f0 f2 fh).2.1))), (ad 4, .inr (0, [.ref (ad 11), .int (nI c3)])), (ad 11, .inl (kA, 24, .inl f3))] := hD
  refine lv_iconst (v := nI 1) hx hb dX1_minimize_13 (by decide) ?_
  refine vz_top (y := (vz_b true)) rfl ?_
  refine lv_istore_n (lv' := [(1, .int (vz_b true)), (0, .ref (ad 0))]) hx hb dX1_minimize_14 rfl hl (by decide) rfl (fun ls hl => ?_)
  refine lv_iconst (v := nI 1) hx hb dX1_minimize_15 (by decide) ?_
  refine lv_istore_n (lv' := [(2, .int (nI 1)), (1, .int (vz_b true)), (0, .ref (ad 0))]) hx hb dX1_minimize_16 rfl hl (by decide) rfl (fun ls hl => ?_)
  have lp1 : ∀ (dz : Nat) (k r : Nat) (b : Bool) (b2 : Nat) (g2 : Nat → Int32) (b3 : Nat) (g3 gh : Nat → Int32) (H : Heap) (locs : List Loc) (ls : Array Slot), k < dz → (r + k = 9) → (b2 ≤ 24) → (b3 ≤ 24) → (zrs n fp fk k r b (b2, g2, b3, g3, gh) = (zmz n fp fk c0 f0 f2 c3 f3 fh)) → va_P D vwCl [(ad 0, .inr (1, [.ref (ad 1), .ref (ad 2), .ref (ad 3), .ref (ad 4), .ref (ad 5), .ref (ad 6), .ref (ad 7), .int (nI n)])), (ad 5, .inl (kA, 256, .inl fp)), (ad 6, .inl (kA, 256, .inl fk)), (ad 7, .inl (kA, 256, .inl gh)), (ad 1, .inr (0, [.ref (ad 8), .int (nI c0)])), (ad 8, .inl (kA, 24, .inl f0)), (ad 2, .inr (0, [.ref (ad 9), .int (nI c1)])), (ad 9, .inl (kA, 24, .inl f1)), (ad 3, .inr (0, [.ref (ad 10), .int (nI b2)])), (ad 10, .inl (kA, 24, .inl g2)), (ad 4, .inr (0, [.ref (ad 11), .int (nI b3)])), (ad 11, .inl (kA, 24, .inl g3))] H → va_D Az [(ad 0, .inr (1, [.ref (ad 1), .ref (ad 2), .ref (ad 3), .ref (ad 4), .ref (ad 5), .ref (ad 6), .ref (ad 7), .int (nI n)])), (ad 5, .inl (kA, 256, .inl fp)), (ad 6, .inl (kA, 256, .inl fk)), (ad 7, .inl (kA, 256, .inl gh)), (ad 1, .inr (0, [.ref (ad 8), .int (nI c0)])), (ad 8, .inl (kA, 24, .inl f0)), (ad 2, .inr (0, [.ref (ad 9), .int (nI c1)])), (ad 9, .inl (kA, 24, .inl f1)), (ad 3, .inr (0, [.ref (ad 10), .int (nI b2)])), (ad 10, .inl (kA, 24, .inl g2)), (ad 4, .inr (0, [.ref (ad 11), .int (nI b3)])), (ad 11, .inl (kA, 24, .inl g3))] → va_S Az sz.heap H locs → lv_has ls 3 [(0, .ref (ad 0)), (1, .int (vz_b b)), (2, .int (nI r))] → W pz l ez (vz_R 5 114) sz mz args below meth cz H locs 0 0 Q (F0 mz 17 ls []) := by
    intro dz
    induction dz with
    | zero => intro k r b b2 g2 b3 g3 gh H locs ls hd h1 h2 hb3 h3 hP hD hS hl; exact absurd hd (Nat.not_lt_zero _)
    | succ dz ih1 =>
      intro k r b b2 g2 b3 g3 gh H locs ls hd h1 h2 hb3 h3 hP hD hS hl
      refine lv_iload_n hx hb dX1_minimize_17 rfl (lv_at hl 2 rfl) ?_
      refine lv_bipush (v := nI 8) hx hb dX1_minimize_18 (by decide) ?_
      refine vz_cgt (tgt := 99) hx hb dX1_minimize_20 (by decide) (by omega) (by omega) (fun c_20 => ?_) (fun c_20 => ?_)
      · skip
        obtain rfl : k = 0 := by omega
        rw [← h3] at hQ
        refine lv_aload_n hx hb dX1_minimize_99 rfl (lv_at hl 0 rfl) ?_
        refine va_get (D := D) (ci := 1) (v := .ref (ad 3)) (C := RX1) (T := TX1) (N := 8) hx hb hts hi0 hown hK hP 0 rfl rfl 2 (by decide) hf19 (fun _ h9 => h9) rfl dX1_minimize_100 ?_
        refine vz_callV (n := 0) (As := []) (rest := []) (q0 := 0) hcf (c_X0_length l D kA (ad 3) (ad 10) b2 g2 h2) gX1_minimize_X0_length rfl hd_X0_length ⟨Nat.le_of_ble_eq_true rfl, Nat.le_of_ble_eq_true rfl⟩ hK (hP.sub [8, 9] rfl) rfl rfl rfl rfl hl.1 rfl (Nat.le_of_ble_eq_true rfl) ⟨Nat.zero_le _, Nat.zero_le _⟩ dX1_minimize_103 ?_
        exact vz_iretM hx hb hr hlocks hQ hAe (vp_nar_int _) dX1_minimize_106 rfl hS hP rfl
      · skip
        obtain ⟨k, rfl⟩ : ∃ i, k = i + 1 := ⟨k - 1, by omega⟩
        refine lv_iload_n hx hb dX1_minimize_23 rfl (lv_at hl 1 rfl) ?_
        refine vz_ifeqB (tgt := 99) hx hb dX1_minimize_24 (by decide) (fun c_24 => ?_) (fun c_24 => ?_)
        · skip
          have h5 : (b2, g2, b3, g3, gh) = (zmz n fp fk c0 f0 f2 c3 f3 fh) := by rw [← h3, zrs, if_neg (by rw [c_24]; decide)]
          rw [← h5] at hQ
          refine lv_aload_n hx hb dX1_minimize_99 rfl (lv_at hl 0 rfl) ?_
          refine va_get (D := D) (ci := 1) (v := .ref (ad 3)) (C := RX1) (T := TX1) (N := 8) hx hb hts hi0 hown hK hP 0 rfl rfl 2 (by decide) hf19 (fun _ h9 => h9) rfl dX1_minimize_100 ?_
          refine vz_callV (n := 0) (As := []) (rest := []) (q0 := 0) hcf (c_X0_length l D kA (ad 3) (ad 10) b2 g2 h2) gX1_minimize_X0_length rfl hd_X0_length ⟨Nat.le_of_ble_eq_true rfl, Nat.le_of_ble_eq_true rfl⟩ hK (hP.sub [8, 9] rfl) rfl rfl rfl rfl hl.1 rfl (Nat.le_of_ble_eq_true rfl) ⟨Nat.zero_le _, Nat.zero_le _⟩ dX1_minimize_103 ?_
          exact vz_iretM hx hb hr hlocks hQ hAe (vp_nar_int _) dX1_minimize_106 rfl hS hP rfl
        · skip
          subst c_24
          refine lv_aload_n hx hb dX1_minimize_27 rfl (lv_at hl 0 rfl) ?_
          refine va_get (D := D) (ci := 1) (v := .ref (ad 4)) (C := RX1) (T := TX1) (N := 8) hx hb hts hi0 hown hK hP 0 rfl rfl 3 (by decide) hf22 (fun _ h9 => h9) rfl dX1_minimize_28 ?_
          refine lv_aload_n hx hb dX1_minimize_31 rfl (lv_at hl 0 rfl) ?_
          refine va_get (D := D) (ci := 1) (v := .ref (ad 3)) (C := RX1) (T := TX1) (N := 8) hx hb hts hi0 hown hK hP 0 rfl rfl 2 (by decide) hf19 (fun _ h9 => h9) rfl dX1_minimize_32 ?_
          refine vz_callM (n := 1) (As := [.ref (ad 3)]) (rest := []) (q0 := 0) hcf (c_X0_copyFrom l D kA (ad 4) (ad 11) b3 g3 (ad 3) (ad 10) b2 g2 h2) gX1_minimize_X0_copyFrom rfl hd_X0_copyFrom ⟨Nat.le_of_ble_eq_true rfl, Nat.le_of_ble_eq_true rfl⟩ hK hP hD hS [10, 11, 8, 9] (by decide) rfl rfl rfl rfl rfl rfl rfl hl.1 rfl (Nat.le_of_ble_eq_true rfl) ⟨Nat.zero_le _, Nat.zero_le _⟩ dX1_minimize_35 (fun H locs hP hD hS => ?_)
          have hP : va_P D vwCl [(ad 0, .inr (1, [.ref (ad 1), .ref (ad 2), .ref (ad 3), .ref (ad 4), .ref (ad 5), .ref (ad 6), .ref (ad 7), .int (nI n)])), (ad 5, .inl (kA, 256, .inl fp)), (ad 6, .inl (kA, 256, .inl fk)), (ad 7, .inl (kA, 256, .inl gh)), (ad 1, .inr (0, [.ref (ad 8), .int (nI c0)])), (ad 8, .inl (kA, 24, .inl f0)), (ad 2, .inr (0, [.ref (ad 9), .int (nI c1)])), (ad 9, .inl (kA, 24, .inl f1)), (ad 3, .inr (0, [.ref (ad 10), .int (nI b2)])), (ad 10, .inl (kA, 24, .inl g2)), (ad 4, .inr (0, [.ref (ad 11), .int (nI b2)])), (ad 11, .inl (kA, 24, .inl (zcp b2 g2 g3)))] H := hP
          have hD : va_D Az [(ad 0, .inr (1, [.ref (ad 1), .ref (ad 2), .ref (ad 3), .ref (ad 4), .ref (ad 5), .ref (ad 6), .ref (ad 7), .int (nI n)])), (ad 5, .inl (kA, 256, .inl fp)), (ad 6, .inl (kA, 256, .inl fk)), (ad 7, .inl (kA, 256, .inl gh)), (ad 1, .inr (0, [.ref (ad 8), .int (nI c0)])), (ad 8, .inl (kA, 24, .inl f0)), (ad 2, .inr (0, [.ref (ad 9), .int (nI c1)])), (ad 9, .inl (kA, 24, .inl f1)), (ad 3, .inr (0, [.ref (ad 10), .int (nI b2)])), (ad 10, .inl (kA, 24, .inl g2)), (ad 4, .inr (0, [.ref (ad 11), .int (nI b2)])), (ad 11, .inl (kA, 24, .inl (zcp b2 g2 g3)))] := hD
          refine lv_aload_n hx hb dX1_minimize_38 rfl (lv_at hl 0 rfl) ?_
          refine lv_aload_n hx hb dX1_minimize_39 rfl (lv_at hl 0 rfl) ?_
          refine va_get (D := D) (ci := 1) (v := .ref (ad 4)) (C := RX1) (T := TX1) (N := 8) hx hb hts hi0 hown hK hP 0 rfl rfl 3 (by decide) hf22 (fun _ h9 => h9) rfl dX1_minimize_40 ?_
          refine vz_callM (n := 1) (As := [.ref (ad 4)]) (rest := []) (q0 := 0) hcf (c_X1_narrow l D kA ad n fp fk gh hn (ad 4) (ad 11) b2 (zcp b2 g2 g3) h2) gX1_minimize_X1_narrow rfl hd_X1_narrow ⟨Nat.le_of_ble_eq_true rfl, Nat.le_of_ble_eq_true rfl⟩ hK hP hD hS [0, 1, 2, 3, 10, 11] (by decide) rfl rfl rfl rfl rfl rfl rfl hl.1 rfl (Nat.le_of_ble_eq_true rfl) ⟨Nat.zero_le _, Nat.zero_le _⟩ dX1_minimize_43 (fun H locs hP hD hS => ?_)
          have hP : va_P D vwCl [(ad 0, .inr (1, [.ref (ad 1), .ref (ad 2), .ref (ad 3), .ref (ad 4), .ref (ad 5), .ref (ad 6), .ref (ad 7), .int (nI n)])), (ad 5, .inl (kA, 256, .inl fp)), (ad 6, .inl (kA, 256, .inl fk)), (ad 7, .inl (kA, 256, .inl ((znw n fp fk b2 (zcp b2 g2 g3) gh).2))), (ad 1, .inr (0, [.ref (ad 8), .int (nI c0)])), (ad 8, .inl (kA, 24, .inl f0)), (ad 2, .inr (0, [.ref (ad 9), .int (nI c1)])), (ad 9, .inl (kA, 24, .inl f1)), (ad 3, .inr (0, [.ref (ad 10), .int (nI b2)])), (ad 10, .inl (kA, 24, .inl g2)), (ad 4, .inr (0, [.ref (ad 11), .int (nI b2)])), (ad 11, .inl (kA, 24, .inl ((znw n fp fk b2 (zcp b2 g2 g3) gh).1)))] H := hP
          have hD : va_D Az [(ad 0, .inr (1, [.ref (ad 1), .ref (ad 2), .ref (ad 3), .ref (ad 4), .ref (ad 5), .ref (ad 6), .ref (ad 7), .int (nI n)])), (ad 5, .inl (kA, 256, .inl fp)), (ad 6, .inl (kA, 256, .inl fk)), (ad 7, .inl (kA, 256, .inl ((znw n fp fk b2 (zcp b2 g2 g3) gh).2))), (ad 1, .inr (0, [.ref (ad 8), .int (nI c0)])), (ad 8, .inl (kA, 24, .inl f0)), (ad 2, .inr (0, [.ref (ad 9), .int (nI c1)])), (ad 9, .inl (kA, 24, .inl f1)), (ad 3, .inr (0, [.ref (ad 10), .int (nI b2)])), (ad 10, .inl (kA, 24, .inl g2)), (ad 4, .inr (0, [.ref (ad 11), .int (nI b2)])), (ad 11, .inl (kA, 24, .inl ((znw n fp fk b2 (zcp b2 g2 g3) gh).1)))] := hD
          refine lv_aload_n hx hb dX1_minimize_46 rfl (lv_at hl 0 rfl) ?_
          refine lv_aload_n hx hb dX1_minimize_47 rfl (lv_at hl 0 rfl) ?_
          refine va_get (D := D) (ci := 1) (v := .ref (ad 4)) (C := RX1) (T := TX1) (N := 8) hx hb hts hi0 hown hK hP 0 rfl rfl 3 (by decide) hf22 (fun _ h9 => h9) rfl dX1_minimize_48 ?_
          refine lv_iload_n hx hb dX1_minimize_51 rfl (lv_at hl 2 rfl) ?_
          refine lv_iconst (v := nI 2) hx hb dX1_minimize_52 (by decide) ?_
          refine lv_irem hx hb dX1_minimize_53 (by decide) ?_
          refine vz_top (y := (nI (r % 2))) (zmod2 r (by omega)) ?_
          refine lv_if_ne (tgt := 61) hx hb dX1_minimize_54 (by decide) (fun c_54 => ?_) (fun c_54 => ?_)
          · skip
            refine lv_iconst (v := nI 0) hx hb dX1_minimize_61 (by decide) ?_
            refine vz_top (y := (vz_b (decide (r % 2 = 0)))) (by rw [decide_eq_false (fun q => c_54 (congrArg nI q))]; rfl) ?_
            refine vz_callM (n := 2) (As := [.ref (ad 4), .int (vz_b (decide (r % 2 = 0)))]) (rest := []) (q0 := 0) hcf (c_X1_makePass l D kA ad n fp fk ((znw n fp fk b2 (zcp b2 g2 g3) gh).2) hn (ad 4) (ad 11) b2 (znw n fp fk b2 (zcp b2 g2 g3) gh).1 h2 (decide (r % 2 = 0))) gX1_minimize_X1_makePass rfl hd_X1_makePass ⟨Nat.le_of_ble_eq_true rfl, Nat.le_of_ble_eq_true rfl⟩ hK hP hD hS [0, 1, 2, 3, 10, 11] (by decide) rfl rfl rfl rfl rfl rfl rfl hl.1 rfl (Nat.le_of_ble_eq_true rfl) ⟨Nat.zero_le _, Nat.zero_le _⟩ dX1_minimize_62 (fun H locs hP hD hS => ?_)
            have hP : va_P D vwCl [(ad 0, .inr (1, [.ref (ad 1), .ref (ad 2), .ref (ad 3), .ref (ad 4), .ref (ad 5), .ref (ad 6), .ref (ad 7), .int (nI n)])), (ad 5, .inl (kA, 256, .inl fp)), (ad 6, .inl (kA, 256, .inl fk)), (ad 7, .inl (kA, 256, .inl ((zr1 n fp fk r (b2, g2, b3, g3, gh)).2.2))), (ad 1, .inr (0, [.ref (ad 8), .int (nI c0)])), (ad 8, .inl (kA, 24, .inl f0)), (ad 2, .inr (0, [.ref (ad 9), .int (nI c1)])), (ad 9, .inl (kA, 24, .inl f1)), (ad 3, .inr (0, [.ref (ad 10), .int (nI b2)])), (ad 10, .inl (kA, 24, .inl g2)), (ad 4, .inr (0, [.ref (ad 11), .int (nI ((zr1 n fp fk r (b2, g2, b3, g3, gh)).1))])), (ad 11, .inl (kA, 24, .inl ((zr1 n fp fk r (b2, g2, b3, g3, gh)).2.1)))] H := hP
            have hD : va_D Az [(ad 0, .inr (1, [.ref (ad 1), .ref (ad 2), .ref (ad 3), .ref (ad 4), .ref (ad 5), .ref (ad 6), .ref (ad 7), .int (nI n)])), (ad 5, .inl (kA, 256, .inl fp)), (ad 6, .inl (kA, 256, .inl fk)), (ad 7, .inl (kA, 256, .inl ((zr1 n fp fk r (b2, g2, b3, g3, gh)).2.2))), (ad 1, .inr (0, [.ref (ad 8), .int (nI c0)])), (ad 8, .inl (kA, 24, .inl f0)), (ad 2, .inr (0, [.ref (ad 9), .int (nI c1)])), (ad 9, .inl (kA, 24, .inl f1)), (ad 3, .inr (0, [.ref (ad 10), .int (nI b2)])), (ad 10, .inl (kA, 24, .inl g2)), (ad 4, .inr (0, [.ref (ad 11), .int (nI ((zr1 n fp fk r (b2, g2, b3, g3, gh)).1))])), (ad 11, .inl (kA, 24, .inl ((zr1 n fp fk r (b2, g2, b3, g3, gh)).2.1)))] := hD
            refine lv_aload_n hx hb dX1_minimize_65 rfl (lv_at hl 0 rfl) ?_
            refine lv_aload_n hx hb dX1_minimize_66 rfl (lv_at hl 0 rfl) ?_
            refine va_get (D := D) (ci := 1) (v := .ref (ad 4)) (C := RX1) (T := TX1) (N := 8) hx hb hts hi0 hown hK hP 0 rfl rfl 3 (by decide) hf22 (fun _ h9 => h9) rfl dX1_minimize_67 ?_
            refine lv_aload_n hx hb dX1_minimize_70 rfl (lv_at hl 0 rfl) ?_
            refine va_get (D := D) (ci := 1) (v := .ref (ad 3)) (C := RX1) (T := TX1) (N := 8) hx hb hts hi0 hown hK hP 0 rfl rfl 2 (by decide) hf19 (fun _ h9 => h9) rfl dX1_minimize_71 ?_
            refine vz_callV (n := 2) (As := [.ref (ad 4), .ref (ad 3)]) (rest := []) (q0 := 0) hcf (c_X1_isSmaller l D kA ad n fp fk ((zr1 n fp fk r (b2, g2, b3, g3, gh)).2.2) hn (ad 4) (ad 11) (zr1 n fp fk r (b2, g2, b3, g3, gh)).1 (zr1 n fp fk r (b2, g2, b3, g3, gh)).2.1 (Nat.le_trans zps_le h2) (ad 3) (ad 10) b2 g2 h2) gX1_minimize_X1_isSmaller rfl hd_X1_isSmaller ⟨Nat.le_of_ble_eq_true rfl, Nat.le_of_ble_eq_true rfl⟩ hK (hP.sub [0, 1, 2, 3, 10, 11, 8, 9] rfl) rfl rfl rfl rfl hl.1 rfl (Nat.le_of_ble_eq_true rfl) ⟨Nat.zero_le _, Nat.zero_le _⟩ dX1_minimize_74 ?_
            refine lv_istore_n (lv' := [(1, .int (vz_b (zsm n (zr1 n fp fk r (b2, g2, b3, g3, gh)).1 (zr1 n fp fk r (b2, g2, b3, g3, gh)).2.1 b2 g2))), (0, .ref (ad 0)), (2, .int (nI r))]) hx hb dX1_minimize_77 rfl hl (by decide) rfl (fun ls hl => ?_)
            refine lv_iload_n hx hb dX1_minimize_78 rfl (lv_at hl 0 rfl) ?_
            refine vz_ifeqB (tgt := 93) hx hb dX1_minimize_79 (by decide) (fun c_79 => ?_) (fun c_79 => ?_)
            · skip
              refine lv_iinc (v := (nI (r + 1))) (lv' := [(2, .int (nI (r + 1))), (1, .int (vz_b (zsm n (zr1 n fp fk r (b2, g2, b3, g3, gh)).1 (zr1 n fp fk r (b2, g2, b3, g3, gh)).2.1 b2 g2))), (0, .ref (ad 0))]) hx hb dX1_minimize_93 hl (k := 2) rfl (nI_1 _) (by decide) rfl (fun ls hl => ?_)
              refine lv_goto (tgt := 17) hx hb dX1_minimize_96 (by decide) ?_
              have c_80 : vz_b (zsm n (zr1 n fp fk r (b2, g2, b3, g3, gh)).1 (zr1 n fp fk r (b2, g2, b3, g3, gh)).2.1 b2 g2) = vz_b false := congrArg vz_b c_79
              rw [show zsm n (zr1 n fp fk r (b2, g2, b3, g3, gh)).1 (zr1 n fp fk r (b2, g2, b3, g3, gh)).2.1 b2 g2 = false from c_79] at hl
              exact ih1 k (r + 1) false b2 g2 ((zr1 n fp fk r (b2, g2, b3, g3, gh)).1) ((zr1 n fp fk r (b2, g2, b3, g3, gh)).2.1) ((zr1 n fp fk r (b2, g2, b3, g3, gh)).2.2) _ _ _ (by omega) (by omega) (by omega) (Nat.le_trans zps_le h2) (by rw [← h3, zrs, if_pos rfl, show zrb n fp fk r (b2, g2, b3, g3, gh) = false from c_79]; congr 1; rw [zr2, if_neg (by rw [show zrb n fp fk r (b2, g2, b3, g3, gh) = false from c_79]; decide)]) hP (vz_D hD rfl) hS (lv_sub hl [2, 1, 0] rfl)
            · skip
              refine lv_aload_n hx hb dX1_minimize_82 rfl (lv_at hl 1 rfl) ?_
              refine va_get (D := D) (ci := 1) (v := .ref (ad 3)) (C := RX1) (T := TX1) (N := 8) hx hb hts hi0 hown hK hP 0 rfl rfl 2 (by decide) hf19 (fun _ h9 => h9) rfl dX1_minimize_83 ?_
              refine lv_aload_n hx hb dX1_minimize_86 rfl (lv_at hl 1 rfl) ?_
              refine va_get (D := D) (ci := 1) (v := .ref (ad 4)) (C := RX1) (T := TX1) (N := 8) hx hb hts hi0 hown hK hP 0 rfl rfl 3 (by decide) hf22 (fun _ h9 => h9) rfl dX1_minimize_87 ?_
              refine vz_callM (n := 1) (As := [.ref (ad 4)]) (rest := []) (q0 := 0) hcf (c_X0_copyFrom l D kA (ad 3) (ad 10) b2 g2 (ad 4) (ad 11) (zr1 n fp fk r (b2, g2, b3, g3, gh)).1 (zr1 n fp fk r (b2, g2, b3, g3, gh)).2.1 (Nat.le_trans zps_le h2)) gX1_minimize_X0_copyFrom rfl hd_X0_copyFrom ⟨Nat.le_of_ble_eq_true rfl, Nat.le_of_ble_eq_true rfl⟩ hK hP hD hS [8, 9, 10, 11] (by decide) rfl rfl rfl rfl rfl rfl rfl hl.1 rfl (Nat.le_of_ble_eq_true rfl) ⟨Nat.zero_le _, Nat.zero_le _⟩ dX1_minimize_90 (fun H locs hP hD hS => ?_)
              have hP : va_P D vwCl [(ad 0, .inr (1, [.ref (ad 1), .ref (ad 2), .ref (ad 3), .ref (ad 4), .ref (ad 5), .ref (ad 6), .ref (ad 7), .int (nI n)])), (ad 5, .inl (kA, 256, .inl fp)), (ad 6, .inl (kA, 256, .inl fk)), (ad 7, .inl (kA, 256, .inl ((zr1 n fp fk r (b2, g2, b3, g3, gh)).2.2))), (ad 1, .inr (0, [.ref (ad 8), .int (nI c0)])), (ad 8, .inl (kA, 24, .inl f0)), (ad 2, .inr (0, [.ref (ad 9), .int (nI c1)])), (ad 9, .inl (kA, 24, .inl f1)), (ad 3, .inr (0, [.ref (ad 10), .int (nI ((zr1 n fp fk r (b2, g2, b3, g3, gh)).1))])), (ad 10, .inl (kA, 24, .inl (zcp (zr1 n fp fk r (b2, g2, b3, g3, gh)).1 (zr1 n fp fk r (b2, g2, b3, g3, gh)).2.1 g2))), (ad 4, .inr (0, [.ref (ad 11), .int (nI ((zr1 n fp fk r (b2, g2, b3, g3, gh)).1))])), (ad 11, .inl (kA, 24, .inl ((zr1 n fp fk r (b2, g2, b3, g3, gh)).2.1)))] H := hP
              have hD : va_D Az [(ad 0, .inr (1, [.ref (ad 1), .ref (ad 2), .ref (ad 3), .ref (ad 4), .ref (ad 5), .ref (ad 6), .ref (ad 7), .int (nI n)])), (ad 5, .inl (kA, 256, .inl fp)), (ad 6, .inl (kA, 256, .inl fk)), (ad 7, .inl (kA, 256, .inl ((zr1 n fp fk r (b2, g2, b3, g3, gh)).2.2))), (ad 1, .inr (0, [.ref (ad 8), .int (nI c0)])), (ad 8, .inl (kA, 24, .inl f0)), (ad 2, .inr (0, [.ref (ad 9), .int (nI c1)])), (ad 9, .inl (kA, 24, .inl f1)), (ad 3, .inr (0, [.ref (ad 10), .int (nI ((zr1 n fp fk r (b2, g2, b3, g3, gh)).1))])), (ad 10, .inl (kA, 24, .inl (zcp (zr1 n fp fk r (b2, g2, b3, g3, gh)).1 (zr1 n fp fk r (b2, g2, b3, g3, gh)).2.1 g2))), (ad 4, .inr (0, [.ref (ad 11), .int (nI ((zr1 n fp fk r (b2, g2, b3, g3, gh)).1))])), (ad 11, .inl (kA, 24, .inl ((zr1 n fp fk r (b2, g2, b3, g3, gh)).2.1)))] := hD
              refine lv_iinc (v := (nI (r + 1))) (lv' := [(2, .int (nI (r + 1))), (1, .int (vz_b (zsm n (zr1 n fp fk r (b2, g2, b3, g3, gh)).1 (zr1 n fp fk r (b2, g2, b3, g3, gh)).2.1 b2 g2))), (0, .ref (ad 0))]) hx hb dX1_minimize_93 hl (k := 2) rfl (nI_1 _) (by decide) rfl (fun ls hl => ?_)
              refine lv_goto (tgt := 17) hx hb dX1_minimize_96 (by decide) ?_
              rw [show zsm n (zr1 n fp fk r (b2, g2, b3, g3, gh)).1 (zr1 n fp fk r (b2, g2, b3, g3, gh)).2.1 b2 g2 = true from c_79] at hl
              exact ih1 k (r + 1) true ((zr1 n fp fk r (b2, g2, b3, g3, gh)).1) (zcp (zr1 n fp fk r (b2, g2, b3, g3, gh)).1 (zr1 n fp fk r (b2, g2, b3, g3, gh)).2.1 g2) ((zr1 n fp fk r (b2, g2, b3, g3, gh)).1) ((zr1 n fp fk r (b2, g2, b3, g3, gh)).2.1) ((zr1 n fp fk r (b2, g2, b3, g3, gh)).2.2) _ _ _ (by omega) (by omega) (Nat.le_trans zps_le h2) (Nat.le_trans zps_le h2) (by rw [← h3, zrs, if_pos rfl, show zrb n fp fk r (b2, g2, b3, g3, gh) = true from c_79]; congr 1; rw [zr2, if_pos (show zrb n fp fk r (b2, g2, b3, g3, gh) = true from c_79)]) hP (vz_D hD rfl) hS (lv_sub hl [2, 1, 0] rfl)
          · skip
            refine lv_iconst (v := nI 1) hx hb dX1_minimize_57 (by decide) ?_
            refine vz_top (y := (vz_b (decide (r % 2 = 0)))) (by rw [decide_eq_true ((nI_eq (by omega) (by omega)).mp (c_54.trans nI_0.symm))]; rfl) ?_
            refine lv_goto (tgt := 62) hx hb dX1_minimize_58 (by decide) ?_
            refine vz_callM (n := 2) (As := [.ref (ad 4), .int (vz_b (decide (r % 2 = 0)))]) (rest := []) (q0 := 0) hcf (c_X1_makePass l D kA ad n fp fk ((znw n fp fk b2 (zcp b2 g2 g3) gh).2) hn (ad 4) (ad 11) b2 (znw n fp fk b2 (zcp b2 g2 g3) gh).1 h2 (decide (r % 2 = 0))) gX1_minimize_X1_makePass rfl hd_X1_makePass ⟨Nat.le_of_ble_eq_true rfl, Nat.le_of_ble_eq_true rfl⟩ hK hP hD hS [0, 1, 2, 3, 10, 11] (by decide) rfl rfl rfl rfl rfl rfl rfl hl.1 rfl (Nat.le_of_ble_eq_true rfl) ⟨Nat.zero_le _, Nat.zero_le _⟩ dX1_minimize_62 (fun H locs hP hD hS => ?_)
            have hP : va_P D vwCl [(ad 0, .inr (1, [.ref (ad 1), .ref (ad 2), .ref (ad 3), .ref (ad 4), .ref (ad 5), .ref (ad 6), .ref (ad 7), .int (nI n)])), (ad 5, .inl (kA, 256, .inl fp)), (ad 6, .inl (kA, 256, .inl fk)), (ad 7, .inl (kA, 256, .inl ((zr1 n fp fk r (b2, g2, b3, g3, gh)).2.2))), (ad 1, .inr (0, [.ref (ad 8), .int (nI c0)])), (ad 8, .inl (kA, 24, .inl f0)), (ad 2, .inr (0, [.ref (ad 9), .int (nI c1)])), (ad 9, .inl (kA, 24, .inl f1)), (ad 3, .inr (0, [.ref (ad 10), .int (nI b2)])), (ad 10, .inl (kA, 24, .inl g2)), (ad 4, .inr (0, [.ref (ad 11), .int (nI ((zr1 n fp fk r (b2, g2, b3, g3, gh)).1))])), (ad 11, .inl (kA, 24, .inl ((zr1 n fp fk r (b2, g2, b3, g3, gh)).2.1)))] H := hP
            have hD : va_D Az [(ad 0, .inr (1, [.ref (ad 1), .ref (ad 2), .ref (ad 3), .ref (ad 4), .ref (ad 5), .ref (ad 6), .ref (ad 7), .int (nI n)])), (ad 5, .inl (kA, 256, .inl fp)), (ad 6, .inl (kA, 256, .inl fk)), (ad 7, .inl (kA, 256, .inl ((zr1 n fp fk r (b2, g2, b3, g3, gh)).2.2))), (ad 1, .inr (0, [.ref (ad 8), .int (nI c0)])), (ad 8, .inl (kA, 24, .inl f0)), (ad 2, .inr (0, [.ref (ad 9), .int (nI c1)])), (ad 9, .inl (kA, 24, .inl f1)), (ad 3, .inr (0, [.ref (ad 10), .int (nI b2)])), (ad 10, .inl (kA, 24, .inl g2)), (ad 4, .inr (0, [.ref (ad 11), .int (nI ((zr1 n fp fk r (b2, g2, b3, g3, gh)).1))])), (ad 11, .inl (kA, 24, .inl ((zr1 n fp fk r (b2, g2, b3, g3, gh)).2.1)))] := hD
            refine lv_aload_n hx hb dX1_minimize_65 rfl (lv_at hl 0 rfl) ?_
            refine lv_aload_n hx hb dX1_minimize_66 rfl (lv_at hl 0 rfl) ?_
            refine va_get (D := D) (ci := 1) (v := .ref (ad 4)) (C := RX1) (T := TX1) (N := 8) hx hb hts hi0 hown hK hP 0 rfl rfl 3 (by decide) hf22 (fun _ h9 => h9) rfl dX1_minimize_67 ?_
            refine lv_aload_n hx hb dX1_minimize_70 rfl (lv_at hl 0 rfl) ?_
            refine va_get (D := D) (ci := 1) (v := .ref (ad 3)) (C := RX1) (T := TX1) (N := 8) hx hb hts hi0 hown hK hP 0 rfl rfl 2 (by decide) hf19 (fun _ h9 => h9) rfl dX1_minimize_71 ?_
            refine vz_callV (n := 2) (As := [.ref (ad 4), .ref (ad 3)]) (rest := []) (q0 := 0) hcf (c_X1_isSmaller l D kA ad n fp fk ((zr1 n fp fk r (b2, g2, b3, g3, gh)).2.2) hn (ad 4) (ad 11) (zr1 n fp fk r (b2, g2, b3, g3, gh)).1 (zr1 n fp fk r (b2, g2, b3, g3, gh)).2.1 (Nat.le_trans zps_le h2) (ad 3) (ad 10) b2 g2 h2) gX1_minimize_X1_isSmaller rfl hd_X1_isSmaller ⟨Nat.le_of_ble_eq_true rfl, Nat.le_of_ble_eq_true rfl⟩ hK (hP.sub [0, 1, 2, 3, 10, 11, 8, 9] rfl) rfl rfl rfl rfl hl.1 rfl (Nat.le_of_ble_eq_true rfl) ⟨Nat.zero_le _, Nat.zero_le _⟩ dX1_minimize_74 ?_
            refine lv_istore_n (lv' := [(1, .int (vz_b (zsm n (zr1 n fp fk r (b2, g2, b3, g3, gh)).1 (zr1 n fp fk r (b2, g2, b3, g3, gh)).2.1 b2 g2))), (0, .ref (ad 0)), (2, .int (nI r))]) hx hb dX1_minimize_77 rfl hl (by decide) rfl (fun ls hl => ?_)
            refine lv_iload_n hx hb dX1_minimize_78 rfl (lv_at hl 0 rfl) ?_
            refine vz_ifeqB (tgt := 93) hx hb dX1_minimize_79 (by decide) (fun c_79 => ?_) (fun c_79 => ?_)
            · skip
              refine lv_iinc (v := (nI (r + 1))) (lv' := [(2, .int (nI (r + 1))), (1, .int (vz_b (zsm n (zr1 n fp fk r (b2, g2, b3, g3, gh)).1 (zr1 n fp fk r (b2, g2, b3, g3, gh)).2.1 b2 g2))), (0, .ref (ad 0))]) hx hb dX1_minimize_93 hl (k := 2) rfl (nI_1 _) (by decide) rfl (fun ls hl => ?_)
              refine lv_goto (tgt := 17) hx hb dX1_minimize_96 (by decide) ?_
              have c_80 : vz_b (zsm n (zr1 n fp fk r (b2, g2, b3, g3, gh)).1 (zr1 n fp fk r (b2, g2, b3, g3, gh)).2.1 b2 g2) = vz_b false := congrArg vz_b c_79
              rw [show zsm n (zr1 n fp fk r (b2, g2, b3, g3, gh)).1 (zr1 n fp fk r (b2, g2, b3, g3, gh)).2.1 b2 g2 = false from c_79] at hl
              exact ih1 k (r + 1) false b2 g2 ((zr1 n fp fk r (b2, g2, b3, g3, gh)).1) ((zr1 n fp fk r (b2, g2, b3, g3, gh)).2.1) ((zr1 n fp fk r (b2, g2, b3, g3, gh)).2.2) _ _ _ (by omega) (by omega) (by omega) (Nat.le_trans zps_le h2) (by rw [← h3, zrs, if_pos rfl, show zrb n fp fk r (b2, g2, b3, g3, gh) = false from c_79]; congr 1; rw [zr2, if_neg (by rw [show zrb n fp fk r (b2, g2, b3, g3, gh) = false from c_79]; decide)]) hP (vz_D hD rfl) hS (lv_sub hl [2, 1, 0] rfl)
            · skip
              refine lv_aload_n hx hb dX1_minimize_82 rfl (lv_at hl 1 rfl) ?_
              refine va_get (D := D) (ci := 1) (v := .ref (ad 3)) (C := RX1) (T := TX1) (N := 8) hx hb hts hi0 hown hK hP 0 rfl rfl 2 (by decide) hf19 (fun _ h9 => h9) rfl dX1_minimize_83 ?_
              refine lv_aload_n hx hb dX1_minimize_86 rfl (lv_at hl 1 rfl) ?_
              refine va_get (D := D) (ci := 1) (v := .ref (ad 4)) (C := RX1) (T := TX1) (N := 8) hx hb hts hi0 hown hK hP 0 rfl rfl 3 (by decide) hf22 (fun _ h9 => h9) rfl dX1_minimize_87 ?_
              refine vz_callM (n := 1) (As := [.ref (ad 4)]) (rest := []) (q0 := 0) hcf (c_X0_copyFrom l D kA (ad 3) (ad 10) b2 g2 (ad 4) (ad 11) (zr1 n fp fk r (b2, g2, b3, g3, gh)).1 (zr1 n fp fk r (b2, g2, b3, g3, gh)).2.1 (Nat.le_trans zps_le h2)) gX1_minimize_X0_copyFrom rfl hd_X0_copyFrom ⟨Nat.le_of_ble_eq_true rfl, Nat.le_of_ble_eq_true rfl⟩ hK hP hD hS [8, 9, 10, 11] (by decide) rfl rfl rfl rfl rfl rfl rfl hl.1 rfl (Nat.le_of_ble_eq_true rfl) ⟨Nat.zero_le _, Nat.zero_le _⟩ dX1_minimize_90 (fun H locs hP hD hS => ?_)
              have hP : va_P D vwCl [(ad 0, .inr (1, [.ref (ad 1), .ref (ad 2), .ref (ad 3), .ref (ad 4), .ref (ad 5), .ref (ad 6), .ref (ad 7), .int (nI n)])), (ad 5, .inl (kA, 256, .inl fp)), (ad 6, .inl (kA, 256, .inl fk)), (ad 7, .inl (kA, 256, .inl ((zr1 n fp fk r (b2, g2, b3, g3, gh)).2.2))), (ad 1, .inr (0, [.ref (ad 8), .int (nI c0)])), (ad 8, .inl (kA, 24, .inl f0)), (ad 2, .inr (0, [.ref (ad 9), .int (nI c1)])), (ad 9, .inl (kA, 24, .inl f1)), (ad 3, .inr (0, [.ref (ad 10), .int (nI ((zr1 n fp fk r (b2, g2, b3, g3, gh)).1))])), (ad 10, .inl (kA, 24, .inl (zcp (zr1 n fp fk r (b2, g2, b3, g3, gh)).1 (zr1 n fp fk r (b2, g2, b3, g3, gh)).2.1 g2))), (ad 4, .inr (0, [.ref (ad 11), .int (nI ((zr1 n fp fk r (b2, g2, b3, g3, gh)).1))])), (ad 11, .inl (kA, 24, .inl ((zr1 n fp fk r (b2, g2, b3, g3, gh)).2.1)))] H := hP
              have hD : va_D Az [(ad 0, .inr (1, [.ref (ad 1), .ref (ad 2), .ref (ad 3), .ref (ad 4), .ref (ad 5), .ref (ad 6), .ref (ad 7), .int (nI n)])), (ad 5, .inl (kA, 256, .inl fp)), (ad 6, .inl (kA, 256, .inl fk)), (ad 7, .inl (kA, 256, .inl ((zr1 n fp fk r (b2, g2, b3, g3, gh)).2.2))), (ad 1, .inr (0, [.ref (ad 8), .int (nI c0)])), (ad 8, .inl (kA, 24, .inl f0)), (ad 2, .inr (0, [.ref (ad 9), .int (nI c1)])), (ad 9, .inl (kA, 24, .inl f1)), (ad 3, .inr (0, [.ref (ad 10), .int (nI ((zr1 n fp fk r (b2, g2, b3, g3, gh)).1))])), (ad 10, .inl (kA, 24, .inl (zcp (zr1 n fp fk r (b2, g2, b3, g3, gh)).1 (zr1 n fp fk r (b2, g2, b3, g3, gh)).2.1 g2))), (ad 4, .inr (0, [.ref (ad 11), .int (nI ((zr1 n fp fk r (b2, g2, b3, g3, gh)).1))])), (ad 11, .inl (kA, 24, .inl ((zr1 n fp fk r (b2, g2, b3, g3, gh)).2.1)))] := hD
              refine lv_iinc (v := (nI (r + 1))) (lv' := [(2, .int (nI (r + 1))), (1, .int (vz_b (zsm n (zr1 n fp fk r (b2, g2, b3, g3, gh)).1 (zr1 n fp fk r (b2, g2, b3, g3, gh)).2.1 b2 g2))), (0, .ref (ad 0))]) hx hb dX1_minimize_93 hl (k := 2) rfl (nI_1 _) (by decide) rfl (fun ls hl => ?_)
              refine lv_goto (tgt := 17) hx hb dX1_minimize_96 (by decide) ?_
              rw [show zsm n (zr1 n fp fk r (b2, g2, b3, g3, gh)).1 (zr1 n fp fk r (b2, g2, b3, g3, gh)).2.1 b2 g2 = true from c_79] at hl
              exact ih1 k (r + 1) true ((zr1 n fp fk r (b2, g2, b3, g3, gh)).1) (zcp (zr1 n fp fk r (b2, g2, b3, g3, gh)).1 (zr1 n fp fk r (b2, g2, b3, g3, gh)).2.1 g2) ((zr1 n fp fk r (b2, g2, b3, g3, gh)).1) ((zr1 n fp fk r (b2, g2, b3, g3, gh)).2.1) ((zr1 n fp fk r (b2, g2, b3, g3, gh)).2.2) _ _ _ (by omega) (by omega) (Nat.le_trans zps_le h2) (Nat.le_trans zps_le h2) (by rw [← h3, zrs, if_pos rfl, show zrb n fp fk r (b2, g2, b3, g3, gh) = true from c_79]; congr 1; rw [zr2, if_pos (show zrb n fp fk r (b2, g2, b3, g3, gh) = true from c_79)]) hP (vz_D hD rfl) hS (lv_sub hl [2, 1, 0] rfl)
  exact lp1 _ 8 1 true ((zmz0 n fp fk c0 f0 f2 fh).1) ((zmz0 n fp fk c0 f0 f2 fh).2.1) c3 f3 ((zmz0 n fp fk c0 f0 f2 fh).2.2) _ _ _ (Nat.lt_succ_self _) rfl (Nat.le_trans zps_le (by omega)) hc3 rfl hP (vz_D hD rfl) hS (lv_sub hl [2, 1, 0] rfl)
end
