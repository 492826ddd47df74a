-- ===== PART A: goes FIRST, ahead of the names: the tables' words, and 'selects' of the private methods out of them =====
/-- a private method of a class that the tables say can be made, by its rows of tables_1 -/
def lw_okq (q : MethodName × Nat) : Prop := (q.1.cls ≠ "java/lang/invoke/MethodHandle" ∧ q.1.cls ≠ "java/lang/invoke/VarHandle") ∧ Cond.instantiable q.1.cls q.2 ∈ tables_1 ∧ Cond.privateMethod q.1 ∈ tables_1 ∧ Cond.instanceMethod q.1 ∈ tables_1
theorem lw_p0 : lw_okq (⟨"MixedNumbers$Value", "setWhole", "(J)V"⟩, 3) := ⟨⟨by decide +kernel, by decide +kernel⟩, List.mem_of_getElem? (i := 19) (by decide +kernel), List.mem_of_getElem? (i := 64) (by decide +kernel), List.mem_of_getElem? (i := 65) (by decide +kernel)⟩
theorem lw_p1 : lw_okq (⟨"MixedNumbers$Value", "setReal", "(JI)V"⟩, 3) := ⟨⟨by decide +kernel, by decide +kernel⟩, List.mem_of_getElem? (i := 19) (by decide +kernel), List.mem_of_getElem? (i := 72) (by decide +kernel), List.mem_of_getElem? (i := 73) (by decide +kernel)⟩
theorem lw_p2 : lw_okq (⟨"MixedNumbers$Value", "setNearest", "(ZJZI)V"⟩, 3) := ⟨⟨by decide +kernel, by decide +kernel⟩, List.mem_of_getElem? (i := 19) (by decide +kernel), List.mem_of_getElem? (i := 79) (by decide +kernel), List.mem_of_getElem? (i := 80) (by decide +kernel)⟩
theorem lw_p3 : lw_okq (⟨"MixedNumbers$Value", "setZero", "()V"⟩, 3) := ⟨⟨by decide +kernel, by decide +kernel⟩, List.mem_of_getElem? (i := 19) (by decide +kernel), List.mem_of_getElem? (i := 96) (by decide +kernel), List.mem_of_getElem? (i := 97) (by decide +kernel)⟩
theorem lw_p4 : lw_okq (⟨"MixedNumbers$Value", "setInfinity", "(Z)V"⟩, 3) := ⟨⟨by decide +kernel, by decide +kernel⟩, List.mem_of_getElem? (i := 19) (by decide +kernel), List.mem_of_getElem? (i := 100) (by decide +kernel), List.mem_of_getElem? (i := 101) (by decide +kernel)⟩
theorem lw_p5 : lw_okq (⟨"MixedNumbers$Value", "become", "(LMixedNumbers$Value;)V"⟩, 3) := ⟨⟨by decide +kernel, by decide +kernel⟩, List.mem_of_getElem? (i := 19) (by decide +kernel), List.mem_of_getElem? (i := 113) (by decide +kernel), List.mem_of_getElem? (i := 114) (by decide +kernel)⟩
theorem lw_p6 : lw_okq (⟨"MixedNumbers$Value", "setSpecial", "(I)V"⟩, 3) := ⟨⟨by decide +kernel, by decide +kernel⟩, List.mem_of_getElem? (i := 19) (by decide +kernel), List.mem_of_getElem? (i := 121) (by decide +kernel), List.mem_of_getElem? (i := 122) (by decide +kernel)⟩
theorem lw_p7 : lw_okq (⟨"MixedNumbers", "addOrMultiply", "(I)I"⟩, 4) := ⟨⟨by decide +kernel, by decide +kernel⟩, List.mem_of_getElem? (i := 10) (by decide +kernel), List.mem_of_getElem? (i := 129) (by decide +kernel), List.mem_of_getElem? (i := 130) (by decide +kernel)⟩
theorem lw_p8 : lw_okq (⟨"MixedNumbers", "areWhole", "()Z"⟩, 4) := ⟨⟨by decide +kernel, by decide +kernel⟩, List.mem_of_getElem? (i := 10) (by decide +kernel), List.mem_of_getElem? (i := 133) (by decide +kernel), List.mem_of_getElem? (i := 134) (by decide +kernel)⟩
theorem lw_p9 : lw_okq (⟨"MixedNumbers", "makeReals", "()V"⟩, 4) := ⟨⟨by decide +kernel, by decide +kernel⟩, List.mem_of_getElem? (i := 10) (by decide +kernel), List.mem_of_getElem? (i := 137) (by decide +kernel), List.mem_of_getElem? (i := 138) (by decide +kernel)⟩
theorem lw_p10 : lw_okq (⟨"MixedNumbers$Value", "turnReal", "()V"⟩, 3) := ⟨⟨by decide +kernel, by decide +kernel⟩, List.mem_of_getElem? (i := 19) (by decide +kernel), List.mem_of_getElem? (i := 141) (by decide +kernel), List.mem_of_getElem? (i := 142) (by decide +kernel)⟩
theorem lw_p11 : lw_okq (⟨"MixedNumbers$Value", "size", "()J"⟩, 3) := ⟨⟨by decide +kernel, by decide +kernel⟩, List.mem_of_getElem? (i := 19) (by decide +kernel), List.mem_of_getElem? (i := 145) (by decide +kernel), List.mem_of_getElem? (i := 146) (by decide +kernel)⟩
theorem lw_p12 : lw_okq (⟨"MixedNumbers$Value", "sign", "()I"⟩, 3) := ⟨⟨by decide +kernel, by decide +kernel⟩, List.mem_of_getElem? (i := 19) (by decide +kernel), List.mem_of_getElem? (i := 156) (by decide +kernel), List.mem_of_getElem? (i := 157) (by decide +kernel)⟩
theorem lw_p13 : lw_okq (⟨"MixedNumbers$Value", "isInfinite", "()Z"⟩, 3) := ⟨⟨by decide +kernel, by decide +kernel⟩, List.mem_of_getElem? (i := 19) (by decide +kernel), List.mem_of_getElem? (i := 160) (by decide +kernel), List.mem_of_getElem? (i := 161) (by decide +kernel)⟩
theorem lw_p14 : lw_okq (⟨"MixedNumbers$Value", "negate", "()V"⟩, 3) := ⟨⟨by decide +kernel, by decide +kernel⟩, List.mem_of_getElem? (i := 19) (by decide +kernel), List.mem_of_getElem? (i := 178) (by decide +kernel), List.mem_of_getElem? (i := 179) (by decide +kernel)⟩
theorem lw_p15 : lw_okq (⟨"MixedNumbers", "divideOrRemain", "(I)I"⟩, 4) := ⟨⟨by decide +kernel, by decide +kernel⟩, List.mem_of_getElem? (i := 10) (by decide +kernel), List.mem_of_getElem? (i := 200) (by decide +kernel), List.mem_of_getElem? (i := 201) (by decide +kernel)⟩
def lw_privs_1 : List (MethodName × Nat) := [(⟨"MixedNumbers$Value", "setWhole", "(J)V"⟩, 3), (⟨"MixedNumbers$Value", "setReal", "(JI)V"⟩, 3), (⟨"MixedNumbers$Value", "setNearest", "(ZJZI)V"⟩, 3), (⟨"MixedNumbers$Value", "setZero", "()V"⟩, 3), (⟨"MixedNumbers$Value", "setInfinity", "(Z)V"⟩, 3), (⟨"MixedNumbers$Value", "become", "(LMixedNumbers$Value;)V"⟩, 3), (⟨"MixedNumbers$Value", "setSpecial", "(I)V"⟩, 3), (⟨"MixedNumbers", "addOrMultiply", "(I)I"⟩, 4), (⟨"MixedNumbers", "areWhole", "()Z"⟩, 4), (⟨"MixedNumbers", "makeReals", "()V"⟩, 4), (⟨"MixedNumbers$Value", "turnReal", "()V"⟩, 3), (⟨"MixedNumbers$Value", "size", "()J"⟩, 3), (⟨"MixedNumbers$Value", "sign", "()I"⟩, 3), (⟨"MixedNumbers$Value", "isInfinite", "()Z"⟩, 3), (⟨"MixedNumbers$Value", "negate", "()V"⟩, 3), (⟨"MixedNumbers", "divideOrRemain", "(I)I"⟩, 4)]
theorem lw_r1 : ∀ q ∈ lw_privs_1, lw_okq q := List.forall_mem_cons.mpr ⟨lw_p0, List.forall_mem_cons.mpr ⟨lw_p1, List.forall_mem_cons.mpr ⟨lw_p2, List.forall_mem_cons.mpr ⟨lw_p3, List.forall_mem_cons.mpr ⟨lw_p4, List.forall_mem_cons.mpr ⟨lw_p5, List.forall_mem_cons.mpr ⟨lw_p6, List.forall_mem_cons.mpr ⟨lw_p7, List.forall_mem_cons.mpr ⟨lw_p8, List.forall_mem_cons.mpr ⟨lw_p9, List.forall_mem_cons.mpr ⟨lw_p10, List.forall_mem_cons.mpr ⟨lw_p11, List.forall_mem_cons.mpr ⟨lw_p12, List.forall_mem_cons.mpr ⟨lw_p13, List.forall_mem_cons.mpr ⟨lw_p14, List.forall_mem_cons.mpr ⟨lw_p15, fun _ h => absurd h List.not_mem_nil⟩⟩⟩⟩⟩⟩⟩⟩⟩⟩⟩⟩⟩⟩⟩⟩
theorem lw_p16 : lw_okq (⟨"MixedNumbers", "divideOrRemainReal", "(I)V"⟩, 4) := ⟨⟨by decide +kernel, by decide +kernel⟩, List.mem_of_getElem? (i := 10) (by decide +kernel), List.mem_of_getElem? (i := 204) (by decide +kernel), List.mem_of_getElem? (i := 205) (by decide +kernel)⟩
theorem lw_p17 : lw_okq (⟨"MixedNumbers$Value", "roundDown", "()V"⟩, 3) := ⟨⟨by decide +kernel, by decide +kernel⟩, List.mem_of_getElem? (i := 19) (by decide +kernel), List.mem_of_getElem? (i := 227) (by decide +kernel), List.mem_of_getElem? (i := 228) (by decide +kernel)⟩
theorem lw_p18 : lw_okq (⟨"MixedNumbers$Value", "floor", "()J"⟩, 3) := ⟨⟨by decide +kernel, by decide +kernel⟩, List.mem_of_getElem? (i := 19) (by decide +kernel), List.mem_of_getElem? (i := 231) (by decide +kernel), List.mem_of_getElem? (i := 232) (by decide +kernel)⟩
theorem lw_p19 : lw_okq (⟨"MixedNumbers", "power", "()I"⟩, 4) := ⟨⟨by decide +kernel, by decide +kernel⟩, List.mem_of_getElem? (i := 10) (by decide +kernel), List.mem_of_getElem? (i := 242) (by decide +kernel), List.mem_of_getElem? (i := 243) (by decide +kernel)⟩
theorem lw_p20 : lw_okq (⟨"MixedNumbers$Value", "countsAsWhole", "()Z"⟩, 3) := ⟨⟨by decide +kernel, by decide +kernel⟩, List.mem_of_getElem? (i := 19) (by decide +kernel), List.mem_of_getElem? (i := 246) (by decide +kernel), List.mem_of_getElem? (i := 247) (by decide +kernel)⟩
theorem lw_p21 : lw_okq (⟨"MixedNumbers$Value", "asWhole", "()J"⟩, 3) := ⟨⟨by decide +kernel, by decide +kernel⟩, List.mem_of_getElem? (i := 19) (by decide +kernel), List.mem_of_getElem? (i := 250) (by decide +kernel), List.mem_of_getElem? (i := 251) (by decide +kernel)⟩
theorem lw_p22 : lw_okq (⟨"MixedNumbers", "raise", "(I)V"⟩, 4) := ⟨⟨by decide +kernel, by decide +kernel⟩, List.mem_of_getElem? (i := 10) (by decide +kernel), List.mem_of_getElem? (i := 257) (by decide +kernel), List.mem_of_getElem? (i := 258) (by decide +kernel)⟩
theorem lw_p23 : lw_okq (⟨"MixedNumbers", "combineBits", "(I)I"⟩, 4) := ⟨⟨by decide +kernel, by decide +kernel⟩, List.mem_of_getElem? (i := 10) (by decide +kernel), List.mem_of_getElem? (i := 262) (by decide +kernel), List.mem_of_getElem? (i := 263) (by decide +kernel)⟩
theorem lw_p24 : lw_okq (⟨"MixedNumbers", "applyToOne", "(I)I"⟩, 4) := ⟨⟨by decide +kernel, by decide +kernel⟩, List.mem_of_getElem? (i := 10) (by decide +kernel), List.mem_of_getElem? (i := 271) (by decide +kernel), List.mem_of_getElem? (i := 272) (by decide +kernel)⟩
theorem lw_p25 : lw_okq (⟨"MixedNumbers", "insert", "(II)V"⟩, 4) := ⟨⟨by decide +kernel, by decide +kernel⟩, List.mem_of_getElem? (i := 10) (by decide +kernel), List.mem_of_getElem? (i := 325) (by decide +kernel), List.mem_of_getElem? (i := 326) (by decide +kernel)⟩
theorem lw_p26 : lw_okq (⟨"MixedNumbersModel", "setWhole", "(J)V"⟩, 14) := ⟨⟨by decide +kernel, by decide +kernel⟩, List.mem_of_getElem? (i := 333) (by decide +kernel), List.mem_of_getElem? (i := 391) (by decide +kernel), List.mem_of_getElem? (i := 392) (by decide +kernel)⟩
theorem lw_p27 : lw_okq (⟨"MixedNumbersModel", "put", "(I)V"⟩, 14) := ⟨⟨by decide +kernel, by decide +kernel⟩, List.mem_of_getElem? (i := 333) (by decide +kernel), List.mem_of_getElem? (i := 395) (by decide +kernel), List.mem_of_getElem? (i := 396) (by decide +kernel)⟩
theorem lw_p28 : lw_okq (⟨"MixedNumbersModel", "nearestOf", "(JI)V"⟩, 14) := ⟨⟨by decide +kernel, by decide +kernel⟩, List.mem_of_getElem? (i := 333) (by decide +kernel), List.mem_of_getElem? (i := 403) (by decide +kernel), List.mem_of_getElem? (i := 404) (by decide +kernel)⟩
theorem lw_p29 : lw_okq (⟨"MixedNumbersModel", "nearest", "(JIZ)V"⟩, 14) := ⟨⟨by decide +kernel, by decide +kernel⟩, List.mem_of_getElem? (i := 333) (by decide +kernel), List.mem_of_getElem? (i := 408) (by decide +kernel), List.mem_of_getElem? (i := 409) (by decide +kernel)⟩
theorem lw_p30 : lw_okq (⟨"MixedNumbersModel", "plain", "(JI)V"⟩, 14) := ⟨⟨by decide +kernel, by decide +kernel⟩, List.mem_of_getElem? (i := 333) (by decide +kernel), List.mem_of_getElem? (i := 412) (by decide +kernel), List.mem_of_getElem? (i := 413) (by decide +kernel)⟩
theorem lw_p31 : lw_okq (⟨"MixedNumbersModel", "setSpecial", "(I)V"⟩, 14) := ⟨⟨by decide +kernel, by decide +kernel⟩, List.mem_of_getElem? (i := 333) (by decide +kernel), List.mem_of_getElem? (i := 416) (by decide +kernel), List.mem_of_getElem? (i := 417) (by decide +kernel)⟩
def lw_privs_2 : List (MethodName × Nat) := [(⟨"MixedNumbers", "divideOrRemainReal", "(I)V"⟩, 4), (⟨"MixedNumbers$Value", "roundDown", "()V"⟩, 3), (⟨"MixedNumbers$Value", "floor", "()J"⟩, 3), (⟨"MixedNumbers", "power", "()I"⟩, 4), (⟨"MixedNumbers$Value", "countsAsWhole", "()Z"⟩, 3), (⟨"MixedNumbers$Value", "asWhole", "()J"⟩, 3), (⟨"MixedNumbers", "raise", "(I)V"⟩, 4), (⟨"MixedNumbers", "combineBits", "(I)I"⟩, 4), (⟨"MixedNumbers", "applyToOne", "(I)I"⟩, 4), (⟨"MixedNumbers", "insert", "(II)V"⟩, 4), (⟨"MixedNumbersModel", "setWhole", "(J)V"⟩, 14), (⟨"MixedNumbersModel", "put", "(I)V"⟩, 14), (⟨"MixedNumbersModel", "nearestOf", "(JI)V"⟩, 14), (⟨"MixedNumbersModel", "nearest", "(JIZ)V"⟩, 14), (⟨"MixedNumbersModel", "plain", "(JI)V"⟩, 14), (⟨"MixedNumbersModel", "setSpecial", "(I)V"⟩, 14)]
theorem lw_r2 : ∀ q ∈ lw_privs_2, lw_okq q := List.forall_mem_cons.mpr ⟨lw_p16, List.forall_mem_cons.mpr ⟨lw_p17, List.forall_mem_cons.mpr ⟨lw_p18, List.forall_mem_cons.mpr ⟨lw_p19, List.forall_mem_cons.mpr ⟨lw_p20, List.forall_mem_cons.mpr ⟨lw_p21, List.forall_mem_cons.mpr ⟨lw_p22, List.forall_mem_cons.mpr ⟨lw_p23, List.forall_mem_cons.mpr ⟨lw_p24, List.forall_mem_cons.mpr ⟨lw_p25, List.forall_mem_cons.mpr ⟨lw_p26, List.forall_mem_cons.mpr ⟨lw_p27, List.forall_mem_cons.mpr ⟨lw_p28, List.forall_mem_cons.mpr ⟨lw_p29, List.forall_mem_cons.mpr ⟨lw_p30, List.forall_mem_cons.mpr ⟨lw_p31, fun _ h => absurd h List.not_mem_nil⟩⟩⟩⟩⟩⟩⟩⟩⟩⟩⟩⟩⟩⟩⟩⟩
theorem lw_p32 : lw_okq (⟨"MixedNumbersModel", "takeA", "(I)V"⟩, 14) := ⟨⟨by decide +kernel, by decide +kernel⟩, List.mem_of_getElem? (i := 333) (by decide +kernel), List.mem_of_getElem? (i := 431) (by decide +kernel), List.mem_of_getElem? (i := 432) (by decide +kernel)⟩
theorem lw_p33 : lw_okq (⟨"MixedNumbersModel", "takeB", "(I)V"⟩, 14) := ⟨⟨by decide +kernel, by decide +kernel⟩, List.mem_of_getElem? (i := 333) (by decide +kernel), List.mem_of_getElem? (i := 435) (by decide +kernel), List.mem_of_getElem? (i := 436) (by decide +kernel)⟩
theorem lw_p34 : lw_okq (⟨"MixedNumbersModel", "operation", "(I)I"⟩, 14) := ⟨⟨by decide +kernel, by decide +kernel⟩, List.mem_of_getElem? (i := 333) (by decide +kernel), List.mem_of_getElem? (i := 439) (by decide +kernel), List.mem_of_getElem? (i := 440) (by decide +kernel)⟩
theorem lw_p35 : lw_okq (⟨"MixedNumbersModel", "bitwise", "(I)I"⟩, 14) := ⟨⟨by decide +kernel, by decide +kernel⟩, List.mem_of_getElem? (i := 333) (by decide +kernel), List.mem_of_getElem? (i := 443) (by decide +kernel), List.mem_of_getElem? (i := 444) (by decide +kernel)⟩
theorem lw_p36 : lw_okq (⟨"MixedNumbersModel", "isWhole", "(IJI)Z"⟩, 14) := ⟨⟨by decide +kernel, by decide +kernel⟩, List.mem_of_getElem? (i := 333) (by decide +kernel), List.mem_of_getElem? (i := 447) (by decide +kernel), List.mem_of_getElem? (i := 448) (by decide +kernel)⟩
theorem lw_p37 : lw_okq (⟨"MixedNumbersModel", "wholeOf", "(IJI)J"⟩, 14) := ⟨⟨by decide +kernel, by decide +kernel⟩, List.mem_of_getElem? (i := 333) (by decide +kernel), List.mem_of_getElem? (i := 452) (by decide +kernel), List.mem_of_getElem? (i := 453) (by decide +kernel)⟩
theorem lw_p38 : lw_okq (⟨"MixedNumbersModel", "single", "(I)I"⟩, 14) := ⟨⟨by decide +kernel, by decide +kernel⟩, List.mem_of_getElem? (i := 333) (by decide +kernel), List.mem_of_getElem? (i := 461) (by decide +kernel), List.mem_of_getElem? (i := 462) (by decide +kernel)⟩
theorem lw_p39 : lw_okq (⟨"MixedNumbersModel", "negative", "()V"⟩, 14) := ⟨⟨by decide +kernel, by decide +kernel⟩, List.mem_of_getElem? (i := 333) (by decide +kernel), List.mem_of_getElem? (i := 465) (by decide +kernel), List.mem_of_getElem? (i := 466) (by decide +kernel)⟩
theorem lw_p40 : lw_okq (⟨"MixedNumbersModel", "floorOfA", "()V"⟩, 14) := ⟨⟨by decide +kernel, by decide +kernel⟩, List.mem_of_getElem? (i := 333) (by decide +kernel), List.mem_of_getElem? (i := 469) (by decide +kernel), List.mem_of_getElem? (i := 470) (by decide +kernel)⟩
theorem lw_p41 : lw_okq (⟨"MixedNumbersModel", "copyA", "()V"⟩, 14) := ⟨⟨by decide +kernel, by decide +kernel⟩, List.mem_of_getElem? (i := 333) (by decide +kernel), List.mem_of_getElem? (i := 473) (by decide +kernel), List.mem_of_getElem? (i := 474) (by decide +kernel)⟩
theorem lw_p42 : lw_okq (⟨"MixedNumbersModel", "roundDown", "()V"⟩, 14) := ⟨⟨by decide +kernel, by decide +kernel⟩, List.mem_of_getElem? (i := 333) (by decide +kernel), List.mem_of_getElem? (i := 477) (by decide +kernel), List.mem_of_getElem? (i := 478) (by decide +kernel)⟩
theorem lw_p43 : lw_okq (⟨"MixedNumbersModel", "realA", "()V"⟩, 14) := ⟨⟨by decide +kernel, by decide +kernel⟩, List.mem_of_getElem? (i := 333) (by decide +kernel), List.mem_of_getElem? (i := 481) (by decide +kernel), List.mem_of_getElem? (i := 482) (by decide +kernel)⟩
theorem lw_p44 : lw_okq (⟨"MixedNumbersModel", "resultToA", "()V"⟩, 14) := ⟨⟨by decide +kernel, by decide +kernel⟩, List.mem_of_getElem? (i := 333) (by decide +kernel), List.mem_of_getElem? (i := 485) (by decide +kernel), List.mem_of_getElem? (i := 486) (by decide +kernel)⟩
theorem lw_p45 : lw_okq (⟨"MixedNumbersModel", "wholes", "(I)I"⟩, 14) := ⟨⟨by decide +kernel, by decide +kernel⟩, List.mem_of_getElem? (i := 333) (by decide +kernel), List.mem_of_getElem? (i := 492) (by decide +kernel), List.mem_of_getElem? (i := 493) (by decide +kernel)⟩
theorem lw_p46 : lw_okq (⟨"MixedNumbersModel", "reals", "(I)I"⟩, 14) := ⟨⟨by decide +kernel, by decide +kernel⟩, List.mem_of_getElem? (i := 333) (by decide +kernel), List.mem_of_getElem? (i := 499) (by decide +kernel), List.mem_of_getElem? (i := 500) (by decide +kernel)⟩
theorem lw_p47 : lw_okq (⟨"MixedNumbersModel", "realB", "()V"⟩, 14) := ⟨⟨by decide +kernel, by decide +kernel⟩, List.mem_of_getElem? (i := 333) (by decide +kernel), List.mem_of_getElem? (i := 503) (by decide +kernel), List.mem_of_getElem? (i := 504) (by decide +kernel)⟩
def lw_privs_3 : List (MethodName × Nat) := [(⟨"MixedNumbersModel", "takeA", "(I)V"⟩, 14), (⟨"MixedNumbersModel", "takeB", "(I)V"⟩, 14), (⟨"MixedNumbersModel", "operation", "(I)I"⟩, 14), (⟨"MixedNumbersModel", "bitwise", "(I)I"⟩, 14), (⟨"MixedNumbersModel", "isWhole", "(IJI)Z"⟩, 14), (⟨"MixedNumbersModel", "wholeOf", "(IJI)J"⟩, 14), (⟨"MixedNumbersModel", "single", "(I)I"⟩, 14), (⟨"MixedNumbersModel", "negative", "()V"⟩, 14), (⟨"MixedNumbersModel", "floorOfA", "()V"⟩, 14), (⟨"MixedNumbersModel", "copyA", "()V"⟩, 14), (⟨"MixedNumbersModel", "roundDown", "()V"⟩, 14), (⟨"MixedNumbersModel", "realA", "()V"⟩, 14), (⟨"MixedNumbersModel", "resultToA", "()V"⟩, 14), (⟨"MixedNumbersModel", "wholes", "(I)I"⟩, 14), (⟨"MixedNumbersModel", "reals", "(I)I"⟩, 14), (⟨"MixedNumbersModel", "realB", "()V"⟩, 14)]
theorem lw_r3 : ∀ q ∈ lw_privs_3, lw_okq q := List.forall_mem_cons.mpr ⟨lw_p32, List.forall_mem_cons.mpr ⟨lw_p33, List.forall_mem_cons.mpr ⟨lw_p34, List.forall_mem_cons.mpr ⟨lw_p35, List.forall_mem_cons.mpr ⟨lw_p36, List.forall_mem_cons.mpr ⟨lw_p37, List.forall_mem_cons.mpr ⟨lw_p38, List.forall_mem_cons.mpr ⟨lw_p39, List.forall_mem_cons.mpr ⟨lw_p40, List.forall_mem_cons.mpr ⟨lw_p41, List.forall_mem_cons.mpr ⟨lw_p42, List.forall_mem_cons.mpr ⟨lw_p43, List.forall_mem_cons.mpr ⟨lw_p44, List.forall_mem_cons.mpr ⟨lw_p45, List.forall_mem_cons.mpr ⟨lw_p46, List.forall_mem_cons.mpr ⟨lw_p47, fun _ h => absurd h List.not_mem_nil⟩⟩⟩⟩⟩⟩⟩⟩⟩⟩⟩⟩⟩⟩⟩⟩
theorem lw_p48 : lw_okq (⟨"MixedNumbersModel", "resultToB", "()V"⟩, 14) := ⟨⟨by decide +kernel, by decide +kernel⟩, List.mem_of_getElem? (i := 333) (by decide +kernel), List.mem_of_getElem? (i := 507) (by decide +kernel), List.mem_of_getElem? (i := 508) (by decide +kernel)⟩
theorem lw_p49 : lw_okq (⟨"MixedNumbersModel", "add", "()V"⟩, 14) := ⟨⟨by decide +kernel, by decide +kernel⟩, List.mem_of_getElem? (i := 333) (by decide +kernel), List.mem_of_getElem? (i := 511) (by decide +kernel), List.mem_of_getElem? (i := 512) (by decide +kernel)⟩
theorem lw_p50 : lw_okq (⟨"MixedNumbersModel", "addNumbers", "()V"⟩, 14) := ⟨⟨by decide +kernel, by decide +kernel⟩, List.mem_of_getElem? (i := 333) (by decide +kernel), List.mem_of_getElem? (i := 518) (by decide +kernel), List.mem_of_getElem? (i := 519) (by decide +kernel)⟩
theorem lw_p51 : lw_okq (⟨"MixedNumbersModel", "turnB", "()V"⟩, 14) := ⟨⟨by decide +kernel, by decide +kernel⟩, List.mem_of_getElem? (i := 333) (by decide +kernel), List.mem_of_getElem? (i := 528) (by decide +kernel), List.mem_of_getElem? (i := 529) (by decide +kernel)⟩
theorem lw_p52 : lw_okq (⟨"MixedNumbersModel", "multiply", "()V"⟩, 14) := ⟨⟨by decide +kernel, by decide +kernel⟩, List.mem_of_getElem? (i := 333) (by decide +kernel), List.mem_of_getElem? (i := 532) (by decide +kernel), List.mem_of_getElem? (i := 533) (by decide +kernel)⟩
theorem lw_p53 : lw_okq (⟨"MixedNumbersModel", "product", "(JJ)V"⟩, 14) := ⟨⟨by decide +kernel, by decide +kernel⟩, List.mem_of_getElem? (i := 333) (by decide +kernel), List.mem_of_getElem? (i := 536) (by decide +kernel), List.mem_of_getElem? (i := 537) (by decide +kernel)⟩
theorem lw_p54 : lw_okq (⟨"MixedNumbersModel", "divide", "()V"⟩, 14) := ⟨⟨by decide +kernel, by decide +kernel⟩, List.mem_of_getElem? (i := 333) (by decide +kernel), List.mem_of_getElem? (i := 541) (by decide +kernel), List.mem_of_getElem? (i := 542) (by decide +kernel)⟩
theorem lw_p55 : lw_okq (⟨"MixedNumbersModel", "quotientBits", "(JJ)V"⟩, 14) := ⟨⟨by decide +kernel, by decide +kernel⟩, List.mem_of_getElem? (i := 333) (by decide +kernel), List.mem_of_getElem? (i := 545) (by decide +kernel), List.mem_of_getElem? (i := 546) (by decide +kernel)⟩
theorem lw_p56 : lw_okq (⟨"MixedNumbersModel", "remainder", "()V"⟩, 14) := ⟨⟨by decide +kernel, by decide +kernel⟩, List.mem_of_getElem? (i := 333) (by decide +kernel), List.mem_of_getElem? (i := 549) (by decide +kernel), List.mem_of_getElem? (i := 550) (by decide +kernel)⟩
theorem lw_p57 : lw_okq (⟨"MixedNumbersModel", "restOfSizes", "()V"⟩, 14) := ⟨⟨by decide +kernel, by decide +kernel⟩, List.mem_of_getElem? (i := 333) (by decide +kernel), List.mem_of_getElem? (i := 553) (by decide +kernel), List.mem_of_getElem? (i := 554) (by decide +kernel)⟩
theorem lw_p58 : lw_okq (⟨"MixedNumbersModel", "power", "()I"⟩, 14) := ⟨⟨by decide +kernel, by decide +kernel⟩, List.mem_of_getElem? (i := 333) (by decide +kernel), List.mem_of_getElem? (i := 558) (by decide +kernel), List.mem_of_getElem? (i := 559) (by decide +kernel)⟩
theorem lw_p59 : lw_okq (⟨"MixedNumbersModel", "isEqual", "()Z"⟩, 14) := ⟨⟨by decide +kernel, by decide +kernel⟩, List.mem_of_getElem? (i := 333) (by decide +kernel), List.mem_of_getElem? (i := 568) (by decide +kernel), List.mem_of_getElem? (i := 569) (by decide +kernel)⟩
theorem lw_p60 : lw_okq (⟨"MixedNumbersModel", "isLess", "(Z)Z"⟩, 14) := ⟨⟨by decide +kernel, by decide +kernel⟩, List.mem_of_getElem? (i := 333) (by decide +kernel), List.mem_of_getElem? (i := 572) (by decide +kernel), List.mem_of_getElem? (i := 573) (by decide +kernel)⟩
theorem lw_p61 : lw_okq (⟨"MixedNumbersModel", "isWholeLess", "(JJIZ)Z"⟩, 14) := ⟨⟨by decide +kernel, by decide +kernel⟩, List.mem_of_getElem? (i := 333) (by decide +kernel), List.mem_of_getElem? (i := 576) (by decide +kernel), List.mem_of_getElem? (i := 577) (by decide +kernel)⟩
theorem lw_p62 : lw_okq (⟨"MixedNumbersModel", "isRealLess", "(Z)Z"⟩, 14) := ⟨⟨by decide +kernel, by decide +kernel⟩, List.mem_of_getElem? (i := 333) (by decide +kernel), List.mem_of_getElem? (i := 580) (by decide +kernel), List.mem_of_getElem? (i := 581) (by decide +kernel)⟩
theorem lw_p63 : lw_okq (⟨"MixedNumbersModel", "isBefore", "(II)Z"⟩, 14) := ⟨⟨by decide +kernel, by decide +kernel⟩, List.mem_of_getElem? (i := 333) (by decide +kernel), List.mem_of_getElem? (i := 611) (by decide +kernel), List.mem_of_getElem? (i := 612) (by decide +kernel)⟩
def lw_privs_4 : List (MethodName × Nat) := [(⟨"MixedNumbersModel", "resultToB", "()V"⟩, 14), (⟨"MixedNumbersModel", "add", "()V"⟩, 14), (⟨"MixedNumbersModel", "addNumbers", "()V"⟩, 14), (⟨"MixedNumbersModel", "turnB", "()V"⟩, 14), (⟨"MixedNumbersModel", "multiply", "()V"⟩, 14), (⟨"MixedNumbersModel", "product", "(JJ)V"⟩, 14), (⟨"MixedNumbersModel", "divide", "()V"⟩, 14), (⟨"MixedNumbersModel", "quotientBits", "(JJ)V"⟩, 14), (⟨"MixedNumbersModel", "remainder", "()V"⟩, 14), (⟨"MixedNumbersModel", "restOfSizes", "()V"⟩, 14), (⟨"MixedNumbersModel", "power", "()I"⟩, 14), (⟨"MixedNumbersModel", "isEqual", "()Z"⟩, 14), (⟨"MixedNumbersModel", "isLess", "(Z)Z"⟩, 14), (⟨"MixedNumbersModel", "isWholeLess", "(JJIZ)Z"⟩, 14), (⟨"MixedNumbersModel", "isRealLess", "(Z)Z"⟩, 14), (⟨"MixedNumbersModel", "isBefore", "(II)Z"⟩, 14)]
theorem lw_r4 : ∀ q ∈ lw_privs_4, lw_okq q := List.forall_mem_cons.mpr ⟨lw_p48, List.forall_mem_cons.mpr ⟨lw_p49, List.forall_mem_cons.mpr ⟨lw_p50, List.forall_mem_cons.mpr ⟨lw_p51, List.forall_mem_cons.mpr ⟨lw_p52, List.forall_mem_cons.mpr ⟨lw_p53, List.forall_mem_cons.mpr ⟨lw_p54, List.forall_mem_cons.mpr ⟨lw_p55, List.forall_mem_cons.mpr ⟨lw_p56, List.forall_mem_cons.mpr ⟨lw_p57, List.forall_mem_cons.mpr ⟨lw_p58, List.forall_mem_cons.mpr ⟨lw_p59, List.forall_mem_cons.mpr ⟨lw_p60, List.forall_mem_cons.mpr ⟨lw_p61, List.forall_mem_cons.mpr ⟨lw_p62, List.forall_mem_cons.mpr ⟨lw_p63, fun _ h => absurd h List.not_mem_nil⟩⟩⟩⟩⟩⟩⟩⟩⟩⟩⟩⟩⟩⟩⟩⟩
theorem lw_p64 : lw_okq (⟨"MixedNumbersModel", "exchange", "(II)V"⟩, 14) := ⟨⟨by decide +kernel, by decide +kernel⟩, List.mem_of_getElem? (i := 333) (by decide +kernel), List.mem_of_getElem? (i := 616) (by decide +kernel), List.mem_of_getElem? (i := 617) (by decide +kernel)⟩
def lw_privs_5 : List (MethodName × Nat) := [(⟨"MixedNumbersModel", "exchange", "(II)V"⟩, 14)]
theorem lw_r5 : ∀ q ∈ lw_privs_5, lw_okq q := List.forall_mem_cons.mpr ⟨lw_p64, fun _ h => absurd h List.not_mem_nil⟩
def lw_privs : List (MethodName × Nat) := lw_privs_1 ++ (lw_privs_2 ++ (lw_privs_3 ++ (lw_privs_4 ++ (lw_privs_5))))
def lw_tbl : List Cond := k2_sels lw_privs ++ tables_1
theorem lw_privs_ok : ∀ q ∈ lw_privs, lw_okq q := by
  show ∀ q ∈ lw_privs_1 ++ (lw_privs_2 ++ (lw_privs_3 ++ (lw_privs_4 ++ (lw_privs_5)))), lw_okq q
  exact List.forall_mem_append.mpr ⟨lw_r1, List.forall_mem_append.mpr ⟨lw_r2, List.forall_mem_append.mpr ⟨lw_r3, List.forall_mem_append.mpr ⟨lw_r4, lw_r5⟩⟩⟩⟩
def RN : String := "MixedNumbers"
def RV : String := "MixedNumbers$Value"
def RR : String := "MixedNumbers$Reals"
def RO : String := "MixedNumbers$Order"
def RM : String := "MixedNumbersModel"
def RL : String := "MixedNumbersLaw"
def RJI : String := "java/lang/Integer"
def RJL : String := "java/lang/Long"
def RJM : String := "java/lang/Math"
def TV : u_T := fun k => match k with
  | 0 => ("MixedNumbers$Value", "kind", "I", false)
  | 1 => ("MixedNumbers$Value", "number", "J", false)
  | _ => ("MixedNumbers$Value", "exponent", "I", false)
def tyV : Nat → FieldType := fun k => match k with
  | 0 => .int
  | 1 => .long
  | _ => .int
abbrev uwsV : List Cond := u_ws RV TV 3
theorem nmV : ∀ a, a < 3 → ∀ b, b < 3 → a ≠ b → (TV a).2.1 ≠ (TV b).2.1 := by decide +kernel
theorem tyV_ok : ∀ k, k < 3 → parseFieldDescriptor (TV k).2.2.1 = some (tyV k) := by decide +kernel
def TN : u_T := fun k => match k with
  | 0 => ("MixedNumbers", "registers", "[LMixedNumbers$Value;", true)
  | 1 => ("MixedNumbers", "first", "LMixedNumbers$Value;", true)
  | 2 => ("MixedNumbers", "second", "LMixedNumbers$Value;", true)
  | _ => ("MixedNumbers", "spare", "LMixedNumbers$Value;", true)
def tyN : Nat → FieldType := fun k => match k with
  | 0 => .array (.object "MixedNumbers$Value")
  | 1 => .object "MixedNumbers$Value"
  | 2 => .object "MixedNumbers$Value"
  | _ => .object "MixedNumbers$Value"
abbrev uwsN : List Cond := u_ws RN TN 4
theorem nmN : ∀ a, a < 4 → ∀ b, b < 4 → a ≠ b → (TN a).2.1 ≠ (TN b).2.1 := by decide +kernel
theorem tyN_ok : ∀ k, k < 4 → parseFieldDescriptor (TN k).2.2.1 = some (tyN k) := by decide +kernel
def TM : u_T := fun k => match k with
  | 0 => ("MixedNumbersModel", "kinds", "[I", true)
  | 1 => ("MixedNumbersModel", "numbers", "[J", true)
  | 2 => ("MixedNumbersModel", "exponents", "[I", true)
  | 3 => ("MixedNumbersModel", "ka", "I", false)
  | 4 => ("MixedNumbersModel", "na", "J", false)
  | 5 => ("MixedNumbersModel", "ea", "I", false)
  | 6 => ("MixedNumbersModel", "kb", "I", false)
  | 7 => ("MixedNumbersModel", "nb", "J", false)
  | 8 => ("MixedNumbersModel", "eb", "I", false)
  | 9 => ("MixedNumbersModel", "k", "I", false)
  | 10 => ("MixedNumbersModel", "n", "J", false)
  | 11 => ("MixedNumbersModel", "e", "I", false)
  | 12 => ("MixedNumbersModel", "bits", "J", false)
  | _ => ("MixedNumbersModel", "scale", "I", false)
def tyM : Nat → FieldType := fun k => match k with
  | 0 => .array .int
  | 1 => .array .long
  | 2 => .array .int
  | 3 => .int
  | 4 => .long
  | 5 => .int
  | 6 => .int
  | 7 => .long
  | 8 => .int
  | 9 => .int
  | 10 => .long
  | 11 => .int
  | 12 => .long
  | _ => .int
abbrev uwsM : List Cond := u_ws RM TM 14
theorem nmM : ∀ a, a < 14 → ∀ b, b < 14 → a ≠ b → (TM a).2.1 ≠ (TM b).2.1 := by decide +kernel
theorem tyM_ok : ∀ k, k < 14 → parseFieldDescriptor (TM k).2.2.1 = some (tyM k) := by decide +kernel
abbrev vwCl : List vw_C := [(RV, TV, 3), (RN, TN, 4), (RM, TM, 14)]
abbrev bN_init : ByteArray := prog_1_method_1_code
def yN_init : MethodName := ⟨RN, "<init>", "()V"⟩
abbrev bV_init : ByteArray := prog_4_method_1_code
def yV_init : MethodName := ⟨RV, "<init>", "()V"⟩
abbrev bN_whole : ByteArray := prog_1_method_2_code
def yN_whole : MethodName := ⟨RN, "whole", "(IJ)Z"⟩
abbrev bN_isRegister : ByteArray := prog_1_method_13_code
def yN_isRegister : MethodName := ⟨RN, "isRegister", "(I)Z"⟩
abbrev bV_setWhole : ByteArray := prog_4_method_3_code
def yV_setWhole : MethodName := ⟨RV, "setWhole", "(J)V"⟩
abbrev bN_real : ByteArray := prog_1_method_3_code
def yN_real : MethodName := ⟨RN, "real", "(IJI)Z"⟩
abbrev bV_setReal : ByteArray := prog_4_method_7_code
def yV_setReal : MethodName := ⟨RV, "setReal", "(JI)V"⟩
abbrev bV_sizeOf : ByteArray := prog_4_method_19_code
def yV_sizeOf : MethodName := ⟨RV, "sizeOf", "(J)J"⟩
abbrev bV_setNearest : ByteArray := prog_4_method_8_code
def yV_setNearest : MethodName := ⟨RV, "setNearest", "(ZJZI)V"⟩
abbrev bJL_numberOfLeadingZeros : ByteArray := prog_8_method_48_code
def yJL_numberOfLeadingZeros : MethodName := ⟨RJL, "numberOfLeadingZeros", "(J)I"⟩
abbrev bJI_numberOfLeadingZeros : ByteArray := prog_7_method_47_code
def yJI_numberOfLeadingZeros : MethodName := ⟨RJI, "numberOfLeadingZeros", "(I)I"⟩
abbrev bJM_max : ByteArray := prog_9_method_65_code
def yJM_max : MethodName := ⟨RJM, "max", "(II)I"⟩
abbrev bV_dropBits : ByteArray := prog_4_method_9_code
def yV_dropBits : MethodName := ⟨RV, "dropBits", "(JZI)J"⟩
abbrev bV_setZero : ByteArray := prog_4_method_6_code
def yV_setZero : MethodName := ⟨RV, "setZero", "()V"⟩
abbrev bV_setInfinity : ByteArray := prog_4_method_5_code
def yV_setInfinity : MethodName := ⟨RV, "setInfinity", "(Z)V"⟩
abbrev bJL_numberOfTrailingZeros : ByteArray := prog_8_method_49_code
def yJL_numberOfTrailingZeros : MethodName := ⟨RJL, "numberOfTrailingZeros", "(J)I"⟩
abbrev bJI_numberOfTrailingZeros : ByteArray := prog_7_method_48_code
def yJI_numberOfTrailingZeros : MethodName := ⟨RJI, "numberOfTrailingZeros", "(I)I"⟩
abbrev bJM_min : ByteArray := prog_9_method_69_code
def yJM_min : MethodName := ⟨RJM, "min", "(II)I"⟩
abbrev bV_become : ByteArray := prog_4_method_2_code
def yV_become : MethodName := ⟨RV, "become", "(LMixedNumbers$Value;)V"⟩
abbrev bN_special : ByteArray := prog_1_method_4_code
def yN_special : MethodName := ⟨RN, "special", "(II)Z"⟩
abbrev bV_setSpecial : ByteArray := prog_4_method_4_code
def yV_setSpecial : MethodName := ⟨RV, "setSpecial", "(I)V"⟩
abbrev bN_operate : ByteArray := prog_1_method_5_code
def yN_operate : MethodName := ⟨RN, "operate", "(IIII)I"⟩
abbrev bN_addOrMultiply : ByteArray := prog_1_method_18_code
def yN_addOrMultiply : MethodName := ⟨RN, "addOrMultiply", "(I)I"⟩
abbrev bN_areWhole : ByteArray := prog_1_method_16_code
def yN_areWhole : MethodName := ⟨RN, "areWhole", "()Z"⟩
abbrev bN_makeReals : ByteArray := prog_1_method_17_code
def yN_makeReals : MethodName := ⟨RN, "makeReals", "()V"⟩
abbrev bV_turnReal : ByteArray := prog_4_method_10_code
def yV_turnReal : MethodName := ⟨RV, "turnReal", "()V"⟩
abbrev bV_size : ByteArray := prog_4_method_18_code
def yV_size : MethodName := ⟨RV, "size", "()J"⟩
abbrev bR_multiply : ByteArray := prog_3_method_5_code
def yR_multiply : MethodName := ⟨RR, "multiply", "(LMixedNumbers$Value;LMixedNumbers$Value;)V"⟩
abbrev bR_hasNoNumber : ByteArray := prog_3_method_2_code
def yR_hasNoNumber : MethodName := ⟨RR, "hasNoNumber", "(LMixedNumbers$Value;LMixedNumbers$Value;)Z"⟩
abbrev bV_sign : ByteArray := prog_4_method_16_code
def yV_sign : MethodName := ⟨RV, "sign", "()I"⟩
abbrev bV_isInfinite : ByteArray := prog_4_method_17_code
def yV_isInfinite : MethodName := ⟨RV, "isInfinite", "()Z"⟩
abbrev bJL_signum : ByteArray := prog_8_method_57_code
def yJL_signum : MethodName := ⟨RJL, "signum", "(J)I"⟩
abbrev bR_multiplyFinite : ByteArray := prog_3_method_6_code
def yR_multiplyFinite : MethodName := ⟨RR, "multiplyFinite", "(LMixedNumbers$Value;LMixedNumbers$Value;Z)V"⟩
abbrev bV_negate : ByteArray := prog_4_method_11_code
def yV_negate : MethodName := ⟨RV, "negate", "()V"⟩
abbrev bR_add : ByteArray := prog_3_method_3_code
def yR_add : MethodName := ⟨RR, "add", "(LMixedNumbers$Value;LMixedNumbers$Value;)V"⟩
abbrev bO_ofSizes : ByteArray := prog_2_method_7_code
def yO_ofSizes : MethodName := ⟨RO, "ofSizes", "(LMixedNumbers$Value;LMixedNumbers$Value;)I"⟩
abbrev bJI_compare : ByteArray := prog_7_method_40_code
def yJI_compare : MethodName := ⟨RJI, "compare", "(II)I"⟩
abbrev bJL_compare : ByteArray := prog_8_method_42_code
def yJL_compare : MethodName := ⟨RJL, "compare", "(JJ)I"⟩
abbrev bR_addSmaller : ByteArray := prog_3_method_4_code
def yR_addSmaller : MethodName := ⟨RR, "addSmaller", "(LMixedNumbers$Value;LMixedNumbers$Value;LMixedNumbers$Value;)V"⟩
abbrev bN_divideOrRemain : ByteArray := prog_1_method_19_code
def yN_divideOrRemain : MethodName := ⟨RN, "divideOrRemain", "(I)I"⟩
abbrev bN_divideOrRemainReal : ByteArray := prog_1_method_20_code
def yN_divideOrRemainReal : MethodName := ⟨RN, "divideOrRemainReal", "(I)V"⟩
abbrev bR_remainder : ByteArray := prog_3_method_10_code
def yR_remainder : MethodName := ⟨RR, "remainder", "(LMixedNumbers$Value;LMixedNumbers$Value;)V"⟩
abbrev bR_remainderOfSizes : ByteArray := prog_3_method_11_code
def yR_remainderOfSizes : MethodName := ⟨RR, "remainderOfSizes", "(LMixedNumbers$Value;LMixedNumbers$Value;)V"⟩
abbrev bR_remainderAbove : ByteArray := prog_3_method_12_code
def yR_remainderAbove : MethodName := ⟨RR, "remainderAbove", "(JIJ)J"⟩
abbrev bR_divide : ByteArray := prog_3_method_7_code
def yR_divide : MethodName := ⟨RR, "divide", "(LMixedNumbers$Value;LMixedNumbers$Value;)V"⟩
abbrev bR_divideByZero : ByteArray := prog_3_method_8_code
def yR_divideByZero : MethodName := ⟨RR, "divideByZero", "(LMixedNumbers$Value;)V"⟩
abbrev bR_divideFinite : ByteArray := prog_3_method_9_code
def yR_divideFinite : MethodName := ⟨RR, "divideFinite", "(LMixedNumbers$Value;LMixedNumbers$Value;)V"⟩
abbrev bV_roundDown : ByteArray := prog_4_method_12_code
def yV_roundDown : MethodName := ⟨RV, "roundDown", "()V"⟩
abbrev bV_floor : ByteArray := prog_4_method_13_code
def yV_floor : MethodName := ⟨RV, "floor", "()J"⟩
abbrev bJM_floorDiv : ByteArray := prog_9_method_49_code
def yJM_floorDiv : MethodName := ⟨RJM, "floorDiv", "(JJ)J"⟩
abbrev bJM_floorMod : ByteArray := prog_9_method_52_code
def yJM_floorMod : MethodName := ⟨RJM, "floorMod", "(JJ)J"⟩
abbrev bN_power : ByteArray := prog_1_method_21_code
def yN_power : MethodName := ⟨RN, "power", "()I"⟩
abbrev bV_countsAsWhole : ByteArray := prog_4_method_14_code
def yV_countsAsWhole : MethodName := ⟨RV, "countsAsWhole", "()Z"⟩
abbrev bV_asWhole : ByteArray := prog_4_method_15_code
def yV_asWhole : MethodName := ⟨RV, "asWhole", "()J"⟩
abbrev bN_raise : ByteArray := prog_1_method_22_code
def yN_raise : MethodName := ⟨RN, "raise", "(I)V"⟩
abbrev bN_combineBits : ByteArray := prog_1_method_23_code
def yN_combineBits : MethodName := ⟨RN, "combineBits", "(I)I"⟩
abbrev bN_shiftLeft : ByteArray := prog_1_method_24_code
def yN_shiftLeft : MethodName := ⟨RN, "shiftLeft", "(JJ)J"⟩
abbrev bN_applyToOne : ByteArray := prog_1_method_25_code
def yN_applyToOne : MethodName := ⟨RN, "applyToOne", "(I)I"⟩
abbrev bN_compare : ByteArray := prog_1_method_6_code
def yN_compare : MethodName := ⟨RN, "compare", "(III)I"⟩
abbrev bO_of : ByteArray := prog_2_method_3_code
def yO_of : MethodName := ⟨RO, "of", "(LMixedNumbers$Value;LMixedNumbers$Value;)I"⟩
abbrev bO_infinityOf : ByteArray := prog_2_method_4_code
def yO_infinityOf : MethodName := ⟨RO, "infinityOf", "(LMixedNumbers$Value;)I"⟩
abbrev bO_ofWhole : ByteArray := prog_2_method_5_code
def yO_ofWhole : MethodName := ⟨RO, "ofWhole", "(JLMixedNumbers$Value;)I"⟩
abbrev bO_ofReals : ByteArray := prog_2_method_6_code
def yO_ofReals : MethodName := ⟨RO, "ofReals", "(LMixedNumbers$Value;LMixedNumbers$Value;)I"⟩
abbrev bN_kind : ByteArray := prog_1_method_7_code
def yN_kind : MethodName := ⟨RN, "kind", "(I)I"⟩
abbrev bN_number : ByteArray := prog_1_method_8_code
def yN_number : MethodName := ⟨RN, "number", "(I)J"⟩
abbrev bN_exponent : ByteArray := prog_1_method_9_code
def yN_exponent : MethodName := ⟨RN, "exponent", "(I)I"⟩
abbrev bN_sum : ByteArray := prog_1_method_10_code
def yN_sum : MethodName := ⟨RN, "sum", "(III)Z"⟩
abbrev bN_isRow : ByteArray := prog_1_method_14_code
def yN_isRow : MethodName := ⟨RN, "isRow", "(II)Z"⟩
abbrev bN_polynomial : ByteArray := prog_1_method_11_code
def yN_polynomial : MethodName := ⟨RN, "polynomial", "(IIII)Z"⟩
abbrev bN_sort : ByteArray := prog_1_method_12_code
def yN_sort : MethodName := ⟨RN, "sort", "(II)Z"⟩
abbrev bN_insert : ByteArray := prog_1_method_15_code
def yN_insert : MethodName := ⟨RN, "insert", "(II)V"⟩
abbrev bO_goesBefore : ByteArray := prog_2_method_2_code
def yO_goesBefore : MethodName := ⟨RO, "goesBefore", "(LMixedNumbers$Value;LMixedNumbers$Value;)Z"⟩
abbrev bM_init : ByteArray := prog_6_method_1_code
def yM_init : MethodName := ⟨RM, "<init>", "()V"⟩
abbrev bM_whole : ByteArray := prog_6_method_47_code
def yM_whole : MethodName := ⟨RM, "whole", "(IJ)Z"⟩
abbrev bM_isRegister : ByteArray := prog_6_method_46_code
def yM_isRegister : MethodName := ⟨RM, "isRegister", "(I)Z"⟩
abbrev bM_setWhole : ByteArray := prog_6_method_2_code
def yM_setWhole : MethodName := ⟨RM, "setWhole", "(J)V"⟩
abbrev bM_put : ByteArray := prog_6_method_12_code
def yM_put : MethodName := ⟨RM, "put", "(I)V"⟩
abbrev bM_real : ByteArray := prog_6_method_48_code
def yM_real : MethodName := ⟨RM, "real", "(IJI)Z"⟩
abbrev bM_nearestOf : ByteArray := prog_6_method_7_code
def yM_nearestOf : MethodName := ⟨RM, "nearestOf", "(JI)V"⟩
abbrev bM_nearest : ByteArray := prog_6_method_5_code
def yM_nearest : MethodName := ⟨RM, "nearest", "(JIZ)V"⟩
abbrev bM_plain : ByteArray := prog_6_method_4_code
def yM_plain : MethodName := ⟨RM, "plain", "(JI)V"⟩
abbrev bM_setSpecial : ByteArray := prog_6_method_3_code
def yM_setSpecial : MethodName := ⟨RM, "setSpecial", "(I)V"⟩
abbrev bM_size : ByteArray := prog_6_method_6_code
def yM_size : MethodName := ⟨RM, "size", "(J)J"⟩
abbrev bM_special : ByteArray := prog_6_method_49_code
def yM_special : MethodName := ⟨RM, "special", "(II)Z"⟩
abbrev bM_operate : ByteArray := prog_6_method_50_code
def yM_operate : MethodName := ⟨RM, "operate", "(IIII)I"⟩
abbrev bM_takeA : ByteArray := prog_6_method_8_code
def yM_takeA : MethodName := ⟨RM, "takeA", "(I)V"⟩
abbrev bM_takeB : ByteArray := prog_6_method_9_code
def yM_takeB : MethodName := ⟨RM, "takeB", "(I)V"⟩
abbrev bM_operation : ByteArray := prog_6_method_41_code
def yM_operation : MethodName := ⟨RM, "operation", "(I)I"⟩
abbrev bM_bitwise : ByteArray := prog_6_method_32_code
def yM_bitwise : MethodName := ⟨RM, "bitwise", "(I)I"⟩
abbrev bM_isWhole : ByteArray := prog_6_method_29_code
def yM_isWhole : MethodName := ⟨RM, "isWhole", "(IJI)Z"⟩
abbrev bM_wholeOf : ByteArray := prog_6_method_30_code
def yM_wholeOf : MethodName := ⟨RM, "wholeOf", "(IJI)J"⟩
abbrev bM_shifted : ByteArray := prog_6_method_31_code
def yM_shifted : MethodName := ⟨RM, "shifted", "(JJ)J"⟩
abbrev bM_single : ByteArray := prog_6_method_40_code
def yM_single : MethodName := ⟨RM, "single", "(I)I"⟩
abbrev bM_negative : ByteArray := prog_6_method_37_code
def yM_negative : MethodName := ⟨RM, "negative", "()V"⟩
abbrev bM_floorOfA : ByteArray := prog_6_method_39_code
def yM_floorOfA : MethodName := ⟨RM, "floorOfA", "()V"⟩
abbrev bM_copyA : ByteArray := prog_6_method_38_code
def yM_copyA : MethodName := ⟨RM, "copyA", "()V"⟩
abbrev bM_roundDown : ByteArray := prog_6_method_25_code
def yM_roundDown : MethodName := ⟨RM, "roundDown", "()V"⟩
abbrev bM_realA : ByteArray := prog_6_method_13_code
def yM_realA : MethodName := ⟨RM, "realA", "()V"⟩
abbrev bM_resultToA : ByteArray := prog_6_method_10_code
def yM_resultToA : MethodName := ⟨RM, "resultToA", "()V"⟩
abbrev bM_signOf : ByteArray := prog_6_method_15_code
def yM_signOf : MethodName := ⟨RM, "signOf", "(IJ)I"⟩
abbrev bM_wholes : ByteArray := prog_6_method_33_code
def yM_wholes : MethodName := ⟨RM, "wholes", "(I)I"⟩
abbrev bM_floorQuotient : ByteArray := prog_6_method_28_code
def yM_floorQuotient : MethodName := ⟨RM, "floorQuotient", "(JJ)J"⟩
abbrev bM_reals : ByteArray := prog_6_method_35_code
def yM_reals : MethodName := ⟨RM, "reals", "(I)I"⟩
abbrev bM_realB : ByteArray := prog_6_method_14_code
def yM_realB : MethodName := ⟨RM, "realB", "()V"⟩
abbrev bM_resultToB : ByteArray := prog_6_method_11_code
def yM_resultToB : MethodName := ⟨RM, "resultToB", "()V"⟩
abbrev bM_add : ByteArray := prog_6_method_20_code
def yM_add : MethodName := ⟨RM, "add", "()V"⟩
abbrev bM_isGreat : ByteArray := prog_6_method_16_code
def yM_isGreat : MethodName := ⟨RM, "isGreat", "(I)Z"⟩
abbrev bM_addNumbers : ByteArray := prog_6_method_19_code
def yM_addNumbers : MethodName := ⟨RM, "addNumbers", "()V"⟩
abbrev bM_room : ByteArray := prog_6_method_17_code
def yM_room : MethodName := ⟨RM, "room", "(J)I"⟩
abbrev bM_down : ByteArray := prog_6_method_18_code
def yM_down : MethodName := ⟨RM, "down", "(JI)J"⟩
abbrev bM_turnB : ByteArray := prog_6_method_34_code
def yM_turnB : MethodName := ⟨RM, "turnB", "()V"⟩
abbrev bM_multiply : ByteArray := prog_6_method_22_code
def yM_multiply : MethodName := ⟨RM, "multiply", "()V"⟩
abbrev bM_product : ByteArray := prog_6_method_21_code
def yM_product : MethodName := ⟨RM, "product", "(JJ)V"⟩
abbrev bM_divide : ByteArray := prog_6_method_24_code
def yM_divide : MethodName := ⟨RM, "divide", "()V"⟩
abbrev bM_quotientBits : ByteArray := prog_6_method_23_code
def yM_quotientBits : MethodName := ⟨RM, "quotientBits", "(JJ)V"⟩
abbrev bM_remainder : ByteArray := prog_6_method_27_code
def yM_remainder : MethodName := ⟨RM, "remainder", "()V"⟩
abbrev bM_restOfSizes : ByteArray := prog_6_method_26_code
def yM_restOfSizes : MethodName := ⟨RM, "restOfSizes", "()V"⟩
abbrev bM_power : ByteArray := prog_6_method_36_code
def yM_power : MethodName := ⟨RM, "power", "()I"⟩
abbrev bM_compare : ByteArray := prog_6_method_51_code
def yM_compare : MethodName := ⟨RM, "compare", "(III)I"⟩
abbrev bM_isEqual : ByteArray := prog_6_method_45_code
def yM_isEqual : MethodName := ⟨RM, "isEqual", "()Z"⟩
abbrev bM_isLess : ByteArray := prog_6_method_44_code
def yM_isLess : MethodName := ⟨RM, "isLess", "(Z)Z"⟩
abbrev bM_isWholeLess : ByteArray := prog_6_method_42_code
def yM_isWholeLess : MethodName := ⟨RM, "isWholeLess", "(JJIZ)Z"⟩
abbrev bM_isRealLess : ByteArray := prog_6_method_43_code
def yM_isRealLess : MethodName := ⟨RM, "isRealLess", "(Z)Z"⟩
abbrev bM_kind : ByteArray := prog_6_method_52_code
def yM_kind : MethodName := ⟨RM, "kind", "(I)I"⟩
abbrev bM_number : ByteArray := prog_6_method_53_code
def yM_number : MethodName := ⟨RM, "number", "(I)J"⟩
abbrev bM_exponent : ByteArray := prog_6_method_54_code
def yM_exponent : MethodName := ⟨RM, "exponent", "(I)I"⟩
abbrev bM_sum : ByteArray := prog_6_method_56_code
def yM_sum : MethodName := ⟨RM, "sum", "(III)Z"⟩
abbrev bM_areRegisters : ByteArray := prog_6_method_55_code
def yM_areRegisters : MethodName := ⟨RM, "areRegisters", "(II)Z"⟩
abbrev bM_polynomial : ByteArray := prog_6_method_57_code
def yM_polynomial : MethodName := ⟨RM, "polynomial", "(IIII)Z"⟩
abbrev bM_sort : ByteArray := prog_6_method_60_code
def yM_sort : MethodName := ⟨RM, "sort", "(II)Z"⟩
abbrev bM_isBefore : ByteArray := prog_6_method_58_code
def yM_isBefore : MethodName := ⟨RM, "isBefore", "(II)Z"⟩
abbrev bM_exchange : ByteArray := prog_6_method_59_code
def yM_exchange : MethodName := ⟨RM, "exchange", "(II)V"⟩
abbrev bL_law : ByteArray := code
def yL_law : MethodName := ⟨RL, "law", "([I)Z"⟩
def zBig : List Cond := lw_tbl.filter goodWord
abbrev wsN_init : List Cond := Cond.code yN_init bN_init 2 none :: zBig
abbrev wsV_init : List Cond := Cond.code yV_init bV_init 1 none :: zBig
abbrev wsN_whole : List Cond := Cond.code yN_whole bN_whole 4 (some .boolean) :: zBig
abbrev wsN_isRegister : List Cond := Cond.code yN_isRegister bN_isRegister 1 (some .boolean) :: zBig
abbrev wsV_setWhole : List Cond := Cond.code yV_setWhole bV_setWhole 3 none :: zBig
abbrev wsN_real : List Cond := Cond.code yN_real bN_real 5 (some .boolean) :: zBig
abbrev wsV_setReal : List Cond := Cond.code yV_setReal bV_setReal 4 none :: zBig
abbrev wsV_sizeOf : List Cond := Cond.code yV_sizeOf bV_sizeOf 2 (some .long) :: zBig
abbrev wsV_setNearest : List Cond := Cond.code yV_setNearest bV_setNearest 12 none :: zBig
abbrev wsJL_numberOfLeadingZeros : List Cond := Cond.code yJL_numberOfLeadingZeros bJL_numberOfLeadingZeros 3 (some .int) :: zBig
abbrev wsJI_numberOfLeadingZeros : List Cond := Cond.code yJI_numberOfLeadingZeros bJI_numberOfLeadingZeros 2 (some .int) :: zBig
abbrev wsJM_max : List Cond := Cond.code yJM_max bJM_max 2 (some .int) :: zBig
abbrev wsV_dropBits : List Cond := Cond.code yV_dropBits bV_dropBits 11 (some .long) :: zBig
abbrev wsV_setZero : List Cond := Cond.code yV_setZero bV_setZero 1 none :: zBig
abbrev wsV_setInfinity : List Cond := Cond.code yV_setInfinity bV_setInfinity 2 none :: zBig
abbrev wsJL_numberOfTrailingZeros : List Cond := Cond.code yJL_numberOfTrailingZeros bJL_numberOfTrailingZeros 3 (some .int) :: zBig
abbrev wsJI_numberOfTrailingZeros : List Cond := Cond.code yJI_numberOfTrailingZeros bJI_numberOfTrailingZeros 2 (some .int) :: zBig
abbrev wsJM_min : List Cond := Cond.code yJM_min bJM_min 2 (some .int) :: zBig
abbrev wsV_become : List Cond := Cond.code yV_become bV_become 2 none :: zBig
abbrev wsN_special : List Cond := Cond.code yN_special bN_special 3 (some .boolean) :: zBig
abbrev wsV_setSpecial : List Cond := Cond.code yV_setSpecial bV_setSpecial 2 none :: zBig
abbrev wsN_operate : List Cond := Cond.code yN_operate bN_operate 6 (some .int) :: zBig
abbrev wsN_addOrMultiply : List Cond := Cond.code yN_addOrMultiply bN_addOrMultiply 6 (some .int) :: zBig
abbrev wsN_areWhole : List Cond := Cond.code yN_areWhole bN_areWhole 1 (some .boolean) :: zBig
abbrev wsN_makeReals : List Cond := Cond.code yN_makeReals bN_makeReals 1 none :: zBig
abbrev wsV_turnReal : List Cond := Cond.code yV_turnReal bV_turnReal 1 none :: zBig
abbrev wsV_size : List Cond := Cond.code yV_size bV_size 1 (some .long) :: zBig
abbrev wsR_multiply : List Cond := Cond.code yR_multiply bR_multiply 3 none :: zBig
abbrev wsR_hasNoNumber : List Cond := Cond.code yR_hasNoNumber bR_hasNoNumber 2 (some .boolean) :: zBig
abbrev wsV_sign : List Cond := Cond.code yV_sign bV_sign 1 (some .int) :: zBig
abbrev wsV_isInfinite : List Cond := Cond.code yV_isInfinite bV_isInfinite 1 (some .boolean) :: zBig
abbrev wsJL_signum : List Cond := Cond.code yJL_signum bJL_signum 2 (some .int) :: zBig
abbrev wsR_multiplyFinite : List Cond := Cond.code yR_multiplyFinite bR_multiplyFinite 22 none :: zBig
abbrev wsV_negate : List Cond := Cond.code yV_negate bV_negate 1 none :: zBig
abbrev wsR_add : List Cond := Cond.code yR_add bR_add 2 none :: zBig
abbrev wsO_ofSizes : List Cond := Cond.code yO_ofSizes bO_ofSizes 6 (some .int) :: zBig
abbrev wsJI_compare : List Cond := Cond.code yJI_compare bJI_compare 2 (some .int) :: zBig
abbrev wsJL_compare : List Cond := Cond.code yJL_compare bJL_compare 4 (some .int) :: zBig
abbrev wsR_addSmaller : List Cond := Cond.code yR_addSmaller bR_addSmaller 14 none :: zBig
abbrev wsN_divideOrRemain : List Cond := Cond.code yN_divideOrRemain bN_divideOrRemain 2 (some .int) :: zBig
abbrev wsN_divideOrRemainReal : List Cond := Cond.code yN_divideOrRemainReal bN_divideOrRemainReal 2 none :: zBig
abbrev wsR_remainder : List Cond := Cond.code yR_remainder bR_remainder 2 none :: zBig
abbrev wsR_remainderOfSizes : List Cond := Cond.code yR_remainderOfSizes bR_remainderOfSizes 5 none :: zBig
abbrev wsR_remainderAbove : List Cond := Cond.code yR_remainderAbove bR_remainderAbove 8 (some .long) :: zBig
abbrev wsR_divide : List Cond := Cond.code yR_divide bR_divide 2 none :: zBig
abbrev wsR_divideByZero : List Cond := Cond.code yR_divideByZero bR_divideByZero 1 none :: zBig
abbrev wsR_divideFinite : List Cond := Cond.code yR_divideFinite bR_divideFinite 13 none :: zBig
abbrev wsV_roundDown : List Cond := Cond.code yV_roundDown bV_roundDown 1 none :: zBig
abbrev wsV_floor : List Cond := Cond.code yV_floor bV_floor 1 (some .long) :: zBig
abbrev wsJM_floorDiv : List Cond := Cond.code yJM_floorDiv bJM_floorDiv 6 (some .long) :: zBig
abbrev wsJM_floorMod : List Cond := Cond.code yJM_floorMod bJM_floorMod 6 (some .long) :: zBig
abbrev wsN_power : List Cond := Cond.code yN_power bN_power 3 (some .int) :: zBig
abbrev wsV_countsAsWhole : List Cond := Cond.code yV_countsAsWhole bV_countsAsWhole 1 (some .boolean) :: zBig
abbrev wsV_asWhole : List Cond := Cond.code yV_asWhole bV_asWhole 1 (some .long) :: zBig
abbrev wsN_raise : List Cond := Cond.code yN_raise bN_raise 4 none :: zBig
abbrev wsN_combineBits : List Cond := Cond.code yN_combineBits bN_combineBits 6 (some .int) :: zBig
abbrev wsN_shiftLeft : List Cond := Cond.code yN_shiftLeft bN_shiftLeft 4 (some .long) :: zBig
abbrev wsN_applyToOne : List Cond := Cond.code yN_applyToOne bN_applyToOne 2 (some .int) :: zBig
abbrev wsN_compare : List Cond := Cond.code yN_compare bN_compare 8 (some .int) :: zBig
abbrev wsO_of : List Cond := Cond.code yO_of bO_of 2 (some .int) :: zBig
abbrev wsO_infinityOf : List Cond := Cond.code yO_infinityOf bO_infinityOf 1 (some .int) :: zBig
abbrev wsO_ofWhole : List Cond := Cond.code yO_ofWhole bO_ofWhole 5 (some .int) :: zBig
abbrev wsO_ofReals : List Cond := Cond.code yO_ofReals bO_ofReals 2 (some .int) :: zBig
abbrev wsN_kind : List Cond := Cond.code yN_kind bN_kind 2 (some .int) :: zBig
abbrev wsN_number : List Cond := Cond.code yN_number bN_number 2 (some .long) :: zBig
abbrev wsN_exponent : List Cond := Cond.code yN_exponent bN_exponent 2 (some .int) :: zBig
abbrev wsN_sum : List Cond := Cond.code yN_sum bN_sum 5 (some .boolean) :: zBig
abbrev wsN_isRow : List Cond := Cond.code yN_isRow bN_isRow 2 (some .boolean) :: zBig
abbrev wsN_polynomial : List Cond := Cond.code yN_polynomial bN_polynomial 6 (some .boolean) :: zBig
abbrev wsN_sort : List Cond := Cond.code yN_sort bN_sort 4 (some .boolean) :: zBig
abbrev wsN_insert : List Cond := Cond.code yN_insert bN_insert 5 none :: zBig
abbrev wsO_goesBefore : List Cond := Cond.code yO_goesBefore bO_goesBefore 2 (some .boolean) :: zBig
abbrev wsM_init : List Cond := Cond.code yM_init bM_init 2 none :: zBig
abbrev wsM_whole : List Cond := Cond.code yM_whole bM_whole 4 (some .boolean) :: zBig
abbrev wsM_isRegister : List Cond := Cond.code yM_isRegister bM_isRegister 1 (some .boolean) :: zBig
abbrev wsM_setWhole : List Cond := Cond.code yM_setWhole bM_setWhole 3 none :: zBig
abbrev wsM_put : List Cond := Cond.code yM_put bM_put 2 none :: zBig
abbrev wsM_real : List Cond := Cond.code yM_real bM_real 5 (some .boolean) :: zBig
abbrev wsM_nearestOf : List Cond := Cond.code yM_nearestOf bM_nearestOf 6 none :: zBig
abbrev wsM_nearest : List Cond := Cond.code yM_nearest bM_nearest 15 none :: zBig
abbrev wsM_plain : List Cond := Cond.code yM_plain bM_plain 4 none :: zBig
abbrev wsM_setSpecial : List Cond := Cond.code yM_setSpecial bM_setSpecial 2 none :: zBig
abbrev wsM_size : List Cond := Cond.code yM_size bM_size 2 (some .long) :: zBig
abbrev wsM_special : List Cond := Cond.code yM_special bM_special 3 (some .boolean) :: zBig
abbrev wsM_operate : List Cond := Cond.code yM_operate bM_operate 6 (some .int) :: zBig
abbrev wsM_takeA : List Cond := Cond.code yM_takeA bM_takeA 2 none :: zBig
abbrev wsM_takeB : List Cond := Cond.code yM_takeB bM_takeB 2 none :: zBig
abbrev wsM_operation : List Cond := Cond.code yM_operation bM_operation 3 (some .int) :: zBig
abbrev wsM_bitwise : List Cond := Cond.code yM_bitwise bM_bitwise 8 (some .int) :: zBig
abbrev wsM_isWhole : List Cond := Cond.code yM_isWhole bM_isWhole 5 (some .boolean) :: zBig
abbrev wsM_wholeOf : List Cond := Cond.code yM_wholeOf bM_wholeOf 5 (some .long) :: zBig
abbrev wsM_shifted : List Cond := Cond.code yM_shifted bM_shifted 4 (some .long) :: zBig
abbrev wsM_single : List Cond := Cond.code yM_single bM_single 2 (some .int) :: zBig
abbrev wsM_negative : List Cond := Cond.code yM_negative bM_negative 1 none :: zBig
abbrev wsM_floorOfA : List Cond := Cond.code yM_floorOfA bM_floorOfA 1 none :: zBig
abbrev wsM_copyA : List Cond := Cond.code yM_copyA bM_copyA 1 none :: zBig
abbrev wsM_roundDown : List Cond := Cond.code yM_roundDown bM_roundDown 1 none :: zBig
abbrev wsM_realA : List Cond := Cond.code yM_realA bM_realA 1 none :: zBig
abbrev wsM_resultToA : List Cond := Cond.code yM_resultToA bM_resultToA 1 none :: zBig
abbrev wsM_signOf : List Cond := Cond.code yM_signOf bM_signOf 3 (some .int) :: zBig
abbrev wsM_wholes : List Cond := Cond.code yM_wholes bM_wholes 2 (some .int) :: zBig
abbrev wsM_floorQuotient : List Cond := Cond.code yM_floorQuotient bM_floorQuotient 6 (some .long) :: zBig
abbrev wsM_reals : List Cond := Cond.code yM_reals bM_reals 2 (some .int) :: zBig
abbrev wsM_realB : List Cond := Cond.code yM_realB bM_realB 1 none :: zBig
abbrev wsM_resultToB : List Cond := Cond.code yM_resultToB bM_resultToB 1 none :: zBig
abbrev wsM_add : List Cond := Cond.code yM_add bM_add 1 none :: zBig
abbrev wsM_isGreat : List Cond := Cond.code yM_isGreat bM_isGreat 1 (some .boolean) :: zBig
abbrev wsM_addNumbers : List Cond := Cond.code yM_addNumbers bM_addNumbers 19 none :: zBig
abbrev wsM_room : List Cond := Cond.code yM_room bM_room 3 (some .int) :: zBig
abbrev wsM_down : List Cond := Cond.code yM_down bM_down 5 (some .long) :: zBig
abbrev wsM_turnB : List Cond := Cond.code yM_turnB bM_turnB 1 none :: zBig
abbrev wsM_multiply : List Cond := Cond.code yM_multiply bM_multiply 2 none :: zBig
abbrev wsM_product : List Cond := Cond.code yM_product bM_product 17 none :: zBig
abbrev wsM_divide : List Cond := Cond.code yM_divide bM_divide 3 none :: zBig
abbrev wsM_quotientBits : List Cond := Cond.code yM_quotientBits bM_quotientBits 10 none :: zBig
abbrev wsM_remainder : List Cond := Cond.code yM_remainder bM_remainder 3 none :: zBig
abbrev wsM_restOfSizes : List Cond := Cond.code yM_restOfSizes bM_restOfSizes 6 none :: zBig
abbrev wsM_power : List Cond := Cond.code yM_power bM_power 13 (some .int) :: zBig
abbrev wsM_compare : List Cond := Cond.code yM_compare bM_compare 5 (some .int) :: zBig
abbrev wsM_isEqual : List Cond := Cond.code yM_isEqual bM_isEqual 6 (some .boolean) :: zBig
abbrev wsM_isLess : List Cond := Cond.code yM_isLess bM_isLess 2 (some .boolean) :: zBig
abbrev wsM_isWholeLess : List Cond := Cond.code yM_isWholeLess bM_isWholeLess 9 (some .boolean) :: zBig
abbrev wsM_isRealLess : List Cond := Cond.code yM_isRealLess bM_isRealLess 4 (some .boolean) :: zBig
abbrev wsM_kind : List Cond := Cond.code yM_kind bM_kind 2 (some .int) :: zBig
abbrev wsM_number : List Cond := Cond.code yM_number bM_number 2 (some .long) :: zBig
abbrev wsM_exponent : List Cond := Cond.code yM_exponent bM_exponent 2 (some .int) :: zBig
abbrev wsM_sum : List Cond := Cond.code yM_sum bM_sum 5 (some .boolean) :: zBig
abbrev wsM_areRegisters : List Cond := Cond.code yM_areRegisters bM_areRegisters 2 (some .boolean) :: zBig
abbrev wsM_polynomial : List Cond := Cond.code yM_polynomial bM_polynomial 6 (some .boolean) :: zBig
abbrev wsM_sort : List Cond := Cond.code yM_sort bM_sort 5 (some .boolean) :: zBig
abbrev wsM_isBefore : List Cond := Cond.code yM_isBefore bM_isBefore 3 (some .boolean) :: zBig
abbrev wsM_exchange : List Cond := Cond.code yM_exchange bM_exchange 3 none :: zBig
abbrev wsL_law : List Cond := Cond.initialized "MixedNumbersLaw" :: zBig
theorem zb {c w : Cond} (h : w ∈ zBig) : w ∈ c :: zBig := List.mem_cons_of_mem _ h
theorem zm {w : Cond} (i : Nat) (h : lw_tbl[i]? = some w) (hg : goodWord w = true) : w ∈ zBig := List.mem_filter.mpr ⟨List.mem_of_getElem? h, hg⟩
theorem ml_L_9 : Cond.methodLink RL 9 yN_init ∈ zBig := zm 76 (by decide +kernel) rfl
theorem ml_N_1 : Cond.methodLink RN 1 objectInit ∈ zBig := zm 79 (by decide +kernel) rfl
theorem ml_V_3 : Cond.methodLink RV 3 objectInit ∈ zBig := zm 88 (by decide +kernel) rfl
theorem ml_L_15 : Cond.methodLink RL 15 yN_whole ∈ zBig := zm 121 (by decide +kernel) rfl
theorem ml_N_26 : Cond.methodLink RN 26 yN_isRegister ∈ zBig := zm 125 (by decide +kernel) rfl
theorem ml_L_20 : Cond.methodLink RL 20 yN_real ∈ zBig := zm 132 (by decide +kernel) rfl
theorem ml_V_22 : Cond.methodLink RV 22 yV_sizeOf ∈ zBig := zm 140 (by decide +kernel) rfl
theorem ml_V_26 : Cond.methodLink RV 26 yV_setNearest ∈ zBig := zm 143 (by decide +kernel) rfl
theorem ml_V_30 : Cond.methodLink RV 30 yJL_numberOfLeadingZeros ∈ zBig := zm 147 (by decide +kernel) rfl
theorem ml_JL_308 : Cond.methodLink RJL 308 yJI_numberOfLeadingZeros ∈ zBig := zm 150 (by decide +kernel) rfl
theorem ml_V_36 : Cond.methodLink RV 36 Lib.Math.max.name ∈ zBig := zm 154 (by decide +kernel) rfl
theorem ml_V_42 : Cond.methodLink RV 42 yV_dropBits ∈ zBig := zm 157 (by decide +kernel) rfl
theorem ml_V_46 : Cond.methodLink RV 46 yV_setZero ∈ zBig := zm 160 (by decide +kernel) rfl
theorem ml_V_49 : Cond.methodLink RV 49 yV_setInfinity ∈ zBig := zm 164 (by decide +kernel) rfl
theorem ml_V_53 : Cond.methodLink RV 53 yJL_numberOfTrailingZeros ∈ zBig := zm 168 (by decide +kernel) rfl
theorem ml_JL_311 : Cond.methodLink RJL 311 yJI_numberOfTrailingZeros ∈ zBig := zm 171 (by decide +kernel) rfl
theorem ml_V_56 : Cond.methodLink RV 56 Lib.Math.min.name ∈ zBig := zm 174 (by decide +kernel) rfl
theorem ml_L_25 : Cond.methodLink RL 25 yN_special ∈ zBig := zm 181 (by decide +kernel) rfl
theorem ml_L_30 : Cond.methodLink RL 30 yN_operate ∈ zBig := zm 189 (by decide +kernel) rfl
theorem ml_N_54 : Cond.methodLink RN 54 yN_addOrMultiply ∈ zBig := zm 193 (by decide +kernel) rfl
theorem ml_N_95 : Cond.methodLink RN 95 yN_areWhole ∈ zBig := zm 197 (by decide +kernel) rfl
theorem ml_N_99 : Cond.methodLink RN 99 yN_makeReals ∈ zBig := zm 201 (by decide +kernel) rfl
theorem ml_V_59 : Cond.methodLink RV 59 yV_size ∈ zBig := zm 209 (by decide +kernel) rfl
theorem ml_R_17 : Cond.methodLink RR 17 yR_hasNoNumber ∈ zBig := zm 216 (by decide +kernel) rfl
theorem ml_V_63 : Cond.methodLink RV 63 yV_isInfinite ∈ zBig := zm 224 (by decide +kernel) rfl
theorem ml_V_74 : Cond.methodLink RV 74 yJL_signum ∈ zBig := zm 228 (by decide +kernel) rfl
theorem ml_R_68 : Cond.methodLink RR 68 yR_multiplyFinite ∈ zBig := zm 232 (by decide +kernel) rfl
theorem ml_R_51 : Cond.methodLink RR 51 yJL_numberOfLeadingZeros ∈ zBig := zm 238 (by decide +kernel) rfl
theorem ml_R_80 : Cond.methodLink RR 80 Lib.Math.min.name ∈ zBig := zm 239 (by decide +kernel) rfl
theorem ml_O_71 : Cond.methodLink RO 71 yJL_numberOfLeadingZeros ∈ zBig := zm 254 (by decide +kernel) rfl
theorem ml_O_29 : Cond.methodLink RO 29 yJI_compare ∈ zBig := zm 255 (by decide +kernel) rfl
theorem ml_O_39 : Cond.methodLink RO 39 yJL_compare ∈ zBig := zm 258 (by decide +kernel) rfl
theorem ml_R_43 : Cond.methodLink RR 43 yR_addSmaller ∈ zBig := zm 261 (by decide +kernel) rfl
theorem ml_N_58 : Cond.methodLink RN 58 yN_divideOrRemain ∈ zBig := zm 264 (by decide +kernel) rfl
theorem ml_N_114 : Cond.methodLink RN 114 yN_divideOrRemainReal ∈ zBig := zm 268 (by decide +kernel) rfl
theorem ml_R_96 : Cond.methodLink RR 96 yR_remainderOfSizes ∈ zBig := zm 275 (by decide +kernel) rfl
theorem ml_R_99 : Cond.methodLink RR 99 yR_remainderAbove ∈ zBig := zm 278 (by decide +kernel) rfl
theorem ml_R_89 : Cond.methodLink RR 89 yR_divideByZero ∈ zBig := zm 285 (by decide +kernel) rfl
theorem ml_R_92 : Cond.methodLink RR 92 yR_divideFinite ∈ zBig := zm 288 (by decide +kernel) rfl
theorem ml_V_67 : Cond.methodLink RV 67 yV_floor ∈ zBig := zm 295 (by decide +kernel) rfl
theorem ml_V_70 : Cond.methodLink RV 70 yV_setReal ∈ zBig := zm 299 (by decide +kernel) rfl
theorem ml_N_117 : Cond.methodLink RN 117 yJM_floorDiv ∈ zBig := zm 300 (by decide +kernel) rfl
theorem ml_N_123 : Cond.methodLink RN 123 yJM_floorMod ∈ zBig := zm 303 (by decide +kernel) rfl
theorem ml_N_61 : Cond.methodLink RN 61 yN_power ∈ zBig := zm 306 (by decide +kernel) rfl
theorem ml_N_148 : Cond.methodLink RN 148 yN_raise ∈ zBig := zm 321 (by decide +kernel) rfl
theorem ml_N_151 : Cond.methodLink RN 151 yJI_numberOfLeadingZeros ∈ zBig := zm 325 (by decide +kernel) rfl
theorem ml_N_65 : Cond.methodLink RN 65 yN_combineBits ∈ zBig := zm 326 (by decide +kernel) rfl
theorem ml_N_156 : Cond.methodLink RN 156 yN_shiftLeft ∈ zBig := zm 330 (by decide +kernel) rfl
theorem ml_N_68 : Cond.methodLink RN 68 yN_applyToOne ∈ zBig := zm 335 (by decide +kernel) rfl
theorem ml_L_35 : Cond.methodLink RL 35 yN_compare ∈ zBig := zm 341 (by decide +kernel) rfl
theorem ml_O_25 : Cond.methodLink RO 25 yO_infinityOf ∈ zBig := zm 349 (by decide +kernel) rfl
theorem ml_O_44 : Cond.methodLink RO 44 yO_ofWhole ∈ zBig := zm 353 (by decide +kernel) rfl
theorem ml_O_48 : Cond.methodLink RO 48 yO_ofReals ∈ zBig := zm 358 (by decide +kernel) rfl
theorem ml_O_65 : Cond.methodLink RO 65 yO_ofSizes ∈ zBig := zm 361 (by decide +kernel) rfl
theorem ml_L_40 : Cond.methodLink RL 40 yN_kind ∈ zBig := zm 362 (by decide +kernel) rfl
theorem ml_L_45 : Cond.methodLink RL 45 yN_number ∈ zBig := zm 366 (by decide +kernel) rfl
theorem ml_L_50 : Cond.methodLink RL 50 yN_exponent ∈ zBig := zm 370 (by decide +kernel) rfl
theorem ml_L_54 : Cond.methodLink RL 54 yN_sum ∈ zBig := zm 374 (by decide +kernel) rfl
theorem ml_N_80 : Cond.methodLink RN 80 yN_isRow ∈ zBig := zm 378 (by decide +kernel) rfl
theorem ml_L_59 : Cond.methodLink RL 59 yN_polynomial ∈ zBig := zm 381 (by decide +kernel) rfl
theorem ml_L_64 : Cond.methodLink RL 64 yN_sort ∈ zBig := zm 385 (by decide +kernel) rfl
theorem ml_N_84 : Cond.methodLink RN 84 yN_insert ∈ zBig := zm 389 (by decide +kernel) rfl
theorem ml_O_15 : Cond.methodLink RO 15 yO_of ∈ zBig := zm 396 (by decide +kernel) rfl
theorem ml_L_12 : Cond.methodLink RL 12 yM_init ∈ zBig := zm 399 (by decide +kernel) rfl
theorem ml_M_1 : Cond.methodLink RM 1 objectInit ∈ zBig := zm 402 (by decide +kernel) rfl
theorem ml_L_19 : Cond.methodLink RL 19 yM_whole ∈ zBig := zm 448 (by decide +kernel) rfl
theorem ml_M_204 : Cond.methodLink RM 204 yM_isRegister ∈ zBig := zm 452 (by decide +kernel) rfl
theorem ml_M_134 : Cond.methodLink RM 134 yM_setWhole ∈ zBig := zm 455 (by decide +kernel) rfl
theorem ml_M_207 : Cond.methodLink RM 207 yM_put ∈ zBig := zm 459 (by decide +kernel) rfl
theorem ml_L_24 : Cond.methodLink RL 24 yM_real ∈ zBig := zm 463 (by decide +kernel) rfl
theorem ml_M_69 : Cond.methodLink RM 69 yM_nearestOf ∈ zBig := zm 467 (by decide +kernel) rfl
theorem ml_M_43 : Cond.methodLink RM 43 yM_nearest ∈ zBig := zm 472 (by decide +kernel) rfl
theorem ml_M_31 : Cond.methodLink RM 31 yM_plain ∈ zBig := zm 476 (by decide +kernel) rfl
theorem ml_M_35 : Cond.methodLink RM 35 yM_setSpecial ∈ zBig := zm 480 (by decide +kernel) rfl
theorem ml_M_47 : Cond.methodLink RM 47 yM_size ∈ zBig := zm 484 (by decide +kernel) rfl
theorem ml_L_29 : Cond.methodLink RL 29 yM_special ∈ zBig := zm 487 (by decide +kernel) rfl
theorem ml_L_34 : Cond.methodLink RL 34 yM_operate ∈ zBig := zm 491 (by decide +kernel) rfl
theorem ml_M_210 : Cond.methodLink RM 210 yM_takeA ∈ zBig := zm 495 (by decide +kernel) rfl
theorem ml_M_213 : Cond.methodLink RM 213 yM_takeB ∈ zBig := zm 499 (by decide +kernel) rfl
theorem ml_M_216 : Cond.methodLink RM 216 yM_operation ∈ zBig := zm 503 (by decide +kernel) rfl
theorem ml_M_183 : Cond.methodLink RM 183 yM_bitwise ∈ zBig := zm 507 (by decide +kernel) rfl
theorem ml_M_126 : Cond.methodLink RM 126 yM_isWhole ∈ zBig := zm 511 (by decide +kernel) rfl
theorem ml_M_130 : Cond.methodLink RM 130 yM_wholeOf ∈ zBig := zm 516 (by decide +kernel) rfl
theorem ml_M_138 : Cond.methodLink RM 138 yM_shifted ∈ zBig := zm 520 (by decide +kernel) rfl
theorem ml_M_187 : Cond.methodLink RM 187 yM_single ∈ zBig := zm 525 (by decide +kernel) rfl
theorem ml_M_177 : Cond.methodLink RM 177 yM_negative ∈ zBig := zm 529 (by decide +kernel) rfl
theorem ml_M_180 : Cond.methodLink RM 180 yM_floorOfA ∈ zBig := zm 533 (by decide +kernel) rfl
theorem ml_M_174 : Cond.methodLink RM 174 yM_copyA ∈ zBig := zm 537 (by decide +kernel) rfl
theorem ml_M_160 : Cond.methodLink RM 160 yM_roundDown ∈ zBig := zm 541 (by decide +kernel) rfl
theorem ml_M_145 : Cond.methodLink RM 145 yM_realA ∈ zBig := zm 545 (by decide +kernel) rfl
theorem ml_M_72 : Cond.methodLink RM 72 yM_resultToA ∈ zBig := zm 549 (by decide +kernel) rfl
theorem ml_M_101 : Cond.methodLink RM 101 yM_signOf ∈ zBig := zm 553 (by decide +kernel) rfl
theorem ml_M_190 : Cond.methodLink RM 190 yM_wholes ∈ zBig := zm 556 (by decide +kernel) rfl
theorem ml_M_142 : Cond.methodLink RM 142 yM_floorQuotient ∈ zBig := zm 560 (by decide +kernel) rfl
theorem ml_M_193 : Cond.methodLink RM 193 yM_reals ∈ zBig := zm 563 (by decide +kernel) rfl
theorem ml_M_148 : Cond.methodLink RM 148 yM_realB ∈ zBig := zm 567 (by decide +kernel) rfl
theorem ml_M_75 : Cond.methodLink RM 75 yM_resultToB ∈ zBig := zm 571 (by decide +kernel) rfl
theorem ml_M_119 : Cond.methodLink RM 119 yM_add ∈ zBig := zm 575 (by decide +kernel) rfl
theorem ml_M_86 : Cond.methodLink RM 86 yM_isGreat ∈ zBig := zm 579 (by decide +kernel) rfl
theorem ml_M_90 : Cond.methodLink RM 90 yM_addNumbers ∈ zBig := zm 582 (by decide +kernel) rfl
theorem ml_M_78 : Cond.methodLink RM 78 yM_room ∈ zBig := zm 586 (by decide +kernel) rfl
theorem ml_M_82 : Cond.methodLink RM 82 yM_down ∈ zBig := zm 589 (by decide +kernel) rfl
theorem ml_M_151 : Cond.methodLink RM 151 yM_turnB ∈ zBig := zm 592 (by decide +kernel) rfl
theorem ml_M_154 : Cond.methodLink RM 154 yM_multiply ∈ zBig := zm 596 (by decide +kernel) rfl
theorem ml_M_105 : Cond.methodLink RM 105 yM_product ∈ zBig := zm 600 (by decide +kernel) rfl
theorem ml_M_157 : Cond.methodLink RM 157 yM_divide ∈ zBig := zm 605 (by decide +kernel) rfl
theorem ml_M_109 : Cond.methodLink RM 109 yM_quotientBits ∈ zBig := zm 609 (by decide +kernel) rfl
theorem ml_M_163 : Cond.methodLink RM 163 yM_remainder ∈ zBig := zm 613 (by decide +kernel) rfl
theorem ml_M_116 : Cond.methodLink RM 116 yM_restOfSizes ∈ zBig := zm 617 (by decide +kernel) rfl
theorem ml_M_166 : Cond.methodLink RM 166 yM_power ∈ zBig := zm 622 (by decide +kernel) rfl
theorem ml_L_39 : Cond.methodLink RL 39 yM_compare ∈ zBig := zm 628 (by decide +kernel) rfl
theorem ml_M_219 : Cond.methodLink RM 219 yM_isEqual ∈ zBig := zm 632 (by decide +kernel) rfl
theorem ml_M_223 : Cond.methodLink RM 223 yM_isLess ∈ zBig := zm 636 (by decide +kernel) rfl
theorem ml_M_196 : Cond.methodLink RM 196 yM_isWholeLess ∈ zBig := zm 640 (by decide +kernel) rfl
theorem ml_M_200 : Cond.methodLink RM 200 yM_isRealLess ∈ zBig := zm 644 (by decide +kernel) rfl
theorem ml_L_44 : Cond.methodLink RL 44 yM_kind ∈ zBig := zm 648 (by decide +kernel) rfl
theorem ml_L_49 : Cond.methodLink RL 49 yM_number ∈ zBig := zm 652 (by decide +kernel) rfl
theorem ml_L_53 : Cond.methodLink RL 53 yM_exponent ∈ zBig := zm 656 (by decide +kernel) rfl
theorem ml_L_58 : Cond.methodLink RL 58 yM_sum ∈ zBig := zm 660 (by decide +kernel) rfl
theorem ml_M_226 : Cond.methodLink RM 226 yM_areRegisters ∈ zBig := zm 664 (by decide +kernel) rfl
theorem ml_L_63 : Cond.methodLink RL 63 yM_polynomial ∈ zBig := zm 667 (by decide +kernel) rfl
theorem ml_L_67 : Cond.methodLink RL 67 yM_sort ∈ zBig := zm 671 (by decide +kernel) rfl
theorem ml_M_234 : Cond.methodLink RM 234 yM_isBefore ∈ zBig := zm 675 (by decide +kernel) rfl
theorem ml_M_230 : Cond.methodLink RM 230 yM_compare ∈ zBig := zm 679 (by decide +kernel) rfl
theorem ml_M_237 : Cond.methodLink RM 237 yM_exchange ∈ zBig := zm 680 (by decide +kernel) rfl
theorem fl_V_9 : Cond.fieldLink RV 9 "MixedNumbers$Value" "kind" "I" ∈ zBig := zm 89 (by decide +kernel) rfl
theorem fl_V_15 : Cond.fieldLink RV 15 "MixedNumbers$Value" "number" "J" ∈ zBig := zm 93 (by decide +kernel) rfl
theorem fl_V_19 : Cond.fieldLink RV 19 "MixedNumbers$Value" "exponent" "I" ∈ zBig := zm 97 (by decide +kernel) rfl
theorem fl_N_11 : Cond.fieldLink RN 11 "MixedNumbers" "registers" "[LMixedNumbers$Value;" ∈ zBig := zm 108 (by decide +kernel) rfl
theorem fl_N_16 : Cond.fieldLink RN 16 "MixedNumbers" "first" "LMixedNumbers$Value;" ∈ zBig := zm 109 (by decide +kernel) rfl
theorem fl_N_20 : Cond.fieldLink RN 20 "MixedNumbers" "second" "LMixedNumbers$Value;" ∈ zBig := zm 110 (by decide +kernel) rfl
theorem fl_N_23 : Cond.fieldLink RN 23 "MixedNumbers" "spare" "LMixedNumbers$Value;" ∈ zBig := zm 111 (by decide +kernel) rfl
theorem fl_M_7 : Cond.fieldLink RM 7 "MixedNumbersModel" "kinds" "[I" ∈ zBig := zm 403 (by decide +kernel) rfl
theorem fl_M_13 : Cond.fieldLink RM 13 "MixedNumbersModel" "numbers" "[J" ∈ zBig := zm 404 (by decide +kernel) rfl
theorem fl_M_17 : Cond.fieldLink RM 17 "MixedNumbersModel" "exponents" "[I" ∈ zBig := zm 405 (by decide +kernel) rfl
theorem fl_M_51 : Cond.fieldLink RM 51 "MixedNumbersModel" "ka" "I" ∈ zBig := zm 406 (by decide +kernel) rfl
theorem fl_M_54 : Cond.fieldLink RM 54 "MixedNumbersModel" "na" "J" ∈ zBig := zm 407 (by decide +kernel) rfl
theorem fl_M_57 : Cond.fieldLink RM 57 "MixedNumbersModel" "ea" "I" ∈ zBig := zm 408 (by decide +kernel) rfl
theorem fl_M_60 : Cond.fieldLink RM 60 "MixedNumbersModel" "kb" "I" ∈ zBig := zm 409 (by decide +kernel) rfl
theorem fl_M_63 : Cond.fieldLink RM 63 "MixedNumbersModel" "nb" "J" ∈ zBig := zm 410 (by decide +kernel) rfl
theorem fl_M_66 : Cond.fieldLink RM 66 "MixedNumbersModel" "eb" "I" ∈ zBig := zm 411 (by decide +kernel) rfl
theorem fl_M_20 : Cond.fieldLink RM 20 "MixedNumbersModel" "k" "I" ∈ zBig := zm 412 (by decide +kernel) rfl
theorem fl_M_24 : Cond.fieldLink RM 24 "MixedNumbersModel" "n" "J" ∈ zBig := zm 413 (by decide +kernel) rfl
theorem fl_M_28 : Cond.fieldLink RM 28 "MixedNumbersModel" "e" "I" ∈ zBig := zm 414 (by decide +kernel) rfl
theorem fl_M_95 : Cond.fieldLink RM 95 "MixedNumbersModel" "bits" "J" ∈ zBig := zm 415 (by decide +kernel) rfl
theorem fl_M_98 : Cond.fieldLink RM 98 "MixedNumbersModel" "scale" "I" ∈ zBig := zm 416 (by decide +kernel) rfl
theorem kc_JI_264 : Cond.constant RJI 264 65536 ∈ zBig := zm 153 (by decide +kernel) rfl
theorem kc_R_76 : Cond.constantLong RR 76 134217727 ∈ zBig := zm 236 (by decide +kernel) rfl
theorem kc_R_78 : Cond.constantLong RR 78 18014398509481983 ∈ zBig := zm 237 (by decide +kernel) rfl
theorem kc_N_142 : Cond.constantLong RN 142 65537 ∈ zBig := zm 318 (by decide +kernel) rfl
theorem kc_N_144 : Cond.constantLong RN 144 (-65536) ∈ zBig := zm 319 (by decide +kernel) rfl
theorem kc_N_146 : Cond.constantLong RN 146 65536 ∈ zBig := zm 320 (by decide +kernel) rfl
theorem kc_N_159 : Cond.constantLong RN 159 (-64) ∈ zBig := zm 333 (by decide +kernel) rfl
theorem kc_N_161 : Cond.constantLong RN 161 64 ∈ zBig := zm 334 (by decide +kernel) rfl
theorem kc_N_163 : Cond.constantLong RN 163 (-1) ∈ zBig := zm 339 (by decide +kernel) rfl
theorem kc_M_41 : Cond.constantLong RM 41 (-9223372036854775808) ∈ zBig := zm 471 (by decide +kernel) rfl
theorem kc_M_112 : Cond.constantLong RM 112 (-1) ∈ zBig := zm 515 (by decide +kernel) rfl
theorem kc_M_122 : Cond.constantLong RM 122 64 ∈ zBig := zm 523 (by decide +kernel) rfl
theorem kc_M_124 : Cond.constantLong RM 124 (-64) ∈ zBig := zm 524 (by decide +kernel) rfl
theorem kc_M_93 : Cond.constantLong RM 93 134217727 ∈ zBig := zm 604 (by decide +kernel) rfl
theorem kc_M_114 : Cond.constantLong RM 114 2 ∈ zBig := zm 621 (by decide +kernel) rfl
theorem kc_M_170 : Cond.constantLong RM 170 (-65536) ∈ zBig := zm 626 (by decide +kernel) rfl
theorem kc_M_172 : Cond.constantLong RM 172 65536 ∈ zBig := zm 627 (by decide +kernel) rfl
theorem kc_L_13 : Cond.constantLong RL 13 4294967295 ∈ zBig := zm 684 (by decide +kernel) rfl
theorem cl_L_7 : Cond.classLink RL 7 RN ∈ zBig := zm 74 (by decide +kernel) rfl
theorem cl_N_9 : Cond.classLink RN 9 RV ∈ zBig := zm 82 (by decide +kernel) rfl
theorem cl_L_10 : Cond.classLink RL 10 RM ∈ zBig := zm 397 (by decide +kernel) rfl
theorem in_N : Cond.initialized RN ∈ zBig := zm 66 (by decide +kernel) rfl
theorem in_V : Cond.initialized RV ∈ zBig := zm 67 (by decide +kernel) rfl
theorem in_R : Cond.initialized RR ∈ zBig := zm 72 (by decide +kernel) rfl
theorem in_O : Cond.initialized RO ∈ zBig := zm 73 (by decide +kernel) rfl
theorem in_M : Cond.initialized RM ∈ zBig := zm 68 (by decide +kernel) rfl
theorem in_L : Cond.initialized RL ∈ zBig := zm 65 (by decide +kernel) rfl
theorem in_JI : Cond.initialized RJI ∈ zBig := zm 70 (by decide +kernel) rfl
theorem in_JL : Cond.initialized RJL ∈ zBig := zm 69 (by decide +kernel) rfl
theorem in_JM : Cond.initialized RJM ∈ zBig := zm 71 (by decide +kernel) rfl
theorem ins_V : Cond.instantiable RV 3 ∈ zBig := zm 84 (by decide +kernel) rfl
theorem ins_N : Cond.instantiable RN 4 ∈ zBig := zm 75 (by decide +kernel) rfl
theorem ins_M : Cond.instantiable RM 14 ∈ zBig := zm 398 (by decide +kernel) rfl
theorem in_Math : Cond.initialized "java/lang/Math" ∈ zBig := zm 71 (by decide +kernel) rfl
theorem ac_int : Cond.arrayClass .int ∈ zBig := zm 446 (by decide +kernel) rfl
theorem ac_long : Cond.arrayClass .long ∈ zBig := zm 447 (by decide +kernel) rfl
theorem im_obj : Cond.instanceMethod objectInit ∈ zBig := zm 80 (by decide +kernel) rfl
set_option maxRecDepth 20000 in
theorem co_obj : Cond.code objectInit ⟨#[0xb1]⟩ 1 none ∈ zBig := zm 81 rfl rfl
theorem im_N_init : Cond.instanceMethod yN_init ∈ zBig := zm 77 (by decide +kernel) rfl
set_option maxRecDepth 20000 in
theorem co_N_init : Cond.code yN_init bN_init 2 none ∈ zBig := zm 78 rfl rfl
theorem im_V_init : Cond.instanceMethod yV_init ∈ zBig := zm 86 (by decide +kernel) rfl
set_option maxRecDepth 20000 in
theorem co_V_init : Cond.code yV_init bV_init 1 none ∈ zBig := zm 87 rfl rfl
theorem im_N_whole : Cond.instanceMethod yN_whole ∈ zBig := zm 122 (by decide +kernel) rfl
set_option maxRecDepth 20000 in
theorem co_N_whole : Cond.code yN_whole bN_whole 4 (some .boolean) ∈ zBig := zm 124 rfl rfl
theorem se_N_whole : Cond.selects RN yN_whole yN_whole ∈ zBig := zm 123 (by decide +kernel) rfl
theorem st_N_isRegister : Cond.static yN_isRegister ∈ zBig := zm 126 (by decide +kernel) rfl
set_option maxRecDepth 20000 in
theorem co_N_isRegister : Cond.code yN_isRegister bN_isRegister 1 (some .boolean) ∈ zBig := zm 127 rfl rfl
theorem im_V_setWhole : Cond.instanceMethod yV_setWhole ∈ zBig := zm 130 (by decide +kernel) rfl
set_option maxRecDepth 20000 in
theorem co_V_setWhole : Cond.code yV_setWhole bV_setWhole 3 none ∈ zBig := zm 131 rfl rfl
theorem se_V_setWhole : Cond.selects RV yV_setWhole yV_setWhole ∈ zBig := zm 0 (by decide +kernel) rfl
theorem im_N_real : Cond.instanceMethod yN_real ∈ zBig := zm 133 (by decide +kernel) rfl
set_option maxRecDepth 20000 in
theorem co_N_real : Cond.code yN_real bN_real 5 (some .boolean) ∈ zBig := zm 135 rfl rfl
theorem se_N_real : Cond.selects RN yN_real yN_real ∈ zBig := zm 134 (by decide +kernel) rfl
theorem im_V_setReal : Cond.instanceMethod yV_setReal ∈ zBig := zm 138 (by decide +kernel) rfl
set_option maxRecDepth 20000 in
theorem co_V_setReal : Cond.code yV_setReal bV_setReal 4 none ∈ zBig := zm 139 rfl rfl
theorem se_V_setReal : Cond.selects RV yV_setReal yV_setReal ∈ zBig := zm 1 (by decide +kernel) rfl
theorem st_V_sizeOf : Cond.static yV_sizeOf ∈ zBig := zm 141 (by decide +kernel) rfl
set_option maxRecDepth 20000 in
theorem co_V_sizeOf : Cond.code yV_sizeOf bV_sizeOf 2 (some .long) ∈ zBig := zm 142 rfl rfl
theorem im_V_setNearest : Cond.instanceMethod yV_setNearest ∈ zBig := zm 145 (by decide +kernel) rfl
set_option maxRecDepth 20000 in
theorem co_V_setNearest : Cond.code yV_setNearest bV_setNearest 12 none ∈ zBig := zm 146 rfl rfl
theorem se_V_setNearest : Cond.selects RV yV_setNearest yV_setNearest ∈ zBig := zm 2 (by decide +kernel) rfl
theorem st_JL_numberOfLeadingZeros : Cond.static yJL_numberOfLeadingZeros ∈ zBig := zm 148 (by decide +kernel) rfl
set_option maxRecDepth 20000 in
theorem co_JL_numberOfLeadingZeros : Cond.code yJL_numberOfLeadingZeros bJL_numberOfLeadingZeros 3 (some .int) ∈ zBig := zm 149 rfl rfl
theorem st_JI_numberOfLeadingZeros : Cond.static yJI_numberOfLeadingZeros ∈ zBig := zm 151 (by decide +kernel) rfl
set_option maxRecDepth 20000 in
theorem co_JI_numberOfLeadingZeros : Cond.code yJI_numberOfLeadingZeros bJI_numberOfLeadingZeros 2 (some .int) ∈ zBig := zm 152 rfl rfl
theorem st_JM_max : Cond.static Lib.Math.max.name ∈ zBig := zm 155 (by decide +kernel) rfl
set_option maxRecDepth 20000 in
theorem co_JM_max : Cond.code Lib.Math.max.name Lib.Math.max.code 2 (some .int) ∈ zBig := zm 156 rfl rfl
theorem st_V_dropBits : Cond.static yV_dropBits ∈ zBig := zm 158 (by decide +kernel) rfl
set_option maxRecDepth 20000 in
theorem co_V_dropBits : Cond.code yV_dropBits bV_dropBits 11 (some .long) ∈ zBig := zm 159 rfl rfl
theorem im_V_setZero : Cond.instanceMethod yV_setZero ∈ zBig := zm 162 (by decide +kernel) rfl
set_option maxRecDepth 20000 in
theorem co_V_setZero : Cond.code yV_setZero bV_setZero 1 none ∈ zBig := zm 163 rfl rfl
theorem se_V_setZero : Cond.selects RV yV_setZero yV_setZero ∈ zBig := zm 3 (by decide +kernel) rfl
theorem im_V_setInfinity : Cond.instanceMethod yV_setInfinity ∈ zBig := zm 166 (by decide +kernel) rfl
set_option maxRecDepth 20000 in
theorem co_V_setInfinity : Cond.code yV_setInfinity bV_setInfinity 2 none ∈ zBig := zm 167 rfl rfl
theorem se_V_setInfinity : Cond.selects RV yV_setInfinity yV_setInfinity ∈ zBig := zm 4 (by decide +kernel) rfl
theorem st_JL_numberOfTrailingZeros : Cond.static yJL_numberOfTrailingZeros ∈ zBig := zm 169 (by decide +kernel) rfl
set_option maxRecDepth 20000 in
theorem co_JL_numberOfTrailingZeros : Cond.code yJL_numberOfTrailingZeros bJL_numberOfTrailingZeros 3 (some .int) ∈ zBig := zm 170 rfl rfl
theorem st_JI_numberOfTrailingZeros : Cond.static yJI_numberOfTrailingZeros ∈ zBig := zm 172 (by decide +kernel) rfl
set_option maxRecDepth 20000 in
theorem co_JI_numberOfTrailingZeros : Cond.code yJI_numberOfTrailingZeros bJI_numberOfTrailingZeros 2 (some .int) ∈ zBig := zm 173 rfl rfl
theorem st_JM_min : Cond.static Lib.Math.min.name ∈ zBig := zm 175 (by decide +kernel) rfl
set_option maxRecDepth 20000 in
theorem co_JM_min : Cond.code Lib.Math.min.name Lib.Math.min.code 2 (some .int) ∈ zBig := zm 176 rfl rfl
theorem im_V_become : Cond.instanceMethod yV_become ∈ zBig := zm 179 (by decide +kernel) rfl
set_option maxRecDepth 20000 in
theorem co_V_become : Cond.code yV_become bV_become 2 none ∈ zBig := zm 180 rfl rfl
theorem se_V_become : Cond.selects RV yV_become yV_become ∈ zBig := zm 5 (by decide +kernel) rfl
theorem im_N_special : Cond.instanceMethod yN_special ∈ zBig := zm 182 (by decide +kernel) rfl
set_option maxRecDepth 20000 in
theorem co_N_special : Cond.code yN_special bN_special 3 (some .boolean) ∈ zBig := zm 184 rfl rfl
theorem se_N_special : Cond.selects RN yN_special yN_special ∈ zBig := zm 183 (by decide +kernel) rfl
theorem im_V_setSpecial : Cond.instanceMethod yV_setSpecial ∈ zBig := zm 187 (by decide +kernel) rfl
set_option maxRecDepth 20000 in
theorem co_V_setSpecial : Cond.code yV_setSpecial bV_setSpecial 2 none ∈ zBig := zm 188 rfl rfl
theorem se_V_setSpecial : Cond.selects RV yV_setSpecial yV_setSpecial ∈ zBig := zm 6 (by decide +kernel) rfl
theorem im_N_operate : Cond.instanceMethod yN_operate ∈ zBig := zm 190 (by decide +kernel) rfl
set_option maxRecDepth 20000 in
theorem co_N_operate : Cond.code yN_operate bN_operate 6 (some .int) ∈ zBig := zm 192 rfl rfl
theorem se_N_operate : Cond.selects RN yN_operate yN_operate ∈ zBig := zm 191 (by decide +kernel) rfl
theorem im_N_addOrMultiply : Cond.instanceMethod yN_addOrMultiply ∈ zBig := zm 195 (by decide +kernel) rfl
set_option maxRecDepth 20000 in
theorem co_N_addOrMultiply : Cond.code yN_addOrMultiply bN_addOrMultiply 6 (some .int) ∈ zBig := zm 196 rfl rfl
theorem se_N_addOrMultiply : Cond.selects RN yN_addOrMultiply yN_addOrMultiply ∈ zBig := zm 7 (by decide +kernel) rfl
theorem im_N_areWhole : Cond.instanceMethod yN_areWhole ∈ zBig := zm 199 (by decide +kernel) rfl
set_option maxRecDepth 20000 in
theorem co_N_areWhole : Cond.code yN_areWhole bN_areWhole 1 (some .boolean) ∈ zBig := zm 200 rfl rfl
theorem se_N_areWhole : Cond.selects RN yN_areWhole yN_areWhole ∈ zBig := zm 8 (by decide +kernel) rfl
theorem im_N_makeReals : Cond.instanceMethod yN_makeReals ∈ zBig := zm 203 (by decide +kernel) rfl
set_option maxRecDepth 20000 in
theorem co_N_makeReals : Cond.code yN_makeReals bN_makeReals 1 none ∈ zBig := zm 204 rfl rfl
theorem se_N_makeReals : Cond.selects RN yN_makeReals yN_makeReals ∈ zBig := zm 9 (by decide +kernel) rfl
theorem im_V_turnReal : Cond.instanceMethod yV_turnReal ∈ zBig := zm 207 (by decide +kernel) rfl
set_option maxRecDepth 20000 in
theorem co_V_turnReal : Cond.code yV_turnReal bV_turnReal 1 none ∈ zBig := zm 208 rfl rfl
theorem se_V_turnReal : Cond.selects RV yV_turnReal yV_turnReal ∈ zBig := zm 10 (by decide +kernel) rfl
theorem im_V_size : Cond.instanceMethod yV_size ∈ zBig := zm 211 (by decide +kernel) rfl
set_option maxRecDepth 20000 in
theorem co_V_size : Cond.code yV_size bV_size 1 (some .long) ∈ zBig := zm 212 rfl rfl
theorem se_V_size : Cond.selects RV yV_size yV_size ∈ zBig := zm 11 (by decide +kernel) rfl
theorem st_R_multiply : Cond.static yR_multiply ∈ zBig := zm 214 (by decide +kernel) rfl
set_option maxRecDepth 20000 in
theorem co_R_multiply : Cond.code yR_multiply bR_multiply 3 none ∈ zBig := zm 215 rfl rfl
theorem st_R_hasNoNumber : Cond.static yR_hasNoNumber ∈ zBig := zm 217 (by decide +kernel) rfl
set_option maxRecDepth 20000 in
theorem co_R_hasNoNumber : Cond.code yR_hasNoNumber bR_hasNoNumber 2 (some .boolean) ∈ zBig := zm 218 rfl rfl
theorem im_V_sign : Cond.instanceMethod yV_sign ∈ zBig := zm 222 (by decide +kernel) rfl
set_option maxRecDepth 20000 in
theorem co_V_sign : Cond.code yV_sign bV_sign 1 (some .int) ∈ zBig := zm 223 rfl rfl
theorem se_V_sign : Cond.selects RV yV_sign yV_sign ∈ zBig := zm 12 (by decide +kernel) rfl
theorem im_V_isInfinite : Cond.instanceMethod yV_isInfinite ∈ zBig := zm 226 (by decide +kernel) rfl
set_option maxRecDepth 20000 in
theorem co_V_isInfinite : Cond.code yV_isInfinite bV_isInfinite 1 (some .boolean) ∈ zBig := zm 227 rfl rfl
theorem se_V_isInfinite : Cond.selects RV yV_isInfinite yV_isInfinite ∈ zBig := zm 13 (by decide +kernel) rfl
theorem st_JL_signum : Cond.static yJL_signum ∈ zBig := zm 229 (by decide +kernel) rfl
set_option maxRecDepth 20000 in
theorem co_JL_signum : Cond.code yJL_signum bJL_signum 2 (some .int) ∈ zBig := zm 230 rfl rfl
theorem st_R_multiplyFinite : Cond.static yR_multiplyFinite ∈ zBig := zm 233 (by decide +kernel) rfl
set_option maxRecDepth 20000 in
theorem co_R_multiplyFinite : Cond.code yR_multiplyFinite bR_multiplyFinite 22 none ∈ zBig := zm 234 rfl rfl
theorem im_V_negate : Cond.instanceMethod yV_negate ∈ zBig := zm 244 (by decide +kernel) rfl
set_option maxRecDepth 20000 in
theorem co_V_negate : Cond.code yV_negate bV_negate 1 none ∈ zBig := zm 245 rfl rfl
theorem se_V_negate : Cond.selects RV yV_negate yV_negate ∈ zBig := zm 14 (by decide +kernel) rfl
theorem st_R_add : Cond.static yR_add ∈ zBig := zm 247 (by decide +kernel) rfl
set_option maxRecDepth 20000 in
theorem co_R_add : Cond.code yR_add bR_add 2 none ∈ zBig := zm 248 rfl rfl
theorem st_O_ofSizes : Cond.static yO_ofSizes ∈ zBig := zm 251 (by decide +kernel) rfl
set_option maxRecDepth 20000 in
theorem co_O_ofSizes : Cond.code yO_ofSizes bO_ofSizes 6 (some .int) ∈ zBig := zm 252 rfl rfl
theorem st_JI_compare : Cond.static yJI_compare ∈ zBig := zm 256 (by decide +kernel) rfl
set_option maxRecDepth 20000 in
theorem co_JI_compare : Cond.code yJI_compare bJI_compare 2 (some .int) ∈ zBig := zm 257 rfl rfl
theorem st_JL_compare : Cond.static yJL_compare ∈ zBig := zm 259 (by decide +kernel) rfl
set_option maxRecDepth 20000 in
theorem co_JL_compare : Cond.code yJL_compare bJL_compare 4 (some .int) ∈ zBig := zm 260 rfl rfl
theorem st_R_addSmaller : Cond.static yR_addSmaller ∈ zBig := zm 262 (by decide +kernel) rfl
set_option maxRecDepth 20000 in
theorem co_R_addSmaller : Cond.code yR_addSmaller bR_addSmaller 14 none ∈ zBig := zm 263 rfl rfl
theorem im_N_divideOrRemain : Cond.instanceMethod yN_divideOrRemain ∈ zBig := zm 266 (by decide +kernel) rfl
set_option maxRecDepth 20000 in
theorem co_N_divideOrRemain : Cond.code yN_divideOrRemain bN_divideOrRemain 2 (some .int) ∈ zBig := zm 267 rfl rfl
theorem se_N_divideOrRemain : Cond.selects RN yN_divideOrRemain yN_divideOrRemain ∈ zBig := zm 15 (by decide +kernel) rfl
theorem im_N_divideOrRemainReal : Cond.instanceMethod yN_divideOrRemainReal ∈ zBig := zm 270 (by decide +kernel) rfl
set_option maxRecDepth 20000 in
theorem co_N_divideOrRemainReal : Cond.code yN_divideOrRemainReal bN_divideOrRemainReal 2 none ∈ zBig := zm 271 rfl rfl
theorem se_N_divideOrRemainReal : Cond.selects RN yN_divideOrRemainReal yN_divideOrRemainReal ∈ zBig := zm 16 (by decide +kernel) rfl
theorem st_R_remainder : Cond.static yR_remainder ∈ zBig := zm 273 (by decide +kernel) rfl
set_option maxRecDepth 20000 in
theorem co_R_remainder : Cond.code yR_remainder bR_remainder 2 none ∈ zBig := zm 274 rfl rfl
theorem st_R_remainderOfSizes : Cond.static yR_remainderOfSizes ∈ zBig := zm 276 (by decide +kernel) rfl
set_option maxRecDepth 20000 in
theorem co_R_remainderOfSizes : Cond.code yR_remainderOfSizes bR_remainderOfSizes 5 none ∈ zBig := zm 277 rfl rfl
theorem st_R_remainderAbove : Cond.static yR_remainderAbove ∈ zBig := zm 279 (by decide +kernel) rfl
set_option maxRecDepth 20000 in
theorem co_R_remainderAbove : Cond.code yR_remainderAbove bR_remainderAbove 8 (some .long) ∈ zBig := zm 280 rfl rfl
theorem st_R_divide : Cond.static yR_divide ∈ zBig := zm 282 (by decide +kernel) rfl
set_option maxRecDepth 20000 in
theorem co_R_divide : Cond.code yR_divide bR_divide 2 none ∈ zBig := zm 283 rfl rfl
theorem st_R_divideByZero : Cond.static yR_divideByZero ∈ zBig := zm 286 (by decide +kernel) rfl
set_option maxRecDepth 20000 in
theorem co_R_divideByZero : Cond.code yR_divideByZero bR_divideByZero 1 none ∈ zBig := zm 287 rfl rfl
theorem st_R_divideFinite : Cond.static yR_divideFinite ∈ zBig := zm 289 (by decide +kernel) rfl
set_option maxRecDepth 20000 in
theorem co_R_divideFinite : Cond.code yR_divideFinite bR_divideFinite 13 none ∈ zBig := zm 290 rfl rfl
theorem im_V_roundDown : Cond.instanceMethod yV_roundDown ∈ zBig := zm 293 (by decide +kernel) rfl
set_option maxRecDepth 20000 in
theorem co_V_roundDown : Cond.code yV_roundDown bV_roundDown 1 none ∈ zBig := zm 294 rfl rfl
theorem se_V_roundDown : Cond.selects RV yV_roundDown yV_roundDown ∈ zBig := zm 17 (by decide +kernel) rfl
theorem im_V_floor : Cond.instanceMethod yV_floor ∈ zBig := zm 297 (by decide +kernel) rfl
set_option maxRecDepth 20000 in
theorem co_V_floor : Cond.code yV_floor bV_floor 1 (some .long) ∈ zBig := zm 298 rfl rfl
theorem se_V_floor : Cond.selects RV yV_floor yV_floor ∈ zBig := zm 18 (by decide +kernel) rfl
theorem st_JM_floorDiv : Cond.static yJM_floorDiv ∈ zBig := zm 301 (by decide +kernel) rfl
set_option maxRecDepth 20000 in
theorem co_JM_floorDiv : Cond.code yJM_floorDiv bJM_floorDiv 6 (some .long) ∈ zBig := zm 302 rfl rfl
theorem st_JM_floorMod : Cond.static yJM_floorMod ∈ zBig := zm 304 (by decide +kernel) rfl
set_option maxRecDepth 20000 in
theorem co_JM_floorMod : Cond.code yJM_floorMod bJM_floorMod 6 (some .long) ∈ zBig := zm 305 rfl rfl
theorem im_N_power : Cond.instanceMethod yN_power ∈ zBig := zm 308 (by decide +kernel) rfl
set_option maxRecDepth 20000 in
theorem co_N_power : Cond.code yN_power bN_power 3 (some .int) ∈ zBig := zm 309 rfl rfl
theorem se_N_power : Cond.selects RN yN_power yN_power ∈ zBig := zm 19 (by decide +kernel) rfl
theorem im_V_countsAsWhole : Cond.instanceMethod yV_countsAsWhole ∈ zBig := zm 312 (by decide +kernel) rfl
set_option maxRecDepth 20000 in
theorem co_V_countsAsWhole : Cond.code yV_countsAsWhole bV_countsAsWhole 1 (some .boolean) ∈ zBig := zm 313 rfl rfl
theorem se_V_countsAsWhole : Cond.selects RV yV_countsAsWhole yV_countsAsWhole ∈ zBig := zm 20 (by decide +kernel) rfl
theorem im_V_asWhole : Cond.instanceMethod yV_asWhole ∈ zBig := zm 316 (by decide +kernel) rfl
set_option maxRecDepth 20000 in
theorem co_V_asWhole : Cond.code yV_asWhole bV_asWhole 1 (some .long) ∈ zBig := zm 317 rfl rfl
theorem se_V_asWhole : Cond.selects RV yV_asWhole yV_asWhole ∈ zBig := zm 21 (by decide +kernel) rfl
theorem im_N_raise : Cond.instanceMethod yN_raise ∈ zBig := zm 323 (by decide +kernel) rfl
set_option maxRecDepth 20000 in
theorem co_N_raise : Cond.code yN_raise bN_raise 4 none ∈ zBig := zm 324 rfl rfl
theorem se_N_raise : Cond.selects RN yN_raise yN_raise ∈ zBig := zm 22 (by decide +kernel) rfl
theorem im_N_combineBits : Cond.instanceMethod yN_combineBits ∈ zBig := zm 328 (by decide +kernel) rfl
set_option maxRecDepth 20000 in
theorem co_N_combineBits : Cond.code yN_combineBits bN_combineBits 6 (some .int) ∈ zBig := zm 329 rfl rfl
theorem se_N_combineBits : Cond.selects RN yN_combineBits yN_combineBits ∈ zBig := zm 23 (by decide +kernel) rfl
theorem st_N_shiftLeft : Cond.static yN_shiftLeft ∈ zBig := zm 331 (by decide +kernel) rfl
set_option maxRecDepth 20000 in
theorem co_N_shiftLeft : Cond.code yN_shiftLeft bN_shiftLeft 4 (some .long) ∈ zBig := zm 332 rfl rfl
theorem im_N_applyToOne : Cond.instanceMethod yN_applyToOne ∈ zBig := zm 337 (by decide +kernel) rfl
set_option maxRecDepth 20000 in
theorem co_N_applyToOne : Cond.code yN_applyToOne bN_applyToOne 2 (some .int) ∈ zBig := zm 338 rfl rfl
theorem se_N_applyToOne : Cond.selects RN yN_applyToOne yN_applyToOne ∈ zBig := zm 24 (by decide +kernel) rfl
theorem im_N_compare : Cond.instanceMethod yN_compare ∈ zBig := zm 342 (by decide +kernel) rfl
set_option maxRecDepth 20000 in
theorem co_N_compare : Cond.code yN_compare bN_compare 8 (some .int) ∈ zBig := zm 344 rfl rfl
theorem se_N_compare : Cond.selects RN yN_compare yN_compare ∈ zBig := zm 343 (by decide +kernel) rfl
theorem st_O_of : Cond.static yO_of ∈ zBig := zm 346 (by decide +kernel) rfl
set_option maxRecDepth 20000 in
theorem co_O_of : Cond.code yO_of bO_of 2 (some .int) ∈ zBig := zm 347 rfl rfl
theorem st_O_infinityOf : Cond.static yO_infinityOf ∈ zBig := zm 350 (by decide +kernel) rfl
set_option maxRecDepth 20000 in
theorem co_O_infinityOf : Cond.code yO_infinityOf bO_infinityOf 1 (some .int) ∈ zBig := zm 351 rfl rfl
theorem st_O_ofWhole : Cond.static yO_ofWhole ∈ zBig := zm 354 (by decide +kernel) rfl
set_option maxRecDepth 20000 in
theorem co_O_ofWhole : Cond.code yO_ofWhole bO_ofWhole 5 (some .int) ∈ zBig := zm 355 rfl rfl
theorem st_O_ofReals : Cond.static yO_ofReals ∈ zBig := zm 359 (by decide +kernel) rfl
set_option maxRecDepth 20000 in
theorem co_O_ofReals : Cond.code yO_ofReals bO_ofReals 2 (some .int) ∈ zBig := zm 360 rfl rfl
theorem im_N_kind : Cond.instanceMethod yN_kind ∈ zBig := zm 363 (by decide +kernel) rfl
set_option maxRecDepth 20000 in
theorem co_N_kind : Cond.code yN_kind bN_kind 2 (some .int) ∈ zBig := zm 365 rfl rfl
theorem se_N_kind : Cond.selects RN yN_kind yN_kind ∈ zBig := zm 364 (by decide +kernel) rfl
theorem im_N_number : Cond.instanceMethod yN_number ∈ zBig := zm 367 (by decide +kernel) rfl
set_option maxRecDepth 20000 in
theorem co_N_number : Cond.code yN_number bN_number 2 (some .long) ∈ zBig := zm 369 rfl rfl
theorem se_N_number : Cond.selects RN yN_number yN_number ∈ zBig := zm 368 (by decide +kernel) rfl
theorem im_N_exponent : Cond.instanceMethod yN_exponent ∈ zBig := zm 371 (by decide +kernel) rfl
set_option maxRecDepth 20000 in
theorem co_N_exponent : Cond.code yN_exponent bN_exponent 2 (some .int) ∈ zBig := zm 373 rfl rfl
theorem se_N_exponent : Cond.selects RN yN_exponent yN_exponent ∈ zBig := zm 372 (by decide +kernel) rfl
theorem im_N_sum : Cond.instanceMethod yN_sum ∈ zBig := zm 375 (by decide +kernel) rfl
set_option maxRecDepth 20000 in
theorem co_N_sum : Cond.code yN_sum bN_sum 5 (some .boolean) ∈ zBig := zm 377 rfl rfl
theorem se_N_sum : Cond.selects RN yN_sum yN_sum ∈ zBig := zm 376 (by decide +kernel) rfl
theorem st_N_isRow : Cond.static yN_isRow ∈ zBig := zm 379 (by decide +kernel) rfl
set_option maxRecDepth 20000 in
theorem co_N_isRow : Cond.code yN_isRow bN_isRow 2 (some .boolean) ∈ zBig := zm 380 rfl rfl
theorem im_N_polynomial : Cond.instanceMethod yN_polynomial ∈ zBig := zm 382 (by decide +kernel) rfl
set_option maxRecDepth 20000 in
theorem co_N_polynomial : Cond.code yN_polynomial bN_polynomial 6 (some .boolean) ∈ zBig := zm 384 rfl rfl
theorem se_N_polynomial : Cond.selects RN yN_polynomial yN_polynomial ∈ zBig := zm 383 (by decide +kernel) rfl
theorem im_N_sort : Cond.instanceMethod yN_sort ∈ zBig := zm 386 (by decide +kernel) rfl
set_option maxRecDepth 20000 in
theorem co_N_sort : Cond.code yN_sort bN_sort 4 (some .boolean) ∈ zBig := zm 388 rfl rfl
theorem se_N_sort : Cond.selects RN yN_sort yN_sort ∈ zBig := zm 387 (by decide +kernel) rfl
theorem im_N_insert : Cond.instanceMethod yN_insert ∈ zBig := zm 391 (by decide +kernel) rfl
set_option maxRecDepth 20000 in
theorem co_N_insert : Cond.code yN_insert bN_insert 5 none ∈ zBig := zm 392 rfl rfl
theorem se_N_insert : Cond.selects RN yN_insert yN_insert ∈ zBig := zm 25 (by decide +kernel) rfl
theorem st_O_goesBefore : Cond.static yO_goesBefore ∈ zBig := zm 394 (by decide +kernel) rfl
set_option maxRecDepth 20000 in
theorem co_O_goesBefore : Cond.code yO_goesBefore bO_goesBefore 2 (some .boolean) ∈ zBig := zm 395 rfl rfl
theorem im_M_init : Cond.instanceMethod yM_init ∈ zBig := zm 400 (by decide +kernel) rfl
set_option maxRecDepth 20000 in
theorem co_M_init : Cond.code yM_init bM_init 2 none ∈ zBig := zm 401 rfl rfl
theorem im_M_whole : Cond.instanceMethod yM_whole ∈ zBig := zm 449 (by decide +kernel) rfl
set_option maxRecDepth 20000 in
theorem co_M_whole : Cond.code yM_whole bM_whole 4 (some .boolean) ∈ zBig := zm 451 rfl rfl
theorem se_M_whole : Cond.selects RM yM_whole yM_whole ∈ zBig := zm 450 (by decide +kernel) rfl
theorem st_M_isRegister : Cond.static yM_isRegister ∈ zBig := zm 453 (by decide +kernel) rfl
set_option maxRecDepth 20000 in
theorem co_M_isRegister : Cond.code yM_isRegister bM_isRegister 1 (some .boolean) ∈ zBig := zm 454 rfl rfl
theorem im_M_setWhole : Cond.instanceMethod yM_setWhole ∈ zBig := zm 457 (by decide +kernel) rfl
set_option maxRecDepth 20000 in
theorem co_M_setWhole : Cond.code yM_setWhole bM_setWhole 3 none ∈ zBig := zm 458 rfl rfl
theorem se_M_setWhole : Cond.selects RM yM_setWhole yM_setWhole ∈ zBig := zm 26 (by decide +kernel) rfl
theorem im_M_put : Cond.instanceMethod yM_put ∈ zBig := zm 461 (by decide +kernel) rfl
set_option maxRecDepth 20000 in
theorem co_M_put : Cond.code yM_put bM_put 2 none ∈ zBig := zm 462 rfl rfl
theorem se_M_put : Cond.selects RM yM_put yM_put ∈ zBig := zm 27 (by decide +kernel) rfl
theorem im_M_real : Cond.instanceMethod yM_real ∈ zBig := zm 464 (by decide +kernel) rfl
set_option maxRecDepth 20000 in
theorem co_M_real : Cond.code yM_real bM_real 5 (some .boolean) ∈ zBig := zm 466 rfl rfl
theorem se_M_real : Cond.selects RM yM_real yM_real ∈ zBig := zm 465 (by decide +kernel) rfl
theorem im_M_nearestOf : Cond.instanceMethod yM_nearestOf ∈ zBig := zm 469 (by decide +kernel) rfl
set_option maxRecDepth 20000 in
theorem co_M_nearestOf : Cond.code yM_nearestOf bM_nearestOf 6 none ∈ zBig := zm 470 rfl rfl
theorem se_M_nearestOf : Cond.selects RM yM_nearestOf yM_nearestOf ∈ zBig := zm 28 (by decide +kernel) rfl
theorem im_M_nearest : Cond.instanceMethod yM_nearest ∈ zBig := zm 474 (by decide +kernel) rfl
set_option maxRecDepth 20000 in
theorem co_M_nearest : Cond.code yM_nearest bM_nearest 15 none ∈ zBig := zm 475 rfl rfl
theorem se_M_nearest : Cond.selects RM yM_nearest yM_nearest ∈ zBig := zm 29 (by decide +kernel) rfl
theorem im_M_plain : Cond.instanceMethod yM_plain ∈ zBig := zm 478 (by decide +kernel) rfl
set_option maxRecDepth 20000 in
theorem co_M_plain : Cond.code yM_plain bM_plain 4 none ∈ zBig := zm 479 rfl rfl
theorem se_M_plain : Cond.selects RM yM_plain yM_plain ∈ zBig := zm 30 (by decide +kernel) rfl
theorem im_M_setSpecial : Cond.instanceMethod yM_setSpecial ∈ zBig := zm 482 (by decide +kernel) rfl
set_option maxRecDepth 20000 in
theorem co_M_setSpecial : Cond.code yM_setSpecial bM_setSpecial 2 none ∈ zBig := zm 483 rfl rfl
theorem se_M_setSpecial : Cond.selects RM yM_setSpecial yM_setSpecial ∈ zBig := zm 31 (by decide +kernel) rfl
theorem st_M_size : Cond.static yM_size ∈ zBig := zm 485 (by decide +kernel) rfl
set_option maxRecDepth 20000 in
theorem co_M_size : Cond.code yM_size bM_size 2 (some .long) ∈ zBig := zm 486 rfl rfl
theorem im_M_special : Cond.instanceMethod yM_special ∈ zBig := zm 488 (by decide +kernel) rfl
set_option maxRecDepth 20000 in
theorem co_M_special : Cond.code yM_special bM_special 3 (some .boolean) ∈ zBig := zm 490 rfl rfl
theorem se_M_special : Cond.selects RM yM_special yM_special ∈ zBig := zm 489 (by decide +kernel) rfl
theorem im_M_operate : Cond.instanceMethod yM_operate ∈ zBig := zm 492 (by decide +kernel) rfl
set_option maxRecDepth 20000 in
theorem co_M_operate : Cond.code yM_operate bM_operate 6 (some .int) ∈ zBig := zm 494 rfl rfl
theorem se_M_operate : Cond.selects RM yM_operate yM_operate ∈ zBig := zm 493 (by decide +kernel) rfl
theorem im_M_takeA : Cond.instanceMethod yM_takeA ∈ zBig := zm 497 (by decide +kernel) rfl
set_option maxRecDepth 20000 in
theorem co_M_takeA : Cond.code yM_takeA bM_takeA 2 none ∈ zBig := zm 498 rfl rfl
theorem se_M_takeA : Cond.selects RM yM_takeA yM_takeA ∈ zBig := zm 32 (by decide +kernel) rfl
theorem im_M_takeB : Cond.instanceMethod yM_takeB ∈ zBig := zm 501 (by decide +kernel) rfl
set_option maxRecDepth 20000 in
theorem co_M_takeB : Cond.code yM_takeB bM_takeB 2 none ∈ zBig := zm 502 rfl rfl
theorem se_M_takeB : Cond.selects RM yM_takeB yM_takeB ∈ zBig := zm 33 (by decide +kernel) rfl
theorem im_M_operation : Cond.instanceMethod yM_operation ∈ zBig := zm 505 (by decide +kernel) rfl
set_option maxRecDepth 20000 in
theorem co_M_operation : Cond.code yM_operation bM_operation 3 (some .int) ∈ zBig := zm 506 rfl rfl
theorem se_M_operation : Cond.selects RM yM_operation yM_operation ∈ zBig := zm 34 (by decide +kernel) rfl
theorem im_M_bitwise : Cond.instanceMethod yM_bitwise ∈ zBig := zm 509 (by decide +kernel) rfl
set_option maxRecDepth 20000 in
theorem co_M_bitwise : Cond.code yM_bitwise bM_bitwise 8 (some .int) ∈ zBig := zm 510 rfl rfl
theorem se_M_bitwise : Cond.selects RM yM_bitwise yM_bitwise ∈ zBig := zm 35 (by decide +kernel) rfl
theorem im_M_isWhole : Cond.instanceMethod yM_isWhole ∈ zBig := zm 513 (by decide +kernel) rfl
set_option maxRecDepth 20000 in
theorem co_M_isWhole : Cond.code yM_isWhole bM_isWhole 5 (some .boolean) ∈ zBig := zm 514 rfl rfl
theorem se_M_isWhole : Cond.selects RM yM_isWhole yM_isWhole ∈ zBig := zm 36 (by decide +kernel) rfl
theorem im_M_wholeOf : Cond.instanceMethod yM_wholeOf ∈ zBig := zm 518 (by decide +kernel) rfl
set_option maxRecDepth 20000 in
theorem co_M_wholeOf : Cond.code yM_wholeOf bM_wholeOf 5 (some .long) ∈ zBig := zm 519 rfl rfl
theorem se_M_wholeOf : Cond.selects RM yM_wholeOf yM_wholeOf ∈ zBig := zm 37 (by decide +kernel) rfl
theorem st_M_shifted : Cond.static yM_shifted ∈ zBig := zm 521 (by decide +kernel) rfl
set_option maxRecDepth 20000 in
theorem co_M_shifted : Cond.code yM_shifted bM_shifted 4 (some .long) ∈ zBig := zm 522 rfl rfl
theorem im_M_single : Cond.instanceMethod yM_single ∈ zBig := zm 527 (by decide +kernel) rfl
set_option maxRecDepth 20000 in
theorem co_M_single : Cond.code yM_single bM_single 2 (some .int) ∈ zBig := zm 528 rfl rfl
theorem se_M_single : Cond.selects RM yM_single yM_single ∈ zBig := zm 38 (by decide +kernel) rfl
theorem im_M_negative : Cond.instanceMethod yM_negative ∈ zBig := zm 531 (by decide +kernel) rfl
set_option maxRecDepth 20000 in
theorem co_M_negative : Cond.code yM_negative bM_negative 1 none ∈ zBig := zm 532 rfl rfl
theorem se_M_negative : Cond.selects RM yM_negative yM_negative ∈ zBig := zm 39 (by decide +kernel) rfl
theorem im_M_floorOfA : Cond.instanceMethod yM_floorOfA ∈ zBig := zm 535 (by decide +kernel) rfl
set_option maxRecDepth 20000 in
theorem co_M_floorOfA : Cond.code yM_floorOfA bM_floorOfA 1 none ∈ zBig := zm 536 rfl rfl
theorem se_M_floorOfA : Cond.selects RM yM_floorOfA yM_floorOfA ∈ zBig := zm 40 (by decide +kernel) rfl
theorem im_M_copyA : Cond.instanceMethod yM_copyA ∈ zBig := zm 539 (by decide +kernel) rfl
set_option maxRecDepth 20000 in
theorem co_M_copyA : Cond.code yM_copyA bM_copyA 1 none ∈ zBig := zm 540 rfl rfl
theorem se_M_copyA : Cond.selects RM yM_copyA yM_copyA ∈ zBig := zm 41 (by decide +kernel) rfl
theorem im_M_roundDown : Cond.instanceMethod yM_roundDown ∈ zBig := zm 543 (by decide +kernel) rfl
set_option maxRecDepth 20000 in
theorem co_M_roundDown : Cond.code yM_roundDown bM_roundDown 1 none ∈ zBig := zm 544 rfl rfl
theorem se_M_roundDown : Cond.selects RM yM_roundDown yM_roundDown ∈ zBig := zm 42 (by decide +kernel) rfl
theorem im_M_realA : Cond.instanceMethod yM_realA ∈ zBig := zm 547 (by decide +kernel) rfl
set_option maxRecDepth 20000 in
theorem co_M_realA : Cond.code yM_realA bM_realA 1 none ∈ zBig := zm 548 rfl rfl
theorem se_M_realA : Cond.selects RM yM_realA yM_realA ∈ zBig := zm 43 (by decide +kernel) rfl
theorem im_M_resultToA : Cond.instanceMethod yM_resultToA ∈ zBig := zm 551 (by decide +kernel) rfl
set_option maxRecDepth 20000 in
theorem co_M_resultToA : Cond.code yM_resultToA bM_resultToA 1 none ∈ zBig := zm 552 rfl rfl
theorem se_M_resultToA : Cond.selects RM yM_resultToA yM_resultToA ∈ zBig := zm 44 (by decide +kernel) rfl
theorem st_M_signOf : Cond.static yM_signOf ∈ zBig := zm 554 (by decide +kernel) rfl
set_option maxRecDepth 20000 in
theorem co_M_signOf : Cond.code yM_signOf bM_signOf 3 (some .int) ∈ zBig := zm 555 rfl rfl
theorem im_M_wholes : Cond.instanceMethod yM_wholes ∈ zBig := zm 558 (by decide +kernel) rfl
set_option maxRecDepth 20000 in
theorem co_M_wholes : Cond.code yM_wholes bM_wholes 2 (some .int) ∈ zBig := zm 559 rfl rfl
theorem se_M_wholes : Cond.selects RM yM_wholes yM_wholes ∈ zBig := zm 45 (by decide +kernel) rfl
theorem st_M_floorQuotient : Cond.static yM_floorQuotient ∈ zBig := zm 561 (by decide +kernel) rfl
set_option maxRecDepth 20000 in
theorem co_M_floorQuotient : Cond.code yM_floorQuotient bM_floorQuotient 6 (some .long) ∈ zBig := zm 562 rfl rfl
theorem im_M_reals : Cond.instanceMethod yM_reals ∈ zBig := zm 565 (by decide +kernel) rfl
set_option maxRecDepth 20000 in
theorem co_M_reals : Cond.code yM_reals bM_reals 2 (some .int) ∈ zBig := zm 566 rfl rfl
theorem se_M_reals : Cond.selects RM yM_reals yM_reals ∈ zBig := zm 46 (by decide +kernel) rfl
theorem im_M_realB : Cond.instanceMethod yM_realB ∈ zBig := zm 569 (by decide +kernel) rfl
set_option maxRecDepth 20000 in
theorem co_M_realB : Cond.code yM_realB bM_realB 1 none ∈ zBig := zm 570 rfl rfl
theorem se_M_realB : Cond.selects RM yM_realB yM_realB ∈ zBig := zm 47 (by decide +kernel) rfl
theorem im_M_resultToB : Cond.instanceMethod yM_resultToB ∈ zBig := zm 573 (by decide +kernel) rfl
set_option maxRecDepth 20000 in
theorem co_M_resultToB : Cond.code yM_resultToB bM_resultToB 1 none ∈ zBig := zm 574 rfl rfl
theorem se_M_resultToB : Cond.selects RM yM_resultToB yM_resultToB ∈ zBig := zm 48 (by decide +kernel) rfl
theorem im_M_add : Cond.instanceMethod yM_add ∈ zBig := zm 577 (by decide +kernel) rfl
set_option maxRecDepth 20000 in
theorem co_M_add : Cond.code yM_add bM_add 1 none ∈ zBig := zm 578 rfl rfl
theorem se_M_add : Cond.selects RM yM_add yM_add ∈ zBig := zm 49 (by decide +kernel) rfl
theorem st_M_isGreat : Cond.static yM_isGreat ∈ zBig := zm 580 (by decide +kernel) rfl
set_option maxRecDepth 20000 in
theorem co_M_isGreat : Cond.code yM_isGreat bM_isGreat 1 (some .boolean) ∈ zBig := zm 581 rfl rfl
theorem im_M_addNumbers : Cond.instanceMethod yM_addNumbers ∈ zBig := zm 584 (by decide +kernel) rfl
set_option maxRecDepth 20000 in
theorem co_M_addNumbers : Cond.code yM_addNumbers bM_addNumbers 19 none ∈ zBig := zm 585 rfl rfl
theorem se_M_addNumbers : Cond.selects RM yM_addNumbers yM_addNumbers ∈ zBig := zm 50 (by decide +kernel) rfl
theorem st_M_room : Cond.static yM_room ∈ zBig := zm 587 (by decide +kernel) rfl
set_option maxRecDepth 20000 in
theorem co_M_room : Cond.code yM_room bM_room 3 (some .int) ∈ zBig := zm 588 rfl rfl
theorem st_M_down : Cond.static yM_down ∈ zBig := zm 590 (by decide +kernel) rfl
set_option maxRecDepth 20000 in
theorem co_M_down : Cond.code yM_down bM_down 5 (some .long) ∈ zBig := zm 591 rfl rfl
theorem im_M_turnB : Cond.instanceMethod yM_turnB ∈ zBig := zm 594 (by decide +kernel) rfl
set_option maxRecDepth 20000 in
theorem co_M_turnB : Cond.code yM_turnB bM_turnB 1 none ∈ zBig := zm 595 rfl rfl
theorem se_M_turnB : Cond.selects RM yM_turnB yM_turnB ∈ zBig := zm 51 (by decide +kernel) rfl
theorem im_M_multiply : Cond.instanceMethod yM_multiply ∈ zBig := zm 598 (by decide +kernel) rfl
set_option maxRecDepth 20000 in
theorem co_M_multiply : Cond.code yM_multiply bM_multiply 2 none ∈ zBig := zm 599 rfl rfl
theorem se_M_multiply : Cond.selects RM yM_multiply yM_multiply ∈ zBig := zm 52 (by decide +kernel) rfl
theorem im_M_product : Cond.instanceMethod yM_product ∈ zBig := zm 602 (by decide +kernel) rfl
set_option maxRecDepth 20000 in
theorem co_M_product : Cond.code yM_product bM_product 17 none ∈ zBig := zm 603 rfl rfl
theorem se_M_product : Cond.selects RM yM_product yM_product ∈ zBig := zm 53 (by decide +kernel) rfl
theorem im_M_divide : Cond.instanceMethod yM_divide ∈ zBig := zm 607 (by decide +kernel) rfl
set_option maxRecDepth 20000 in
theorem co_M_divide : Cond.code yM_divide bM_divide 3 none ∈ zBig := zm 608 rfl rfl
theorem se_M_divide : Cond.selects RM yM_divide yM_divide ∈ zBig := zm 54 (by decide +kernel) rfl
theorem im_M_quotientBits : Cond.instanceMethod yM_quotientBits ∈ zBig := zm 611 (by decide +kernel) rfl
set_option maxRecDepth 20000 in
theorem co_M_quotientBits : Cond.code yM_quotientBits bM_quotientBits 10 none ∈ zBig := zm 612 rfl rfl
theorem se_M_quotientBits : Cond.selects RM yM_quotientBits yM_quotientBits ∈ zBig := zm 55 (by decide +kernel) rfl
theorem im_M_remainder : Cond.instanceMethod yM_remainder ∈ zBig := zm 615 (by decide +kernel) rfl
set_option maxRecDepth 20000 in
theorem co_M_remainder : Cond.code yM_remainder bM_remainder 3 none ∈ zBig := zm 616 rfl rfl
theorem se_M_remainder : Cond.selects RM yM_remainder yM_remainder ∈ zBig := zm 56 (by decide +kernel) rfl
theorem im_M_restOfSizes : Cond.instanceMethod yM_restOfSizes ∈ zBig := zm 619 (by decide +kernel) rfl
set_option maxRecDepth 20000 in
theorem co_M_restOfSizes : Cond.code yM_restOfSizes bM_restOfSizes 6 none ∈ zBig := zm 620 rfl rfl
theorem se_M_restOfSizes : Cond.selects RM yM_restOfSizes yM_restOfSizes ∈ zBig := zm 57 (by decide +kernel) rfl
theorem im_M_power : Cond.instanceMethod yM_power ∈ zBig := zm 624 (by decide +kernel) rfl
set_option maxRecDepth 20000 in
theorem co_M_power : Cond.code yM_power bM_power 13 (some .int) ∈ zBig := zm 625 rfl rfl
theorem se_M_power : Cond.selects RM yM_power yM_power ∈ zBig := zm 58 (by decide +kernel) rfl
theorem im_M_compare : Cond.instanceMethod yM_compare ∈ zBig := zm 629 (by decide +kernel) rfl
set_option maxRecDepth 20000 in
theorem co_M_compare : Cond.code yM_compare bM_compare 5 (some .int) ∈ zBig := zm 631 rfl rfl
theorem se_M_compare : Cond.selects RM yM_compare yM_compare ∈ zBig := zm 630 (by decide +kernel) rfl
theorem im_M_isEqual : Cond.instanceMethod yM_isEqual ∈ zBig := zm 634 (by decide +kernel) rfl
set_option maxRecDepth 20000 in
theorem co_M_isEqual : Cond.code yM_isEqual bM_isEqual 6 (some .boolean) ∈ zBig := zm 635 rfl rfl
theorem se_M_isEqual : Cond.selects RM yM_isEqual yM_isEqual ∈ zBig := zm 59 (by decide +kernel) rfl
theorem im_M_isLess : Cond.instanceMethod yM_isLess ∈ zBig := zm 638 (by decide +kernel) rfl
set_option maxRecDepth 20000 in
theorem co_M_isLess : Cond.code yM_isLess bM_isLess 2 (some .boolean) ∈ zBig := zm 639 rfl rfl
theorem se_M_isLess : Cond.selects RM yM_isLess yM_isLess ∈ zBig := zm 60 (by decide +kernel) rfl
theorem im_M_isWholeLess : Cond.instanceMethod yM_isWholeLess ∈ zBig := zm 642 (by decide +kernel) rfl
set_option maxRecDepth 20000 in
theorem co_M_isWholeLess : Cond.code yM_isWholeLess bM_isWholeLess 9 (some .boolean) ∈ zBig := zm 643 rfl rfl
theorem se_M_isWholeLess : Cond.selects RM yM_isWholeLess yM_isWholeLess ∈ zBig := zm 61 (by decide +kernel) rfl
theorem im_M_isRealLess : Cond.instanceMethod yM_isRealLess ∈ zBig := zm 646 (by decide +kernel) rfl
set_option maxRecDepth 20000 in
theorem co_M_isRealLess : Cond.code yM_isRealLess bM_isRealLess 4 (some .boolean) ∈ zBig := zm 647 rfl rfl
theorem se_M_isRealLess : Cond.selects RM yM_isRealLess yM_isRealLess ∈ zBig := zm 62 (by decide +kernel) rfl
theorem im_M_kind : Cond.instanceMethod yM_kind ∈ zBig := zm 649 (by decide +kernel) rfl
set_option maxRecDepth 20000 in
theorem co_M_kind : Cond.code yM_kind bM_kind 2 (some .int) ∈ zBig := zm 651 rfl rfl
theorem se_M_kind : Cond.selects RM yM_kind yM_kind ∈ zBig := zm 650 (by decide +kernel) rfl
theorem im_M_number : Cond.instanceMethod yM_number ∈ zBig := zm 653 (by decide +kernel) rfl
set_option maxRecDepth 20000 in
theorem co_M_number : Cond.code yM_number bM_number 2 (some .long) ∈ zBig := zm 655 rfl rfl
theorem se_M_number : Cond.selects RM yM_number yM_number ∈ zBig := zm 654 (by decide +kernel) rfl
theorem im_M_exponent : Cond.instanceMethod yM_exponent ∈ zBig := zm 657 (by decide +kernel) rfl
set_option maxRecDepth 20000 in
theorem co_M_exponent : Cond.code yM_exponent bM_exponent 2 (some .int) ∈ zBig := zm 659 rfl rfl
theorem se_M_exponent : Cond.selects RM yM_exponent yM_exponent ∈ zBig := zm 658 (by decide +kernel) rfl
theorem im_M_sum : Cond.instanceMethod yM_sum ∈ zBig := zm 661 (by decide +kernel) rfl
set_option maxRecDepth 20000 in
theorem co_M_sum : Cond.code yM_sum bM_sum 5 (some .boolean) ∈ zBig := zm 663 rfl rfl
theorem se_M_sum : Cond.selects RM yM_sum yM_sum ∈ zBig := zm 662 (by decide +kernel) rfl
theorem st_M_areRegisters : Cond.static yM_areRegisters ∈ zBig := zm 665 (by decide +kernel) rfl
set_option maxRecDepth 20000 in
theorem co_M_areRegisters : Cond.code yM_areRegisters bM_areRegisters 2 (some .boolean) ∈ zBig := zm 666 rfl rfl
theorem im_M_polynomial : Cond.instanceMethod yM_polynomial ∈ zBig := zm 668 (by decide +kernel) rfl
set_option maxRecDepth 20000 in
theorem co_M_polynomial : Cond.code yM_polynomial bM_polynomial 6 (some .boolean) ∈ zBig := zm 670 rfl rfl
theorem se_M_polynomial : Cond.selects RM yM_polynomial yM_polynomial ∈ zBig := zm 669 (by decide +kernel) rfl
theorem im_M_sort : Cond.instanceMethod yM_sort ∈ zBig := zm 672 (by decide +kernel) rfl
set_option maxRecDepth 20000 in
theorem co_M_sort : Cond.code yM_sort bM_sort 5 (some .boolean) ∈ zBig := zm 674 rfl rfl
theorem se_M_sort : Cond.selects RM yM_sort yM_sort ∈ zBig := zm 673 (by decide +kernel) rfl
theorem im_M_isBefore : Cond.instanceMethod yM_isBefore ∈ zBig := zm 677 (by decide +kernel) rfl
set_option maxRecDepth 20000 in
theorem co_M_isBefore : Cond.code yM_isBefore bM_isBefore 3 (some .boolean) ∈ zBig := zm 678 rfl rfl
theorem se_M_isBefore : Cond.selects RM yM_isBefore yM_isBefore ∈ zBig := zm 63 (by decide +kernel) rfl
theorem im_M_exchange : Cond.instanceMethod yM_exchange ∈ zBig := zm 682 (by decide +kernel) rfl
set_option maxRecDepth 20000 in
theorem co_M_exchange : Cond.code yM_exchange bM_exchange 3 none ∈ zBig := zm 683 rfl rfl
theorem se_M_exchange : Cond.selects RM yM_exchange yM_exchange ∈ zBig := zm 64 (by decide +kernel) rfl
theorem uw_V : ∀ w ∈ uwsV, w ∈ zBig := fun w h => List.mem_filter.mpr ⟨(show ∀ w ∈ uwsV, w ∈ lw_tbl by decide +kernel) w h, (show ∀ w ∈ uwsV, goodWord w = true by decide +kernel) w h⟩
theorem uc_V {c : Cond} : ∀ w ∈ uwsV, w ∈ c :: zBig := fun w h => zb (uw_V w h)
theorem uw_N : ∀ w ∈ uwsN, w ∈ zBig := fun w h => List.mem_filter.mpr ⟨(show ∀ w ∈ uwsN, w ∈ lw_tbl by decide +kernel) w h, (show ∀ w ∈ uwsN, goodWord w = true by decide +kernel) w h⟩
theorem uc_N {c : Cond} : ∀ w ∈ uwsN, w ∈ c :: zBig := fun w h => zb (uw_N w h)
theorem uw_M : ∀ w ∈ uwsM, w ∈ zBig := fun w h => List.mem_filter.mpr ⟨(show ∀ w ∈ uwsM, w ∈ lw_tbl by decide +kernel) w h, (show ∀ w ∈ uwsM, goodWord w = true by decide +kernel) w h⟩
theorem uc_M {c : Cond} : ∀ w ∈ uwsM, w ∈ c :: zBig := fun w h => zb (uw_M w h)
def zNF : List (String × Nat × String × String × String × String) := [(RR, 11, "MixedNumbers$Value", "kind", "I", "MixedNumbers"), (RO, 9, "MixedNumbers$Value", "kind", "I", "MixedNumbers"), (RN, 71, "MixedNumbers$Value", "kind", "I", "MixedNumbers"), (RN, 38, "MixedNumbers$Value", "number", "J", "MixedNumbers"), (RO, 35, "MixedNumbers$Value", "number", "J", "MixedNumbers"), (RR, 29, "MixedNumbers$Value", "number", "J", "MixedNumbers"), (RN, 42, "MixedNumbers$Value", "exponent", "I", "MixedNumbers"), (RR, 57, "MixedNumbers$Value", "exponent", "I", "MixedNumbers"), (RO, 55, "MixedNumbers$Value", "exponent", "I", "MixedNumbers")]
def zNM : List (String × Nat × MethodName × String) := [(RN, 15, yV_init, "MixedNumbers"), (RN, 30, yV_setWhole, "MixedNumbers"), (RN, 34, yV_setReal, "MixedNumbers"), (RN, 46, yV_become, "MixedNumbers"), (RN, 50, yV_setSpecial, "MixedNumbers"), (RN, 92, yV_turnReal, "MixedNumbers"), (RN, 102, yR_multiply, "MixedNumbers"), (RR, 21, yV_setSpecial, "MixedNumbers"), (RR, 60, yV_sign, "MixedNumbers"), (RR, 25, yV_isInfinite, "MixedNumbers"), (RR, 47, yV_size, "MixedNumbers"), (RR, 64, yV_setNearest, "MixedNumbers"), (RR, 72, yV_setInfinity, "MixedNumbers"), (RN, 108, yV_negate, "MixedNumbers"), (RN, 111, yR_add, "MixedNumbers"), (RR, 33, yV_become, "MixedNumbers"), (RR, 37, yO_ofSizes, "MixedNumbers"), (RO, 68, yV_size, "MixedNumbers"), (RN, 126, yR_remainder, "MixedNumbers"), (RN, 129, yR_divide, "MixedNumbers"), (RR, 86, yV_setZero, "MixedNumbers"), (RN, 132, yV_roundDown, "MixedNumbers"), (RN, 135, yV_countsAsWhole, "MixedNumbers"), (RN, 138, yV_asWhole, "MixedNumbers"), (RN, 165, yV_sign, "MixedNumbers"), (RN, 74, yO_of, "MixedNumbers"), (RO, 21, yV_isInfinite, "MixedNumbers"), (RO, 51, yV_sign, "MixedNumbers"), (RO, 58, yV_countsAsWhole, "MixedNumbers"), (RO, 61, yV_floor, "MixedNumbers"), (RN, 88, yO_goesBefore, "MixedNumbers")]
theorem nf_R_11 : ((RR, 11, "MixedNumbers$Value", "kind", "I", "MixedNumbers") : String × Nat × String × String × String × String) ∈ zNF := List.mem_of_getElem? (i := 0) rfl
theorem nf_O_9 : ((RO, 9, "MixedNumbers$Value", "kind", "I", "MixedNumbers") : String × Nat × String × String × String × String) ∈ zNF := List.mem_of_getElem? (i := 1) rfl
theorem nf_N_71 : ((RN, 71, "MixedNumbers$Value", "kind", "I", "MixedNumbers") : String × Nat × String × String × String × String) ∈ zNF := List.mem_of_getElem? (i := 2) rfl
theorem nf_N_38 : ((RN, 38, "MixedNumbers$Value", "number", "J", "MixedNumbers") : String × Nat × String × String × String × String) ∈ zNF := List.mem_of_getElem? (i := 3) rfl
theorem nf_O_35 : ((RO, 35, "MixedNumbers$Value", "number", "J", "MixedNumbers") : String × Nat × String × String × String × String) ∈ zNF := List.mem_of_getElem? (i := 4) rfl
theorem nf_R_29 : ((RR, 29, "MixedNumbers$Value", "number", "J", "MixedNumbers") : String × Nat × String × String × String × String) ∈ zNF := List.mem_of_getElem? (i := 5) rfl
theorem nf_N_42 : ((RN, 42, "MixedNumbers$Value", "exponent", "I", "MixedNumbers") : String × Nat × String × String × String × String) ∈ zNF := List.mem_of_getElem? (i := 6) rfl
theorem nf_R_57 : ((RR, 57, "MixedNumbers$Value", "exponent", "I", "MixedNumbers") : String × Nat × String × String × String × String) ∈ zNF := List.mem_of_getElem? (i := 7) rfl
theorem nf_O_55 : ((RO, 55, "MixedNumbers$Value", "exponent", "I", "MixedNumbers") : String × Nat × String × String × String × String) ∈ zNF := List.mem_of_getElem? (i := 8) rfl
theorem nl_N_15 : ((RN, 15, yV_init, "MixedNumbers") : String × Nat × MethodName × String) ∈ zNM := List.mem_of_getElem? (i := 0) rfl
theorem nl_N_30 : ((RN, 30, yV_setWhole, "MixedNumbers") : String × Nat × MethodName × String) ∈ zNM := List.mem_of_getElem? (i := 1) rfl
theorem nl_N_34 : ((RN, 34, yV_setReal, "MixedNumbers") : String × Nat × MethodName × String) ∈ zNM := List.mem_of_getElem? (i := 2) rfl
theorem nl_N_46 : ((RN, 46, yV_become, "MixedNumbers") : String × Nat × MethodName × String) ∈ zNM := List.mem_of_getElem? (i := 3) rfl
theorem nl_N_50 : ((RN, 50, yV_setSpecial, "MixedNumbers") : String × Nat × MethodName × String) ∈ zNM := List.mem_of_getElem? (i := 4) rfl
theorem nl_N_92 : ((RN, 92, yV_turnReal, "MixedNumbers") : String × Nat × MethodName × String) ∈ zNM := List.mem_of_getElem? (i := 5) rfl
theorem nl_N_102 : ((RN, 102, yR_multiply, "MixedNumbers") : String × Nat × MethodName × String) ∈ zNM := List.mem_of_getElem? (i := 6) rfl
theorem nl_R_21 : ((RR, 21, yV_setSpecial, "MixedNumbers") : String × Nat × MethodName × String) ∈ zNM := List.mem_of_getElem? (i := 7) rfl
theorem nl_R_60 : ((RR, 60, yV_sign, "MixedNumbers") : String × Nat × MethodName × String) ∈ zNM := List.mem_of_getElem? (i := 8) rfl
theorem nl_R_25 : ((RR, 25, yV_isInfinite, "MixedNumbers") : String × Nat × MethodName × String) ∈ zNM := List.mem_of_getElem? (i := 9) rfl
theorem nl_R_47 : ((RR, 47, yV_size, "MixedNumbers") : String × Nat × MethodName × String) ∈ zNM := List.mem_of_getElem? (i := 10) rfl
theorem nl_R_64 : ((RR, 64, yV_setNearest, "MixedNumbers") : String × Nat × MethodName × String) ∈ zNM := List.mem_of_getElem? (i := 11) rfl
theorem nl_R_72 : ((RR, 72, yV_setInfinity, "MixedNumbers") : String × Nat × MethodName × String) ∈ zNM := List.mem_of_getElem? (i := 12) rfl
theorem nl_N_108 : ((RN, 108, yV_negate, "MixedNumbers") : String × Nat × MethodName × String) ∈ zNM := List.mem_of_getElem? (i := 13) rfl
theorem nl_N_111 : ((RN, 111, yR_add, "MixedNumbers") : String × Nat × MethodName × String) ∈ zNM := List.mem_of_getElem? (i := 14) rfl
theorem nl_R_33 : ((RR, 33, yV_become, "MixedNumbers") : String × Nat × MethodName × String) ∈ zNM := List.mem_of_getElem? (i := 15) rfl
theorem nl_R_37 : ((RR, 37, yO_ofSizes, "MixedNumbers") : String × Nat × MethodName × String) ∈ zNM := List.mem_of_getElem? (i := 16) rfl
theorem nl_O_68 : ((RO, 68, yV_size, "MixedNumbers") : String × Nat × MethodName × String) ∈ zNM := List.mem_of_getElem? (i := 17) rfl
theorem nl_N_126 : ((RN, 126, yR_remainder, "MixedNumbers") : String × Nat × MethodName × String) ∈ zNM := List.mem_of_getElem? (i := 18) rfl
theorem nl_N_129 : ((RN, 129, yR_divide, "MixedNumbers") : String × Nat × MethodName × String) ∈ zNM := List.mem_of_getElem? (i := 19) rfl
theorem nl_R_86 : ((RR, 86, yV_setZero, "MixedNumbers") : String × Nat × MethodName × String) ∈ zNM := List.mem_of_getElem? (i := 20) rfl
theorem nl_N_132 : ((RN, 132, yV_roundDown, "MixedNumbers") : String × Nat × MethodName × String) ∈ zNM := List.mem_of_getElem? (i := 21) rfl
theorem nl_N_135 : ((RN, 135, yV_countsAsWhole, "MixedNumbers") : String × Nat × MethodName × String) ∈ zNM := List.mem_of_getElem? (i := 22) rfl
theorem nl_N_138 : ((RN, 138, yV_asWhole, "MixedNumbers") : String × Nat × MethodName × String) ∈ zNM := List.mem_of_getElem? (i := 23) rfl
theorem nl_N_165 : ((RN, 165, yV_sign, "MixedNumbers") : String × Nat × MethodName × String) ∈ zNM := List.mem_of_getElem? (i := 24) rfl
theorem nl_N_74 : ((RN, 74, yO_of, "MixedNumbers") : String × Nat × MethodName × String) ∈ zNM := List.mem_of_getElem? (i := 25) rfl
theorem nl_O_21 : ((RO, 21, yV_isInfinite, "MixedNumbers") : String × Nat × MethodName × String) ∈ zNM := List.mem_of_getElem? (i := 26) rfl
theorem nl_O_51 : ((RO, 51, yV_sign, "MixedNumbers") : String × Nat × MethodName × String) ∈ zNM := List.mem_of_getElem? (i := 27) rfl
theorem nl_O_58 : ((RO, 58, yV_countsAsWhole, "MixedNumbers") : String × Nat × MethodName × String) ∈ zNM := List.mem_of_getElem? (i := 28) rfl
theorem nl_O_61 : ((RO, 61, yV_floor, "MixedNumbers") : String × Nat × MethodName × String) ∈ zNM := List.mem_of_getElem? (i := 29) rfl
theorem nl_N_88 : ((RN, 88, yO_goesBefore, "MixedNumbers") : String × Nat × MethodName × String) ∈ zNM := List.mem_of_getElem? (i := 30) rfl
theorem zNF_in : ∀ q ∈ zNF, Cond.fieldLinkNest q.1 q.2.1 q.2.2.1 q.2.2.2.1 q.2.2.2.2.1 q.2.2.2.2.2 ∈ lw_tbl := by decide +kernel
theorem zNM_in : ∀ q ∈ zNM, Cond.methodLinkNest q.1 q.2.1 q.2.2.1 q.2.2.2 ∈ lw_tbl := by decide +kernel
