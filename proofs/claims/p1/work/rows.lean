section
-- ===== PART A: goes FIRST, ahead of the names: the tables' words, and 'selects' of the private methods out of them =====
/-- a private method of a class that the tables say can be made, by its rows of tables_1 -/
def lw_okq (q : MethodName × Nat) : Prop := (q.1.cls ≠ "java/lang/invoke/MethodHandle" ∧ q.1.cls ≠ "java/lang/invoke/VarHandle") ∧ Cond.instantiable q.1.cls q.2 ∈ tables_1 ∧ Cond.privateMethod q.1 ∈ tables_1 ∧ Cond.instanceMethod q.1 ∈ tables_1
theorem lw_p0 : lw_okq (⟨"MixedNumbers$Value", "setWhole", "(J)V"⟩, 3) := ⟨⟨by decide +kernel, by decide +kernel⟩, List.mem_of_getElem? (i := 19) (by decide +kernel), List.mem_of_getElem? (i := 64) (by decide +kernel), List.mem_of_getElem? (i := 65) (by decide +kernel)⟩
theorem lw_p1 : lw_okq (⟨"MixedNumbers$Value", "setReal", "(JI)V"⟩, 3) := ⟨⟨by decide +kernel, by decide +kernel⟩, List.mem_of_getElem? (i := 19) (by decide +kernel), List.mem_of_getElem? (i := 72) (by decide +kernel), List.mem_of_getElem? (i := 73) (by decide +kernel)⟩
theorem lw_p2 : lw_okq (⟨"MixedNumbers$Value", "setNearest", "(ZJZI)V"⟩, 3) := ⟨⟨by decide +kernel, by decide +kernel⟩, List.mem_of_getElem? (i := 19) (by decide +kernel), List.mem_of_getElem? (i := 79) (by decide +kernel), List.mem_of_getElem? (i := 80) (by decide +kernel)⟩
theorem lw_p3 : lw_okq (⟨"MixedNumbers$Value", "setZero", "()V"⟩, 3) := ⟨⟨by decide +kernel, by decide +kernel⟩, List.mem_of_getElem? (i := 19) (by decide +kernel), List.mem_of_getElem? (i := 96) (by decide +kernel), List.mem_of_getElem? (i := 97) (by decide +kernel)⟩
theorem lw_p4 : lw_okq (⟨"MixedNumbers$Value", "setInfinity", "(Z)V"⟩, 3) := ⟨⟨by decide +kernel, by decide +kernel⟩, List.mem_of_getElem? (i := 19) (by decide +kernel), List.mem_of_getElem? (i := 100) (by decide +kernel), List.mem_of_getElem? (i := 101) (by decide +kernel)⟩
theorem lw_p5 : lw_okq (⟨"MixedNumbers$Value", "become", "(LMixedNumbers$Value;)V"⟩, 3) := ⟨⟨by decide +kernel, by decide +kernel⟩, List.mem_of_getElem? (i := 19) (by decide +kernel), List.mem_of_getElem? (i := 113) (by decide +kernel), List.mem_of_getElem? (i := 114) (by decide +kernel)⟩
theorem lw_p6 : lw_okq (⟨"MixedNumbers$Value", "setSpecial", "(I)V"⟩, 3) := ⟨⟨by decide +kernel, by decide +kernel⟩, List.mem_of_getElem? (i := 19) (by decide +kernel), List.mem_of_getElem? (i := 121) (by decide +kernel), List.mem_of_getElem? (i := 122) (by decide +kernel)⟩
theorem lw_p7 : lw_okq (⟨"MixedNumbers", "addOrMultiply", "(I)I"⟩, 4) := ⟨⟨by decide +kernel, by decide +kernel⟩, List.mem_of_getElem? (i := 10) (by decide +kernel), List.mem_of_getElem? (i := 129) (by decide +kernel), List.mem_of_getElem? (i := 130) (by decide +kernel)⟩
theorem lw_p8 : lw_okq (⟨"MixedNumbers", "areWhole", "()Z"⟩, 4) := ⟨⟨by decide +kernel, by decide +kernel⟩, List.mem_of_getElem? (i := 10) (by decide +kernel), List.mem_of_getElem? (i := 133) (by decide +kernel), List.mem_of_getElem? (i := 134) (by decide +kernel)⟩
theorem lw_p9 : lw_okq (⟨"MixedNumbers", "makeReals", "()V"⟩, 4) := ⟨⟨by decide +kernel, by decide +kernel⟩, List.mem_of_getElem? (i := 10) (by decide +kernel), List.mem_of_getElem? (i := 137) (by decide +kernel), List.mem_of_getElem? (i := 138) (by decide +kernel)⟩
theorem lw_p10 : lw_okq (⟨"MixedNumbers$Value", "turnReal", "()V"⟩, 3) := ⟨⟨by decide +kernel, by decide +kernel⟩, List.mem_of_getElem? (i := 19) (by decide +kernel), List.mem_of_getElem? (i := 141) (by decide +kernel), List.mem_of_getElem? (i := 142) (by decide +kernel)⟩
theorem lw_p11 : lw_okq (⟨"MixedNumbers$Value", "size", "()J"⟩, 3) := ⟨⟨by decide +kernel, by decide +kernel⟩, List.mem_of_getElem? (i := 19) (by decide +kernel), List.mem_of_getElem? (i := 145) (by decide +kernel), List.mem_of_getElem? (i := 146) (by decide +kernel)⟩
theorem lw_p12 : lw_okq (⟨"MixedNumbers$Value", "sign", "()I"⟩, 3) := ⟨⟨by decide +kernel, by decide +kernel⟩, List.mem_of_getElem? (i := 19) (by decide +kernel), List.mem_of_getElem? (i := 156) (by decide +kernel), List.mem_of_getElem? (i := 157) (by decide +kernel)⟩
theorem lw_p13 : lw_okq (⟨"MixedNumbers$Value", "isInfinite", "()Z"⟩, 3) := ⟨⟨by decide +kernel, by decide +kernel⟩, List.mem_of_getElem? (i := 19) (by decide +kernel), List.mem_of_getElem? (i := 160) (by decide +kernel), List.mem_of_getElem? (i := 161) (by decide +kernel)⟩
theorem lw_p14 : lw_okq (⟨"MixedNumbers$Value", "negate", "()V"⟩, 3) := ⟨⟨by decide +kernel, by decide +kernel⟩, List.mem_of_getElem? (i := 19) (by decide +kernel), List.mem_of_getElem? (i := 178) (by decide +kernel), List.mem_of_getElem? (i := 179) (by decide +kernel)⟩
theorem lw_p15 : lw_okq (⟨"MixedNumbers", "divideOrRemain", "(I)I"⟩, 4) := ⟨⟨by decide +kernel, by decide +kernel⟩, List.mem_of_getElem? (i := 10) (by decide +kernel), List.mem_of_getElem? (i := 200) (by decide +kernel), List.mem_of_getElem? (i := 201) (by decide +kernel)⟩
def lw_privs_1 : List (MethodName × Nat) := [(⟨"MixedNumbers$Value", "setWhole", "(J)V"⟩, 3), (⟨"MixedNumbers$Value", "setReal", "(JI)V"⟩, 3), (⟨"MixedNumbers$Value", "setNearest", "(ZJZI)V"⟩, 3), (⟨"MixedNumbers$Value", "setZero", "()V"⟩, 3), (⟨"MixedNumbers$Value", "setInfinity", "(Z)V"⟩, 3), (⟨"MixedNumbers$Value", "become", "(LMixedNumbers$Value;)V"⟩, 3), (⟨"MixedNumbers$Value", "setSpecial", "(I)V"⟩, 3), (⟨"MixedNumbers", "addOrMultiply", "(I)I"⟩, 4), (⟨"MixedNumbers", "areWhole", "()Z"⟩, 4), (⟨"MixedNumbers", "makeReals", "()V"⟩, 4), (⟨"MixedNumbers$Value", "turnReal", "()V"⟩, 3), (⟨"MixedNumbers$Value", "size", "()J"⟩, 3), (⟨"MixedNumbers$Value", "sign", "()I"⟩, 3), (⟨"MixedNumbers$Value", "isInfinite", "()Z"⟩, 3), (⟨"MixedNumbers$Value", "negate", "()V"⟩, 3), (⟨"MixedNumbers", "divideOrRemain", "(I)I"⟩, 4)]
theorem lw_r1 : ∀ q ∈ lw_privs_1, lw_okq q := List.forall_mem_cons.mpr ⟨lw_p0, List.forall_mem_cons.mpr ⟨lw_p1, List.forall_mem_cons.mpr ⟨lw_p2, List.forall_mem_cons.mpr ⟨lw_p3, List.forall_mem_cons.mpr ⟨lw_p4, List.forall_mem_cons.mpr ⟨lw_p5, List.forall_mem_cons.mpr ⟨lw_p6, List.forall_mem_cons.mpr ⟨lw_p7, List.forall_mem_cons.mpr ⟨lw_p8, List.forall_mem_cons.mpr ⟨lw_p9, List.forall_mem_cons.mpr ⟨lw_p10, List.forall_mem_cons.mpr ⟨lw_p11, List.forall_mem_cons.mpr ⟨lw_p12, List.forall_mem_cons.mpr ⟨lw_p13, List.forall_mem_cons.mpr ⟨lw_p14, List.forall_mem_cons.mpr ⟨lw_p15, fun _ h => absurd h List.not_mem_nil⟩⟩⟩⟩⟩⟩⟩⟩⟩⟩⟩⟩⟩⟩⟩⟩
theorem lw_p16 : lw_okq (⟨"MixedNumbers", "divideOrRemainReal", "(I)V"⟩, 4) := ⟨⟨by decide +kernel, by decide +kernel⟩, List.mem_of_getElem? (i := 10) (by decide +kernel), List.mem_of_getElem? (i := 204) (by decide +kernel), List.mem_of_getElem? (i := 205) (by decide +kernel)⟩
theorem lw_p17 : lw_okq (⟨"MixedNumbers$Value", "roundDown", "()V"⟩, 3) := ⟨⟨by decide +kernel, by decide +kernel⟩, List.mem_of_getElem? (i := 19) (by decide +kernel), List.mem_of_getElem? (i := 227) (by decide +kernel), List.mem_of_getElem? (i := 228) (by decide +kernel)⟩
theorem lw_p18 : lw_okq (⟨"MixedNumbers$Value", "floor", "()J"⟩, 3) := ⟨⟨by decide +kernel, by decide +kernel⟩, List.mem_of_getElem? (i := 19) (by decide +kernel), List.mem_of_getElem? (i := 231) (by decide +kernel), List.mem_of_getElem? (i := 232) (by decide +kernel)⟩
theorem lw_p19 : lw_okq (⟨"MixedNumbers", "power", "()I"⟩, 4) := ⟨⟨by decide +kernel, by decide +kernel⟩, List.mem_of_getElem? (i := 10) (by decide +kernel), List.mem_of_getElem? (i := 242) (by decide +kernel), List.mem_of_getElem? (i := 243) (by decide +kernel)⟩
theorem lw_p20 : lw_okq (⟨"MixedNumbers$Value", "countsAsWhole", "()Z"⟩, 3) := ⟨⟨by decide +kernel, by decide +kernel⟩, List.mem_of_getElem? (i := 19) (by decide +kernel), List.mem_of_getElem? (i := 246) (by decide +kernel), List.mem_of_getElem? (i := 247) (by decide +kernel)⟩
theorem lw_p21 : lw_okq (⟨"MixedNumbers$Value", "asWhole", "()J"⟩, 3) := ⟨⟨by decide +kernel, by decide +kernel⟩, List.mem_of_getElem? (i := 19) (by decide +kernel), List.mem_of_getElem? (i := 250) (by decide +kernel), List.mem_of_getElem? (i := 251) (by decide +kernel)⟩
theorem lw_p22 : lw_okq (⟨"MixedNumbers", "raise", "(I)V"⟩, 4) := ⟨⟨by decide +kernel, by decide +kernel⟩, List.mem_of_getElem? (i := 10) (by decide +kernel), List.mem_of_getElem? (i := 257) (by decide +kernel), List.mem_of_getElem? (i := 258) (by decide +kernel)⟩
theorem lw_p23 : lw_okq (⟨"MixedNumbers", "combineBits", "(I)I"⟩, 4) := ⟨⟨by decide +kernel, by decide +kernel⟩, List.mem_of_getElem? (i := 10) (by decide +kernel), List.mem_of_getElem? (i := 262) (by decide +kernel), List.mem_of_getElem? (i := 263) (by decide +kernel)⟩
theorem lw_p24 : lw_okq (⟨"MixedNumbers", "applyToOne", "(I)I"⟩, 4) := ⟨⟨by decide +kernel, by decide +kernel⟩, List.mem_of_getElem? (i := 10) (by decide +kernel), List.mem_of_getElem? (i := 271) (by decide +kernel), List.mem_of_getElem? (i := 272) (by decide +kernel)⟩
theorem lw_p25 : lw_okq (⟨"MixedNumbers", "insert", "(II)V"⟩, 4) := ⟨⟨by decide +kernel, by decide +kernel⟩, List.mem_of_getElem? (i := 10) (by decide +kernel), List.mem_of_getElem? (i := 325) (by decide +kernel), List.mem_of_getElem? (i := 326) (by decide +kernel)⟩
theorem lw_p26 : lw_okq (⟨"MixedNumbersModel", "setWhole", "(J)V"⟩, 14) := ⟨⟨by decide +kernel, by decide +kernel⟩, List.mem_of_getElem? (i := 333) (by decide +kernel), List.mem_of_getElem? (i := 391) (by decide +kernel), List.mem_of_getElem? (i := 392) (by decide +kernel)⟩
theorem lw_p27 : lw_okq (⟨"MixedNumbersModel", "put", "(I)V"⟩, 14) := ⟨⟨by decide +kernel, by decide +kernel⟩, List.mem_of_getElem? (i := 333) (by decide +kernel), List.mem_of_getElem? (i := 395) (by decide +kernel), List.mem_of_getElem? (i := 396) (by decide +kernel)⟩
theorem lw_p28 : lw_okq (⟨"MixedNumbersModel", "nearestOf", "(JI)V"⟩, 14) := ⟨⟨by decide +kernel, by decide +kernel⟩, List.mem_of_getElem? (i := 333) (by decide +kernel), List.mem_of_getElem? (i := 403) (by decide +kernel), List.mem_of_getElem? (i := 404) (by decide +kernel)⟩
theorem lw_p29 : lw_okq (⟨"MixedNumbersModel", "nearest", "(JIZ)V"⟩, 14) := ⟨⟨by decide +kernel, by decide +kernel⟩, List.mem_of_getElem? (i := 333) (by decide +kernel), List.mem_of_getElem? (i := 408) (by decide +kernel), List.mem_of_getElem? (i := 409) (by decide +kernel)⟩
theorem lw_p30 : lw_okq (⟨"MixedNumbersModel", "plain", "(JI)V"⟩, 14) := ⟨⟨by decide +kernel, by decide +kernel⟩, List.mem_of_getElem? (i := 333) (by decide +kernel), List.mem_of_getElem? (i := 412) (by decide +kernel), List.mem_of_getElem? (i := 413) (by decide +kernel)⟩
theorem lw_p31 : lw_okq (⟨"MixedNumbersModel", "setSpecial", "(I)V"⟩, 14) := ⟨⟨by decide +kernel, by decide +kernel⟩, List.mem_of_getElem? (i := 333) (by decide +kernel), List.mem_of_getElem? (i := 416) (by decide +kernel), List.mem_of_getElem? (i := 417) (by decide +kernel)⟩
def lw_privs_2 : List (MethodName × Nat) := [(⟨"MixedNumbers", "divideOrRemainReal", "(I)V"⟩, 4), (⟨"MixedNumbers$Value", "roundDown", "()V"⟩, 3), (⟨"MixedNumbers$Value", "floor", "()J"⟩, 3), (⟨"MixedNumbers", "power", "()I"⟩, 4), (⟨"MixedNumbers$Value", "countsAsWhole", "()Z"⟩, 3), (⟨"MixedNumbers$Value", "asWhole", "()J"⟩, 3), (⟨"MixedNumbers", "raise", "(I)V"⟩, 4), (⟨"MixedNumbers", "combineBits", "(I)I"⟩, 4), (⟨"MixedNumbers", "applyToOne", "(I)I"⟩, 4), (⟨"MixedNumbers", "insert", "(II)V"⟩, 4), (⟨"MixedNumbersModel", "setWhole", "(J)V"⟩, 14), (⟨"MixedNumbersModel", "put", "(I)V"⟩, 14), (⟨"MixedNumbersModel", "nearestOf", "(JI)V"⟩, 14), (⟨"MixedNumbersModel", "nearest", "(JIZ)V"⟩, 14), (⟨"MixedNumbersModel", "plain", "(JI)V"⟩, 14), (⟨"MixedNumbersModel", "setSpecial", "(I)V"⟩, 14)]
theorem lw_r2 : ∀ q ∈ lw_privs_2, lw_okq q := List.forall_mem_cons.mpr ⟨lw_p16, List.forall_mem_cons.mpr ⟨lw_p17, List.forall_mem_cons.mpr ⟨lw_p18, List.forall_mem_cons.mpr ⟨lw_p19, List.forall_mem_cons.mpr ⟨lw_p20, List.forall_mem_cons.mpr ⟨lw_p21, List.forall_mem_cons.mpr ⟨lw_p22, List.forall_mem_cons.mpr ⟨lw_p23, List.forall_mem_cons.mpr ⟨lw_p24, List.forall_mem_cons.mpr ⟨lw_p25, List.forall_mem_cons.mpr ⟨lw_p26, List.forall_mem_cons.mpr ⟨lw_p27, List.forall_mem_cons.mpr ⟨lw_p28, List.forall_mem_cons.mpr ⟨lw_p29, List.forall_mem_cons.mpr ⟨lw_p30, List.forall_mem_cons.mpr ⟨lw_p31, fun _ h => absurd h List.not_mem_nil⟩⟩⟩⟩⟩⟩⟩⟩⟩⟩⟩⟩⟩⟩⟩⟩
theorem lw_p32 : lw_okq (⟨"MixedNumbersModel", "takeA", "(I)V"⟩, 14) := ⟨⟨by decide +kernel, by decide +kernel⟩, List.mem_of_getElem? (i := 333) (by decide +kernel), List.mem_of_getElem? (i := 431) (by decide +kernel), List.mem_of_getElem? (i := 432) (by decide +kernel)⟩
theorem lw_p33 : lw_okq (⟨"MixedNumbersModel", "takeB", "(I)V"⟩, 14) := ⟨⟨by decide +kernel, by decide +kernel⟩, List.mem_of_getElem? (i := 333) (by decide +kernel), List.mem_of_getElem? (i := 435) (by decide +kernel), List.mem_of_getElem? (i := 436) (by decide +kernel)⟩
theorem lw_p34 : lw_okq (⟨"MixedNumbersModel", "operation", "(I)I"⟩, 14) := ⟨⟨by decide +kernel, by decide +kernel⟩, List.mem_of_getElem? (i := 333) (by decide +kernel), List.mem_of_getElem? (i := 439) (by decide +kernel), List.mem_of_getElem? (i := 440) (by decide +kernel)⟩
theorem lw_p35 : lw_okq (⟨"MixedNumbersModel", "bitwise", "(I)I"⟩, 14) := ⟨⟨by decide +kernel, by decide +kernel⟩, List.mem_of_getElem? (i := 333) (by decide +kernel), List.mem_of_getElem? (i := 443) (by decide +kernel), List.mem_of_getElem? (i := 444) (by decide +kernel)⟩
theorem lw_p36 : lw_okq (⟨"MixedNumbersModel", "isWhole", "(IJI)Z"⟩, 14) := ⟨⟨by decide +kernel, by decide +kernel⟩, List.mem_of_getElem? (i := 333) (by decide +kernel), List.mem_of_getElem? (i := 447) (by decide +kernel), List.mem_of_getElem? (i := 448) (by decide +kernel)⟩
theorem lw_p37 : lw_okq (⟨"MixedNumbersModel", "wholeOf", "(IJI)J"⟩, 14) := ⟨⟨by decide +kernel, by decide +kernel⟩, List.mem_of_getElem? (i := 333) (by decide +kernel), List.mem_of_getElem? (i := 452) (by decide +kernel), List.mem_of_getElem? (i := 453) (by decide +kernel)⟩
theorem lw_p38 : lw_okq (⟨"MixedNumbersModel", "single", "(I)I"⟩, 14) := ⟨⟨by decide +kernel, by decide +kernel⟩, List.mem_of_getElem? (i := 333) (by decide +kernel), List.mem_of_getElem? (i := 461) (by decide +kernel), List.mem_of_getElem? (i := 462) (by decide +kernel)⟩
theorem lw_p39 : lw_okq (⟨"MixedNumbersModel", "negative", "()V"⟩, 14) := ⟨⟨by decide +kernel, by decide +kernel⟩, List.mem_of_getElem? (i := 333) (by decide +kernel), List.mem_of_getElem? (i := 465) (by decide +kernel), List.mem_of_getElem? (i := 466) (by decide +kernel)⟩
theorem lw_p40 : lw_okq (⟨"MixedNumbersModel", "floorOfA", "()V"⟩, 14) := ⟨⟨by decide +kernel, by decide +kernel⟩, List.mem_of_getElem? (i := 333) (by decide +kernel), List.mem_of_getElem? (i := 469) (by decide +kernel), List.mem_of_getElem? (i := 470) (by decide +kernel)⟩
theorem lw_p41 : lw_okq (⟨"MixedNumbersModel", "copyA", "()V"⟩, 14) := ⟨⟨by decide +kernel, by decide +kernel⟩, List.mem_of_getElem? (i := 333) (by decide +kernel), List.mem_of_getElem? (i := 473) (by decide +kernel), List.mem_of_getElem? (i := 474) (by decide +kernel)⟩
theorem lw_p42 : lw_okq (⟨"MixedNumbersModel", "roundDown", "()V"⟩, 14) := ⟨⟨by decide +kernel, by decide +kernel⟩, List.mem_of_getElem? (i := 333) (by decide +kernel), List.mem_of_getElem? (i := 477) (by decide +kernel), List.mem_of_getElem? (i := 478) (by decide +kernel)⟩
theorem lw_p43 : lw_okq (⟨"MixedNumbersModel", "realA", "()V"⟩, 14) := ⟨⟨by decide +kernel, by decide +kernel⟩, List.mem_of_getElem? (i := 333) (by decide +kernel), List.mem_of_getElem? (i := 481) (by decide +kernel), List.mem_of_getElem? (i := 482) (by decide +kernel)⟩
theorem lw_p44 : lw_okq (⟨"MixedNumbersModel", "resultToA", "()V"⟩, 14) := ⟨⟨by decide +kernel, by decide +kernel⟩, List.mem_of_getElem? (i := 333) (by decide +kernel), List.mem_of_getElem? (i := 485) (by decide +kernel), List.mem_of_getElem? (i := 486) (by decide +kernel)⟩
theorem lw_p45 : lw_okq (⟨"MixedNumbersModel", "wholes", "(I)I"⟩, 14) := ⟨⟨by decide +kernel, by decide +kernel⟩, List.mem_of_getElem? (i := 333) (by decide +kernel), List.mem_of_getElem? (i := 492) (by decide +kernel), List.mem_of_getElem? (i := 493) (by decide +kernel)⟩
theorem lw_p46 : lw_okq (⟨"MixedNumbersModel", "reals", "(I)I"⟩, 14) := ⟨⟨by decide +kernel, by decide +kernel⟩, List.mem_of_getElem? (i := 333) (by decide +kernel), List.mem_of_getElem? (i := 499) (by decide +kernel), List.mem_of_getElem? (i := 500) (by decide +kernel)⟩
theorem lw_p47 : lw_okq (⟨"MixedNumbersModel", "realB", "()V"⟩, 14) := ⟨⟨by decide +kernel, by decide +kernel⟩, List.mem_of_getElem? (i := 333) (by decide +kernel), List.mem_of_getElem? (i := 503) (by decide +kernel), List.mem_of_getElem? (i := 504) (by decide +kernel)⟩
def lw_privs_3 : List (MethodName × Nat) := [(⟨"MixedNumbersModel", "takeA", "(I)V"⟩, 14), (⟨"MixedNumbersModel", "takeB", "(I)V"⟩, 14), (⟨"MixedNumbersModel", "operation", "(I)I"⟩, 14), (⟨"MixedNumbersModel", "bitwise", "(I)I"⟩, 14), (⟨"MixedNumbersModel", "isWhole", "(IJI)Z"⟩, 14), (⟨"MixedNumbersModel", "wholeOf", "(IJI)J"⟩, 14), (⟨"MixedNumbersModel", "single", "(I)I"⟩, 14), (⟨"MixedNumbersModel", "negative", "()V"⟩, 14), (⟨"MixedNumbersModel", "floorOfA", "()V"⟩, 14), (⟨"MixedNumbersModel", "copyA", "()V"⟩, 14), (⟨"MixedNumbersModel", "roundDown", "()V"⟩, 14), (⟨"MixedNumbersModel", "realA", "()V"⟩, 14), (⟨"MixedNumbersModel", "resultToA", "()V"⟩, 14), (⟨"MixedNumbersModel", "wholes", "(I)I"⟩, 14), (⟨"MixedNumbersModel", "reals", "(I)I"⟩, 14), (⟨"MixedNumbersModel", "realB", "()V"⟩, 14)]
theorem lw_r3 : ∀ q ∈ lw_privs_3, lw_okq q := List.forall_mem_cons.mpr ⟨lw_p32, List.forall_mem_cons.mpr ⟨lw_p33, List.forall_mem_cons.mpr ⟨lw_p34, List.forall_mem_cons.mpr ⟨lw_p35, List.forall_mem_cons.mpr ⟨lw_p36, List.forall_mem_cons.mpr ⟨lw_p37, List.forall_mem_cons.mpr ⟨lw_p38, List.forall_mem_cons.mpr ⟨lw_p39, List.forall_mem_cons.mpr ⟨lw_p40, List.forall_mem_cons.mpr ⟨lw_p41, List.forall_mem_cons.mpr ⟨lw_p42, List.forall_mem_cons.mpr ⟨lw_p43, List.forall_mem_cons.mpr ⟨lw_p44, List.forall_mem_cons.mpr ⟨lw_p45, List.forall_mem_cons.mpr ⟨lw_p46, List.forall_mem_cons.mpr ⟨lw_p47, fun _ h => absurd h List.not_mem_nil⟩⟩⟩⟩⟩⟩⟩⟩⟩⟩⟩⟩⟩⟩⟩⟩
theorem lw_p48 : lw_okq (⟨"MixedNumbersModel", "resultToB", "()V"⟩, 14) := ⟨⟨by decide +kernel, by decide +kernel⟩, List.mem_of_getElem? (i := 333) (by decide +kernel), List.mem_of_getElem? (i := 507) (by decide +kernel), List.mem_of_getElem? (i := 508) (by decide +kernel)⟩
theorem lw_p49 : lw_okq (⟨"MixedNumbersModel", "add", "()V"⟩, 14) := ⟨⟨by decide +kernel, by decide +kernel⟩, List.mem_of_getElem? (i := 333) (by decide +kernel), List.mem_of_getElem? (i := 511) (by decide +kernel), List.mem_of_getElem? (i := 512) (by decide +kernel)⟩
theorem lw_p50 : lw_okq (⟨"MixedNumbersModel", "addNumbers", "()V"⟩, 14) := ⟨⟨by decide +kernel, by decide +kernel⟩, List.mem_of_getElem? (i := 333) (by decide +kernel), List.mem_of_getElem? (i := 518) (by decide +kernel), List.mem_of_getElem? (i := 519) (by decide +kernel)⟩
theorem lw_p51 : lw_okq (⟨"MixedNumbersModel", "turnB", "()V"⟩, 14) := ⟨⟨by decide +kernel, by decide +kernel⟩, List.mem_of_getElem? (i := 333) (by decide +kernel), List.mem_of_getElem? (i := 528) (by decide +kernel), List.mem_of_getElem? (i := 529) (by decide +kernel)⟩
theorem lw_p52 : lw_okq (⟨"MixedNumbersModel", "multiply", "()V"⟩, 14) := ⟨⟨by decide +kernel, by decide +kernel⟩, List.mem_of_getElem? (i := 333) (by decide +kernel), List.mem_of_getElem? (i := 532) (by decide +kernel), List.mem_of_getElem? (i := 533) (by decide +kernel)⟩
theorem lw_p53 : lw_okq (⟨"MixedNumbersModel", "product", "(JJ)V"⟩, 14) := ⟨⟨by decide +kernel, by decide +kernel⟩, List.mem_of_getElem? (i := 333) (by decide +kernel), List.mem_of_getElem? (i := 536) (by decide +kernel), List.mem_of_getElem? (i := 537) (by decide +kernel)⟩
theorem lw_p54 : lw_okq (⟨"MixedNumbersModel", "divide", "()V"⟩, 14) := ⟨⟨by decide +kernel, by decide +kernel⟩, List.mem_of_getElem? (i := 333) (by decide +kernel), List.mem_of_getElem? (i := 541) (by decide +kernel), List.mem_of_getElem? (i := 542) (by decide +kernel)⟩
theorem lw_p55 : lw_okq (⟨"MixedNumbersModel", "quotientBits", "(JJ)V"⟩, 14) := ⟨⟨by decide +kernel, by decide +kernel⟩, List.mem_of_getElem? (i := 333) (by decide +kernel), List.mem_of_getElem? (i := 545) (by decide +kernel), List.mem_of_getElem? (i := 546) (by decide +kernel)⟩
theorem lw_p56 : lw_okq (⟨"MixedNumbersModel", "remainder", "()V"⟩, 14) := ⟨⟨by decide +kernel, by decide +kernel⟩, List.mem_of_getElem? (i := 333) (by decide +kernel), List.mem_of_getElem? (i := 549) (by decide +kernel), List.mem_of_getElem? (i := 550) (by decide +kernel)⟩
theorem lw_p57 : lw_okq (⟨"MixedNumbersModel", "restOfSizes", "()V"⟩, 14) := ⟨⟨by decide +kernel, by decide +kernel⟩, List.mem_of_getElem? (i := 333) (by decide +kernel), List.mem_of_getElem? (i := 553) (by decide +kernel), List.mem_of_getElem? (i := 554) (by decide +kernel)⟩
theorem lw_p58 : lw_okq (⟨"MixedNumbersModel", "power", "()I"⟩, 14) := ⟨⟨by decide +kernel, by decide +kernel⟩, List.mem_of_getElem? (i := 333) (by decide +kernel), List.mem_of_getElem? (i := 558) (by decide +kernel), List.mem_of_getElem? (i := 559) (by decide +kernel)⟩
theorem lw_p59 : lw_okq (⟨"MixedNumbersModel", "isEqual", "()Z"⟩, 14) := ⟨⟨by decide +kernel, by decide +kernel⟩, List.mem_of_getElem? (i := 333) (by decide +kernel), List.mem_of_getElem? (i := 568) (by decide +kernel), List.mem_of_getElem? (i := 569) (by decide +kernel)⟩
theorem lw_p60 : lw_okq (⟨"MixedNumbersModel", "isLess", "(Z)Z"⟩, 14) := ⟨⟨by decide +kernel, by decide +kernel⟩, List.mem_of_getElem? (i := 333) (by decide +kernel), List.mem_of_getElem? (i := 572) (by decide +kernel), List.mem_of_getElem? (i := 573) (by decide +kernel)⟩
theorem lw_p61 : lw_okq (⟨"MixedNumbersModel", "isWholeLess", "(JJIZ)Z"⟩, 14) := ⟨⟨by decide +kernel, by decide +kernel⟩, List.mem_of_getElem? (i := 333) (by decide +kernel), List.mem_of_getElem? (i := 576) (by decide +kernel), List.mem_of_getElem? (i := 577) (by decide +kernel)⟩
theorem lw_p62 : lw_okq (⟨"MixedNumbersModel", "isRealLess", "(Z)Z"⟩, 14) := ⟨⟨by decide +kernel, by decide +kernel⟩, List.mem_of_getElem? (i := 333) (by decide +kernel), List.mem_of_getElem? (i := 580) (by decide +kernel), List.mem_of_getElem? (i := 581) (by decide +kernel)⟩
theorem lw_p63 : lw_okq (⟨"MixedNumbersModel", "isBefore", "(II)Z"⟩, 14) := ⟨⟨by decide +kernel, by decide +kernel⟩, List.mem_of_getElem? (i := 333) (by decide +kernel), List.mem_of_getElem? (i := 611) (by decide +kernel), List.mem_of_getElem? (i := 612) (by decide +kernel)⟩
def lw_privs_4 : List (MethodName × Nat) := [(⟨"MixedNumbersModel", "resultToB", "()V"⟩, 14), (⟨"MixedNumbersModel", "add", "()V"⟩, 14), (⟨"MixedNumbersModel", "addNumbers", "()V"⟩, 14), (⟨"MixedNumbersModel", "turnB", "()V"⟩, 14), (⟨"MixedNumbersModel", "multiply", "()V"⟩, 14), (⟨"MixedNumbersModel", "product", "(JJ)V"⟩, 14), (⟨"MixedNumbersModel", "divide", "()V"⟩, 14), (⟨"MixedNumbersModel", "quotientBits", "(JJ)V"⟩, 14), (⟨"MixedNumbersModel", "remainder", "()V"⟩, 14), (⟨"MixedNumbersModel", "restOfSizes", "()V"⟩, 14), (⟨"MixedNumbersModel", "power", "()I"⟩, 14), (⟨"MixedNumbersModel", "isEqual", "()Z"⟩, 14), (⟨"MixedNumbersModel", "isLess", "(Z)Z"⟩, 14), (⟨"MixedNumbersModel", "isWholeLess", "(JJIZ)Z"⟩, 14), (⟨"MixedNumbersModel", "isRealLess", "(Z)Z"⟩, 14), (⟨"MixedNumbersModel", "isBefore", "(II)Z"⟩, 14)]
theorem lw_r4 : ∀ q ∈ lw_privs_4, lw_okq q := List.forall_mem_cons.mpr ⟨lw_p48, List.forall_mem_cons.mpr ⟨lw_p49, List.forall_mem_cons.mpr ⟨lw_p50, List.forall_mem_cons.mpr ⟨lw_p51, List.forall_mem_cons.mpr ⟨lw_p52, List.forall_mem_cons.mpr ⟨lw_p53, List.forall_mem_cons.mpr ⟨lw_p54, List.forall_mem_cons.mpr ⟨lw_p55, List.forall_mem_cons.mpr ⟨lw_p56, List.forall_mem_cons.mpr ⟨lw_p57, List.forall_mem_cons.mpr ⟨lw_p58, List.forall_mem_cons.mpr ⟨lw_p59, List.forall_mem_cons.mpr ⟨lw_p60, List.forall_mem_cons.mpr ⟨lw_p61, List.forall_mem_cons.mpr ⟨lw_p62, List.forall_mem_cons.mpr ⟨lw_p63, fun _ h => absurd h List.not_mem_nil⟩⟩⟩⟩⟩⟩⟩⟩⟩⟩⟩⟩⟩⟩⟩⟩
theorem lw_p64 : lw_okq (⟨"MixedNumbersModel", "exchange", "(II)V"⟩, 14) := ⟨⟨by decide +kernel, by decide +kernel⟩, List.mem_of_getElem? (i := 333) (by decide +kernel), List.mem_of_getElem? (i := 616) (by decide +kernel), List.mem_of_getElem? (i := 617) (by decide +kernel)⟩
def lw_privs_5 : List (MethodName × Nat) := [(⟨"MixedNumbersModel", "exchange", "(II)V"⟩, 14)]
theorem lw_r5 : ∀ q ∈ lw_privs_5, lw_okq q := List.forall_mem_cons.mpr ⟨lw_p64, fun _ h => absurd h List.not_mem_nil⟩
def lw_privs : List (MethodName × Nat) := lw_privs_1 ++ (lw_privs_2 ++ (lw_privs_3 ++ (lw_privs_4 ++ (lw_privs_5))))
def lw_tbl : List Cond := k2_sels lw_privs ++ tables_1
theorem lw_privs_ok : ∀ q ∈ lw_privs, lw_okq q := by
  show ∀ q ∈ lw_privs_1 ++ (lw_privs_2 ++ (lw_privs_3 ++ (lw_privs_4 ++ (lw_privs_5)))), lw_okq q
  exact List.forall_mem_append.mpr ⟨lw_r1, List.forall_mem_append.mpr ⟨lw_r2, List.forall_mem_append.mpr ⟨lw_r3, List.forall_mem_append.mpr ⟨lw_r4, lw_r5⟩⟩⟩⟩
def RN : String := "MixedNumbers"
def RV : String := "MixedNumbers$Value"
def RR : String := "MixedNumbers$Reals"
def RO : String := "MixedNumbers$Order"
def RM : String := "MixedNumbersModel"
def RL : String := "MixedNumbersLaw"
def RJI : String := "java/lang/Integer"
def RJL : String := "java/lang/Long"
def RJM : String := "java/lang/Math"
def TV : u_T := fun k => match k with
  | 0 => ("MixedNumbers$Value", "kind", "I", false)
  | 1 => ("MixedNumbers$Value", "number", "J", false)
  | _ => ("MixedNumbers$Value", "exponent", "I", false)
def tyV : Nat → FieldType := fun k => match k with
  | 0 => .int
  | 1 => .long
  | _ => .int
abbrev uwsV : List Cond := u_ws RV TV 3
theorem nmV : ∀ a, a < 3 → ∀ b, b < 3 → a ≠ b → (TV a).2.1 ≠ (TV b).2.1 := by decide +kernel
theorem tyV_ok : ∀ k, k < 3 → parseFieldDescriptor (TV k).2.2.1 = some (tyV k) := by decide +kernel
def TN : u_T := fun k => match k with
  | 0 => ("MixedNumbers", "registers", "[LMixedNumbers$Value;", true)
  | 1 => ("MixedNumbers", "first", "LMixedNumbers$Value;", true)
  | 2 => ("MixedNumbers", "second", "LMixedNumbers$Value;", true)
  | _ => ("MixedNumbers", "spare", "LMixedNumbers$Value;", true)
def tyN : Nat → FieldType := fun k => match k with
  | 0 => .array (.object "MixedNumbers$Value")
  | 1 => .object "MixedNumbers$Value"
  | 2 => .object "MixedNumbers$Value"
  | _ => .object "MixedNumbers$Value"
abbrev uwsN : List Cond := u_ws RN TN 4
theorem nmN : ∀ a, a < 4 → ∀ b, b < 4 → a ≠ b → (TN a).2.1 ≠ (TN b).2.1 := by decide +kernel
theorem tyN_ok : ∀ k, k < 4 → parseFieldDescriptor (TN k).2.2.1 = some (tyN k) := by decide +kernel
def TM : u_T := fun k => match k with
  | 0 => ("MixedNumbersModel", "kinds", "[I", true)
  | 1 => ("MixedNumbersModel", "numbers", "[J", true)
  | 2 => ("MixedNumbersModel", "exponents", "[I", true)
  | 3 => ("MixedNumbersModel", "ka", "I", false)
  | 4 => ("MixedNumbersModel", "na", "J", false)
  | 5 => ("MixedNumbersModel", "ea", "I", false)
  | 6 => ("MixedNumbersModel", "kb", "I", false)
  | 7 => ("MixedNumbersModel", "nb", "J", false)
  | 8 => ("MixedNumbersModel", "eb", "I", false)
  | 9 => ("MixedNumbersModel", "k", "I", false)
  | 10 => ("MixedNumbersModel", "n", "J", false)
  | 11 => ("MixedNumbersModel", "e", "I", false)
  | 12 => ("MixedNumbersModel", "bits", "J", false)
  | _ => ("MixedNumbersModel", "scale", "I", false)
def tyM : Nat → FieldType := fun k => match k with
  | 0 => .array .int
  | 1 => .array .long
  | 2 => .array .int
  | 3 => .int
  | 4 => .long
  | 5 => .int
  | 6 => .int
  | 7 => .long
  | 8 => .int
  | 9 => .int
  | 10 => .long
  | 11 => .int
  | 12 => .long
  | _ => .int
abbrev uwsM : List Cond := u_ws RM TM 14
theorem nmM : ∀ a, a < 14 → ∀ b, b < 14 → a ≠ b → (TM a).2.1 ≠ (TM b).2.1 := by decide +kernel
theorem tyM_ok : ∀ k, k < 14 → parseFieldDescriptor (TM k).2.2.1 = some (tyM k) := by decide +kernel
abbrev vwCl : List vw_C := [(RV, TV, 3), (RN, TN, 4), (RM, TM, 14)]
abbrev bN_init : ByteArray := prog_1_method_1_code
def yN_init : MethodName := ⟨RN, "<init>", "()V"⟩
abbrev bV_init : ByteArray := prog_4_method_1_code
def yV_init : MethodName := ⟨RV, "<init>", "()V"⟩
abbrev bN_whole : ByteArray := prog_1_method_2_code
def yN_whole : MethodName := ⟨RN, "whole", "(IJ)Z"⟩
abbrev bN_isRegister : ByteArray := prog_1_method_13_code
def yN_isRegister : MethodName := ⟨RN, "isRegister", "(I)Z"⟩
abbrev bV_setWhole : ByteArray := prog_4_method_3_code
def yV_setWhole : MethodName := ⟨RV, "setWhole", "(J)V"⟩
abbrev bN_real : ByteArray := prog_1_method_3_code
def yN_real : MethodName := ⟨RN, "real", "(IJI)Z"⟩
abbrev bV_setReal : ByteArray := prog_4_method_7_code
def yV_setReal : MethodName := ⟨RV, "setReal", "(JI)V"⟩
abbrev bV_sizeOf : ByteArray := prog_4_method_19_code
def yV_sizeOf : MethodName := ⟨RV, "sizeOf", "(J)J"⟩
abbrev bV_setNearest : ByteArray := prog_4_method_8_code
def yV_setNearest : MethodName := ⟨RV, "setNearest", "(ZJZI)V"⟩
abbrev bJL_numberOfLeadingZeros : ByteArray := prog_8_method_48_code
def yJL_numberOfLeadingZeros : MethodName := ⟨RJL, "numberOfLeadingZeros", "(J)I"⟩
abbrev bJI_numberOfLeadingZeros : ByteArray := prog_7_method_47_code
def yJI_numberOfLeadingZeros : MethodName := ⟨RJI, "numberOfLeadingZeros", "(I)I"⟩
abbrev bJM_max : ByteArray := prog_9_method_65_code
def yJM_max : MethodName := ⟨RJM, "max", "(II)I"⟩
abbrev bV_dropBits : ByteArray := prog_4_method_9_code
def yV_dropBits : MethodName := ⟨RV, "dropBits", "(JZI)J"⟩
abbrev bV_setZero : ByteArray := prog_4_method_6_code
def yV_setZero : MethodName := ⟨RV, "setZero", "()V"⟩
abbrev bV_setInfinity : ByteArray := prog_4_method_5_code
def yV_setInfinity : MethodName := ⟨RV, "setInfinity", "(Z)V"⟩
abbrev bJL_numberOfTrailingZeros : ByteArray := prog_8_method_49_code
def yJL_numberOfTrailingZeros : MethodName := ⟨RJL, "numberOfTrailingZeros", "(J)I"⟩
abbrev bJI_numberOfTrailingZeros : ByteArray := prog_7_method_48_code
def yJI_numberOfTrailingZeros : MethodName := ⟨RJI, "numberOfTrailingZeros", "(I)I"⟩
abbrev bJM_min : ByteArray := prog_9_method_69_code
def yJM_min : MethodName := ⟨RJM, "min", "(II)I"⟩
abbrev bV_become : ByteArray := prog_4_method_2_code
def yV_become : MethodName := ⟨RV, "become", "(LMixedNumbers$Value;)V"⟩
abbrev bN_special : ByteArray := prog_1_method_4_code
def yN_special : MethodName := ⟨RN, "special", "(II)Z"⟩
abbrev bV_setSpecial : ByteArray := prog_4_method_4_code
def yV_setSpecial : MethodName := ⟨RV, "setSpecial", "(I)V"⟩
abbrev bN_operate : ByteArray := prog_1_method_5_code
def yN_operate : MethodName := ⟨RN, "operate", "(IIII)I"⟩
abbrev bN_addOrMultiply : ByteArray := prog_1_method_18_code
def yN_addOrMultiply : MethodName := ⟨RN, "addOrMultiply", "(I)I"⟩
abbrev bN_areWhole : ByteArray := prog_1_method_16_code
def yN_areWhole : MethodName := ⟨RN, "areWhole", "()Z"⟩
abbrev bN_makeReals : ByteArray := prog_1_method_17_code
def yN_makeReals : MethodName := ⟨RN, "makeReals", "()V"⟩
abbrev bV_turnReal : ByteArray := prog_4_method_10_code
def yV_turnReal : MethodName := ⟨RV, "turnReal", "()V"⟩
abbrev bV_size : ByteArray := prog_4_method_18_code
def yV_size : MethodName := ⟨RV, "size", "()J"⟩
abbrev bR_multiply : ByteArray := prog_3_method_5_code
def yR_multiply : MethodName := ⟨RR, "multiply", "(LMixedNumbers$Value;LMixedNumbers$Value;)V"⟩
abbrev bR_hasNoNumber : ByteArray := prog_3_method_2_code
def yR_hasNoNumber : MethodName := ⟨RR, "hasNoNumber", "(LMixedNumbers$Value;LMixedNumbers$Value;)Z"⟩
abbrev bV_sign : ByteArray := prog_4_method_16_code
def yV_sign : MethodName := ⟨RV, "sign", "()I"⟩
abbrev bV_isInfinite : ByteArray := prog_4_method_17_code
def yV_isInfinite : MethodName := ⟨RV, "isInfinite", "()Z"⟩
abbrev bJL_signum : ByteArray := prog_8_method_57_code
def yJL_signum : MethodName := ⟨RJL, "signum", "(J)I"⟩
abbrev bR_multiplyFinite : ByteArray := prog_3_method_6_code
def yR_multiplyFinite : MethodName := ⟨RR, "multiplyFinite", "(LMixedNumbers$Value;LMixedNumbers$Value;Z)V"⟩
abbrev bV_negate : ByteArray := prog_4_method_11_code
def yV_negate : MethodName := ⟨RV, "negate", "()V"⟩
abbrev bR_add : ByteArray := prog_3_method_3_code
def yR_add : MethodName := ⟨RR, "add", "(LMixedNumbers$Value;LMixedNumbers$Value;)V"⟩
abbrev bO_ofSizes : ByteArray := prog_2_method_7_code
def yO_ofSizes : MethodName := ⟨RO, "ofSizes", "(LMixedNumbers$Value;LMixedNumbers$Value;)I"⟩
abbrev bJI_compare : ByteArray := prog_7_method_40_code
def yJI_compare : MethodName := ⟨RJI, "compare", "(II)I"⟩
abbrev bJL_compare : ByteArray := prog_8_method_42_code
def yJL_compare : MethodName := ⟨RJL, "compare", "(JJ)I"⟩
abbrev bR_addSmaller : ByteArray := prog_3_method_4_code
def yR_addSmaller : MethodName := ⟨RR, "addSmaller", "(LMixedNumbers$Value;LMixedNumbers$Value;LMixedNumbers$Value;)V"⟩
abbrev bN_divideOrRemain : ByteArray := prog_1_method_19_code
def yN_divideOrRemain : MethodName := ⟨RN, "divideOrRemain", "(I)I"⟩
abbrev bN_divideOrRemainReal : ByteArray := prog_1_method_20_code
def yN_divideOrRemainReal : MethodName := ⟨RN, "divideOrRemainReal", "(I)V"⟩
abbrev bR_remainder : ByteArray := prog_3_method_10_code
def yR_remainder : MethodName := ⟨RR, "remainder", "(LMixedNumbers$Value;LMixedNumbers$Value;)V"⟩
abbrev bR_remainderOfSizes : ByteArray := prog_3_method_11_code
def yR_remainderOfSizes : MethodName := ⟨RR, "remainderOfSizes", "(LMixedNumbers$Value;LMixedNumbers$Value;)V"⟩
abbrev bR_remainderAbove : ByteArray := prog_3_method_12_code
def yR_remainderAbove : MethodName := ⟨RR, "remainderAbove", "(JIJ)J"⟩
abbrev bR_divide : ByteArray := prog_3_method_7_code
def yR_divide : MethodName := ⟨RR, "divide", "(LMixedNumbers$Value;LMixedNumbers$Value;)V"⟩
abbrev bR_divideByZero : ByteArray := prog_3_method_8_code
def yR_divideByZero : MethodName := ⟨RR, "divideByZero", "(LMixedNumbers$Value;)V"⟩
abbrev bR_divideFinite : ByteArray := prog_3_method_9_code
def yR_divideFinite : MethodName := ⟨RR, "divideFinite", "(LMixedNumbers$Value;LMixedNumbers$Value;)V"⟩
abbrev bV_roundDown : ByteArray := prog_4_method_12_code
def yV_roundDown : MethodName := ⟨RV, "roundDown", "()V"⟩
abbrev bV_floor : ByteArray := prog_4_method_13_code
def yV_floor : MethodName := ⟨RV, "floor", "()J"⟩
abbrev bJM_floorDiv : ByteArray := prog_9_method_49_code
def yJM_floorDiv : MethodName := ⟨RJM, "floorDiv", "(JJ)J"⟩
abbrev bJM_floorMod : ByteArray := prog_9_method_52_code
def yJM_floorMod : MethodName := ⟨RJM, "floorMod", "(JJ)J"⟩
abbrev bN_power : ByteArray := prog_1_method_21_code
def yN_power : MethodName := ⟨RN, "power", "()I"⟩
abbrev bV_countsAsWhole : ByteArray := prog_4_method_14_code
def yV_countsAsWhole : MethodName := ⟨RV, "countsAsWhole", "()Z"⟩
abbrev bV_asWhole : ByteArray := prog_4_method_15_code
def yV_asWhole : MethodName := ⟨RV, "asWhole", "()J"⟩
abbrev bN_raise : ByteArray := prog_1_method_22_code
def yN_raise : MethodName := ⟨RN, "raise", "(I)V"⟩
abbrev bN_combineBits : ByteArray := prog_1_method_23_code
def yN_combineBits : MethodName := ⟨RN, "combineBits", "(I)I"⟩
abbrev bN_shiftLeft : ByteArray := prog_1_method_24_code
def yN_shiftLeft : MethodName := ⟨RN, "shiftLeft", "(JJ)J"⟩
abbrev bN_applyToOne : ByteArray := prog_1_method_25_code
def yN_applyToOne : MethodName := ⟨RN, "applyToOne", "(I)I"⟩
abbrev bN_compare : ByteArray := prog_1_method_6_code
def yN_compare : MethodName := ⟨RN, "compare", "(III)I"⟩
abbrev bO_of : ByteArray := prog_2_method_3_code
def yO_of : MethodName := ⟨RO, "of", "(LMixedNumbers$Value;LMixedNumbers$Value;)I"⟩
abbrev bO_infinityOf : ByteArray := prog_2_method_4_code
def yO_infinityOf : MethodName := ⟨RO, "infinityOf", "(LMixedNumbers$Value;)I"⟩
abbrev bO_ofWhole : ByteArray := prog_2_method_5_code
def yO_ofWhole : MethodName := ⟨RO, "ofWhole", "(JLMixedNumbers$Value;)I"⟩
abbrev bO_ofReals : ByteArray := prog_2_method_6_code
def yO_ofReals : MethodName := ⟨RO, "ofReals", "(LMixedNumbers$Value;LMixedNumbers$Value;)I"⟩
abbrev bN_kind : ByteArray := prog_1_method_7_code
def yN_kind : MethodName := ⟨RN, "kind", "(I)I"⟩
abbrev bN_number : ByteArray := prog_1_method_8_code
def yN_number : MethodName := ⟨RN, "number", "(I)J"⟩
abbrev bN_exponent : ByteArray := prog_1_method_9_code
def yN_exponent : MethodName := ⟨RN, "exponent", "(I)I"⟩
abbrev bN_sum : ByteArray := prog_1_method_10_code
def yN_sum : MethodName := ⟨RN, "sum", "(III)Z"⟩
abbrev bN_isRow : ByteArray := prog_1_method_14_code
def yN_isRow : MethodName := ⟨RN, "isRow", "(II)Z"⟩
abbrev bN_polynomial : ByteArray := prog_1_method_11_code
def yN_polynomial : MethodName := ⟨RN, "polynomial", "(IIII)Z"⟩
abbrev bN_sort : ByteArray := prog_1_method_12_code
def yN_sort : MethodName := ⟨RN, "sort", "(II)Z"⟩
abbrev bN_insert : ByteArray := prog_1_method_15_code
def yN_insert : MethodName := ⟨RN, "insert", "(II)V"⟩
abbrev bO_goesBefore : ByteArray := prog_2_method_2_code
def yO_goesBefore : MethodName := ⟨RO, "goesBefore", "(LMixedNumbers$Value;LMixedNumbers$Value;)Z"⟩
abbrev bM_init : ByteArray := prog_6_method_1_code
def yM_init : MethodName := ⟨RM, "<init>", "()V"⟩
abbrev bM_whole : ByteArray := prog_6_method_47_code
def yM_whole : MethodName := ⟨RM, "whole", "(IJ)Z"⟩
abbrev bM_isRegister : ByteArray := prog_6_method_46_code
def yM_isRegister : MethodName := ⟨RM, "isRegister", "(I)Z"⟩
abbrev bM_setWhole : ByteArray := prog_6_method_2_code
def yM_setWhole : MethodName := ⟨RM, "setWhole", "(J)V"⟩
abbrev bM_put : ByteArray := prog_6_method_12_code
def yM_put : MethodName := ⟨RM, "put", "(I)V"⟩
abbrev bM_real : ByteArray := prog_6_method_48_code
def yM_real : MethodName := ⟨RM, "real", "(IJI)Z"⟩
abbrev bM_nearestOf : ByteArray := prog_6_method_7_code
def yM_nearestOf : MethodName := ⟨RM, "nearestOf", "(JI)V"⟩
abbrev bM_nearest : ByteArray := prog_6_method_5_code
def yM_nearest : MethodName := ⟨RM, "nearest", "(JIZ)V"⟩
abbrev bM_plain : ByteArray := prog_6_method_4_code
def yM_plain : MethodName := ⟨RM, "plain", "(JI)V"⟩
abbrev bM_setSpecial : ByteArray := prog_6_method_3_code
def yM_setSpecial : MethodName := ⟨RM, "setSpecial", "(I)V"⟩
abbrev bM_size : ByteArray := prog_6_method_6_code
def yM_size : MethodName := ⟨RM, "size", "(J)J"⟩
abbrev bM_special : ByteArray := prog_6_method_49_code
def yM_special : MethodName := ⟨RM, "special", "(II)Z"⟩
abbrev bM_operate : ByteArray := prog_6_method_50_code
def yM_operate : MethodName := ⟨RM, "operate", "(IIII)I"⟩
abbrev bM_takeA : ByteArray := prog_6_method_8_code
def yM_takeA : MethodName := ⟨RM, "takeA", "(I)V"⟩
abbrev bM_takeB : ByteArray := prog_6_method_9_code
def yM_takeB : MethodName := ⟨RM, "takeB", "(I)V"⟩
abbrev bM_operation : ByteArray := prog_6_method_41_code
def yM_operation : MethodName := ⟨RM, "operation", "(I)I"⟩
abbrev bM_bitwise : ByteArray := prog_6_method_32_code
def yM_bitwise : MethodName := ⟨RM, "bitwise", "(I)I"⟩
abbrev bM_isWhole : ByteArray := prog_6_method_29_code
def yM_isWhole : MethodName := ⟨RM, "isWhole", "(IJI)Z"⟩
abbrev bM_wholeOf : ByteArray := prog_6_method_30_code
def yM_wholeOf : MethodName := ⟨RM, "wholeOf", "(IJI)J"⟩
abbrev bM_shifted : ByteArray := prog_6_method_31_code
def yM_shifted : MethodName := ⟨RM, "shifted", "(JJ)J"⟩
abbrev bM_single : ByteArray := prog_6_method_40_code
def yM_single : MethodName := ⟨RM, "single", "(I)I"⟩
abbrev bM_negative : ByteArray := prog_6_method_37_code
def yM_negative : MethodName := ⟨RM, "negative", "()V"⟩
abbrev bM_floorOfA : ByteArray := prog_6_method_39_code
def yM_floorOfA : MethodName := ⟨RM, "floorOfA", "()V"⟩
abbrev bM_copyA : ByteArray := prog_6_method_38_code
def yM_copyA : MethodName := ⟨RM, "copyA", "()V"⟩
abbrev bM_roundDown : ByteArray := prog_6_method_25_code
def yM_roundDown : MethodName := ⟨RM, "roundDown", "()V"⟩
abbrev bM_realA : ByteArray := prog_6_method_13_code
def yM_realA : MethodName := ⟨RM, "realA", "()V"⟩
abbrev bM_resultToA : ByteArray := prog_6_method_10_code
def yM_resultToA : MethodName := ⟨RM, "resultToA", "()V"⟩
abbrev bM_signOf : ByteArray := prog_6_method_15_code
def yM_signOf : MethodName := ⟨RM, "signOf", "(IJ)I"⟩
abbrev bM_wholes : ByteArray := prog_6_method_33_code
def yM_wholes : MethodName := ⟨RM, "wholes", "(I)I"⟩
abbrev bM_floorQuotient : ByteArray := prog_6_method_28_code
def yM_floorQuotient : MethodName := ⟨RM, "floorQuotient", "(JJ)J"⟩
abbrev bM_reals : ByteArray := prog_6_method_35_code
def yM_reals : MethodName := ⟨RM, "reals", "(I)I"⟩
abbrev bM_realB : ByteArray := prog_6_method_14_code
def yM_realB : MethodName := ⟨RM, "realB", "()V"⟩
abbrev bM_resultToB : ByteArray := prog_6_method_11_code
def yM_resultToB : MethodName := ⟨RM, "resultToB", "()V"⟩
abbrev bM_add : ByteArray := prog_6_method_20_code
def yM_add : MethodName := ⟨RM, "add", "()V"⟩
abbrev bM_isGreat : ByteArray := prog_6_method_16_code
def yM_isGreat : MethodName := ⟨RM, "isGreat", "(I)Z"⟩
abbrev bM_addNumbers : ByteArray := prog_6_method_19_code
def yM_addNumbers : MethodName := ⟨RM, "addNumbers", "()V"⟩
abbrev bM_room : ByteArray := prog_6_method_17_code
def yM_room : MethodName := ⟨RM, "room", "(J)I"⟩
abbrev bM_down : ByteArray := prog_6_method_18_code
def yM_down : MethodName := ⟨RM, "down", "(JI)J"⟩
abbrev bM_turnB : ByteArray := prog_6_method_34_code
def yM_turnB : MethodName := ⟨RM, "turnB", "()V"⟩
abbrev bM_multiply : ByteArray := prog_6_method_22_code
def yM_multiply : MethodName := ⟨RM, "multiply", "()V"⟩
abbrev bM_product : ByteArray := prog_6_method_21_code
def yM_product : MethodName := ⟨RM, "product", "(JJ)V"⟩
abbrev bM_divide : ByteArray := prog_6_method_24_code
def yM_divide : MethodName := ⟨RM, "divide", "()V"⟩
abbrev bM_quotientBits : ByteArray := prog_6_method_23_code
def yM_quotientBits : MethodName := ⟨RM, "quotientBits", "(JJ)V"⟩
abbrev bM_remainder : ByteArray := prog_6_method_27_code
def yM_remainder : MethodName := ⟨RM, "remainder", "()V"⟩
abbrev bM_restOfSizes : ByteArray := prog_6_method_26_code
def yM_restOfSizes : MethodName := ⟨RM, "restOfSizes", "()V"⟩
abbrev bM_power : ByteArray := prog_6_method_36_code
def yM_power : MethodName := ⟨RM, "power", "()I"⟩
abbrev bM_compare : ByteArray := prog_6_method_51_code
def yM_compare : MethodName := ⟨RM, "compare", "(III)I"⟩
abbrev bM_isEqual : ByteArray := prog_6_method_45_code
def yM_isEqual : MethodName := ⟨RM, "isEqual", "()Z"⟩
abbrev bM_isLess : ByteArray := prog_6_method_44_code
def yM_isLess : MethodName := ⟨RM, "isLess", "(Z)Z"⟩
abbrev bM_isWholeLess : ByteArray := prog_6_method_42_code
def yM_isWholeLess : MethodName := ⟨RM, "isWholeLess", "(JJIZ)Z"⟩
abbrev bM_isRealLess : ByteArray := prog_6_method_43_code
def yM_isRealLess : MethodName := ⟨RM, "isRealLess", "(Z)Z"⟩
abbrev bM_kind : ByteArray := prog_6_method_52_code
def yM_kind : MethodName := ⟨RM, "kind", "(I)I"⟩
abbrev bM_number : ByteArray := prog_6_method_53_code
def yM_number : MethodName := ⟨RM, "number", "(I)J"⟩
abbrev bM_exponent : ByteArray := prog_6_method_54_code
def yM_exponent : MethodName := ⟨RM, "exponent", "(I)I"⟩
abbrev bM_sum : ByteArray := prog_6_method_56_code
def yM_sum : MethodName := ⟨RM, "sum", "(III)Z"⟩
abbrev bM_areRegisters : ByteArray := prog_6_method_55_code
def yM_areRegisters : MethodName := ⟨RM, "areRegisters", "(II)Z"⟩
abbrev bM_polynomial : ByteArray := prog_6_method_57_code
def yM_polynomial : MethodName := ⟨RM, "polynomial", "(IIII)Z"⟩
abbrev bM_sort : ByteArray := prog_6_method_60_code
def yM_sort : MethodName := ⟨RM, "sort", "(II)Z"⟩
abbrev bM_isBefore : ByteArray := prog_6_method_58_code
def yM_isBefore : MethodName := ⟨RM, "isBefore", "(II)Z"⟩
abbrev bM_exchange : ByteArray := prog_6_method_59_code
def yM_exchange : MethodName := ⟨RM, "exchange", "(II)V"⟩
abbrev bL_law : ByteArray := code
def yL_law : MethodName := ⟨RL, "law", "([I)Z"⟩
def zBig : List Cond := lw_tbl.filter goodWord
abbrev wsN_init : List Cond := Cond.code yN_init bN_init 2 none :: zBig
abbrev wsV_init : List Cond := Cond.code yV_init bV_init 1 none :: zBig
abbrev wsN_whole : List Cond := Cond.code yN_whole bN_whole 4 (some .boolean) :: zBig
abbrev wsN_isRegister : List Cond := Cond.code yN_isRegister bN_isRegister 1 (some .boolean) :: zBig
abbrev wsV_setWhole : List Cond := Cond.code yV_setWhole bV_setWhole 3 none :: zBig
abbrev wsN_real : List Cond := Cond.code yN_real bN_real 5 (some .boolean) :: zBig
abbrev wsV_setReal : List Cond := Cond.code yV_setReal bV_setReal 4 none :: zBig
abbrev wsV_sizeOf : List Cond := Cond.code yV_sizeOf bV_sizeOf 2 (some .long) :: zBig
abbrev wsV_setNearest : List Cond := Cond.code yV_setNearest bV_setNearest 12 none :: zBig
abbrev wsJL_numberOfLeadingZeros : List Cond := Cond.code yJL_numberOfLeadingZeros bJL_numberOfLeadingZeros 3 (some .int) :: zBig
abbrev wsJI_numberOfLeadingZeros : List Cond := Cond.code yJI_numberOfLeadingZeros bJI_numberOfLeadingZeros 2 (some .int) :: zBig
abbrev wsJM_max : List Cond := Cond.code yJM_max bJM_max 2 (some .int) :: zBig
abbrev wsV_dropBits : List Cond := Cond.code yV_dropBits bV_dropBits 11 (some .long) :: zBig
abbrev wsV_setZero : List Cond := Cond.code yV_setZero bV_setZero 1 none :: zBig
abbrev wsV_setInfinity : List Cond := Cond.code yV_setInfinity bV_setInfinity 2 none :: zBig
abbrev wsJL_numberOfTrailingZeros : List Cond := Cond.code yJL_numberOfTrailingZeros bJL_numberOfTrailingZeros 3 (some .int) :: zBig
abbrev wsJI_numberOfTrailingZeros : List Cond := Cond.code yJI_numberOfTrailingZeros bJI_numberOfTrailingZeros 2 (some .int) :: zBig
abbrev wsJM_min : List Cond := Cond.code yJM_min bJM_min 2 (some .int) :: zBig
abbrev wsV_become : List Cond := Cond.code yV_become bV_become 2 none :: zBig
abbrev wsN_special : List Cond := Cond.code yN_special bN_special 3 (some .boolean) :: zBig
abbrev wsV_setSpecial : List Cond := Cond.code yV_setSpecial bV_setSpecial 2 none :: zBig
abbrev wsN_operate : List Cond := Cond.code yN_operate bN_operate 6 (some .int) :: zBig
abbrev wsN_addOrMultiply : List Cond := Cond.code yN_addOrMultiply bN_addOrMultiply 6 (some .int) :: zBig
abbrev wsN_areWhole : List Cond := Cond.code yN_areWhole bN_areWhole 1 (some .boolean) :: zBig
abbrev wsN_makeReals : List Cond := Cond.code yN_makeReals bN_makeReals 1 none :: zBig
abbrev wsV_turnReal : List Cond := Cond.code yV_turnReal bV_turnReal 1 none :: zBig
abbrev wsV_size : List Cond := Cond.code yV_size bV_size 1 (some .long) :: zBig
abbrev wsR_multiply : List Cond := Cond.code yR_multiply bR_multiply 3 none :: zBig
abbrev wsR_hasNoNumber : List Cond := Cond.code yR_hasNoNumber bR_hasNoNumber 2 (some .boolean) :: zBig
abbrev wsV_sign : List Cond := Cond.code yV_sign bV_sign 1 (some .int) :: zBig
abbrev wsV_isInfinite : List Cond := Cond.code yV_isInfinite bV_isInfinite 1 (some .boolean) :: zBig
abbrev wsJL_signum : List Cond := Cond.code yJL_signum bJL_signum 2 (some .int) :: zBig
abbrev wsR_multiplyFinite : List Cond := Cond.code yR_multiplyFinite bR_multiplyFinite 22 none :: zBig
abbrev wsV_negate : List Cond := Cond.code yV_negate bV_negate 1 none :: zBig
abbrev wsR_add : List Cond := Cond.code yR_add bR_add 2 none :: zBig
abbrev wsO_ofSizes : List Cond := Cond.code yO_ofSizes bO_ofSizes 6 (some .int) :: zBig
abbrev wsJI_compare : List Cond := Cond.code yJI_compare bJI_compare 2 (some .int) :: zBig
abbrev wsJL_compare : List Cond := Cond.code yJL_compare bJL_compare 4 (some .int) :: zBig
abbrev wsR_addSmaller : List Cond := Cond.code yR_addSmaller bR_addSmaller 14 none :: zBig
abbrev wsN_divideOrRemain : List Cond := Cond.code yN_divideOrRemain bN_divideOrRemain 2 (some .int) :: zBig
abbrev wsN_divideOrRemainReal : List Cond := Cond.code yN_divideOrRemainReal bN_divideOrRemainReal 2 none :: zBig
abbrev wsR_remainder : List Cond := Cond.code yR_remainder bR_remainder 2 none :: zBig
abbrev wsR_remainderOfSizes : List Cond := Cond.code yR_remainderOfSizes bR_remainderOfSizes 5 none :: zBig
abbrev wsR_remainderAbove : List Cond := Cond.code yR_remainderAbove bR_remainderAbove 8 (some .long) :: zBig
abbrev wsR_divide : List Cond := Cond.code yR_divide bR_divide 2 none :: zBig
abbrev wsR_divideByZero : List Cond := Cond.code yR_divideByZero bR_divideByZero 1 none :: zBig
abbrev wsR_divideFinite : List Cond := Cond.code yR_divideFinite bR_divideFinite 13 none :: zBig
abbrev wsV_roundDown : List Cond := Cond.code yV_roundDown bV_roundDown 1 none :: zBig
abbrev wsV_floor : List Cond := Cond.code yV_floor bV_floor 1 (some .long) :: zBig
abbrev wsJM_floorDiv : List Cond := Cond.code yJM_floorDiv bJM_floorDiv 6 (some .long) :: zBig
abbrev wsJM_floorMod : List Cond := Cond.code yJM_floorMod bJM_floorMod 6 (some .long) :: zBig
abbrev wsN_power : List Cond := Cond.code yN_power bN_power 3 (some .int) :: zBig
abbrev wsV_countsAsWhole : List Cond := Cond.code yV_countsAsWhole bV_countsAsWhole 1 (some .boolean) :: zBig
abbrev wsV_asWhole : List Cond := Cond.code yV_asWhole bV_asWhole 1 (some .long) :: zBig
abbrev wsN_raise : List Cond := Cond.code yN_raise bN_raise 4 none :: zBig
abbrev wsN_combineBits : List Cond := Cond.code yN_combineBits bN_combineBits 6 (some .int) :: zBig
abbrev wsN_shiftLeft : List Cond := Cond.code yN_shiftLeft bN_shiftLeft 4 (some .long) :: zBig
abbrev wsN_applyToOne : List Cond := Cond.code yN_applyToOne bN_applyToOne 2 (some .int) :: zBig
abbrev wsN_compare : List Cond := Cond.code yN_compare bN_compare 8 (some .int) :: zBig
abbrev wsO_of : List Cond := Cond.code yO_of bO_of 2 (some .int) :: zBig
abbrev wsO_infinityOf : List Cond := Cond.code yO_infinityOf bO_infinityOf 1 (some .int) :: zBig
abbrev wsO_ofWhole : List Cond := Cond.code yO_ofWhole bO_ofWhole 5 (some .int) :: zBig
abbrev wsO_ofReals : List Cond := Cond.code yO_ofReals bO_ofReals 2 (some .int) :: zBig
abbrev wsN_kind : List Cond := Cond.code yN_kind bN_kind 2 (some .int) :: zBig
abbrev wsN_number : List Cond := Cond.code yN_number bN_number 2 (some .long) :: zBig
abbrev wsN_exponent : List Cond := Cond.code yN_exponent bN_exponent 2 (some .int) :: zBig
abbrev wsN_sum : List Cond := Cond.code yN_sum bN_sum 5 (some .boolean) :: zBig
abbrev wsN_isRow : List Cond := Cond.code yN_isRow bN_isRow 2 (some .boolean) :: zBig
abbrev wsN_polynomial : List Cond := Cond.code yN_polynomial bN_polynomial 6 (some .boolean) :: zBig
abbrev wsN_sort : List Cond := Cond.code yN_sort bN_sort 4 (some .boolean) :: zBig
abbrev wsN_insert : List Cond := Cond.code yN_insert bN_insert 5 none :: zBig
abbrev wsO_goesBefore : List Cond := Cond.code yO_goesBefore bO_goesBefore 2 (some .boolean) :: zBig
abbrev wsM_init : List Cond := Cond.code yM_init bM_init 2 none :: zBig
abbrev wsM_whole : List Cond := Cond.code yM_whole bM_whole 4 (some .boolean) :: zBig
abbrev wsM_isRegister : List Cond := Cond.code yM_isRegister bM_isRegister 1 (some .boolean) :: zBig
abbrev wsM_setWhole : List Cond := Cond.code yM_setWhole bM_setWhole 3 none :: zBig
abbrev wsM_put : List Cond := Cond.code yM_put bM_put 2 none :: zBig
abbrev wsM_real : List Cond := Cond.code yM_real bM_real 5 (some .boolean) :: zBig
abbrev wsM_nearestOf : List Cond := Cond.code yM_nearestOf bM_nearestOf 6 none :: zBig
abbrev wsM_nearest : List Cond := Cond.code yM_nearest bM_nearest 15 none :: zBig
abbrev wsM_plain : List Cond := Cond.code yM_plain bM_plain 4 none :: zBig
abbrev wsM_setSpecial : List Cond := Cond.code yM_setSpecial bM_setSpecial 2 none :: zBig
abbrev wsM_size : List Cond := Cond.code yM_size bM_size 2 (some .long) :: zBig
abbrev wsM_special : List Cond := Cond.code yM_special bM_special 3 (some .boolean) :: zBig
abbrev wsM_operate : List Cond := Cond.code yM_operate bM_operate 6 (some .int) :: zBig
abbrev wsM_takeA : List Cond := Cond.code yM_takeA bM_takeA 2 none :: zBig
abbrev wsM_takeB : List Cond := Cond.code yM_takeB bM_takeB 2 none :: zBig
abbrev wsM_operation : List Cond := Cond.code yM_operation bM_operation 3 (some .int) :: zBig
abbrev wsM_bitwise : List Cond := Cond.code yM_bitwise bM_bitwise 8 (some .int) :: zBig
abbrev wsM_isWhole : List Cond := Cond.code yM_isWhole bM_isWhole 5 (some .boolean) :: zBig
abbrev wsM_wholeOf : List Cond := Cond.code yM_wholeOf bM_wholeOf 5 (some .long) :: zBig
abbrev wsM_shifted : List Cond := Cond.code yM_shifted bM_shifted 4 (some .long) :: zBig
abbrev wsM_single : List Cond := Cond.code yM_single bM_single 2 (some .int) :: zBig
abbrev wsM_negative : List Cond := Cond.code yM_negative bM_negative 1 none :: zBig
abbrev wsM_floorOfA : List Cond := Cond.code yM_floorOfA bM_floorOfA 1 none :: zBig
abbrev wsM_copyA : List Cond := Cond.code yM_copyA bM_copyA 1 none :: zBig
abbrev wsM_roundDown : List Cond := Cond.code yM_roundDown bM_roundDown 1 none :: zBig
abbrev wsM_realA : List Cond := Cond.code yM_realA bM_realA 1 none :: zBig
abbrev wsM_resultToA : List Cond := Cond.code yM_resultToA bM_resultToA 1 none :: zBig
abbrev wsM_signOf : List Cond := Cond.code yM_signOf bM_signOf 3 (some .int) :: zBig
abbrev wsM_wholes : List Cond := Cond.code yM_wholes bM_wholes 2 (some .int) :: zBig
abbrev wsM_floorQuotient : List Cond := Cond.code yM_floorQuotient bM_floorQuotient 6 (some .long) :: zBig
abbrev wsM_reals : List Cond := Cond.code yM_reals bM_reals 2 (some .int) :: zBig
abbrev wsM_realB : List Cond := Cond.code yM_realB bM_realB 1 none :: zBig
abbrev wsM_resultToB : List Cond := Cond.code yM_resultToB bM_resultToB 1 none :: zBig
abbrev wsM_add : List Cond := Cond.code yM_add bM_add 1 none :: zBig
abbrev wsM_isGreat : List Cond := Cond.code yM_isGreat bM_isGreat 1 (some .boolean) :: zBig
abbrev wsM_addNumbers : List Cond := Cond.code yM_addNumbers bM_addNumbers 19 none :: zBig
abbrev wsM_room : List Cond := Cond.code yM_room bM_room 3 (some .int) :: zBig
abbrev wsM_down : List Cond := Cond.code yM_down bM_down 5 (some .long) :: zBig
abbrev wsM_turnB : List Cond := Cond.code yM_turnB bM_turnB 1 none :: zBig
abbrev wsM_multiply : List Cond := Cond.code yM_multiply bM_multiply 2 none :: zBig
abbrev wsM_product : List Cond := Cond.code yM_product bM_product 17 none :: zBig
abbrev wsM_divide : List Cond := Cond.code yM_divide bM_divide 3 none :: zBig
abbrev wsM_quotientBits : List Cond := Cond.code yM_quotientBits bM_quotientBits 10 none :: zBig
abbrev wsM_remainder : List Cond := Cond.code yM_remainder bM_remainder 3 none :: zBig
abbrev wsM_restOfSizes : List Cond := Cond.code yM_restOfSizes bM_restOfSizes 6 none :: zBig
abbrev wsM_power : List Cond := Cond.code yM_power bM_power 13 (some .int) :: zBig
abbrev wsM_compare : List Cond := Cond.code yM_compare bM_compare 5 (some .int) :: zBig
abbrev wsM_isEqual : List Cond := Cond.code yM_isEqual bM_isEqual 6 (some .boolean) :: zBig
abbrev wsM_isLess : List Cond := Cond.code yM_isLess bM_isLess 2 (some .boolean) :: zBig
abbrev wsM_isWholeLess : List Cond := Cond.code yM_isWholeLess bM_isWholeLess 9 (some .boolean) :: zBig
abbrev wsM_isRealLess : List Cond := Cond.code yM_isRealLess bM_isRealLess 4 (some .boolean) :: zBig
abbrev wsM_kind : List Cond := Cond.code yM_kind bM_kind 2 (some .int) :: zBig
abbrev wsM_number : List Cond := Cond.code yM_number bM_number 2 (some .long) :: zBig
abbrev wsM_exponent : List Cond := Cond.code yM_exponent bM_exponent 2 (some .int) :: zBig
abbrev wsM_sum : List Cond := Cond.code yM_sum bM_sum 5 (some .boolean) :: zBig
abbrev wsM_areRegisters : List Cond := Cond.code yM_areRegisters bM_areRegisters 2 (some .boolean) :: zBig
abbrev wsM_polynomial : List Cond := Cond.code yM_polynomial bM_polynomial 6 (some .boolean) :: zBig
abbrev wsM_sort : List Cond := Cond.code yM_sort bM_sort 5 (some .boolean) :: zBig
abbrev wsM_isBefore : List Cond := Cond.code yM_isBefore bM_isBefore 3 (some .boolean) :: zBig
abbrev wsM_exchange : List Cond := Cond.code yM_exchange bM_exchange 3 none :: zBig
abbrev wsL_law : List Cond := Cond.initialized "MixedNumbersLaw" :: zBig
theorem zb {c w : Cond} (h : w ∈ zBig) : w ∈ c :: zBig := List.mem_cons_of_mem _ h
theorem zm {w : Cond} (i : Nat) (h : lw_tbl[i]? = some w) (hg : goodWord w = true) : w ∈ zBig := List.mem_filter.mpr ⟨List.mem_of_getElem? h, hg⟩
theorem ml_L_9 : Cond.methodLink RL 9 yN_init ∈ zBig := zm 76 (by decide +kernel) rfl
theorem ml_N_1 : Cond.methodLink RN 1 objectInit ∈ zBig := zm 79 (by decide +kernel) rfl
theorem ml_V_3 : Cond.methodLink RV 3 objectInit ∈ zBig := zm 88 (by decide +kernel) rfl
theorem ml_L_15 : Cond.methodLink RL 15 yN_whole ∈ zBig := zm 121 (by decide +kernel) rfl
theorem ml_N_26 : Cond.methodLink RN 26 yN_isRegister ∈ zBig := zm 125 (by decide +kernel) rfl
theorem ml_L_20 : Cond.methodLink RL 20 yN_real ∈ zBig := zm 132 (by decide +kernel) rfl
theorem ml_V_22 : Cond.methodLink RV 22 yV_sizeOf ∈ zBig := zm 140 (by decide +kernel) rfl
theorem ml_V_26 : Cond.methodLink RV 26 yV_setNearest ∈ zBig := zm 143 (by decide +kernel) rfl
theorem ml_V_30 : Cond.methodLink RV 30 yJL_numberOfLeadingZeros ∈ zBig := zm 147 (by decide +kernel) rfl
theorem ml_JL_308 : Cond.methodLink RJL 308 yJI_numberOfLeadingZeros ∈ zBig := zm 150 (by decide +kernel) rfl
theorem ml_V_36 : Cond.methodLink RV 36 Lib.Math.max.name ∈ zBig := zm 154 (by decide +kernel) rfl
theorem ml_V_42 : Cond.methodLink RV 42 yV_dropBits ∈ zBig := zm 157 (by decide +kernel) rfl
theorem ml_V_46 : Cond.methodLink RV 46 yV_setZero ∈ zBig := zm 160 (by decide +kernel) rfl
theorem ml_V_49 : Cond.methodLink RV 49 yV_setInfinity ∈ zBig := zm 164 (by decide +kernel) rfl
theorem ml_V_53 : Cond.methodLink RV 53 yJL_numberOfTrailingZeros ∈ zBig := zm 168 (by decide +kernel) rfl
theorem ml_JL_311 : Cond.methodLink RJL 311 yJI_numberOfTrailingZeros ∈ zBig := zm 171 (by decide +kernel) rfl
theorem ml_V_56 : Cond.methodLink RV 56 Lib.Math.min.name ∈ zBig := zm 174 (by decide +kernel) rfl
theorem ml_L_25 : Cond.methodLink RL 25 yN_special ∈ zBig := zm 181 (by decide +kernel) rfl
theorem ml_L_30 : Cond.methodLink RL 30 yN_operate ∈ zBig := zm 189 (by decide +kernel) rfl
theorem ml_N_54 : Cond.methodLink RN 54 yN_addOrMultiply ∈ zBig := zm 193 (by decide +kernel) rfl
theorem ml_N_95 : Cond.methodLink RN 95 yN_areWhole ∈ zBig := zm 197 (by decide +kernel) rfl
theorem ml_N_99 : Cond.methodLink RN 99 yN_makeReals ∈ zBig := zm 201 (by decide +kernel) rfl
theorem ml_V_59 : Cond.methodLink RV 59 yV_size ∈ zBig := zm 209 (by decide +kernel) rfl
theorem ml_R_17 : Cond.methodLink RR 17 yR_hasNoNumber ∈ zBig := zm 216 (by decide +kernel) rfl
theorem ml_V_63 : Cond.methodLink RV 63 yV_isInfinite ∈ zBig := zm 224 (by decide +kernel) rfl
theorem ml_V_74 : Cond.methodLink RV 74 yJL_signum ∈ zBig := zm 228 (by decide +kernel) rfl
theorem ml_R_68 : Cond.methodLink RR 68 yR_multiplyFinite ∈ zBig := zm 232 (by decide +kernel) rfl
theorem ml_R_51 : Cond.methodLink RR 51 yJL_numberOfLeadingZeros ∈ zBig := zm 238 (by decide +kernel) rfl
theorem ml_R_80 : Cond.methodLink RR 80 Lib.Math.min.name ∈ zBig := zm 239 (by decide +kernel) rfl
theorem ml_O_71 : Cond.methodLink RO 71 yJL_numberOfLeadingZeros ∈ zBig := zm 254 (by decide +kernel) rfl
theorem ml_O_29 : Cond.methodLink RO 29 yJI_compare ∈ zBig := zm 255 (by decide +kernel) rfl
theorem ml_O_39 : Cond.methodLink RO 39 yJL_compare ∈ zBig := zm 258 (by decide +kernel) rfl
theorem ml_R_43 : Cond.methodLink RR 43 yR_addSmaller ∈ zBig := zm 261 (by decide +kernel) rfl
theorem ml_N_58 : Cond.methodLink RN 58 yN_divideOrRemain ∈ zBig := zm 264 (by decide +kernel) rfl
theorem ml_N_114 : Cond.methodLink RN 114 yN_divideOrRemainReal ∈ zBig := zm 268 (by decide +kernel) rfl
theorem ml_R_96 : Cond.methodLink RR 96 yR_remainderOfSizes ∈ zBig := zm 275 (by decide +kernel) rfl
theorem ml_R_99 : Cond.methodLink RR 99 yR_remainderAbove ∈ zBig := zm 278 (by decide +kernel) rfl
theorem ml_R_89 : Cond.methodLink RR 89 yR_divideByZero ∈ zBig := zm 285 (by decide +kernel) rfl
theorem ml_R_92 : Cond.methodLink RR 92 yR_divideFinite ∈ zBig := zm 288 (by decide +kernel) rfl
theorem ml_V_67 : Cond.methodLink RV 67 yV_floor ∈ zBig := zm 295 (by decide +kernel) rfl
theorem ml_V_70 : Cond.methodLink RV 70 yV_setReal ∈ zBig := zm 299 (by decide +kernel) rfl
theorem ml_N_117 : Cond.methodLink RN 117 yJM_floorDiv ∈ zBig := zm 300 (by decide +kernel) rfl
theorem ml_N_123 : Cond.methodLink RN 123 yJM_floorMod ∈ zBig := zm 303 (by decide +kernel) rfl
theorem ml_N_61 : Cond.methodLink RN 61 yN_power ∈ zBig := zm 306 (by decide +kernel) rfl
theorem ml_N_148 : Cond.methodLink RN 148 yN_raise ∈ zBig := zm 321 (by decide +kernel) rfl
theorem ml_N_151 : Cond.methodLink RN 151 yJI_numberOfLeadingZeros ∈ zBig := zm 325 (by decide +kernel) rfl
theorem ml_N_65 : Cond.methodLink RN 65 yN_combineBits ∈ zBig := zm 326 (by decide +kernel) rfl
theorem ml_N_156 : Cond.methodLink RN 156 yN_shiftLeft ∈ zBig := zm 330 (by decide +kernel) rfl
theorem ml_N_68 : Cond.methodLink RN 68 yN_applyToOne ∈ zBig := zm 335 (by decide +kernel) rfl
theorem ml_L_35 : Cond.methodLink RL 35 yN_compare ∈ zBig := zm 341 (by decide +kernel) rfl
theorem ml_O_25 : Cond.methodLink RO 25 yO_infinityOf ∈ zBig := zm 349 (by decide +kernel) rfl
theorem ml_O_44 : Cond.methodLink RO 44 yO_ofWhole ∈ zBig := zm 353 (by decide +kernel) rfl
theorem ml_O_48 : Cond.methodLink RO 48 yO_ofReals ∈ zBig := zm 358 (by decide +kernel) rfl
theorem ml_O_65 : Cond.methodLink RO 65 yO_ofSizes ∈ zBig := zm 361 (by decide +kernel) rfl
theorem ml_L_40 : Cond.methodLink RL 40 yN_kind ∈ zBig := zm 362 (by decide +kernel) rfl
theorem ml_L_45 : Cond.methodLink RL 45 yN_number ∈ zBig := zm 366 (by decide +kernel) rfl
theorem ml_L_50 : Cond.methodLink RL 50 yN_exponent ∈ zBig := zm 370 (by decide +kernel) rfl
theorem ml_L_54 : Cond.methodLink RL 54 yN_sum ∈ zBig := zm 374 (by decide +kernel) rfl
theorem ml_N_80 : Cond.methodLink RN 80 yN_isRow ∈ zBig := zm 378 (by decide +kernel) rfl
theorem ml_L_59 : Cond.methodLink RL 59 yN_polynomial ∈ zBig := zm 381 (by decide +kernel) rfl
theorem ml_L_64 : Cond.methodLink RL 64 yN_sort ∈ zBig := zm 385 (by decide +kernel) rfl
theorem ml_N_84 : Cond.methodLink RN 84 yN_insert ∈ zBig := zm 389 (by decide +kernel) rfl
theorem ml_O_15 : Cond.methodLink RO 15 yO_of ∈ zBig := zm 396 (by decide +kernel) rfl
theorem ml_L_12 : Cond.methodLink RL 12 yM_init ∈ zBig := zm 399 (by decide +kernel) rfl
theorem ml_M_1 : Cond.methodLink RM 1 objectInit ∈ zBig := zm 402 (by decide +kernel) rfl
theorem ml_L_19 : Cond.methodLink RL 19 yM_whole ∈ zBig := zm 448 (by decide +kernel) rfl
theorem ml_M_204 : Cond.methodLink RM 204 yM_isRegister ∈ zBig := zm 452 (by decide +kernel) rfl
theorem ml_M_134 : Cond.methodLink RM 134 yM_setWhole ∈ zBig := zm 455 (by decide +kernel) rfl
theorem ml_M_207 : Cond.methodLink RM 207 yM_put ∈ zBig := zm 459 (by decide +kernel) rfl
theorem ml_L_24 : Cond.methodLink RL 24 yM_real ∈ zBig := zm 463 (by decide +kernel) rfl
theorem ml_M_69 : Cond.methodLink RM 69 yM_nearestOf ∈ zBig := zm 467 (by decide +kernel) rfl
theorem ml_M_43 : Cond.methodLink RM 43 yM_nearest ∈ zBig := zm 472 (by decide +kernel) rfl
theorem ml_M_31 : Cond.methodLink RM 31 yM_plain ∈ zBig := zm 476 (by decide +kernel) rfl
theorem ml_M_35 : Cond.methodLink RM 35 yM_setSpecial ∈ zBig := zm 480 (by decide +kernel) rfl
theorem ml_M_47 : Cond.methodLink RM 47 yM_size ∈ zBig := zm 484 (by decide +kernel) rfl
theorem ml_L_29 : Cond.methodLink RL 29 yM_special ∈ zBig := zm 487 (by decide +kernel) rfl
theorem ml_L_34 : Cond.methodLink RL 34 yM_operate ∈ zBig := zm 491 (by decide +kernel) rfl
theorem ml_M_210 : Cond.methodLink RM 210 yM_takeA ∈ zBig := zm 495 (by decide +kernel) rfl
theorem ml_M_213 : Cond.methodLink RM 213 yM_takeB ∈ zBig := zm 499 (by decide +kernel) rfl
theorem ml_M_216 : Cond.methodLink RM 216 yM_operation ∈ zBig := zm 503 (by decide +kernel) rfl
theorem ml_M_183 : Cond.methodLink RM 183 yM_bitwise ∈ zBig := zm 507 (by decide +kernel) rfl
theorem ml_M_126 : Cond.methodLink RM 126 yM_isWhole ∈ zBig := zm 511 (by decide +kernel) rfl
theorem ml_M_130 : Cond.methodLink RM 130 yM_wholeOf ∈ zBig := zm 516 (by decide +kernel) rfl
theorem ml_M_138 : Cond.methodLink RM 138 yM_shifted ∈ zBig := zm 520 (by decide +kernel) rfl
theorem ml_M_187 : Cond.methodLink RM 187 yM_single ∈ zBig := zm 525 (by decide +kernel) rfl
theorem ml_M_177 : Cond.methodLink RM 177 yM_negative ∈ zBig := zm 529 (by decide +kernel) rfl
theorem ml_M_180 : Cond.methodLink RM 180 yM_floorOfA ∈ zBig := zm 533 (by decide +kernel) rfl
theorem ml_M_174 : Cond.methodLink RM 174 yM_copyA ∈ zBig := zm 537 (by decide +kernel) rfl
theorem ml_M_160 : Cond.methodLink RM 160 yM_roundDown ∈ zBig := zm 541 (by decide +kernel) rfl
theorem ml_M_145 : Cond.methodLink RM 145 yM_realA ∈ zBig := zm 545 (by decide +kernel) rfl
theorem ml_M_72 : Cond.methodLink RM 72 yM_resultToA ∈ zBig := zm 549 (by decide +kernel) rfl
theorem ml_M_101 : Cond.methodLink RM 101 yM_signOf ∈ zBig := zm 553 (by decide +kernel) rfl
theorem ml_M_190 : Cond.methodLink RM 190 yM_wholes ∈ zBig := zm 556 (by decide +kernel) rfl
theorem ml_M_142 : Cond.methodLink RM 142 yM_floorQuotient ∈ zBig := zm 560 (by decide +kernel) rfl
theorem ml_M_193 : Cond.methodLink RM 193 yM_reals ∈ zBig := zm 563 (by decide +kernel) rfl
theorem ml_M_148 : Cond.methodLink RM 148 yM_realB ∈ zBig := zm 567 (by decide +kernel) rfl
theorem ml_M_75 : Cond.methodLink RM 75 yM_resultToB ∈ zBig := zm 571 (by decide +kernel) rfl
theorem ml_M_119 : Cond.methodLink RM 119 yM_add ∈ zBig := zm 575 (by decide +kernel) rfl
theorem ml_M_86 : Cond.methodLink RM 86 yM_isGreat ∈ zBig := zm 579 (by decide +kernel) rfl
theorem ml_M_90 : Cond.methodLink RM 90 yM_addNumbers ∈ zBig := zm 582 (by decide +kernel) rfl
theorem ml_M_78 : Cond.methodLink RM 78 yM_room ∈ zBig := zm 586 (by decide +kernel) rfl
theorem ml_M_82 : Cond.methodLink RM 82 yM_down ∈ zBig := zm 589 (by decide +kernel) rfl
theorem ml_M_151 : Cond.methodLink RM 151 yM_turnB ∈ zBig := zm 592 (by decide +kernel) rfl
theorem ml_M_154 : Cond.methodLink RM 154 yM_multiply ∈ zBig := zm 596 (by decide +kernel) rfl
theorem ml_M_105 : Cond.methodLink RM 105 yM_product ∈ zBig := zm 600 (by decide +kernel) rfl
theorem ml_M_157 : Cond.methodLink RM 157 yM_divide ∈ zBig := zm 605 (by decide +kernel) rfl
theorem ml_M_109 : Cond.methodLink RM 109 yM_quotientBits ∈ zBig := zm 609 (by decide +kernel) rfl
theorem ml_M_163 : Cond.methodLink RM 163 yM_remainder ∈ zBig := zm 613 (by decide +kernel) rfl
theorem ml_M_116 : Cond.methodLink RM 116 yM_restOfSizes ∈ zBig := zm 617 (by decide +kernel) rfl
theorem ml_M_166 : Cond.methodLink RM 166 yM_power ∈ zBig := zm 622 (by decide +kernel) rfl
theorem ml_L_39 : Cond.methodLink RL 39 yM_compare ∈ zBig := zm 628 (by decide +kernel) rfl
theorem ml_M_219 : Cond.methodLink RM 219 yM_isEqual ∈ zBig := zm 632 (by decide +kernel) rfl
theorem ml_M_223 : Cond.methodLink RM 223 yM_isLess ∈ zBig := zm 636 (by decide +kernel) rfl
theorem ml_M_196 : Cond.methodLink RM 196 yM_isWholeLess ∈ zBig := zm 640 (by decide +kernel) rfl
theorem ml_M_200 : Cond.methodLink RM 200 yM_isRealLess ∈ zBig := zm 644 (by decide +kernel) rfl
theorem ml_L_44 : Cond.methodLink RL 44 yM_kind ∈ zBig := zm 648 (by decide +kernel) rfl
theorem ml_L_49 : Cond.methodLink RL 49 yM_number ∈ zBig := zm 652 (by decide +kernel) rfl
theorem ml_L_53 : Cond.methodLink RL 53 yM_exponent ∈ zBig := zm 656 (by decide +kernel) rfl
theorem ml_L_58 : Cond.methodLink RL 58 yM_sum ∈ zBig := zm 660 (by decide +kernel) rfl
theorem ml_M_226 : Cond.methodLink RM 226 yM_areRegisters ∈ zBig := zm 664 (by decide +kernel) rfl
theorem ml_L_63 : Cond.methodLink RL 63 yM_polynomial ∈ zBig := zm 667 (by decide +kernel) rfl
theorem ml_L_67 : Cond.methodLink RL 67 yM_sort ∈ zBig := zm 671 (by decide +kernel) rfl
theorem ml_M_234 : Cond.methodLink RM 234 yM_isBefore ∈ zBig := zm 675 (by decide +kernel) rfl
theorem ml_M_230 : Cond.methodLink RM 230 yM_compare ∈ zBig := zm 679 (by decide +kernel) rfl
theorem ml_M_237 : Cond.methodLink RM 237 yM_exchange ∈ zBig := zm 680 (by decide +kernel) rfl
theorem fl_V_9 : Cond.fieldLink RV 9 "MixedNumbers$Value" "kind" "I" ∈ zBig := zm 89 (by decide +kernel) rfl
theorem fl_V_15 : Cond.fieldLink RV 15 "MixedNumbers$Value" "number" "J" ∈ zBig := zm 93 (by decide +kernel) rfl
theorem fl_V_19 : Cond.fieldLink RV 19 "MixedNumbers$Value" "exponent" "I" ∈ zBig := zm 97 (by decide +kernel) rfl
theorem fl_N_11 : Cond.fieldLink RN 11 "MixedNumbers" "registers" "[LMixedNumbers$Value;" ∈ zBig := zm 108 (by decide +kernel) rfl
theorem fl_N_16 : Cond.fieldLink RN 16 "MixedNumbers" "first" "LMixedNumbers$Value;" ∈ zBig := zm 109 (by decide +kernel) rfl
theorem fl_N_20 : Cond.fieldLink RN 20 "MixedNumbers" "second" "LMixedNumbers$Value;" ∈ zBig := zm 110 (by decide +kernel) rfl
theorem fl_N_23 : Cond.fieldLink RN 23 "MixedNumbers" "spare" "LMixedNumbers$Value;" ∈ zBig := zm 111 (by decide +kernel) rfl
theorem fl_M_7 : Cond.fieldLink RM 7 "MixedNumbersModel" "kinds" "[I" ∈ zBig := zm 403 (by decide +kernel) rfl
theorem fl_M_13 : Cond.fieldLink RM 13 "MixedNumbersModel" "numbers" "[J" ∈ zBig := zm 404 (by decide +kernel) rfl
theorem fl_M_17 : Cond.fieldLink RM 17 "MixedNumbersModel" "exponents" "[I" ∈ zBig := zm 405 (by decide +kernel) rfl
theorem fl_M_51 : Cond.fieldLink RM 51 "MixedNumbersModel" "ka" "I" ∈ zBig := zm 406 (by decide +kernel) rfl
theorem fl_M_54 : Cond.fieldLink RM 54 "MixedNumbersModel" "na" "J" ∈ zBig := zm 407 (by decide +kernel) rfl
theorem fl_M_57 : Cond.fieldLink RM 57 "MixedNumbersModel" "ea" "I" ∈ zBig := zm 408 (by decide +kernel) rfl
theorem fl_M_60 : Cond.fieldLink RM 60 "MixedNumbersModel" "kb" "I" ∈ zBig := zm 409 (by decide +kernel) rfl
theorem fl_M_63 : Cond.fieldLink RM 63 "MixedNumbersModel" "nb" "J" ∈ zBig := zm 410 (by decide +kernel) rfl
theorem fl_M_66 : Cond.fieldLink RM 66 "MixedNumbersModel" "eb" "I" ∈ zBig := zm 411 (by decide +kernel) rfl
theorem fl_M_20 : Cond.fieldLink RM 20 "MixedNumbersModel" "k" "I" ∈ zBig := zm 412 (by decide +kernel) rfl
theorem fl_M_24 : Cond.fieldLink RM 24 "MixedNumbersModel" "n" "J" ∈ zBig := zm 413 (by decide +kernel) rfl
theorem fl_M_28 : Cond.fieldLink RM 28 "MixedNumbersModel" "e" "I" ∈ zBig := zm 414 (by decide +kernel) rfl
theorem fl_M_95 : Cond.fieldLink RM 95 "MixedNumbersModel" "bits" "J" ∈ zBig := zm 415 (by decide +kernel) rfl
theorem fl_M_98 : Cond.fieldLink RM 98 "MixedNumbersModel" "scale" "I" ∈ zBig := zm 416 (by decide +kernel) rfl
theorem kc_JI_264 : Cond.constant RJI 264 65536 ∈ zBig := zm 153 (by decide +kernel) rfl
theorem kc_R_76 : Cond.constantLong RR 76 134217727 ∈ zBig := zm 236 (by decide +kernel) rfl
theorem kc_R_78 : Cond.constantLong RR 78 18014398509481983 ∈ zBig := zm 237 (by decide +kernel) rfl
theorem kc_N_142 : Cond.constantLong RN 142 65537 ∈ zBig := zm 318 (by decide +kernel) rfl
theorem kc_N_144 : Cond.constantLong RN 144 (-65536) ∈ zBig := zm 319 (by decide +kernel) rfl
theorem kc_N_146 : Cond.constantLong RN 146 65536 ∈ zBig := zm 320 (by decide +kernel) rfl
theorem kc_N_159 : Cond.constantLong RN 159 (-64) ∈ zBig := zm 333 (by decide +kernel) rfl
theorem kc_N_161 : Cond.constantLong RN 161 64 ∈ zBig := zm 334 (by decide +kernel) rfl
theorem kc_N_163 : Cond.constantLong RN 163 (-1) ∈ zBig := zm 339 (by decide +kernel) rfl
theorem kc_M_41 : Cond.constantLong RM 41 (-9223372036854775808) ∈ zBig := zm 471 (by decide +kernel) rfl
theorem kc_M_112 : Cond.constantLong RM 112 (-1) ∈ zBig := zm 515 (by decide +kernel) rfl
theorem kc_M_122 : Cond.constantLong RM 122 64 ∈ zBig := zm 523 (by decide +kernel) rfl
theorem kc_M_124 : Cond.constantLong RM 124 (-64) ∈ zBig := zm 524 (by decide +kernel) rfl
theorem kc_M_93 : Cond.constantLong RM 93 134217727 ∈ zBig := zm 604 (by decide +kernel) rfl
theorem kc_M_114 : Cond.constantLong RM 114 2 ∈ zBig := zm 621 (by decide +kernel) rfl
theorem kc_M_170 : Cond.constantLong RM 170 (-65536) ∈ zBig := zm 626 (by decide +kernel) rfl
theorem kc_M_172 : Cond.constantLong RM 172 65536 ∈ zBig := zm 627 (by decide +kernel) rfl
theorem kc_L_13 : Cond.constantLong RL 13 4294967295 ∈ zBig := zm 684 (by decide +kernel) rfl
theorem cl_L_7 : Cond.classLink RL 7 RN ∈ zBig := zm 74 (by decide +kernel) rfl
theorem cl_N_9 : Cond.classLink RN 9 RV ∈ zBig := zm 82 (by decide +kernel) rfl
theorem cl_L_10 : Cond.classLink RL 10 RM ∈ zBig := zm 397 (by decide +kernel) rfl
theorem in_N : Cond.initialized RN ∈ zBig := zm 66 (by decide +kernel) rfl
theorem in_V : Cond.initialized RV ∈ zBig := zm 67 (by decide +kernel) rfl
theorem in_R : Cond.initialized RR ∈ zBig := zm 72 (by decide +kernel) rfl
theorem in_O : Cond.initialized RO ∈ zBig := zm 73 (by decide +kernel) rfl
theorem in_M : Cond.initialized RM ∈ zBig := zm 68 (by decide +kernel) rfl
theorem in_L : Cond.initialized RL ∈ zBig := zm 65 (by decide +kernel) rfl
theorem in_JI : Cond.initialized RJI ∈ zBig := zm 70 (by decide +kernel) rfl
theorem in_JL : Cond.initialized RJL ∈ zBig := zm 69 (by decide +kernel) rfl
theorem in_JM : Cond.initialized RJM ∈ zBig := zm 71 (by decide +kernel) rfl
theorem ins_V : Cond.instantiable RV 3 ∈ zBig := zm 84 (by decide +kernel) rfl
theorem ins_N : Cond.instantiable RN 4 ∈ zBig := zm 75 (by decide +kernel) rfl
theorem ins_M : Cond.instantiable RM 14 ∈ zBig := zm 398 (by decide +kernel) rfl
theorem in_Math : Cond.initialized "java/lang/Math" ∈ zBig := zm 71 (by decide +kernel) rfl
theorem ac_int : Cond.arrayClass .int ∈ zBig := zm 446 (by decide +kernel) rfl
theorem ac_long : Cond.arrayClass .long ∈ zBig := zm 447 (by decide +kernel) rfl
theorem im_obj : Cond.instanceMethod objectInit ∈ zBig := zm 80 (by decide +kernel) rfl
set_option maxRecDepth 20000 in
theorem co_obj : Cond.code objectInit ⟨#[0xb1]⟩ 1 none ∈ zBig := zm 81 rfl rfl
theorem im_N_init : Cond.instanceMethod yN_init ∈ zBig := zm 77 (by decide +kernel) rfl
set_option maxRecDepth 20000 in
theorem co_N_init : Cond.code yN_init bN_init 2 none ∈ zBig := zm 78 rfl rfl
theorem im_V_init : Cond.instanceMethod yV_init ∈ zBig := zm 86 (by decide +kernel) rfl
set_option maxRecDepth 20000 in
theorem co_V_init : Cond.code yV_init bV_init 1 none ∈ zBig := zm 87 rfl rfl
theorem im_N_whole : Cond.instanceMethod yN_whole ∈ zBig := zm 122 (by decide +kernel) rfl
set_option maxRecDepth 20000 in
theorem co_N_whole : Cond.code yN_whole bN_whole 4 (some .boolean) ∈ zBig := zm 124 rfl rfl
theorem se_N_whole : Cond.selects RN yN_whole yN_whole ∈ zBig := zm 123 (by decide +kernel) rfl
theorem st_N_isRegister : Cond.static yN_isRegister ∈ zBig := zm 126 (by decide +kernel) rfl
set_option maxRecDepth 20000 in
theorem co_N_isRegister : Cond.code yN_isRegister bN_isRegister 1 (some .boolean) ∈ zBig := zm 127 rfl rfl
theorem im_V_setWhole : Cond.instanceMethod yV_setWhole ∈ zBig := zm 130 (by decide +kernel) rfl
set_option maxRecDepth 20000 in
theorem co_V_setWhole : Cond.code yV_setWhole bV_setWhole 3 none ∈ zBig := zm 131 rfl rfl
theorem se_V_setWhole : Cond.selects RV yV_setWhole yV_setWhole ∈ zBig := zm 0 (by decide +kernel) rfl
theorem im_N_real : Cond.instanceMethod yN_real ∈ zBig := zm 133 (by decide +kernel) rfl
set_option maxRecDepth 20000 in
theorem co_N_real : Cond.code yN_real bN_real 5 (some .boolean) ∈ zBig := zm 135 rfl rfl
theorem se_N_real : Cond.selects RN yN_real yN_real ∈ zBig := zm 134 (by decide +kernel) rfl
theorem im_V_setReal : Cond.instanceMethod yV_setReal ∈ zBig := zm 138 (by decide +kernel) rfl
set_option maxRecDepth 20000 in
theorem co_V_setReal : Cond.code yV_setReal bV_setReal 4 none ∈ zBig := zm 139 rfl rfl
theorem se_V_setReal : Cond.selects RV yV_setReal yV_setReal ∈ zBig := zm 1 (by decide +kernel) rfl
theorem st_V_sizeOf : Cond.static yV_sizeOf ∈ zBig := zm 141 (by decide +kernel) rfl
set_option maxRecDepth 20000 in
theorem co_V_sizeOf : Cond.code yV_sizeOf bV_sizeOf 2 (some .long) ∈ zBig := zm 142 rfl rfl
theorem im_V_setNearest : Cond.instanceMethod yV_setNearest ∈ zBig := zm 145 (by decide +kernel) rfl
set_option maxRecDepth 20000 in
theorem co_V_setNearest : Cond.code yV_setNearest bV_setNearest 12 none ∈ zBig := zm 146 rfl rfl
theorem se_V_setNearest : Cond.selects RV yV_setNearest yV_setNearest ∈ zBig := zm 2 (by decide +kernel) rfl
theorem st_JL_numberOfLeadingZeros : Cond.static yJL_numberOfLeadingZeros ∈ zBig := zm 148 (by decide +kernel) rfl
set_option maxRecDepth 20000 in
theorem co_JL_numberOfLeadingZeros : Cond.code yJL_numberOfLeadingZeros bJL_numberOfLeadingZeros 3 (some .int) ∈ zBig := zm 149 rfl rfl
theorem st_JI_numberOfLeadingZeros : Cond.static yJI_numberOfLeadingZeros ∈ zBig := zm 151 (by decide +kernel) rfl
set_option maxRecDepth 20000 in
theorem co_JI_numberOfLeadingZeros : Cond.code yJI_numberOfLeadingZeros bJI_numberOfLeadingZeros 2 (some .int) ∈ zBig := zm 152 rfl rfl
theorem st_JM_max : Cond.static Lib.Math.max.name ∈ zBig := zm 155 (by decide +kernel) rfl
set_option maxRecDepth 20000 in
theorem co_JM_max : Cond.code Lib.Math.max.name Lib.Math.max.code 2 (some .int) ∈ zBig := zm 156 rfl rfl
theorem st_V_dropBits : Cond.static yV_dropBits ∈ zBig := zm 158 (by decide +kernel) rfl
set_option maxRecDepth 20000 in
theorem co_V_dropBits : Cond.code yV_dropBits bV_dropBits 11 (some .long) ∈ zBig := zm 159 rfl rfl
theorem im_V_setZero : Cond.instanceMethod yV_setZero ∈ zBig := zm 162 (by decide +kernel) rfl
set_option maxRecDepth 20000 in
theorem co_V_setZero : Cond.code yV_setZero bV_setZero 1 none ∈ zBig := zm 163 rfl rfl
theorem se_V_setZero : Cond.selects RV yV_setZero yV_setZero ∈ zBig := zm 3 (by decide +kernel) rfl
theorem im_V_setInfinity : Cond.instanceMethod yV_setInfinity ∈ zBig := zm 166 (by decide +kernel) rfl
set_option maxRecDepth 20000 in
theorem co_V_setInfinity : Cond.code yV_setInfinity bV_setInfinity 2 none ∈ zBig := zm 167 rfl rfl
theorem se_V_setInfinity : Cond.selects RV yV_setInfinity yV_setInfinity ∈ zBig := zm 4 (by decide +kernel) rfl
theorem st_JL_numberOfTrailingZeros : Cond.static yJL_numberOfTrailingZeros ∈ zBig := zm 169 (by decide +kernel) rfl
set_option maxRecDepth 20000 in
theorem co_JL_numberOfTrailingZeros : Cond.code yJL_numberOfTrailingZeros bJL_numberOfTrailingZeros 3 (some .int) ∈ zBig := zm 170 rfl rfl
theorem st_JI_numberOfTrailingZeros : Cond.static yJI_numberOfTrailingZeros ∈ zBig := zm 172 (by decide +kernel) rfl
set_option maxRecDepth 20000 in
theorem co_JI_numberOfTrailingZeros : Cond.code yJI_numberOfTrailingZeros bJI_numberOfTrailingZeros 2 (some .int) ∈ zBig := zm 173 rfl rfl
theorem st_JM_min : Cond.static Lib.Math.min.name ∈ zBig := zm 175 (by decide +kernel) rfl
set_option maxRecDepth 20000 in
theorem co_JM_min : Cond.code Lib.Math.min.name Lib.Math.min.code 2 (some .int) ∈ zBig := zm 176 rfl rfl
theorem im_V_become : Cond.instanceMethod yV_become ∈ zBig := zm 179 (by decide +kernel) rfl
set_option maxRecDepth 20000 in
theorem co_V_become : Cond.code yV_become bV_become 2 none ∈ zBig := zm 180 rfl rfl
theorem se_V_become : Cond.selects RV yV_become yV_become ∈ zBig := zm 5 (by decide +kernel) rfl
theorem im_N_special : Cond.instanceMethod yN_special ∈ zBig := zm 182 (by decide +kernel) rfl
set_option maxRecDepth 20000 in
theorem co_N_special : Cond.code yN_special bN_special 3 (some .boolean) ∈ zBig := zm 184 rfl rfl
theorem se_N_special : Cond.selects RN yN_special yN_special ∈ zBig := zm 183 (by decide +kernel) rfl
theorem im_V_setSpecial : Cond.instanceMethod yV_setSpecial ∈ zBig := zm 187 (by decide +kernel) rfl
set_option maxRecDepth 20000 in
theorem co_V_setSpecial : Cond.code yV_setSpecial bV_setSpecial 2 none ∈ zBig := zm 188 rfl rfl
theorem se_V_setSpecial : Cond.selects RV yV_setSpecial yV_setSpecial ∈ zBig := zm 6 (by decide +kernel) rfl
theorem im_N_operate : Cond.instanceMethod yN_operate ∈ zBig := zm 190 (by decide +kernel) rfl
set_option maxRecDepth 20000 in
theorem co_N_operate : Cond.code yN_operate bN_operate 6 (some .int) ∈ zBig := zm 192 rfl rfl
theorem se_N_operate : Cond.selects RN yN_operate yN_operate ∈ zBig := zm 191 (by decide +kernel) rfl
theorem im_N_addOrMultiply : Cond.instanceMethod yN_addOrMultiply ∈ zBig := zm 195 (by decide +kernel) rfl
set_option maxRecDepth 20000 in
theorem co_N_addOrMultiply : Cond.code yN_addOrMultiply bN_addOrMultiply 6 (some .int) ∈ zBig := zm 196 rfl rfl
theorem se_N_addOrMultiply : Cond.selects RN yN_addOrMultiply yN_addOrMultiply ∈ zBig := zm 7 (by decide +kernel) rfl
theorem im_N_areWhole : Cond.instanceMethod yN_areWhole ∈ zBig := zm 199 (by decide +kernel) rfl
set_option maxRecDepth 20000 in
theorem co_N_areWhole : Cond.code yN_areWhole bN_areWhole 1 (some .boolean) ∈ zBig := zm 200 rfl rfl
theorem se_N_areWhole : Cond.selects RN yN_areWhole yN_areWhole ∈ zBig := zm 8 (by decide +kernel) rfl
theorem im_N_makeReals : Cond.instanceMethod yN_makeReals ∈ zBig := zm 203 (by decide +kernel) rfl
set_option maxRecDepth 20000 in
theorem co_N_makeReals : Cond.code yN_makeReals bN_makeReals 1 none ∈ zBig := zm 204 rfl rfl
theorem se_N_makeReals : Cond.selects RN yN_makeReals yN_makeReals ∈ zBig := zm 9 (by decide +kernel) rfl
theorem im_V_turnReal : Cond.instanceMethod yV_turnReal ∈ zBig := zm 207 (by decide +kernel) rfl
set_option maxRecDepth 20000 in
theorem co_V_turnReal : Cond.code yV_turnReal bV_turnReal 1 none ∈ zBig := zm 208 rfl rfl
theorem se_V_turnReal : Cond.selects RV yV_turnReal yV_turnReal ∈ zBig := zm 10 (by decide +kernel) rfl
theorem im_V_size : Cond.instanceMethod yV_size ∈ zBig := zm 211 (by decide +kernel) rfl
set_option maxRecDepth 20000 in
theorem co_V_size : Cond.code yV_size bV_size 1 (some .long) ∈ zBig := zm 212 rfl rfl
theorem se_V_size : Cond.selects RV yV_size yV_size ∈ zBig := zm 11 (by decide +kernel) rfl
theorem st_R_multiply : Cond.static yR_multiply ∈ zBig := zm 214 (by decide +kernel) rfl
set_option maxRecDepth 20000 in
theorem co_R_multiply : Cond.code yR_multiply bR_multiply 3 none ∈ zBig := zm 215 rfl rfl
theorem st_R_hasNoNumber : Cond.static yR_hasNoNumber ∈ zBig := zm 217 (by decide +kernel) rfl
set_option maxRecDepth 20000 in
theorem co_R_hasNoNumber : Cond.code yR_hasNoNumber bR_hasNoNumber 2 (some .boolean) ∈ zBig := zm 218 rfl rfl
theorem im_V_sign : Cond.instanceMethod yV_sign ∈ zBig := zm 222 (by decide +kernel) rfl
set_option maxRecDepth 20000 in
theorem co_V_sign : Cond.code yV_sign bV_sign 1 (some .int) ∈ zBig := zm 223 rfl rfl
theorem se_V_sign : Cond.selects RV yV_sign yV_sign ∈ zBig := zm 12 (by decide +kernel) rfl
theorem im_V_isInfinite : Cond.instanceMethod yV_isInfinite ∈ zBig := zm 226 (by decide +kernel) rfl
set_option maxRecDepth 20000 in
theorem co_V_isInfinite : Cond.code yV_isInfinite bV_isInfinite 1 (some .boolean) ∈ zBig := zm 227 rfl rfl
theorem se_V_isInfinite : Cond.selects RV yV_isInfinite yV_isInfinite ∈ zBig := zm 13 (by decide +kernel) rfl
theorem st_JL_signum : Cond.static yJL_signum ∈ zBig := zm 229 (by decide +kernel) rfl
set_option maxRecDepth 20000 in
theorem co_JL_signum : Cond.code yJL_signum bJL_signum 2 (some .int) ∈ zBig := zm 230 rfl rfl
theorem st_R_multiplyFinite : Cond.static yR_multiplyFinite ∈ zBig := zm 233 (by decide +kernel) rfl
set_option maxRecDepth 20000 in
theorem co_R_multiplyFinite : Cond.code yR_multiplyFinite bR_multiplyFinite 22 none ∈ zBig := zm 234 rfl rfl
theorem im_V_negate : Cond.instanceMethod yV_negate ∈ zBig := zm 244 (by decide +kernel) rfl
set_option maxRecDepth 20000 in
theorem co_V_negate : Cond.code yV_negate bV_negate 1 none ∈ zBig := zm 245 rfl rfl
theorem se_V_negate : Cond.selects RV yV_negate yV_negate ∈ zBig := zm 14 (by decide +kernel) rfl
theorem st_R_add : Cond.static yR_add ∈ zBig := zm 247 (by decide +kernel) rfl
set_option maxRecDepth 20000 in
theorem co_R_add : Cond.code yR_add bR_add 2 none ∈ zBig := zm 248 rfl rfl
theorem st_O_ofSizes : Cond.static yO_ofSizes ∈ zBig := zm 251 (by decide +kernel) rfl
set_option maxRecDepth 20000 in
theorem co_O_ofSizes : Cond.code yO_ofSizes bO_ofSizes 6 (some .int) ∈ zBig := zm 252 rfl rfl
theorem st_JI_compare : Cond.static yJI_compare ∈ zBig := zm 256 (by decide +kernel) rfl
set_option maxRecDepth 20000 in
theorem co_JI_compare : Cond.code yJI_compare bJI_compare 2 (some .int) ∈ zBig := zm 257 rfl rfl
theorem st_JL_compare : Cond.static yJL_compare ∈ zBig := zm 259 (by decide +kernel) rfl
set_option maxRecDepth 20000 in
theorem co_JL_compare : Cond.code yJL_compare bJL_compare 4 (some .int) ∈ zBig := zm 260 rfl rfl
theorem st_R_addSmaller : Cond.static yR_addSmaller ∈ zBig := zm 262 (by decide +kernel) rfl
set_option maxRecDepth 20000 in
theorem co_R_addSmaller : Cond.code yR_addSmaller bR_addSmaller 14 none ∈ zBig := zm 263 rfl rfl
theorem im_N_divideOrRemain : Cond.instanceMethod yN_divideOrRemain ∈ zBig := zm 266 (by decide +kernel) rfl
set_option maxRecDepth 20000 in
theorem co_N_divideOrRemain : Cond.code yN_divideOrRemain bN_divideOrRemain 2 (some .int) ∈ zBig := zm 267 rfl rfl
theorem se_N_divideOrRemain : Cond.selects RN yN_divideOrRemain yN_divideOrRemain ∈ zBig := zm 15 (by decide +kernel) rfl
theorem im_N_divideOrRemainReal : Cond.instanceMethod yN_divideOrRemainReal ∈ zBig := zm 270 (by decide +kernel) rfl
set_option maxRecDepth 20000 in
theorem co_N_divideOrRemainReal : Cond.code yN_divideOrRemainReal bN_divideOrRemainReal 2 none ∈ zBig := zm 271 rfl rfl
theorem se_N_divideOrRemainReal : Cond.selects RN yN_divideOrRemainReal yN_divideOrRemainReal ∈ zBig := zm 16 (by decide +kernel) rfl
theorem st_R_remainder : Cond.static yR_remainder ∈ zBig := zm 273 (by decide +kernel) rfl
set_option maxRecDepth 20000 in
theorem co_R_remainder : Cond.code yR_remainder bR_remainder 2 none ∈ zBig := zm 274 rfl rfl
theorem st_R_remainderOfSizes : Cond.static yR_remainderOfSizes ∈ zBig := zm 276 (by decide +kernel) rfl
set_option maxRecDepth 20000 in
theorem co_R_remainderOfSizes : Cond.code yR_remainderOfSizes bR_remainderOfSizes 5 none ∈ zBig := zm 277 rfl rfl
theorem st_R_remainderAbove : Cond.static yR_remainderAbove ∈ zBig := zm 279 (by decide +kernel) rfl
set_option maxRecDepth 20000 in
theorem co_R_remainderAbove : Cond.code yR_remainderAbove bR_remainderAbove 8 (some .long) ∈ zBig := zm 280 rfl rfl
theorem st_R_divide : Cond.static yR_divide ∈ zBig := zm 282 (by decide +kernel) rfl
set_option maxRecDepth 20000 in
theorem co_R_divide : Cond.code yR_divide bR_divide 2 none ∈ zBig := zm 283 rfl rfl
theorem st_R_divideByZero : Cond.static yR_divideByZero ∈ zBig := zm 286 (by decide +kernel) rfl
set_option maxRecDepth 20000 in
theorem co_R_divideByZero : Cond.code yR_divideByZero bR_divideByZero 1 none ∈ zBig := zm 287 rfl rfl
theorem st_R_divideFinite : Cond.static yR_divideFinite ∈ zBig := zm 289 (by decide +kernel) rfl
set_option maxRecDepth 20000 in
theorem co_R_divideFinite : Cond.code yR_divideFinite bR_divideFinite 13 none ∈ zBig := zm 290 rfl rfl
theorem im_V_roundDown : Cond.instanceMethod yV_roundDown ∈ zBig := zm 293 (by decide +kernel) rfl
set_option maxRecDepth 20000 in
theorem co_V_roundDown : Cond.code yV_roundDown bV_roundDown 1 none ∈ zBig := zm 294 rfl rfl
theorem se_V_roundDown : Cond.selects RV yV_roundDown yV_roundDown ∈ zBig := zm 17 (by decide +kernel) rfl
theorem im_V_floor : Cond.instanceMethod yV_floor ∈ zBig := zm 297 (by decide +kernel) rfl
set_option maxRecDepth 20000 in
theorem co_V_floor : Cond.code yV_floor bV_floor 1 (some .long) ∈ zBig := zm 298 rfl rfl
theorem se_V_floor : Cond.selects RV yV_floor yV_floor ∈ zBig := zm 18 (by decide +kernel) rfl
theorem st_JM_floorDiv : Cond.static yJM_floorDiv ∈ zBig := zm 301 (by decide +kernel) rfl
set_option maxRecDepth 20000 in
theorem co_JM_floorDiv : Cond.code yJM_floorDiv bJM_floorDiv 6 (some .long) ∈ zBig := zm 302 rfl rfl
theorem st_JM_floorMod : Cond.static yJM_floorMod ∈ zBig := zm 304 (by decide +kernel) rfl
set_option maxRecDepth 20000 in
theorem co_JM_floorMod : Cond.code yJM_floorMod bJM_floorMod 6 (some .long) ∈ zBig := zm 305 rfl rfl
theorem im_N_power : Cond.instanceMethod yN_power ∈ zBig := zm 308 (by decide +kernel) rfl
set_option maxRecDepth 20000 in
theorem co_N_power : Cond.code yN_power bN_power 3 (some .int) ∈ zBig := zm 309 rfl rfl
theorem se_N_power : Cond.selects RN yN_power yN_power ∈ zBig := zm 19 (by decide +kernel) rfl
theorem im_V_countsAsWhole : Cond.instanceMethod yV_countsAsWhole ∈ zBig := zm 312 (by decide +kernel) rfl
set_option maxRecDepth 20000 in
theorem co_V_countsAsWhole : Cond.code yV_countsAsWhole bV_countsAsWhole 1 (some .boolean) ∈ zBig := zm 313 rfl rfl
theorem se_V_countsAsWhole : Cond.selects RV yV_countsAsWhole yV_countsAsWhole ∈ zBig := zm 20 (by decide +kernel) rfl
theorem im_V_asWhole : Cond.instanceMethod yV_asWhole ∈ zBig := zm 316 (by decide +kernel) rfl
set_option maxRecDepth 20000 in
theorem co_V_asWhole : Cond.code yV_asWhole bV_asWhole 1 (some .long) ∈ zBig := zm 317 rfl rfl
theorem se_V_asWhole : Cond.selects RV yV_asWhole yV_asWhole ∈ zBig := zm 21 (by decide +kernel) rfl
theorem im_N_raise : Cond.instanceMethod yN_raise ∈ zBig := zm 323 (by decide +kernel) rfl
set_option maxRecDepth 20000 in
theorem co_N_raise : Cond.code yN_raise bN_raise 4 none ∈ zBig := zm 324 rfl rfl
theorem se_N_raise : Cond.selects RN yN_raise yN_raise ∈ zBig := zm 22 (by decide +kernel) rfl
theorem im_N_combineBits : Cond.instanceMethod yN_combineBits ∈ zBig := zm 328 (by decide +kernel) rfl
set_option maxRecDepth 20000 in
theorem co_N_combineBits : Cond.code yN_combineBits bN_combineBits 6 (some .int) ∈ zBig := zm 329 rfl rfl
theorem se_N_combineBits : Cond.selects RN yN_combineBits yN_combineBits ∈ zBig := zm 23 (by decide +kernel) rfl
theorem st_N_shiftLeft : Cond.static yN_shiftLeft ∈ zBig := zm 331 (by decide +kernel) rfl
set_option maxRecDepth 20000 in
theorem co_N_shiftLeft : Cond.code yN_shiftLeft bN_shiftLeft 4 (some .long) ∈ zBig := zm 332 rfl rfl
theorem im_N_applyToOne : Cond.instanceMethod yN_applyToOne ∈ zBig := zm 337 (by decide +kernel) rfl
set_option maxRecDepth 20000 in
theorem co_N_applyToOne : Cond.code yN_applyToOne bN_applyToOne 2 (some .int) ∈ zBig := zm 338 rfl rfl
theorem se_N_applyToOne : Cond.selects RN yN_applyToOne yN_applyToOne ∈ zBig := zm 24 (by decide +kernel) rfl
theorem im_N_compare : Cond.instanceMethod yN_compare ∈ zBig := zm 342 (by decide +kernel) rfl
set_option maxRecDepth 20000 in
theorem co_N_compare : Cond.code yN_compare bN_compare 8 (some .int) ∈ zBig := zm 344 rfl rfl
theorem se_N_compare : Cond.selects RN yN_compare yN_compare ∈ zBig := zm 343 (by decide +kernel) rfl
theorem st_O_of : Cond.static yO_of ∈ zBig := zm 346 (by decide +kernel) rfl
set_option maxRecDepth 20000 in
theorem co_O_of : Cond.code yO_of bO_of 2 (some .int) ∈ zBig := zm 347 rfl rfl
theorem st_O_infinityOf : Cond.static yO_infinityOf ∈ zBig := zm 350 (by decide +kernel) rfl
set_option maxRecDepth 20000 in
theorem co_O_infinityOf : Cond.code yO_infinityOf bO_infinityOf 1 (some .int) ∈ zBig := zm 351 rfl rfl
theorem st_O_ofWhole : Cond.static yO_ofWhole ∈ zBig := zm 354 (by decide +kernel) rfl
set_option maxRecDepth 20000 in
theorem co_O_ofWhole : Cond.code yO_ofWhole bO_ofWhole 5 (some .int) ∈ zBig := zm 355 rfl rfl
theorem st_O_ofReals : Cond.static yO_ofReals ∈ zBig := zm 359 (by decide +kernel) rfl
set_option maxRecDepth 20000 in
theorem co_O_ofReals : Cond.code yO_ofReals bO_ofReals 2 (some .int) ∈ zBig := zm 360 rfl rfl
theorem im_N_kind : Cond.instanceMethod yN_kind ∈ zBig := zm 363 (by decide +kernel) rfl
set_option maxRecDepth 20000 in
theorem co_N_kind : Cond.code yN_kind bN_kind 2 (some .int) ∈ zBig := zm 365 rfl rfl
theorem se_N_kind : Cond.selects RN yN_kind yN_kind ∈ zBig := zm 364 (by decide +kernel) rfl
theorem im_N_number : Cond.instanceMethod yN_number ∈ zBig := zm 367 (by decide +kernel) rfl
set_option maxRecDepth 20000 in
theorem co_N_number : Cond.code yN_number bN_number 2 (some .long) ∈ zBig := zm 369 rfl rfl
theorem se_N_number : Cond.selects RN yN_number yN_number ∈ zBig := zm 368 (by decide +kernel) rfl
theorem im_N_exponent : Cond.instanceMethod yN_exponent ∈ zBig := zm 371 (by decide +kernel) rfl
set_option maxRecDepth 20000 in
theorem co_N_exponent : Cond.code yN_exponent bN_exponent 2 (some .int) ∈ zBig := zm 373 rfl rfl
theorem se_N_exponent : Cond.selects RN yN_exponent yN_exponent ∈ zBig := zm 372 (by decide +kernel) rfl
theorem im_N_sum : Cond.instanceMethod yN_sum ∈ zBig := zm 375 (by decide +kernel) rfl
set_option maxRecDepth 20000 in
theorem co_N_sum : Cond.code yN_sum bN_sum 5 (some .boolean) ∈ zBig := zm 377 rfl rfl
theorem se_N_sum : Cond.selects RN yN_sum yN_sum ∈ zBig := zm 376 (by decide +kernel) rfl
theorem st_N_isRow : Cond.static yN_isRow ∈ zBig := zm 379 (by decide +kernel) rfl
set_option maxRecDepth 20000 in
theorem co_N_isRow : Cond.code yN_isRow bN_isRow 2 (some .boolean) ∈ zBig := zm 380 rfl rfl
theorem im_N_polynomial : Cond.instanceMethod yN_polynomial ∈ zBig := zm 382 (by decide +kernel) rfl
set_option maxRecDepth 20000 in
theorem co_N_polynomial : Cond.code yN_polynomial bN_polynomial 6 (some .boolean) ∈ zBig := zm 384 rfl rfl
theorem se_N_polynomial : Cond.selects RN yN_polynomial yN_polynomial ∈ zBig := zm 383 (by decide +kernel) rfl
theorem im_N_sort : Cond.instanceMethod yN_sort ∈ zBig := zm 386 (by decide +kernel) rfl
set_option maxRecDepth 20000 in
theorem co_N_sort : Cond.code yN_sort bN_sort 4 (some .boolean) ∈ zBig := zm 388 rfl rfl
theorem se_N_sort : Cond.selects RN yN_sort yN_sort ∈ zBig := zm 387 (by decide +kernel) rfl
theorem im_N_insert : Cond.instanceMethod yN_insert ∈ zBig := zm 391 (by decide +kernel) rfl
set_option maxRecDepth 20000 in
theorem co_N_insert : Cond.code yN_insert bN_insert 5 none ∈ zBig := zm 392 rfl rfl
theorem se_N_insert : Cond.selects RN yN_insert yN_insert ∈ zBig := zm 25 (by decide +kernel) rfl
theorem st_O_goesBefore : Cond.static yO_goesBefore ∈ zBig := zm 394 (by decide +kernel) rfl
set_option maxRecDepth 20000 in
theorem co_O_goesBefore : Cond.code yO_goesBefore bO_goesBefore 2 (some .boolean) ∈ zBig := zm 395 rfl rfl
theorem im_M_init : Cond.instanceMethod yM_init ∈ zBig := zm 400 (by decide +kernel) rfl
set_option maxRecDepth 20000 in
theorem co_M_init : Cond.code yM_init bM_init 2 none ∈ zBig := zm 401 rfl rfl
theorem im_M_whole : Cond.instanceMethod yM_whole ∈ zBig := zm 449 (by decide +kernel) rfl
set_option maxRecDepth 20000 in
theorem co_M_whole : Cond.code yM_whole bM_whole 4 (some .boolean) ∈ zBig := zm 451 rfl rfl
theorem se_M_whole : Cond.selects RM yM_whole yM_whole ∈ zBig := zm 450 (by decide +kernel) rfl
theorem st_M_isRegister : Cond.static yM_isRegister ∈ zBig := zm 453 (by decide +kernel) rfl
set_option maxRecDepth 20000 in
theorem co_M_isRegister : Cond.code yM_isRegister bM_isRegister 1 (some .boolean) ∈ zBig := zm 454 rfl rfl
theorem im_M_setWhole : Cond.instanceMethod yM_setWhole ∈ zBig := zm 457 (by decide +kernel) rfl
set_option maxRecDepth 20000 in
theorem co_M_setWhole : Cond.code yM_setWhole bM_setWhole 3 none ∈ zBig := zm 458 rfl rfl
theorem se_M_setWhole : Cond.selects RM yM_setWhole yM_setWhole ∈ zBig := zm 26 (by decide +kernel) rfl
theorem im_M_put : Cond.instanceMethod yM_put ∈ zBig := zm 461 (by decide +kernel) rfl
set_option maxRecDepth 20000 in
theorem co_M_put : Cond.code yM_put bM_put 2 none ∈ zBig := zm 462 rfl rfl
theorem se_M_put : Cond.selects RM yM_put yM_put ∈ zBig := zm 27 (by decide +kernel) rfl
theorem im_M_real : Cond.instanceMethod yM_real ∈ zBig := zm 464 (by decide +kernel) rfl
set_option maxRecDepth 20000 in
theorem co_M_real : Cond.code yM_real bM_real 5 (some .boolean) ∈ zBig := zm 466 rfl rfl
theorem se_M_real : Cond.selects RM yM_real yM_real ∈ zBig := zm 465 (by decide +kernel) rfl
theorem im_M_nearestOf : Cond.instanceMethod yM_nearestOf ∈ zBig := zm 469 (by decide +kernel) rfl
set_option maxRecDepth 20000 in
theorem co_M_nearestOf : Cond.code yM_nearestOf bM_nearestOf 6 none ∈ zBig := zm 470 rfl rfl
theorem se_M_nearestOf : Cond.selects RM yM_nearestOf yM_nearestOf ∈ zBig := zm 28 (by decide +kernel) rfl
theorem im_M_nearest : Cond.instanceMethod yM_nearest ∈ zBig := zm 474 (by decide +kernel) rfl
set_option maxRecDepth 20000 in
theorem co_M_nearest : Cond.code yM_nearest bM_nearest 15 none ∈ zBig := zm 475 rfl rfl
theorem se_M_nearest : Cond.selects RM yM_nearest yM_nearest ∈ zBig := zm 29 (by decide +kernel) rfl
theorem im_M_plain : Cond.instanceMethod yM_plain ∈ zBig := zm 478 (by decide +kernel) rfl
set_option maxRecDepth 20000 in
theorem co_M_plain : Cond.code yM_plain bM_plain 4 none ∈ zBig := zm 479 rfl rfl
theorem se_M_plain : Cond.selects RM yM_plain yM_plain ∈ zBig := zm 30 (by decide +kernel) rfl
theorem im_M_setSpecial : Cond.instanceMethod yM_setSpecial ∈ zBig := zm 482 (by decide +kernel) rfl
set_option maxRecDepth 20000 in
theorem co_M_setSpecial : Cond.code yM_setSpecial bM_setSpecial 2 none ∈ zBig := zm 483 rfl rfl
theorem se_M_setSpecial : Cond.selects RM yM_setSpecial yM_setSpecial ∈ zBig := zm 31 (by decide +kernel) rfl
theorem st_M_size : Cond.static yM_size ∈ zBig := zm 485 (by decide +kernel) rfl
set_option maxRecDepth 20000 in
theorem co_M_size : Cond.code yM_size bM_size 2 (some .long) ∈ zBig := zm 486 rfl rfl
theorem im_M_special : Cond.instanceMethod yM_special ∈ zBig := zm 488 (by decide +kernel) rfl
set_option maxRecDepth 20000 in
theorem co_M_special : Cond.code yM_special bM_special 3 (some .boolean) ∈ zBig := zm 490 rfl rfl
theorem se_M_special : Cond.selects RM yM_special yM_special ∈ zBig := zm 489 (by decide +kernel) rfl
theorem im_M_operate : Cond.instanceMethod yM_operate ∈ zBig := zm 492 (by decide +kernel) rfl
set_option maxRecDepth 20000 in
theorem co_M_operate : Cond.code yM_operate bM_operate 6 (some .int) ∈ zBig := zm 494 rfl rfl
theorem se_M_operate : Cond.selects RM yM_operate yM_operate ∈ zBig := zm 493 (by decide +kernel) rfl
theorem im_M_takeA : Cond.instanceMethod yM_takeA ∈ zBig := zm 497 (by decide +kernel) rfl
set_option maxRecDepth 20000 in
theorem co_M_takeA : Cond.code yM_takeA bM_takeA 2 none ∈ zBig := zm 498 rfl rfl
theorem se_M_takeA : Cond.selects RM yM_takeA yM_takeA ∈ zBig := zm 32 (by decide +kernel) rfl
theorem im_M_takeB : Cond.instanceMethod yM_takeB ∈ zBig := zm 501 (by decide +kernel) rfl
set_option maxRecDepth 20000 in
theorem co_M_takeB : Cond.code yM_takeB bM_takeB 2 none ∈ zBig := zm 502 rfl rfl
theorem se_M_takeB : Cond.selects RM yM_takeB yM_takeB ∈ zBig := zm 33 (by decide +kernel) rfl
theorem im_M_operation : Cond.instanceMethod yM_operation ∈ zBig := zm 505 (by decide +kernel) rfl
set_option maxRecDepth 20000 in
theorem co_M_operation : Cond.code yM_operation bM_operation 3 (some .int) ∈ zBig := zm 506 rfl rfl
theorem se_M_operation : Cond.selects RM yM_operation yM_operation ∈ zBig := zm 34 (by decide +kernel) rfl
theorem im_M_bitwise : Cond.instanceMethod yM_bitwise ∈ zBig := zm 509 (by decide +kernel) rfl
set_option maxRecDepth 20000 in
theorem co_M_bitwise : Cond.code yM_bitwise bM_bitwise 8 (some .int) ∈ zBig := zm 510 rfl rfl
theorem se_M_bitwise : Cond.selects RM yM_bitwise yM_bitwise ∈ zBig := zm 35 (by decide +kernel) rfl
theorem im_M_isWhole : Cond.instanceMethod yM_isWhole ∈ zBig := zm 513 (by decide +kernel) rfl
set_option maxRecDepth 20000 in
theorem co_M_isWhole : Cond.code yM_isWhole bM_isWhole 5 (some .boolean) ∈ zBig := zm 514 rfl rfl
theorem se_M_isWhole : Cond.selects RM yM_isWhole yM_isWhole ∈ zBig := zm 36 (by decide +kernel) rfl
theorem im_M_wholeOf : Cond.instanceMethod yM_wholeOf ∈ zBig := zm 518 (by decide +kernel) rfl
set_option maxRecDepth 20000 in
theorem co_M_wholeOf : Cond.code yM_wholeOf bM_wholeOf 5 (some .long) ∈ zBig := zm 519 rfl rfl
theorem se_M_wholeOf : Cond.selects RM yM_wholeOf yM_wholeOf ∈ zBig := zm 37 (by decide +kernel) rfl
theorem st_M_shifted : Cond.static yM_shifted ∈ zBig := zm 521 (by decide +kernel) rfl
set_option maxRecDepth 20000 in
theorem co_M_shifted : Cond.code yM_shifted bM_shifted 4 (some .long) ∈ zBig := zm 522 rfl rfl
theorem im_M_single : Cond.instanceMethod yM_single ∈ zBig := zm 527 (by decide +kernel) rfl
set_option maxRecDepth 20000 in
theorem co_M_single : Cond.code yM_single bM_single 2 (some .int) ∈ zBig := zm 528 rfl rfl
theorem se_M_single : Cond.selects RM yM_single yM_single ∈ zBig := zm 38 (by decide +kernel) rfl
theorem im_M_negative : Cond.instanceMethod yM_negative ∈ zBig := zm 531 (by decide +kernel) rfl
set_option maxRecDepth 20000 in
theorem co_M_negative : Cond.code yM_negative bM_negative 1 none ∈ zBig := zm 532 rfl rfl
theorem se_M_negative : Cond.selects RM yM_negative yM_negative ∈ zBig := zm 39 (by decide +kernel) rfl
theorem im_M_floorOfA : Cond.instanceMethod yM_floorOfA ∈ zBig := zm 535 (by decide +kernel) rfl
set_option maxRecDepth 20000 in
theorem co_M_floorOfA : Cond.code yM_floorOfA bM_floorOfA 1 none ∈ zBig := zm 536 rfl rfl
theorem se_M_floorOfA : Cond.selects RM yM_floorOfA yM_floorOfA ∈ zBig := zm 40 (by decide +kernel) rfl
theorem im_M_copyA : Cond.instanceMethod yM_copyA ∈ zBig := zm 539 (by decide +kernel) rfl
set_option maxRecDepth 20000 in
theorem co_M_copyA : Cond.code yM_copyA bM_copyA 1 none ∈ zBig := zm 540 rfl rfl
theorem se_M_copyA : Cond.selects RM yM_copyA yM_copyA ∈ zBig := zm 41 (by decide +kernel) rfl
theorem im_M_roundDown : Cond.instanceMethod yM_roundDown ∈ zBig := zm 543 (by decide +kernel) rfl
set_option maxRecDepth 20000 in
theorem co_M_roundDown : Cond.code yM_roundDown bM_roundDown 1 none ∈ zBig := zm 544 rfl rfl
theorem se_M_roundDown : Cond.selects RM yM_roundDown yM_roundDown ∈ zBig := zm 42 (by decide +kernel) rfl
theorem im_M_realA : Cond.instanceMethod yM_realA ∈ zBig := zm 547 (by decide +kernel) rfl
set_option maxRecDepth 20000 in
theorem co_M_realA : Cond.code yM_realA bM_realA 1 none ∈ zBig := zm 548 rfl rfl
theorem se_M_realA : Cond.selects RM yM_realA yM_realA ∈ zBig := zm 43 (by decide +kernel) rfl
theorem im_M_resultToA : Cond.instanceMethod yM_resultToA ∈ zBig := zm 551 (by decide +kernel) rfl
set_option maxRecDepth 20000 in
theorem co_M_resultToA : Cond.code yM_resultToA bM_resultToA 1 none ∈ zBig := zm 552 rfl rfl
theorem se_M_resultToA : Cond.selects RM yM_resultToA yM_resultToA ∈ zBig := zm 44 (by decide +kernel) rfl
theorem st_M_signOf : Cond.static yM_signOf ∈ zBig := zm 554 (by decide +kernel) rfl
set_option maxRecDepth 20000 in
theorem co_M_signOf : Cond.code yM_signOf bM_signOf 3 (some .int) ∈ zBig := zm 555 rfl rfl
theorem im_M_wholes : Cond.instanceMethod yM_wholes ∈ zBig := zm 558 (by decide +kernel) rfl
set_option maxRecDepth 20000 in
theorem co_M_wholes : Cond.code yM_wholes bM_wholes 2 (some .int) ∈ zBig := zm 559 rfl rfl
theorem se_M_wholes : Cond.selects RM yM_wholes yM_wholes ∈ zBig := zm 45 (by decide +kernel) rfl
theorem st_M_floorQuotient : Cond.static yM_floorQuotient ∈ zBig := zm 561 (by decide +kernel) rfl
set_option maxRecDepth 20000 in
theorem co_M_floorQuotient : Cond.code yM_floorQuotient bM_floorQuotient 6 (some .long) ∈ zBig := zm 562 rfl rfl
theorem im_M_reals : Cond.instanceMethod yM_reals ∈ zBig := zm 565 (by decide +kernel) rfl
set_option maxRecDepth 20000 in
theorem co_M_reals : Cond.code yM_reals bM_reals 2 (some .int) ∈ zBig := zm 566 rfl rfl
theorem se_M_reals : Cond.selects RM yM_reals yM_reals ∈ zBig := zm 46 (by decide +kernel) rfl
theorem im_M_realB : Cond.instanceMethod yM_realB ∈ zBig := zm 569 (by decide +kernel) rfl
set_option maxRecDepth 20000 in
theorem co_M_realB : Cond.code yM_realB bM_realB 1 none ∈ zBig := zm 570 rfl rfl
theorem se_M_realB : Cond.selects RM yM_realB yM_realB ∈ zBig := zm 47 (by decide +kernel) rfl
theorem im_M_resultToB : Cond.instanceMethod yM_resultToB ∈ zBig := zm 573 (by decide +kernel) rfl
set_option maxRecDepth 20000 in
theorem co_M_resultToB : Cond.code yM_resultToB bM_resultToB 1 none ∈ zBig := zm 574 rfl rfl
theorem se_M_resultToB : Cond.selects RM yM_resultToB yM_resultToB ∈ zBig := zm 48 (by decide +kernel) rfl
theorem im_M_add : Cond.instanceMethod yM_add ∈ zBig := zm 577 (by decide +kernel) rfl
set_option maxRecDepth 20000 in
theorem co_M_add : Cond.code yM_add bM_add 1 none ∈ zBig := zm 578 rfl rfl
theorem se_M_add : Cond.selects RM yM_add yM_add ∈ zBig := zm 49 (by decide +kernel) rfl
theorem st_M_isGreat : Cond.static yM_isGreat ∈ zBig := zm 580 (by decide +kernel) rfl
set_option maxRecDepth 20000 in
theorem co_M_isGreat : Cond.code yM_isGreat bM_isGreat 1 (some .boolean) ∈ zBig := zm 581 rfl rfl
theorem im_M_addNumbers : Cond.instanceMethod yM_addNumbers ∈ zBig := zm 584 (by decide +kernel) rfl
set_option maxRecDepth 20000 in
theorem co_M_addNumbers : Cond.code yM_addNumbers bM_addNumbers 19 none ∈ zBig := zm 585 rfl rfl
theorem se_M_addNumbers : Cond.selects RM yM_addNumbers yM_addNumbers ∈ zBig := zm 50 (by decide +kernel) rfl
theorem st_M_room : Cond.static yM_room ∈ zBig := zm 587 (by decide +kernel) rfl
set_option maxRecDepth 20000 in
theorem co_M_room : Cond.code yM_room bM_room 3 (some .int) ∈ zBig := zm 588 rfl rfl
theorem st_M_down : Cond.static yM_down ∈ zBig := zm 590 (by decide +kernel) rfl
set_option maxRecDepth 20000 in
theorem co_M_down : Cond.code yM_down bM_down 5 (some .long) ∈ zBig := zm 591 rfl rfl
theorem im_M_turnB : Cond.instanceMethod yM_turnB ∈ zBig := zm 594 (by decide +kernel) rfl
set_option maxRecDepth 20000 in
theorem co_M_turnB : Cond.code yM_turnB bM_turnB 1 none ∈ zBig := zm 595 rfl rfl
theorem se_M_turnB : Cond.selects RM yM_turnB yM_turnB ∈ zBig := zm 51 (by decide +kernel) rfl
theorem im_M_multiply : Cond.instanceMethod yM_multiply ∈ zBig := zm 598 (by decide +kernel) rfl
set_option maxRecDepth 20000 in
theorem co_M_multiply : Cond.code yM_multiply bM_multiply 2 none ∈ zBig := zm 599 rfl rfl
theorem se_M_multiply : Cond.selects RM yM_multiply yM_multiply ∈ zBig := zm 52 (by decide +kernel) rfl
theorem im_M_product : Cond.instanceMethod yM_product ∈ zBig := zm 602 (by decide +kernel) rfl
set_option maxRecDepth 20000 in
theorem co_M_product : Cond.code yM_product bM_product 17 none ∈ zBig := zm 603 rfl rfl
theorem se_M_product : Cond.selects RM yM_product yM_product ∈ zBig := zm 53 (by decide +kernel) rfl
theorem im_M_divide : Cond.instanceMethod yM_divide ∈ zBig := zm 607 (by decide +kernel) rfl
set_option maxRecDepth 20000 in
theorem co_M_divide : Cond.code yM_divide bM_divide 3 none ∈ zBig := zm 608 rfl rfl
theorem se_M_divide : Cond.selects RM yM_divide yM_divide ∈ zBig := zm 54 (by decide +kernel) rfl
theorem im_M_quotientBits : Cond.instanceMethod yM_quotientBits ∈ zBig := zm 611 (by decide +kernel) rfl
set_option maxRecDepth 20000 in
theorem co_M_quotientBits : Cond.code yM_quotientBits bM_quotientBits 10 none ∈ zBig := zm 612 rfl rfl
theorem se_M_quotientBits : Cond.selects RM yM_quotientBits yM_quotientBits ∈ zBig := zm 55 (by decide +kernel) rfl
theorem im_M_remainder : Cond.instanceMethod yM_remainder ∈ zBig := zm 615 (by decide +kernel) rfl
set_option maxRecDepth 20000 in
theorem co_M_remainder : Cond.code yM_remainder bM_remainder 3 none ∈ zBig := zm 616 rfl rfl
theorem se_M_remainder : Cond.selects RM yM_remainder yM_remainder ∈ zBig := zm 56 (by decide +kernel) rfl
theorem im_M_restOfSizes : Cond.instanceMethod yM_restOfSizes ∈ zBig := zm 619 (by decide +kernel) rfl
set_option maxRecDepth 20000 in
theorem co_M_restOfSizes : Cond.code yM_restOfSizes bM_restOfSizes 6 none ∈ zBig := zm 620 rfl rfl
theorem se_M_restOfSizes : Cond.selects RM yM_restOfSizes yM_restOfSizes ∈ zBig := zm 57 (by decide +kernel) rfl
theorem im_M_power : Cond.instanceMethod yM_power ∈ zBig := zm 624 (by decide +kernel) rfl
set_option maxRecDepth 20000 in
theorem co_M_power : Cond.code yM_power bM_power 13 (some .int) ∈ zBig := zm 625 rfl rfl
theorem se_M_power : Cond.selects RM yM_power yM_power ∈ zBig := zm 58 (by decide +kernel) rfl
theorem im_M_compare : Cond.instanceMethod yM_compare ∈ zBig := zm 629 (by decide +kernel) rfl
set_option maxRecDepth 20000 in
theorem co_M_compare : Cond.code yM_compare bM_compare 5 (some .int) ∈ zBig := zm 631 rfl rfl
theorem se_M_compare : Cond.selects RM yM_compare yM_compare ∈ zBig := zm 630 (by decide +kernel) rfl
theorem im_M_isEqual : Cond.instanceMethod yM_isEqual ∈ zBig := zm 634 (by decide +kernel) rfl
set_option maxRecDepth 20000 in
theorem co_M_isEqual : Cond.code yM_isEqual bM_isEqual 6 (some .boolean) ∈ zBig := zm 635 rfl rfl
theorem se_M_isEqual : Cond.selects RM yM_isEqual yM_isEqual ∈ zBig := zm 59 (by decide +kernel) rfl
theorem im_M_isLess : Cond.instanceMethod yM_isLess ∈ zBig := zm 638 (by decide +kernel) rfl
set_option maxRecDepth 20000 in
theorem co_M_isLess : Cond.code yM_isLess bM_isLess 2 (some .boolean) ∈ zBig := zm 639 rfl rfl
theorem se_M_isLess : Cond.selects RM yM_isLess yM_isLess ∈ zBig := zm 60 (by decide +kernel) rfl
theorem im_M_isWholeLess : Cond.instanceMethod yM_isWholeLess ∈ zBig := zm 642 (by decide +kernel) rfl
set_option maxRecDepth 20000 in
theorem co_M_isWholeLess : Cond.code yM_isWholeLess bM_isWholeLess 9 (some .boolean) ∈ zBig := zm 643 rfl rfl
theorem se_M_isWholeLess : Cond.selects RM yM_isWholeLess yM_isWholeLess ∈ zBig := zm 61 (by decide +kernel) rfl
theorem im_M_isRealLess : Cond.instanceMethod yM_isRealLess ∈ zBig := zm 646 (by decide +kernel) rfl
set_option maxRecDepth 20000 in
theorem co_M_isRealLess : Cond.code yM_isRealLess bM_isRealLess 4 (some .boolean) ∈ zBig := zm 647 rfl rfl
theorem se_M_isRealLess : Cond.selects RM yM_isRealLess yM_isRealLess ∈ zBig := zm 62 (by decide +kernel) rfl
theorem im_M_kind : Cond.instanceMethod yM_kind ∈ zBig := zm 649 (by decide +kernel) rfl
set_option maxRecDepth 20000 in
theorem co_M_kind : Cond.code yM_kind bM_kind 2 (some .int) ∈ zBig := zm 651 rfl rfl
theorem se_M_kind : Cond.selects RM yM_kind yM_kind ∈ zBig := zm 650 (by decide +kernel) rfl
theorem im_M_number : Cond.instanceMethod yM_number ∈ zBig := zm 653 (by decide +kernel) rfl
set_option maxRecDepth 20000 in
theorem co_M_number : Cond.code yM_number bM_number 2 (some .long) ∈ zBig := zm 655 rfl rfl
theorem se_M_number : Cond.selects RM yM_number yM_number ∈ zBig := zm 654 (by decide +kernel) rfl
theorem im_M_exponent : Cond.instanceMethod yM_exponent ∈ zBig := zm 657 (by decide +kernel) rfl
set_option maxRecDepth 20000 in
theorem co_M_exponent : Cond.code yM_exponent bM_exponent 2 (some .int) ∈ zBig := zm 659 rfl rfl
theorem se_M_exponent : Cond.selects RM yM_exponent yM_exponent ∈ zBig := zm 658 (by decide +kernel) rfl
theorem im_M_sum : Cond.instanceMethod yM_sum ∈ zBig := zm 661 (by decide +kernel) rfl
set_option maxRecDepth 20000 in
theorem co_M_sum : Cond.code yM_sum bM_sum 5 (some .boolean) ∈ zBig := zm 663 rfl rfl
theorem se_M_sum : Cond.selects RM yM_sum yM_sum ∈ zBig := zm 662 (by decide +kernel) rfl
theorem st_M_areRegisters : Cond.static yM_areRegisters ∈ zBig := zm 665 (by decide +kernel) rfl
set_option maxRecDepth 20000 in
theorem co_M_areRegisters : Cond.code yM_areRegisters bM_areRegisters 2 (some .boolean) ∈ zBig := zm 666 rfl rfl
theorem im_M_polynomial : Cond.instanceMethod yM_polynomial ∈ zBig := zm 668 (by decide +kernel) rfl
set_option maxRecDepth 20000 in
theorem co_M_polynomial : Cond.code yM_polynomial bM_polynomial 6 (some .boolean) ∈ zBig := zm 670 rfl rfl
theorem se_M_polynomial : Cond.selects RM yM_polynomial yM_polynomial ∈ zBig := zm 669 (by decide +kernel) rfl
theorem im_M_sort : Cond.instanceMethod yM_sort ∈ zBig := zm 672 (by decide +kernel) rfl
set_option maxRecDepth 20000 in
theorem co_M_sort : Cond.code yM_sort bM_sort 5 (some .boolean) ∈ zBig := zm 674 rfl rfl
theorem se_M_sort : Cond.selects RM yM_sort yM_sort ∈ zBig := zm 673 (by decide +kernel) rfl
theorem im_M_isBefore : Cond.instanceMethod yM_isBefore ∈ zBig := zm 677 (by decide +kernel) rfl
set_option maxRecDepth 20000 in
theorem co_M_isBefore : Cond.code yM_isBefore bM_isBefore 3 (some .boolean) ∈ zBig := zm 678 rfl rfl
theorem se_M_isBefore : Cond.selects RM yM_isBefore yM_isBefore ∈ zBig := zm 63 (by decide +kernel) rfl
theorem im_M_exchange : Cond.instanceMethod yM_exchange ∈ zBig := zm 682 (by decide +kernel) rfl
set_option maxRecDepth 20000 in
theorem co_M_exchange : Cond.code yM_exchange bM_exchange 3 none ∈ zBig := zm 683 rfl rfl
theorem se_M_exchange : Cond.selects RM yM_exchange yM_exchange ∈ zBig := zm 64 (by decide +kernel) rfl
theorem uw_V : ∀ w ∈ uwsV, w ∈ zBig := fun w h => List.mem_filter.mpr ⟨(show ∀ w ∈ uwsV, w ∈ lw_tbl by decide +kernel) w h, (show ∀ w ∈ uwsV, goodWord w = true by decide +kernel) w h⟩
theorem uc_V {c : Cond} : ∀ w ∈ uwsV, w ∈ c :: zBig := fun w h => zb (uw_V w h)
theorem uw_N : ∀ w ∈ uwsN, w ∈ zBig := fun w h => List.mem_filter.mpr ⟨(show ∀ w ∈ uwsN, w ∈ lw_tbl by decide +kernel) w h, (show ∀ w ∈ uwsN, goodWord w = true by decide +kernel) w h⟩
theorem uc_N {c : Cond} : ∀ w ∈ uwsN, w ∈ c :: zBig := fun w h => zb (uw_N w h)
theorem uw_M : ∀ w ∈ uwsM, w ∈ zBig := fun w h => List.mem_filter.mpr ⟨(show ∀ w ∈ uwsM, w ∈ lw_tbl by decide +kernel) w h, (show ∀ w ∈ uwsM, goodWord w = true by decide +kernel) w h⟩
theorem uc_M {c : Cond} : ∀ w ∈ uwsM, w ∈ c :: zBig := fun w h => zb (uw_M w h)
def zNF : List (String × Nat × String × String × String × String) := [(RR, 11, "MixedNumbers$Value", "kind", "I", "MixedNumbers"), (RO, 9, "MixedNumbers$Value", "kind", "I", "MixedNumbers"), (RN, 71, "MixedNumbers$Value", "kind", "I", "MixedNumbers"), (RN, 38, "MixedNumbers$Value", "number", "J", "MixedNumbers"), (RO, 35, "MixedNumbers$Value", "number", "J", "MixedNumbers"), (RR, 29, "MixedNumbers$Value", "number", "J", "MixedNumbers"), (RN, 42, "MixedNumbers$Value", "exponent", "I", "MixedNumbers"), (RR, 57, "MixedNumbers$Value", "exponent", "I", "MixedNumbers"), (RO, 55, "MixedNumbers$Value", "exponent", "I", "MixedNumbers")]
def zNM : List (String × Nat × MethodName × String) := [(RN, 15, yV_init, "MixedNumbers"), (RN, 30, yV_setWhole, "MixedNumbers"), (RN, 34, yV_setReal, "MixedNumbers"), (RN, 46, yV_become, "MixedNumbers"), (RN, 50, yV_setSpecial, "MixedNumbers"), (RN, 92, yV_turnReal, "MixedNumbers"), (RN, 102, yR_multiply, "MixedNumbers"), (RR, 21, yV_setSpecial, "MixedNumbers"), (RR, 60, yV_sign, "MixedNumbers"), (RR, 25, yV_isInfinite, "MixedNumbers"), (RR, 47, yV_size, "MixedNumbers"), (RR, 64, yV_setNearest, "MixedNumbers"), (RR, 72, yV_setInfinity, "MixedNumbers"), (RN, 108, yV_negate, "MixedNumbers"), (RN, 111, yR_add, "MixedNumbers"), (RR, 33, yV_become, "MixedNumbers"), (RR, 37, yO_ofSizes, "MixedNumbers"), (RO, 68, yV_size, "MixedNumbers"), (RN, 126, yR_remainder, "MixedNumbers"), (RN, 129, yR_divide, "MixedNumbers"), (RR, 86, yV_setZero, "MixedNumbers"), (RN, 132, yV_roundDown, "MixedNumbers"), (RN, 135, yV_countsAsWhole, "MixedNumbers"), (RN, 138, yV_asWhole, "MixedNumbers"), (RN, 165, yV_sign, "MixedNumbers"), (RN, 74, yO_of, "MixedNumbers"), (RO, 21, yV_isInfinite, "MixedNumbers"), (RO, 51, yV_sign, "MixedNumbers"), (RO, 58, yV_countsAsWhole, "MixedNumbers"), (RO, 61, yV_floor, "MixedNumbers"), (RN, 88, yO_goesBefore, "MixedNumbers")]
theorem nf_R_11 : ((RR, 11, "MixedNumbers$Value", "kind", "I", "MixedNumbers") : String × Nat × String × String × String × String) ∈ zNF := List.mem_of_getElem? (i := 0) rfl
theorem nf_O_9 : ((RO, 9, "MixedNumbers$Value", "kind", "I", "MixedNumbers") : String × Nat × String × String × String × String) ∈ zNF := List.mem_of_getElem? (i := 1) rfl
theorem nf_N_71 : ((RN, 71, "MixedNumbers$Value", "kind", "I", "MixedNumbers") : String × Nat × String × String × String × String) ∈ zNF := List.mem_of_getElem? (i := 2) rfl
theorem nf_N_38 : ((RN, 38, "MixedNumbers$Value", "number", "J", "MixedNumbers") : String × Nat × String × String × String × String) ∈ zNF := List.mem_of_getElem? (i := 3) rfl
theorem nf_O_35 : ((RO, 35, "MixedNumbers$Value", "number", "J", "MixedNumbers") : String × Nat × String × String × String × String) ∈ zNF := List.mem_of_getElem? (i := 4) rfl
theorem nf_R_29 : ((RR, 29, "MixedNumbers$Value", "number", "J", "MixedNumbers") : String × Nat × String × String × String × String) ∈ zNF := List.mem_of_getElem? (i := 5) rfl
theorem nf_N_42 : ((RN, 42, "MixedNumbers$Value", "exponent", "I", "MixedNumbers") : String × Nat × String × String × String × String) ∈ zNF := List.mem_of_getElem? (i := 6) rfl
theorem nf_R_57 : ((RR, 57, "MixedNumbers$Value", "exponent", "I", "MixedNumbers") : String × Nat × String × String × String × String) ∈ zNF := List.mem_of_getElem? (i := 7) rfl
theorem nf_O_55 : ((RO, 55, "MixedNumbers$Value", "exponent", "I", "MixedNumbers") : String × Nat × String × String × String × String) ∈ zNF := List.mem_of_getElem? (i := 8) rfl
theorem nl_N_15 : ((RN, 15, yV_init, "MixedNumbers") : String × Nat × MethodName × String) ∈ zNM := List.mem_of_getElem? (i := 0) rfl
theorem nl_N_30 : ((RN, 30, yV_setWhole, "MixedNumbers") : String × Nat × MethodName × String) ∈ zNM := List.mem_of_getElem? (i := 1) rfl
theorem nl_N_34 : ((RN, 34, yV_setReal, "MixedNumbers") : String × Nat × MethodName × String) ∈ zNM := List.mem_of_getElem? (i := 2) rfl
theorem nl_N_46 : ((RN, 46, yV_become, "MixedNumbers") : String × Nat × MethodName × String) ∈ zNM := List.mem_of_getElem? (i := 3) rfl
theorem nl_N_50 : ((RN, 50, yV_setSpecial, "MixedNumbers") : String × Nat × MethodName × String) ∈ zNM := List.mem_of_getElem? (i := 4) rfl
theorem nl_N_92 : ((RN, 92, yV_turnReal, "MixedNumbers") : String × Nat × MethodName × String) ∈ zNM := List.mem_of_getElem? (i := 5) rfl
theorem nl_N_102 : ((RN, 102, yR_multiply, "MixedNumbers") : String × Nat × MethodName × String) ∈ zNM := List.mem_of_getElem? (i := 6) rfl
theorem nl_R_21 : ((RR, 21, yV_setSpecial, "MixedNumbers") : String × Nat × MethodName × String) ∈ zNM := List.mem_of_getElem? (i := 7) rfl
theorem nl_R_60 : ((RR, 60, yV_sign, "MixedNumbers") : String × Nat × MethodName × String) ∈ zNM := List.mem_of_getElem? (i := 8) rfl
theorem nl_R_25 : ((RR, 25, yV_isInfinite, "MixedNumbers") : String × Nat × MethodName × String) ∈ zNM := List.mem_of_getElem? (i := 9) rfl
theorem nl_R_47 : ((RR, 47, yV_size, "MixedNumbers") : String × Nat × MethodName × String) ∈ zNM := List.mem_of_getElem? (i := 10) rfl
theorem nl_R_64 : ((RR, 64, yV_setNearest, "MixedNumbers") : String × Nat × MethodName × String) ∈ zNM := List.mem_of_getElem? (i := 11) rfl
theorem nl_R_72 : ((RR, 72, yV_setInfinity, "MixedNumbers") : String × Nat × MethodName × String) ∈ zNM := List.mem_of_getElem? (i := 12) rfl
theorem nl_N_108 : ((RN, 108, yV_negate, "MixedNumbers") : String × Nat × MethodName × String) ∈ zNM := List.mem_of_getElem? (i := 13) rfl
theorem nl_N_111 : ((RN, 111, yR_add, "MixedNumbers") : String × Nat × MethodName × String) ∈ zNM := List.mem_of_getElem? (i := 14) rfl
theorem nl_R_33 : ((RR, 33, yV_become, "MixedNumbers") : String × Nat × MethodName × String) ∈ zNM := List.mem_of_getElem? (i := 15) rfl
theorem nl_R_37 : ((RR, 37, yO_ofSizes, "MixedNumbers") : String × Nat × MethodName × String) ∈ zNM := List.mem_of_getElem? (i := 16) rfl
theorem nl_O_68 : ((RO, 68, yV_size, "MixedNumbers") : String × Nat × MethodName × String) ∈ zNM := List.mem_of_getElem? (i := 17) rfl
theorem nl_N_126 : ((RN, 126, yR_remainder, "MixedNumbers") : String × Nat × MethodName × String) ∈ zNM := List.mem_of_getElem? (i := 18) rfl
theorem nl_N_129 : ((RN, 129, yR_divide, "MixedNumbers") : String × Nat × MethodName × String) ∈ zNM := List.mem_of_getElem? (i := 19) rfl
theorem nl_R_86 : ((RR, 86, yV_setZero, "MixedNumbers") : String × Nat × MethodName × String) ∈ zNM := List.mem_of_getElem? (i := 20) rfl
theorem nl_N_132 : ((RN, 132, yV_roundDown, "MixedNumbers") : String × Nat × MethodName × String) ∈ zNM := List.mem_of_getElem? (i := 21) rfl
theorem nl_N_135 : ((RN, 135, yV_countsAsWhole, "MixedNumbers") : String × Nat × MethodName × String) ∈ zNM := List.mem_of_getElem? (i := 22) rfl
theorem nl_N_138 : ((RN, 138, yV_asWhole, "MixedNumbers") : String × Nat × MethodName × String) ∈ zNM := List.mem_of_getElem? (i := 23) rfl
theorem nl_N_165 : ((RN, 165, yV_sign, "MixedNumbers") : String × Nat × MethodName × String) ∈ zNM := List.mem_of_getElem? (i := 24) rfl
theorem nl_N_74 : ((RN, 74, yO_of, "MixedNumbers") : String × Nat × MethodName × String) ∈ zNM := List.mem_of_getElem? (i := 25) rfl
theorem nl_O_21 : ((RO, 21, yV_isInfinite, "MixedNumbers") : String × Nat × MethodName × String) ∈ zNM := List.mem_of_getElem? (i := 26) rfl
theorem nl_O_51 : ((RO, 51, yV_sign, "MixedNumbers") : String × Nat × MethodName × String) ∈ zNM := List.mem_of_getElem? (i := 27) rfl
theorem nl_O_58 : ((RO, 58, yV_countsAsWhole, "MixedNumbers") : String × Nat × MethodName × String) ∈ zNM := List.mem_of_getElem? (i := 28) rfl
theorem nl_O_61 : ((RO, 61, yV_floor, "MixedNumbers") : String × Nat × MethodName × String) ∈ zNM := List.mem_of_getElem? (i := 29) rfl
theorem nl_N_88 : ((RN, 88, yO_goesBefore, "MixedNumbers") : String × Nat × MethodName × String) ∈ zNM := List.mem_of_getElem? (i := 30) rfl
theorem zNF_in : ∀ q ∈ zNF, Cond.fieldLinkNest q.1 q.2.1 q.2.2.1 q.2.2.2.1 q.2.2.2.2.1 q.2.2.2.2.2 ∈ lw_tbl := by decide +kernel
theorem zNM_in : ∀ q ∈ zNM, Cond.methodLinkNest q.1 q.2.1 q.2.2.1 q.2.2.2 ∈ lw_tbl := by decide +kernel
end
section
theorem dN_init_0 : decode bN_init 0 = .ok (.aload_n 0, 1) := by decide +kernel
theorem dN_init_1 : decode bN_init 1 = .ok (.invokespecial 1, 3) := by decide +kernel
theorem dN_init_4 : decode bN_init 4 = .ok (.aload_n 0, 1) := by decide +kernel
theorem dN_init_5 : decode bN_init 5 = .ok (.bipush 32, 2) := by decide +kernel
theorem dN_init_7 : decode bN_init 7 = .ok (.anewarray 9, 3) := by decide +kernel
theorem dN_init_10 : decode bN_init 10 = .ok (.putfield 11, 3) := by decide +kernel
theorem dN_init_13 : decode bN_init 13 = .ok (.iconst 0, 1) := by decide +kernel
theorem dN_init_14 : decode bN_init 14 = .ok (.istore_n 1, 1) := by decide +kernel
theorem dN_init_15 : decode bN_init 15 = .ok (.iload_n 1, 1) := by decide +kernel
theorem dN_init_16 : decode bN_init 16 = .ok (.bipush 32, 2) := by decide +kernel
theorem dN_init_18 : decode bN_init 18 = .ok (.if_icmp .ge 22, 3) := by decide +kernel
theorem dN_init_21 : decode bN_init 21 = .ok (.aload_n 0, 1) := by decide +kernel
theorem dN_init_22 : decode bN_init 22 = .ok (.getfield 11, 3) := by decide +kernel
theorem dN_init_25 : decode bN_init 25 = .ok (.iload_n 1, 1) := by decide +kernel
theorem dN_init_26 : decode bN_init 26 = .ok (.new 9, 3) := by decide +kernel
theorem dN_init_29 : decode bN_init 29 = .ok (.dup, 1) := by decide +kernel
theorem dN_init_30 : decode bN_init 30 = .ok (.invokespecial 15, 3) := by decide +kernel
theorem dN_init_33 : decode bN_init 33 = .ok (.aastore, 1) := by decide +kernel
theorem dN_init_34 : decode bN_init 34 = .ok (.iinc 1 1, 3) := by decide +kernel
theorem dN_init_37 : decode bN_init 37 = .ok (.goto (-22), 3) := by decide +kernel
theorem dN_init_40 : decode bN_init 40 = .ok (.aload_n 0, 1) := by decide +kernel
theorem dN_init_41 : decode bN_init 41 = .ok (.new 9, 3) := by decide +kernel
theorem dN_init_44 : decode bN_init 44 = .ok (.dup, 1) := by decide +kernel
theorem dN_init_45 : decode bN_init 45 = .ok (.invokespecial 15, 3) := by decide +kernel
theorem dN_init_48 : decode bN_init 48 = .ok (.putfield 16, 3) := by decide +kernel
theorem dN_init_51 : decode bN_init 51 = .ok (.aload_n 0, 1) := by decide +kernel
theorem dN_init_52 : decode bN_init 52 = .ok (.new 9, 3) := by decide +kernel
theorem dN_init_55 : decode bN_init 55 = .ok (.dup, 1) := by decide +kernel
theorem dN_init_56 : decode bN_init 56 = .ok (.invokespecial 15, 3) := by decide +kernel
theorem dN_init_59 : decode bN_init 59 = .ok (.putfield 20, 3) := by decide +kernel
theorem dN_init_62 : decode bN_init 62 = .ok (.aload_n 0, 1) := by decide +kernel
theorem dN_init_63 : decode bN_init 63 = .ok (.new 9, 3) := by decide +kernel
theorem dN_init_66 : decode bN_init 66 = .ok (.dup, 1) := by decide +kernel
theorem dN_init_67 : decode bN_init 67 = .ok (.invokespecial 15, 3) := by decide +kernel
theorem dN_init_70 : decode bN_init 70 = .ok (.putfield 23, 3) := by decide +kernel
theorem dN_init_73 : decode bN_init 73 = .ok (.return_, 1) := by decide +kernel
theorem dV_init_0 : decode bV_init 0 = .ok (.aload_n 0, 1) := by decide +kernel
theorem dV_init_1 : decode bV_init 1 = .ok (.invokespecial 3, 3) := by decide +kernel
theorem dV_init_4 : decode bV_init 4 = .ok (.aload_n 0, 1) := by decide +kernel
theorem dV_init_5 : decode bV_init 5 = .ok (.iconst 1, 1) := by decide +kernel
theorem dV_init_6 : decode bV_init 6 = .ok (.putfield 9, 3) := by decide +kernel
theorem dV_init_9 : decode bV_init 9 = .ok (.aload_n 0, 1) := by decide +kernel
theorem dV_init_10 : decode bV_init 10 = .ok (.lconst 0, 1) := by decide +kernel
theorem dV_init_11 : decode bV_init 11 = .ok (.putfield 15, 3) := by decide +kernel
theorem dV_init_14 : decode bV_init 14 = .ok (.aload_n 0, 1) := by decide +kernel
theorem dV_init_15 : decode bV_init 15 = .ok (.iconst 0, 1) := by decide +kernel
theorem dV_init_16 : decode bV_init 16 = .ok (.putfield 19, 3) := by decide +kernel
theorem dV_init_19 : decode bV_init 19 = .ok (.return_, 1) := by decide +kernel
theorem dN_whole_0 : decode bN_whole 0 = .ok (.iload_n 1, 1) := by decide +kernel
theorem dN_whole_1 : decode bN_whole 1 = .ok (.invokestatic 26, 3) := by decide +kernel
theorem dN_whole_4 : decode bN_whole 4 = .ok (.ifCond .ne 5, 3) := by decide +kernel
theorem dN_whole_7 : decode bN_whole 7 = .ok (.iconst 0, 1) := by decide +kernel
theorem dN_whole_8 : decode bN_whole 8 = .ok (.ireturn, 1) := by decide +kernel
theorem dN_whole_9 : decode bN_whole 9 = .ok (.aload_n 0, 1) := by decide +kernel
theorem dN_whole_10 : decode bN_whole 10 = .ok (.getfield 11, 3) := by decide +kernel
theorem dN_whole_13 : decode bN_whole 13 = .ok (.iload_n 1, 1) := by decide +kernel
theorem dN_whole_14 : decode bN_whole 14 = .ok (.aaload, 1) := by decide +kernel
theorem dN_whole_15 : decode bN_whole 15 = .ok (.lload_n 2, 1) := by decide +kernel
theorem dN_whole_16 : decode bN_whole 16 = .ok (.invokevirtual 30, 3) := by decide +kernel
theorem dN_whole_19 : decode bN_whole 19 = .ok (.iconst 1, 1) := by decide +kernel
theorem dN_whole_20 : decode bN_whole 20 = .ok (.ireturn, 1) := by decide +kernel
theorem dN_isRegister_0 : decode bN_isRegister 0 = .ok (.iload_n 0, 1) := by decide +kernel
theorem dN_isRegister_1 : decode bN_isRegister 1 = .ok (.ifCond .lt 13, 3) := by decide +kernel
theorem dN_isRegister_4 : decode bN_isRegister 4 = .ok (.iload_n 0, 1) := by decide +kernel
theorem dN_isRegister_5 : decode bN_isRegister 5 = .ok (.bipush 32, 2) := by decide +kernel
theorem dN_isRegister_7 : decode bN_isRegister 7 = .ok (.if_icmp .ge 7, 3) := by decide +kernel
theorem dN_isRegister_10 : decode bN_isRegister 10 = .ok (.iconst 1, 1) := by decide +kernel
theorem dN_isRegister_11 : decode bN_isRegister 11 = .ok (.goto 4, 3) := by decide +kernel
theorem dN_isRegister_14 : decode bN_isRegister 14 = .ok (.iconst 0, 1) := by decide +kernel
theorem dN_isRegister_15 : decode bN_isRegister 15 = .ok (.ireturn, 1) := by decide +kernel
theorem dV_setWhole_0 : decode bV_setWhole 0 = .ok (.aload_n 0, 1) := by decide +kernel
theorem dV_setWhole_1 : decode bV_setWhole 1 = .ok (.iconst 1, 1) := by decide +kernel
theorem dV_setWhole_2 : decode bV_setWhole 2 = .ok (.putfield 9, 3) := by decide +kernel
theorem dV_setWhole_5 : decode bV_setWhole 5 = .ok (.aload_n 0, 1) := by decide +kernel
theorem dV_setWhole_6 : decode bV_setWhole 6 = .ok (.lload_n 1, 1) := by decide +kernel
theorem dV_setWhole_7 : decode bV_setWhole 7 = .ok (.putfield 15, 3) := by decide +kernel
theorem dV_setWhole_10 : decode bV_setWhole 10 = .ok (.aload_n 0, 1) := by decide +kernel
theorem dV_setWhole_11 : decode bV_setWhole 11 = .ok (.iconst 0, 1) := by decide +kernel
theorem dV_setWhole_12 : decode bV_setWhole 12 = .ok (.putfield 19, 3) := by decide +kernel
theorem dV_setWhole_15 : decode bV_setWhole 15 = .ok (.return_, 1) := by decide +kernel
theorem dN_real_0 : decode bN_real 0 = .ok (.iload_n 1, 1) := by decide +kernel
theorem dN_real_1 : decode bN_real 1 = .ok (.invokestatic 26, 3) := by decide +kernel
theorem dN_real_4 : decode bN_real 4 = .ok (.ifCond .eq 19, 3) := by decide +kernel
theorem dN_real_7 : decode bN_real 7 = .ok (.iload 4, 2) := by decide +kernel
theorem dN_real_9 : decode bN_real 9 = .ok (.sipush (-1200), 3) := by decide +kernel
theorem dN_real_12 : decode bN_real 12 = .ok (.if_icmp .lt 11, 3) := by decide +kernel
theorem dN_real_15 : decode bN_real 15 = .ok (.iload 4, 2) := by decide +kernel
theorem dN_real_17 : decode bN_real 17 = .ok (.sipush 1200, 3) := by decide +kernel
theorem dN_real_20 : decode bN_real 20 = .ok (.if_icmp .le 5, 3) := by decide +kernel
theorem dN_real_23 : decode bN_real 23 = .ok (.iconst 0, 1) := by decide +kernel
theorem dN_real_24 : decode bN_real 24 = .ok (.ireturn, 1) := by decide +kernel
theorem dN_real_25 : decode bN_real 25 = .ok (.aload_n 0, 1) := by decide +kernel
theorem dN_real_26 : decode bN_real 26 = .ok (.getfield 16, 3) := by decide +kernel
theorem dN_real_29 : decode bN_real 29 = .ok (.lload_n 2, 1) := by decide +kernel
theorem dN_real_30 : decode bN_real 30 = .ok (.iconst 0, 1) := by decide +kernel
theorem dN_real_31 : decode bN_real 31 = .ok (.invokevirtual 34, 3) := by decide +kernel
theorem dN_real_34 : decode bN_real 34 = .ok (.aload_n 0, 1) := by decide +kernel
theorem dN_real_35 : decode bN_real 35 = .ok (.getfield 16, 3) := by decide +kernel
theorem dN_real_38 : decode bN_real 38 = .ok (.aload_n 0, 1) := by decide +kernel
theorem dN_real_39 : decode bN_real 39 = .ok (.getfield 16, 3) := by decide +kernel
theorem dN_real_42 : decode bN_real 42 = .ok (.getfield 38, 3) := by decide +kernel
theorem dN_real_45 : decode bN_real 45 = .ok (.aload_n 0, 1) := by decide +kernel
theorem dN_real_46 : decode bN_real 46 = .ok (.getfield 16, 3) := by decide +kernel
theorem dN_real_49 : decode bN_real 49 = .ok (.getfield 42, 3) := by decide +kernel
theorem dN_real_52 : decode bN_real 52 = .ok (.iload 4, 2) := by decide +kernel
theorem dN_real_54 : decode bN_real 54 = .ok (.iadd, 1) := by decide +kernel
theorem dN_real_55 : decode bN_real 55 = .ok (.invokevirtual 34, 3) := by decide +kernel
theorem dN_real_58 : decode bN_real 58 = .ok (.aload_n 0, 1) := by decide +kernel
theorem dN_real_59 : decode bN_real 59 = .ok (.getfield 11, 3) := by decide +kernel
theorem dN_real_62 : decode bN_real 62 = .ok (.iload_n 1, 1) := by decide +kernel
theorem dN_real_63 : decode bN_real 63 = .ok (.aaload, 1) := by decide +kernel
theorem dN_real_64 : decode bN_real 64 = .ok (.aload_n 0, 1) := by decide +kernel
theorem dN_real_65 : decode bN_real 65 = .ok (.getfield 16, 3) := by decide +kernel
theorem dN_real_68 : decode bN_real 68 = .ok (.invokevirtual 46, 3) := by decide +kernel
theorem dN_real_71 : decode bN_real 71 = .ok (.iconst 1, 1) := by decide +kernel
theorem dN_real_72 : decode bN_real 72 = .ok (.ireturn, 1) := by decide +kernel
theorem dV_setReal_0 : decode bV_setReal 0 = .ok (.aload_n 0, 1) := by decide +kernel
theorem dV_setReal_1 : decode bV_setReal 1 = .ok (.lload_n 1, 1) := by decide +kernel
theorem dV_setReal_2 : decode bV_setReal 2 = .ok (.lconst 0, 1) := by decide +kernel
theorem dV_setReal_3 : decode bV_setReal 3 = .ok (.lcmp, 1) := by decide +kernel
theorem dV_setReal_4 : decode bV_setReal 4 = .ok (.ifCond .ge 7, 3) := by decide +kernel
theorem dV_setReal_7 : decode bV_setReal 7 = .ok (.iconst 1, 1) := by decide +kernel
theorem dV_setReal_8 : decode bV_setReal 8 = .ok (.goto 4, 3) := by decide +kernel
theorem dV_setReal_11 : decode bV_setReal 11 = .ok (.iconst 0, 1) := by decide +kernel
theorem dV_setReal_12 : decode bV_setReal 12 = .ok (.lload_n 1, 1) := by decide +kernel
theorem dV_setReal_13 : decode bV_setReal 13 = .ok (.invokestatic 22, 3) := by decide +kernel
theorem dV_setReal_16 : decode bV_setReal 16 = .ok (.iconst 0, 1) := by decide +kernel
theorem dV_setReal_17 : decode bV_setReal 17 = .ok (.iload_n 3, 1) := by decide +kernel
theorem dV_setReal_18 : decode bV_setReal 18 = .ok (.invokevirtual 26, 3) := by decide +kernel
theorem dV_setReal_21 : decode bV_setReal 21 = .ok (.return_, 1) := by decide +kernel
theorem dV_sizeOf_0 : decode bV_sizeOf 0 = .ok (.lload_n 0, 1) := by decide +kernel
theorem dV_sizeOf_1 : decode bV_sizeOf 1 = .ok (.lconst 0, 1) := by decide +kernel
theorem dV_sizeOf_2 : decode bV_sizeOf 2 = .ok (.lcmp, 1) := by decide +kernel
theorem dV_sizeOf_3 : decode bV_sizeOf 3 = .ok (.ifCond .ge 8, 3) := by decide +kernel
theorem dV_sizeOf_6 : decode bV_sizeOf 6 = .ok (.lload_n 0, 1) := by decide +kernel
theorem dV_sizeOf_7 : decode bV_sizeOf 7 = .ok (.lneg, 1) := by decide +kernel
theorem dV_sizeOf_8 : decode bV_sizeOf 8 = .ok (.goto 4, 3) := by decide +kernel
theorem dV_sizeOf_11 : decode bV_sizeOf 11 = .ok (.lload_n 0, 1) := by decide +kernel
theorem dV_sizeOf_12 : decode bV_sizeOf 12 = .ok (.lreturn, 1) := by decide +kernel
theorem dV_setNearest_0 : decode bV_setNearest 0 = .ok (.bipush 64, 2) := by decide +kernel
theorem dV_setNearest_2 : decode bV_setNearest 2 = .ok (.lload_n 2, 1) := by decide +kernel
theorem dV_setNearest_3 : decode bV_setNearest 3 = .ok (.invokestatic 30, 3) := by decide +kernel
theorem dV_setNearest_6 : decode bV_setNearest 6 = .ok (.isub, 1) := by decide +kernel
theorem dV_setNearest_7 : decode bV_setNearest 7 = .ok (.istore 6, 2) := by decide +kernel
theorem dV_setNearest_9 : decode bV_setNearest 9 = .ok (.iload 5, 2) := by decide +kernel
theorem dV_setNearest_11 : decode bV_setNearest 11 = .ok (.iload 6, 2) := by decide +kernel
theorem dV_setNearest_13 : decode bV_setNearest 13 = .ok (.iadd, 1) := by decide +kernel
theorem dV_setNearest_14 : decode bV_setNearest 14 = .ok (.bipush 53, 2) := by decide +kernel
theorem dV_setNearest_16 : decode bV_setNearest 16 = .ok (.isub, 1) := by decide +kernel
theorem dV_setNearest_17 : decode bV_setNearest 17 = .ok (.sipush (-1074), 3) := by decide +kernel
theorem dV_setNearest_20 : decode bV_setNearest 20 = .ok (.invokestatic 36, 3) := by decide +kernel
theorem dV_setNearest_23 : decode bV_setNearest 23 = .ok (.iload 5, 2) := by decide +kernel
theorem dV_setNearest_25 : decode bV_setNearest 25 = .ok (.isub, 1) := by decide +kernel
theorem dV_setNearest_26 : decode bV_setNearest 26 = .ok (.istore 7, 2) := by decide +kernel
theorem dV_setNearest_28 : decode bV_setNearest 28 = .ok (.iload 7, 2) := by decide +kernel
theorem dV_setNearest_30 : decode bV_setNearest 30 = .ok (.ifCond .le 14, 3) := by decide +kernel
theorem dV_setNearest_33 : decode bV_setNearest 33 = .ok (.lload_n 2, 1) := by decide +kernel
theorem dV_setNearest_34 : decode bV_setNearest 34 = .ok (.iload 4, 2) := by decide +kernel
theorem dV_setNearest_36 : decode bV_setNearest 36 = .ok (.iload 7, 2) := by decide +kernel
theorem dV_setNearest_38 : decode bV_setNearest 38 = .ok (.invokestatic 42, 3) := by decide +kernel
theorem dV_setNearest_41 : decode bV_setNearest 41 = .ok (.goto 4, 3) := by decide +kernel
theorem dV_setNearest_44 : decode bV_setNearest 44 = .ok (.lload_n 2, 1) := by decide +kernel
theorem dV_setNearest_45 : decode bV_setNearest 45 = .ok (.lstore 8, 2) := by decide +kernel
theorem dV_setNearest_47 : decode bV_setNearest 47 = .ok (.iload 7, 2) := by decide +kernel
theorem dV_setNearest_49 : decode bV_setNearest 49 = .ok (.ifCond .le 11, 3) := by decide +kernel
theorem dV_setNearest_52 : decode bV_setNearest 52 = .ok (.iload 5, 2) := by decide +kernel
theorem dV_setNearest_54 : decode bV_setNearest 54 = .ok (.iload 7, 2) := by decide +kernel
theorem dV_setNearest_56 : decode bV_setNearest 56 = .ok (.iadd, 1) := by decide +kernel
theorem dV_setNearest_57 : decode bV_setNearest 57 = .ok (.goto 5, 3) := by decide +kernel
theorem dV_setNearest_60 : decode bV_setNearest 60 = .ok (.iload 5, 2) := by decide +kernel
theorem dV_setNearest_62 : decode bV_setNearest 62 = .ok (.istore 10, 2) := by decide +kernel
theorem dV_setNearest_64 : decode bV_setNearest 64 = .ok (.lload 8, 2) := by decide +kernel
theorem dV_setNearest_66 : decode bV_setNearest 66 = .ok (.lconst 0, 1) := by decide +kernel
theorem dV_setNearest_67 : decode bV_setNearest 67 = .ok (.lcmp, 1) := by decide +kernel
theorem dV_setNearest_68 : decode bV_setNearest 68 = .ok (.ifCond .ne 10, 3) := by decide +kernel
theorem dV_setNearest_71 : decode bV_setNearest 71 = .ok (.aload_n 0, 1) := by decide +kernel
theorem dV_setNearest_72 : decode bV_setNearest 72 = .ok (.invokevirtual 46, 3) := by decide +kernel
theorem dV_setNearest_75 : decode bV_setNearest 75 = .ok (.goto 95, 3) := by decide +kernel
theorem dV_setNearest_78 : decode bV_setNearest 78 = .ok (.bipush 64, 2) := by decide +kernel
theorem dV_setNearest_80 : decode bV_setNearest 80 = .ok (.lload 8, 2) := by decide +kernel
theorem dV_setNearest_82 : decode bV_setNearest 82 = .ok (.invokestatic 30, 3) := by decide +kernel
theorem dV_setNearest_85 : decode bV_setNearest 85 = .ok (.isub, 1) := by decide +kernel
theorem dV_setNearest_86 : decode bV_setNearest 86 = .ok (.iload 10, 2) := by decide +kernel
theorem dV_setNearest_88 : decode bV_setNearest 88 = .ok (.iadd, 1) := by decide +kernel
theorem dV_setNearest_89 : decode bV_setNearest 89 = .ok (.sipush 1024, 3) := by decide +kernel
theorem dV_setNearest_92 : decode bV_setNearest 92 = .ok (.if_icmp .le 11, 3) := by decide +kernel
theorem dV_setNearest_95 : decode bV_setNearest 95 = .ok (.aload_n 0, 1) := by decide +kernel
theorem dV_setNearest_96 : decode bV_setNearest 96 = .ok (.iload_n 1, 1) := by decide +kernel
theorem dV_setNearest_97 : decode bV_setNearest 97 = .ok (.invokevirtual 49, 3) := by decide +kernel
theorem dV_setNearest_100 : decode bV_setNearest 100 = .ok (.goto 70, 3) := by decide +kernel
theorem dV_setNearest_103 : decode bV_setNearest 103 = .ok (.lload 8, 2) := by decide +kernel
theorem dV_setNearest_105 : decode bV_setNearest 105 = .ok (.invokestatic 53, 3) := by decide +kernel
theorem dV_setNearest_108 : decode bV_setNearest 108 = .ok (.sipush 971, 3) := by decide +kernel
theorem dV_setNearest_111 : decode bV_setNearest 111 = .ok (.iload 10, 2) := by decide +kernel
theorem dV_setNearest_113 : decode bV_setNearest 113 = .ok (.isub, 1) := by decide +kernel
theorem dV_setNearest_114 : decode bV_setNearest 114 = .ok (.invokestatic 56, 3) := by decide +kernel
theorem dV_setNearest_117 : decode bV_setNearest 117 = .ok (.istore 11, 2) := by decide +kernel
theorem dV_setNearest_119 : decode bV_setNearest 119 = .ok (.iload 11, 2) := by decide +kernel
theorem dV_setNearest_121 : decode bV_setNearest 121 = .ok (.ifCond .lt 11, 3) := by decide +kernel
theorem dV_setNearest_124 : decode bV_setNearest 124 = .ok (.lload 8, 2) := by decide +kernel
theorem dV_setNearest_126 : decode bV_setNearest 126 = .ok (.iload 11, 2) := by decide +kernel
theorem dV_setNearest_128 : decode bV_setNearest 128 = .ok (.lushr, 1) := by decide +kernel
theorem dV_setNearest_129 : decode bV_setNearest 129 = .ok (.goto 9, 3) := by decide +kernel
theorem dV_setNearest_132 : decode bV_setNearest 132 = .ok (.lload 8, 2) := by decide +kernel
theorem dV_setNearest_134 : decode bV_setNearest 134 = .ok (.iload 11, 2) := by decide +kernel
theorem dV_setNearest_136 : decode bV_setNearest 136 = .ok (.ineg, 1) := by decide +kernel
theorem dV_setNearest_137 : decode bV_setNearest 137 = .ok (.lshl, 1) := by decide +kernel
theorem dV_setNearest_138 : decode bV_setNearest 138 = .ok (.lstore 8, 2) := by decide +kernel
theorem dV_setNearest_140 : decode bV_setNearest 140 = .ok (.aload_n 0, 1) := by decide +kernel
theorem dV_setNearest_141 : decode bV_setNearest 141 = .ok (.iconst 2, 1) := by decide +kernel
theorem dV_setNearest_142 : decode bV_setNearest 142 = .ok (.putfield 9, 3) := by decide +kernel
theorem dV_setNearest_145 : decode bV_setNearest 145 = .ok (.aload_n 0, 1) := by decide +kernel
theorem dV_setNearest_146 : decode bV_setNearest 146 = .ok (.iload_n 1, 1) := by decide +kernel
theorem dV_setNearest_147 : decode bV_setNearest 147 = .ok (.ifCond .eq 9, 3) := by decide +kernel
theorem dV_setNearest_150 : decode bV_setNearest 150 = .ok (.lload 8, 2) := by decide +kernel
theorem dV_setNearest_152 : decode bV_setNearest 152 = .ok (.lneg, 1) := by decide +kernel
theorem dV_setNearest_153 : decode bV_setNearest 153 = .ok (.goto 5, 3) := by decide +kernel
theorem dV_setNearest_156 : decode bV_setNearest 156 = .ok (.lload 8, 2) := by decide +kernel
theorem dV_setNearest_158 : decode bV_setNearest 158 = .ok (.putfield 15, 3) := by decide +kernel
theorem dV_setNearest_161 : decode bV_setNearest 161 = .ok (.aload_n 0, 1) := by decide +kernel
theorem dV_setNearest_162 : decode bV_setNearest 162 = .ok (.iload 10, 2) := by decide +kernel
theorem dV_setNearest_164 : decode bV_setNearest 164 = .ok (.iload 11, 2) := by decide +kernel
theorem dV_setNearest_166 : decode bV_setNearest 166 = .ok (.iadd, 1) := by decide +kernel
theorem dV_setNearest_167 : decode bV_setNearest 167 = .ok (.putfield 19, 3) := by decide +kernel
theorem dV_setNearest_170 : decode bV_setNearest 170 = .ok (.return_, 1) := by decide +kernel
theorem dJL_numberOfLeadingZeros_0 : decode bJL_numberOfLeadingZeros 0 = .ok (.lload_n 0, 1) := by decide +kernel
theorem dJL_numberOfLeadingZeros_1 : decode bJL_numberOfLeadingZeros 1 = .ok (.bipush 32, 2) := by decide +kernel
theorem dJL_numberOfLeadingZeros_3 : decode bJL_numberOfLeadingZeros 3 = .ok (.lushr, 1) := by decide +kernel
theorem dJL_numberOfLeadingZeros_4 : decode bJL_numberOfLeadingZeros 4 = .ok (.l2i, 1) := by decide +kernel
theorem dJL_numberOfLeadingZeros_5 : decode bJL_numberOfLeadingZeros 5 = .ok (.istore_n 2, 1) := by decide +kernel
theorem dJL_numberOfLeadingZeros_6 : decode bJL_numberOfLeadingZeros 6 = .ok (.iload_n 2, 1) := by decide +kernel
theorem dJL_numberOfLeadingZeros_7 : decode bJL_numberOfLeadingZeros 7 = .ok (.ifCond .ne 14, 3) := by decide +kernel
theorem dJL_numberOfLeadingZeros_10 : decode bJL_numberOfLeadingZeros 10 = .ok (.bipush 32, 2) := by decide +kernel
theorem dJL_numberOfLeadingZeros_12 : decode bJL_numberOfLeadingZeros 12 = .ok (.lload_n 0, 1) := by decide +kernel
theorem dJL_numberOfLeadingZeros_13 : decode bJL_numberOfLeadingZeros 13 = .ok (.l2i, 1) := by decide +kernel
theorem dJL_numberOfLeadingZeros_14 : decode bJL_numberOfLeadingZeros 14 = .ok (.invokestatic 308, 3) := by decide +kernel
theorem dJL_numberOfLeadingZeros_17 : decode bJL_numberOfLeadingZeros 17 = .ok (.iadd, 1) := by decide +kernel
theorem dJL_numberOfLeadingZeros_18 : decode bJL_numberOfLeadingZeros 18 = .ok (.goto 7, 3) := by decide +kernel
theorem dJL_numberOfLeadingZeros_21 : decode bJL_numberOfLeadingZeros 21 = .ok (.iload_n 2, 1) := by decide +kernel
theorem dJL_numberOfLeadingZeros_22 : decode bJL_numberOfLeadingZeros 22 = .ok (.invokestatic 308, 3) := by decide +kernel
theorem dJL_numberOfLeadingZeros_25 : decode bJL_numberOfLeadingZeros 25 = .ok (.ireturn, 1) := by decide +kernel
theorem dJI_numberOfLeadingZeros_0 : decode bJI_numberOfLeadingZeros 0 = .ok (.iload_n 0, 1) := by decide +kernel
theorem dJI_numberOfLeadingZeros_1 : decode bJI_numberOfLeadingZeros 1 = .ok (.ifCond .gt 14, 3) := by decide +kernel
theorem dJI_numberOfLeadingZeros_4 : decode bJI_numberOfLeadingZeros 4 = .ok (.iload_n 0, 1) := by decide +kernel
theorem dJI_numberOfLeadingZeros_5 : decode bJI_numberOfLeadingZeros 5 = .ok (.ifCond .ne 8, 3) := by decide +kernel
theorem dJI_numberOfLeadingZeros_8 : decode bJI_numberOfLeadingZeros 8 = .ok (.bipush 32, 2) := by decide +kernel
theorem dJI_numberOfLeadingZeros_10 : decode bJI_numberOfLeadingZeros 10 = .ok (.goto 4, 3) := by decide +kernel
theorem dJI_numberOfLeadingZeros_13 : decode bJI_numberOfLeadingZeros 13 = .ok (.iconst 0, 1) := by decide +kernel
theorem dJI_numberOfLeadingZeros_14 : decode bJI_numberOfLeadingZeros 14 = .ok (.ireturn, 1) := by decide +kernel
theorem dJI_numberOfLeadingZeros_15 : decode bJI_numberOfLeadingZeros 15 = .ok (.bipush 31, 2) := by decide +kernel
theorem dJI_numberOfLeadingZeros_17 : decode bJI_numberOfLeadingZeros 17 = .ok (.istore_n 1, 1) := by decide +kernel
theorem dJI_numberOfLeadingZeros_18 : decode bJI_numberOfLeadingZeros 18 = .ok (.iload_n 0, 1) := by decide +kernel
theorem dJI_numberOfLeadingZeros_19 : decode bJI_numberOfLeadingZeros 19 = .ok (.ldc_w 264, 3) := by decide +kernel
theorem dJI_numberOfLeadingZeros_22 : decode bJI_numberOfLeadingZeros 22 = .ok (.if_icmp .lt 11, 3) := by decide +kernel
theorem dJI_numberOfLeadingZeros_25 : decode bJI_numberOfLeadingZeros 25 = .ok (.iinc 1 (-16), 3) := by decide +kernel
theorem dJI_numberOfLeadingZeros_28 : decode bJI_numberOfLeadingZeros 28 = .ok (.iload_n 0, 1) := by decide +kernel
theorem dJI_numberOfLeadingZeros_29 : decode bJI_numberOfLeadingZeros 29 = .ok (.bipush 16, 2) := by decide +kernel
theorem dJI_numberOfLeadingZeros_31 : decode bJI_numberOfLeadingZeros 31 = .ok (.iushr, 1) := by decide +kernel
theorem dJI_numberOfLeadingZeros_32 : decode bJI_numberOfLeadingZeros 32 = .ok (.istore_n 0, 1) := by decide +kernel
theorem dJI_numberOfLeadingZeros_33 : decode bJI_numberOfLeadingZeros 33 = .ok (.iload_n 0, 1) := by decide +kernel
theorem dJI_numberOfLeadingZeros_34 : decode bJI_numberOfLeadingZeros 34 = .ok (.sipush 256, 3) := by decide +kernel
theorem dJI_numberOfLeadingZeros_37 : decode bJI_numberOfLeadingZeros 37 = .ok (.if_icmp .lt 11, 3) := by decide +kernel
theorem dJI_numberOfLeadingZeros_40 : decode bJI_numberOfLeadingZeros 40 = .ok (.iinc 1 (-8), 3) := by decide +kernel
theorem dJI_numberOfLeadingZeros_43 : decode bJI_numberOfLeadingZeros 43 = .ok (.iload_n 0, 1) := by decide +kernel
theorem dJI_numberOfLeadingZeros_44 : decode bJI_numberOfLeadingZeros 44 = .ok (.bipush 8, 2) := by decide +kernel
theorem dJI_numberOfLeadingZeros_46 : decode bJI_numberOfLeadingZeros 46 = .ok (.iushr, 1) := by decide +kernel
theorem dJI_numberOfLeadingZeros_47 : decode bJI_numberOfLeadingZeros 47 = .ok (.istore_n 0, 1) := by decide +kernel
theorem dJI_numberOfLeadingZeros_48 : decode bJI_numberOfLeadingZeros 48 = .ok (.iload_n 0, 1) := by decide +kernel
theorem dJI_numberOfLeadingZeros_49 : decode bJI_numberOfLeadingZeros 49 = .ok (.bipush 16, 2) := by decide +kernel
theorem dJI_numberOfLeadingZeros_51 : decode bJI_numberOfLeadingZeros 51 = .ok (.if_icmp .lt 10, 3) := by decide +kernel
theorem dJI_numberOfLeadingZeros_54 : decode bJI_numberOfLeadingZeros 54 = .ok (.iinc 1 (-4), 3) := by decide +kernel
theorem dJI_numberOfLeadingZeros_57 : decode bJI_numberOfLeadingZeros 57 = .ok (.iload_n 0, 1) := by decide +kernel
theorem dJI_numberOfLeadingZeros_58 : decode bJI_numberOfLeadingZeros 58 = .ok (.iconst 4, 1) := by decide +kernel
theorem dJI_numberOfLeadingZeros_59 : decode bJI_numberOfLeadingZeros 59 = .ok (.iushr, 1) := by decide +kernel
theorem dJI_numberOfLeadingZeros_60 : decode bJI_numberOfLeadingZeros 60 = .ok (.istore_n 0, 1) := by decide +kernel
theorem dJI_numberOfLeadingZeros_61 : decode bJI_numberOfLeadingZeros 61 = .ok (.iload_n 0, 1) := by decide +kernel
theorem dJI_numberOfLeadingZeros_62 : decode bJI_numberOfLeadingZeros 62 = .ok (.iconst 4, 1) := by decide +kernel
theorem dJI_numberOfLeadingZeros_63 : decode bJI_numberOfLeadingZeros 63 = .ok (.if_icmp .lt 10, 3) := by decide +kernel
theorem dJI_numberOfLeadingZeros_66 : decode bJI_numberOfLeadingZeros 66 = .ok (.iinc 1 (-2), 3) := by decide +kernel
theorem dJI_numberOfLeadingZeros_69 : decode bJI_numberOfLeadingZeros 69 = .ok (.iload_n 0, 1) := by decide +kernel
theorem dJI_numberOfLeadingZeros_70 : decode bJI_numberOfLeadingZeros 70 = .ok (.iconst 2, 1) := by decide +kernel
theorem dJI_numberOfLeadingZeros_71 : decode bJI_numberOfLeadingZeros 71 = .ok (.iushr, 1) := by decide +kernel
theorem dJI_numberOfLeadingZeros_72 : decode bJI_numberOfLeadingZeros 72 = .ok (.istore_n 0, 1) := by decide +kernel
theorem dJI_numberOfLeadingZeros_73 : decode bJI_numberOfLeadingZeros 73 = .ok (.iload_n 1, 1) := by decide +kernel
theorem dJI_numberOfLeadingZeros_74 : decode bJI_numberOfLeadingZeros 74 = .ok (.iload_n 0, 1) := by decide +kernel
theorem dJI_numberOfLeadingZeros_75 : decode bJI_numberOfLeadingZeros 75 = .ok (.iconst 1, 1) := by decide +kernel
theorem dJI_numberOfLeadingZeros_76 : decode bJI_numberOfLeadingZeros 76 = .ok (.iushr, 1) := by decide +kernel
theorem dJI_numberOfLeadingZeros_77 : decode bJI_numberOfLeadingZeros 77 = .ok (.isub, 1) := by decide +kernel
theorem dJI_numberOfLeadingZeros_78 : decode bJI_numberOfLeadingZeros 78 = .ok (.ireturn, 1) := by decide +kernel
theorem dV_dropBits_0 : decode bV_dropBits 0 = .ok (.iload_n 3, 1) := by decide +kernel
theorem dV_dropBits_1 : decode bV_dropBits 1 = .ok (.bipush 63, 2) := by decide +kernel
theorem dV_dropBits_3 : decode bV_dropBits 3 = .ok (.if_icmp .le 5, 3) := by decide +kernel
theorem dV_dropBits_6 : decode bV_dropBits 6 = .ok (.lconst 0, 1) := by decide +kernel
theorem dV_dropBits_7 : decode bV_dropBits 7 = .ok (.lreturn, 1) := by decide +kernel
theorem dV_dropBits_8 : decode bV_dropBits 8 = .ok (.lload_n 0, 1) := by decide +kernel
theorem dV_dropBits_9 : decode bV_dropBits 9 = .ok (.iload_n 3, 1) := by decide +kernel
theorem dV_dropBits_10 : decode bV_dropBits 10 = .ok (.lushr, 1) := by decide +kernel
theorem dV_dropBits_11 : decode bV_dropBits 11 = .ok (.lstore 4, 2) := by decide +kernel
theorem dV_dropBits_13 : decode bV_dropBits 13 = .ok (.lload_n 0, 1) := by decide +kernel
theorem dV_dropBits_14 : decode bV_dropBits 14 = .ok (.lload 4, 2) := by decide +kernel
theorem dV_dropBits_16 : decode bV_dropBits 16 = .ok (.iload_n 3, 1) := by decide +kernel
theorem dV_dropBits_17 : decode bV_dropBits 17 = .ok (.lshl, 1) := by decide +kernel
theorem dV_dropBits_18 : decode bV_dropBits 18 = .ok (.lsub, 1) := by decide +kernel
theorem dV_dropBits_19 : decode bV_dropBits 19 = .ok (.lstore 6, 2) := by decide +kernel
theorem dV_dropBits_21 : decode bV_dropBits 21 = .ok (.lconst 1, 1) := by decide +kernel
theorem dV_dropBits_22 : decode bV_dropBits 22 = .ok (.iload_n 3, 1) := by decide +kernel
theorem dV_dropBits_23 : decode bV_dropBits 23 = .ok (.iconst 1, 1) := by decide +kernel
theorem dV_dropBits_24 : decode bV_dropBits 24 = .ok (.isub, 1) := by decide +kernel
theorem dV_dropBits_25 : decode bV_dropBits 25 = .ok (.lshl, 1) := by decide +kernel
theorem dV_dropBits_26 : decode bV_dropBits 26 = .ok (.lstore 8, 2) := by decide +kernel
theorem dV_dropBits_28 : decode bV_dropBits 28 = .ok (.lload 6, 2) := by decide +kernel
theorem dV_dropBits_30 : decode bV_dropBits 30 = .ok (.lload 8, 2) := by decide +kernel
theorem dV_dropBits_32 : decode bV_dropBits 32 = .ok (.lcmp, 1) := by decide +kernel
theorem dV_dropBits_33 : decode bV_dropBits 33 = .ok (.ifCond .gt 24, 3) := by decide +kernel
theorem dV_dropBits_36 : decode bV_dropBits 36 = .ok (.lload 6, 2) := by decide +kernel
theorem dV_dropBits_38 : decode bV_dropBits 38 = .ok (.lload 8, 2) := by decide +kernel
theorem dV_dropBits_40 : decode bV_dropBits 40 = .ok (.lcmp, 1) := by decide +kernel
theorem dV_dropBits_41 : decode bV_dropBits 41 = .ok (.ifCond .ne 20, 3) := by decide +kernel
theorem dV_dropBits_44 : decode bV_dropBits 44 = .ok (.iload_n 2, 1) := by decide +kernel
theorem dV_dropBits_45 : decode bV_dropBits 45 = .ok (.ifCond .ne 12, 3) := by decide +kernel
theorem dV_dropBits_48 : decode bV_dropBits 48 = .ok (.lload 4, 2) := by decide +kernel
theorem dV_dropBits_50 : decode bV_dropBits 50 = .ok (.lconst 1, 1) := by decide +kernel
theorem dV_dropBits_51 : decode bV_dropBits 51 = .ok (.land, 1) := by decide +kernel
theorem dV_dropBits_52 : decode bV_dropBits 52 = .ok (.lconst 1, 1) := by decide +kernel
theorem dV_dropBits_53 : decode bV_dropBits 53 = .ok (.lcmp, 1) := by decide +kernel
theorem dV_dropBits_54 : decode bV_dropBits 54 = .ok (.ifCond .ne 7, 3) := by decide +kernel
theorem dV_dropBits_57 : decode bV_dropBits 57 = .ok (.iconst 1, 1) := by decide +kernel
theorem dV_dropBits_58 : decode bV_dropBits 58 = .ok (.goto 4, 3) := by decide +kernel
theorem dV_dropBits_61 : decode bV_dropBits 61 = .ok (.iconst 0, 1) := by decide +kernel
theorem dV_dropBits_62 : decode bV_dropBits 62 = .ok (.istore 10, 2) := by decide +kernel
theorem dV_dropBits_64 : decode bV_dropBits 64 = .ok (.iload 10, 2) := by decide +kernel
theorem dV_dropBits_66 : decode bV_dropBits 66 = .ok (.ifCond .eq 10, 3) := by decide +kernel
theorem dV_dropBits_69 : decode bV_dropBits 69 = .ok (.lload 4, 2) := by decide +kernel
theorem dV_dropBits_71 : decode bV_dropBits 71 = .ok (.lconst 1, 1) := by decide +kernel
theorem dV_dropBits_72 : decode bV_dropBits 72 = .ok (.ladd, 1) := by decide +kernel
theorem dV_dropBits_73 : decode bV_dropBits 73 = .ok (.goto 5, 3) := by decide +kernel
theorem dV_dropBits_76 : decode bV_dropBits 76 = .ok (.lload 4, 2) := by decide +kernel
theorem dV_dropBits_78 : decode bV_dropBits 78 = .ok (.lreturn, 1) := by decide +kernel
theorem dV_setZero_0 : decode bV_setZero 0 = .ok (.aload_n 0, 1) := by decide +kernel
theorem dV_setZero_1 : decode bV_setZero 1 = .ok (.iconst 2, 1) := by decide +kernel
theorem dV_setZero_2 : decode bV_setZero 2 = .ok (.putfield 9, 3) := by decide +kernel
theorem dV_setZero_5 : decode bV_setZero 5 = .ok (.aload_n 0, 1) := by decide +kernel
theorem dV_setZero_6 : decode bV_setZero 6 = .ok (.lconst 0, 1) := by decide +kernel
theorem dV_setZero_7 : decode bV_setZero 7 = .ok (.putfield 15, 3) := by decide +kernel
theorem dV_setZero_10 : decode bV_setZero 10 = .ok (.aload_n 0, 1) := by decide +kernel
theorem dV_setZero_11 : decode bV_setZero 11 = .ok (.iconst 0, 1) := by decide +kernel
theorem dV_setZero_12 : decode bV_setZero 12 = .ok (.putfield 19, 3) := by decide +kernel
theorem dV_setZero_15 : decode bV_setZero 15 = .ok (.return_, 1) := by decide +kernel
theorem dV_setInfinity_0 : decode bV_setInfinity 0 = .ok (.aload_n 0, 1) := by decide +kernel
theorem dV_setInfinity_1 : decode bV_setInfinity 1 = .ok (.iload_n 1, 1) := by decide +kernel
theorem dV_setInfinity_2 : decode bV_setInfinity 2 = .ok (.ifCond .eq 7, 3) := by decide +kernel
theorem dV_setInfinity_5 : decode bV_setInfinity 5 = .ok (.iconst 4, 1) := by decide +kernel
theorem dV_setInfinity_6 : decode bV_setInfinity 6 = .ok (.goto 4, 3) := by decide +kernel
theorem dV_setInfinity_9 : decode bV_setInfinity 9 = .ok (.iconst 3, 1) := by decide +kernel
theorem dV_setInfinity_10 : decode bV_setInfinity 10 = .ok (.putfield 9, 3) := by decide +kernel
theorem dV_setInfinity_13 : decode bV_setInfinity 13 = .ok (.aload_n 0, 1) := by decide +kernel
theorem dV_setInfinity_14 : decode bV_setInfinity 14 = .ok (.lconst 0, 1) := by decide +kernel
theorem dV_setInfinity_15 : decode bV_setInfinity 15 = .ok (.putfield 15, 3) := by decide +kernel
theorem dV_setInfinity_18 : decode bV_setInfinity 18 = .ok (.aload_n 0, 1) := by decide +kernel
theorem dV_setInfinity_19 : decode bV_setInfinity 19 = .ok (.iconst 0, 1) := by decide +kernel
theorem dV_setInfinity_20 : decode bV_setInfinity 20 = .ok (.putfield 19, 3) := by decide +kernel
theorem dV_setInfinity_23 : decode bV_setInfinity 23 = .ok (.return_, 1) := by decide +kernel
theorem dJL_numberOfTrailingZeros_0 : decode bJL_numberOfTrailingZeros 0 = .ok (.lload_n 0, 1) := by decide +kernel
theorem dJL_numberOfTrailingZeros_1 : decode bJL_numberOfTrailingZeros 1 = .ok (.l2i, 1) := by decide +kernel
theorem dJL_numberOfTrailingZeros_2 : decode bJL_numberOfTrailingZeros 2 = .ok (.istore_n 2, 1) := by decide +kernel
theorem dJL_numberOfTrailingZeros_3 : decode bJL_numberOfTrailingZeros 3 = .ok (.iload_n 2, 1) := by decide +kernel
theorem dJL_numberOfTrailingZeros_4 : decode bJL_numberOfTrailingZeros 4 = .ok (.ifCond .ne 17, 3) := by decide +kernel
theorem dJL_numberOfTrailingZeros_7 : decode bJL_numberOfTrailingZeros 7 = .ok (.bipush 32, 2) := by decide +kernel
theorem dJL_numberOfTrailingZeros_9 : decode bJL_numberOfTrailingZeros 9 = .ok (.lload_n 0, 1) := by decide +kernel
theorem dJL_numberOfTrailingZeros_10 : decode bJL_numberOfTrailingZeros 10 = .ok (.bipush 32, 2) := by decide +kernel
theorem dJL_numberOfTrailingZeros_12 : decode bJL_numberOfTrailingZeros 12 = .ok (.lushr, 1) := by decide +kernel
theorem dJL_numberOfTrailingZeros_13 : decode bJL_numberOfTrailingZeros 13 = .ok (.l2i, 1) := by decide +kernel
theorem dJL_numberOfTrailingZeros_14 : decode bJL_numberOfTrailingZeros 14 = .ok (.invokestatic 311, 3) := by decide +kernel
theorem dJL_numberOfTrailingZeros_17 : decode bJL_numberOfTrailingZeros 17 = .ok (.iadd, 1) := by decide +kernel
theorem dJL_numberOfTrailingZeros_18 : decode bJL_numberOfTrailingZeros 18 = .ok (.goto 7, 3) := by decide +kernel
theorem dJL_numberOfTrailingZeros_21 : decode bJL_numberOfTrailingZeros 21 = .ok (.iload_n 2, 1) := by decide +kernel
theorem dJL_numberOfTrailingZeros_22 : decode bJL_numberOfTrailingZeros 22 = .ok (.invokestatic 311, 3) := by decide +kernel
theorem dJL_numberOfTrailingZeros_25 : decode bJL_numberOfTrailingZeros 25 = .ok (.ireturn, 1) := by decide +kernel
theorem dJI_numberOfTrailingZeros_0 : decode bJI_numberOfTrailingZeros 0 = .ok (.iload_n 0, 1) := by decide +kernel
theorem dJI_numberOfTrailingZeros_1 : decode bJI_numberOfTrailingZeros 1 = .ok (.iconst (-1), 1) := by decide +kernel
theorem dJI_numberOfTrailingZeros_2 : decode bJI_numberOfTrailingZeros 2 = .ok (.ixor, 1) := by decide +kernel
theorem dJI_numberOfTrailingZeros_3 : decode bJI_numberOfTrailingZeros 3 = .ok (.iload_n 0, 1) := by decide +kernel
theorem dJI_numberOfTrailingZeros_4 : decode bJI_numberOfTrailingZeros 4 = .ok (.iconst 1, 1) := by decide +kernel
theorem dJI_numberOfTrailingZeros_5 : decode bJI_numberOfTrailingZeros 5 = .ok (.isub, 1) := by decide +kernel
theorem dJI_numberOfTrailingZeros_6 : decode bJI_numberOfTrailingZeros 6 = .ok (.iand, 1) := by decide +kernel
theorem dJI_numberOfTrailingZeros_7 : decode bJI_numberOfTrailingZeros 7 = .ok (.istore_n 0, 1) := by decide +kernel
theorem dJI_numberOfTrailingZeros_8 : decode bJI_numberOfTrailingZeros 8 = .ok (.iload_n 0, 1) := by decide +kernel
theorem dJI_numberOfTrailingZeros_9 : decode bJI_numberOfTrailingZeros 9 = .ok (.ifCond .gt 8, 3) := by decide +kernel
theorem dJI_numberOfTrailingZeros_12 : decode bJI_numberOfTrailingZeros 12 = .ok (.iload_n 0, 1) := by decide +kernel
theorem dJI_numberOfTrailingZeros_13 : decode bJI_numberOfTrailingZeros 13 = .ok (.bipush 32, 2) := by decide +kernel
theorem dJI_numberOfTrailingZeros_15 : decode bJI_numberOfTrailingZeros 15 = .ok (.iand, 1) := by decide +kernel
theorem dJI_numberOfTrailingZeros_16 : decode bJI_numberOfTrailingZeros 16 = .ok (.ireturn, 1) := by decide +kernel
theorem dJI_numberOfTrailingZeros_17 : decode bJI_numberOfTrailingZeros 17 = .ok (.iconst 1, 1) := by decide +kernel
theorem dJI_numberOfTrailingZeros_18 : decode bJI_numberOfTrailingZeros 18 = .ok (.istore_n 1, 1) := by decide +kernel
theorem dJI_numberOfTrailingZeros_19 : decode bJI_numberOfTrailingZeros 19 = .ok (.iload_n 0, 1) := by decide +kernel
theorem dJI_numberOfTrailingZeros_20 : decode bJI_numberOfTrailingZeros 20 = .ok (.ldc_w 264, 3) := by decide +kernel
theorem dJI_numberOfTrailingZeros_23 : decode bJI_numberOfTrailingZeros 23 = .ok (.if_icmp .le 11, 3) := by decide +kernel
theorem dJI_numberOfTrailingZeros_26 : decode bJI_numberOfTrailingZeros 26 = .ok (.iinc 1 16, 3) := by decide +kernel
theorem dJI_numberOfTrailingZeros_29 : decode bJI_numberOfTrailingZeros 29 = .ok (.iload_n 0, 1) := by decide +kernel
theorem dJI_numberOfTrailingZeros_30 : decode bJI_numberOfTrailingZeros 30 = .ok (.bipush 16, 2) := by decide +kernel
theorem dJI_numberOfTrailingZeros_32 : decode bJI_numberOfTrailingZeros 32 = .ok (.iushr, 1) := by decide +kernel
theorem dJI_numberOfTrailingZeros_33 : decode bJI_numberOfTrailingZeros 33 = .ok (.istore_n 0, 1) := by decide +kernel
theorem dJI_numberOfTrailingZeros_34 : decode bJI_numberOfTrailingZeros 34 = .ok (.iload_n 0, 1) := by decide +kernel
theorem dJI_numberOfTrailingZeros_35 : decode bJI_numberOfTrailingZeros 35 = .ok (.sipush 256, 3) := by decide +kernel
theorem dJI_numberOfTrailingZeros_38 : decode bJI_numberOfTrailingZeros 38 = .ok (.if_icmp .le 11, 3) := by decide +kernel
theorem dJI_numberOfTrailingZeros_41 : decode bJI_numberOfTrailingZeros 41 = .ok (.iinc 1 8, 3) := by decide +kernel
theorem dJI_numberOfTrailingZeros_44 : decode bJI_numberOfTrailingZeros 44 = .ok (.iload_n 0, 1) := by decide +kernel
theorem dJI_numberOfTrailingZeros_45 : decode bJI_numberOfTrailingZeros 45 = .ok (.bipush 8, 2) := by decide +kernel
theorem dJI_numberOfTrailingZeros_47 : decode bJI_numberOfTrailingZeros 47 = .ok (.iushr, 1) := by decide +kernel
theorem dJI_numberOfTrailingZeros_48 : decode bJI_numberOfTrailingZeros 48 = .ok (.istore_n 0, 1) := by decide +kernel
theorem dJI_numberOfTrailingZeros_49 : decode bJI_numberOfTrailingZeros 49 = .ok (.iload_n 0, 1) := by decide +kernel
theorem dJI_numberOfTrailingZeros_50 : decode bJI_numberOfTrailingZeros 50 = .ok (.bipush 16, 2) := by decide +kernel
theorem dJI_numberOfTrailingZeros_52 : decode bJI_numberOfTrailingZeros 52 = .ok (.if_icmp .le 10, 3) := by decide +kernel
theorem dJI_numberOfTrailingZeros_55 : decode bJI_numberOfTrailingZeros 55 = .ok (.iinc 1 4, 3) := by decide +kernel
theorem dJI_numberOfTrailingZeros_58 : decode bJI_numberOfTrailingZeros 58 = .ok (.iload_n 0, 1) := by decide +kernel
theorem dJI_numberOfTrailingZeros_59 : decode bJI_numberOfTrailingZeros 59 = .ok (.iconst 4, 1) := by decide +kernel
theorem dJI_numberOfTrailingZeros_60 : decode bJI_numberOfTrailingZeros 60 = .ok (.iushr, 1) := by decide +kernel
theorem dJI_numberOfTrailingZeros_61 : decode bJI_numberOfTrailingZeros 61 = .ok (.istore_n 0, 1) := by decide +kernel
theorem dJI_numberOfTrailingZeros_62 : decode bJI_numberOfTrailingZeros 62 = .ok (.iload_n 0, 1) := by decide +kernel
theorem dJI_numberOfTrailingZeros_63 : decode bJI_numberOfTrailingZeros 63 = .ok (.iconst 4, 1) := by decide +kernel
theorem dJI_numberOfTrailingZeros_64 : decode bJI_numberOfTrailingZeros 64 = .ok (.if_icmp .le 10, 3) := by decide +kernel
theorem dJI_numberOfTrailingZeros_67 : decode bJI_numberOfTrailingZeros 67 = .ok (.iinc 1 2, 3) := by decide +kernel
theorem dJI_numberOfTrailingZeros_70 : decode bJI_numberOfTrailingZeros 70 = .ok (.iload_n 0, 1) := by decide +kernel
theorem dJI_numberOfTrailingZeros_71 : decode bJI_numberOfTrailingZeros 71 = .ok (.iconst 2, 1) := by decide +kernel
theorem dJI_numberOfTrailingZeros_72 : decode bJI_numberOfTrailingZeros 72 = .ok (.iushr, 1) := by decide +kernel
theorem dJI_numberOfTrailingZeros_73 : decode bJI_numberOfTrailingZeros 73 = .ok (.istore_n 0, 1) := by decide +kernel
theorem dJI_numberOfTrailingZeros_74 : decode bJI_numberOfTrailingZeros 74 = .ok (.iload_n 1, 1) := by decide +kernel
theorem dJI_numberOfTrailingZeros_75 : decode bJI_numberOfTrailingZeros 75 = .ok (.iload_n 0, 1) := by decide +kernel
theorem dJI_numberOfTrailingZeros_76 : decode bJI_numberOfTrailingZeros 76 = .ok (.iconst 1, 1) := by decide +kernel
theorem dJI_numberOfTrailingZeros_77 : decode bJI_numberOfTrailingZeros 77 = .ok (.iushr, 1) := by decide +kernel
theorem dJI_numberOfTrailingZeros_78 : decode bJI_numberOfTrailingZeros 78 = .ok (.iadd, 1) := by decide +kernel
theorem dJI_numberOfTrailingZeros_79 : decode bJI_numberOfTrailingZeros 79 = .ok (.ireturn, 1) := by decide +kernel
theorem dV_become_0 : decode bV_become 0 = .ok (.aload_n 0, 1) := by decide +kernel
theorem dV_become_1 : decode bV_become 1 = .ok (.aload_n 1, 1) := by decide +kernel
theorem dV_become_2 : decode bV_become 2 = .ok (.getfield 9, 3) := by decide +kernel
theorem dV_become_5 : decode bV_become 5 = .ok (.putfield 9, 3) := by decide +kernel
theorem dV_become_8 : decode bV_become 8 = .ok (.aload_n 0, 1) := by decide +kernel
theorem dV_become_9 : decode bV_become 9 = .ok (.aload_n 1, 1) := by decide +kernel
theorem dV_become_10 : decode bV_become 10 = .ok (.getfield 15, 3) := by decide +kernel
theorem dV_become_13 : decode bV_become 13 = .ok (.putfield 15, 3) := by decide +kernel
theorem dV_become_16 : decode bV_become 16 = .ok (.aload_n 0, 1) := by decide +kernel
theorem dV_become_17 : decode bV_become 17 = .ok (.aload_n 1, 1) := by decide +kernel
theorem dV_become_18 : decode bV_become 18 = .ok (.getfield 19, 3) := by decide +kernel
theorem dV_become_21 : decode bV_become 21 = .ok (.putfield 19, 3) := by decide +kernel
theorem dV_become_24 : decode bV_become 24 = .ok (.return_, 1) := by decide +kernel
theorem dN_special_0 : decode bN_special 0 = .ok (.iload_n 1, 1) := by decide +kernel
theorem dN_special_1 : decode bN_special 1 = .ok (.invokestatic 26, 3) := by decide +kernel
theorem dN_special_4 : decode bN_special 4 = .ok (.ifCond .eq 13, 3) := by decide +kernel
theorem dN_special_7 : decode bN_special 7 = .ok (.iload_n 2, 1) := by decide +kernel
theorem dN_special_8 : decode bN_special 8 = .ok (.iconst 3, 1) := by decide +kernel
theorem dN_special_9 : decode bN_special 9 = .ok (.if_icmp .lt 8, 3) := by decide +kernel
theorem dN_special_12 : decode bN_special 12 = .ok (.iload_n 2, 1) := by decide +kernel
theorem dN_special_13 : decode bN_special 13 = .ok (.iconst 5, 1) := by decide +kernel
theorem dN_special_14 : decode bN_special 14 = .ok (.if_icmp .le 5, 3) := by decide +kernel
theorem dN_special_17 : decode bN_special 17 = .ok (.iconst 0, 1) := by decide +kernel
theorem dN_special_18 : decode bN_special 18 = .ok (.ireturn, 1) := by decide +kernel
theorem dN_special_19 : decode bN_special 19 = .ok (.aload_n 0, 1) := by decide +kernel
theorem dN_special_20 : decode bN_special 20 = .ok (.getfield 11, 3) := by decide +kernel
theorem dN_special_23 : decode bN_special 23 = .ok (.iload_n 1, 1) := by decide +kernel
theorem dN_special_24 : decode bN_special 24 = .ok (.aaload, 1) := by decide +kernel
theorem dN_special_25 : decode bN_special 25 = .ok (.iload_n 2, 1) := by decide +kernel
theorem dN_special_26 : decode bN_special 26 = .ok (.invokevirtual 50, 3) := by decide +kernel
theorem dN_special_29 : decode bN_special 29 = .ok (.iconst 1, 1) := by decide +kernel
theorem dN_special_30 : decode bN_special 30 = .ok (.ireturn, 1) := by decide +kernel
theorem dV_setSpecial_0 : decode bV_setSpecial 0 = .ok (.aload_n 0, 1) := by decide +kernel
theorem dV_setSpecial_1 : decode bV_setSpecial 1 = .ok (.iload_n 1, 1) := by decide +kernel
theorem dV_setSpecial_2 : decode bV_setSpecial 2 = .ok (.putfield 9, 3) := by decide +kernel
theorem dV_setSpecial_5 : decode bV_setSpecial 5 = .ok (.aload_n 0, 1) := by decide +kernel
theorem dV_setSpecial_6 : decode bV_setSpecial 6 = .ok (.lconst 0, 1) := by decide +kernel
theorem dV_setSpecial_7 : decode bV_setSpecial 7 = .ok (.putfield 15, 3) := by decide +kernel
theorem dV_setSpecial_10 : decode bV_setSpecial 10 = .ok (.aload_n 0, 1) := by decide +kernel
theorem dV_setSpecial_11 : decode bV_setSpecial 11 = .ok (.iconst 0, 1) := by decide +kernel
theorem dV_setSpecial_12 : decode bV_setSpecial 12 = .ok (.putfield 19, 3) := by decide +kernel
theorem dV_setSpecial_15 : decode bV_setSpecial 15 = .ok (.return_, 1) := by decide +kernel
theorem dN_operate_0 : decode bN_operate 0 = .ok (.iload_n 2, 1) := by decide +kernel
theorem dN_operate_1 : decode bN_operate 1 = .ok (.invokestatic 26, 3) := by decide +kernel
theorem dN_operate_4 : decode bN_operate 4 = .ok (.ifCond .eq 28, 3) := by decide +kernel
theorem dN_operate_7 : decode bN_operate 7 = .ok (.iload_n 3, 1) := by decide +kernel
theorem dN_operate_8 : decode bN_operate 8 = .ok (.invokestatic 26, 3) := by decide +kernel
theorem dN_operate_11 : decode bN_operate 11 = .ok (.ifCond .eq 21, 3) := by decide +kernel
theorem dN_operate_14 : decode bN_operate 14 = .ok (.iload 4, 2) := by decide +kernel
theorem dN_operate_16 : decode bN_operate 16 = .ok (.invokestatic 26, 3) := by decide +kernel
theorem dN_operate_19 : decode bN_operate 19 = .ok (.ifCond .eq 13, 3) := by decide +kernel
theorem dN_operate_22 : decode bN_operate 22 = .ok (.iload_n 1, 1) := by decide +kernel
theorem dN_operate_23 : decode bN_operate 23 = .ok (.ifCond .lt 9, 3) := by decide +kernel
theorem dN_operate_26 : decode bN_operate 26 = .ok (.iload_n 1, 1) := by decide +kernel
theorem dN_operate_27 : decode bN_operate 27 = .ok (.bipush 17, 2) := by decide +kernel
theorem dN_operate_29 : decode bN_operate 29 = .ok (.if_icmp .le 5, 3) := by decide +kernel
theorem dN_operate_32 : decode bN_operate 32 = .ok (.iconst (-1), 1) := by decide +kernel
theorem dN_operate_33 : decode bN_operate 33 = .ok (.ireturn, 1) := by decide +kernel
theorem dN_operate_34 : decode bN_operate 34 = .ok (.aload_n 0, 1) := by decide +kernel
theorem dN_operate_35 : decode bN_operate 35 = .ok (.getfield 16, 3) := by decide +kernel
theorem dN_operate_38 : decode bN_operate 38 = .ok (.aload_n 0, 1) := by decide +kernel
theorem dN_operate_39 : decode bN_operate 39 = .ok (.getfield 11, 3) := by decide +kernel
theorem dN_operate_42 : decode bN_operate 42 = .ok (.iload_n 3, 1) := by decide +kernel
theorem dN_operate_43 : decode bN_operate 43 = .ok (.aaload, 1) := by decide +kernel
theorem dN_operate_44 : decode bN_operate 44 = .ok (.invokevirtual 46, 3) := by decide +kernel
theorem dN_operate_47 : decode bN_operate 47 = .ok (.aload_n 0, 1) := by decide +kernel
theorem dN_operate_48 : decode bN_operate 48 = .ok (.getfield 20, 3) := by decide +kernel
theorem dN_operate_51 : decode bN_operate 51 = .ok (.aload_n 0, 1) := by decide +kernel
theorem dN_operate_52 : decode bN_operate 52 = .ok (.getfield 11, 3) := by decide +kernel
theorem dN_operate_55 : decode bN_operate 55 = .ok (.iload 4, 2) := by decide +kernel
theorem dN_operate_57 : decode bN_operate 57 = .ok (.aaload, 1) := by decide +kernel
theorem dN_operate_58 : decode bN_operate 58 = .ok (.invokevirtual 46, 3) := by decide +kernel
theorem dN_operate_61 : decode bN_operate 61 = .ok (.iload_n 1, 1) := by decide +kernel
theorem dN_operate_62 : decode bN_operate 62 = .ok (.iconst 2, 1) := by decide +kernel
theorem dN_operate_63 : decode bN_operate 63 = .ok (.if_icmp .gt 13, 3) := by decide +kernel
theorem dN_operate_66 : decode bN_operate 66 = .ok (.aload_n 0, 1) := by decide +kernel
theorem dN_operate_67 : decode bN_operate 67 = .ok (.iload_n 1, 1) := by decide +kernel
theorem dN_operate_68 : decode bN_operate 68 = .ok (.invokevirtual 54, 3) := by decide +kernel
theorem dN_operate_71 : decode bN_operate 71 = .ok (.istore 5, 2) := by decide +kernel
theorem dN_operate_73 : decode bN_operate 73 = .ok (.goto 56, 3) := by decide +kernel
theorem dN_operate_76 : decode bN_operate 76 = .ok (.iload_n 1, 1) := by decide +kernel
theorem dN_operate_77 : decode bN_operate 77 = .ok (.iconst 5, 1) := by decide +kernel
theorem dN_operate_78 : decode bN_operate 78 = .ok (.if_icmp .gt 13, 3) := by decide +kernel
theorem dN_operate_81 : decode bN_operate 81 = .ok (.aload_n 0, 1) := by decide +kernel
theorem dN_operate_82 : decode bN_operate 82 = .ok (.iload_n 1, 1) := by decide +kernel
theorem dN_operate_83 : decode bN_operate 83 = .ok (.invokevirtual 58, 3) := by decide +kernel
theorem dN_operate_86 : decode bN_operate 86 = .ok (.istore 5, 2) := by decide +kernel
theorem dN_operate_88 : decode bN_operate 88 = .ok (.goto 41, 3) := by decide +kernel
theorem dN_operate_91 : decode bN_operate 91 = .ok (.iload_n 1, 1) := by decide +kernel
theorem dN_operate_92 : decode bN_operate 92 = .ok (.bipush 6, 2) := by decide +kernel
theorem dN_operate_94 : decode bN_operate 94 = .ok (.if_icmp .ne 12, 3) := by decide +kernel
theorem dN_operate_97 : decode bN_operate 97 = .ok (.aload_n 0, 1) := by decide +kernel
theorem dN_operate_98 : decode bN_operate 98 = .ok (.invokevirtual 61, 3) := by decide +kernel
theorem dN_operate_101 : decode bN_operate 101 = .ok (.istore 5, 2) := by decide +kernel
theorem dN_operate_103 : decode bN_operate 103 = .ok (.goto 26, 3) := by decide +kernel
theorem dN_operate_106 : decode bN_operate 106 = .ok (.iload_n 1, 1) := by decide +kernel
theorem dN_operate_107 : decode bN_operate 107 = .ok (.bipush 11, 2) := by decide +kernel
theorem dN_operate_109 : decode bN_operate 109 = .ok (.if_icmp .gt 13, 3) := by decide +kernel
theorem dN_operate_112 : decode bN_operate 112 = .ok (.aload_n 0, 1) := by decide +kernel
theorem dN_operate_113 : decode bN_operate 113 = .ok (.iload_n 1, 1) := by decide +kernel
theorem dN_operate_114 : decode bN_operate 114 = .ok (.invokevirtual 65, 3) := by decide +kernel
theorem dN_operate_117 : decode bN_operate 117 = .ok (.istore 5, 2) := by decide +kernel
theorem dN_operate_119 : decode bN_operate 119 = .ok (.goto 10, 3) := by decide +kernel
theorem dN_operate_122 : decode bN_operate 122 = .ok (.aload_n 0, 1) := by decide +kernel
theorem dN_operate_123 : decode bN_operate 123 = .ok (.iload_n 1, 1) := by decide +kernel
theorem dN_operate_124 : decode bN_operate 124 = .ok (.invokevirtual 68, 3) := by decide +kernel
theorem dN_operate_127 : decode bN_operate 127 = .ok (.istore 5, 2) := by decide +kernel
theorem dN_operate_129 : decode bN_operate 129 = .ok (.iload 5, 2) := by decide +kernel
theorem dN_operate_131 : decode bN_operate 131 = .ok (.ifCond .ne 16, 3) := by decide +kernel
theorem dN_operate_134 : decode bN_operate 134 = .ok (.aload_n 0, 1) := by decide +kernel
theorem dN_operate_135 : decode bN_operate 135 = .ok (.getfield 11, 3) := by decide +kernel
theorem dN_operate_138 : decode bN_operate 138 = .ok (.iload_n 2, 1) := by decide +kernel
theorem dN_operate_139 : decode bN_operate 139 = .ok (.aaload, 1) := by decide +kernel
theorem dN_operate_140 : decode bN_operate 140 = .ok (.aload_n 0, 1) := by decide +kernel
theorem dN_operate_141 : decode bN_operate 141 = .ok (.getfield 16, 3) := by decide +kernel
theorem dN_operate_144 : decode bN_operate 144 = .ok (.invokevirtual 46, 3) := by decide +kernel
theorem dN_operate_147 : decode bN_operate 147 = .ok (.iload 5, 2) := by decide +kernel
theorem dN_operate_149 : decode bN_operate 149 = .ok (.ireturn, 1) := by decide +kernel
theorem dN_addOrMultiply_0 : decode bN_addOrMultiply 0 = .ok (.aload_n 0, 1) := by decide +kernel
theorem dN_addOrMultiply_1 : decode bN_addOrMultiply 1 = .ok (.invokevirtual 95, 3) := by decide +kernel
theorem dN_addOrMultiply_4 : decode bN_addOrMultiply 4 = .ok (.ifCond .eq 56, 3) := by decide +kernel
theorem dN_addOrMultiply_7 : decode bN_addOrMultiply 7 = .ok (.aload_n 0, 1) := by decide +kernel
theorem dN_addOrMultiply_8 : decode bN_addOrMultiply 8 = .ok (.getfield 16, 3) := by decide +kernel
theorem dN_addOrMultiply_11 : decode bN_addOrMultiply 11 = .ok (.getfield 38, 3) := by decide +kernel
theorem dN_addOrMultiply_14 : decode bN_addOrMultiply 14 = .ok (.lstore_n 2, 1) := by decide +kernel
theorem dN_addOrMultiply_15 : decode bN_addOrMultiply 15 = .ok (.aload_n 0, 1) := by decide +kernel
theorem dN_addOrMultiply_16 : decode bN_addOrMultiply 16 = .ok (.getfield 20, 3) := by decide +kernel
theorem dN_addOrMultiply_19 : decode bN_addOrMultiply 19 = .ok (.getfield 38, 3) := by decide +kernel
theorem dN_addOrMultiply_22 : decode bN_addOrMultiply 22 = .ok (.lstore 4, 2) := by decide +kernel
theorem dN_addOrMultiply_24 : decode bN_addOrMultiply 24 = .ok (.aload_n 0, 1) := by decide +kernel
theorem dN_addOrMultiply_25 : decode bN_addOrMultiply 25 = .ok (.getfield 16, 3) := by decide +kernel
theorem dN_addOrMultiply_28 : decode bN_addOrMultiply 28 = .ok (.iload_n 1, 1) := by decide +kernel
theorem dN_addOrMultiply_29 : decode bN_addOrMultiply 29 = .ok (.ifCond .ne 10, 3) := by decide +kernel
theorem dN_addOrMultiply_32 : decode bN_addOrMultiply 32 = .ok (.lload_n 2, 1) := by decide +kernel
theorem dN_addOrMultiply_33 : decode bN_addOrMultiply 33 = .ok (.lload 4, 2) := by decide +kernel
theorem dN_addOrMultiply_35 : decode bN_addOrMultiply 35 = .ok (.ladd, 1) := by decide +kernel
theorem dN_addOrMultiply_36 : decode bN_addOrMultiply 36 = .ok (.goto 19, 3) := by decide +kernel
theorem dN_addOrMultiply_39 : decode bN_addOrMultiply 39 = .ok (.iload_n 1, 1) := by decide +kernel
theorem dN_addOrMultiply_40 : decode bN_addOrMultiply 40 = .ok (.iconst 1, 1) := by decide +kernel
theorem dN_addOrMultiply_41 : decode bN_addOrMultiply 41 = .ok (.if_icmp .ne 10, 3) := by decide +kernel
theorem dN_addOrMultiply_44 : decode bN_addOrMultiply 44 = .ok (.lload_n 2, 1) := by decide +kernel
theorem dN_addOrMultiply_45 : decode bN_addOrMultiply 45 = .ok (.lload 4, 2) := by decide +kernel
theorem dN_addOrMultiply_47 : decode bN_addOrMultiply 47 = .ok (.lsub, 1) := by decide +kernel
theorem dN_addOrMultiply_48 : decode bN_addOrMultiply 48 = .ok (.goto 7, 3) := by decide +kernel
theorem dN_addOrMultiply_51 : decode bN_addOrMultiply 51 = .ok (.lload_n 2, 1) := by decide +kernel
theorem dN_addOrMultiply_52 : decode bN_addOrMultiply 52 = .ok (.lload 4, 2) := by decide +kernel
theorem dN_addOrMultiply_54 : decode bN_addOrMultiply 54 = .ok (.lmul, 1) := by decide +kernel
theorem dN_addOrMultiply_55 : decode bN_addOrMultiply 55 = .ok (.invokevirtual 30, 3) := by decide +kernel
theorem dN_addOrMultiply_58 : decode bN_addOrMultiply 58 = .ok (.iconst 0, 1) := by decide +kernel
theorem dN_addOrMultiply_59 : decode bN_addOrMultiply 59 = .ok (.ireturn, 1) := by decide +kernel
theorem dN_addOrMultiply_60 : decode bN_addOrMultiply 60 = .ok (.aload_n 0, 1) := by decide +kernel
theorem dN_addOrMultiply_61 : decode bN_addOrMultiply 61 = .ok (.invokevirtual 99, 3) := by decide +kernel
theorem dN_addOrMultiply_64 : decode bN_addOrMultiply 64 = .ok (.iload_n 1, 1) := by decide +kernel
theorem dN_addOrMultiply_65 : decode bN_addOrMultiply 65 = .ok (.iconst 2, 1) := by decide +kernel
theorem dN_addOrMultiply_66 : decode bN_addOrMultiply 66 = .ok (.if_icmp .ne 16, 3) := by decide +kernel
theorem dN_addOrMultiply_69 : decode bN_addOrMultiply 69 = .ok (.aload_n 0, 1) := by decide +kernel
theorem dN_addOrMultiply_70 : decode bN_addOrMultiply 70 = .ok (.getfield 16, 3) := by decide +kernel
theorem dN_addOrMultiply_73 : decode bN_addOrMultiply 73 = .ok (.aload_n 0, 1) := by decide +kernel
theorem dN_addOrMultiply_74 : decode bN_addOrMultiply 74 = .ok (.getfield 20, 3) := by decide +kernel
theorem dN_addOrMultiply_77 : decode bN_addOrMultiply 77 = .ok (.invokestatic 102, 3) := by decide +kernel
theorem dN_addOrMultiply_80 : decode bN_addOrMultiply 80 = .ok (.iconst 0, 1) := by decide +kernel
theorem dN_addOrMultiply_81 : decode bN_addOrMultiply 81 = .ok (.ireturn, 1) := by decide +kernel
theorem dN_addOrMultiply_82 : decode bN_addOrMultiply 82 = .ok (.iload_n 1, 1) := by decide +kernel
theorem dN_addOrMultiply_83 : decode bN_addOrMultiply 83 = .ok (.iconst 1, 1) := by decide +kernel
theorem dN_addOrMultiply_84 : decode bN_addOrMultiply 84 = .ok (.if_icmp .ne 10, 3) := by decide +kernel
theorem dN_addOrMultiply_87 : decode bN_addOrMultiply 87 = .ok (.aload_n 0, 1) := by decide +kernel
theorem dN_addOrMultiply_88 : decode bN_addOrMultiply 88 = .ok (.getfield 20, 3) := by decide +kernel
theorem dN_addOrMultiply_91 : decode bN_addOrMultiply 91 = .ok (.invokevirtual 108, 3) := by decide +kernel
theorem dN_addOrMultiply_94 : decode bN_addOrMultiply 94 = .ok (.aload_n 0, 1) := by decide +kernel
theorem dN_addOrMultiply_95 : decode bN_addOrMultiply 95 = .ok (.getfield 16, 3) := by decide +kernel
theorem dN_addOrMultiply_98 : decode bN_addOrMultiply 98 = .ok (.aload_n 0, 1) := by decide +kernel
theorem dN_addOrMultiply_99 : decode bN_addOrMultiply 99 = .ok (.getfield 20, 3) := by decide +kernel
theorem dN_addOrMultiply_102 : decode bN_addOrMultiply 102 = .ok (.invokestatic 111, 3) := by decide +kernel
theorem dN_addOrMultiply_105 : decode bN_addOrMultiply 105 = .ok (.iconst 0, 1) := by decide +kernel
theorem dN_addOrMultiply_106 : decode bN_addOrMultiply 106 = .ok (.ireturn, 1) := by decide +kernel
theorem dN_areWhole_0 : decode bN_areWhole 0 = .ok (.aload_n 0, 1) := by decide +kernel
theorem dN_areWhole_1 : decode bN_areWhole 1 = .ok (.getfield 16, 3) := by decide +kernel
theorem dN_areWhole_4 : decode bN_areWhole 4 = .ok (.getfield 71, 3) := by decide +kernel
theorem dN_areWhole_7 : decode bN_areWhole 7 = .ok (.iconst 1, 1) := by decide +kernel
theorem dN_areWhole_8 : decode bN_areWhole 8 = .ok (.if_icmp .ne 18, 3) := by decide +kernel
theorem dN_areWhole_11 : decode bN_areWhole 11 = .ok (.aload_n 0, 1) := by decide +kernel
theorem dN_areWhole_12 : decode bN_areWhole 12 = .ok (.getfield 20, 3) := by decide +kernel
theorem dN_areWhole_15 : decode bN_areWhole 15 = .ok (.getfield 71, 3) := by decide +kernel
theorem dN_areWhole_18 : decode bN_areWhole 18 = .ok (.iconst 1, 1) := by decide +kernel
theorem dN_areWhole_19 : decode bN_areWhole 19 = .ok (.if_icmp .ne 7, 3) := by decide +kernel
theorem dN_areWhole_22 : decode bN_areWhole 22 = .ok (.iconst 1, 1) := by decide +kernel
theorem dN_areWhole_23 : decode bN_areWhole 23 = .ok (.goto 4, 3) := by decide +kernel
theorem dN_areWhole_26 : decode bN_areWhole 26 = .ok (.iconst 0, 1) := by decide +kernel
theorem dN_areWhole_27 : decode bN_areWhole 27 = .ok (.ireturn, 1) := by decide +kernel
theorem dN_makeReals_0 : decode bN_makeReals 0 = .ok (.aload_n 0, 1) := by decide +kernel
theorem dN_makeReals_1 : decode bN_makeReals 1 = .ok (.getfield 16, 3) := by decide +kernel
theorem dN_makeReals_4 : decode bN_makeReals 4 = .ok (.invokevirtual 92, 3) := by decide +kernel
theorem dN_makeReals_7 : decode bN_makeReals 7 = .ok (.aload_n 0, 1) := by decide +kernel
theorem dN_makeReals_8 : decode bN_makeReals 8 = .ok (.getfield 20, 3) := by decide +kernel
theorem dN_makeReals_11 : decode bN_makeReals 11 = .ok (.invokevirtual 92, 3) := by decide +kernel
theorem dN_makeReals_14 : decode bN_makeReals 14 = .ok (.return_, 1) := by decide +kernel
theorem dV_turnReal_0 : decode bV_turnReal 0 = .ok (.aload_n 0, 1) := by decide +kernel
theorem dV_turnReal_1 : decode bV_turnReal 1 = .ok (.getfield 9, 3) := by decide +kernel
theorem dV_turnReal_4 : decode bV_turnReal 4 = .ok (.iconst 1, 1) := by decide +kernel
theorem dV_turnReal_5 : decode bV_turnReal 5 = .ok (.if_icmp .ne 27, 3) := by decide +kernel
theorem dV_turnReal_8 : decode bV_turnReal 8 = .ok (.aload_n 0, 1) := by decide +kernel
theorem dV_turnReal_9 : decode bV_turnReal 9 = .ok (.aload_n 0, 1) := by decide +kernel
theorem dV_turnReal_10 : decode bV_turnReal 10 = .ok (.getfield 15, 3) := by decide +kernel
theorem dV_turnReal_13 : decode bV_turnReal 13 = .ok (.lconst 0, 1) := by decide +kernel
theorem dV_turnReal_14 : decode bV_turnReal 14 = .ok (.lcmp, 1) := by decide +kernel
theorem dV_turnReal_15 : decode bV_turnReal 15 = .ok (.ifCond .ge 7, 3) := by decide +kernel
theorem dV_turnReal_18 : decode bV_turnReal 18 = .ok (.iconst 1, 1) := by decide +kernel
theorem dV_turnReal_19 : decode bV_turnReal 19 = .ok (.goto 4, 3) := by decide +kernel
theorem dV_turnReal_22 : decode bV_turnReal 22 = .ok (.iconst 0, 1) := by decide +kernel
theorem dV_turnReal_23 : decode bV_turnReal 23 = .ok (.aload_n 0, 1) := by decide +kernel
theorem dV_turnReal_24 : decode bV_turnReal 24 = .ok (.invokevirtual 59, 3) := by decide +kernel
theorem dV_turnReal_27 : decode bV_turnReal 27 = .ok (.iconst 0, 1) := by decide +kernel
theorem dV_turnReal_28 : decode bV_turnReal 28 = .ok (.iconst 0, 1) := by decide +kernel
theorem dV_turnReal_29 : decode bV_turnReal 29 = .ok (.invokevirtual 26, 3) := by decide +kernel
theorem dV_turnReal_32 : decode bV_turnReal 32 = .ok (.return_, 1) := by decide +kernel
theorem dV_size_0 : decode bV_size 0 = .ok (.aload_n 0, 1) := by decide +kernel
theorem dV_size_1 : decode bV_size 1 = .ok (.getfield 15, 3) := by decide +kernel
theorem dV_size_4 : decode bV_size 4 = .ok (.invokestatic 22, 3) := by decide +kernel
theorem dV_size_7 : decode bV_size 7 = .ok (.lreturn, 1) := by decide +kernel
theorem dR_multiply_0 : decode bR_multiply 0 = .ok (.aload_n 0, 1) := by decide +kernel
theorem dR_multiply_1 : decode bR_multiply 1 = .ok (.aload_n 1, 1) := by decide +kernel
theorem dR_multiply_2 : decode bR_multiply 2 = .ok (.invokestatic 17, 3) := by decide +kernel
theorem dR_multiply_5 : decode bR_multiply 5 = .ok (.ifCond .eq 9, 3) := by decide +kernel
theorem dR_multiply_8 : decode bR_multiply 8 = .ok (.aload_n 0, 1) := by decide +kernel
theorem dR_multiply_9 : decode bR_multiply 9 = .ok (.iconst 5, 1) := by decide +kernel
theorem dR_multiply_10 : decode bR_multiply 10 = .ok (.invokevirtual 21, 3) := by decide +kernel
theorem dR_multiply_13 : decode bR_multiply 13 = .ok (.return_, 1) := by decide +kernel
theorem dR_multiply_14 : decode bR_multiply 14 = .ok (.aload_n 0, 1) := by decide +kernel
theorem dR_multiply_15 : decode bR_multiply 15 = .ok (.invokevirtual 60, 3) := by decide +kernel
theorem dR_multiply_18 : decode bR_multiply 18 = .ok (.aload_n 1, 1) := by decide +kernel
theorem dR_multiply_19 : decode bR_multiply 19 = .ok (.invokevirtual 60, 3) := by decide +kernel
theorem dR_multiply_22 : decode bR_multiply 22 = .ok (.imul, 1) := by decide +kernel
theorem dR_multiply_23 : decode bR_multiply 23 = .ok (.istore_n 2, 1) := by decide +kernel
theorem dR_multiply_24 : decode bR_multiply 24 = .ok (.aload_n 0, 1) := by decide +kernel
theorem dR_multiply_25 : decode bR_multiply 25 = .ok (.invokevirtual 25, 3) := by decide +kernel
theorem dR_multiply_28 : decode bR_multiply 28 = .ok (.ifCond .ne 27, 3) := by decide +kernel
theorem dR_multiply_31 : decode bR_multiply 31 = .ok (.aload_n 1, 1) := by decide +kernel
theorem dR_multiply_32 : decode bR_multiply 32 = .ok (.invokevirtual 25, 3) := by decide +kernel
theorem dR_multiply_35 : decode bR_multiply 35 = .ok (.ifCond .ne 20, 3) := by decide +kernel
theorem dR_multiply_38 : decode bR_multiply 38 = .ok (.aload_n 0, 1) := by decide +kernel
theorem dR_multiply_39 : decode bR_multiply 39 = .ok (.aload_n 1, 1) := by decide +kernel
theorem dR_multiply_40 : decode bR_multiply 40 = .ok (.iload_n 2, 1) := by decide +kernel
theorem dR_multiply_41 : decode bR_multiply 41 = .ok (.ifCond .ge 7, 3) := by decide +kernel
theorem dR_multiply_44 : decode bR_multiply 44 = .ok (.iconst 1, 1) := by decide +kernel
theorem dR_multiply_45 : decode bR_multiply 45 = .ok (.goto 4, 3) := by decide +kernel
theorem dR_multiply_48 : decode bR_multiply 48 = .ok (.iconst 0, 1) := by decide +kernel
theorem dR_multiply_49 : decode bR_multiply 49 = .ok (.invokestatic 68, 3) := by decide +kernel
theorem dR_multiply_52 : decode bR_multiply 52 = .ok (.goto 28, 3) := by decide +kernel
theorem dR_multiply_55 : decode bR_multiply 55 = .ok (.iload_n 2, 1) := by decide +kernel
theorem dR_multiply_56 : decode bR_multiply 56 = .ok (.ifCond .ne 11, 3) := by decide +kernel
theorem dR_multiply_59 : decode bR_multiply 59 = .ok (.aload_n 0, 1) := by decide +kernel
theorem dR_multiply_60 : decode bR_multiply 60 = .ok (.iconst 5, 1) := by decide +kernel
theorem dR_multiply_61 : decode bR_multiply 61 = .ok (.invokevirtual 21, 3) := by decide +kernel
theorem dR_multiply_64 : decode bR_multiply 64 = .ok (.goto 16, 3) := by decide +kernel
theorem dR_multiply_67 : decode bR_multiply 67 = .ok (.aload_n 0, 1) := by decide +kernel
theorem dR_multiply_68 : decode bR_multiply 68 = .ok (.iload_n 2, 1) := by decide +kernel
theorem dR_multiply_69 : decode bR_multiply 69 = .ok (.ifCond .ge 7, 3) := by decide +kernel
theorem dR_multiply_72 : decode bR_multiply 72 = .ok (.iconst 1, 1) := by decide +kernel
theorem dR_multiply_73 : decode bR_multiply 73 = .ok (.goto 4, 3) := by decide +kernel
theorem dR_multiply_76 : decode bR_multiply 76 = .ok (.iconst 0, 1) := by decide +kernel
theorem dR_multiply_77 : decode bR_multiply 77 = .ok (.invokevirtual 72, 3) := by decide +kernel
theorem dR_multiply_80 : decode bR_multiply 80 = .ok (.return_, 1) := by decide +kernel
theorem dR_hasNoNumber_0 : decode bR_hasNoNumber 0 = .ok (.aload_n 0, 1) := by decide +kernel
theorem dR_hasNoNumber_1 : decode bR_hasNoNumber 1 = .ok (.getfield 11, 3) := by decide +kernel
theorem dR_hasNoNumber_4 : decode bR_hasNoNumber 4 = .ok (.iconst 5, 1) := by decide +kernel
theorem dR_hasNoNumber_5 : decode bR_hasNoNumber 5 = .ok (.if_icmp .eq 11, 3) := by decide +kernel
theorem dR_hasNoNumber_8 : decode bR_hasNoNumber 8 = .ok (.aload_n 1, 1) := by decide +kernel
theorem dR_hasNoNumber_9 : decode bR_hasNoNumber 9 = .ok (.getfield 11, 3) := by decide +kernel
theorem dR_hasNoNumber_12 : decode bR_hasNoNumber 12 = .ok (.iconst 5, 1) := by decide +kernel
theorem dR_hasNoNumber_13 : decode bR_hasNoNumber 13 = .ok (.if_icmp .ne 7, 3) := by decide +kernel
theorem dR_hasNoNumber_16 : decode bR_hasNoNumber 16 = .ok (.iconst 1, 1) := by decide +kernel
theorem dR_hasNoNumber_17 : decode bR_hasNoNumber 17 = .ok (.goto 4, 3) := by decide +kernel
theorem dR_hasNoNumber_20 : decode bR_hasNoNumber 20 = .ok (.iconst 0, 1) := by decide +kernel
theorem dR_hasNoNumber_21 : decode bR_hasNoNumber 21 = .ok (.ireturn, 1) := by decide +kernel
theorem dV_sign_0 : decode bV_sign 0 = .ok (.aload_n 0, 1) := by decide +kernel
theorem dV_sign_1 : decode bV_sign 1 = .ok (.invokevirtual 63, 3) := by decide +kernel
theorem dV_sign_4 : decode bV_sign 4 = .ok (.ifCond .eq 17, 3) := by decide +kernel
theorem dV_sign_7 : decode bV_sign 7 = .ok (.aload_n 0, 1) := by decide +kernel
theorem dV_sign_8 : decode bV_sign 8 = .ok (.getfield 9, 3) := by decide +kernel
theorem dV_sign_11 : decode bV_sign 11 = .ok (.iconst 3, 1) := by decide +kernel
theorem dV_sign_12 : decode bV_sign 12 = .ok (.if_icmp .ne 7, 3) := by decide +kernel
theorem dV_sign_15 : decode bV_sign 15 = .ok (.iconst 1, 1) := by decide +kernel
theorem dV_sign_16 : decode bV_sign 16 = .ok (.goto 4, 3) := by decide +kernel
theorem dV_sign_19 : decode bV_sign 19 = .ok (.iconst (-1), 1) := by decide +kernel
theorem dV_sign_20 : decode bV_sign 20 = .ok (.ireturn, 1) := by decide +kernel
theorem dV_sign_21 : decode bV_sign 21 = .ok (.aload_n 0, 1) := by decide +kernel
theorem dV_sign_22 : decode bV_sign 22 = .ok (.getfield 15, 3) := by decide +kernel
theorem dV_sign_25 : decode bV_sign 25 = .ok (.invokestatic 74, 3) := by decide +kernel
theorem dV_sign_28 : decode bV_sign 28 = .ok (.ireturn, 1) := by decide +kernel
theorem dV_isInfinite_0 : decode bV_isInfinite 0 = .ok (.aload_n 0, 1) := by decide +kernel
theorem dV_isInfinite_1 : decode bV_isInfinite 1 = .ok (.getfield 9, 3) := by decide +kernel
theorem dV_isInfinite_4 : decode bV_isInfinite 4 = .ok (.iconst 3, 1) := by decide +kernel
theorem dV_isInfinite_5 : decode bV_isInfinite 5 = .ok (.if_icmp .eq 11, 3) := by decide +kernel
theorem dV_isInfinite_8 : decode bV_isInfinite 8 = .ok (.aload_n 0, 1) := by decide +kernel
theorem dV_isInfinite_9 : decode bV_isInfinite 9 = .ok (.getfield 9, 3) := by decide +kernel
theorem dV_isInfinite_12 : decode bV_isInfinite 12 = .ok (.iconst 4, 1) := by decide +kernel
theorem dV_isInfinite_13 : decode bV_isInfinite 13 = .ok (.if_icmp .ne 7, 3) := by decide +kernel
theorem dV_isInfinite_16 : decode bV_isInfinite 16 = .ok (.iconst 1, 1) := by decide +kernel
theorem dV_isInfinite_17 : decode bV_isInfinite 17 = .ok (.goto 4, 3) := by decide +kernel
theorem dV_isInfinite_20 : decode bV_isInfinite 20 = .ok (.iconst 0, 1) := by decide +kernel
theorem dV_isInfinite_21 : decode bV_isInfinite 21 = .ok (.ireturn, 1) := by decide +kernel
theorem dJL_signum_0 : decode bJL_signum 0 = .ok (.lload_n 0, 1) := by decide +kernel
theorem dJL_signum_1 : decode bJL_signum 1 = .ok (.bipush 63, 2) := by decide +kernel
theorem dJL_signum_3 : decode bJL_signum 3 = .ok (.lshr, 1) := by decide +kernel
theorem dJL_signum_4 : decode bJL_signum 4 = .ok (.lload_n 0, 1) := by decide +kernel
theorem dJL_signum_5 : decode bJL_signum 5 = .ok (.lneg, 1) := by decide +kernel
theorem dJL_signum_6 : decode bJL_signum 6 = .ok (.bipush 63, 2) := by decide +kernel
theorem dJL_signum_8 : decode bJL_signum 8 = .ok (.lushr, 1) := by decide +kernel
theorem dJL_signum_9 : decode bJL_signum 9 = .ok (.lor, 1) := by decide +kernel
theorem dJL_signum_10 : decode bJL_signum 10 = .ok (.l2i, 1) := by decide +kernel
theorem dJL_signum_11 : decode bJL_signum 11 = .ok (.ireturn, 1) := by decide +kernel
theorem dR_multiplyFinite_0 : decode bR_multiplyFinite 0 = .ok (.aload_n 0, 1) := by decide +kernel
theorem dR_multiplyFinite_1 : decode bR_multiplyFinite 1 = .ok (.invokevirtual 47, 3) := by decide +kernel
theorem dR_multiplyFinite_4 : decode bR_multiplyFinite 4 = .ok (.bipush 27, 2) := by decide +kernel
theorem dR_multiplyFinite_6 : decode bR_multiplyFinite 6 = .ok (.lushr, 1) := by decide +kernel
theorem dR_multiplyFinite_7 : decode bR_multiplyFinite 7 = .ok (.lstore_n 3, 1) := by decide +kernel
theorem dR_multiplyFinite_8 : decode bR_multiplyFinite 8 = .ok (.aload_n 0, 1) := by decide +kernel
theorem dR_multiplyFinite_9 : decode bR_multiplyFinite 9 = .ok (.invokevirtual 47, 3) := by decide +kernel
theorem dR_multiplyFinite_12 : decode bR_multiplyFinite 12 = .ok (.ldc2_w 76, 3) := by decide +kernel
theorem dR_multiplyFinite_15 : decode bR_multiplyFinite 15 = .ok (.land, 1) := by decide +kernel
theorem dR_multiplyFinite_16 : decode bR_multiplyFinite 16 = .ok (.lstore 5, 2) := by decide +kernel
theorem dR_multiplyFinite_18 : decode bR_multiplyFinite 18 = .ok (.aload_n 1, 1) := by decide +kernel
theorem dR_multiplyFinite_19 : decode bR_multiplyFinite 19 = .ok (.invokevirtual 47, 3) := by decide +kernel
theorem dR_multiplyFinite_22 : decode bR_multiplyFinite 22 = .ok (.bipush 27, 2) := by decide +kernel
theorem dR_multiplyFinite_24 : decode bR_multiplyFinite 24 = .ok (.lushr, 1) := by decide +kernel
theorem dR_multiplyFinite_25 : decode bR_multiplyFinite 25 = .ok (.lstore 7, 2) := by decide +kernel
theorem dR_multiplyFinite_27 : decode bR_multiplyFinite 27 = .ok (.aload_n 1, 1) := by decide +kernel
theorem dR_multiplyFinite_28 : decode bR_multiplyFinite 28 = .ok (.invokevirtual 47, 3) := by decide +kernel
theorem dR_multiplyFinite_31 : decode bR_multiplyFinite 31 = .ok (.ldc2_w 76, 3) := by decide +kernel
theorem dR_multiplyFinite_34 : decode bR_multiplyFinite 34 = .ok (.land, 1) := by decide +kernel
theorem dR_multiplyFinite_35 : decode bR_multiplyFinite 35 = .ok (.lstore 9, 2) := by decide +kernel
theorem dR_multiplyFinite_37 : decode bR_multiplyFinite 37 = .ok (.lload_n 3, 1) := by decide +kernel
theorem dR_multiplyFinite_38 : decode bR_multiplyFinite 38 = .ok (.lload 9, 2) := by decide +kernel
theorem dR_multiplyFinite_40 : decode bR_multiplyFinite 40 = .ok (.lmul, 1) := by decide +kernel
theorem dR_multiplyFinite_41 : decode bR_multiplyFinite 41 = .ok (.lload 5, 2) := by decide +kernel
theorem dR_multiplyFinite_43 : decode bR_multiplyFinite 43 = .ok (.lload 7, 2) := by decide +kernel
theorem dR_multiplyFinite_45 : decode bR_multiplyFinite 45 = .ok (.lmul, 1) := by decide +kernel
theorem dR_multiplyFinite_46 : decode bR_multiplyFinite 46 = .ok (.ladd, 1) := by decide +kernel
theorem dR_multiplyFinite_47 : decode bR_multiplyFinite 47 = .ok (.lstore 11, 2) := by decide +kernel
theorem dR_multiplyFinite_49 : decode bR_multiplyFinite 49 = .ok (.lload 5, 2) := by decide +kernel
theorem dR_multiplyFinite_51 : decode bR_multiplyFinite 51 = .ok (.lload 9, 2) := by decide +kernel
theorem dR_multiplyFinite_53 : decode bR_multiplyFinite 53 = .ok (.lmul, 1) := by decide +kernel
theorem dR_multiplyFinite_54 : decode bR_multiplyFinite 54 = .ok (.lload 11, 2) := by decide +kernel
theorem dR_multiplyFinite_56 : decode bR_multiplyFinite 56 = .ok (.ldc2_w 76, 3) := by decide +kernel
theorem dR_multiplyFinite_59 : decode bR_multiplyFinite 59 = .ok (.land, 1) := by decide +kernel
theorem dR_multiplyFinite_60 : decode bR_multiplyFinite 60 = .ok (.bipush 27, 2) := by decide +kernel
theorem dR_multiplyFinite_62 : decode bR_multiplyFinite 62 = .ok (.lshl, 1) := by decide +kernel
theorem dR_multiplyFinite_63 : decode bR_multiplyFinite 63 = .ok (.ladd, 1) := by decide +kernel
theorem dR_multiplyFinite_64 : decode bR_multiplyFinite 64 = .ok (.lstore 13, 2) := by decide +kernel
theorem dR_multiplyFinite_66 : decode bR_multiplyFinite 66 = .ok (.lload_n 3, 1) := by decide +kernel
theorem dR_multiplyFinite_67 : decode bR_multiplyFinite 67 = .ok (.lload 7, 2) := by decide +kernel
theorem dR_multiplyFinite_69 : decode bR_multiplyFinite 69 = .ok (.lmul, 1) := by decide +kernel
theorem dR_multiplyFinite_70 : decode bR_multiplyFinite 70 = .ok (.lload 11, 2) := by decide +kernel
theorem dR_multiplyFinite_72 : decode bR_multiplyFinite 72 = .ok (.bipush 27, 2) := by decide +kernel
theorem dR_multiplyFinite_74 : decode bR_multiplyFinite 74 = .ok (.lushr, 1) := by decide +kernel
theorem dR_multiplyFinite_75 : decode bR_multiplyFinite 75 = .ok (.ladd, 1) := by decide +kernel
theorem dR_multiplyFinite_76 : decode bR_multiplyFinite 76 = .ok (.lload 13, 2) := by decide +kernel
theorem dR_multiplyFinite_78 : decode bR_multiplyFinite 78 = .ok (.bipush 54, 2) := by decide +kernel
theorem dR_multiplyFinite_80 : decode bR_multiplyFinite 80 = .ok (.lushr, 1) := by decide +kernel
theorem dR_multiplyFinite_81 : decode bR_multiplyFinite 81 = .ok (.ladd, 1) := by decide +kernel
theorem dR_multiplyFinite_82 : decode bR_multiplyFinite 82 = .ok (.lstore 15, 2) := by decide +kernel
theorem dR_multiplyFinite_84 : decode bR_multiplyFinite 84 = .ok (.lload 13, 2) := by decide +kernel
theorem dR_multiplyFinite_86 : decode bR_multiplyFinite 86 = .ok (.ldc2_w 78, 3) := by decide +kernel
theorem dR_multiplyFinite_89 : decode bR_multiplyFinite 89 = .ok (.land, 1) := by decide +kernel
theorem dR_multiplyFinite_90 : decode bR_multiplyFinite 90 = .ok (.lstore 13, 2) := by decide +kernel
theorem dR_multiplyFinite_92 : decode bR_multiplyFinite 92 = .ok (.lload 15, 2) := by decide +kernel
theorem dR_multiplyFinite_94 : decode bR_multiplyFinite 94 = .ok (.invokestatic 51, 3) := by decide +kernel
theorem dR_multiplyFinite_97 : decode bR_multiplyFinite 97 = .ok (.iconst 1, 1) := by decide +kernel
theorem dR_multiplyFinite_98 : decode bR_multiplyFinite 98 = .ok (.isub, 1) := by decide +kernel
theorem dR_multiplyFinite_99 : decode bR_multiplyFinite 99 = .ok (.bipush 54, 2) := by decide +kernel
theorem dR_multiplyFinite_101 : decode bR_multiplyFinite 101 = .ok (.invokestatic 80, 3) := by decide +kernel
theorem dR_multiplyFinite_104 : decode bR_multiplyFinite 104 = .ok (.istore 17, 2) := by decide +kernel
theorem dR_multiplyFinite_106 : decode bR_multiplyFinite 106 = .ok (.bipush 54, 2) := by decide +kernel
theorem dR_multiplyFinite_108 : decode bR_multiplyFinite 108 = .ok (.iload 17, 2) := by decide +kernel
theorem dR_multiplyFinite_110 : decode bR_multiplyFinite 110 = .ok (.isub, 1) := by decide +kernel
theorem dR_multiplyFinite_111 : decode bR_multiplyFinite 111 = .ok (.istore 18, 2) := by decide +kernel
theorem dR_multiplyFinite_113 : decode bR_multiplyFinite 113 = .ok (.lload 13, 2) := by decide +kernel
theorem dR_multiplyFinite_115 : decode bR_multiplyFinite 115 = .ok (.iload 18, 2) := by decide +kernel
theorem dR_multiplyFinite_117 : decode bR_multiplyFinite 117 = .ok (.lushr, 1) := by decide +kernel
theorem dR_multiplyFinite_118 : decode bR_multiplyFinite 118 = .ok (.lstore 19, 2) := by decide +kernel
theorem dR_multiplyFinite_120 : decode bR_multiplyFinite 120 = .ok (.lload 19, 2) := by decide +kernel
theorem dR_multiplyFinite_122 : decode bR_multiplyFinite 122 = .ok (.iload 18, 2) := by decide +kernel
theorem dR_multiplyFinite_124 : decode bR_multiplyFinite 124 = .ok (.lshl, 1) := by decide +kernel
theorem dR_multiplyFinite_125 : decode bR_multiplyFinite 125 = .ok (.lload 13, 2) := by decide +kernel
theorem dR_multiplyFinite_127 : decode bR_multiplyFinite 127 = .ok (.lcmp, 1) := by decide +kernel
theorem dR_multiplyFinite_128 : decode bR_multiplyFinite 128 = .ok (.ifCond .eq 7, 3) := by decide +kernel
theorem dR_multiplyFinite_131 : decode bR_multiplyFinite 131 = .ok (.iconst 1, 1) := by decide +kernel
theorem dR_multiplyFinite_132 : decode bR_multiplyFinite 132 = .ok (.goto 4, 3) := by decide +kernel
theorem dR_multiplyFinite_135 : decode bR_multiplyFinite 135 = .ok (.iconst 0, 1) := by decide +kernel
theorem dR_multiplyFinite_136 : decode bR_multiplyFinite 136 = .ok (.istore 21, 2) := by decide +kernel
theorem dR_multiplyFinite_138 : decode bR_multiplyFinite 138 = .ok (.aload_n 0, 1) := by decide +kernel
theorem dR_multiplyFinite_139 : decode bR_multiplyFinite 139 = .ok (.iload_n 2, 1) := by decide +kernel
theorem dR_multiplyFinite_140 : decode bR_multiplyFinite 140 = .ok (.lload 15, 2) := by decide +kernel
theorem dR_multiplyFinite_142 : decode bR_multiplyFinite 142 = .ok (.iload 17, 2) := by decide +kernel
theorem dR_multiplyFinite_144 : decode bR_multiplyFinite 144 = .ok (.lshl, 1) := by decide +kernel
theorem dR_multiplyFinite_145 : decode bR_multiplyFinite 145 = .ok (.lload 19, 2) := by decide +kernel
theorem dR_multiplyFinite_147 : decode bR_multiplyFinite 147 = .ok (.ladd, 1) := by decide +kernel
theorem dR_multiplyFinite_148 : decode bR_multiplyFinite 148 = .ok (.iload 21, 2) := by decide +kernel
theorem dR_multiplyFinite_150 : decode bR_multiplyFinite 150 = .ok (.aload_n 0, 1) := by decide +kernel
theorem dR_multiplyFinite_151 : decode bR_multiplyFinite 151 = .ok (.getfield 57, 3) := by decide +kernel
theorem dR_multiplyFinite_154 : decode bR_multiplyFinite 154 = .ok (.aload_n 1, 1) := by decide +kernel
theorem dR_multiplyFinite_155 : decode bR_multiplyFinite 155 = .ok (.getfield 57, 3) := by decide +kernel
theorem dR_multiplyFinite_158 : decode bR_multiplyFinite 158 = .ok (.iadd, 1) := by decide +kernel
theorem dR_multiplyFinite_159 : decode bR_multiplyFinite 159 = .ok (.iload 18, 2) := by decide +kernel
theorem dR_multiplyFinite_161 : decode bR_multiplyFinite 161 = .ok (.iadd, 1) := by decide +kernel
theorem dR_multiplyFinite_162 : decode bR_multiplyFinite 162 = .ok (.invokevirtual 64, 3) := by decide +kernel
theorem dR_multiplyFinite_165 : decode bR_multiplyFinite 165 = .ok (.return_, 1) := by decide +kernel
theorem dV_negate_0 : decode bV_negate 0 = .ok (.aload_n 0, 1) := by decide +kernel
theorem dV_negate_1 : decode bV_negate 1 = .ok (.invokevirtual 63, 3) := by decide +kernel
theorem dV_negate_4 : decode bV_negate 4 = .ok (.ifCond .eq 23, 3) := by decide +kernel
theorem dV_negate_7 : decode bV_negate 7 = .ok (.aload_n 0, 1) := by decide +kernel
theorem dV_negate_8 : decode bV_negate 8 = .ok (.aload_n 0, 1) := by decide +kernel
theorem dV_negate_9 : decode bV_negate 9 = .ok (.getfield 9, 3) := by decide +kernel
theorem dV_negate_12 : decode bV_negate 12 = .ok (.iconst 3, 1) := by decide +kernel
theorem dV_negate_13 : decode bV_negate 13 = .ok (.if_icmp .ne 7, 3) := by decide +kernel
theorem dV_negate_16 : decode bV_negate 16 = .ok (.iconst 1, 1) := by decide +kernel
theorem dV_negate_17 : decode bV_negate 17 = .ok (.goto 4, 3) := by decide +kernel
theorem dV_negate_20 : decode bV_negate 20 = .ok (.iconst 0, 1) := by decide +kernel
theorem dV_negate_21 : decode bV_negate 21 = .ok (.invokevirtual 49, 3) := by decide +kernel
theorem dV_negate_24 : decode bV_negate 24 = .ok (.goto 12, 3) := by decide +kernel
theorem dV_negate_27 : decode bV_negate 27 = .ok (.aload_n 0, 1) := by decide +kernel
theorem dV_negate_28 : decode bV_negate 28 = .ok (.aload_n 0, 1) := by decide +kernel
theorem dV_negate_29 : decode bV_negate 29 = .ok (.getfield 15, 3) := by decide +kernel
theorem dV_negate_32 : decode bV_negate 32 = .ok (.lneg, 1) := by decide +kernel
theorem dV_negate_33 : decode bV_negate 33 = .ok (.putfield 15, 3) := by decide +kernel
theorem dV_negate_36 : decode bV_negate 36 = .ok (.return_, 1) := by decide +kernel
theorem dR_add_0 : decode bR_add 0 = .ok (.aload_n 0, 1) := by decide +kernel
theorem dR_add_1 : decode bR_add 1 = .ok (.aload_n 1, 1) := by decide +kernel
theorem dR_add_2 : decode bR_add 2 = .ok (.invokestatic 17, 3) := by decide +kernel
theorem dR_add_5 : decode bR_add 5 = .ok (.ifCond .eq 11, 3) := by decide +kernel
theorem dR_add_8 : decode bR_add 8 = .ok (.aload_n 0, 1) := by decide +kernel
theorem dR_add_9 : decode bR_add 9 = .ok (.iconst 5, 1) := by decide +kernel
theorem dR_add_10 : decode bR_add 10 = .ok (.invokevirtual 21, 3) := by decide +kernel
theorem dR_add_13 : decode bR_add 13 = .ok (.goto 92, 3) := by decide +kernel
theorem dR_add_16 : decode bR_add 16 = .ok (.aload_n 0, 1) := by decide +kernel
theorem dR_add_17 : decode bR_add 17 = .ok (.invokevirtual 25, 3) := by decide +kernel
theorem dR_add_20 : decode bR_add 20 = .ok (.ifCond .eq 29, 3) := by decide +kernel
theorem dR_add_23 : decode bR_add 23 = .ok (.aload_n 1, 1) := by decide +kernel
theorem dR_add_24 : decode bR_add 24 = .ok (.invokevirtual 25, 3) := by decide +kernel
theorem dR_add_27 : decode bR_add 27 = .ok (.ifCond .eq 78, 3) := by decide +kernel
theorem dR_add_30 : decode bR_add 30 = .ok (.aload_n 0, 1) := by decide +kernel
theorem dR_add_31 : decode bR_add 31 = .ok (.getfield 11, 3) := by decide +kernel
theorem dR_add_34 : decode bR_add 34 = .ok (.aload_n 1, 1) := by decide +kernel
theorem dR_add_35 : decode bR_add 35 = .ok (.getfield 11, 3) := by decide +kernel
theorem dR_add_38 : decode bR_add 38 = .ok (.if_icmp .eq 67, 3) := by decide +kernel
theorem dR_add_41 : decode bR_add 41 = .ok (.aload_n 0, 1) := by decide +kernel
theorem dR_add_42 : decode bR_add 42 = .ok (.iconst 5, 1) := by decide +kernel
theorem dR_add_43 : decode bR_add 43 = .ok (.invokevirtual 21, 3) := by decide +kernel
theorem dR_add_46 : decode bR_add 46 = .ok (.goto 59, 3) := by decide +kernel
theorem dR_add_49 : decode bR_add 49 = .ok (.aload_n 1, 1) := by decide +kernel
theorem dR_add_50 : decode bR_add 50 = .ok (.invokevirtual 25, 3) := by decide +kernel
theorem dR_add_53 : decode bR_add 53 = .ok (.ifCond .ne 12, 3) := by decide +kernel
theorem dR_add_56 : decode bR_add 56 = .ok (.aload_n 0, 1) := by decide +kernel
theorem dR_add_57 : decode bR_add 57 = .ok (.getfield 29, 3) := by decide +kernel
theorem dR_add_60 : decode bR_add 60 = .ok (.lconst 0, 1) := by decide +kernel
theorem dR_add_61 : decode bR_add 61 = .ok (.lcmp, 1) := by decide +kernel
theorem dR_add_62 : decode bR_add 62 = .ok (.ifCond .ne 11, 3) := by decide +kernel
theorem dR_add_65 : decode bR_add 65 = .ok (.aload_n 0, 1) := by decide +kernel
theorem dR_add_66 : decode bR_add 66 = .ok (.aload_n 1, 1) := by decide +kernel
theorem dR_add_67 : decode bR_add 67 = .ok (.invokevirtual 33, 3) := by decide +kernel
theorem dR_add_70 : decode bR_add 70 = .ok (.goto 35, 3) := by decide +kernel
theorem dR_add_73 : decode bR_add 73 = .ok (.aload_n 1, 1) := by decide +kernel
theorem dR_add_74 : decode bR_add 74 = .ok (.getfield 29, 3) := by decide +kernel
theorem dR_add_77 : decode bR_add 77 = .ok (.lconst 0, 1) := by decide +kernel
theorem dR_add_78 : decode bR_add 78 = .ok (.lcmp, 1) := by decide +kernel
theorem dR_add_79 : decode bR_add 79 = .ok (.ifCond .eq 26, 3) := by decide +kernel
theorem dR_add_82 : decode bR_add 82 = .ok (.aload_n 0, 1) := by decide +kernel
theorem dR_add_83 : decode bR_add 83 = .ok (.aload_n 1, 1) := by decide +kernel
theorem dR_add_84 : decode bR_add 84 = .ok (.invokestatic 37, 3) := by decide +kernel
theorem dR_add_87 : decode bR_add 87 = .ok (.ifCond .lt 12, 3) := by decide +kernel
theorem dR_add_90 : decode bR_add 90 = .ok (.aload_n 0, 1) := by decide +kernel
theorem dR_add_91 : decode bR_add 91 = .ok (.aload_n 0, 1) := by decide +kernel
theorem dR_add_92 : decode bR_add 92 = .ok (.aload_n 1, 1) := by decide +kernel
theorem dR_add_93 : decode bR_add 93 = .ok (.invokestatic 43, 3) := by decide +kernel
theorem dR_add_96 : decode bR_add 96 = .ok (.goto 9, 3) := by decide +kernel
theorem dR_add_99 : decode bR_add 99 = .ok (.aload_n 0, 1) := by decide +kernel
theorem dR_add_100 : decode bR_add 100 = .ok (.aload_n 1, 1) := by decide +kernel
theorem dR_add_101 : decode bR_add 101 = .ok (.aload_n 0, 1) := by decide +kernel
theorem dR_add_102 : decode bR_add 102 = .ok (.invokestatic 43, 3) := by decide +kernel
theorem dR_add_105 : decode bR_add 105 = .ok (.return_, 1) := by decide +kernel
theorem dO_ofSizes_0 : decode bO_ofSizes 0 = .ok (.aload_n 0, 1) := by decide +kernel
theorem dO_ofSizes_1 : decode bO_ofSizes 1 = .ok (.invokevirtual 68, 3) := by decide +kernel
theorem dO_ofSizes_4 : decode bO_ofSizes 4 = .ok (.invokestatic 71, 3) := by decide +kernel
theorem dO_ofSizes_7 : decode bO_ofSizes 7 = .ok (.iconst 1, 1) := by decide +kernel
theorem dO_ofSizes_8 : decode bO_ofSizes 8 = .ok (.isub, 1) := by decide +kernel
theorem dO_ofSizes_9 : decode bO_ofSizes 9 = .ok (.istore_n 2, 1) := by decide +kernel
theorem dO_ofSizes_10 : decode bO_ofSizes 10 = .ok (.aload_n 1, 1) := by decide +kernel
theorem dO_ofSizes_11 : decode bO_ofSizes 11 = .ok (.invokevirtual 68, 3) := by decide +kernel
theorem dO_ofSizes_14 : decode bO_ofSizes 14 = .ok (.invokestatic 71, 3) := by decide +kernel
theorem dO_ofSizes_17 : decode bO_ofSizes 17 = .ok (.iconst 1, 1) := by decide +kernel
theorem dO_ofSizes_18 : decode bO_ofSizes 18 = .ok (.isub, 1) := by decide +kernel
theorem dO_ofSizes_19 : decode bO_ofSizes 19 = .ok (.istore_n 3, 1) := by decide +kernel
theorem dO_ofSizes_20 : decode bO_ofSizes 20 = .ok (.aload_n 0, 1) := by decide +kernel
theorem dO_ofSizes_21 : decode bO_ofSizes 21 = .ok (.getfield 55, 3) := by decide +kernel
theorem dO_ofSizes_24 : decode bO_ofSizes 24 = .ok (.iload_n 2, 1) := by decide +kernel
theorem dO_ofSizes_25 : decode bO_ofSizes 25 = .ok (.isub, 1) := by decide +kernel
theorem dO_ofSizes_26 : decode bO_ofSizes 26 = .ok (.istore 4, 2) := by decide +kernel
theorem dO_ofSizes_28 : decode bO_ofSizes 28 = .ok (.aload_n 1, 1) := by decide +kernel
theorem dO_ofSizes_29 : decode bO_ofSizes 29 = .ok (.getfield 55, 3) := by decide +kernel
theorem dO_ofSizes_32 : decode bO_ofSizes 32 = .ok (.iload_n 3, 1) := by decide +kernel
theorem dO_ofSizes_33 : decode bO_ofSizes 33 = .ok (.isub, 1) := by decide +kernel
theorem dO_ofSizes_34 : decode bO_ofSizes 34 = .ok (.istore 5, 2) := by decide +kernel
theorem dO_ofSizes_36 : decode bO_ofSizes 36 = .ok (.iload 4, 2) := by decide +kernel
theorem dO_ofSizes_38 : decode bO_ofSizes 38 = .ok (.iload 5, 2) := by decide +kernel
theorem dO_ofSizes_40 : decode bO_ofSizes 40 = .ok (.if_icmp .eq 11, 3) := by decide +kernel
theorem dO_ofSizes_43 : decode bO_ofSizes 43 = .ok (.iload 4, 2) := by decide +kernel
theorem dO_ofSizes_45 : decode bO_ofSizes 45 = .ok (.iload 5, 2) := by decide +kernel
theorem dO_ofSizes_47 : decode bO_ofSizes 47 = .ok (.invokestatic 29, 3) := by decide +kernel
theorem dO_ofSizes_50 : decode bO_ofSizes 50 = .ok (.ireturn, 1) := by decide +kernel
theorem dO_ofSizes_51 : decode bO_ofSizes 51 = .ok (.aload_n 0, 1) := by decide +kernel
theorem dO_ofSizes_52 : decode bO_ofSizes 52 = .ok (.invokevirtual 68, 3) := by decide +kernel
theorem dO_ofSizes_55 : decode bO_ofSizes 55 = .ok (.iload_n 2, 1) := by decide +kernel
theorem dO_ofSizes_56 : decode bO_ofSizes 56 = .ok (.lshl, 1) := by decide +kernel
theorem dO_ofSizes_57 : decode bO_ofSizes 57 = .ok (.aload_n 1, 1) := by decide +kernel
theorem dO_ofSizes_58 : decode bO_ofSizes 58 = .ok (.invokevirtual 68, 3) := by decide +kernel
theorem dO_ofSizes_61 : decode bO_ofSizes 61 = .ok (.iload_n 3, 1) := by decide +kernel
theorem dO_ofSizes_62 : decode bO_ofSizes 62 = .ok (.lshl, 1) := by decide +kernel
theorem dO_ofSizes_63 : decode bO_ofSizes 63 = .ok (.invokestatic 39, 3) := by decide +kernel
theorem dO_ofSizes_66 : decode bO_ofSizes 66 = .ok (.ireturn, 1) := by decide +kernel
theorem dJI_compare_0 : decode bJI_compare 0 = .ok (.iload_n 0, 1) := by decide +kernel
theorem dJI_compare_1 : decode bJI_compare 1 = .ok (.iload_n 1, 1) := by decide +kernel
theorem dJI_compare_2 : decode bJI_compare 2 = .ok (.if_icmp .ge 7, 3) := by decide +kernel
theorem dJI_compare_5 : decode bJI_compare 5 = .ok (.iconst (-1), 1) := by decide +kernel
theorem dJI_compare_6 : decode bJI_compare 6 = .ok (.goto 13, 3) := by decide +kernel
theorem dJI_compare_9 : decode bJI_compare 9 = .ok (.iload_n 0, 1) := by decide +kernel
theorem dJI_compare_10 : decode bJI_compare 10 = .ok (.iload_n 1, 1) := by decide +kernel
theorem dJI_compare_11 : decode bJI_compare 11 = .ok (.if_icmp .ne 7, 3) := by decide +kernel
theorem dJI_compare_14 : decode bJI_compare 14 = .ok (.iconst 0, 1) := by decide +kernel
theorem dJI_compare_15 : decode bJI_compare 15 = .ok (.goto 4, 3) := by decide +kernel
theorem dJI_compare_18 : decode bJI_compare 18 = .ok (.iconst 1, 1) := by decide +kernel
theorem dJI_compare_19 : decode bJI_compare 19 = .ok (.ireturn, 1) := by decide +kernel
theorem dJL_compare_0 : decode bJL_compare 0 = .ok (.lload_n 0, 1) := by decide +kernel
theorem dJL_compare_1 : decode bJL_compare 1 = .ok (.lload_n 2, 1) := by decide +kernel
theorem dJL_compare_2 : decode bJL_compare 2 = .ok (.lcmp, 1) := by decide +kernel
theorem dJL_compare_3 : decode bJL_compare 3 = .ok (.ifCond .ge 7, 3) := by decide +kernel
theorem dJL_compare_6 : decode bJL_compare 6 = .ok (.iconst (-1), 1) := by decide +kernel
theorem dJL_compare_7 : decode bJL_compare 7 = .ok (.goto 14, 3) := by decide +kernel
theorem dJL_compare_10 : decode bJL_compare 10 = .ok (.lload_n 0, 1) := by decide +kernel
theorem dJL_compare_11 : decode bJL_compare 11 = .ok (.lload_n 2, 1) := by decide +kernel
theorem dJL_compare_12 : decode bJL_compare 12 = .ok (.lcmp, 1) := by decide +kernel
theorem dJL_compare_13 : decode bJL_compare 13 = .ok (.ifCond .ne 7, 3) := by decide +kernel
theorem dJL_compare_16 : decode bJL_compare 16 = .ok (.iconst 0, 1) := by decide +kernel
theorem dJL_compare_17 : decode bJL_compare 17 = .ok (.goto 4, 3) := by decide +kernel
theorem dJL_compare_20 : decode bJL_compare 20 = .ok (.iconst 1, 1) := by decide +kernel
theorem dJL_compare_21 : decode bJL_compare 21 = .ok (.ireturn, 1) := by decide +kernel
theorem dR_addSmaller_0 : decode bR_addSmaller 0 = .ok (.aload_n 1, 1) := by decide +kernel
theorem dR_addSmaller_1 : decode bR_addSmaller 1 = .ok (.invokevirtual 47, 3) := by decide +kernel
theorem dR_addSmaller_4 : decode bR_addSmaller 4 = .ok (.invokestatic 51, 3) := by decide +kernel
theorem dR_addSmaller_7 : decode bR_addSmaller 7 = .ok (.iconst 2, 1) := by decide +kernel
theorem dR_addSmaller_8 : decode bR_addSmaller 8 = .ok (.isub, 1) := by decide +kernel
theorem dR_addSmaller_9 : decode bR_addSmaller 9 = .ok (.istore_n 3, 1) := by decide +kernel
theorem dR_addSmaller_10 : decode bR_addSmaller 10 = .ok (.aload_n 1, 1) := by decide +kernel
theorem dR_addSmaller_11 : decode bR_addSmaller 11 = .ok (.getfield 57, 3) := by decide +kernel
theorem dR_addSmaller_14 : decode bR_addSmaller 14 = .ok (.iload_n 3, 1) := by decide +kernel
theorem dR_addSmaller_15 : decode bR_addSmaller 15 = .ok (.isub, 1) := by decide +kernel
theorem dR_addSmaller_16 : decode bR_addSmaller 16 = .ok (.istore 4, 2) := by decide +kernel
theorem dR_addSmaller_18 : decode bR_addSmaller 18 = .ok (.aload_n 2, 1) := by decide +kernel
theorem dR_addSmaller_19 : decode bR_addSmaller 19 = .ok (.invokevirtual 47, 3) := by decide +kernel
theorem dR_addSmaller_22 : decode bR_addSmaller 22 = .ok (.invokestatic 51, 3) := by decide +kernel
theorem dR_addSmaller_25 : decode bR_addSmaller 25 = .ok (.iconst 2, 1) := by decide +kernel
theorem dR_addSmaller_26 : decode bR_addSmaller 26 = .ok (.isub, 1) := by decide +kernel
theorem dR_addSmaller_27 : decode bR_addSmaller 27 = .ok (.istore 5, 2) := by decide +kernel
theorem dR_addSmaller_29 : decode bR_addSmaller 29 = .ok (.iload 4, 2) := by decide +kernel
theorem dR_addSmaller_31 : decode bR_addSmaller 31 = .ok (.aload_n 2, 1) := by decide +kernel
theorem dR_addSmaller_32 : decode bR_addSmaller 32 = .ok (.getfield 57, 3) := by decide +kernel
theorem dR_addSmaller_35 : decode bR_addSmaller 35 = .ok (.iload 5, 2) := by decide +kernel
theorem dR_addSmaller_37 : decode bR_addSmaller 37 = .ok (.isub, 1) := by decide +kernel
theorem dR_addSmaller_38 : decode bR_addSmaller 38 = .ok (.isub, 1) := by decide +kernel
theorem dR_addSmaller_39 : decode bR_addSmaller 39 = .ok (.istore 6, 2) := by decide +kernel
theorem dR_addSmaller_41 : decode bR_addSmaller 41 = .ok (.aload_n 2, 1) := by decide +kernel
theorem dR_addSmaller_42 : decode bR_addSmaller 42 = .ok (.invokevirtual 47, 3) := by decide +kernel
theorem dR_addSmaller_45 : decode bR_addSmaller 45 = .ok (.iload 5, 2) := by decide +kernel
theorem dR_addSmaller_47 : decode bR_addSmaller 47 = .ok (.lshl, 1) := by decide +kernel
theorem dR_addSmaller_48 : decode bR_addSmaller 48 = .ok (.lstore 7, 2) := by decide +kernel
theorem dR_addSmaller_50 : decode bR_addSmaller 50 = .ok (.iload 6, 2) := by decide +kernel
theorem dR_addSmaller_52 : decode bR_addSmaller 52 = .ok (.bipush 63, 2) := by decide +kernel
theorem dR_addSmaller_54 : decode bR_addSmaller 54 = .ok (.if_icmp .le 7, 3) := by decide +kernel
theorem dR_addSmaller_57 : decode bR_addSmaller 57 = .ok (.lconst 0, 1) := by decide +kernel
theorem dR_addSmaller_58 : decode bR_addSmaller 58 = .ok (.goto 8, 3) := by decide +kernel
theorem dR_addSmaller_61 : decode bR_addSmaller 61 = .ok (.lload 7, 2) := by decide +kernel
theorem dR_addSmaller_63 : decode bR_addSmaller 63 = .ok (.iload 6, 2) := by decide +kernel
theorem dR_addSmaller_65 : decode bR_addSmaller 65 = .ok (.lushr, 1) := by decide +kernel
theorem dR_addSmaller_66 : decode bR_addSmaller 66 = .ok (.lstore 9, 2) := by decide +kernel
theorem dR_addSmaller_68 : decode bR_addSmaller 68 = .ok (.iload 6, 2) := by decide +kernel
theorem dR_addSmaller_70 : decode bR_addSmaller 70 = .ok (.bipush 63, 2) := by decide +kernel
theorem dR_addSmaller_72 : decode bR_addSmaller 72 = .ok (.if_icmp .gt 14, 3) := by decide +kernel
theorem dR_addSmaller_75 : decode bR_addSmaller 75 = .ok (.lload 9, 2) := by decide +kernel
theorem dR_addSmaller_77 : decode bR_addSmaller 77 = .ok (.iload 6, 2) := by decide +kernel
theorem dR_addSmaller_79 : decode bR_addSmaller 79 = .ok (.lshl, 1) := by decide +kernel
theorem dR_addSmaller_80 : decode bR_addSmaller 80 = .ok (.lload 7, 2) := by decide +kernel
theorem dR_addSmaller_82 : decode bR_addSmaller 82 = .ok (.lcmp, 1) := by decide +kernel
theorem dR_addSmaller_83 : decode bR_addSmaller 83 = .ok (.ifCond .eq 7, 3) := by decide +kernel
theorem dR_addSmaller_86 : decode bR_addSmaller 86 = .ok (.iconst 1, 1) := by decide +kernel
theorem dR_addSmaller_87 : decode bR_addSmaller 87 = .ok (.goto 4, 3) := by decide +kernel
theorem dR_addSmaller_90 : decode bR_addSmaller 90 = .ok (.iconst 0, 1) := by decide +kernel
theorem dR_addSmaller_91 : decode bR_addSmaller 91 = .ok (.istore 11, 2) := by decide +kernel
theorem dR_addSmaller_93 : decode bR_addSmaller 93 = .ok (.aload_n 1, 1) := by decide +kernel
theorem dR_addSmaller_94 : decode bR_addSmaller 94 = .ok (.invokevirtual 47, 3) := by decide +kernel
theorem dR_addSmaller_97 : decode bR_addSmaller 97 = .ok (.iload_n 3, 1) := by decide +kernel
theorem dR_addSmaller_98 : decode bR_addSmaller 98 = .ok (.lshl, 1) := by decide +kernel
theorem dR_addSmaller_99 : decode bR_addSmaller 99 = .ok (.lstore 12, 2) := by decide +kernel
theorem dR_addSmaller_101 : decode bR_addSmaller 101 = .ok (.aload_n 1, 1) := by decide +kernel
theorem dR_addSmaller_102 : decode bR_addSmaller 102 = .ok (.invokevirtual 60, 3) := by decide +kernel
theorem dR_addSmaller_105 : decode bR_addSmaller 105 = .ok (.aload_n 2, 1) := by decide +kernel
theorem dR_addSmaller_106 : decode bR_addSmaller 106 = .ok (.invokevirtual 60, 3) := by decide +kernel
theorem dR_addSmaller_109 : decode bR_addSmaller 109 = .ok (.if_icmp .ne 13, 3) := by decide +kernel
theorem dR_addSmaller_112 : decode bR_addSmaller 112 = .ok (.lload 12, 2) := by decide +kernel
theorem dR_addSmaller_114 : decode bR_addSmaller 114 = .ok (.lload 9, 2) := by decide +kernel
theorem dR_addSmaller_116 : decode bR_addSmaller 116 = .ok (.ladd, 1) := by decide +kernel
theorem dR_addSmaller_117 : decode bR_addSmaller 117 = .ok (.lstore 12, 2) := by decide +kernel
theorem dR_addSmaller_119 : decode bR_addSmaller 119 = .ok (.goto 22, 3) := by decide +kernel
theorem dR_addSmaller_122 : decode bR_addSmaller 122 = .ok (.lload 12, 2) := by decide +kernel
theorem dR_addSmaller_124 : decode bR_addSmaller 124 = .ok (.iload 11, 2) := by decide +kernel
theorem dR_addSmaller_126 : decode bR_addSmaller 126 = .ok (.ifCond .eq 10, 3) := by decide +kernel
theorem dR_addSmaller_129 : decode bR_addSmaller 129 = .ok (.lload 9, 2) := by decide +kernel
theorem dR_addSmaller_131 : decode bR_addSmaller 131 = .ok (.lconst 1, 1) := by decide +kernel
theorem dR_addSmaller_132 : decode bR_addSmaller 132 = .ok (.ladd, 1) := by decide +kernel
theorem dR_addSmaller_133 : decode bR_addSmaller 133 = .ok (.goto 5, 3) := by decide +kernel
theorem dR_addSmaller_136 : decode bR_addSmaller 136 = .ok (.lload 9, 2) := by decide +kernel
theorem dR_addSmaller_138 : decode bR_addSmaller 138 = .ok (.lsub, 1) := by decide +kernel
theorem dR_addSmaller_139 : decode bR_addSmaller 139 = .ok (.lstore 12, 2) := by decide +kernel
theorem dR_addSmaller_141 : decode bR_addSmaller 141 = .ok (.aload_n 0, 1) := by decide +kernel
theorem dR_addSmaller_142 : decode bR_addSmaller 142 = .ok (.aload_n 1, 1) := by decide +kernel
theorem dR_addSmaller_143 : decode bR_addSmaller 143 = .ok (.getfield 29, 3) := by decide +kernel
theorem dR_addSmaller_146 : decode bR_addSmaller 146 = .ok (.lconst 0, 1) := by decide +kernel
theorem dR_addSmaller_147 : decode bR_addSmaller 147 = .ok (.lcmp, 1) := by decide +kernel
theorem dR_addSmaller_148 : decode bR_addSmaller 148 = .ok (.ifCond .ge 7, 3) := by decide +kernel
theorem dR_addSmaller_151 : decode bR_addSmaller 151 = .ok (.iconst 1, 1) := by decide +kernel
theorem dR_addSmaller_152 : decode bR_addSmaller 152 = .ok (.goto 4, 3) := by decide +kernel
theorem dR_addSmaller_155 : decode bR_addSmaller 155 = .ok (.iconst 0, 1) := by decide +kernel
theorem dR_addSmaller_156 : decode bR_addSmaller 156 = .ok (.lload 12, 2) := by decide +kernel
theorem dR_addSmaller_158 : decode bR_addSmaller 158 = .ok (.iload 11, 2) := by decide +kernel
theorem dR_addSmaller_160 : decode bR_addSmaller 160 = .ok (.iload 4, 2) := by decide +kernel
theorem dR_addSmaller_162 : decode bR_addSmaller 162 = .ok (.invokevirtual 64, 3) := by decide +kernel
theorem dR_addSmaller_165 : decode bR_addSmaller 165 = .ok (.return_, 1) := by decide +kernel
theorem dN_divideOrRemain_0 : decode bN_divideOrRemain 0 = .ok (.iload_n 1, 1) := by decide +kernel
theorem dN_divideOrRemain_1 : decode bN_divideOrRemain 1 = .ok (.iconst 3, 1) := by decide +kernel
theorem dN_divideOrRemain_2 : decode bN_divideOrRemain 2 = .ok (.if_icmp .eq 10, 3) := by decide +kernel
theorem dN_divideOrRemain_5 : decode bN_divideOrRemain 5 = .ok (.aload_n 0, 1) := by decide +kernel
theorem dN_divideOrRemain_6 : decode bN_divideOrRemain 6 = .ok (.invokevirtual 95, 3) := by decide +kernel
theorem dN_divideOrRemain_9 : decode bN_divideOrRemain 9 = .ok (.ifCond .ne 14, 3) := by decide +kernel
theorem dN_divideOrRemain_12 : decode bN_divideOrRemain 12 = .ok (.aload_n 0, 1) := by decide +kernel
theorem dN_divideOrRemain_13 : decode bN_divideOrRemain 13 = .ok (.invokevirtual 99, 3) := by decide +kernel
theorem dN_divideOrRemain_16 : decode bN_divideOrRemain 16 = .ok (.aload_n 0, 1) := by decide +kernel
theorem dN_divideOrRemain_17 : decode bN_divideOrRemain 17 = .ok (.iload_n 1, 1) := by decide +kernel
theorem dN_divideOrRemain_18 : decode bN_divideOrRemain 18 = .ok (.invokevirtual 114, 3) := by decide +kernel
theorem dN_divideOrRemain_21 : decode bN_divideOrRemain 21 = .ok (.iconst 0, 1) := by decide +kernel
theorem dN_divideOrRemain_22 : decode bN_divideOrRemain 22 = .ok (.ireturn, 1) := by decide +kernel
theorem dN_divideOrRemain_23 : decode bN_divideOrRemain 23 = .ok (.aload_n 0, 1) := by decide +kernel
theorem dN_divideOrRemain_24 : decode bN_divideOrRemain 24 = .ok (.getfield 20, 3) := by decide +kernel
theorem dN_divideOrRemain_27 : decode bN_divideOrRemain 27 = .ok (.getfield 38, 3) := by decide +kernel
theorem dN_divideOrRemain_30 : decode bN_divideOrRemain 30 = .ok (.lconst 0, 1) := by decide +kernel
theorem dN_divideOrRemain_31 : decode bN_divideOrRemain 31 = .ok (.lcmp, 1) := by decide +kernel
theorem dN_divideOrRemain_32 : decode bN_divideOrRemain 32 = .ok (.ifCond .ne 5, 3) := by decide +kernel
theorem dN_divideOrRemain_35 : decode bN_divideOrRemain 35 = .ok (.iconst 1, 1) := by decide +kernel
theorem dN_divideOrRemain_36 : decode bN_divideOrRemain 36 = .ok (.ireturn, 1) := by decide +kernel
theorem dN_divideOrRemain_37 : decode bN_divideOrRemain 37 = .ok (.aload_n 0, 1) := by decide +kernel
theorem dN_divideOrRemain_38 : decode bN_divideOrRemain 38 = .ok (.getfield 16, 3) := by decide +kernel
theorem dN_divideOrRemain_41 : decode bN_divideOrRemain 41 = .ok (.iload_n 1, 1) := by decide +kernel
theorem dN_divideOrRemain_42 : decode bN_divideOrRemain 42 = .ok (.iconst 4, 1) := by decide +kernel
theorem dN_divideOrRemain_43 : decode bN_divideOrRemain 43 = .ok (.if_icmp .ne 23, 3) := by decide +kernel
theorem dN_divideOrRemain_46 : decode bN_divideOrRemain 46 = .ok (.aload_n 0, 1) := by decide +kernel
theorem dN_divideOrRemain_47 : decode bN_divideOrRemain 47 = .ok (.getfield 16, 3) := by decide +kernel
theorem dN_divideOrRemain_50 : decode bN_divideOrRemain 50 = .ok (.getfield 38, 3) := by decide +kernel
theorem dN_divideOrRemain_53 : decode bN_divideOrRemain 53 = .ok (.aload_n 0, 1) := by decide +kernel
theorem dN_divideOrRemain_54 : decode bN_divideOrRemain 54 = .ok (.getfield 20, 3) := by decide +kernel
theorem dN_divideOrRemain_57 : decode bN_divideOrRemain 57 = .ok (.getfield 38, 3) := by decide +kernel
theorem dN_divideOrRemain_60 : decode bN_divideOrRemain 60 = .ok (.invokestatic 117, 3) := by decide +kernel
theorem dN_divideOrRemain_63 : decode bN_divideOrRemain 63 = .ok (.goto 20, 3) := by decide +kernel
theorem dN_divideOrRemain_66 : decode bN_divideOrRemain 66 = .ok (.aload_n 0, 1) := by decide +kernel
theorem dN_divideOrRemain_67 : decode bN_divideOrRemain 67 = .ok (.getfield 16, 3) := by decide +kernel
theorem dN_divideOrRemain_70 : decode bN_divideOrRemain 70 = .ok (.getfield 38, 3) := by decide +kernel
theorem dN_divideOrRemain_73 : decode bN_divideOrRemain 73 = .ok (.aload_n 0, 1) := by decide +kernel
theorem dN_divideOrRemain_74 : decode bN_divideOrRemain 74 = .ok (.getfield 20, 3) := by decide +kernel
theorem dN_divideOrRemain_77 : decode bN_divideOrRemain 77 = .ok (.getfield 38, 3) := by decide +kernel
theorem dN_divideOrRemain_80 : decode bN_divideOrRemain 80 = .ok (.invokestatic 123, 3) := by decide +kernel
theorem dN_divideOrRemain_83 : decode bN_divideOrRemain 83 = .ok (.invokevirtual 30, 3) := by decide +kernel
theorem dN_divideOrRemain_86 : decode bN_divideOrRemain 86 = .ok (.iconst 0, 1) := by decide +kernel
theorem dN_divideOrRemain_87 : decode bN_divideOrRemain 87 = .ok (.ireturn, 1) := by decide +kernel
theorem dN_divideOrRemainReal_0 : decode bN_divideOrRemainReal 0 = .ok (.iload_n 1, 1) := by decide +kernel
theorem dN_divideOrRemainReal_1 : decode bN_divideOrRemainReal 1 = .ok (.iconst 5, 1) := by decide +kernel
theorem dN_divideOrRemainReal_2 : decode bN_divideOrRemainReal 2 = .ok (.if_icmp .ne 15, 3) := by decide +kernel
theorem dN_divideOrRemainReal_5 : decode bN_divideOrRemainReal 5 = .ok (.aload_n 0, 1) := by decide +kernel
theorem dN_divideOrRemainReal_6 : decode bN_divideOrRemainReal 6 = .ok (.getfield 16, 3) := by decide +kernel
theorem dN_divideOrRemainReal_9 : decode bN_divideOrRemainReal 9 = .ok (.aload_n 0, 1) := by decide +kernel
theorem dN_divideOrRemainReal_10 : decode bN_divideOrRemainReal 10 = .ok (.getfield 20, 3) := by decide +kernel
theorem dN_divideOrRemainReal_13 : decode bN_divideOrRemainReal 13 = .ok (.invokestatic 126, 3) := by decide +kernel
theorem dN_divideOrRemainReal_16 : decode bN_divideOrRemainReal 16 = .ok (.return_, 1) := by decide +kernel
theorem dN_divideOrRemainReal_17 : decode bN_divideOrRemainReal 17 = .ok (.aload_n 0, 1) := by decide +kernel
theorem dN_divideOrRemainReal_18 : decode bN_divideOrRemainReal 18 = .ok (.getfield 16, 3) := by decide +kernel
theorem dN_divideOrRemainReal_21 : decode bN_divideOrRemainReal 21 = .ok (.aload_n 0, 1) := by decide +kernel
theorem dN_divideOrRemainReal_22 : decode bN_divideOrRemainReal 22 = .ok (.getfield 20, 3) := by decide +kernel
theorem dN_divideOrRemainReal_25 : decode bN_divideOrRemainReal 25 = .ok (.invokestatic 129, 3) := by decide +kernel
theorem dN_divideOrRemainReal_28 : decode bN_divideOrRemainReal 28 = .ok (.iload_n 1, 1) := by decide +kernel
theorem dN_divideOrRemainReal_29 : decode bN_divideOrRemainReal 29 = .ok (.iconst 4, 1) := by decide +kernel
theorem dN_divideOrRemainReal_30 : decode bN_divideOrRemainReal 30 = .ok (.if_icmp .ne 10, 3) := by decide +kernel
theorem dN_divideOrRemainReal_33 : decode bN_divideOrRemainReal 33 = .ok (.aload_n 0, 1) := by decide +kernel
theorem dN_divideOrRemainReal_34 : decode bN_divideOrRemainReal 34 = .ok (.getfield 16, 3) := by decide +kernel
theorem dN_divideOrRemainReal_37 : decode bN_divideOrRemainReal 37 = .ok (.invokevirtual 132, 3) := by decide +kernel
theorem dN_divideOrRemainReal_40 : decode bN_divideOrRemainReal 40 = .ok (.return_, 1) := by decide +kernel
theorem dR_remainder_0 : decode bR_remainder 0 = .ok (.aload_n 0, 1) := by decide +kernel
theorem dR_remainder_1 : decode bR_remainder 1 = .ok (.aload_n 1, 1) := by decide +kernel
theorem dR_remainder_2 : decode bR_remainder 2 = .ok (.invokestatic 17, 3) := by decide +kernel
theorem dR_remainder_5 : decode bR_remainder 5 = .ok (.ifCond .ne 17, 3) := by decide +kernel
theorem dR_remainder_8 : decode bR_remainder 8 = .ok (.aload_n 0, 1) := by decide +kernel
theorem dR_remainder_9 : decode bR_remainder 9 = .ok (.invokevirtual 25, 3) := by decide +kernel
theorem dR_remainder_12 : decode bR_remainder 12 = .ok (.ifCond .ne 10, 3) := by decide +kernel
theorem dR_remainder_15 : decode bR_remainder 15 = .ok (.aload_n 1, 1) := by decide +kernel
theorem dR_remainder_16 : decode bR_remainder 16 = .ok (.invokevirtual 60, 3) := by decide +kernel
theorem dR_remainder_19 : decode bR_remainder 19 = .ok (.ifCond .ne 11, 3) := by decide +kernel
theorem dR_remainder_22 : decode bR_remainder 22 = .ok (.aload_n 0, 1) := by decide +kernel
theorem dR_remainder_23 : decode bR_remainder 23 = .ok (.iconst 5, 1) := by decide +kernel
theorem dR_remainder_24 : decode bR_remainder 24 = .ok (.invokevirtual 21, 3) := by decide +kernel
theorem dR_remainder_27 : decode bR_remainder 27 = .ok (.goto 61, 3) := by decide +kernel
theorem dR_remainder_30 : decode bR_remainder 30 = .ok (.aload_n 1, 1) := by decide +kernel
theorem dR_remainder_31 : decode bR_remainder 31 = .ok (.invokevirtual 25, 3) := by decide +kernel
theorem dR_remainder_34 : decode bR_remainder 34 = .ok (.ifCond .eq 23, 3) := by decide +kernel
theorem dR_remainder_37 : decode bR_remainder 37 = .ok (.aload_n 0, 1) := by decide +kernel
theorem dR_remainder_38 : decode bR_remainder 38 = .ok (.invokevirtual 60, 3) := by decide +kernel
theorem dR_remainder_41 : decode bR_remainder 41 = .ok (.aload_n 1, 1) := by decide +kernel
theorem dR_remainder_42 : decode bR_remainder 42 = .ok (.invokevirtual 60, 3) := by decide +kernel
theorem dR_remainder_45 : decode bR_remainder 45 = .ok (.ineg, 1) := by decide +kernel
theorem dR_remainder_46 : decode bR_remainder 46 = .ok (.if_icmp .ne 42, 3) := by decide +kernel
theorem dR_remainder_49 : decode bR_remainder 49 = .ok (.aload_n 0, 1) := by decide +kernel
theorem dR_remainder_50 : decode bR_remainder 50 = .ok (.aload_n 1, 1) := by decide +kernel
theorem dR_remainder_51 : decode bR_remainder 51 = .ok (.invokevirtual 33, 3) := by decide +kernel
theorem dR_remainder_54 : decode bR_remainder 54 = .ok (.goto 34, 3) := by decide +kernel
theorem dR_remainder_57 : decode bR_remainder 57 = .ok (.aload_n 0, 1) := by decide +kernel
theorem dR_remainder_58 : decode bR_remainder 58 = .ok (.aload_n 1, 1) := by decide +kernel
theorem dR_remainder_59 : decode bR_remainder 59 = .ok (.invokestatic 96, 3) := by decide +kernel
theorem dR_remainder_62 : decode bR_remainder 62 = .ok (.aload_n 0, 1) := by decide +kernel
theorem dR_remainder_63 : decode bR_remainder 63 = .ok (.getfield 29, 3) := by decide +kernel
theorem dR_remainder_66 : decode bR_remainder 66 = .ok (.lconst 0, 1) := by decide +kernel
theorem dR_remainder_67 : decode bR_remainder 67 = .ok (.lcmp, 1) := by decide +kernel
theorem dR_remainder_68 : decode bR_remainder 68 = .ok (.ifCond .eq 20, 3) := by decide +kernel
theorem dR_remainder_71 : decode bR_remainder 71 = .ok (.aload_n 0, 1) := by decide +kernel
theorem dR_remainder_72 : decode bR_remainder 72 = .ok (.invokevirtual 60, 3) := by decide +kernel
theorem dR_remainder_75 : decode bR_remainder 75 = .ok (.aload_n 1, 1) := by decide +kernel
theorem dR_remainder_76 : decode bR_remainder 76 = .ok (.invokevirtual 60, 3) := by decide +kernel
theorem dR_remainder_79 : decode bR_remainder 79 = .ok (.if_icmp .eq 9, 3) := by decide +kernel
theorem dR_remainder_82 : decode bR_remainder 82 = .ok (.aload_n 0, 1) := by decide +kernel
theorem dR_remainder_83 : decode bR_remainder 83 = .ok (.aload_n 1, 1) := by decide +kernel
theorem dR_remainder_84 : decode bR_remainder 84 = .ok (.aload_n 0, 1) := by decide +kernel
theorem dR_remainder_85 : decode bR_remainder 85 = .ok (.invokestatic 43, 3) := by decide +kernel
theorem dR_remainder_88 : decode bR_remainder 88 = .ok (.return_, 1) := by decide +kernel
theorem dR_remainderOfSizes_0 : decode bR_remainderOfSizes 0 = .ok (.aload_n 0, 1) := by decide +kernel
theorem dR_remainderOfSizes_1 : decode bR_remainderOfSizes 1 = .ok (.getfield 57, 3) := by decide +kernel
theorem dR_remainderOfSizes_4 : decode bR_remainderOfSizes 4 = .ok (.aload_n 1, 1) := by decide +kernel
theorem dR_remainderOfSizes_5 : decode bR_remainderOfSizes 5 = .ok (.getfield 57, 3) := by decide +kernel
theorem dR_remainderOfSizes_8 : decode bR_remainderOfSizes 8 = .ok (.isub, 1) := by decide +kernel
theorem dR_remainderOfSizes_9 : decode bR_remainderOfSizes 9 = .ok (.istore_n 2, 1) := by decide +kernel
theorem dR_remainderOfSizes_10 : decode bR_remainderOfSizes 10 = .ok (.iload_n 2, 1) := by decide +kernel
theorem dR_remainderOfSizes_11 : decode bR_remainderOfSizes 11 = .ok (.ifCond .lt 43, 3) := by decide +kernel
theorem dR_remainderOfSizes_14 : decode bR_remainderOfSizes 14 = .ok (.aload_n 0, 1) := by decide +kernel
theorem dR_remainderOfSizes_15 : decode bR_remainderOfSizes 15 = .ok (.invokevirtual 47, 3) := by decide +kernel
theorem dR_remainderOfSizes_18 : decode bR_remainderOfSizes 18 = .ok (.iload_n 2, 1) := by decide +kernel
theorem dR_remainderOfSizes_19 : decode bR_remainderOfSizes 19 = .ok (.aload_n 1, 1) := by decide +kernel
theorem dR_remainderOfSizes_20 : decode bR_remainderOfSizes 20 = .ok (.invokevirtual 47, 3) := by decide +kernel
theorem dR_remainderOfSizes_23 : decode bR_remainderOfSizes 23 = .ok (.invokestatic 99, 3) := by decide +kernel
theorem dR_remainderOfSizes_26 : decode bR_remainderOfSizes 26 = .ok (.lstore_n 3, 1) := by decide +kernel
theorem dR_remainderOfSizes_27 : decode bR_remainderOfSizes 27 = .ok (.aload_n 0, 1) := by decide +kernel
theorem dR_remainderOfSizes_28 : decode bR_remainderOfSizes 28 = .ok (.aload_n 0, 1) := by decide +kernel
theorem dR_remainderOfSizes_29 : decode bR_remainderOfSizes 29 = .ok (.getfield 29, 3) := by decide +kernel
theorem dR_remainderOfSizes_32 : decode bR_remainderOfSizes 32 = .ok (.lconst 0, 1) := by decide +kernel
theorem dR_remainderOfSizes_33 : decode bR_remainderOfSizes 33 = .ok (.lcmp, 1) := by decide +kernel
theorem dR_remainderOfSizes_34 : decode bR_remainderOfSizes 34 = .ok (.ifCond .ge 7, 3) := by decide +kernel
theorem dR_remainderOfSizes_37 : decode bR_remainderOfSizes 37 = .ok (.iconst 1, 1) := by decide +kernel
theorem dR_remainderOfSizes_38 : decode bR_remainderOfSizes 38 = .ok (.goto 4, 3) := by decide +kernel
theorem dR_remainderOfSizes_41 : decode bR_remainderOfSizes 41 = .ok (.iconst 0, 1) := by decide +kernel
theorem dR_remainderOfSizes_42 : decode bR_remainderOfSizes 42 = .ok (.lload_n 3, 1) := by decide +kernel
theorem dR_remainderOfSizes_43 : decode bR_remainderOfSizes 43 = .ok (.iconst 0, 1) := by decide +kernel
theorem dR_remainderOfSizes_44 : decode bR_remainderOfSizes 44 = .ok (.aload_n 1, 1) := by decide +kernel
theorem dR_remainderOfSizes_45 : decode bR_remainderOfSizes 45 = .ok (.getfield 57, 3) := by decide +kernel
theorem dR_remainderOfSizes_48 : decode bR_remainderOfSizes 48 = .ok (.invokevirtual 64, 3) := by decide +kernel
theorem dR_remainderOfSizes_51 : decode bR_remainderOfSizes 51 = .ok (.goto 58, 3) := by decide +kernel
theorem dR_remainderOfSizes_54 : decode bR_remainderOfSizes 54 = .ok (.iload_n 2, 1) := by decide +kernel
theorem dR_remainderOfSizes_55 : decode bR_remainderOfSizes 55 = .ok (.ineg, 1) := by decide +kernel
theorem dR_remainderOfSizes_56 : decode bR_remainderOfSizes 56 = .ok (.aload_n 1, 1) := by decide +kernel
theorem dR_remainderOfSizes_57 : decode bR_remainderOfSizes 57 = .ok (.invokevirtual 47, 3) := by decide +kernel
theorem dR_remainderOfSizes_60 : decode bR_remainderOfSizes 60 = .ok (.invokestatic 51, 3) := by decide +kernel
theorem dR_remainderOfSizes_63 : decode bR_remainderOfSizes 63 = .ok (.if_icmp .ge 46, 3) := by decide +kernel
theorem dR_remainderOfSizes_66 : decode bR_remainderOfSizes 66 = .ok (.aload_n 1, 1) := by decide +kernel
theorem dR_remainderOfSizes_67 : decode bR_remainderOfSizes 67 = .ok (.invokevirtual 47, 3) := by decide +kernel
theorem dR_remainderOfSizes_70 : decode bR_remainderOfSizes 70 = .ok (.iload_n 2, 1) := by decide +kernel
theorem dR_remainderOfSizes_71 : decode bR_remainderOfSizes 71 = .ok (.ineg, 1) := by decide +kernel
theorem dR_remainderOfSizes_72 : decode bR_remainderOfSizes 72 = .ok (.lshl, 1) := by decide +kernel
theorem dR_remainderOfSizes_73 : decode bR_remainderOfSizes 73 = .ok (.lstore_n 3, 1) := by decide +kernel
theorem dR_remainderOfSizes_74 : decode bR_remainderOfSizes 74 = .ok (.lload_n 3, 1) := by decide +kernel
theorem dR_remainderOfSizes_75 : decode bR_remainderOfSizes 75 = .ok (.lconst 0, 1) := by decide +kernel
theorem dR_remainderOfSizes_76 : decode bR_remainderOfSizes 76 = .ok (.lcmp, 1) := by decide +kernel
theorem dR_remainderOfSizes_77 : decode bR_remainderOfSizes 77 = .ok (.ifCond .eq 32, 3) := by decide +kernel
theorem dR_remainderOfSizes_80 : decode bR_remainderOfSizes 80 = .ok (.aload_n 0, 1) := by decide +kernel
theorem dR_remainderOfSizes_81 : decode bR_remainderOfSizes 81 = .ok (.aload_n 0, 1) := by decide +kernel
theorem dR_remainderOfSizes_82 : decode bR_remainderOfSizes 82 = .ok (.getfield 29, 3) := by decide +kernel
theorem dR_remainderOfSizes_85 : decode bR_remainderOfSizes 85 = .ok (.lconst 0, 1) := by decide +kernel
theorem dR_remainderOfSizes_86 : decode bR_remainderOfSizes 86 = .ok (.lcmp, 1) := by decide +kernel
theorem dR_remainderOfSizes_87 : decode bR_remainderOfSizes 87 = .ok (.ifCond .ge 7, 3) := by decide +kernel
theorem dR_remainderOfSizes_90 : decode bR_remainderOfSizes 90 = .ok (.iconst 1, 1) := by decide +kernel
theorem dR_remainderOfSizes_91 : decode bR_remainderOfSizes 91 = .ok (.goto 4, 3) := by decide +kernel
theorem dR_remainderOfSizes_94 : decode bR_remainderOfSizes 94 = .ok (.iconst 0, 1) := by decide +kernel
theorem dR_remainderOfSizes_95 : decode bR_remainderOfSizes 95 = .ok (.aload_n 0, 1) := by decide +kernel
theorem dR_remainderOfSizes_96 : decode bR_remainderOfSizes 96 = .ok (.invokevirtual 47, 3) := by decide +kernel
theorem dR_remainderOfSizes_99 : decode bR_remainderOfSizes 99 = .ok (.lload_n 3, 1) := by decide +kernel
theorem dR_remainderOfSizes_100 : decode bR_remainderOfSizes 100 = .ok (.lrem, 1) := by decide +kernel
theorem dR_remainderOfSizes_101 : decode bR_remainderOfSizes 101 = .ok (.iconst 0, 1) := by decide +kernel
theorem dR_remainderOfSizes_102 : decode bR_remainderOfSizes 102 = .ok (.aload_n 0, 1) := by decide +kernel
theorem dR_remainderOfSizes_103 : decode bR_remainderOfSizes 103 = .ok (.getfield 57, 3) := by decide +kernel
theorem dR_remainderOfSizes_106 : decode bR_remainderOfSizes 106 = .ok (.invokevirtual 64, 3) := by decide +kernel
theorem dR_remainderOfSizes_109 : decode bR_remainderOfSizes 109 = .ok (.return_, 1) := by decide +kernel
theorem dR_remainderAbove_0 : decode bR_remainderAbove 0 = .ok (.lload_n 3, 1) := by decide +kernel
theorem dR_remainderAbove_1 : decode bR_remainderAbove 1 = .ok (.lconst 0, 1) := by decide +kernel
theorem dR_remainderAbove_2 : decode bR_remainderAbove 2 = .ok (.lcmp, 1) := by decide +kernel
theorem dR_remainderAbove_3 : decode bR_remainderAbove 3 = .ok (.ifCond .ne 5, 3) := by decide +kernel
theorem dR_remainderAbove_6 : decode bR_remainderAbove 6 = .ok (.lconst 0, 1) := by decide +kernel
theorem dR_remainderAbove_7 : decode bR_remainderAbove 7 = .ok (.lreturn, 1) := by decide +kernel
theorem dR_remainderAbove_8 : decode bR_remainderAbove 8 = .ok (.lload_n 0, 1) := by decide +kernel
theorem dR_remainderAbove_9 : decode bR_remainderAbove 9 = .ok (.lload_n 3, 1) := by decide +kernel
theorem dR_remainderAbove_10 : decode bR_remainderAbove 10 = .ok (.lrem, 1) := by decide +kernel
theorem dR_remainderAbove_11 : decode bR_remainderAbove 11 = .ok (.lstore 5, 2) := by decide +kernel
theorem dR_remainderAbove_13 : decode bR_remainderAbove 13 = .ok (.iload_n 2, 1) := by decide +kernel
theorem dR_remainderAbove_14 : decode bR_remainderAbove 14 = .ok (.istore 7, 2) := by decide +kernel
theorem dR_remainderAbove_16 : decode bR_remainderAbove 16 = .ok (.iload 7, 2) := by decide +kernel
theorem dR_remainderAbove_18 : decode bR_remainderAbove 18 = .ok (.ifCond .le 23, 3) := by decide +kernel
theorem dR_remainderAbove_21 : decode bR_remainderAbove 21 = .ok (.lload 5, 2) := by decide +kernel
theorem dR_remainderAbove_23 : decode bR_remainderAbove 23 = .ok (.iload 7, 2) := by decide +kernel
theorem dR_remainderAbove_25 : decode bR_remainderAbove 25 = .ok (.bipush 10, 2) := by decide +kernel
theorem dR_remainderAbove_27 : decode bR_remainderAbove 27 = .ok (.invokestatic 80, 3) := by decide +kernel
theorem dR_remainderAbove_30 : decode bR_remainderAbove 30 = .ok (.lshl, 1) := by decide +kernel
theorem dR_remainderAbove_31 : decode bR_remainderAbove 31 = .ok (.lload_n 3, 1) := by decide +kernel
theorem dR_remainderAbove_32 : decode bR_remainderAbove 32 = .ok (.lrem, 1) := by decide +kernel
theorem dR_remainderAbove_33 : decode bR_remainderAbove 33 = .ok (.lstore 5, 2) := by decide +kernel
theorem dR_remainderAbove_35 : decode bR_remainderAbove 35 = .ok (.iinc 7 (-10), 3) := by decide +kernel
theorem dR_remainderAbove_38 : decode bR_remainderAbove 38 = .ok (.goto (-22), 3) := by decide +kernel
theorem dR_remainderAbove_41 : decode bR_remainderAbove 41 = .ok (.lload 5, 2) := by decide +kernel
theorem dR_remainderAbove_43 : decode bR_remainderAbove 43 = .ok (.lreturn, 1) := by decide +kernel
theorem dR_divide_0 : decode bR_divide 0 = .ok (.aload_n 0, 1) := by decide +kernel
theorem dR_divide_1 : decode bR_divide 1 = .ok (.aload_n 1, 1) := by decide +kernel
theorem dR_divide_2 : decode bR_divide 2 = .ok (.invokestatic 17, 3) := by decide +kernel
theorem dR_divide_5 : decode bR_divide 5 = .ok (.ifCond .ne 17, 3) := by decide +kernel
theorem dR_divide_8 : decode bR_divide 8 = .ok (.aload_n 0, 1) := by decide +kernel
theorem dR_divide_9 : decode bR_divide 9 = .ok (.invokevirtual 25, 3) := by decide +kernel
theorem dR_divide_12 : decode bR_divide 12 = .ok (.ifCond .eq 18, 3) := by decide +kernel
theorem dR_divide_15 : decode bR_divide 15 = .ok (.aload_n 1, 1) := by decide +kernel
theorem dR_divide_16 : decode bR_divide 16 = .ok (.invokevirtual 25, 3) := by decide +kernel
theorem dR_divide_19 : decode bR_divide 19 = .ok (.ifCond .eq 11, 3) := by decide +kernel
theorem dR_divide_22 : decode bR_divide 22 = .ok (.aload_n 0, 1) := by decide +kernel
theorem dR_divide_23 : decode bR_divide 23 = .ok (.iconst 5, 1) := by decide +kernel
theorem dR_divide_24 : decode bR_divide 24 = .ok (.invokevirtual 21, 3) := by decide +kernel
theorem dR_divide_27 : decode bR_divide 27 = .ok (.goto 77, 3) := by decide +kernel
theorem dR_divide_30 : decode bR_divide 30 = .ok (.aload_n 1, 1) := by decide +kernel
theorem dR_divide_31 : decode bR_divide 31 = .ok (.invokevirtual 25, 3) := by decide +kernel
theorem dR_divide_34 : decode bR_divide 34 = .ok (.ifCond .eq 10, 3) := by decide +kernel
theorem dR_divide_37 : decode bR_divide 37 = .ok (.aload_n 0, 1) := by decide +kernel
theorem dR_divide_38 : decode bR_divide 38 = .ok (.invokevirtual 86, 3) := by decide +kernel
theorem dR_divide_41 : decode bR_divide 41 = .ok (.goto 63, 3) := by decide +kernel
theorem dR_divide_44 : decode bR_divide 44 = .ok (.aload_n 1, 1) := by decide +kernel
theorem dR_divide_45 : decode bR_divide 45 = .ok (.getfield 29, 3) := by decide +kernel
theorem dR_divide_48 : decode bR_divide 48 = .ok (.lconst 0, 1) := by decide +kernel
theorem dR_divide_49 : decode bR_divide 49 = .ok (.lcmp, 1) := by decide +kernel
theorem dR_divide_50 : decode bR_divide 50 = .ok (.ifCond .ne 10, 3) := by decide +kernel
theorem dR_divide_53 : decode bR_divide 53 = .ok (.aload_n 0, 1) := by decide +kernel
theorem dR_divide_54 : decode bR_divide 54 = .ok (.invokestatic 89, 3) := by decide +kernel
theorem dR_divide_57 : decode bR_divide 57 = .ok (.goto 47, 3) := by decide +kernel
theorem dR_divide_60 : decode bR_divide 60 = .ok (.aload_n 0, 1) := by decide +kernel
theorem dR_divide_61 : decode bR_divide 61 = .ok (.invokevirtual 25, 3) := by decide +kernel
theorem dR_divide_64 : decode bR_divide 64 = .ok (.ifCond .eq 26, 3) := by decide +kernel
theorem dR_divide_67 : decode bR_divide 67 = .ok (.aload_n 0, 1) := by decide +kernel
theorem dR_divide_68 : decode bR_divide 68 = .ok (.aload_n 0, 1) := by decide +kernel
theorem dR_divide_69 : decode bR_divide 69 = .ok (.invokevirtual 60, 3) := by decide +kernel
theorem dR_divide_72 : decode bR_divide 72 = .ok (.aload_n 1, 1) := by decide +kernel
theorem dR_divide_73 : decode bR_divide 73 = .ok (.invokevirtual 60, 3) := by decide +kernel
theorem dR_divide_76 : decode bR_divide 76 = .ok (.if_icmp .eq 7, 3) := by decide +kernel
theorem dR_divide_79 : decode bR_divide 79 = .ok (.iconst 1, 1) := by decide +kernel
theorem dR_divide_80 : decode bR_divide 80 = .ok (.goto 4, 3) := by decide +kernel
theorem dR_divide_83 : decode bR_divide 83 = .ok (.iconst 0, 1) := by decide +kernel
theorem dR_divide_84 : decode bR_divide 84 = .ok (.invokevirtual 72, 3) := by decide +kernel
theorem dR_divide_87 : decode bR_divide 87 = .ok (.goto 17, 3) := by decide +kernel
theorem dR_divide_90 : decode bR_divide 90 = .ok (.aload_n 0, 1) := by decide +kernel
theorem dR_divide_91 : decode bR_divide 91 = .ok (.getfield 29, 3) := by decide +kernel
theorem dR_divide_94 : decode bR_divide 94 = .ok (.lconst 0, 1) := by decide +kernel
theorem dR_divide_95 : decode bR_divide 95 = .ok (.lcmp, 1) := by decide +kernel
theorem dR_divide_96 : decode bR_divide 96 = .ok (.ifCond .eq 8, 3) := by decide +kernel
theorem dR_divide_99 : decode bR_divide 99 = .ok (.aload_n 0, 1) := by decide +kernel
theorem dR_divide_100 : decode bR_divide 100 = .ok (.aload_n 1, 1) := by decide +kernel
theorem dR_divide_101 : decode bR_divide 101 = .ok (.invokestatic 92, 3) := by decide +kernel
theorem dR_divide_104 : decode bR_divide 104 = .ok (.return_, 1) := by decide +kernel
theorem dR_divideByZero_0 : decode bR_divideByZero 0 = .ok (.aload_n 0, 1) := by decide +kernel
theorem dR_divideByZero_1 : decode bR_divideByZero 1 = .ok (.invokevirtual 60, 3) := by decide +kernel
theorem dR_divideByZero_4 : decode bR_divideByZero 4 = .ok (.ifCond .ne 11, 3) := by decide +kernel
theorem dR_divideByZero_7 : decode bR_divideByZero 7 = .ok (.aload_n 0, 1) := by decide +kernel
theorem dR_divideByZero_8 : decode bR_divideByZero 8 = .ok (.iconst 5, 1) := by decide +kernel
theorem dR_divideByZero_9 : decode bR_divideByZero 9 = .ok (.invokevirtual 21, 3) := by decide +kernel
theorem dR_divideByZero_12 : decode bR_divideByZero 12 = .ok (.goto 19, 3) := by decide +kernel
theorem dR_divideByZero_15 : decode bR_divideByZero 15 = .ok (.aload_n 0, 1) := by decide +kernel
theorem dR_divideByZero_16 : decode bR_divideByZero 16 = .ok (.aload_n 0, 1) := by decide +kernel
theorem dR_divideByZero_17 : decode bR_divideByZero 17 = .ok (.invokevirtual 60, 3) := by decide +kernel
theorem dR_divideByZero_20 : decode bR_divideByZero 20 = .ok (.ifCond .ge 7, 3) := by decide +kernel
theorem dR_divideByZero_23 : decode bR_divideByZero 23 = .ok (.iconst 1, 1) := by decide +kernel
theorem dR_divideByZero_24 : decode bR_divideByZero 24 = .ok (.goto 4, 3) := by decide +kernel
theorem dR_divideByZero_27 : decode bR_divideByZero 27 = .ok (.iconst 0, 1) := by decide +kernel
theorem dR_divideByZero_28 : decode bR_divideByZero 28 = .ok (.invokevirtual 72, 3) := by decide +kernel
theorem dR_divideByZero_31 : decode bR_divideByZero 31 = .ok (.return_, 1) := by decide +kernel
theorem dR_divideFinite_0 : decode bR_divideFinite 0 = .ok (.aload_n 0, 1) := by decide +kernel
theorem dR_divideFinite_1 : decode bR_divideFinite 1 = .ok (.invokevirtual 47, 3) := by decide +kernel
theorem dR_divideFinite_4 : decode bR_divideFinite 4 = .ok (.invokestatic 51, 3) := by decide +kernel
theorem dR_divideFinite_7 : decode bR_divideFinite 7 = .ok (.bipush 11, 2) := by decide +kernel
theorem dR_divideFinite_9 : decode bR_divideFinite 9 = .ok (.isub, 1) := by decide +kernel
theorem dR_divideFinite_10 : decode bR_divideFinite 10 = .ok (.istore_n 2, 1) := by decide +kernel
theorem dR_divideFinite_11 : decode bR_divideFinite 11 = .ok (.aload_n 1, 1) := by decide +kernel
theorem dR_divideFinite_12 : decode bR_divideFinite 12 = .ok (.invokevirtual 47, 3) := by decide +kernel
theorem dR_divideFinite_15 : decode bR_divideFinite 15 = .ok (.invokestatic 51, 3) := by decide +kernel
theorem dR_divideFinite_18 : decode bR_divideFinite 18 = .ok (.bipush 11, 2) := by decide +kernel
theorem dR_divideFinite_20 : decode bR_divideFinite 20 = .ok (.isub, 1) := by decide +kernel
theorem dR_divideFinite_21 : decode bR_divideFinite 21 = .ok (.istore_n 3, 1) := by decide +kernel
theorem dR_divideFinite_22 : decode bR_divideFinite 22 = .ok (.aload_n 1, 1) := by decide +kernel
theorem dR_divideFinite_23 : decode bR_divideFinite 23 = .ok (.invokevirtual 47, 3) := by decide +kernel
theorem dR_divideFinite_26 : decode bR_divideFinite 26 = .ok (.iload_n 3, 1) := by decide +kernel
theorem dR_divideFinite_27 : decode bR_divideFinite 27 = .ok (.lshl, 1) := by decide +kernel
theorem dR_divideFinite_28 : decode bR_divideFinite 28 = .ok (.lstore 4, 2) := by decide +kernel
theorem dR_divideFinite_30 : decode bR_divideFinite 30 = .ok (.lload 4, 2) := by decide +kernel
theorem dR_divideFinite_32 : decode bR_divideFinite 32 = .ok (.lconst 0, 1) := by decide +kernel
theorem dR_divideFinite_33 : decode bR_divideFinite 33 = .ok (.lcmp, 1) := by decide +kernel
theorem dR_divideFinite_34 : decode bR_divideFinite 34 = .ok (.ifCond .ne 4, 3) := by decide +kernel
theorem dR_divideFinite_37 : decode bR_divideFinite 37 = .ok (.return_, 1) := by decide +kernel
theorem dR_divideFinite_38 : decode bR_divideFinite 38 = .ok (.aload_n 0, 1) := by decide +kernel
theorem dR_divideFinite_39 : decode bR_divideFinite 39 = .ok (.invokevirtual 60, 3) := by decide +kernel
theorem dR_divideFinite_42 : decode bR_divideFinite 42 = .ok (.aload_n 1, 1) := by decide +kernel
theorem dR_divideFinite_43 : decode bR_divideFinite 43 = .ok (.invokevirtual 60, 3) := by decide +kernel
theorem dR_divideFinite_46 : decode bR_divideFinite 46 = .ok (.if_icmp .eq 7, 3) := by decide +kernel
theorem dR_divideFinite_49 : decode bR_divideFinite 49 = .ok (.iconst 1, 1) := by decide +kernel
theorem dR_divideFinite_50 : decode bR_divideFinite 50 = .ok (.goto 4, 3) := by decide +kernel
theorem dR_divideFinite_53 : decode bR_divideFinite 53 = .ok (.iconst 0, 1) := by decide +kernel
theorem dR_divideFinite_54 : decode bR_divideFinite 54 = .ok (.istore 6, 2) := by decide +kernel
theorem dR_divideFinite_56 : decode bR_divideFinite 56 = .ok (.aload_n 0, 1) := by decide +kernel
theorem dR_divideFinite_57 : decode bR_divideFinite 57 = .ok (.getfield 57, 3) := by decide +kernel
theorem dR_divideFinite_60 : decode bR_divideFinite 60 = .ok (.iload_n 2, 1) := by decide +kernel
theorem dR_divideFinite_61 : decode bR_divideFinite 61 = .ok (.isub, 1) := by decide +kernel
theorem dR_divideFinite_62 : decode bR_divideFinite 62 = .ok (.aload_n 1, 1) := by decide +kernel
theorem dR_divideFinite_63 : decode bR_divideFinite 63 = .ok (.getfield 57, 3) := by decide +kernel
theorem dR_divideFinite_66 : decode bR_divideFinite 66 = .ok (.iload_n 3, 1) := by decide +kernel
theorem dR_divideFinite_67 : decode bR_divideFinite 67 = .ok (.isub, 1) := by decide +kernel
theorem dR_divideFinite_68 : decode bR_divideFinite 68 = .ok (.isub, 1) := by decide +kernel
theorem dR_divideFinite_69 : decode bR_divideFinite 69 = .ok (.bipush 60, 2) := by decide +kernel
theorem dR_divideFinite_71 : decode bR_divideFinite 71 = .ok (.isub, 1) := by decide +kernel
theorem dR_divideFinite_72 : decode bR_divideFinite 72 = .ok (.istore 7, 2) := by decide +kernel
theorem dR_divideFinite_74 : decode bR_divideFinite 74 = .ok (.aload_n 0, 1) := by decide +kernel
theorem dR_divideFinite_75 : decode bR_divideFinite 75 = .ok (.invokevirtual 47, 3) := by decide +kernel
theorem dR_divideFinite_78 : decode bR_divideFinite 78 = .ok (.iload_n 2, 1) := by decide +kernel
theorem dR_divideFinite_79 : decode bR_divideFinite 79 = .ok (.lshl, 1) := by decide +kernel
theorem dR_divideFinite_80 : decode bR_divideFinite 80 = .ok (.lstore 8, 2) := by decide +kernel
theorem dR_divideFinite_82 : decode bR_divideFinite 82 = .ok (.lload 8, 2) := by decide +kernel
theorem dR_divideFinite_84 : decode bR_divideFinite 84 = .ok (.lload 4, 2) := by decide +kernel
theorem dR_divideFinite_86 : decode bR_divideFinite 86 = .ok (.ldiv, 1) := by decide +kernel
theorem dR_divideFinite_87 : decode bR_divideFinite 87 = .ok (.lstore 10, 2) := by decide +kernel
theorem dR_divideFinite_89 : decode bR_divideFinite 89 = .ok (.lload 8, 2) := by decide +kernel
theorem dR_divideFinite_91 : decode bR_divideFinite 91 = .ok (.lload 4, 2) := by decide +kernel
theorem dR_divideFinite_93 : decode bR_divideFinite 93 = .ok (.lrem, 1) := by decide +kernel
theorem dR_divideFinite_94 : decode bR_divideFinite 94 = .ok (.lstore 8, 2) := by decide +kernel
theorem dR_divideFinite_96 : decode bR_divideFinite 96 = .ok (.iconst 0, 1) := by decide +kernel
theorem dR_divideFinite_97 : decode bR_divideFinite 97 = .ok (.istore 12, 2) := by decide +kernel
theorem dR_divideFinite_99 : decode bR_divideFinite 99 = .ok (.iload 12, 2) := by decide +kernel
theorem dR_divideFinite_101 : decode bR_divideFinite 101 = .ok (.bipush 6, 2) := by decide +kernel
theorem dR_divideFinite_103 : decode bR_divideFinite 103 = .ok (.if_icmp .ge 36, 3) := by decide +kernel
theorem dR_divideFinite_106 : decode bR_divideFinite 106 = .ok (.lload 8, 2) := by decide +kernel
theorem dR_divideFinite_108 : decode bR_divideFinite 108 = .ok (.bipush 10, 2) := by decide +kernel
theorem dR_divideFinite_110 : decode bR_divideFinite 110 = .ok (.lshl, 1) := by decide +kernel
theorem dR_divideFinite_111 : decode bR_divideFinite 111 = .ok (.lstore 8, 2) := by decide +kernel
theorem dR_divideFinite_113 : decode bR_divideFinite 113 = .ok (.lload 10, 2) := by decide +kernel
theorem dR_divideFinite_115 : decode bR_divideFinite 115 = .ok (.bipush 10, 2) := by decide +kernel
theorem dR_divideFinite_117 : decode bR_divideFinite 117 = .ok (.lshl, 1) := by decide +kernel
theorem dR_divideFinite_118 : decode bR_divideFinite 118 = .ok (.lload 8, 2) := by decide +kernel
theorem dR_divideFinite_120 : decode bR_divideFinite 120 = .ok (.lload 4, 2) := by decide +kernel
theorem dR_divideFinite_122 : decode bR_divideFinite 122 = .ok (.ldiv, 1) := by decide +kernel
theorem dR_divideFinite_123 : decode bR_divideFinite 123 = .ok (.ladd, 1) := by decide +kernel
theorem dR_divideFinite_124 : decode bR_divideFinite 124 = .ok (.lstore 10, 2) := by decide +kernel
theorem dR_divideFinite_126 : decode bR_divideFinite 126 = .ok (.lload 8, 2) := by decide +kernel
theorem dR_divideFinite_128 : decode bR_divideFinite 128 = .ok (.lload 4, 2) := by decide +kernel
theorem dR_divideFinite_130 : decode bR_divideFinite 130 = .ok (.lrem, 1) := by decide +kernel
theorem dR_divideFinite_131 : decode bR_divideFinite 131 = .ok (.lstore 8, 2) := by decide +kernel
theorem dR_divideFinite_133 : decode bR_divideFinite 133 = .ok (.iinc 12 1, 3) := by decide +kernel
theorem dR_divideFinite_136 : decode bR_divideFinite 136 = .ok (.goto (-37), 3) := by decide +kernel
theorem dR_divideFinite_139 : decode bR_divideFinite 139 = .ok (.aload_n 0, 1) := by decide +kernel
theorem dR_divideFinite_140 : decode bR_divideFinite 140 = .ok (.iload 6, 2) := by decide +kernel
theorem dR_divideFinite_142 : decode bR_divideFinite 142 = .ok (.lload 10, 2) := by decide +kernel
theorem dR_divideFinite_144 : decode bR_divideFinite 144 = .ok (.lload 8, 2) := by decide +kernel
theorem dR_divideFinite_146 : decode bR_divideFinite 146 = .ok (.lconst 0, 1) := by decide +kernel
theorem dR_divideFinite_147 : decode bR_divideFinite 147 = .ok (.lcmp, 1) := by decide +kernel
theorem dR_divideFinite_148 : decode bR_divideFinite 148 = .ok (.ifCond .eq 7, 3) := by decide +kernel
theorem dR_divideFinite_151 : decode bR_divideFinite 151 = .ok (.iconst 1, 1) := by decide +kernel
theorem dR_divideFinite_152 : decode bR_divideFinite 152 = .ok (.goto 4, 3) := by decide +kernel
theorem dR_divideFinite_155 : decode bR_divideFinite 155 = .ok (.iconst 0, 1) := by decide +kernel
theorem dR_divideFinite_156 : decode bR_divideFinite 156 = .ok (.iload 7, 2) := by decide +kernel
theorem dR_divideFinite_158 : decode bR_divideFinite 158 = .ok (.invokevirtual 64, 3) := by decide +kernel
theorem dR_divideFinite_161 : decode bR_divideFinite 161 = .ok (.return_, 1) := by decide +kernel
theorem dV_roundDown_0 : decode bV_roundDown 0 = .ok (.aload_n 0, 1) := by decide +kernel
theorem dV_roundDown_1 : decode bV_roundDown 1 = .ok (.getfield 9, 3) := by decide +kernel
theorem dV_roundDown_4 : decode bV_roundDown 4 = .ok (.iconst 2, 1) := by decide +kernel
theorem dV_roundDown_5 : decode bV_roundDown 5 = .ok (.if_icmp .ne 19, 3) := by decide +kernel
theorem dV_roundDown_8 : decode bV_roundDown 8 = .ok (.aload_n 0, 1) := by decide +kernel
theorem dV_roundDown_9 : decode bV_roundDown 9 = .ok (.getfield 19, 3) := by decide +kernel
theorem dV_roundDown_12 : decode bV_roundDown 12 = .ok (.ifCond .ge 12, 3) := by decide +kernel
theorem dV_roundDown_15 : decode bV_roundDown 15 = .ok (.aload_n 0, 1) := by decide +kernel
theorem dV_roundDown_16 : decode bV_roundDown 16 = .ok (.aload_n 0, 1) := by decide +kernel
theorem dV_roundDown_17 : decode bV_roundDown 17 = .ok (.invokevirtual 67, 3) := by decide +kernel
theorem dV_roundDown_20 : decode bV_roundDown 20 = .ok (.iconst 0, 1) := by decide +kernel
theorem dV_roundDown_21 : decode bV_roundDown 21 = .ok (.invokevirtual 70, 3) := by decide +kernel
theorem dV_roundDown_24 : decode bV_roundDown 24 = .ok (.return_, 1) := by decide +kernel
theorem dV_floor_0 : decode bV_floor 0 = .ok (.aload_n 0, 1) := by decide +kernel
theorem dV_floor_1 : decode bV_floor 1 = .ok (.getfield 19, 3) := by decide +kernel
theorem dV_floor_4 : decode bV_floor 4 = .ok (.ifCond .ge 21, 3) := by decide +kernel
theorem dV_floor_7 : decode bV_floor 7 = .ok (.aload_n 0, 1) := by decide +kernel
theorem dV_floor_8 : decode bV_floor 8 = .ok (.getfield 15, 3) := by decide +kernel
theorem dV_floor_11 : decode bV_floor 11 = .ok (.aload_n 0, 1) := by decide +kernel
theorem dV_floor_12 : decode bV_floor 12 = .ok (.getfield 19, 3) := by decide +kernel
theorem dV_floor_15 : decode bV_floor 15 = .ok (.ineg, 1) := by decide +kernel
theorem dV_floor_16 : decode bV_floor 16 = .ok (.bipush 63, 2) := by decide +kernel
theorem dV_floor_18 : decode bV_floor 18 = .ok (.invokestatic 56, 3) := by decide +kernel
theorem dV_floor_21 : decode bV_floor 21 = .ok (.lshr, 1) := by decide +kernel
theorem dV_floor_22 : decode bV_floor 22 = .ok (.goto 12, 3) := by decide +kernel
theorem dV_floor_25 : decode bV_floor 25 = .ok (.aload_n 0, 1) := by decide +kernel
theorem dV_floor_26 : decode bV_floor 26 = .ok (.getfield 15, 3) := by decide +kernel
theorem dV_floor_29 : decode bV_floor 29 = .ok (.aload_n 0, 1) := by decide +kernel
theorem dV_floor_30 : decode bV_floor 30 = .ok (.getfield 19, 3) := by decide +kernel
theorem dV_floor_33 : decode bV_floor 33 = .ok (.lshl, 1) := by decide +kernel
theorem dV_floor_34 : decode bV_floor 34 = .ok (.lreturn, 1) := by decide +kernel
theorem dJM_floorDiv_0 : decode bJM_floorDiv 0 = .ok (.lload_n 0, 1) := by decide +kernel
theorem dJM_floorDiv_1 : decode bJM_floorDiv 1 = .ok (.lload_n 2, 1) := by decide +kernel
theorem dJM_floorDiv_2 : decode bJM_floorDiv 2 = .ok (.ldiv, 1) := by decide +kernel
theorem dJM_floorDiv_3 : decode bJM_floorDiv 3 = .ok (.lstore 4, 2) := by decide +kernel
theorem dJM_floorDiv_5 : decode bJM_floorDiv 5 = .ok (.lload_n 0, 1) := by decide +kernel
theorem dJM_floorDiv_6 : decode bJM_floorDiv 6 = .ok (.lload_n 2, 1) := by decide +kernel
theorem dJM_floorDiv_7 : decode bJM_floorDiv 7 = .ok (.lxor, 1) := by decide +kernel
theorem dJM_floorDiv_8 : decode bJM_floorDiv 8 = .ok (.lconst 0, 1) := by decide +kernel
theorem dJM_floorDiv_9 : decode bJM_floorDiv 9 = .ok (.lcmp, 1) := by decide +kernel
theorem dJM_floorDiv_10 : decode bJM_floorDiv 10 = .ok (.ifCond .ge 17, 3) := by decide +kernel
theorem dJM_floorDiv_13 : decode bJM_floorDiv 13 = .ok (.lload 4, 2) := by decide +kernel
theorem dJM_floorDiv_15 : decode bJM_floorDiv 15 = .ok (.lload_n 2, 1) := by decide +kernel
theorem dJM_floorDiv_16 : decode bJM_floorDiv 16 = .ok (.lmul, 1) := by decide +kernel
theorem dJM_floorDiv_17 : decode bJM_floorDiv 17 = .ok (.lload_n 0, 1) := by decide +kernel
theorem dJM_floorDiv_18 : decode bJM_floorDiv 18 = .ok (.lcmp, 1) := by decide +kernel
theorem dJM_floorDiv_19 : decode bJM_floorDiv 19 = .ok (.ifCond .eq 8, 3) := by decide +kernel
theorem dJM_floorDiv_22 : decode bJM_floorDiv 22 = .ok (.lload 4, 2) := by decide +kernel
theorem dJM_floorDiv_24 : decode bJM_floorDiv 24 = .ok (.lconst 1, 1) := by decide +kernel
theorem dJM_floorDiv_25 : decode bJM_floorDiv 25 = .ok (.lsub, 1) := by decide +kernel
theorem dJM_floorDiv_26 : decode bJM_floorDiv 26 = .ok (.lreturn, 1) := by decide +kernel
theorem dJM_floorDiv_27 : decode bJM_floorDiv 27 = .ok (.lload 4, 2) := by decide +kernel
theorem dJM_floorDiv_29 : decode bJM_floorDiv 29 = .ok (.lreturn, 1) := by decide +kernel
theorem dJM_floorMod_0 : decode bJM_floorMod 0 = .ok (.lload_n 0, 1) := by decide +kernel
theorem dJM_floorMod_1 : decode bJM_floorMod 1 = .ok (.lload_n 2, 1) := by decide +kernel
theorem dJM_floorMod_2 : decode bJM_floorMod 2 = .ok (.lrem, 1) := by decide +kernel
theorem dJM_floorMod_3 : decode bJM_floorMod 3 = .ok (.lstore 4, 2) := by decide +kernel
theorem dJM_floorMod_5 : decode bJM_floorMod 5 = .ok (.lload_n 0, 1) := by decide +kernel
theorem dJM_floorMod_6 : decode bJM_floorMod 6 = .ok (.lload_n 2, 1) := by decide +kernel
theorem dJM_floorMod_7 : decode bJM_floorMod 7 = .ok (.lxor, 1) := by decide +kernel
theorem dJM_floorMod_8 : decode bJM_floorMod 8 = .ok (.lconst 0, 1) := by decide +kernel
theorem dJM_floorMod_9 : decode bJM_floorMod 9 = .ok (.lcmp, 1) := by decide +kernel
theorem dJM_floorMod_10 : decode bJM_floorMod 10 = .ok (.ifCond .ge 15, 3) := by decide +kernel
theorem dJM_floorMod_13 : decode bJM_floorMod 13 = .ok (.lload 4, 2) := by decide +kernel
theorem dJM_floorMod_15 : decode bJM_floorMod 15 = .ok (.lconst 0, 1) := by decide +kernel
theorem dJM_floorMod_16 : decode bJM_floorMod 16 = .ok (.lcmp, 1) := by decide +kernel
theorem dJM_floorMod_17 : decode bJM_floorMod 17 = .ok (.ifCond .eq 8, 3) := by decide +kernel
theorem dJM_floorMod_20 : decode bJM_floorMod 20 = .ok (.lload 4, 2) := by decide +kernel
theorem dJM_floorMod_22 : decode bJM_floorMod 22 = .ok (.lload_n 2, 1) := by decide +kernel
theorem dJM_floorMod_23 : decode bJM_floorMod 23 = .ok (.ladd, 1) := by decide +kernel
theorem dJM_floorMod_24 : decode bJM_floorMod 24 = .ok (.lreturn, 1) := by decide +kernel
theorem dJM_floorMod_25 : decode bJM_floorMod 25 = .ok (.lload 4, 2) := by decide +kernel
theorem dJM_floorMod_27 : decode bJM_floorMod 27 = .ok (.lreturn, 1) := by decide +kernel
theorem dN_power_0 : decode bN_power 0 = .ok (.aload_n 0, 1) := by decide +kernel
theorem dN_power_1 : decode bN_power 1 = .ok (.getfield 20, 3) := by decide +kernel
theorem dN_power_4 : decode bN_power 4 = .ok (.invokevirtual 135, 3) := by decide +kernel
theorem dN_power_7 : decode bN_power 7 = .ok (.ifCond .eq 13, 3) := by decide +kernel
theorem dN_power_10 : decode bN_power 10 = .ok (.aload_n 0, 1) := by decide +kernel
theorem dN_power_11 : decode bN_power 11 = .ok (.getfield 20, 3) := by decide +kernel
theorem dN_power_14 : decode bN_power 14 = .ok (.invokevirtual 138, 3) := by decide +kernel
theorem dN_power_17 : decode bN_power 17 = .ok (.goto 6, 3) := by decide +kernel
theorem dN_power_20 : decode bN_power 20 = .ok (.ldc2_w 142, 3) := by decide +kernel
theorem dN_power_23 : decode bN_power 23 = .ok (.lstore_n 1, 1) := by decide +kernel
theorem dN_power_24 : decode bN_power 24 = .ok (.lload_n 1, 1) := by decide +kernel
theorem dN_power_25 : decode bN_power 25 = .ok (.ldc2_w 144, 3) := by decide +kernel
theorem dN_power_28 : decode bN_power 28 = .ok (.lcmp, 1) := by decide +kernel
theorem dN_power_29 : decode bN_power 29 = .ok (.ifCond .lt 11, 3) := by decide +kernel
theorem dN_power_32 : decode bN_power 32 = .ok (.lload_n 1, 1) := by decide +kernel
theorem dN_power_33 : decode bN_power 33 = .ok (.ldc2_w 146, 3) := by decide +kernel
theorem dN_power_36 : decode bN_power 36 = .ok (.lcmp, 1) := by decide +kernel
theorem dN_power_37 : decode bN_power 37 = .ok (.ifCond .le 5, 3) := by decide +kernel
theorem dN_power_40 : decode bN_power 40 = .ok (.iconst 3, 1) := by decide +kernel
theorem dN_power_41 : decode bN_power 41 = .ok (.ireturn, 1) := by decide +kernel
theorem dN_power_42 : decode bN_power 42 = .ok (.aload_n 0, 1) := by decide +kernel
theorem dN_power_43 : decode bN_power 43 = .ok (.lload_n 1, 1) := by decide +kernel
theorem dN_power_44 : decode bN_power 44 = .ok (.lconst 0, 1) := by decide +kernel
theorem dN_power_45 : decode bN_power 45 = .ok (.lcmp, 1) := by decide +kernel
theorem dN_power_46 : decode bN_power 46 = .ok (.ifCond .ge 8, 3) := by decide +kernel
theorem dN_power_49 : decode bN_power 49 = .ok (.lload_n 1, 1) := by decide +kernel
theorem dN_power_50 : decode bN_power 50 = .ok (.lneg, 1) := by decide +kernel
theorem dN_power_51 : decode bN_power 51 = .ok (.goto 4, 3) := by decide +kernel
theorem dN_power_54 : decode bN_power 54 = .ok (.lload_n 1, 1) := by decide +kernel
theorem dN_power_55 : decode bN_power 55 = .ok (.l2i, 1) := by decide +kernel
theorem dN_power_56 : decode bN_power 56 = .ok (.invokevirtual 148, 3) := by decide +kernel
theorem dN_power_59 : decode bN_power 59 = .ok (.lload_n 1, 1) := by decide +kernel
theorem dN_power_60 : decode bN_power 60 = .ok (.lconst 0, 1) := by decide +kernel
theorem dN_power_61 : decode bN_power 61 = .ok (.lcmp, 1) := by decide +kernel
theorem dN_power_62 : decode bN_power 62 = .ok (.ifCond .ge 34, 3) := by decide +kernel
theorem dN_power_65 : decode bN_power 65 = .ok (.aload_n 0, 1) := by decide +kernel
theorem dN_power_66 : decode bN_power 66 = .ok (.getfield 23, 3) := by decide +kernel
theorem dN_power_69 : decode bN_power 69 = .ok (.lconst 1, 1) := by decide +kernel
theorem dN_power_70 : decode bN_power 70 = .ok (.iconst 0, 1) := by decide +kernel
theorem dN_power_71 : decode bN_power 71 = .ok (.invokevirtual 34, 3) := by decide +kernel
theorem dN_power_74 : decode bN_power 74 = .ok (.aload_n 0, 1) := by decide +kernel
theorem dN_power_75 : decode bN_power 75 = .ok (.getfield 23, 3) := by decide +kernel
theorem dN_power_78 : decode bN_power 78 = .ok (.aload_n 0, 1) := by decide +kernel
theorem dN_power_79 : decode bN_power 79 = .ok (.getfield 16, 3) := by decide +kernel
theorem dN_power_82 : decode bN_power 82 = .ok (.invokestatic 129, 3) := by decide +kernel
theorem dN_power_85 : decode bN_power 85 = .ok (.aload_n 0, 1) := by decide +kernel
theorem dN_power_86 : decode bN_power 86 = .ok (.getfield 16, 3) := by decide +kernel
theorem dN_power_89 : decode bN_power 89 = .ok (.aload_n 0, 1) := by decide +kernel
theorem dN_power_90 : decode bN_power 90 = .ok (.getfield 23, 3) := by decide +kernel
theorem dN_power_93 : decode bN_power 93 = .ok (.invokevirtual 46, 3) := by decide +kernel
theorem dN_power_96 : decode bN_power 96 = .ok (.iconst 0, 1) := by decide +kernel
theorem dN_power_97 : decode bN_power 97 = .ok (.ireturn, 1) := by decide +kernel
theorem dV_countsAsWhole_0 : decode bV_countsAsWhole 0 = .ok (.aload_n 0, 1) := by decide +kernel
theorem dV_countsAsWhole_1 : decode bV_countsAsWhole 1 = .ok (.getfield 9, 3) := by decide +kernel
theorem dV_countsAsWhole_4 : decode bV_countsAsWhole 4 = .ok (.iconst 2, 1) := by decide +kernel
theorem dV_countsAsWhole_5 : decode bV_countsAsWhole 5 = .ok (.if_icmp .eq 17, 3) := by decide +kernel
theorem dV_countsAsWhole_8 : decode bV_countsAsWhole 8 = .ok (.aload_n 0, 1) := by decide +kernel
theorem dV_countsAsWhole_9 : decode bV_countsAsWhole 9 = .ok (.getfield 9, 3) := by decide +kernel
theorem dV_countsAsWhole_12 : decode bV_countsAsWhole 12 = .ok (.iconst 1, 1) := by decide +kernel
theorem dV_countsAsWhole_13 : decode bV_countsAsWhole 13 = .ok (.if_icmp .ne 7, 3) := by decide +kernel
theorem dV_countsAsWhole_16 : decode bV_countsAsWhole 16 = .ok (.iconst 1, 1) := by decide +kernel
theorem dV_countsAsWhole_17 : decode bV_countsAsWhole 17 = .ok (.goto 4, 3) := by decide +kernel
theorem dV_countsAsWhole_20 : decode bV_countsAsWhole 20 = .ok (.iconst 0, 1) := by decide +kernel
theorem dV_countsAsWhole_21 : decode bV_countsAsWhole 21 = .ok (.ireturn, 1) := by decide +kernel
theorem dV_countsAsWhole_22 : decode bV_countsAsWhole 22 = .ok (.aload_n 0, 1) := by decide +kernel
theorem dV_countsAsWhole_23 : decode bV_countsAsWhole 23 = .ok (.getfield 19, 3) := by decide +kernel
theorem dV_countsAsWhole_26 : decode bV_countsAsWhole 26 = .ok (.ifCond .lt 38, 3) := by decide +kernel
theorem dV_countsAsWhole_29 : decode bV_countsAsWhole 29 = .ok (.aload_n 0, 1) := by decide +kernel
theorem dV_countsAsWhole_30 : decode bV_countsAsWhole 30 = .ok (.getfield 19, 3) := by decide +kernel
theorem dV_countsAsWhole_33 : decode bV_countsAsWhole 33 = .ok (.bipush 63, 2) := by decide +kernel
theorem dV_countsAsWhole_35 : decode bV_countsAsWhole 35 = .ok (.if_icmp .gt 29, 3) := by decide +kernel
theorem dV_countsAsWhole_38 : decode bV_countsAsWhole 38 = .ok (.aload_n 0, 1) := by decide +kernel
theorem dV_countsAsWhole_39 : decode bV_countsAsWhole 39 = .ok (.getfield 15, 3) := by decide +kernel
theorem dV_countsAsWhole_42 : decode bV_countsAsWhole 42 = .ok (.aload_n 0, 1) := by decide +kernel
theorem dV_countsAsWhole_43 : decode bV_countsAsWhole 43 = .ok (.getfield 19, 3) := by decide +kernel
theorem dV_countsAsWhole_46 : decode bV_countsAsWhole 46 = .ok (.lshl, 1) := by decide +kernel
theorem dV_countsAsWhole_47 : decode bV_countsAsWhole 47 = .ok (.aload_n 0, 1) := by decide +kernel
theorem dV_countsAsWhole_48 : decode bV_countsAsWhole 48 = .ok (.getfield 19, 3) := by decide +kernel
theorem dV_countsAsWhole_51 : decode bV_countsAsWhole 51 = .ok (.lshr, 1) := by decide +kernel
theorem dV_countsAsWhole_52 : decode bV_countsAsWhole 52 = .ok (.aload_n 0, 1) := by decide +kernel
theorem dV_countsAsWhole_53 : decode bV_countsAsWhole 53 = .ok (.getfield 15, 3) := by decide +kernel
theorem dV_countsAsWhole_56 : decode bV_countsAsWhole 56 = .ok (.lcmp, 1) := by decide +kernel
theorem dV_countsAsWhole_57 : decode bV_countsAsWhole 57 = .ok (.ifCond .ne 7, 3) := by decide +kernel
theorem dV_countsAsWhole_60 : decode bV_countsAsWhole 60 = .ok (.iconst 1, 1) := by decide +kernel
theorem dV_countsAsWhole_61 : decode bV_countsAsWhole 61 = .ok (.goto 4, 3) := by decide +kernel
theorem dV_countsAsWhole_64 : decode bV_countsAsWhole 64 = .ok (.iconst 0, 1) := by decide +kernel
theorem dV_countsAsWhole_65 : decode bV_countsAsWhole 65 = .ok (.ireturn, 1) := by decide +kernel
theorem dV_asWhole_0 : decode bV_asWhole 0 = .ok (.aload_n 0, 1) := by decide +kernel
theorem dV_asWhole_1 : decode bV_asWhole 1 = .ok (.getfield 15, 3) := by decide +kernel
theorem dV_asWhole_4 : decode bV_asWhole 4 = .ok (.aload_n 0, 1) := by decide +kernel
theorem dV_asWhole_5 : decode bV_asWhole 5 = .ok (.getfield 19, 3) := by decide +kernel
theorem dV_asWhole_8 : decode bV_asWhole 8 = .ok (.lshl, 1) := by decide +kernel
theorem dV_asWhole_9 : decode bV_asWhole 9 = .ok (.lreturn, 1) := by decide +kernel
theorem dN_raise_0 : decode bN_raise 0 = .ok (.bipush 32, 2) := by decide +kernel
theorem dN_raise_2 : decode bN_raise 2 = .ok (.iload_n 1, 1) := by decide +kernel
theorem dN_raise_3 : decode bN_raise 3 = .ok (.invokestatic 151, 3) := by decide +kernel
theorem dN_raise_6 : decode bN_raise 6 = .ok (.isub, 1) := by decide +kernel
theorem dN_raise_7 : decode bN_raise 7 = .ok (.istore_n 2, 1) := by decide +kernel
theorem dN_raise_8 : decode bN_raise 8 = .ok (.aload_n 0, 1) := by decide +kernel
theorem dN_raise_9 : decode bN_raise 9 = .ok (.getfield 23, 3) := by decide +kernel
theorem dN_raise_12 : decode bN_raise 12 = .ok (.aload_n 0, 1) := by decide +kernel
theorem dN_raise_13 : decode bN_raise 13 = .ok (.getfield 16, 3) := by decide +kernel
theorem dN_raise_16 : decode bN_raise 16 = .ok (.invokevirtual 46, 3) := by decide +kernel
theorem dN_raise_19 : decode bN_raise 19 = .ok (.aload_n 0, 1) := by decide +kernel
theorem dN_raise_20 : decode bN_raise 20 = .ok (.getfield 23, 3) := by decide +kernel
theorem dN_raise_23 : decode bN_raise 23 = .ok (.invokevirtual 92, 3) := by decide +kernel
theorem dN_raise_26 : decode bN_raise 26 = .ok (.aload_n 0, 1) := by decide +kernel
theorem dN_raise_27 : decode bN_raise 27 = .ok (.getfield 16, 3) := by decide +kernel
theorem dN_raise_30 : decode bN_raise 30 = .ok (.lconst 1, 1) := by decide +kernel
theorem dN_raise_31 : decode bN_raise 31 = .ok (.iconst 0, 1) := by decide +kernel
theorem dN_raise_32 : decode bN_raise 32 = .ok (.invokevirtual 34, 3) := by decide +kernel
theorem dN_raise_35 : decode bN_raise 35 = .ok (.iconst 0, 1) := by decide +kernel
theorem dN_raise_36 : decode bN_raise 36 = .ok (.istore_n 3, 1) := by decide +kernel
theorem dN_raise_37 : decode bN_raise 37 = .ok (.iload_n 3, 1) := by decide +kernel
theorem dN_raise_38 : decode bN_raise 38 = .ok (.iload_n 2, 1) := by decide +kernel
theorem dN_raise_39 : decode bN_raise 39 = .ok (.if_icmp .ge 47, 3) := by decide +kernel
theorem dN_raise_42 : decode bN_raise 42 = .ok (.iload_n 1, 1) := by decide +kernel
theorem dN_raise_43 : decode bN_raise 43 = .ok (.iload_n 3, 1) := by decide +kernel
theorem dN_raise_44 : decode bN_raise 44 = .ok (.ishr, 1) := by decide +kernel
theorem dN_raise_45 : decode bN_raise 45 = .ok (.iconst 1, 1) := by decide +kernel
theorem dN_raise_46 : decode bN_raise 46 = .ok (.iand, 1) := by decide +kernel
theorem dN_raise_47 : decode bN_raise 47 = .ok (.iconst 1, 1) := by decide +kernel
theorem dN_raise_48 : decode bN_raise 48 = .ok (.if_icmp .ne 14, 3) := by decide +kernel
theorem dN_raise_51 : decode bN_raise 51 = .ok (.aload_n 0, 1) := by decide +kernel
theorem dN_raise_52 : decode bN_raise 52 = .ok (.getfield 16, 3) := by decide +kernel
theorem dN_raise_55 : decode bN_raise 55 = .ok (.aload_n 0, 1) := by decide +kernel
theorem dN_raise_56 : decode bN_raise 56 = .ok (.getfield 23, 3) := by decide +kernel
theorem dN_raise_59 : decode bN_raise 59 = .ok (.invokestatic 102, 3) := by decide +kernel
theorem dN_raise_62 : decode bN_raise 62 = .ok (.iload_n 3, 1) := by decide +kernel
theorem dN_raise_63 : decode bN_raise 63 = .ok (.iconst 1, 1) := by decide +kernel
theorem dN_raise_64 : decode bN_raise 64 = .ok (.iadd, 1) := by decide +kernel
theorem dN_raise_65 : decode bN_raise 65 = .ok (.iload_n 2, 1) := by decide +kernel
theorem dN_raise_66 : decode bN_raise 66 = .ok (.if_icmp .ge 14, 3) := by decide +kernel
theorem dN_raise_69 : decode bN_raise 69 = .ok (.aload_n 0, 1) := by decide +kernel
theorem dN_raise_70 : decode bN_raise 70 = .ok (.getfield 23, 3) := by decide +kernel
theorem dN_raise_73 : decode bN_raise 73 = .ok (.aload_n 0, 1) := by decide +kernel
theorem dN_raise_74 : decode bN_raise 74 = .ok (.getfield 23, 3) := by decide +kernel
theorem dN_raise_77 : decode bN_raise 77 = .ok (.invokestatic 102, 3) := by decide +kernel
theorem dN_raise_80 : decode bN_raise 80 = .ok (.iinc 3 1, 3) := by decide +kernel
theorem dN_raise_83 : decode bN_raise 83 = .ok (.goto (-46), 3) := by decide +kernel
theorem dN_raise_86 : decode bN_raise 86 = .ok (.return_, 1) := by decide +kernel
theorem dN_combineBits_0 : decode bN_combineBits 0 = .ok (.aload_n 0, 1) := by decide +kernel
theorem dN_combineBits_1 : decode bN_combineBits 1 = .ok (.getfield 16, 3) := by decide +kernel
theorem dN_combineBits_4 : decode bN_combineBits 4 = .ok (.invokevirtual 135, 3) := by decide +kernel
theorem dN_combineBits_7 : decode bN_combineBits 7 = .ok (.ifCond .eq 13, 3) := by decide +kernel
theorem dN_combineBits_10 : decode bN_combineBits 10 = .ok (.aload_n 0, 1) := by decide +kernel
theorem dN_combineBits_11 : decode bN_combineBits 11 = .ok (.getfield 20, 3) := by decide +kernel
theorem dN_combineBits_14 : decode bN_combineBits 14 = .ok (.invokevirtual 135, 3) := by decide +kernel
theorem dN_combineBits_17 : decode bN_combineBits 17 = .ok (.ifCond .ne 5, 3) := by decide +kernel
theorem dN_combineBits_20 : decode bN_combineBits 20 = .ok (.iconst 2, 1) := by decide +kernel
theorem dN_combineBits_21 : decode bN_combineBits 21 = .ok (.ireturn, 1) := by decide +kernel
theorem dN_combineBits_22 : decode bN_combineBits 22 = .ok (.aload_n 0, 1) := by decide +kernel
theorem dN_combineBits_23 : decode bN_combineBits 23 = .ok (.getfield 16, 3) := by decide +kernel
theorem dN_combineBits_26 : decode bN_combineBits 26 = .ok (.invokevirtual 138, 3) := by decide +kernel
theorem dN_combineBits_29 : decode bN_combineBits 29 = .ok (.lstore_n 2, 1) := by decide +kernel
theorem dN_combineBits_30 : decode bN_combineBits 30 = .ok (.aload_n 0, 1) := by decide +kernel
theorem dN_combineBits_31 : decode bN_combineBits 31 = .ok (.getfield 20, 3) := by decide +kernel
theorem dN_combineBits_34 : decode bN_combineBits 34 = .ok (.invokevirtual 138, 3) := by decide +kernel
theorem dN_combineBits_37 : decode bN_combineBits 37 = .ok (.lstore 4, 2) := by decide +kernel
theorem dN_combineBits_39 : decode bN_combineBits 39 = .ok (.iload_n 1, 1) := by decide +kernel
theorem dN_combineBits_40 : decode bN_combineBits 40 = .ok (.tableswitch 90 7 10 #[32, 46, 60, 74], 32) := by decide +kernel
theorem dN_combineBits_72 : decode bN_combineBits 72 = .ok (.aload_n 0, 1) := by decide +kernel
theorem dN_combineBits_73 : decode bN_combineBits 73 = .ok (.getfield 16, 3) := by decide +kernel
theorem dN_combineBits_76 : decode bN_combineBits 76 = .ok (.lload_n 2, 1) := by decide +kernel
theorem dN_combineBits_77 : decode bN_combineBits 77 = .ok (.lload 4, 2) := by decide +kernel
theorem dN_combineBits_79 : decode bN_combineBits 79 = .ok (.land, 1) := by decide +kernel
theorem dN_combineBits_80 : decode bN_combineBits 80 = .ok (.invokevirtual 30, 3) := by decide +kernel
theorem dN_combineBits_83 : decode bN_combineBits 83 = .ok (.goto 61, 3) := by decide +kernel
theorem dN_combineBits_86 : decode bN_combineBits 86 = .ok (.aload_n 0, 1) := by decide +kernel
theorem dN_combineBits_87 : decode bN_combineBits 87 = .ok (.getfield 16, 3) := by decide +kernel
theorem dN_combineBits_90 : decode bN_combineBits 90 = .ok (.lload_n 2, 1) := by decide +kernel
theorem dN_combineBits_91 : decode bN_combineBits 91 = .ok (.lload 4, 2) := by decide +kernel
theorem dN_combineBits_93 : decode bN_combineBits 93 = .ok (.lor, 1) := by decide +kernel
theorem dN_combineBits_94 : decode bN_combineBits 94 = .ok (.invokevirtual 30, 3) := by decide +kernel
theorem dN_combineBits_97 : decode bN_combineBits 97 = .ok (.goto 47, 3) := by decide +kernel
theorem dN_combineBits_100 : decode bN_combineBits 100 = .ok (.aload_n 0, 1) := by decide +kernel
theorem dN_combineBits_101 : decode bN_combineBits 101 = .ok (.getfield 16, 3) := by decide +kernel
theorem dN_combineBits_104 : decode bN_combineBits 104 = .ok (.lload_n 2, 1) := by decide +kernel
theorem dN_combineBits_105 : decode bN_combineBits 105 = .ok (.lload 4, 2) := by decide +kernel
theorem dN_combineBits_107 : decode bN_combineBits 107 = .ok (.lxor, 1) := by decide +kernel
theorem dN_combineBits_108 : decode bN_combineBits 108 = .ok (.invokevirtual 30, 3) := by decide +kernel
theorem dN_combineBits_111 : decode bN_combineBits 111 = .ok (.goto 33, 3) := by decide +kernel
theorem dN_combineBits_114 : decode bN_combineBits 114 = .ok (.aload_n 0, 1) := by decide +kernel
theorem dN_combineBits_115 : decode bN_combineBits 115 = .ok (.getfield 16, 3) := by decide +kernel
theorem dN_combineBits_118 : decode bN_combineBits 118 = .ok (.lload_n 2, 1) := by decide +kernel
theorem dN_combineBits_119 : decode bN_combineBits 119 = .ok (.lload 4, 2) := by decide +kernel
theorem dN_combineBits_121 : decode bN_combineBits 121 = .ok (.invokestatic 156, 3) := by decide +kernel
theorem dN_combineBits_124 : decode bN_combineBits 124 = .ok (.invokevirtual 30, 3) := by decide +kernel
theorem dN_combineBits_127 : decode bN_combineBits 127 = .ok (.goto 17, 3) := by decide +kernel
theorem dN_combineBits_130 : decode bN_combineBits 130 = .ok (.aload_n 0, 1) := by decide +kernel
theorem dN_combineBits_131 : decode bN_combineBits 131 = .ok (.getfield 16, 3) := by decide +kernel
theorem dN_combineBits_134 : decode bN_combineBits 134 = .ok (.lload_n 2, 1) := by decide +kernel
theorem dN_combineBits_135 : decode bN_combineBits 135 = .ok (.lload 4, 2) := by decide +kernel
theorem dN_combineBits_137 : decode bN_combineBits 137 = .ok (.lneg, 1) := by decide +kernel
theorem dN_combineBits_138 : decode bN_combineBits 138 = .ok (.invokestatic 156, 3) := by decide +kernel
theorem dN_combineBits_141 : decode bN_combineBits 141 = .ok (.invokevirtual 30, 3) := by decide +kernel
theorem dN_combineBits_144 : decode bN_combineBits 144 = .ok (.iconst 0, 1) := by decide +kernel
theorem dN_combineBits_145 : decode bN_combineBits 145 = .ok (.ireturn, 1) := by decide +kernel
theorem dN_shiftLeft_0 : decode bN_shiftLeft 0 = .ok (.lload_n 2, 1) := by decide +kernel
theorem dN_shiftLeft_1 : decode bN_shiftLeft 1 = .ok (.ldc2_w 159, 3) := by decide +kernel
theorem dN_shiftLeft_4 : decode bN_shiftLeft 4 = .ok (.lcmp, 1) := by decide +kernel
theorem dN_shiftLeft_5 : decode bN_shiftLeft 5 = .ok (.ifCond .le 11, 3) := by decide +kernel
theorem dN_shiftLeft_8 : decode bN_shiftLeft 8 = .ok (.lload_n 2, 1) := by decide +kernel
theorem dN_shiftLeft_9 : decode bN_shiftLeft 9 = .ok (.ldc2_w 161, 3) := by decide +kernel
theorem dN_shiftLeft_12 : decode bN_shiftLeft 12 = .ok (.lcmp, 1) := by decide +kernel
theorem dN_shiftLeft_13 : decode bN_shiftLeft 13 = .ok (.ifCond .lt 5, 3) := by decide +kernel
theorem dN_shiftLeft_16 : decode bN_shiftLeft 16 = .ok (.lconst 0, 1) := by decide +kernel
theorem dN_shiftLeft_17 : decode bN_shiftLeft 17 = .ok (.lreturn, 1) := by decide +kernel
theorem dN_shiftLeft_18 : decode bN_shiftLeft 18 = .ok (.lload_n 2, 1) := by decide +kernel
theorem dN_shiftLeft_19 : decode bN_shiftLeft 19 = .ok (.lconst 0, 1) := by decide +kernel
theorem dN_shiftLeft_20 : decode bN_shiftLeft 20 = .ok (.lcmp, 1) := by decide +kernel
theorem dN_shiftLeft_21 : decode bN_shiftLeft 21 = .ok (.ifCond .lt 10, 3) := by decide +kernel
theorem dN_shiftLeft_24 : decode bN_shiftLeft 24 = .ok (.lload_n 0, 1) := by decide +kernel
theorem dN_shiftLeft_25 : decode bN_shiftLeft 25 = .ok (.lload_n 2, 1) := by decide +kernel
theorem dN_shiftLeft_26 : decode bN_shiftLeft 26 = .ok (.l2i, 1) := by decide +kernel
theorem dN_shiftLeft_27 : decode bN_shiftLeft 27 = .ok (.lshl, 1) := by decide +kernel
theorem dN_shiftLeft_28 : decode bN_shiftLeft 28 = .ok (.goto 8, 3) := by decide +kernel
theorem dN_shiftLeft_31 : decode bN_shiftLeft 31 = .ok (.lload_n 0, 1) := by decide +kernel
theorem dN_shiftLeft_32 : decode bN_shiftLeft 32 = .ok (.lload_n 2, 1) := by decide +kernel
theorem dN_shiftLeft_33 : decode bN_shiftLeft 33 = .ok (.lneg, 1) := by decide +kernel
theorem dN_shiftLeft_34 : decode bN_shiftLeft 34 = .ok (.l2i, 1) := by decide +kernel
theorem dN_shiftLeft_35 : decode bN_shiftLeft 35 = .ok (.lushr, 1) := by decide +kernel
theorem dN_shiftLeft_36 : decode bN_shiftLeft 36 = .ok (.lreturn, 1) := by decide +kernel
theorem dN_applyToOne_0 : decode bN_applyToOne 0 = .ok (.iload_n 1, 1) := by decide +kernel
theorem dN_applyToOne_1 : decode bN_applyToOne 1 = .ok (.bipush 13, 2) := by decide +kernel
theorem dN_applyToOne_3 : decode bN_applyToOne 3 = .ok (.if_icmp .eq 9, 3) := by decide +kernel
theorem dN_applyToOne_6 : decode bN_applyToOne 6 = .ok (.iload_n 1, 1) := by decide +kernel
theorem dN_applyToOne_7 : decode bN_applyToOne 7 = .ok (.bipush 16, 2) := by decide +kernel
theorem dN_applyToOne_9 : decode bN_applyToOne 9 = .ok (.if_icmp .ne 15, 3) := by decide +kernel
theorem dN_applyToOne_12 : decode bN_applyToOne 12 = .ok (.aload_n 0, 1) := by decide +kernel
theorem dN_applyToOne_13 : decode bN_applyToOne 13 = .ok (.getfield 16, 3) := by decide +kernel
theorem dN_applyToOne_16 : decode bN_applyToOne 16 = .ok (.invokevirtual 135, 3) := by decide +kernel
theorem dN_applyToOne_19 : decode bN_applyToOne 19 = .ok (.ifCond .ne 5, 3) := by decide +kernel
theorem dN_applyToOne_22 : decode bN_applyToOne 22 = .ok (.iconst 2, 1) := by decide +kernel
theorem dN_applyToOne_23 : decode bN_applyToOne 23 = .ok (.ireturn, 1) := by decide +kernel
theorem dN_applyToOne_24 : decode bN_applyToOne 24 = .ok (.iload_n 1, 1) := by decide +kernel
theorem dN_applyToOne_25 : decode bN_applyToOne 25 = .ok (.tableswitch 127 12 16 #[35, 45, 66, 100, 110], 35) := by decide +kernel
theorem dN_applyToOne_60 : decode bN_applyToOne 60 = .ok (.aload_n 0, 1) := by decide +kernel
theorem dN_applyToOne_61 : decode bN_applyToOne 61 = .ok (.getfield 16, 3) := by decide +kernel
theorem dN_applyToOne_64 : decode bN_applyToOne 64 = .ok (.invokevirtual 108, 3) := by decide +kernel
theorem dN_applyToOne_67 : decode bN_applyToOne 67 = .ok (.goto 102, 3) := by decide +kernel
theorem dN_applyToOne_70 : decode bN_applyToOne 70 = .ok (.aload_n 0, 1) := by decide +kernel
theorem dN_applyToOne_71 : decode bN_applyToOne 71 = .ok (.getfield 16, 3) := by decide +kernel
theorem dN_applyToOne_74 : decode bN_applyToOne 74 = .ok (.aload_n 0, 1) := by decide +kernel
theorem dN_applyToOne_75 : decode bN_applyToOne 75 = .ok (.getfield 16, 3) := by decide +kernel
theorem dN_applyToOne_78 : decode bN_applyToOne 78 = .ok (.invokevirtual 138, 3) := by decide +kernel
theorem dN_applyToOne_81 : decode bN_applyToOne 81 = .ok (.ldc2_w 163, 3) := by decide +kernel
theorem dN_applyToOne_84 : decode bN_applyToOne 84 = .ok (.lxor, 1) := by decide +kernel
theorem dN_applyToOne_85 : decode bN_applyToOne 85 = .ok (.invokevirtual 30, 3) := by decide +kernel
theorem dN_applyToOne_88 : decode bN_applyToOne 88 = .ok (.goto 81, 3) := by decide +kernel
theorem dN_applyToOne_91 : decode bN_applyToOne 91 = .ok (.aload_n 0, 1) := by decide +kernel
theorem dN_applyToOne_92 : decode bN_applyToOne 92 = .ok (.getfield 16, 3) := by decide +kernel
theorem dN_applyToOne_95 : decode bN_applyToOne 95 = .ok (.invokevirtual 132, 3) := by decide +kernel
theorem dN_applyToOne_98 : decode bN_applyToOne 98 = .ok (.aload_n 0, 1) := by decide +kernel
theorem dN_applyToOne_99 : decode bN_applyToOne 99 = .ok (.getfield 16, 3) := by decide +kernel
theorem dN_applyToOne_102 : decode bN_applyToOne 102 = .ok (.invokevirtual 135, 3) := by decide +kernel
theorem dN_applyToOne_105 : decode bN_applyToOne 105 = .ok (.ifCond .eq 64, 3) := by decide +kernel
theorem dN_applyToOne_108 : decode bN_applyToOne 108 = .ok (.aload_n 0, 1) := by decide +kernel
theorem dN_applyToOne_109 : decode bN_applyToOne 109 = .ok (.getfield 16, 3) := by decide +kernel
theorem dN_applyToOne_112 : decode bN_applyToOne 112 = .ok (.aload_n 0, 1) := by decide +kernel
theorem dN_applyToOne_113 : decode bN_applyToOne 113 = .ok (.getfield 16, 3) := by decide +kernel
theorem dN_applyToOne_116 : decode bN_applyToOne 116 = .ok (.invokevirtual 138, 3) := by decide +kernel
theorem dN_applyToOne_119 : decode bN_applyToOne 119 = .ok (.invokevirtual 30, 3) := by decide +kernel
theorem dN_applyToOne_122 : decode bN_applyToOne 122 = .ok (.goto 47, 3) := by decide +kernel
theorem dN_applyToOne_125 : decode bN_applyToOne 125 = .ok (.aload_n 0, 1) := by decide +kernel
theorem dN_applyToOne_126 : decode bN_applyToOne 126 = .ok (.getfield 16, 3) := by decide +kernel
theorem dN_applyToOne_129 : decode bN_applyToOne 129 = .ok (.invokevirtual 92, 3) := by decide +kernel
theorem dN_applyToOne_132 : decode bN_applyToOne 132 = .ok (.goto 37, 3) := by decide +kernel
theorem dN_applyToOne_135 : decode bN_applyToOne 135 = .ok (.aload_n 0, 1) := by decide +kernel
theorem dN_applyToOne_136 : decode bN_applyToOne 136 = .ok (.getfield 16, 3) := by decide +kernel
theorem dN_applyToOne_139 : decode bN_applyToOne 139 = .ok (.aload_n 0, 1) := by decide +kernel
theorem dN_applyToOne_140 : decode bN_applyToOne 140 = .ok (.getfield 16, 3) := by decide +kernel
theorem dN_applyToOne_143 : decode bN_applyToOne 143 = .ok (.invokevirtual 138, 3) := by decide +kernel
theorem dN_applyToOne_146 : decode bN_applyToOne 146 = .ok (.invokevirtual 30, 3) := by decide +kernel
theorem dN_applyToOne_149 : decode bN_applyToOne 149 = .ok (.goto 20, 3) := by decide +kernel
theorem dN_applyToOne_152 : decode bN_applyToOne 152 = .ok (.aload_n 0, 1) := by decide +kernel
theorem dN_applyToOne_153 : decode bN_applyToOne 153 = .ok (.getfield 16, 3) := by decide +kernel
theorem dN_applyToOne_156 : decode bN_applyToOne 156 = .ok (.invokevirtual 165, 3) := by decide +kernel
theorem dN_applyToOne_159 : decode bN_applyToOne 159 = .ok (.ifCond .ge 10, 3) := by decide +kernel
theorem dN_applyToOne_162 : decode bN_applyToOne 162 = .ok (.aload_n 0, 1) := by decide +kernel
theorem dN_applyToOne_163 : decode bN_applyToOne 163 = .ok (.getfield 16, 3) := by decide +kernel
theorem dN_applyToOne_166 : decode bN_applyToOne 166 = .ok (.invokevirtual 108, 3) := by decide +kernel
theorem dN_applyToOne_169 : decode bN_applyToOne 169 = .ok (.iconst 0, 1) := by decide +kernel
theorem dN_applyToOne_170 : decode bN_applyToOne 170 = .ok (.ireturn, 1) := by decide +kernel
theorem dN_compare_0 : decode bN_compare 0 = .ok (.iload_n 2, 1) := by decide +kernel
theorem dN_compare_1 : decode bN_compare 1 = .ok (.invokestatic 26, 3) := by decide +kernel
theorem dN_compare_4 : decode bN_compare 4 = .ok (.ifCond .eq 19, 3) := by decide +kernel
theorem dN_compare_7 : decode bN_compare 7 = .ok (.iload_n 3, 1) := by decide +kernel
theorem dN_compare_8 : decode bN_compare 8 = .ok (.invokestatic 26, 3) := by decide +kernel
theorem dN_compare_11 : decode bN_compare 11 = .ok (.ifCond .eq 12, 3) := by decide +kernel
theorem dN_compare_14 : decode bN_compare 14 = .ok (.iload_n 1, 1) := by decide +kernel
theorem dN_compare_15 : decode bN_compare 15 = .ok (.ifCond .lt 8, 3) := by decide +kernel
theorem dN_compare_18 : decode bN_compare 18 = .ok (.iload_n 1, 1) := by decide +kernel
theorem dN_compare_19 : decode bN_compare 19 = .ok (.iconst 2, 1) := by decide +kernel
theorem dN_compare_20 : decode bN_compare 20 = .ok (.if_icmp .le 5, 3) := by decide +kernel
theorem dN_compare_23 : decode bN_compare 23 = .ok (.iconst (-1), 1) := by decide +kernel
theorem dN_compare_24 : decode bN_compare 24 = .ok (.ireturn, 1) := by decide +kernel
theorem dN_compare_25 : decode bN_compare 25 = .ok (.aload_n 0, 1) := by decide +kernel
theorem dN_compare_26 : decode bN_compare 26 = .ok (.getfield 11, 3) := by decide +kernel
theorem dN_compare_29 : decode bN_compare 29 = .ok (.iload_n 2, 1) := by decide +kernel
theorem dN_compare_30 : decode bN_compare 30 = .ok (.aaload, 1) := by decide +kernel
theorem dN_compare_31 : decode bN_compare 31 = .ok (.astore 4, 2) := by decide +kernel
theorem dN_compare_33 : decode bN_compare 33 = .ok (.aload_n 0, 1) := by decide +kernel
theorem dN_compare_34 : decode bN_compare 34 = .ok (.getfield 11, 3) := by decide +kernel
theorem dN_compare_37 : decode bN_compare 37 = .ok (.iload_n 3, 1) := by decide +kernel
theorem dN_compare_38 : decode bN_compare 38 = .ok (.aaload, 1) := by decide +kernel
theorem dN_compare_39 : decode bN_compare 39 = .ok (.astore 5, 2) := by decide +kernel
theorem dN_compare_41 : decode bN_compare 41 = .ok (.aload 4, 2) := by decide +kernel
theorem dN_compare_43 : decode bN_compare 43 = .ok (.getfield 71, 3) := by decide +kernel
theorem dN_compare_46 : decode bN_compare 46 = .ok (.iconst 5, 1) := by decide +kernel
theorem dN_compare_47 : decode bN_compare 47 = .ok (.if_icmp .eq 12, 3) := by decide +kernel
theorem dN_compare_50 : decode bN_compare 50 = .ok (.aload 5, 2) := by decide +kernel
theorem dN_compare_52 : decode bN_compare 52 = .ok (.getfield 71, 3) := by decide +kernel
theorem dN_compare_55 : decode bN_compare 55 = .ok (.iconst 5, 1) := by decide +kernel
theorem dN_compare_56 : decode bN_compare 56 = .ok (.if_icmp .ne 5, 3) := by decide +kernel
theorem dN_compare_59 : decode bN_compare 59 = .ok (.iconst 0, 1) := by decide +kernel
theorem dN_compare_60 : decode bN_compare 60 = .ok (.ireturn, 1) := by decide +kernel
theorem dN_compare_61 : decode bN_compare 61 = .ok (.aload 4, 2) := by decide +kernel
theorem dN_compare_63 : decode bN_compare 63 = .ok (.aload 5, 2) := by decide +kernel
theorem dN_compare_65 : decode bN_compare 65 = .ok (.invokestatic 74, 3) := by decide +kernel
theorem dN_compare_68 : decode bN_compare 68 = .ok (.istore 6, 2) := by decide +kernel
theorem dN_compare_70 : decode bN_compare 70 = .ok (.iload 6, 2) := by decide +kernel
theorem dN_compare_72 : decode bN_compare 72 = .ok (.ifCond .ne 16, 3) := by decide +kernel
theorem dN_compare_75 : decode bN_compare 75 = .ok (.iload_n 1, 1) := by decide +kernel
theorem dN_compare_76 : decode bN_compare 76 = .ok (.iconst 1, 1) := by decide +kernel
theorem dN_compare_77 : decode bN_compare 77 = .ok (.if_icmp .eq 7, 3) := by decide +kernel
theorem dN_compare_80 : decode bN_compare 80 = .ok (.iconst 1, 1) := by decide +kernel
theorem dN_compare_81 : decode bN_compare 81 = .ok (.goto 21, 3) := by decide +kernel
theorem dN_compare_84 : decode bN_compare 84 = .ok (.iconst 0, 1) := by decide +kernel
theorem dN_compare_85 : decode bN_compare 85 = .ok (.goto 17, 3) := by decide +kernel
theorem dN_compare_88 : decode bN_compare 88 = .ok (.iload 6, 2) := by decide +kernel
theorem dN_compare_90 : decode bN_compare 90 = .ok (.ifCond .ge 11, 3) := by decide +kernel
theorem dN_compare_93 : decode bN_compare 93 = .ok (.iload_n 1, 1) := by decide +kernel
theorem dN_compare_94 : decode bN_compare 94 = .ok (.ifCond .eq 7, 3) := by decide +kernel
theorem dN_compare_97 : decode bN_compare 97 = .ok (.iconst 1, 1) := by decide +kernel
theorem dN_compare_98 : decode bN_compare 98 = .ok (.goto 4, 3) := by decide +kernel
theorem dN_compare_101 : decode bN_compare 101 = .ok (.iconst 0, 1) := by decide +kernel
theorem dN_compare_102 : decode bN_compare 102 = .ok (.istore 7, 2) := by decide +kernel
theorem dN_compare_104 : decode bN_compare 104 = .ok (.iload 7, 2) := by decide +kernel
theorem dN_compare_106 : decode bN_compare 106 = .ok (.ifCond .eq 7, 3) := by decide +kernel
theorem dN_compare_109 : decode bN_compare 109 = .ok (.iconst 1, 1) := by decide +kernel
theorem dN_compare_110 : decode bN_compare 110 = .ok (.goto 4, 3) := by decide +kernel
theorem dN_compare_113 : decode bN_compare 113 = .ok (.iconst 0, 1) := by decide +kernel
theorem dN_compare_114 : decode bN_compare 114 = .ok (.ireturn, 1) := by decide +kernel
theorem dO_of_0 : decode bO_of 0 = .ok (.aload_n 0, 1) := by decide +kernel
theorem dO_of_1 : decode bO_of 1 = .ok (.invokevirtual 21, 3) := by decide +kernel
theorem dO_of_4 : decode bO_of 4 = .ok (.ifCond .ne 10, 3) := by decide +kernel
theorem dO_of_7 : decode bO_of 7 = .ok (.aload_n 1, 1) := by decide +kernel
theorem dO_of_8 : decode bO_of 8 = .ok (.invokevirtual 21, 3) := by decide +kernel
theorem dO_of_11 : decode bO_of 11 = .ok (.ifCond .eq 15, 3) := by decide +kernel
theorem dO_of_14 : decode bO_of 14 = .ok (.aload_n 0, 1) := by decide +kernel
theorem dO_of_15 : decode bO_of 15 = .ok (.invokestatic 25, 3) := by decide +kernel
theorem dO_of_18 : decode bO_of 18 = .ok (.aload_n 1, 1) := by decide +kernel
theorem dO_of_19 : decode bO_of 19 = .ok (.invokestatic 25, 3) := by decide +kernel
theorem dO_of_22 : decode bO_of 22 = .ok (.invokestatic 29, 3) := by decide +kernel
theorem dO_of_25 : decode bO_of 25 = .ok (.ireturn, 1) := by decide +kernel
theorem dO_of_26 : decode bO_of 26 = .ok (.aload_n 0, 1) := by decide +kernel
theorem dO_of_27 : decode bO_of 27 = .ok (.getfield 9, 3) := by decide +kernel
theorem dO_of_30 : decode bO_of 30 = .ok (.iconst 1, 1) := by decide +kernel
theorem dO_of_31 : decode bO_of 31 = .ok (.if_icmp .ne 34, 3) := by decide +kernel
theorem dO_of_34 : decode bO_of 34 = .ok (.aload_n 1, 1) := by decide +kernel
theorem dO_of_35 : decode bO_of 35 = .ok (.getfield 9, 3) := by decide +kernel
theorem dO_of_38 : decode bO_of 38 = .ok (.iconst 1, 1) := by decide +kernel
theorem dO_of_39 : decode bO_of 39 = .ok (.if_icmp .ne 17, 3) := by decide +kernel
theorem dO_of_42 : decode bO_of 42 = .ok (.aload_n 0, 1) := by decide +kernel
theorem dO_of_43 : decode bO_of 43 = .ok (.getfield 35, 3) := by decide +kernel
theorem dO_of_46 : decode bO_of 46 = .ok (.aload_n 1, 1) := by decide +kernel
theorem dO_of_47 : decode bO_of 47 = .ok (.getfield 35, 3) := by decide +kernel
theorem dO_of_50 : decode bO_of 50 = .ok (.invokestatic 39, 3) := by decide +kernel
theorem dO_of_53 : decode bO_of 53 = .ok (.goto 11, 3) := by decide +kernel
theorem dO_of_56 : decode bO_of 56 = .ok (.aload_n 0, 1) := by decide +kernel
theorem dO_of_57 : decode bO_of 57 = .ok (.getfield 35, 3) := by decide +kernel
theorem dO_of_60 : decode bO_of 60 = .ok (.aload_n 1, 1) := by decide +kernel
theorem dO_of_61 : decode bO_of 61 = .ok (.invokestatic 44, 3) := by decide +kernel
theorem dO_of_64 : decode bO_of 64 = .ok (.ireturn, 1) := by decide +kernel
theorem dO_of_65 : decode bO_of 65 = .ok (.aload_n 1, 1) := by decide +kernel
theorem dO_of_66 : decode bO_of 66 = .ok (.getfield 9, 3) := by decide +kernel
theorem dO_of_69 : decode bO_of 69 = .ok (.iconst 1, 1) := by decide +kernel
theorem dO_of_70 : decode bO_of 70 = .ok (.if_icmp .ne 15, 3) := by decide +kernel
theorem dO_of_73 : decode bO_of 73 = .ok (.aload_n 1, 1) := by decide +kernel
theorem dO_of_74 : decode bO_of 74 = .ok (.getfield 35, 3) := by decide +kernel
theorem dO_of_77 : decode bO_of 77 = .ok (.aload_n 0, 1) := by decide +kernel
theorem dO_of_78 : decode bO_of 78 = .ok (.invokestatic 44, 3) := by decide +kernel
theorem dO_of_81 : decode bO_of 81 = .ok (.ineg, 1) := by decide +kernel
theorem dO_of_82 : decode bO_of 82 = .ok (.goto 8, 3) := by decide +kernel
theorem dO_of_85 : decode bO_of 85 = .ok (.aload_n 0, 1) := by decide +kernel
theorem dO_of_86 : decode bO_of 86 = .ok (.aload_n 1, 1) := by decide +kernel
theorem dO_of_87 : decode bO_of 87 = .ok (.invokestatic 48, 3) := by decide +kernel
theorem dO_of_90 : decode bO_of 90 = .ok (.ireturn, 1) := by decide +kernel
theorem dO_infinityOf_0 : decode bO_infinityOf 0 = .ok (.aload_n 0, 1) := by decide +kernel
theorem dO_infinityOf_1 : decode bO_infinityOf 1 = .ok (.invokevirtual 21, 3) := by decide +kernel
theorem dO_infinityOf_4 : decode bO_infinityOf 4 = .ok (.ifCond .eq 10, 3) := by decide +kernel
theorem dO_infinityOf_7 : decode bO_infinityOf 7 = .ok (.aload_n 0, 1) := by decide +kernel
theorem dO_infinityOf_8 : decode bO_infinityOf 8 = .ok (.invokevirtual 51, 3) := by decide +kernel
theorem dO_infinityOf_11 : decode bO_infinityOf 11 = .ok (.goto 4, 3) := by decide +kernel
theorem dO_infinityOf_14 : decode bO_infinityOf 14 = .ok (.iconst 0, 1) := by decide +kernel
theorem dO_infinityOf_15 : decode bO_infinityOf 15 = .ok (.ireturn, 1) := by decide +kernel
theorem dO_ofWhole_0 : decode bO_ofWhole 0 = .ok (.aload_n 2, 1) := by decide +kernel
theorem dO_ofWhole_1 : decode bO_ofWhole 1 = .ok (.getfield 55, 3) := by decide +kernel
theorem dO_ofWhole_4 : decode bO_ofWhole 4 = .ok (.ifCond .lt 16, 3) := by decide +kernel
theorem dO_ofWhole_7 : decode bO_ofWhole 7 = .ok (.aload_n 2, 1) := by decide +kernel
theorem dO_ofWhole_8 : decode bO_ofWhole 8 = .ok (.invokevirtual 58, 3) := by decide +kernel
theorem dO_ofWhole_11 : decode bO_ofWhole 11 = .ok (.ifCond .ne 9, 3) := by decide +kernel
theorem dO_ofWhole_14 : decode bO_ofWhole 14 = .ok (.aload_n 2, 1) := by decide +kernel
theorem dO_ofWhole_15 : decode bO_ofWhole 15 = .ok (.invokevirtual 51, 3) := by decide +kernel
theorem dO_ofWhole_18 : decode bO_ofWhole 18 = .ok (.ineg, 1) := by decide +kernel
theorem dO_ofWhole_19 : decode bO_ofWhole 19 = .ok (.ireturn, 1) := by decide +kernel
theorem dO_ofWhole_20 : decode bO_ofWhole 20 = .ok (.aload_n 2, 1) := by decide +kernel
theorem dO_ofWhole_21 : decode bO_ofWhole 21 = .ok (.invokevirtual 61, 3) := by decide +kernel
theorem dO_ofWhole_24 : decode bO_ofWhole 24 = .ok (.lstore_n 3, 1) := by decide +kernel
theorem dO_ofWhole_25 : decode bO_ofWhole 25 = .ok (.lload_n 0, 1) := by decide +kernel
theorem dO_ofWhole_26 : decode bO_ofWhole 26 = .ok (.lload_n 3, 1) := by decide +kernel
theorem dO_ofWhole_27 : decode bO_ofWhole 27 = .ok (.lcmp, 1) := by decide +kernel
theorem dO_ofWhole_28 : decode bO_ofWhole 28 = .ok (.ifCond .eq 9, 3) := by decide +kernel
theorem dO_ofWhole_31 : decode bO_ofWhole 31 = .ok (.lload_n 0, 1) := by decide +kernel
theorem dO_ofWhole_32 : decode bO_ofWhole 32 = .ok (.lload_n 3, 1) := by decide +kernel
theorem dO_ofWhole_33 : decode bO_ofWhole 33 = .ok (.invokestatic 39, 3) := by decide +kernel
theorem dO_ofWhole_36 : decode bO_ofWhole 36 = .ok (.ireturn, 1) := by decide +kernel
theorem dO_ofWhole_37 : decode bO_ofWhole 37 = .ok (.aload_n 2, 1) := by decide +kernel
theorem dO_ofWhole_38 : decode bO_ofWhole 38 = .ok (.getfield 55, 3) := by decide +kernel
theorem dO_ofWhole_41 : decode bO_ofWhole 41 = .ok (.ifCond .ge 7, 3) := by decide +kernel
theorem dO_ofWhole_44 : decode bO_ofWhole 44 = .ok (.iconst (-1), 1) := by decide +kernel
theorem dO_ofWhole_45 : decode bO_ofWhole 45 = .ok (.goto 4, 3) := by decide +kernel
theorem dO_ofWhole_48 : decode bO_ofWhole 48 = .ok (.iconst 0, 1) := by decide +kernel
theorem dO_ofWhole_49 : decode bO_ofWhole 49 = .ok (.ireturn, 1) := by decide +kernel
theorem dO_ofReals_0 : decode bO_ofReals 0 = .ok (.aload_n 0, 1) := by decide +kernel
theorem dO_ofReals_1 : decode bO_ofReals 1 = .ok (.invokevirtual 51, 3) := by decide +kernel
theorem dO_ofReals_4 : decode bO_ofReals 4 = .ok (.aload_n 1, 1) := by decide +kernel
theorem dO_ofReals_5 : decode bO_ofReals 5 = .ok (.invokevirtual 51, 3) := by decide +kernel
theorem dO_ofReals_8 : decode bO_ofReals 8 = .ok (.if_icmp .eq 15, 3) := by decide +kernel
theorem dO_ofReals_11 : decode bO_ofReals 11 = .ok (.aload_n 0, 1) := by decide +kernel
theorem dO_ofReals_12 : decode bO_ofReals 12 = .ok (.invokevirtual 51, 3) := by decide +kernel
theorem dO_ofReals_15 : decode bO_ofReals 15 = .ok (.aload_n 1, 1) := by decide +kernel
theorem dO_ofReals_16 : decode bO_ofReals 16 = .ok (.invokevirtual 51, 3) := by decide +kernel
theorem dO_ofReals_19 : decode bO_ofReals 19 = .ok (.invokestatic 29, 3) := by decide +kernel
theorem dO_ofReals_22 : decode bO_ofReals 22 = .ok (.ireturn, 1) := by decide +kernel
theorem dO_ofReals_23 : decode bO_ofReals 23 = .ok (.aload_n 0, 1) := by decide +kernel
theorem dO_ofReals_24 : decode bO_ofReals 24 = .ok (.invokevirtual 51, 3) := by decide +kernel
theorem dO_ofReals_27 : decode bO_ofReals 27 = .ok (.ifCond .ne 7, 3) := by decide +kernel
theorem dO_ofReals_30 : decode bO_ofReals 30 = .ok (.iconst 0, 1) := by decide +kernel
theorem dO_ofReals_31 : decode bO_ofReals 31 = .ok (.goto 13, 3) := by decide +kernel
theorem dO_ofReals_34 : decode bO_ofReals 34 = .ok (.aload_n 0, 1) := by decide +kernel
theorem dO_ofReals_35 : decode bO_ofReals 35 = .ok (.invokevirtual 51, 3) := by decide +kernel
theorem dO_ofReals_38 : decode bO_ofReals 38 = .ok (.aload_n 0, 1) := by decide +kernel
theorem dO_ofReals_39 : decode bO_ofReals 39 = .ok (.aload_n 1, 1) := by decide +kernel
theorem dO_ofReals_40 : decode bO_ofReals 40 = .ok (.invokestatic 65, 3) := by decide +kernel
theorem dO_ofReals_43 : decode bO_ofReals 43 = .ok (.imul, 1) := by decide +kernel
theorem dO_ofReals_44 : decode bO_ofReals 44 = .ok (.ireturn, 1) := by decide +kernel
theorem dN_kind_0 : decode bN_kind 0 = .ok (.iload_n 1, 1) := by decide +kernel
theorem dN_kind_1 : decode bN_kind 1 = .ok (.invokestatic 26, 3) := by decide +kernel
theorem dN_kind_4 : decode bN_kind 4 = .ok (.ifCond .eq 15, 3) := by decide +kernel
theorem dN_kind_7 : decode bN_kind 7 = .ok (.aload_n 0, 1) := by decide +kernel
theorem dN_kind_8 : decode bN_kind 8 = .ok (.getfield 11, 3) := by decide +kernel
theorem dN_kind_11 : decode bN_kind 11 = .ok (.iload_n 1, 1) := by decide +kernel
theorem dN_kind_12 : decode bN_kind 12 = .ok (.aaload, 1) := by decide +kernel
theorem dN_kind_13 : decode bN_kind 13 = .ok (.getfield 71, 3) := by decide +kernel
theorem dN_kind_16 : decode bN_kind 16 = .ok (.goto 4, 3) := by decide +kernel
theorem dN_kind_19 : decode bN_kind 19 = .ok (.iconst (-1), 1) := by decide +kernel
theorem dN_kind_20 : decode bN_kind 20 = .ok (.ireturn, 1) := by decide +kernel
theorem dN_number_0 : decode bN_number 0 = .ok (.iload_n 1, 1) := by decide +kernel
theorem dN_number_1 : decode bN_number 1 = .ok (.invokestatic 26, 3) := by decide +kernel
theorem dN_number_4 : decode bN_number 4 = .ok (.ifCond .eq 15, 3) := by decide +kernel
theorem dN_number_7 : decode bN_number 7 = .ok (.aload_n 0, 1) := by decide +kernel
theorem dN_number_8 : decode bN_number 8 = .ok (.getfield 11, 3) := by decide +kernel
theorem dN_number_11 : decode bN_number 11 = .ok (.iload_n 1, 1) := by decide +kernel
theorem dN_number_12 : decode bN_number 12 = .ok (.aaload, 1) := by decide +kernel
theorem dN_number_13 : decode bN_number 13 = .ok (.getfield 38, 3) := by decide +kernel
theorem dN_number_16 : decode bN_number 16 = .ok (.goto 4, 3) := by decide +kernel
theorem dN_number_19 : decode bN_number 19 = .ok (.lconst 0, 1) := by decide +kernel
theorem dN_number_20 : decode bN_number 20 = .ok (.lreturn, 1) := by decide +kernel
theorem dN_exponent_0 : decode bN_exponent 0 = .ok (.iload_n 1, 1) := by decide +kernel
theorem dN_exponent_1 : decode bN_exponent 1 = .ok (.invokestatic 26, 3) := by decide +kernel
theorem dN_exponent_4 : decode bN_exponent 4 = .ok (.ifCond .eq 15, 3) := by decide +kernel
theorem dN_exponent_7 : decode bN_exponent 7 = .ok (.aload_n 0, 1) := by decide +kernel
theorem dN_exponent_8 : decode bN_exponent 8 = .ok (.getfield 11, 3) := by decide +kernel
theorem dN_exponent_11 : decode bN_exponent 11 = .ok (.iload_n 1, 1) := by decide +kernel
theorem dN_exponent_12 : decode bN_exponent 12 = .ok (.aaload, 1) := by decide +kernel
theorem dN_exponent_13 : decode bN_exponent 13 = .ok (.getfield 42, 3) := by decide +kernel
theorem dN_exponent_16 : decode bN_exponent 16 = .ok (.goto 4, 3) := by decide +kernel
theorem dN_exponent_19 : decode bN_exponent 19 = .ok (.iconst 0, 1) := by decide +kernel
theorem dN_exponent_20 : decode bN_exponent 20 = .ok (.ireturn, 1) := by decide +kernel
theorem dN_sum_0 : decode bN_sum 0 = .ok (.iload_n 1, 1) := by decide +kernel
theorem dN_sum_1 : decode bN_sum 1 = .ok (.invokestatic 26, 3) := by decide +kernel
theorem dN_sum_4 : decode bN_sum 4 = .ok (.ifCond .eq 11, 3) := by decide +kernel
theorem dN_sum_7 : decode bN_sum 7 = .ok (.iload_n 2, 1) := by decide +kernel
theorem dN_sum_8 : decode bN_sum 8 = .ok (.iload_n 3, 1) := by decide +kernel
theorem dN_sum_9 : decode bN_sum 9 = .ok (.invokestatic 80, 3) := by decide +kernel
theorem dN_sum_12 : decode bN_sum 12 = .ok (.ifCond .ne 5, 3) := by decide +kernel
theorem dN_sum_15 : decode bN_sum 15 = .ok (.iconst 0, 1) := by decide +kernel
theorem dN_sum_16 : decode bN_sum 16 = .ok (.ireturn, 1) := by decide +kernel
theorem dN_sum_17 : decode bN_sum 17 = .ok (.aload_n 0, 1) := by decide +kernel
theorem dN_sum_18 : decode bN_sum 18 = .ok (.getfield 16, 3) := by decide +kernel
theorem dN_sum_21 : decode bN_sum 21 = .ok (.lconst 0, 1) := by decide +kernel
theorem dN_sum_22 : decode bN_sum 22 = .ok (.invokevirtual 30, 3) := by decide +kernel
theorem dN_sum_25 : decode bN_sum 25 = .ok (.iconst 0, 1) := by decide +kernel
theorem dN_sum_26 : decode bN_sum 26 = .ok (.istore 4, 2) := by decide +kernel
theorem dN_sum_28 : decode bN_sum 28 = .ok (.iload 4, 2) := by decide +kernel
theorem dN_sum_30 : decode bN_sum 30 = .ok (.iload_n 3, 1) := by decide +kernel
theorem dN_sum_31 : decode bN_sum 31 = .ok (.if_icmp .ge 31, 3) := by decide +kernel
theorem dN_sum_34 : decode bN_sum 34 = .ok (.aload_n 0, 1) := by decide +kernel
theorem dN_sum_35 : decode bN_sum 35 = .ok (.getfield 20, 3) := by decide +kernel
theorem dN_sum_38 : decode bN_sum 38 = .ok (.aload_n 0, 1) := by decide +kernel
theorem dN_sum_39 : decode bN_sum 39 = .ok (.getfield 11, 3) := by decide +kernel
theorem dN_sum_42 : decode bN_sum 42 = .ok (.iload_n 2, 1) := by decide +kernel
theorem dN_sum_43 : decode bN_sum 43 = .ok (.iload 4, 2) := by decide +kernel
theorem dN_sum_45 : decode bN_sum 45 = .ok (.iadd, 1) := by decide +kernel
theorem dN_sum_46 : decode bN_sum 46 = .ok (.aaload, 1) := by decide +kernel
theorem dN_sum_47 : decode bN_sum 47 = .ok (.invokevirtual 46, 3) := by decide +kernel
theorem dN_sum_50 : decode bN_sum 50 = .ok (.aload_n 0, 1) := by decide +kernel
theorem dN_sum_51 : decode bN_sum 51 = .ok (.iconst 0, 1) := by decide +kernel
theorem dN_sum_52 : decode bN_sum 52 = .ok (.invokevirtual 54, 3) := by decide +kernel
theorem dN_sum_55 : decode bN_sum 55 = .ok (.pop, 1) := by decide +kernel
theorem dN_sum_56 : decode bN_sum 56 = .ok (.iinc 4 1, 3) := by decide +kernel
theorem dN_sum_59 : decode bN_sum 59 = .ok (.goto (-31), 3) := by decide +kernel
theorem dN_sum_62 : decode bN_sum 62 = .ok (.aload_n 0, 1) := by decide +kernel
theorem dN_sum_63 : decode bN_sum 63 = .ok (.getfield 11, 3) := by decide +kernel
theorem dN_sum_66 : decode bN_sum 66 = .ok (.iload_n 1, 1) := by decide +kernel
theorem dN_sum_67 : decode bN_sum 67 = .ok (.aaload, 1) := by decide +kernel
theorem dN_sum_68 : decode bN_sum 68 = .ok (.aload_n 0, 1) := by decide +kernel
theorem dN_sum_69 : decode bN_sum 69 = .ok (.getfield 16, 3) := by decide +kernel
theorem dN_sum_72 : decode bN_sum 72 = .ok (.invokevirtual 46, 3) := by decide +kernel
theorem dN_sum_75 : decode bN_sum 75 = .ok (.iconst 1, 1) := by decide +kernel
theorem dN_sum_76 : decode bN_sum 76 = .ok (.ireturn, 1) := by decide +kernel
theorem dN_isRow_0 : decode bN_isRow 0 = .ok (.iload_n 0, 1) := by decide +kernel
theorem dN_isRow_1 : decode bN_isRow 1 = .ok (.ifCond .lt 25, 3) := by decide +kernel
theorem dN_isRow_4 : decode bN_isRow 4 = .ok (.iload_n 0, 1) := by decide +kernel
theorem dN_isRow_5 : decode bN_isRow 5 = .ok (.bipush 32, 2) := by decide +kernel
theorem dN_isRow_7 : decode bN_isRow 7 = .ok (.if_icmp .gt 19, 3) := by decide +kernel
theorem dN_isRow_10 : decode bN_isRow 10 = .ok (.iload_n 1, 1) := by decide +kernel
theorem dN_isRow_11 : decode bN_isRow 11 = .ok (.ifCond .lt 15, 3) := by decide +kernel
theorem dN_isRow_14 : decode bN_isRow 14 = .ok (.iload_n 1, 1) := by decide +kernel
theorem dN_isRow_15 : decode bN_isRow 15 = .ok (.bipush 32, 2) := by decide +kernel
theorem dN_isRow_17 : decode bN_isRow 17 = .ok (.iload_n 0, 1) := by decide +kernel
theorem dN_isRow_18 : decode bN_isRow 18 = .ok (.isub, 1) := by decide +kernel
theorem dN_isRow_19 : decode bN_isRow 19 = .ok (.if_icmp .gt 7, 3) := by decide +kernel
theorem dN_isRow_22 : decode bN_isRow 22 = .ok (.iconst 1, 1) := by decide +kernel
theorem dN_isRow_23 : decode bN_isRow 23 = .ok (.goto 4, 3) := by decide +kernel
theorem dN_isRow_26 : decode bN_isRow 26 = .ok (.iconst 0, 1) := by decide +kernel
theorem dN_isRow_27 : decode bN_isRow 27 = .ok (.ireturn, 1) := by decide +kernel
theorem dN_polynomial_0 : decode bN_polynomial 0 = .ok (.iload_n 1, 1) := by decide +kernel
theorem dN_polynomial_1 : decode bN_polynomial 1 = .ok (.invokestatic 26, 3) := by decide +kernel
theorem dN_polynomial_4 : decode bN_polynomial 4 = .ok (.ifCond .eq 19, 3) := by decide +kernel
theorem dN_polynomial_7 : decode bN_polynomial 7 = .ok (.iload_n 2, 1) := by decide +kernel
theorem dN_polynomial_8 : decode bN_polynomial 8 = .ok (.invokestatic 26, 3) := by decide +kernel
theorem dN_polynomial_11 : decode bN_polynomial 11 = .ok (.ifCond .eq 12, 3) := by decide +kernel
theorem dN_polynomial_14 : decode bN_polynomial 14 = .ok (.iload_n 3, 1) := by decide +kernel
theorem dN_polynomial_15 : decode bN_polynomial 15 = .ok (.iload 4, 2) := by decide +kernel
theorem dN_polynomial_17 : decode bN_polynomial 17 = .ok (.invokestatic 80, 3) := by decide +kernel
theorem dN_polynomial_20 : decode bN_polynomial 20 = .ok (.ifCond .ne 5, 3) := by decide +kernel
theorem dN_polynomial_23 : decode bN_polynomial 23 = .ok (.iconst 0, 1) := by decide +kernel
theorem dN_polynomial_24 : decode bN_polynomial 24 = .ok (.ireturn, 1) := by decide +kernel
theorem dN_polynomial_25 : decode bN_polynomial 25 = .ok (.aload_n 0, 1) := by decide +kernel
theorem dN_polynomial_26 : decode bN_polynomial 26 = .ok (.getfield 16, 3) := by decide +kernel
theorem dN_polynomial_29 : decode bN_polynomial 29 = .ok (.lconst 0, 1) := by decide +kernel
theorem dN_polynomial_30 : decode bN_polynomial 30 = .ok (.invokevirtual 30, 3) := by decide +kernel
theorem dN_polynomial_33 : decode bN_polynomial 33 = .ok (.iload 4, 2) := by decide +kernel
theorem dN_polynomial_35 : decode bN_polynomial 35 = .ok (.iconst 1, 1) := by decide +kernel
theorem dN_polynomial_36 : decode bN_polynomial 36 = .ok (.isub, 1) := by decide +kernel
theorem dN_polynomial_37 : decode bN_polynomial 37 = .ok (.istore 5, 2) := by decide +kernel
theorem dN_polynomial_39 : decode bN_polynomial 39 = .ok (.iload 5, 2) := by decide +kernel
theorem dN_polynomial_41 : decode bN_polynomial 41 = .ok (.ifCond .lt 50, 3) := by decide +kernel
theorem dN_polynomial_44 : decode bN_polynomial 44 = .ok (.aload_n 0, 1) := by decide +kernel
theorem dN_polynomial_45 : decode bN_polynomial 45 = .ok (.getfield 20, 3) := by decide +kernel
theorem dN_polynomial_48 : decode bN_polynomial 48 = .ok (.aload_n 0, 1) := by decide +kernel
theorem dN_polynomial_49 : decode bN_polynomial 49 = .ok (.getfield 11, 3) := by decide +kernel
theorem dN_polynomial_52 : decode bN_polynomial 52 = .ok (.iload_n 2, 1) := by decide +kernel
theorem dN_polynomial_53 : decode bN_polynomial 53 = .ok (.aaload, 1) := by decide +kernel
theorem dN_polynomial_54 : decode bN_polynomial 54 = .ok (.invokevirtual 46, 3) := by decide +kernel
theorem dN_polynomial_57 : decode bN_polynomial 57 = .ok (.aload_n 0, 1) := by decide +kernel
theorem dN_polynomial_58 : decode bN_polynomial 58 = .ok (.iconst 2, 1) := by decide +kernel
theorem dN_polynomial_59 : decode bN_polynomial 59 = .ok (.invokevirtual 54, 3) := by decide +kernel
theorem dN_polynomial_62 : decode bN_polynomial 62 = .ok (.pop, 1) := by decide +kernel
theorem dN_polynomial_63 : decode bN_polynomial 63 = .ok (.aload_n 0, 1) := by decide +kernel
theorem dN_polynomial_64 : decode bN_polynomial 64 = .ok (.getfield 20, 3) := by decide +kernel
theorem dN_polynomial_67 : decode bN_polynomial 67 = .ok (.aload_n 0, 1) := by decide +kernel
theorem dN_polynomial_68 : decode bN_polynomial 68 = .ok (.getfield 11, 3) := by decide +kernel
theorem dN_polynomial_71 : decode bN_polynomial 71 = .ok (.iload_n 3, 1) := by decide +kernel
theorem dN_polynomial_72 : decode bN_polynomial 72 = .ok (.iload 5, 2) := by decide +kernel
theorem dN_polynomial_74 : decode bN_polynomial 74 = .ok (.iadd, 1) := by decide +kernel
theorem dN_polynomial_75 : decode bN_polynomial 75 = .ok (.aaload, 1) := by decide +kernel
theorem dN_polynomial_76 : decode bN_polynomial 76 = .ok (.invokevirtual 46, 3) := by decide +kernel
theorem dN_polynomial_79 : decode bN_polynomial 79 = .ok (.aload_n 0, 1) := by decide +kernel
theorem dN_polynomial_80 : decode bN_polynomial 80 = .ok (.iconst 0, 1) := by decide +kernel
theorem dN_polynomial_81 : decode bN_polynomial 81 = .ok (.invokevirtual 54, 3) := by decide +kernel
theorem dN_polynomial_84 : decode bN_polynomial 84 = .ok (.pop, 1) := by decide +kernel
theorem dN_polynomial_85 : decode bN_polynomial 85 = .ok (.iinc 5 (-1), 3) := by decide +kernel
theorem dN_polynomial_88 : decode bN_polynomial 88 = .ok (.goto (-49), 3) := by decide +kernel
theorem dN_polynomial_91 : decode bN_polynomial 91 = .ok (.aload_n 0, 1) := by decide +kernel
theorem dN_polynomial_92 : decode bN_polynomial 92 = .ok (.getfield 11, 3) := by decide +kernel
theorem dN_polynomial_95 : decode bN_polynomial 95 = .ok (.iload_n 1, 1) := by decide +kernel
theorem dN_polynomial_96 : decode bN_polynomial 96 = .ok (.aaload, 1) := by decide +kernel
theorem dN_polynomial_97 : decode bN_polynomial 97 = .ok (.aload_n 0, 1) := by decide +kernel
theorem dN_polynomial_98 : decode bN_polynomial 98 = .ok (.getfield 16, 3) := by decide +kernel
theorem dN_polynomial_101 : decode bN_polynomial 101 = .ok (.invokevirtual 46, 3) := by decide +kernel
theorem dN_polynomial_104 : decode bN_polynomial 104 = .ok (.iconst 1, 1) := by decide +kernel
theorem dN_polynomial_105 : decode bN_polynomial 105 = .ok (.ireturn, 1) := by decide +kernel
theorem dN_sort_0 : decode bN_sort 0 = .ok (.iload_n 1, 1) := by decide +kernel
theorem dN_sort_1 : decode bN_sort 1 = .ok (.iload_n 2, 1) := by decide +kernel
theorem dN_sort_2 : decode bN_sort 2 = .ok (.invokestatic 80, 3) := by decide +kernel
theorem dN_sort_5 : decode bN_sort 5 = .ok (.ifCond .ne 5, 3) := by decide +kernel
theorem dN_sort_8 : decode bN_sort 8 = .ok (.iconst 0, 1) := by decide +kernel
theorem dN_sort_9 : decode bN_sort 9 = .ok (.ireturn, 1) := by decide +kernel
theorem dN_sort_10 : decode bN_sort 10 = .ok (.iload_n 1, 1) := by decide +kernel
theorem dN_sort_11 : decode bN_sort 11 = .ok (.iconst 1, 1) := by decide +kernel
theorem dN_sort_12 : decode bN_sort 12 = .ok (.iadd, 1) := by decide +kernel
theorem dN_sort_13 : decode bN_sort 13 = .ok (.istore_n 3, 1) := by decide +kernel
theorem dN_sort_14 : decode bN_sort 14 = .ok (.iload_n 3, 1) := by decide +kernel
theorem dN_sort_15 : decode bN_sort 15 = .ok (.iload_n 1, 1) := by decide +kernel
theorem dN_sort_16 : decode bN_sort 16 = .ok (.iload_n 2, 1) := by decide +kernel
theorem dN_sort_17 : decode bN_sort 17 = .ok (.iadd, 1) := by decide +kernel
theorem dN_sort_18 : decode bN_sort 18 = .ok (.if_icmp .ge 15, 3) := by decide +kernel
theorem dN_sort_21 : decode bN_sort 21 = .ok (.aload_n 0, 1) := by decide +kernel
theorem dN_sort_22 : decode bN_sort 22 = .ok (.iload_n 1, 1) := by decide +kernel
theorem dN_sort_23 : decode bN_sort 23 = .ok (.iload_n 3, 1) := by decide +kernel
theorem dN_sort_24 : decode bN_sort 24 = .ok (.invokevirtual 84, 3) := by decide +kernel
theorem dN_sort_27 : decode bN_sort 27 = .ok (.iinc 3 1, 3) := by decide +kernel
theorem dN_sort_30 : decode bN_sort 30 = .ok (.goto (-16), 3) := by decide +kernel
theorem dN_sort_33 : decode bN_sort 33 = .ok (.iconst 1, 1) := by decide +kernel
theorem dN_sort_34 : decode bN_sort 34 = .ok (.ireturn, 1) := by decide +kernel
theorem dN_insert_0 : decode bN_insert 0 = .ok (.aload_n 0, 1) := by decide +kernel
theorem dN_insert_1 : decode bN_insert 1 = .ok (.getfield 11, 3) := by decide +kernel
theorem dN_insert_4 : decode bN_insert 4 = .ok (.iload_n 2, 1) := by decide +kernel
theorem dN_insert_5 : decode bN_insert 5 = .ok (.aaload, 1) := by decide +kernel
theorem dN_insert_6 : decode bN_insert 6 = .ok (.astore_n 3, 1) := by decide +kernel
theorem dN_insert_7 : decode bN_insert 7 = .ok (.iload_n 2, 1) := by decide +kernel
theorem dN_insert_8 : decode bN_insert 8 = .ok (.istore 4, 2) := by decide +kernel
theorem dN_insert_10 : decode bN_insert 10 = .ok (.iload 4, 2) := by decide +kernel
theorem dN_insert_12 : decode bN_insert 12 = .ok (.iload_n 1, 1) := by decide +kernel
theorem dN_insert_13 : decode bN_insert 13 = .ok (.if_icmp .le 41, 3) := by decide +kernel
theorem dN_insert_16 : decode bN_insert 16 = .ok (.aload_n 3, 1) := by decide +kernel
theorem dN_insert_17 : decode bN_insert 17 = .ok (.aload_n 0, 1) := by decide +kernel
theorem dN_insert_18 : decode bN_insert 18 = .ok (.getfield 11, 3) := by decide +kernel
theorem dN_insert_21 : decode bN_insert 21 = .ok (.iload 4, 2) := by decide +kernel
theorem dN_insert_23 : decode bN_insert 23 = .ok (.iconst 1, 1) := by decide +kernel
theorem dN_insert_24 : decode bN_insert 24 = .ok (.isub, 1) := by decide +kernel
theorem dN_insert_25 : decode bN_insert 25 = .ok (.aaload, 1) := by decide +kernel
theorem dN_insert_26 : decode bN_insert 26 = .ok (.invokestatic 88, 3) := by decide +kernel
theorem dN_insert_29 : decode bN_insert 29 = .ok (.ifCond .eq 25, 3) := by decide +kernel
theorem dN_insert_32 : decode bN_insert 32 = .ok (.aload_n 0, 1) := by decide +kernel
theorem dN_insert_33 : decode bN_insert 33 = .ok (.getfield 11, 3) := by decide +kernel
theorem dN_insert_36 : decode bN_insert 36 = .ok (.iload 4, 2) := by decide +kernel
theorem dN_insert_38 : decode bN_insert 38 = .ok (.aload_n 0, 1) := by decide +kernel
theorem dN_insert_39 : decode bN_insert 39 = .ok (.getfield 11, 3) := by decide +kernel
theorem dN_insert_42 : decode bN_insert 42 = .ok (.iload 4, 2) := by decide +kernel
theorem dN_insert_44 : decode bN_insert 44 = .ok (.iconst 1, 1) := by decide +kernel
theorem dN_insert_45 : decode bN_insert 45 = .ok (.isub, 1) := by decide +kernel
theorem dN_insert_46 : decode bN_insert 46 = .ok (.aaload, 1) := by decide +kernel
theorem dN_insert_47 : decode bN_insert 47 = .ok (.aastore, 1) := by decide +kernel
theorem dN_insert_48 : decode bN_insert 48 = .ok (.iinc 4 (-1), 3) := by decide +kernel
theorem dN_insert_51 : decode bN_insert 51 = .ok (.goto (-41), 3) := by decide +kernel
theorem dN_insert_54 : decode bN_insert 54 = .ok (.aload_n 0, 1) := by decide +kernel
theorem dN_insert_55 : decode bN_insert 55 = .ok (.getfield 11, 3) := by decide +kernel
theorem dN_insert_58 : decode bN_insert 58 = .ok (.iload 4, 2) := by decide +kernel
theorem dN_insert_60 : decode bN_insert 60 = .ok (.aload_n 3, 1) := by decide +kernel
theorem dN_insert_61 : decode bN_insert 61 = .ok (.aastore, 1) := by decide +kernel
theorem dN_insert_62 : decode bN_insert 62 = .ok (.return_, 1) := by decide +kernel
theorem dO_goesBefore_0 : decode bO_goesBefore 0 = .ok (.aload_n 0, 1) := by decide +kernel
theorem dO_goesBefore_1 : decode bO_goesBefore 1 = .ok (.getfield 9, 3) := by decide +kernel
theorem dO_goesBefore_4 : decode bO_goesBefore 4 = .ok (.iconst 5, 1) := by decide +kernel
theorem dO_goesBefore_5 : decode bO_goesBefore 5 = .ok (.if_icmp .eq 11, 3) := by decide +kernel
theorem dO_goesBefore_8 : decode bO_goesBefore 8 = .ok (.aload_n 1, 1) := by decide +kernel
theorem dO_goesBefore_9 : decode bO_goesBefore 9 = .ok (.getfield 9, 3) := by decide +kernel
theorem dO_goesBefore_12 : decode bO_goesBefore 12 = .ok (.iconst 5, 1) := by decide +kernel
theorem dO_goesBefore_13 : decode bO_goesBefore 13 = .ok (.if_icmp .ne 25, 3) := by decide +kernel
theorem dO_goesBefore_16 : decode bO_goesBefore 16 = .ok (.aload_n 0, 1) := by decide +kernel
theorem dO_goesBefore_17 : decode bO_goesBefore 17 = .ok (.getfield 9, 3) := by decide +kernel
theorem dO_goesBefore_20 : decode bO_goesBefore 20 = .ok (.iconst 5, 1) := by decide +kernel
theorem dO_goesBefore_21 : decode bO_goesBefore 21 = .ok (.if_icmp .eq 15, 3) := by decide +kernel
theorem dO_goesBefore_24 : decode bO_goesBefore 24 = .ok (.aload_n 1, 1) := by decide +kernel
theorem dO_goesBefore_25 : decode bO_goesBefore 25 = .ok (.getfield 9, 3) := by decide +kernel
theorem dO_goesBefore_28 : decode bO_goesBefore 28 = .ok (.iconst 5, 1) := by decide +kernel
theorem dO_goesBefore_29 : decode bO_goesBefore 29 = .ok (.if_icmp .ne 7, 3) := by decide +kernel
theorem dO_goesBefore_32 : decode bO_goesBefore 32 = .ok (.iconst 1, 1) := by decide +kernel
theorem dO_goesBefore_33 : decode bO_goesBefore 33 = .ok (.goto 4, 3) := by decide +kernel
theorem dO_goesBefore_36 : decode bO_goesBefore 36 = .ok (.iconst 0, 1) := by decide +kernel
theorem dO_goesBefore_37 : decode bO_goesBefore 37 = .ok (.ireturn, 1) := by decide +kernel
theorem dO_goesBefore_38 : decode bO_goesBefore 38 = .ok (.aload_n 0, 1) := by decide +kernel
theorem dO_goesBefore_39 : decode bO_goesBefore 39 = .ok (.aload_n 1, 1) := by decide +kernel
theorem dO_goesBefore_40 : decode bO_goesBefore 40 = .ok (.invokestatic 15, 3) := by decide +kernel
theorem dO_goesBefore_43 : decode bO_goesBefore 43 = .ok (.ifCond .ge 7, 3) := by decide +kernel
theorem dO_goesBefore_46 : decode bO_goesBefore 46 = .ok (.iconst 1, 1) := by decide +kernel
theorem dO_goesBefore_47 : decode bO_goesBefore 47 = .ok (.goto 4, 3) := by decide +kernel
theorem dO_goesBefore_50 : decode bO_goesBefore 50 = .ok (.iconst 0, 1) := by decide +kernel
theorem dO_goesBefore_51 : decode bO_goesBefore 51 = .ok (.ireturn, 1) := by decide +kernel
end
section
/-! THE LAYER. Z k n tys pc lv st w: with k cells of n slots made, array kinds tys, at pc, places lv, stack st, world w, the machine comes to its goal. zI says that Z is such a predicate of a method. -/
abbrev zT : Type := List (ClassId × FieldType)
abbrev zZ : Type := Nat → Nat → zT → Nat → List (Nat × Value) → List Value → va_W → Prop
abbrev zP : Type := Option Value → va_W → zT → Prop
/-- links to members of nest mates: fields, methods -/
abbrev zNf : Type := List (String × Nat × String × String × String × String)
abbrev zNm : Type := List (String × Nat × MethodName × String)
def zN (nf : zNf) (nm : zNm) (U : State) : Prop := (∀ q ∈ nf, va_Nw (.fieldLinkNest q.1 q.2.1 q.2.2.1 q.2.2.2.1 q.2.2.2.2.1 q.2.2.2.2.2) U) ∧ ∀ q ∈ nm, va_Nw (.methodLinkNest q.1 q.2.1 q.2.2.1 q.2.2.2) U
theorem zN.warm {nf : zNf} {nm : zNm} {s U : State} (hW : s.WarmedH U.vm) (h : zN nf nm s) : zN nf nm U := ⟨fun q hq => va_Nw.warmF hW (h.1 q hq), fun q hq => va_Nw.warmM hW (h.2 q hq)⟩
theorem zN.same {nf : zNf} {nm : zNm} {s U : State} (hv : s.vm = U.vm) (h : zN nf nm s) : zN nf nm U := ⟨fun q hq => va_Nw.same rfl hv (h.1 q hq), fun q hq => va_Nw.same rfl hv (h.2 q hq)⟩
/-- what stands at a return -/
def zE (cc : ByteArray) (pc : Nat) (ret : Option FieldType) (v : Option Value) : Prop :=
  (v = none ∧ ret = none ∧ decode cc pc = .ok (.return_, 1)) ∨ (∃ (x : Int32) (ty : FieldType), v = some (.int x) ∧ ret = some ty ∧ narrow ty (.int x) = .int x ∧ decode cc pc = .ok (.ireturn, 1)) ∨ (∃ x : Int64, v = some (.long x) ∧ ret = some .long ∧ decode cc pc = .ok (.lreturn, 1))
/-- the end of a contract -/
def zC (D : va_G) (cl : List vw_C) (post : zP) (w0 : va_W) (sz : Nat) : Array Value → State → Outcome → State → Prop := fun _ st oc t =>
  (∃ (v : Option Value) (w : va_W) (tys : zT), oc = .returned v ∧ post v w tys ∧ va_P D cl w t.heap ∧ va_K D cl tys t ∧ va_D (va_A w0 sz) w) ∧ va_F (va_A w0 sz) st t
/-- its start -/
def zB (D : va_G) (cl : List vw_C) (nf : zNf) (nm : zNm) (As : List Value) (w0 : va_W) (tys : zT) (sz : Nat) : Array Value → State → Prop := va_Pc As (fun U => U.heap.size = sz ∧ va_P D cl w0 U.heap ∧ va_K D cl tys U ∧ va_D (fun _ => True) w0 ∧ zN nf nm U)
/-- a contract -/
def zM (l : Launch) (D : va_G) (cl : List vw_C) (nf : zNf) (nm : zNm) (y : MethodName) (ws : List Cond) (rm : Room) (As : List Value) (w0 : va_W) (tys : zT) (post : zP) : Prop :=
  ∀ sz : Nat, Met l y ws rm (zB D cl nf nm As w0 tys sz) (zC D cl post w0 sz) rm.cells rm.slots (va_A w0 sz)
def zI (l : Launch) (D : va_G) (cl : List vw_C) (nf : zNf) (nm : zNm) (own : String) (cc : ByteArray) (nL : Nat) (ret : Option FieldType) (Ts : List Cond) (R : Room) (mc ms : Nat) (post : zP) (isI : Bool) (Z : zZ) : Prop :=
  ∃ (p : Program) (e : Env) (s : State) (m : MethodId) (args : Array Value) (below : List Frame) (meth : Method) (c : Code) (Q : State → Prop) (A : Nat → Prop),
    p.tables.exec = Jvm.exec ∧ c.code = cc ∧ c.maxLocals = nL ∧ s.vm.findClass own = some m.cls ∧ (∀ w ∈ Ts, w.before args s = true) ∧ zN nf nm s ∧ (∀ q : Nat, s.heap.size ≤ q → A q) ∧ (isI = true → meth.name = "<init>") ∧
    (∀ (v : Option Value) (w : va_W) (tys : zT) (H : Heap) (locs : List Loc) (pc : Nat) (ls : Array Slot), post v w tys → va_K D cl tys s → va_P D cl w H → va_D A w → va_S A s.heap H locs → zE cc pc ret v → W p l e R s m args below meth c H locs mc ms Q (F0 m pc ls v.toList)) ∧
    Z = fun k n tys pc lv st w => ∀ (ls : Array Slot) (H : Heap) (locs : List Loc), lv_has ls nL lv → va_K D cl tys s → va_P D cl w H → va_D A w → va_S A s.heap H locs → W p l e R s m args below meth c H locs k n Q (F0 m pc ls st)
set_option maxHeartbeats 4000000 in
/-- a contract out of a walk -/
theorem z_met {l : Launch} {D : va_G} {cl : List vw_C} {nf : zNf} {nm : zNm} {y : MethodName} {ws ws' : List Cond} {rm : Room} {As : List Value} {w0 : va_W} {tys : zT} {post : zP} {cc : ByteArray} {maxL : Nat} {ret : Option FieldType} {isI : Bool} {own : String}
    (hy : plainFor y = true) (hc : y.cls = own) (hw : ws = Cond.code y cc maxL ret :: ws') (hi : isI = true → y.name = "<init>") (hlen : (lg_sl As).length ≤ maxL)
    (h : ∀ Z : zZ, zI l D cl nf nm own cc maxL ret ws rm rm.cells rm.slots post isI Z → Z 0 0 tys 0 (lv_args 0 As) [] w0) : zM l D cl nf nm y ws rm As w0 tys post := by
  intro sz
  refine va_MetF (cc := cc) (maxL := maxL) (ret := ret) hy hw ?_
  intro p e s m args below meth c s₁ B hml hv
  obtain ⟨rfl, hsz, hP, hK, hD0, hN⟩ := hv
  have hx := B.exec
  have hb := B.bytes
  have hr := B.returns
  have hts := atoms_spec (ws := ws) B.pre
  have hown : s.vm.findClass own = some m.cls := by rw [← hc]; exact findClass_of_methodNamed B.named
  have hlocks := B.notSynchronized
  have hin : isI = true → meth.name = "<init>" := fun q => by rw [(name_of_methodNamed B.named B.method).1]; exact hi q
  subst hsz
  have hD := hD0.self (sz := s.heap.size)
  have hA : ∀ q : Nat, s.heap.size ≤ q → va_A w0 s.heap.size q := fun q h => Or.inr h
  have hl := lv_entry As (n := maxL) hlen
  rw [lg_entry_eq]
  generalize (lg_sl As ++ List.replicate (maxL - (lg_sl As).length) Slot.unset).toArray = ls at hl ⊢
  refine h _ ⟨p, e, s, m, As.toArray, below, meth, c, MQ below (zC D cl post w0 s.heap.size) As.toArray s rm.cells rm.slots (va_A w0 s.heap.size), va_A w0 s.heap.size, hx, hb, hml, hown, hts, hN, hA, hin, ?_, rfl⟩ ls s.heap [] hl hK hP hD va_S.rf
  intro v w tys' H locs pc ls' hp hK' hP' hD' hS' hE
  have hq : ∀ t : State, t.heap = H → s.WarmedH t.vm → zC D cl post w0 s.heap.size As.toArray s (.returned v) t := fun t ht hW => ⟨⟨v, w, tys', rfl, hp, by rw [ht]; exact hP', va_K.moved hW.alike hK', hD'⟩, hS'.F ht⟩
  rcases hE with ⟨rfl, h1, h2⟩ | ⟨x, ty, rfl, h1, h2, h3⟩ | ⟨x, rfl, h1, h2⟩
  · exact W.vret hx hb (hr.trans h1) hq hS'.2.2 h2 hlocks
  · exact W.zret hx hb (hr.trans h1) h2 hq hS'.2.2 h3 hlocks
  · exact W.lret hx hb (hr.trans h1) hq hS'.2.2 h2 hlocks
section ZL
variable {l : Launch} {D : va_G} {cl : List vw_C} {nf : zNf} {nm : zNm} {own : String} {cc : ByteArray} {nL : Nat} {ret : Option FieldType} {Ts : List Cond} {R : Room} {mc ms : Nat} {post : zP} {isI : Bool} {Z : zZ}
variable {k n pc : Nat} {tys : zT} {lv : List (Nat × Value)} {st : List Value} {w : va_W}
theorem z_ret (hZ : zI l D cl nf nm own cc nL ret Ts R mc ms post isI Z) {v : Option Value} (hE : zE cc pc ret v) (hp : post v w tys) : Z mc ms tys pc lv v.toList w := by
  obtain ⟨p, e, s, m, args, below, meth, c, Q, A, hx, hb, hml, hown, hts, hN, hA, hin0, hret, rfl⟩ := hZ
  intro ls H locs hl hK hP hD hS
  exact hret v w tys H locs pc ls hp hK hP hD hS hE
theorem z_retv (hZ : zI l D cl nf nm own cc nL ret Ts R mc ms post isI Z) (hdg : decode cc pc = .ok (.return_, 1)) (hr : ret = none) (hp : post none w tys) : Z mc ms tys pc lv [] w := z_ret hZ (v := none) (Or.inl ⟨rfl, hr, hdg⟩) hp
theorem z_reti (hZ : zI l D cl nf nm own cc nL ret Ts R mc ms post isI Z) {x : Int32} (hdg : decode cc pc = .ok (.ireturn, 1)) (ty : FieldType) (hr : ret = some ty) (hn : narrow ty (.int x) = .int x) (hp : post (some (.int x)) w tys) : Z mc ms tys pc lv [.int x] w := z_ret hZ (v := some (.int x)) (Or.inr (Or.inl ⟨x, ty, rfl, hr, hn, hdg⟩)) hp
theorem z_retl (hZ : zI l D cl nf nm own cc nL ret Ts R mc ms post isI Z) {x : Int64} (hdg : decode cc pc = .ok (.lreturn, 1)) (hr : ret = some .long) (hp : post (some (.long x)) w tys) : Z mc ms tys pc lv [.long x] w := z_ret hZ (v := some (.long x)) (Or.inr (Or.inr ⟨x, rfl, hr, hdg⟩)) hp
theorem z_sub (hZ : zI l D cl nf nm own cc nL ret Ts R mc ms post isI Z) {lv' : List (Nat × Value)} (ks : List Nat) (hl' : lv_pick lv ks = lv') (kk : Z k n tys pc lv' st w) : Z k n tys pc lv st w := by
  obtain ⟨p, e, s, m, args, below, meth, c, Q, A, hx, hb, hml, hown, hts, hN, hA, hin0, hret, rfl⟩ := hZ
  intro ls H locs hl hK hP hD hS
  exact kk ls H locs (lv_sub hl ks hl') hK hP hD hS
theorem z_widen (hZ : zI l D cl nf nm own cc nL ret Ts R mc ms post isI Z) {k' n' : Nat} (h1 : k ≤ k') (h2 : n ≤ n') (kk : Z k' n' tys pc lv st w) : Z k n tys pc lv st w := by
  obtain ⟨p, e, s, m, args, below, meth, c, Q, A, hx, hb, hml, hown, hts, hN, hA, hin0, hret, rfl⟩ := hZ
  intro ls H locs hl hK hP hD hS
  exact W.widen h1 h2 (kk ls H locs hl hK hP hD hS)
theorem z_tys (hZ : zI l D cl nf nm own cc nL ret Ts R mc ms post isI Z) {tys' : zT} (is : List Nat) (hs : is.filterMap (fun i => tys[i]?) = tys') (kk : Z k n tys' pc lv st w) : Z k n tys pc lv st w := by
  obtain ⟨p, e, s, m, args, below, meth, c, Q, A, hx, hb, hml, hown, hts, hN, hA, hin0, hret, rfl⟩ := hZ
  intro ls H locs hl hK hP hD hS
  exact kk ls H locs hl (hK.sub is hs) hP hD hS
theorem z_by (hZ : zI l D cl nf nm own cc nL ret Ts R mc ms post isI Z) {w' : va_W} (g : Nat → Nat) (hg : ∀ (j : Nat) (q : Nat × va_E), w'[j]? = some q → w[g j]? = some q) (hi : ∀ i j : Nat, i < w'.length → j < w'.length → g i = g j → i = j) (kk : Z k n tys pc lv st w') : Z k n tys pc lv st w := by
  obtain ⟨p, e, s, m, args, below, meth, c, Q, A, hx, hb, hml, hown, hts, hN, hA, hin0, hret, rfl⟩ := hZ
  intro ls H locs hl hK hP hD hS
  exact kk ls H locs hl hK (hP.by g hg) (hD.by g hg hi) hS
theorem z_iconst (hZ : zI l D cl nf nm own cc nL ret Ts R mc ms post isI Z) {z : Int} (v : Int32) (hdg : decode cc pc = .ok (.iconst z, 1)) (hv : Int32.ofInt z = v) (kk : Z k n tys (pc + 1) lv (.int v :: st) w) : Z k n tys pc lv st w := by
  obtain ⟨p, e, s, m, args, below, meth, c, Q, A, hx, hb, hml, hown, hts, hN, hA, hin0, hret, rfl⟩ := hZ
  intro ls H locs hl hK hP hD hS
  exact lv_iconst hx hb hdg hv (kk ls H locs hl hK hP hD hS)
theorem z_bipush (hZ : zI l D cl nf nm own cc nL ret Ts R mc ms post isI Z) {z : Int} (v : Int32) (hdg : decode cc pc = .ok (.bipush z, 2)) (hv : (Int8.ofInt z).toInt32 = v) (kk : Z k n tys (pc + 2) lv (.int v :: st) w) : Z k n tys pc lv st w := by
  obtain ⟨p, e, s, m, args, below, meth, c, Q, A, hx, hb, hml, hown, hts, hN, hA, hin0, hret, rfl⟩ := hZ
  intro ls H locs hl hK hP hD hS
  exact lv_bipush hx hb hdg hv (kk ls H locs hl hK hP hD hS)
theorem z_sipush (hZ : zI l D cl nf nm own cc nL ret Ts R mc ms post isI Z) {z : Int} (v : Int32) (hdg : decode cc pc = .ok (.sipush z, 3)) (hv : (Int16.ofInt z).toInt32 = v) (kk : Z k n tys (pc + 3) lv (.int v :: st) w) : Z k n tys pc lv st w := by
  obtain ⟨p, e, s, m, args, below, meth, c, Q, A, hx, hb, hml, hown, hts, hN, hA, hin0, hret, rfl⟩ := hZ
  intro ls H locs hl hK hP hD hS
  exact lv_sipush hx hb hdg hv (kk ls H locs hl hK hP hD hS)
theorem z_lconst (hZ : zI l D cl nf nm own cc nL ret Ts R mc ms post isI Z) {z : Fin 2} (v : Int64) (hdg : decode cc pc = .ok (.lconst z, 1)) (hv : Int64.ofNat (z : Nat) = v) (kk : Z k n tys (pc + 1) lv (.long v :: st) w) : Z k n tys pc lv st w := by
  obtain ⟨p, e, s, m, args, below, meth, c, Q, A, hx, hb, hml, hown, hts, hN, hA, hin0, hret, rfl⟩ := hZ
  intro ls H locs hl hK hP hD hS
  exact lv_lconst hx hb hdg hv (kk ls H locs hl hK hP hD hS)
theorem z_ldc2 (hZ : zI l D cl nf nm own cc nL ret Ts R mc ms post isI Z) {index : Nat} (v : Int64) (hc : Cond.constantLong own index v ∈ Ts) (hdg : decode cc pc = .ok (.ldc2_w index, 3)) (kk : Z k n tys (pc + 3) lv (.long v :: st) w) : Z k n tys pc lv st w := by
  obtain ⟨p, e, s, m, args, below, meth, c, Q, A, hx, hb, hml, hown, hts, hN, hA, hin0, hret, rfl⟩ := hZ
  intro ls H locs hl hK hP hD hS
  exact lv_ldc2 hx hb hown (hts _ hc) hdg (kk ls H locs hl hK hP hD hS)
theorem z_ldcw (hZ : zI l D cl nf nm own cc nL ret Ts R mc ms post isI Z) {index : Nat} (v : Int32) (hc : Cond.constant own index v ∈ Ts) (hdg : decode cc pc = .ok (.ldc_w index, 3)) (kk : Z k n tys (pc + 3) lv (.int v :: st) w) : Z k n tys pc lv st w := by
  obtain ⟨p, e, s, m, args, below, meth, c, Q, A, hx, hb, hml, hown, hts, hN, hA, hin0, hret, rfl⟩ := hZ
  intro ls H locs hl hK hP hD hS
  exact lv_ldcw hx hb hown (hts _ hc) hdg (kk ls H locs hl hK hP hD hS)
theorem z_ldc (hZ : zI l D cl nf nm own cc nL ret Ts R mc ms post isI Z) {index : Nat} (v : Int32) (hc : Cond.constant own index v ∈ Ts) (hdg : decode cc pc = .ok (.ldc index, 2)) (kk : Z k n tys (pc + 2) lv (.int v :: st) w) : Z k n tys pc lv st w := by
  obtain ⟨p, e, s, m, args, below, meth, c, Q, A, hx, hb, hml, hown, hts, hN, hA, hin0, hret, rfl⟩ := hZ
  intro ls H locs hl hK hP hD hS
  exact lv_ldc hx hb hown (hts _ hc) hdg (kk ls H locs hl hK hP hD hS)
theorem z_iload_n (hZ : zI l D cl nf nm own cc nL ret Ts R mc ms post isI Z) {j : Fin 4} {i : Nat} {x : Int32} (q : Nat) (hdg : decode cc pc = .ok (.iload_n j, 1)) (hi : (j : Nat) = i) (hq : lv[q]? = some (i, .int x)) (kk : Z k n tys (pc + 1) lv (.int x :: st) w) : Z k n tys pc lv st w := by
  obtain ⟨p, e, s, m, args, below, meth, c, Q, A, hx, hb, hml, hown, hts, hN, hA, hin0, hret, rfl⟩ := hZ
  intro ls H locs hl hK hP hD hS
  exact lv_iload_n hx hb hdg hi (lv_at hl q hq) (kk ls H locs hl hK hP hD hS)
theorem z_iload (hZ : zI l D cl nf nm own cc nL ret Ts R mc ms post isI Z) {i : Nat} {x : Int32} (q : Nat) (hdg : decode cc pc = .ok (.iload i, 2)) (hq : lv[q]? = some (i, .int x)) (kk : Z k n tys (pc + 2) lv (.int x :: st) w) : Z k n tys pc lv st w := by
  obtain ⟨p, e, s, m, args, below, meth, c, Q, A, hx, hb, hml, hown, hts, hN, hA, hin0, hret, rfl⟩ := hZ
  intro ls H locs hl hK hP hD hS
  exact lv_iload hx hb hdg (lv_at hl q hq) (kk ls H locs hl hK hP hD hS)
theorem z_istore_n (hZ : zI l D cl nf nm own cc nL ret Ts R mc ms post isI Z) {j : Fin 4} {i : Nat} {x : Int32} (lv' : List (Nat × Value)) (hdg : decode cc pc = .ok (.istore_n j, 1)) (hi : (j : Nat) = i) (hn : i < nL) (hl' : (i, Value.int x) :: lv.filter (fun q => !(q.1 == i) && !(q.1 + 1 == i && q.2.category == 2)) = lv') (kk : Z k n tys (pc + 1) lv' st w) : Z k n tys pc lv (.int x :: st) w := by
  obtain ⟨p, e, s, m, args, below, meth, c, Q, A, hx, hb, hml, hown, hts, hN, hA, hin0, hret, rfl⟩ := hZ
  intro ls H locs hl hK hP hD hS
  exact lv_istore_n hx hb hdg hi hl hn hl' (fun ls hl => kk ls H locs hl hK hP hD hS)
theorem z_istore (hZ : zI l D cl nf nm own cc nL ret Ts R mc ms post isI Z) {i : Nat} {x : Int32} (lv' : List (Nat × Value)) (hdg : decode cc pc = .ok (.istore i, 2)) (hn : i < nL) (hl' : (i, Value.int x) :: lv.filter (fun q => !(q.1 == i) && !(q.1 + 1 == i && q.2.category == 2)) = lv') (kk : Z k n tys (pc + 2) lv' st w) : Z k n tys pc lv (.int x :: st) w := by
  obtain ⟨p, e, s, m, args, below, meth, c, Q, A, hx, hb, hml, hown, hts, hN, hA, hin0, hret, rfl⟩ := hZ
  intro ls H locs hl hK hP hD hS
  exact lv_istore hx hb hdg hl hn hl' (fun ls hl => kk ls H locs hl hK hP hD hS)
theorem z_lload_n (hZ : zI l D cl nf nm own cc nL ret Ts R mc ms post isI Z) {j : Fin 4} {i : Nat} {x : Int64} (q : Nat) (hdg : decode cc pc = .ok (.lload_n j, 1)) (hi : (j : Nat) = i) (hq : lv[q]? = some (i, .long x)) (kk : Z k n tys (pc + 1) lv (.long x :: st) w) : Z k n tys pc lv st w := by
  obtain ⟨p, e, s, m, args, below, meth, c, Q, A, hx, hb, hml, hown, hts, hN, hA, hin0, hret, rfl⟩ := hZ
  intro ls H locs hl hK hP hD hS
  exact lv_lload_n hx hb hdg hi (lv_at hl q hq) (kk ls H locs hl hK hP hD hS)
theorem z_lload (hZ : zI l D cl nf nm own cc nL ret Ts R mc ms post isI Z) {i : Nat} {x : Int64} (q : Nat) (hdg : decode cc pc = .ok (.lload i, 2)) (hq : lv[q]? = some (i, .long x)) (kk : Z k n tys (pc + 2) lv (.long x :: st) w) : Z k n tys pc lv st w := by
  obtain ⟨p, e, s, m, args, below, meth, c, Q, A, hx, hb, hml, hown, hts, hN, hA, hin0, hret, rfl⟩ := hZ
  intro ls H locs hl hK hP hD hS
  exact lv_lload hx hb hdg (lv_at hl q hq) (kk ls H locs hl hK hP hD hS)
theorem z_lstore_n (hZ : zI l D cl nf nm own cc nL ret Ts R mc ms post isI Z) {j : Fin 4} {i : Nat} {x : Int64} (lv' : List (Nat × Value)) (hdg : decode cc pc = .ok (.lstore_n j, 1)) (hi : (j : Nat) = i) (hn : i + 1 < nL) (hl' : (i, Value.long x) :: lv.filter (fun q => !(q.1 == i) && (!(q.1 == i + 1) && !(q.1 + 1 == i && q.2.category == 2))) = lv') (kk : Z k n tys (pc + 1) lv' st w) : Z k n tys pc lv (.long x :: st) w := by
  obtain ⟨p, e, s, m, args, below, meth, c, Q, A, hx, hb, hml, hown, hts, hN, hA, hin0, hret, rfl⟩ := hZ
  intro ls H locs hl hK hP hD hS
  exact lv_lstore_n hx hb hdg hi hl hn hl' (fun ls hl => kk ls H locs hl hK hP hD hS)
theorem z_lstore (hZ : zI l D cl nf nm own cc nL ret Ts R mc ms post isI Z) {i : Nat} {x : Int64} (lv' : List (Nat × Value)) (hdg : decode cc pc = .ok (.lstore i, 2)) (hn : i + 1 < nL) (hl' : (i, Value.long x) :: lv.filter (fun q => !(q.1 == i) && (!(q.1 == i + 1) && !(q.1 + 1 == i && q.2.category == 2))) = lv') (kk : Z k n tys (pc + 2) lv' st w) : Z k n tys pc lv (.long x :: st) w := by
  obtain ⟨p, e, s, m, args, below, meth, c, Q, A, hx, hb, hml, hown, hts, hN, hA, hin0, hret, rfl⟩ := hZ
  intro ls H locs hl hK hP hD hS
  exact lv_lstore hx hb hdg hl hn hl' (fun ls hl => kk ls H locs hl hK hP hD hS)
theorem z_aload_n (hZ : zI l D cl nf nm own cc nL ret Ts R mc ms post isI Z) {j : Fin 4} {i : Nat} {x : Nat} (q : Nat) (hdg : decode cc pc = .ok (.aload_n j, 1)) (hi : (j : Nat) = i) (hq : lv[q]? = some (i, .ref x)) (kk : Z k n tys (pc + 1) lv (.ref x :: st) w) : Z k n tys pc lv st w := by
  obtain ⟨p, e, s, m, args, below, meth, c, Q, A, hx, hb, hml, hown, hts, hN, hA, hin0, hret, rfl⟩ := hZ
  intro ls H locs hl hK hP hD hS
  exact lv_aload_n hx hb hdg hi (lv_at hl q hq) (kk ls H locs hl hK hP hD hS)
theorem z_aload (hZ : zI l D cl nf nm own cc nL ret Ts R mc ms post isI Z) {i : Nat} {x : Nat} (q : Nat) (hdg : decode cc pc = .ok (.aload i, 2)) (hq : lv[q]? = some (i, .ref x)) (kk : Z k n tys (pc + 2) lv (.ref x :: st) w) : Z k n tys pc lv st w := by
  obtain ⟨p, e, s, m, args, below, meth, c, Q, A, hx, hb, hml, hown, hts, hN, hA, hin0, hret, rfl⟩ := hZ
  intro ls H locs hl hK hP hD hS
  exact lv_aload hx hb hdg (lv_at hl q hq) (kk ls H locs hl hK hP hD hS)
theorem z_astore_n (hZ : zI l D cl nf nm own cc nL ret Ts R mc ms post isI Z) {j : Fin 4} {i : Nat} {x : Nat} (lv' : List (Nat × Value)) (hdg : decode cc pc = .ok (.astore_n j, 1)) (hi : (j : Nat) = i) (hn : i < nL) (hl' : (i, Value.ref x) :: lv.filter (fun q => !(q.1 == i) && !(q.1 + 1 == i && q.2.category == 2)) = lv') (kk : Z k n tys (pc + 1) lv' st w) : Z k n tys pc lv (.ref x :: st) w := by
  obtain ⟨p, e, s, m, args, below, meth, c, Q, A, hx, hb, hml, hown, hts, hN, hA, hin0, hret, rfl⟩ := hZ
  intro ls H locs hl hK hP hD hS
  exact lv_astore_n hx hb hdg hi hl hn hl' (fun ls hl => kk ls H locs hl hK hP hD hS)
theorem z_astore (hZ : zI l D cl nf nm own cc nL ret Ts R mc ms post isI Z) {i : Nat} {x : Nat} (lv' : List (Nat × Value)) (hdg : decode cc pc = .ok (.astore i, 2)) (hn : i < nL) (hl' : (i, Value.ref x) :: lv.filter (fun q => !(q.1 == i) && !(q.1 + 1 == i && q.2.category == 2)) = lv') (kk : Z k n tys (pc + 2) lv' st w) : Z k n tys pc lv (.ref x :: st) w := by
  obtain ⟨p, e, s, m, args, below, meth, c, Q, A, hx, hb, hml, hown, hts, hN, hA, hin0, hret, rfl⟩ := hZ
  intro ls H locs hl hK hP hD hS
  exact lv_astore hx hb hdg hl hn hl' (fun ls hl => kk ls H locs hl hK hP hD hS)
theorem z_iinc (hZ : zI l D cl nf nm own cc nL ret Ts R mc ms post isI Z) {i : Nat} {z : Int} {x : Int32} (q : Nat) (lv' : Int32 → List (Nat × Value)) (hdg : decode cc pc = .ok (.iinc i z, 3)) (hq : lv[q]? = some (i, .int x)) (hn : i < nL) (hl' : ∀ v, (i, Value.int v) :: lv.filter (fun q => !(q.1 == i) && !(q.1 + 1 == i && q.2.category == 2)) = lv' v) (kk : ∀ v : Int32, v = x + Int32.ofInt z → Z k n tys (pc + 3) (lv' v) st w) : Z k n tys pc lv st w := by
  obtain ⟨p, e, s, m, args, below, meth, c, Q, A, hx, hb, hml, hown, hts, hN, hA, hin0, hret, rfl⟩ := hZ
  intro ls H locs hl hK hP hD hS
  exact lv_iinc hx hb hdg hl hq rfl hn (hl' _) (fun ls hl => kk _ rfl ls H locs hl hK hP hD hS)
theorem z_iadd (hZ : zI l D cl nf nm own cc nL ret Ts R mc ms post isI Z) {x y : Int32} (hdg : decode cc pc = .ok (.iadd, 1)) (kk : ∀ v : Int32, v = x + y → Z k n tys (pc + 1) lv (.int v :: st) w) : Z k n tys pc lv (.int y :: .int x :: st) w := by
  obtain ⟨p, e, s, m, args, below, meth, c, Q, A, hx, hb, hml, hown, hts, hN, hA, hin0, hret, rfl⟩ := hZ
  intro ls H locs hl hK hP hD hS
  exact lv_iadd hx hb hdg (kk _ rfl ls H locs hl hK hP hD hS)
theorem z_isub (hZ : zI l D cl nf nm own cc nL ret Ts R mc ms post isI Z) {x y : Int32} (hdg : decode cc pc = .ok (.isub, 1)) (kk : ∀ v : Int32, v = x - y → Z k n tys (pc + 1) lv (.int v :: st) w) : Z k n tys pc lv (.int y :: .int x :: st) w := by
  obtain ⟨p, e, s, m, args, below, meth, c, Q, A, hx, hb, hml, hown, hts, hN, hA, hin0, hret, rfl⟩ := hZ
  intro ls H locs hl hK hP hD hS
  exact lv_isub hx hb hdg (kk _ rfl ls H locs hl hK hP hD hS)
theorem z_imul (hZ : zI l D cl nf nm own cc nL ret Ts R mc ms post isI Z) {x y : Int32} (hdg : decode cc pc = .ok (.imul, 1)) (kk : ∀ v : Int32, v = x * y → Z k n tys (pc + 1) lv (.int v :: st) w) : Z k n tys pc lv (.int y :: .int x :: st) w := by
  obtain ⟨p, e, s, m, args, below, meth, c, Q, A, hx, hb, hml, hown, hts, hN, hA, hin0, hret, rfl⟩ := hZ
  intro ls H locs hl hK hP hD hS
  exact lv_imul hx hb hdg (kk _ rfl ls H locs hl hK hP hD hS)
theorem z_iand (hZ : zI l D cl nf nm own cc nL ret Ts R mc ms post isI Z) {x y : Int32} (hdg : decode cc pc = .ok (.iand, 1)) (kk : ∀ v : Int32, v = x &&& y → Z k n tys (pc + 1) lv (.int v :: st) w) : Z k n tys pc lv (.int y :: .int x :: st) w := by
  obtain ⟨p, e, s, m, args, below, meth, c, Q, A, hx, hb, hml, hown, hts, hN, hA, hin0, hret, rfl⟩ := hZ
  intro ls H locs hl hK hP hD hS
  exact lv_iand hx hb hdg (kk _ rfl ls H locs hl hK hP hD hS)
theorem z_ior (hZ : zI l D cl nf nm own cc nL ret Ts R mc ms post isI Z) {x y : Int32} (hdg : decode cc pc = .ok (.ior, 1)) (kk : ∀ v : Int32, v = x ||| y → Z k n tys (pc + 1) lv (.int v :: st) w) : Z k n tys pc lv (.int y :: .int x :: st) w := by
  obtain ⟨p, e, s, m, args, below, meth, c, Q, A, hx, hb, hml, hown, hts, hN, hA, hin0, hret, rfl⟩ := hZ
  intro ls H locs hl hK hP hD hS
  exact lv_ior hx hb hdg (kk _ rfl ls H locs hl hK hP hD hS)
theorem z_ixor (hZ : zI l D cl nf nm own cc nL ret Ts R mc ms post isI Z) {x y : Int32} (hdg : decode cc pc = .ok (.ixor, 1)) (kk : ∀ v : Int32, v = x ^^^ y → Z k n tys (pc + 1) lv (.int v :: st) w) : Z k n tys pc lv (.int y :: .int x :: st) w := by
  obtain ⟨p, e, s, m, args, below, meth, c, Q, A, hx, hb, hml, hown, hts, hN, hA, hin0, hret, rfl⟩ := hZ
  intro ls H locs hl hK hP hD hS
  exact lv_ixor hx hb hdg (kk _ rfl ls H locs hl hK hP hD hS)
theorem z_ishl (hZ : zI l D cl nf nm own cc nL ret Ts R mc ms post isI Z) {x y : Int32} (hdg : decode cc pc = .ok (.ishl, 1)) (kk : ∀ v : Int32, v = x <<< (y &&& 31) → Z k n tys (pc + 1) lv (.int v :: st) w) : Z k n tys pc lv (.int y :: .int x :: st) w := by
  obtain ⟨p, e, s, m, args, below, meth, c, Q, A, hx, hb, hml, hown, hts, hN, hA, hin0, hret, rfl⟩ := hZ
  intro ls H locs hl hK hP hD hS
  exact lv_ishl hx hb hdg (kk _ rfl ls H locs hl hK hP hD hS)
theorem z_ishr (hZ : zI l D cl nf nm own cc nL ret Ts R mc ms post isI Z) {x y : Int32} (hdg : decode cc pc = .ok (.ishr, 1)) (kk : ∀ v : Int32, v = x >>> (y &&& 31) → Z k n tys (pc + 1) lv (.int v :: st) w) : Z k n tys pc lv (.int y :: .int x :: st) w := by
  obtain ⟨p, e, s, m, args, below, meth, c, Q, A, hx, hb, hml, hown, hts, hN, hA, hin0, hret, rfl⟩ := hZ
  intro ls H locs hl hK hP hD hS
  exact lv_ishr hx hb hdg (kk _ rfl ls H locs hl hK hP hD hS)
theorem z_ineg (hZ : zI l D cl nf nm own cc nL ret Ts R mc ms post isI Z) {x : Int32} (hdg : decode cc pc = .ok (.ineg, 1)) (kk : ∀ v : Int32, v = -x → Z k n tys (pc + 1) lv (.int v :: st) w) : Z k n tys pc lv (.int x :: st) w := by
  obtain ⟨p, e, s, m, args, below, meth, c, Q, A, hx, hb, hml, hown, hts, hN, hA, hin0, hret, rfl⟩ := hZ
  intro ls H locs hl hK hP hD hS
  exact lv_ineg hx hb hdg (kk _ (by first | rfl | simp) ls H locs hl hK hP hD hS)
theorem z_ladd (hZ : zI l D cl nf nm own cc nL ret Ts R mc ms post isI Z) {x y : Int64} (hdg : decode cc pc = .ok (.ladd, 1)) (kk : ∀ v : Int64, v = x + y → Z k n tys (pc + 1) lv (.long v :: st) w) : Z k n tys pc lv (.long y :: .long x :: st) w := by
  obtain ⟨p, e, s, m, args, below, meth, c, Q, A, hx, hb, hml, hown, hts, hN, hA, hin0, hret, rfl⟩ := hZ
  intro ls H locs hl hK hP hD hS
  exact lv_ladd hx hb hdg (kk _ rfl ls H locs hl hK hP hD hS)
theorem z_lsub (hZ : zI l D cl nf nm own cc nL ret Ts R mc ms post isI Z) {x y : Int64} (hdg : decode cc pc = .ok (.lsub, 1)) (kk : ∀ v : Int64, v = x - y → Z k n tys (pc + 1) lv (.long v :: st) w) : Z k n tys pc lv (.long y :: .long x :: st) w := by
  obtain ⟨p, e, s, m, args, below, meth, c, Q, A, hx, hb, hml, hown, hts, hN, hA, hin0, hret, rfl⟩ := hZ
  intro ls H locs hl hK hP hD hS
  exact lv_lsub hx hb hdg (kk _ rfl ls H locs hl hK hP hD hS)
theorem z_lmul (hZ : zI l D cl nf nm own cc nL ret Ts R mc ms post isI Z) {x y : Int64} (hdg : decode cc pc = .ok (.lmul, 1)) (kk : ∀ v : Int64, v = x * y → Z k n tys (pc + 1) lv (.long v :: st) w) : Z k n tys pc lv (.long y :: .long x :: st) w := by
  obtain ⟨p, e, s, m, args, below, meth, c, Q, A, hx, hb, hml, hown, hts, hN, hA, hin0, hret, rfl⟩ := hZ
  intro ls H locs hl hK hP hD hS
  exact lv_lmul hx hb hdg (kk _ rfl ls H locs hl hK hP hD hS)
theorem z_land (hZ : zI l D cl nf nm own cc nL ret Ts R mc ms post isI Z) {x y : Int64} (hdg : decode cc pc = .ok (.land, 1)) (kk : ∀ v : Int64, v = x &&& y → Z k n tys (pc + 1) lv (.long v :: st) w) : Z k n tys pc lv (.long y :: .long x :: st) w := by
  obtain ⟨p, e, s, m, args, below, meth, c, Q, A, hx, hb, hml, hown, hts, hN, hA, hin0, hret, rfl⟩ := hZ
  intro ls H locs hl hK hP hD hS
  exact lv_land hx hb hdg (kk _ rfl ls H locs hl hK hP hD hS)
theorem z_lor (hZ : zI l D cl nf nm own cc nL ret Ts R mc ms post isI Z) {x y : Int64} (hdg : decode cc pc = .ok (.lor, 1)) (kk : ∀ v : Int64, v = x ||| y → Z k n tys (pc + 1) lv (.long v :: st) w) : Z k n tys pc lv (.long y :: .long x :: st) w := by
  obtain ⟨p, e, s, m, args, below, meth, c, Q, A, hx, hb, hml, hown, hts, hN, hA, hin0, hret, rfl⟩ := hZ
  intro ls H locs hl hK hP hD hS
  exact lv_lor hx hb hdg (kk _ rfl ls H locs hl hK hP hD hS)
theorem z_lxor (hZ : zI l D cl nf nm own cc nL ret Ts R mc ms post isI Z) {x y : Int64} (hdg : decode cc pc = .ok (.lxor, 1)) (kk : ∀ v : Int64, v = x ^^^ y → Z k n tys (pc + 1) lv (.long v :: st) w) : Z k n tys pc lv (.long y :: .long x :: st) w := by
  obtain ⟨p, e, s, m, args, below, meth, c, Q, A, hx, hb, hml, hown, hts, hN, hA, hin0, hret, rfl⟩ := hZ
  intro ls H locs hl hK hP hD hS
  exact lv_lxor hx hb hdg (kk _ rfl ls H locs hl hK hP hD hS)
theorem z_lneg (hZ : zI l D cl nf nm own cc nL ret Ts R mc ms post isI Z) {x : Int64} (hdg : decode cc pc = .ok (.lneg, 1)) (kk : ∀ v : Int64, v = -x → Z k n tys (pc + 1) lv (.long v :: st) w) : Z k n tys pc lv (.long x :: st) w := by
  obtain ⟨p, e, s, m, args, below, meth, c, Q, A, hx, hb, hml, hown, hts, hN, hA, hin0, hret, rfl⟩ := hZ
  intro ls H locs hl hK hP hD hS
  exact lv_lneg hx hb hdg (kk _ (by first | rfl | simp) ls H locs hl hK hP hD hS)
theorem z_ldiv (hZ : zI l D cl nf nm own cc nL ret Ts R mc ms post isI Z) {x y : Int64} (hdg : decode cc pc = .ok (.ldiv, 1)) (hne : ¬ y = 0) (kk : ∀ v : Int64, v = x / y → Z k n tys (pc + 1) lv (.long v :: st) w) : Z k n tys pc lv (.long y :: .long x :: st) w := by
  obtain ⟨p, e, s, m, args, below, meth, c, Q, A, hx, hb, hml, hown, hts, hN, hA, hin0, hret, rfl⟩ := hZ
  intro ls H locs hl hK hP hD hS
  exact lv_ldiv hx hb hdg hne (kk _ rfl ls H locs hl hK hP hD hS)
theorem z_lrem (hZ : zI l D cl nf nm own cc nL ret Ts R mc ms post isI Z) {x y : Int64} (hdg : decode cc pc = .ok (.lrem, 1)) (hne : ¬ y = 0) (kk : ∀ v : Int64, v = x - x / y * y → Z k n tys (pc + 1) lv (.long v :: st) w) : Z k n tys pc lv (.long y :: .long x :: st) w := by
  obtain ⟨p, e, s, m, args, below, meth, c, Q, A, hx, hb, hml, hown, hts, hN, hA, hin0, hret, rfl⟩ := hZ
  intro ls H locs hl hK hP hD hS
  exact lv_lrem hx hb hdg hne (kk _ rfl ls H locs hl hK hP hD hS)
theorem z_lshl (hZ : zI l D cl nf nm own cc nL ret Ts R mc ms post isI Z) {x : Int64} {y : Int32} (hdg : decode cc pc = .ok (.lshl, 1)) (kk : ∀ v : Int64, v = x <<< (y.toInt64 &&& 63) → Z k n tys (pc + 1) lv (.long v :: st) w) : Z k n tys pc lv (.int y :: .long x :: st) w := by
  obtain ⟨p, e, s, m, args, below, meth, c, Q, A, hx, hb, hml, hown, hts, hN, hA, hin0, hret, rfl⟩ := hZ
  intro ls H locs hl hK hP hD hS
  exact lv_lshl hx hb hdg rfl (kk _ rfl ls H locs hl hK hP hD hS)
theorem z_lshr (hZ : zI l D cl nf nm own cc nL ret Ts R mc ms post isI Z) {x : Int64} {y : Int32} (hdg : decode cc pc = .ok (.lshr, 1)) (kk : ∀ v : Int64, v = x >>> (y.toInt64 &&& 63) → Z k n tys (pc + 1) lv (.long v :: st) w) : Z k n tys pc lv (.int y :: .long x :: st) w := by
  obtain ⟨p, e, s, m, args, below, meth, c, Q, A, hx, hb, hml, hown, hts, hN, hA, hin0, hret, rfl⟩ := hZ
  intro ls H locs hl hK hP hD hS
  exact lv_lshr hx hb hdg rfl (kk _ rfl ls H locs hl hK hP hD hS)
theorem z_lushr (hZ : zI l D cl nf nm own cc nL ret Ts R mc ms post isI Z) {x : Int64} {y : Int32} (hdg : decode cc pc = .ok (.lushr, 1)) (kk : ∀ v : Int64, v = (x.toUInt64 >>> (y.toInt64.toUInt64 &&& Int64.toUInt64 63)).toInt64 → Z k n tys (pc + 1) lv (.long v :: st) w) : Z k n tys pc lv (.int y :: .long x :: st) w := by
  obtain ⟨p, e, s, m, args, below, meth, c, Q, A, hx, hb, hml, hown, hts, hN, hA, hin0, hret, rfl⟩ := hZ
  intro ls H locs hl hK hP hD hS
  exact lv_lushr hx hb hdg rfl (kk _ rfl ls H locs hl hK hP hD hS)
theorem z_i2l (hZ : zI l D cl nf nm own cc nL ret Ts R mc ms post isI Z) {x : Int32} (hdg : decode cc pc = .ok (.i2l, 1)) (kk : ∀ v : Int64, v = x.toInt64 → Z k n tys (pc + 1) lv (.long v :: st) w) : Z k n tys pc lv (.int x :: st) w := by
  obtain ⟨p, e, s, m, args, below, meth, c, Q, A, hx, hb, hml, hown, hts, hN, hA, hin0, hret, rfl⟩ := hZ
  intro ls H locs hl hK hP hD hS
  exact lv_i2l hx hb hdg rfl (kk _ rfl ls H locs hl hK hP hD hS)
theorem z_l2i (hZ : zI l D cl nf nm own cc nL ret Ts R mc ms post isI Z) {x : Int64} (hdg : decode cc pc = .ok (.l2i, 1)) (kk : ∀ v : Int32, v = x.toInt32 → Z k n tys (pc + 1) lv (.int v :: st) w) : Z k n tys pc lv (.long x :: st) w := by
  obtain ⟨p, e, s, m, args, below, meth, c, Q, A, hx, hb, hml, hown, hts, hN, hA, hin0, hret, rfl⟩ := hZ
  intro ls H locs hl hK hP hD hS
  exact lv_l2i hx hb hdg rfl (kk _ rfl ls H locs hl hK hP hD hS)
theorem z_iushr (hZ : zI l D cl nf nm own cc nL ret Ts R mc ms post isI Z) {x y : Int32} (hdg : decode cc pc = .ok (.iushr, 1)) (kk : ∀ v : Int32, v = (x.toUInt32 >>> (y.toUInt32 &&& Int32.toUInt32 31)).toInt32 → Z k n tys (pc + 1) lv (.int v :: st) w) : Z k n tys pc lv (.int y :: .int x :: st) w := by
  obtain ⟨p, e, s, m, args, below, meth, c, Q, A, hx, hb, hml, hown, hts, hN, hA, hin0, hret, rfl⟩ := hZ
  intro ls H locs hl hK hP hD hS
  exact lv_iushr hx hb hdg rfl (kk _ rfl ls H locs hl hK hP hD hS)
theorem z_lcmp (hZ : zI l D cl nf nm own cc nL ret Ts R mc ms post isI Z) {x y : Int64} (hdg : decode cc pc = .ok (.lcmp, 1)) (kk : ∀ v : Int32, v = lg_cmp x y → Z k n tys (pc + 1) lv (.int v :: st) w) : Z k n tys pc lv (.long y :: .long x :: st) w := by
  obtain ⟨p, e, s, m, args, below, meth, c, Q, A, hx, hb, hml, hown, hts, hN, hA, hin0, hret, rfl⟩ := hZ
  intro ls H locs hl hK hP hD hS
  exact W.lcmp hx hb hdg (kk _ rfl ls H locs hl hK hP hD hS)
theorem z_dup (hZ : zI l D cl nf nm own cc nL ret Ts R mc ms post isI Z) {va : Value} (hdg : decode cc pc = .ok (.dup, 1)) (hva : va.category = 1) (kk : Z k n tys (pc + 1) lv (va :: va :: st) w) : Z k n tys pc lv (va :: st) w := by
  obtain ⟨p, e, s, m, args, below, meth, c, Q, A, hx, hb, hml, hown, hts, hN, hA, hin0, hret, rfl⟩ := hZ
  intro ls H locs hl hK hP hD hS
  exact lv_dup hx hb hdg hva (kk ls H locs hl hK hP hD hS)
theorem z_pop (hZ : zI l D cl nf nm own cc nL ret Ts R mc ms post isI Z) {va : Value} (hdg : decode cc pc = .ok (.pop, 1)) (hva : va.category = 1) (kk : Z k n tys (pc + 1) lv st w) : Z k n tys pc lv (va :: st) w := by
  obtain ⟨p, e, s, m, args, below, meth, c, Q, A, hx, hb, hml, hown, hts, hN, hA, hin0, hret, rfl⟩ := hZ
  intro ls H locs hl hK hP hD hS
  exact lv_pop hx hb hdg hva (kk ls H locs hl hK hP hD hS)
theorem z_pop2 (hZ : zI l D cl nf nm own cc nL ret Ts R mc ms post isI Z) {va : Value} (hdg : decode cc pc = .ok (.pop2, 1)) (hva : va.category = 2) (kk : Z k n tys (pc + 1) lv st w) : Z k n tys pc lv (va :: st) w := by
  obtain ⟨p, e, s, m, args, below, meth, c, Q, A, hx, hb, hml, hown, hts, hN, hA, hin0, hret, rfl⟩ := hZ
  intro ls H locs hl hK hP hD hS
  exact lv_pop2_2 hx hb hdg hva (kk ls H locs hl hK hP hD hS)
theorem z_if_eq (hZ : zI l D cl nf nm own cc nL ret Ts R mc ms post isI Z) {x : Int32} {off : Int} (tgt : Nat) (hdg : decode cc pc = .ok (.ifCond .eq off, 3)) (ht : (pc : Int) + off = (tgt : Int)) (kt : x = 0 → Z k n tys tgt lv st w) (kf : ¬ x = 0 → Z k n tys (pc + 3) lv st w) : Z k n tys pc lv (.int x :: st) w := by
  obtain ⟨p, e, s, m, args, below, meth, c, Q, A, hx, hb, hml, hown, hts, hN, hA, hin0, hret, rfl⟩ := hZ
  intro ls H locs hl hK hP hD hS
  exact lv_if_eq hx hb hdg ht (fun q => kt q ls H locs hl hK hP hD hS) (fun q => kf q ls H locs hl hK hP hD hS)
theorem z_icmp_eq (hZ : zI l D cl nf nm own cc nL ret Ts R mc ms post isI Z) {x y : Int32} {off : Int} (tgt : Nat) (hdg : decode cc pc = .ok (.if_icmp .eq off, 3)) (ht : (pc : Int) + off = (tgt : Int)) (kt : x = y → Z k n tys tgt lv st w) (kf : ¬ x = y → Z k n tys (pc + 3) lv st w) : Z k n tys pc lv (.int y :: .int x :: st) w := by
  obtain ⟨p, e, s, m, args, below, meth, c, Q, A, hx, hb, hml, hown, hts, hN, hA, hin0, hret, rfl⟩ := hZ
  intro ls H locs hl hK hP hD hS
  exact lv_icmp_eq hx hb hdg ht (fun q => kt q ls H locs hl hK hP hD hS) (fun q => kf q ls H locs hl hK hP hD hS)
theorem z_if_ne (hZ : zI l D cl nf nm own cc nL ret Ts R mc ms post isI Z) {x : Int32} {off : Int} (tgt : Nat) (hdg : decode cc pc = .ok (.ifCond .ne off, 3)) (ht : (pc : Int) + off = (tgt : Int)) (kt : ¬ x = 0 → Z k n tys tgt lv st w) (kf : x = 0 → Z k n tys (pc + 3) lv st w) : Z k n tys pc lv (.int x :: st) w := by
  obtain ⟨p, e, s, m, args, below, meth, c, Q, A, hx, hb, hml, hown, hts, hN, hA, hin0, hret, rfl⟩ := hZ
  intro ls H locs hl hK hP hD hS
  exact lv_if_ne hx hb hdg ht (fun q => kt q ls H locs hl hK hP hD hS) (fun q => kf q ls H locs hl hK hP hD hS)
theorem z_icmp_ne (hZ : zI l D cl nf nm own cc nL ret Ts R mc ms post isI Z) {x y : Int32} {off : Int} (tgt : Nat) (hdg : decode cc pc = .ok (.if_icmp .ne off, 3)) (ht : (pc : Int) + off = (tgt : Int)) (kt : ¬ x = y → Z k n tys tgt lv st w) (kf : x = y → Z k n tys (pc + 3) lv st w) : Z k n tys pc lv (.int y :: .int x :: st) w := by
  obtain ⟨p, e, s, m, args, below, meth, c, Q, A, hx, hb, hml, hown, hts, hN, hA, hin0, hret, rfl⟩ := hZ
  intro ls H locs hl hK hP hD hS
  exact lv_icmp_ne hx hb hdg ht (fun q => kt q ls H locs hl hK hP hD hS) (fun q => kf q ls H locs hl hK hP hD hS)
theorem z_if_lt (hZ : zI l D cl nf nm own cc nL ret Ts R mc ms post isI Z) {x : Int32} {off : Int} (tgt : Nat) (hdg : decode cc pc = .ok (.ifCond .lt off, 3)) (ht : (pc : Int) + off = (tgt : Int)) (kt : x < 0 → Z k n tys tgt lv st w) (kf : ¬ x < 0 → Z k n tys (pc + 3) lv st w) : Z k n tys pc lv (.int x :: st) w := by
  obtain ⟨p, e, s, m, args, below, meth, c, Q, A, hx, hb, hml, hown, hts, hN, hA, hin0, hret, rfl⟩ := hZ
  intro ls H locs hl hK hP hD hS
  exact lv_if_lt hx hb hdg ht (fun q => kt q ls H locs hl hK hP hD hS) (fun q => kf q ls H locs hl hK hP hD hS)
theorem z_icmp_lt (hZ : zI l D cl nf nm own cc nL ret Ts R mc ms post isI Z) {x y : Int32} {off : Int} (tgt : Nat) (hdg : decode cc pc = .ok (.if_icmp .lt off, 3)) (ht : (pc : Int) + off = (tgt : Int)) (kt : x < y → Z k n tys tgt lv st w) (kf : ¬ x < y → Z k n tys (pc + 3) lv st w) : Z k n tys pc lv (.int y :: .int x :: st) w := by
  obtain ⟨p, e, s, m, args, below, meth, c, Q, A, hx, hb, hml, hown, hts, hN, hA, hin0, hret, rfl⟩ := hZ
  intro ls H locs hl hK hP hD hS
  exact lv_icmp_lt hx hb hdg ht (fun q => kt q ls H locs hl hK hP hD hS) (fun q => kf q ls H locs hl hK hP hD hS)
theorem z_if_ge (hZ : zI l D cl nf nm own cc nL ret Ts R mc ms post isI Z) {x : Int32} {off : Int} (tgt : Nat) (hdg : decode cc pc = .ok (.ifCond .ge off, 3)) (ht : (pc : Int) + off = (tgt : Int)) (kt : 0 ≤ x → Z k n tys tgt lv st w) (kf : ¬ 0 ≤ x → Z k n tys (pc + 3) lv st w) : Z k n tys pc lv (.int x :: st) w := by
  obtain ⟨p, e, s, m, args, below, meth, c, Q, A, hx, hb, hml, hown, hts, hN, hA, hin0, hret, rfl⟩ := hZ
  intro ls H locs hl hK hP hD hS
  exact lv_if_ge hx hb hdg ht (fun q => kt q ls H locs hl hK hP hD hS) (fun q => kf q ls H locs hl hK hP hD hS)
theorem z_icmp_ge (hZ : zI l D cl nf nm own cc nL ret Ts R mc ms post isI Z) {x y : Int32} {off : Int} (tgt : Nat) (hdg : decode cc pc = .ok (.if_icmp .ge off, 3)) (ht : (pc : Int) + off = (tgt : Int)) (kt : y ≤ x → Z k n tys tgt lv st w) (kf : ¬ y ≤ x → Z k n tys (pc + 3) lv st w) : Z k n tys pc lv (.int y :: .int x :: st) w := by
  obtain ⟨p, e, s, m, args, below, meth, c, Q, A, hx, hb, hml, hown, hts, hN, hA, hin0, hret, rfl⟩ := hZ
  intro ls H locs hl hK hP hD hS
  exact lv_icmp_ge hx hb hdg ht (fun q => kt q ls H locs hl hK hP hD hS) (fun q => kf q ls H locs hl hK hP hD hS)
theorem z_if_gt (hZ : zI l D cl nf nm own cc nL ret Ts R mc ms post isI Z) {x : Int32} {off : Int} (tgt : Nat) (hdg : decode cc pc = .ok (.ifCond .gt off, 3)) (ht : (pc : Int) + off = (tgt : Int)) (kt : 0 < x → Z k n tys tgt lv st w) (kf : ¬ 0 < x → Z k n tys (pc + 3) lv st w) : Z k n tys pc lv (.int x :: st) w := by
  obtain ⟨p, e, s, m, args, below, meth, c, Q, A, hx, hb, hml, hown, hts, hN, hA, hin0, hret, rfl⟩ := hZ
  intro ls H locs hl hK hP hD hS
  exact lv_if_gt hx hb hdg ht (fun q => kt q ls H locs hl hK hP hD hS) (fun q => kf q ls H locs hl hK hP hD hS)
theorem z_icmp_gt (hZ : zI l D cl nf nm own cc nL ret Ts R mc ms post isI Z) {x y : Int32} {off : Int} (tgt : Nat) (hdg : decode cc pc = .ok (.if_icmp .gt off, 3)) (ht : (pc : Int) + off = (tgt : Int)) (kt : y < x → Z k n tys tgt lv st w) (kf : ¬ y < x → Z k n tys (pc + 3) lv st w) : Z k n tys pc lv (.int y :: .int x :: st) w := by
  obtain ⟨p, e, s, m, args, below, meth, c, Q, A, hx, hb, hml, hown, hts, hN, hA, hin0, hret, rfl⟩ := hZ
  intro ls H locs hl hK hP hD hS
  exact lv_icmp_gt hx hb hdg ht (fun q => kt q ls H locs hl hK hP hD hS) (fun q => kf q ls H locs hl hK hP hD hS)
theorem z_if_le (hZ : zI l D cl nf nm own cc nL ret Ts R mc ms post isI Z) {x : Int32} {off : Int} (tgt : Nat) (hdg : decode cc pc = .ok (.ifCond .le off, 3)) (ht : (pc : Int) + off = (tgt : Int)) (kt : x ≤ 0 → Z k n tys tgt lv st w) (kf : ¬ x ≤ 0 → Z k n tys (pc + 3) lv st w) : Z k n tys pc lv (.int x :: st) w := by
  obtain ⟨p, e, s, m, args, below, meth, c, Q, A, hx, hb, hml, hown, hts, hN, hA, hin0, hret, rfl⟩ := hZ
  intro ls H locs hl hK hP hD hS
  exact lv_if_le hx hb hdg ht (fun q => kt q ls H locs hl hK hP hD hS) (fun q => kf q ls H locs hl hK hP hD hS)
theorem z_icmp_le (hZ : zI l D cl nf nm own cc nL ret Ts R mc ms post isI Z) {x y : Int32} {off : Int} (tgt : Nat) (hdg : decode cc pc = .ok (.if_icmp .le off, 3)) (ht : (pc : Int) + off = (tgt : Int)) (kt : x ≤ y → Z k n tys tgt lv st w) (kf : ¬ x ≤ y → Z k n tys (pc + 3) lv st w) : Z k n tys pc lv (.int y :: .int x :: st) w := by
  obtain ⟨p, e, s, m, args, below, meth, c, Q, A, hx, hb, hml, hown, hts, hN, hA, hin0, hret, rfl⟩ := hZ
  intro ls H locs hl hK hP hD hS
  exact lv_icmp_le hx hb hdg ht (fun q => kt q ls H locs hl hK hP hD hS) (fun q => kf q ls H locs hl hK hP hD hS)
theorem z_goto (hZ : zI l D cl nf nm own cc nL ret Ts R mc ms post isI Z) {off : Int} (tgt : Nat) (hdg : decode cc pc = .ok (.goto off, 3)) (ht : (pc : Int) + off = (tgt : Int)) (kk : Z k n tys tgt lv st w) : Z k n tys pc lv st w := by
  obtain ⟨p, e, s, m, args, below, meth, c, Q, A, hx, hb, hml, hown, hts, hN, hA, hin0, hret, rfl⟩ := hZ
  intro ls H locs hl hK hP hD hS
  exact lv_goto hx hb hdg ht (kk ls H locs hl hK hP hD hS)
theorem z_lif_eq (hZ : zI l D cl nf nm own cc nL ret Ts R mc ms post isI Z) {x y : Int64} {off : Int} (tgt : Nat) (hd1 : decode cc pc = .ok (.lcmp, 1)) (hd2 : decode cc (pc + 1) = .ok (.ifCond .eq off, 3)) (ht : ((pc + 1 : Nat) : Int) + off = (tgt : Int)) (kt : x = y → Z k n tys tgt lv st w) (kf : ¬ x = y → Z k n tys (pc + 4) lv st w) : Z k n tys pc lv (.long y :: .long x :: st) w := by
  obtain ⟨p, e, s, m, args, below, meth, c, Q, A, hx, hb, hml, hown, hts, hN, hA, hin0, hret, rfl⟩ := hZ
  intro ls H locs hl hK hP hD hS
  exact W.lcmp hx hb hd1 (lv_if_eq hx hb hd2 ht (fun q => kt ((lg_cmp_eq x y).mp q) ls H locs hl hK hP hD hS) (fun q => kf (fun q2 => q ((lg_cmp_eq x y).mpr q2)) ls H locs hl hK hP hD hS))
theorem z_lif_ne (hZ : zI l D cl nf nm own cc nL ret Ts R mc ms post isI Z) {x y : Int64} {off : Int} (tgt : Nat) (hd1 : decode cc pc = .ok (.lcmp, 1)) (hd2 : decode cc (pc + 1) = .ok (.ifCond .ne off, 3)) (ht : ((pc + 1 : Nat) : Int) + off = (tgt : Int)) (kt : ¬ x = y → Z k n tys tgt lv st w) (kf : x = y → Z k n tys (pc + 4) lv st w) : Z k n tys pc lv (.long y :: .long x :: st) w := by
  obtain ⟨p, e, s, m, args, below, meth, c, Q, A, hx, hb, hml, hown, hts, hN, hA, hin0, hret, rfl⟩ := hZ
  intro ls H locs hl hK hP hD hS
  refine W.lcmp hx hb hd1 (lv_if_ne hx hb hd2 ht (fun q => kt (fun q2 => ?_) ls H locs hl hK hP hD hS) (fun q => kf ?_ ls H locs hl hK hP hD hS))
  · revert q; rw [(lg_cmp_eq x y).mpr q2]; decide
  · exact (lg_cmp_eq x y).mp q
theorem z_lif_lt (hZ : zI l D cl nf nm own cc nL ret Ts R mc ms post isI Z) {x y : Int64} {off : Int} (tgt : Nat) (hd1 : decode cc pc = .ok (.lcmp, 1)) (hd2 : decode cc (pc + 1) = .ok (.ifCond .lt off, 3)) (ht : ((pc + 1 : Nat) : Int) + off = (tgt : Int)) (kt : x < y → Z k n tys tgt lv st w) (kf : ¬ x < y → Z k n tys (pc + 4) lv st w) : Z k n tys pc lv (.long y :: .long x :: st) w := by
  obtain ⟨p, e, s, m, args, below, meth, c, Q, A, hx, hb, hml, hown, hts, hN, hA, hin0, hret, rfl⟩ := hZ
  intro ls H locs hl hK hP hD hS
  exact W.lcmp hx hb hd1 (lv_if_lt hx hb hd2 ht (fun q => kt ((lg_cmp_lt x y).mp q) ls H locs hl hK hP hD hS) (fun q => kf (fun q2 => q ((lg_cmp_lt x y).mpr q2)) ls H locs hl hK hP hD hS))
theorem z_lif_ge (hZ : zI l D cl nf nm own cc nL ret Ts R mc ms post isI Z) {x y : Int64} {off : Int} (tgt : Nat) (hd1 : decode cc pc = .ok (.lcmp, 1)) (hd2 : decode cc (pc + 1) = .ok (.ifCond .ge off, 3)) (ht : ((pc + 1 : Nat) : Int) + off = (tgt : Int)) (kt : y ≤ x → Z k n tys tgt lv st w) (kf : ¬ y ≤ x → Z k n tys (pc + 4) lv st w) : Z k n tys pc lv (.long y :: .long x :: st) w := by
  obtain ⟨p, e, s, m, args, below, meth, c, Q, A, hx, hb, hml, hown, hts, hN, hA, hin0, hret, rfl⟩ := hZ
  intro ls H locs hl hK hP hD hS
  exact W.lcmp hx hb hd1 (lv_if_ge hx hb hd2 ht (fun q => kt ((lg_cmp_ge x y).mp q) ls H locs hl hK hP hD hS) (fun q => kf (fun q2 => q ((lg_cmp_ge x y).mpr q2)) ls H locs hl hK hP hD hS))
theorem z_lif_gt (hZ : zI l D cl nf nm own cc nL ret Ts R mc ms post isI Z) {x y : Int64} {off : Int} (tgt : Nat) (hd1 : decode cc pc = .ok (.lcmp, 1)) (hd2 : decode cc (pc + 1) = .ok (.ifCond .gt off, 3)) (ht : ((pc + 1 : Nat) : Int) + off = (tgt : Int)) (kt : y < x → Z k n tys tgt lv st w) (kf : ¬ y < x → Z k n tys (pc + 4) lv st w) : Z k n tys pc lv (.long y :: .long x :: st) w := by
  obtain ⟨p, e, s, m, args, below, meth, c, Q, A, hx, hb, hml, hown, hts, hN, hA, hin0, hret, rfl⟩ := hZ
  intro ls H locs hl hK hP hD hS
  exact W.lcmp hx hb hd1 (lv_if_gt hx hb hd2 ht (fun q => kt ((lg_cmp_gt x y).mp q) ls H locs hl hK hP hD hS) (fun q => kf (fun q2 => q ((lg_cmp_gt x y).mpr q2)) ls H locs hl hK hP hD hS))
theorem z_lif_le (hZ : zI l D cl nf nm own cc nL ret Ts R mc ms post isI Z) {x y : Int64} {off : Int} (tgt : Nat) (hd1 : decode cc pc = .ok (.lcmp, 1)) (hd2 : decode cc (pc + 1) = .ok (.ifCond .le off, 3)) (ht : ((pc + 1 : Nat) : Int) + off = (tgt : Int)) (kt : x ≤ y → Z k n tys tgt lv st w) (kf : ¬ x ≤ y → Z k n tys (pc + 4) lv st w) : Z k n tys pc lv (.long y :: .long x :: st) w := by
  obtain ⟨p, e, s, m, args, below, meth, c, Q, A, hx, hb, hml, hown, hts, hN, hA, hin0, hret, rfl⟩ := hZ
  intro ls H locs hl hK hP hD hS
  exact W.lcmp hx hb hd1 (lv_if_le hx hb hd2 ht (fun q => kt ((lg_cmp_le x y).mp q) ls H locs hl hK hP hD hS) (fun q => kf (fun q2 => q ((lg_cmp_le x y).mpr q2)) ls H locs hl hK hP hD hS))
theorem z_tabAt (hZ : zI l D cl nf nm own cc nL ret Ts R mc ms post isI Z) {dflt lo hi : Int} {offs : Array Int} {len : Nat} {x : Int32} {off : Int} (v : Int32) (tgt : Nat) (hv : x = v) (hdg : decode cc pc = .ok (.tableswitch dflt lo hi offs, len)) (h1 : ¬ v.toInt < lo) (h2 : ¬ hi < v.toInt) (ho : offs[(v.toInt - lo).toNat]? = some off) (ht : (pc : Int) + off = (tgt : Int)) (kk : Z k n tys tgt lv st w) : Z k n tys pc lv (.int x :: st) w := by
  obtain ⟨p, e, s, m, args, below, meth, c, Q, A, hx, hb, hml, hown, hts, hN, hA, hin0, hret, rfl⟩ := hZ
  intro ls H locs hl hK hP hD hS
  subst hv
  exact lv_tableIn hx hb hdg h1 h2 ho ht (kk ls H locs hl hK hP hD hS)
theorem z_tabOut (hZ : zI l D cl nf nm own cc nL ret Ts R mc ms post isI Z) {dflt lo hi : Int} {offs : Array Int} {len : Nat} {x : Int32} (tgt : Nat) (hdg : decode cc pc = .ok (.tableswitch dflt lo hi offs, len)) (h : x.toInt < lo ∨ hi < x.toInt) (ht : (pc : Int) + dflt = (tgt : Int)) (kk : Z k n tys tgt lv st w) : Z k n tys pc lv (.int x :: st) w := by
  obtain ⟨p, e, s, m, args, below, meth, c, Q, A, hx, hb, hml, hown, hts, hN, hA, hin0, hret, rfl⟩ := hZ
  intro ls H locs hl hK hP hD hS
  exact lv_tableOut hx hb hdg h ht (kk ls H locs hl hK hP hD hS)
theorem z_get (hZ : zI l D cl nf nm own cc nL ret Ts R mc ms post isI Z) {C : String} {T : u_T} {N ci index a : Nat} {fs : List Value} (q0 : Nat) (he : w[q0]? = some (a, .inr (ci, fs))) (hc : cl[ci]? = some (C, T, N)) (hw : ∀ x ∈ u_ws C T N, x ∈ Ts) (j : Nat) (hj : j < N) (hlink : Cond.fieldLink own index (T j).1 (T j).2.1 (T j).2.2.1 ∈ Ts) {v : Value} (hv : fs[j]? = some v) (hdg : decode cc pc = .ok (.getfield index, 3)) (kk : Z k n tys (pc + 3) lv (v :: st) w) : Z k n tys pc lv (.ref a :: st) w := by
  obtain ⟨p, e, s, m, args, below, meth, c, Q, A, hx, hb, hml, hown, hts, hN, hA, hin0, hret, rfl⟩ := hZ
  intro ls H locs hl hK hP hD hS
  exact va_get hx hb hts hw hown hK hP q0 he hc j hj (hts _ hlink) (fun _ h9 => h9) hv hdg (kk ls H locs hl hK hP hD hS)
theorem z_put (hZ : zI l D cl nf nm own cc nL ret Ts R mc ms post isI Z) {C : String} {T : u_T} {N ci index a : Nat} {fs : List Value} (q0 : Nat) (he : w[q0]? = some (a, .inr (ci, fs))) (hc : cl[ci]? = some (C, T, N)) (hw : ∀ x ∈ u_ws C T N, x ∈ Ts) (j : Nat) (hj : j < N) (hlink : Cond.fieldLink own index (T j).1 (T j).2.1 (T j).2.2.1 ∈ Ts) (ty0 : Nat → FieldType) (hty : ∀ k, k < N → parseFieldDescriptor (T k).2.2.1 = some (ty0 k)) (hnm : ∀ a, a < N → ∀ b, b < N → a ≠ b → (T a).2.1 ≠ (T b).2.1) (hfin : (T j).2.2.2 = false) {v : Value} (hn : narrow (ty0 j) v = v) (hfit : fits (ty0 j) v = true) (hln : j < fs.length) (hdg : decode cc pc = .ok (.putfield index, 3)) (kk : Z k n tys (pc + 3) lv st (w.set q0 (a, .inr (ci, fs.set j v)))) : Z k n tys pc lv (v :: .ref a :: st) w := by
  obtain ⟨p, e, s, m, args, below, meth, c, Q, A, hx, hb, hml, hown, hts, hN, hA, hin0, hret, rfl⟩ := hZ
  intro ls H locs hl hK hP hD hS
  exact va_put hx hb hts hw ty0 hty hnm hown hK hP hD hS q0 he hc j hj (hts _ hlink) (fun _ h9 => h9) hfin (hty j hj) hn hfit hln hdg (fun H locs hP hD hS => kk ls H locs hl hK hP hD hS)
theorem z_getN (hZ : zI l D cl nf nm own cc nL ret Ts R mc ms post isI Z) {C : String} {T : u_T} {N ci index a : Nat} {fs : List Value} (q0 : Nat) (he : w[q0]? = some (a, .inr (ci, fs))) (hc : cl[ci]? = some (C, T, N)) (hw : ∀ x ∈ u_ws C T N, x ∈ Ts) (j : Nat) (hj : j < N) {host : String} (hlink : (own, index, (T j).1, (T j).2.1, (T j).2.2.1, host) ∈ nf) {v : Value} (hv : fs[j]? = some v) (hdg : decode cc pc = .ok (.getfield index, 3)) (kk : Z k n tys (pc + 3) lv (v :: st) w) : Z k n tys pc lv (.ref a :: st) w := by
  obtain ⟨p, e, s, m, args, below, meth, c, Q, A, hx, hb, hml, hown, hts, hN, hA, hin0, hret, rfl⟩ := hZ
  intro ls H locs hl hK hP hD hS
  exact va_getN hx hb hts hw hown hK hP q0 he hc j hj (va_Nw.use rfl (hN.1 _ hlink)) (fun _ h9 => h9) hv hdg (kk ls H locs hl hK hP hD hS)
theorem z_putN (hZ : zI l D cl nf nm own cc nL ret Ts R mc ms post isI Z) {C : String} {T : u_T} {N ci index a : Nat} {fs : List Value} (q0 : Nat) (he : w[q0]? = some (a, .inr (ci, fs))) (hc : cl[ci]? = some (C, T, N)) (hw : ∀ x ∈ u_ws C T N, x ∈ Ts) (j : Nat) (hj : j < N) {host : String} (hlink : (own, index, (T j).1, (T j).2.1, (T j).2.2.1, host) ∈ nf) (ty0 : Nat → FieldType) (hty : ∀ k, k < N → parseFieldDescriptor (T k).2.2.1 = some (ty0 k)) (hnm : ∀ a, a < N → ∀ b, b < N → a ≠ b → (T a).2.1 ≠ (T b).2.1) (hfin : (T j).2.2.2 = false) {v : Value} (hn : narrow (ty0 j) v = v) (hfit : fits (ty0 j) v = true) (hln : j < fs.length) (hdg : decode cc pc = .ok (.putfield index, 3)) (kk : Z k n tys (pc + 3) lv st (w.set q0 (a, .inr (ci, fs.set j v)))) : Z k n tys pc lv (v :: .ref a :: st) w := by
  obtain ⟨p, e, s, m, args, below, meth, c, Q, A, hx, hb, hml, hown, hts, hN, hA, hin0, hret, rfl⟩ := hZ
  intro ls H locs hl hK hP hD hS
  exact va_putN hx hb hts hw ty0 hty hnm hown hK hP hD hS q0 he hc j hj (va_Nw.use rfl (hN.1 _ hlink)) (fun _ h9 => h9) hfin (hty j hj) hn hfit hln hdg (fun H locs hP hD hS => kk ls H locs hl hK hP hD hS)
theorem z_putF (hZ : zI l D cl nf nm own cc nL ret Ts R mc ms post isI Z) {C : String} {T : u_T} {N ci index a : Nat} {fs : List Value} (q0 : Nat) (he : w[q0]? = some (a, .inr (ci, fs))) (hc : cl[ci]? = some (C, T, N)) (hw : ∀ x ∈ u_ws C T N, x ∈ Ts) (j : Nat) (hj : j < N) (hlink : Cond.fieldLink own index (T j).1 (T j).2.1 (T j).2.2.1 ∈ Ts) (ty0 : Nat → FieldType) (hty : ∀ k, k < N → parseFieldDescriptor (T k).2.2.1 = some (ty0 k)) (hnm : ∀ a, a < N → ∀ b, b < N → a ≠ b → (T a).2.1 ≠ (T b).2.1) (hfin : (T j).2.2.2 = true) (hI : isI = true) (hdecl : (T j).1 = own) {v : Value} (hn : narrow (ty0 j) v = v) (hfit : fits (ty0 j) v = true) (hln : j < fs.length) (hdg : decode cc pc = .ok (.putfield index, 3)) (kk : Z k n tys (pc + 3) lv st (w.set q0 (a, .inr (ci, fs.set j v)))) : Z k n tys pc lv (v :: .ref a :: st) w := by
  obtain ⟨p, e, s, m, args, below, meth, c, Q, A, hx, hb, hml, hown, hts, hN, hA, hin0, hret, rfl⟩ := hZ
  intro ls H locs hl hK hP hD hS
  exact va_putF hx hb hts hw ty0 hty hnm hown hK hP hD hS q0 he hc j hj (hts _ hlink) (fun _ h9 => h9) hfin (hin0 hI) hdecl (hty j hj) hn hfit hln hdg (fun H locs hP hD hS => kk ls H locs hl hK hP hD hS)
theorem z_iald (hZ : zI l D cl nf nm own cc nL ret Ts R mc ms post isI Z) {cA : ClassId} {N a : Nat} {f : Nat → Int32} {i : Int32} (q0 t0 : Nat) (ha : w[q0]? = some (a, .inl (cA, N, .inl f))) (ht : tys[t0]? = some (cA, .int)) (hin : vp_in i N) (hdg : decode cc pc = .ok (.iaload, 1)) (kk : ∀ v : Int32, v = f i.toNatClampNeg → Z k n tys (pc + 1) lv (.int v :: st) w) : Z k n tys pc lv (.int i :: .ref a :: st) w := by
  obtain ⟨p, e, s, m, args, below, meth, c, Q, A, hx, hb, hml, hown, hts, hN, hA, hin0, hret, rfl⟩ := hZ
  intro ls H locs hl hK hP hD hS
  exact va_iald hx hb hK hP q0 t0 ha ht hin hdg (kk _ rfl ls H locs hl hK hP hD hS)
theorem z_lald (hZ : zI l D cl nf nm own cc nL ret Ts R mc ms post isI Z) {cA : ClassId} {N a : Nat} {f : Nat → Int64} {i : Int32} (q0 t0 : Nat) (ha : w[q0]? = some (a, .inl (cA, N, .inr (.inl f)))) (ht : tys[t0]? = some (cA, .long)) (hin : vp_in i N) (hdg : decode cc pc = .ok (.laload, 1)) (kk : ∀ v : Int64, v = f i.toNatClampNeg → Z k n tys (pc + 1) lv (.long v :: st) w) : Z k n tys pc lv (.int i :: .ref a :: st) w := by
  obtain ⟨p, e, s, m, args, below, meth, c, Q, A, hx, hb, hml, hown, hts, hN, hA, hin0, hret, rfl⟩ := hZ
  intro ls H locs hl hK hP hD hS
  exact va_lald hx hb hK hP q0 t0 ha ht hin hdg (kk _ rfl ls H locs hl hK hP hD hS)
theorem z_iast (hZ : zI l D cl nf nm own cc nL ret Ts R mc ms post isI Z) {cA : ClassId} {N a : Nat} {f : Nat → Int32} {i x : Int32} (q0 t0 : Nat) (ha : w[q0]? = some (a, .inl (cA, N, .inl f))) (ht : tys[t0]? = some (cA, .int)) (hin : vp_in i N) (hdg : decode cc pc = .ok (.iastore, 1)) (kk : ∀ g : Nat → Int32, g = upd f i.toNatClampNeg x → Z k n tys (pc + 1) lv st (w.set q0 (a, .inl (cA, N, .inl g)))) : Z k n tys pc lv (.int x :: .int i :: .ref a :: st) w := by
  obtain ⟨p, e, s, m, args, below, meth, c, Q, A, hx, hb, hml, hown, hts, hN, hA, hin0, hret, rfl⟩ := hZ
  intro ls H locs hl hK hP hD hS
  exact va_iast hx hb hK hP hD hS q0 t0 ha ht hin hdg (fun H locs hP hD hS => kk _ rfl ls H locs hl hK hP hD hS)
theorem z_last (hZ : zI l D cl nf nm own cc nL ret Ts R mc ms post isI Z) {cA : ClassId} {N a : Nat} {f : Nat → Int64} {i : Int32} {x : Int64} (q0 t0 : Nat) (ha : w[q0]? = some (a, .inl (cA, N, .inr (.inl f)))) (ht : tys[t0]? = some (cA, .long)) (hin : vp_in i N) (hdg : decode cc pc = .ok (.lastore, 1)) (kk : ∀ g : Nat → Int64, g = vp_updL f i.toNatClampNeg x → Z k n tys (pc + 1) lv st (w.set q0 (a, .inl (cA, N, .inr (.inl g))))) : Z k n tys pc lv (.long x :: .int i :: .ref a :: st) w := by
  obtain ⟨p, e, s, m, args, below, meth, c, Q, A, hx, hb, hml, hown, hts, hN, hA, hin0, hret, rfl⟩ := hZ
  intro ls H locs hl hK hP hD hS
  exact va_last hx hb hK hP hD hS q0 t0 ha ht hin hdg (fun H locs hP hD hS => kk _ rfl ls H locs hl hK hP hD hS)
theorem z_aald (hZ : zI l D cl nf nm own cc nL ret Ts R mc ms post isI Z) {cA : ClassId} {C : String} {N a y : Nat} {f : Nat → Option Nat} {i : Int32} (q0 t0 : Nat) (ha : w[q0]? = some (a, .inl (cA, N, .inr (.inr (.inr (.inr f)))))) (ht : tys[t0]? = some (cA, .object C)) (hin : vp_in i N) (hy : f i.toNatClampNeg = some y) (hdg : decode cc pc = .ok (.aaload, 1)) (kk : Z k n tys (pc + 1) lv (.ref y :: st) w) : Z k n tys pc lv (.int i :: .ref a :: st) w := by
  obtain ⟨p, e, s, m, args, below, meth, c, Q, A, hx, hb, hml, hown, hts, hN, hA, hin0, hret, rfl⟩ := hZ
  intro ls H locs hl hK hP hD hS
  exact va_aldq hx hb hK hP q0 t0 ha ht hin hdg (by rw [hy]; exact kk ls H locs hl hK hP hD hS)
theorem z_aast (hZ : zI l D cl nf nm own cc nL ret Ts R mc ms post isI Z) {cA : ClassId} {r : vw_C} {N a v ci : Nat} {vs : List Value} {f : Nat → Option Nat} {i : Int32} (q0 t0 qk : Nat) (ha : w[q0]? = some (a, .inl (cA, N, .inr (.inr (.inr (.inr f)))))) (ht : tys[t0]? = some (cA, .object r.1)) (hv : w[qk]? = some (v, .inr (ci, vs))) (hc : cl[ci]? = some r) (hin : vp_in i N) (hdg : decode cc pc = .ok (.aastore, 1)) (kk : ∀ g : Nat → Option Nat, g = va_up f i.toNatClampNeg (some v) → Z k n tys (pc + 1) lv st (w.set q0 (a, .inl (cA, N, .inr (.inr (.inr (.inr g))))))) : Z k n tys pc lv (.ref v :: .int i :: .ref a :: st) w := by
  obtain ⟨p, e, s, m, args, below, meth, c, Q, A, hx, hb, hml, hown, hts, hN, hA, hin0, hret, rfl⟩ := hZ
  intro ls H locs hl hK hP hD hS
  exact va_astq hx hb hK hP hD hS q0 t0 qk ci ha ht hv hc hin hdg (fun H locs hP hD hS => kk _ rfl ls H locs hl hK hP hD hS)
theorem z_mmax (hZ : zI l D cl nf nm own cc nL ret Ts R mc ms post isI Z) {index : Nat} {x y : Int32} (hlink : Cond.methodLink own index Lib.Math.max.name ∈ Ts) (hstat : Cond.static Lib.Math.max.name ∈ Ts) (hini : Cond.initialized "java/lang/Math" ∈ Ts) (hcode : Cond.code Lib.Math.max.name Lib.Math.max.code 2 (some .int) ∈ Ts) (hf : 1 ≤ R.frames) (hlo : (st.map fun v => v.category).sum + 13 ≤ R.locals) (hc : k ≤ R.cells) (hs : n ≤ R.slots) (hdg : decode cc pc = .ok (.invokestatic index, 3)) (kk : ∀ v : Int32, v = (if x < y then y else x) → Z k n tys (pc + 3) lv (.int v :: st) w) : Z k n tys pc lv (.int y :: .int x :: st) w := by
  obtain ⟨p, e, s, m, args, below, meth, c, Q, A, hx, hb, hml, hown, hts, hN, hA, hin0, hret, rfl⟩ := hZ
  intro ls H locs hl hK hP hD hS
  exact va_mmax hx hb (by rw [hml]; exact hl.1.symm) hown (hts _ hlink) (hts _ hstat) (hts _ hini) (hts _ hcode) hf hlo hc hs hdg (kk _ rfl ls H locs hl hK hP hD hS)
theorem z_mmin (hZ : zI l D cl nf nm own cc nL ret Ts R mc ms post isI Z) {index : Nat} {x y : Int32} (hlink : Cond.methodLink own index Lib.Math.min.name ∈ Ts) (hstat : Cond.static Lib.Math.min.name ∈ Ts) (hini : Cond.initialized "java/lang/Math" ∈ Ts) (hcode : Cond.code Lib.Math.min.name Lib.Math.min.code 2 (some .int) ∈ Ts) (hf : 1 ≤ R.frames) (hlo : (st.map fun v => v.category).sum + 13 ≤ R.locals) (hc : k ≤ R.cells) (hs : n ≤ R.slots) (hdg : decode cc pc = .ok (.invokestatic index, 3)) (kk : ∀ v : Int32, v = (if y < x then y else x) → Z k n tys (pc + 3) lv (.int v :: st) w) : Z k n tys pc lv (.int y :: .int x :: st) w := by
  obtain ⟨p, e, s, m, args, below, meth, c, Q, A, hx, hb, hml, hown, hts, hN, hA, hin0, hret, rfl⟩ := hZ
  intro ls H locs hl hK hP hD hS
  exact va_mmin hx hb (by rw [hml]; exact hl.1.symm) hown (hts _ hlink) (hts _ hstat) (hts _ hini) (hts _ hcode) hf hlo hc hs hdg (kk _ rfl ls H locs hl hK hP hD hS)
theorem z_new (hZ : zI l D cl nf nm own cc nL ret Ts R mc ms post isI Z) {C : String} {T : u_T} {N ci index : Nat} {fs : List Value} (hw : ∀ x ∈ u_ws C T N, x ∈ Ts) (ty : Nat → FieldType) (hty : ∀ k, k < N → parseFieldDescriptor (T k).2.2.1 = some (ty k)) (hcl : Cond.classLink own index C ∈ Ts) (hinst : Cond.instantiable C N ∈ Ts) (hini : Cond.initialized C ∈ Ts) (hc : cl[ci]? = some (C, T, N)) (hfs : ∀ j, j < N → defaultValue (ty j) = vp_V fs j) (hcells : k + 1 ≤ R.cells) (hslots : n + N ≤ R.slots) (hdg : decode cc pc = .ok (.new index, 3)) (kk : ∀ q : Nat, Z (k + 1) (n + N) tys (pc + 3) lv (.ref q :: st) (w ++ [(q, .inr (ci, fs))])) : Z k n tys pc lv st w := by
  obtain ⟨p, e, s, m, args, below, meth, c, Q, A, hx, hb, hml, hown, hts, hN, hA, hin0, hret, rfl⟩ := hZ
  intro ls H locs hl hK hP hD hS
  exact va_new hx hb hts hw ty hty hown (hts _ hcl) (hts _ hinst) (hts _ hini) hK hP hD hS hA hc hfs hcells hslots hdg (fun q H hP hD hS => kk q ls H locs hl hK hP hD hS)
theorem z_newa (hZ : zI l D cl nf nm own cc nL ret Ts R mc ms post isI Z) {atype : ArrayType} {ty : FieldType} {nn : Int32} {N' : Nat} {a0 : vp_A} (harr : Cond.arrayClass (newarray.typeOf atype) ∈ Ts) (hty : newarray.typeOf atype = ty) (ha : ∀ cA : ClassId, vp_cell cA a0 = arrV cA N' (fun _ => defaultValue ty)) (hn : ¬ nn < 0) (hN' : nn.toNatClampNeg = N') (hbytes : N' * componentBytes ty ≤ 536870912) (hcells : k + 1 ≤ R.cells) (hslots : n + N' ≤ R.slots) (hdg : decode cc pc = .ok (.newarray atype, 2)) (kk : ∀ (q : Nat) (cA : ClassId), Z (k + 1) (n + N') (tys ++ [(cA, ty)]) (pc + 2) lv (.ref q :: st) (w ++ [(q, .inl (cA, a0))])) : Z k n tys pc lv (.int nn :: st) w := by
  obtain ⟨p, e, s, m, args, below, meth, c, Q, A, hx, hb, hml, hown, hts, hN, hA, hin0, hret, rfl⟩ := hZ
  intro ls H locs hl hK hP hD hS
  exact va_newa hx hb (hts _ harr) hty hK hP hD hS hA ha hn hN' hbytes hcells hslots hdg (fun q cA H hK hP hD hS => kk q cA ls H locs hl hK hP hD hS)
theorem z_objInit (hZ : zI l D cl nf nm own cc nL ret Ts R mc ms post isI Z) {index a : Nat} (hlink : Cond.methodLink own index objectInit ∈ Ts) (hinst : Cond.instanceMethod objectInit ∈ Ts) (hcode : Cond.code objectInit ⟨#[0xb1]⟩ 1 none ∈ Ts) (hf : 1 ≤ R.frames) (hlo : (st.map fun v => v.category).sum + 12 ≤ R.locals) (hdg : decode cc pc = .ok (.invokespecial index, 3)) (kk : Z k n tys (pc + 3) lv st w) : Z k n tys pc lv (.ref a :: st) w := by
  obtain ⟨p, e, s, m, args, below, meth, c, Q, A, hx, hb, hml, hown, hts, hN, hA, hin0, hret, rfl⟩ := hZ
  intro ls H locs hl hK hP hD hS
  refine W.objInit hx hb hown (hts _ hlink) (hts _ hinst) (hts _ hcode) rfl (by rw [hml]; exact hl.1) rfl hdg hf (by show 2 * 0 + _ + 12 ≤ _; omega) ?_
  exact kk ls H locs hl hK hP hD hS
end ZL
section ZK
variable {l : Launch} {D : va_G} {cl : List vw_C} {nf : zNf} {nm : zNm} {own : String} {cc : ByteArray} {nL : Nat} {ret : Option FieldType} {Ts : List Cond} {R : Room} {mc ms : Nat} {post : zP} {isI : Bool} {Z : zZ}
variable {k n pc : Nat} {tys : zT} {lv : List (Nat × Value)} {st : List Value} {w : va_W}
variable {y : MethodName} {ws ws' : List Cond} {rm : Room} {As : List Value} {postc : zP} {bytes : ByteArray} {maxL cn index b : Nat} {rt : Option FieldType}
/-- what a callee's name says -/
def zY (y : MethodName) (ws : List Cond) (bytes : ByteArray) (maxL : Nat) (rt : Option FieldType) (cn : Nat) : Prop := (∃ ws', ws = Cond.code y bytes maxL rt :: ws') ∧ y.cls ≠ "java/lang/invoke/MethodHandle" ∧ y.cls ≠ "java/lang/invoke/VarHandle" ∧ (parseMethodDescriptor y.desc).map (fun d => d.parameters.length) = some cn
theorem z_blind {D : va_G} {cl : List vw_C} {nf : zNf} {nm : zNm} {As : List Value} {w0 : va_W} {tys : zT} {sz : Nat} : FrameBlind (zB D cl nf nm As w0 tys sz) := fun a U g mk q => by
  obtain ⟨q0, q1, q2, q3, q4, q5⟩ := q
  exact ⟨q0, q1, q2, va_K.moved (u := U) (U := U.calling g mk a) (Vm.Alike.refl U.vm) q3, q4, q5.same rfl⟩
theorem z_pre {D : va_G} {cl : List vw_C} {nf : zNf} {nm : zNm} {As : List Value} {w : va_W} {tys : zT} {s : State} {H : Heap} {A : Nat → Prop} (hK : va_K D cl tys s) (hP : va_P D cl w H) (hD : va_D A w) (hN : zN nf nm s) : ∀ U : State, U.heap = H → s.WarmedH U.vm → zB D cl nf nm As w tys H.size As.toArray U := fun U hU hW => ⟨rfl, by rw [hU], by rw [hU]; exact hP, va_K.moved hW.alike hK, hD.weaken (fun _ _ _ _ => trivial), hN.warm hW⟩
theorem z_free {A : Nat → Prop} {w : va_W} {H0 H : Heap} {locs : List Loc} (hD : va_D A w) (hS : va_S A H0 H locs) (hA : ∀ q : Nat, H0.size ≤ q → A q) : ∀ q, va_A w H.size q → A q := by
  intro q h
  rcases h with ⟨k, e, h⟩ | h
  · exact hD.2 k (q, e) h
  · exact hA q (Nat.le_trans hS.1 h)
/-- behind a call -/
theorem z_back {p : Program} {l : Launch} {e : Env} {R : Room} {s : State} {m : MethodId} {args : Array Value} {below : List Frame} {meth : Method} {c : Code} {H : Heap} {locs : List Loc} {cells slots : Nat} {Q : State → Prop} {pc : Nat} {ls : Array Slot} {rest st0 : List Value} {A : Nat → Prop} {a : Array Value} {mc ms : Nat} {D : va_G} {cl : List vw_C} {post : zP} {w : va_W}
    (hr : va_Run p l e R s m args below meth c H locs cells slots mc ms (F0 m pc ls st0) rest (zC D cl post w H.size a) (va_A w H.size)) (hD : va_D A w) (hS : va_S A s.heap H locs) (hA : ∀ q : Nat, s.heap.size ≤ q → A q)
    (kk : ∀ (v : Option Value) (w1 : va_W) (tys1 : zT) (H1 : Heap) (locs1 : List Loc), post v w1 tys1 → va_K D cl tys1 s → va_P D cl w1 H1 → va_D A w1 → va_S A s.heap H1 locs1 → W p l e R s m args below meth c H1 locs1 (cells + mc) (slots + ms) Q (F0 m (pc + 3) ls (v.toList ++ rest))) : W p l e R s m args below meth c H locs cells slots Q (F0 m pc ls st0) := by
  intro T hT X
  obtain ⟨v, st₀, t, T', L, h0, X', hL, e1, e2, ⟨⟨v', w1, tys1, hv, hp, hP1, hK1, hD1⟩, hz, hk⟩, st⟩ := hr T hT X
  cases hv
  rw [h0] at hz hk
  have hF := z_free hD hS hA
  obtain ⟨t2, a1, b1⟩ := kk v w1 tys1 T'.heap (locs ++ L) hp (va_K.moved (show t.vm.Alike s.vm from by rw [← e2]; exact X'.warmed.alike.symm) hK1) (by rw [e1]; exact hP1) (hD1.weaken (fun _ q _ h => hF q.1 h))
    ⟨Nat.le_trans hS.1 (by rw [e1]; exact hz), fun q h1 h2 => by rw [e1, hk q (Nat.lt_of_lt_of_le h1 hS.1) (fun z => h2 (hF q z))]; exact hS.2.1 q h1 h2, fun q hq => by
      rcases List.mem_append.mp hq with h | h
      · exact hS.2.2 q h
      · exact hF _ (hL q h)⟩ T' rfl X'
  exact ⟨t2, st t2 a1, b1⟩
theorem z_callS (hZ : zI l D cl nf nm own cc nL ret Ts R mc ms post isI Z) {rest : List Value} (hM : zM l D cl nf nm y ws rm As w tys postc) (hy : zY y ws bytes maxL rt cn) (hT : GoodIn Ts (va_wsS own index y ws))  (h0 : rm.cells = 0) (h1 : rm.slots = 0) (hR : rm.frames + 1 ≤ R.frames ∧ 8 + (maxL + 11) + rm.locals ≤ R.locals) (hn : As.length = cn) (hst : st = As.reverse ++ rest) (hroom : (rest.map fun v => v.category).sum ≤ 8) (hf : k ≤ R.cells ∧ n ≤ R.slots) (hdg : decode cc pc = .ok (.invokestatic index, 3)) (kk : ∀ (v : Option Value) (w1 : va_W) (tys1 : zT), postc v w1 tys1 → Z k n tys1 (pc + 3) lv (v.toList ++ rest) w1) : Z k n tys pc lv st w := by
  obtain ⟨p, e, s, m, args, below, meth, c, Q, A, hx, hb, hml, hown, hts, hN, hA, hin0, hret, rfl⟩ := hZ
  obtain ⟨⟨ws', hw⟩, hd⟩ := hy
  intro ls H locs hl hK hP hD hS
  subst hst
  have hf : k + rm.cells ≤ R.cells ∧ n + rm.slots ≤ R.slots := by rw [h0, h1]; exact hf
  have hr : va_Run p l e R s m args below meth c H locs k n rm.cells rm.slots (F0 m pc ls (As.reverse ++ rest)) rest (zC D cl postc w H.size As.toArray) (va_A w H.size) := va_runS (As := As) (rest := rest) ⟨hx, hb, hml, hown, hts⟩ (hM H.size) (va_cwS cn hts hT hw rfl rfl hd hR) ⟨z_blind, z_pre hK hP hD hN⟩ rfl hn hl.1 rfl (lv_room hroom) hdg hf
  rw [h0, h1] at hr
  exact z_back hr hD hS hA (fun v w1 tys1 H locs hp hK hP hD hS => kk v w1 tys1 hp ls H locs hl hK hP hD hS)
theorem z_callS0 (hZ : zI l D cl nf nm own cc nL ret Ts R mc ms post isI Z) {rest : List Value} (hM : zM l D cl nf nm y ws rm As w tys postc) (hy : zY y ws bytes maxL rt cn) (hT : GoodIn Ts (wsS own index y ws)) (ho : y.cls = own)  (h0 : rm.cells = 0) (h1 : rm.slots = 0) (hR : rm.frames + 1 ≤ R.frames ∧ 8 + (maxL + 11) + rm.locals ≤ R.locals) (hn : As.length = cn) (hst : st = As.reverse ++ rest) (hroom : (rest.map fun v => v.category).sum ≤ 8) (hf : k ≤ R.cells ∧ n ≤ R.slots) (hdg : decode cc pc = .ok (.invokestatic index, 3)) (kk : ∀ (v : Option Value) (w1 : va_W) (tys1 : zT), postc v w1 tys1 → Z k n tys1 (pc + 3) lv (v.toList ++ rest) w1) : Z k n tys pc lv st w := by
  obtain ⟨p, e, s, m, args, below, meth, c, Q, A, hx, hb, hml, hown, hts, hN, hA, hin0, hret, rfl⟩ := hZ
  obtain ⟨⟨ws', hw⟩, hd⟩ := hy
  intro ls H locs hl hK hP hD hS
  subst hst
  have hf : k + rm.cells ≤ R.cells ∧ n + rm.slots ≤ R.slots := by rw [h0, h1]; exact hf
  have hr : va_Run p l e R s m args below meth c H locs k n rm.cells rm.slots (F0 m pc ls (As.reverse ++ rest)) rest (zC D cl postc w H.size As.toArray) (va_A w H.size) := va_runS (As := As) (rest := rest) ⟨hx, hb, hml, hown, hts⟩ (hM H.size) (cwS cn hts hT hw rfl rfl ⟨ho, hd⟩ hR) ⟨z_blind, z_pre hK hP hD hN⟩ rfl hn hl.1 rfl (lv_room hroom) hdg hf
  rw [h0, h1] at hr
  exact z_back hr hD hS hA (fun v w1 tys1 H locs hp hK hP hD hS => kk v w1 tys1 hp ls H locs hl hK hP hD hS)
theorem z_callV (hZ : zI l D cl nf nm own cc nL ret Ts R mc ms post isI Z) {rest : List Value} (hM : zM l D cl nf nm y ws rm (.ref b :: As) w tys postc) (hy : zY y ws bytes maxL rt cn) (hT : GoodIn Ts (wsV own index y.cls y ws)) {T : u_T} {N ci : Nat} {fs : List Value} (q0 : Nat) (he : w[q0]? = some (b, .inr (ci, fs))) (hc : cl[ci]? = some (y.cls, T, N)) (h0 : rm.cells = 0) (h1 : rm.slots = 0) (hR : rm.frames + 1 ≤ R.frames ∧ 8 + (maxL + 11) + rm.locals ≤ R.locals) (hn : As.length = cn) (hst : st = As.reverse ++ .ref b :: rest) (hroom : (rest.map fun v => v.category).sum ≤ 8) (hf : k ≤ R.cells ∧ n ≤ R.slots) (hdg : decode cc pc = .ok (.invokevirtual index, 3)) (kk : ∀ (v : Option Value) (w1 : va_W) (tys1 : zT), postc v w1 tys1 → Z k n tys1 (pc + 3) lv (v.toList ++ rest) w1) : Z k n tys pc lv st w := by
  obtain ⟨p, e, s, m, args, below, meth, c, Q, A, hx, hb, hml, hown, hts, hN, hA, hin0, hret, rfl⟩ := hZ
  obtain ⟨⟨ws', hw⟩, hd⟩ := hy
  intro ls H locs hl hK hP hD hS
  subst hst
  have hf : k + rm.cells ≤ R.cells ∧ n + rm.slots ≤ R.slots := by rw [h0, h1]; exact hf
  have hr : va_Run p l e R s m args below meth c H locs k n rm.cells rm.slots (F0 m pc ls (As.reverse ++ .ref b :: rest)) rest (zC D cl postc w H.size (.ref b :: As).toArray) (va_A w H.size) := va_runV (As := As) (rest := rest) ⟨hx, hb, hml, hown, hts⟩ (hM H.size) (cwV cn hts hT hw rfl rfl ⟨rfl, hd⟩ hR) ⟨z_blind, (va_recv hK hP (ci := ci) (q0 := q0) hc he), z_pre hK hP hD hN⟩ rfl hn hl.1 rfl (lv_room hroom) hdg hf
  rw [h0, h1] at hr
  exact z_back hr hD hS hA (fun v w1 tys1 H locs hp hK hP hD hS => kk v w1 tys1 hp ls H locs hl hK hP hD hS)
theorem z_callSN (hZ : zI l D cl nf nm own cc nL ret Ts R mc ms post isI Z) {rest : List Value} (hM : zM l D cl nf nm y ws rm As w tys postc) (hy : zY y ws bytes maxL rt cn) (hG : GoodIn Ts ws) {host : String} (hl9 : (own, index, y, host) ∈ nm) (hini : Cond.initialized y.cls ∈ Ts) (hs9 : Cond.static y ∈ Ts)  (h0 : rm.cells = 0) (h1 : rm.slots = 0) (hR : rm.frames + 1 ≤ R.frames ∧ 8 + (maxL + 11) + rm.locals ≤ R.locals) (hn : As.length = cn) (hst : st = As.reverse ++ rest) (hroom : (rest.map fun v => v.category).sum ≤ 8) (hf : k ≤ R.cells ∧ n ≤ R.slots) (hdg : decode cc pc = .ok (.invokestatic index, 3)) (kk : ∀ (v : Option Value) (w1 : va_W) (tys1 : zT), postc v w1 tys1 → Z k n tys1 (pc + 3) lv (v.toList ++ rest) w1) : Z k n tys pc lv st w := by
  obtain ⟨p, e, s, m, args, below, meth, c, Q, A, hx, hb, hml, hown, hts, hN, hA, hin0, hret, rfl⟩ := hZ
  obtain ⟨⟨ws', hw⟩, hd⟩ := hy
  intro ls H locs hl hK hP hD hS
  subst hst
  have hf : k + rm.cells ≤ R.cells ∧ n + rm.slots ≤ R.slots := by rw [h0, h1]; exact hf
  have hr : va_Run p l e R s m args below meth c H locs k n rm.cells rm.slots (F0 m pc ls (As.reverse ++ rest)) rest (zC D cl postc w H.size As.toArray) (va_A w H.size) := va_runSN (As := As) (rest := rest) ⟨hx, hb, hml, hown, hts⟩ (hM H.size) ⟨va_cnB cn hts hG hw rfl rfl (hN.2 _ hl9) (hts _ hini) hd hR, hts _ hs9, trivial⟩ ⟨z_blind, z_pre hK hP hD hN⟩ rfl hn hl.1 rfl (lv_room hroom) hdg hf
  rw [h0, h1] at hr
  exact z_back hr hD hS hA (fun v w1 tys1 H locs hp hK hP hD hS => kk v w1 tys1 hp ls H locs hl hK hP hD hS)
theorem z_callVN (hZ : zI l D cl nf nm own cc nL ret Ts R mc ms post isI Z) {rest : List Value} (hM : zM l D cl nf nm y ws rm (.ref b :: As) w tys postc) (hy : zY y ws bytes maxL rt cn) (hG : GoodIn Ts ws) {host : String} (hl9 : (own, index, y, host) ∈ nm) (hini : Cond.initialized y.cls ∈ Ts) (hi9 : Cond.instanceMethod y ∈ Ts) (hs9 : Cond.selects y.cls y y ∈ Ts) {T : u_T} {N ci : Nat} {fs : List Value} (q0 : Nat) (he : w[q0]? = some (b, .inr (ci, fs))) (hc : cl[ci]? = some (y.cls, T, N)) (h0 : rm.cells = 0) (h1 : rm.slots = 0) (hR : rm.frames + 1 ≤ R.frames ∧ 8 + (maxL + 11) + rm.locals ≤ R.locals) (hn : As.length = cn) (hst : st = As.reverse ++ .ref b :: rest) (hroom : (rest.map fun v => v.category).sum ≤ 8) (hf : k ≤ R.cells ∧ n ≤ R.slots) (hdg : decode cc pc = .ok (.invokevirtual index, 3)) (kk : ∀ (v : Option Value) (w1 : va_W) (tys1 : zT), postc v w1 tys1 → Z k n tys1 (pc + 3) lv (v.toList ++ rest) w1) : Z k n tys pc lv st w := by
  obtain ⟨p, e, s, m, args, below, meth, c, Q, A, hx, hb, hml, hown, hts, hN, hA, hin0, hret, rfl⟩ := hZ
  obtain ⟨⟨ws', hw⟩, hd⟩ := hy
  intro ls H locs hl hK hP hD hS
  subst hst
  have hf : k + rm.cells ≤ R.cells ∧ n + rm.slots ≤ R.slots := by rw [h0, h1]; exact hf
  have hr : va_Run p l e R s m args below meth c H locs k n rm.cells rm.slots (F0 m pc ls (As.reverse ++ .ref b :: rest)) rest (zC D cl postc w H.size (.ref b :: As).toArray) (va_A w H.size) := va_runVN (As := As) (rest := rest) ⟨hx, hb, hml, hown, hts⟩ (hM H.size) ⟨va_cnB cn hts hG hw rfl rfl (hN.2 _ hl9) (hts _ hini) hd hR, hts _ hi9, hts _ hs9⟩ ⟨z_blind, (va_recv hK hP (ci := ci) (q0 := q0) hc he), z_pre hK hP hD hN⟩ rfl hn hl.1 rfl (lv_room hroom) hdg hf
  rw [h0, h1] at hr
  exact z_back hr hD hS hA (fun v w1 tys1 H locs hp hK hP hD hS => kk v w1 tys1 hp ls H locs hl hK hP hD hS)
theorem z_callI (hZ : zI l D cl nf nm own cc nL ret Ts R mc ms post isI Z) {rest : List Value} (hM : zM l D cl nf nm y ws rm (.ref b :: As) w tys postc) (hy : zY y ws bytes maxL none cn) (hG : GoodIn Ts ws) (hini : Cond.initialized y.cls ∈ Ts) (hl9 : Cond.methodLink own index y ∈ Ts) (hi9 : Cond.instanceMethod y ∈ Ts) (hy1 : y.name = "<init>") (hR : rm.frames + 1 ≤ R.frames ∧ 8 + (maxL + 11) + rm.locals ≤ R.locals) (hn : As.length = cn) (hst : st = As.reverse ++ .ref b :: rest) (hroom : (rest.map fun v => v.category).sum ≤ 8) (hf : k + rm.cells ≤ R.cells ∧ n + rm.slots ≤ R.slots) (hdg : decode cc pc = .ok (.invokespecial index, 3)) (kk : ∀ (v : Option Value) (w1 : va_W) (tys1 : zT), postc v w1 tys1 → Z (k + rm.cells) (n + rm.slots) tys1 (pc + 3) lv (v.toList ++ rest) w1) : Z k n tys pc lv st w := by
  obtain ⟨p, e, s, m, args, below, meth, c, Q, A, hx, hb, hml, hown, hts, hN, hA, hin0, hret, rfl⟩ := hZ
  obtain ⟨⟨ws', hw⟩, hd⟩ := hy
  intro ls H locs hl hK hP hD hS
  subst hst
  have hr : va_Run p l e R s m args below meth c H locs k n rm.cells rm.slots (F0 m pc ls (As.reverse ++ .ref b :: rest)) rest (zC D cl postc w H.size (.ref b :: As).toArray) (va_A w H.size) := va_runI (As := As) (rest := rest) ⟨hx, hb, hml, hown, hts⟩ (hM H.size) (cwI cn hts hG hw rfl rfl (hts _ hini) (hts _ hl9) (hts _ hi9) hy1 hd hR) ⟨z_blind, z_pre hK hP hD hN⟩ rfl hn hl.1 rfl (lv_room hroom) hdg hf
  exact z_back hr hD hS hA (fun v w1 tys1 H locs hp hK hP hD hS => kk v w1 tys1 hp ls H locs hl hK hP hD hS)
theorem z_callIN (hZ : zI l D cl nf nm own cc nL ret Ts R mc ms post isI Z) {rest : List Value} (hM : zM l D cl nf nm y ws rm (.ref b :: As) w tys postc) (hy : zY y ws bytes maxL none cn) (hG : GoodIn Ts ws) {host : String} (hl9 : (own, index, y, host) ∈ nm) (hini : Cond.initialized y.cls ∈ Ts) (hi9 : Cond.instanceMethod y ∈ Ts) (hy1 : y.name = "<init>") (hR : rm.frames + 1 ≤ R.frames ∧ 8 + (maxL + 11) + rm.locals ≤ R.locals) (hn : As.length = cn) (hst : st = As.reverse ++ .ref b :: rest) (hroom : (rest.map fun v => v.category).sum ≤ 8) (hf : k + rm.cells ≤ R.cells ∧ n + rm.slots ≤ R.slots) (hdg : decode cc pc = .ok (.invokespecial index, 3)) (kk : ∀ (v : Option Value) (w1 : va_W) (tys1 : zT), postc v w1 tys1 → Z (k + rm.cells) (n + rm.slots) tys1 (pc + 3) lv (v.toList ++ rest) w1) : Z k n tys pc lv st w := by
  obtain ⟨p, e, s, m, args, below, meth, c, Q, A, hx, hb, hml, hown, hts, hN, hA, hin0, hret, rfl⟩ := hZ
  obtain ⟨⟨ws', hw⟩, hd⟩ := hy
  intro ls H locs hl hK hP hD hS
  subst hst
  have hr : va_Run p l e R s m args below meth c H locs k n rm.cells rm.slots (F0 m pc ls (As.reverse ++ .ref b :: rest)) rest (zC D cl postc w H.size (.ref b :: As).toArray) (va_A w H.size) := va_runIN (As := As) (rest := rest) ⟨hx, hb, hml, hown, hts⟩ (hM H.size) ⟨va_cnB cn hts hG hw rfl rfl (hN.2 _ hl9) (hts _ hini) hd hR, hy1, hts _ hi9⟩ ⟨z_blind, z_pre hK hP hD hN⟩ rfl hn hl.1 rfl (lv_room hroom) hdg hf
  exact z_back hr hD hS hA (fun v w1 tys1 H locs hp hK hP hD hS => kk v w1 tys1 hp ls H locs hl hK hP hD hS)
theorem z_good {c : Cond} {y : MethodName} {b : ByteArray} {mL : Nat} {rt : Option FieldType} (hc : Cond.code y b mL rt ∈ zBig) : GoodIn (c :: zBig) (Cond.code y b mL rt :: zBig) := fun w h => by
  have h1 : w ∈ zBig := by
    rcases List.mem_cons.mp h with rfl | h
    · exact hc
    · exact h
  exact ⟨List.mem_cons_of_mem _ h1, good_of_word (List.mem_filter.mp h1).2⟩
theorem z_goodL {c : Cond} {ws : List Cond} (h : ∀ w ∈ ws, w ∈ zBig) : GoodIn (c :: zBig) ws := fun w hw => ⟨List.mem_cons_of_mem _ (h w hw), good_of_word (List.mem_filter.mp (h w hw)).2⟩
theorem z_goodS {c : Cond} {own : String} {index : Nat} {y : MethodName} {b : ByteArray} {mL : Nat} {rt : Option FieldType} (h1 : Cond.methodLink own index y ∈ zBig) (h2 : Cond.static y ∈ zBig) (h3 : Cond.initialized y.cls ∈ zBig) (hc : Cond.code y b mL rt ∈ zBig) : GoodIn (c :: zBig) (va_wsS own index y (Cond.code y b mL rt :: zBig)) := z_goodL (fun w hw => by
  rcases List.mem_append.mp hw with h | h
  · rcases List.mem_cons.mp h with rfl | h
    · exact h1
    · rcases List.mem_cons.mp h with rfl | h
      · exact h2
      · rw [List.mem_singleton.mp h]; exact h3
  · rcases List.mem_cons.mp h with rfl | h
    · exact hc
    · exact h)
theorem z_goodV {c : Cond} {own : String} {index : Nat} {y : MethodName} {b : ByteArray} {mL : Nat} {rt : Option FieldType} (h1 : Cond.methodLink own index y ∈ zBig) (h2 : Cond.instanceMethod y ∈ zBig) (h3 : Cond.selects y.cls y y ∈ zBig) (h4 : Cond.initialized y.cls ∈ zBig) (hc : Cond.code y b mL rt ∈ zBig) : GoodIn (c :: zBig) (wsV own index y.cls y (Cond.code y b mL rt :: zBig)) := z_goodL (fun w hw => by
  rcases List.mem_append.mp hw with h | h
  · rcases List.mem_cons.mp h with rfl | h
    · exact h1
    · rcases List.mem_cons.mp h with rfl | h
      · exact h2
      · rcases List.mem_cons.mp h with rfl | h
        · exact h3
        · rw [List.mem_singleton.mp h]; exact h4
  · rcases List.mem_cons.mp h with rfl | h
    · exact hc
    · exact h)
def qV (B : va_W → zT → Prop) : zP := fun v w tys => v = none ∧ B w tys
def qI (B : Int32 → va_W → zT → Prop) : zP := fun v w tys => ∃ r : Int32, v = some (.int r) ∧ B r w tys
def qL (B : Int64 → va_W → zT → Prop) : zP := fun v w tys => ∃ r : Int64, v = some (.long r) ∧ B r w tys
theorem z_kv {Z : zZ} {k n pc : Nat} {lv : List (Nat × Value)} {rest : List Value} {B : va_W → zT → Prop} (h : ∀ (w1 : va_W) (tys1 : zT), B w1 tys1 → Z k n tys1 pc lv rest w1) : ∀ (v : Option Value) (w1 : va_W) (tys1 : zT), qV B v w1 tys1 → Z k n tys1 pc lv (v.toList ++ rest) w1 := fun v w1 tys1 hq => by
  obtain ⟨rfl, hB⟩ := hq
  exact h w1 tys1 hB
theorem z_ki {Z : zZ} {k n pc : Nat} {lv : List (Nat × Value)} {rest : List Value} {B : Int32 → va_W → zT → Prop} (h : ∀ (r : Int32) (w1 : va_W) (tys1 : zT), B r w1 tys1 → Z k n tys1 pc lv (.int r :: rest) w1) : ∀ (v : Option Value) (w1 : va_W) (tys1 : zT), qI B v w1 tys1 → Z k n tys1 pc lv (v.toList ++ rest) w1 := fun v w1 tys1 hq => by
  obtain ⟨r, rfl, hB⟩ := hq
  exact h r w1 tys1 hB
theorem z_kl {Z : zZ} {k n pc : Nat} {lv : List (Nat × Value)} {rest : List Value} {B : Int64 → va_W → zT → Prop} (h : ∀ (r : Int64) (w1 : va_W) (tys1 : zT), B r w1 tys1 → Z k n tys1 pc lv (.long r :: rest) w1) : ∀ (v : Option Value) (w1 : va_W) (tys1 : zT), qL B v w1 tys1 → Z k n tys1 pc lv (v.toList ++ rest) w1 := fun v w1 tys1 hq => by
  obtain ⟨r, rfl, hB⟩ := hq
  exact h r w1 tys1 hB
end ZK
end
section
theorem n_bm {x : Int} (h1 : -9223372036854775808 ≤ x) (h2 : x < 9223372036854775808) : x.bmod (2 ^ 64) = x := by
  rw [show (2 ^ 64 : Nat) = 18446744073709551616 from rfl, Int.bmod_def]
  split <;> omega
theorem n_bi {x : Int} (h1 : -2147483648 ≤ x) (h2 : x < 2147483648) : x.bmod (2 ^ 32) = x := by
  rw [show (2 ^ 32 : Nat) = 4294967296 from rfl, Int.bmod_def]
  split <;> omega
theorem L_rg (a : Int64) : -9223372036854775808 ≤ a.toInt ∧ a.toInt < 9223372036854775808 := by
  have h1 := Int64.le_toInt a
  have h2 := Int64.toInt_lt a
  omega
theorem I_rg (a : Int32) : -2147483648 ≤ a.toInt ∧ a.toInt < 2147483648 := by
  have h1 := Int32.le_toInt a
  have h2 := Int32.toInt_lt a
  omega
theorem L_add {a b : Int64} (h1 : -9223372036854775808 ≤ a.toInt + b.toInt) (h2 : a.toInt + b.toInt < 9223372036854775808) : (a + b).toInt = a.toInt + b.toInt := by
  rw [Int64.toInt_add]; exact n_bm h1 h2
theorem L_sub {a b : Int64} (h1 : -9223372036854775808 ≤ a.toInt - b.toInt) (h2 : a.toInt - b.toInt < 9223372036854775808) : (a - b).toInt = a.toInt - b.toInt := by
  rw [Int64.toInt_sub]; exact n_bm h1 h2
theorem L_neg {a : Int64} (h1 : -9223372036854775808 < a.toInt) : (-a).toInt = -a.toInt := by
  have h2 := L_rg a
  rw [Int64.toInt_neg]; exact n_bm (by omega) (by omega)
theorem L_mul {a b : Int64} (h1 : -9223372036854775808 ≤ a.toInt * b.toInt) (h2 : a.toInt * b.toInt < 9223372036854775808) : (a * b).toInt = a.toInt * b.toInt := by
  rw [Int64.toInt_mul]; exact n_bm h1 h2
theorem I_add {a b : Int32} (h1 : -2147483648 ≤ a.toInt + b.toInt) (h2 : a.toInt + b.toInt < 2147483648) : (a + b).toInt = a.toInt + b.toInt := by
  rw [Int32.toInt_add]; exact n_bi h1 h2
theorem I_sub {a b : Int32} (h1 : -2147483648 ≤ a.toInt - b.toInt) (h2 : a.toInt - b.toInt < 2147483648) : (a - b).toInt = a.toInt - b.toInt := by
  rw [Int32.toInt_sub]; exact n_bi h1 h2
theorem I_neg {a : Int32} (h1 : -2147483648 < a.toInt) : (-a).toInt = -a.toInt := by
  have h2 := I_rg a
  rw [Int32.toInt_neg]; exact n_bi (by omega) (by omega)
theorem I_i2l (a : Int32) : a.toInt64.toInt = a.toInt := Int32.toInt_toInt64 a
theorem amt0 : ∀ k : Fin 64, ((nI k.val).toInt64 &&& 63).toBitVec.smod 64 = BitVec.ofNat 64 k.val := by decide
theorem nI_of_toInt {y : Int32} {k : Nat} (hy : y.toInt = k) (hk : k < 64) : y = nI k := Int32.toInt_inj.mp (by rw [hy, nI_toInt (by omega)])
theorem L_amt {y : Int32} {k : Nat} (hy : y.toInt = k) (hk : k < 64) : (y.toInt64 &&& 63).toBitVec.smod 64 = BitVec.ofNat 64 k := by
  rw [nI_of_toInt hy hk]
  exact amt0 ⟨k, hk⟩
theorem L_shr (x : Int64) {y : Int32} {k : Nat} (hy : y.toInt = k) (hk : k < 64) : (x >>> (y.toInt64 &&& 63)).toInt = x.toInt / 2 ^ k := by
  have h := L_amt hy hk
  show (BitVec.sshiftRight' x.toBitVec ((y.toInt64 &&& 63).toBitVec.smod 64)).toInt = _
  rw [h, BitVec.toInt_sshiftRight', BitVec.toNat_ofNat, Nat.mod_eq_of_lt (Nat.lt_trans hk (by decide)), Int.shiftRight_eq_div_pow]
  rfl
theorem L_shlm (x : Int64) {y : Int32} {k : Nat} (hy : y.toInt = k) (hk : k < 64) : (x <<< (y.toInt64 &&& 63)).toInt = (x.toInt * 2 ^ k).bmod (2 ^ 64) := by
  have h := L_amt hy hk
  show (x.toBitVec <<< ((y.toInt64 &&& 63).toBitVec.smod 64)).toInt = _
  rw [h, BitVec.shiftLeft_eq', BitVec.toNat_ofNat, Nat.mod_eq_of_lt (Nat.lt_trans hk (by decide)), BitVec.toInt_shiftLeft, Nat.shiftLeft_eq]
  have e1 : x.toInt = (x.toBitVec.toNat : Int).bmod (2 ^ 64) := BitVec.toInt_eq_toNat_bmod x.toBitVec
  rw [e1, Int.bmod_mul_bmod]
  simp
theorem L_shl (x : Int64) {y : Int32} {k : Nat} (hy : y.toInt = k) (hk : k < 64) (h1 : -9223372036854775808 ≤ x.toInt * 2 ^ k) (h2 : x.toInt * 2 ^ k < 9223372036854775808) : (x <<< (y.toInt64 &&& 63)).toInt = x.toInt * 2 ^ k := by
  rw [L_shlm x hy hk]; exact n_bm h1 h2
theorem N_or1 (n : Nat) : n ||| 1 = n + (1 - n % 2) := by
  have h : ∀ a r : Nat, r < 2 → 2 * a + r = 2 * a ||| r := fun a r hr => Nat.two_pow_add_eq_or_of_lt (i := 1) (by simpa using hr) a
  have e1 : n = 2 * (n / 2) ||| n % 2 := by rw [← h _ _ (by omega)]; omega
  have e2 : (n % 2) ||| 1 = 1 := by rcases (show n % 2 = 0 ∨ n % 2 = 1 by omega) with q | q <;> rw [q] <;> rfl
  calc n ||| 1 = (2 * (n / 2) ||| n % 2) ||| 1 := by rw [← e1]
    _ = 2 * (n / 2) ||| 1 := by rw [Nat.or_assoc, e2]
    _ = 2 * (n / 2) + 1 := (h _ _ (by omega)).symm
    _ = n + (1 - n % 2) := by omega
theorem L_tn {x : Int64} (h : 0 ≤ x.toInt) : (x.toBitVec.toNat : Int) = x.toInt := by
  have e1 : x.toInt = x.toBitVec.toInt := rfl
  rw [e1] at h ⊢
  have := BitVec.toInt_eq_toNat_of_msb (x := x.toBitVec) (by
    cases hm : x.toBitVec.msb
    · rfl
    · have := BitVec.toInt_neg_of_msb_true hm
      omega)
  exact this.symm
theorem L_of_nat {x : Int64} {n : Nat} (h : x.toBitVec.toNat = n) (hn : n < 9223372036854775808) : x.toInt = n := by
  have e1 : x.toInt = x.toBitVec.toInt := rfl
  rw [e1, BitVec.toInt_eq_toNat_bmod, h]
  exact n_bm (by omega) (by omega)
theorem L_or1 {x : Int64} (h : 0 ≤ x.toInt) : (x ||| 1).toInt = x.toInt + (1 - x.toInt % 2) := by
  have h1 := L_tn h
  have h2 := L_rg x
  have h3 : (x ||| 1).toBitVec.toNat = x.toBitVec.toNat ||| 1 := by
    rw [Int64.toBitVec_or, BitVec.toNat_or]; rfl
  rw [N_or1] at h3
  rw [L_of_nat h3 (by omega)]
  omega
theorem L_and1 {x : Int64} : x &&& 1 = 0 ↔ x.toInt % 2 = 0 := by
  have h3 : (x &&& 1).toBitVec.toNat = x.toBitVec.toNat % 2 := by
    rw [Int64.toBitVec_and, BitVec.toNat_and, show (1 : Int64).toBitVec.toNat = 1 from rfl, Nat.and_one_is_mod]
  have e1 : x.toInt = (x.toBitVec.toNat : Int).bmod (2 ^ 64) := BitVec.toInt_eq_toNat_bmod x.toBitVec
  have h4 : x.toInt % 2 = (x.toBitVec.toNat : Int) % 2 := by
    rw [e1, show (2 ^ 64 : Nat) = 18446744073709551616 from rfl, Int.bmod_def]
    split <;> omega
  rw [h4]
  constructor
  · intro q
    rw [q] at h3
    have : (0 : Int64).toBitVec.toNat = 0 := rfl
    omega
  · intro q
    apply Int64.toInt_inj.mp
    rw [L_of_nat (n := 0) (by omega) (by omega)]
    rfl
theorem dec_up {x b y : Int32} (h : ¬ b ≤ x) (e : y = x + Int32.ofInt 1) : (b.toInt - y.toInt).toNat < (b.toInt - x.toInt).toNat := by
  rw [Int32.le_iff_toInt_le] at h
  have h1 := I_rg b
  have h2 := I_rg x
  have h3 : (Int32.ofInt 1).toInt = 1 := by decide
  have h4 : (x + Int32.ofInt 1).toInt = x.toInt + 1 := by rw [I_add, h3] <;> omega
  rw [e, h4]
  omega
theorem dec_dn {x y : Int32} (z : Int) (hz : (Int32.ofInt z).toInt = z) (hz2 : z < 0 ∧ -1000 < z) (h : ¬ x ≤ 0) (e : y = x + Int32.ofInt z) : y.toInt.toNat < x.toInt.toNat := by
  rw [Int32.le_iff_toInt_le] at h
  have h1 := I_rg x
  have h3 : (0 : Int32).toInt = 0 := by decide
  have h4 : (x + Int32.ofInt z).toInt = x.toInt + z := by rw [I_add, hz] <;> omega
  rw [e, h4]
  omega
end
section
theorem zyN_init : zY yN_init wsN_init bN_init 2 none 0 := ⟨⟨_, rfl⟩, by decide +kernel, by decide +kernel, by decide +kernel⟩
theorem zyV_init : zY yV_init wsV_init bV_init 1 none 0 := ⟨⟨_, rfl⟩, by decide +kernel, by decide +kernel, by decide +kernel⟩
theorem zyN_whole : zY yN_whole wsN_whole bN_whole 4 (some .boolean) 2 := ⟨⟨_, rfl⟩, by decide +kernel, by decide +kernel, by decide +kernel⟩
theorem zyN_isRegister : zY yN_isRegister wsN_isRegister bN_isRegister 1 (some .boolean) 1 := ⟨⟨_, rfl⟩, by decide +kernel, by decide +kernel, by decide +kernel⟩
theorem zyV_setWhole : zY yV_setWhole wsV_setWhole bV_setWhole 3 none 1 := ⟨⟨_, rfl⟩, by decide +kernel, by decide +kernel, by decide +kernel⟩
theorem zyN_real : zY yN_real wsN_real bN_real 5 (some .boolean) 3 := ⟨⟨_, rfl⟩, by decide +kernel, by decide +kernel, by decide +kernel⟩
theorem zyV_setReal : zY yV_setReal wsV_setReal bV_setReal 4 none 2 := ⟨⟨_, rfl⟩, by decide +kernel, by decide +kernel, by decide +kernel⟩
theorem zyV_sizeOf : zY yV_sizeOf wsV_sizeOf bV_sizeOf 2 (some .long) 1 := ⟨⟨_, rfl⟩, by decide +kernel, by decide +kernel, by decide +kernel⟩
theorem zyV_setNearest : zY yV_setNearest wsV_setNearest bV_setNearest 12 none 4 := ⟨⟨_, rfl⟩, by decide +kernel, by decide +kernel, by decide +kernel⟩
theorem zyJL_numberOfLeadingZeros : zY yJL_numberOfLeadingZeros wsJL_numberOfLeadingZeros bJL_numberOfLeadingZeros 3 (some .int) 1 := ⟨⟨_, rfl⟩, by decide +kernel, by decide +kernel, by decide +kernel⟩
theorem zyJI_numberOfLeadingZeros : zY yJI_numberOfLeadingZeros wsJI_numberOfLeadingZeros bJI_numberOfLeadingZeros 2 (some .int) 1 := ⟨⟨_, rfl⟩, by decide +kernel, by decide +kernel, by decide +kernel⟩
theorem zyV_dropBits : zY yV_dropBits wsV_dropBits bV_dropBits 11 (some .long) 3 := ⟨⟨_, rfl⟩, by decide +kernel, by decide +kernel, by decide +kernel⟩
theorem zyV_setZero : zY yV_setZero wsV_setZero bV_setZero 1 none 0 := ⟨⟨_, rfl⟩, by decide +kernel, by decide +kernel, by decide +kernel⟩
theorem zyV_setInfinity : zY yV_setInfinity wsV_setInfinity bV_setInfinity 2 none 1 := ⟨⟨_, rfl⟩, by decide +kernel, by decide +kernel, by decide +kernel⟩
theorem zyJL_numberOfTrailingZeros : zY yJL_numberOfTrailingZeros wsJL_numberOfTrailingZeros bJL_numberOfTrailingZeros 3 (some .int) 1 := ⟨⟨_, rfl⟩, by decide +kernel, by decide +kernel, by decide +kernel⟩
theorem zyJI_numberOfTrailingZeros : zY yJI_numberOfTrailingZeros wsJI_numberOfTrailingZeros bJI_numberOfTrailingZeros 2 (some .int) 1 := ⟨⟨_, rfl⟩, by decide +kernel, by decide +kernel, by decide +kernel⟩
theorem zyV_become : zY yV_become wsV_become bV_become 2 none 1 := ⟨⟨_, rfl⟩, by decide +kernel, by decide +kernel, by decide +kernel⟩
theorem zyN_special : zY yN_special wsN_special bN_special 3 (some .boolean) 2 := ⟨⟨_, rfl⟩, by decide +kernel, by decide +kernel, by decide +kernel⟩
theorem zyV_setSpecial : zY yV_setSpecial wsV_setSpecial bV_setSpecial 2 none 1 := ⟨⟨_, rfl⟩, by decide +kernel, by decide +kernel, by decide +kernel⟩
theorem zyN_operate : zY yN_operate wsN_operate bN_operate 6 (some .int) 4 := ⟨⟨_, rfl⟩, by decide +kernel, by decide +kernel, by decide +kernel⟩
theorem zyN_addOrMultiply : zY yN_addOrMultiply wsN_addOrMultiply bN_addOrMultiply 6 (some .int) 1 := ⟨⟨_, rfl⟩, by decide +kernel, by decide +kernel, by decide +kernel⟩
theorem zyN_areWhole : zY yN_areWhole wsN_areWhole bN_areWhole 1 (some .boolean) 0 := ⟨⟨_, rfl⟩, by decide +kernel, by decide +kernel, by decide +kernel⟩
theorem zyN_makeReals : zY yN_makeReals wsN_makeReals bN_makeReals 1 none 0 := ⟨⟨_, rfl⟩, by decide +kernel, by decide +kernel, by decide +kernel⟩
theorem zyV_turnReal : zY yV_turnReal wsV_turnReal bV_turnReal 1 none 0 := ⟨⟨_, rfl⟩, by decide +kernel, by decide +kernel, by decide +kernel⟩
theorem zyV_size : zY yV_size wsV_size bV_size 1 (some .long) 0 := ⟨⟨_, rfl⟩, by decide +kernel, by decide +kernel, by decide +kernel⟩
theorem zyR_multiply : zY yR_multiply wsR_multiply bR_multiply 3 none 2 := ⟨⟨_, rfl⟩, by decide +kernel, by decide +kernel, by decide +kernel⟩
theorem zyR_hasNoNumber : zY yR_hasNoNumber wsR_hasNoNumber bR_hasNoNumber 2 (some .boolean) 2 := ⟨⟨_, rfl⟩, by decide +kernel, by decide +kernel, by decide +kernel⟩
theorem zyV_sign : zY yV_sign wsV_sign bV_sign 1 (some .int) 0 := ⟨⟨_, rfl⟩, by decide +kernel, by decide +kernel, by decide +kernel⟩
theorem zyV_isInfinite : zY yV_isInfinite wsV_isInfinite bV_isInfinite 1 (some .boolean) 0 := ⟨⟨_, rfl⟩, by decide +kernel, by decide +kernel, by decide +kernel⟩
theorem zyJL_signum : zY yJL_signum wsJL_signum bJL_signum 2 (some .int) 1 := ⟨⟨_, rfl⟩, by decide +kernel, by decide +kernel, by decide +kernel⟩
theorem zyR_multiplyFinite : zY yR_multiplyFinite wsR_multiplyFinite bR_multiplyFinite 22 none 3 := ⟨⟨_, rfl⟩, by decide +kernel, by decide +kernel, by decide +kernel⟩
theorem zyV_negate : zY yV_negate wsV_negate bV_negate 1 none 0 := ⟨⟨_, rfl⟩, by decide +kernel, by decide +kernel, by decide +kernel⟩
theorem zyR_add : zY yR_add wsR_add bR_add 2 none 2 := ⟨⟨_, rfl⟩, by decide +kernel, by decide +kernel, by decide +kernel⟩
theorem zyO_ofSizes : zY yO_ofSizes wsO_ofSizes bO_ofSizes 6 (some .int) 2 := ⟨⟨_, rfl⟩, by decide +kernel, by decide +kernel, by decide +kernel⟩
theorem zyJI_compare : zY yJI_compare wsJI_compare bJI_compare 2 (some .int) 2 := ⟨⟨_, rfl⟩, by decide +kernel, by decide +kernel, by decide +kernel⟩
theorem zyJL_compare : zY yJL_compare wsJL_compare bJL_compare 4 (some .int) 2 := ⟨⟨_, rfl⟩, by decide +kernel, by decide +kernel, by decide +kernel⟩
theorem zyR_addSmaller : zY yR_addSmaller wsR_addSmaller bR_addSmaller 14 none 3 := ⟨⟨_, rfl⟩, by decide +kernel, by decide +kernel, by decide +kernel⟩
theorem zyN_divideOrRemain : zY yN_divideOrRemain wsN_divideOrRemain bN_divideOrRemain 2 (some .int) 1 := ⟨⟨_, rfl⟩, by decide +kernel, by decide +kernel, by decide +kernel⟩
theorem zyN_divideOrRemainReal : zY yN_divideOrRemainReal wsN_divideOrRemainReal bN_divideOrRemainReal 2 none 1 := ⟨⟨_, rfl⟩, by decide +kernel, by decide +kernel, by decide +kernel⟩
theorem zyR_remainder : zY yR_remainder wsR_remainder bR_remainder 2 none 2 := ⟨⟨_, rfl⟩, by decide +kernel, by decide +kernel, by decide +kernel⟩
theorem zyR_remainderOfSizes : zY yR_remainderOfSizes wsR_remainderOfSizes bR_remainderOfSizes 5 none 2 := ⟨⟨_, rfl⟩, by decide +kernel, by decide +kernel, by decide +kernel⟩
theorem zyR_remainderAbove : zY yR_remainderAbove wsR_remainderAbove bR_remainderAbove 8 (some .long) 3 := ⟨⟨_, rfl⟩, by decide +kernel, by decide +kernel, by decide +kernel⟩
theorem zyR_divide : zY yR_divide wsR_divide bR_divide 2 none 2 := ⟨⟨_, rfl⟩, by decide +kernel, by decide +kernel, by decide +kernel⟩
theorem zyR_divideByZero : zY yR_divideByZero wsR_divideByZero bR_divideByZero 1 none 1 := ⟨⟨_, rfl⟩, by decide +kernel, by decide +kernel, by decide +kernel⟩
theorem zyR_divideFinite : zY yR_divideFinite wsR_divideFinite bR_divideFinite 13 none 2 := ⟨⟨_, rfl⟩, by decide +kernel, by decide +kernel, by decide +kernel⟩
theorem zyV_roundDown : zY yV_roundDown wsV_roundDown bV_roundDown 1 none 0 := ⟨⟨_, rfl⟩, by decide +kernel, by decide +kernel, by decide +kernel⟩
theorem zyV_floor : zY yV_floor wsV_floor bV_floor 1 (some .long) 0 := ⟨⟨_, rfl⟩, by decide +kernel, by decide +kernel, by decide +kernel⟩
theorem zyJM_floorDiv : zY yJM_floorDiv wsJM_floorDiv bJM_floorDiv 6 (some .long) 2 := ⟨⟨_, rfl⟩, by decide +kernel, by decide +kernel, by decide +kernel⟩
theorem zyJM_floorMod : zY yJM_floorMod wsJM_floorMod bJM_floorMod 6 (some .long) 2 := ⟨⟨_, rfl⟩, by decide +kernel, by decide +kernel, by decide +kernel⟩
theorem zyN_power : zY yN_power wsN_power bN_power 3 (some .int) 0 := ⟨⟨_, rfl⟩, by decide +kernel, by decide +kernel, by decide +kernel⟩
theorem zyV_countsAsWhole : zY yV_countsAsWhole wsV_countsAsWhole bV_countsAsWhole 1 (some .boolean) 0 := ⟨⟨_, rfl⟩, by decide +kernel, by decide +kernel, by decide +kernel⟩
theorem zyV_asWhole : zY yV_asWhole wsV_asWhole bV_asWhole 1 (some .long) 0 := ⟨⟨_, rfl⟩, by decide +kernel, by decide +kernel, by decide +kernel⟩
theorem zyN_raise : zY yN_raise wsN_raise bN_raise 4 none 1 := ⟨⟨_, rfl⟩, by decide +kernel, by decide +kernel, by decide +kernel⟩
theorem zyN_combineBits : zY yN_combineBits wsN_combineBits bN_combineBits 6 (some .int) 1 := ⟨⟨_, rfl⟩, by decide +kernel, by decide +kernel, by decide +kernel⟩
theorem zyN_shiftLeft : zY yN_shiftLeft wsN_shiftLeft bN_shiftLeft 4 (some .long) 2 := ⟨⟨_, rfl⟩, by decide +kernel, by decide +kernel, by decide +kernel⟩
theorem zyN_applyToOne : zY yN_applyToOne wsN_applyToOne bN_applyToOne 2 (some .int) 1 := ⟨⟨_, rfl⟩, by decide +kernel, by decide +kernel, by decide +kernel⟩
theorem zyN_compare : zY yN_compare wsN_compare bN_compare 8 (some .int) 3 := ⟨⟨_, rfl⟩, by decide +kernel, by decide +kernel, by decide +kernel⟩
theorem zyO_of : zY yO_of wsO_of bO_of 2 (some .int) 2 := ⟨⟨_, rfl⟩, by decide +kernel, by decide +kernel, by decide +kernel⟩
theorem zyO_infinityOf : zY yO_infinityOf wsO_infinityOf bO_infinityOf 1 (some .int) 1 := ⟨⟨_, rfl⟩, by decide +kernel, by decide +kernel, by decide +kernel⟩
theorem zyO_ofWhole : zY yO_ofWhole wsO_ofWhole bO_ofWhole 5 (some .int) 2 := ⟨⟨_, rfl⟩, by decide +kernel, by decide +kernel, by decide +kernel⟩
theorem zyO_ofReals : zY yO_ofReals wsO_ofReals bO_ofReals 2 (some .int) 2 := ⟨⟨_, rfl⟩, by decide +kernel, by decide +kernel, by decide +kernel⟩
theorem zyN_kind : zY yN_kind wsN_kind bN_kind 2 (some .int) 1 := ⟨⟨_, rfl⟩, by decide +kernel, by decide +kernel, by decide +kernel⟩
theorem zyN_number : zY yN_number wsN_number bN_number 2 (some .long) 1 := ⟨⟨_, rfl⟩, by decide +kernel, by decide +kernel, by decide +kernel⟩
theorem zyN_exponent : zY yN_exponent wsN_exponent bN_exponent 2 (some .int) 1 := ⟨⟨_, rfl⟩, by decide +kernel, by decide +kernel, by decide +kernel⟩
theorem zyN_sum : zY yN_sum wsN_sum bN_sum 5 (some .boolean) 3 := ⟨⟨_, rfl⟩, by decide +kernel, by decide +kernel, by decide +kernel⟩
theorem zyN_isRow : zY yN_isRow wsN_isRow bN_isRow 2 (some .boolean) 2 := ⟨⟨_, rfl⟩, by decide +kernel, by decide +kernel, by decide +kernel⟩
theorem zyN_polynomial : zY yN_polynomial wsN_polynomial bN_polynomial 6 (some .boolean) 4 := ⟨⟨_, rfl⟩, by decide +kernel, by decide +kernel, by decide +kernel⟩
theorem zyN_sort : zY yN_sort wsN_sort bN_sort 4 (some .boolean) 2 := ⟨⟨_, rfl⟩, by decide +kernel, by decide +kernel, by decide +kernel⟩
theorem zyN_insert : zY yN_insert wsN_insert bN_insert 5 none 2 := ⟨⟨_, rfl⟩, by decide +kernel, by decide +kernel, by decide +kernel⟩
theorem zyO_goesBefore : zY yO_goesBefore wsO_goesBefore bO_goesBefore 2 (some .boolean) 2 := ⟨⟨_, rfl⟩, by decide +kernel, by decide +kernel, by decide +kernel⟩
theorem zyM_init : zY yM_init wsM_init bM_init 2 none 0 := ⟨⟨_, rfl⟩, by decide +kernel, by decide +kernel, by decide +kernel⟩
theorem zyM_whole : zY yM_whole wsM_whole bM_whole 4 (some .boolean) 2 := ⟨⟨_, rfl⟩, by decide +kernel, by decide +kernel, by decide +kernel⟩
theorem zyM_isRegister : zY yM_isRegister wsM_isRegister bM_isRegister 1 (some .boolean) 1 := ⟨⟨_, rfl⟩, by decide +kernel, by decide +kernel, by decide +kernel⟩
theorem zyM_setWhole : zY yM_setWhole wsM_setWhole bM_setWhole 3 none 1 := ⟨⟨_, rfl⟩, by decide +kernel, by decide +kernel, by decide +kernel⟩
theorem zyM_put : zY yM_put wsM_put bM_put 2 none 1 := ⟨⟨_, rfl⟩, by decide +kernel, by decide +kernel, by decide +kernel⟩
theorem zyM_real : zY yM_real wsM_real bM_real 5 (some .boolean) 3 := ⟨⟨_, rfl⟩, by decide +kernel, by decide +kernel, by decide +kernel⟩
theorem zyM_nearestOf : zY yM_nearestOf wsM_nearestOf bM_nearestOf 6 none 2 := ⟨⟨_, rfl⟩, by decide +kernel, by decide +kernel, by decide +kernel⟩
theorem zyM_nearest : zY yM_nearest wsM_nearest bM_nearest 15 none 3 := ⟨⟨_, rfl⟩, by decide +kernel, by decide +kernel, by decide +kernel⟩
theorem zyM_plain : zY yM_plain wsM_plain bM_plain 4 none 2 := ⟨⟨_, rfl⟩, by decide +kernel, by decide +kernel, by decide +kernel⟩
theorem zyM_setSpecial : zY yM_setSpecial wsM_setSpecial bM_setSpecial 2 none 1 := ⟨⟨_, rfl⟩, by decide +kernel, by decide +kernel, by decide +kernel⟩
theorem zyM_size : zY yM_size wsM_size bM_size 2 (some .long) 1 := ⟨⟨_, rfl⟩, by decide +kernel, by decide +kernel, by decide +kernel⟩
theorem zyM_special : zY yM_special wsM_special bM_special 3 (some .boolean) 2 := ⟨⟨_, rfl⟩, by decide +kernel, by decide +kernel, by decide +kernel⟩
theorem zyM_operate : zY yM_operate wsM_operate bM_operate 6 (some .int) 4 := ⟨⟨_, rfl⟩, by decide +kernel, by decide +kernel, by decide +kernel⟩
theorem zyM_takeA : zY yM_takeA wsM_takeA bM_takeA 2 none 1 := ⟨⟨_, rfl⟩, by decide +kernel, by decide +kernel, by decide +kernel⟩
theorem zyM_takeB : zY yM_takeB wsM_takeB bM_takeB 2 none 1 := ⟨⟨_, rfl⟩, by decide +kernel, by decide +kernel, by decide +kernel⟩
theorem zyM_operation : zY yM_operation wsM_operation bM_operation 3 (some .int) 1 := ⟨⟨_, rfl⟩, by decide +kernel, by decide +kernel, by decide +kernel⟩
theorem zyM_bitwise : zY yM_bitwise wsM_bitwise bM_bitwise 8 (some .int) 1 := ⟨⟨_, rfl⟩, by decide +kernel, by decide +kernel, by decide +kernel⟩
theorem zyM_isWhole : zY yM_isWhole wsM_isWhole bM_isWhole 5 (some .boolean) 3 := ⟨⟨_, rfl⟩, by decide +kernel, by decide +kernel, by decide +kernel⟩
theorem zyM_wholeOf : zY yM_wholeOf wsM_wholeOf bM_wholeOf 5 (some .long) 3 := ⟨⟨_, rfl⟩, by decide +kernel, by decide +kernel, by decide +kernel⟩
theorem zyM_shifted : zY yM_shifted wsM_shifted bM_shifted 4 (some .long) 2 := ⟨⟨_, rfl⟩, by decide +kernel, by decide +kernel, by decide +kernel⟩
theorem zyM_single : zY yM_single wsM_single bM_single 2 (some .int) 1 := ⟨⟨_, rfl⟩, by decide +kernel, by decide +kernel, by decide +kernel⟩
theorem zyM_negative : zY yM_negative wsM_negative bM_negative 1 none 0 := ⟨⟨_, rfl⟩, by decide +kernel, by decide +kernel, by decide +kernel⟩
theorem zyM_floorOfA : zY yM_floorOfA wsM_floorOfA bM_floorOfA 1 none 0 := ⟨⟨_, rfl⟩, by decide +kernel, by decide +kernel, by decide +kernel⟩
theorem zyM_copyA : zY yM_copyA wsM_copyA bM_copyA 1 none 0 := ⟨⟨_, rfl⟩, by decide +kernel, by decide +kernel, by decide +kernel⟩
theorem zyM_roundDown : zY yM_roundDown wsM_roundDown bM_roundDown 1 none 0 := ⟨⟨_, rfl⟩, by decide +kernel, by decide +kernel, by decide +kernel⟩
theorem zyM_realA : zY yM_realA wsM_realA bM_realA 1 none 0 := ⟨⟨_, rfl⟩, by decide +kernel, by decide +kernel, by decide +kernel⟩
theorem zyM_resultToA : zY yM_resultToA wsM_resultToA bM_resultToA 1 none 0 := ⟨⟨_, rfl⟩, by decide +kernel, by decide +kernel, by decide +kernel⟩
theorem zyM_signOf : zY yM_signOf wsM_signOf bM_signOf 3 (some .int) 2 := ⟨⟨_, rfl⟩, by decide +kernel, by decide +kernel, by decide +kernel⟩
theorem zyM_wholes : zY yM_wholes wsM_wholes bM_wholes 2 (some .int) 1 := ⟨⟨_, rfl⟩, by decide +kernel, by decide +kernel, by decide +kernel⟩
theorem zyM_floorQuotient : zY yM_floorQuotient wsM_floorQuotient bM_floorQuotient 6 (some .long) 2 := ⟨⟨_, rfl⟩, by decide +kernel, by decide +kernel, by decide +kernel⟩
theorem zyM_reals : zY yM_reals wsM_reals bM_reals 2 (some .int) 1 := ⟨⟨_, rfl⟩, by decide +kernel, by decide +kernel, by decide +kernel⟩
theorem zyM_realB : zY yM_realB wsM_realB bM_realB 1 none 0 := ⟨⟨_, rfl⟩, by decide +kernel, by decide +kernel, by decide +kernel⟩
theorem zyM_resultToB : zY yM_resultToB wsM_resultToB bM_resultToB 1 none 0 := ⟨⟨_, rfl⟩, by decide +kernel, by decide +kernel, by decide +kernel⟩
theorem zyM_add : zY yM_add wsM_add bM_add 1 none 0 := ⟨⟨_, rfl⟩, by decide +kernel, by decide +kernel, by decide +kernel⟩
theorem zyM_isGreat : zY yM_isGreat wsM_isGreat bM_isGreat 1 (some .boolean) 1 := ⟨⟨_, rfl⟩, by decide +kernel, by decide +kernel, by decide +kernel⟩
theorem zyM_addNumbers : zY yM_addNumbers wsM_addNumbers bM_addNumbers 19 none 0 := ⟨⟨_, rfl⟩, by decide +kernel, by decide +kernel, by decide +kernel⟩
theorem zyM_room : zY yM_room wsM_room bM_room 3 (some .int) 1 := ⟨⟨_, rfl⟩, by decide +kernel, by decide +kernel, by decide +kernel⟩
theorem zyM_down : zY yM_down wsM_down bM_down 5 (some .long) 2 := ⟨⟨_, rfl⟩, by decide +kernel, by decide +kernel, by decide +kernel⟩
theorem zyM_turnB : zY yM_turnB wsM_turnB bM_turnB 1 none 0 := ⟨⟨_, rfl⟩, by decide +kernel, by decide +kernel, by decide +kernel⟩
theorem zyM_multiply : zY yM_multiply wsM_multiply bM_multiply 2 none 0 := ⟨⟨_, rfl⟩, by decide +kernel, by decide +kernel, by decide +kernel⟩
theorem zyM_product : zY yM_product wsM_product bM_product 17 none 2 := ⟨⟨_, rfl⟩, by decide +kernel, by decide +kernel, by decide +kernel⟩
theorem zyM_divide : zY yM_divide wsM_divide bM_divide 3 none 0 := ⟨⟨_, rfl⟩, by decide +kernel, by decide +kernel, by decide +kernel⟩
theorem zyM_quotientBits : zY yM_quotientBits wsM_quotientBits bM_quotientBits 10 none 2 := ⟨⟨_, rfl⟩, by decide +kernel, by decide +kernel, by decide +kernel⟩
theorem zyM_remainder : zY yM_remainder wsM_remainder bM_remainder 3 none 0 := ⟨⟨_, rfl⟩, by decide +kernel, by decide +kernel, by decide +kernel⟩
theorem zyM_restOfSizes : zY yM_restOfSizes wsM_restOfSizes bM_restOfSizes 6 none 0 := ⟨⟨_, rfl⟩, by decide +kernel, by decide +kernel, by decide +kernel⟩
theorem zyM_power : zY yM_power wsM_power bM_power 13 (some .int) 0 := ⟨⟨_, rfl⟩, by decide +kernel, by decide +kernel, by decide +kernel⟩
theorem zyM_compare : zY yM_compare wsM_compare bM_compare 5 (some .int) 3 := ⟨⟨_, rfl⟩, by decide +kernel, by decide +kernel, by decide +kernel⟩
theorem zyM_isEqual : zY yM_isEqual wsM_isEqual bM_isEqual 6 (some .boolean) 0 := ⟨⟨_, rfl⟩, by decide +kernel, by decide +kernel, by decide +kernel⟩
theorem zyM_isLess : zY yM_isLess wsM_isLess bM_isLess 2 (some .boolean) 1 := ⟨⟨_, rfl⟩, by decide +kernel, by decide +kernel, by decide +kernel⟩
theorem zyM_isWholeLess : zY yM_isWholeLess wsM_isWholeLess bM_isWholeLess 9 (some .boolean) 4 := ⟨⟨_, rfl⟩, by decide +kernel, by decide +kernel, by decide +kernel⟩
theorem zyM_isRealLess : zY yM_isRealLess wsM_isRealLess bM_isRealLess 4 (some .boolean) 1 := ⟨⟨_, rfl⟩, by decide +kernel, by decide +kernel, by decide +kernel⟩
theorem zyM_kind : zY yM_kind wsM_kind bM_kind 2 (some .int) 1 := ⟨⟨_, rfl⟩, by decide +kernel, by decide +kernel, by decide +kernel⟩
theorem zyM_number : zY yM_number wsM_number bM_number 2 (some .long) 1 := ⟨⟨_, rfl⟩, by decide +kernel, by decide +kernel, by decide +kernel⟩
theorem zyM_exponent : zY yM_exponent wsM_exponent bM_exponent 2 (some .int) 1 := ⟨⟨_, rfl⟩, by decide +kernel, by decide +kernel, by decide +kernel⟩
theorem zyM_sum : zY yM_sum wsM_sum bM_sum 5 (some .boolean) 3 := ⟨⟨_, rfl⟩, by decide +kernel, by decide +kernel, by decide +kernel⟩
theorem zyM_areRegisters : zY yM_areRegisters wsM_areRegisters bM_areRegisters 2 (some .boolean) 2 := ⟨⟨_, rfl⟩, by decide +kernel, by decide +kernel, by decide +kernel⟩
theorem zyM_polynomial : zY yM_polynomial wsM_polynomial bM_polynomial 6 (some .boolean) 4 := ⟨⟨_, rfl⟩, by decide +kernel, by decide +kernel, by decide +kernel⟩
theorem zyM_sort : zY yM_sort wsM_sort bM_sort 5 (some .boolean) 2 := ⟨⟨_, rfl⟩, by decide +kernel, by decide +kernel, by decide +kernel⟩
theorem zyM_isBefore : zY yM_isBefore wsM_isBefore bM_isBefore 3 (some .boolean) 2 := ⟨⟨_, rfl⟩, by decide +kernel, by decide +kernel, by decide +kernel⟩
theorem zyM_exchange : zY yM_exchange wsM_exchange bM_exchange 3 none 2 := ⟨⟨_, rfl⟩, by decide +kernel, by decide +kernel, by decide +kernel⟩
abbrev V3 : Type := Int32 × Int64 × Int32
def PE (v : V3) : va_E := .inr (0, [.int v.1, .long v.2.1, .int v.2.2])
def PL (LP : List Nat) (f : Nat → V3) : va_W := va_pl LP (fun a => PE (f a))
theorem PL_up {f : Nat → V3} {a : Nat} {v : V3} : va_up (fun b => PE (f b)) a (PE v) = fun b => PE (va_up f a v b) := by
  funext b
  by_cases h : b = a <;> simp [va_up, h]
theorem zp_at {X : va_W} {LP : List Nat} {f : Nat → V3} {a : Nat} (h : a ∈ LP) : ∃ q : Nat, (X ++ PL LP f)[q]? = some (a, .inr (0, [.int (f a).1, .long (f a).2.1, .int (f a).2.2])) := va_pl_get (X := X) (f := fun b => PE (f b)) h
theorem zp_set {A : Nat → Prop} {X : va_W} {LP : List Nat} {f : Nat → V3} {a q : Nat} {v : V3} (hD : va_D A (X ++ PL LP f)) (h : a ∈ LP) (hq : (X ++ PL LP f)[q]? = some (a, .inr (0, [.int (f a).1, .long (f a).2.1, .int (f a).2.2]))) : (X ++ PL LP f).set q (a, PE v) = X ++ PL LP (va_up f a v) := by
  have h1 := va_pl_set (e := PE v) hD h hq
  rw [PL_up] at h1
  exact h1
section ZP
variable {l : Launch} {D : va_G} {own : String} {cc : ByteArray} {nL : Nat} {ret : Option FieldType} {Ts : List Cond} {R : Room} {mc ms : Nat} {post : zP} {isI : Bool} {Z : zZ}
variable {k n pc index a : Nat} {tys : zT} {lv : List (Nat × Value)} {st : List Value} {X : va_W} {LP : List Nat} {f : Nat → V3}
theorem z_pg0 (hZ : zI l D vwCl zNF zNM own cc nL ret Ts R mc ms post isI Z) (h : a ∈ LP) (hw : ∀ x ∈ uwsV, x ∈ Ts) (hlink : Cond.fieldLink own index "MixedNumbers$Value" "kind" "I" ∈ Ts) (hdg : decode cc pc = .ok (.getfield index, 3)) (kk : ∀ v : Int32, v = (f a).1 → Z k n tys (pc + 3) lv (.int v :: st) (X ++ PL LP f)) : Z k n tys pc lv (.ref a :: st) (X ++ PL LP f) := by
  obtain ⟨p, e, s, m, args, below, meth, c, Q, A, hx, hb, hml, hown, hts, hN, hA, hin0, hret, rfl⟩ := hZ
  intro ls H locs hl hK hP hD hS
  obtain ⟨q, hq⟩ := zp_at (X := X) (f := f) h
  exact va_get hx hb hts hw hown hK hP q hq rfl 0 (by decide) (hts _ hlink) (fun _ h9 => h9) rfl hdg (kk _ rfl ls H locs hl hK hP hD hS)
theorem z_pp0 (hZ : zI l D vwCl zNF zNM own cc nL ret Ts R mc ms post isI Z) {x : Int32} (h : a ∈ LP) (hw : ∀ x ∈ uwsV, x ∈ Ts) (hlink : Cond.fieldLink own index "MixedNumbers$Value" "kind" "I" ∈ Ts) (hdg : decode cc pc = .ok (.putfield index, 3)) (kk : ∀ f2 : Nat → V3, f2 = va_up f a (x, (f a).2.1, (f a).2.2) → Z k n tys (pc + 3) lv st (X ++ PL LP f2)) : Z k n tys pc lv (.int x :: .ref a :: st) (X ++ PL LP f) := by
  obtain ⟨p, e, s, m, args, below, meth, c, Q, A, hx, hb, hml, hown, hts, hN, hA, hin0, hret, rfl⟩ := hZ
  intro ls H locs hl hK hP hD hS
  obtain ⟨q, hq⟩ := zp_at (X := X) (f := f) h
  refine va_put hx hb hts hw tyV tyV_ok nmV hown hK hP hD hS q hq rfl 0 (by decide) (hts _ hlink) (fun _ h9 => h9) rfl (tyV_ok 0 (by decide)) rfl rfl (Nat.le_of_ble_eq_true rfl) hdg (fun H locs hP1 hD1 hS => ?_)
  have e9 := zp_set (v := (x, (f a).2.1, (f a).2.2)) hD h hq
  exact kk _ rfl ls H locs hl hK (by rw [← e9]; exact hP1) (by rw [← e9]; exact hD1) hS
theorem z_pg0N (hZ : zI l D vwCl zNF zNM own cc nL ret Ts R mc ms post isI Z) (h : a ∈ LP) (hw : ∀ x ∈ uwsV, x ∈ Ts) {host : String} (hlink : (own, index, "MixedNumbers$Value", "kind", "I", host) ∈ zNF) (hdg : decode cc pc = .ok (.getfield index, 3)) (kk : ∀ v : Int32, v = (f a).1 → Z k n tys (pc + 3) lv (.int v :: st) (X ++ PL LP f)) : Z k n tys pc lv (.ref a :: st) (X ++ PL LP f) := by
  obtain ⟨p, e, s, m, args, below, meth, c, Q, A, hx, hb, hml, hown, hts, hN, hA, hin0, hret, rfl⟩ := hZ
  intro ls H locs hl hK hP hD hS
  obtain ⟨q, hq⟩ := zp_at (X := X) (f := f) h
  exact va_getN hx hb hts hw hown hK hP q hq rfl 0 (by decide) (va_Nw.use rfl (hN.1 _ hlink)) (fun _ h9 => h9) rfl hdg (kk _ rfl ls H locs hl hK hP hD hS)
theorem z_pp0N (hZ : zI l D vwCl zNF zNM own cc nL ret Ts R mc ms post isI Z) {x : Int32} (h : a ∈ LP) (hw : ∀ x ∈ uwsV, x ∈ Ts) {host : String} (hlink : (own, index, "MixedNumbers$Value", "kind", "I", host) ∈ zNF) (hdg : decode cc pc = .ok (.putfield index, 3)) (kk : ∀ f2 : Nat → V3, f2 = va_up f a (x, (f a).2.1, (f a).2.2) → Z k n tys (pc + 3) lv st (X ++ PL LP f2)) : Z k n tys pc lv (.int x :: .ref a :: st) (X ++ PL LP f) := by
  obtain ⟨p, e, s, m, args, below, meth, c, Q, A, hx, hb, hml, hown, hts, hN, hA, hin0, hret, rfl⟩ := hZ
  intro ls H locs hl hK hP hD hS
  obtain ⟨q, hq⟩ := zp_at (X := X) (f := f) h
  refine va_putN hx hb hts hw tyV tyV_ok nmV hown hK hP hD hS q hq rfl 0 (by decide) (va_Nw.use rfl (hN.1 _ hlink)) (fun _ h9 => h9) rfl (tyV_ok 0 (by decide)) rfl rfl (Nat.le_of_ble_eq_true rfl) hdg (fun H locs hP1 hD1 hS => ?_)
  have e9 := zp_set (v := (x, (f a).2.1, (f a).2.2)) hD h hq
  exact kk _ rfl ls H locs hl hK (by rw [← e9]; exact hP1) (by rw [← e9]; exact hD1) hS
theorem z_pg1 (hZ : zI l D vwCl zNF zNM own cc nL ret Ts R mc ms post isI Z) (h : a ∈ LP) (hw : ∀ x ∈ uwsV, x ∈ Ts) (hlink : Cond.fieldLink own index "MixedNumbers$Value" "number" "J" ∈ Ts) (hdg : decode cc pc = .ok (.getfield index, 3)) (kk : ∀ v : Int64, v = (f a).2.1 → Z k n tys (pc + 3) lv (.long v :: st) (X ++ PL LP f)) : Z k n tys pc lv (.ref a :: st) (X ++ PL LP f) := by
  obtain ⟨p, e, s, m, args, below, meth, c, Q, A, hx, hb, hml, hown, hts, hN, hA, hin0, hret, rfl⟩ := hZ
  intro ls H locs hl hK hP hD hS
  obtain ⟨q, hq⟩ := zp_at (X := X) (f := f) h
  exact va_get hx hb hts hw hown hK hP q hq rfl 1 (by decide) (hts _ hlink) (fun _ h9 => h9) rfl hdg (kk _ rfl ls H locs hl hK hP hD hS)
theorem z_pp1 (hZ : zI l D vwCl zNF zNM own cc nL ret Ts R mc ms post isI Z) {x : Int64} (h : a ∈ LP) (hw : ∀ x ∈ uwsV, x ∈ Ts) (hlink : Cond.fieldLink own index "MixedNumbers$Value" "number" "J" ∈ Ts) (hdg : decode cc pc = .ok (.putfield index, 3)) (kk : ∀ f2 : Nat → V3, f2 = va_up f a ((f a).1, x, (f a).2.2) → Z k n tys (pc + 3) lv st (X ++ PL LP f2)) : Z k n tys pc lv (.long x :: .ref a :: st) (X ++ PL LP f) := by
  obtain ⟨p, e, s, m, args, below, meth, c, Q, A, hx, hb, hml, hown, hts, hN, hA, hin0, hret, rfl⟩ := hZ
  intro ls H locs hl hK hP hD hS
  obtain ⟨q, hq⟩ := zp_at (X := X) (f := f) h
  refine va_put hx hb hts hw tyV tyV_ok nmV hown hK hP hD hS q hq rfl 1 (by decide) (hts _ hlink) (fun _ h9 => h9) rfl (tyV_ok 1 (by decide)) rfl rfl (Nat.le_of_ble_eq_true rfl) hdg (fun H locs hP1 hD1 hS => ?_)
  have e9 := zp_set (v := ((f a).1, x, (f a).2.2)) hD h hq
  exact kk _ rfl ls H locs hl hK (by rw [← e9]; exact hP1) (by rw [← e9]; exact hD1) hS
theorem z_pg1N (hZ : zI l D vwCl zNF zNM own cc nL ret Ts R mc ms post isI Z) (h : a ∈ LP) (hw : ∀ x ∈ uwsV, x ∈ Ts) {host : String} (hlink : (own, index, "MixedNumbers$Value", "number", "J", host) ∈ zNF) (hdg : decode cc pc = .ok (.getfield index, 3)) (kk : ∀ v : Int64, v = (f a).2.1 → Z k n tys (pc + 3) lv (.long v :: st) (X ++ PL LP f)) : Z k n tys pc lv (.ref a :: st) (X ++ PL LP f) := by
  obtain ⟨p, e, s, m, args, below, meth, c, Q, A, hx, hb, hml, hown, hts, hN, hA, hin0, hret, rfl⟩ := hZ
  intro ls H locs hl hK hP hD hS
  obtain ⟨q, hq⟩ := zp_at (X := X) (f := f) h
  exact va_getN hx hb hts hw hown hK hP q hq rfl 1 (by decide) (va_Nw.use rfl (hN.1 _ hlink)) (fun _ h9 => h9) rfl hdg (kk _ rfl ls H locs hl hK hP hD hS)
theorem z_pp1N (hZ : zI l D vwCl zNF zNM own cc nL ret Ts R mc ms post isI Z) {x : Int64} (h : a ∈ LP) (hw : ∀ x ∈ uwsV, x ∈ Ts) {host : String} (hlink : (own, index, "MixedNumbers$Value", "number", "J", host) ∈ zNF) (hdg : decode cc pc = .ok (.putfield index, 3)) (kk : ∀ f2 : Nat → V3, f2 = va_up f a ((f a).1, x, (f a).2.2) → Z k n tys (pc + 3) lv st (X ++ PL LP f2)) : Z k n tys pc lv (.long x :: .ref a :: st) (X ++ PL LP f) := by
  obtain ⟨p, e, s, m, args, below, meth, c, Q, A, hx, hb, hml, hown, hts, hN, hA, hin0, hret, rfl⟩ := hZ
  intro ls H locs hl hK hP hD hS
  obtain ⟨q, hq⟩ := zp_at (X := X) (f := f) h
  refine va_putN hx hb hts hw tyV tyV_ok nmV hown hK hP hD hS q hq rfl 1 (by decide) (va_Nw.use rfl (hN.1 _ hlink)) (fun _ h9 => h9) rfl (tyV_ok 1 (by decide)) rfl rfl (Nat.le_of_ble_eq_true rfl) hdg (fun H locs hP1 hD1 hS => ?_)
  have e9 := zp_set (v := ((f a).1, x, (f a).2.2)) hD h hq
  exact kk _ rfl ls H locs hl hK (by rw [← e9]; exact hP1) (by rw [← e9]; exact hD1) hS
theorem z_pg2 (hZ : zI l D vwCl zNF zNM own cc nL ret Ts R mc ms post isI Z) (h : a ∈ LP) (hw : ∀ x ∈ uwsV, x ∈ Ts) (hlink : Cond.fieldLink own index "MixedNumbers$Value" "exponent" "I" ∈ Ts) (hdg : decode cc pc = .ok (.getfield index, 3)) (kk : ∀ v : Int32, v = (f a).2.2 → Z k n tys (pc + 3) lv (.int v :: st) (X ++ PL LP f)) : Z k n tys pc lv (.ref a :: st) (X ++ PL LP f) := by
  obtain ⟨p, e, s, m, args, below, meth, c, Q, A, hx, hb, hml, hown, hts, hN, hA, hin0, hret, rfl⟩ := hZ
  intro ls H locs hl hK hP hD hS
  obtain ⟨q, hq⟩ := zp_at (X := X) (f := f) h
  exact va_get hx hb hts hw hown hK hP q hq rfl 2 (by decide) (hts _ hlink) (fun _ h9 => h9) rfl hdg (kk _ rfl ls H locs hl hK hP hD hS)
theorem z_pp2 (hZ : zI l D vwCl zNF zNM own cc nL ret Ts R mc ms post isI Z) {x : Int32} (h : a ∈ LP) (hw : ∀ x ∈ uwsV, x ∈ Ts) (hlink : Cond.fieldLink own index "MixedNumbers$Value" "exponent" "I" ∈ Ts) (hdg : decode cc pc = .ok (.putfield index, 3)) (kk : ∀ f2 : Nat → V3, f2 = va_up f a ((f a).1, (f a).2.1, x) → Z k n tys (pc + 3) lv st (X ++ PL LP f2)) : Z k n tys pc lv (.int x :: .ref a :: st) (X ++ PL LP f) := by
  obtain ⟨p, e, s, m, args, below, meth, c, Q, A, hx, hb, hml, hown, hts, hN, hA, hin0, hret, rfl⟩ := hZ
  intro ls H locs hl hK hP hD hS
  obtain ⟨q, hq⟩ := zp_at (X := X) (f := f) h
  refine va_put hx hb hts hw tyV tyV_ok nmV hown hK hP hD hS q hq rfl 2 (by decide) (hts _ hlink) (fun _ h9 => h9) rfl (tyV_ok 2 (by decide)) rfl rfl (Nat.le_of_ble_eq_true rfl) hdg (fun H locs hP1 hD1 hS => ?_)
  have e9 := zp_set (v := ((f a).1, (f a).2.1, x)) hD h hq
  exact kk _ rfl ls H locs hl hK (by rw [← e9]; exact hP1) (by rw [← e9]; exact hD1) hS
theorem z_pg2N (hZ : zI l D vwCl zNF zNM own cc nL ret Ts R mc ms post isI Z) (h : a ∈ LP) (hw : ∀ x ∈ uwsV, x ∈ Ts) {host : String} (hlink : (own, index, "MixedNumbers$Value", "exponent", "I", host) ∈ zNF) (hdg : decode cc pc = .ok (.getfield index, 3)) (kk : ∀ v : Int32, v = (f a).2.2 → Z k n tys (pc + 3) lv (.int v :: st) (X ++ PL LP f)) : Z k n tys pc lv (.ref a :: st) (X ++ PL LP f) := by
  obtain ⟨p, e, s, m, args, below, meth, c, Q, A, hx, hb, hml, hown, hts, hN, hA, hin0, hret, rfl⟩ := hZ
  intro ls H locs hl hK hP hD hS
  obtain ⟨q, hq⟩ := zp_at (X := X) (f := f) h
  exact va_getN hx hb hts hw hown hK hP q hq rfl 2 (by decide) (va_Nw.use rfl (hN.1 _ hlink)) (fun _ h9 => h9) rfl hdg (kk _ rfl ls H locs hl hK hP hD hS)
theorem z_pp2N (hZ : zI l D vwCl zNF zNM own cc nL ret Ts R mc ms post isI Z) {x : Int32} (h : a ∈ LP) (hw : ∀ x ∈ uwsV, x ∈ Ts) {host : String} (hlink : (own, index, "MixedNumbers$Value", "exponent", "I", host) ∈ zNF) (hdg : decode cc pc = .ok (.putfield index, 3)) (kk : ∀ f2 : Nat → V3, f2 = va_up f a ((f a).1, (f a).2.1, x) → Z k n tys (pc + 3) lv st (X ++ PL LP f2)) : Z k n tys pc lv (.int x :: .ref a :: st) (X ++ PL LP f) := by
  obtain ⟨p, e, s, m, args, below, meth, c, Q, A, hx, hb, hml, hown, hts, hN, hA, hin0, hret, rfl⟩ := hZ
  intro ls H locs hl hK hP hD hS
  obtain ⟨q, hq⟩ := zp_at (X := X) (f := f) h
  refine va_putN hx hb hts hw tyV tyV_ok nmV hown hK hP hD hS q hq rfl 2 (by decide) (va_Nw.use rfl (hN.1 _ hlink)) (fun _ h9 => h9) rfl (tyV_ok 2 (by decide)) rfl rfl (Nat.le_of_ble_eq_true rfl) hdg (fun H locs hP1 hD1 hS => ?_)
  have e9 := zp_set (v := ((f a).1, (f a).2.1, x)) hD h hq
  exact kk _ rfl ls H locs hl hK (by rw [← e9]; exact hP1) (by rw [← e9]; exact hD1) hS
end ZP
end
section
def CX (h0 ra v1 v2 v3 : Nat) (cR : ClassId) (g : Nat → Option Nat) (Y : va_W) : va_W := (h0, .inr (1, [.ref ra, .ref v1, .ref v2, .ref v3])) :: (ra, .inl (cR, 32, .inr (.inr (.inr (.inr g))))) :: Y
def TY (cR c1 c2 c3 : ClassId) : zT := [(cR, .object "MixedNumbers$Value"), (c1, .int), (c2, .long), (c3, .int)]
def zH (LP : List Nat) (v1 v2 v3 : Nat) (g : Nat → Option Nat) : Prop := v1 ∈ LP ∧ v2 ∈ LP ∧ v3 ∈ LP ∧ ∀ j, j < 32 → ∃ y, y ∈ LP ∧ g j = some y
theorem zH_at {LP : List Nat} {v1 v2 v3 : Nat} {g : Nat → Option Nat} (h : zH LP v1 v2 v3 g) {i : Int32} (hi : vp_in i 32) : ∃ y, y ∈ LP ∧ g i.toNatClampNeg = some y := h.2.2.2 _ (Nat.not_le.mp fun q => hi (Or.inr q))
theorem zH_up {LP : List Nat} {v1 v2 v3 y k : Nat} {g g' : Nat → Option Nat} (h : zH LP v1 v2 v3 g) (hy : y ∈ LP) (e : g' = va_up g k (some y)) : zH LP v1 v2 v3 g' := by
  refine ⟨h.1, h.2.1, h.2.2.1, fun j hj => ?_⟩
  rw [e]
  by_cases q : j = k
  · subst q; exact ⟨y, hy, va_up_self _ _ _⟩
  · rw [va_up_ne _ _ q]; exact h.2.2.2 j hj
/-- the reference's cells -/
abbrev MS : Type := Int32 × Int64 × Int32 × Int32 × Int64 × Int32 × Int32 × Int64 × Int32 × Int64 × Int32 × (Nat → Int32) × (Nat → Int64) × (Nat → Int32)
def MW (h0 a1 a2 a3 : Nat) (c1 c2 c3 : ClassId) (u : MS) : va_W := match u with
  | (ka, na, ea, kb, nb, eb, k, n, e, bits, scale, K, N, E) => [(h0, .inr (2, [.ref a1, .ref a2, .ref a3, .int ka, .long na, .int ea, .int kb, .long nb, .int eb, .int k, .long n, .int e, .long bits, .int scale])), (a1, .inl (c1, 32, .inl K)), (a2, .inl (c2, 32, .inr (.inl N))), (a3, .inl (c3, 32, .inl E))]
def rowOK (a n : Int32) : Prop := 0 ≤ a.toInt ∧ 0 ≤ n.toInt ∧ a.toInt + n.toInt ≤ 32
theorem I0 : (0 : Int32).toInt = 0 := by decide
theorem I1 : (1 : Int32).toInt = 1 := by decide
theorem I32 : (32 : Int32).toInt = 32 := by decide
theorem Io1 : (Int32.ofInt 1).toInt = 1 := by decide
theorem Iom : (Int32.ofInt (-1)).toInt = -1 := by decide
theorem reg_1 {p : Int32} (h1 : ¬ p < 0) (h2 : ¬ 32 ≤ p) : vp_in p 32 := by
  rw [Int32.lt_iff_toInt_lt, I0] at h1
  rw [Int32.le_iff_toInt_le, I32] at h2
  exact vp_in_iff.mpr ⟨by omega, by omega⟩
theorem reg_0a {p : Int32} (h : p < 0) : ¬ vp_in p 32 := fun q => q (Or.inl h)
theorem reg_0b {p : Int32} (h : 32 ≤ p) : ¬ vp_in p 32 := fun q => by
  rw [Int32.le_iff_toInt_le, I32] at h
  have := (vp_in_iff.mp q).2
  omega
theorem reg_of {r p : Int32} (h : (r = 1 ∧ vp_in p 32) ∨ (r = 0 ∧ ¬ vp_in p 32)) (c : ¬ r = 0) : vp_in p 32 := by
  rcases h with h | h
  · exact h.2
  · exact absurd h.1 c
theorem reg_no {r p : Int32} (h : (r = 1 ∧ vp_in p 32) ∨ (r = 0 ∧ ¬ vp_in p 32)) (c : r = 0) : ¬ vp_in p 32 := by
  rcases h with h | h
  · rw [h.1] at c; exact absurd c (by decide)
  · exact h.2
theorem row_t {a n v : Int32} (h1 : ¬ a < 0) (h2 : ¬ 32 < a) (h3 : ¬ n < 0) (e : v = 32 - a) (h4 : ¬ v < n) : rowOK a n := by
  rw [Int32.lt_iff_toInt_lt] at h1 h2 h3 h4
  rw [I0] at h1 h3
  rw [I32] at h2
  have h5 : v.toInt = 32 - a.toInt := by rw [e, I_sub, I32] <;> rw [I32] <;> omega
  exact ⟨by omega, by omega, by omega⟩
theorem row_f1 {a n : Int32} (h : a < 0) : ¬ rowOK a n := fun q => by
  rw [Int32.lt_iff_toInt_lt, I0] at h
  have := q.1
  omega
theorem row_f2 {a n : Int32} (h : 32 < a) : ¬ rowOK a n := fun q => by
  rw [Int32.lt_iff_toInt_lt, I32] at h
  have := q.2
  omega
theorem row_f3 {a n : Int32} (h : n < 0) : ¬ rowOK a n := fun q => by
  rw [Int32.lt_iff_toInt_lt, I0] at h
  have := q.2.1
  omega
theorem row_f4 {a n v : Int32} (h1 : ¬ a < 0) (h2 : ¬ 32 < a) (e : v = 32 - a) (h4 : v < n) : ¬ rowOK a n := fun q => by
  rw [Int32.lt_iff_toInt_lt] at h1 h2 h4
  rw [I0] at h1
  rw [I32] at h2
  have h5 : v.toInt = 32 - a.toInt := by rw [e, I_sub, I32] <;> rw [I32] <;> omega
  have := q.2.2
  omega
theorem row_of {r a n : Int32} (h : (r = 1 ∧ rowOK a n) ∨ (r = 0 ∧ ¬ rowOK a n)) (c : ¬ r = 0) : rowOK a n := by
  rcases h with h | h
  · exact h.2
  · exact absurd h.1 c
theorem row_no {r a n : Int32} (h : (r = 1 ∧ rowOK a n) ∨ (r = 0 ∧ ¬ rowOK a n)) (c : r = 0) : ¬ rowOK a n := by
  rcases h with h | h
  · rw [h.1] at c; exact absurd c (by decide)
  · exact h.2
theorem sum_idx {a n i v : Int32} (h : rowOK a n) (hi : 0 ≤ i.toInt) (c : ¬ n ≤ i) (e : v = a + i) : vp_in v 32 := by
  obtain ⟨h1, h2, h3⟩ := h
  rw [Int32.le_iff_toInt_le] at c
  have h5 : v.toInt = a.toInt + i.toInt := by rw [e, I_add] <;> omega
  exact vp_in_iff.mpr ⟨by omega, by omega⟩
theorem inc_nn {n i v : Int32} (hi : 0 ≤ i.toInt) (c : ¬ n ≤ i) (e : v = i + Int32.ofInt 1) : 0 ≤ v.toInt := by
  rw [Int32.le_iff_toInt_le] at c
  have h1 := I_rg n
  have h5 : v.toInt = i.toInt + 1 := by rw [e, I_add, Io1] <;> rw [Io1] <;> omega
  omega
theorem pol_idx {a n i v : Int32} (h : rowOK a n) (hi : i.toInt < n.toInt) (c : ¬ i < 0) (e : v = a + i) : vp_in v 32 := by
  obtain ⟨h1, h2, h3⟩ := h
  rw [Int32.lt_iff_toInt_lt, I0] at c
  have h5 : v.toInt = a.toInt + i.toInt := by rw [e, I_add] <;> omega
  exact vp_in_iff.mpr ⟨by omega, by omega⟩
theorem pol_0 {a n v : Int32} (h : rowOK a n) (e : v = n - 1) : v.toInt < n.toInt := by
  obtain ⟨h1, h2, h3⟩ := h
  have h5 : v.toInt = n.toInt - 1 := by rw [e, I_sub, I1] <;> rw [I1] <;> omega
  omega
theorem pol_n {n i v : Int32} (hi : i.toInt < n.toInt) (c : ¬ i < 0) (e : v = i + Int32.ofInt (-1)) : v.toInt < n.toInt := by
  rw [Int32.lt_iff_toInt_lt, I0] at c
  have h1 := I_rg i
  have h5 : v.toInt = i.toInt + -1 := by rw [e, I_add, Iom] <;> rw [Iom] <;> omega
  omega
theorem pol_m {i v : Int32} (c : ¬ i < 0) (e : v = i + Int32.ofInt (-1)) : (v.toInt + 1).toNat < (i.toInt + 1).toNat := by
  rw [Int32.lt_iff_toInt_lt, I0] at c
  have h1 := I_rg i
  have h5 : v.toInt = i.toInt + -1 := by rw [e, I_add, Iom] <;> rw [Iom] <;> omega
  omega
theorem dec_upc {x b y c : Int32} (hc : c = b) (h : ¬ c ≤ x) (e : y = x + Int32.ofInt 1) : (b.toInt - y.toInt).toNat < (b.toInt - x.toInt).toNat := dec_up (hc ▸ h) e
theorem srt_0 {a n v : Int32} (h : rowOK a n) (e : v = a + 1) : a.toInt < v.toInt := by
  obtain ⟨h1, h2, h3⟩ := h
  have h5 : v.toInt = a.toInt + 1 := by rw [e, I_add, I1] <;> rw [I1] <;> omega
  omega
theorem srt_n {a n i v c : Int32} (h : rowOK a n) (hi : a.toInt < i.toInt) (hc : c = a + n) (q : ¬ c ≤ i) (e : v = i + Int32.ofInt 1) : a.toInt < v.toInt := by
  obtain ⟨h1, h2, h3⟩ := h
  rw [Int32.le_iff_toInt_le] at q
  have h4 : c.toInt = a.toInt + n.toInt := by rw [hc, I_add] <;> omega
  have h5 : v.toInt = i.toInt + 1 := by rw [e, I_add, Io1] <;> rw [Io1] <;> omega
  omega
theorem srt_b {a n i c : Int32} (h : rowOK a n) (hc : c = a + n) (q : ¬ c ≤ i) : i.toInt < 32 := by
  obtain ⟨h1, h2, h3⟩ := h
  rw [Int32.le_iff_toInt_le] at q
  have h4 : c.toInt = a.toInt + n.toInt := by rw [hc, I_add] <;> omega
  omega
theorem vp_of {p : Int32} (h1 : 0 ≤ p.toInt) (h2 : p.toInt < 32) : vp_in p 32 := vp_in_iff.mpr ⟨h1, h2⟩
theorem ins_i {a p x v : Int32} (h1 : 0 ≤ a.toInt) (h3 : p.toInt < 32) (h4 : x.toInt ≤ p.toInt) (c : ¬ x ≤ a) (e : v = x - 1) : vp_in v 32 := by
  rw [Int32.le_iff_toInt_le] at c
  have h5 : v.toInt = x.toInt - 1 := by rw [e, I_sub, I1] <;> rw [I1] <;> omega
  exact vp_of (by omega) (by omega)
theorem ins_n {a p x v : Int32} (h1 : 0 ≤ a.toInt) (h3 : p.toInt < 32) (h4 : x.toInt ≤ p.toInt) (c : ¬ x ≤ a) (e : v = x + Int32.ofInt (-1)) : a.toInt ≤ v.toInt ∧ v.toInt ≤ p.toInt ∧ (v.toInt - a.toInt).toNat < (x.toInt - a.toInt).toNat := by
  rw [Int32.le_iff_toInt_le] at c
  have h5 : v.toInt = x.toInt + -1 := by rw [e, I_add, Iom] <;> rw [Iom] <;> omega
  omega
theorem ne_of {a b x : Int64} (c : ¬ a = 0) (ha : a = x) (hb : b = x) : ¬ b = 0 := by rw [hb, ← ha]; exact c
end
section
set_option maxHeartbeats 4000000 in
set_option maxRecDepth 100000 in
theorem cJI_compare (l : Launch) (D : va_G) (tys : zT) (w : va_W) (p0 : Int32) (p1 : Int32) : zM l D vwCl zNF zNM yJI_compare wsJI_compare { frames := 0, cells := 0, slots := 0, locals := 0 } [.int p0, .int p1] (w) tys (qI (fun r w' tys' => w = w' ∧ tys = tys' ∧ (True))) := by
  refine z_met (cc := bJI_compare) (maxL := 2) (ret := (some .int)) (isI := false) (own := RJI) (by decide +kernel) rfl rfl (fun h => by cases h) (Nat.le_of_ble_eq_true rfl) (fun Z hZ => ?_)
  show Z 0 0 tys 0 [(0, .int p0), (1, .int p1)] [] (w)
  refine z_iload_n (pc := 0) hZ 0 dJI_compare_0 rfl rfl ?_
  refine z_iload_n (pc := 1) hZ 1 dJI_compare_1 rfl rfl ?_
  refine z_icmp_ge (pc := 2) hZ 9 dJI_compare_2 (by decide) (fun c2_1 => ?_) (fun c2_1 => ?_)
  · refine z_iload_n (pc := 9) hZ 0 dJI_compare_9 rfl rfl ?_
    refine z_iload_n (pc := 10) hZ 1 dJI_compare_10 rfl rfl ?_
    refine z_icmp_ne (pc := 11) hZ 18 dJI_compare_11 (by decide) (fun c11_2 => ?_) (fun c11_2 => ?_)
    · refine z_iconst (pc := 18) hZ 1 dJI_compare_18 (by decide) ?_
      exact z_reti (pc := 19) hZ dJI_compare_19 .int rfl rfl ⟨_, rfl, rfl, rfl, (by trivial)⟩
    · refine z_iconst (pc := 14) hZ 0 dJI_compare_14 (by decide) ?_
      refine z_goto (pc := 15) hZ 19 dJI_compare_15 (by decide) ?_
      exact z_reti (pc := 19) hZ dJI_compare_19 .int rfl rfl ⟨_, rfl, rfl, rfl, (by trivial)⟩
  · refine z_iconst (pc := 5) hZ (-1) dJI_compare_5 (by decide) ?_
    refine z_goto (pc := 6) hZ 19 dJI_compare_6 (by decide) ?_
    exact z_reti (pc := 19) hZ dJI_compare_19 .int rfl rfl ⟨_, rfl, rfl, rfl, (by trivial)⟩
set_option maxHeartbeats 4000000 in
set_option maxRecDepth 100000 in
theorem cJI_numberOfLeadingZeros (l : Launch) (D : va_G) (tys : zT) (w : va_W) (p0 : Int32) : zM l D vwCl zNF zNM yJI_numberOfLeadingZeros wsJI_numberOfLeadingZeros { frames := 0, cells := 0, slots := 0, locals := 0 } [.int p0] (w) tys (qI (fun r w' tys' => w = w' ∧ tys = tys' ∧ (True))) := by
  refine z_met (cc := bJI_numberOfLeadingZeros) (maxL := 2) (ret := (some .int)) (isI := false) (own := RJI) (by decide +kernel) rfl rfl (fun h => by cases h) (Nat.le_of_ble_eq_true rfl) (fun Z hZ => ?_)
  show Z 0 0 tys 0 [(0, .int p0)] [] (w)
  refine z_iload_n (pc := 0) hZ 0 dJI_numberOfLeadingZeros_0 rfl rfl ?_
  refine z_if_gt (pc := 1) hZ 15 dJI_numberOfLeadingZeros_1 (by decide) (fun c1_1 => ?_) (fun c1_1 => ?_)
  · refine z_bipush (pc := 15) hZ 31 dJI_numberOfLeadingZeros_15 (by decide) ?_
    refine z_istore_n (pc := 17) hZ [(1, .int 31), (0, .int p0)] dJI_numberOfLeadingZeros_17 rfl (by decide) rfl ?_
    refine z_iload_n (pc := 18) hZ 1 dJI_numberOfLeadingZeros_18 rfl rfl ?_
    refine z_ldcw (pc := 19) hZ 65536 (zb kc_JI_264) dJI_numberOfLeadingZeros_19 ?_
    have J33 : ∀ (x1_33 : Int32) (x0_33 : Int32), Z 0 0 tys 33 [(1, .int x1_33), (0, .int x0_33)] [] (w) := by
      intro x1_33 x0_33
      refine z_iload_n (pc := 33) hZ 1 dJI_numberOfLeadingZeros_33 rfl rfl ?_
      refine z_sipush (pc := 34) hZ 256 dJI_numberOfLeadingZeros_34 (by decide) ?_
      have J48 : ∀ (x1_48 : Int32) (x0_48 : Int32), Z 0 0 tys 48 [(1, .int x1_48), (0, .int x0_48)] [] (w) := by
        intro x1_48 x0_48
        refine z_iload_n (pc := 48) hZ 1 dJI_numberOfLeadingZeros_48 rfl rfl ?_
        refine z_bipush (pc := 49) hZ 16 dJI_numberOfLeadingZeros_49 (by decide) ?_
        have J61 : ∀ (x1_61 : Int32) (x0_61 : Int32), Z 0 0 tys 61 [(1, .int x1_61), (0, .int x0_61)] [] (w) := by
          intro x1_61 x0_61
          refine z_iload_n (pc := 61) hZ 1 dJI_numberOfLeadingZeros_61 rfl rfl ?_
          refine z_iconst (pc := 62) hZ 4 dJI_numberOfLeadingZeros_62 (by decide) ?_
          have J73 : ∀ (x1_73 : Int32) (x0_73 : Int32), Z 0 0 tys 73 [(1, .int x1_73), (0, .int x0_73)] [] (w) := by
            intro x1_73 x0_73
            refine z_iload_n (pc := 73) hZ 0 dJI_numberOfLeadingZeros_73 rfl rfl ?_
            refine z_iload_n (pc := 74) hZ 1 dJI_numberOfLeadingZeros_74 rfl rfl ?_
            refine z_iconst (pc := 75) hZ 1 dJI_numberOfLeadingZeros_75 (by decide) ?_
            refine z_iushr (pc := 76) hZ dJI_numberOfLeadingZeros_76 (fun v76_2 ev76_2 => ?_)
            refine z_isub (pc := 77) hZ dJI_numberOfLeadingZeros_77 (fun v77_3 ev77_3 => ?_)
            exact z_reti (pc := 78) hZ dJI_numberOfLeadingZeros_78 .int rfl rfl ⟨_, rfl, rfl, rfl, (by trivial)⟩
          refine z_icmp_lt (pc := 63) hZ 73 dJI_numberOfLeadingZeros_63 (by decide) (fun c63_4 => ?_) (fun c63_4 => ?_)
          · exact z_sub (pc := 73) hZ [0, 1] rfl (J73 x1_61 x0_61)
          · refine z_iinc (pc := 66) hZ 0 (fun v9 => [(1, .int v9), (0, .int x0_61)]) dJI_numberOfLeadingZeros_66 rfl (by decide) (fun _ => rfl) (fun v66_5 ev66_5 => ?_)
            refine z_iload_n (pc := 69) hZ 1 dJI_numberOfLeadingZeros_69 rfl rfl ?_
            refine z_iconst (pc := 70) hZ 2 dJI_numberOfLeadingZeros_70 (by decide) ?_
            refine z_iushr (pc := 71) hZ dJI_numberOfLeadingZeros_71 (fun v71_6 ev71_6 => ?_)
            refine z_istore_n (pc := 72) hZ [(0, .int v71_6), (1, .int v66_5)] dJI_numberOfLeadingZeros_72 rfl (by decide) rfl ?_
            exact z_sub (pc := 73) hZ [1, 0] rfl (J73 v66_5 v71_6)
        refine z_icmp_lt (pc := 51) hZ 61 dJI_numberOfLeadingZeros_51 (by decide) (fun c51_7 => ?_) (fun c51_7 => ?_)
        · exact z_sub (pc := 61) hZ [0, 1] rfl (J61 x1_48 x0_48)
        · refine z_iinc (pc := 54) hZ 0 (fun v9 => [(1, .int v9), (0, .int x0_48)]) dJI_numberOfLeadingZeros_54 rfl (by decide) (fun _ => rfl) (fun v54_8 ev54_8 => ?_)
          refine z_iload_n (pc := 57) hZ 1 dJI_numberOfLeadingZeros_57 rfl rfl ?_
          refine z_iconst (pc := 58) hZ 4 dJI_numberOfLeadingZeros_58 (by decide) ?_
          refine z_iushr (pc := 59) hZ dJI_numberOfLeadingZeros_59 (fun v59_9 ev59_9 => ?_)
          refine z_istore_n (pc := 60) hZ [(0, .int v59_9), (1, .int v54_8)] dJI_numberOfLeadingZeros_60 rfl (by decide) rfl ?_
          exact z_sub (pc := 61) hZ [1, 0] rfl (J61 v54_8 v59_9)
      refine z_icmp_lt (pc := 37) hZ 48 dJI_numberOfLeadingZeros_37 (by decide) (fun c37_10 => ?_) (fun c37_10 => ?_)
      · exact z_sub (pc := 48) hZ [0, 1] rfl (J48 x1_33 x0_33)
      · refine z_iinc (pc := 40) hZ 0 (fun v9 => [(1, .int v9), (0, .int x0_33)]) dJI_numberOfLeadingZeros_40 rfl (by decide) (fun _ => rfl) (fun v40_11 ev40_11 => ?_)
        refine z_iload_n (pc := 43) hZ 1 dJI_numberOfLeadingZeros_43 rfl rfl ?_
        refine z_bipush (pc := 44) hZ 8 dJI_numberOfLeadingZeros_44 (by decide) ?_
        refine z_iushr (pc := 46) hZ dJI_numberOfLeadingZeros_46 (fun v46_12 ev46_12 => ?_)
        refine z_istore_n (pc := 47) hZ [(0, .int v46_12), (1, .int v40_11)] dJI_numberOfLeadingZeros_47 rfl (by decide) rfl ?_
        exact z_sub (pc := 48) hZ [1, 0] rfl (J48 v40_11 v46_12)
    refine z_icmp_lt (pc := 22) hZ 33 dJI_numberOfLeadingZeros_22 (by decide) (fun c22_13 => ?_) (fun c22_13 => ?_)
    · exact z_sub (pc := 33) hZ [0, 1] rfl (J33 31 p0)
    · refine z_iinc (pc := 25) hZ 0 (fun v9 => [(1, .int v9), (0, .int p0)]) dJI_numberOfLeadingZeros_25 rfl (by decide) (fun _ => rfl) (fun v25_14 ev25_14 => ?_)
      refine z_iload_n (pc := 28) hZ 1 dJI_numberOfLeadingZeros_28 rfl rfl ?_
      refine z_bipush (pc := 29) hZ 16 dJI_numberOfLeadingZeros_29 (by decide) ?_
      refine z_iushr (pc := 31) hZ dJI_numberOfLeadingZeros_31 (fun v31_15 ev31_15 => ?_)
      refine z_istore_n (pc := 32) hZ [(0, .int v31_15), (1, .int v25_14)] dJI_numberOfLeadingZeros_32 rfl (by decide) rfl ?_
      exact z_sub (pc := 33) hZ [1, 0] rfl (J33 v25_14 v31_15)
  · refine z_iload_n (pc := 4) hZ 0 dJI_numberOfLeadingZeros_4 rfl rfl ?_
    refine z_if_ne (pc := 5) hZ 13 dJI_numberOfLeadingZeros_5 (by decide) (fun c5_16 => ?_) (fun c5_16 => ?_)
    · refine z_iconst (pc := 13) hZ 0 dJI_numberOfLeadingZeros_13 (by decide) ?_
      exact z_reti (pc := 14) hZ dJI_numberOfLeadingZeros_14 .int rfl rfl ⟨_, rfl, rfl, rfl, (by trivial)⟩
    · refine z_bipush (pc := 8) hZ 32 dJI_numberOfLeadingZeros_8 (by decide) ?_
      refine z_goto (pc := 10) hZ 14 dJI_numberOfLeadingZeros_10 (by decide) ?_
      exact z_reti (pc := 14) hZ dJI_numberOfLeadingZeros_14 .int rfl rfl ⟨_, rfl, rfl, rfl, (by trivial)⟩
set_option maxHeartbeats 4000000 in
set_option maxRecDepth 100000 in
theorem cJI_numberOfTrailingZeros (l : Launch) (D : va_G) (tys : zT) (w : va_W) (p0 : Int32) : zM l D vwCl zNF zNM yJI_numberOfTrailingZeros wsJI_numberOfTrailingZeros { frames := 0, cells := 0, slots := 0, locals := 0 } [.int p0] (w) tys (qI (fun r w' tys' => w = w' ∧ tys = tys' ∧ (True))) := by
  refine z_met (cc := bJI_numberOfTrailingZeros) (maxL := 2) (ret := (some .int)) (isI := false) (own := RJI) (by decide +kernel) rfl rfl (fun h => by cases h) (Nat.le_of_ble_eq_true rfl) (fun Z hZ => ?_)
  show Z 0 0 tys 0 [(0, .int p0)] [] (w)
  refine z_iload_n (pc := 0) hZ 0 dJI_numberOfTrailingZeros_0 rfl rfl ?_
  refine z_iconst (pc := 1) hZ (-1) dJI_numberOfTrailingZeros_1 (by decide) ?_
  refine z_ixor (pc := 2) hZ dJI_numberOfTrailingZeros_2 (fun v2_1 ev2_1 => ?_)
  refine z_iload_n (pc := 3) hZ 0 dJI_numberOfTrailingZeros_3 rfl rfl ?_
  refine z_iconst (pc := 4) hZ 1 dJI_numberOfTrailingZeros_4 (by decide) ?_
  refine z_isub (pc := 5) hZ dJI_numberOfTrailingZeros_5 (fun v5_2 ev5_2 => ?_)
  refine z_iand (pc := 6) hZ dJI_numberOfTrailingZeros_6 (fun v6_3 ev6_3 => ?_)
  refine z_istore_n (pc := 7) hZ [(0, .int v6_3)] dJI_numberOfTrailingZeros_7 rfl (by decide) rfl ?_
  refine z_iload_n (pc := 8) hZ 0 dJI_numberOfTrailingZeros_8 rfl rfl ?_
  refine z_if_gt (pc := 9) hZ 17 dJI_numberOfTrailingZeros_9 (by decide) (fun c9_4 => ?_) (fun c9_4 => ?_)
  · refine z_iconst (pc := 17) hZ 1 dJI_numberOfTrailingZeros_17 (by decide) ?_
    refine z_istore_n (pc := 18) hZ [(1, .int 1), (0, .int v6_3)] dJI_numberOfTrailingZeros_18 rfl (by decide) rfl ?_
    refine z_iload_n (pc := 19) hZ 1 dJI_numberOfTrailingZeros_19 rfl rfl ?_
    refine z_ldcw (pc := 20) hZ 65536 (zb kc_JI_264) dJI_numberOfTrailingZeros_20 ?_
    have J34 : ∀ (x1_34 : Int32) (x0_34 : Int32), Z 0 0 tys 34 [(1, .int x1_34), (0, .int x0_34)] [] (w) := by
      intro x1_34 x0_34
      refine z_iload_n (pc := 34) hZ 1 dJI_numberOfTrailingZeros_34 rfl rfl ?_
      refine z_sipush (pc := 35) hZ 256 dJI_numberOfTrailingZeros_35 (by decide) ?_
      have J49 : ∀ (x1_49 : Int32) (x0_49 : Int32), Z 0 0 tys 49 [(1, .int x1_49), (0, .int x0_49)] [] (w) := by
        intro x1_49 x0_49
        refine z_iload_n (pc := 49) hZ 1 dJI_numberOfTrailingZeros_49 rfl rfl ?_
        refine z_bipush (pc := 50) hZ 16 dJI_numberOfTrailingZeros_50 (by decide) ?_
        have J62 : ∀ (x1_62 : Int32) (x0_62 : Int32), Z 0 0 tys 62 [(1, .int x1_62), (0, .int x0_62)] [] (w) := by
          intro x1_62 x0_62
          refine z_iload_n (pc := 62) hZ 1 dJI_numberOfTrailingZeros_62 rfl rfl ?_
          refine z_iconst (pc := 63) hZ 4 dJI_numberOfTrailingZeros_63 (by decide) ?_
          have J74 : ∀ (x1_74 : Int32) (x0_74 : Int32), Z 0 0 tys 74 [(1, .int x1_74), (0, .int x0_74)] [] (w) := by
            intro x1_74 x0_74
            refine z_iload_n (pc := 74) hZ 0 dJI_numberOfTrailingZeros_74 rfl rfl ?_
            refine z_iload_n (pc := 75) hZ 1 dJI_numberOfTrailingZeros_75 rfl rfl ?_
            refine z_iconst (pc := 76) hZ 1 dJI_numberOfTrailingZeros_76 (by decide) ?_
            refine z_iushr (pc := 77) hZ dJI_numberOfTrailingZeros_77 (fun v77_5 ev77_5 => ?_)
            refine z_iadd (pc := 78) hZ dJI_numberOfTrailingZeros_78 (fun v78_6 ev78_6 => ?_)
            exact z_reti (pc := 79) hZ dJI_numberOfTrailingZeros_79 .int rfl rfl ⟨_, rfl, rfl, rfl, (by trivial)⟩
          refine z_icmp_le (pc := 64) hZ 74 dJI_numberOfTrailingZeros_64 (by decide) (fun c64_7 => ?_) (fun c64_7 => ?_)
          · exact z_sub (pc := 74) hZ [0, 1] rfl (J74 x1_62 x0_62)
          · refine z_iinc (pc := 67) hZ 0 (fun v9 => [(1, .int v9), (0, .int x0_62)]) dJI_numberOfTrailingZeros_67 rfl (by decide) (fun _ => rfl) (fun v67_8 ev67_8 => ?_)
            refine z_iload_n (pc := 70) hZ 1 dJI_numberOfTrailingZeros_70 rfl rfl ?_
            refine z_iconst (pc := 71) hZ 2 dJI_numberOfTrailingZeros_71 (by decide) ?_
            refine z_iushr (pc := 72) hZ dJI_numberOfTrailingZeros_72 (fun v72_9 ev72_9 => ?_)
            refine z_istore_n (pc := 73) hZ [(0, .int v72_9), (1, .int v67_8)] dJI_numberOfTrailingZeros_73 rfl (by decide) rfl ?_
            exact z_sub (pc := 74) hZ [1, 0] rfl (J74 v67_8 v72_9)
        refine z_icmp_le (pc := 52) hZ 62 dJI_numberOfTrailingZeros_52 (by decide) (fun c52_10 => ?_) (fun c52_10 => ?_)
        · exact z_sub (pc := 62) hZ [0, 1] rfl (J62 x1_49 x0_49)
        · refine z_iinc (pc := 55) hZ 0 (fun v9 => [(1, .int v9), (0, .int x0_49)]) dJI_numberOfTrailingZeros_55 rfl (by decide) (fun _ => rfl) (fun v55_11 ev55_11 => ?_)
          refine z_iload_n (pc := 58) hZ 1 dJI_numberOfTrailingZeros_58 rfl rfl ?_
          refine z_iconst (pc := 59) hZ 4 dJI_numberOfTrailingZeros_59 (by decide) ?_
          refine z_iushr (pc := 60) hZ dJI_numberOfTrailingZeros_60 (fun v60_12 ev60_12 => ?_)
          refine z_istore_n (pc := 61) hZ [(0, .int v60_12), (1, .int v55_11)] dJI_numberOfTrailingZeros_61 rfl (by decide) rfl ?_
          exact z_sub (pc := 62) hZ [1, 0] rfl (J62 v55_11 v60_12)
      refine z_icmp_le (pc := 38) hZ 49 dJI_numberOfTrailingZeros_38 (by decide) (fun c38_13 => ?_) (fun c38_13 => ?_)
      · exact z_sub (pc := 49) hZ [0, 1] rfl (J49 x1_34 x0_34)
      · refine z_iinc (pc := 41) hZ 0 (fun v9 => [(1, .int v9), (0, .int x0_34)]) dJI_numberOfTrailingZeros_41 rfl (by decide) (fun _ => rfl) (fun v41_14 ev41_14 => ?_)
        refine z_iload_n (pc := 44) hZ 1 dJI_numberOfTrailingZeros_44 rfl rfl ?_
        refine z_bipush (pc := 45) hZ 8 dJI_numberOfTrailingZeros_45 (by decide) ?_
        refine z_iushr (pc := 47) hZ dJI_numberOfTrailingZeros_47 (fun v47_15 ev47_15 => ?_)
        refine z_istore_n (pc := 48) hZ [(0, .int v47_15), (1, .int v41_14)] dJI_numberOfTrailingZeros_48 rfl (by decide) rfl ?_
        exact z_sub (pc := 49) hZ [1, 0] rfl (J49 v41_14 v47_15)
    refine z_icmp_le (pc := 23) hZ 34 dJI_numberOfTrailingZeros_23 (by decide) (fun c23_16 => ?_) (fun c23_16 => ?_)
    · exact z_sub (pc := 34) hZ [0, 1] rfl (J34 1 v6_3)
    · refine z_iinc (pc := 26) hZ 0 (fun v9 => [(1, .int v9), (0, .int v6_3)]) dJI_numberOfTrailingZeros_26 rfl (by decide) (fun _ => rfl) (fun v26_17 ev26_17 => ?_)
      refine z_iload_n (pc := 29) hZ 1 dJI_numberOfTrailingZeros_29 rfl rfl ?_
      refine z_bipush (pc := 30) hZ 16 dJI_numberOfTrailingZeros_30 (by decide) ?_
      refine z_iushr (pc := 32) hZ dJI_numberOfTrailingZeros_32 (fun v32_18 ev32_18 => ?_)
      refine z_istore_n (pc := 33) hZ [(0, .int v32_18), (1, .int v26_17)] dJI_numberOfTrailingZeros_33 rfl (by decide) rfl ?_
      exact z_sub (pc := 34) hZ [1, 0] rfl (J34 v26_17 v32_18)
  · refine z_iload_n (pc := 12) hZ 0 dJI_numberOfTrailingZeros_12 rfl rfl ?_
    refine z_bipush (pc := 13) hZ 32 dJI_numberOfTrailingZeros_13 (by decide) ?_
    refine z_iand (pc := 15) hZ dJI_numberOfTrailingZeros_15 (fun v15_19 ev15_19 => ?_)
    exact z_reti (pc := 16) hZ dJI_numberOfTrailingZeros_16 .int rfl rfl ⟨_, rfl, rfl, rfl, (by trivial)⟩
set_option maxHeartbeats 4000000 in
set_option maxRecDepth 100000 in
theorem cJL_compare (l : Launch) (D : va_G) (tys : zT) (w : va_W) (p0 : Int64) (p1 : Int64) : zM l D vwCl zNF zNM yJL_compare wsJL_compare { frames := 0, cells := 0, slots := 0, locals := 0 } [.long p0, .long p1] (w) tys (qI (fun r w' tys' => w = w' ∧ tys = tys' ∧ (True))) := by
  refine z_met (cc := bJL_compare) (maxL := 4) (ret := (some .int)) (isI := false) (own := RJL) (by decide +kernel) rfl rfl (fun h => by cases h) (Nat.le_of_ble_eq_true rfl) (fun Z hZ => ?_)
  show Z 0 0 tys 0 [(0, .long p0), (2, .long p1)] [] (w)
  refine z_lload_n (pc := 0) hZ 0 dJL_compare_0 rfl rfl ?_
  refine z_lload_n (pc := 1) hZ 1 dJL_compare_1 rfl rfl ?_
  refine z_lif_ge (pc := 2) hZ 10 dJL_compare_2 dJL_compare_3 (by decide) (fun c3_1 => ?_) (fun c3_1 => ?_)
  · refine z_lload_n (pc := 10) hZ 0 dJL_compare_10 rfl rfl ?_
    refine z_lload_n (pc := 11) hZ 1 dJL_compare_11 rfl rfl ?_
    refine z_lif_ne (pc := 12) hZ 20 dJL_compare_12 dJL_compare_13 (by decide) (fun c13_2 => ?_) (fun c13_2 => ?_)
    · refine z_iconst (pc := 20) hZ 1 dJL_compare_20 (by decide) ?_
      exact z_reti (pc := 21) hZ dJL_compare_21 .int rfl rfl ⟨_, rfl, rfl, rfl, (by trivial)⟩
    · refine z_iconst (pc := 16) hZ 0 dJL_compare_16 (by decide) ?_
      refine z_goto (pc := 17) hZ 21 dJL_compare_17 (by decide) ?_
      exact z_reti (pc := 21) hZ dJL_compare_21 .int rfl rfl ⟨_, rfl, rfl, rfl, (by trivial)⟩
  · refine z_iconst (pc := 6) hZ (-1) dJL_compare_6 (by decide) ?_
    refine z_goto (pc := 7) hZ 21 dJL_compare_7 (by decide) ?_
    exact z_reti (pc := 21) hZ dJL_compare_21 .int rfl rfl ⟨_, rfl, rfl, rfl, (by trivial)⟩
set_option maxHeartbeats 4000000 in
set_option maxRecDepth 100000 in
theorem cJL_numberOfLeadingZeros (l : Launch) (D : va_G) (tys : zT) (w : va_W) (p0 : Int64) : zM l D vwCl zNF zNM yJL_numberOfLeadingZeros wsJL_numberOfLeadingZeros { frames := 1, cells := 0, slots := 0, locals := 21 } [.long p0] (w) tys (qI (fun r w' tys' => w = w' ∧ tys = tys' ∧ (True))) := by
  refine z_met (cc := bJL_numberOfLeadingZeros) (maxL := 3) (ret := (some .int)) (isI := false) (own := RJL) (by decide +kernel) rfl rfl (fun h => by cases h) (Nat.le_of_ble_eq_true rfl) (fun Z hZ => ?_)
  show Z 0 0 tys 0 [(0, .long p0)] [] (w)
  refine z_lload_n (pc := 0) hZ 0 dJL_numberOfLeadingZeros_0 rfl rfl ?_
  refine z_bipush (pc := 1) hZ 32 dJL_numberOfLeadingZeros_1 (by decide) ?_
  refine z_lushr (pc := 3) hZ dJL_numberOfLeadingZeros_3 (fun v3_1 ev3_1 => ?_)
  refine z_l2i (pc := 4) hZ dJL_numberOfLeadingZeros_4 (fun v4_2 ev4_2 => ?_)
  refine z_istore_n (pc := 5) hZ [(2, .int v4_2), (0, .long p0)] dJL_numberOfLeadingZeros_5 rfl (by decide) rfl ?_
  refine z_iload_n (pc := 6) hZ 0 dJL_numberOfLeadingZeros_6 rfl rfl ?_
  refine z_if_ne (pc := 7) hZ 21 dJL_numberOfLeadingZeros_7 (by decide) (fun c7_3 => ?_) (fun c7_3 => ?_)
  · refine z_iload_n (pc := 21) hZ 0 dJL_numberOfLeadingZeros_21 rfl rfl ?_
    refine z_callS (pc := 22) (As := [.int v4_2]) (rest := []) hZ (cJI_numberOfLeadingZeros l D tys (w) v4_2) zyJI_numberOfLeadingZeros (z_goodS ml_JL_308 st_JI_numberOfLeadingZeros in_JI co_JI_numberOfLeadingZeros) rfl rfl (by decide) rfl rfl (Nat.le_of_ble_eq_true rfl) ⟨Nat.zero_le _, Nat.zero_le _⟩ dJL_numberOfLeadingZeros_22 (z_ki (fun r22_4 w1 tys1 hp => ?_))
    obtain ⟨rfl, rfl, p22_4⟩ := hp
    exact z_reti (pc := 25) hZ dJL_numberOfLeadingZeros_25 .int rfl rfl ⟨_, rfl, rfl, rfl, (by trivial)⟩
  · refine z_bipush (pc := 10) hZ 32 dJL_numberOfLeadingZeros_10 (by decide) ?_
    refine z_lload_n (pc := 12) hZ 1 dJL_numberOfLeadingZeros_12 rfl rfl ?_
    refine z_l2i (pc := 13) hZ dJL_numberOfLeadingZeros_13 (fun v13_5 ev13_5 => ?_)
    refine z_callS (pc := 14) (As := [.int v13_5]) (rest := [.int 32]) hZ (cJI_numberOfLeadingZeros l D tys (w) v13_5) zyJI_numberOfLeadingZeros (z_goodS ml_JL_308 st_JI_numberOfLeadingZeros in_JI co_JI_numberOfLeadingZeros) rfl rfl (by decide) rfl rfl (Nat.le_of_ble_eq_true rfl) ⟨Nat.zero_le _, Nat.zero_le _⟩ dJL_numberOfLeadingZeros_14 (z_ki (fun r14_6 w1 tys1 hp => ?_))
    obtain ⟨rfl, rfl, p14_6⟩ := hp
    refine z_iadd (pc := 17) hZ dJL_numberOfLeadingZeros_17 (fun v17_7 ev17_7 => ?_)
    refine z_goto (pc := 18) hZ 25 dJL_numberOfLeadingZeros_18 (by decide) ?_
    exact z_reti (pc := 25) hZ dJL_numberOfLeadingZeros_25 .int rfl rfl ⟨_, rfl, rfl, rfl, (by trivial)⟩
set_option maxHeartbeats 4000000 in
set_option maxRecDepth 100000 in
theorem cJL_numberOfTrailingZeros (l : Launch) (D : va_G) (tys : zT) (w : va_W) (p0 : Int64) : zM l D vwCl zNF zNM yJL_numberOfTrailingZeros wsJL_numberOfTrailingZeros { frames := 1, cells := 0, slots := 0, locals := 21 } [.long p0] (w) tys (qI (fun r w' tys' => w = w' ∧ tys = tys' ∧ (True))) := by
  refine z_met (cc := bJL_numberOfTrailingZeros) (maxL := 3) (ret := (some .int)) (isI := false) (own := RJL) (by decide +kernel) rfl rfl (fun h => by cases h) (Nat.le_of_ble_eq_true rfl) (fun Z hZ => ?_)
  show Z 0 0 tys 0 [(0, .long p0)] [] (w)
  refine z_lload_n (pc := 0) hZ 0 dJL_numberOfTrailingZeros_0 rfl rfl ?_
  refine z_l2i (pc := 1) hZ dJL_numberOfTrailingZeros_1 (fun v1_1 ev1_1 => ?_)
  refine z_istore_n (pc := 2) hZ [(2, .int v1_1), (0, .long p0)] dJL_numberOfTrailingZeros_2 rfl (by decide) rfl ?_
  refine z_iload_n (pc := 3) hZ 0 dJL_numberOfTrailingZeros_3 rfl rfl ?_
  refine z_if_ne (pc := 4) hZ 21 dJL_numberOfTrailingZeros_4 (by decide) (fun c4_2 => ?_) (fun c4_2 => ?_)
  · refine z_iload_n (pc := 21) hZ 0 dJL_numberOfTrailingZeros_21 rfl rfl ?_
    refine z_callS (pc := 22) (As := [.int v1_1]) (rest := []) hZ (cJI_numberOfTrailingZeros l D tys (w) v1_1) zyJI_numberOfTrailingZeros (z_goodS ml_JL_311 st_JI_numberOfTrailingZeros in_JI co_JI_numberOfTrailingZeros) rfl rfl (by decide) rfl rfl (Nat.le_of_ble_eq_true rfl) ⟨Nat.zero_le _, Nat.zero_le _⟩ dJL_numberOfTrailingZeros_22 (z_ki (fun r22_3 w1 tys1 hp => ?_))
    obtain ⟨rfl, rfl, p22_3⟩ := hp
    exact z_reti (pc := 25) hZ dJL_numberOfTrailingZeros_25 .int rfl rfl ⟨_, rfl, rfl, rfl, (by trivial)⟩
  · refine z_bipush (pc := 7) hZ 32 dJL_numberOfTrailingZeros_7 (by decide) ?_
    refine z_lload_n (pc := 9) hZ 1 dJL_numberOfTrailingZeros_9 rfl rfl ?_
    refine z_bipush (pc := 10) hZ 32 dJL_numberOfTrailingZeros_10 (by decide) ?_
    refine z_lushr (pc := 12) hZ dJL_numberOfTrailingZeros_12 (fun v12_4 ev12_4 => ?_)
    refine z_l2i (pc := 13) hZ dJL_numberOfTrailingZeros_13 (fun v13_5 ev13_5 => ?_)
    refine z_callS (pc := 14) (As := [.int v13_5]) (rest := [.int 32]) hZ (cJI_numberOfTrailingZeros l D tys (w) v13_5) zyJI_numberOfTrailingZeros (z_goodS ml_JL_311 st_JI_numberOfTrailingZeros in_JI co_JI_numberOfTrailingZeros) rfl rfl (by decide) rfl rfl (Nat.le_of_ble_eq_true rfl) ⟨Nat.zero_le _, Nat.zero_le _⟩ dJL_numberOfTrailingZeros_14 (z_ki (fun r14_6 w1 tys1 hp => ?_))
    obtain ⟨rfl, rfl, p14_6⟩ := hp
    refine z_iadd (pc := 17) hZ dJL_numberOfTrailingZeros_17 (fun v17_7 ev17_7 => ?_)
    refine z_goto (pc := 18) hZ 25 dJL_numberOfTrailingZeros_18 (by decide) ?_
    exact z_reti (pc := 25) hZ dJL_numberOfTrailingZeros_25 .int rfl rfl ⟨_, rfl, rfl, rfl, (by trivial)⟩
set_option maxHeartbeats 4000000 in
set_option maxRecDepth 100000 in
theorem cJL_signum (l : Launch) (D : va_G) (tys : zT) (w : va_W) (p0 : Int64) : zM l D vwCl zNF zNM yJL_signum wsJL_signum { frames := 0, cells := 0, slots := 0, locals := 0 } [.long p0] (w) tys (qI (fun r w' tys' => w = w' ∧ tys = tys' ∧ (True))) := by
  refine z_met (cc := bJL_signum) (maxL := 2) (ret := (some .int)) (isI := false) (own := RJL) (by decide +kernel) rfl rfl (fun h => by cases h) (Nat.le_of_ble_eq_true rfl) (fun Z hZ => ?_)
  show Z 0 0 tys 0 [(0, .long p0)] [] (w)
  refine z_lload_n (pc := 0) hZ 0 dJL_signum_0 rfl rfl ?_
  refine z_bipush (pc := 1) hZ 63 dJL_signum_1 (by decide) ?_
  refine z_lshr (pc := 3) hZ dJL_signum_3 (fun v3_1 ev3_1 => ?_)
  refine z_lload_n (pc := 4) hZ 0 dJL_signum_4 rfl rfl ?_
  refine z_lneg (pc := 5) hZ dJL_signum_5 (fun v5_2 ev5_2 => ?_)
  refine z_bipush (pc := 6) hZ 63 dJL_signum_6 (by decide) ?_
  refine z_lushr (pc := 8) hZ dJL_signum_8 (fun v8_3 ev8_3 => ?_)
  refine z_lor (pc := 9) hZ dJL_signum_9 (fun v9_4 ev9_4 => ?_)
  refine z_l2i (pc := 10) hZ dJL_signum_10 (fun v10_5 ev10_5 => ?_)
  exact z_reti (pc := 11) hZ dJL_signum_11 .int rfl rfl ⟨_, rfl, rfl, rfl, (by trivial)⟩
set_option maxHeartbeats 4000000 in
set_option maxRecDepth 100000 in
theorem cJM_floorDiv (l : Launch) (D : va_G) (tys : zT) (w : va_W) (p0 : Int64) (p1 : Int64) (hne : ¬ p1 = 0) : zM l D vwCl zNF zNM yJM_floorDiv wsJM_floorDiv { frames := 0, cells := 0, slots := 0, locals := 0 } [.long p0, .long p1] (w) tys (qL (fun r w' tys' => w = w' ∧ tys = tys' ∧ (True))) := by
  refine z_met (cc := bJM_floorDiv) (maxL := 6) (ret := (some .long)) (isI := false) (own := RJM) (by decide +kernel) rfl rfl (fun h => by cases h) (Nat.le_of_ble_eq_true rfl) (fun Z hZ => ?_)
  show Z 0 0 tys 0 [(0, .long p0), (2, .long p1)] [] (w)
  refine z_lload_n (pc := 0) hZ 0 dJM_floorDiv_0 rfl rfl ?_
  refine z_lload_n (pc := 1) hZ 1 dJM_floorDiv_1 rfl rfl ?_
  refine z_ldiv (pc := 2) hZ dJM_floorDiv_2 (by assumption) (fun v2_1 ev2_1 => ?_)
  refine z_lstore (pc := 3) hZ [(4, .long v2_1), (0, .long p0), (2, .long p1)] dJM_floorDiv_3 (by decide) rfl ?_
  refine z_lload_n (pc := 5) hZ 1 dJM_floorDiv_5 rfl rfl ?_
  refine z_lload_n (pc := 6) hZ 2 dJM_floorDiv_6 rfl rfl ?_
  refine z_lxor (pc := 7) hZ dJM_floorDiv_7 (fun v7_2 ev7_2 => ?_)
  refine z_lconst (pc := 8) hZ 0 dJM_floorDiv_8 (by decide) ?_
  refine z_lif_ge (pc := 9) hZ 27 dJM_floorDiv_9 dJM_floorDiv_10 (by decide) (fun c10_3 => ?_) (fun c10_3 => ?_)
  · refine z_lload (pc := 27) hZ 0 dJM_floorDiv_27 rfl ?_
    exact z_retl (pc := 29) hZ dJM_floorDiv_29 rfl ⟨_, rfl, rfl, rfl, (by trivial)⟩
  · refine z_lload (pc := 13) hZ 0 dJM_floorDiv_13 rfl ?_
    refine z_lload_n (pc := 15) hZ 2 dJM_floorDiv_15 rfl rfl ?_
    refine z_lmul (pc := 16) hZ dJM_floorDiv_16 (fun v16_4 ev16_4 => ?_)
    refine z_lload_n (pc := 17) hZ 1 dJM_floorDiv_17 rfl rfl ?_
    refine z_lif_eq (pc := 18) hZ 27 dJM_floorDiv_18 dJM_floorDiv_19 (by decide) (fun c19_5 => ?_) (fun c19_5 => ?_)
    · refine z_lload (pc := 27) hZ 0 dJM_floorDiv_27 rfl ?_
      exact z_retl (pc := 29) hZ dJM_floorDiv_29 rfl ⟨_, rfl, rfl, rfl, (by trivial)⟩
    · refine z_lload (pc := 22) hZ 0 dJM_floorDiv_22 rfl ?_
      refine z_lconst (pc := 24) hZ 1 dJM_floorDiv_24 (by decide) ?_
      refine z_lsub (pc := 25) hZ dJM_floorDiv_25 (fun v25_6 ev25_6 => ?_)
      exact z_retl (pc := 26) hZ dJM_floorDiv_26 rfl ⟨_, rfl, rfl, rfl, (by trivial)⟩
set_option maxHeartbeats 4000000 in
set_option maxRecDepth 100000 in
theorem cJM_floorMod (l : Launch) (D : va_G) (tys : zT) (w : va_W) (p0 : Int64) (p1 : Int64) (hne : ¬ p1 = 0) : zM l D vwCl zNF zNM yJM_floorMod wsJM_floorMod { frames := 0, cells := 0, slots := 0, locals := 0 } [.long p0, .long p1] (w) tys (qL (fun r w' tys' => w = w' ∧ tys = tys' ∧ (True))) := by
  refine z_met (cc := bJM_floorMod) (maxL := 6) (ret := (some .long)) (isI := false) (own := RJM) (by decide +kernel) rfl rfl (fun h => by cases h) (Nat.le_of_ble_eq_true rfl) (fun Z hZ => ?_)
  show Z 0 0 tys 0 [(0, .long p0), (2, .long p1)] [] (w)
  refine z_lload_n (pc := 0) hZ 0 dJM_floorMod_0 rfl rfl ?_
  refine z_lload_n (pc := 1) hZ 1 dJM_floorMod_1 rfl rfl ?_
  refine z_lrem (pc := 2) hZ dJM_floorMod_2 (by assumption) (fun v2_1 ev2_1 => ?_)
  refine z_lstore (pc := 3) hZ [(4, .long v2_1), (0, .long p0), (2, .long p1)] dJM_floorMod_3 (by decide) rfl ?_
  refine z_lload_n (pc := 5) hZ 1 dJM_floorMod_5 rfl rfl ?_
  refine z_lload_n (pc := 6) hZ 2 dJM_floorMod_6 rfl rfl ?_
  refine z_lxor (pc := 7) hZ dJM_floorMod_7 (fun v7_2 ev7_2 => ?_)
  refine z_lconst (pc := 8) hZ 0 dJM_floorMod_8 (by decide) ?_
  refine z_lif_ge (pc := 9) hZ 25 dJM_floorMod_9 dJM_floorMod_10 (by decide) (fun c10_3 => ?_) (fun c10_3 => ?_)
  · refine z_lload (pc := 25) hZ 0 dJM_floorMod_25 rfl ?_
    exact z_retl (pc := 27) hZ dJM_floorMod_27 rfl ⟨_, rfl, rfl, rfl, (by trivial)⟩
  · refine z_lload (pc := 13) hZ 0 dJM_floorMod_13 rfl ?_
    refine z_lconst (pc := 15) hZ 0 dJM_floorMod_15 (by decide) ?_
    refine z_lif_eq (pc := 16) hZ 25 dJM_floorMod_16 dJM_floorMod_17 (by decide) (fun c17_4 => ?_) (fun c17_4 => ?_)
    · refine z_lload (pc := 25) hZ 0 dJM_floorMod_25 rfl ?_
      exact z_retl (pc := 27) hZ dJM_floorMod_27 rfl ⟨_, rfl, rfl, rfl, (by trivial)⟩
    · refine z_lload (pc := 20) hZ 0 dJM_floorMod_20 rfl ?_
      refine z_lload_n (pc := 22) hZ 2 dJM_floorMod_22 rfl rfl ?_
      refine z_ladd (pc := 23) hZ dJM_floorMod_23 (fun v23_5 ev23_5 => ?_)
      exact z_retl (pc := 24) hZ dJM_floorMod_24 rfl ⟨_, rfl, rfl, rfl, (by trivial)⟩
end
section
set_option maxHeartbeats 4000000 in
set_option maxRecDepth 100000 in
theorem cV_become (l : Launch) (D : va_G) (tys : zT) (X : va_W) (LP : List Nat) (f : Nat → V3) (a0 : Nat) (h_a0 : a0 ∈ LP) (a1 : Nat) (h_a1 : a1 ∈ LP) : zM l D vwCl zNF zNM yV_become wsV_become { frames := 0, cells := 0, slots := 0, locals := 0 } [.ref a0, .ref a1] (X ++ PL LP f) tys (qV (fun w' tys' => ∃ f' : Nat → V3, X ++ PL LP f' = w' ∧ tys = tys' ∧ (True))) := by
  refine z_met (cc := bV_become) (maxL := 2) (ret := none) (isI := false) (own := RV) (by decide +kernel) rfl rfl (fun h => by cases h) (Nat.le_of_ble_eq_true rfl) (fun Z hZ => ?_)
  show Z 0 0 tys 0 [(0, .ref a0), (1, .ref a1)] [] (X ++ PL LP f)
  refine z_aload_n (pc := 0) hZ 0 dV_become_0 rfl rfl ?_
  refine z_aload_n (pc := 1) hZ 1 dV_become_1 rfl rfl ?_
  refine z_pg0 (pc := 2) hZ h_a1 uc_V (zb fl_V_9) dV_become_2 (fun v2_1 ev2_1 => ?_)
  refine z_pp0 (pc := 5) hZ h_a0 uc_V (zb fl_V_9) dV_become_5 (fun f5_1 ef5_1 => ?_)
  refine z_aload_n (pc := 8) hZ 0 dV_become_8 rfl rfl ?_
  refine z_aload_n (pc := 9) hZ 1 dV_become_9 rfl rfl ?_
  refine z_pg1 (pc := 10) hZ h_a1 uc_V (zb fl_V_15) dV_become_10 (fun v10_3 ev10_3 => ?_)
  refine z_pp1 (pc := 13) hZ h_a0 uc_V (zb fl_V_15) dV_become_13 (fun f13_3 ef13_3 => ?_)
  refine z_aload_n (pc := 16) hZ 0 dV_become_16 rfl rfl ?_
  refine z_aload_n (pc := 17) hZ 1 dV_become_17 rfl rfl ?_
  refine z_pg2 (pc := 18) hZ h_a1 uc_V (zb fl_V_19) dV_become_18 (fun v18_5 ev18_5 => ?_)
  refine z_pp2 (pc := 21) hZ h_a0 uc_V (zb fl_V_19) dV_become_21 (fun f21_5 ef21_5 => ?_)
  exact z_retv (pc := 24) hZ dV_become_24 rfl ⟨rfl, _, rfl, rfl, (by trivial)⟩
set_option maxHeartbeats 4000000 in
set_option maxRecDepth 100000 in
theorem cV_setWhole (l : Launch) (D : va_G) (tys : zT) (X : va_W) (LP : List Nat) (f : Nat → V3) (a0 : Nat) (h_a0 : a0 ∈ LP) (p1 : Int64) : zM l D vwCl zNF zNM yV_setWhole wsV_setWhole { frames := 0, cells := 0, slots := 0, locals := 0 } [.ref a0, .long p1] (X ++ PL LP f) tys (qV (fun w' tys' => ∃ f' : Nat → V3, X ++ PL LP f' = w' ∧ tys = tys' ∧ (True))) := by
  refine z_met (cc := bV_setWhole) (maxL := 3) (ret := none) (isI := false) (own := RV) (by decide +kernel) rfl rfl (fun h => by cases h) (Nat.le_of_ble_eq_true rfl) (fun Z hZ => ?_)
  show Z 0 0 tys 0 [(0, .ref a0), (1, .long p1)] [] (X ++ PL LP f)
  refine z_aload_n (pc := 0) hZ 0 dV_setWhole_0 rfl rfl ?_
  refine z_iconst (pc := 1) hZ 1 dV_setWhole_1 (by decide) ?_
  refine z_pp0 (pc := 2) hZ h_a0 uc_V (zb fl_V_9) dV_setWhole_2 (fun f2_0 ef2_0 => ?_)
  refine z_aload_n (pc := 5) hZ 0 dV_setWhole_5 rfl rfl ?_
  refine z_lload_n (pc := 6) hZ 1 dV_setWhole_6 rfl rfl ?_
  refine z_pp1 (pc := 7) hZ h_a0 uc_V (zb fl_V_15) dV_setWhole_7 (fun f7_1 ef7_1 => ?_)
  refine z_aload_n (pc := 10) hZ 0 dV_setWhole_10 rfl rfl ?_
  refine z_iconst (pc := 11) hZ 0 dV_setWhole_11 (by decide) ?_
  refine z_pp2 (pc := 12) hZ h_a0 uc_V (zb fl_V_19) dV_setWhole_12 (fun f12_2 ef12_2 => ?_)
  exact z_retv (pc := 15) hZ dV_setWhole_15 rfl ⟨rfl, _, rfl, rfl, (by trivial)⟩
set_option maxHeartbeats 4000000 in
set_option maxRecDepth 100000 in
theorem cV_setSpecial (l : Launch) (D : va_G) (tys : zT) (X : va_W) (LP : List Nat) (f : Nat → V3) (a0 : Nat) (h_a0 : a0 ∈ LP) (p1 : Int32) : zM l D vwCl zNF zNM yV_setSpecial wsV_setSpecial { frames := 0, cells := 0, slots := 0, locals := 0 } [.ref a0, .int p1] (X ++ PL LP f) tys (qV (fun w' tys' => ∃ f' : Nat → V3, X ++ PL LP f' = w' ∧ tys = tys' ∧ (True))) := by
  refine z_met (cc := bV_setSpecial) (maxL := 2) (ret := none) (isI := false) (own := RV) (by decide +kernel) rfl rfl (fun h => by cases h) (Nat.le_of_ble_eq_true rfl) (fun Z hZ => ?_)
  show Z 0 0 tys 0 [(0, .ref a0), (1, .int p1)] [] (X ++ PL LP f)
  refine z_aload_n (pc := 0) hZ 0 dV_setSpecial_0 rfl rfl ?_
  refine z_iload_n (pc := 1) hZ 1 dV_setSpecial_1 rfl rfl ?_
  refine z_pp0 (pc := 2) hZ h_a0 uc_V (zb fl_V_9) dV_setSpecial_2 (fun f2_0 ef2_0 => ?_)
  refine z_aload_n (pc := 5) hZ 0 dV_setSpecial_5 rfl rfl ?_
  refine z_lconst (pc := 6) hZ 0 dV_setSpecial_6 (by decide) ?_
  refine z_pp1 (pc := 7) hZ h_a0 uc_V (zb fl_V_15) dV_setSpecial_7 (fun f7_1 ef7_1 => ?_)
  refine z_aload_n (pc := 10) hZ 0 dV_setSpecial_10 rfl rfl ?_
  refine z_iconst (pc := 11) hZ 0 dV_setSpecial_11 (by decide) ?_
  refine z_pp2 (pc := 12) hZ h_a0 uc_V (zb fl_V_19) dV_setSpecial_12 (fun f12_2 ef12_2 => ?_)
  exact z_retv (pc := 15) hZ dV_setSpecial_15 rfl ⟨rfl, _, rfl, rfl, (by trivial)⟩
set_option maxHeartbeats 4000000 in
set_option maxRecDepth 100000 in
theorem cV_setInfinity (l : Launch) (D : va_G) (tys : zT) (X : va_W) (LP : List Nat) (f : Nat → V3) (a0 : Nat) (h_a0 : a0 ∈ LP) (p1 : Int32) : zM l D vwCl zNF zNM yV_setInfinity wsV_setInfinity { frames := 0, cells := 0, slots := 0, locals := 0 } [.ref a0, .int p1] (X ++ PL LP f) tys (qV (fun w' tys' => ∃ f' : Nat → V3, X ++ PL LP f' = w' ∧ tys = tys' ∧ (True))) := by
  refine z_met (cc := bV_setInfinity) (maxL := 2) (ret := none) (isI := false) (own := RV) (by decide +kernel) rfl rfl (fun h => by cases h) (Nat.le_of_ble_eq_true rfl) (fun Z hZ => ?_)
  show Z 0 0 tys 0 [(0, .ref a0), (1, .int p1)] [] (X ++ PL LP f)
  refine z_aload_n (pc := 0) hZ 0 dV_setInfinity_0 rfl rfl ?_
  refine z_iload_n (pc := 1) hZ 1 dV_setInfinity_1 rfl rfl ?_
  have J10 : ∀ (s0_10 : Int32), Z 0 0 tys 10 [(0, .ref a0)] [.int s0_10, .ref a0] (X ++ PL LP f) := by
    intro s0_10
    refine z_pp0 (pc := 10) hZ h_a0 uc_V (zb fl_V_9) dV_setInfinity_10 (fun f10_0 ef10_0 => ?_)
    refine z_aload_n (pc := 13) hZ 0 dV_setInfinity_13 rfl rfl ?_
    refine z_lconst (pc := 14) hZ 0 dV_setInfinity_14 (by decide) ?_
    refine z_pp1 (pc := 15) hZ h_a0 uc_V (zb fl_V_15) dV_setInfinity_15 (fun f15_1 ef15_1 => ?_)
    refine z_aload_n (pc := 18) hZ 0 dV_setInfinity_18 rfl rfl ?_
    refine z_iconst (pc := 19) hZ 0 dV_setInfinity_19 (by decide) ?_
    refine z_pp2 (pc := 20) hZ h_a0 uc_V (zb fl_V_19) dV_setInfinity_20 (fun f20_2 ef20_2 => ?_)
    exact z_retv (pc := 23) hZ dV_setInfinity_23 rfl ⟨rfl, _, rfl, rfl, (by trivial)⟩
  refine z_if_eq (pc := 2) hZ 9 dV_setInfinity_2 (by decide) (fun c2_4 => ?_) (fun c2_4 => ?_)
  · refine z_iconst (pc := 9) hZ 3 dV_setInfinity_9 (by decide) ?_
    exact z_sub (pc := 10) hZ [0] rfl (J10 3)
  · refine z_iconst (pc := 5) hZ 4 dV_setInfinity_5 (by decide) ?_
    refine z_goto (pc := 6) hZ 10 dV_setInfinity_6 (by decide) ?_
    exact z_sub (pc := 10) hZ [0] rfl (J10 4)
set_option maxHeartbeats 4000000 in
set_option maxRecDepth 100000 in
theorem cV_setZero (l : Launch) (D : va_G) (tys : zT) (X : va_W) (LP : List Nat) (f : Nat → V3) (a0 : Nat) (h_a0 : a0 ∈ LP) : zM l D vwCl zNF zNM yV_setZero wsV_setZero { frames := 0, cells := 0, slots := 0, locals := 0 } [.ref a0] (X ++ PL LP f) tys (qV (fun w' tys' => ∃ f' : Nat → V3, X ++ PL LP f' = w' ∧ tys = tys' ∧ (True))) := by
  refine z_met (cc := bV_setZero) (maxL := 1) (ret := none) (isI := false) (own := RV) (by decide +kernel) rfl rfl (fun h => by cases h) (Nat.le_of_ble_eq_true rfl) (fun Z hZ => ?_)
  show Z 0 0 tys 0 [(0, .ref a0)] [] (X ++ PL LP f)
  refine z_aload_n (pc := 0) hZ 0 dV_setZero_0 rfl rfl ?_
  refine z_iconst (pc := 1) hZ 2 dV_setZero_1 (by decide) ?_
  refine z_pp0 (pc := 2) hZ h_a0 uc_V (zb fl_V_9) dV_setZero_2 (fun f2_0 ef2_0 => ?_)
  refine z_aload_n (pc := 5) hZ 0 dV_setZero_5 rfl rfl ?_
  refine z_lconst (pc := 6) hZ 0 dV_setZero_6 (by decide) ?_
  refine z_pp1 (pc := 7) hZ h_a0 uc_V (zb fl_V_15) dV_setZero_7 (fun f7_1 ef7_1 => ?_)
  refine z_aload_n (pc := 10) hZ 0 dV_setZero_10 rfl rfl ?_
  refine z_iconst (pc := 11) hZ 0 dV_setZero_11 (by decide) ?_
  refine z_pp2 (pc := 12) hZ h_a0 uc_V (zb fl_V_19) dV_setZero_12 (fun f12_2 ef12_2 => ?_)
  exact z_retv (pc := 15) hZ dV_setZero_15 rfl ⟨rfl, _, rfl, rfl, (by trivial)⟩
set_option maxHeartbeats 4000000 in
set_option maxRecDepth 100000 in
theorem cV_sizeOf (l : Launch) (D : va_G) (tys : zT) (w : va_W) (p0 : Int64) : zM l D vwCl zNF zNM yV_sizeOf wsV_sizeOf { frames := 0, cells := 0, slots := 0, locals := 0 } [.long p0] (w) tys (qL (fun r w' tys' => w = w' ∧ tys = tys' ∧ (True))) := by
  refine z_met (cc := bV_sizeOf) (maxL := 2) (ret := (some .long)) (isI := false) (own := RV) (by decide +kernel) rfl rfl (fun h => by cases h) (Nat.le_of_ble_eq_true rfl) (fun Z hZ => ?_)
  show Z 0 0 tys 0 [(0, .long p0)] [] (w)
  refine z_lload_n (pc := 0) hZ 0 dV_sizeOf_0 rfl rfl ?_
  refine z_lconst (pc := 1) hZ 0 dV_sizeOf_1 (by decide) ?_
  refine z_lif_ge (pc := 2) hZ 11 dV_sizeOf_2 dV_sizeOf_3 (by decide) (fun c3_1 => ?_) (fun c3_1 => ?_)
  · refine z_lload_n (pc := 11) hZ 0 dV_sizeOf_11 rfl rfl ?_
    exact z_retl (pc := 12) hZ dV_sizeOf_12 rfl ⟨_, rfl, rfl, rfl, (by trivial)⟩
  · refine z_lload_n (pc := 6) hZ 0 dV_sizeOf_6 rfl rfl ?_
    refine z_lneg (pc := 7) hZ dV_sizeOf_7 (fun v7_2 ev7_2 => ?_)
    refine z_goto (pc := 8) hZ 12 dV_sizeOf_8 (by decide) ?_
    exact z_retl (pc := 12) hZ dV_sizeOf_12 rfl ⟨_, rfl, rfl, rfl, (by trivial)⟩
set_option maxHeartbeats 4000000 in
set_option maxRecDepth 100000 in
theorem cV_dropBits (l : Launch) (D : va_G) (tys : zT) (w : va_W) (p0 : Int64) (p1 : Int32) (p2 : Int32) : zM l D vwCl zNF zNM yV_dropBits wsV_dropBits { frames := 0, cells := 0, slots := 0, locals := 0 } [.long p0, .int p1, .int p2] (w) tys (qL (fun r w' tys' => w = w' ∧ tys = tys' ∧ (True))) := by
  refine z_met (cc := bV_dropBits) (maxL := 11) (ret := (some .long)) (isI := false) (own := RV) (by decide +kernel) rfl rfl (fun h => by cases h) (Nat.le_of_ble_eq_true rfl) (fun Z hZ => ?_)
  show Z 0 0 tys 0 [(0, .long p0), (2, .int p1), (3, .int p2)] [] (w)
  refine z_iload_n (pc := 0) hZ 2 dV_dropBits_0 rfl rfl ?_
  refine z_bipush (pc := 1) hZ 63 dV_dropBits_1 (by decide) ?_
  refine z_icmp_le (pc := 3) hZ 8 dV_dropBits_3 (by decide) (fun c3_1 => ?_) (fun c3_1 => ?_)
  · refine z_lload_n (pc := 8) hZ 0 dV_dropBits_8 rfl rfl ?_
    refine z_iload_n (pc := 9) hZ 2 dV_dropBits_9 rfl rfl ?_
    refine z_lushr (pc := 10) hZ dV_dropBits_10 (fun v10_2 ev10_2 => ?_)
    refine z_lstore (pc := 11) hZ [(4, .long v10_2), (0, .long p0), (2, .int p1), (3, .int p2)] dV_dropBits_11 (by decide) rfl ?_
    refine z_lload_n (pc := 13) hZ 1 dV_dropBits_13 rfl rfl ?_
    refine z_lload (pc := 14) hZ 0 dV_dropBits_14 rfl ?_
    refine z_iload_n (pc := 16) hZ 3 dV_dropBits_16 rfl rfl ?_
    refine z_lshl (pc := 17) hZ dV_dropBits_17 (fun v17_3 ev17_3 => ?_)
    refine z_lsub (pc := 18) hZ dV_dropBits_18 (fun v18_4 ev18_4 => ?_)
    refine z_lstore (pc := 19) hZ [(6, .long v18_4), (4, .long v10_2), (0, .long p0), (2, .int p1), (3, .int p2)] dV_dropBits_19 (by decide) rfl ?_
    refine z_lconst (pc := 21) hZ 1 dV_dropBits_21 (by decide) ?_
    refine z_iload_n (pc := 22) hZ 4 dV_dropBits_22 rfl rfl ?_
    refine z_iconst (pc := 23) hZ 1 dV_dropBits_23 (by decide) ?_
    refine z_isub (pc := 24) hZ dV_dropBits_24 (fun v24_5 ev24_5 => ?_)
    refine z_lshl (pc := 25) hZ dV_dropBits_25 (fun v25_6 ev25_6 => ?_)
    refine z_lstore (pc := 26) hZ [(8, .long v25_6), (6, .long v18_4), (4, .long v10_2), (0, .long p0), (2, .int p1), (3, .int p2)] dV_dropBits_26 (by decide) rfl ?_
    refine z_lload (pc := 28) hZ 1 dV_dropBits_28 rfl ?_
    refine z_lload (pc := 30) hZ 0 dV_dropBits_30 rfl ?_
    have J62 : ∀ (s0_62 : Int32), Z 0 0 tys 62 [(4, .long v10_2)] [.int s0_62] (w) := by
      intro s0_62
      refine z_istore (pc := 62) hZ [(10, .int s0_62), (4, .long v10_2)] dV_dropBits_62 (by decide) rfl ?_
      refine z_iload (pc := 64) hZ 0 dV_dropBits_64 rfl ?_
      refine z_if_eq (pc := 66) hZ 76 dV_dropBits_66 (by decide) (fun c66_7 => ?_) (fun c66_7 => ?_)
      · refine z_lload (pc := 76) hZ 1 dV_dropBits_76 rfl ?_
        exact z_retl (pc := 78) hZ dV_dropBits_78 rfl ⟨_, rfl, rfl, rfl, (by trivial)⟩
      · refine z_lload (pc := 69) hZ 1 dV_dropBits_69 rfl ?_
        refine z_lconst (pc := 71) hZ 1 dV_dropBits_71 (by decide) ?_
        refine z_ladd (pc := 72) hZ dV_dropBits_72 (fun v72_8 ev72_8 => ?_)
        refine z_goto (pc := 73) hZ 78 dV_dropBits_73 (by decide) ?_
        exact z_retl (pc := 78) hZ dV_dropBits_78 rfl ⟨_, rfl, rfl, rfl, (by trivial)⟩
    have J57 : Z 0 0 tys 57 [(4, .long v10_2)] [] (w) := by
      refine z_iconst (pc := 57) hZ 1 dV_dropBits_57 (by decide) ?_
      refine z_goto (pc := 58) hZ 62 dV_dropBits_58 (by decide) ?_
      exact z_sub (pc := 62) hZ [0] rfl (J62 1)
    refine z_lif_gt (pc := 32) hZ 57 dV_dropBits_32 dV_dropBits_33 (by decide) (fun c33_9 => ?_) (fun c33_9 => ?_)
    · exact z_sub (pc := 57) hZ [2] rfl (J57 )
    · refine z_lload (pc := 36) hZ 1 dV_dropBits_36 rfl ?_
      refine z_lload (pc := 38) hZ 0 dV_dropBits_38 rfl ?_
      have J61 : Z 0 0 tys 61 [(4, .long v10_2)] [] (w) := by
        refine z_iconst (pc := 61) hZ 0 dV_dropBits_61 (by decide) ?_
        exact z_sub (pc := 62) hZ [0] rfl (J62 0)
      refine z_lif_ne (pc := 40) hZ 61 dV_dropBits_40 dV_dropBits_41 (by decide) (fun c41_10 => ?_) (fun c41_10 => ?_)
      · exact z_sub (pc := 61) hZ [2] rfl (J61 )
      · refine z_iload_n (pc := 44) hZ 4 dV_dropBits_44 rfl rfl ?_
        refine z_if_ne (pc := 45) hZ 57 dV_dropBits_45 (by decide) (fun c45_11 => ?_) (fun c45_11 => ?_)
        · exact z_sub (pc := 57) hZ [2] rfl (J57 )
        · refine z_lload (pc := 48) hZ 2 dV_dropBits_48 rfl ?_
          refine z_lconst (pc := 50) hZ 1 dV_dropBits_50 (by decide) ?_
          refine z_land (pc := 51) hZ dV_dropBits_51 (fun v51_12 ev51_12 => ?_)
          refine z_lconst (pc := 52) hZ 1 dV_dropBits_52 (by decide) ?_
          refine z_lif_ne (pc := 53) hZ 61 dV_dropBits_53 dV_dropBits_54 (by decide) (fun c54_13 => ?_) (fun c54_13 => ?_)
          · exact z_sub (pc := 61) hZ [2] rfl (J61 )
          · exact z_sub (pc := 57) hZ [2] rfl (J57 )
  · refine z_lconst (pc := 6) hZ 0 dV_dropBits_6 (by decide) ?_
    exact z_retl (pc := 7) hZ dV_dropBits_7 rfl ⟨_, rfl, rfl, rfl, (by trivial)⟩
set_option maxHeartbeats 4000000 in
set_option maxRecDepth 100000 in
theorem cV_setNearest (l : Launch) (D : va_G) (tys : zT) (X : va_W) (LP : List Nat) (f : Nat → V3) (a0 : Nat) (h_a0 : a0 ∈ LP) (p1 : Int32) (p2 : Int64) (p3 : Int32) (p4 : Int32) : zM l D vwCl zNF zNM yV_setNearest wsV_setNearest { frames := 2, cells := 0, slots := 0, locals := 43 } [.ref a0, .int p1, .long p2, .int p3, .int p4] (X ++ PL LP f) tys (qV (fun w' tys' => ∃ f' : Nat → V3, X ++ PL LP f' = w' ∧ tys = tys' ∧ (True))) := by
  refine z_met (cc := bV_setNearest) (maxL := 12) (ret := none) (isI := false) (own := RV) (by decide +kernel) rfl rfl (fun h => by cases h) (Nat.le_of_ble_eq_true rfl) (fun Z hZ => ?_)
  show Z 0 0 tys 0 [(0, .ref a0), (1, .int p1), (2, .long p2), (4, .int p3), (5, .int p4)] [] (X ++ PL LP f)
  refine z_bipush (pc := 0) hZ 64 dV_setNearest_0 (by decide) ?_
  refine z_lload_n (pc := 2) hZ 2 dV_setNearest_2 rfl rfl ?_
  refine z_callS (pc := 3) (As := [.long p2]) (rest := [.int 64]) hZ (cJL_numberOfLeadingZeros l D tys (X ++ PL LP f) p2) zyJL_numberOfLeadingZeros (z_goodS ml_V_30 st_JL_numberOfLeadingZeros in_JL co_JL_numberOfLeadingZeros) rfl rfl (by decide) rfl rfl (Nat.le_of_ble_eq_true rfl) ⟨Nat.zero_le _, Nat.zero_le _⟩ dV_setNearest_3 (z_ki (fun r3_1 w1 tys1 hp => ?_))
  obtain ⟨rfl, rfl, p3_1⟩ := hp
  refine z_isub (pc := 6) hZ dV_setNearest_6 (fun v6_2 ev6_2 => ?_)
  refine z_istore (pc := 7) hZ [(6, .int v6_2), (0, .ref a0), (1, .int p1), (2, .long p2), (4, .int p3), (5, .int p4)] dV_setNearest_7 (by decide) rfl ?_
  refine z_iload (pc := 9) hZ 5 dV_setNearest_9 rfl ?_
  refine z_iload (pc := 11) hZ 0 dV_setNearest_11 rfl ?_
  refine z_iadd (pc := 13) hZ dV_setNearest_13 (fun v13_3 ev13_3 => ?_)
  refine z_bipush (pc := 14) hZ 53 dV_setNearest_14 (by decide) ?_
  refine z_isub (pc := 16) hZ dV_setNearest_16 (fun v16_4 ev16_4 => ?_)
  refine z_sipush (pc := 17) hZ (-1074) dV_setNearest_17 (by decide) ?_
  refine z_mmax (pc := 20) hZ (zb ml_V_36) (zb st_JM_max) (zb in_Math) (zb co_JM_max) (by decide) (Nat.le_of_ble_eq_true rfl) (Nat.zero_le _) (Nat.zero_le _) dV_setNearest_20 (fun v20_5 ev20_5 => ?_)
  refine z_iload (pc := 23) hZ 5 dV_setNearest_23 rfl ?_
  refine z_isub (pc := 25) hZ dV_setNearest_25 (fun v25_6 ev25_6 => ?_)
  refine z_istore (pc := 26) hZ [(7, .int v25_6), (6, .int v6_2), (0, .ref a0), (1, .int p1), (2, .long p2), (4, .int p3), (5, .int p4)] dV_setNearest_26 (by decide) rfl ?_
  refine z_iload (pc := 28) hZ 0 dV_setNearest_28 rfl ?_
  have J45 : ∀ (s0_45 : Int64), Z 0 0 tys 45 [(7, .int v25_6), (0, .ref a0), (1, .int p1), (5, .int p4)] [.long s0_45] (X ++ PL LP f) := by
    intro s0_45
    refine z_lstore (pc := 45) hZ [(8, .long s0_45), (7, .int v25_6), (0, .ref a0), (1, .int p1), (5, .int p4)] dV_setNearest_45 (by decide) rfl ?_
    refine z_iload (pc := 47) hZ 1 dV_setNearest_47 rfl ?_
    have J62 : ∀ (s0_62 : Int32), Z 0 0 tys 62 [(8, .long s0_45), (0, .ref a0), (1, .int p1)] [.int s0_62] (X ++ PL LP f) := by
      intro s0_62
      refine z_istore (pc := 62) hZ [(10, .int s0_62), (8, .long s0_45), (0, .ref a0), (1, .int p1)] dV_setNearest_62 (by decide) rfl ?_
      refine z_lload (pc := 64) hZ 1 dV_setNearest_64 rfl ?_
      refine z_lconst (pc := 66) hZ 0 dV_setNearest_66 (by decide) ?_
      refine z_lif_ne (pc := 67) hZ 78 dV_setNearest_67 dV_setNearest_68 (by decide) (fun c68_7 => ?_) (fun c68_7 => ?_)
      · refine z_bipush (pc := 78) hZ 64 dV_setNearest_78 (by decide) ?_
        refine z_lload (pc := 80) hZ 1 dV_setNearest_80 rfl ?_
        refine z_callS (pc := 82) (As := [.long s0_45]) (rest := [.int 64]) hZ (cJL_numberOfLeadingZeros l D tys (X ++ PL LP f) s0_45) zyJL_numberOfLeadingZeros (z_goodS ml_V_30 st_JL_numberOfLeadingZeros in_JL co_JL_numberOfLeadingZeros) rfl rfl (by decide) rfl rfl (Nat.le_of_ble_eq_true rfl) ⟨Nat.zero_le _, Nat.zero_le _⟩ dV_setNearest_82 (z_ki (fun r82_8 w1 tys1 hp => ?_))
        obtain ⟨rfl, rfl, p82_8⟩ := hp
        refine z_isub (pc := 85) hZ dV_setNearest_85 (fun v85_9 ev85_9 => ?_)
        refine z_iload (pc := 86) hZ 0 dV_setNearest_86 rfl ?_
        refine z_iadd (pc := 88) hZ dV_setNearest_88 (fun v88_10 ev88_10 => ?_)
        refine z_sipush (pc := 89) hZ 1024 dV_setNearest_89 (by decide) ?_
        refine z_icmp_le (pc := 92) hZ 103 dV_setNearest_92 (by decide) (fun c92_11 => ?_) (fun c92_11 => ?_)
        · refine z_lload (pc := 103) hZ 1 dV_setNearest_103 rfl ?_
          refine z_callS (pc := 105) (As := [.long s0_45]) (rest := []) hZ (cJL_numberOfTrailingZeros l D tys (X ++ PL LP f) s0_45) zyJL_numberOfTrailingZeros (z_goodS ml_V_53 st_JL_numberOfTrailingZeros in_JL co_JL_numberOfTrailingZeros) rfl rfl (by decide) rfl rfl (Nat.le_of_ble_eq_true rfl) ⟨Nat.zero_le _, Nat.zero_le _⟩ dV_setNearest_105 (z_ki (fun r105_12 w1 tys1 hp => ?_))
          obtain ⟨rfl, rfl, p105_12⟩ := hp
          refine z_sipush (pc := 108) hZ 971 dV_setNearest_108 (by decide) ?_
          refine z_iload (pc := 111) hZ 0 dV_setNearest_111 rfl ?_
          refine z_isub (pc := 113) hZ dV_setNearest_113 (fun v113_13 ev113_13 => ?_)
          refine z_mmin (pc := 114) hZ (zb ml_V_56) (zb st_JM_min) (zb in_Math) (zb co_JM_min) (by decide) (Nat.le_of_ble_eq_true rfl) (Nat.zero_le _) (Nat.zero_le _) dV_setNearest_114 (fun v114_14 ev114_14 => ?_)
          refine z_istore (pc := 117) hZ [(11, .int v114_14), (10, .int s0_62), (8, .long s0_45), (0, .ref a0), (1, .int p1)] dV_setNearest_117 (by decide) rfl ?_
          refine z_iload (pc := 119) hZ 0 dV_setNearest_119 rfl ?_
          have J138 : ∀ (s0_138 : Int64), Z 0 0 tys 138 [(11, .int v114_14), (10, .int s0_62), (0, .ref a0), (1, .int p1)] [.long s0_138] (X ++ PL LP f) := by
            intro s0_138
            refine z_lstore (pc := 138) hZ [(8, .long s0_138), (11, .int v114_14), (10, .int s0_62), (0, .ref a0), (1, .int p1)] dV_setNearest_138 (by decide) rfl ?_
            refine z_aload_n (pc := 140) hZ 3 dV_setNearest_140 rfl rfl ?_
            refine z_iconst (pc := 141) hZ 2 dV_setNearest_141 (by decide) ?_
            refine z_pp0 (pc := 142) hZ h_a0 uc_V (zb fl_V_9) dV_setNearest_142 (fun f142_14 ef142_14 => ?_)
            refine z_aload_n (pc := 145) hZ 3 dV_setNearest_145 rfl rfl ?_
            refine z_iload_n (pc := 146) hZ 4 dV_setNearest_146 rfl rfl ?_
            have J158 : ∀ (s0_158 : Int64), Z 0 0 tys 158 [(11, .int v114_14), (10, .int s0_62), (0, .ref a0)] [.long s0_158, .ref a0] (X ++ PL LP f142_14) := by
              intro s0_158
              refine z_pp1 (pc := 158) hZ h_a0 uc_V (zb fl_V_15) dV_setNearest_158 (fun f158_15 ef158_15 => ?_)
              refine z_aload_n (pc := 161) hZ 2 dV_setNearest_161 rfl rfl ?_
              refine z_iload (pc := 162) hZ 1 dV_setNearest_162 rfl ?_
              refine z_iload (pc := 164) hZ 0 dV_setNearest_164 rfl ?_
              refine z_iadd (pc := 166) hZ dV_setNearest_166 (fun v166_17 ev166_17 => ?_)
              refine z_pp2 (pc := 167) hZ h_a0 uc_V (zb fl_V_19) dV_setNearest_167 (fun f167_17 ef167_17 => ?_)
              exact z_retv (pc := 170) hZ dV_setNearest_170 rfl ⟨rfl, _, rfl, rfl, (by trivial)⟩
            refine z_if_eq (pc := 147) hZ 156 dV_setNearest_147 (by decide) (fun c147_19 => ?_) (fun c147_19 => ?_)
            · refine z_lload (pc := 156) hZ 0 dV_setNearest_156 rfl ?_
              exact z_sub (pc := 158) hZ [1, 2, 3] rfl (J158 s0_138)
            · refine z_lload (pc := 150) hZ 0 dV_setNearest_150 rfl ?_
              refine z_lneg (pc := 152) hZ dV_setNearest_152 (fun v152_20 ev152_20 => ?_)
              refine z_goto (pc := 153) hZ 158 dV_setNearest_153 (by decide) ?_
              exact z_sub (pc := 158) hZ [1, 2, 3] rfl (J158 v152_20)
          refine z_if_lt (pc := 121) hZ 132 dV_setNearest_121 (by decide) (fun c121_21 => ?_) (fun c121_21 => ?_)
          · refine z_lload (pc := 132) hZ 2 dV_setNearest_132 rfl ?_
            refine z_iload (pc := 134) hZ 0 dV_setNearest_134 rfl ?_
            refine z_ineg (pc := 136) hZ dV_setNearest_136 (fun v136_22 ev136_22 => ?_)
            refine z_lshl (pc := 137) hZ dV_setNearest_137 (fun v137_23 ev137_23 => ?_)
            exact z_sub (pc := 138) hZ [0, 1, 3, 4] rfl (J138 v137_23)
          · refine z_lload (pc := 124) hZ 2 dV_setNearest_124 rfl ?_
            refine z_iload (pc := 126) hZ 0 dV_setNearest_126 rfl ?_
            refine z_lushr (pc := 128) hZ dV_setNearest_128 (fun v128_24 ev128_24 => ?_)
            refine z_goto (pc := 129) hZ 138 dV_setNearest_129 (by decide) ?_
            exact z_sub (pc := 138) hZ [0, 1, 3, 4] rfl (J138 v128_24)
        · refine z_aload_n (pc := 95) hZ 2 dV_setNearest_95 rfl rfl ?_
          refine z_iload_n (pc := 96) hZ 3 dV_setNearest_96 rfl rfl ?_
          obtain ⟨q97_25, hq97_25⟩ := zp_at (X := X) (f := f) h_a0
          refine z_callV (pc := 97) (As := [.int p1]) (rest := []) hZ (cV_setInfinity l D tys X LP f a0 h_a0 p1) zyV_setInfinity (z_goodV ml_V_49 im_V_setInfinity se_V_setInfinity in_V co_V_setInfinity) q97_25 hq97_25 rfl rfl rfl (by decide) rfl rfl (Nat.le_of_ble_eq_true rfl) ⟨Nat.zero_le _, Nat.zero_le _⟩ dV_setNearest_97 (z_kv (fun w1 tys1 hp => ?_))
          obtain ⟨f97_25, rfl, rfl, p97_25⟩ := hp
          refine z_goto (pc := 100) hZ 170 dV_setNearest_100 (by decide) ?_
          exact z_retv (pc := 170) hZ dV_setNearest_170 rfl ⟨rfl, _, rfl, rfl, (by trivial)⟩
      · refine z_aload_n (pc := 71) hZ 2 dV_setNearest_71 rfl rfl ?_
        obtain ⟨q72_26, hq72_26⟩ := zp_at (X := X) (f := f) h_a0
        refine z_callV (pc := 72) (As := []) (rest := []) hZ (cV_setZero l D tys X LP f a0 h_a0) zyV_setZero (z_goodV ml_V_46 im_V_setZero se_V_setZero in_V co_V_setZero) q72_26 hq72_26 rfl rfl rfl (by decide) rfl rfl (Nat.le_of_ble_eq_true rfl) ⟨Nat.zero_le _, Nat.zero_le _⟩ dV_setNearest_72 (z_kv (fun w1 tys1 hp => ?_))
        obtain ⟨f72_26, rfl, rfl, p72_26⟩ := hp
        refine z_goto (pc := 75) hZ 170 dV_setNearest_75 (by decide) ?_
        exact z_retv (pc := 170) hZ dV_setNearest_170 rfl ⟨rfl, _, rfl, rfl, (by trivial)⟩
    refine z_if_le (pc := 49) hZ 60 dV_setNearest_49 (by decide) (fun c49_27 => ?_) (fun c49_27 => ?_)
    · refine z_iload (pc := 60) hZ 4 dV_setNearest_60 rfl ?_
      exact z_sub (pc := 62) hZ [0, 2, 3] rfl (J62 p4)
    · refine z_iload (pc := 52) hZ 4 dV_setNearest_52 rfl ?_
      refine z_iload (pc := 54) hZ 1 dV_setNearest_54 rfl ?_
      refine z_iadd (pc := 56) hZ dV_setNearest_56 (fun v56_28 ev56_28 => ?_)
      refine z_goto (pc := 57) hZ 62 dV_setNearest_57 (by decide) ?_
      exact z_sub (pc := 62) hZ [0, 2, 3] rfl (J62 v56_28)
  refine z_if_le (pc := 30) hZ 44 dV_setNearest_30 (by decide) (fun c30_29 => ?_) (fun c30_29 => ?_)
  · refine z_lload_n (pc := 44) hZ 4 dV_setNearest_44 rfl rfl ?_
    exact z_sub (pc := 45) hZ [0, 2, 3, 6] rfl (J45 p2)
  · refine z_lload_n (pc := 33) hZ 4 dV_setNearest_33 rfl rfl ?_
    refine z_iload (pc := 34) hZ 5 dV_setNearest_34 rfl ?_
    refine z_iload (pc := 36) hZ 0 dV_setNearest_36 rfl ?_
    refine z_callS (pc := 38) (As := [.long p2, .int p3, .int v25_6]) (rest := []) hZ (cV_dropBits l D tys (X ++ PL LP f) p2 p3 v25_6) zyV_dropBits (z_goodS ml_V_42 st_V_dropBits in_V co_V_dropBits) rfl rfl (by decide) rfl rfl (Nat.le_of_ble_eq_true rfl) ⟨Nat.zero_le _, Nat.zero_le _⟩ dV_setNearest_38 (z_kl (fun r38_30 w1 tys1 hp => ?_))
    obtain ⟨rfl, rfl, p38_30⟩ := hp
    refine z_goto (pc := 41) hZ 45 dV_setNearest_41 (by decide) ?_
    exact z_sub (pc := 45) hZ [0, 2, 3, 6] rfl (J45 r38_30)
set_option maxHeartbeats 4000000 in
set_option maxRecDepth 100000 in
theorem cV_setReal (l : Launch) (D : va_G) (tys : zT) (X : va_W) (LP : List Nat) (f : Nat → V3) (a0 : Nat) (h_a0 : a0 ∈ LP) (p1 : Int64) (p2 : Int32) : zM l D vwCl zNF zNM yV_setReal wsV_setReal { frames := 3, cells := 0, slots := 0, locals := 74 } [.ref a0, .long p1, .int p2] (X ++ PL LP f) tys (qV (fun w' tys' => ∃ f' : Nat → V3, X ++ PL LP f' = w' ∧ tys = tys' ∧ (True))) := by
  refine z_met (cc := bV_setReal) (maxL := 4) (ret := none) (isI := false) (own := RV) (by decide +kernel) rfl rfl (fun h => by cases h) (Nat.le_of_ble_eq_true rfl) (fun Z hZ => ?_)
  show Z 0 0 tys 0 [(0, .ref a0), (1, .long p1), (3, .int p2)] [] (X ++ PL LP f)
  refine z_aload_n (pc := 0) hZ 0 dV_setReal_0 rfl rfl ?_
  refine z_lload_n (pc := 1) hZ 1 dV_setReal_1 rfl rfl ?_
  refine z_lconst (pc := 2) hZ 0 dV_setReal_2 (by decide) ?_
  have J12 : ∀ (s0_12 : Int32), Z 0 0 tys 12 [(1, .long p1), (3, .int p2)] [.int s0_12, .ref a0] (X ++ PL LP f) := by
    intro s0_12
    refine z_lload_n (pc := 12) hZ 0 dV_setReal_12 rfl rfl ?_
    refine z_callS (pc := 13) (As := [.long p1]) (rest := [.int s0_12, .ref a0]) hZ (cV_sizeOf l D tys (X ++ PL LP f) p1) zyV_sizeOf (z_goodS ml_V_22 st_V_sizeOf in_V co_V_sizeOf) rfl rfl (by decide) rfl rfl (Nat.le_of_ble_eq_true rfl) ⟨Nat.zero_le _, Nat.zero_le _⟩ dV_setReal_13 (z_kl (fun r13_1 w1 tys1 hp => ?_))
    obtain ⟨rfl, rfl, p13_1⟩ := hp
    refine z_iconst (pc := 16) hZ 0 dV_setReal_16 (by decide) ?_
    refine z_iload_n (pc := 17) hZ 1 dV_setReal_17 rfl rfl ?_
    obtain ⟨q18_2, hq18_2⟩ := zp_at (X := X) (f := f) h_a0
    refine z_callV (pc := 18) (As := [.int s0_12, .long r13_1, .int 0, .int p2]) (rest := []) hZ (cV_setNearest l D tys X LP f a0 h_a0 s0_12 r13_1 0 p2) zyV_setNearest (z_goodV ml_V_26 im_V_setNearest se_V_setNearest in_V co_V_setNearest) q18_2 hq18_2 rfl rfl rfl (by decide) rfl rfl (Nat.le_of_ble_eq_true rfl) ⟨Nat.zero_le _, Nat.zero_le _⟩ dV_setReal_18 (z_kv (fun w1 tys1 hp => ?_))
    obtain ⟨f18_2, rfl, rfl, p18_2⟩ := hp
    exact z_retv (pc := 21) hZ dV_setReal_21 rfl ⟨rfl, _, rfl, rfl, (by trivial)⟩
  refine z_lif_ge (pc := 3) hZ 11 dV_setReal_3 dV_setReal_4 (by decide) (fun c4_3 => ?_) (fun c4_3 => ?_)
  · refine z_iconst (pc := 11) hZ 0 dV_setReal_11 (by decide) ?_
    exact z_sub (pc := 12) hZ [1, 2] rfl (J12 0)
  · refine z_iconst (pc := 7) hZ 1 dV_setReal_7 (by decide) ?_
    refine z_goto (pc := 8) hZ 12 dV_setReal_8 (by decide) ?_
    exact z_sub (pc := 12) hZ [1, 2] rfl (J12 1)
set_option maxHeartbeats 4000000 in
set_option maxRecDepth 100000 in
theorem cV_size (l : Launch) (D : va_G) (tys : zT) (X : va_W) (LP : List Nat) (f : Nat → V3) (a0 : Nat) (h_a0 : a0 ∈ LP) : zM l D vwCl zNF zNM yV_size wsV_size { frames := 1, cells := 0, slots := 0, locals := 21 } [.ref a0] (X ++ PL LP f) tys (qL (fun r w' tys' => X ++ PL LP f = w' ∧ tys = tys' ∧ (True))) := by
  refine z_met (cc := bV_size) (maxL := 1) (ret := (some .long)) (isI := false) (own := RV) (by decide +kernel) rfl rfl (fun h => by cases h) (Nat.le_of_ble_eq_true rfl) (fun Z hZ => ?_)
  show Z 0 0 tys 0 [(0, .ref a0)] [] (X ++ PL LP f)
  refine z_aload_n (pc := 0) hZ 0 dV_size_0 rfl rfl ?_
  refine z_pg1 (pc := 1) hZ h_a0 uc_V (zb fl_V_15) dV_size_1 (fun v1_1 ev1_1 => ?_)
  refine z_callS (pc := 4) (As := [.long v1_1]) (rest := []) hZ (cV_sizeOf l D tys (X ++ PL LP f) v1_1) zyV_sizeOf (z_goodS ml_V_22 st_V_sizeOf in_V co_V_sizeOf) rfl rfl (by decide) rfl rfl (Nat.le_of_ble_eq_true rfl) ⟨Nat.zero_le _, Nat.zero_le _⟩ dV_size_4 (z_kl (fun r4_2 w1 tys1 hp => ?_))
  obtain ⟨rfl, rfl, p4_2⟩ := hp
  exact z_retl (pc := 7) hZ dV_size_7 rfl ⟨_, rfl, rfl, rfl, (by trivial)⟩
set_option maxHeartbeats 4000000 in
set_option maxRecDepth 100000 in
theorem cV_turnReal (l : Launch) (D : va_G) (tys : zT) (X : va_W) (LP : List Nat) (f : Nat → V3) (a0 : Nat) (h_a0 : a0 ∈ LP) : zM l D vwCl zNF zNM yV_turnReal wsV_turnReal { frames := 3, cells := 0, slots := 0, locals := 74 } [.ref a0] (X ++ PL LP f) tys (qV (fun w' tys' => ∃ f' : Nat → V3, X ++ PL LP f' = w' ∧ tys = tys' ∧ (True))) := by
  refine z_met (cc := bV_turnReal) (maxL := 1) (ret := none) (isI := false) (own := RV) (by decide +kernel) rfl rfl (fun h => by cases h) (Nat.le_of_ble_eq_true rfl) (fun Z hZ => ?_)
  show Z 0 0 tys 0 [(0, .ref a0)] [] (X ++ PL LP f)
  refine z_aload_n (pc := 0) hZ 0 dV_turnReal_0 rfl rfl ?_
  refine z_pg0 (pc := 1) hZ h_a0 uc_V (zb fl_V_9) dV_turnReal_1 (fun v1_1 ev1_1 => ?_)
  refine z_iconst (pc := 4) hZ 1 dV_turnReal_4 (by decide) ?_
  refine z_icmp_ne (pc := 5) hZ 32 dV_turnReal_5 (by decide) (fun c5_2 => ?_) (fun c5_2 => ?_)
  · exact z_retv (pc := 32) hZ dV_turnReal_32 rfl ⟨rfl, _, rfl, rfl, (by trivial)⟩
  · refine z_aload_n (pc := 8) hZ 0 dV_turnReal_8 rfl rfl ?_
    refine z_aload_n (pc := 9) hZ 0 dV_turnReal_9 rfl rfl ?_
    refine z_pg1 (pc := 10) hZ h_a0 uc_V (zb fl_V_15) dV_turnReal_10 (fun v10_3 ev10_3 => ?_)
    refine z_lconst (pc := 13) hZ 0 dV_turnReal_13 (by decide) ?_
    have J23 : ∀ (s0_23 : Int32), Z 0 0 tys 23 [(0, .ref a0)] [.int s0_23, .ref a0] (X ++ PL LP f) := by
      intro s0_23
      refine z_aload_n (pc := 23) hZ 0 dV_turnReal_23 rfl rfl ?_
      obtain ⟨q24_4, hq24_4⟩ := zp_at (X := X) (f := f) h_a0
      refine z_callV (pc := 24) (As := []) (rest := [.int s0_23, .ref a0]) hZ (cV_size l D tys X LP f a0 h_a0) zyV_size (z_goodV ml_V_59 im_V_size se_V_size in_V co_V_size) q24_4 hq24_4 rfl rfl rfl (by decide) rfl rfl (Nat.le_of_ble_eq_true rfl) ⟨Nat.zero_le _, Nat.zero_le _⟩ dV_turnReal_24 (z_kl (fun r24_4 w1 tys1 hp => ?_))
      obtain ⟨rfl, rfl, p24_4⟩ := hp
      refine z_iconst (pc := 27) hZ 0 dV_turnReal_27 (by decide) ?_
      refine z_iconst (pc := 28) hZ 0 dV_turnReal_28 (by decide) ?_
      obtain ⟨q29_5, hq29_5⟩ := zp_at (X := X) (f := f) h_a0
      refine z_callV (pc := 29) (As := [.int s0_23, .long r24_4, .int 0, .int 0]) (rest := []) hZ (cV_setNearest l D tys X LP f a0 h_a0 s0_23 r24_4 0 0) zyV_setNearest (z_goodV ml_V_26 im_V_setNearest se_V_setNearest in_V co_V_setNearest) q29_5 hq29_5 rfl rfl rfl (by decide) rfl rfl (Nat.le_of_ble_eq_true rfl) ⟨Nat.zero_le _, Nat.zero_le _⟩ dV_turnReal_29 (z_kv (fun w1 tys1 hp => ?_))
      obtain ⟨f29_5, rfl, rfl, p29_5⟩ := hp
      exact z_retv (pc := 32) hZ dV_turnReal_32 rfl ⟨rfl, _, rfl, rfl, (by trivial)⟩
    refine z_lif_ge (pc := 14) hZ 22 dV_turnReal_14 dV_turnReal_15 (by decide) (fun c15_6 => ?_) (fun c15_6 => ?_)
    · refine z_iconst (pc := 22) hZ 0 dV_turnReal_22 (by decide) ?_
      exact z_sub (pc := 23) hZ [0] rfl (J23 0)
    · refine z_iconst (pc := 18) hZ 1 dV_turnReal_18 (by decide) ?_
      refine z_goto (pc := 19) hZ 23 dV_turnReal_19 (by decide) ?_
      exact z_sub (pc := 23) hZ [0] rfl (J23 1)
set_option maxHeartbeats 4000000 in
set_option maxRecDepth 100000 in
theorem cV_isInfinite (l : Launch) (D : va_G) (tys : zT) (X : va_W) (LP : List Nat) (f : Nat → V3) (a0 : Nat) (h_a0 : a0 ∈ LP) : zM l D vwCl zNF zNM yV_isInfinite wsV_isInfinite { frames := 0, cells := 0, slots := 0, locals := 0 } [.ref a0] (X ++ PL LP f) tys (qI (fun r w' tys' => X ++ PL LP f = w' ∧ tys = tys' ∧ (True))) := by
  refine z_met (cc := bV_isInfinite) (maxL := 1) (ret := (some .boolean)) (isI := false) (own := RV) (by decide +kernel) rfl rfl (fun h => by cases h) (Nat.le_of_ble_eq_true rfl) (fun Z hZ => ?_)
  show Z 0 0 tys 0 [(0, .ref a0)] [] (X ++ PL LP f)
  refine z_aload_n (pc := 0) hZ 0 dV_isInfinite_0 rfl rfl ?_
  refine z_pg0 (pc := 1) hZ h_a0 uc_V (zb fl_V_9) dV_isInfinite_1 (fun v1_1 ev1_1 => ?_)
  refine z_iconst (pc := 4) hZ 3 dV_isInfinite_4 (by decide) ?_
  have J16 : Z 0 0 tys 16 [] [] (X ++ PL LP f) := by
    refine z_iconst (pc := 16) hZ 1 dV_isInfinite_16 (by decide) ?_
    refine z_goto (pc := 17) hZ 21 dV_isInfinite_17 (by decide) ?_
    exact z_reti (pc := 21) hZ dV_isInfinite_21 .boolean rfl rfl ⟨_, rfl, rfl, rfl, (by trivial)⟩
  refine z_icmp_eq (pc := 5) hZ 16 dV_isInfinite_5 (by decide) (fun c5_2 => ?_) (fun c5_2 => ?_)
  · exact z_sub (pc := 16) hZ [] rfl (J16 )
  · refine z_aload_n (pc := 8) hZ 0 dV_isInfinite_8 rfl rfl ?_
    refine z_pg0 (pc := 9) hZ h_a0 uc_V (zb fl_V_9) dV_isInfinite_9 (fun v9_3 ev9_3 => ?_)
    refine z_iconst (pc := 12) hZ 4 dV_isInfinite_12 (by decide) ?_
    refine z_icmp_ne (pc := 13) hZ 20 dV_isInfinite_13 (by decide) (fun c13_4 => ?_) (fun c13_4 => ?_)
    · refine z_iconst (pc := 20) hZ 0 dV_isInfinite_20 (by decide) ?_
      exact z_reti (pc := 21) hZ dV_isInfinite_21 .boolean rfl rfl ⟨_, rfl, rfl, rfl, (by trivial)⟩
    · exact z_sub (pc := 16) hZ [] rfl (J16 )
set_option maxHeartbeats 4000000 in
set_option maxRecDepth 100000 in
theorem cV_negate (l : Launch) (D : va_G) (tys : zT) (X : va_W) (LP : List Nat) (f : Nat → V3) (a0 : Nat) (h_a0 : a0 ∈ LP) : zM l D vwCl zNF zNM yV_negate wsV_negate { frames := 1, cells := 0, slots := 0, locals := 21 } [.ref a0] (X ++ PL LP f) tys (qV (fun w' tys' => ∃ f' : Nat → V3, X ++ PL LP f' = w' ∧ tys = tys' ∧ (True))) := by
  refine z_met (cc := bV_negate) (maxL := 1) (ret := none) (isI := false) (own := RV) (by decide +kernel) rfl rfl (fun h => by cases h) (Nat.le_of_ble_eq_true rfl) (fun Z hZ => ?_)
  show Z 0 0 tys 0 [(0, .ref a0)] [] (X ++ PL LP f)
  refine z_aload_n (pc := 0) hZ 0 dV_negate_0 rfl rfl ?_
  obtain ⟨q1_1, hq1_1⟩ := zp_at (X := X) (f := f) h_a0
  refine z_callV (pc := 1) (As := []) (rest := []) hZ (cV_isInfinite l D tys X LP f a0 h_a0) zyV_isInfinite (z_goodV ml_V_63 im_V_isInfinite se_V_isInfinite in_V co_V_isInfinite) q1_1 hq1_1 rfl rfl rfl (by decide) rfl rfl (Nat.le_of_ble_eq_true rfl) ⟨Nat.zero_le _, Nat.zero_le _⟩ dV_negate_1 (z_ki (fun r1_1 w1 tys1 hp => ?_))
  obtain ⟨rfl, rfl, p1_1⟩ := hp
  refine z_if_eq (pc := 4) hZ 27 dV_negate_4 (by decide) (fun c4_2 => ?_) (fun c4_2 => ?_)
  · refine z_aload_n (pc := 27) hZ 0 dV_negate_27 rfl rfl ?_
    refine z_aload_n (pc := 28) hZ 0 dV_negate_28 rfl rfl ?_
    refine z_pg1 (pc := 29) hZ h_a0 uc_V (zb fl_V_15) dV_negate_29 (fun v29_3 ev29_3 => ?_)
    refine z_lneg (pc := 32) hZ dV_negate_32 (fun v32_4 ev32_4 => ?_)
    refine z_pp1 (pc := 33) hZ h_a0 uc_V (zb fl_V_15) dV_negate_33 (fun f33_4 ef33_4 => ?_)
    exact z_retv (pc := 36) hZ dV_negate_36 rfl ⟨rfl, _, rfl, rfl, (by trivial)⟩
  · refine z_aload_n (pc := 7) hZ 0 dV_negate_7 rfl rfl ?_
    refine z_aload_n (pc := 8) hZ 0 dV_negate_8 rfl rfl ?_
    refine z_pg0 (pc := 9) hZ h_a0 uc_V (zb fl_V_9) dV_negate_9 (fun v9_6 ev9_6 => ?_)
    refine z_iconst (pc := 12) hZ 3 dV_negate_12 (by decide) ?_
    have J21 : ∀ (s0_21 : Int32), Z 0 0 tys 21 [] [.int s0_21, .ref a0] (X ++ PL LP f) := by
      intro s0_21
      obtain ⟨q21_7, hq21_7⟩ := zp_at (X := X) (f := f) h_a0
      refine z_callV (pc := 21) (As := [.int s0_21]) (rest := []) hZ (cV_setInfinity l D tys X LP f a0 h_a0 s0_21) zyV_setInfinity (z_goodV ml_V_49 im_V_setInfinity se_V_setInfinity in_V co_V_setInfinity) q21_7 hq21_7 rfl rfl rfl (by decide) rfl rfl (Nat.le_of_ble_eq_true rfl) ⟨Nat.zero_le _, Nat.zero_le _⟩ dV_negate_21 (z_kv (fun w1 tys1 hp => ?_))
      obtain ⟨f21_7, rfl, rfl, p21_7⟩ := hp
      refine z_goto (pc := 24) hZ 36 dV_negate_24 (by decide) ?_
      exact z_retv (pc := 36) hZ dV_negate_36 rfl ⟨rfl, _, rfl, rfl, (by trivial)⟩
    refine z_icmp_ne (pc := 13) hZ 20 dV_negate_13 (by decide) (fun c13_8 => ?_) (fun c13_8 => ?_)
    · refine z_iconst (pc := 20) hZ 0 dV_negate_20 (by decide) ?_
      exact z_sub (pc := 21) hZ [] rfl (J21 0)
    · refine z_iconst (pc := 16) hZ 1 dV_negate_16 (by decide) ?_
      refine z_goto (pc := 17) hZ 21 dV_negate_17 (by decide) ?_
      exact z_sub (pc := 21) hZ [] rfl (J21 1)
set_option maxHeartbeats 4000000 in
set_option maxRecDepth 100000 in
theorem cV_floor (l : Launch) (D : va_G) (tys : zT) (X : va_W) (LP : List Nat) (f : Nat → V3) (a0 : Nat) (h_a0 : a0 ∈ LP) : zM l D vwCl zNF zNM yV_floor wsV_floor { frames := 1, cells := 0, slots := 0, locals := 21 } [.ref a0] (X ++ PL LP f) tys (qL (fun r w' tys' => X ++ PL LP f = w' ∧ tys = tys' ∧ (True))) := by
  refine z_met (cc := bV_floor) (maxL := 1) (ret := (some .long)) (isI := false) (own := RV) (by decide +kernel) rfl rfl (fun h => by cases h) (Nat.le_of_ble_eq_true rfl) (fun Z hZ => ?_)
  show Z 0 0 tys 0 [(0, .ref a0)] [] (X ++ PL LP f)
  refine z_aload_n (pc := 0) hZ 0 dV_floor_0 rfl rfl ?_
  refine z_pg2 (pc := 1) hZ h_a0 uc_V (zb fl_V_19) dV_floor_1 (fun v1_1 ev1_1 => ?_)
  refine z_if_ge (pc := 4) hZ 25 dV_floor_4 (by decide) (fun c4_2 => ?_) (fun c4_2 => ?_)
  · refine z_aload_n (pc := 25) hZ 0 dV_floor_25 rfl rfl ?_
    refine z_pg1 (pc := 26) hZ h_a0 uc_V (zb fl_V_15) dV_floor_26 (fun v26_3 ev26_3 => ?_)
    refine z_aload_n (pc := 29) hZ 0 dV_floor_29 rfl rfl ?_
    refine z_pg2 (pc := 30) hZ h_a0 uc_V (zb fl_V_19) dV_floor_30 (fun v30_4 ev30_4 => ?_)
    refine z_lshl (pc := 33) hZ dV_floor_33 (fun v33_5 ev33_5 => ?_)
    exact z_retl (pc := 34) hZ dV_floor_34 rfl ⟨_, rfl, rfl, rfl, (by trivial)⟩
  · refine z_aload_n (pc := 7) hZ 0 dV_floor_7 rfl rfl ?_
    refine z_pg1 (pc := 8) hZ h_a0 uc_V (zb fl_V_15) dV_floor_8 (fun v8_6 ev8_6 => ?_)
    refine z_aload_n (pc := 11) hZ 0 dV_floor_11 rfl rfl ?_
    refine z_pg2 (pc := 12) hZ h_a0 uc_V (zb fl_V_19) dV_floor_12 (fun v12_7 ev12_7 => ?_)
    refine z_ineg (pc := 15) hZ dV_floor_15 (fun v15_8 ev15_8 => ?_)
    refine z_bipush (pc := 16) hZ 63 dV_floor_16 (by decide) ?_
    refine z_mmin (pc := 18) hZ (zb ml_V_56) (zb st_JM_min) (zb in_Math) (zb co_JM_min) (by decide) (Nat.le_of_ble_eq_true rfl) (Nat.zero_le _) (Nat.zero_le _) dV_floor_18 (fun v18_9 ev18_9 => ?_)
    refine z_lshr (pc := 21) hZ dV_floor_21 (fun v21_10 ev21_10 => ?_)
    refine z_goto (pc := 22) hZ 34 dV_floor_22 (by decide) ?_
    exact z_retl (pc := 34) hZ dV_floor_34 rfl ⟨_, rfl, rfl, rfl, (by trivial)⟩
set_option maxHeartbeats 4000000 in
set_option maxRecDepth 100000 in
theorem cV_roundDown (l : Launch) (D : va_G) (tys : zT) (X : va_W) (LP : List Nat) (f : Nat → V3) (a0 : Nat) (h_a0 : a0 ∈ LP) : zM l D vwCl zNF zNM yV_roundDown wsV_roundDown { frames := 4, cells := 0, slots := 0, locals := 97 } [.ref a0] (X ++ PL LP f) tys (qV (fun w' tys' => ∃ f' : Nat → V3, X ++ PL LP f' = w' ∧ tys = tys' ∧ (True))) := by
  refine z_met (cc := bV_roundDown) (maxL := 1) (ret := none) (isI := false) (own := RV) (by decide +kernel) rfl rfl (fun h => by cases h) (Nat.le_of_ble_eq_true rfl) (fun Z hZ => ?_)
  show Z 0 0 tys 0 [(0, .ref a0)] [] (X ++ PL LP f)
  refine z_aload_n (pc := 0) hZ 0 dV_roundDown_0 rfl rfl ?_
  refine z_pg0 (pc := 1) hZ h_a0 uc_V (zb fl_V_9) dV_roundDown_1 (fun v1_1 ev1_1 => ?_)
  refine z_iconst (pc := 4) hZ 2 dV_roundDown_4 (by decide) ?_
  refine z_icmp_ne (pc := 5) hZ 24 dV_roundDown_5 (by decide) (fun c5_2 => ?_) (fun c5_2 => ?_)
  · exact z_retv (pc := 24) hZ dV_roundDown_24 rfl ⟨rfl, _, rfl, rfl, (by trivial)⟩
  · refine z_aload_n (pc := 8) hZ 0 dV_roundDown_8 rfl rfl ?_
    refine z_pg2 (pc := 9) hZ h_a0 uc_V (zb fl_V_19) dV_roundDown_9 (fun v9_3 ev9_3 => ?_)
    refine z_if_ge (pc := 12) hZ 24 dV_roundDown_12 (by decide) (fun c12_4 => ?_) (fun c12_4 => ?_)
    · exact z_retv (pc := 24) hZ dV_roundDown_24 rfl ⟨rfl, _, rfl, rfl, (by trivial)⟩
    · refine z_aload_n (pc := 15) hZ 0 dV_roundDown_15 rfl rfl ?_
      refine z_aload_n (pc := 16) hZ 0 dV_roundDown_16 rfl rfl ?_
      obtain ⟨q17_5, hq17_5⟩ := zp_at (X := X) (f := f) h_a0
      refine z_callV (pc := 17) (As := []) (rest := [.ref a0]) hZ (cV_floor l D tys X LP f a0 h_a0) zyV_floor (z_goodV ml_V_67 im_V_floor se_V_floor in_V co_V_floor) q17_5 hq17_5 rfl rfl rfl (by decide) rfl rfl (Nat.le_of_ble_eq_true rfl) ⟨Nat.zero_le _, Nat.zero_le _⟩ dV_roundDown_17 (z_kl (fun r17_5 w1 tys1 hp => ?_))
      obtain ⟨rfl, rfl, p17_5⟩ := hp
      refine z_iconst (pc := 20) hZ 0 dV_roundDown_20 (by decide) ?_
      obtain ⟨q21_6, hq21_6⟩ := zp_at (X := X) (f := f) h_a0
      refine z_callV (pc := 21) (As := [.long r17_5, .int 0]) (rest := []) hZ (cV_setReal l D tys X LP f a0 h_a0 r17_5 0) zyV_setReal (z_goodV ml_V_70 im_V_setReal se_V_setReal in_V co_V_setReal) q21_6 hq21_6 rfl rfl rfl (by decide) rfl rfl (Nat.le_of_ble_eq_true rfl) ⟨Nat.zero_le _, Nat.zero_le _⟩ dV_roundDown_21 (z_kv (fun w1 tys1 hp => ?_))
      obtain ⟨f21_6, rfl, rfl, p21_6⟩ := hp
      exact z_retv (pc := 24) hZ dV_roundDown_24 rfl ⟨rfl, _, rfl, rfl, (by trivial)⟩
set_option maxHeartbeats 4000000 in
set_option maxRecDepth 100000 in
theorem cV_countsAsWhole (l : Launch) (D : va_G) (tys : zT) (X : va_W) (LP : List Nat) (f : Nat → V3) (a0 : Nat) (h_a0 : a0 ∈ LP) : zM l D vwCl zNF zNM yV_countsAsWhole wsV_countsAsWhole { frames := 0, cells := 0, slots := 0, locals := 0 } [.ref a0] (X ++ PL LP f) tys (qI (fun r w' tys' => X ++ PL LP f = w' ∧ tys = tys' ∧ (True))) := by
  refine z_met (cc := bV_countsAsWhole) (maxL := 1) (ret := (some .boolean)) (isI := false) (own := RV) (by decide +kernel) rfl rfl (fun h => by cases h) (Nat.le_of_ble_eq_true rfl) (fun Z hZ => ?_)
  show Z 0 0 tys 0 [(0, .ref a0)] [] (X ++ PL LP f)
  refine z_aload_n (pc := 0) hZ 0 dV_countsAsWhole_0 rfl rfl ?_
  refine z_pg0 (pc := 1) hZ h_a0 uc_V (zb fl_V_9) dV_countsAsWhole_1 (fun v1_1 ev1_1 => ?_)
  refine z_iconst (pc := 4) hZ 2 dV_countsAsWhole_4 (by decide) ?_
  refine z_icmp_eq (pc := 5) hZ 22 dV_countsAsWhole_5 (by decide) (fun c5_2 => ?_) (fun c5_2 => ?_)
  · refine z_aload_n (pc := 22) hZ 0 dV_countsAsWhole_22 rfl rfl ?_
    refine z_pg2 (pc := 23) hZ h_a0 uc_V (zb fl_V_19) dV_countsAsWhole_23 (fun v23_3 ev23_3 => ?_)
    refine z_if_lt (pc := 26) hZ 64 dV_countsAsWhole_26 (by decide) (fun c26_4 => ?_) (fun c26_4 => ?_)
    · refine z_iconst (pc := 64) hZ 0 dV_countsAsWhole_64 (by decide) ?_
      exact z_reti (pc := 65) hZ dV_countsAsWhole_65 .boolean rfl rfl ⟨_, rfl, rfl, rfl, (by trivial)⟩
    · refine z_aload_n (pc := 29) hZ 0 dV_countsAsWhole_29 rfl rfl ?_
      refine z_pg2 (pc := 30) hZ h_a0 uc_V (zb fl_V_19) dV_countsAsWhole_30 (fun v30_5 ev30_5 => ?_)
      refine z_bipush (pc := 33) hZ 63 dV_countsAsWhole_33 (by decide) ?_
      refine z_icmp_gt (pc := 35) hZ 64 dV_countsAsWhole_35 (by decide) (fun c35_6 => ?_) (fun c35_6 => ?_)
      · refine z_iconst (pc := 64) hZ 0 dV_countsAsWhole_64 (by decide) ?_
        exact z_reti (pc := 65) hZ dV_countsAsWhole_65 .boolean rfl rfl ⟨_, rfl, rfl, rfl, (by trivial)⟩
      · refine z_aload_n (pc := 38) hZ 0 dV_countsAsWhole_38 rfl rfl ?_
        refine z_pg1 (pc := 39) hZ h_a0 uc_V (zb fl_V_15) dV_countsAsWhole_39 (fun v39_7 ev39_7 => ?_)
        refine z_aload_n (pc := 42) hZ 0 dV_countsAsWhole_42 rfl rfl ?_
        refine z_pg2 (pc := 43) hZ h_a0 uc_V (zb fl_V_19) dV_countsAsWhole_43 (fun v43_8 ev43_8 => ?_)
        refine z_lshl (pc := 46) hZ dV_countsAsWhole_46 (fun v46_9 ev46_9 => ?_)
        refine z_aload_n (pc := 47) hZ 0 dV_countsAsWhole_47 rfl rfl ?_
        refine z_pg2 (pc := 48) hZ h_a0 uc_V (zb fl_V_19) dV_countsAsWhole_48 (fun v48_10 ev48_10 => ?_)
        refine z_lshr (pc := 51) hZ dV_countsAsWhole_51 (fun v51_11 ev51_11 => ?_)
        refine z_aload_n (pc := 52) hZ 0 dV_countsAsWhole_52 rfl rfl ?_
        refine z_pg1 (pc := 53) hZ h_a0 uc_V (zb fl_V_15) dV_countsAsWhole_53 (fun v53_12 ev53_12 => ?_)
        refine z_lif_ne (pc := 56) hZ 64 dV_countsAsWhole_56 dV_countsAsWhole_57 (by decide) (fun c57_13 => ?_) (fun c57_13 => ?_)
        · refine z_iconst (pc := 64) hZ 0 dV_countsAsWhole_64 (by decide) ?_
          exact z_reti (pc := 65) hZ dV_countsAsWhole_65 .boolean rfl rfl ⟨_, rfl, rfl, rfl, (by trivial)⟩
        · refine z_iconst (pc := 60) hZ 1 dV_countsAsWhole_60 (by decide) ?_
          refine z_goto (pc := 61) hZ 65 dV_countsAsWhole_61 (by decide) ?_
          exact z_reti (pc := 65) hZ dV_countsAsWhole_65 .boolean rfl rfl ⟨_, rfl, rfl, rfl, (by trivial)⟩
  · refine z_aload_n (pc := 8) hZ 0 dV_countsAsWhole_8 rfl rfl ?_
    refine z_pg0 (pc := 9) hZ h_a0 uc_V (zb fl_V_9) dV_countsAsWhole_9 (fun v9_14 ev9_14 => ?_)
    refine z_iconst (pc := 12) hZ 1 dV_countsAsWhole_12 (by decide) ?_
    refine z_icmp_ne (pc := 13) hZ 20 dV_countsAsWhole_13 (by decide) (fun c13_15 => ?_) (fun c13_15 => ?_)
    · refine z_iconst (pc := 20) hZ 0 dV_countsAsWhole_20 (by decide) ?_
      exact z_reti (pc := 21) hZ dV_countsAsWhole_21 .boolean rfl rfl ⟨_, rfl, rfl, rfl, (by trivial)⟩
    · refine z_iconst (pc := 16) hZ 1 dV_countsAsWhole_16 (by decide) ?_
      refine z_goto (pc := 17) hZ 21 dV_countsAsWhole_17 (by decide) ?_
      exact z_reti (pc := 21) hZ dV_countsAsWhole_21 .boolean rfl rfl ⟨_, rfl, rfl, rfl, (by trivial)⟩
set_option maxHeartbeats 4000000 in
set_option maxRecDepth 100000 in
theorem cV_asWhole (l : Launch) (D : va_G) (tys : zT) (X : va_W) (LP : List Nat) (f : Nat → V3) (a0 : Nat) (h_a0 : a0 ∈ LP) : zM l D vwCl zNF zNM yV_asWhole wsV_asWhole { frames := 0, cells := 0, slots := 0, locals := 0 } [.ref a0] (X ++ PL LP f) tys (qL (fun r w' tys' => X ++ PL LP f = w' ∧ tys = tys' ∧ (True))) := by
  refine z_met (cc := bV_asWhole) (maxL := 1) (ret := (some .long)) (isI := false) (own := RV) (by decide +kernel) rfl rfl (fun h => by cases h) (Nat.le_of_ble_eq_true rfl) (fun Z hZ => ?_)
  show Z 0 0 tys 0 [(0, .ref a0)] [] (X ++ PL LP f)
  refine z_aload_n (pc := 0) hZ 0 dV_asWhole_0 rfl rfl ?_
  refine z_pg1 (pc := 1) hZ h_a0 uc_V (zb fl_V_15) dV_asWhole_1 (fun v1_1 ev1_1 => ?_)
  refine z_aload_n (pc := 4) hZ 0 dV_asWhole_4 rfl rfl ?_
  refine z_pg2 (pc := 5) hZ h_a0 uc_V (zb fl_V_19) dV_asWhole_5 (fun v5_2 ev5_2 => ?_)
  refine z_lshl (pc := 8) hZ dV_asWhole_8 (fun v8_3 ev8_3 => ?_)
  exact z_retl (pc := 9) hZ dV_asWhole_9 rfl ⟨_, rfl, rfl, rfl, (by trivial)⟩
set_option maxHeartbeats 4000000 in
set_option maxRecDepth 100000 in
theorem cV_sign (l : Launch) (D : va_G) (tys : zT) (X : va_W) (LP : List Nat) (f : Nat → V3) (a0 : Nat) (h_a0 : a0 ∈ LP) : zM l D vwCl zNF zNM yV_sign wsV_sign { frames := 1, cells := 0, slots := 0, locals := 21 } [.ref a0] (X ++ PL LP f) tys (qI (fun r w' tys' => X ++ PL LP f = w' ∧ tys = tys' ∧ (True))) := by
  refine z_met (cc := bV_sign) (maxL := 1) (ret := (some .int)) (isI := false) (own := RV) (by decide +kernel) rfl rfl (fun h => by cases h) (Nat.le_of_ble_eq_true rfl) (fun Z hZ => ?_)
  show Z 0 0 tys 0 [(0, .ref a0)] [] (X ++ PL LP f)
  refine z_aload_n (pc := 0) hZ 0 dV_sign_0 rfl rfl ?_
  obtain ⟨q1_1, hq1_1⟩ := zp_at (X := X) (f := f) h_a0
  refine z_callV (pc := 1) (As := []) (rest := []) hZ (cV_isInfinite l D tys X LP f a0 h_a0) zyV_isInfinite (z_goodV ml_V_63 im_V_isInfinite se_V_isInfinite in_V co_V_isInfinite) q1_1 hq1_1 rfl rfl rfl (by decide) rfl rfl (Nat.le_of_ble_eq_true rfl) ⟨Nat.zero_le _, Nat.zero_le _⟩ dV_sign_1 (z_ki (fun r1_1 w1 tys1 hp => ?_))
  obtain ⟨rfl, rfl, p1_1⟩ := hp
  refine z_if_eq (pc := 4) hZ 21 dV_sign_4 (by decide) (fun c4_2 => ?_) (fun c4_2 => ?_)
  · refine z_aload_n (pc := 21) hZ 0 dV_sign_21 rfl rfl ?_
    refine z_pg1 (pc := 22) hZ h_a0 uc_V (zb fl_V_15) dV_sign_22 (fun v22_3 ev22_3 => ?_)
    refine z_callS (pc := 25) (As := [.long v22_3]) (rest := []) hZ (cJL_signum l D tys (X ++ PL LP f) v22_3) zyJL_signum (z_goodS ml_V_74 st_JL_signum in_JL co_JL_signum) rfl rfl (by decide) rfl rfl (Nat.le_of_ble_eq_true rfl) ⟨Nat.zero_le _, Nat.zero_le _⟩ dV_sign_25 (z_ki (fun r25_4 w1 tys1 hp => ?_))
    obtain ⟨rfl, rfl, p25_4⟩ := hp
    exact z_reti (pc := 28) hZ dV_sign_28 .int rfl rfl ⟨_, rfl, rfl, rfl, (by trivial)⟩
  · refine z_aload_n (pc := 7) hZ 0 dV_sign_7 rfl rfl ?_
    refine z_pg0 (pc := 8) hZ h_a0 uc_V (zb fl_V_9) dV_sign_8 (fun v8_5 ev8_5 => ?_)
    refine z_iconst (pc := 11) hZ 3 dV_sign_11 (by decide) ?_
    refine z_icmp_ne (pc := 12) hZ 19 dV_sign_12 (by decide) (fun c12_6 => ?_) (fun c12_6 => ?_)
    · refine z_iconst (pc := 19) hZ (-1) dV_sign_19 (by decide) ?_
      exact z_reti (pc := 20) hZ dV_sign_20 .int rfl rfl ⟨_, rfl, rfl, rfl, (by trivial)⟩
    · refine z_iconst (pc := 15) hZ 1 dV_sign_15 (by decide) ?_
      refine z_goto (pc := 16) hZ 20 dV_sign_16 (by decide) ?_
      exact z_reti (pc := 20) hZ dV_sign_20 .int rfl rfl ⟨_, rfl, rfl, rfl, (by trivial)⟩
end
section
set_option maxHeartbeats 4000000 in
set_option maxRecDepth 100000 in
theorem cO_ofSizes (l : Launch) (D : va_G) (tys : zT) (X : va_W) (LP : List Nat) (f : Nat → V3) (a0 : Nat) (h_a0 : a0 ∈ LP) (a1 : Nat) (h_a1 : a1 ∈ LP) : zM l D vwCl zNF zNM yO_ofSizes wsO_ofSizes { frames := 2, cells := 0, slots := 0, locals := 43 } [.ref a0, .ref a1] (X ++ PL LP f) tys (qI (fun r w' tys' => X ++ PL LP f = w' ∧ tys = tys' ∧ (True))) := by
  refine z_met (cc := bO_ofSizes) (maxL := 6) (ret := (some .int)) (isI := false) (own := RO) (by decide +kernel) rfl rfl (fun h => by cases h) (Nat.le_of_ble_eq_true rfl) (fun Z hZ => ?_)
  show Z 0 0 tys 0 [(0, .ref a0), (1, .ref a1)] [] (X ++ PL LP f)
  refine z_aload_n (pc := 0) hZ 0 dO_ofSizes_0 rfl rfl ?_
  obtain ⟨q1_1, hq1_1⟩ := zp_at (X := X) (f := f) h_a0
  refine z_callVN (pc := 1) (As := []) (rest := []) hZ (cV_size l D tys X LP f a0 h_a0) zyV_size (z_good co_V_size) nl_O_68 (zb in_V) (zb im_V_size) (zb se_V_size) q1_1 hq1_1 rfl rfl rfl (by decide) rfl rfl (Nat.le_of_ble_eq_true rfl) ⟨Nat.zero_le _, Nat.zero_le _⟩ dO_ofSizes_1 (z_kl (fun r1_1 w1 tys1 hp => ?_))
  obtain ⟨rfl, rfl, p1_1⟩ := hp
  refine z_callS (pc := 4) (As := [.long r1_1]) (rest := []) hZ (cJL_numberOfLeadingZeros l D tys (X ++ PL LP f) r1_1) zyJL_numberOfLeadingZeros (z_goodS ml_O_71 st_JL_numberOfLeadingZeros in_JL co_JL_numberOfLeadingZeros) rfl rfl (by decide) rfl rfl (Nat.le_of_ble_eq_true rfl) ⟨Nat.zero_le _, Nat.zero_le _⟩ dO_ofSizes_4 (z_ki (fun r4_2 w1 tys1 hp => ?_))
  obtain ⟨rfl, rfl, p4_2⟩ := hp
  refine z_iconst (pc := 7) hZ 1 dO_ofSizes_7 (by decide) ?_
  refine z_isub (pc := 8) hZ dO_ofSizes_8 (fun v8_3 ev8_3 => ?_)
  refine z_istore_n (pc := 9) hZ [(2, .int v8_3), (0, .ref a0), (1, .ref a1)] dO_ofSizes_9 rfl (by decide) rfl ?_
  refine z_aload_n (pc := 10) hZ 2 dO_ofSizes_10 rfl rfl ?_
  obtain ⟨q11_4, hq11_4⟩ := zp_at (X := X) (f := f) h_a1
  refine z_callVN (pc := 11) (As := []) (rest := []) hZ (cV_size l D tys X LP f a1 h_a1) zyV_size (z_good co_V_size) nl_O_68 (zb in_V) (zb im_V_size) (zb se_V_size) q11_4 hq11_4 rfl rfl rfl (by decide) rfl rfl (Nat.le_of_ble_eq_true rfl) ⟨Nat.zero_le _, Nat.zero_le _⟩ dO_ofSizes_11 (z_kl (fun r11_4 w1 tys1 hp => ?_))
  obtain ⟨rfl, rfl, p11_4⟩ := hp
  refine z_callS (pc := 14) (As := [.long r11_4]) (rest := []) hZ (cJL_numberOfLeadingZeros l D tys (X ++ PL LP f) r11_4) zyJL_numberOfLeadingZeros (z_goodS ml_O_71 st_JL_numberOfLeadingZeros in_JL co_JL_numberOfLeadingZeros) rfl rfl (by decide) rfl rfl (Nat.le_of_ble_eq_true rfl) ⟨Nat.zero_le _, Nat.zero_le _⟩ dO_ofSizes_14 (z_ki (fun r14_5 w1 tys1 hp => ?_))
  obtain ⟨rfl, rfl, p14_5⟩ := hp
  refine z_iconst (pc := 17) hZ 1 dO_ofSizes_17 (by decide) ?_
  refine z_isub (pc := 18) hZ dO_ofSizes_18 (fun v18_6 ev18_6 => ?_)
  refine z_istore_n (pc := 19) hZ [(3, .int v18_6), (2, .int v8_3), (0, .ref a0), (1, .ref a1)] dO_ofSizes_19 rfl (by decide) rfl ?_
  refine z_aload_n (pc := 20) hZ 2 dO_ofSizes_20 rfl rfl ?_
  refine z_pg2N (pc := 21) hZ h_a0 uc_V nf_O_55 dO_ofSizes_21 (fun v21_7 ev21_7 => ?_)
  refine z_iload_n (pc := 24) hZ 1 dO_ofSizes_24 rfl rfl ?_
  refine z_isub (pc := 25) hZ dO_ofSizes_25 (fun v25_8 ev25_8 => ?_)
  refine z_istore (pc := 26) hZ [(4, .int v25_8), (3, .int v18_6), (2, .int v8_3), (0, .ref a0), (1, .ref a1)] dO_ofSizes_26 (by decide) rfl ?_
  refine z_aload_n (pc := 28) hZ 4 dO_ofSizes_28 rfl rfl ?_
  refine z_pg2N (pc := 29) hZ h_a1 uc_V nf_O_55 dO_ofSizes_29 (fun v29_9 ev29_9 => ?_)
  refine z_iload_n (pc := 32) hZ 1 dO_ofSizes_32 rfl rfl ?_
  refine z_isub (pc := 33) hZ dO_ofSizes_33 (fun v33_10 ev33_10 => ?_)
  refine z_istore (pc := 34) hZ [(5, .int v33_10), (4, .int v25_8), (3, .int v18_6), (2, .int v8_3), (0, .ref a0), (1, .ref a1)] dO_ofSizes_34 (by decide) rfl ?_
  refine z_iload (pc := 36) hZ 1 dO_ofSizes_36 rfl ?_
  refine z_iload (pc := 38) hZ 0 dO_ofSizes_38 rfl ?_
  refine z_icmp_eq (pc := 40) hZ 51 dO_ofSizes_40 (by decide) (fun c40_11 => ?_) (fun c40_11 => ?_)
  · refine z_aload_n (pc := 51) hZ 4 dO_ofSizes_51 rfl rfl ?_
    obtain ⟨q52_12, hq52_12⟩ := zp_at (X := X) (f := f) h_a0
    refine z_callVN (pc := 52) (As := []) (rest := []) hZ (cV_size l D tys X LP f a0 h_a0) zyV_size (z_good co_V_size) nl_O_68 (zb in_V) (zb im_V_size) (zb se_V_size) q52_12 hq52_12 rfl rfl rfl (by decide) rfl rfl (Nat.le_of_ble_eq_true rfl) ⟨Nat.zero_le _, Nat.zero_le _⟩ dO_ofSizes_52 (z_kl (fun r52_12 w1 tys1 hp => ?_))
    obtain ⟨rfl, rfl, p52_12⟩ := hp
    refine z_iload_n (pc := 55) hZ 3 dO_ofSizes_55 rfl rfl ?_
    refine z_lshl (pc := 56) hZ dO_ofSizes_56 (fun v56_13 ev56_13 => ?_)
    refine z_aload_n (pc := 57) hZ 5 dO_ofSizes_57 rfl rfl ?_
    obtain ⟨q58_14, hq58_14⟩ := zp_at (X := X) (f := f) h_a1
    refine z_callVN (pc := 58) (As := []) (rest := [.long v56_13]) hZ (cV_size l D tys X LP f a1 h_a1) zyV_size (z_good co_V_size) nl_O_68 (zb in_V) (zb im_V_size) (zb se_V_size) q58_14 hq58_14 rfl rfl rfl (by decide) rfl rfl (Nat.le_of_ble_eq_true rfl) ⟨Nat.zero_le _, Nat.zero_le _⟩ dO_ofSizes_58 (z_kl (fun r58_14 w1 tys1 hp => ?_))
    obtain ⟨rfl, rfl, p58_14⟩ := hp
    refine z_iload_n (pc := 61) hZ 2 dO_ofSizes_61 rfl rfl ?_
    refine z_lshl (pc := 62) hZ dO_ofSizes_62 (fun v62_15 ev62_15 => ?_)
    refine z_callS (pc := 63) (As := [.long v56_13, .long v62_15]) (rest := []) hZ (cJL_compare l D tys (X ++ PL LP f) v56_13 v62_15) zyJL_compare (z_goodS ml_O_39 st_JL_compare in_JL co_JL_compare) rfl rfl (by decide) rfl rfl (Nat.le_of_ble_eq_true rfl) ⟨Nat.zero_le _, Nat.zero_le _⟩ dO_ofSizes_63 (z_ki (fun r63_16 w1 tys1 hp => ?_))
    obtain ⟨rfl, rfl, p63_16⟩ := hp
    exact z_reti (pc := 66) hZ dO_ofSizes_66 .int rfl rfl ⟨_, rfl, rfl, rfl, (by trivial)⟩
  · refine z_iload (pc := 43) hZ 1 dO_ofSizes_43 rfl ?_
    refine z_iload (pc := 45) hZ 0 dO_ofSizes_45 rfl ?_
    refine z_callS (pc := 47) (As := [.int v25_8, .int v33_10]) (rest := []) hZ (cJI_compare l D tys (X ++ PL LP f) v25_8 v33_10) zyJI_compare (z_goodS ml_O_29 st_JI_compare in_JI co_JI_compare) rfl rfl (by decide) rfl rfl (Nat.le_of_ble_eq_true rfl) ⟨Nat.zero_le _, Nat.zero_le _⟩ dO_ofSizes_47 (z_ki (fun r47_17 w1 tys1 hp => ?_))
    obtain ⟨rfl, rfl, p47_17⟩ := hp
    exact z_reti (pc := 50) hZ dO_ofSizes_50 .int rfl rfl ⟨_, rfl, rfl, rfl, (by trivial)⟩
set_option maxHeartbeats 4000000 in
set_option maxRecDepth 100000 in
theorem cO_infinityOf (l : Launch) (D : va_G) (tys : zT) (X : va_W) (LP : List Nat) (f : Nat → V3) (a0 : Nat) (h_a0 : a0 ∈ LP) : zM l D vwCl zNF zNM yO_infinityOf wsO_infinityOf { frames := 2, cells := 0, slots := 0, locals := 41 } [.ref a0] (X ++ PL LP f) tys (qI (fun r w' tys' => X ++ PL LP f = w' ∧ tys = tys' ∧ (True))) := by
  refine z_met (cc := bO_infinityOf) (maxL := 1) (ret := (some .int)) (isI := false) (own := RO) (by decide +kernel) rfl rfl (fun h => by cases h) (Nat.le_of_ble_eq_true rfl) (fun Z hZ => ?_)
  show Z 0 0 tys 0 [(0, .ref a0)] [] (X ++ PL LP f)
  refine z_aload_n (pc := 0) hZ 0 dO_infinityOf_0 rfl rfl ?_
  obtain ⟨q1_1, hq1_1⟩ := zp_at (X := X) (f := f) h_a0
  refine z_callVN (pc := 1) (As := []) (rest := []) hZ (cV_isInfinite l D tys X LP f a0 h_a0) zyV_isInfinite (z_good co_V_isInfinite) nl_O_21 (zb in_V) (zb im_V_isInfinite) (zb se_V_isInfinite) q1_1 hq1_1 rfl rfl rfl (by decide) rfl rfl (Nat.le_of_ble_eq_true rfl) ⟨Nat.zero_le _, Nat.zero_le _⟩ dO_infinityOf_1 (z_ki (fun r1_1 w1 tys1 hp => ?_))
  obtain ⟨rfl, rfl, p1_1⟩ := hp
  refine z_if_eq (pc := 4) hZ 14 dO_infinityOf_4 (by decide) (fun c4_2 => ?_) (fun c4_2 => ?_)
  · refine z_iconst (pc := 14) hZ 0 dO_infinityOf_14 (by decide) ?_
    exact z_reti (pc := 15) hZ dO_infinityOf_15 .int rfl rfl ⟨_, rfl, rfl, rfl, (by trivial)⟩
  · refine z_aload_n (pc := 7) hZ 0 dO_infinityOf_7 rfl rfl ?_
    obtain ⟨q8_3, hq8_3⟩ := zp_at (X := X) (f := f) h_a0
    refine z_callVN (pc := 8) (As := []) (rest := []) hZ (cV_sign l D tys X LP f a0 h_a0) zyV_sign (z_good co_V_sign) nl_O_51 (zb in_V) (zb im_V_sign) (zb se_V_sign) q8_3 hq8_3 rfl rfl rfl (by decide) rfl rfl (Nat.le_of_ble_eq_true rfl) ⟨Nat.zero_le _, Nat.zero_le _⟩ dO_infinityOf_8 (z_ki (fun r8_3 w1 tys1 hp => ?_))
    obtain ⟨rfl, rfl, p8_3⟩ := hp
    refine z_goto (pc := 11) hZ 15 dO_infinityOf_11 (by decide) ?_
    exact z_reti (pc := 15) hZ dO_infinityOf_15 .int rfl rfl ⟨_, rfl, rfl, rfl, (by trivial)⟩
set_option maxHeartbeats 4000000 in
set_option maxRecDepth 100000 in
theorem cO_ofWhole (l : Launch) (D : va_G) (tys : zT) (X : va_W) (LP : List Nat) (f : Nat → V3) (p0 : Int64) (a1 : Nat) (h_a1 : a1 ∈ LP) : zM l D vwCl zNF zNM yO_ofWhole wsO_ofWhole { frames := 2, cells := 0, slots := 0, locals := 41 } [.long p0, .ref a1] (X ++ PL LP f) tys (qI (fun r w' tys' => X ++ PL LP f = w' ∧ tys = tys' ∧ (True))) := by
  refine z_met (cc := bO_ofWhole) (maxL := 5) (ret := (some .int)) (isI := false) (own := RO) (by decide +kernel) rfl rfl (fun h => by cases h) (Nat.le_of_ble_eq_true rfl) (fun Z hZ => ?_)
  show Z 0 0 tys 0 [(0, .long p0), (2, .ref a1)] [] (X ++ PL LP f)
  refine z_aload_n (pc := 0) hZ 1 dO_ofWhole_0 rfl rfl ?_
  refine z_pg2N (pc := 1) hZ h_a1 uc_V nf_O_55 dO_ofWhole_1 (fun v1_1 ev1_1 => ?_)
  have J20 : Z 0 0 tys 20 [(0, .long p0), (2, .ref a1)] [] (X ++ PL LP f) := by
    refine z_aload_n (pc := 20) hZ 1 dO_ofWhole_20 rfl rfl ?_
    obtain ⟨q21_2, hq21_2⟩ := zp_at (X := X) (f := f) h_a1
    refine z_callVN (pc := 21) (As := []) (rest := []) hZ (cV_floor l D tys X LP f a1 h_a1) zyV_floor (z_good co_V_floor) nl_O_61 (zb in_V) (zb im_V_floor) (zb se_V_floor) q21_2 hq21_2 rfl rfl rfl (by decide) rfl rfl (Nat.le_of_ble_eq_true rfl) ⟨Nat.zero_le _, Nat.zero_le _⟩ dO_ofWhole_21 (z_kl (fun r21_2 w1 tys1 hp => ?_))
    obtain ⟨rfl, rfl, p21_2⟩ := hp
    refine z_lstore_n (pc := 24) hZ [(3, .long r21_2), (0, .long p0), (2, .ref a1)] dO_ofWhole_24 rfl (by decide) rfl ?_
    refine z_lload_n (pc := 25) hZ 1 dO_ofWhole_25 rfl rfl ?_
    refine z_lload_n (pc := 26) hZ 0 dO_ofWhole_26 rfl rfl ?_
    refine z_lif_eq (pc := 27) hZ 37 dO_ofWhole_27 dO_ofWhole_28 (by decide) (fun c28_3 => ?_) (fun c28_3 => ?_)
    · refine z_aload_n (pc := 37) hZ 2 dO_ofWhole_37 rfl rfl ?_
      refine z_pg2N (pc := 38) hZ h_a1 uc_V nf_O_55 dO_ofWhole_38 (fun v38_4 ev38_4 => ?_)
      refine z_if_ge (pc := 41) hZ 48 dO_ofWhole_41 (by decide) (fun c41_5 => ?_) (fun c41_5 => ?_)
      · refine z_iconst (pc := 48) hZ 0 dO_ofWhole_48 (by decide) ?_
        exact z_reti (pc := 49) hZ dO_ofWhole_49 .int rfl rfl ⟨_, rfl, rfl, rfl, (by trivial)⟩
      · refine z_iconst (pc := 44) hZ (-1) dO_ofWhole_44 (by decide) ?_
        refine z_goto (pc := 45) hZ 49 dO_ofWhole_45 (by decide) ?_
        exact z_reti (pc := 49) hZ dO_ofWhole_49 .int rfl rfl ⟨_, rfl, rfl, rfl, (by trivial)⟩
    · refine z_lload_n (pc := 31) hZ 1 dO_ofWhole_31 rfl rfl ?_
      refine z_lload_n (pc := 32) hZ 0 dO_ofWhole_32 rfl rfl ?_
      refine z_callS (pc := 33) (As := [.long p0, .long r21_2]) (rest := []) hZ (cJL_compare l D tys (X ++ PL LP f) p0 r21_2) zyJL_compare (z_goodS ml_O_39 st_JL_compare in_JL co_JL_compare) rfl rfl (by decide) rfl rfl (Nat.le_of_ble_eq_true rfl) ⟨Nat.zero_le _, Nat.zero_le _⟩ dO_ofWhole_33 (z_ki (fun r33_6 w1 tys1 hp => ?_))
      obtain ⟨rfl, rfl, p33_6⟩ := hp
      exact z_reti (pc := 36) hZ dO_ofWhole_36 .int rfl rfl ⟨_, rfl, rfl, rfl, (by trivial)⟩
  refine z_if_lt (pc := 4) hZ 20 dO_ofWhole_4 (by decide) (fun c4_7 => ?_) (fun c4_7 => ?_)
  · exact z_sub (pc := 20) hZ [0, 1] rfl (J20 )
  · refine z_aload_n (pc := 7) hZ 1 dO_ofWhole_7 rfl rfl ?_
    obtain ⟨q8_8, hq8_8⟩ := zp_at (X := X) (f := f) h_a1
    refine z_callVN (pc := 8) (As := []) (rest := []) hZ (cV_countsAsWhole l D tys X LP f a1 h_a1) zyV_countsAsWhole (z_good co_V_countsAsWhole) nl_O_58 (zb in_V) (zb im_V_countsAsWhole) (zb se_V_countsAsWhole) q8_8 hq8_8 rfl rfl rfl (by decide) rfl rfl (Nat.le_of_ble_eq_true rfl) ⟨Nat.zero_le _, Nat.zero_le _⟩ dO_ofWhole_8 (z_ki (fun r8_8 w1 tys1 hp => ?_))
    obtain ⟨rfl, rfl, p8_8⟩ := hp
    refine z_if_ne (pc := 11) hZ 20 dO_ofWhole_11 (by decide) (fun c11_9 => ?_) (fun c11_9 => ?_)
    · exact z_sub (pc := 20) hZ [0, 1] rfl (J20 )
    · refine z_aload_n (pc := 14) hZ 1 dO_ofWhole_14 rfl rfl ?_
      obtain ⟨q15_10, hq15_10⟩ := zp_at (X := X) (f := f) h_a1
      refine z_callVN (pc := 15) (As := []) (rest := []) hZ (cV_sign l D tys X LP f a1 h_a1) zyV_sign (z_good co_V_sign) nl_O_51 (zb in_V) (zb im_V_sign) (zb se_V_sign) q15_10 hq15_10 rfl rfl rfl (by decide) rfl rfl (Nat.le_of_ble_eq_true rfl) ⟨Nat.zero_le _, Nat.zero_le _⟩ dO_ofWhole_15 (z_ki (fun r15_10 w1 tys1 hp => ?_))
      obtain ⟨rfl, rfl, p15_10⟩ := hp
      refine z_ineg (pc := 18) hZ dO_ofWhole_18 (fun v18_11 ev18_11 => ?_)
      exact z_reti (pc := 19) hZ dO_ofWhole_19 .int rfl rfl ⟨_, rfl, rfl, rfl, (by trivial)⟩
set_option maxHeartbeats 4000000 in
set_option maxRecDepth 100000 in
theorem cO_ofReals (l : Launch) (D : va_G) (tys : zT) (X : va_W) (LP : List Nat) (f : Nat → V3) (a0 : Nat) (h_a0 : a0 ∈ LP) (a1 : Nat) (h_a1 : a1 ∈ LP) : zM l D vwCl zNF zNM yO_ofReals wsO_ofReals { frames := 3, cells := 0, slots := 0, locals := 68 } [.ref a0, .ref a1] (X ++ PL LP f) tys (qI (fun r w' tys' => X ++ PL LP f = w' ∧ tys = tys' ∧ (True))) := by
  refine z_met (cc := bO_ofReals) (maxL := 2) (ret := (some .int)) (isI := false) (own := RO) (by decide +kernel) rfl rfl (fun h => by cases h) (Nat.le_of_ble_eq_true rfl) (fun Z hZ => ?_)
  show Z 0 0 tys 0 [(0, .ref a0), (1, .ref a1)] [] (X ++ PL LP f)
  refine z_aload_n (pc := 0) hZ 0 dO_ofReals_0 rfl rfl ?_
  obtain ⟨q1_1, hq1_1⟩ := zp_at (X := X) (f := f) h_a0
  refine z_callVN (pc := 1) (As := []) (rest := []) hZ (cV_sign l D tys X LP f a0 h_a0) zyV_sign (z_good co_V_sign) nl_O_51 (zb in_V) (zb im_V_sign) (zb se_V_sign) q1_1 hq1_1 rfl rfl rfl (by decide) rfl rfl (Nat.le_of_ble_eq_true rfl) ⟨Nat.zero_le _, Nat.zero_le _⟩ dO_ofReals_1 (z_ki (fun r1_1 w1 tys1 hp => ?_))
  obtain ⟨rfl, rfl, p1_1⟩ := hp
  refine z_aload_n (pc := 4) hZ 1 dO_ofReals_4 rfl rfl ?_
  obtain ⟨q5_2, hq5_2⟩ := zp_at (X := X) (f := f) h_a1
  refine z_callVN (pc := 5) (As := []) (rest := [.int r1_1]) hZ (cV_sign l D tys X LP f a1 h_a1) zyV_sign (z_good co_V_sign) nl_O_51 (zb in_V) (zb im_V_sign) (zb se_V_sign) q5_2 hq5_2 rfl rfl rfl (by decide) rfl rfl (Nat.le_of_ble_eq_true rfl) ⟨Nat.zero_le _, Nat.zero_le _⟩ dO_ofReals_5 (z_ki (fun r5_2 w1 tys1 hp => ?_))
  obtain ⟨rfl, rfl, p5_2⟩ := hp
  refine z_icmp_eq (pc := 8) hZ 23 dO_ofReals_8 (by decide) (fun c8_3 => ?_) (fun c8_3 => ?_)
  · refine z_aload_n (pc := 23) hZ 0 dO_ofReals_23 rfl rfl ?_
    obtain ⟨q24_4, hq24_4⟩ := zp_at (X := X) (f := f) h_a0
    refine z_callVN (pc := 24) (As := []) (rest := []) hZ (cV_sign l D tys X LP f a0 h_a0) zyV_sign (z_good co_V_sign) nl_O_51 (zb in_V) (zb im_V_sign) (zb se_V_sign) q24_4 hq24_4 rfl rfl rfl (by decide) rfl rfl (Nat.le_of_ble_eq_true rfl) ⟨Nat.zero_le _, Nat.zero_le _⟩ dO_ofReals_24 (z_ki (fun r24_4 w1 tys1 hp => ?_))
    obtain ⟨rfl, rfl, p24_4⟩ := hp
    refine z_if_ne (pc := 27) hZ 34 dO_ofReals_27 (by decide) (fun c27_5 => ?_) (fun c27_5 => ?_)
    · refine z_aload_n (pc := 34) hZ 0 dO_ofReals_34 rfl rfl ?_
      obtain ⟨q35_6, hq35_6⟩ := zp_at (X := X) (f := f) h_a0
      refine z_callVN (pc := 35) (As := []) (rest := []) hZ (cV_sign l D tys X LP f a0 h_a0) zyV_sign (z_good co_V_sign) nl_O_51 (zb in_V) (zb im_V_sign) (zb se_V_sign) q35_6 hq35_6 rfl rfl rfl (by decide) rfl rfl (Nat.le_of_ble_eq_true rfl) ⟨Nat.zero_le _, Nat.zero_le _⟩ dO_ofReals_35 (z_ki (fun r35_6 w1 tys1 hp => ?_))
      obtain ⟨rfl, rfl, p35_6⟩ := hp
      refine z_aload_n (pc := 38) hZ 0 dO_ofReals_38 rfl rfl ?_
      refine z_aload_n (pc := 39) hZ 1 dO_ofReals_39 rfl rfl ?_
      refine z_callS (pc := 40) (As := [.ref a0, .ref a1]) (rest := [.int r35_6]) hZ (cO_ofSizes l D tys X LP f a0 h_a0 a1 h_a1) zyO_ofSizes (z_goodS ml_O_65 st_O_ofSizes in_O co_O_ofSizes) rfl rfl (by decide) rfl rfl (Nat.le_of_ble_eq_true rfl) ⟨Nat.zero_le _, Nat.zero_le _⟩ dO_ofReals_40 (z_ki (fun r40_7 w1 tys1 hp => ?_))
      obtain ⟨rfl, rfl, p40_7⟩ := hp
      refine z_imul (pc := 43) hZ dO_ofReals_43 (fun v43_8 ev43_8 => ?_)
      exact z_reti (pc := 44) hZ dO_ofReals_44 .int rfl rfl ⟨_, rfl, rfl, rfl, (by trivial)⟩
    · refine z_iconst (pc := 30) hZ 0 dO_ofReals_30 (by decide) ?_
      refine z_goto (pc := 31) hZ 44 dO_ofReals_31 (by decide) ?_
      exact z_reti (pc := 44) hZ dO_ofReals_44 .int rfl rfl ⟨_, rfl, rfl, rfl, (by trivial)⟩
  · refine z_aload_n (pc := 11) hZ 0 dO_ofReals_11 rfl rfl ?_
    obtain ⟨q12_9, hq12_9⟩ := zp_at (X := X) (f := f) h_a0
    refine z_callVN (pc := 12) (As := []) (rest := []) hZ (cV_sign l D tys X LP f a0 h_a0) zyV_sign (z_good co_V_sign) nl_O_51 (zb in_V) (zb im_V_sign) (zb se_V_sign) q12_9 hq12_9 rfl rfl rfl (by decide) rfl rfl (Nat.le_of_ble_eq_true rfl) ⟨Nat.zero_le _, Nat.zero_le _⟩ dO_ofReals_12 (z_ki (fun r12_9 w1 tys1 hp => ?_))
    obtain ⟨rfl, rfl, p12_9⟩ := hp
    refine z_aload_n (pc := 15) hZ 1 dO_ofReals_15 rfl rfl ?_
    obtain ⟨q16_10, hq16_10⟩ := zp_at (X := X) (f := f) h_a1
    refine z_callVN (pc := 16) (As := []) (rest := [.int r12_9]) hZ (cV_sign l D tys X LP f a1 h_a1) zyV_sign (z_good co_V_sign) nl_O_51 (zb in_V) (zb im_V_sign) (zb se_V_sign) q16_10 hq16_10 rfl rfl rfl (by decide) rfl rfl (Nat.le_of_ble_eq_true rfl) ⟨Nat.zero_le _, Nat.zero_le _⟩ dO_ofReals_16 (z_ki (fun r16_10 w1 tys1 hp => ?_))
    obtain ⟨rfl, rfl, p16_10⟩ := hp
    refine z_callS (pc := 19) (As := [.int r12_9, .int r16_10]) (rest := []) hZ (cJI_compare l D tys (X ++ PL LP f) r12_9 r16_10) zyJI_compare (z_goodS ml_O_29 st_JI_compare in_JI co_JI_compare) rfl rfl (by decide) rfl rfl (Nat.le_of_ble_eq_true rfl) ⟨Nat.zero_le _, Nat.zero_le _⟩ dO_ofReals_19 (z_ki (fun r19_11 w1 tys1 hp => ?_))
    obtain ⟨rfl, rfl, p19_11⟩ := hp
    exact z_reti (pc := 22) hZ dO_ofReals_22 .int rfl rfl ⟨_, rfl, rfl, rfl, (by trivial)⟩
set_option maxHeartbeats 4000000 in
set_option maxRecDepth 100000 in
theorem cO_of (l : Launch) (D : va_G) (tys : zT) (X : va_W) (LP : List Nat) (f : Nat → V3) (a0 : Nat) (h_a0 : a0 ∈ LP) (a1 : Nat) (h_a1 : a1 ∈ LP) : zM l D vwCl zNF zNM yO_of wsO_of { frames := 4, cells := 0, slots := 0, locals := 89 } [.ref a0, .ref a1] (X ++ PL LP f) tys (qI (fun r w' tys' => X ++ PL LP f = w' ∧ tys = tys' ∧ (True))) := by
  refine z_met (cc := bO_of) (maxL := 2) (ret := (some .int)) (isI := false) (own := RO) (by decide +kernel) rfl rfl (fun h => by cases h) (Nat.le_of_ble_eq_true rfl) (fun Z hZ => ?_)
  show Z 0 0 tys 0 [(0, .ref a0), (1, .ref a1)] [] (X ++ PL LP f)
  refine z_aload_n (pc := 0) hZ 0 dO_of_0 rfl rfl ?_
  obtain ⟨q1_1, hq1_1⟩ := zp_at (X := X) (f := f) h_a0
  refine z_callVN (pc := 1) (As := []) (rest := []) hZ (cV_isInfinite l D tys X LP f a0 h_a0) zyV_isInfinite (z_good co_V_isInfinite) nl_O_21 (zb in_V) (zb im_V_isInfinite) (zb se_V_isInfinite) q1_1 hq1_1 rfl rfl rfl (by decide) rfl rfl (Nat.le_of_ble_eq_true rfl) ⟨Nat.zero_le _, Nat.zero_le _⟩ dO_of_1 (z_ki (fun r1_1 w1 tys1 hp => ?_))
  obtain ⟨rfl, rfl, p1_1⟩ := hp
  have J14 : Z 0 0 tys 14 [(0, .ref a0), (1, .ref a1)] [] (X ++ PL LP f) := by
    refine z_aload_n (pc := 14) hZ 0 dO_of_14 rfl rfl ?_
    refine z_callS (pc := 15) (As := [.ref a0]) (rest := []) hZ (cO_infinityOf l D tys X LP f a0 h_a0) zyO_infinityOf (z_goodS ml_O_25 st_O_infinityOf in_O co_O_infinityOf) rfl rfl (by decide) rfl rfl (Nat.le_of_ble_eq_true rfl) ⟨Nat.zero_le _, Nat.zero_le _⟩ dO_of_15 (z_ki (fun r15_2 w1 tys1 hp => ?_))
    obtain ⟨rfl, rfl, p15_2⟩ := hp
    refine z_aload_n (pc := 18) hZ 1 dO_of_18 rfl rfl ?_
    refine z_callS (pc := 19) (As := [.ref a1]) (rest := [.int r15_2]) hZ (cO_infinityOf l D tys X LP f a1 h_a1) zyO_infinityOf (z_goodS ml_O_25 st_O_infinityOf in_O co_O_infinityOf) rfl rfl (by decide) rfl rfl (Nat.le_of_ble_eq_true rfl) ⟨Nat.zero_le _, Nat.zero_le _⟩ dO_of_19 (z_ki (fun r19_3 w1 tys1 hp => ?_))
    obtain ⟨rfl, rfl, p19_3⟩ := hp
    refine z_callS (pc := 22) (As := [.int r15_2, .int r19_3]) (rest := []) hZ (cJI_compare l D tys (X ++ PL LP f) r15_2 r19_3) zyJI_compare (z_goodS ml_O_29 st_JI_compare in_JI co_JI_compare) rfl rfl (by decide) rfl rfl (Nat.le_of_ble_eq_true rfl) ⟨Nat.zero_le _, Nat.zero_le _⟩ dO_of_22 (z_ki (fun r22_4 w1 tys1 hp => ?_))
    obtain ⟨rfl, rfl, p22_4⟩ := hp
    exact z_reti (pc := 25) hZ dO_of_25 .int rfl rfl ⟨_, rfl, rfl, rfl, (by trivial)⟩
  refine z_if_ne (pc := 4) hZ 14 dO_of_4 (by decide) (fun c4_5 => ?_) (fun c4_5 => ?_)
  · exact z_sub (pc := 14) hZ [0, 1] rfl (J14 )
  · refine z_aload_n (pc := 7) hZ 1 dO_of_7 rfl rfl ?_
    obtain ⟨q8_6, hq8_6⟩ := zp_at (X := X) (f := f) h_a1
    refine z_callVN (pc := 8) (As := []) (rest := []) hZ (cV_isInfinite l D tys X LP f a1 h_a1) zyV_isInfinite (z_good co_V_isInfinite) nl_O_21 (zb in_V) (zb im_V_isInfinite) (zb se_V_isInfinite) q8_6 hq8_6 rfl rfl rfl (by decide) rfl rfl (Nat.le_of_ble_eq_true rfl) ⟨Nat.zero_le _, Nat.zero_le _⟩ dO_of_8 (z_ki (fun r8_6 w1 tys1 hp => ?_))
    obtain ⟨rfl, rfl, p8_6⟩ := hp
    refine z_if_eq (pc := 11) hZ 26 dO_of_11 (by decide) (fun c11_7 => ?_) (fun c11_7 => ?_)
    · refine z_aload_n (pc := 26) hZ 0 dO_of_26 rfl rfl ?_
      refine z_pg0N (pc := 27) hZ h_a0 uc_V nf_O_9 dO_of_27 (fun v27_8 ev27_8 => ?_)
      refine z_iconst (pc := 30) hZ 1 dO_of_30 (by decide) ?_
      refine z_icmp_ne (pc := 31) hZ 65 dO_of_31 (by decide) (fun c31_9 => ?_) (fun c31_9 => ?_)
      · refine z_aload_n (pc := 65) hZ 1 dO_of_65 rfl rfl ?_
        refine z_pg0N (pc := 66) hZ h_a1 uc_V nf_O_9 dO_of_66 (fun v66_10 ev66_10 => ?_)
        refine z_iconst (pc := 69) hZ 1 dO_of_69 (by decide) ?_
        refine z_icmp_ne (pc := 70) hZ 85 dO_of_70 (by decide) (fun c70_11 => ?_) (fun c70_11 => ?_)
        · refine z_aload_n (pc := 85) hZ 0 dO_of_85 rfl rfl ?_
          refine z_aload_n (pc := 86) hZ 1 dO_of_86 rfl rfl ?_
          refine z_callS (pc := 87) (As := [.ref a0, .ref a1]) (rest := []) hZ (cO_ofReals l D tys X LP f a0 h_a0 a1 h_a1) zyO_ofReals (z_goodS ml_O_48 st_O_ofReals in_O co_O_ofReals) rfl rfl (by decide) rfl rfl (Nat.le_of_ble_eq_true rfl) ⟨Nat.zero_le _, Nat.zero_le _⟩ dO_of_87 (z_ki (fun r87_12 w1 tys1 hp => ?_))
          obtain ⟨rfl, rfl, p87_12⟩ := hp
          exact z_reti (pc := 90) hZ dO_of_90 .int rfl rfl ⟨_, rfl, rfl, rfl, (by trivial)⟩
        · refine z_aload_n (pc := 73) hZ 1 dO_of_73 rfl rfl ?_
          refine z_pg1N (pc := 74) hZ h_a1 uc_V nf_O_35 dO_of_74 (fun v74_13 ev74_13 => ?_)
          refine z_aload_n (pc := 77) hZ 0 dO_of_77 rfl rfl ?_
          refine z_callS (pc := 78) (As := [.long v74_13, .ref a0]) (rest := []) hZ (cO_ofWhole l D tys X LP f v74_13 a0 h_a0) zyO_ofWhole (z_goodS ml_O_44 st_O_ofWhole in_O co_O_ofWhole) rfl rfl (by decide) rfl rfl (Nat.le_of_ble_eq_true rfl) ⟨Nat.zero_le _, Nat.zero_le _⟩ dO_of_78 (z_ki (fun r78_14 w1 tys1 hp => ?_))
          obtain ⟨rfl, rfl, p78_14⟩ := hp
          refine z_ineg (pc := 81) hZ dO_of_81 (fun v81_15 ev81_15 => ?_)
          refine z_goto (pc := 82) hZ 90 dO_of_82 (by decide) ?_
          exact z_reti (pc := 90) hZ dO_of_90 .int rfl rfl ⟨_, rfl, rfl, rfl, (by trivial)⟩
      · refine z_aload_n (pc := 34) hZ 1 dO_of_34 rfl rfl ?_
        refine z_pg0N (pc := 35) hZ h_a1 uc_V nf_O_9 dO_of_35 (fun v35_16 ev35_16 => ?_)
        refine z_iconst (pc := 38) hZ 1 dO_of_38 (by decide) ?_
        refine z_icmp_ne (pc := 39) hZ 56 dO_of_39 (by decide) (fun c39_17 => ?_) (fun c39_17 => ?_)
        · refine z_aload_n (pc := 56) hZ 0 dO_of_56 rfl rfl ?_
          refine z_pg1N (pc := 57) hZ h_a0 uc_V nf_O_35 dO_of_57 (fun v57_18 ev57_18 => ?_)
          refine z_aload_n (pc := 60) hZ 1 dO_of_60 rfl rfl ?_
          refine z_callS (pc := 61) (As := [.long v57_18, .ref a1]) (rest := []) hZ (cO_ofWhole l D tys X LP f v57_18 a1 h_a1) zyO_ofWhole (z_goodS ml_O_44 st_O_ofWhole in_O co_O_ofWhole) rfl rfl (by decide) rfl rfl (Nat.le_of_ble_eq_true rfl) ⟨Nat.zero_le _, Nat.zero_le _⟩ dO_of_61 (z_ki (fun r61_19 w1 tys1 hp => ?_))
          obtain ⟨rfl, rfl, p61_19⟩ := hp
          exact z_reti (pc := 64) hZ dO_of_64 .int rfl rfl ⟨_, rfl, rfl, rfl, (by trivial)⟩
        · refine z_aload_n (pc := 42) hZ 0 dO_of_42 rfl rfl ?_
          refine z_pg1N (pc := 43) hZ h_a0 uc_V nf_O_35 dO_of_43 (fun v43_20 ev43_20 => ?_)
          refine z_aload_n (pc := 46) hZ 1 dO_of_46 rfl rfl ?_
          refine z_pg1N (pc := 47) hZ h_a1 uc_V nf_O_35 dO_of_47 (fun v47_21 ev47_21 => ?_)
          refine z_callS (pc := 50) (As := [.long v43_20, .long v47_21]) (rest := []) hZ (cJL_compare l D tys (X ++ PL LP f) v43_20 v47_21) zyJL_compare (z_goodS ml_O_39 st_JL_compare in_JL co_JL_compare) rfl rfl (by decide) rfl rfl (Nat.le_of_ble_eq_true rfl) ⟨Nat.zero_le _, Nat.zero_le _⟩ dO_of_50 (z_ki (fun r50_22 w1 tys1 hp => ?_))
          obtain ⟨rfl, rfl, p50_22⟩ := hp
          refine z_goto (pc := 53) hZ 64 dO_of_53 (by decide) ?_
          exact z_reti (pc := 64) hZ dO_of_64 .int rfl rfl ⟨_, rfl, rfl, rfl, (by trivial)⟩
    · exact z_sub (pc := 14) hZ [0, 1] rfl (J14 )
set_option maxHeartbeats 4000000 in
set_option maxRecDepth 100000 in
theorem cO_goesBefore (l : Launch) (D : va_G) (tys : zT) (X : va_W) (LP : List Nat) (f : Nat → V3) (a0 : Nat) (h_a0 : a0 ∈ LP) (a1 : Nat) (h_a1 : a1 ∈ LP) : zM l D vwCl zNF zNM yO_goesBefore wsO_goesBefore { frames := 5, cells := 0, slots := 0, locals := 110 } [.ref a0, .ref a1] (X ++ PL LP f) tys (qI (fun r w' tys' => X ++ PL LP f = w' ∧ tys = tys' ∧ (True))) := by
  refine z_met (cc := bO_goesBefore) (maxL := 2) (ret := (some .boolean)) (isI := false) (own := RO) (by decide +kernel) rfl rfl (fun h => by cases h) (Nat.le_of_ble_eq_true rfl) (fun Z hZ => ?_)
  show Z 0 0 tys 0 [(0, .ref a0), (1, .ref a1)] [] (X ++ PL LP f)
  refine z_aload_n (pc := 0) hZ 0 dO_goesBefore_0 rfl rfl ?_
  refine z_pg0N (pc := 1) hZ h_a0 uc_V nf_O_9 dO_goesBefore_1 (fun v1_1 ev1_1 => ?_)
  refine z_iconst (pc := 4) hZ 5 dO_goesBefore_4 (by decide) ?_
  have J16 : Z 0 0 tys 16 [(0, .ref a0), (1, .ref a1)] [] (X ++ PL LP f) := by
    refine z_aload_n (pc := 16) hZ 0 dO_goesBefore_16 rfl rfl ?_
    refine z_pg0N (pc := 17) hZ h_a0 uc_V nf_O_9 dO_goesBefore_17 (fun v17_2 ev17_2 => ?_)
    refine z_iconst (pc := 20) hZ 5 dO_goesBefore_20 (by decide) ?_
    refine z_icmp_eq (pc := 21) hZ 36 dO_goesBefore_21 (by decide) (fun c21_3 => ?_) (fun c21_3 => ?_)
    · refine z_iconst (pc := 36) hZ 0 dO_goesBefore_36 (by decide) ?_
      exact z_reti (pc := 37) hZ dO_goesBefore_37 .boolean rfl rfl ⟨_, rfl, rfl, rfl, (by trivial)⟩
    · refine z_aload_n (pc := 24) hZ 1 dO_goesBefore_24 rfl rfl ?_
      refine z_pg0N (pc := 25) hZ h_a1 uc_V nf_O_9 dO_goesBefore_25 (fun v25_4 ev25_4 => ?_)
      refine z_iconst (pc := 28) hZ 5 dO_goesBefore_28 (by decide) ?_
      refine z_icmp_ne (pc := 29) hZ 36 dO_goesBefore_29 (by decide) (fun c29_5 => ?_) (fun c29_5 => ?_)
      · refine z_iconst (pc := 36) hZ 0 dO_goesBefore_36 (by decide) ?_
        exact z_reti (pc := 37) hZ dO_goesBefore_37 .boolean rfl rfl ⟨_, rfl, rfl, rfl, (by trivial)⟩
      · refine z_iconst (pc := 32) hZ 1 dO_goesBefore_32 (by decide) ?_
        refine z_goto (pc := 33) hZ 37 dO_goesBefore_33 (by decide) ?_
        exact z_reti (pc := 37) hZ dO_goesBefore_37 .boolean rfl rfl ⟨_, rfl, rfl, rfl, (by trivial)⟩
  refine z_icmp_eq (pc := 5) hZ 16 dO_goesBefore_5 (by decide) (fun c5_6 => ?_) (fun c5_6 => ?_)
  · exact z_sub (pc := 16) hZ [0, 1] rfl (J16 )
  · refine z_aload_n (pc := 8) hZ 1 dO_goesBefore_8 rfl rfl ?_
    refine z_pg0N (pc := 9) hZ h_a1 uc_V nf_O_9 dO_goesBefore_9 (fun v9_7 ev9_7 => ?_)
    refine z_iconst (pc := 12) hZ 5 dO_goesBefore_12 (by decide) ?_
    refine z_icmp_ne (pc := 13) hZ 38 dO_goesBefore_13 (by decide) (fun c13_8 => ?_) (fun c13_8 => ?_)
    · refine z_aload_n (pc := 38) hZ 0 dO_goesBefore_38 rfl rfl ?_
      refine z_aload_n (pc := 39) hZ 1 dO_goesBefore_39 rfl rfl ?_
      refine z_callS (pc := 40) (As := [.ref a0, .ref a1]) (rest := []) hZ (cO_of l D tys X LP f a0 h_a0 a1 h_a1) zyO_of (z_goodS ml_O_15 st_O_of in_O co_O_of) rfl rfl (by decide) rfl rfl (Nat.le_of_ble_eq_true rfl) ⟨Nat.zero_le _, Nat.zero_le _⟩ dO_goesBefore_40 (z_ki (fun r40_9 w1 tys1 hp => ?_))
      obtain ⟨rfl, rfl, p40_9⟩ := hp
      refine z_if_ge (pc := 43) hZ 50 dO_goesBefore_43 (by decide) (fun c43_10 => ?_) (fun c43_10 => ?_)
      · refine z_iconst (pc := 50) hZ 0 dO_goesBefore_50 (by decide) ?_
        exact z_reti (pc := 51) hZ dO_goesBefore_51 .boolean rfl rfl ⟨_, rfl, rfl, rfl, (by trivial)⟩
      · refine z_iconst (pc := 46) hZ 1 dO_goesBefore_46 (by decide) ?_
        refine z_goto (pc := 47) hZ 51 dO_goesBefore_47 (by decide) ?_
        exact z_reti (pc := 51) hZ dO_goesBefore_51 .boolean rfl rfl ⟨_, rfl, rfl, rfl, (by trivial)⟩
    · exact z_sub (pc := 16) hZ [0, 1] rfl (J16 )
end
section
set_option maxHeartbeats 4000000 in
set_option maxRecDepth 100000 in
theorem cR_hasNoNumber (l : Launch) (D : va_G) (tys : zT) (X : va_W) (LP : List Nat) (f : Nat → V3) (a0 : Nat) (h_a0 : a0 ∈ LP) (a1 : Nat) (h_a1 : a1 ∈ LP) : zM l D vwCl zNF zNM yR_hasNoNumber wsR_hasNoNumber { frames := 0, cells := 0, slots := 0, locals := 0 } [.ref a0, .ref a1] (X ++ PL LP f) tys (qI (fun r w' tys' => X ++ PL LP f = w' ∧ tys = tys' ∧ (True))) := by
  refine z_met (cc := bR_hasNoNumber) (maxL := 2) (ret := (some .boolean)) (isI := false) (own := RR) (by decide +kernel) rfl rfl (fun h => by cases h) (Nat.le_of_ble_eq_true rfl) (fun Z hZ => ?_)
  show Z 0 0 tys 0 [(0, .ref a0), (1, .ref a1)] [] (X ++ PL LP f)
  refine z_aload_n (pc := 0) hZ 0 dR_hasNoNumber_0 rfl rfl ?_
  refine z_pg0N (pc := 1) hZ h_a0 uc_V nf_R_11 dR_hasNoNumber_1 (fun v1_1 ev1_1 => ?_)
  refine z_iconst (pc := 4) hZ 5 dR_hasNoNumber_4 (by decide) ?_
  have J16 : Z 0 0 tys 16 [] [] (X ++ PL LP f) := by
    refine z_iconst (pc := 16) hZ 1 dR_hasNoNumber_16 (by decide) ?_
    refine z_goto (pc := 17) hZ 21 dR_hasNoNumber_17 (by decide) ?_
    exact z_reti (pc := 21) hZ dR_hasNoNumber_21 .boolean rfl rfl ⟨_, rfl, rfl, rfl, (by trivial)⟩
  refine z_icmp_eq (pc := 5) hZ 16 dR_hasNoNumber_5 (by decide) (fun c5_2 => ?_) (fun c5_2 => ?_)
  · exact z_sub (pc := 16) hZ [] rfl (J16 )
  · refine z_aload_n (pc := 8) hZ 1 dR_hasNoNumber_8 rfl rfl ?_
    refine z_pg0N (pc := 9) hZ h_a1 uc_V nf_R_11 dR_hasNoNumber_9 (fun v9_3 ev9_3 => ?_)
    refine z_iconst (pc := 12) hZ 5 dR_hasNoNumber_12 (by decide) ?_
    refine z_icmp_ne (pc := 13) hZ 20 dR_hasNoNumber_13 (by decide) (fun c13_4 => ?_) (fun c13_4 => ?_)
    · refine z_iconst (pc := 20) hZ 0 dR_hasNoNumber_20 (by decide) ?_
      exact z_reti (pc := 21) hZ dR_hasNoNumber_21 .boolean rfl rfl ⟨_, rfl, rfl, rfl, (by trivial)⟩
    · exact z_sub (pc := 16) hZ [] rfl (J16 )
set_option maxHeartbeats 4000000 in
set_option maxRecDepth 100000 in
theorem cR_addSmaller (l : Launch) (D : va_G) (tys : zT) (X : va_W) (LP : List Nat) (f : Nat → V3) (a0 : Nat) (h_a0 : a0 ∈ LP) (a1 : Nat) (h_a1 : a1 ∈ LP) (a2 : Nat) (h_a2 : a2 ∈ LP) : zM l D vwCl zNF zNM yR_addSmaller wsR_addSmaller { frames := 3, cells := 0, slots := 0, locals := 74 } [.ref a0, .ref a1, .ref a2] (X ++ PL LP f) tys (qV (fun w' tys' => ∃ f' : Nat → V3, X ++ PL LP f' = w' ∧ tys = tys' ∧ (True))) := by
  refine z_met (cc := bR_addSmaller) (maxL := 14) (ret := none) (isI := false) (own := RR) (by decide +kernel) rfl rfl (fun h => by cases h) (Nat.le_of_ble_eq_true rfl) (fun Z hZ => ?_)
  show Z 0 0 tys 0 [(0, .ref a0), (1, .ref a1), (2, .ref a2)] [] (X ++ PL LP f)
  refine z_aload_n (pc := 0) hZ 1 dR_addSmaller_0 rfl rfl ?_
  obtain ⟨q1_1, hq1_1⟩ := zp_at (X := X) (f := f) h_a1
  refine z_callVN (pc := 1) (As := []) (rest := []) hZ (cV_size l D tys X LP f a1 h_a1) zyV_size (z_good co_V_size) nl_R_47 (zb in_V) (zb im_V_size) (zb se_V_size) q1_1 hq1_1 rfl rfl rfl (by decide) rfl rfl (Nat.le_of_ble_eq_true rfl) ⟨Nat.zero_le _, Nat.zero_le _⟩ dR_addSmaller_1 (z_kl (fun r1_1 w1 tys1 hp => ?_))
  obtain ⟨rfl, rfl, p1_1⟩ := hp
  refine z_callS (pc := 4) (As := [.long r1_1]) (rest := []) hZ (cJL_numberOfLeadingZeros l D tys (X ++ PL LP f) r1_1) zyJL_numberOfLeadingZeros (z_goodS ml_R_51 st_JL_numberOfLeadingZeros in_JL co_JL_numberOfLeadingZeros) rfl rfl (by decide) rfl rfl (Nat.le_of_ble_eq_true rfl) ⟨Nat.zero_le _, Nat.zero_le _⟩ dR_addSmaller_4 (z_ki (fun r4_2 w1 tys1 hp => ?_))
  obtain ⟨rfl, rfl, p4_2⟩ := hp
  refine z_iconst (pc := 7) hZ 2 dR_addSmaller_7 (by decide) ?_
  refine z_isub (pc := 8) hZ dR_addSmaller_8 (fun v8_3 ev8_3 => ?_)
  refine z_istore_n (pc := 9) hZ [(3, .int v8_3), (0, .ref a0), (1, .ref a1), (2, .ref a2)] dR_addSmaller_9 rfl (by decide) rfl ?_
  refine z_aload_n (pc := 10) hZ 2 dR_addSmaller_10 rfl rfl ?_
  refine z_pg2N (pc := 11) hZ h_a1 uc_V nf_R_57 dR_addSmaller_11 (fun v11_4 ev11_4 => ?_)
  refine z_iload_n (pc := 14) hZ 0 dR_addSmaller_14 rfl rfl ?_
  refine z_isub (pc := 15) hZ dR_addSmaller_15 (fun v15_5 ev15_5 => ?_)
  refine z_istore (pc := 16) hZ [(4, .int v15_5), (3, .int v8_3), (0, .ref a0), (1, .ref a1), (2, .ref a2)] dR_addSmaller_16 (by decide) rfl ?_
  refine z_aload_n (pc := 18) hZ 4 dR_addSmaller_18 rfl rfl ?_
  obtain ⟨q19_6, hq19_6⟩ := zp_at (X := X) (f := f) h_a2
  refine z_callVN (pc := 19) (As := []) (rest := []) hZ (cV_size l D tys X LP f a2 h_a2) zyV_size (z_good co_V_size) nl_R_47 (zb in_V) (zb im_V_size) (zb se_V_size) q19_6 hq19_6 rfl rfl rfl (by decide) rfl rfl (Nat.le_of_ble_eq_true rfl) ⟨Nat.zero_le _, Nat.zero_le _⟩ dR_addSmaller_19 (z_kl (fun r19_6 w1 tys1 hp => ?_))
  obtain ⟨rfl, rfl, p19_6⟩ := hp
  refine z_callS (pc := 22) (As := [.long r19_6]) (rest := []) hZ (cJL_numberOfLeadingZeros l D tys (X ++ PL LP f) r19_6) zyJL_numberOfLeadingZeros (z_goodS ml_R_51 st_JL_numberOfLeadingZeros in_JL co_JL_numberOfLeadingZeros) rfl rfl (by decide) rfl rfl (Nat.le_of_ble_eq_true rfl) ⟨Nat.zero_le _, Nat.zero_le _⟩ dR_addSmaller_22 (z_ki (fun r22_7 w1 tys1 hp => ?_))
  obtain ⟨rfl, rfl, p22_7⟩ := hp
  refine z_iconst (pc := 25) hZ 2 dR_addSmaller_25 (by decide) ?_
  refine z_isub (pc := 26) hZ dR_addSmaller_26 (fun v26_8 ev26_8 => ?_)
  refine z_istore (pc := 27) hZ [(5, .int v26_8), (4, .int v15_5), (3, .int v8_3), (0, .ref a0), (1, .ref a1), (2, .ref a2)] dR_addSmaller_27 (by decide) rfl ?_
  refine z_iload (pc := 29) hZ 1 dR_addSmaller_29 rfl ?_
  refine z_aload_n (pc := 31) hZ 5 dR_addSmaller_31 rfl rfl ?_
  refine z_pg2N (pc := 32) hZ h_a2 uc_V nf_R_57 dR_addSmaller_32 (fun v32_9 ev32_9 => ?_)
  refine z_iload (pc := 35) hZ 0 dR_addSmaller_35 rfl ?_
  refine z_isub (pc := 37) hZ dR_addSmaller_37 (fun v37_10 ev37_10 => ?_)
  refine z_isub (pc := 38) hZ dR_addSmaller_38 (fun v38_11 ev38_11 => ?_)
  refine z_istore (pc := 39) hZ [(6, .int v38_11), (5, .int v26_8), (4, .int v15_5), (3, .int v8_3), (0, .ref a0), (1, .ref a1), (2, .ref a2)] dR_addSmaller_39 (by decide) rfl ?_
  refine z_aload_n (pc := 41) hZ 6 dR_addSmaller_41 rfl rfl ?_
  obtain ⟨q42_12, hq42_12⟩ := zp_at (X := X) (f := f) h_a2
  refine z_callVN (pc := 42) (As := []) (rest := []) hZ (cV_size l D tys X LP f a2 h_a2) zyV_size (z_good co_V_size) nl_R_47 (zb in_V) (zb im_V_size) (zb se_V_size) q42_12 hq42_12 rfl rfl rfl (by decide) rfl rfl (Nat.le_of_ble_eq_true rfl) ⟨Nat.zero_le _, Nat.zero_le _⟩ dR_addSmaller_42 (z_kl (fun r42_12 w1 tys1 hp => ?_))
  obtain ⟨rfl, rfl, p42_12⟩ := hp
  refine z_iload (pc := 45) hZ 1 dR_addSmaller_45 rfl ?_
  refine z_lshl (pc := 47) hZ dR_addSmaller_47 (fun v47_13 ev47_13 => ?_)
  refine z_lstore (pc := 48) hZ [(7, .long v47_13), (6, .int v38_11), (5, .int v26_8), (4, .int v15_5), (3, .int v8_3), (0, .ref a0), (1, .ref a1), (2, .ref a2)] dR_addSmaller_48 (by decide) rfl ?_
  refine z_iload (pc := 50) hZ 1 dR_addSmaller_50 rfl ?_
  refine z_bipush (pc := 52) hZ 63 dR_addSmaller_52 (by decide) ?_
  have J66 : ∀ (s0_66 : Int64), Z 0 0 tys 66 [(7, .long v47_13), (6, .int v38_11), (4, .int v15_5), (3, .int v8_3), (0, .ref a0), (1, .ref a1), (2, .ref a2)] [.long s0_66] (X ++ PL LP f) := by
    intro s0_66
    refine z_lstore (pc := 66) hZ [(9, .long s0_66), (7, .long v47_13), (6, .int v38_11), (4, .int v15_5), (3, .int v8_3), (0, .ref a0), (1, .ref a1), (2, .ref a2)] dR_addSmaller_66 (by decide) rfl ?_
    refine z_iload (pc := 68) hZ 2 dR_addSmaller_68 rfl ?_
    refine z_bipush (pc := 70) hZ 63 dR_addSmaller_70 (by decide) ?_
    have J91 : ∀ (s0_91 : Int32), Z 0 0 tys 91 [(9, .long s0_66), (4, .int v15_5), (3, .int v8_3), (0, .ref a0), (1, .ref a1), (2, .ref a2)] [.int s0_91] (X ++ PL LP f) := by
      intro s0_91
      refine z_istore (pc := 91) hZ [(11, .int s0_91), (9, .long s0_66), (4, .int v15_5), (3, .int v8_3), (0, .ref a0), (1, .ref a1), (2, .ref a2)] dR_addSmaller_91 (by decide) rfl ?_
      refine z_aload_n (pc := 93) hZ 5 dR_addSmaller_93 rfl rfl ?_
      obtain ⟨q94_14, hq94_14⟩ := zp_at (X := X) (f := f) h_a1
      refine z_callVN (pc := 94) (As := []) (rest := []) hZ (cV_size l D tys X LP f a1 h_a1) zyV_size (z_good co_V_size) nl_R_47 (zb in_V) (zb im_V_size) (zb se_V_size) q94_14 hq94_14 rfl rfl rfl (by decide) rfl rfl (Nat.le_of_ble_eq_true rfl) ⟨Nat.zero_le _, Nat.zero_le _⟩ dR_addSmaller_94 (z_kl (fun r94_14 w1 tys1 hp => ?_))
      obtain ⟨rfl, rfl, p94_14⟩ := hp
      refine z_iload_n (pc := 97) hZ 3 dR_addSmaller_97 rfl rfl ?_
      refine z_lshl (pc := 98) hZ dR_addSmaller_98 (fun v98_15 ev98_15 => ?_)
      refine z_lstore (pc := 99) hZ [(12, .long v98_15), (11, .int s0_91), (9, .long s0_66), (4, .int v15_5), (3, .int v8_3), (0, .ref a0), (1, .ref a1), (2, .ref a2)] dR_addSmaller_99 (by decide) rfl ?_
      refine z_aload_n (pc := 101) hZ 6 dR_addSmaller_101 rfl rfl ?_
      obtain ⟨q102_16, hq102_16⟩ := zp_at (X := X) (f := f) h_a1
      refine z_callVN (pc := 102) (As := []) (rest := []) hZ (cV_sign l D tys X LP f a1 h_a1) zyV_sign (z_good co_V_sign) nl_R_60 (zb in_V) (zb im_V_sign) (zb se_V_sign) q102_16 hq102_16 rfl rfl rfl (by decide) rfl rfl (Nat.le_of_ble_eq_true rfl) ⟨Nat.zero_le _, Nat.zero_le _⟩ dR_addSmaller_102 (z_ki (fun r102_16 w1 tys1 hp => ?_))
      obtain ⟨rfl, rfl, p102_16⟩ := hp
      refine z_aload_n (pc := 105) hZ 7 dR_addSmaller_105 rfl rfl ?_
      obtain ⟨q106_17, hq106_17⟩ := zp_at (X := X) (f := f) h_a2
      refine z_callVN (pc := 106) (As := []) (rest := [.int r102_16]) hZ (cV_sign l D tys X LP f a2 h_a2) zyV_sign (z_good co_V_sign) nl_R_60 (zb in_V) (zb im_V_sign) (zb se_V_sign) q106_17 hq106_17 rfl rfl rfl (by decide) rfl rfl (Nat.le_of_ble_eq_true rfl) ⟨Nat.zero_le _, Nat.zero_le _⟩ dR_addSmaller_106 (z_ki (fun r106_17 w1 tys1 hp => ?_))
      obtain ⟨rfl, rfl, p106_17⟩ := hp
      have J141 : ∀ (x12_141 : Int64), Z 0 0 tys 141 [(12, .long x12_141), (11, .int s0_91), (4, .int v15_5), (0, .ref a0), (1, .ref a1)] [] (X ++ PL LP f) := by
        intro x12_141
        refine z_aload_n (pc := 141) hZ 3 dR_addSmaller_141 rfl rfl ?_
        refine z_aload_n (pc := 142) hZ 4 dR_addSmaller_142 rfl rfl ?_
        refine z_pg1N (pc := 143) hZ h_a1 uc_V nf_R_29 dR_addSmaller_143 (fun v143_18 ev143_18 => ?_)
        refine z_lconst (pc := 146) hZ 0 dR_addSmaller_146 (by decide) ?_
        have J156 : ∀ (s0_156 : Int32), Z 0 0 tys 156 [(12, .long x12_141), (11, .int s0_91), (4, .int v15_5)] [.int s0_156, .ref a0] (X ++ PL LP f) := by
          intro s0_156
          refine z_lload (pc := 156) hZ 0 dR_addSmaller_156 rfl ?_
          refine z_iload (pc := 158) hZ 1 dR_addSmaller_158 rfl ?_
          refine z_iload (pc := 160) hZ 2 dR_addSmaller_160 rfl ?_
          obtain ⟨q162_19, hq162_19⟩ := zp_at (X := X) (f := f) h_a0
          refine z_callVN (pc := 162) (As := [.int s0_156, .long x12_141, .int s0_91, .int v15_5]) (rest := []) hZ (cV_setNearest l D tys X LP f a0 h_a0 s0_156 x12_141 s0_91 v15_5) zyV_setNearest (z_good co_V_setNearest) nl_R_64 (zb in_V) (zb im_V_setNearest) (zb se_V_setNearest) q162_19 hq162_19 rfl rfl rfl (by decide) rfl rfl (Nat.le_of_ble_eq_true rfl) ⟨Nat.zero_le _, Nat.zero_le _⟩ dR_addSmaller_162 (z_kv (fun w1 tys1 hp => ?_))
          obtain ⟨f162_19, rfl, rfl, p162_19⟩ := hp
          exact z_retv (pc := 165) hZ dR_addSmaller_165 rfl ⟨rfl, _, rfl, rfl, (by trivial)⟩
        refine z_lif_ge (pc := 147) hZ 155 dR_addSmaller_147 dR_addSmaller_148 (by decide) (fun c148_20 => ?_) (fun c148_20 => ?_)
        · refine z_iconst (pc := 155) hZ 0 dR_addSmaller_155 (by decide) ?_
          exact z_sub (pc := 156) hZ [0, 1, 2] rfl (J156 0)
        · refine z_iconst (pc := 151) hZ 1 dR_addSmaller_151 (by decide) ?_
          refine z_goto (pc := 152) hZ 156 dR_addSmaller_152 (by decide) ?_
          exact z_sub (pc := 156) hZ [0, 1, 2] rfl (J156 1)
      refine z_icmp_ne (pc := 109) hZ 122 dR_addSmaller_109 (by decide) (fun c109_21 => ?_) (fun c109_21 => ?_)
      · refine z_lload (pc := 122) hZ 0 dR_addSmaller_122 rfl ?_
        refine z_iload (pc := 124) hZ 1 dR_addSmaller_124 rfl ?_
        have J138 : ∀ (s0_138 : Int64), Z 0 0 tys 138 [(11, .int s0_91), (4, .int v15_5), (0, .ref a0), (1, .ref a1)] [.long s0_138, .long v98_15] (X ++ PL LP f) := by
          intro s0_138
          refine z_lsub (pc := 138) hZ dR_addSmaller_138 (fun v138_22 ev138_22 => ?_)
          refine z_lstore (pc := 139) hZ [(12, .long v138_22), (11, .int s0_91), (4, .int v15_5), (0, .ref a0), (1, .ref a1)] dR_addSmaller_139 (by decide) rfl ?_
          exact z_sub (pc := 141) hZ [0, 1, 2, 3, 4] rfl (J141 v138_22)
        refine z_if_eq (pc := 126) hZ 136 dR_addSmaller_126 (by decide) (fun c126_23 => ?_) (fun c126_23 => ?_)
        · refine z_lload (pc := 136) hZ 2 dR_addSmaller_136 rfl ?_
          exact z_sub (pc := 138) hZ [1, 3, 5, 6] rfl (J138 s0_66)
        · refine z_lload (pc := 129) hZ 2 dR_addSmaller_129 rfl ?_
          refine z_lconst (pc := 131) hZ 1 dR_addSmaller_131 (by decide) ?_
          refine z_ladd (pc := 132) hZ dR_addSmaller_132 (fun v132_24 ev132_24 => ?_)
          refine z_goto (pc := 133) hZ 138 dR_addSmaller_133 (by decide) ?_
          exact z_sub (pc := 138) hZ [1, 3, 5, 6] rfl (J138 v132_24)
      · refine z_lload (pc := 112) hZ 0 dR_addSmaller_112 rfl ?_
        refine z_lload (pc := 114) hZ 2 dR_addSmaller_114 rfl ?_
        refine z_ladd (pc := 116) hZ dR_addSmaller_116 (fun v116_25 ev116_25 => ?_)
        refine z_lstore (pc := 117) hZ [(12, .long v116_25), (11, .int s0_91), (9, .long s0_66), (4, .int v15_5), (3, .int v8_3), (0, .ref a0), (1, .ref a1), (2, .ref a2)] dR_addSmaller_117 (by decide) rfl ?_
        refine z_goto (pc := 119) hZ 141 dR_addSmaller_119 (by decide) ?_
        exact z_sub (pc := 141) hZ [0, 1, 3, 5, 6] rfl (J141 v116_25)
    have J86 : Z 0 0 tys 86 [(9, .long s0_66), (4, .int v15_5), (3, .int v8_3), (0, .ref a0), (1, .ref a1), (2, .ref a2)] [] (X ++ PL LP f) := by
      refine z_iconst (pc := 86) hZ 1 dR_addSmaller_86 (by decide) ?_
      refine z_goto (pc := 87) hZ 91 dR_addSmaller_87 (by decide) ?_
      exact z_sub (pc := 91) hZ [0, 1, 2, 3, 4, 5] rfl (J91 1)
    refine z_icmp_gt (pc := 72) hZ 86 dR_addSmaller_72 (by decide) (fun c72_26 => ?_) (fun c72_26 => ?_)
    · exact z_sub (pc := 86) hZ [0, 3, 4, 5, 6, 7] rfl (J86 )
    · refine z_lload (pc := 75) hZ 0 dR_addSmaller_75 rfl ?_
      refine z_iload (pc := 77) hZ 2 dR_addSmaller_77 rfl ?_
      refine z_lshl (pc := 79) hZ dR_addSmaller_79 (fun v79_27 ev79_27 => ?_)
      refine z_lload (pc := 80) hZ 1 dR_addSmaller_80 rfl ?_
      refine z_lif_eq (pc := 82) hZ 90 dR_addSmaller_82 dR_addSmaller_83 (by decide) (fun c83_28 => ?_) (fun c83_28 => ?_)
      · refine z_iconst (pc := 90) hZ 0 dR_addSmaller_90 (by decide) ?_
        exact z_sub (pc := 91) hZ [0, 3, 4, 5, 6, 7] rfl (J91 0)
      · exact z_sub (pc := 86) hZ [0, 3, 4, 5, 6, 7] rfl (J86 )
  refine z_icmp_le (pc := 54) hZ 61 dR_addSmaller_54 (by decide) (fun c54_29 => ?_) (fun c54_29 => ?_)
  · refine z_lload (pc := 61) hZ 0 dR_addSmaller_61 rfl ?_
    refine z_iload (pc := 63) hZ 1 dR_addSmaller_63 rfl ?_
    refine z_lushr (pc := 65) hZ dR_addSmaller_65 (fun v65_30 ev65_30 => ?_)
    exact z_sub (pc := 66) hZ [0, 1, 3, 4, 5, 6, 7] rfl (J66 v65_30)
  · refine z_lconst (pc := 57) hZ 0 dR_addSmaller_57 (by decide) ?_
    refine z_goto (pc := 58) hZ 66 dR_addSmaller_58 (by decide) ?_
    exact z_sub (pc := 66) hZ [0, 1, 3, 4, 5, 6, 7] rfl (J66 0)
set_option maxHeartbeats 4000000 in
set_option maxRecDepth 100000 in
theorem cR_add (l : Launch) (D : va_G) (tys : zT) (X : va_W) (LP : List Nat) (f : Nat → V3) (a0 : Nat) (h_a0 : a0 ∈ LP) (a1 : Nat) (h_a1 : a1 ∈ LP) : zM l D vwCl zNF zNM yR_add wsR_add { frames := 4, cells := 0, slots := 0, locals := 107 } [.ref a0, .ref a1] (X ++ PL LP f) tys (qV (fun w' tys' => ∃ f' : Nat → V3, X ++ PL LP f' = w' ∧ tys = tys' ∧ (True))) := by
  refine z_met (cc := bR_add) (maxL := 2) (ret := none) (isI := false) (own := RR) (by decide +kernel) rfl rfl (fun h => by cases h) (Nat.le_of_ble_eq_true rfl) (fun Z hZ => ?_)
  show Z 0 0 tys 0 [(0, .ref a0), (1, .ref a1)] [] (X ++ PL LP f)
  refine z_aload_n (pc := 0) hZ 0 dR_add_0 rfl rfl ?_
  refine z_aload_n (pc := 1) hZ 1 dR_add_1 rfl rfl ?_
  refine z_callS (pc := 2) (As := [.ref a0, .ref a1]) (rest := []) hZ (cR_hasNoNumber l D tys X LP f a0 h_a0 a1 h_a1) zyR_hasNoNumber (z_goodS ml_R_17 st_R_hasNoNumber in_R co_R_hasNoNumber) rfl rfl (by decide) rfl rfl (Nat.le_of_ble_eq_true rfl) ⟨Nat.zero_le _, Nat.zero_le _⟩ dR_add_2 (z_ki (fun r2_1 w1 tys1 hp => ?_))
  obtain ⟨rfl, rfl, p2_1⟩ := hp
  refine z_if_eq (pc := 5) hZ 16 dR_add_5 (by decide) (fun c5_2 => ?_) (fun c5_2 => ?_)
  · refine z_aload_n (pc := 16) hZ 0 dR_add_16 rfl rfl ?_
    obtain ⟨q17_3, hq17_3⟩ := zp_at (X := X) (f := f) h_a0
    refine z_callVN (pc := 17) (As := []) (rest := []) hZ (cV_isInfinite l D tys X LP f a0 h_a0) zyV_isInfinite (z_good co_V_isInfinite) nl_R_25 (zb in_V) (zb im_V_isInfinite) (zb se_V_isInfinite) q17_3 hq17_3 rfl rfl rfl (by decide) rfl rfl (Nat.le_of_ble_eq_true rfl) ⟨Nat.zero_le _, Nat.zero_le _⟩ dR_add_17 (z_ki (fun r17_3 w1 tys1 hp => ?_))
    obtain ⟨rfl, rfl, p17_3⟩ := hp
    refine z_if_eq (pc := 20) hZ 49 dR_add_20 (by decide) (fun c20_4 => ?_) (fun c20_4 => ?_)
    · refine z_aload_n (pc := 49) hZ 1 dR_add_49 rfl rfl ?_
      obtain ⟨q50_5, hq50_5⟩ := zp_at (X := X) (f := f) h_a1
      refine z_callVN (pc := 50) (As := []) (rest := []) hZ (cV_isInfinite l D tys X LP f a1 h_a1) zyV_isInfinite (z_good co_V_isInfinite) nl_R_25 (zb in_V) (zb im_V_isInfinite) (zb se_V_isInfinite) q50_5 hq50_5 rfl rfl rfl (by decide) rfl rfl (Nat.le_of_ble_eq_true rfl) ⟨Nat.zero_le _, Nat.zero_le _⟩ dR_add_50 (z_ki (fun r50_5 w1 tys1 hp => ?_))
      obtain ⟨rfl, rfl, p50_5⟩ := hp
      have J65 : Z 0 0 tys 65 [(0, .ref a0), (1, .ref a1)] [] (X ++ PL LP f) := by
        refine z_aload_n (pc := 65) hZ 0 dR_add_65 rfl rfl ?_
        refine z_aload_n (pc := 66) hZ 1 dR_add_66 rfl rfl ?_
        obtain ⟨q67_6, hq67_6⟩ := zp_at (X := X) (f := f) h_a0
        refine z_callVN (pc := 67) (As := [.ref a1]) (rest := []) hZ (cV_become l D tys X LP f a0 h_a0 a1 h_a1) zyV_become (z_good co_V_become) nl_R_33 (zb in_V) (zb im_V_become) (zb se_V_become) q67_6 hq67_6 rfl rfl rfl (by decide) rfl rfl (Nat.le_of_ble_eq_true rfl) ⟨Nat.zero_le _, Nat.zero_le _⟩ dR_add_67 (z_kv (fun w1 tys1 hp => ?_))
        obtain ⟨f67_6, rfl, rfl, p67_6⟩ := hp
        refine z_goto (pc := 70) hZ 105 dR_add_70 (by decide) ?_
        exact z_retv (pc := 105) hZ dR_add_105 rfl ⟨rfl, _, rfl, rfl, (by trivial)⟩
      refine z_if_ne (pc := 53) hZ 65 dR_add_53 (by decide) (fun c53_7 => ?_) (fun c53_7 => ?_)
      · exact z_sub (pc := 65) hZ [0, 1] rfl (J65 )
      · refine z_aload_n (pc := 56) hZ 0 dR_add_56 rfl rfl ?_
        refine z_pg1N (pc := 57) hZ h_a0 uc_V nf_R_29 dR_add_57 (fun v57_8 ev57_8 => ?_)
        refine z_lconst (pc := 60) hZ 0 dR_add_60 (by decide) ?_
        refine z_lif_ne (pc := 61) hZ 73 dR_add_61 dR_add_62 (by decide) (fun c62_9 => ?_) (fun c62_9 => ?_)
        · refine z_aload_n (pc := 73) hZ 1 dR_add_73 rfl rfl ?_
          refine z_pg1N (pc := 74) hZ h_a1 uc_V nf_R_29 dR_add_74 (fun v74_10 ev74_10 => ?_)
          refine z_lconst (pc := 77) hZ 0 dR_add_77 (by decide) ?_
          refine z_lif_eq (pc := 78) hZ 105 dR_add_78 dR_add_79 (by decide) (fun c79_11 => ?_) (fun c79_11 => ?_)
          · exact z_retv (pc := 105) hZ dR_add_105 rfl ⟨rfl, _, rfl, rfl, (by trivial)⟩
          · refine z_aload_n (pc := 82) hZ 0 dR_add_82 rfl rfl ?_
            refine z_aload_n (pc := 83) hZ 1 dR_add_83 rfl rfl ?_
            refine z_callSN (pc := 84) (As := [.ref a0, .ref a1]) (rest := []) hZ (cO_ofSizes l D tys X LP f a0 h_a0 a1 h_a1) zyO_ofSizes (z_good co_O_ofSizes) nl_R_37 (zb in_O) (zb st_O_ofSizes) rfl rfl (by decide) rfl rfl (Nat.le_of_ble_eq_true rfl) ⟨Nat.zero_le _, Nat.zero_le _⟩ dR_add_84 (z_ki (fun r84_12 w1 tys1 hp => ?_))
            obtain ⟨rfl, rfl, p84_12⟩ := hp
            refine z_if_lt (pc := 87) hZ 99 dR_add_87 (by decide) (fun c87_13 => ?_) (fun c87_13 => ?_)
            · refine z_aload_n (pc := 99) hZ 0 dR_add_99 rfl rfl ?_
              refine z_aload_n (pc := 100) hZ 1 dR_add_100 rfl rfl ?_
              refine z_aload_n (pc := 101) hZ 0 dR_add_101 rfl rfl ?_
              refine z_callS (pc := 102) (As := [.ref a0, .ref a1, .ref a0]) (rest := []) hZ (cR_addSmaller l D tys X LP f a0 h_a0 a1 h_a1 a0 h_a0) zyR_addSmaller (z_goodS ml_R_43 st_R_addSmaller in_R co_R_addSmaller) rfl rfl (by decide) rfl rfl (Nat.le_of_ble_eq_true rfl) ⟨Nat.zero_le _, Nat.zero_le _⟩ dR_add_102 (z_kv (fun w1 tys1 hp => ?_))
              obtain ⟨f102_14, rfl, rfl, p102_14⟩ := hp
              exact z_retv (pc := 105) hZ dR_add_105 rfl ⟨rfl, _, rfl, rfl, (by trivial)⟩
            · refine z_aload_n (pc := 90) hZ 0 dR_add_90 rfl rfl ?_
              refine z_aload_n (pc := 91) hZ 0 dR_add_91 rfl rfl ?_
              refine z_aload_n (pc := 92) hZ 1 dR_add_92 rfl rfl ?_
              refine z_callS (pc := 93) (As := [.ref a0, .ref a0, .ref a1]) (rest := []) hZ (cR_addSmaller l D tys X LP f a0 h_a0 a0 h_a0 a1 h_a1) zyR_addSmaller (z_goodS ml_R_43 st_R_addSmaller in_R co_R_addSmaller) rfl rfl (by decide) rfl rfl (Nat.le_of_ble_eq_true rfl) ⟨Nat.zero_le _, Nat.zero_le _⟩ dR_add_93 (z_kv (fun w1 tys1 hp => ?_))
              obtain ⟨f93_15, rfl, rfl, p93_15⟩ := hp
              refine z_goto (pc := 96) hZ 105 dR_add_96 (by decide) ?_
              exact z_retv (pc := 105) hZ dR_add_105 rfl ⟨rfl, _, rfl, rfl, (by trivial)⟩
        · exact z_sub (pc := 65) hZ [0, 1] rfl (J65 )
    · refine z_aload_n (pc := 23) hZ 1 dR_add_23 rfl rfl ?_
      obtain ⟨q24_16, hq24_16⟩ := zp_at (X := X) (f := f) h_a1
      refine z_callVN (pc := 24) (As := []) (rest := []) hZ (cV_isInfinite l D tys X LP f a1 h_a1) zyV_isInfinite (z_good co_V_isInfinite) nl_R_25 (zb in_V) (zb im_V_isInfinite) (zb se_V_isInfinite) q24_16 hq24_16 rfl rfl rfl (by decide) rfl rfl (Nat.le_of_ble_eq_true rfl) ⟨Nat.zero_le _, Nat.zero_le _⟩ dR_add_24 (z_ki (fun r24_16 w1 tys1 hp => ?_))
      obtain ⟨rfl, rfl, p24_16⟩ := hp
      refine z_if_eq (pc := 27) hZ 105 dR_add_27 (by decide) (fun c27_17 => ?_) (fun c27_17 => ?_)
      · exact z_retv (pc := 105) hZ dR_add_105 rfl ⟨rfl, _, rfl, rfl, (by trivial)⟩
      · refine z_aload_n (pc := 30) hZ 0 dR_add_30 rfl rfl ?_
        refine z_pg0N (pc := 31) hZ h_a0 uc_V nf_R_11 dR_add_31 (fun v31_18 ev31_18 => ?_)
        refine z_aload_n (pc := 34) hZ 1 dR_add_34 rfl rfl ?_
        refine z_pg0N (pc := 35) hZ h_a1 uc_V nf_R_11 dR_add_35 (fun v35_19 ev35_19 => ?_)
        refine z_icmp_eq (pc := 38) hZ 105 dR_add_38 (by decide) (fun c38_20 => ?_) (fun c38_20 => ?_)
        · exact z_retv (pc := 105) hZ dR_add_105 rfl ⟨rfl, _, rfl, rfl, (by trivial)⟩
        · refine z_aload_n (pc := 41) hZ 0 dR_add_41 rfl rfl ?_
          refine z_iconst (pc := 42) hZ 5 dR_add_42 (by decide) ?_
          obtain ⟨q43_21, hq43_21⟩ := zp_at (X := X) (f := f) h_a0
          refine z_callVN (pc := 43) (As := [.int 5]) (rest := []) hZ (cV_setSpecial l D tys X LP f a0 h_a0 5) zyV_setSpecial (z_good co_V_setSpecial) nl_R_21 (zb in_V) (zb im_V_setSpecial) (zb se_V_setSpecial) q43_21 hq43_21 rfl rfl rfl (by decide) rfl rfl (Nat.le_of_ble_eq_true rfl) ⟨Nat.zero_le _, Nat.zero_le _⟩ dR_add_43 (z_kv (fun w1 tys1 hp => ?_))
          obtain ⟨f43_21, rfl, rfl, p43_21⟩ := hp
          refine z_goto (pc := 46) hZ 105 dR_add_46 (by decide) ?_
          exact z_retv (pc := 105) hZ dR_add_105 rfl ⟨rfl, _, rfl, rfl, (by trivial)⟩
  · refine z_aload_n (pc := 8) hZ 0 dR_add_8 rfl rfl ?_
    refine z_iconst (pc := 9) hZ 5 dR_add_9 (by decide) ?_
    obtain ⟨q10_22, hq10_22⟩ := zp_at (X := X) (f := f) h_a0
    refine z_callVN (pc := 10) (As := [.int 5]) (rest := []) hZ (cV_setSpecial l D tys X LP f a0 h_a0 5) zyV_setSpecial (z_good co_V_setSpecial) nl_R_21 (zb in_V) (zb im_V_setSpecial) (zb se_V_setSpecial) q10_22 hq10_22 rfl rfl rfl (by decide) rfl rfl (Nat.le_of_ble_eq_true rfl) ⟨Nat.zero_le _, Nat.zero_le _⟩ dR_add_10 (z_kv (fun w1 tys1 hp => ?_))
    obtain ⟨f10_22, rfl, rfl, p10_22⟩ := hp
    refine z_goto (pc := 13) hZ 105 dR_add_13 (by decide) ?_
    exact z_retv (pc := 105) hZ dR_add_105 rfl ⟨rfl, _, rfl, rfl, (by trivial)⟩
set_option maxHeartbeats 4000000 in
set_option maxRecDepth 100000 in
theorem cR_multiplyFinite (l : Launch) (D : va_G) (tys : zT) (X : va_W) (LP : List Nat) (f : Nat → V3) (a0 : Nat) (h_a0 : a0 ∈ LP) (a1 : Nat) (h_a1 : a1 ∈ LP) (p2 : Int32) : zM l D vwCl zNF zNM yR_multiplyFinite wsR_multiplyFinite { frames := 3, cells := 0, slots := 0, locals := 74 } [.ref a0, .ref a1, .int p2] (X ++ PL LP f) tys (qV (fun w' tys' => ∃ f' : Nat → V3, X ++ PL LP f' = w' ∧ tys = tys' ∧ (True))) := by
  refine z_met (cc := bR_multiplyFinite) (maxL := 22) (ret := none) (isI := false) (own := RR) (by decide +kernel) rfl rfl (fun h => by cases h) (Nat.le_of_ble_eq_true rfl) (fun Z hZ => ?_)
  show Z 0 0 tys 0 [(0, .ref a0), (1, .ref a1), (2, .int p2)] [] (X ++ PL LP f)
  refine z_aload_n (pc := 0) hZ 0 dR_multiplyFinite_0 rfl rfl ?_
  obtain ⟨q1_1, hq1_1⟩ := zp_at (X := X) (f := f) h_a0
  refine z_callVN (pc := 1) (As := []) (rest := []) hZ (cV_size l D tys X LP f a0 h_a0) zyV_size (z_good co_V_size) nl_R_47 (zb in_V) (zb im_V_size) (zb se_V_size) q1_1 hq1_1 rfl rfl rfl (by decide) rfl rfl (Nat.le_of_ble_eq_true rfl) ⟨Nat.zero_le _, Nat.zero_le _⟩ dR_multiplyFinite_1 (z_kl (fun r1_1 w1 tys1 hp => ?_))
  obtain ⟨rfl, rfl, p1_1⟩ := hp
  refine z_bipush (pc := 4) hZ 27 dR_multiplyFinite_4 (by decide) ?_
  refine z_lushr (pc := 6) hZ dR_multiplyFinite_6 (fun v6_2 ev6_2 => ?_)
  refine z_lstore_n (pc := 7) hZ [(3, .long v6_2), (0, .ref a0), (1, .ref a1), (2, .int p2)] dR_multiplyFinite_7 rfl (by decide) rfl ?_
  refine z_aload_n (pc := 8) hZ 1 dR_multiplyFinite_8 rfl rfl ?_
  obtain ⟨q9_3, hq9_3⟩ := zp_at (X := X) (f := f) h_a0
  refine z_callVN (pc := 9) (As := []) (rest := []) hZ (cV_size l D tys X LP f a0 h_a0) zyV_size (z_good co_V_size) nl_R_47 (zb in_V) (zb im_V_size) (zb se_V_size) q9_3 hq9_3 rfl rfl rfl (by decide) rfl rfl (Nat.le_of_ble_eq_true rfl) ⟨Nat.zero_le _, Nat.zero_le _⟩ dR_multiplyFinite_9 (z_kl (fun r9_3 w1 tys1 hp => ?_))
  obtain ⟨rfl, rfl, p9_3⟩ := hp
  refine z_ldc2 (pc := 12) hZ 134217727 (zb kc_R_76) dR_multiplyFinite_12 ?_
  refine z_land (pc := 15) hZ dR_multiplyFinite_15 (fun v15_4 ev15_4 => ?_)
  refine z_lstore (pc := 16) hZ [(5, .long v15_4), (3, .long v6_2), (0, .ref a0), (1, .ref a1), (2, .int p2)] dR_multiplyFinite_16 (by decide) rfl ?_
  refine z_aload_n (pc := 18) hZ 3 dR_multiplyFinite_18 rfl rfl ?_
  obtain ⟨q19_5, hq19_5⟩ := zp_at (X := X) (f := f) h_a1
  refine z_callVN (pc := 19) (As := []) (rest := []) hZ (cV_size l D tys X LP f a1 h_a1) zyV_size (z_good co_V_size) nl_R_47 (zb in_V) (zb im_V_size) (zb se_V_size) q19_5 hq19_5 rfl rfl rfl (by decide) rfl rfl (Nat.le_of_ble_eq_true rfl) ⟨Nat.zero_le _, Nat.zero_le _⟩ dR_multiplyFinite_19 (z_kl (fun r19_5 w1 tys1 hp => ?_))
  obtain ⟨rfl, rfl, p19_5⟩ := hp
  refine z_bipush (pc := 22) hZ 27 dR_multiplyFinite_22 (by decide) ?_
  refine z_lushr (pc := 24) hZ dR_multiplyFinite_24 (fun v24_6 ev24_6 => ?_)
  refine z_lstore (pc := 25) hZ [(7, .long v24_6), (5, .long v15_4), (3, .long v6_2), (0, .ref a0), (1, .ref a1), (2, .int p2)] dR_multiplyFinite_25 (by decide) rfl ?_
  refine z_aload_n (pc := 27) hZ 4 dR_multiplyFinite_27 rfl rfl ?_
  obtain ⟨q28_7, hq28_7⟩ := zp_at (X := X) (f := f) h_a1
  refine z_callVN (pc := 28) (As := []) (rest := []) hZ (cV_size l D tys X LP f a1 h_a1) zyV_size (z_good co_V_size) nl_R_47 (zb in_V) (zb im_V_size) (zb se_V_size) q28_7 hq28_7 rfl rfl rfl (by decide) rfl rfl (Nat.le_of_ble_eq_true rfl) ⟨Nat.zero_le _, Nat.zero_le _⟩ dR_multiplyFinite_28 (z_kl (fun r28_7 w1 tys1 hp => ?_))
  obtain ⟨rfl, rfl, p28_7⟩ := hp
  refine z_ldc2 (pc := 31) hZ 134217727 (zb kc_R_76) dR_multiplyFinite_31 ?_
  refine z_land (pc := 34) hZ dR_multiplyFinite_34 (fun v34_8 ev34_8 => ?_)
  refine z_lstore (pc := 35) hZ [(9, .long v34_8), (7, .long v24_6), (5, .long v15_4), (3, .long v6_2), (0, .ref a0), (1, .ref a1), (2, .int p2)] dR_multiplyFinite_35 (by decide) rfl ?_
  refine z_lload_n (pc := 37) hZ 3 dR_multiplyFinite_37 rfl rfl ?_
  refine z_lload (pc := 38) hZ 0 dR_multiplyFinite_38 rfl ?_
  refine z_lmul (pc := 40) hZ dR_multiplyFinite_40 (fun v40_9 ev40_9 => ?_)
  refine z_lload (pc := 41) hZ 2 dR_multiplyFinite_41 rfl ?_
  refine z_lload (pc := 43) hZ 1 dR_multiplyFinite_43 rfl ?_
  refine z_lmul (pc := 45) hZ dR_multiplyFinite_45 (fun v45_10 ev45_10 => ?_)
  refine z_ladd (pc := 46) hZ dR_multiplyFinite_46 (fun v46_11 ev46_11 => ?_)
  refine z_lstore (pc := 47) hZ [(11, .long v46_11), (9, .long v34_8), (7, .long v24_6), (5, .long v15_4), (3, .long v6_2), (0, .ref a0), (1, .ref a1), (2, .int p2)] dR_multiplyFinite_47 (by decide) rfl ?_
  refine z_lload (pc := 49) hZ 3 dR_multiplyFinite_49 rfl ?_
  refine z_lload (pc := 51) hZ 1 dR_multiplyFinite_51 rfl ?_
  refine z_lmul (pc := 53) hZ dR_multiplyFinite_53 (fun v53_12 ev53_12 => ?_)
  refine z_lload (pc := 54) hZ 0 dR_multiplyFinite_54 rfl ?_
  refine z_ldc2 (pc := 56) hZ 134217727 (zb kc_R_76) dR_multiplyFinite_56 ?_
  refine z_land (pc := 59) hZ dR_multiplyFinite_59 (fun v59_13 ev59_13 => ?_)
  refine z_bipush (pc := 60) hZ 27 dR_multiplyFinite_60 (by decide) ?_
  refine z_lshl (pc := 62) hZ dR_multiplyFinite_62 (fun v62_14 ev62_14 => ?_)
  refine z_ladd (pc := 63) hZ dR_multiplyFinite_63 (fun v63_15 ev63_15 => ?_)
  refine z_lstore (pc := 64) hZ [(13, .long v63_15), (11, .long v46_11), (9, .long v34_8), (7, .long v24_6), (5, .long v15_4), (3, .long v6_2), (0, .ref a0), (1, .ref a1), (2, .int p2)] dR_multiplyFinite_64 (by decide) rfl ?_
  refine z_lload_n (pc := 66) hZ 5 dR_multiplyFinite_66 rfl rfl ?_
  refine z_lload (pc := 67) hZ 3 dR_multiplyFinite_67 rfl ?_
  refine z_lmul (pc := 69) hZ dR_multiplyFinite_69 (fun v69_16 ev69_16 => ?_)
  refine z_lload (pc := 70) hZ 1 dR_multiplyFinite_70 rfl ?_
  refine z_bipush (pc := 72) hZ 27 dR_multiplyFinite_72 (by decide) ?_
  refine z_lushr (pc := 74) hZ dR_multiplyFinite_74 (fun v74_17 ev74_17 => ?_)
  refine z_ladd (pc := 75) hZ dR_multiplyFinite_75 (fun v75_18 ev75_18 => ?_)
  refine z_lload (pc := 76) hZ 0 dR_multiplyFinite_76 rfl ?_
  refine z_bipush (pc := 78) hZ 54 dR_multiplyFinite_78 (by decide) ?_
  refine z_lushr (pc := 80) hZ dR_multiplyFinite_80 (fun v80_19 ev80_19 => ?_)
  refine z_ladd (pc := 81) hZ dR_multiplyFinite_81 (fun v81_20 ev81_20 => ?_)
  refine z_lstore (pc := 82) hZ [(15, .long v81_20), (13, .long v63_15), (11, .long v46_11), (9, .long v34_8), (7, .long v24_6), (5, .long v15_4), (3, .long v6_2), (0, .ref a0), (1, .ref a1), (2, .int p2)] dR_multiplyFinite_82 (by decide) rfl ?_
  refine z_lload (pc := 84) hZ 1 dR_multiplyFinite_84 rfl ?_
  refine z_ldc2 (pc := 86) hZ 18014398509481983 (zb kc_R_78) dR_multiplyFinite_86 ?_
  refine z_land (pc := 89) hZ dR_multiplyFinite_89 (fun v89_21 ev89_21 => ?_)
  refine z_lstore (pc := 90) hZ [(13, .long v89_21), (15, .long v81_20), (11, .long v46_11), (9, .long v34_8), (7, .long v24_6), (5, .long v15_4), (3, .long v6_2), (0, .ref a0), (1, .ref a1), (2, .int p2)] dR_multiplyFinite_90 (by decide) rfl ?_
  refine z_lload (pc := 92) hZ 1 dR_multiplyFinite_92 rfl ?_
  refine z_callS (pc := 94) (As := [.long v81_20]) (rest := []) hZ (cJL_numberOfLeadingZeros l D tys (X ++ PL LP f) v81_20) zyJL_numberOfLeadingZeros (z_goodS ml_R_51 st_JL_numberOfLeadingZeros in_JL co_JL_numberOfLeadingZeros) rfl rfl (by decide) rfl rfl (Nat.le_of_ble_eq_true rfl) ⟨Nat.zero_le _, Nat.zero_le _⟩ dR_multiplyFinite_94 (z_ki (fun r94_22 w1 tys1 hp => ?_))
  obtain ⟨rfl, rfl, p94_22⟩ := hp
  refine z_iconst (pc := 97) hZ 1 dR_multiplyFinite_97 (by decide) ?_
  refine z_isub (pc := 98) hZ dR_multiplyFinite_98 (fun v98_23 ev98_23 => ?_)
  refine z_bipush (pc := 99) hZ 54 dR_multiplyFinite_99 (by decide) ?_
  refine z_mmin (pc := 101) hZ (zb ml_R_80) (zb st_JM_min) (zb in_Math) (zb co_JM_min) (by decide) (Nat.le_of_ble_eq_true rfl) (Nat.zero_le _) (Nat.zero_le _) dR_multiplyFinite_101 (fun v101_24 ev101_24 => ?_)
  refine z_istore (pc := 104) hZ [(17, .int v101_24), (13, .long v89_21), (15, .long v81_20), (11, .long v46_11), (9, .long v34_8), (7, .long v24_6), (5, .long v15_4), (3, .long v6_2), (0, .ref a0), (1, .ref a1), (2, .int p2)] dR_multiplyFinite_104 (by decide) rfl ?_
  refine z_bipush (pc := 106) hZ 54 dR_multiplyFinite_106 (by decide) ?_
  refine z_iload (pc := 108) hZ 0 dR_multiplyFinite_108 rfl ?_
  refine z_isub (pc := 110) hZ dR_multiplyFinite_110 (fun v110_25 ev110_25 => ?_)
  refine z_istore (pc := 111) hZ [(18, .int v110_25), (17, .int v101_24), (13, .long v89_21), (15, .long v81_20), (11, .long v46_11), (9, .long v34_8), (7, .long v24_6), (5, .long v15_4), (3, .long v6_2), (0, .ref a0), (1, .ref a1), (2, .int p2)] dR_multiplyFinite_111 (by decide) rfl ?_
  refine z_lload (pc := 113) hZ 2 dR_multiplyFinite_113 rfl ?_
  refine z_iload (pc := 115) hZ 0 dR_multiplyFinite_115 rfl ?_
  refine z_lushr (pc := 117) hZ dR_multiplyFinite_117 (fun v117_26 ev117_26 => ?_)
  refine z_lstore (pc := 118) hZ [(19, .long v117_26), (18, .int v110_25), (17, .int v101_24), (13, .long v89_21), (15, .long v81_20), (11, .long v46_11), (9, .long v34_8), (7, .long v24_6), (5, .long v15_4), (3, .long v6_2), (0, .ref a0), (1, .ref a1), (2, .int p2)] dR_multiplyFinite_118 (by decide) rfl ?_
  refine z_lload (pc := 120) hZ 0 dR_multiplyFinite_120 rfl ?_
  refine z_iload (pc := 122) hZ 1 dR_multiplyFinite_122 rfl ?_
  refine z_lshl (pc := 124) hZ dR_multiplyFinite_124 (fun v124_27 ev124_27 => ?_)
  refine z_lload (pc := 125) hZ 3 dR_multiplyFinite_125 rfl ?_
  have J136 : ∀ (s0_136 : Int32), Z 0 0 tys 136 [(19, .long v117_26), (18, .int v110_25), (17, .int v101_24), (15, .long v81_20), (0, .ref a0), (1, .ref a1), (2, .int p2)] [.int s0_136] (X ++ PL LP f) := by
    intro s0_136
    refine z_istore (pc := 136) hZ [(21, .int s0_136), (19, .long v117_26), (18, .int v110_25), (17, .int v101_24), (15, .long v81_20), (0, .ref a0), (1, .ref a1), (2, .int p2)] dR_multiplyFinite_136 (by decide) rfl ?_
    refine z_aload_n (pc := 138) hZ 5 dR_multiplyFinite_138 rfl rfl ?_
    refine z_iload_n (pc := 139) hZ 7 dR_multiplyFinite_139 rfl rfl ?_
    refine z_lload (pc := 140) hZ 4 dR_multiplyFinite_140 rfl ?_
    refine z_iload (pc := 142) hZ 3 dR_multiplyFinite_142 rfl ?_
    refine z_lshl (pc := 144) hZ dR_multiplyFinite_144 (fun v144_28 ev144_28 => ?_)
    refine z_lload (pc := 145) hZ 1 dR_multiplyFinite_145 rfl ?_
    refine z_ladd (pc := 147) hZ dR_multiplyFinite_147 (fun v147_29 ev147_29 => ?_)
    refine z_iload (pc := 148) hZ 0 dR_multiplyFinite_148 rfl ?_
    refine z_aload_n (pc := 150) hZ 5 dR_multiplyFinite_150 rfl rfl ?_
    refine z_pg2N (pc := 151) hZ h_a0 uc_V nf_R_57 dR_multiplyFinite_151 (fun v151_30 ev151_30 => ?_)
    refine z_aload_n (pc := 154) hZ 6 dR_multiplyFinite_154 rfl rfl ?_
    refine z_pg2N (pc := 155) hZ h_a1 uc_V nf_R_57 dR_multiplyFinite_155 (fun v155_31 ev155_31 => ?_)
    refine z_iadd (pc := 158) hZ dR_multiplyFinite_158 (fun v158_32 ev158_32 => ?_)
    refine z_iload (pc := 159) hZ 2 dR_multiplyFinite_159 rfl ?_
    refine z_iadd (pc := 161) hZ dR_multiplyFinite_161 (fun v161_33 ev161_33 => ?_)
    obtain ⟨q162_34, hq162_34⟩ := zp_at (X := X) (f := f) h_a0
    refine z_callVN (pc := 162) (As := [.int p2, .long v147_29, .int s0_136, .int v161_33]) (rest := []) hZ (cV_setNearest l D tys X LP f a0 h_a0 p2 v147_29 s0_136 v161_33) zyV_setNearest (z_good co_V_setNearest) nl_R_64 (zb in_V) (zb im_V_setNearest) (zb se_V_setNearest) q162_34 hq162_34 rfl rfl rfl (by decide) rfl rfl (Nat.le_of_ble_eq_true rfl) ⟨Nat.zero_le _, Nat.zero_le _⟩ dR_multiplyFinite_162 (z_kv (fun w1 tys1 hp => ?_))
    obtain ⟨f162_34, rfl, rfl, p162_34⟩ := hp
    exact z_retv (pc := 165) hZ dR_multiplyFinite_165 rfl ⟨rfl, _, rfl, rfl, (by trivial)⟩
  refine z_lif_eq (pc := 127) hZ 135 dR_multiplyFinite_127 dR_multiplyFinite_128 (by decide) (fun c128_35 => ?_) (fun c128_35 => ?_)
  · refine z_iconst (pc := 135) hZ 0 dR_multiplyFinite_135 (by decide) ?_
    exact z_sub (pc := 136) hZ [0, 1, 2, 4, 10, 11, 12] rfl (J136 0)
  · refine z_iconst (pc := 131) hZ 1 dR_multiplyFinite_131 (by decide) ?_
    refine z_goto (pc := 132) hZ 136 dR_multiplyFinite_132 (by decide) ?_
    exact z_sub (pc := 136) hZ [0, 1, 2, 4, 10, 11, 12] rfl (J136 1)
set_option maxHeartbeats 4000000 in
set_option maxRecDepth 100000 in
theorem cR_multiply (l : Launch) (D : va_G) (tys : zT) (X : va_W) (LP : List Nat) (f : Nat → V3) (a0 : Nat) (h_a0 : a0 ∈ LP) (a1 : Nat) (h_a1 : a1 ∈ LP) : zM l D vwCl zNF zNM yR_multiply wsR_multiply { frames := 4, cells := 0, slots := 0, locals := 115 } [.ref a0, .ref a1] (X ++ PL LP f) tys (qV (fun w' tys' => ∃ f' : Nat → V3, X ++ PL LP f' = w' ∧ tys = tys' ∧ (True))) := by
  refine z_met (cc := bR_multiply) (maxL := 3) (ret := none) (isI := false) (own := RR) (by decide +kernel) rfl rfl (fun h => by cases h) (Nat.le_of_ble_eq_true rfl) (fun Z hZ => ?_)
  show Z 0 0 tys 0 [(0, .ref a0), (1, .ref a1)] [] (X ++ PL LP f)
  refine z_aload_n (pc := 0) hZ 0 dR_multiply_0 rfl rfl ?_
  refine z_aload_n (pc := 1) hZ 1 dR_multiply_1 rfl rfl ?_
  refine z_callS (pc := 2) (As := [.ref a0, .ref a1]) (rest := []) hZ (cR_hasNoNumber l D tys X LP f a0 h_a0 a1 h_a1) zyR_hasNoNumber (z_goodS ml_R_17 st_R_hasNoNumber in_R co_R_hasNoNumber) rfl rfl (by decide) rfl rfl (Nat.le_of_ble_eq_true rfl) ⟨Nat.zero_le _, Nat.zero_le _⟩ dR_multiply_2 (z_ki (fun r2_1 w1 tys1 hp => ?_))
  obtain ⟨rfl, rfl, p2_1⟩ := hp
  refine z_if_eq (pc := 5) hZ 14 dR_multiply_5 (by decide) (fun c5_2 => ?_) (fun c5_2 => ?_)
  · refine z_aload_n (pc := 14) hZ 0 dR_multiply_14 rfl rfl ?_
    obtain ⟨q15_3, hq15_3⟩ := zp_at (X := X) (f := f) h_a0
    refine z_callVN (pc := 15) (As := []) (rest := []) hZ (cV_sign l D tys X LP f a0 h_a0) zyV_sign (z_good co_V_sign) nl_R_60 (zb in_V) (zb im_V_sign) (zb se_V_sign) q15_3 hq15_3 rfl rfl rfl (by decide) rfl rfl (Nat.le_of_ble_eq_true rfl) ⟨Nat.zero_le _, Nat.zero_le _⟩ dR_multiply_15 (z_ki (fun r15_3 w1 tys1 hp => ?_))
    obtain ⟨rfl, rfl, p15_3⟩ := hp
    refine z_aload_n (pc := 18) hZ 1 dR_multiply_18 rfl rfl ?_
    obtain ⟨q19_4, hq19_4⟩ := zp_at (X := X) (f := f) h_a1
    refine z_callVN (pc := 19) (As := []) (rest := [.int r15_3]) hZ (cV_sign l D tys X LP f a1 h_a1) zyV_sign (z_good co_V_sign) nl_R_60 (zb in_V) (zb im_V_sign) (zb se_V_sign) q19_4 hq19_4 rfl rfl rfl (by decide) rfl rfl (Nat.le_of_ble_eq_true rfl) ⟨Nat.zero_le _, Nat.zero_le _⟩ dR_multiply_19 (z_ki (fun r19_4 w1 tys1 hp => ?_))
    obtain ⟨rfl, rfl, p19_4⟩ := hp
    refine z_imul (pc := 22) hZ dR_multiply_22 (fun v22_5 ev22_5 => ?_)
    refine z_istore_n (pc := 23) hZ [(2, .int v22_5), (0, .ref a0), (1, .ref a1)] dR_multiply_23 rfl (by decide) rfl ?_
    refine z_aload_n (pc := 24) hZ 1 dR_multiply_24 rfl rfl ?_
    obtain ⟨q25_6, hq25_6⟩ := zp_at (X := X) (f := f) h_a0
    refine z_callVN (pc := 25) (As := []) (rest := []) hZ (cV_isInfinite l D tys X LP f a0 h_a0) zyV_isInfinite (z_good co_V_isInfinite) nl_R_25 (zb in_V) (zb im_V_isInfinite) (zb se_V_isInfinite) q25_6 hq25_6 rfl rfl rfl (by decide) rfl rfl (Nat.le_of_ble_eq_true rfl) ⟨Nat.zero_le _, Nat.zero_le _⟩ dR_multiply_25 (z_ki (fun r25_6 w1 tys1 hp => ?_))
    obtain ⟨rfl, rfl, p25_6⟩ := hp
    have J55 : Z 0 0 tys 55 [(2, .int v22_5), (0, .ref a0)] [] (X ++ PL LP f) := by
      refine z_iload_n (pc := 55) hZ 0 dR_multiply_55 rfl rfl ?_
      refine z_if_ne (pc := 56) hZ 67 dR_multiply_56 (by decide) (fun c56_7 => ?_) (fun c56_7 => ?_)
      · refine z_aload_n (pc := 67) hZ 1 dR_multiply_67 rfl rfl ?_
        refine z_iload_n (pc := 68) hZ 0 dR_multiply_68 rfl rfl ?_
        have J77 : ∀ (s0_77 : Int32), Z 0 0 tys 77 [] [.int s0_77, .ref a0] (X ++ PL LP f) := by
          intro s0_77
          obtain ⟨q77_8, hq77_8⟩ := zp_at (X := X) (f := f) h_a0
          refine z_callVN (pc := 77) (As := [.int s0_77]) (rest := []) hZ (cV_setInfinity l D tys X LP f a0 h_a0 s0_77) zyV_setInfinity (z_good co_V_setInfinity) nl_R_72 (zb in_V) (zb im_V_setInfinity) (zb se_V_setInfinity) q77_8 hq77_8 rfl rfl rfl (by decide) rfl rfl (Nat.le_of_ble_eq_true rfl) ⟨Nat.zero_le _, Nat.zero_le _⟩ dR_multiply_77 (z_kv (fun w1 tys1 hp => ?_))
          obtain ⟨f77_8, rfl, rfl, p77_8⟩ := hp
          exact z_retv (pc := 80) hZ dR_multiply_80 rfl ⟨rfl, _, rfl, rfl, (by trivial)⟩
        refine z_if_ge (pc := 69) hZ 76 dR_multiply_69 (by decide) (fun c69_9 => ?_) (fun c69_9 => ?_)
        · refine z_iconst (pc := 76) hZ 0 dR_multiply_76 (by decide) ?_
          exact z_sub (pc := 77) hZ [] rfl (J77 0)
        · refine z_iconst (pc := 72) hZ 1 dR_multiply_72 (by decide) ?_
          refine z_goto (pc := 73) hZ 77 dR_multiply_73 (by decide) ?_
          exact z_sub (pc := 77) hZ [] rfl (J77 1)
      · refine z_aload_n (pc := 59) hZ 1 dR_multiply_59 rfl rfl ?_
        refine z_iconst (pc := 60) hZ 5 dR_multiply_60 (by decide) ?_
        obtain ⟨q61_10, hq61_10⟩ := zp_at (X := X) (f := f) h_a0
        refine z_callVN (pc := 61) (As := [.int 5]) (rest := []) hZ (cV_setSpecial l D tys X LP f a0 h_a0 5) zyV_setSpecial (z_good co_V_setSpecial) nl_R_21 (zb in_V) (zb im_V_setSpecial) (zb se_V_setSpecial) q61_10 hq61_10 rfl rfl rfl (by decide) rfl rfl (Nat.le_of_ble_eq_true rfl) ⟨Nat.zero_le _, Nat.zero_le _⟩ dR_multiply_61 (z_kv (fun w1 tys1 hp => ?_))
        obtain ⟨f61_10, rfl, rfl, p61_10⟩ := hp
        refine z_goto (pc := 64) hZ 80 dR_multiply_64 (by decide) ?_
        exact z_retv (pc := 80) hZ dR_multiply_80 rfl ⟨rfl, _, rfl, rfl, (by trivial)⟩
    refine z_if_ne (pc := 28) hZ 55 dR_multiply_28 (by decide) (fun c28_11 => ?_) (fun c28_11 => ?_)
    · exact z_sub (pc := 55) hZ [0, 1] rfl (J55 )
    · refine z_aload_n (pc := 31) hZ 2 dR_multiply_31 rfl rfl ?_
      obtain ⟨q32_12, hq32_12⟩ := zp_at (X := X) (f := f) h_a1
      refine z_callVN (pc := 32) (As := []) (rest := []) hZ (cV_isInfinite l D tys X LP f a1 h_a1) zyV_isInfinite (z_good co_V_isInfinite) nl_R_25 (zb in_V) (zb im_V_isInfinite) (zb se_V_isInfinite) q32_12 hq32_12 rfl rfl rfl (by decide) rfl rfl (Nat.le_of_ble_eq_true rfl) ⟨Nat.zero_le _, Nat.zero_le _⟩ dR_multiply_32 (z_ki (fun r32_12 w1 tys1 hp => ?_))
      obtain ⟨rfl, rfl, p32_12⟩ := hp
      refine z_if_ne (pc := 35) hZ 55 dR_multiply_35 (by decide) (fun c35_13 => ?_) (fun c35_13 => ?_)
      · exact z_sub (pc := 55) hZ [0, 1] rfl (J55 )
      · refine z_aload_n (pc := 38) hZ 1 dR_multiply_38 rfl rfl ?_
        refine z_aload_n (pc := 39) hZ 2 dR_multiply_39 rfl rfl ?_
        refine z_iload_n (pc := 40) hZ 0 dR_multiply_40 rfl rfl ?_
        have J49 : ∀ (s0_49 : Int32), Z 0 0 tys 49 [] [.int s0_49, .ref a1, .ref a0] (X ++ PL LP f) := by
          intro s0_49
          refine z_callS (pc := 49) (As := [.ref a0, .ref a1, .int s0_49]) (rest := []) hZ (cR_multiplyFinite l D tys X LP f a0 h_a0 a1 h_a1 s0_49) zyR_multiplyFinite (z_goodS ml_R_68 st_R_multiplyFinite in_R co_R_multiplyFinite) rfl rfl (by decide) rfl rfl (Nat.le_of_ble_eq_true rfl) ⟨Nat.zero_le _, Nat.zero_le _⟩ dR_multiply_49 (z_kv (fun w1 tys1 hp => ?_))
          obtain ⟨f49_14, rfl, rfl, p49_14⟩ := hp
          refine z_goto (pc := 52) hZ 80 dR_multiply_52 (by decide) ?_
          exact z_retv (pc := 80) hZ dR_multiply_80 rfl ⟨rfl, _, rfl, rfl, (by trivial)⟩
        refine z_if_ge (pc := 41) hZ 48 dR_multiply_41 (by decide) (fun c41_15 => ?_) (fun c41_15 => ?_)
        · refine z_iconst (pc := 48) hZ 0 dR_multiply_48 (by decide) ?_
          exact z_sub (pc := 49) hZ [] rfl (J49 0)
        · refine z_iconst (pc := 44) hZ 1 dR_multiply_44 (by decide) ?_
          refine z_goto (pc := 45) hZ 49 dR_multiply_45 (by decide) ?_
          exact z_sub (pc := 49) hZ [] rfl (J49 1)
  · refine z_aload_n (pc := 8) hZ 0 dR_multiply_8 rfl rfl ?_
    refine z_iconst (pc := 9) hZ 5 dR_multiply_9 (by decide) ?_
    obtain ⟨q10_16, hq10_16⟩ := zp_at (X := X) (f := f) h_a0
    refine z_callVN (pc := 10) (As := [.int 5]) (rest := []) hZ (cV_setSpecial l D tys X LP f a0 h_a0 5) zyV_setSpecial (z_good co_V_setSpecial) nl_R_21 (zb in_V) (zb im_V_setSpecial) (zb se_V_setSpecial) q10_16 hq10_16 rfl rfl rfl (by decide) rfl rfl (Nat.le_of_ble_eq_true rfl) ⟨Nat.zero_le _, Nat.zero_le _⟩ dR_multiply_10 (z_kv (fun w1 tys1 hp => ?_))
    obtain ⟨f10_16, rfl, rfl, p10_16⟩ := hp
    exact z_retv (pc := 13) hZ dR_multiply_13 rfl ⟨rfl, _, rfl, rfl, (by trivial)⟩
set_option maxHeartbeats 4000000 in
set_option maxRecDepth 100000 in
theorem cR_divideByZero (l : Launch) (D : va_G) (tys : zT) (X : va_W) (LP : List Nat) (f : Nat → V3) (a0 : Nat) (h_a0 : a0 ∈ LP) : zM l D vwCl zNF zNM yR_divideByZero wsR_divideByZero { frames := 2, cells := 0, slots := 0, locals := 41 } [.ref a0] (X ++ PL LP f) tys (qV (fun w' tys' => ∃ f' : Nat → V3, X ++ PL LP f' = w' ∧ tys = tys' ∧ (True))) := by
  refine z_met (cc := bR_divideByZero) (maxL := 1) (ret := none) (isI := false) (own := RR) (by decide +kernel) rfl rfl (fun h => by cases h) (Nat.le_of_ble_eq_true rfl) (fun Z hZ => ?_)
  show Z 0 0 tys 0 [(0, .ref a0)] [] (X ++ PL LP f)
  refine z_aload_n (pc := 0) hZ 0 dR_divideByZero_0 rfl rfl ?_
  obtain ⟨q1_1, hq1_1⟩ := zp_at (X := X) (f := f) h_a0
  refine z_callVN (pc := 1) (As := []) (rest := []) hZ (cV_sign l D tys X LP f a0 h_a0) zyV_sign (z_good co_V_sign) nl_R_60 (zb in_V) (zb im_V_sign) (zb se_V_sign) q1_1 hq1_1 rfl rfl rfl (by decide) rfl rfl (Nat.le_of_ble_eq_true rfl) ⟨Nat.zero_le _, Nat.zero_le _⟩ dR_divideByZero_1 (z_ki (fun r1_1 w1 tys1 hp => ?_))
  obtain ⟨rfl, rfl, p1_1⟩ := hp
  refine z_if_ne (pc := 4) hZ 15 dR_divideByZero_4 (by decide) (fun c4_2 => ?_) (fun c4_2 => ?_)
  · refine z_aload_n (pc := 15) hZ 0 dR_divideByZero_15 rfl rfl ?_
    refine z_aload_n (pc := 16) hZ 0 dR_divideByZero_16 rfl rfl ?_
    obtain ⟨q17_3, hq17_3⟩ := zp_at (X := X) (f := f) h_a0
    refine z_callVN (pc := 17) (As := []) (rest := [.ref a0]) hZ (cV_sign l D tys X LP f a0 h_a0) zyV_sign (z_good co_V_sign) nl_R_60 (zb in_V) (zb im_V_sign) (zb se_V_sign) q17_3 hq17_3 rfl rfl rfl (by decide) rfl rfl (Nat.le_of_ble_eq_true rfl) ⟨Nat.zero_le _, Nat.zero_le _⟩ dR_divideByZero_17 (z_ki (fun r17_3 w1 tys1 hp => ?_))
    obtain ⟨rfl, rfl, p17_3⟩ := hp
    have J28 : ∀ (s0_28 : Int32), Z 0 0 tys 28 [] [.int s0_28, .ref a0] (X ++ PL LP f) := by
      intro s0_28
      obtain ⟨q28_4, hq28_4⟩ := zp_at (X := X) (f := f) h_a0
      refine z_callVN (pc := 28) (As := [.int s0_28]) (rest := []) hZ (cV_setInfinity l D tys X LP f a0 h_a0 s0_28) zyV_setInfinity (z_good co_V_setInfinity) nl_R_72 (zb in_V) (zb im_V_setInfinity) (zb se_V_setInfinity) q28_4 hq28_4 rfl rfl rfl (by decide) rfl rfl (Nat.le_of_ble_eq_true rfl) ⟨Nat.zero_le _, Nat.zero_le _⟩ dR_divideByZero_28 (z_kv (fun w1 tys1 hp => ?_))
      obtain ⟨f28_4, rfl, rfl, p28_4⟩ := hp
      exact z_retv (pc := 31) hZ dR_divideByZero_31 rfl ⟨rfl, _, rfl, rfl, (by trivial)⟩
    refine z_if_ge (pc := 20) hZ 27 dR_divideByZero_20 (by decide) (fun c20_5 => ?_) (fun c20_5 => ?_)
    · refine z_iconst (pc := 27) hZ 0 dR_divideByZero_27 (by decide) ?_
      exact z_sub (pc := 28) hZ [] rfl (J28 0)
    · refine z_iconst (pc := 23) hZ 1 dR_divideByZero_23 (by decide) ?_
      refine z_goto (pc := 24) hZ 28 dR_divideByZero_24 (by decide) ?_
      exact z_sub (pc := 28) hZ [] rfl (J28 1)
  · refine z_aload_n (pc := 7) hZ 0 dR_divideByZero_7 rfl rfl ?_
    refine z_iconst (pc := 8) hZ 5 dR_divideByZero_8 (by decide) ?_
    obtain ⟨q9_6, hq9_6⟩ := zp_at (X := X) (f := f) h_a0
    refine z_callVN (pc := 9) (As := [.int 5]) (rest := []) hZ (cV_setSpecial l D tys X LP f a0 h_a0 5) zyV_setSpecial (z_good co_V_setSpecial) nl_R_21 (zb in_V) (zb im_V_setSpecial) (zb se_V_setSpecial) q9_6 hq9_6 rfl rfl rfl (by decide) rfl rfl (Nat.le_of_ble_eq_true rfl) ⟨Nat.zero_le _, Nat.zero_le _⟩ dR_divideByZero_9 (z_kv (fun w1 tys1 hp => ?_))
    obtain ⟨f9_6, rfl, rfl, p9_6⟩ := hp
    refine z_goto (pc := 12) hZ 31 dR_divideByZero_12 (by decide) ?_
    exact z_retv (pc := 31) hZ dR_divideByZero_31 rfl ⟨rfl, _, rfl, rfl, (by trivial)⟩
set_option maxHeartbeats 4000000 in
set_option maxRecDepth 100000 in
theorem cR_divideFinite (l : Launch) (D : va_G) (tys : zT) (X : va_W) (LP : List Nat) (f : Nat → V3) (a0 : Nat) (h_a0 : a0 ∈ LP) (a1 : Nat) (h_a1 : a1 ∈ LP) : zM l D vwCl zNF zNM yR_divideFinite wsR_divideFinite { frames := 3, cells := 0, slots := 0, locals := 74 } [.ref a0, .ref a1] (X ++ PL LP f) tys (qV (fun w' tys' => ∃ f' : Nat → V3, X ++ PL LP f' = w' ∧ tys = tys' ∧ (True))) := by
  refine z_met (cc := bR_divideFinite) (maxL := 13) (ret := none) (isI := false) (own := RR) (by decide +kernel) rfl rfl (fun h => by cases h) (Nat.le_of_ble_eq_true rfl) (fun Z hZ => ?_)
  show Z 0 0 tys 0 [(0, .ref a0), (1, .ref a1)] [] (X ++ PL LP f)
  refine z_aload_n (pc := 0) hZ 0 dR_divideFinite_0 rfl rfl ?_
  obtain ⟨q1_1, hq1_1⟩ := zp_at (X := X) (f := f) h_a0
  refine z_callVN (pc := 1) (As := []) (rest := []) hZ (cV_size l D tys X LP f a0 h_a0) zyV_size (z_good co_V_size) nl_R_47 (zb in_V) (zb im_V_size) (zb se_V_size) q1_1 hq1_1 rfl rfl rfl (by decide) rfl rfl (Nat.le_of_ble_eq_true rfl) ⟨Nat.zero_le _, Nat.zero_le _⟩ dR_divideFinite_1 (z_kl (fun r1_1 w1 tys1 hp => ?_))
  obtain ⟨rfl, rfl, p1_1⟩ := hp
  refine z_callS (pc := 4) (As := [.long r1_1]) (rest := []) hZ (cJL_numberOfLeadingZeros l D tys (X ++ PL LP f) r1_1) zyJL_numberOfLeadingZeros (z_goodS ml_R_51 st_JL_numberOfLeadingZeros in_JL co_JL_numberOfLeadingZeros) rfl rfl (by decide) rfl rfl (Nat.le_of_ble_eq_true rfl) ⟨Nat.zero_le _, Nat.zero_le _⟩ dR_divideFinite_4 (z_ki (fun r4_2 w1 tys1 hp => ?_))
  obtain ⟨rfl, rfl, p4_2⟩ := hp
  refine z_bipush (pc := 7) hZ 11 dR_divideFinite_7 (by decide) ?_
  refine z_isub (pc := 9) hZ dR_divideFinite_9 (fun v9_3 ev9_3 => ?_)
  refine z_istore_n (pc := 10) hZ [(2, .int v9_3), (0, .ref a0), (1, .ref a1)] dR_divideFinite_10 rfl (by decide) rfl ?_
  refine z_aload_n (pc := 11) hZ 2 dR_divideFinite_11 rfl rfl ?_
  obtain ⟨q12_4, hq12_4⟩ := zp_at (X := X) (f := f) h_a1
  refine z_callVN (pc := 12) (As := []) (rest := []) hZ (cV_size l D tys X LP f a1 h_a1) zyV_size (z_good co_V_size) nl_R_47 (zb in_V) (zb im_V_size) (zb se_V_size) q12_4 hq12_4 rfl rfl rfl (by decide) rfl rfl (Nat.le_of_ble_eq_true rfl) ⟨Nat.zero_le _, Nat.zero_le _⟩ dR_divideFinite_12 (z_kl (fun r12_4 w1 tys1 hp => ?_))
  obtain ⟨rfl, rfl, p12_4⟩ := hp
  refine z_callS (pc := 15) (As := [.long r12_4]) (rest := []) hZ (cJL_numberOfLeadingZeros l D tys (X ++ PL LP f) r12_4) zyJL_numberOfLeadingZeros (z_goodS ml_R_51 st_JL_numberOfLeadingZeros in_JL co_JL_numberOfLeadingZeros) rfl rfl (by decide) rfl rfl (Nat.le_of_ble_eq_true rfl) ⟨Nat.zero_le _, Nat.zero_le _⟩ dR_divideFinite_15 (z_ki (fun r15_5 w1 tys1 hp => ?_))
  obtain ⟨rfl, rfl, p15_5⟩ := hp
  refine z_bipush (pc := 18) hZ 11 dR_divideFinite_18 (by decide) ?_
  refine z_isub (pc := 20) hZ dR_divideFinite_20 (fun v20_6 ev20_6 => ?_)
  refine z_istore_n (pc := 21) hZ [(3, .int v20_6), (2, .int v9_3), (0, .ref a0), (1, .ref a1)] dR_divideFinite_21 rfl (by decide) rfl ?_
  refine z_aload_n (pc := 22) hZ 3 dR_divideFinite_22 rfl rfl ?_
  obtain ⟨q23_7, hq23_7⟩ := zp_at (X := X) (f := f) h_a1
  refine z_callVN (pc := 23) (As := []) (rest := []) hZ (cV_size l D tys X LP f a1 h_a1) zyV_size (z_good co_V_size) nl_R_47 (zb in_V) (zb im_V_size) (zb se_V_size) q23_7 hq23_7 rfl rfl rfl (by decide) rfl rfl (Nat.le_of_ble_eq_true rfl) ⟨Nat.zero_le _, Nat.zero_le _⟩ dR_divideFinite_23 (z_kl (fun r23_7 w1 tys1 hp => ?_))
  obtain ⟨rfl, rfl, p23_7⟩ := hp
  refine z_iload_n (pc := 26) hZ 0 dR_divideFinite_26 rfl rfl ?_
  refine z_lshl (pc := 27) hZ dR_divideFinite_27 (fun v27_8 ev27_8 => ?_)
  refine z_lstore (pc := 28) hZ [(4, .long v27_8), (3, .int v20_6), (2, .int v9_3), (0, .ref a0), (1, .ref a1)] dR_divideFinite_28 (by decide) rfl ?_
  refine z_lload (pc := 30) hZ 0 dR_divideFinite_30 rfl ?_
  refine z_lconst (pc := 32) hZ 0 dR_divideFinite_32 (by decide) ?_
  refine z_lif_ne (pc := 33) hZ 38 dR_divideFinite_33 dR_divideFinite_34 (by decide) (fun c34_9 => ?_) (fun c34_9 => ?_)
  · refine z_aload_n (pc := 38) hZ 3 dR_divideFinite_38 rfl rfl ?_
    obtain ⟨q39_10, hq39_10⟩ := zp_at (X := X) (f := f) h_a0
    refine z_callVN (pc := 39) (As := []) (rest := []) hZ (cV_sign l D tys X LP f a0 h_a0) zyV_sign (z_good co_V_sign) nl_R_60 (zb in_V) (zb im_V_sign) (zb se_V_sign) q39_10 hq39_10 rfl rfl rfl (by decide) rfl rfl (Nat.le_of_ble_eq_true rfl) ⟨Nat.zero_le _, Nat.zero_le _⟩ dR_divideFinite_39 (z_ki (fun r39_10 w1 tys1 hp => ?_))
    obtain ⟨rfl, rfl, p39_10⟩ := hp
    refine z_aload_n (pc := 42) hZ 4 dR_divideFinite_42 rfl rfl ?_
    obtain ⟨q43_11, hq43_11⟩ := zp_at (X := X) (f := f) h_a1
    refine z_callVN (pc := 43) (As := []) (rest := [.int r39_10]) hZ (cV_sign l D tys X LP f a1 h_a1) zyV_sign (z_good co_V_sign) nl_R_60 (zb in_V) (zb im_V_sign) (zb se_V_sign) q43_11 hq43_11 rfl rfl rfl (by decide) rfl rfl (Nat.le_of_ble_eq_true rfl) ⟨Nat.zero_le _, Nat.zero_le _⟩ dR_divideFinite_43 (z_ki (fun r43_11 w1 tys1 hp => ?_))
    obtain ⟨rfl, rfl, p43_11⟩ := hp
    have J54 : ∀ (s0_54 : Int32), Z 0 0 tys 54 [(4, .long v27_8), (3, .int v20_6), (2, .int v9_3), (0, .ref a0), (1, .ref a1)] [.int s0_54] (X ++ PL LP f) := by
      intro s0_54
      refine z_istore (pc := 54) hZ [(6, .int s0_54), (4, .long v27_8), (3, .int v20_6), (2, .int v9_3), (0, .ref a0), (1, .ref a1)] dR_divideFinite_54 (by decide) rfl ?_
      refine z_aload_n (pc := 56) hZ 4 dR_divideFinite_56 rfl rfl ?_
      refine z_pg2N (pc := 57) hZ h_a0 uc_V nf_R_57 dR_divideFinite_57 (fun v57_12 ev57_12 => ?_)
      refine z_iload_n (pc := 60) hZ 3 dR_divideFinite_60 rfl rfl ?_
      refine z_isub (pc := 61) hZ dR_divideFinite_61 (fun v61_13 ev61_13 => ?_)
      refine z_aload_n (pc := 62) hZ 5 dR_divideFinite_62 rfl rfl ?_
      refine z_pg2N (pc := 63) hZ h_a1 uc_V nf_R_57 dR_divideFinite_63 (fun v63_14 ev63_14 => ?_)
      refine z_iload_n (pc := 66) hZ 2 dR_divideFinite_66 rfl rfl ?_
      refine z_isub (pc := 67) hZ dR_divideFinite_67 (fun v67_15 ev67_15 => ?_)
      refine z_isub (pc := 68) hZ dR_divideFinite_68 (fun v68_16 ev68_16 => ?_)
      refine z_bipush (pc := 69) hZ 60 dR_divideFinite_69 (by decide) ?_
      refine z_isub (pc := 71) hZ dR_divideFinite_71 (fun v71_17 ev71_17 => ?_)
      refine z_istore (pc := 72) hZ [(7, .int v71_17), (6, .int s0_54), (4, .long v27_8), (3, .int v20_6), (2, .int v9_3), (0, .ref a0), (1, .ref a1)] dR_divideFinite_72 (by decide) rfl ?_
      refine z_aload_n (pc := 74) hZ 5 dR_divideFinite_74 rfl rfl ?_
      obtain ⟨q75_18, hq75_18⟩ := zp_at (X := X) (f := f) h_a0
      refine z_callVN (pc := 75) (As := []) (rest := []) hZ (cV_size l D tys X LP f a0 h_a0) zyV_size (z_good co_V_size) nl_R_47 (zb in_V) (zb im_V_size) (zb se_V_size) q75_18 hq75_18 rfl rfl rfl (by decide) rfl rfl (Nat.le_of_ble_eq_true rfl) ⟨Nat.zero_le _, Nat.zero_le _⟩ dR_divideFinite_75 (z_kl (fun r75_18 w1 tys1 hp => ?_))
      obtain ⟨rfl, rfl, p75_18⟩ := hp
      refine z_iload_n (pc := 78) hZ 4 dR_divideFinite_78 rfl rfl ?_
      refine z_lshl (pc := 79) hZ dR_divideFinite_79 (fun v79_19 ev79_19 => ?_)
      refine z_lstore (pc := 80) hZ [(8, .long v79_19), (7, .int v71_17), (6, .int s0_54), (4, .long v27_8), (3, .int v20_6), (2, .int v9_3), (0, .ref a0), (1, .ref a1)] dR_divideFinite_80 (by decide) rfl ?_
      refine z_lload (pc := 82) hZ 0 dR_divideFinite_82 rfl ?_
      refine z_lload (pc := 84) hZ 3 dR_divideFinite_84 rfl ?_
      refine z_ldiv (pc := 86) hZ dR_divideFinite_86 (by assumption) (fun v86_20 ev86_20 => ?_)
      refine z_lstore (pc := 87) hZ [(10, .long v86_20), (8, .long v79_19), (7, .int v71_17), (6, .int s0_54), (4, .long v27_8), (3, .int v20_6), (2, .int v9_3), (0, .ref a0), (1, .ref a1)] dR_divideFinite_87 (by decide) rfl ?_
      refine z_lload (pc := 89) hZ 1 dR_divideFinite_89 rfl ?_
      refine z_lload (pc := 91) hZ 4 dR_divideFinite_91 rfl ?_
      refine z_lrem (pc := 93) hZ dR_divideFinite_93 (by assumption) (fun v93_21 ev93_21 => ?_)
      refine z_lstore (pc := 94) hZ [(8, .long v93_21), (10, .long v86_20), (7, .int v71_17), (6, .int s0_54), (4, .long v27_8), (3, .int v20_6), (2, .int v9_3), (0, .ref a0), (1, .ref a1)] dR_divideFinite_94 (by decide) rfl ?_
      refine z_iconst (pc := 96) hZ 0 dR_divideFinite_96 (by decide) ?_
      refine z_istore (pc := 97) hZ [(12, .int 0), (8, .long v93_21), (10, .long v86_20), (7, .int v71_17), (6, .int s0_54), (4, .long v27_8), (3, .int v20_6), (2, .int v9_3), (0, .ref a0), (1, .ref a1)] dR_divideFinite_97 (by decide) rfl ?_
      have L99 : ∀ (N99 : Nat) (x12_99 : Int32) (x8_99 : Int64) (x10_99 : Int64), (((6 : Int32)).toInt - x12_99.toInt).toNat < N99 → Z 0 0 tys 99 [(12, .int x12_99), (8, .long x8_99), (10, .long x10_99), (7, .int v71_17), (6, .int s0_54), (4, .long v27_8), (0, .ref a0)] [] (X ++ PL LP f) := by
        intro N99
        induction N99 with
        | zero => intro x12_99 x8_99 x10_99 m99; exact absurd m99 (Nat.not_lt_zero _)
        | succ N99 ih99 =>
          intro x12_99 x8_99 x10_99 m99
          refine z_iload (pc := 99) hZ 0 dR_divideFinite_99 rfl ?_
          refine z_bipush (pc := 101) hZ 6 dR_divideFinite_101 (by decide) ?_
          refine z_icmp_ge (pc := 103) hZ 139 dR_divideFinite_103 (by decide) (fun c103_22 => ?_) (fun c103_22 => ?_)
          · refine z_aload_n (pc := 139) hZ 6 dR_divideFinite_139 rfl rfl ?_
            refine z_iload (pc := 140) hZ 4 dR_divideFinite_140 rfl ?_
            refine z_lload (pc := 142) hZ 2 dR_divideFinite_142 rfl ?_
            refine z_lload (pc := 144) hZ 1 dR_divideFinite_144 rfl ?_
            refine z_lconst (pc := 146) hZ 0 dR_divideFinite_146 (by decide) ?_
            have J156 : ∀ (s0_156 : Int32), Z 0 0 tys 156 [(7, .int v71_17)] [.int s0_156, .long x10_99, .int s0_54, .ref a0] (X ++ PL LP f) := by
              intro s0_156
              refine z_iload (pc := 156) hZ 0 dR_divideFinite_156 rfl ?_
              obtain ⟨q158_23, hq158_23⟩ := zp_at (X := X) (f := f) h_a0
              refine z_callVN (pc := 158) (As := [.int s0_54, .long x10_99, .int s0_156, .int v71_17]) (rest := []) hZ (cV_setNearest l D tys X LP f a0 h_a0 s0_54 x10_99 s0_156 v71_17) zyV_setNearest (z_good co_V_setNearest) nl_R_64 (zb in_V) (zb im_V_setNearest) (zb se_V_setNearest) q158_23 hq158_23 rfl rfl rfl (by decide) rfl rfl (Nat.le_of_ble_eq_true rfl) ⟨Nat.zero_le _, Nat.zero_le _⟩ dR_divideFinite_158 (z_kv (fun w1 tys1 hp => ?_))
              obtain ⟨f158_23, rfl, rfl, p158_23⟩ := hp
              exact z_retv (pc := 161) hZ dR_divideFinite_161 rfl ⟨rfl, _, rfl, rfl, (by trivial)⟩
            refine z_lif_eq (pc := 147) hZ 155 dR_divideFinite_147 dR_divideFinite_148 (by decide) (fun c148_24 => ?_) (fun c148_24 => ?_)
            · refine z_iconst (pc := 155) hZ 0 dR_divideFinite_155 (by decide) ?_
              exact z_sub (pc := 156) hZ [3] rfl (J156 0)
            · refine z_iconst (pc := 151) hZ 1 dR_divideFinite_151 (by decide) ?_
              refine z_goto (pc := 152) hZ 156 dR_divideFinite_152 (by decide) ?_
              exact z_sub (pc := 156) hZ [3] rfl (J156 1)
          · refine z_lload (pc := 106) hZ 1 dR_divideFinite_106 rfl ?_
            refine z_bipush (pc := 108) hZ 10 dR_divideFinite_108 (by decide) ?_
            refine z_lshl (pc := 110) hZ dR_divideFinite_110 (fun v110_25 ev110_25 => ?_)
            refine z_lstore (pc := 111) hZ [(8, .long v110_25), (12, .int x12_99), (10, .long x10_99), (7, .int v71_17), (6, .int s0_54), (4, .long v27_8), (0, .ref a0)] dR_divideFinite_111 (by decide) rfl ?_
            refine z_lload (pc := 113) hZ 2 dR_divideFinite_113 rfl ?_
            refine z_bipush (pc := 115) hZ 10 dR_divideFinite_115 (by decide) ?_
            refine z_lshl (pc := 117) hZ dR_divideFinite_117 (fun v117_26 ev117_26 => ?_)
            refine z_lload (pc := 118) hZ 0 dR_divideFinite_118 rfl ?_
            refine z_lload (pc := 120) hZ 5 dR_divideFinite_120 rfl ?_
            refine z_ldiv (pc := 122) hZ dR_divideFinite_122 (by assumption) (fun v122_27 ev122_27 => ?_)
            refine z_ladd (pc := 123) hZ dR_divideFinite_123 (fun v123_28 ev123_28 => ?_)
            refine z_lstore (pc := 124) hZ [(10, .long v123_28), (8, .long v110_25), (12, .int x12_99), (7, .int v71_17), (6, .int s0_54), (4, .long v27_8), (0, .ref a0)] dR_divideFinite_124 (by decide) rfl ?_
            refine z_lload (pc := 126) hZ 1 dR_divideFinite_126 rfl ?_
            refine z_lload (pc := 128) hZ 5 dR_divideFinite_128 rfl ?_
            refine z_lrem (pc := 130) hZ dR_divideFinite_130 (by assumption) (fun v130_29 ev130_29 => ?_)
            refine z_lstore (pc := 131) hZ [(8, .long v130_29), (10, .long v123_28), (12, .int x12_99), (7, .int v71_17), (6, .int s0_54), (4, .long v27_8), (0, .ref a0)] dR_divideFinite_131 (by decide) rfl ?_
            refine z_iinc (pc := 133) hZ 2 (fun v9 => [(12, .int v9), (8, .long v130_29), (10, .long v123_28), (7, .int v71_17), (6, .int s0_54), (4, .long v27_8), (0, .ref a0)]) dR_divideFinite_133 rfl (by decide) (fun _ => rfl) (fun v133_30 ev133_30 => ?_)
            refine z_goto (pc := 136) hZ 99 dR_divideFinite_136 (by decide) ?_
            exact z_sub (pc := 99) hZ [0, 1, 2, 3, 4, 5, 6] rfl (ih99 v133_30 v130_29 v123_28 (by exact Nat.lt_of_lt_of_le (dec_up (x := x12_99) (b := (6 : Int32)) (by assumption) (by assumption)) (Nat.le_of_lt_succ m99)))
      exact z_sub (pc := 99) hZ [0, 1, 2, 3, 4, 5, 8] rfl (L99 _ 0 v93_21 v86_20 (Nat.lt_succ_self _))
    refine z_icmp_eq (pc := 46) hZ 53 dR_divideFinite_46 (by decide) (fun c46_31 => ?_) (fun c46_31 => ?_)
    · refine z_iconst (pc := 53) hZ 0 dR_divideFinite_53 (by decide) ?_
      exact z_sub (pc := 54) hZ [0, 1, 2, 3, 4] rfl (J54 0)
    · refine z_iconst (pc := 49) hZ 1 dR_divideFinite_49 (by decide) ?_
      refine z_goto (pc := 50) hZ 54 dR_divideFinite_50 (by decide) ?_
      exact z_sub (pc := 54) hZ [0, 1, 2, 3, 4] rfl (J54 1)
  · exact z_retv (pc := 37) hZ dR_divideFinite_37 rfl ⟨rfl, _, rfl, rfl, (by trivial)⟩
set_option maxHeartbeats 4000000 in
set_option maxRecDepth 100000 in
theorem cR_divide (l : Launch) (D : va_G) (tys : zT) (X : va_W) (LP : List Nat) (f : Nat → V3) (a0 : Nat) (h_a0 : a0 ∈ LP) (a1 : Nat) (h_a1 : a1 ∈ LP) : zM l D vwCl zNF zNM yR_divide wsR_divide { frames := 4, cells := 0, slots := 0, locals := 106 } [.ref a0, .ref a1] (X ++ PL LP f) tys (qV (fun w' tys' => ∃ f' : Nat → V3, X ++ PL LP f' = w' ∧ tys = tys' ∧ (True))) := by
  refine z_met (cc := bR_divide) (maxL := 2) (ret := none) (isI := false) (own := RR) (by decide +kernel) rfl rfl (fun h => by cases h) (Nat.le_of_ble_eq_true rfl) (fun Z hZ => ?_)
  show Z 0 0 tys 0 [(0, .ref a0), (1, .ref a1)] [] (X ++ PL LP f)
  refine z_aload_n (pc := 0) hZ 0 dR_divide_0 rfl rfl ?_
  refine z_aload_n (pc := 1) hZ 1 dR_divide_1 rfl rfl ?_
  refine z_callS (pc := 2) (As := [.ref a0, .ref a1]) (rest := []) hZ (cR_hasNoNumber l D tys X LP f a0 h_a0 a1 h_a1) zyR_hasNoNumber (z_goodS ml_R_17 st_R_hasNoNumber in_R co_R_hasNoNumber) rfl rfl (by decide) rfl rfl (Nat.le_of_ble_eq_true rfl) ⟨Nat.zero_le _, Nat.zero_le _⟩ dR_divide_2 (z_ki (fun r2_1 w1 tys1 hp => ?_))
  obtain ⟨rfl, rfl, p2_1⟩ := hp
  have J22 : Z 0 0 tys 22 [(0, .ref a0)] [] (X ++ PL LP f) := by
    refine z_aload_n (pc := 22) hZ 0 dR_divide_22 rfl rfl ?_
    refine z_iconst (pc := 23) hZ 5 dR_divide_23 (by decide) ?_
    obtain ⟨q24_2, hq24_2⟩ := zp_at (X := X) (f := f) h_a0
    refine z_callVN (pc := 24) (As := [.int 5]) (rest := []) hZ (cV_setSpecial l D tys X LP f a0 h_a0 5) zyV_setSpecial (z_good co_V_setSpecial) nl_R_21 (zb in_V) (zb im_V_setSpecial) (zb se_V_setSpecial) q24_2 hq24_2 rfl rfl rfl (by decide) rfl rfl (Nat.le_of_ble_eq_true rfl) ⟨Nat.zero_le _, Nat.zero_le _⟩ dR_divide_24 (z_kv (fun w1 tys1 hp => ?_))
    obtain ⟨f24_2, rfl, rfl, p24_2⟩ := hp
    refine z_goto (pc := 27) hZ 104 dR_divide_27 (by decide) ?_
    exact z_retv (pc := 104) hZ dR_divide_104 rfl ⟨rfl, _, rfl, rfl, (by trivial)⟩
  refine z_if_ne (pc := 5) hZ 22 dR_divide_5 (by decide) (fun c5_3 => ?_) (fun c5_3 => ?_)
  · exact z_sub (pc := 22) hZ [0] rfl (J22 )
  · refine z_aload_n (pc := 8) hZ 0 dR_divide_8 rfl rfl ?_
    obtain ⟨q9_4, hq9_4⟩ := zp_at (X := X) (f := f) h_a0
    refine z_callVN (pc := 9) (As := []) (rest := []) hZ (cV_isInfinite l D tys X LP f a0 h_a0) zyV_isInfinite (z_good co_V_isInfinite) nl_R_25 (zb in_V) (zb im_V_isInfinite) (zb se_V_isInfinite) q9_4 hq9_4 rfl rfl rfl (by decide) rfl rfl (Nat.le_of_ble_eq_true rfl) ⟨Nat.zero_le _, Nat.zero_le _⟩ dR_divide_9 (z_ki (fun r9_4 w1 tys1 hp => ?_))
    obtain ⟨rfl, rfl, p9_4⟩ := hp
    have J30 : Z 0 0 tys 30 [(0, .ref a0), (1, .ref a1)] [] (X ++ PL LP f) := by
      refine z_aload_n (pc := 30) hZ 1 dR_divide_30 rfl rfl ?_
      obtain ⟨q31_5, hq31_5⟩ := zp_at (X := X) (f := f) h_a1
      refine z_callVN (pc := 31) (As := []) (rest := []) hZ (cV_isInfinite l D tys X LP f a1 h_a1) zyV_isInfinite (z_good co_V_isInfinite) nl_R_25 (zb in_V) (zb im_V_isInfinite) (zb se_V_isInfinite) q31_5 hq31_5 rfl rfl rfl (by decide) rfl rfl (Nat.le_of_ble_eq_true rfl) ⟨Nat.zero_le _, Nat.zero_le _⟩ dR_divide_31 (z_ki (fun r31_5 w1 tys1 hp => ?_))
      obtain ⟨rfl, rfl, p31_5⟩ := hp
      refine z_if_eq (pc := 34) hZ 44 dR_divide_34 (by decide) (fun c34_6 => ?_) (fun c34_6 => ?_)
      · refine z_aload_n (pc := 44) hZ 1 dR_divide_44 rfl rfl ?_
        refine z_pg1N (pc := 45) hZ h_a1 uc_V nf_R_29 dR_divide_45 (fun v45_7 ev45_7 => ?_)
        refine z_lconst (pc := 48) hZ 0 dR_divide_48 (by decide) ?_
        refine z_lif_ne (pc := 49) hZ 60 dR_divide_49 dR_divide_50 (by decide) (fun c50_8 => ?_) (fun c50_8 => ?_)
        · refine z_aload_n (pc := 60) hZ 0 dR_divide_60 rfl rfl ?_
          obtain ⟨q61_9, hq61_9⟩ := zp_at (X := X) (f := f) h_a0
          refine z_callVN (pc := 61) (As := []) (rest := []) hZ (cV_isInfinite l D tys X LP f a0 h_a0) zyV_isInfinite (z_good co_V_isInfinite) nl_R_25 (zb in_V) (zb im_V_isInfinite) (zb se_V_isInfinite) q61_9 hq61_9 rfl rfl rfl (by decide) rfl rfl (Nat.le_of_ble_eq_true rfl) ⟨Nat.zero_le _, Nat.zero_le _⟩ dR_divide_61 (z_ki (fun r61_9 w1 tys1 hp => ?_))
          obtain ⟨rfl, rfl, p61_9⟩ := hp
          refine z_if_eq (pc := 64) hZ 90 dR_divide_64 (by decide) (fun c64_10 => ?_) (fun c64_10 => ?_)
          · refine z_aload_n (pc := 90) hZ 0 dR_divide_90 rfl rfl ?_
            refine z_pg1N (pc := 91) hZ h_a0 uc_V nf_R_29 dR_divide_91 (fun v91_11 ev91_11 => ?_)
            refine z_lconst (pc := 94) hZ 0 dR_divide_94 (by decide) ?_
            refine z_lif_eq (pc := 95) hZ 104 dR_divide_95 dR_divide_96 (by decide) (fun c96_12 => ?_) (fun c96_12 => ?_)
            · exact z_retv (pc := 104) hZ dR_divide_104 rfl ⟨rfl, _, rfl, rfl, (by trivial)⟩
            · refine z_aload_n (pc := 99) hZ 0 dR_divide_99 rfl rfl ?_
              refine z_aload_n (pc := 100) hZ 1 dR_divide_100 rfl rfl ?_
              refine z_callS (pc := 101) (As := [.ref a0, .ref a1]) (rest := []) hZ (cR_divideFinite l D tys X LP f a0 h_a0 a1 h_a1) zyR_divideFinite (z_goodS ml_R_92 st_R_divideFinite in_R co_R_divideFinite) rfl rfl (by decide) rfl rfl (Nat.le_of_ble_eq_true rfl) ⟨Nat.zero_le _, Nat.zero_le _⟩ dR_divide_101 (z_kv (fun w1 tys1 hp => ?_))
              obtain ⟨f101_13, rfl, rfl, p101_13⟩ := hp
              exact z_retv (pc := 104) hZ dR_divide_104 rfl ⟨rfl, _, rfl, rfl, (by trivial)⟩
          · refine z_aload_n (pc := 67) hZ 0 dR_divide_67 rfl rfl ?_
            refine z_aload_n (pc := 68) hZ 0 dR_divide_68 rfl rfl ?_
            obtain ⟨q69_14, hq69_14⟩ := zp_at (X := X) (f := f) h_a0
            refine z_callVN (pc := 69) (As := []) (rest := [.ref a0]) hZ (cV_sign l D tys X LP f a0 h_a0) zyV_sign (z_good co_V_sign) nl_R_60 (zb in_V) (zb im_V_sign) (zb se_V_sign) q69_14 hq69_14 rfl rfl rfl (by decide) rfl rfl (Nat.le_of_ble_eq_true rfl) ⟨Nat.zero_le _, Nat.zero_le _⟩ dR_divide_69 (z_ki (fun r69_14 w1 tys1 hp => ?_))
            obtain ⟨rfl, rfl, p69_14⟩ := hp
            refine z_aload_n (pc := 72) hZ 1 dR_divide_72 rfl rfl ?_
            obtain ⟨q73_15, hq73_15⟩ := zp_at (X := X) (f := f) h_a1
            refine z_callVN (pc := 73) (As := []) (rest := [.int r69_14, .ref a0]) hZ (cV_sign l D tys X LP f a1 h_a1) zyV_sign (z_good co_V_sign) nl_R_60 (zb in_V) (zb im_V_sign) (zb se_V_sign) q73_15 hq73_15 rfl rfl rfl (by decide) rfl rfl (Nat.le_of_ble_eq_true rfl) ⟨Nat.zero_le _, Nat.zero_le _⟩ dR_divide_73 (z_ki (fun r73_15 w1 tys1 hp => ?_))
            obtain ⟨rfl, rfl, p73_15⟩ := hp
            have J84 : ∀ (s0_84 : Int32), Z 0 0 tys 84 [] [.int s0_84, .ref a0] (X ++ PL LP f) := by
              intro s0_84
              obtain ⟨q84_16, hq84_16⟩ := zp_at (X := X) (f := f) h_a0
              refine z_callVN (pc := 84) (As := [.int s0_84]) (rest := []) hZ (cV_setInfinity l D tys X LP f a0 h_a0 s0_84) zyV_setInfinity (z_good co_V_setInfinity) nl_R_72 (zb in_V) (zb im_V_setInfinity) (zb se_V_setInfinity) q84_16 hq84_16 rfl rfl rfl (by decide) rfl rfl (Nat.le_of_ble_eq_true rfl) ⟨Nat.zero_le _, Nat.zero_le _⟩ dR_divide_84 (z_kv (fun w1 tys1 hp => ?_))
              obtain ⟨f84_16, rfl, rfl, p84_16⟩ := hp
              refine z_goto (pc := 87) hZ 104 dR_divide_87 (by decide) ?_
              exact z_retv (pc := 104) hZ dR_divide_104 rfl ⟨rfl, _, rfl, rfl, (by trivial)⟩
            refine z_icmp_eq (pc := 76) hZ 83 dR_divide_76 (by decide) (fun c76_17 => ?_) (fun c76_17 => ?_)
            · refine z_iconst (pc := 83) hZ 0 dR_divide_83 (by decide) ?_
              exact z_sub (pc := 84) hZ [] rfl (J84 0)
            · refine z_iconst (pc := 79) hZ 1 dR_divide_79 (by decide) ?_
              refine z_goto (pc := 80) hZ 84 dR_divide_80 (by decide) ?_
              exact z_sub (pc := 84) hZ [] rfl (J84 1)
        · refine z_aload_n (pc := 53) hZ 0 dR_divide_53 rfl rfl ?_
          refine z_callS (pc := 54) (As := [.ref a0]) (rest := []) hZ (cR_divideByZero l D tys X LP f a0 h_a0) zyR_divideByZero (z_goodS ml_R_89 st_R_divideByZero in_R co_R_divideByZero) rfl rfl (by decide) rfl rfl (Nat.le_of_ble_eq_true rfl) ⟨Nat.zero_le _, Nat.zero_le _⟩ dR_divide_54 (z_kv (fun w1 tys1 hp => ?_))
          obtain ⟨f54_18, rfl, rfl, p54_18⟩ := hp
          refine z_goto (pc := 57) hZ 104 dR_divide_57 (by decide) ?_
          exact z_retv (pc := 104) hZ dR_divide_104 rfl ⟨rfl, _, rfl, rfl, (by trivial)⟩
      · refine z_aload_n (pc := 37) hZ 0 dR_divide_37 rfl rfl ?_
        obtain ⟨q38_19, hq38_19⟩ := zp_at (X := X) (f := f) h_a0
        refine z_callVN (pc := 38) (As := []) (rest := []) hZ (cV_setZero l D tys X LP f a0 h_a0) zyV_setZero (z_good co_V_setZero) nl_R_86 (zb in_V) (zb im_V_setZero) (zb se_V_setZero) q38_19 hq38_19 rfl rfl rfl (by decide) rfl rfl (Nat.le_of_ble_eq_true rfl) ⟨Nat.zero_le _, Nat.zero_le _⟩ dR_divide_38 (z_kv (fun w1 tys1 hp => ?_))
        obtain ⟨f38_19, rfl, rfl, p38_19⟩ := hp
        refine z_goto (pc := 41) hZ 104 dR_divide_41 (by decide) ?_
        exact z_retv (pc := 104) hZ dR_divide_104 rfl ⟨rfl, _, rfl, rfl, (by trivial)⟩
    refine z_if_eq (pc := 12) hZ 30 dR_divide_12 (by decide) (fun c12_20 => ?_) (fun c12_20 => ?_)
    · exact z_sub (pc := 30) hZ [0, 1] rfl (J30 )
    · refine z_aload_n (pc := 15) hZ 1 dR_divide_15 rfl rfl ?_
      obtain ⟨q16_21, hq16_21⟩ := zp_at (X := X) (f := f) h_a1
      refine z_callVN (pc := 16) (As := []) (rest := []) hZ (cV_isInfinite l D tys X LP f a1 h_a1) zyV_isInfinite (z_good co_V_isInfinite) nl_R_25 (zb in_V) (zb im_V_isInfinite) (zb se_V_isInfinite) q16_21 hq16_21 rfl rfl rfl (by decide) rfl rfl (Nat.le_of_ble_eq_true rfl) ⟨Nat.zero_le _, Nat.zero_le _⟩ dR_divide_16 (z_ki (fun r16_21 w1 tys1 hp => ?_))
      obtain ⟨rfl, rfl, p16_21⟩ := hp
      refine z_if_eq (pc := 19) hZ 30 dR_divide_19 (by decide) (fun c19_22 => ?_) (fun c19_22 => ?_)
      · exact z_sub (pc := 30) hZ [0, 1] rfl (J30 )
      · exact z_sub (pc := 22) hZ [0] rfl (J22 )
set_option maxHeartbeats 4000000 in
set_option maxRecDepth 100000 in
theorem cR_remainderAbove (l : Launch) (D : va_G) (tys : zT) (w : va_W) (p0 : Int64) (p1 : Int32) (p2 : Int64) : zM l D vwCl zNF zNM yR_remainderAbove wsR_remainderAbove { frames := 1, cells := 0, slots := 0, locals := 21 } [.long p0, .int p1, .long p2] (w) tys (qL (fun r w' tys' => w = w' ∧ tys = tys' ∧ (True))) := by
  refine z_met (cc := bR_remainderAbove) (maxL := 8) (ret := (some .long)) (isI := false) (own := RR) (by decide +kernel) rfl rfl (fun h => by cases h) (Nat.le_of_ble_eq_true rfl) (fun Z hZ => ?_)
  show Z 0 0 tys 0 [(0, .long p0), (2, .int p1), (3, .long p2)] [] (w)
  refine z_lload_n (pc := 0) hZ 2 dR_remainderAbove_0 rfl rfl ?_
  refine z_lconst (pc := 1) hZ 0 dR_remainderAbove_1 (by decide) ?_
  refine z_lif_ne (pc := 2) hZ 8 dR_remainderAbove_2 dR_remainderAbove_3 (by decide) (fun c3_1 => ?_) (fun c3_1 => ?_)
  · refine z_lload_n (pc := 8) hZ 0 dR_remainderAbove_8 rfl rfl ?_
    refine z_lload_n (pc := 9) hZ 2 dR_remainderAbove_9 rfl rfl ?_
    refine z_lrem (pc := 10) hZ dR_remainderAbove_10 (by assumption) (fun v10_2 ev10_2 => ?_)
    refine z_lstore (pc := 11) hZ [(5, .long v10_2), (0, .long p0), (2, .int p1), (3, .long p2)] dR_remainderAbove_11 (by decide) rfl ?_
    refine z_iload_n (pc := 13) hZ 2 dR_remainderAbove_13 rfl rfl ?_
    refine z_istore (pc := 14) hZ [(7, .int p1), (5, .long v10_2), (0, .long p0), (2, .int p1), (3, .long p2)] dR_remainderAbove_14 (by decide) rfl ?_
    have L16 : ∀ (N16 : Nat) (x7_16 : Int32) (x5_16 : Int64), x7_16.toInt.toNat < N16 → Z 0 0 tys 16 [(7, .int x7_16), (5, .long x5_16), (3, .long p2)] [] (w) := by
      intro N16
      induction N16 with
      | zero => intro x7_16 x5_16 m16; exact absurd m16 (Nat.not_lt_zero _)
      | succ N16 ih16 =>
        intro x7_16 x5_16 m16
        refine z_iload (pc := 16) hZ 0 dR_remainderAbove_16 rfl ?_
        refine z_if_le (pc := 18) hZ 41 dR_remainderAbove_18 (by decide) (fun c18_3 => ?_) (fun c18_3 => ?_)
        · refine z_lload (pc := 41) hZ 1 dR_remainderAbove_41 rfl ?_
          exact z_retl (pc := 43) hZ dR_remainderAbove_43 rfl ⟨_, rfl, rfl, rfl, (by trivial)⟩
        · refine z_lload (pc := 21) hZ 1 dR_remainderAbove_21 rfl ?_
          refine z_iload (pc := 23) hZ 0 dR_remainderAbove_23 rfl ?_
          refine z_bipush (pc := 25) hZ 10 dR_remainderAbove_25 (by decide) ?_
          refine z_mmin (pc := 27) hZ (zb ml_R_80) (zb st_JM_min) (zb in_Math) (zb co_JM_min) (by decide) (Nat.le_of_ble_eq_true rfl) (Nat.zero_le _) (Nat.zero_le _) dR_remainderAbove_27 (fun v27_4 ev27_4 => ?_)
          refine z_lshl (pc := 30) hZ dR_remainderAbove_30 (fun v30_5 ev30_5 => ?_)
          refine z_lload_n (pc := 31) hZ 2 dR_remainderAbove_31 rfl rfl ?_
          refine z_lrem (pc := 32) hZ dR_remainderAbove_32 (by assumption) (fun v32_6 ev32_6 => ?_)
          refine z_lstore (pc := 33) hZ [(5, .long v32_6), (7, .int x7_16), (3, .long p2)] dR_remainderAbove_33 (by decide) rfl ?_
          refine z_iinc (pc := 35) hZ 1 (fun v9 => [(7, .int v9), (5, .long v32_6), (3, .long p2)]) dR_remainderAbove_35 rfl (by decide) (fun _ => rfl) (fun v35_7 ev35_7 => ?_)
          refine z_goto (pc := 38) hZ 16 dR_remainderAbove_38 (by decide) ?_
          exact z_sub (pc := 16) hZ [0, 1, 2] rfl (ih16 v35_7 v32_6 (by exact Nat.lt_of_lt_of_le (dec_dn (x := x7_16) (-10) (by decide) (by decide) (by assumption) (by assumption)) (Nat.le_of_lt_succ m16)))
    exact z_sub (pc := 16) hZ [0, 1, 4] rfl (L16 _ p1 v10_2 (Nat.lt_succ_self _))
  · refine z_lconst (pc := 6) hZ 0 dR_remainderAbove_6 (by decide) ?_
    exact z_retl (pc := 7) hZ dR_remainderAbove_7 rfl ⟨_, rfl, rfl, rfl, (by trivial)⟩
set_option maxHeartbeats 4000000 in
set_option maxRecDepth 100000 in
theorem cR_remainderOfSizes (l : Launch) (D : va_G) (tys : zT) (X : va_W) (LP : List Nat) (f : Nat → V3) (a0 : Nat) (h_a0 : a0 ∈ LP) (a1 : Nat) (h_a1 : a1 ∈ LP) : zM l D vwCl zNF zNM yR_remainderOfSizes wsR_remainderOfSizes { frames := 3, cells := 0, slots := 0, locals := 74 } [.ref a0, .ref a1] (X ++ PL LP f) tys (qV (fun w' tys' => ∃ f' : Nat → V3, X ++ PL LP f' = w' ∧ tys = tys' ∧ (True))) := by
  refine z_met (cc := bR_remainderOfSizes) (maxL := 5) (ret := none) (isI := false) (own := RR) (by decide +kernel) rfl rfl (fun h => by cases h) (Nat.le_of_ble_eq_true rfl) (fun Z hZ => ?_)
  show Z 0 0 tys 0 [(0, .ref a0), (1, .ref a1)] [] (X ++ PL LP f)
  refine z_aload_n (pc := 0) hZ 0 dR_remainderOfSizes_0 rfl rfl ?_
  refine z_pg2N (pc := 1) hZ h_a0 uc_V nf_R_57 dR_remainderOfSizes_1 (fun v1_1 ev1_1 => ?_)
  refine z_aload_n (pc := 4) hZ 1 dR_remainderOfSizes_4 rfl rfl ?_
  refine z_pg2N (pc := 5) hZ h_a1 uc_V nf_R_57 dR_remainderOfSizes_5 (fun v5_2 ev5_2 => ?_)
  refine z_isub (pc := 8) hZ dR_remainderOfSizes_8 (fun v8_3 ev8_3 => ?_)
  refine z_istore_n (pc := 9) hZ [(2, .int v8_3), (0, .ref a0), (1, .ref a1)] dR_remainderOfSizes_9 rfl (by decide) rfl ?_
  refine z_iload_n (pc := 10) hZ 0 dR_remainderOfSizes_10 rfl rfl ?_
  refine z_if_lt (pc := 11) hZ 54 dR_remainderOfSizes_11 (by decide) (fun c11_4 => ?_) (fun c11_4 => ?_)
  · refine z_iload_n (pc := 54) hZ 0 dR_remainderOfSizes_54 rfl rfl ?_
    refine z_ineg (pc := 55) hZ dR_remainderOfSizes_55 (fun v55_5 ev55_5 => ?_)
    refine z_aload_n (pc := 56) hZ 2 dR_remainderOfSizes_56 rfl rfl ?_
    obtain ⟨q57_6, hq57_6⟩ := zp_at (X := X) (f := f) h_a1
    refine z_callVN (pc := 57) (As := []) (rest := [.int v55_5]) hZ (cV_size l D tys X LP f a1 h_a1) zyV_size (z_good co_V_size) nl_R_47 (zb in_V) (zb im_V_size) (zb se_V_size) q57_6 hq57_6 rfl rfl rfl (by decide) rfl rfl (Nat.le_of_ble_eq_true rfl) ⟨Nat.zero_le _, Nat.zero_le _⟩ dR_remainderOfSizes_57 (z_kl (fun r57_6 w1 tys1 hp => ?_))
    obtain ⟨rfl, rfl, p57_6⟩ := hp
    refine z_callS (pc := 60) (As := [.long r57_6]) (rest := [.int v55_5]) hZ (cJL_numberOfLeadingZeros l D tys (X ++ PL LP f) r57_6) zyJL_numberOfLeadingZeros (z_goodS ml_R_51 st_JL_numberOfLeadingZeros in_JL co_JL_numberOfLeadingZeros) rfl rfl (by decide) rfl rfl (Nat.le_of_ble_eq_true rfl) ⟨Nat.zero_le _, Nat.zero_le _⟩ dR_remainderOfSizes_60 (z_ki (fun r60_7 w1 tys1 hp => ?_))
    obtain ⟨rfl, rfl, p60_7⟩ := hp
    refine z_icmp_ge (pc := 63) hZ 109 dR_remainderOfSizes_63 (by decide) (fun c63_8 => ?_) (fun c63_8 => ?_)
    · exact z_retv (pc := 109) hZ dR_remainderOfSizes_109 rfl ⟨rfl, _, rfl, rfl, (by trivial)⟩
    · refine z_aload_n (pc := 66) hZ 2 dR_remainderOfSizes_66 rfl rfl ?_
      obtain ⟨q67_9, hq67_9⟩ := zp_at (X := X) (f := f) h_a1
      refine z_callVN (pc := 67) (As := []) (rest := []) hZ (cV_size l D tys X LP f a1 h_a1) zyV_size (z_good co_V_size) nl_R_47 (zb in_V) (zb im_V_size) (zb se_V_size) q67_9 hq67_9 rfl rfl rfl (by decide) rfl rfl (Nat.le_of_ble_eq_true rfl) ⟨Nat.zero_le _, Nat.zero_le _⟩ dR_remainderOfSizes_67 (z_kl (fun r67_9 w1 tys1 hp => ?_))
      obtain ⟨rfl, rfl, p67_9⟩ := hp
      refine z_iload_n (pc := 70) hZ 0 dR_remainderOfSizes_70 rfl rfl ?_
      refine z_ineg (pc := 71) hZ dR_remainderOfSizes_71 (fun v71_10 ev71_10 => ?_)
      refine z_lshl (pc := 72) hZ dR_remainderOfSizes_72 (fun v72_11 ev72_11 => ?_)
      refine z_lstore_n (pc := 73) hZ [(3, .long v72_11), (2, .int v8_3), (0, .ref a0), (1, .ref a1)] dR_remainderOfSizes_73 rfl (by decide) rfl ?_
      refine z_lload_n (pc := 74) hZ 0 dR_remainderOfSizes_74 rfl rfl ?_
      refine z_lconst (pc := 75) hZ 0 dR_remainderOfSizes_75 (by decide) ?_
      refine z_lif_eq (pc := 76) hZ 109 dR_remainderOfSizes_76 dR_remainderOfSizes_77 (by decide) (fun c77_12 => ?_) (fun c77_12 => ?_)
      · exact z_retv (pc := 109) hZ dR_remainderOfSizes_109 rfl ⟨rfl, _, rfl, rfl, (by trivial)⟩
      · refine z_aload_n (pc := 80) hZ 2 dR_remainderOfSizes_80 rfl rfl ?_
        refine z_aload_n (pc := 81) hZ 2 dR_remainderOfSizes_81 rfl rfl ?_
        refine z_pg1N (pc := 82) hZ h_a0 uc_V nf_R_29 dR_remainderOfSizes_82 (fun v82_13 ev82_13 => ?_)
        refine z_lconst (pc := 85) hZ 0 dR_remainderOfSizes_85 (by decide) ?_
        have J95 : ∀ (s0_95 : Int32), Z 0 0 tys 95 [(3, .long v72_11), (0, .ref a0)] [.int s0_95, .ref a0] (X ++ PL LP f) := by
          intro s0_95
          refine z_aload_n (pc := 95) hZ 1 dR_remainderOfSizes_95 rfl rfl ?_
          obtain ⟨q96_14, hq96_14⟩ := zp_at (X := X) (f := f) h_a0
          refine z_callVN (pc := 96) (As := []) (rest := [.int s0_95, .ref a0]) hZ (cV_size l D tys X LP f a0 h_a0) zyV_size (z_good co_V_size) nl_R_47 (zb in_V) (zb im_V_size) (zb se_V_size) q96_14 hq96_14 rfl rfl rfl (by decide) rfl rfl (Nat.le_of_ble_eq_true rfl) ⟨Nat.zero_le _, Nat.zero_le _⟩ dR_remainderOfSizes_96 (z_kl (fun r96_14 w1 tys1 hp => ?_))
          obtain ⟨rfl, rfl, p96_14⟩ := hp
          refine z_lload_n (pc := 99) hZ 0 dR_remainderOfSizes_99 rfl rfl ?_
          refine z_lrem (pc := 100) hZ dR_remainderOfSizes_100 (by assumption) (fun v100_15 ev100_15 => ?_)
          refine z_iconst (pc := 101) hZ 0 dR_remainderOfSizes_101 (by decide) ?_
          refine z_aload_n (pc := 102) hZ 1 dR_remainderOfSizes_102 rfl rfl ?_
          refine z_pg2N (pc := 103) hZ h_a0 uc_V nf_R_57 dR_remainderOfSizes_103 (fun v103_16 ev103_16 => ?_)
          obtain ⟨q106_17, hq106_17⟩ := zp_at (X := X) (f := f) h_a0
          refine z_callVN (pc := 106) (As := [.int s0_95, .long v100_15, .int 0, .int v103_16]) (rest := []) hZ (cV_setNearest l D tys X LP f a0 h_a0 s0_95 v100_15 0 v103_16) zyV_setNearest (z_good co_V_setNearest) nl_R_64 (zb in_V) (zb im_V_setNearest) (zb se_V_setNearest) q106_17 hq106_17 rfl rfl rfl (by decide) rfl rfl (Nat.le_of_ble_eq_true rfl) ⟨Nat.zero_le _, Nat.zero_le _⟩ dR_remainderOfSizes_106 (z_kv (fun w1 tys1 hp => ?_))
          obtain ⟨f106_17, rfl, rfl, p106_17⟩ := hp
          exact z_retv (pc := 109) hZ dR_remainderOfSizes_109 rfl ⟨rfl, _, rfl, rfl, (by trivial)⟩
        refine z_lif_ge (pc := 86) hZ 94 dR_remainderOfSizes_86 dR_remainderOfSizes_87 (by decide) (fun c87_18 => ?_) (fun c87_18 => ?_)
        · refine z_iconst (pc := 94) hZ 0 dR_remainderOfSizes_94 (by decide) ?_
          exact z_sub (pc := 95) hZ [0, 2] rfl (J95 0)
        · refine z_iconst (pc := 90) hZ 1 dR_remainderOfSizes_90 (by decide) ?_
          refine z_goto (pc := 91) hZ 95 dR_remainderOfSizes_91 (by decide) ?_
          exact z_sub (pc := 95) hZ [0, 2] rfl (J95 1)
  · refine z_aload_n (pc := 14) hZ 1 dR_remainderOfSizes_14 rfl rfl ?_
    obtain ⟨q15_19, hq15_19⟩ := zp_at (X := X) (f := f) h_a0
    refine z_callVN (pc := 15) (As := []) (rest := []) hZ (cV_size l D tys X LP f a0 h_a0) zyV_size (z_good co_V_size) nl_R_47 (zb in_V) (zb im_V_size) (zb se_V_size) q15_19 hq15_19 rfl rfl rfl (by decide) rfl rfl (Nat.le_of_ble_eq_true rfl) ⟨Nat.zero_le _, Nat.zero_le _⟩ dR_remainderOfSizes_15 (z_kl (fun r15_19 w1 tys1 hp => ?_))
    obtain ⟨rfl, rfl, p15_19⟩ := hp
    refine z_iload_n (pc := 18) hZ 0 dR_remainderOfSizes_18 rfl rfl ?_
    refine z_aload_n (pc := 19) hZ 2 dR_remainderOfSizes_19 rfl rfl ?_
    obtain ⟨q20_20, hq20_20⟩ := zp_at (X := X) (f := f) h_a1
    refine z_callVN (pc := 20) (As := []) (rest := [.int v8_3, .long r15_19]) hZ (cV_size l D tys X LP f a1 h_a1) zyV_size (z_good co_V_size) nl_R_47 (zb in_V) (zb im_V_size) (zb se_V_size) q20_20 hq20_20 rfl rfl rfl (by decide) rfl rfl (Nat.le_of_ble_eq_true rfl) ⟨Nat.zero_le _, Nat.zero_le _⟩ dR_remainderOfSizes_20 (z_kl (fun r20_20 w1 tys1 hp => ?_))
    obtain ⟨rfl, rfl, p20_20⟩ := hp
    refine z_callS (pc := 23) (As := [.long r15_19, .int v8_3, .long r20_20]) (rest := []) hZ (cR_remainderAbove l D tys (X ++ PL LP f) r15_19 v8_3 r20_20) zyR_remainderAbove (z_goodS ml_R_99 st_R_remainderAbove in_R co_R_remainderAbove) rfl rfl (by decide) rfl rfl (Nat.le_of_ble_eq_true rfl) ⟨Nat.zero_le _, Nat.zero_le _⟩ dR_remainderOfSizes_23 (z_kl (fun r23_21 w1 tys1 hp => ?_))
    obtain ⟨rfl, rfl, p23_21⟩ := hp
    refine z_lstore_n (pc := 26) hZ [(3, .long r23_21), (2, .int v8_3), (0, .ref a0), (1, .ref a1)] dR_remainderOfSizes_26 rfl (by decide) rfl ?_
    refine z_aload_n (pc := 27) hZ 2 dR_remainderOfSizes_27 rfl rfl ?_
    refine z_aload_n (pc := 28) hZ 2 dR_remainderOfSizes_28 rfl rfl ?_
    refine z_pg1N (pc := 29) hZ h_a0 uc_V nf_R_29 dR_remainderOfSizes_29 (fun v29_22 ev29_22 => ?_)
    refine z_lconst (pc := 32) hZ 0 dR_remainderOfSizes_32 (by decide) ?_
    have J42 : ∀ (s0_42 : Int32), Z 0 0 tys 42 [(3, .long r23_21), (1, .ref a1)] [.int s0_42, .ref a0] (X ++ PL LP f) := by
      intro s0_42
      refine z_lload_n (pc := 42) hZ 0 dR_remainderOfSizes_42 rfl rfl ?_
      refine z_iconst (pc := 43) hZ 0 dR_remainderOfSizes_43 (by decide) ?_
      refine z_aload_n (pc := 44) hZ 1 dR_remainderOfSizes_44 rfl rfl ?_
      refine z_pg2N (pc := 45) hZ h_a1 uc_V nf_R_57 dR_remainderOfSizes_45 (fun v45_23 ev45_23 => ?_)
      obtain ⟨q48_24, hq48_24⟩ := zp_at (X := X) (f := f) h_a0
      refine z_callVN (pc := 48) (As := [.int s0_42, .long r23_21, .int 0, .int v45_23]) (rest := []) hZ (cV_setNearest l D tys X LP f a0 h_a0 s0_42 r23_21 0 v45_23) zyV_setNearest (z_good co_V_setNearest) nl_R_64 (zb in_V) (zb im_V_setNearest) (zb se_V_setNearest) q48_24 hq48_24 rfl rfl rfl (by decide) rfl rfl (Nat.le_of_ble_eq_true rfl) ⟨Nat.zero_le _, Nat.zero_le _⟩ dR_remainderOfSizes_48 (z_kv (fun w1 tys1 hp => ?_))
      obtain ⟨f48_24, rfl, rfl, p48_24⟩ := hp
      refine z_goto (pc := 51) hZ 109 dR_remainderOfSizes_51 (by decide) ?_
      exact z_retv (pc := 109) hZ dR_remainderOfSizes_109 rfl ⟨rfl, _, rfl, rfl, (by trivial)⟩
    refine z_lif_ge (pc := 33) hZ 41 dR_remainderOfSizes_33 dR_remainderOfSizes_34 (by decide) (fun c34_25 => ?_) (fun c34_25 => ?_)
    · refine z_iconst (pc := 41) hZ 0 dR_remainderOfSizes_41 (by decide) ?_
      exact z_sub (pc := 42) hZ [0, 3] rfl (J42 0)
    · refine z_iconst (pc := 37) hZ 1 dR_remainderOfSizes_37 (by decide) ?_
      refine z_goto (pc := 38) hZ 42 dR_remainderOfSizes_38 (by decide) ?_
      exact z_sub (pc := 42) hZ [0, 3] rfl (J42 1)
set_option maxHeartbeats 4000000 in
set_option maxRecDepth 100000 in
theorem cR_remainder (l : Launch) (D : va_G) (tys : zT) (X : va_W) (LP : List Nat) (f : Nat → V3) (a0 : Nat) (h_a0 : a0 ∈ LP) (a1 : Nat) (h_a1 : a1 ∈ LP) : zM l D vwCl zNF zNM yR_remainder wsR_remainder { frames := 4, cells := 0, slots := 0, locals := 107 } [.ref a0, .ref a1] (X ++ PL LP f) tys (qV (fun w' tys' => ∃ f' : Nat → V3, X ++ PL LP f' = w' ∧ tys = tys' ∧ (True))) := by
  refine z_met (cc := bR_remainder) (maxL := 2) (ret := none) (isI := false) (own := RR) (by decide +kernel) rfl rfl (fun h => by cases h) (Nat.le_of_ble_eq_true rfl) (fun Z hZ => ?_)
  show Z 0 0 tys 0 [(0, .ref a0), (1, .ref a1)] [] (X ++ PL LP f)
  refine z_aload_n (pc := 0) hZ 0 dR_remainder_0 rfl rfl ?_
  refine z_aload_n (pc := 1) hZ 1 dR_remainder_1 rfl rfl ?_
  refine z_callS (pc := 2) (As := [.ref a0, .ref a1]) (rest := []) hZ (cR_hasNoNumber l D tys X LP f a0 h_a0 a1 h_a1) zyR_hasNoNumber (z_goodS ml_R_17 st_R_hasNoNumber in_R co_R_hasNoNumber) rfl rfl (by decide) rfl rfl (Nat.le_of_ble_eq_true rfl) ⟨Nat.zero_le _, Nat.zero_le _⟩ dR_remainder_2 (z_ki (fun r2_1 w1 tys1 hp => ?_))
  obtain ⟨rfl, rfl, p2_1⟩ := hp
  have J22 : Z 0 0 tys 22 [(0, .ref a0)] [] (X ++ PL LP f) := by
    refine z_aload_n (pc := 22) hZ 0 dR_remainder_22 rfl rfl ?_
    refine z_iconst (pc := 23) hZ 5 dR_remainder_23 (by decide) ?_
    obtain ⟨q24_2, hq24_2⟩ := zp_at (X := X) (f := f) h_a0
    refine z_callVN (pc := 24) (As := [.int 5]) (rest := []) hZ (cV_setSpecial l D tys X LP f a0 h_a0 5) zyV_setSpecial (z_good co_V_setSpecial) nl_R_21 (zb in_V) (zb im_V_setSpecial) (zb se_V_setSpecial) q24_2 hq24_2 rfl rfl rfl (by decide) rfl rfl (Nat.le_of_ble_eq_true rfl) ⟨Nat.zero_le _, Nat.zero_le _⟩ dR_remainder_24 (z_kv (fun w1 tys1 hp => ?_))
    obtain ⟨f24_2, rfl, rfl, p24_2⟩ := hp
    refine z_goto (pc := 27) hZ 88 dR_remainder_27 (by decide) ?_
    exact z_retv (pc := 88) hZ dR_remainder_88 rfl ⟨rfl, _, rfl, rfl, (by trivial)⟩
  refine z_if_ne (pc := 5) hZ 22 dR_remainder_5 (by decide) (fun c5_3 => ?_) (fun c5_3 => ?_)
  · exact z_sub (pc := 22) hZ [0] rfl (J22 )
  · refine z_aload_n (pc := 8) hZ 0 dR_remainder_8 rfl rfl ?_
    obtain ⟨q9_4, hq9_4⟩ := zp_at (X := X) (f := f) h_a0
    refine z_callVN (pc := 9) (As := []) (rest := []) hZ (cV_isInfinite l D tys X LP f a0 h_a0) zyV_isInfinite (z_good co_V_isInfinite) nl_R_25 (zb in_V) (zb im_V_isInfinite) (zb se_V_isInfinite) q9_4 hq9_4 rfl rfl rfl (by decide) rfl rfl (Nat.le_of_ble_eq_true rfl) ⟨Nat.zero_le _, Nat.zero_le _⟩ dR_remainder_9 (z_ki (fun r9_4 w1 tys1 hp => ?_))
    obtain ⟨rfl, rfl, p9_4⟩ := hp
    refine z_if_ne (pc := 12) hZ 22 dR_remainder_12 (by decide) (fun c12_5 => ?_) (fun c12_5 => ?_)
    · exact z_sub (pc := 22) hZ [0] rfl (J22 )
    · refine z_aload_n (pc := 15) hZ 1 dR_remainder_15 rfl rfl ?_
      obtain ⟨q16_6, hq16_6⟩ := zp_at (X := X) (f := f) h_a1
      refine z_callVN (pc := 16) (As := []) (rest := []) hZ (cV_sign l D tys X LP f a1 h_a1) zyV_sign (z_good co_V_sign) nl_R_60 (zb in_V) (zb im_V_sign) (zb se_V_sign) q16_6 hq16_6 rfl rfl rfl (by decide) rfl rfl (Nat.le_of_ble_eq_true rfl) ⟨Nat.zero_le _, Nat.zero_le _⟩ dR_remainder_16 (z_ki (fun r16_6 w1 tys1 hp => ?_))
      obtain ⟨rfl, rfl, p16_6⟩ := hp
      refine z_if_ne (pc := 19) hZ 30 dR_remainder_19 (by decide) (fun c19_7 => ?_) (fun c19_7 => ?_)
      · refine z_aload_n (pc := 30) hZ 1 dR_remainder_30 rfl rfl ?_
        obtain ⟨q31_8, hq31_8⟩ := zp_at (X := X) (f := f) h_a1
        refine z_callVN (pc := 31) (As := []) (rest := []) hZ (cV_isInfinite l D tys X LP f a1 h_a1) zyV_isInfinite (z_good co_V_isInfinite) nl_R_25 (zb in_V) (zb im_V_isInfinite) (zb se_V_isInfinite) q31_8 hq31_8 rfl rfl rfl (by decide) rfl rfl (Nat.le_of_ble_eq_true rfl) ⟨Nat.zero_le _, Nat.zero_le _⟩ dR_remainder_31 (z_ki (fun r31_8 w1 tys1 hp => ?_))
        obtain ⟨rfl, rfl, p31_8⟩ := hp
        refine z_if_eq (pc := 34) hZ 57 dR_remainder_34 (by decide) (fun c34_9 => ?_) (fun c34_9 => ?_)
        · refine z_aload_n (pc := 57) hZ 0 dR_remainder_57 rfl rfl ?_
          refine z_aload_n (pc := 58) hZ 1 dR_remainder_58 rfl rfl ?_
          refine z_callS (pc := 59) (As := [.ref a0, .ref a1]) (rest := []) hZ (cR_remainderOfSizes l D tys X LP f a0 h_a0 a1 h_a1) zyR_remainderOfSizes (z_goodS ml_R_96 st_R_remainderOfSizes in_R co_R_remainderOfSizes) rfl rfl (by decide) rfl rfl (Nat.le_of_ble_eq_true rfl) ⟨Nat.zero_le _, Nat.zero_le _⟩ dR_remainder_59 (z_kv (fun w1 tys1 hp => ?_))
          obtain ⟨f59_10, rfl, rfl, p59_10⟩ := hp
          refine z_aload_n (pc := 62) hZ 0 dR_remainder_62 rfl rfl ?_
          refine z_pg1N (pc := 63) hZ h_a0 uc_V nf_R_29 dR_remainder_63 (fun v63_11 ev63_11 => ?_)
          refine z_lconst (pc := 66) hZ 0 dR_remainder_66 (by decide) ?_
          refine z_lif_eq (pc := 67) hZ 88 dR_remainder_67 dR_remainder_68 (by decide) (fun c68_12 => ?_) (fun c68_12 => ?_)
          · exact z_retv (pc := 88) hZ dR_remainder_88 rfl ⟨rfl, _, rfl, rfl, (by trivial)⟩
          · refine z_aload_n (pc := 71) hZ 0 dR_remainder_71 rfl rfl ?_
            obtain ⟨q72_13, hq72_13⟩ := zp_at (X := X) (f := f59_10) h_a0
            refine z_callVN (pc := 72) (As := []) (rest := []) hZ (cV_sign l D tys X LP f59_10 a0 h_a0) zyV_sign (z_good co_V_sign) nl_R_60 (zb in_V) (zb im_V_sign) (zb se_V_sign) q72_13 hq72_13 rfl rfl rfl (by decide) rfl rfl (Nat.le_of_ble_eq_true rfl) ⟨Nat.zero_le _, Nat.zero_le _⟩ dR_remainder_72 (z_ki (fun r72_13 w1 tys1 hp => ?_))
            obtain ⟨rfl, rfl, p72_13⟩ := hp
            refine z_aload_n (pc := 75) hZ 1 dR_remainder_75 rfl rfl ?_
            obtain ⟨q76_14, hq76_14⟩ := zp_at (X := X) (f := f59_10) h_a1
            refine z_callVN (pc := 76) (As := []) (rest := [.int r72_13]) hZ (cV_sign l D tys X LP f59_10 a1 h_a1) zyV_sign (z_good co_V_sign) nl_R_60 (zb in_V) (zb im_V_sign) (zb se_V_sign) q76_14 hq76_14 rfl rfl rfl (by decide) rfl rfl (Nat.le_of_ble_eq_true rfl) ⟨Nat.zero_le _, Nat.zero_le _⟩ dR_remainder_76 (z_ki (fun r76_14 w1 tys1 hp => ?_))
            obtain ⟨rfl, rfl, p76_14⟩ := hp
            refine z_icmp_eq (pc := 79) hZ 88 dR_remainder_79 (by decide) (fun c79_15 => ?_) (fun c79_15 => ?_)
            · exact z_retv (pc := 88) hZ dR_remainder_88 rfl ⟨rfl, _, rfl, rfl, (by trivial)⟩
            · refine z_aload_n (pc := 82) hZ 0 dR_remainder_82 rfl rfl ?_
              refine z_aload_n (pc := 83) hZ 1 dR_remainder_83 rfl rfl ?_
              refine z_aload_n (pc := 84) hZ 0 dR_remainder_84 rfl rfl ?_
              refine z_callS (pc := 85) (As := [.ref a0, .ref a1, .ref a0]) (rest := []) hZ (cR_addSmaller l D tys X LP f59_10 a0 h_a0 a1 h_a1 a0 h_a0) zyR_addSmaller (z_goodS ml_R_43 st_R_addSmaller in_R co_R_addSmaller) rfl rfl (by decide) rfl rfl (Nat.le_of_ble_eq_true rfl) ⟨Nat.zero_le _, Nat.zero_le _⟩ dR_remainder_85 (z_kv (fun w1 tys1 hp => ?_))
              obtain ⟨f85_16, rfl, rfl, p85_16⟩ := hp
              exact z_retv (pc := 88) hZ dR_remainder_88 rfl ⟨rfl, _, rfl, rfl, (by trivial)⟩
        · refine z_aload_n (pc := 37) hZ 0 dR_remainder_37 rfl rfl ?_
          obtain ⟨q38_17, hq38_17⟩ := zp_at (X := X) (f := f) h_a0
          refine z_callVN (pc := 38) (As := []) (rest := []) hZ (cV_sign l D tys X LP f a0 h_a0) zyV_sign (z_good co_V_sign) nl_R_60 (zb in_V) (zb im_V_sign) (zb se_V_sign) q38_17 hq38_17 rfl rfl rfl (by decide) rfl rfl (Nat.le_of_ble_eq_true rfl) ⟨Nat.zero_le _, Nat.zero_le _⟩ dR_remainder_38 (z_ki (fun r38_17 w1 tys1 hp => ?_))
          obtain ⟨rfl, rfl, p38_17⟩ := hp
          refine z_aload_n (pc := 41) hZ 1 dR_remainder_41 rfl rfl ?_
          obtain ⟨q42_18, hq42_18⟩ := zp_at (X := X) (f := f) h_a1
          refine z_callVN (pc := 42) (As := []) (rest := [.int r38_17]) hZ (cV_sign l D tys X LP f a1 h_a1) zyV_sign (z_good co_V_sign) nl_R_60 (zb in_V) (zb im_V_sign) (zb se_V_sign) q42_18 hq42_18 rfl rfl rfl (by decide) rfl rfl (Nat.le_of_ble_eq_true rfl) ⟨Nat.zero_le _, Nat.zero_le _⟩ dR_remainder_42 (z_ki (fun r42_18 w1 tys1 hp => ?_))
          obtain ⟨rfl, rfl, p42_18⟩ := hp
          refine z_ineg (pc := 45) hZ dR_remainder_45 (fun v45_19 ev45_19 => ?_)
          refine z_icmp_ne (pc := 46) hZ 88 dR_remainder_46 (by decide) (fun c46_20 => ?_) (fun c46_20 => ?_)
          · exact z_retv (pc := 88) hZ dR_remainder_88 rfl ⟨rfl, _, rfl, rfl, (by trivial)⟩
          · refine z_aload_n (pc := 49) hZ 0 dR_remainder_49 rfl rfl ?_
            refine z_aload_n (pc := 50) hZ 1 dR_remainder_50 rfl rfl ?_
            obtain ⟨q51_21, hq51_21⟩ := zp_at (X := X) (f := f) h_a0
            refine z_callVN (pc := 51) (As := [.ref a1]) (rest := []) hZ (cV_become l D tys X LP f a0 h_a0 a1 h_a1) zyV_become (z_good co_V_become) nl_R_33 (zb in_V) (zb im_V_become) (zb se_V_become) q51_21 hq51_21 rfl rfl rfl (by decide) rfl rfl (Nat.le_of_ble_eq_true rfl) ⟨Nat.zero_le _, Nat.zero_le _⟩ dR_remainder_51 (z_kv (fun w1 tys1 hp => ?_))
            obtain ⟨f51_21, rfl, rfl, p51_21⟩ := hp
            refine z_goto (pc := 54) hZ 88 dR_remainder_54 (by decide) ?_
            exact z_retv (pc := 88) hZ dR_remainder_88 rfl ⟨rfl, _, rfl, rfl, (by trivial)⟩
      · exact z_sub (pc := 22) hZ [0] rfl (J22 )
end
section
set_option maxHeartbeats 4000000 in
set_option maxRecDepth 100000 in
theorem cN_isRegister (l : Launch) (D : va_G) (tys : zT) (w : va_W) (p0 : Int32) : zM l D vwCl zNF zNM yN_isRegister wsN_isRegister { frames := 0, cells := 0, slots := 0, locals := 0 } [.int p0] (w) tys (qI (fun r w' tys' => w = w' ∧ tys = tys' ∧ ((r = 1 ∧ vp_in p0 32) ∨ (r = 0 ∧ ¬ vp_in p0 32)))) := by
  refine z_met (cc := bN_isRegister) (maxL := 1) (ret := (some .boolean)) (isI := false) (own := RN) (by decide +kernel) rfl rfl (fun h => by cases h) (Nat.le_of_ble_eq_true rfl) (fun Z hZ => ?_)
  show Z 0 0 tys 0 [(0, .int p0)] [] (w)
  refine z_iload_n (pc := 0) hZ 0 dN_isRegister_0 rfl rfl ?_
  refine z_if_lt (pc := 1) hZ 14 dN_isRegister_1 (by decide) (fun c1_1 => ?_) (fun c1_1 => ?_)
  · refine z_iconst (pc := 14) hZ 0 dN_isRegister_14 (by decide) ?_
    exact z_reti (pc := 15) hZ dN_isRegister_15 .boolean rfl rfl ⟨_, rfl, rfl, rfl, (by first | exact Or.inl ⟨rfl, reg_1 (by assumption) (by assumption)⟩ | exact Or.inr ⟨rfl, reg_0a (by assumption)⟩ | exact Or.inr ⟨rfl, reg_0b (by assumption)⟩)⟩
  · refine z_iload_n (pc := 4) hZ 0 dN_isRegister_4 rfl rfl ?_
    refine z_bipush (pc := 5) hZ 32 dN_isRegister_5 (by decide) ?_
    refine z_icmp_ge (pc := 7) hZ 14 dN_isRegister_7 (by decide) (fun c7_2 => ?_) (fun c7_2 => ?_)
    · refine z_iconst (pc := 14) hZ 0 dN_isRegister_14 (by decide) ?_
      exact z_reti (pc := 15) hZ dN_isRegister_15 .boolean rfl rfl ⟨_, rfl, rfl, rfl, (by first | exact Or.inl ⟨rfl, reg_1 (by assumption) (by assumption)⟩ | exact Or.inr ⟨rfl, reg_0a (by assumption)⟩ | exact Or.inr ⟨rfl, reg_0b (by assumption)⟩)⟩
    · refine z_iconst (pc := 10) hZ 1 dN_isRegister_10 (by decide) ?_
      refine z_goto (pc := 11) hZ 15 dN_isRegister_11 (by decide) ?_
      exact z_reti (pc := 15) hZ dN_isRegister_15 .boolean rfl rfl ⟨_, rfl, rfl, rfl, (by first | exact Or.inl ⟨rfl, reg_1 (by assumption) (by assumption)⟩ | exact Or.inr ⟨rfl, reg_0a (by assumption)⟩ | exact Or.inr ⟨rfl, reg_0b (by assumption)⟩)⟩
set_option maxHeartbeats 4000000 in
set_option maxRecDepth 100000 in
theorem cN_isRow (l : Launch) (D : va_G) (tys : zT) (w : va_W) (p0 : Int32) (p1 : Int32) : zM l D vwCl zNF zNM yN_isRow wsN_isRow { frames := 0, cells := 0, slots := 0, locals := 0 } [.int p0, .int p1] (w) tys (qI (fun r w' tys' => w = w' ∧ tys = tys' ∧ ((r = 1 ∧ rowOK p0 p1) ∨ (r = 0 ∧ ¬ rowOK p0 p1)))) := by
  refine z_met (cc := bN_isRow) (maxL := 2) (ret := (some .boolean)) (isI := false) (own := RN) (by decide +kernel) rfl rfl (fun h => by cases h) (Nat.le_of_ble_eq_true rfl) (fun Z hZ => ?_)
  show Z 0 0 tys 0 [(0, .int p0), (1, .int p1)] [] (w)
  refine z_iload_n (pc := 0) hZ 0 dN_isRow_0 rfl rfl ?_
  refine z_if_lt (pc := 1) hZ 26 dN_isRow_1 (by decide) (fun c1_1 => ?_) (fun c1_1 => ?_)
  · refine z_iconst (pc := 26) hZ 0 dN_isRow_26 (by decide) ?_
    exact z_reti (pc := 27) hZ dN_isRow_27 .boolean rfl rfl ⟨_, rfl, rfl, rfl, (by first | exact Or.inl ⟨rfl, row_t (by assumption) (by assumption) (by assumption) (by assumption) (by assumption)⟩ | exact Or.inr ⟨rfl, row_f1 (by assumption)⟩ | exact Or.inr ⟨rfl, row_f2 (by assumption)⟩ | exact Or.inr ⟨rfl, row_f3 (by assumption)⟩ | exact Or.inr ⟨rfl, row_f4 (by assumption) (by assumption) (by assumption) (by assumption)⟩)⟩
  · refine z_iload_n (pc := 4) hZ 0 dN_isRow_4 rfl rfl ?_
    refine z_bipush (pc := 5) hZ 32 dN_isRow_5 (by decide) ?_
    refine z_icmp_gt (pc := 7) hZ 26 dN_isRow_7 (by decide) (fun c7_2 => ?_) (fun c7_2 => ?_)
    · refine z_iconst (pc := 26) hZ 0 dN_isRow_26 (by decide) ?_
      exact z_reti (pc := 27) hZ dN_isRow_27 .boolean rfl rfl ⟨_, rfl, rfl, rfl, (by first | exact Or.inl ⟨rfl, row_t (by assumption) (by assumption) (by assumption) (by assumption) (by assumption)⟩ | exact Or.inr ⟨rfl, row_f1 (by assumption)⟩ | exact Or.inr ⟨rfl, row_f2 (by assumption)⟩ | exact Or.inr ⟨rfl, row_f3 (by assumption)⟩ | exact Or.inr ⟨rfl, row_f4 (by assumption) (by assumption) (by assumption) (by assumption)⟩)⟩
    · refine z_iload_n (pc := 10) hZ 1 dN_isRow_10 rfl rfl ?_
      refine z_if_lt (pc := 11) hZ 26 dN_isRow_11 (by decide) (fun c11_3 => ?_) (fun c11_3 => ?_)
      · refine z_iconst (pc := 26) hZ 0 dN_isRow_26 (by decide) ?_
        exact z_reti (pc := 27) hZ dN_isRow_27 .boolean rfl rfl ⟨_, rfl, rfl, rfl, (by first | exact Or.inl ⟨rfl, row_t (by assumption) (by assumption) (by assumption) (by assumption) (by assumption)⟩ | exact Or.inr ⟨rfl, row_f1 (by assumption)⟩ | exact Or.inr ⟨rfl, row_f2 (by assumption)⟩ | exact Or.inr ⟨rfl, row_f3 (by assumption)⟩ | exact Or.inr ⟨rfl, row_f4 (by assumption) (by assumption) (by assumption) (by assumption)⟩)⟩
      · refine z_iload_n (pc := 14) hZ 1 dN_isRow_14 rfl rfl ?_
        refine z_bipush (pc := 15) hZ 32 dN_isRow_15 (by decide) ?_
        refine z_iload_n (pc := 17) hZ 0 dN_isRow_17 rfl rfl ?_
        refine z_isub (pc := 18) hZ dN_isRow_18 (fun v18_4 ev18_4 => ?_)
        refine z_icmp_gt (pc := 19) hZ 26 dN_isRow_19 (by decide) (fun c19_5 => ?_) (fun c19_5 => ?_)
        · refine z_iconst (pc := 26) hZ 0 dN_isRow_26 (by decide) ?_
          exact z_reti (pc := 27) hZ dN_isRow_27 .boolean rfl rfl ⟨_, rfl, rfl, rfl, (by first | exact Or.inl ⟨rfl, row_t (by assumption) (by assumption) (by assumption) (by assumption) (by assumption)⟩ | exact Or.inr ⟨rfl, row_f1 (by assumption)⟩ | exact Or.inr ⟨rfl, row_f2 (by assumption)⟩ | exact Or.inr ⟨rfl, row_f3 (by assumption)⟩ | exact Or.inr ⟨rfl, row_f4 (by assumption) (by assumption) (by assumption) (by assumption)⟩)⟩
        · refine z_iconst (pc := 22) hZ 1 dN_isRow_22 (by decide) ?_
          refine z_goto (pc := 23) hZ 27 dN_isRow_23 (by decide) ?_
          exact z_reti (pc := 27) hZ dN_isRow_27 .boolean rfl rfl ⟨_, rfl, rfl, rfl, (by first | exact Or.inl ⟨rfl, row_t (by assumption) (by assumption) (by assumption) (by assumption) (by assumption)⟩ | exact Or.inr ⟨rfl, row_f1 (by assumption)⟩ | exact Or.inr ⟨rfl, row_f2 (by assumption)⟩ | exact Or.inr ⟨rfl, row_f3 (by assumption)⟩ | exact Or.inr ⟨rfl, row_f4 (by assumption) (by assumption) (by assumption) (by assumption)⟩)⟩
set_option maxHeartbeats 4000000 in
set_option maxRecDepth 100000 in
theorem cN_shiftLeft (l : Launch) (D : va_G) (tys : zT) (w : va_W) (p0 : Int64) (p1 : Int64) : zM l D vwCl zNF zNM yN_shiftLeft wsN_shiftLeft { frames := 0, cells := 0, slots := 0, locals := 0 } [.long p0, .long p1] (w) tys (qL (fun r w' tys' => w = w' ∧ tys = tys' ∧ (True))) := by
  refine z_met (cc := bN_shiftLeft) (maxL := 4) (ret := (some .long)) (isI := false) (own := RN) (by decide +kernel) rfl rfl (fun h => by cases h) (Nat.le_of_ble_eq_true rfl) (fun Z hZ => ?_)
  show Z 0 0 tys 0 [(0, .long p0), (2, .long p1)] [] (w)
  refine z_lload_n (pc := 0) hZ 1 dN_shiftLeft_0 rfl rfl ?_
  refine z_ldc2 (pc := 1) hZ (-64) (zb kc_N_159) dN_shiftLeft_1 ?_
  refine z_lif_le (pc := 4) hZ 16 dN_shiftLeft_4 dN_shiftLeft_5 (by decide) (fun c5_1 => ?_) (fun c5_1 => ?_)
  · refine z_lconst (pc := 16) hZ 0 dN_shiftLeft_16 (by decide) ?_
    exact z_retl (pc := 17) hZ dN_shiftLeft_17 rfl ⟨_, rfl, rfl, rfl, (by trivial)⟩
  · refine z_lload_n (pc := 8) hZ 1 dN_shiftLeft_8 rfl rfl ?_
    refine z_ldc2 (pc := 9) hZ 64 (zb kc_N_161) dN_shiftLeft_9 ?_
    refine z_lif_lt (pc := 12) hZ 18 dN_shiftLeft_12 dN_shiftLeft_13 (by decide) (fun c13_2 => ?_) (fun c13_2 => ?_)
    · refine z_lload_n (pc := 18) hZ 1 dN_shiftLeft_18 rfl rfl ?_
      refine z_lconst (pc := 19) hZ 0 dN_shiftLeft_19 (by decide) ?_
      refine z_lif_lt (pc := 20) hZ 31 dN_shiftLeft_20 dN_shiftLeft_21 (by decide) (fun c21_3 => ?_) (fun c21_3 => ?_)
      · refine z_lload_n (pc := 31) hZ 0 dN_shiftLeft_31 rfl rfl ?_
        refine z_lload_n (pc := 32) hZ 1 dN_shiftLeft_32 rfl rfl ?_
        refine z_lneg (pc := 33) hZ dN_shiftLeft_33 (fun v33_4 ev33_4 => ?_)
        refine z_l2i (pc := 34) hZ dN_shiftLeft_34 (fun v34_5 ev34_5 => ?_)
        refine z_lushr (pc := 35) hZ dN_shiftLeft_35 (fun v35_6 ev35_6 => ?_)
        exact z_retl (pc := 36) hZ dN_shiftLeft_36 rfl ⟨_, rfl, rfl, rfl, (by trivial)⟩
      · refine z_lload_n (pc := 24) hZ 0 dN_shiftLeft_24 rfl rfl ?_
        refine z_lload_n (pc := 25) hZ 1 dN_shiftLeft_25 rfl rfl ?_
        refine z_l2i (pc := 26) hZ dN_shiftLeft_26 (fun v26_7 ev26_7 => ?_)
        refine z_lshl (pc := 27) hZ dN_shiftLeft_27 (fun v27_8 ev27_8 => ?_)
        refine z_goto (pc := 28) hZ 36 dN_shiftLeft_28 (by decide) ?_
        exact z_retl (pc := 36) hZ dN_shiftLeft_36 rfl ⟨_, rfl, rfl, rfl, (by trivial)⟩
    · refine z_lconst (pc := 16) hZ 0 dN_shiftLeft_16 (by decide) ?_
      exact z_retl (pc := 17) hZ dN_shiftLeft_17 rfl ⟨_, rfl, rfl, rfl, (by trivial)⟩
set_option maxHeartbeats 4000000 in
set_option maxRecDepth 100000 in
theorem cN_whole (l : Launch) (D : va_G) (cR c1 c2 c3 : ClassId) (h0 ra v1 v2 v3 : Nat) (Y : va_W) (LP : List Nat) (f : Nat → V3) (g : Nat → Option Nat) (hH : zH LP v1 v2 v3 g) (p1 : Int32) (p2 : Int64) : zM l D vwCl zNF zNM yN_whole wsN_whole { frames := 1, cells := 0, slots := 0, locals := 22 } [.ref h0, .int p1, .long p2] (CX h0 ra v1 v2 v3 cR g Y ++ PL LP f) (TY cR c1 c2 c3) (qI (fun r w' tys' => ∃ f' : Nat → V3, CX h0 ra v1 v2 v3 cR g Y ++ PL LP f' = w' ∧ (TY cR c1 c2 c3) = tys' ∧ (((vp_in p1 32) → r = 1) ∧ (¬ (vp_in p1 32) → r = 0)))) := by
  refine z_met (cc := bN_whole) (maxL := 4) (ret := (some .boolean)) (isI := false) (own := RN) (by decide +kernel) rfl rfl (fun h => by cases h) (Nat.le_of_ble_eq_true rfl) (fun Z hZ => ?_)
  show Z 0 0 (TY cR c1 c2 c3) 0 [(0, .ref h0), (1, .int p1), (2, .long p2)] [] (CX h0 ra v1 v2 v3 cR g Y ++ PL LP f)
  refine z_iload_n (pc := 0) hZ 1 dN_whole_0 rfl rfl ?_
  refine z_callS (pc := 1) (As := [.int p1]) (rest := []) hZ (cN_isRegister l D (TY cR c1 c2 c3) (CX h0 ra v1 v2 v3 cR g Y ++ PL LP f) p1) zyN_isRegister (z_goodS ml_N_26 st_N_isRegister in_N co_N_isRegister) rfl rfl (by decide) rfl rfl (Nat.le_of_ble_eq_true rfl) ⟨Nat.zero_le _, Nat.zero_le _⟩ dN_whole_1 (z_ki (fun r1_1 w1 tys1 hp => ?_))
  obtain ⟨rfl, rfl, p1_1⟩ := hp
  refine z_if_ne (pc := 4) hZ 9 dN_whole_4 (by decide) (fun c4_2 => ?_) (fun c4_2 => ?_)
  · refine z_aload_n (pc := 9) hZ 0 dN_whole_9 rfl rfl ?_
    refine z_get (pc := 10) (ci := 1) hZ 0 rfl rfl uc_N 0 (by decide) (zb fl_N_11) rfl dN_whole_10 ?_
    refine z_iload_n (pc := 13) hZ 1 dN_whole_13 rfl rfl ?_
    obtain ⟨y14_2, hy14_2, gy14_2⟩ := zH_at hH (i := p1) (by first | assumption | exact reg_of (by assumption) (by assumption))
    refine z_aald (pc := 14) hZ 1 0 rfl rfl (by first | assumption | exact reg_of (by assumption) (by assumption)) gy14_2 dN_whole_14 ?_
    refine z_lload_n (pc := 15) hZ 2 dN_whole_15 rfl rfl ?_
    obtain ⟨q16_4, hq16_4⟩ := zp_at (X := CX h0 ra v1 v2 v3 cR g Y) (f := f) hy14_2
    refine z_callVN (pc := 16) (As := [.long p2]) (rest := []) hZ (cV_setWhole l D (TY cR c1 c2 c3) (CX h0 ra v1 v2 v3 cR g Y) LP f y14_2 hy14_2 p2) zyV_setWhole (z_good co_V_setWhole) nl_N_30 (zb in_V) (zb im_V_setWhole) (zb se_V_setWhole) q16_4 hq16_4 rfl rfl rfl (by decide) rfl rfl (Nat.le_of_ble_eq_true rfl) ⟨Nat.zero_le _, Nat.zero_le _⟩ dN_whole_16 (z_kv (fun w1 tys1 hp => ?_))
    obtain ⟨f16_4, rfl, rfl, p16_4⟩ := hp
    refine z_iconst (pc := 19) hZ 1 dN_whole_19 (by decide) ?_
    exact z_reti (pc := 20) hZ dN_whole_20 .boolean rfl rfl ⟨_, rfl, _, rfl, rfl, (by first | exact ⟨fun _ => rfl, fun q => absurd (reg_of (by assumption) (by assumption)) q⟩ | exact ⟨fun q => absurd q (reg_no (by assumption) (by assumption)), fun _ => rfl⟩)⟩
  · refine z_iconst (pc := 7) hZ 0 dN_whole_7 (by decide) ?_
    exact z_reti (pc := 8) hZ dN_whole_8 .boolean rfl rfl ⟨_, rfl, _, rfl, rfl, (by first | exact ⟨fun _ => rfl, fun q => absurd (reg_of (by assumption) (by assumption)) q⟩ | exact ⟨fun q => absurd q (reg_no (by assumption) (by assumption)), fun _ => rfl⟩)⟩
set_option maxHeartbeats 4000000 in
set_option maxRecDepth 100000 in
theorem cN_real (l : Launch) (D : va_G) (cR c1 c2 c3 : ClassId) (h0 ra v1 v2 v3 : Nat) (Y : va_W) (LP : List Nat) (f : Nat → V3) (g : Nat → Option Nat) (hH : zH LP v1 v2 v3 g) (p1 : Int32) (p2 : Int64) (p3 : Int32) : zM l D vwCl zNF zNM yN_real wsN_real { frames := 4, cells := 0, slots := 0, locals := 97 } [.ref h0, .int p1, .long p2, .int p3] (CX h0 ra v1 v2 v3 cR g Y ++ PL LP f) (TY cR c1 c2 c3) (qI (fun r w' tys' => ∃ f' : Nat → V3, CX h0 ra v1 v2 v3 cR g Y ++ PL LP f' = w' ∧ (TY cR c1 c2 c3) = tys' ∧ (((vp_in p1 32 ∧ ¬ p3 < -1200 ∧ p3 ≤ 1200) → r = 1) ∧ (¬ (vp_in p1 32 ∧ ¬ p3 < -1200 ∧ p3 ≤ 1200) → r = 0)))) := by
  refine z_met (cc := bN_real) (maxL := 5) (ret := (some .boolean)) (isI := false) (own := RN) (by decide +kernel) rfl rfl (fun h => by cases h) (Nat.le_of_ble_eq_true rfl) (fun Z hZ => ?_)
  show Z 0 0 (TY cR c1 c2 c3) 0 [(0, .ref h0), (1, .int p1), (2, .long p2), (4, .int p3)] [] (CX h0 ra v1 v2 v3 cR g Y ++ PL LP f)
  refine z_iload_n (pc := 0) hZ 1 dN_real_0 rfl rfl ?_
  refine z_callS (pc := 1) (As := [.int p1]) (rest := []) hZ (cN_isRegister l D (TY cR c1 c2 c3) (CX h0 ra v1 v2 v3 cR g Y ++ PL LP f) p1) zyN_isRegister (z_goodS ml_N_26 st_N_isRegister in_N co_N_isRegister) rfl rfl (by decide) rfl rfl (Nat.le_of_ble_eq_true rfl) ⟨Nat.zero_le _, Nat.zero_le _⟩ dN_real_1 (z_ki (fun r1_1 w1 tys1 hp => ?_))
  obtain ⟨rfl, rfl, p1_1⟩ := hp
  refine z_if_eq (pc := 4) hZ 23 dN_real_4 (by decide) (fun c4_2 => ?_) (fun c4_2 => ?_)
  · refine z_iconst (pc := 23) hZ 0 dN_real_23 (by decide) ?_
    exact z_reti (pc := 24) hZ dN_real_24 .boolean rfl rfl ⟨_, rfl, _, rfl, rfl, (by first | exact ⟨fun _ => rfl, fun q => absurd (⟨reg_of (by assumption) (by assumption), (by assumption), (by assumption)⟩) q⟩ | exact ⟨fun q => absurd q.1 (reg_no (by assumption) (by assumption)), fun _ => rfl⟩ | exact ⟨fun q => absurd (by assumption) q.2.1, fun _ => rfl⟩ | exact ⟨fun q => absurd q.2.2 (by assumption), fun _ => rfl⟩)⟩
  · refine z_iload (pc := 7) hZ 3 dN_real_7 rfl ?_
    refine z_sipush (pc := 9) hZ (-1200) dN_real_9 (by decide) ?_
    refine z_icmp_lt (pc := 12) hZ 23 dN_real_12 (by decide) (fun c12_3 => ?_) (fun c12_3 => ?_)
    · refine z_iconst (pc := 23) hZ 0 dN_real_23 (by decide) ?_
      exact z_reti (pc := 24) hZ dN_real_24 .boolean rfl rfl ⟨_, rfl, _, rfl, rfl, (by first | exact ⟨fun _ => rfl, fun q => absurd (⟨reg_of (by assumption) (by assumption), (by assumption), (by assumption)⟩) q⟩ | exact ⟨fun q => absurd q.1 (reg_no (by assumption) (by assumption)), fun _ => rfl⟩ | exact ⟨fun q => absurd (by assumption) q.2.1, fun _ => rfl⟩ | exact ⟨fun q => absurd q.2.2 (by assumption), fun _ => rfl⟩)⟩
    · refine z_iload (pc := 15) hZ 3 dN_real_15 rfl ?_
      refine z_sipush (pc := 17) hZ 1200 dN_real_17 (by decide) ?_
      refine z_icmp_le (pc := 20) hZ 25 dN_real_20 (by decide) (fun c20_4 => ?_) (fun c20_4 => ?_)
      · refine z_aload_n (pc := 25) hZ 0 dN_real_25 rfl rfl ?_
        refine z_get (pc := 26) (ci := 1) hZ 0 rfl rfl uc_N 1 (by decide) (zb fl_N_16) rfl dN_real_26 ?_
        refine z_lload_n (pc := 29) hZ 2 dN_real_29 rfl rfl ?_
        refine z_iconst (pc := 30) hZ 0 dN_real_30 (by decide) ?_
        obtain ⟨q31_5, hq31_5⟩ := zp_at (X := CX h0 ra v1 v2 v3 cR g Y) (f := f) hH.1
        refine z_callVN (pc := 31) (As := [.long p2, .int 0]) (rest := []) hZ (cV_setReal l D (TY cR c1 c2 c3) (CX h0 ra v1 v2 v3 cR g Y) LP f v1 hH.1 p2 0) zyV_setReal (z_good co_V_setReal) nl_N_34 (zb in_V) (zb im_V_setReal) (zb se_V_setReal) q31_5 hq31_5 rfl rfl rfl (by decide) rfl rfl (Nat.le_of_ble_eq_true rfl) ⟨Nat.zero_le _, Nat.zero_le _⟩ dN_real_31 (z_kv (fun w1 tys1 hp => ?_))
        obtain ⟨f31_5, rfl, rfl, p31_5⟩ := hp
        refine z_aload_n (pc := 34) hZ 0 dN_real_34 rfl rfl ?_
        refine z_get (pc := 35) (ci := 1) hZ 0 rfl rfl uc_N 1 (by decide) (zb fl_N_16) rfl dN_real_35 ?_
        refine z_aload_n (pc := 38) hZ 0 dN_real_38 rfl rfl ?_
        refine z_get (pc := 39) (ci := 1) hZ 0 rfl rfl uc_N 1 (by decide) (zb fl_N_16) rfl dN_real_39 ?_
        refine z_pg1N (pc := 42) hZ hH.1 uc_V nf_N_38 dN_real_42 (fun v42_6 ev42_6 => ?_)
        refine z_aload_n (pc := 45) hZ 0 dN_real_45 rfl rfl ?_
        refine z_get (pc := 46) (ci := 1) hZ 0 rfl rfl uc_N 1 (by decide) (zb fl_N_16) rfl dN_real_46 ?_
        refine z_pg2N (pc := 49) hZ hH.1 uc_V nf_N_42 dN_real_49 (fun v49_7 ev49_7 => ?_)
        refine z_iload (pc := 52) hZ 3 dN_real_52 rfl ?_
        refine z_iadd (pc := 54) hZ dN_real_54 (fun v54_8 ev54_8 => ?_)
        obtain ⟨q55_9, hq55_9⟩ := zp_at (X := CX h0 ra v1 v2 v3 cR g Y) (f := f31_5) hH.1
        refine z_callVN (pc := 55) (As := [.long v42_6, .int v54_8]) (rest := []) hZ (cV_setReal l D (TY cR c1 c2 c3) (CX h0 ra v1 v2 v3 cR g Y) LP f31_5 v1 hH.1 v42_6 v54_8) zyV_setReal (z_good co_V_setReal) nl_N_34 (zb in_V) (zb im_V_setReal) (zb se_V_setReal) q55_9 hq55_9 rfl rfl rfl (by decide) rfl rfl (Nat.le_of_ble_eq_true rfl) ⟨Nat.zero_le _, Nat.zero_le _⟩ dN_real_55 (z_kv (fun w1 tys1 hp => ?_))
        obtain ⟨f55_9, rfl, rfl, p55_9⟩ := hp
        refine z_aload_n (pc := 58) hZ 0 dN_real_58 rfl rfl ?_
        refine z_get (pc := 59) (ci := 1) hZ 0 rfl rfl uc_N 0 (by decide) (zb fl_N_11) rfl dN_real_59 ?_
        refine z_iload_n (pc := 62) hZ 1 dN_real_62 rfl rfl ?_
        obtain ⟨y63_9, hy63_9, gy63_9⟩ := zH_at hH (i := p1) (by first | assumption | exact reg_of (by assumption) (by assumption))
        refine z_aald (pc := 63) hZ 1 0 rfl rfl (by first | assumption | exact reg_of (by assumption) (by assumption)) gy63_9 dN_real_63 ?_
        refine z_aload_n (pc := 64) hZ 0 dN_real_64 rfl rfl ?_
        refine z_get (pc := 65) (ci := 1) hZ 0 rfl rfl uc_N 1 (by decide) (zb fl_N_16) rfl dN_real_65 ?_
        obtain ⟨q68_11, hq68_11⟩ := zp_at (X := CX h0 ra v1 v2 v3 cR g Y) (f := f55_9) hy63_9
        refine z_callVN (pc := 68) (As := [.ref v1]) (rest := []) hZ (cV_become l D (TY cR c1 c2 c3) (CX h0 ra v1 v2 v3 cR g Y) LP f55_9 y63_9 hy63_9 v1 hH.1) zyV_become (z_good co_V_become) nl_N_46 (zb in_V) (zb im_V_become) (zb se_V_become) q68_11 hq68_11 rfl rfl rfl (by decide) rfl rfl (Nat.le_of_ble_eq_true rfl) ⟨Nat.zero_le _, Nat.zero_le _⟩ dN_real_68 (z_kv (fun w1 tys1 hp => ?_))
        obtain ⟨f68_11, rfl, rfl, p68_11⟩ := hp
        refine z_iconst (pc := 71) hZ 1 dN_real_71 (by decide) ?_
        exact z_reti (pc := 72) hZ dN_real_72 .boolean rfl rfl ⟨_, rfl, _, rfl, rfl, (by first | exact ⟨fun _ => rfl, fun q => absurd (⟨reg_of (by assumption) (by assumption), (by assumption), (by assumption)⟩) q⟩ | exact ⟨fun q => absurd q.1 (reg_no (by assumption) (by assumption)), fun _ => rfl⟩ | exact ⟨fun q => absurd (by assumption) q.2.1, fun _ => rfl⟩ | exact ⟨fun q => absurd q.2.2 (by assumption), fun _ => rfl⟩)⟩
      · refine z_iconst (pc := 23) hZ 0 dN_real_23 (by decide) ?_
        exact z_reti (pc := 24) hZ dN_real_24 .boolean rfl rfl ⟨_, rfl, _, rfl, rfl, (by first | exact ⟨fun _ => rfl, fun q => absurd (⟨reg_of (by assumption) (by assumption), (by assumption), (by assumption)⟩) q⟩ | exact ⟨fun q => absurd q.1 (reg_no (by assumption) (by assumption)), fun _ => rfl⟩ | exact ⟨fun q => absurd (by assumption) q.2.1, fun _ => rfl⟩ | exact ⟨fun q => absurd q.2.2 (by assumption), fun _ => rfl⟩)⟩
set_option maxHeartbeats 4000000 in
set_option maxRecDepth 100000 in
theorem cN_special (l : Launch) (D : va_G) (cR c1 c2 c3 : ClassId) (h0 ra v1 v2 v3 : Nat) (Y : va_W) (LP : List Nat) (f : Nat → V3) (g : Nat → Option Nat) (hH : zH LP v1 v2 v3 g) (p1 : Int32) (p2 : Int32) : zM l D vwCl zNF zNM yN_special wsN_special { frames := 1, cells := 0, slots := 0, locals := 21 } [.ref h0, .int p1, .int p2] (CX h0 ra v1 v2 v3 cR g Y ++ PL LP f) (TY cR c1 c2 c3) (qI (fun r w' tys' => ∃ f' : Nat → V3, CX h0 ra v1 v2 v3 cR g Y ++ PL LP f' = w' ∧ (TY cR c1 c2 c3) = tys' ∧ (((vp_in p1 32 ∧ ¬ p2 < 3 ∧ p2 ≤ 5) → r = 1) ∧ (¬ (vp_in p1 32 ∧ ¬ p2 < 3 ∧ p2 ≤ 5) → r = 0)))) := by
  refine z_met (cc := bN_special) (maxL := 3) (ret := (some .boolean)) (isI := false) (own := RN) (by decide +kernel) rfl rfl (fun h => by cases h) (Nat.le_of_ble_eq_true rfl) (fun Z hZ => ?_)
  show Z 0 0 (TY cR c1 c2 c3) 0 [(0, .ref h0), (1, .int p1), (2, .int p2)] [] (CX h0 ra v1 v2 v3 cR g Y ++ PL LP f)
  refine z_iload_n (pc := 0) hZ 1 dN_special_0 rfl rfl ?_
  refine z_callS (pc := 1) (As := [.int p1]) (rest := []) hZ (cN_isRegister l D (TY cR c1 c2 c3) (CX h0 ra v1 v2 v3 cR g Y ++ PL LP f) p1) zyN_isRegister (z_goodS ml_N_26 st_N_isRegister in_N co_N_isRegister) rfl rfl (by decide) rfl rfl (Nat.le_of_ble_eq_true rfl) ⟨Nat.zero_le _, Nat.zero_le _⟩ dN_special_1 (z_ki (fun r1_1 w1 tys1 hp => ?_))
  obtain ⟨rfl, rfl, p1_1⟩ := hp
  refine z_if_eq (pc := 4) hZ 17 dN_special_4 (by decide) (fun c4_2 => ?_) (fun c4_2 => ?_)
  · refine z_iconst (pc := 17) hZ 0 dN_special_17 (by decide) ?_
    exact z_reti (pc := 18) hZ dN_special_18 .boolean rfl rfl ⟨_, rfl, _, rfl, rfl, (by first | exact ⟨fun _ => rfl, fun q => absurd (⟨reg_of (by assumption) (by assumption), (by assumption), (by assumption)⟩) q⟩ | exact ⟨fun q => absurd q.1 (reg_no (by assumption) (by assumption)), fun _ => rfl⟩ | exact ⟨fun q => absurd (by assumption) q.2.1, fun _ => rfl⟩ | exact ⟨fun q => absurd q.2.2 (by assumption), fun _ => rfl⟩)⟩
  · refine z_iload_n (pc := 7) hZ 2 dN_special_7 rfl rfl ?_
    refine z_iconst (pc := 8) hZ 3 dN_special_8 (by decide) ?_
    refine z_icmp_lt (pc := 9) hZ 17 dN_special_9 (by decide) (fun c9_3 => ?_) (fun c9_3 => ?_)
    · refine z_iconst (pc := 17) hZ 0 dN_special_17 (by decide) ?_
      exact z_reti (pc := 18) hZ dN_special_18 .boolean rfl rfl ⟨_, rfl, _, rfl, rfl, (by first | exact ⟨fun _ => rfl, fun q => absurd (⟨reg_of (by assumption) (by assumption), (by assumption), (by assumption)⟩) q⟩ | exact ⟨fun q => absurd q.1 (reg_no (by assumption) (by assumption)), fun _ => rfl⟩ | exact ⟨fun q => absurd (by assumption) q.2.1, fun _ => rfl⟩ | exact ⟨fun q => absurd q.2.2 (by assumption), fun _ => rfl⟩)⟩
    · refine z_iload_n (pc := 12) hZ 2 dN_special_12 rfl rfl ?_
      refine z_iconst (pc := 13) hZ 5 dN_special_13 (by decide) ?_
      refine z_icmp_le (pc := 14) hZ 19 dN_special_14 (by decide) (fun c14_4 => ?_) (fun c14_4 => ?_)
      · refine z_aload_n (pc := 19) hZ 0 dN_special_19 rfl rfl ?_
        refine z_get (pc := 20) (ci := 1) hZ 0 rfl rfl uc_N 0 (by decide) (zb fl_N_11) rfl dN_special_20 ?_
        refine z_iload_n (pc := 23) hZ 1 dN_special_23 rfl rfl ?_
        obtain ⟨y24_4, hy24_4, gy24_4⟩ := zH_at hH (i := p1) (by first | assumption | exact reg_of (by assumption) (by assumption))
        refine z_aald (pc := 24) hZ 1 0 rfl rfl (by first | assumption | exact reg_of (by assumption) (by assumption)) gy24_4 dN_special_24 ?_
        refine z_iload_n (pc := 25) hZ 2 dN_special_25 rfl rfl ?_
        obtain ⟨q26_6, hq26_6⟩ := zp_at (X := CX h0 ra v1 v2 v3 cR g Y) (f := f) hy24_4
        refine z_callVN (pc := 26) (As := [.int p2]) (rest := []) hZ (cV_setSpecial l D (TY cR c1 c2 c3) (CX h0 ra v1 v2 v3 cR g Y) LP f y24_4 hy24_4 p2) zyV_setSpecial (z_good co_V_setSpecial) nl_N_50 (zb in_V) (zb im_V_setSpecial) (zb se_V_setSpecial) q26_6 hq26_6 rfl rfl rfl (by decide) rfl rfl (Nat.le_of_ble_eq_true rfl) ⟨Nat.zero_le _, Nat.zero_le _⟩ dN_special_26 (z_kv (fun w1 tys1 hp => ?_))
        obtain ⟨f26_6, rfl, rfl, p26_6⟩ := hp
        refine z_iconst (pc := 29) hZ 1 dN_special_29 (by decide) ?_
        exact z_reti (pc := 30) hZ dN_special_30 .boolean rfl rfl ⟨_, rfl, _, rfl, rfl, (by first | exact ⟨fun _ => rfl, fun q => absurd (⟨reg_of (by assumption) (by assumption), (by assumption), (by assumption)⟩) q⟩ | exact ⟨fun q => absurd q.1 (reg_no (by assumption) (by assumption)), fun _ => rfl⟩ | exact ⟨fun q => absurd (by assumption) q.2.1, fun _ => rfl⟩ | exact ⟨fun q => absurd q.2.2 (by assumption), fun _ => rfl⟩)⟩
      · refine z_iconst (pc := 17) hZ 0 dN_special_17 (by decide) ?_
        exact z_reti (pc := 18) hZ dN_special_18 .boolean rfl rfl ⟨_, rfl, _, rfl, rfl, (by first | exact ⟨fun _ => rfl, fun q => absurd (⟨reg_of (by assumption) (by assumption), (by assumption), (by assumption)⟩) q⟩ | exact ⟨fun q => absurd q.1 (reg_no (by assumption) (by assumption)), fun _ => rfl⟩ | exact ⟨fun q => absurd (by assumption) q.2.1, fun _ => rfl⟩ | exact ⟨fun q => absurd q.2.2 (by assumption), fun _ => rfl⟩)⟩
set_option maxHeartbeats 4000000 in
set_option maxRecDepth 100000 in
theorem cN_areWhole (l : Launch) (D : va_G) (cR c1 c2 c3 : ClassId) (h0 ra v1 v2 v3 : Nat) (Y : va_W) (LP : List Nat) (f : Nat → V3) (g : Nat → Option Nat) (hH : zH LP v1 v2 v3 g)  : zM l D vwCl zNF zNM yN_areWhole wsN_areWhole { frames := 0, cells := 0, slots := 0, locals := 0 } [.ref h0] (CX h0 ra v1 v2 v3 cR g Y ++ PL LP f) (TY cR c1 c2 c3) (qI (fun r w' tys' => CX h0 ra v1 v2 v3 cR g Y ++ PL LP f = w' ∧ (TY cR c1 c2 c3) = tys' ∧ (True))) := by
  refine z_met (cc := bN_areWhole) (maxL := 1) (ret := (some .boolean)) (isI := false) (own := RN) (by decide +kernel) rfl rfl (fun h => by cases h) (Nat.le_of_ble_eq_true rfl) (fun Z hZ => ?_)
  show Z 0 0 (TY cR c1 c2 c3) 0 [(0, .ref h0)] [] (CX h0 ra v1 v2 v3 cR g Y ++ PL LP f)
  refine z_aload_n (pc := 0) hZ 0 dN_areWhole_0 rfl rfl ?_
  refine z_get (pc := 1) (ci := 1) hZ 0 rfl rfl uc_N 1 (by decide) (zb fl_N_16) rfl dN_areWhole_1 ?_
  refine z_pg0N (pc := 4) hZ hH.1 uc_V nf_N_71 dN_areWhole_4 (fun v4_1 ev4_1 => ?_)
  refine z_iconst (pc := 7) hZ 1 dN_areWhole_7 (by decide) ?_
  refine z_icmp_ne (pc := 8) hZ 26 dN_areWhole_8 (by decide) (fun c8_2 => ?_) (fun c8_2 => ?_)
  · refine z_iconst (pc := 26) hZ 0 dN_areWhole_26 (by decide) ?_
    exact z_reti (pc := 27) hZ dN_areWhole_27 .boolean rfl rfl ⟨_, rfl, rfl, rfl, (by trivial)⟩
  · refine z_aload_n (pc := 11) hZ 0 dN_areWhole_11 rfl rfl ?_
    refine z_get (pc := 12) (ci := 1) hZ 0 rfl rfl uc_N 2 (by decide) (zb fl_N_20) rfl dN_areWhole_12 ?_
    refine z_pg0N (pc := 15) hZ hH.2.1 uc_V nf_N_71 dN_areWhole_15 (fun v15_3 ev15_3 => ?_)
    refine z_iconst (pc := 18) hZ 1 dN_areWhole_18 (by decide) ?_
    refine z_icmp_ne (pc := 19) hZ 26 dN_areWhole_19 (by decide) (fun c19_4 => ?_) (fun c19_4 => ?_)
    · refine z_iconst (pc := 26) hZ 0 dN_areWhole_26 (by decide) ?_
      exact z_reti (pc := 27) hZ dN_areWhole_27 .boolean rfl rfl ⟨_, rfl, rfl, rfl, (by trivial)⟩
    · refine z_iconst (pc := 22) hZ 1 dN_areWhole_22 (by decide) ?_
      refine z_goto (pc := 23) hZ 27 dN_areWhole_23 (by decide) ?_
      exact z_reti (pc := 27) hZ dN_areWhole_27 .boolean rfl rfl ⟨_, rfl, rfl, rfl, (by trivial)⟩
set_option maxHeartbeats 4000000 in
set_option maxRecDepth 100000 in
theorem cN_makeReals (l : Launch) (D : va_G) (cR c1 c2 c3 : ClassId) (h0 ra v1 v2 v3 : Nat) (Y : va_W) (LP : List Nat) (f : Nat → V3) (g : Nat → Option Nat) (hH : zH LP v1 v2 v3 g)  : zM l D vwCl zNF zNM yN_makeReals wsN_makeReals { frames := 4, cells := 0, slots := 0, locals := 94 } [.ref h0] (CX h0 ra v1 v2 v3 cR g Y ++ PL LP f) (TY cR c1 c2 c3) (qV (fun w' tys' => ∃ f' : Nat → V3, CX h0 ra v1 v2 v3 cR g Y ++ PL LP f' = w' ∧ (TY cR c1 c2 c3) = tys' ∧ (True))) := by
  refine z_met (cc := bN_makeReals) (maxL := 1) (ret := none) (isI := false) (own := RN) (by decide +kernel) rfl rfl (fun h => by cases h) (Nat.le_of_ble_eq_true rfl) (fun Z hZ => ?_)
  show Z 0 0 (TY cR c1 c2 c3) 0 [(0, .ref h0)] [] (CX h0 ra v1 v2 v3 cR g Y ++ PL LP f)
  refine z_aload_n (pc := 0) hZ 0 dN_makeReals_0 rfl rfl ?_
  refine z_get (pc := 1) (ci := 1) hZ 0 rfl rfl uc_N 1 (by decide) (zb fl_N_16) rfl dN_makeReals_1 ?_
  obtain ⟨q4_1, hq4_1⟩ := zp_at (X := CX h0 ra v1 v2 v3 cR g Y) (f := f) hH.1
  refine z_callVN (pc := 4) (As := []) (rest := []) hZ (cV_turnReal l D (TY cR c1 c2 c3) (CX h0 ra v1 v2 v3 cR g Y) LP f v1 hH.1) zyV_turnReal (z_good co_V_turnReal) nl_N_92 (zb in_V) (zb im_V_turnReal) (zb se_V_turnReal) q4_1 hq4_1 rfl rfl rfl (by decide) rfl rfl (Nat.le_of_ble_eq_true rfl) ⟨Nat.zero_le _, Nat.zero_le _⟩ dN_makeReals_4 (z_kv (fun w1 tys1 hp => ?_))
  obtain ⟨f4_1, rfl, rfl, p4_1⟩ := hp
  refine z_aload_n (pc := 7) hZ 0 dN_makeReals_7 rfl rfl ?_
  refine z_get (pc := 8) (ci := 1) hZ 0 rfl rfl uc_N 2 (by decide) (zb fl_N_20) rfl dN_makeReals_8 ?_
  obtain ⟨q11_2, hq11_2⟩ := zp_at (X := CX h0 ra v1 v2 v3 cR g Y) (f := f4_1) hH.2.1
  refine z_callVN (pc := 11) (As := []) (rest := []) hZ (cV_turnReal l D (TY cR c1 c2 c3) (CX h0 ra v1 v2 v3 cR g Y) LP f4_1 v2 hH.2.1) zyV_turnReal (z_good co_V_turnReal) nl_N_92 (zb in_V) (zb im_V_turnReal) (zb se_V_turnReal) q11_2 hq11_2 rfl rfl rfl (by decide) rfl rfl (Nat.le_of_ble_eq_true rfl) ⟨Nat.zero_le _, Nat.zero_le _⟩ dN_makeReals_11 (z_kv (fun w1 tys1 hp => ?_))
  obtain ⟨f11_2, rfl, rfl, p11_2⟩ := hp
  exact z_retv (pc := 14) hZ dN_makeReals_14 rfl ⟨rfl, _, rfl, rfl, (by trivial)⟩
set_option maxHeartbeats 4000000 in
set_option maxRecDepth 100000 in
theorem cN_addOrMultiply (l : Launch) (D : va_G) (cR c1 c2 c3 : ClassId) (h0 ra v1 v2 v3 : Nat) (Y : va_W) (LP : List Nat) (f : Nat → V3) (g : Nat → Option Nat) (hH : zH LP v1 v2 v3 g) (p1 : Int32) : zM l D vwCl zNF zNM yN_addOrMultiply wsN_addOrMultiply { frames := 5, cells := 0, slots := 0, locals := 137 } [.ref h0, .int p1] (CX h0 ra v1 v2 v3 cR g Y ++ PL LP f) (TY cR c1 c2 c3) (qI (fun r w' tys' => ∃ f' : Nat → V3, CX h0 ra v1 v2 v3 cR g Y ++ PL LP f' = w' ∧ (TY cR c1 c2 c3) = tys' ∧ (True))) := by
  refine z_met (cc := bN_addOrMultiply) (maxL := 6) (ret := (some .int)) (isI := false) (own := RN) (by decide +kernel) rfl rfl (fun h => by cases h) (Nat.le_of_ble_eq_true rfl) (fun Z hZ => ?_)
  show Z 0 0 (TY cR c1 c2 c3) 0 [(0, .ref h0), (1, .int p1)] [] (CX h0 ra v1 v2 v3 cR g Y ++ PL LP f)
  refine z_aload_n (pc := 0) hZ 0 dN_addOrMultiply_0 rfl rfl ?_
  refine z_callV (pc := 1) (As := []) (rest := []) hZ (cN_areWhole l D cR c1 c2 c3 h0 ra v1 v2 v3 Y LP f g hH ) zyN_areWhole (z_goodV ml_N_95 im_N_areWhole se_N_areWhole in_N co_N_areWhole) 0 rfl rfl rfl rfl (by decide) rfl rfl (Nat.le_of_ble_eq_true rfl) ⟨Nat.zero_le _, Nat.zero_le _⟩ dN_addOrMultiply_1 (z_ki (fun r1_1 w1 tys1 hp => ?_))
  obtain ⟨rfl, rfl, p1_1⟩ := hp
  refine z_if_eq (pc := 4) hZ 60 dN_addOrMultiply_4 (by decide) (fun c4_2 => ?_) (fun c4_2 => ?_)
  · refine z_aload_n (pc := 60) hZ 0 dN_addOrMultiply_60 rfl rfl ?_
    refine z_callV (pc := 61) (As := []) (rest := []) hZ (cN_makeReals l D cR c1 c2 c3 h0 ra v1 v2 v3 Y LP f g hH ) zyN_makeReals (z_goodV ml_N_99 im_N_makeReals se_N_makeReals in_N co_N_makeReals) 0 rfl rfl rfl rfl (by decide) rfl rfl (Nat.le_of_ble_eq_true rfl) ⟨Nat.zero_le _, Nat.zero_le _⟩ dN_addOrMultiply_61 (z_kv (fun w1 tys1 hp => ?_))
    obtain ⟨f61_3, rfl, rfl, p61_3⟩ := hp
    refine z_iload_n (pc := 64) hZ 1 dN_addOrMultiply_64 rfl rfl ?_
    refine z_iconst (pc := 65) hZ 2 dN_addOrMultiply_65 (by decide) ?_
    refine z_icmp_ne (pc := 66) hZ 82 dN_addOrMultiply_66 (by decide) (fun c66_4 => ?_) (fun c66_4 => ?_)
    · refine z_iload_n (pc := 82) hZ 1 dN_addOrMultiply_82 rfl rfl ?_
      refine z_iconst (pc := 83) hZ 1 dN_addOrMultiply_83 (by decide) ?_
      have J94 : ∀ (f_94 : Nat → V3), Z 0 0 (TY cR c1 c2 c3) 94 [(0, .ref h0)] [] (CX h0 ra v1 v2 v3 cR g Y ++ PL LP f_94) := by
        intro f_94
        refine z_aload_n (pc := 94) hZ 0 dN_addOrMultiply_94 rfl rfl ?_
        refine z_get (pc := 95) (ci := 1) hZ 0 rfl rfl uc_N 1 (by decide) (zb fl_N_16) rfl dN_addOrMultiply_95 ?_
        refine z_aload_n (pc := 98) hZ 0 dN_addOrMultiply_98 rfl rfl ?_
        refine z_get (pc := 99) (ci := 1) hZ 0 rfl rfl uc_N 2 (by decide) (zb fl_N_20) rfl dN_addOrMultiply_99 ?_
        refine z_callSN (pc := 102) (As := [.ref v1, .ref v2]) (rest := []) hZ (cR_add l D (TY cR c1 c2 c3) (CX h0 ra v1 v2 v3 cR g Y) LP f_94 v1 hH.1 v2 hH.2.1) zyR_add (z_good co_R_add) nl_N_111 (zb in_R) (zb st_R_add) rfl rfl (by decide) rfl rfl (Nat.le_of_ble_eq_true rfl) ⟨Nat.zero_le _, Nat.zero_le _⟩ dN_addOrMultiply_102 (z_kv (fun w1 tys1 hp => ?_))
        obtain ⟨f102_5, rfl, rfl, p102_5⟩ := hp
        refine z_iconst (pc := 105) hZ 0 dN_addOrMultiply_105 (by decide) ?_
        exact z_reti (pc := 106) hZ dN_addOrMultiply_106 .int rfl rfl ⟨_, rfl, _, rfl, rfl, (by trivial)⟩
      refine z_icmp_ne (pc := 84) hZ 94 dN_addOrMultiply_84 (by decide) (fun c84_6 => ?_) (fun c84_6 => ?_)
      · exact z_sub (pc := 94) hZ [0] rfl (J94 f61_3)
      · refine z_aload_n (pc := 87) hZ 0 dN_addOrMultiply_87 rfl rfl ?_
        refine z_get (pc := 88) (ci := 1) hZ 0 rfl rfl uc_N 2 (by decide) (zb fl_N_20) rfl dN_addOrMultiply_88 ?_
        obtain ⟨q91_7, hq91_7⟩ := zp_at (X := CX h0 ra v1 v2 v3 cR g Y) (f := f61_3) hH.2.1
        refine z_callVN (pc := 91) (As := []) (rest := []) hZ (cV_negate l D (TY cR c1 c2 c3) (CX h0 ra v1 v2 v3 cR g Y) LP f61_3 v2 hH.2.1) zyV_negate (z_good co_V_negate) nl_N_108 (zb in_V) (zb im_V_negate) (zb se_V_negate) q91_7 hq91_7 rfl rfl rfl (by decide) rfl rfl (Nat.le_of_ble_eq_true rfl) ⟨Nat.zero_le _, Nat.zero_le _⟩ dN_addOrMultiply_91 (z_kv (fun w1 tys1 hp => ?_))
        obtain ⟨f91_7, rfl, rfl, p91_7⟩ := hp
        exact z_sub (pc := 94) hZ [0] rfl (J94 f91_7)
    · refine z_aload_n (pc := 69) hZ 0 dN_addOrMultiply_69 rfl rfl ?_
      refine z_get (pc := 70) (ci := 1) hZ 0 rfl rfl uc_N 1 (by decide) (zb fl_N_16) rfl dN_addOrMultiply_70 ?_
      refine z_aload_n (pc := 73) hZ 0 dN_addOrMultiply_73 rfl rfl ?_
      refine z_get (pc := 74) (ci := 1) hZ 0 rfl rfl uc_N 2 (by decide) (zb fl_N_20) rfl dN_addOrMultiply_74 ?_
      refine z_callSN (pc := 77) (As := [.ref v1, .ref v2]) (rest := []) hZ (cR_multiply l D (TY cR c1 c2 c3) (CX h0 ra v1 v2 v3 cR g Y) LP f61_3 v1 hH.1 v2 hH.2.1) zyR_multiply (z_good co_R_multiply) nl_N_102 (zb in_R) (zb st_R_multiply) rfl rfl (by decide) rfl rfl (Nat.le_of_ble_eq_true rfl) ⟨Nat.zero_le _, Nat.zero_le _⟩ dN_addOrMultiply_77 (z_kv (fun w1 tys1 hp => ?_))
      obtain ⟨f77_8, rfl, rfl, p77_8⟩ := hp
      refine z_iconst (pc := 80) hZ 0 dN_addOrMultiply_80 (by decide) ?_
      exact z_reti (pc := 81) hZ dN_addOrMultiply_81 .int rfl rfl ⟨_, rfl, _, rfl, rfl, (by trivial)⟩
  · refine z_aload_n (pc := 7) hZ 0 dN_addOrMultiply_7 rfl rfl ?_
    refine z_get (pc := 8) (ci := 1) hZ 0 rfl rfl uc_N 1 (by decide) (zb fl_N_16) rfl dN_addOrMultiply_8 ?_
    refine z_pg1N (pc := 11) hZ hH.1 uc_V nf_N_38 dN_addOrMultiply_11 (fun v11_9 ev11_9 => ?_)
    refine z_lstore_n (pc := 14) hZ [(2, .long v11_9), (0, .ref h0), (1, .int p1)] dN_addOrMultiply_14 rfl (by decide) rfl ?_
    refine z_aload_n (pc := 15) hZ 1 dN_addOrMultiply_15 rfl rfl ?_
    refine z_get (pc := 16) (ci := 1) hZ 0 rfl rfl uc_N 2 (by decide) (zb fl_N_20) rfl dN_addOrMultiply_16 ?_
    refine z_pg1N (pc := 19) hZ hH.2.1 uc_V nf_N_38 dN_addOrMultiply_19 (fun v19_10 ev19_10 => ?_)
    refine z_lstore (pc := 22) hZ [(4, .long v19_10), (2, .long v11_9), (0, .ref h0), (1, .int p1)] dN_addOrMultiply_22 (by decide) rfl ?_
    refine z_aload_n (pc := 24) hZ 2 dN_addOrMultiply_24 rfl rfl ?_
    refine z_get (pc := 25) (ci := 1) hZ 0 rfl rfl uc_N 1 (by decide) (zb fl_N_16) rfl dN_addOrMultiply_25 ?_
    refine z_iload_n (pc := 28) hZ 3 dN_addOrMultiply_28 rfl rfl ?_
    have J55 : ∀ (s0_55 : Int64), Z 0 0 (TY cR c1 c2 c3) 55 [] [.long s0_55, .ref v1] (CX h0 ra v1 v2 v3 cR g Y ++ PL LP f) := by
      intro s0_55
      obtain ⟨q55_11, hq55_11⟩ := zp_at (X := CX h0 ra v1 v2 v3 cR g Y) (f := f) hH.1
      refine z_callVN (pc := 55) (As := [.long s0_55]) (rest := []) hZ (cV_setWhole l D (TY cR c1 c2 c3) (CX h0 ra v1 v2 v3 cR g Y) LP f v1 hH.1 s0_55) zyV_setWhole (z_good co_V_setWhole) nl_N_30 (zb in_V) (zb im_V_setWhole) (zb se_V_setWhole) q55_11 hq55_11 rfl rfl rfl (by decide) rfl rfl (Nat.le_of_ble_eq_true rfl) ⟨Nat.zero_le _, Nat.zero_le _⟩ dN_addOrMultiply_55 (z_kv (fun w1 tys1 hp => ?_))
      obtain ⟨f55_11, rfl, rfl, p55_11⟩ := hp
      refine z_iconst (pc := 58) hZ 0 dN_addOrMultiply_58 (by decide) ?_
      exact z_reti (pc := 59) hZ dN_addOrMultiply_59 .int rfl rfl ⟨_, rfl, _, rfl, rfl, (by trivial)⟩
    refine z_if_ne (pc := 29) hZ 39 dN_addOrMultiply_29 (by decide) (fun c29_12 => ?_) (fun c29_12 => ?_)
    · refine z_iload_n (pc := 39) hZ 3 dN_addOrMultiply_39 rfl rfl ?_
      refine z_iconst (pc := 40) hZ 1 dN_addOrMultiply_40 (by decide) ?_
      refine z_icmp_ne (pc := 41) hZ 51 dN_addOrMultiply_41 (by decide) (fun c41_13 => ?_) (fun c41_13 => ?_)
      · refine z_lload_n (pc := 51) hZ 1 dN_addOrMultiply_51 rfl rfl ?_
        refine z_lload (pc := 52) hZ 0 dN_addOrMultiply_52 rfl ?_
        refine z_lmul (pc := 54) hZ dN_addOrMultiply_54 (fun v54_14 ev54_14 => ?_)
        exact z_sub (pc := 55) hZ [] rfl (J55 v54_14)
      · refine z_lload_n (pc := 44) hZ 1 dN_addOrMultiply_44 rfl rfl ?_
        refine z_lload (pc := 45) hZ 0 dN_addOrMultiply_45 rfl ?_
        refine z_lsub (pc := 47) hZ dN_addOrMultiply_47 (fun v47_15 ev47_15 => ?_)
        refine z_goto (pc := 48) hZ 55 dN_addOrMultiply_48 (by decide) ?_
        exact z_sub (pc := 55) hZ [] rfl (J55 v47_15)
    · refine z_lload_n (pc := 32) hZ 1 dN_addOrMultiply_32 rfl rfl ?_
      refine z_lload (pc := 33) hZ 0 dN_addOrMultiply_33 rfl ?_
      refine z_ladd (pc := 35) hZ dN_addOrMultiply_35 (fun v35_16 ev35_16 => ?_)
      refine z_goto (pc := 36) hZ 55 dN_addOrMultiply_36 (by decide) ?_
      exact z_sub (pc := 55) hZ [] rfl (J55 v35_16)
set_option maxHeartbeats 4000000 in
set_option maxRecDepth 100000 in
theorem cN_divideOrRemainReal (l : Launch) (D : va_G) (cR c1 c2 c3 : ClassId) (h0 ra v1 v2 v3 : Nat) (Y : va_W) (LP : List Nat) (f : Nat → V3) (g : Nat → Option Nat) (hH : zH LP v1 v2 v3 g) (p1 : Int32) : zM l D vwCl zNF zNM yN_divideOrRemainReal wsN_divideOrRemainReal { frames := 5, cells := 0, slots := 0, locals := 128 } [.ref h0, .int p1] (CX h0 ra v1 v2 v3 cR g Y ++ PL LP f) (TY cR c1 c2 c3) (qV (fun w' tys' => ∃ f' : Nat → V3, CX h0 ra v1 v2 v3 cR g Y ++ PL LP f' = w' ∧ (TY cR c1 c2 c3) = tys' ∧ (True))) := by
  refine z_met (cc := bN_divideOrRemainReal) (maxL := 2) (ret := none) (isI := false) (own := RN) (by decide +kernel) rfl rfl (fun h => by cases h) (Nat.le_of_ble_eq_true rfl) (fun Z hZ => ?_)
  show Z 0 0 (TY cR c1 c2 c3) 0 [(0, .ref h0), (1, .int p1)] [] (CX h0 ra v1 v2 v3 cR g Y ++ PL LP f)
  refine z_iload_n (pc := 0) hZ 1 dN_divideOrRemainReal_0 rfl rfl ?_
  refine z_iconst (pc := 1) hZ 5 dN_divideOrRemainReal_1 (by decide) ?_
  refine z_icmp_ne (pc := 2) hZ 17 dN_divideOrRemainReal_2 (by decide) (fun c2_1 => ?_) (fun c2_1 => ?_)
  · refine z_aload_n (pc := 17) hZ 0 dN_divideOrRemainReal_17 rfl rfl ?_
    refine z_get (pc := 18) (ci := 1) hZ 0 rfl rfl uc_N 1 (by decide) (zb fl_N_16) rfl dN_divideOrRemainReal_18 ?_
    refine z_aload_n (pc := 21) hZ 0 dN_divideOrRemainReal_21 rfl rfl ?_
    refine z_get (pc := 22) (ci := 1) hZ 0 rfl rfl uc_N 2 (by decide) (zb fl_N_20) rfl dN_divideOrRemainReal_22 ?_
    refine z_callSN (pc := 25) (As := [.ref v1, .ref v2]) (rest := []) hZ (cR_divide l D (TY cR c1 c2 c3) (CX h0 ra v1 v2 v3 cR g Y) LP f v1 hH.1 v2 hH.2.1) zyR_divide (z_good co_R_divide) nl_N_129 (zb in_R) (zb st_R_divide) rfl rfl (by decide) rfl rfl (Nat.le_of_ble_eq_true rfl) ⟨Nat.zero_le _, Nat.zero_le _⟩ dN_divideOrRemainReal_25 (z_kv (fun w1 tys1 hp => ?_))
    obtain ⟨f25_2, rfl, rfl, p25_2⟩ := hp
    refine z_iload_n (pc := 28) hZ 1 dN_divideOrRemainReal_28 rfl rfl ?_
    refine z_iconst (pc := 29) hZ 4 dN_divideOrRemainReal_29 (by decide) ?_
    refine z_icmp_ne (pc := 30) hZ 40 dN_divideOrRemainReal_30 (by decide) (fun c30_3 => ?_) (fun c30_3 => ?_)
    · exact z_retv (pc := 40) hZ dN_divideOrRemainReal_40 rfl ⟨rfl, _, rfl, rfl, (by trivial)⟩
    · refine z_aload_n (pc := 33) hZ 0 dN_divideOrRemainReal_33 rfl rfl ?_
      refine z_get (pc := 34) (ci := 1) hZ 0 rfl rfl uc_N 1 (by decide) (zb fl_N_16) rfl dN_divideOrRemainReal_34 ?_
      obtain ⟨q37_4, hq37_4⟩ := zp_at (X := CX h0 ra v1 v2 v3 cR g Y) (f := f25_2) hH.1
      refine z_callVN (pc := 37) (As := []) (rest := []) hZ (cV_roundDown l D (TY cR c1 c2 c3) (CX h0 ra v1 v2 v3 cR g Y) LP f25_2 v1 hH.1) zyV_roundDown (z_good co_V_roundDown) nl_N_132 (zb in_V) (zb im_V_roundDown) (zb se_V_roundDown) q37_4 hq37_4 rfl rfl rfl (by decide) rfl rfl (Nat.le_of_ble_eq_true rfl) ⟨Nat.zero_le _, Nat.zero_le _⟩ dN_divideOrRemainReal_37 (z_kv (fun w1 tys1 hp => ?_))
      obtain ⟨f37_4, rfl, rfl, p37_4⟩ := hp
      exact z_retv (pc := 40) hZ dN_divideOrRemainReal_40 rfl ⟨rfl, _, rfl, rfl, (by trivial)⟩
  · refine z_aload_n (pc := 5) hZ 0 dN_divideOrRemainReal_5 rfl rfl ?_
    refine z_get (pc := 6) (ci := 1) hZ 0 rfl rfl uc_N 1 (by decide) (zb fl_N_16) rfl dN_divideOrRemainReal_6 ?_
    refine z_aload_n (pc := 9) hZ 0 dN_divideOrRemainReal_9 rfl rfl ?_
    refine z_get (pc := 10) (ci := 1) hZ 0 rfl rfl uc_N 2 (by decide) (zb fl_N_20) rfl dN_divideOrRemainReal_10 ?_
    refine z_callSN (pc := 13) (As := [.ref v1, .ref v2]) (rest := []) hZ (cR_remainder l D (TY cR c1 c2 c3) (CX h0 ra v1 v2 v3 cR g Y) LP f v1 hH.1 v2 hH.2.1) zyR_remainder (z_good co_R_remainder) nl_N_126 (zb in_R) (zb st_R_remainder) rfl rfl (by decide) rfl rfl (Nat.le_of_ble_eq_true rfl) ⟨Nat.zero_le _, Nat.zero_le _⟩ dN_divideOrRemainReal_13 (z_kv (fun w1 tys1 hp => ?_))
    obtain ⟨f13_5, rfl, rfl, p13_5⟩ := hp
    exact z_retv (pc := 16) hZ dN_divideOrRemainReal_16 rfl ⟨rfl, _, rfl, rfl, (by trivial)⟩
set_option maxHeartbeats 4000000 in
set_option maxRecDepth 100000 in
theorem cN_divideOrRemain (l : Launch) (D : va_G) (cR c1 c2 c3 : ClassId) (h0 ra v1 v2 v3 : Nat) (Y : va_W) (LP : List Nat) (f : Nat → V3) (g : Nat → Option Nat) (hH : zH LP v1 v2 v3 g) (p1 : Int32) : zM l D vwCl zNF zNM yN_divideOrRemain wsN_divideOrRemain { frames := 6, cells := 0, slots := 0, locals := 149 } [.ref h0, .int p1] (CX h0 ra v1 v2 v3 cR g Y ++ PL LP f) (TY cR c1 c2 c3) (qI (fun r w' tys' => ∃ f' : Nat → V3, CX h0 ra v1 v2 v3 cR g Y ++ PL LP f' = w' ∧ (TY cR c1 c2 c3) = tys' ∧ (True))) := by
  refine z_met (cc := bN_divideOrRemain) (maxL := 2) (ret := (some .int)) (isI := false) (own := RN) (by decide +kernel) rfl rfl (fun h => by cases h) (Nat.le_of_ble_eq_true rfl) (fun Z hZ => ?_)
  show Z 0 0 (TY cR c1 c2 c3) 0 [(0, .ref h0), (1, .int p1)] [] (CX h0 ra v1 v2 v3 cR g Y ++ PL LP f)
  refine z_iload_n (pc := 0) hZ 1 dN_divideOrRemain_0 rfl rfl ?_
  refine z_iconst (pc := 1) hZ 3 dN_divideOrRemain_1 (by decide) ?_
  have J12 : Z 0 0 (TY cR c1 c2 c3) 12 [(0, .ref h0), (1, .int p1)] [] (CX h0 ra v1 v2 v3 cR g Y ++ PL LP f) := by
    refine z_aload_n (pc := 12) hZ 0 dN_divideOrRemain_12 rfl rfl ?_
    refine z_callV (pc := 13) (As := []) (rest := []) hZ (cN_makeReals l D cR c1 c2 c3 h0 ra v1 v2 v3 Y LP f g hH ) zyN_makeReals (z_goodV ml_N_99 im_N_makeReals se_N_makeReals in_N co_N_makeReals) 0 rfl rfl rfl rfl (by decide) rfl rfl (Nat.le_of_ble_eq_true rfl) ⟨Nat.zero_le _, Nat.zero_le _⟩ dN_divideOrRemain_13 (z_kv (fun w1 tys1 hp => ?_))
    obtain ⟨f13_1, rfl, rfl, p13_1⟩ := hp
    refine z_aload_n (pc := 16) hZ 0 dN_divideOrRemain_16 rfl rfl ?_
    refine z_iload_n (pc := 17) hZ 1 dN_divideOrRemain_17 rfl rfl ?_
    refine z_callV (pc := 18) (As := [.int p1]) (rest := []) hZ (cN_divideOrRemainReal l D cR c1 c2 c3 h0 ra v1 v2 v3 Y LP f13_1 g hH p1) zyN_divideOrRemainReal (z_goodV ml_N_114 im_N_divideOrRemainReal se_N_divideOrRemainReal in_N co_N_divideOrRemainReal) 0 rfl rfl rfl rfl (by decide) rfl rfl (Nat.le_of_ble_eq_true rfl) ⟨Nat.zero_le _, Nat.zero_le _⟩ dN_divideOrRemain_18 (z_kv (fun w1 tys1 hp => ?_))
    obtain ⟨f18_2, rfl, rfl, p18_2⟩ := hp
    refine z_iconst (pc := 21) hZ 0 dN_divideOrRemain_21 (by decide) ?_
    exact z_reti (pc := 22) hZ dN_divideOrRemain_22 .int rfl rfl ⟨_, rfl, _, rfl, rfl, (by trivial)⟩
  refine z_icmp_eq (pc := 2) hZ 12 dN_divideOrRemain_2 (by decide) (fun c2_3 => ?_) (fun c2_3 => ?_)
  · exact z_sub (pc := 12) hZ [0, 1] rfl (J12 )
  · refine z_aload_n (pc := 5) hZ 0 dN_divideOrRemain_5 rfl rfl ?_
    refine z_callV (pc := 6) (As := []) (rest := []) hZ (cN_areWhole l D cR c1 c2 c3 h0 ra v1 v2 v3 Y LP f g hH ) zyN_areWhole (z_goodV ml_N_95 im_N_areWhole se_N_areWhole in_N co_N_areWhole) 0 rfl rfl rfl rfl (by decide) rfl rfl (Nat.le_of_ble_eq_true rfl) ⟨Nat.zero_le _, Nat.zero_le _⟩ dN_divideOrRemain_6 (z_ki (fun r6_4 w1 tys1 hp => ?_))
    obtain ⟨rfl, rfl, p6_4⟩ := hp
    refine z_if_ne (pc := 9) hZ 23 dN_divideOrRemain_9 (by decide) (fun c9_5 => ?_) (fun c9_5 => ?_)
    · refine z_aload_n (pc := 23) hZ 0 dN_divideOrRemain_23 rfl rfl ?_
      refine z_get (pc := 24) (ci := 1) hZ 0 rfl rfl uc_N 2 (by decide) (zb fl_N_20) rfl dN_divideOrRemain_24 ?_
      refine z_pg1N (pc := 27) hZ hH.2.1 uc_V nf_N_38 dN_divideOrRemain_27 (fun v27_6 ev27_6 => ?_)
      refine z_lconst (pc := 30) hZ 0 dN_divideOrRemain_30 (by decide) ?_
      refine z_lif_ne (pc := 31) hZ 37 dN_divideOrRemain_31 dN_divideOrRemain_32 (by decide) (fun c32_7 => ?_) (fun c32_7 => ?_)
      · refine z_aload_n (pc := 37) hZ 0 dN_divideOrRemain_37 rfl rfl ?_
        refine z_get (pc := 38) (ci := 1) hZ 0 rfl rfl uc_N 1 (by decide) (zb fl_N_16) rfl dN_divideOrRemain_38 ?_
        refine z_iload_n (pc := 41) hZ 1 dN_divideOrRemain_41 rfl rfl ?_
        refine z_iconst (pc := 42) hZ 4 dN_divideOrRemain_42 (by decide) ?_
        have J83 : ∀ (s0_83 : Int64), Z 0 0 (TY cR c1 c2 c3) 83 [] [.long s0_83, .ref v1] (CX h0 ra v1 v2 v3 cR g Y ++ PL LP f) := by
          intro s0_83
          obtain ⟨q83_8, hq83_8⟩ := zp_at (X := CX h0 ra v1 v2 v3 cR g Y) (f := f) hH.1
          refine z_callVN (pc := 83) (As := [.long s0_83]) (rest := []) hZ (cV_setWhole l D (TY cR c1 c2 c3) (CX h0 ra v1 v2 v3 cR g Y) LP f v1 hH.1 s0_83) zyV_setWhole (z_good co_V_setWhole) nl_N_30 (zb in_V) (zb im_V_setWhole) (zb se_V_setWhole) q83_8 hq83_8 rfl rfl rfl (by decide) rfl rfl (Nat.le_of_ble_eq_true rfl) ⟨Nat.zero_le _, Nat.zero_le _⟩ dN_divideOrRemain_83 (z_kv (fun w1 tys1 hp => ?_))
          obtain ⟨f83_8, rfl, rfl, p83_8⟩ := hp
          refine z_iconst (pc := 86) hZ 0 dN_divideOrRemain_86 (by decide) ?_
          exact z_reti (pc := 87) hZ dN_divideOrRemain_87 .int rfl rfl ⟨_, rfl, _, rfl, rfl, (by trivial)⟩
        refine z_icmp_ne (pc := 43) hZ 66 dN_divideOrRemain_43 (by decide) (fun c43_9 => ?_) (fun c43_9 => ?_)
        · refine z_aload_n (pc := 66) hZ 0 dN_divideOrRemain_66 rfl rfl ?_
          refine z_get (pc := 67) (ci := 1) hZ 0 rfl rfl uc_N 1 (by decide) (zb fl_N_16) rfl dN_divideOrRemain_67 ?_
          refine z_pg1N (pc := 70) hZ hH.1 uc_V nf_N_38 dN_divideOrRemain_70 (fun v70_10 ev70_10 => ?_)
          refine z_aload_n (pc := 73) hZ 0 dN_divideOrRemain_73 rfl rfl ?_
          refine z_get (pc := 74) (ci := 1) hZ 0 rfl rfl uc_N 2 (by decide) (zb fl_N_20) rfl dN_divideOrRemain_74 ?_
          refine z_pg1N (pc := 77) hZ hH.2.1 uc_V nf_N_38 dN_divideOrRemain_77 (fun v77_11 ev77_11 => ?_)
          refine z_callS (pc := 80) (As := [.long v70_10, .long v77_11]) (rest := [.ref v1]) hZ (cJM_floorMod l D (TY cR c1 c2 c3) (CX h0 ra v1 v2 v3 cR g Y ++ PL LP f) v70_10 v77_11 (by assumption)) zyJM_floorMod (z_goodS ml_N_123 st_JM_floorMod in_JM co_JM_floorMod) rfl rfl (by decide) rfl rfl (Nat.le_of_ble_eq_true rfl) ⟨Nat.zero_le _, Nat.zero_le _⟩ dN_divideOrRemain_80 (z_kl (fun r80_12 w1 tys1 hp => ?_))
          obtain ⟨rfl, rfl, p80_12⟩ := hp
          exact z_sub (pc := 83) hZ [] rfl (J83 r80_12)
        · refine z_aload_n (pc := 46) hZ 0 dN_divideOrRemain_46 rfl rfl ?_
          refine z_get (pc := 47) (ci := 1) hZ 0 rfl rfl uc_N 1 (by decide) (zb fl_N_16) rfl dN_divideOrRemain_47 ?_
          refine z_pg1N (pc := 50) hZ hH.1 uc_V nf_N_38 dN_divideOrRemain_50 (fun v50_13 ev50_13 => ?_)
          refine z_aload_n (pc := 53) hZ 0 dN_divideOrRemain_53 rfl rfl ?_
          refine z_get (pc := 54) (ci := 1) hZ 0 rfl rfl uc_N 2 (by decide) (zb fl_N_20) rfl dN_divideOrRemain_54 ?_
          refine z_pg1N (pc := 57) hZ hH.2.1 uc_V nf_N_38 dN_divideOrRemain_57 (fun v57_14 ev57_14 => ?_)
          refine z_callS (pc := 60) (As := [.long v50_13, .long v57_14]) (rest := [.ref v1]) hZ (cJM_floorDiv l D (TY cR c1 c2 c3) (CX h0 ra v1 v2 v3 cR g Y ++ PL LP f) v50_13 v57_14 (by assumption)) zyJM_floorDiv (z_goodS ml_N_117 st_JM_floorDiv in_JM co_JM_floorDiv) rfl rfl (by decide) rfl rfl (Nat.le_of_ble_eq_true rfl) ⟨Nat.zero_le _, Nat.zero_le _⟩ dN_divideOrRemain_60 (z_kl (fun r60_15 w1 tys1 hp => ?_))
          obtain ⟨rfl, rfl, p60_15⟩ := hp
          refine z_goto (pc := 63) hZ 83 dN_divideOrRemain_63 (by decide) ?_
          exact z_sub (pc := 83) hZ [] rfl (J83 r60_15)
      · refine z_iconst (pc := 35) hZ 1 dN_divideOrRemain_35 (by decide) ?_
        exact z_reti (pc := 36) hZ dN_divideOrRemain_36 .int rfl rfl ⟨_, rfl, _, rfl, rfl, (by trivial)⟩
    · exact z_sub (pc := 12) hZ [0, 1] rfl (J12 )
set_option maxHeartbeats 4000000 in
set_option maxRecDepth 100000 in
theorem cN_raise (l : Launch) (D : va_G) (cR c1 c2 c3 : ClassId) (h0 ra v1 v2 v3 : Nat) (Y : va_W) (LP : List Nat) (f : Nat → V3) (g : Nat → Option Nat) (hH : zH LP v1 v2 v3 g) (p1 : Int32) : zM l D vwCl zNF zNM yN_raise wsN_raise { frames := 5, cells := 0, slots := 0, locals := 137 } [.ref h0, .int p1] (CX h0 ra v1 v2 v3 cR g Y ++ PL LP f) (TY cR c1 c2 c3) (qV (fun w' tys' => ∃ f' : Nat → V3, CX h0 ra v1 v2 v3 cR g Y ++ PL LP f' = w' ∧ (TY cR c1 c2 c3) = tys' ∧ (True))) := by
  refine z_met (cc := bN_raise) (maxL := 4) (ret := none) (isI := false) (own := RN) (by decide +kernel) rfl rfl (fun h => by cases h) (Nat.le_of_ble_eq_true rfl) (fun Z hZ => ?_)
  show Z 0 0 (TY cR c1 c2 c3) 0 [(0, .ref h0), (1, .int p1)] [] (CX h0 ra v1 v2 v3 cR g Y ++ PL LP f)
  refine z_bipush (pc := 0) hZ 32 dN_raise_0 (by decide) ?_
  refine z_iload_n (pc := 2) hZ 1 dN_raise_2 rfl rfl ?_
  refine z_callS (pc := 3) (As := [.int p1]) (rest := [.int 32]) hZ (cJI_numberOfLeadingZeros l D (TY cR c1 c2 c3) (CX h0 ra v1 v2 v3 cR g Y ++ PL LP f) p1) zyJI_numberOfLeadingZeros (z_goodS ml_N_151 st_JI_numberOfLeadingZeros in_JI co_JI_numberOfLeadingZeros) rfl rfl (by decide) rfl rfl (Nat.le_of_ble_eq_true rfl) ⟨Nat.zero_le _, Nat.zero_le _⟩ dN_raise_3 (z_ki (fun r3_1 w1 tys1 hp => ?_))
  obtain ⟨rfl, rfl, p3_1⟩ := hp
  refine z_isub (pc := 6) hZ dN_raise_6 (fun v6_2 ev6_2 => ?_)
  refine z_istore_n (pc := 7) hZ [(2, .int v6_2), (0, .ref h0), (1, .int p1)] dN_raise_7 rfl (by decide) rfl ?_
  refine z_aload_n (pc := 8) hZ 1 dN_raise_8 rfl rfl ?_
  refine z_get (pc := 9) (ci := 1) hZ 0 rfl rfl uc_N 3 (by decide) (zb fl_N_23) rfl dN_raise_9 ?_
  refine z_aload_n (pc := 12) hZ 1 dN_raise_12 rfl rfl ?_
  refine z_get (pc := 13) (ci := 1) hZ 0 rfl rfl uc_N 1 (by decide) (zb fl_N_16) rfl dN_raise_13 ?_
  obtain ⟨q16_3, hq16_3⟩ := zp_at (X := CX h0 ra v1 v2 v3 cR g Y) (f := f) hH.2.2.1
  refine z_callVN (pc := 16) (As := [.ref v1]) (rest := []) hZ (cV_become l D (TY cR c1 c2 c3) (CX h0 ra v1 v2 v3 cR g Y) LP f v3 hH.2.2.1 v1 hH.1) zyV_become (z_good co_V_become) nl_N_46 (zb in_V) (zb im_V_become) (zb se_V_become) q16_3 hq16_3 rfl rfl rfl (by decide) rfl rfl (Nat.le_of_ble_eq_true rfl) ⟨Nat.zero_le _, Nat.zero_le _⟩ dN_raise_16 (z_kv (fun w1 tys1 hp => ?_))
  obtain ⟨f16_3, rfl, rfl, p16_3⟩ := hp
  refine z_aload_n (pc := 19) hZ 1 dN_raise_19 rfl rfl ?_
  refine z_get (pc := 20) (ci := 1) hZ 0 rfl rfl uc_N 3 (by decide) (zb fl_N_23) rfl dN_raise_20 ?_
  obtain ⟨q23_4, hq23_4⟩ := zp_at (X := CX h0 ra v1 v2 v3 cR g Y) (f := f16_3) hH.2.2.1
  refine z_callVN (pc := 23) (As := []) (rest := []) hZ (cV_turnReal l D (TY cR c1 c2 c3) (CX h0 ra v1 v2 v3 cR g Y) LP f16_3 v3 hH.2.2.1) zyV_turnReal (z_good co_V_turnReal) nl_N_92 (zb in_V) (zb im_V_turnReal) (zb se_V_turnReal) q23_4 hq23_4 rfl rfl rfl (by decide) rfl rfl (Nat.le_of_ble_eq_true rfl) ⟨Nat.zero_le _, Nat.zero_le _⟩ dN_raise_23 (z_kv (fun w1 tys1 hp => ?_))
  obtain ⟨f23_4, rfl, rfl, p23_4⟩ := hp
  refine z_aload_n (pc := 26) hZ 1 dN_raise_26 rfl rfl ?_
  refine z_get (pc := 27) (ci := 1) hZ 0 rfl rfl uc_N 1 (by decide) (zb fl_N_16) rfl dN_raise_27 ?_
  refine z_lconst (pc := 30) hZ 1 dN_raise_30 (by decide) ?_
  refine z_iconst (pc := 31) hZ 0 dN_raise_31 (by decide) ?_
  obtain ⟨q32_5, hq32_5⟩ := zp_at (X := CX h0 ra v1 v2 v3 cR g Y) (f := f23_4) hH.1
  refine z_callVN (pc := 32) (As := [.long 1, .int 0]) (rest := []) hZ (cV_setReal l D (TY cR c1 c2 c3) (CX h0 ra v1 v2 v3 cR g Y) LP f23_4 v1 hH.1 1 0) zyV_setReal (z_good co_V_setReal) nl_N_34 (zb in_V) (zb im_V_setReal) (zb se_V_setReal) q32_5 hq32_5 rfl rfl rfl (by decide) rfl rfl (Nat.le_of_ble_eq_true rfl) ⟨Nat.zero_le _, Nat.zero_le _⟩ dN_raise_32 (z_kv (fun w1 tys1 hp => ?_))
  obtain ⟨f32_5, rfl, rfl, p32_5⟩ := hp
  refine z_iconst (pc := 35) hZ 0 dN_raise_35 (by decide) ?_
  refine z_istore_n (pc := 36) hZ [(3, .int 0), (2, .int v6_2), (0, .ref h0), (1, .int p1)] dN_raise_36 rfl (by decide) rfl ?_
  have L37 : ∀ (N37 : Nat) (x3_37 : Int32) (f_37 : Nat → V3), ((v6_2).toInt - x3_37.toInt).toNat < N37 → Z 0 0 (TY cR c1 c2 c3) 37 [(3, .int x3_37), (2, .int v6_2), (0, .ref h0), (1, .int p1)] [] (CX h0 ra v1 v2 v3 cR g Y ++ PL LP f_37) := by
    intro N37
    induction N37 with
    | zero => intro x3_37 f_37 m37; exact absurd m37 (Nat.not_lt_zero _)
    | succ N37 ih37 =>
      intro x3_37 f_37 m37
      refine z_iload_n (pc := 37) hZ 0 dN_raise_37 rfl rfl ?_
      refine z_iload_n (pc := 38) hZ 1 dN_raise_38 rfl rfl ?_
      refine z_icmp_ge (pc := 39) hZ 86 dN_raise_39 (by decide) (fun c39_6 => ?_) (fun c39_6 => ?_)
      · exact z_retv (pc := 86) hZ dN_raise_86 rfl ⟨rfl, _, rfl, rfl, (by trivial)⟩
      · refine z_iload_n (pc := 42) hZ 3 dN_raise_42 rfl rfl ?_
        refine z_iload_n (pc := 43) hZ 0 dN_raise_43 rfl rfl ?_
        refine z_ishr (pc := 44) hZ dN_raise_44 (fun v44_7 ev44_7 => ?_)
        refine z_iconst (pc := 45) hZ 1 dN_raise_45 (by decide) ?_
        refine z_iand (pc := 46) hZ dN_raise_46 (fun v46_8 ev46_8 => ?_)
        refine z_iconst (pc := 47) hZ 1 dN_raise_47 (by decide) ?_
        have J62 : ∀ (f_62 : Nat → V3), Z 0 0 (TY cR c1 c2 c3) 62 [(3, .int x3_37), (2, .int v6_2), (0, .ref h0), (1, .int p1)] [] (CX h0 ra v1 v2 v3 cR g Y ++ PL LP f_62) := by
          intro f_62
          refine z_iload_n (pc := 62) hZ 0 dN_raise_62 rfl rfl ?_
          refine z_iconst (pc := 63) hZ 1 dN_raise_63 (by decide) ?_
          refine z_iadd (pc := 64) hZ dN_raise_64 (fun v64_9 ev64_9 => ?_)
          refine z_iload_n (pc := 65) hZ 1 dN_raise_65 rfl rfl ?_
          have J80 : ∀ (f_80 : Nat → V3), Z 0 0 (TY cR c1 c2 c3) 80 [(3, .int x3_37), (2, .int v6_2), (0, .ref h0), (1, .int p1)] [] (CX h0 ra v1 v2 v3 cR g Y ++ PL LP f_80) := by
            intro f_80
            refine z_iinc (pc := 80) hZ 0 (fun v9 => [(3, .int v9), (2, .int v6_2), (0, .ref h0), (1, .int p1)]) dN_raise_80 rfl (by decide) (fun _ => rfl) (fun v80_10 ev80_10 => ?_)
            refine z_goto (pc := 83) hZ 37 dN_raise_83 (by decide) ?_
            exact z_sub (pc := 37) hZ [0, 1, 2, 3] rfl (ih37 v80_10 f_80 (by exact Nat.lt_of_lt_of_le (dec_up (x := x3_37) (b := v6_2) (by assumption) (by assumption)) (Nat.le_of_lt_succ m37)))
          refine z_icmp_ge (pc := 66) hZ 80 dN_raise_66 (by decide) (fun c66_11 => ?_) (fun c66_11 => ?_)
          · exact z_sub (pc := 80) hZ [0, 1, 2, 3] rfl (J80 f_62)
          · refine z_aload_n (pc := 69) hZ 2 dN_raise_69 rfl rfl ?_
            refine z_get (pc := 70) (ci := 1) hZ 0 rfl rfl uc_N 3 (by decide) (zb fl_N_23) rfl dN_raise_70 ?_
            refine z_aload_n (pc := 73) hZ 2 dN_raise_73 rfl rfl ?_
            refine z_get (pc := 74) (ci := 1) hZ 0 rfl rfl uc_N 3 (by decide) (zb fl_N_23) rfl dN_raise_74 ?_
            refine z_callSN (pc := 77) (As := [.ref v3, .ref v3]) (rest := []) hZ (cR_multiply l D (TY cR c1 c2 c3) (CX h0 ra v1 v2 v3 cR g Y) LP f_62 v3 hH.2.2.1 v3 hH.2.2.1) zyR_multiply (z_good co_R_multiply) nl_N_102 (zb in_R) (zb st_R_multiply) rfl rfl (by decide) rfl rfl (Nat.le_of_ble_eq_true rfl) ⟨Nat.zero_le _, Nat.zero_le _⟩ dN_raise_77 (z_kv (fun w1 tys1 hp => ?_))
            obtain ⟨f77_12, rfl, rfl, p77_12⟩ := hp
            exact z_sub (pc := 80) hZ [0, 1, 2, 3] rfl (J80 f77_12)
        refine z_icmp_ne (pc := 48) hZ 62 dN_raise_48 (by decide) (fun c48_13 => ?_) (fun c48_13 => ?_)
        · exact z_sub (pc := 62) hZ [0, 1, 2, 3] rfl (J62 f_37)
        · refine z_aload_n (pc := 51) hZ 2 dN_raise_51 rfl rfl ?_
          refine z_get (pc := 52) (ci := 1) hZ 0 rfl rfl uc_N 1 (by decide) (zb fl_N_16) rfl dN_raise_52 ?_
          refine z_aload_n (pc := 55) hZ 2 dN_raise_55 rfl rfl ?_
          refine z_get (pc := 56) (ci := 1) hZ 0 rfl rfl uc_N 3 (by decide) (zb fl_N_23) rfl dN_raise_56 ?_
          refine z_callSN (pc := 59) (As := [.ref v1, .ref v3]) (rest := []) hZ (cR_multiply l D (TY cR c1 c2 c3) (CX h0 ra v1 v2 v3 cR g Y) LP f_37 v1 hH.1 v3 hH.2.2.1) zyR_multiply (z_good co_R_multiply) nl_N_102 (zb in_R) (zb st_R_multiply) rfl rfl (by decide) rfl rfl (Nat.le_of_ble_eq_true rfl) ⟨Nat.zero_le _, Nat.zero_le _⟩ dN_raise_59 (z_kv (fun w1 tys1 hp => ?_))
          obtain ⟨f59_14, rfl, rfl, p59_14⟩ := hp
          exact z_sub (pc := 62) hZ [0, 1, 2, 3] rfl (J62 f59_14)
  exact z_sub (pc := 37) hZ [0, 1, 2, 3] rfl (L37 _ 0 f32_5 (Nat.lt_succ_self _))
set_option maxHeartbeats 4000000 in
set_option maxRecDepth 100000 in
theorem cN_power (l : Launch) (D : va_G) (cR c1 c2 c3 : ClassId) (h0 ra v1 v2 v3 : Nat) (Y : va_W) (LP : List Nat) (f : Nat → V3) (g : Nat → Option Nat) (hH : zH LP v1 v2 v3 g)  : zM l D vwCl zNF zNM yN_power wsN_power { frames := 6, cells := 0, slots := 0, locals := 160 } [.ref h0] (CX h0 ra v1 v2 v3 cR g Y ++ PL LP f) (TY cR c1 c2 c3) (qI (fun r w' tys' => ∃ f' : Nat → V3, CX h0 ra v1 v2 v3 cR g Y ++ PL LP f' = w' ∧ (TY cR c1 c2 c3) = tys' ∧ (True))) := by
  refine z_met (cc := bN_power) (maxL := 3) (ret := (some .int)) (isI := false) (own := RN) (by decide +kernel) rfl rfl (fun h => by cases h) (Nat.le_of_ble_eq_true rfl) (fun Z hZ => ?_)
  show Z 0 0 (TY cR c1 c2 c3) 0 [(0, .ref h0)] [] (CX h0 ra v1 v2 v3 cR g Y ++ PL LP f)
  refine z_aload_n (pc := 0) hZ 0 dN_power_0 rfl rfl ?_
  refine z_get (pc := 1) (ci := 1) hZ 0 rfl rfl uc_N 2 (by decide) (zb fl_N_20) rfl dN_power_1 ?_
  obtain ⟨q4_1, hq4_1⟩ := zp_at (X := CX h0 ra v1 v2 v3 cR g Y) (f := f) hH.2.1
  refine z_callVN (pc := 4) (As := []) (rest := []) hZ (cV_countsAsWhole l D (TY cR c1 c2 c3) (CX h0 ra v1 v2 v3 cR g Y) LP f v2 hH.2.1) zyV_countsAsWhole (z_good co_V_countsAsWhole) nl_N_135 (zb in_V) (zb im_V_countsAsWhole) (zb se_V_countsAsWhole) q4_1 hq4_1 rfl rfl rfl (by decide) rfl rfl (Nat.le_of_ble_eq_true rfl) ⟨Nat.zero_le _, Nat.zero_le _⟩ dN_power_4 (z_ki (fun r4_1 w1 tys1 hp => ?_))
  obtain ⟨rfl, rfl, p4_1⟩ := hp
  have J23 : ∀ (s0_23 : Int64), Z 0 0 (TY cR c1 c2 c3) 23 [(0, .ref h0)] [.long s0_23] (CX h0 ra v1 v2 v3 cR g Y ++ PL LP f) := by
    intro s0_23
    refine z_lstore_n (pc := 23) hZ [(1, .long s0_23), (0, .ref h0)] dN_power_23 rfl (by decide) rfl ?_
    refine z_lload_n (pc := 24) hZ 0 dN_power_24 rfl rfl ?_
    refine z_ldc2 (pc := 25) hZ (-65536) (zb kc_N_144) dN_power_25 ?_
    refine z_lif_lt (pc := 28) hZ 40 dN_power_28 dN_power_29 (by decide) (fun c29_2 => ?_) (fun c29_2 => ?_)
    · refine z_iconst (pc := 40) hZ 3 dN_power_40 (by decide) ?_
      exact z_reti (pc := 41) hZ dN_power_41 .int rfl rfl ⟨_, rfl, _, rfl, rfl, (by trivial)⟩
    · refine z_lload_n (pc := 32) hZ 0 dN_power_32 rfl rfl ?_
      refine z_ldc2 (pc := 33) hZ 65536 (zb kc_N_146) dN_power_33 ?_
      refine z_lif_le (pc := 36) hZ 42 dN_power_36 dN_power_37 (by decide) (fun c37_3 => ?_) (fun c37_3 => ?_)
      · refine z_aload_n (pc := 42) hZ 1 dN_power_42 rfl rfl ?_
        refine z_lload_n (pc := 43) hZ 0 dN_power_43 rfl rfl ?_
        refine z_lconst (pc := 44) hZ 0 dN_power_44 (by decide) ?_
        have J55 : ∀ (s0_55 : Int64), Z 0 0 (TY cR c1 c2 c3) 55 [(1, .long s0_23), (0, .ref h0)] [.long s0_55, .ref h0] (CX h0 ra v1 v2 v3 cR g Y ++ PL LP f) := by
          intro s0_55
          refine z_l2i (pc := 55) hZ dN_power_55 (fun v55_4 ev55_4 => ?_)
          refine z_callV (pc := 56) (As := [.int v55_4]) (rest := []) hZ (cN_raise l D cR c1 c2 c3 h0 ra v1 v2 v3 Y LP f g hH v55_4) zyN_raise (z_goodV ml_N_148 im_N_raise se_N_raise in_N co_N_raise) 0 rfl rfl rfl rfl (by decide) rfl rfl (Nat.le_of_ble_eq_true rfl) ⟨Nat.zero_le _, Nat.zero_le _⟩ dN_power_56 (z_kv (fun w1 tys1 hp => ?_))
          obtain ⟨f56_5, rfl, rfl, p56_5⟩ := hp
          refine z_lload_n (pc := 59) hZ 0 dN_power_59 rfl rfl ?_
          refine z_lconst (pc := 60) hZ 0 dN_power_60 (by decide) ?_
          refine z_lif_ge (pc := 61) hZ 96 dN_power_61 dN_power_62 (by decide) (fun c62_6 => ?_) (fun c62_6 => ?_)
          · refine z_iconst (pc := 96) hZ 0 dN_power_96 (by decide) ?_
            exact z_reti (pc := 97) hZ dN_power_97 .int rfl rfl ⟨_, rfl, _, rfl, rfl, (by trivial)⟩
          · refine z_aload_n (pc := 65) hZ 1 dN_power_65 rfl rfl ?_
            refine z_get (pc := 66) (ci := 1) hZ 0 rfl rfl uc_N 3 (by decide) (zb fl_N_23) rfl dN_power_66 ?_
            refine z_lconst (pc := 69) hZ 1 dN_power_69 (by decide) ?_
            refine z_iconst (pc := 70) hZ 0 dN_power_70 (by decide) ?_
            obtain ⟨q71_7, hq71_7⟩ := zp_at (X := CX h0 ra v1 v2 v3 cR g Y) (f := f56_5) hH.2.2.1
            refine z_callVN (pc := 71) (As := [.long 1, .int 0]) (rest := []) hZ (cV_setReal l D (TY cR c1 c2 c3) (CX h0 ra v1 v2 v3 cR g Y) LP f56_5 v3 hH.2.2.1 1 0) zyV_setReal (z_good co_V_setReal) nl_N_34 (zb in_V) (zb im_V_setReal) (zb se_V_setReal) q71_7 hq71_7 rfl rfl rfl (by decide) rfl rfl (Nat.le_of_ble_eq_true rfl) ⟨Nat.zero_le _, Nat.zero_le _⟩ dN_power_71 (z_kv (fun w1 tys1 hp => ?_))
            obtain ⟨f71_7, rfl, rfl, p71_7⟩ := hp
            refine z_aload_n (pc := 74) hZ 1 dN_power_74 rfl rfl ?_
            refine z_get (pc := 75) (ci := 1) hZ 0 rfl rfl uc_N 3 (by decide) (zb fl_N_23) rfl dN_power_75 ?_
            refine z_aload_n (pc := 78) hZ 1 dN_power_78 rfl rfl ?_
            refine z_get (pc := 79) (ci := 1) hZ 0 rfl rfl uc_N 1 (by decide) (zb fl_N_16) rfl dN_power_79 ?_
            refine z_callSN (pc := 82) (As := [.ref v3, .ref v1]) (rest := []) hZ (cR_divide l D (TY cR c1 c2 c3) (CX h0 ra v1 v2 v3 cR g Y) LP f71_7 v3 hH.2.2.1 v1 hH.1) zyR_divide (z_good co_R_divide) nl_N_129 (zb in_R) (zb st_R_divide) rfl rfl (by decide) rfl rfl (Nat.le_of_ble_eq_true rfl) ⟨Nat.zero_le _, Nat.zero_le _⟩ dN_power_82 (z_kv (fun w1 tys1 hp => ?_))
            obtain ⟨f82_8, rfl, rfl, p82_8⟩ := hp
            refine z_aload_n (pc := 85) hZ 1 dN_power_85 rfl rfl ?_
            refine z_get (pc := 86) (ci := 1) hZ 0 rfl rfl uc_N 1 (by decide) (zb fl_N_16) rfl dN_power_86 ?_
            refine z_aload_n (pc := 89) hZ 1 dN_power_89 rfl rfl ?_
            refine z_get (pc := 90) (ci := 1) hZ 0 rfl rfl uc_N 3 (by decide) (zb fl_N_23) rfl dN_power_90 ?_
            obtain ⟨q93_9, hq93_9⟩ := zp_at (X := CX h0 ra v1 v2 v3 cR g Y) (f := f82_8) hH.1
            refine z_callVN (pc := 93) (As := [.ref v3]) (rest := []) hZ (cV_become l D (TY cR c1 c2 c3) (CX h0 ra v1 v2 v3 cR g Y) LP f82_8 v1 hH.1 v3 hH.2.2.1) zyV_become (z_good co_V_become) nl_N_46 (zb in_V) (zb im_V_become) (zb se_V_become) q93_9 hq93_9 rfl rfl rfl (by decide) rfl rfl (Nat.le_of_ble_eq_true rfl) ⟨Nat.zero_le _, Nat.zero_le _⟩ dN_power_93 (z_kv (fun w1 tys1 hp => ?_))
            obtain ⟨f93_9, rfl, rfl, p93_9⟩ := hp
            refine z_iconst (pc := 96) hZ 0 dN_power_96 (by decide) ?_
            exact z_reti (pc := 97) hZ dN_power_97 .int rfl rfl ⟨_, rfl, _, rfl, rfl, (by trivial)⟩
        refine z_lif_ge (pc := 45) hZ 54 dN_power_45 dN_power_46 (by decide) (fun c46_10 => ?_) (fun c46_10 => ?_)
        · refine z_lload_n (pc := 54) hZ 0 dN_power_54 rfl rfl ?_
          exact z_sub (pc := 55) hZ [0, 1] rfl (J55 s0_23)
        · refine z_lload_n (pc := 49) hZ 0 dN_power_49 rfl rfl ?_
          refine z_lneg (pc := 50) hZ dN_power_50 (fun v50_11 ev50_11 => ?_)
          refine z_goto (pc := 51) hZ 55 dN_power_51 (by decide) ?_
          exact z_sub (pc := 55) hZ [0, 1] rfl (J55 v50_11)
      · refine z_iconst (pc := 40) hZ 3 dN_power_40 (by decide) ?_
        exact z_reti (pc := 41) hZ dN_power_41 .int rfl rfl ⟨_, rfl, _, rfl, rfl, (by trivial)⟩
  refine z_if_eq (pc := 7) hZ 20 dN_power_7 (by decide) (fun c7_12 => ?_) (fun c7_12 => ?_)
  · refine z_ldc2 (pc := 20) hZ 65537 (zb kc_N_142) dN_power_20 ?_
    exact z_sub (pc := 23) hZ [0] rfl (J23 65537)
  · refine z_aload_n (pc := 10) hZ 0 dN_power_10 rfl rfl ?_
    refine z_get (pc := 11) (ci := 1) hZ 0 rfl rfl uc_N 2 (by decide) (zb fl_N_20) rfl dN_power_11 ?_
    obtain ⟨q14_13, hq14_13⟩ := zp_at (X := CX h0 ra v1 v2 v3 cR g Y) (f := f) hH.2.1
    refine z_callVN (pc := 14) (As := []) (rest := []) hZ (cV_asWhole l D (TY cR c1 c2 c3) (CX h0 ra v1 v2 v3 cR g Y) LP f v2 hH.2.1) zyV_asWhole (z_good co_V_asWhole) nl_N_138 (zb in_V) (zb im_V_asWhole) (zb se_V_asWhole) q14_13 hq14_13 rfl rfl rfl (by decide) rfl rfl (Nat.le_of_ble_eq_true rfl) ⟨Nat.zero_le _, Nat.zero_le _⟩ dN_power_14 (z_kl (fun r14_13 w1 tys1 hp => ?_))
    obtain ⟨rfl, rfl, p14_13⟩ := hp
    refine z_goto (pc := 17) hZ 23 dN_power_17 (by decide) ?_
    exact z_sub (pc := 23) hZ [0] rfl (J23 r14_13)
set_option maxHeartbeats 4000000 in
set_option maxRecDepth 100000 in
theorem cN_combineBits (l : Launch) (D : va_G) (cR c1 c2 c3 : ClassId) (h0 ra v1 v2 v3 : Nat) (Y : va_W) (LP : List Nat) (f : Nat → V3) (g : Nat → Option Nat) (hH : zH LP v1 v2 v3 g) (p1 : Int32) : zM l D vwCl zNF zNM yN_combineBits wsN_combineBits { frames := 1, cells := 0, slots := 0, locals := 23 } [.ref h0, .int p1] (CX h0 ra v1 v2 v3 cR g Y ++ PL LP f) (TY cR c1 c2 c3) (qI (fun r w' tys' => ∃ f' : Nat → V3, CX h0 ra v1 v2 v3 cR g Y ++ PL LP f' = w' ∧ (TY cR c1 c2 c3) = tys' ∧ (True))) := by
  refine z_met (cc := bN_combineBits) (maxL := 6) (ret := (some .int)) (isI := false) (own := RN) (by decide +kernel) rfl rfl (fun h => by cases h) (Nat.le_of_ble_eq_true rfl) (fun Z hZ => ?_)
  show Z 0 0 (TY cR c1 c2 c3) 0 [(0, .ref h0), (1, .int p1)] [] (CX h0 ra v1 v2 v3 cR g Y ++ PL LP f)
  refine z_aload_n (pc := 0) hZ 0 dN_combineBits_0 rfl rfl ?_
  refine z_get (pc := 1) (ci := 1) hZ 0 rfl rfl uc_N 1 (by decide) (zb fl_N_16) rfl dN_combineBits_1 ?_
  obtain ⟨q4_1, hq4_1⟩ := zp_at (X := CX h0 ra v1 v2 v3 cR g Y) (f := f) hH.1
  refine z_callVN (pc := 4) (As := []) (rest := []) hZ (cV_countsAsWhole l D (TY cR c1 c2 c3) (CX h0 ra v1 v2 v3 cR g Y) LP f v1 hH.1) zyV_countsAsWhole (z_good co_V_countsAsWhole) nl_N_135 (zb in_V) (zb im_V_countsAsWhole) (zb se_V_countsAsWhole) q4_1 hq4_1 rfl rfl rfl (by decide) rfl rfl (Nat.le_of_ble_eq_true rfl) ⟨Nat.zero_le _, Nat.zero_le _⟩ dN_combineBits_4 (z_ki (fun r4_1 w1 tys1 hp => ?_))
  obtain ⟨rfl, rfl, p4_1⟩ := hp
  refine z_if_eq (pc := 7) hZ 20 dN_combineBits_7 (by decide) (fun c7_2 => ?_) (fun c7_2 => ?_)
  · refine z_iconst (pc := 20) hZ 2 dN_combineBits_20 (by decide) ?_
    exact z_reti (pc := 21) hZ dN_combineBits_21 .int rfl rfl ⟨_, rfl, _, rfl, rfl, (by trivial)⟩
  · refine z_aload_n (pc := 10) hZ 0 dN_combineBits_10 rfl rfl ?_
    refine z_get (pc := 11) (ci := 1) hZ 0 rfl rfl uc_N 2 (by decide) (zb fl_N_20) rfl dN_combineBits_11 ?_
    obtain ⟨q14_3, hq14_3⟩ := zp_at (X := CX h0 ra v1 v2 v3 cR g Y) (f := f) hH.2.1
    refine z_callVN (pc := 14) (As := []) (rest := []) hZ (cV_countsAsWhole l D (TY cR c1 c2 c3) (CX h0 ra v1 v2 v3 cR g Y) LP f v2 hH.2.1) zyV_countsAsWhole (z_good co_V_countsAsWhole) nl_N_135 (zb in_V) (zb im_V_countsAsWhole) (zb se_V_countsAsWhole) q14_3 hq14_3 rfl rfl rfl (by decide) rfl rfl (Nat.le_of_ble_eq_true rfl) ⟨Nat.zero_le _, Nat.zero_le _⟩ dN_combineBits_14 (z_ki (fun r14_3 w1 tys1 hp => ?_))
    obtain ⟨rfl, rfl, p14_3⟩ := hp
    refine z_if_ne (pc := 17) hZ 22 dN_combineBits_17 (by decide) (fun c17_4 => ?_) (fun c17_4 => ?_)
    · refine z_aload_n (pc := 22) hZ 0 dN_combineBits_22 rfl rfl ?_
      refine z_get (pc := 23) (ci := 1) hZ 0 rfl rfl uc_N 1 (by decide) (zb fl_N_16) rfl dN_combineBits_23 ?_
      obtain ⟨q26_5, hq26_5⟩ := zp_at (X := CX h0 ra v1 v2 v3 cR g Y) (f := f) hH.1
      refine z_callVN (pc := 26) (As := []) (rest := []) hZ (cV_asWhole l D (TY cR c1 c2 c3) (CX h0 ra v1 v2 v3 cR g Y) LP f v1 hH.1) zyV_asWhole (z_good co_V_asWhole) nl_N_138 (zb in_V) (zb im_V_asWhole) (zb se_V_asWhole) q26_5 hq26_5 rfl rfl rfl (by decide) rfl rfl (Nat.le_of_ble_eq_true rfl) ⟨Nat.zero_le _, Nat.zero_le _⟩ dN_combineBits_26 (z_kl (fun r26_5 w1 tys1 hp => ?_))
      obtain ⟨rfl, rfl, p26_5⟩ := hp
      refine z_lstore_n (pc := 29) hZ [(2, .long r26_5), (0, .ref h0), (1, .int p1)] dN_combineBits_29 rfl (by decide) rfl ?_
      refine z_aload_n (pc := 30) hZ 1 dN_combineBits_30 rfl rfl ?_
      refine z_get (pc := 31) (ci := 1) hZ 0 rfl rfl uc_N 2 (by decide) (zb fl_N_20) rfl dN_combineBits_31 ?_
      obtain ⟨q34_6, hq34_6⟩ := zp_at (X := CX h0 ra v1 v2 v3 cR g Y) (f := f) hH.2.1
      refine z_callVN (pc := 34) (As := []) (rest := []) hZ (cV_asWhole l D (TY cR c1 c2 c3) (CX h0 ra v1 v2 v3 cR g Y) LP f v2 hH.2.1) zyV_asWhole (z_good co_V_asWhole) nl_N_138 (zb in_V) (zb im_V_asWhole) (zb se_V_asWhole) q34_6 hq34_6 rfl rfl rfl (by decide) rfl rfl (Nat.le_of_ble_eq_true rfl) ⟨Nat.zero_le _, Nat.zero_le _⟩ dN_combineBits_34 (z_kl (fun r34_6 w1 tys1 hp => ?_))
      obtain ⟨rfl, rfl, p34_6⟩ := hp
      refine z_lstore (pc := 37) hZ [(4, .long r34_6), (2, .long r26_5), (0, .ref h0), (1, .int p1)] dN_combineBits_37 (by decide) rfl ?_
      refine z_iload_n (pc := 39) hZ 3 dN_combineBits_39 rfl rfl ?_
      by_cases w40_7 : p1 = 7
      · refine z_tabAt (pc := 40) hZ 7 72 w40_7 dN_combineBits_40 (by decide) (by decide) rfl (by decide) ?_
        refine z_aload_n (pc := 72) hZ 2 dN_combineBits_72 rfl rfl ?_
        refine z_get (pc := 73) (ci := 1) hZ 0 rfl rfl uc_N 1 (by decide) (zb fl_N_16) rfl dN_combineBits_73 ?_
        refine z_lload_n (pc := 76) hZ 1 dN_combineBits_76 rfl rfl ?_
        refine z_lload (pc := 77) hZ 0 dN_combineBits_77 rfl ?_
        refine z_land (pc := 79) hZ dN_combineBits_79 (fun v79_7 ev79_7 => ?_)
        obtain ⟨q80_8, hq80_8⟩ := zp_at (X := CX h0 ra v1 v2 v3 cR g Y) (f := f) hH.1
        refine z_callVN (pc := 80) (As := [.long v79_7]) (rest := []) hZ (cV_setWhole l D (TY cR c1 c2 c3) (CX h0 ra v1 v2 v3 cR g Y) LP f v1 hH.1 v79_7) zyV_setWhole (z_good co_V_setWhole) nl_N_30 (zb in_V) (zb im_V_setWhole) (zb se_V_setWhole) q80_8 hq80_8 rfl rfl rfl (by decide) rfl rfl (Nat.le_of_ble_eq_true rfl) ⟨Nat.zero_le _, Nat.zero_le _⟩ dN_combineBits_80 (z_kv (fun w1 tys1 hp => ?_))
        obtain ⟨f80_8, rfl, rfl, p80_8⟩ := hp
        refine z_goto (pc := 83) hZ 144 dN_combineBits_83 (by decide) ?_
        refine z_iconst (pc := 144) hZ 0 dN_combineBits_144 (by decide) ?_
        exact z_reti (pc := 145) hZ dN_combineBits_145 .int rfl rfl ⟨_, rfl, _, rfl, rfl, (by trivial)⟩
      by_cases w40_8 : p1 = 8
      · refine z_tabAt (pc := 40) hZ 8 86 w40_8 dN_combineBits_40 (by decide) (by decide) rfl (by decide) ?_
        refine z_aload_n (pc := 86) hZ 2 dN_combineBits_86 rfl rfl ?_
        refine z_get (pc := 87) (ci := 1) hZ 0 rfl rfl uc_N 1 (by decide) (zb fl_N_16) rfl dN_combineBits_87 ?_
        refine z_lload_n (pc := 90) hZ 1 dN_combineBits_90 rfl rfl ?_
        refine z_lload (pc := 91) hZ 0 dN_combineBits_91 rfl ?_
        refine z_lor (pc := 93) hZ dN_combineBits_93 (fun v93_9 ev93_9 => ?_)
        obtain ⟨q94_10, hq94_10⟩ := zp_at (X := CX h0 ra v1 v2 v3 cR g Y) (f := f) hH.1
        refine z_callVN (pc := 94) (As := [.long v93_9]) (rest := []) hZ (cV_setWhole l D (TY cR c1 c2 c3) (CX h0 ra v1 v2 v3 cR g Y) LP f v1 hH.1 v93_9) zyV_setWhole (z_good co_V_setWhole) nl_N_30 (zb in_V) (zb im_V_setWhole) (zb se_V_setWhole) q94_10 hq94_10 rfl rfl rfl (by decide) rfl rfl (Nat.le_of_ble_eq_true rfl) ⟨Nat.zero_le _, Nat.zero_le _⟩ dN_combineBits_94 (z_kv (fun w1 tys1 hp => ?_))
        obtain ⟨f94_10, rfl, rfl, p94_10⟩ := hp
        refine z_goto (pc := 97) hZ 144 dN_combineBits_97 (by decide) ?_
        refine z_iconst (pc := 144) hZ 0 dN_combineBits_144 (by decide) ?_
        exact z_reti (pc := 145) hZ dN_combineBits_145 .int rfl rfl ⟨_, rfl, _, rfl, rfl, (by trivial)⟩
      by_cases w40_9 : p1 = 9
      · refine z_tabAt (pc := 40) hZ 9 100 w40_9 dN_combineBits_40 (by decide) (by decide) rfl (by decide) ?_
        refine z_aload_n (pc := 100) hZ 2 dN_combineBits_100 rfl rfl ?_
        refine z_get (pc := 101) (ci := 1) hZ 0 rfl rfl uc_N 1 (by decide) (zb fl_N_16) rfl dN_combineBits_101 ?_
        refine z_lload_n (pc := 104) hZ 1 dN_combineBits_104 rfl rfl ?_
        refine z_lload (pc := 105) hZ 0 dN_combineBits_105 rfl ?_
        refine z_lxor (pc := 107) hZ dN_combineBits_107 (fun v107_11 ev107_11 => ?_)
        obtain ⟨q108_12, hq108_12⟩ := zp_at (X := CX h0 ra v1 v2 v3 cR g Y) (f := f) hH.1
        refine z_callVN (pc := 108) (As := [.long v107_11]) (rest := []) hZ (cV_setWhole l D (TY cR c1 c2 c3) (CX h0 ra v1 v2 v3 cR g Y) LP f v1 hH.1 v107_11) zyV_setWhole (z_good co_V_setWhole) nl_N_30 (zb in_V) (zb im_V_setWhole) (zb se_V_setWhole) q108_12 hq108_12 rfl rfl rfl (by decide) rfl rfl (Nat.le_of_ble_eq_true rfl) ⟨Nat.zero_le _, Nat.zero_le _⟩ dN_combineBits_108 (z_kv (fun w1 tys1 hp => ?_))
        obtain ⟨f108_12, rfl, rfl, p108_12⟩ := hp
        refine z_goto (pc := 111) hZ 144 dN_combineBits_111 (by decide) ?_
        refine z_iconst (pc := 144) hZ 0 dN_combineBits_144 (by decide) ?_
        exact z_reti (pc := 145) hZ dN_combineBits_145 .int rfl rfl ⟨_, rfl, _, rfl, rfl, (by trivial)⟩
      by_cases w40_10 : p1 = 10
      · refine z_tabAt (pc := 40) hZ 10 114 w40_10 dN_combineBits_40 (by decide) (by decide) rfl (by decide) ?_
        refine z_aload_n (pc := 114) hZ 2 dN_combineBits_114 rfl rfl ?_
        refine z_get (pc := 115) (ci := 1) hZ 0 rfl rfl uc_N 1 (by decide) (zb fl_N_16) rfl dN_combineBits_115 ?_
        refine z_lload_n (pc := 118) hZ 1 dN_combineBits_118 rfl rfl ?_
        refine z_lload (pc := 119) hZ 0 dN_combineBits_119 rfl ?_
        refine z_callS (pc := 121) (As := [.long r26_5, .long r34_6]) (rest := [.ref v1]) hZ (cN_shiftLeft l D (TY cR c1 c2 c3) (CX h0 ra v1 v2 v3 cR g Y ++ PL LP f) r26_5 r34_6) zyN_shiftLeft (z_goodS ml_N_156 st_N_shiftLeft in_N co_N_shiftLeft) rfl rfl (by decide) rfl rfl (Nat.le_of_ble_eq_true rfl) ⟨Nat.zero_le _, Nat.zero_le _⟩ dN_combineBits_121 (z_kl (fun r121_13 w1 tys1 hp => ?_))
        obtain ⟨rfl, rfl, p121_13⟩ := hp
        obtain ⟨q124_14, hq124_14⟩ := zp_at (X := CX h0 ra v1 v2 v3 cR g Y) (f := f) hH.1
        refine z_callVN (pc := 124) (As := [.long r121_13]) (rest := []) hZ (cV_setWhole l D (TY cR c1 c2 c3) (CX h0 ra v1 v2 v3 cR g Y) LP f v1 hH.1 r121_13) zyV_setWhole (z_good co_V_setWhole) nl_N_30 (zb in_V) (zb im_V_setWhole) (zb se_V_setWhole) q124_14 hq124_14 rfl rfl rfl (by decide) rfl rfl (Nat.le_of_ble_eq_true rfl) ⟨Nat.zero_le _, Nat.zero_le _⟩ dN_combineBits_124 (z_kv (fun w1 tys1 hp => ?_))
        obtain ⟨f124_14, rfl, rfl, p124_14⟩ := hp
        refine z_goto (pc := 127) hZ 144 dN_combineBits_127 (by decide) ?_
        refine z_iconst (pc := 144) hZ 0 dN_combineBits_144 (by decide) ?_
        exact z_reti (pc := 145) hZ dN_combineBits_145 .int rfl rfl ⟨_, rfl, _, rfl, rfl, (by trivial)⟩
      refine z_tabOut (pc := 40) hZ 130 dN_combineBits_40 (by have n7 := lv_neT w40_7 (a := 7) (by decide); have n8 := lv_neT w40_8 (a := 8) (by decide); have n9 := lv_neT w40_9 (a := 9) (by decide); have n10 := lv_neT w40_10 (a := 10) (by decide); omega) (by decide) ?_
      refine z_aload_n (pc := 130) hZ 2 dN_combineBits_130 rfl rfl ?_
      refine z_get (pc := 131) (ci := 1) hZ 0 rfl rfl uc_N 1 (by decide) (zb fl_N_16) rfl dN_combineBits_131 ?_
      refine z_lload_n (pc := 134) hZ 1 dN_combineBits_134 rfl rfl ?_
      refine z_lload (pc := 135) hZ 0 dN_combineBits_135 rfl ?_
      refine z_lneg (pc := 137) hZ dN_combineBits_137 (fun v137_15 ev137_15 => ?_)
      refine z_callS (pc := 138) (As := [.long r26_5, .long v137_15]) (rest := [.ref v1]) hZ (cN_shiftLeft l D (TY cR c1 c2 c3) (CX h0 ra v1 v2 v3 cR g Y ++ PL LP f) r26_5 v137_15) zyN_shiftLeft (z_goodS ml_N_156 st_N_shiftLeft in_N co_N_shiftLeft) rfl rfl (by decide) rfl rfl (Nat.le_of_ble_eq_true rfl) ⟨Nat.zero_le _, Nat.zero_le _⟩ dN_combineBits_138 (z_kl (fun r138_16 w1 tys1 hp => ?_))
      obtain ⟨rfl, rfl, p138_16⟩ := hp
      obtain ⟨q141_17, hq141_17⟩ := zp_at (X := CX h0 ra v1 v2 v3 cR g Y) (f := f) hH.1
      refine z_callVN (pc := 141) (As := [.long r138_16]) (rest := []) hZ (cV_setWhole l D (TY cR c1 c2 c3) (CX h0 ra v1 v2 v3 cR g Y) LP f v1 hH.1 r138_16) zyV_setWhole (z_good co_V_setWhole) nl_N_30 (zb in_V) (zb im_V_setWhole) (zb se_V_setWhole) q141_17 hq141_17 rfl rfl rfl (by decide) rfl rfl (Nat.le_of_ble_eq_true rfl) ⟨Nat.zero_le _, Nat.zero_le _⟩ dN_combineBits_141 (z_kv (fun w1 tys1 hp => ?_))
      obtain ⟨f141_17, rfl, rfl, p141_17⟩ := hp
      refine z_iconst (pc := 144) hZ 0 dN_combineBits_144 (by decide) ?_
      exact z_reti (pc := 145) hZ dN_combineBits_145 .int rfl rfl ⟨_, rfl, _, rfl, rfl, (by trivial)⟩
    · refine z_iconst (pc := 20) hZ 2 dN_combineBits_20 (by decide) ?_
      exact z_reti (pc := 21) hZ dN_combineBits_21 .int rfl rfl ⟨_, rfl, _, rfl, rfl, (by trivial)⟩
set_option maxHeartbeats 4000000 in
set_option maxRecDepth 100000 in
theorem cN_applyToOne (l : Launch) (D : va_G) (cR c1 c2 c3 : ClassId) (h0 ra v1 v2 v3 : Nat) (Y : va_W) (LP : List Nat) (f : Nat → V3) (g : Nat → Option Nat) (hH : zH LP v1 v2 v3 g) (p1 : Int32) : zM l D vwCl zNF zNM yN_applyToOne wsN_applyToOne { frames := 5, cells := 0, slots := 0, locals := 117 } [.ref h0, .int p1] (CX h0 ra v1 v2 v3 cR g Y ++ PL LP f) (TY cR c1 c2 c3) (qI (fun r w' tys' => ∃ f' : Nat → V3, CX h0 ra v1 v2 v3 cR g Y ++ PL LP f' = w' ∧ (TY cR c1 c2 c3) = tys' ∧ (True))) := by
  refine z_met (cc := bN_applyToOne) (maxL := 2) (ret := (some .int)) (isI := false) (own := RN) (by decide +kernel) rfl rfl (fun h => by cases h) (Nat.le_of_ble_eq_true rfl) (fun Z hZ => ?_)
  show Z 0 0 (TY cR c1 c2 c3) 0 [(0, .ref h0), (1, .int p1)] [] (CX h0 ra v1 v2 v3 cR g Y ++ PL LP f)
  refine z_iload_n (pc := 0) hZ 1 dN_applyToOne_0 rfl rfl ?_
  refine z_bipush (pc := 1) hZ 13 dN_applyToOne_1 (by decide) ?_
  have J24 : Z 0 0 (TY cR c1 c2 c3) 24 [(0, .ref h0), (1, .int p1)] [] (CX h0 ra v1 v2 v3 cR g Y ++ PL LP f) := by
    refine z_iload_n (pc := 24) hZ 1 dN_applyToOne_24 rfl rfl ?_
    by_cases w25_12 : p1 = 12
    · refine z_tabAt (pc := 25) hZ 12 60 w25_12 dN_applyToOne_25 (by decide) (by decide) rfl (by decide) ?_
      refine z_aload_n (pc := 60) hZ 0 dN_applyToOne_60 rfl rfl ?_
      refine z_get (pc := 61) (ci := 1) hZ 0 rfl rfl uc_N 1 (by decide) (zb fl_N_16) rfl dN_applyToOne_61 ?_
      obtain ⟨q64_1, hq64_1⟩ := zp_at (X := CX h0 ra v1 v2 v3 cR g Y) (f := f) hH.1
      refine z_callVN (pc := 64) (As := []) (rest := []) hZ (cV_negate l D (TY cR c1 c2 c3) (CX h0 ra v1 v2 v3 cR g Y) LP f v1 hH.1) zyV_negate (z_good co_V_negate) nl_N_108 (zb in_V) (zb im_V_negate) (zb se_V_negate) q64_1 hq64_1 rfl rfl rfl (by decide) rfl rfl (Nat.le_of_ble_eq_true rfl) ⟨Nat.zero_le _, Nat.zero_le _⟩ dN_applyToOne_64 (z_kv (fun w1 tys1 hp => ?_))
      obtain ⟨f64_1, rfl, rfl, p64_1⟩ := hp
      refine z_goto (pc := 67) hZ 169 dN_applyToOne_67 (by decide) ?_
      refine z_iconst (pc := 169) hZ 0 dN_applyToOne_169 (by decide) ?_
      exact z_reti (pc := 170) hZ dN_applyToOne_170 .int rfl rfl ⟨_, rfl, _, rfl, rfl, (by trivial)⟩
    by_cases w25_13 : p1 = 13
    · refine z_tabAt (pc := 25) hZ 13 70 w25_13 dN_applyToOne_25 (by decide) (by decide) rfl (by decide) ?_
      refine z_aload_n (pc := 70) hZ 0 dN_applyToOne_70 rfl rfl ?_
      refine z_get (pc := 71) (ci := 1) hZ 0 rfl rfl uc_N 1 (by decide) (zb fl_N_16) rfl dN_applyToOne_71 ?_
      refine z_aload_n (pc := 74) hZ 0 dN_applyToOne_74 rfl rfl ?_
      refine z_get (pc := 75) (ci := 1) hZ 0 rfl rfl uc_N 1 (by decide) (zb fl_N_16) rfl dN_applyToOne_75 ?_
      obtain ⟨q78_2, hq78_2⟩ := zp_at (X := CX h0 ra v1 v2 v3 cR g Y) (f := f) hH.1
      refine z_callVN (pc := 78) (As := []) (rest := [.ref v1]) hZ (cV_asWhole l D (TY cR c1 c2 c3) (CX h0 ra v1 v2 v3 cR g Y) LP f v1 hH.1) zyV_asWhole (z_good co_V_asWhole) nl_N_138 (zb in_V) (zb im_V_asWhole) (zb se_V_asWhole) q78_2 hq78_2 rfl rfl rfl (by decide) rfl rfl (Nat.le_of_ble_eq_true rfl) ⟨Nat.zero_le _, Nat.zero_le _⟩ dN_applyToOne_78 (z_kl (fun r78_2 w1 tys1 hp => ?_))
      obtain ⟨rfl, rfl, p78_2⟩ := hp
      refine z_ldc2 (pc := 81) hZ (-1) (zb kc_N_163) dN_applyToOne_81 ?_
      refine z_lxor (pc := 84) hZ dN_applyToOne_84 (fun v84_3 ev84_3 => ?_)
      obtain ⟨q85_4, hq85_4⟩ := zp_at (X := CX h0 ra v1 v2 v3 cR g Y) (f := f) hH.1
      refine z_callVN (pc := 85) (As := [.long v84_3]) (rest := []) hZ (cV_setWhole l D (TY cR c1 c2 c3) (CX h0 ra v1 v2 v3 cR g Y) LP f v1 hH.1 v84_3) zyV_setWhole (z_good co_V_setWhole) nl_N_30 (zb in_V) (zb im_V_setWhole) (zb se_V_setWhole) q85_4 hq85_4 rfl rfl rfl (by decide) rfl rfl (Nat.le_of_ble_eq_true rfl) ⟨Nat.zero_le _, Nat.zero_le _⟩ dN_applyToOne_85 (z_kv (fun w1 tys1 hp => ?_))
      obtain ⟨f85_4, rfl, rfl, p85_4⟩ := hp
      refine z_goto (pc := 88) hZ 169 dN_applyToOne_88 (by decide) ?_
      refine z_iconst (pc := 169) hZ 0 dN_applyToOne_169 (by decide) ?_
      exact z_reti (pc := 170) hZ dN_applyToOne_170 .int rfl rfl ⟨_, rfl, _, rfl, rfl, (by trivial)⟩
    by_cases w25_14 : p1 = 14
    · refine z_tabAt (pc := 25) hZ 14 91 w25_14 dN_applyToOne_25 (by decide) (by decide) rfl (by decide) ?_
      refine z_aload_n (pc := 91) hZ 0 dN_applyToOne_91 rfl rfl ?_
      refine z_get (pc := 92) (ci := 1) hZ 0 rfl rfl uc_N 1 (by decide) (zb fl_N_16) rfl dN_applyToOne_92 ?_
      obtain ⟨q95_5, hq95_5⟩ := zp_at (X := CX h0 ra v1 v2 v3 cR g Y) (f := f) hH.1
      refine z_callVN (pc := 95) (As := []) (rest := []) hZ (cV_roundDown l D (TY cR c1 c2 c3) (CX h0 ra v1 v2 v3 cR g Y) LP f v1 hH.1) zyV_roundDown (z_good co_V_roundDown) nl_N_132 (zb in_V) (zb im_V_roundDown) (zb se_V_roundDown) q95_5 hq95_5 rfl rfl rfl (by decide) rfl rfl (Nat.le_of_ble_eq_true rfl) ⟨Nat.zero_le _, Nat.zero_le _⟩ dN_applyToOne_95 (z_kv (fun w1 tys1 hp => ?_))
      obtain ⟨f95_5, rfl, rfl, p95_5⟩ := hp
      refine z_aload_n (pc := 98) hZ 0 dN_applyToOne_98 rfl rfl ?_
      refine z_get (pc := 99) (ci := 1) hZ 0 rfl rfl uc_N 1 (by decide) (zb fl_N_16) rfl dN_applyToOne_99 ?_
      obtain ⟨q102_6, hq102_6⟩ := zp_at (X := CX h0 ra v1 v2 v3 cR g Y) (f := f95_5) hH.1
      refine z_callVN (pc := 102) (As := []) (rest := []) hZ (cV_countsAsWhole l D (TY cR c1 c2 c3) (CX h0 ra v1 v2 v3 cR g Y) LP f95_5 v1 hH.1) zyV_countsAsWhole (z_good co_V_countsAsWhole) nl_N_135 (zb in_V) (zb im_V_countsAsWhole) (zb se_V_countsAsWhole) q102_6 hq102_6 rfl rfl rfl (by decide) rfl rfl (Nat.le_of_ble_eq_true rfl) ⟨Nat.zero_le _, Nat.zero_le _⟩ dN_applyToOne_102 (z_ki (fun r102_6 w1 tys1 hp => ?_))
      obtain ⟨rfl, rfl, p102_6⟩ := hp
      refine z_if_eq (pc := 105) hZ 169 dN_applyToOne_105 (by decide) (fun c105_7 => ?_) (fun c105_7 => ?_)
      · refine z_iconst (pc := 169) hZ 0 dN_applyToOne_169 (by decide) ?_
        exact z_reti (pc := 170) hZ dN_applyToOne_170 .int rfl rfl ⟨_, rfl, _, rfl, rfl, (by trivial)⟩
      · refine z_aload_n (pc := 108) hZ 0 dN_applyToOne_108 rfl rfl ?_
        refine z_get (pc := 109) (ci := 1) hZ 0 rfl rfl uc_N 1 (by decide) (zb fl_N_16) rfl dN_applyToOne_109 ?_
        refine z_aload_n (pc := 112) hZ 0 dN_applyToOne_112 rfl rfl ?_
        refine z_get (pc := 113) (ci := 1) hZ 0 rfl rfl uc_N 1 (by decide) (zb fl_N_16) rfl dN_applyToOne_113 ?_
        obtain ⟨q116_8, hq116_8⟩ := zp_at (X := CX h0 ra v1 v2 v3 cR g Y) (f := f95_5) hH.1
        refine z_callVN (pc := 116) (As := []) (rest := [.ref v1]) hZ (cV_asWhole l D (TY cR c1 c2 c3) (CX h0 ra v1 v2 v3 cR g Y) LP f95_5 v1 hH.1) zyV_asWhole (z_good co_V_asWhole) nl_N_138 (zb in_V) (zb im_V_asWhole) (zb se_V_asWhole) q116_8 hq116_8 rfl rfl rfl (by decide) rfl rfl (Nat.le_of_ble_eq_true rfl) ⟨Nat.zero_le _, Nat.zero_le _⟩ dN_applyToOne_116 (z_kl (fun r116_8 w1 tys1 hp => ?_))
        obtain ⟨rfl, rfl, p116_8⟩ := hp
        obtain ⟨q119_9, hq119_9⟩ := zp_at (X := CX h0 ra v1 v2 v3 cR g Y) (f := f95_5) hH.1
        refine z_callVN (pc := 119) (As := [.long r116_8]) (rest := []) hZ (cV_setWhole l D (TY cR c1 c2 c3) (CX h0 ra v1 v2 v3 cR g Y) LP f95_5 v1 hH.1 r116_8) zyV_setWhole (z_good co_V_setWhole) nl_N_30 (zb in_V) (zb im_V_setWhole) (zb se_V_setWhole) q119_9 hq119_9 rfl rfl rfl (by decide) rfl rfl (Nat.le_of_ble_eq_true rfl) ⟨Nat.zero_le _, Nat.zero_le _⟩ dN_applyToOne_119 (z_kv (fun w1 tys1 hp => ?_))
        obtain ⟨f119_9, rfl, rfl, p119_9⟩ := hp
        refine z_goto (pc := 122) hZ 169 dN_applyToOne_122 (by decide) ?_
        refine z_iconst (pc := 169) hZ 0 dN_applyToOne_169 (by decide) ?_
        exact z_reti (pc := 170) hZ dN_applyToOne_170 .int rfl rfl ⟨_, rfl, _, rfl, rfl, (by trivial)⟩
    by_cases w25_15 : p1 = 15
    · refine z_tabAt (pc := 25) hZ 15 125 w25_15 dN_applyToOne_25 (by decide) (by decide) rfl (by decide) ?_
      refine z_aload_n (pc := 125) hZ 0 dN_applyToOne_125 rfl rfl ?_
      refine z_get (pc := 126) (ci := 1) hZ 0 rfl rfl uc_N 1 (by decide) (zb fl_N_16) rfl dN_applyToOne_126 ?_
      obtain ⟨q129_10, hq129_10⟩ := zp_at (X := CX h0 ra v1 v2 v3 cR g Y) (f := f) hH.1
      refine z_callVN (pc := 129) (As := []) (rest := []) hZ (cV_turnReal l D (TY cR c1 c2 c3) (CX h0 ra v1 v2 v3 cR g Y) LP f v1 hH.1) zyV_turnReal (z_good co_V_turnReal) nl_N_92 (zb in_V) (zb im_V_turnReal) (zb se_V_turnReal) q129_10 hq129_10 rfl rfl rfl (by decide) rfl rfl (Nat.le_of_ble_eq_true rfl) ⟨Nat.zero_le _, Nat.zero_le _⟩ dN_applyToOne_129 (z_kv (fun w1 tys1 hp => ?_))
      obtain ⟨f129_10, rfl, rfl, p129_10⟩ := hp
      refine z_goto (pc := 132) hZ 169 dN_applyToOne_132 (by decide) ?_
      refine z_iconst (pc := 169) hZ 0 dN_applyToOne_169 (by decide) ?_
      exact z_reti (pc := 170) hZ dN_applyToOne_170 .int rfl rfl ⟨_, rfl, _, rfl, rfl, (by trivial)⟩
    by_cases w25_16 : p1 = 16
    · refine z_tabAt (pc := 25) hZ 16 135 w25_16 dN_applyToOne_25 (by decide) (by decide) rfl (by decide) ?_
      refine z_aload_n (pc := 135) hZ 0 dN_applyToOne_135 rfl rfl ?_
      refine z_get (pc := 136) (ci := 1) hZ 0 rfl rfl uc_N 1 (by decide) (zb fl_N_16) rfl dN_applyToOne_136 ?_
      refine z_aload_n (pc := 139) hZ 0 dN_applyToOne_139 rfl rfl ?_
      refine z_get (pc := 140) (ci := 1) hZ 0 rfl rfl uc_N 1 (by decide) (zb fl_N_16) rfl dN_applyToOne_140 ?_
      obtain ⟨q143_11, hq143_11⟩ := zp_at (X := CX h0 ra v1 v2 v3 cR g Y) (f := f) hH.1
      refine z_callVN (pc := 143) (As := []) (rest := [.ref v1]) hZ (cV_asWhole l D (TY cR c1 c2 c3) (CX h0 ra v1 v2 v3 cR g Y) LP f v1 hH.1) zyV_asWhole (z_good co_V_asWhole) nl_N_138 (zb in_V) (zb im_V_asWhole) (zb se_V_asWhole) q143_11 hq143_11 rfl rfl rfl (by decide) rfl rfl (Nat.le_of_ble_eq_true rfl) ⟨Nat.zero_le _, Nat.zero_le _⟩ dN_applyToOne_143 (z_kl (fun r143_11 w1 tys1 hp => ?_))
      obtain ⟨rfl, rfl, p143_11⟩ := hp
      obtain ⟨q146_12, hq146_12⟩ := zp_at (X := CX h0 ra v1 v2 v3 cR g Y) (f := f) hH.1
      refine z_callVN (pc := 146) (As := [.long r143_11]) (rest := []) hZ (cV_setWhole l D (TY cR c1 c2 c3) (CX h0 ra v1 v2 v3 cR g Y) LP f v1 hH.1 r143_11) zyV_setWhole (z_good co_V_setWhole) nl_N_30 (zb in_V) (zb im_V_setWhole) (zb se_V_setWhole) q146_12 hq146_12 rfl rfl rfl (by decide) rfl rfl (Nat.le_of_ble_eq_true rfl) ⟨Nat.zero_le _, Nat.zero_le _⟩ dN_applyToOne_146 (z_kv (fun w1 tys1 hp => ?_))
      obtain ⟨f146_12, rfl, rfl, p146_12⟩ := hp
      refine z_goto (pc := 149) hZ 169 dN_applyToOne_149 (by decide) ?_
      refine z_iconst (pc := 169) hZ 0 dN_applyToOne_169 (by decide) ?_
      exact z_reti (pc := 170) hZ dN_applyToOne_170 .int rfl rfl ⟨_, rfl, _, rfl, rfl, (by trivial)⟩
    refine z_tabOut (pc := 25) hZ 152 dN_applyToOne_25 (by have n12 := lv_neT w25_12 (a := 12) (by decide); have n13 := lv_neT w25_13 (a := 13) (by decide); have n14 := lv_neT w25_14 (a := 14) (by decide); have n15 := lv_neT w25_15 (a := 15) (by decide); have n16 := lv_neT w25_16 (a := 16) (by decide); omega) (by decide) ?_
    refine z_aload_n (pc := 152) hZ 0 dN_applyToOne_152 rfl rfl ?_
    refine z_get (pc := 153) (ci := 1) hZ 0 rfl rfl uc_N 1 (by decide) (zb fl_N_16) rfl dN_applyToOne_153 ?_
    obtain ⟨q156_13, hq156_13⟩ := zp_at (X := CX h0 ra v1 v2 v3 cR g Y) (f := f) hH.1
    refine z_callVN (pc := 156) (As := []) (rest := []) hZ (cV_sign l D (TY cR c1 c2 c3) (CX h0 ra v1 v2 v3 cR g Y) LP f v1 hH.1) zyV_sign (z_good co_V_sign) nl_N_165 (zb in_V) (zb im_V_sign) (zb se_V_sign) q156_13 hq156_13 rfl rfl rfl (by decide) rfl rfl (Nat.le_of_ble_eq_true rfl) ⟨Nat.zero_le _, Nat.zero_le _⟩ dN_applyToOne_156 (z_ki (fun r156_13 w1 tys1 hp => ?_))
    obtain ⟨rfl, rfl, p156_13⟩ := hp
    refine z_if_ge (pc := 159) hZ 169 dN_applyToOne_159 (by decide) (fun c159_14 => ?_) (fun c159_14 => ?_)
    · refine z_iconst (pc := 169) hZ 0 dN_applyToOne_169 (by decide) ?_
      exact z_reti (pc := 170) hZ dN_applyToOne_170 .int rfl rfl ⟨_, rfl, _, rfl, rfl, (by trivial)⟩
    · refine z_aload_n (pc := 162) hZ 0 dN_applyToOne_162 rfl rfl ?_
      refine z_get (pc := 163) (ci := 1) hZ 0 rfl rfl uc_N 1 (by decide) (zb fl_N_16) rfl dN_applyToOne_163 ?_
      obtain ⟨q166_15, hq166_15⟩ := zp_at (X := CX h0 ra v1 v2 v3 cR g Y) (f := f) hH.1
      refine z_callVN (pc := 166) (As := []) (rest := []) hZ (cV_negate l D (TY cR c1 c2 c3) (CX h0 ra v1 v2 v3 cR g Y) LP f v1 hH.1) zyV_negate (z_good co_V_negate) nl_N_108 (zb in_V) (zb im_V_negate) (zb se_V_negate) q166_15 hq166_15 rfl rfl rfl (by decide) rfl rfl (Nat.le_of_ble_eq_true rfl) ⟨Nat.zero_le _, Nat.zero_le _⟩ dN_applyToOne_166 (z_kv (fun w1 tys1 hp => ?_))
      obtain ⟨f166_15, rfl, rfl, p166_15⟩ := hp
      refine z_iconst (pc := 169) hZ 0 dN_applyToOne_169 (by decide) ?_
      exact z_reti (pc := 170) hZ dN_applyToOne_170 .int rfl rfl ⟨_, rfl, _, rfl, rfl, (by trivial)⟩
  have J12 : Z 0 0 (TY cR c1 c2 c3) 12 [(0, .ref h0), (1, .int p1)] [] (CX h0 ra v1 v2 v3 cR g Y ++ PL LP f) := by
    refine z_aload_n (pc := 12) hZ 0 dN_applyToOne_12 rfl rfl ?_
    refine z_get (pc := 13) (ci := 1) hZ 0 rfl rfl uc_N 1 (by decide) (zb fl_N_16) rfl dN_applyToOne_13 ?_
    obtain ⟨q16_16, hq16_16⟩ := zp_at (X := CX h0 ra v1 v2 v3 cR g Y) (f := f) hH.1
    refine z_callVN (pc := 16) (As := []) (rest := []) hZ (cV_countsAsWhole l D (TY cR c1 c2 c3) (CX h0 ra v1 v2 v3 cR g Y) LP f v1 hH.1) zyV_countsAsWhole (z_good co_V_countsAsWhole) nl_N_135 (zb in_V) (zb im_V_countsAsWhole) (zb se_V_countsAsWhole) q16_16 hq16_16 rfl rfl rfl (by decide) rfl rfl (Nat.le_of_ble_eq_true rfl) ⟨Nat.zero_le _, Nat.zero_le _⟩ dN_applyToOne_16 (z_ki (fun r16_16 w1 tys1 hp => ?_))
    obtain ⟨rfl, rfl, p16_16⟩ := hp
    refine z_if_ne (pc := 19) hZ 24 dN_applyToOne_19 (by decide) (fun c19_17 => ?_) (fun c19_17 => ?_)
    · exact z_sub (pc := 24) hZ [0, 1] rfl (J24 )
    · refine z_iconst (pc := 22) hZ 2 dN_applyToOne_22 (by decide) ?_
      exact z_reti (pc := 23) hZ dN_applyToOne_23 .int rfl rfl ⟨_, rfl, _, rfl, rfl, (by trivial)⟩
  refine z_icmp_eq (pc := 3) hZ 12 dN_applyToOne_3 (by decide) (fun c3_18 => ?_) (fun c3_18 => ?_)
  · exact z_sub (pc := 12) hZ [0, 1] rfl (J12 )
  · refine z_iload_n (pc := 6) hZ 1 dN_applyToOne_6 rfl rfl ?_
    refine z_bipush (pc := 7) hZ 16 dN_applyToOne_7 (by decide) ?_
    refine z_icmp_ne (pc := 9) hZ 24 dN_applyToOne_9 (by decide) (fun c9_19 => ?_) (fun c9_19 => ?_)
    · exact z_sub (pc := 24) hZ [0, 1] rfl (J24 )
    · exact z_sub (pc := 12) hZ [0, 1] rfl (J12 )
set_option maxHeartbeats 4000000 in
set_option maxRecDepth 100000 in
theorem cN_operate (l : Launch) (D : va_G) (cR c1 c2 c3 : ClassId) (h0 ra v1 v2 v3 : Nat) (Y : va_W) (LP : List Nat) (f : Nat → V3) (g : Nat → Option Nat) (hH : zH LP v1 v2 v3 g) (p1 : Int32) (p2 : Int32) (p3 : Int32) (p4 : Int32) : zM l D vwCl zNF zNM yN_operate wsN_operate { frames := 7, cells := 0, slots := 0, locals := 182 } [.ref h0, .int p1, .int p2, .int p3, .int p4] (CX h0 ra v1 v2 v3 cR g Y ++ PL LP f) (TY cR c1 c2 c3) (qI (fun r w' tys' => ∃ f' : Nat → V3, CX h0 ra v1 v2 v3 cR g Y ++ PL LP f' = w' ∧ (TY cR c1 c2 c3) = tys' ∧ (True))) := by
  refine z_met (cc := bN_operate) (maxL := 6) (ret := (some .int)) (isI := false) (own := RN) (by decide +kernel) rfl rfl (fun h => by cases h) (Nat.le_of_ble_eq_true rfl) (fun Z hZ => ?_)
  show Z 0 0 (TY cR c1 c2 c3) 0 [(0, .ref h0), (1, .int p1), (2, .int p2), (3, .int p3), (4, .int p4)] [] (CX h0 ra v1 v2 v3 cR g Y ++ PL LP f)
  refine z_iload_n (pc := 0) hZ 2 dN_operate_0 rfl rfl ?_
  refine z_callS (pc := 1) (As := [.int p2]) (rest := []) hZ (cN_isRegister l D (TY cR c1 c2 c3) (CX h0 ra v1 v2 v3 cR g Y ++ PL LP f) p2) zyN_isRegister (z_goodS ml_N_26 st_N_isRegister in_N co_N_isRegister) rfl rfl (by decide) rfl rfl (Nat.le_of_ble_eq_true rfl) ⟨Nat.zero_le _, Nat.zero_le _⟩ dN_operate_1 (z_ki (fun r1_1 w1 tys1 hp => ?_))
  obtain ⟨rfl, rfl, p1_1⟩ := hp
  refine z_if_eq (pc := 4) hZ 32 dN_operate_4 (by decide) (fun c4_2 => ?_) (fun c4_2 => ?_)
  · refine z_iconst (pc := 32) hZ (-1) dN_operate_32 (by decide) ?_
    exact z_reti (pc := 33) hZ dN_operate_33 .int rfl rfl ⟨_, rfl, _, rfl, rfl, (by trivial)⟩
  · refine z_iload_n (pc := 7) hZ 3 dN_operate_7 rfl rfl ?_
    refine z_callS (pc := 8) (As := [.int p3]) (rest := []) hZ (cN_isRegister l D (TY cR c1 c2 c3) (CX h0 ra v1 v2 v3 cR g Y ++ PL LP f) p3) zyN_isRegister (z_goodS ml_N_26 st_N_isRegister in_N co_N_isRegister) rfl rfl (by decide) rfl rfl (Nat.le_of_ble_eq_true rfl) ⟨Nat.zero_le _, Nat.zero_le _⟩ dN_operate_8 (z_ki (fun r8_3 w1 tys1 hp => ?_))
    obtain ⟨rfl, rfl, p8_3⟩ := hp
    refine z_if_eq (pc := 11) hZ 32 dN_operate_11 (by decide) (fun c11_4 => ?_) (fun c11_4 => ?_)
    · refine z_iconst (pc := 32) hZ (-1) dN_operate_32 (by decide) ?_
      exact z_reti (pc := 33) hZ dN_operate_33 .int rfl rfl ⟨_, rfl, _, rfl, rfl, (by trivial)⟩
    · refine z_iload (pc := 14) hZ 4 dN_operate_14 rfl ?_
      refine z_callS (pc := 16) (As := [.int p4]) (rest := []) hZ (cN_isRegister l D (TY cR c1 c2 c3) (CX h0 ra v1 v2 v3 cR g Y ++ PL LP f) p4) zyN_isRegister (z_goodS ml_N_26 st_N_isRegister in_N co_N_isRegister) rfl rfl (by decide) rfl rfl (Nat.le_of_ble_eq_true rfl) ⟨Nat.zero_le _, Nat.zero_le _⟩ dN_operate_16 (z_ki (fun r16_5 w1 tys1 hp => ?_))
      obtain ⟨rfl, rfl, p16_5⟩ := hp
      refine z_if_eq (pc := 19) hZ 32 dN_operate_19 (by decide) (fun c19_6 => ?_) (fun c19_6 => ?_)
      · refine z_iconst (pc := 32) hZ (-1) dN_operate_32 (by decide) ?_
        exact z_reti (pc := 33) hZ dN_operate_33 .int rfl rfl ⟨_, rfl, _, rfl, rfl, (by trivial)⟩
      · refine z_iload_n (pc := 22) hZ 1 dN_operate_22 rfl rfl ?_
        refine z_if_lt (pc := 23) hZ 32 dN_operate_23 (by decide) (fun c23_7 => ?_) (fun c23_7 => ?_)
        · refine z_iconst (pc := 32) hZ (-1) dN_operate_32 (by decide) ?_
          exact z_reti (pc := 33) hZ dN_operate_33 .int rfl rfl ⟨_, rfl, _, rfl, rfl, (by trivial)⟩
        · refine z_iload_n (pc := 26) hZ 1 dN_operate_26 rfl rfl ?_
          refine z_bipush (pc := 27) hZ 17 dN_operate_27 (by decide) ?_
          refine z_icmp_le (pc := 29) hZ 34 dN_operate_29 (by decide) (fun c29_8 => ?_) (fun c29_8 => ?_)
          · refine z_aload_n (pc := 34) hZ 0 dN_operate_34 rfl rfl ?_
            refine z_get (pc := 35) (ci := 1) hZ 0 rfl rfl uc_N 1 (by decide) (zb fl_N_16) rfl dN_operate_35 ?_
            refine z_aload_n (pc := 38) hZ 0 dN_operate_38 rfl rfl ?_
            refine z_get (pc := 39) (ci := 1) hZ 0 rfl rfl uc_N 0 (by decide) (zb fl_N_11) rfl dN_operate_39 ?_
            refine z_iload_n (pc := 42) hZ 3 dN_operate_42 rfl rfl ?_
            obtain ⟨y43_8, hy43_8, gy43_8⟩ := zH_at hH (i := p3) (by first | assumption | exact reg_of (by assumption) (by assumption))
            refine z_aald (pc := 43) hZ 1 0 rfl rfl (by first | assumption | exact reg_of (by assumption) (by assumption)) gy43_8 dN_operate_43 ?_
            obtain ⟨q44_10, hq44_10⟩ := zp_at (X := CX h0 ra v1 v2 v3 cR g Y) (f := f) hH.1
            refine z_callVN (pc := 44) (As := [.ref y43_8]) (rest := []) hZ (cV_become l D (TY cR c1 c2 c3) (CX h0 ra v1 v2 v3 cR g Y) LP f v1 hH.1 y43_8 hy43_8) zyV_become (z_good co_V_become) nl_N_46 (zb in_V) (zb im_V_become) (zb se_V_become) q44_10 hq44_10 rfl rfl rfl (by decide) rfl rfl (Nat.le_of_ble_eq_true rfl) ⟨Nat.zero_le _, Nat.zero_le _⟩ dN_operate_44 (z_kv (fun w1 tys1 hp => ?_))
            obtain ⟨f44_10, rfl, rfl, p44_10⟩ := hp
            refine z_aload_n (pc := 47) hZ 0 dN_operate_47 rfl rfl ?_
            refine z_get (pc := 48) (ci := 1) hZ 0 rfl rfl uc_N 2 (by decide) (zb fl_N_20) rfl dN_operate_48 ?_
            refine z_aload_n (pc := 51) hZ 0 dN_operate_51 rfl rfl ?_
            refine z_get (pc := 52) (ci := 1) hZ 0 rfl rfl uc_N 0 (by decide) (zb fl_N_11) rfl dN_operate_52 ?_
            refine z_iload (pc := 55) hZ 4 dN_operate_55 rfl ?_
            obtain ⟨y57_10, hy57_10, gy57_10⟩ := zH_at hH (i := p4) (by first | assumption | exact reg_of (by assumption) (by assumption))
            refine z_aald (pc := 57) hZ 1 0 rfl rfl (by first | assumption | exact reg_of (by assumption) (by assumption)) gy57_10 dN_operate_57 ?_
            obtain ⟨q58_12, hq58_12⟩ := zp_at (X := CX h0 ra v1 v2 v3 cR g Y) (f := f44_10) hH.2.1
            refine z_callVN (pc := 58) (As := [.ref y57_10]) (rest := []) hZ (cV_become l D (TY cR c1 c2 c3) (CX h0 ra v1 v2 v3 cR g Y) LP f44_10 v2 hH.2.1 y57_10 hy57_10) zyV_become (z_good co_V_become) nl_N_46 (zb in_V) (zb im_V_become) (zb se_V_become) q58_12 hq58_12 rfl rfl rfl (by decide) rfl rfl (Nat.le_of_ble_eq_true rfl) ⟨Nat.zero_le _, Nat.zero_le _⟩ dN_operate_58 (z_kv (fun w1 tys1 hp => ?_))
            obtain ⟨f58_12, rfl, rfl, p58_12⟩ := hp
            refine z_iload_n (pc := 61) hZ 1 dN_operate_61 rfl rfl ?_
            refine z_iconst (pc := 62) hZ 2 dN_operate_62 (by decide) ?_
            have J129 : ∀ (x5_129 : Int32) (f_129 : Nat → V3), Z 0 0 (TY cR c1 c2 c3) 129 [(0, .ref h0), (2, .int p2), (5, .int x5_129)] [] (CX h0 ra v1 v2 v3 cR g Y ++ PL LP f_129) := by
              intro x5_129 f_129
              refine z_iload (pc := 129) hZ 2 dN_operate_129 rfl ?_
              refine z_if_ne (pc := 131) hZ 147 dN_operate_131 (by decide) (fun c131_13 => ?_) (fun c131_13 => ?_)
              · refine z_iload (pc := 147) hZ 2 dN_operate_147 rfl ?_
                exact z_reti (pc := 149) hZ dN_operate_149 .int rfl rfl ⟨_, rfl, _, rfl, rfl, (by trivial)⟩
              · refine z_aload_n (pc := 134) hZ 0 dN_operate_134 rfl rfl ?_
                refine z_get (pc := 135) (ci := 1) hZ 0 rfl rfl uc_N 0 (by decide) (zb fl_N_11) rfl dN_operate_135 ?_
                refine z_iload_n (pc := 138) hZ 1 dN_operate_138 rfl rfl ?_
                obtain ⟨y139_13, hy139_13, gy139_13⟩ := zH_at hH (i := p2) (by first | assumption | exact reg_of (by assumption) (by assumption))
                refine z_aald (pc := 139) hZ 1 0 rfl rfl (by first | assumption | exact reg_of (by assumption) (by assumption)) gy139_13 dN_operate_139 ?_
                refine z_aload_n (pc := 140) hZ 0 dN_operate_140 rfl rfl ?_
                refine z_get (pc := 141) (ci := 1) hZ 0 rfl rfl uc_N 1 (by decide) (zb fl_N_16) rfl dN_operate_141 ?_
                obtain ⟨q144_15, hq144_15⟩ := zp_at (X := CX h0 ra v1 v2 v3 cR g Y) (f := f_129) hy139_13
                refine z_callVN (pc := 144) (As := [.ref v1]) (rest := []) hZ (cV_become l D (TY cR c1 c2 c3) (CX h0 ra v1 v2 v3 cR g Y) LP f_129 y139_13 hy139_13 v1 hH.1) zyV_become (z_good co_V_become) nl_N_46 (zb in_V) (zb im_V_become) (zb se_V_become) q144_15 hq144_15 rfl rfl rfl (by decide) rfl rfl (Nat.le_of_ble_eq_true rfl) ⟨Nat.zero_le _, Nat.zero_le _⟩ dN_operate_144 (z_kv (fun w1 tys1 hp => ?_))
                obtain ⟨f144_15, rfl, rfl, p144_15⟩ := hp
                refine z_iload (pc := 147) hZ 2 dN_operate_147 rfl ?_
                exact z_reti (pc := 149) hZ dN_operate_149 .int rfl rfl ⟨_, rfl, _, rfl, rfl, (by trivial)⟩
            refine z_icmp_gt (pc := 63) hZ 76 dN_operate_63 (by decide) (fun c63_16 => ?_) (fun c63_16 => ?_)
            · refine z_iload_n (pc := 76) hZ 1 dN_operate_76 rfl rfl ?_
              refine z_iconst (pc := 77) hZ 5 dN_operate_77 (by decide) ?_
              refine z_icmp_gt (pc := 78) hZ 91 dN_operate_78 (by decide) (fun c78_17 => ?_) (fun c78_17 => ?_)
              · refine z_iload_n (pc := 91) hZ 1 dN_operate_91 rfl rfl ?_
                refine z_bipush (pc := 92) hZ 6 dN_operate_92 (by decide) ?_
                refine z_icmp_ne (pc := 94) hZ 106 dN_operate_94 (by decide) (fun c94_18 => ?_) (fun c94_18 => ?_)
                · refine z_iload_n (pc := 106) hZ 1 dN_operate_106 rfl rfl ?_
                  refine z_bipush (pc := 107) hZ 11 dN_operate_107 (by decide) ?_
                  refine z_icmp_gt (pc := 109) hZ 122 dN_operate_109 (by decide) (fun c109_19 => ?_) (fun c109_19 => ?_)
                  · refine z_aload_n (pc := 122) hZ 0 dN_operate_122 rfl rfl ?_
                    refine z_iload_n (pc := 123) hZ 1 dN_operate_123 rfl rfl ?_
                    refine z_callV (pc := 124) (As := [.int p1]) (rest := []) hZ (cN_applyToOne l D cR c1 c2 c3 h0 ra v1 v2 v3 Y LP f58_12 g hH p1) zyN_applyToOne (z_goodV ml_N_68 im_N_applyToOne se_N_applyToOne in_N co_N_applyToOne) 0 rfl rfl rfl rfl (by decide) rfl rfl (Nat.le_of_ble_eq_true rfl) ⟨Nat.zero_le _, Nat.zero_le _⟩ dN_operate_124 (z_ki (fun r124_20 w1 tys1 hp => ?_))
                    obtain ⟨f124_20, rfl, rfl, p124_20⟩ := hp
                    refine z_istore (pc := 127) hZ [(5, .int r124_20), (0, .ref h0), (1, .int p1), (2, .int p2), (3, .int p3), (4, .int p4)] dN_operate_127 (by decide) rfl ?_
                    exact z_sub (pc := 129) hZ [1, 3, 0] rfl (J129 r124_20 f124_20)
                  · refine z_aload_n (pc := 112) hZ 0 dN_operate_112 rfl rfl ?_
                    refine z_iload_n (pc := 113) hZ 1 dN_operate_113 rfl rfl ?_
                    refine z_callV (pc := 114) (As := [.int p1]) (rest := []) hZ (cN_combineBits l D cR c1 c2 c3 h0 ra v1 v2 v3 Y LP f58_12 g hH p1) zyN_combineBits (z_goodV ml_N_65 im_N_combineBits se_N_combineBits in_N co_N_combineBits) 0 rfl rfl rfl rfl (by decide) rfl rfl (Nat.le_of_ble_eq_true rfl) ⟨Nat.zero_le _, Nat.zero_le _⟩ dN_operate_114 (z_ki (fun r114_21 w1 tys1 hp => ?_))
                    obtain ⟨f114_21, rfl, rfl, p114_21⟩ := hp
                    refine z_istore (pc := 117) hZ [(5, .int r114_21), (0, .ref h0), (1, .int p1), (2, .int p2), (3, .int p3), (4, .int p4)] dN_operate_117 (by decide) rfl ?_
                    refine z_goto (pc := 119) hZ 129 dN_operate_119 (by decide) ?_
                    exact z_sub (pc := 129) hZ [1, 3, 0] rfl (J129 r114_21 f114_21)
                · refine z_aload_n (pc := 97) hZ 0 dN_operate_97 rfl rfl ?_
                  refine z_callV (pc := 98) (As := []) (rest := []) hZ (cN_power l D cR c1 c2 c3 h0 ra v1 v2 v3 Y LP f58_12 g hH ) zyN_power (z_goodV ml_N_61 im_N_power se_N_power in_N co_N_power) 0 rfl rfl rfl rfl (by decide) rfl rfl (Nat.le_of_ble_eq_true rfl) ⟨Nat.zero_le _, Nat.zero_le _⟩ dN_operate_98 (z_ki (fun r98_22 w1 tys1 hp => ?_))
                  obtain ⟨f98_22, rfl, rfl, p98_22⟩ := hp
                  refine z_istore (pc := 101) hZ [(5, .int r98_22), (0, .ref h0), (1, .int p1), (2, .int p2), (3, .int p3), (4, .int p4)] dN_operate_101 (by decide) rfl ?_
                  refine z_goto (pc := 103) hZ 129 dN_operate_103 (by decide) ?_
                  exact z_sub (pc := 129) hZ [1, 3, 0] rfl (J129 r98_22 f98_22)
              · refine z_aload_n (pc := 81) hZ 0 dN_operate_81 rfl rfl ?_
                refine z_iload_n (pc := 82) hZ 1 dN_operate_82 rfl rfl ?_
                refine z_callV (pc := 83) (As := [.int p1]) (rest := []) hZ (cN_divideOrRemain l D cR c1 c2 c3 h0 ra v1 v2 v3 Y LP f58_12 g hH p1) zyN_divideOrRemain (z_goodV ml_N_58 im_N_divideOrRemain se_N_divideOrRemain in_N co_N_divideOrRemain) 0 rfl rfl rfl rfl (by decide) rfl rfl (Nat.le_of_ble_eq_true rfl) ⟨Nat.zero_le _, Nat.zero_le _⟩ dN_operate_83 (z_ki (fun r83_23 w1 tys1 hp => ?_))
                obtain ⟨f83_23, rfl, rfl, p83_23⟩ := hp
                refine z_istore (pc := 86) hZ [(5, .int r83_23), (0, .ref h0), (1, .int p1), (2, .int p2), (3, .int p3), (4, .int p4)] dN_operate_86 (by decide) rfl ?_
                refine z_goto (pc := 88) hZ 129 dN_operate_88 (by decide) ?_
                exact z_sub (pc := 129) hZ [1, 3, 0] rfl (J129 r83_23 f83_23)
            · refine z_aload_n (pc := 66) hZ 0 dN_operate_66 rfl rfl ?_
              refine z_iload_n (pc := 67) hZ 1 dN_operate_67 rfl rfl ?_
              refine z_callV (pc := 68) (As := [.int p1]) (rest := []) hZ (cN_addOrMultiply l D cR c1 c2 c3 h0 ra v1 v2 v3 Y LP f58_12 g hH p1) zyN_addOrMultiply (z_goodV ml_N_54 im_N_addOrMultiply se_N_addOrMultiply in_N co_N_addOrMultiply) 0 rfl rfl rfl rfl (by decide) rfl rfl (Nat.le_of_ble_eq_true rfl) ⟨Nat.zero_le _, Nat.zero_le _⟩ dN_operate_68 (z_ki (fun r68_24 w1 tys1 hp => ?_))
              obtain ⟨f68_24, rfl, rfl, p68_24⟩ := hp
              refine z_istore (pc := 71) hZ [(5, .int r68_24), (0, .ref h0), (1, .int p1), (2, .int p2), (3, .int p3), (4, .int p4)] dN_operate_71 (by decide) rfl ?_
              refine z_goto (pc := 73) hZ 129 dN_operate_73 (by decide) ?_
              exact z_sub (pc := 129) hZ [1, 3, 0] rfl (J129 r68_24 f68_24)
          · refine z_iconst (pc := 32) hZ (-1) dN_operate_32 (by decide) ?_
            exact z_reti (pc := 33) hZ dN_operate_33 .int rfl rfl ⟨_, rfl, _, rfl, rfl, (by trivial)⟩
set_option maxHeartbeats 4000000 in
set_option maxRecDepth 100000 in
theorem cN_compare (l : Launch) (D : va_G) (cR c1 c2 c3 : ClassId) (h0 ra v1 v2 v3 : Nat) (Y : va_W) (LP : List Nat) (f : Nat → V3) (g : Nat → Option Nat) (hH : zH LP v1 v2 v3 g) (p1 : Int32) (p2 : Int32) (p3 : Int32) : zM l D vwCl zNF zNM yN_compare wsN_compare { frames := 5, cells := 0, slots := 0, locals := 110 } [.ref h0, .int p1, .int p2, .int p3] (CX h0 ra v1 v2 v3 cR g Y ++ PL LP f) (TY cR c1 c2 c3) (qI (fun r w' tys' => CX h0 ra v1 v2 v3 cR g Y ++ PL LP f = w' ∧ (TY cR c1 c2 c3) = tys' ∧ (True))) := by
  refine z_met (cc := bN_compare) (maxL := 8) (ret := (some .int)) (isI := false) (own := RN) (by decide +kernel) rfl rfl (fun h => by cases h) (Nat.le_of_ble_eq_true rfl) (fun Z hZ => ?_)
  show Z 0 0 (TY cR c1 c2 c3) 0 [(0, .ref h0), (1, .int p1), (2, .int p2), (3, .int p3)] [] (CX h0 ra v1 v2 v3 cR g Y ++ PL LP f)
  refine z_iload_n (pc := 0) hZ 2 dN_compare_0 rfl rfl ?_
  refine z_callS (pc := 1) (As := [.int p2]) (rest := []) hZ (cN_isRegister l D (TY cR c1 c2 c3) (CX h0 ra v1 v2 v3 cR g Y ++ PL LP f) p2) zyN_isRegister (z_goodS ml_N_26 st_N_isRegister in_N co_N_isRegister) rfl rfl (by decide) rfl rfl (Nat.le_of_ble_eq_true rfl) ⟨Nat.zero_le _, Nat.zero_le _⟩ dN_compare_1 (z_ki (fun r1_1 w1 tys1 hp => ?_))
  obtain ⟨rfl, rfl, p1_1⟩ := hp
  refine z_if_eq (pc := 4) hZ 23 dN_compare_4 (by decide) (fun c4_2 => ?_) (fun c4_2 => ?_)
  · refine z_iconst (pc := 23) hZ (-1) dN_compare_23 (by decide) ?_
    exact z_reti (pc := 24) hZ dN_compare_24 .int rfl rfl ⟨_, rfl, rfl, rfl, (by trivial)⟩
  · refine z_iload_n (pc := 7) hZ 3 dN_compare_7 rfl rfl ?_
    refine z_callS (pc := 8) (As := [.int p3]) (rest := []) hZ (cN_isRegister l D (TY cR c1 c2 c3) (CX h0 ra v1 v2 v3 cR g Y ++ PL LP f) p3) zyN_isRegister (z_goodS ml_N_26 st_N_isRegister in_N co_N_isRegister) rfl rfl (by decide) rfl rfl (Nat.le_of_ble_eq_true rfl) ⟨Nat.zero_le _, Nat.zero_le _⟩ dN_compare_8 (z_ki (fun r8_3 w1 tys1 hp => ?_))
    obtain ⟨rfl, rfl, p8_3⟩ := hp
    refine z_if_eq (pc := 11) hZ 23 dN_compare_11 (by decide) (fun c11_4 => ?_) (fun c11_4 => ?_)
    · refine z_iconst (pc := 23) hZ (-1) dN_compare_23 (by decide) ?_
      exact z_reti (pc := 24) hZ dN_compare_24 .int rfl rfl ⟨_, rfl, rfl, rfl, (by trivial)⟩
    · refine z_iload_n (pc := 14) hZ 1 dN_compare_14 rfl rfl ?_
      refine z_if_lt (pc := 15) hZ 23 dN_compare_15 (by decide) (fun c15_5 => ?_) (fun c15_5 => ?_)
      · refine z_iconst (pc := 23) hZ (-1) dN_compare_23 (by decide) ?_
        exact z_reti (pc := 24) hZ dN_compare_24 .int rfl rfl ⟨_, rfl, rfl, rfl, (by trivial)⟩
      · refine z_iload_n (pc := 18) hZ 1 dN_compare_18 rfl rfl ?_
        refine z_iconst (pc := 19) hZ 2 dN_compare_19 (by decide) ?_
        refine z_icmp_le (pc := 20) hZ 25 dN_compare_20 (by decide) (fun c20_6 => ?_) (fun c20_6 => ?_)
        · refine z_aload_n (pc := 25) hZ 0 dN_compare_25 rfl rfl ?_
          refine z_get (pc := 26) (ci := 1) hZ 0 rfl rfl uc_N 0 (by decide) (zb fl_N_11) rfl dN_compare_26 ?_
          refine z_iload_n (pc := 29) hZ 2 dN_compare_29 rfl rfl ?_
          obtain ⟨y30_6, hy30_6, gy30_6⟩ := zH_at hH (i := p2) (by first | assumption | exact reg_of (by assumption) (by assumption))
          refine z_aald (pc := 30) hZ 1 0 rfl rfl (by first | assumption | exact reg_of (by assumption) (by assumption)) gy30_6 dN_compare_30 ?_
          refine z_astore (pc := 31) hZ [(4, .ref y30_6), (0, .ref h0), (1, .int p1), (2, .int p2), (3, .int p3)] dN_compare_31 (by decide) rfl ?_
          refine z_aload_n (pc := 33) hZ 1 dN_compare_33 rfl rfl ?_
          refine z_get (pc := 34) (ci := 1) hZ 0 rfl rfl uc_N 0 (by decide) (zb fl_N_11) rfl dN_compare_34 ?_
          refine z_iload_n (pc := 37) hZ 4 dN_compare_37 rfl rfl ?_
          obtain ⟨y38_7, hy38_7, gy38_7⟩ := zH_at hH (i := p3) (by first | assumption | exact reg_of (by assumption) (by assumption))
          refine z_aald (pc := 38) hZ 1 0 rfl rfl (by first | assumption | exact reg_of (by assumption) (by assumption)) gy38_7 dN_compare_38 ?_
          refine z_astore (pc := 39) hZ [(5, .ref y38_7), (4, .ref y30_6), (0, .ref h0), (1, .int p1), (2, .int p2), (3, .int p3)] dN_compare_39 (by decide) rfl ?_
          refine z_aload (pc := 41) hZ 1 dN_compare_41 rfl ?_
          refine z_pg0N (pc := 43) hZ hy30_6 uc_V nf_N_71 dN_compare_43 (fun v43_9 ev43_9 => ?_)
          refine z_iconst (pc := 46) hZ 5 dN_compare_46 (by decide) ?_
          refine z_icmp_eq (pc := 47) hZ 59 dN_compare_47 (by decide) (fun c47_10 => ?_) (fun c47_10 => ?_)
          · refine z_iconst (pc := 59) hZ 0 dN_compare_59 (by decide) ?_
            exact z_reti (pc := 60) hZ dN_compare_60 .int rfl rfl ⟨_, rfl, rfl, rfl, (by trivial)⟩
          · refine z_aload (pc := 50) hZ 0 dN_compare_50 rfl ?_
            refine z_pg0N (pc := 52) hZ hy38_7 uc_V nf_N_71 dN_compare_52 (fun v52_11 ev52_11 => ?_)
            refine z_iconst (pc := 55) hZ 5 dN_compare_55 (by decide) ?_
            refine z_icmp_ne (pc := 56) hZ 61 dN_compare_56 (by decide) (fun c56_12 => ?_) (fun c56_12 => ?_)
            · refine z_aload (pc := 61) hZ 1 dN_compare_61 rfl ?_
              refine z_aload (pc := 63) hZ 0 dN_compare_63 rfl ?_
              refine z_callSN (pc := 65) (As := [.ref y30_6, .ref y38_7]) (rest := []) hZ (cO_of l D (TY cR c1 c2 c3) (CX h0 ra v1 v2 v3 cR g Y) LP f y30_6 hy30_6 y38_7 hy38_7) zyO_of (z_good co_O_of) nl_N_74 (zb in_O) (zb st_O_of) rfl rfl (by decide) rfl rfl (Nat.le_of_ble_eq_true rfl) ⟨Nat.zero_le _, Nat.zero_le _⟩ dN_compare_65 (z_ki (fun r65_13 w1 tys1 hp => ?_))
              obtain ⟨rfl, rfl, p65_13⟩ := hp
              refine z_istore (pc := 68) hZ [(6, .int r65_13), (5, .ref y38_7), (4, .ref y30_6), (0, .ref h0), (1, .int p1), (2, .int p2), (3, .int p3)] dN_compare_68 (by decide) rfl ?_
              refine z_iload (pc := 70) hZ 0 dN_compare_70 rfl ?_
              have J102 : ∀ (s0_102 : Int32), Z 0 0 (TY cR c1 c2 c3) 102 [] [.int s0_102] (CX h0 ra v1 v2 v3 cR g Y ++ PL LP f) := by
                intro s0_102
                refine z_istore (pc := 102) hZ [(7, .int s0_102)] dN_compare_102 (by decide) rfl ?_
                refine z_iload (pc := 104) hZ 0 dN_compare_104 rfl ?_
                refine z_if_eq (pc := 106) hZ 113 dN_compare_106 (by decide) (fun c106_14 => ?_) (fun c106_14 => ?_)
                · refine z_iconst (pc := 113) hZ 0 dN_compare_113 (by decide) ?_
                  exact z_reti (pc := 114) hZ dN_compare_114 .int rfl rfl ⟨_, rfl, rfl, rfl, (by trivial)⟩
                · refine z_iconst (pc := 109) hZ 1 dN_compare_109 (by decide) ?_
                  refine z_goto (pc := 110) hZ 114 dN_compare_110 (by decide) ?_
                  exact z_reti (pc := 114) hZ dN_compare_114 .int rfl rfl ⟨_, rfl, rfl, rfl, (by trivial)⟩
              refine z_if_ne (pc := 72) hZ 88 dN_compare_72 (by decide) (fun c72_15 => ?_) (fun c72_15 => ?_)
              · refine z_iload (pc := 88) hZ 0 dN_compare_88 rfl ?_
                have J101 : Z 0 0 (TY cR c1 c2 c3) 101 [] [] (CX h0 ra v1 v2 v3 cR g Y ++ PL LP f) := by
                  refine z_iconst (pc := 101) hZ 0 dN_compare_101 (by decide) ?_
                  exact z_sub (pc := 102) hZ [] rfl (J102 0)
                refine z_if_ge (pc := 90) hZ 101 dN_compare_90 (by decide) (fun c90_16 => ?_) (fun c90_16 => ?_)
                · exact z_sub (pc := 101) hZ [] rfl (J101 )
                · refine z_iload_n (pc := 93) hZ 4 dN_compare_93 rfl rfl ?_
                  refine z_if_eq (pc := 94) hZ 101 dN_compare_94 (by decide) (fun c94_17 => ?_) (fun c94_17 => ?_)
                  · exact z_sub (pc := 101) hZ [] rfl (J101 )
                  · refine z_iconst (pc := 97) hZ 1 dN_compare_97 (by decide) ?_
                    refine z_goto (pc := 98) hZ 102 dN_compare_98 (by decide) ?_
                    exact z_sub (pc := 102) hZ [] rfl (J102 1)
              · refine z_iload_n (pc := 75) hZ 4 dN_compare_75 rfl rfl ?_
                refine z_iconst (pc := 76) hZ 1 dN_compare_76 (by decide) ?_
                refine z_icmp_eq (pc := 77) hZ 84 dN_compare_77 (by decide) (fun c77_18 => ?_) (fun c77_18 => ?_)
                · refine z_iconst (pc := 84) hZ 0 dN_compare_84 (by decide) ?_
                  refine z_goto (pc := 85) hZ 102 dN_compare_85 (by decide) ?_
                  exact z_sub (pc := 102) hZ [] rfl (J102 0)
                · refine z_iconst (pc := 80) hZ 1 dN_compare_80 (by decide) ?_
                  refine z_goto (pc := 81) hZ 102 dN_compare_81 (by decide) ?_
                  exact z_sub (pc := 102) hZ [] rfl (J102 1)
            · refine z_iconst (pc := 59) hZ 0 dN_compare_59 (by decide) ?_
              exact z_reti (pc := 60) hZ dN_compare_60 .int rfl rfl ⟨_, rfl, rfl, rfl, (by trivial)⟩
        · refine z_iconst (pc := 23) hZ (-1) dN_compare_23 (by decide) ?_
          exact z_reti (pc := 24) hZ dN_compare_24 .int rfl rfl ⟨_, rfl, rfl, rfl, (by trivial)⟩
set_option maxHeartbeats 4000000 in
set_option maxRecDepth 100000 in
theorem cN_kind (l : Launch) (D : va_G) (cR c1 c2 c3 : ClassId) (h0 ra v1 v2 v3 : Nat) (Y : va_W) (LP : List Nat) (f : Nat → V3) (g : Nat → Option Nat) (hH : zH LP v1 v2 v3 g) (p1 : Int32) : zM l D vwCl zNF zNM yN_kind wsN_kind { frames := 1, cells := 0, slots := 0, locals := 20 } [.ref h0, .int p1] (CX h0 ra v1 v2 v3 cR g Y ++ PL LP f) (TY cR c1 c2 c3) (qI (fun r w' tys' => CX h0 ra v1 v2 v3 cR g Y ++ PL LP f = w' ∧ (TY cR c1 c2 c3) = tys' ∧ (True))) := by
  refine z_met (cc := bN_kind) (maxL := 2) (ret := (some .int)) (isI := false) (own := RN) (by decide +kernel) rfl rfl (fun h => by cases h) (Nat.le_of_ble_eq_true rfl) (fun Z hZ => ?_)
  show Z 0 0 (TY cR c1 c2 c3) 0 [(0, .ref h0), (1, .int p1)] [] (CX h0 ra v1 v2 v3 cR g Y ++ PL LP f)
  refine z_iload_n (pc := 0) hZ 1 dN_kind_0 rfl rfl ?_
  refine z_callS (pc := 1) (As := [.int p1]) (rest := []) hZ (cN_isRegister l D (TY cR c1 c2 c3) (CX h0 ra v1 v2 v3 cR g Y ++ PL LP f) p1) zyN_isRegister (z_goodS ml_N_26 st_N_isRegister in_N co_N_isRegister) rfl rfl (by decide) rfl rfl (Nat.le_of_ble_eq_true rfl) ⟨Nat.zero_le _, Nat.zero_le _⟩ dN_kind_1 (z_ki (fun r1_1 w1 tys1 hp => ?_))
  obtain ⟨rfl, rfl, p1_1⟩ := hp
  refine z_if_eq (pc := 4) hZ 19 dN_kind_4 (by decide) (fun c4_2 => ?_) (fun c4_2 => ?_)
  · refine z_iconst (pc := 19) hZ (-1) dN_kind_19 (by decide) ?_
    exact z_reti (pc := 20) hZ dN_kind_20 .int rfl rfl ⟨_, rfl, rfl, rfl, (by trivial)⟩
  · refine z_aload_n (pc := 7) hZ 0 dN_kind_7 rfl rfl ?_
    refine z_get (pc := 8) (ci := 1) hZ 0 rfl rfl uc_N 0 (by decide) (zb fl_N_11) rfl dN_kind_8 ?_
    refine z_iload_n (pc := 11) hZ 1 dN_kind_11 rfl rfl ?_
    obtain ⟨y12_2, hy12_2, gy12_2⟩ := zH_at hH (i := p1) (by first | assumption | exact reg_of (by assumption) (by assumption))
    refine z_aald (pc := 12) hZ 1 0 rfl rfl (by first | assumption | exact reg_of (by assumption) (by assumption)) gy12_2 dN_kind_12 ?_
    refine z_pg0N (pc := 13) hZ hy12_2 uc_V nf_N_71 dN_kind_13 (fun v13_4 ev13_4 => ?_)
    refine z_goto (pc := 16) hZ 20 dN_kind_16 (by decide) ?_
    exact z_reti (pc := 20) hZ dN_kind_20 .int rfl rfl ⟨_, rfl, rfl, rfl, (by trivial)⟩
set_option maxHeartbeats 4000000 in
set_option maxRecDepth 100000 in
theorem cN_number (l : Launch) (D : va_G) (cR c1 c2 c3 : ClassId) (h0 ra v1 v2 v3 : Nat) (Y : va_W) (LP : List Nat) (f : Nat → V3) (g : Nat → Option Nat) (hH : zH LP v1 v2 v3 g) (p1 : Int32) : zM l D vwCl zNF zNM yN_number wsN_number { frames := 1, cells := 0, slots := 0, locals := 20 } [.ref h0, .int p1] (CX h0 ra v1 v2 v3 cR g Y ++ PL LP f) (TY cR c1 c2 c3) (qL (fun r w' tys' => CX h0 ra v1 v2 v3 cR g Y ++ PL LP f = w' ∧ (TY cR c1 c2 c3) = tys' ∧ (True))) := by
  refine z_met (cc := bN_number) (maxL := 2) (ret := (some .long)) (isI := false) (own := RN) (by decide +kernel) rfl rfl (fun h => by cases h) (Nat.le_of_ble_eq_true rfl) (fun Z hZ => ?_)
  show Z 0 0 (TY cR c1 c2 c3) 0 [(0, .ref h0), (1, .int p1)] [] (CX h0 ra v1 v2 v3 cR g Y ++ PL LP f)
  refine z_iload_n (pc := 0) hZ 1 dN_number_0 rfl rfl ?_
  refine z_callS (pc := 1) (As := [.int p1]) (rest := []) hZ (cN_isRegister l D (TY cR c1 c2 c3) (CX h0 ra v1 v2 v3 cR g Y ++ PL LP f) p1) zyN_isRegister (z_goodS ml_N_26 st_N_isRegister in_N co_N_isRegister) rfl rfl (by decide) rfl rfl (Nat.le_of_ble_eq_true rfl) ⟨Nat.zero_le _, Nat.zero_le _⟩ dN_number_1 (z_ki (fun r1_1 w1 tys1 hp => ?_))
  obtain ⟨rfl, rfl, p1_1⟩ := hp
  refine z_if_eq (pc := 4) hZ 19 dN_number_4 (by decide) (fun c4_2 => ?_) (fun c4_2 => ?_)
  · refine z_lconst (pc := 19) hZ 0 dN_number_19 (by decide) ?_
    exact z_retl (pc := 20) hZ dN_number_20 rfl ⟨_, rfl, rfl, rfl, (by trivial)⟩
  · refine z_aload_n (pc := 7) hZ 0 dN_number_7 rfl rfl ?_
    refine z_get (pc := 8) (ci := 1) hZ 0 rfl rfl uc_N 0 (by decide) (zb fl_N_11) rfl dN_number_8 ?_
    refine z_iload_n (pc := 11) hZ 1 dN_number_11 rfl rfl ?_
    obtain ⟨y12_2, hy12_2, gy12_2⟩ := zH_at hH (i := p1) (by first | assumption | exact reg_of (by assumption) (by assumption))
    refine z_aald (pc := 12) hZ 1 0 rfl rfl (by first | assumption | exact reg_of (by assumption) (by assumption)) gy12_2 dN_number_12 ?_
    refine z_pg1N (pc := 13) hZ hy12_2 uc_V nf_N_38 dN_number_13 (fun v13_4 ev13_4 => ?_)
    refine z_goto (pc := 16) hZ 20 dN_number_16 (by decide) ?_
    exact z_retl (pc := 20) hZ dN_number_20 rfl ⟨_, rfl, rfl, rfl, (by trivial)⟩
set_option maxHeartbeats 4000000 in
set_option maxRecDepth 100000 in
theorem cN_exponent (l : Launch) (D : va_G) (cR c1 c2 c3 : ClassId) (h0 ra v1 v2 v3 : Nat) (Y : va_W) (LP : List Nat) (f : Nat → V3) (g : Nat → Option Nat) (hH : zH LP v1 v2 v3 g) (p1 : Int32) : zM l D vwCl zNF zNM yN_exponent wsN_exponent { frames := 1, cells := 0, slots := 0, locals := 20 } [.ref h0, .int p1] (CX h0 ra v1 v2 v3 cR g Y ++ PL LP f) (TY cR c1 c2 c3) (qI (fun r w' tys' => CX h0 ra v1 v2 v3 cR g Y ++ PL LP f = w' ∧ (TY cR c1 c2 c3) = tys' ∧ (True))) := by
  refine z_met (cc := bN_exponent) (maxL := 2) (ret := (some .int)) (isI := false) (own := RN) (by decide +kernel) rfl rfl (fun h => by cases h) (Nat.le_of_ble_eq_true rfl) (fun Z hZ => ?_)
  show Z 0 0 (TY cR c1 c2 c3) 0 [(0, .ref h0), (1, .int p1)] [] (CX h0 ra v1 v2 v3 cR g Y ++ PL LP f)
  refine z_iload_n (pc := 0) hZ 1 dN_exponent_0 rfl rfl ?_
  refine z_callS (pc := 1) (As := [.int p1]) (rest := []) hZ (cN_isRegister l D (TY cR c1 c2 c3) (CX h0 ra v1 v2 v3 cR g Y ++ PL LP f) p1) zyN_isRegister (z_goodS ml_N_26 st_N_isRegister in_N co_N_isRegister) rfl rfl (by decide) rfl rfl (Nat.le_of_ble_eq_true rfl) ⟨Nat.zero_le _, Nat.zero_le _⟩ dN_exponent_1 (z_ki (fun r1_1 w1 tys1 hp => ?_))
  obtain ⟨rfl, rfl, p1_1⟩ := hp
  refine z_if_eq (pc := 4) hZ 19 dN_exponent_4 (by decide) (fun c4_2 => ?_) (fun c4_2 => ?_)
  · refine z_iconst (pc := 19) hZ 0 dN_exponent_19 (by decide) ?_
    exact z_reti (pc := 20) hZ dN_exponent_20 .int rfl rfl ⟨_, rfl, rfl, rfl, (by trivial)⟩
  · refine z_aload_n (pc := 7) hZ 0 dN_exponent_7 rfl rfl ?_
    refine z_get (pc := 8) (ci := 1) hZ 0 rfl rfl uc_N 0 (by decide) (zb fl_N_11) rfl dN_exponent_8 ?_
    refine z_iload_n (pc := 11) hZ 1 dN_exponent_11 rfl rfl ?_
    obtain ⟨y12_2, hy12_2, gy12_2⟩ := zH_at hH (i := p1) (by first | assumption | exact reg_of (by assumption) (by assumption))
    refine z_aald (pc := 12) hZ 1 0 rfl rfl (by first | assumption | exact reg_of (by assumption) (by assumption)) gy12_2 dN_exponent_12 ?_
    refine z_pg2N (pc := 13) hZ hy12_2 uc_V nf_N_42 dN_exponent_13 (fun v13_4 ev13_4 => ?_)
    refine z_goto (pc := 16) hZ 20 dN_exponent_16 (by decide) ?_
    exact z_reti (pc := 20) hZ dN_exponent_20 .int rfl rfl ⟨_, rfl, rfl, rfl, (by trivial)⟩
set_option maxHeartbeats 4000000 in
set_option maxRecDepth 100000 in
theorem cN_sum (l : Launch) (D : va_G) (cR c1 c2 c3 : ClassId) (h0 ra v1 v2 v3 : Nat) (Y : va_W) (LP : List Nat) (f : Nat → V3) (g : Nat → Option Nat) (hH : zH LP v1 v2 v3 g) (p1 : Int32) (p2 : Int32) (p3 : Int32) : zM l D vwCl zNF zNM yN_sum wsN_sum { frames := 6, cells := 0, slots := 0, locals := 162 } [.ref h0, .int p1, .int p2, .int p3] (CX h0 ra v1 v2 v3 cR g Y ++ PL LP f) (TY cR c1 c2 c3) (qI (fun r w' tys' => ∃ f' : Nat → V3, CX h0 ra v1 v2 v3 cR g Y ++ PL LP f' = w' ∧ (TY cR c1 c2 c3) = tys' ∧ (((vp_in p1 32 ∧ rowOK p2 p3) → r = 1) ∧ (¬ (vp_in p1 32 ∧ rowOK p2 p3) → r = 0)))) := by
  refine z_met (cc := bN_sum) (maxL := 5) (ret := (some .boolean)) (isI := false) (own := RN) (by decide +kernel) rfl rfl (fun h => by cases h) (Nat.le_of_ble_eq_true rfl) (fun Z hZ => ?_)
  show Z 0 0 (TY cR c1 c2 c3) 0 [(0, .ref h0), (1, .int p1), (2, .int p2), (3, .int p3)] [] (CX h0 ra v1 v2 v3 cR g Y ++ PL LP f)
  refine z_iload_n (pc := 0) hZ 1 dN_sum_0 rfl rfl ?_
  refine z_callS (pc := 1) (As := [.int p1]) (rest := []) hZ (cN_isRegister l D (TY cR c1 c2 c3) (CX h0 ra v1 v2 v3 cR g Y ++ PL LP f) p1) zyN_isRegister (z_goodS ml_N_26 st_N_isRegister in_N co_N_isRegister) rfl rfl (by decide) rfl rfl (Nat.le_of_ble_eq_true rfl) ⟨Nat.zero_le _, Nat.zero_le _⟩ dN_sum_1 (z_ki (fun r1_1 w1 tys1 hp => ?_))
  obtain ⟨rfl, rfl, p1_1⟩ := hp
  refine z_if_eq (pc := 4) hZ 15 dN_sum_4 (by decide) (fun c4_2 => ?_) (fun c4_2 => ?_)
  · refine z_iconst (pc := 15) hZ 0 dN_sum_15 (by decide) ?_
    exact z_reti (pc := 16) hZ dN_sum_16 .boolean rfl rfl ⟨_, rfl, _, rfl, rfl, (by first | exact ⟨fun _ => rfl, fun q => absurd (⟨reg_of (by assumption) (by assumption), row_of (by assumption) (by assumption)⟩) q⟩ | exact ⟨fun q => absurd q.1 (reg_no (by assumption) (by assumption)), fun _ => rfl⟩ | exact ⟨fun q => absurd q.2 (row_no (by assumption) (by assumption)), fun _ => rfl⟩)⟩
  · refine z_iload_n (pc := 7) hZ 2 dN_sum_7 rfl rfl ?_
    refine z_iload_n (pc := 8) hZ 3 dN_sum_8 rfl rfl ?_
    refine z_callS (pc := 9) (As := [.int p2, .int p3]) (rest := []) hZ (cN_isRow l D (TY cR c1 c2 c3) (CX h0 ra v1 v2 v3 cR g Y ++ PL LP f) p2 p3) zyN_isRow (z_goodS ml_N_80 st_N_isRow in_N co_N_isRow) rfl rfl (by decide) rfl rfl (Nat.le_of_ble_eq_true rfl) ⟨Nat.zero_le _, Nat.zero_le _⟩ dN_sum_9 (z_ki (fun r9_3 w1 tys1 hp => ?_))
    obtain ⟨rfl, rfl, p9_3⟩ := hp
    refine z_if_ne (pc := 12) hZ 17 dN_sum_12 (by decide) (fun c12_4 => ?_) (fun c12_4 => ?_)
    · refine z_aload_n (pc := 17) hZ 0 dN_sum_17 rfl rfl ?_
      refine z_get (pc := 18) (ci := 1) hZ 0 rfl rfl uc_N 1 (by decide) (zb fl_N_16) rfl dN_sum_18 ?_
      refine z_lconst (pc := 21) hZ 0 dN_sum_21 (by decide) ?_
      obtain ⟨q22_5, hq22_5⟩ := zp_at (X := CX h0 ra v1 v2 v3 cR g Y) (f := f) hH.1
      refine z_callVN (pc := 22) (As := [.long 0]) (rest := []) hZ (cV_setWhole l D (TY cR c1 c2 c3) (CX h0 ra v1 v2 v3 cR g Y) LP f v1 hH.1 0) zyV_setWhole (z_good co_V_setWhole) nl_N_30 (zb in_V) (zb im_V_setWhole) (zb se_V_setWhole) q22_5 hq22_5 rfl rfl rfl (by decide) rfl rfl (Nat.le_of_ble_eq_true rfl) ⟨Nat.zero_le _, Nat.zero_le _⟩ dN_sum_22 (z_kv (fun w1 tys1 hp => ?_))
      obtain ⟨f22_5, rfl, rfl, p22_5⟩ := hp
      refine z_iconst (pc := 25) hZ 0 dN_sum_25 (by decide) ?_
      refine z_istore (pc := 26) hZ [(4, .int 0), (0, .ref h0), (1, .int p1), (2, .int p2), (3, .int p3)] dN_sum_26 (by decide) rfl ?_
      have L28 : ∀ (N28 : Nat) (x4_28 : Int32) (f_28 : Nat → V3), ((p3).toInt - x4_28.toInt).toNat < N28 → 0 ≤ x4_28.toInt → Z 0 0 (TY cR c1 c2 c3) 28 [(4, .int x4_28), (0, .ref h0), (1, .int p1), (2, .int p2), (3, .int p3)] [] (CX h0 ra v1 v2 v3 cR g Y ++ PL LP f_28) := by
        intro N28
        induction N28 with
        | zero => intro x4_28 f_28 m28; exact absurd m28 (Nat.not_lt_zero _)
        | succ N28 ih28 =>
          intro x4_28 f_28 m28 i28
          refine z_iload (pc := 28) hZ 0 dN_sum_28 rfl ?_
          refine z_iload_n (pc := 30) hZ 4 dN_sum_30 rfl rfl ?_
          refine z_icmp_ge (pc := 31) hZ 62 dN_sum_31 (by decide) (fun c31_6 => ?_) (fun c31_6 => ?_)
          · refine z_aload_n (pc := 62) hZ 1 dN_sum_62 rfl rfl ?_
            refine z_get (pc := 63) (ci := 1) hZ 0 rfl rfl uc_N 0 (by decide) (zb fl_N_11) rfl dN_sum_63 ?_
            refine z_iload_n (pc := 66) hZ 2 dN_sum_66 rfl rfl ?_
            obtain ⟨y67_6, hy67_6, gy67_6⟩ := zH_at hH (i := p1) (by first | assumption | exact reg_of (by assumption) (by assumption))
            refine z_aald (pc := 67) hZ 1 0 rfl rfl (by first | assumption | exact reg_of (by assumption) (by assumption)) gy67_6 dN_sum_67 ?_
            refine z_aload_n (pc := 68) hZ 1 dN_sum_68 rfl rfl ?_
            refine z_get (pc := 69) (ci := 1) hZ 0 rfl rfl uc_N 1 (by decide) (zb fl_N_16) rfl dN_sum_69 ?_
            obtain ⟨q72_8, hq72_8⟩ := zp_at (X := CX h0 ra v1 v2 v3 cR g Y) (f := f_28) hy67_6
            refine z_callVN (pc := 72) (As := [.ref v1]) (rest := []) hZ (cV_become l D (TY cR c1 c2 c3) (CX h0 ra v1 v2 v3 cR g Y) LP f_28 y67_6 hy67_6 v1 hH.1) zyV_become (z_good co_V_become) nl_N_46 (zb in_V) (zb im_V_become) (zb se_V_become) q72_8 hq72_8 rfl rfl rfl (by decide) rfl rfl (Nat.le_of_ble_eq_true rfl) ⟨Nat.zero_le _, Nat.zero_le _⟩ dN_sum_72 (z_kv (fun w1 tys1 hp => ?_))
            obtain ⟨f72_8, rfl, rfl, p72_8⟩ := hp
            refine z_iconst (pc := 75) hZ 1 dN_sum_75 (by decide) ?_
            exact z_reti (pc := 76) hZ dN_sum_76 .boolean rfl rfl ⟨_, rfl, _, rfl, rfl, (by first | exact ⟨fun _ => rfl, fun q => absurd (⟨reg_of (by assumption) (by assumption), row_of (by assumption) (by assumption)⟩) q⟩ | exact ⟨fun q => absurd q.1 (reg_no (by assumption) (by assumption)), fun _ => rfl⟩ | exact ⟨fun q => absurd q.2 (row_no (by assumption) (by assumption)), fun _ => rfl⟩)⟩
          · refine z_aload_n (pc := 34) hZ 1 dN_sum_34 rfl rfl ?_
            refine z_get (pc := 35) (ci := 1) hZ 0 rfl rfl uc_N 2 (by decide) (zb fl_N_20) rfl dN_sum_35 ?_
            refine z_aload_n (pc := 38) hZ 1 dN_sum_38 rfl rfl ?_
            refine z_get (pc := 39) (ci := 1) hZ 0 rfl rfl uc_N 0 (by decide) (zb fl_N_11) rfl dN_sum_39 ?_
            refine z_iload_n (pc := 42) hZ 3 dN_sum_42 rfl rfl ?_
            refine z_iload (pc := 43) hZ 0 dN_sum_43 rfl ?_
            refine z_iadd (pc := 45) hZ dN_sum_45 (fun v45_9 ev45_9 => ?_)
            obtain ⟨y46_9, hy46_9, gy46_9⟩ := zH_at hH (i := v45_9) (by exact sum_idx (a := p2) (n := p3) (i := x4_28) (row_of (by assumption) (by assumption)) (by assumption) (by assumption) (by assumption))
            refine z_aald (pc := 46) hZ 1 0 rfl rfl (by exact sum_idx (a := p2) (n := p3) (i := x4_28) (row_of (by assumption) (by assumption)) (by assumption) (by assumption) (by assumption)) gy46_9 dN_sum_46 ?_
            obtain ⟨q47_11, hq47_11⟩ := zp_at (X := CX h0 ra v1 v2 v3 cR g Y) (f := f_28) hH.2.1
            refine z_callVN (pc := 47) (As := [.ref y46_9]) (rest := []) hZ (cV_become l D (TY cR c1 c2 c3) (CX h0 ra v1 v2 v3 cR g Y) LP f_28 v2 hH.2.1 y46_9 hy46_9) zyV_become (z_good co_V_become) nl_N_46 (zb in_V) (zb im_V_become) (zb se_V_become) q47_11 hq47_11 rfl rfl rfl (by decide) rfl rfl (Nat.le_of_ble_eq_true rfl) ⟨Nat.zero_le _, Nat.zero_le _⟩ dN_sum_47 (z_kv (fun w1 tys1 hp => ?_))
            obtain ⟨f47_11, rfl, rfl, p47_11⟩ := hp
            refine z_aload_n (pc := 50) hZ 1 dN_sum_50 rfl rfl ?_
            refine z_iconst (pc := 51) hZ 0 dN_sum_51 (by decide) ?_
            refine z_callV (pc := 52) (As := [.int 0]) (rest := []) hZ (cN_addOrMultiply l D cR c1 c2 c3 h0 ra v1 v2 v3 Y LP f47_11 g hH 0) zyN_addOrMultiply (z_goodV ml_N_54 im_N_addOrMultiply se_N_addOrMultiply in_N co_N_addOrMultiply) 0 rfl rfl rfl rfl (by decide) rfl rfl (Nat.le_of_ble_eq_true rfl) ⟨Nat.zero_le _, Nat.zero_le _⟩ dN_sum_52 (z_ki (fun r52_12 w1 tys1 hp => ?_))
            obtain ⟨f52_12, rfl, rfl, p52_12⟩ := hp
            refine z_pop (pc := 55) hZ dN_sum_55 rfl ?_
            refine z_iinc (pc := 56) hZ 0 (fun v9 => [(4, .int v9), (0, .ref h0), (1, .int p1), (2, .int p2), (3, .int p3)]) dN_sum_56 rfl (by decide) (fun _ => rfl) (fun v56_13 ev56_13 => ?_)
            refine z_goto (pc := 59) hZ 28 dN_sum_59 (by decide) ?_
            exact z_sub (pc := 28) hZ [0, 1, 2, 3, 4] rfl (ih28 v56_13 f52_12 (by exact Nat.lt_of_lt_of_le (dec_up (x := x4_28) (b := p3) (by assumption) (by assumption)) (Nat.le_of_lt_succ m28)) (by exact inc_nn (n := p3) (i := x4_28) (by assumption) (by assumption) (by assumption)))
      exact z_sub (pc := 28) hZ [0, 1, 2, 3, 4] rfl (L28 _ 0 f22_5 (Nat.lt_succ_self _) (by decide))
    · refine z_iconst (pc := 15) hZ 0 dN_sum_15 (by decide) ?_
      exact z_reti (pc := 16) hZ dN_sum_16 .boolean rfl rfl ⟨_, rfl, _, rfl, rfl, (by first | exact ⟨fun _ => rfl, fun q => absurd (⟨reg_of (by assumption) (by assumption), row_of (by assumption) (by assumption)⟩) q⟩ | exact ⟨fun q => absurd q.1 (reg_no (by assumption) (by assumption)), fun _ => rfl⟩ | exact ⟨fun q => absurd q.2 (row_no (by assumption) (by assumption)), fun _ => rfl⟩)⟩
set_option maxHeartbeats 4000000 in
set_option maxRecDepth 100000 in
theorem cN_polynomial (l : Launch) (D : va_G) (cR c1 c2 c3 : ClassId) (h0 ra v1 v2 v3 : Nat) (Y : va_W) (LP : List Nat) (f : Nat → V3) (g : Nat → Option Nat) (hH : zH LP v1 v2 v3 g) (p1 : Int32) (p2 : Int32) (p3 : Int32) (p4 : Int32) : zM l D vwCl zNF zNM yN_polynomial wsN_polynomial { frames := 6, cells := 0, slots := 0, locals := 162 } [.ref h0, .int p1, .int p2, .int p3, .int p4] (CX h0 ra v1 v2 v3 cR g Y ++ PL LP f) (TY cR c1 c2 c3) (qI (fun r w' tys' => ∃ f' : Nat → V3, CX h0 ra v1 v2 v3 cR g Y ++ PL LP f' = w' ∧ (TY cR c1 c2 c3) = tys' ∧ (((vp_in p1 32 ∧ vp_in p2 32 ∧ rowOK p3 p4) → r = 1) ∧ (¬ (vp_in p1 32 ∧ vp_in p2 32 ∧ rowOK p3 p4) → r = 0)))) := by
  refine z_met (cc := bN_polynomial) (maxL := 6) (ret := (some .boolean)) (isI := false) (own := RN) (by decide +kernel) rfl rfl (fun h => by cases h) (Nat.le_of_ble_eq_true rfl) (fun Z hZ => ?_)
  show Z 0 0 (TY cR c1 c2 c3) 0 [(0, .ref h0), (1, .int p1), (2, .int p2), (3, .int p3), (4, .int p4)] [] (CX h0 ra v1 v2 v3 cR g Y ++ PL LP f)
  refine z_iload_n (pc := 0) hZ 1 dN_polynomial_0 rfl rfl ?_
  refine z_callS (pc := 1) (As := [.int p1]) (rest := []) hZ (cN_isRegister l D (TY cR c1 c2 c3) (CX h0 ra v1 v2 v3 cR g Y ++ PL LP f) p1) zyN_isRegister (z_goodS ml_N_26 st_N_isRegister in_N co_N_isRegister) rfl rfl (by decide) rfl rfl (Nat.le_of_ble_eq_true rfl) ⟨Nat.zero_le _, Nat.zero_le _⟩ dN_polynomial_1 (z_ki (fun r1_1 w1 tys1 hp => ?_))
  obtain ⟨rfl, rfl, p1_1⟩ := hp
  refine z_if_eq (pc := 4) hZ 23 dN_polynomial_4 (by decide) (fun c4_2 => ?_) (fun c4_2 => ?_)
  · refine z_iconst (pc := 23) hZ 0 dN_polynomial_23 (by decide) ?_
    exact z_reti (pc := 24) hZ dN_polynomial_24 .boolean rfl rfl ⟨_, rfl, _, rfl, rfl, (by first | exact ⟨fun _ => rfl, fun q => absurd (⟨reg_of (by assumption) (by assumption), reg_of (by assumption) (by assumption), row_of (by assumption) (by assumption)⟩) q⟩ | exact ⟨fun q => absurd q.1 (reg_no (by assumption) (by assumption)), fun _ => rfl⟩ | exact ⟨fun q => absurd q.2.1 (reg_no (by assumption) (by assumption)), fun _ => rfl⟩ | exact ⟨fun q => absurd q.2.2 (row_no (by assumption) (by assumption)), fun _ => rfl⟩)⟩
  · refine z_iload_n (pc := 7) hZ 2 dN_polynomial_7 rfl rfl ?_
    refine z_callS (pc := 8) (As := [.int p2]) (rest := []) hZ (cN_isRegister l D (TY cR c1 c2 c3) (CX h0 ra v1 v2 v3 cR g Y ++ PL LP f) p2) zyN_isRegister (z_goodS ml_N_26 st_N_isRegister in_N co_N_isRegister) rfl rfl (by decide) rfl rfl (Nat.le_of_ble_eq_true rfl) ⟨Nat.zero_le _, Nat.zero_le _⟩ dN_polynomial_8 (z_ki (fun r8_3 w1 tys1 hp => ?_))
    obtain ⟨rfl, rfl, p8_3⟩ := hp
    refine z_if_eq (pc := 11) hZ 23 dN_polynomial_11 (by decide) (fun c11_4 => ?_) (fun c11_4 => ?_)
    · refine z_iconst (pc := 23) hZ 0 dN_polynomial_23 (by decide) ?_
      exact z_reti (pc := 24) hZ dN_polynomial_24 .boolean rfl rfl ⟨_, rfl, _, rfl, rfl, (by first | exact ⟨fun _ => rfl, fun q => absurd (⟨reg_of (by assumption) (by assumption), reg_of (by assumption) (by assumption), row_of (by assumption) (by assumption)⟩) q⟩ | exact ⟨fun q => absurd q.1 (reg_no (by assumption) (by assumption)), fun _ => rfl⟩ | exact ⟨fun q => absurd q.2.1 (reg_no (by assumption) (by assumption)), fun _ => rfl⟩ | exact ⟨fun q => absurd q.2.2 (row_no (by assumption) (by assumption)), fun _ => rfl⟩)⟩
    · refine z_iload_n (pc := 14) hZ 3 dN_polynomial_14 rfl rfl ?_
      refine z_iload (pc := 15) hZ 4 dN_polynomial_15 rfl ?_
      refine z_callS (pc := 17) (As := [.int p3, .int p4]) (rest := []) hZ (cN_isRow l D (TY cR c1 c2 c3) (CX h0 ra v1 v2 v3 cR g Y ++ PL LP f) p3 p4) zyN_isRow (z_goodS ml_N_80 st_N_isRow in_N co_N_isRow) rfl rfl (by decide) rfl rfl (Nat.le_of_ble_eq_true rfl) ⟨Nat.zero_le _, Nat.zero_le _⟩ dN_polynomial_17 (z_ki (fun r17_5 w1 tys1 hp => ?_))
      obtain ⟨rfl, rfl, p17_5⟩ := hp
      refine z_if_ne (pc := 20) hZ 25 dN_polynomial_20 (by decide) (fun c20_6 => ?_) (fun c20_6 => ?_)
      · refine z_aload_n (pc := 25) hZ 0 dN_polynomial_25 rfl rfl ?_
        refine z_get (pc := 26) (ci := 1) hZ 0 rfl rfl uc_N 1 (by decide) (zb fl_N_16) rfl dN_polynomial_26 ?_
        refine z_lconst (pc := 29) hZ 0 dN_polynomial_29 (by decide) ?_
        obtain ⟨q30_7, hq30_7⟩ := zp_at (X := CX h0 ra v1 v2 v3 cR g Y) (f := f) hH.1
        refine z_callVN (pc := 30) (As := [.long 0]) (rest := []) hZ (cV_setWhole l D (TY cR c1 c2 c3) (CX h0 ra v1 v2 v3 cR g Y) LP f v1 hH.1 0) zyV_setWhole (z_good co_V_setWhole) nl_N_30 (zb in_V) (zb im_V_setWhole) (zb se_V_setWhole) q30_7 hq30_7 rfl rfl rfl (by decide) rfl rfl (Nat.le_of_ble_eq_true rfl) ⟨Nat.zero_le _, Nat.zero_le _⟩ dN_polynomial_30 (z_kv (fun w1 tys1 hp => ?_))
        obtain ⟨f30_7, rfl, rfl, p30_7⟩ := hp
        refine z_iload (pc := 33) hZ 4 dN_polynomial_33 rfl ?_
        refine z_iconst (pc := 35) hZ 1 dN_polynomial_35 (by decide) ?_
        refine z_isub (pc := 36) hZ dN_polynomial_36 (fun v36_8 ev36_8 => ?_)
        refine z_istore (pc := 37) hZ [(5, .int v36_8), (0, .ref h0), (1, .int p1), (2, .int p2), (3, .int p3), (4, .int p4)] dN_polynomial_37 (by decide) rfl ?_
        have L39 : ∀ (N39 : Nat) (x5_39 : Int32) (f_39 : Nat → V3), (x5_39.toInt + 1).toNat < N39 → x5_39.toInt < p4.toInt → Z 0 0 (TY cR c1 c2 c3) 39 [(5, .int x5_39), (0, .ref h0), (1, .int p1), (2, .int p2), (3, .int p3)] [] (CX h0 ra v1 v2 v3 cR g Y ++ PL LP f_39) := by
          intro N39
          induction N39 with
          | zero => intro x5_39 f_39 m39; exact absurd m39 (Nat.not_lt_zero _)
          | succ N39 ih39 =>
            intro x5_39 f_39 m39 i39
            refine z_iload (pc := 39) hZ 0 dN_polynomial_39 rfl ?_
            refine z_if_lt (pc := 41) hZ 91 dN_polynomial_41 (by decide) (fun c41_9 => ?_) (fun c41_9 => ?_)
            · refine z_aload_n (pc := 91) hZ 1 dN_polynomial_91 rfl rfl ?_
              refine z_get (pc := 92) (ci := 1) hZ 0 rfl rfl uc_N 0 (by decide) (zb fl_N_11) rfl dN_polynomial_92 ?_
              refine z_iload_n (pc := 95) hZ 2 dN_polynomial_95 rfl rfl ?_
              obtain ⟨y96_9, hy96_9, gy96_9⟩ := zH_at hH (i := p1) (by first | assumption | exact reg_of (by assumption) (by assumption))
              refine z_aald (pc := 96) hZ 1 0 rfl rfl (by first | assumption | exact reg_of (by assumption) (by assumption)) gy96_9 dN_polynomial_96 ?_
              refine z_aload_n (pc := 97) hZ 1 dN_polynomial_97 rfl rfl ?_
              refine z_get (pc := 98) (ci := 1) hZ 0 rfl rfl uc_N 1 (by decide) (zb fl_N_16) rfl dN_polynomial_98 ?_
              obtain ⟨q101_11, hq101_11⟩ := zp_at (X := CX h0 ra v1 v2 v3 cR g Y) (f := f_39) hy96_9
              refine z_callVN (pc := 101) (As := [.ref v1]) (rest := []) hZ (cV_become l D (TY cR c1 c2 c3) (CX h0 ra v1 v2 v3 cR g Y) LP f_39 y96_9 hy96_9 v1 hH.1) zyV_become (z_good co_V_become) nl_N_46 (zb in_V) (zb im_V_become) (zb se_V_become) q101_11 hq101_11 rfl rfl rfl (by decide) rfl rfl (Nat.le_of_ble_eq_true rfl) ⟨Nat.zero_le _, Nat.zero_le _⟩ dN_polynomial_101 (z_kv (fun w1 tys1 hp => ?_))
              obtain ⟨f101_11, rfl, rfl, p101_11⟩ := hp
              refine z_iconst (pc := 104) hZ 1 dN_polynomial_104 (by decide) ?_
              exact z_reti (pc := 105) hZ dN_polynomial_105 .boolean rfl rfl ⟨_, rfl, _, rfl, rfl, (by first | exact ⟨fun _ => rfl, fun q => absurd (⟨reg_of (by assumption) (by assumption), reg_of (by assumption) (by assumption), row_of (by assumption) (by assumption)⟩) q⟩ | exact ⟨fun q => absurd q.1 (reg_no (by assumption) (by assumption)), fun _ => rfl⟩ | exact ⟨fun q => absurd q.2.1 (reg_no (by assumption) (by assumption)), fun _ => rfl⟩ | exact ⟨fun q => absurd q.2.2 (row_no (by assumption) (by assumption)), fun _ => rfl⟩)⟩
            · refine z_aload_n (pc := 44) hZ 1 dN_polynomial_44 rfl rfl ?_
              refine z_get (pc := 45) (ci := 1) hZ 0 rfl rfl uc_N 2 (by decide) (zb fl_N_20) rfl dN_polynomial_45 ?_
              refine z_aload_n (pc := 48) hZ 1 dN_polynomial_48 rfl rfl ?_
              refine z_get (pc := 49) (ci := 1) hZ 0 rfl rfl uc_N 0 (by decide) (zb fl_N_11) rfl dN_polynomial_49 ?_
              refine z_iload_n (pc := 52) hZ 3 dN_polynomial_52 rfl rfl ?_
              obtain ⟨y53_11, hy53_11, gy53_11⟩ := zH_at hH (i := p2) (by first | assumption | exact reg_of (by assumption) (by assumption))
              refine z_aald (pc := 53) hZ 1 0 rfl rfl (by first | assumption | exact reg_of (by assumption) (by assumption)) gy53_11 dN_polynomial_53 ?_
              obtain ⟨q54_13, hq54_13⟩ := zp_at (X := CX h0 ra v1 v2 v3 cR g Y) (f := f_39) hH.2.1
              refine z_callVN (pc := 54) (As := [.ref y53_11]) (rest := []) hZ (cV_become l D (TY cR c1 c2 c3) (CX h0 ra v1 v2 v3 cR g Y) LP f_39 v2 hH.2.1 y53_11 hy53_11) zyV_become (z_good co_V_become) nl_N_46 (zb in_V) (zb im_V_become) (zb se_V_become) q54_13 hq54_13 rfl rfl rfl (by decide) rfl rfl (Nat.le_of_ble_eq_true rfl) ⟨Nat.zero_le _, Nat.zero_le _⟩ dN_polynomial_54 (z_kv (fun w1 tys1 hp => ?_))
              obtain ⟨f54_13, rfl, rfl, p54_13⟩ := hp
              refine z_aload_n (pc := 57) hZ 1 dN_polynomial_57 rfl rfl ?_
              refine z_iconst (pc := 58) hZ 2 dN_polynomial_58 (by decide) ?_
              refine z_callV (pc := 59) (As := [.int 2]) (rest := []) hZ (cN_addOrMultiply l D cR c1 c2 c3 h0 ra v1 v2 v3 Y LP f54_13 g hH 2) zyN_addOrMultiply (z_goodV ml_N_54 im_N_addOrMultiply se_N_addOrMultiply in_N co_N_addOrMultiply) 0 rfl rfl rfl rfl (by decide) rfl rfl (Nat.le_of_ble_eq_true rfl) ⟨Nat.zero_le _, Nat.zero_le _⟩ dN_polynomial_59 (z_ki (fun r59_14 w1 tys1 hp => ?_))
              obtain ⟨f59_14, rfl, rfl, p59_14⟩ := hp
              refine z_pop (pc := 62) hZ dN_polynomial_62 rfl ?_
              refine z_aload_n (pc := 63) hZ 1 dN_polynomial_63 rfl rfl ?_
              refine z_get (pc := 64) (ci := 1) hZ 0 rfl rfl uc_N 2 (by decide) (zb fl_N_20) rfl dN_polynomial_64 ?_
              refine z_aload_n (pc := 67) hZ 1 dN_polynomial_67 rfl rfl ?_
              refine z_get (pc := 68) (ci := 1) hZ 0 rfl rfl uc_N 0 (by decide) (zb fl_N_11) rfl dN_polynomial_68 ?_
              refine z_iload_n (pc := 71) hZ 4 dN_polynomial_71 rfl rfl ?_
              refine z_iload (pc := 72) hZ 0 dN_polynomial_72 rfl ?_
              refine z_iadd (pc := 74) hZ dN_polynomial_74 (fun v74_15 ev74_15 => ?_)
              obtain ⟨y75_15, hy75_15, gy75_15⟩ := zH_at hH (i := v74_15) (by exact pol_idx (a := p3) (n := p4) (i := x5_39) (row_of (by assumption) (by assumption)) (by assumption) (by assumption) (by assumption))
              refine z_aald (pc := 75) hZ 1 0 rfl rfl (by exact pol_idx (a := p3) (n := p4) (i := x5_39) (row_of (by assumption) (by assumption)) (by assumption) (by assumption) (by assumption)) gy75_15 dN_polynomial_75 ?_
              obtain ⟨q76_17, hq76_17⟩ := zp_at (X := CX h0 ra v1 v2 v3 cR g Y) (f := f59_14) hH.2.1
              refine z_callVN (pc := 76) (As := [.ref y75_15]) (rest := []) hZ (cV_become l D (TY cR c1 c2 c3) (CX h0 ra v1 v2 v3 cR g Y) LP f59_14 v2 hH.2.1 y75_15 hy75_15) zyV_become (z_good co_V_become) nl_N_46 (zb in_V) (zb im_V_become) (zb se_V_become) q76_17 hq76_17 rfl rfl rfl (by decide) rfl rfl (Nat.le_of_ble_eq_true rfl) ⟨Nat.zero_le _, Nat.zero_le _⟩ dN_polynomial_76 (z_kv (fun w1 tys1 hp => ?_))
              obtain ⟨f76_17, rfl, rfl, p76_17⟩ := hp
              refine z_aload_n (pc := 79) hZ 1 dN_polynomial_79 rfl rfl ?_
              refine z_iconst (pc := 80) hZ 0 dN_polynomial_80 (by decide) ?_
              refine z_callV (pc := 81) (As := [.int 0]) (rest := []) hZ (cN_addOrMultiply l D cR c1 c2 c3 h0 ra v1 v2 v3 Y LP f76_17 g hH 0) zyN_addOrMultiply (z_goodV ml_N_54 im_N_addOrMultiply se_N_addOrMultiply in_N co_N_addOrMultiply) 0 rfl rfl rfl rfl (by decide) rfl rfl (Nat.le_of_ble_eq_true rfl) ⟨Nat.zero_le _, Nat.zero_le _⟩ dN_polynomial_81 (z_ki (fun r81_18 w1 tys1 hp => ?_))
              obtain ⟨f81_18, rfl, rfl, p81_18⟩ := hp
              refine z_pop (pc := 84) hZ dN_polynomial_84 rfl ?_
              refine z_iinc (pc := 85) hZ 0 (fun v9 => [(5, .int v9), (0, .ref h0), (1, .int p1), (2, .int p2), (3, .int p3)]) dN_polynomial_85 rfl (by decide) (fun _ => rfl) (fun v85_19 ev85_19 => ?_)
              refine z_goto (pc := 88) hZ 39 dN_polynomial_88 (by decide) ?_
              exact z_sub (pc := 39) hZ [0, 1, 2, 3, 4] rfl (ih39 v85_19 f81_18 (by exact Nat.lt_of_lt_of_le (pol_m (i := x5_39) (by assumption) (by assumption)) (Nat.le_of_lt_succ m39)) (by exact pol_n (i := x5_39) (by assumption) (by assumption) (by assumption)))
        exact z_sub (pc := 39) hZ [0, 1, 2, 3, 4] rfl (L39 _ v36_8 f30_7 (Nat.lt_succ_self _) (by exact pol_0 (a := p3) (row_of (by assumption) (by assumption)) (by assumption)))
      · refine z_iconst (pc := 23) hZ 0 dN_polynomial_23 (by decide) ?_
        exact z_reti (pc := 24) hZ dN_polynomial_24 .boolean rfl rfl ⟨_, rfl, _, rfl, rfl, (by first | exact ⟨fun _ => rfl, fun q => absurd (⟨reg_of (by assumption) (by assumption), reg_of (by assumption) (by assumption), row_of (by assumption) (by assumption)⟩) q⟩ | exact ⟨fun q => absurd q.1 (reg_no (by assumption) (by assumption)), fun _ => rfl⟩ | exact ⟨fun q => absurd q.2.1 (reg_no (by assumption) (by assumption)), fun _ => rfl⟩ | exact ⟨fun q => absurd q.2.2 (row_no (by assumption) (by assumption)), fun _ => rfl⟩)⟩
set_option maxHeartbeats 4000000 in
set_option maxRecDepth 100000 in
theorem cN_insert (l : Launch) (D : va_G) (cR c1 c2 c3 : ClassId) (h0 ra v1 v2 v3 : Nat) (Y : va_W) (LP : List Nat) (f : Nat → V3) (g : Nat → Option Nat) (hH : zH LP v1 v2 v3 g) (p1 : Int32) (p2 : Int32) (hs1 : 0 ≤ p1.toInt) (hs2 : p1.toInt ≤ p2.toInt) (hs3 : p2.toInt < 32) : zM l D vwCl zNF zNM yN_insert wsN_insert { frames := 6, cells := 0, slots := 0, locals := 131 } [.ref h0, .int p1, .int p2] (CX h0 ra v1 v2 v3 cR g Y ++ PL LP f) (TY cR c1 c2 c3) (qV (fun w' tys' => ∃ f' : Nat → V3, ∃ g' : Nat → Option Nat, CX h0 ra v1 v2 v3 cR g' Y ++ PL LP f' = w' ∧ (TY cR c1 c2 c3) = tys' ∧ zH LP v1 v2 v3 g' ∧ (True))) := by
  refine z_met (cc := bN_insert) (maxL := 5) (ret := none) (isI := false) (own := RN) (by decide +kernel) rfl rfl (fun h => by cases h) (Nat.le_of_ble_eq_true rfl) (fun Z hZ => ?_)
  show Z 0 0 (TY cR c1 c2 c3) 0 [(0, .ref h0), (1, .int p1), (2, .int p2)] [] (CX h0 ra v1 v2 v3 cR g Y ++ PL LP f)
  refine z_aload_n (pc := 0) hZ 0 dN_insert_0 rfl rfl ?_
  refine z_get (pc := 1) (ci := 1) hZ 0 rfl rfl uc_N 0 (by decide) (zb fl_N_11) rfl dN_insert_1 ?_
  refine z_iload_n (pc := 4) hZ 2 dN_insert_4 rfl rfl ?_
  obtain ⟨y5_0, hy5_0, gy5_0⟩ := zH_at hH (i := p2) (by exact vp_of (Int.le_trans hs1 hs2) hs3)
  refine z_aald (pc := 5) hZ 1 0 rfl rfl (by exact vp_of (Int.le_trans hs1 hs2) hs3) gy5_0 dN_insert_5 ?_
  refine z_astore_n (pc := 6) hZ [(3, .ref y5_0), (0, .ref h0), (1, .int p1), (2, .int p2)] dN_insert_6 rfl (by decide) rfl ?_
  refine z_iload_n (pc := 7) hZ 3 dN_insert_7 rfl rfl ?_
  refine z_istore (pc := 8) hZ [(4, .int p2), (3, .ref y5_0), (0, .ref h0), (1, .int p1), (2, .int p2)] dN_insert_8 (by decide) rfl ?_
  have L10 : ∀ (N10 : Nat) (x4_10 : Int32) (g_10 : Nat → Option Nat), (x4_10.toInt - p1.toInt).toNat < N10 → zH LP v1 v2 v3 g_10 → p1.toInt ≤ x4_10.toInt → x4_10.toInt ≤ p2.toInt → Z 0 0 (TY cR c1 c2 c3) 10 [(4, .int x4_10), (3, .ref y5_0), (0, .ref h0), (1, .int p1)] [] (CX h0 ra v1 v2 v3 cR g_10 Y ++ PL LP f) := by
    intro N10
    induction N10 with
    | zero => intro x4_10 g_10 m10; exact absurd m10 (Nat.not_lt_zero _)
    | succ N10 ih10 =>
      intro x4_10 g_10 m10 hH_10 i10 j10
      refine z_iload (pc := 10) hZ 0 dN_insert_10 rfl ?_
      refine z_iload_n (pc := 12) hZ 3 dN_insert_12 rfl rfl ?_
      have J54 : Z 0 0 (TY cR c1 c2 c3) 54 [(4, .int x4_10), (3, .ref y5_0), (0, .ref h0)] [] (CX h0 ra v1 v2 v3 cR g_10 Y ++ PL LP f) := by
        refine z_aload_n (pc := 54) hZ 2 dN_insert_54 rfl rfl ?_
        refine z_get (pc := 55) (ci := 1) hZ 0 rfl rfl uc_N 0 (by decide) (zb fl_N_11) rfl dN_insert_55 ?_
        refine z_iload (pc := 58) hZ 0 dN_insert_58 rfl ?_
        refine z_aload_n (pc := 60) hZ 1 dN_insert_60 rfl rfl ?_
        obtain ⟨q61_1, hq61_1⟩ := zp_at (X := CX h0 ra v1 v2 v3 cR g_10 Y) (f := f) hy5_0
        refine z_aast (pc := 61) hZ 1 0 q61_1 rfl rfl hq61_1 rfl (by exact vp_of (Int.le_trans hs1 i10) (Int.lt_of_le_of_lt j10 hs3)) dN_insert_61 (fun g61_1 eg61_1 => ?_)
        have hg61_1 : zH LP v1 v2 v3 g61_1 := zH_up hH_10 hy5_0 eg61_1
        show Z 0 0 (TY cR c1 c2 c3) (61 + 1) [(4, .int x4_10), (3, .ref y5_0), (0, .ref h0)] [] (CX h0 ra v1 v2 v3 cR g61_1 Y ++ PL LP f)
        exact z_retv (pc := 62) hZ dN_insert_62 rfl ⟨rfl, _, _, rfl, rfl, hg61_1, (by trivial)⟩
      refine z_icmp_le (pc := 13) hZ 54 dN_insert_13 (by decide) (fun c13_3 => ?_) (fun c13_3 => ?_)
      · exact z_sub (pc := 54) hZ [0, 1, 2] rfl (J54 )
      · refine z_aload_n (pc := 16) hZ 1 dN_insert_16 rfl rfl ?_
        refine z_aload_n (pc := 17) hZ 2 dN_insert_17 rfl rfl ?_
        refine z_get (pc := 18) (ci := 1) hZ 0 rfl rfl uc_N 0 (by decide) (zb fl_N_11) rfl dN_insert_18 ?_
        refine z_iload (pc := 21) hZ 0 dN_insert_21 rfl ?_
        refine z_iconst (pc := 23) hZ 1 dN_insert_23 (by decide) ?_
        refine z_isub (pc := 24) hZ dN_insert_24 (fun v24_4 ev24_4 => ?_)
        obtain ⟨y25_4, hy25_4, gy25_4⟩ := zH_at hH_10 (i := v24_4) (by exact ins_i (a := p1) (p := p2) (x := x4_10) hs1 hs3 (by assumption) (by assumption) (by assumption))
        refine z_aald (pc := 25) hZ 1 0 rfl rfl (by exact ins_i (a := p1) (p := p2) (x := x4_10) hs1 hs3 (by assumption) (by assumption) (by assumption)) gy25_4 dN_insert_25 ?_
        refine z_callSN (pc := 26) (As := [.ref y5_0, .ref y25_4]) (rest := []) hZ (cO_goesBefore l D (TY cR c1 c2 c3) (CX h0 ra v1 v2 v3 cR g_10 Y) LP f y5_0 hy5_0 y25_4 hy25_4) zyO_goesBefore (z_good co_O_goesBefore) nl_N_88 (zb in_O) (zb st_O_goesBefore) rfl rfl (by decide) rfl rfl (Nat.le_of_ble_eq_true rfl) ⟨Nat.zero_le _, Nat.zero_le _⟩ dN_insert_26 (z_ki (fun r26_6 w1 tys1 hp => ?_))
        obtain ⟨rfl, rfl, p26_6⟩ := hp
        refine z_if_eq (pc := 29) hZ 54 dN_insert_29 (by decide) (fun c29_7 => ?_) (fun c29_7 => ?_)
        · exact z_sub (pc := 54) hZ [0, 1, 2] rfl (J54 )
        · refine z_aload_n (pc := 32) hZ 2 dN_insert_32 rfl rfl ?_
          refine z_get (pc := 33) (ci := 1) hZ 0 rfl rfl uc_N 0 (by decide) (zb fl_N_11) rfl dN_insert_33 ?_
          refine z_iload (pc := 36) hZ 0 dN_insert_36 rfl ?_
          refine z_aload_n (pc := 38) hZ 2 dN_insert_38 rfl rfl ?_
          refine z_get (pc := 39) (ci := 1) hZ 0 rfl rfl uc_N 0 (by decide) (zb fl_N_11) rfl dN_insert_39 ?_
          refine z_iload (pc := 42) hZ 0 dN_insert_42 rfl ?_
          refine z_iconst (pc := 44) hZ 1 dN_insert_44 (by decide) ?_
          refine z_isub (pc := 45) hZ dN_insert_45 (fun v45_8 ev45_8 => ?_)
          obtain ⟨y46_8, hy46_8, gy46_8⟩ := zH_at hH_10 (i := v45_8) (by exact ins_i (a := p1) (p := p2) (x := x4_10) hs1 hs3 (by assumption) (by assumption) (by assumption))
          refine z_aald (pc := 46) hZ 1 0 rfl rfl (by exact ins_i (a := p1) (p := p2) (x := x4_10) hs1 hs3 (by assumption) (by assumption) (by assumption)) gy46_8 dN_insert_46 ?_
          obtain ⟨q47_9, hq47_9⟩ := zp_at (X := CX h0 ra v1 v2 v3 cR g_10 Y) (f := f) hy46_8
          refine z_aast (pc := 47) hZ 1 0 q47_9 rfl rfl hq47_9 rfl (by exact vp_of (Int.le_trans hs1 i10) (Int.lt_of_le_of_lt j10 hs3)) dN_insert_47 (fun g47_9 eg47_9 => ?_)
          have hg47_9 : zH LP v1 v2 v3 g47_9 := zH_up hH_10 hy46_8 eg47_9
          show Z 0 0 (TY cR c1 c2 c3) (47 + 1) [(4, .int x4_10), (3, .ref y5_0), (0, .ref h0), (1, .int p1)] [] (CX h0 ra v1 v2 v3 cR g47_9 Y ++ PL LP f)
          refine z_iinc (pc := 48) hZ 0 (fun v9 => [(4, .int v9), (3, .ref y5_0), (0, .ref h0), (1, .int p1)]) dN_insert_48 rfl (by decide) (fun _ => rfl) (fun v48_11 ev48_11 => ?_)
          refine z_goto (pc := 51) hZ 10 dN_insert_51 (by decide) ?_
          exact z_sub (pc := 10) hZ [0, 1, 2, 3] rfl (ih10 v48_11 g47_9 (by exact Nat.lt_of_lt_of_le (ins_n (a := p1) (p := p2) (x := x4_10) hs1 hs3 (by assumption) (by assumption) (by assumption)).2.2 (Nat.le_of_lt_succ m10)) (by exact hg47_9) (by exact (ins_n (a := p1) (p := p2) (x := x4_10) hs1 hs3 (by assumption) (by assumption) (by assumption)).1) (by exact (ins_n (a := p1) (p := p2) (x := x4_10) hs1 hs3 (by assumption) (by assumption) (by assumption)).2.1))
  exact z_sub (pc := 10) hZ [0, 1, 2, 3] rfl (L10 _ p2 g (Nat.lt_succ_self _) (by exact hH) (by exact hs2) (by exact Int.le_refl _))
set_option maxHeartbeats 4000000 in
set_option maxRecDepth 100000 in
theorem cN_sort (l : Launch) (D : va_G) (cR c1 c2 c3 : ClassId) (h0 ra v1 v2 v3 : Nat) (Y : va_W) (LP : List Nat) (f : Nat → V3) (g : Nat → Option Nat) (hH : zH LP v1 v2 v3 g) (p1 : Int32) (p2 : Int32) : zM l D vwCl zNF zNM yN_sort wsN_sort { frames := 7, cells := 0, slots := 0, locals := 155 } [.ref h0, .int p1, .int p2] (CX h0 ra v1 v2 v3 cR g Y ++ PL LP f) (TY cR c1 c2 c3) (qI (fun r w' tys' => ∃ f' : Nat → V3, ∃ g' : Nat → Option Nat, CX h0 ra v1 v2 v3 cR g' Y ++ PL LP f' = w' ∧ (TY cR c1 c2 c3) = tys' ∧ zH LP v1 v2 v3 g' ∧ (((rowOK p1 p2) → r = 1) ∧ (¬ (rowOK p1 p2) → r = 0)))) := by
  refine z_met (cc := bN_sort) (maxL := 4) (ret := (some .boolean)) (isI := false) (own := RN) (by decide +kernel) rfl rfl (fun h => by cases h) (Nat.le_of_ble_eq_true rfl) (fun Z hZ => ?_)
  show Z 0 0 (TY cR c1 c2 c3) 0 [(0, .ref h0), (1, .int p1), (2, .int p2)] [] (CX h0 ra v1 v2 v3 cR g Y ++ PL LP f)
  refine z_iload_n (pc := 0) hZ 1 dN_sort_0 rfl rfl ?_
  refine z_iload_n (pc := 1) hZ 2 dN_sort_1 rfl rfl ?_
  refine z_callS (pc := 2) (As := [.int p1, .int p2]) (rest := []) hZ (cN_isRow l D (TY cR c1 c2 c3) (CX h0 ra v1 v2 v3 cR g Y ++ PL LP f) p1 p2) zyN_isRow (z_goodS ml_N_80 st_N_isRow in_N co_N_isRow) rfl rfl (by decide) rfl rfl (Nat.le_of_ble_eq_true rfl) ⟨Nat.zero_le _, Nat.zero_le _⟩ dN_sort_2 (z_ki (fun r2_1 w1 tys1 hp => ?_))
  obtain ⟨rfl, rfl, p2_1⟩ := hp
  refine z_if_ne (pc := 5) hZ 10 dN_sort_5 (by decide) (fun c5_2 => ?_) (fun c5_2 => ?_)
  · refine z_iload_n (pc := 10) hZ 1 dN_sort_10 rfl rfl ?_
    refine z_iconst (pc := 11) hZ 1 dN_sort_11 (by decide) ?_
    refine z_iadd (pc := 12) hZ dN_sort_12 (fun v12_3 ev12_3 => ?_)
    refine z_istore_n (pc := 13) hZ [(3, .int v12_3), (0, .ref h0), (1, .int p1), (2, .int p2)] dN_sort_13 rfl (by decide) rfl ?_
    have L14 : ∀ (N14 : Nat) (x3_14 : Int32) (f_14 : Nat → V3) (g_14 : Nat → Option Nat), ((p1 + p2).toInt - x3_14.toInt).toNat < N14 → zH LP v1 v2 v3 g_14 → p1.toInt < x3_14.toInt → Z 0 0 (TY cR c1 c2 c3) 14 [(3, .int x3_14), (0, .ref h0), (1, .int p1), (2, .int p2)] [] (CX h0 ra v1 v2 v3 cR g_14 Y ++ PL LP f_14) := by
      intro N14
      induction N14 with
      | zero => intro x3_14 f_14 g_14 m14; exact absurd m14 (Nat.not_lt_zero _)
      | succ N14 ih14 =>
        intro x3_14 f_14 g_14 m14 hH_14 i14
        refine z_iload_n (pc := 14) hZ 0 dN_sort_14 rfl rfl ?_
        refine z_iload_n (pc := 15) hZ 2 dN_sort_15 rfl rfl ?_
        refine z_iload_n (pc := 16) hZ 3 dN_sort_16 rfl rfl ?_
        refine z_iadd (pc := 17) hZ dN_sort_17 (fun v17_4 ev17_4 => ?_)
        refine z_icmp_ge (pc := 18) hZ 33 dN_sort_18 (by decide) (fun c18_5 => ?_) (fun c18_5 => ?_)
        · refine z_iconst (pc := 33) hZ 1 dN_sort_33 (by decide) ?_
          exact z_reti (pc := 34) hZ dN_sort_34 .boolean rfl rfl ⟨_, rfl, _, _, rfl, rfl, hH_14, (by first | exact ⟨fun _ => rfl, fun q => absurd (row_of (by assumption) (by assumption)) q⟩ | exact ⟨fun q => absurd q (row_no (by assumption) (by assumption)), fun _ => rfl⟩)⟩
        · refine z_aload_n (pc := 21) hZ 1 dN_sort_21 rfl rfl ?_
          refine z_iload_n (pc := 22) hZ 2 dN_sort_22 rfl rfl ?_
          refine z_iload_n (pc := 23) hZ 0 dN_sort_23 rfl rfl ?_
          refine z_callV (pc := 24) (As := [.int p1, .int x3_14]) (rest := []) hZ (cN_insert l D cR c1 c2 c3 h0 ra v1 v2 v3 Y LP f_14 g_14 hH_14 p1 x3_14 (by exact (row_of (by assumption) (by assumption) : rowOK p1 p2).1) (by exact Int.le_of_lt (by assumption)) (by exact srt_b (a := p1) (n := p2) (row_of (by assumption) (by assumption)) (by assumption) (by assumption))) zyN_insert (z_goodV ml_N_84 im_N_insert se_N_insert in_N co_N_insert) 0 rfl rfl rfl rfl (by decide) rfl rfl (Nat.le_of_ble_eq_true rfl) ⟨Nat.zero_le _, Nat.zero_le _⟩ dN_sort_24 (z_kv (fun w1 tys1 hp => ?_))
          obtain ⟨f24_6, g24_6, rfl, rfl, hg24_6, p24_6⟩ := hp
          refine z_iinc (pc := 27) hZ 0 (fun v9 => [(3, .int v9), (0, .ref h0), (1, .int p1), (2, .int p2)]) dN_sort_27 rfl (by decide) (fun _ => rfl) (fun v27_7 ev27_7 => ?_)
          refine z_goto (pc := 30) hZ 14 dN_sort_30 (by decide) ?_
          exact z_sub (pc := 14) hZ [0, 1, 2, 3] rfl (ih14 v27_7 f24_6 g24_6 (by exact Nat.lt_of_lt_of_le (dec_upc (b := p1 + p2) (x := x3_14) (by assumption) (by assumption) (by assumption)) (Nat.le_of_lt_succ m14)) (by exact hg24_6) (by exact srt_n (a := p1) (n := p2) (i := x3_14) (row_of (by assumption) (by assumption)) (by assumption) (by assumption) (by assumption) (by assumption)))
    exact z_sub (pc := 14) hZ [0, 1, 2, 3] rfl (L14 _ v12_3 f g (Nat.lt_succ_self _) (by exact hH) (by exact srt_0 (n := p2) (row_of (by assumption) (by assumption)) (by assumption)))
  · refine z_iconst (pc := 8) hZ 0 dN_sort_8 (by decide) ?_
    exact z_reti (pc := 9) hZ dN_sort_9 .boolean rfl rfl ⟨_, rfl, _, _, rfl, rfl, hH, (by first | exact ⟨fun _ => rfl, fun q => absurd (row_of (by assumption) (by assumption)) q⟩ | exact ⟨fun q => absurd q (row_no (by assumption) (by assumption)), fun _ => rfl⟩)⟩
end
