section
-- ===== PART A: goes FIRST, ahead of the names: the tables' words, and 'selects' of the private methods out of them =====
/-- a private method of a class that the tables say can be made, by its rows of tables_1 -/
def lw_okq (q : MethodName × Nat) : Prop := (q.1.cls ≠ "java/lang/invoke/MethodHandle" ∧ q.1.cls ≠ "java/lang/invoke/VarHandle") ∧ Cond.instantiable q.1.cls q.2 ∈ tables_1 ∧ Cond.privateMethod q.1 ∈ tables_1 ∧ Cond.instanceMethod q.1 ∈ tables_1
theorem lw_p0 : lw_okq (⟨"StepMeters", "newAct", "(III)LStepMeters$Act;"⟩, 13) := ⟨⟨by decide +kernel, by decide +kernel⟩, List.mem_of_getElem? (i := 14) (by decide +kernel), List.mem_of_getElem? (i := 243) (by decide +kernel), List.mem_of_getElem? (i := 244) (by decide +kernel)⟩
theorem lw_p1 : lw_okq (⟨"StepMeters$Past", "addAct", "(III)LStepMeters$Act;"⟩, 3) := ⟨⟨by decide +kernel, by decide +kernel⟩, List.mem_of_getElem? (i := 83) (by decide +kernel), List.mem_of_getElem? (i := 247) (by decide +kernel), List.mem_of_getElem? (i := 248) (by decide +kernel)⟩
theorem lw_p2 : lw_okq (⟨"StepMeters$Past", "slotAt", "(I)LStepMeters$Act;"⟩, 3) := ⟨⟨by decide +kernel, by decide +kernel⟩, List.mem_of_getElem? (i := 83) (by decide +kernel), List.mem_of_getElem? (i := 251) (by decide +kernel), List.mem_of_getElem? (i := 252) (by decide +kernel)⟩
theorem lw_p3 : lw_okq (⟨"StepMeters", "meterAt", "(I)LStepMeters$Meter;"⟩, 13) := ⟨⟨by decide +kernel, by decide +kernel⟩, List.mem_of_getElem? (i := 14) (by decide +kernel), List.mem_of_getElem? (i := 262) (by decide +kernel), List.mem_of_getElem? (i := 263) (by decide +kernel)⟩
theorem lw_p4 : lw_okq (⟨"StepMeters$Meter", "begin", "(I)V"⟩, 6) := ⟨⟨by decide +kernel, by decide +kernel⟩, List.mem_of_getElem? (i := 126) (by decide +kernel), List.mem_of_getElem? (i := 266) (by decide +kernel), List.mem_of_getElem? (i := 267) (by decide +kernel)⟩
theorem lw_p5 : lw_okq (⟨"StepMeters$Meter", "isStaged", "()Z"⟩, 6) := ⟨⟨by decide +kernel, by decide +kernel⟩, List.mem_of_getElem? (i := 126) (by decide +kernel), List.mem_of_getElem? (i := 280) (by decide +kernel), List.mem_of_getElem? (i := 281) (by decide +kernel)⟩
theorem lw_p6 : lw_okq (⟨"StepMeters$Meter", "keepWorths", "([I)V"⟩, 6) := ⟨⟨by decide +kernel, by decide +kernel⟩, List.mem_of_getElem? (i := 126) (by decide +kernel), List.mem_of_getElem? (i := 284) (by decide +kernel), List.mem_of_getElem? (i := 285) (by decide +kernel)⟩
theorem lw_p7 : lw_okq (⟨"StepMeters$Meter", "partAt", "(I)LStepMeters$Part;"⟩, 6) := ⟨⟨by decide +kernel, by decide +kernel⟩, List.mem_of_getElem? (i := 126) (by decide +kernel), List.mem_of_getElem? (i := 288) (by decide +kernel), List.mem_of_getElem? (i := 289) (by decide +kernel)⟩
theorem lw_p8 : lw_okq (⟨"StepMeters$Meter", "addPart", "(II)V"⟩, 6) := ⟨⟨by decide +kernel, by decide +kernel⟩, List.mem_of_getElem? (i := 126) (by decide +kernel), List.mem_of_getElem? (i := 292) (by decide +kernel), List.mem_of_getElem? (i := 293) (by decide +kernel)⟩
theorem lw_p9 : lw_okq (⟨"StepMeters$Meter", "doubleWorths", "()V"⟩, 6) := ⟨⟨by decide +kernel, by decide +kernel⟩, List.mem_of_getElem? (i := 126) (by decide +kernel), List.mem_of_getElem? (i := 297) (by decide +kernel), List.mem_of_getElem? (i := 298) (by decide +kernel)⟩
theorem lw_p10 : lw_okq (⟨"StepMeters", "partAt", "(II)LStepMeters$Part;"⟩, 13) := ⟨⟨by decide +kernel, by decide +kernel⟩, List.mem_of_getElem? (i := 14) (by decide +kernel), List.mem_of_getElem? (i := 306) (by decide +kernel), List.mem_of_getElem? (i := 307) (by decide +kernel)⟩
theorem lw_p11 : lw_okq (⟨"StepMeters", "isNumber", "(I)Z"⟩, 13) := ⟨⟨by decide +kernel, by decide +kernel⟩, List.mem_of_getElem? (i := 14) (by decide +kernel), List.mem_of_getElem? (i := 327) (by decide +kernel), List.mem_of_getElem? (i := 328) (by decide +kernel)⟩
theorem lw_p12 : lw_okq (⟨"StepMeters$Meter", "codeOf", "(I)I"⟩, 6) := ⟨⟨by decide +kernel, by decide +kernel⟩, List.mem_of_getElem? (i := 126) (by decide +kernel), List.mem_of_getElem? (i := 332) (by decide +kernel), List.mem_of_getElem? (i := 333) (by decide +kernel)⟩
theorem lw_p13 : lw_okq (⟨"StepMeters$Meter", "weigh", "()V"⟩, 6) := ⟨⟨by decide +kernel, by decide +kernel⟩, List.mem_of_getElem? (i := 126) (by decide +kernel), List.mem_of_getElem? (i := 336) (by decide +kernel), List.mem_of_getElem? (i := 337) (by decide +kernel)⟩
theorem lw_p14 : lw_okq (⟨"StepMeters$Part", "asItIs", "()I"⟩, 4) := ⟨⟨by decide +kernel, by decide +kernel⟩, List.mem_of_getElem? (i := 133) (by decide +kernel), List.mem_of_getElem? (i := 340) (by decide +kernel), List.mem_of_getElem? (i := 341) (by decide +kernel)⟩
theorem lw_p15 : lw_okq (⟨"StepMeters$Meter", "passStages", "()V"⟩, 6) := ⟨⟨by decide +kernel, by decide +kernel⟩, List.mem_of_getElem? (i := 126) (by decide +kernel), List.mem_of_getElem? (i := 344) (by decide +kernel), List.mem_of_getElem? (i := 345) (by decide +kernel)⟩
def lw_privs_1 : List (MethodName × Nat) := [(⟨"StepMeters", "newAct", "(III)LStepMeters$Act;"⟩, 13), (⟨"StepMeters$Past", "addAct", "(III)LStepMeters$Act;"⟩, 3), (⟨"StepMeters$Past", "slotAt", "(I)LStepMeters$Act;"⟩, 3), (⟨"StepMeters", "meterAt", "(I)LStepMeters$Meter;"⟩, 13), (⟨"StepMeters$Meter", "begin", "(I)V"⟩, 6), (⟨"StepMeters$Meter", "isStaged", "()Z"⟩, 6), (⟨"StepMeters$Meter", "keepWorths", "([I)V"⟩, 6), (⟨"StepMeters$Meter", "partAt", "(I)LStepMeters$Part;"⟩, 6), (⟨"StepMeters$Meter", "addPart", "(II)V"⟩, 6), (⟨"StepMeters$Meter", "doubleWorths", "()V"⟩, 6), (⟨"StepMeters", "partAt", "(II)LStepMeters$Part;"⟩, 13), (⟨"StepMeters", "isNumber", "(I)Z"⟩, 13), (⟨"StepMeters$Meter", "codeOf", "(I)I"⟩, 6), (⟨"StepMeters$Meter", "weigh", "()V"⟩, 6), (⟨"StepMeters$Part", "asItIs", "()I"⟩, 4), (⟨"StepMeters$Meter", "passStages", "()V"⟩, 6)]
theorem lw_r1 : ∀ q ∈ lw_privs_1, lw_okq q := List.forall_mem_cons.mpr ⟨lw_p0, List.forall_mem_cons.mpr ⟨lw_p1, List.forall_mem_cons.mpr ⟨lw_p2, List.forall_mem_cons.mpr ⟨lw_p3, List.forall_mem_cons.mpr ⟨lw_p4, List.forall_mem_cons.mpr ⟨lw_p5, List.forall_mem_cons.mpr ⟨lw_p6, List.forall_mem_cons.mpr ⟨lw_p7, List.forall_mem_cons.mpr ⟨lw_p8, List.forall_mem_cons.mpr ⟨lw_p9, List.forall_mem_cons.mpr ⟨lw_p10, List.forall_mem_cons.mpr ⟨lw_p11, List.forall_mem_cons.mpr ⟨lw_p12, List.forall_mem_cons.mpr ⟨lw_p13, List.forall_mem_cons.mpr ⟨lw_p14, List.forall_mem_cons.mpr ⟨lw_p15, fun _ h => absurd h List.not_mem_nil⟩⟩⟩⟩⟩⟩⟩⟩⟩⟩⟩⟩⟩⟩⟩⟩
theorem lw_p16 : lw_okq (⟨"StepMeters$Meter", "passEdges", "(I)V"⟩, 6) := ⟨⟨by decide +kernel, by decide +kernel⟩, List.mem_of_getElem? (i := 126) (by decide +kernel), List.mem_of_getElem? (i := 353) (by decide +kernel), List.mem_of_getElem? (i := 354) (by decide +kernel)⟩
theorem lw_p17 : lw_okq (⟨"StepMeters", "isTabled", "(I)Z"⟩, 13) := ⟨⟨by decide +kernel, by decide +kernel⟩, List.mem_of_getElem? (i := 14) (by decide +kernel), List.mem_of_getElem? (i := 369) (by decide +kernel), List.mem_of_getElem? (i := 370) (by decide +kernel)⟩
theorem lw_p18 : lw_okq (⟨"StepMeters", "fillTable", "(I)Z"⟩, 13) := ⟨⟨by decide +kernel, by decide +kernel⟩, List.mem_of_getElem? (i := 14) (by decide +kernel), List.mem_of_getElem? (i := 373) (by decide +kernel), List.mem_of_getElem? (i := 374) (by decide +kernel)⟩
theorem lw_p19 : lw_okq (⟨"StepMeters$Table", "fillFrom", "(LStepMeters$Meter;I)V"⟩, 3) := ⟨⟨by decide +kernel, by decide +kernel⟩, List.mem_of_getElem? (i := 24) (by decide +kernel), List.mem_of_getElem? (i := 377) (by decide +kernel), List.mem_of_getElem? (i := 378) (by decide +kernel)⟩
theorem lw_p20 : lw_okq (⟨"StepMeters$Table", "spanCount", "()I"⟩, 3) := ⟨⟨by decide +kernel, by decide +kernel⟩, List.mem_of_getElem? (i := 24) (by decide +kernel), List.mem_of_getElem? (i := 383) (by decide +kernel), List.mem_of_getElem? (i := 384) (by decide +kernel)⟩
theorem lw_p21 : lw_okq (⟨"StepMeters$Table", "endsSpan", "(I)Z"⟩, 3) := ⟨⟨by decide +kernel, by decide +kernel⟩, List.mem_of_getElem? (i := 24) (by decide +kernel), List.mem_of_getElem? (i := 387) (by decide +kernel), List.mem_of_getElem? (i := 388) (by decide +kernel)⟩
theorem lw_p22 : lw_okq (⟨"StepMeters$Table", "codeAt", "(I)I"⟩, 3) := ⟨⟨by decide +kernel, by decide +kernel⟩, List.mem_of_getElem? (i := 24) (by decide +kernel), List.mem_of_getElem? (i := 391) (by decide +kernel), List.mem_of_getElem? (i := 392) (by decide +kernel)⟩
theorem lw_p23 : lw_okq (⟨"StepMeters$Table", "spanStart", "(I)I"⟩, 3) := ⟨⟨by decide +kernel, by decide +kernel⟩, List.mem_of_getElem? (i := 24) (by decide +kernel), List.mem_of_getElem? (i := 399) (by decide +kernel), List.mem_of_getElem? (i := 400) (by decide +kernel)⟩
theorem lw_p24 : lw_okq (⟨"StepMeters$Table", "spanEnd", "(I)I"⟩, 3) := ⟨⟨by decide +kernel, by decide +kernel⟩, List.mem_of_getElem? (i := 24) (by decide +kernel), List.mem_of_getElem? (i := 403) (by decide +kernel), List.mem_of_getElem? (i := 404) (by decide +kernel)⟩
theorem lw_p25 : lw_okq (⟨"StepMeters$Table", "unlikeFrom", "(I)I"⟩, 3) := ⟨⟨by decide +kernel, by decide +kernel⟩, List.mem_of_getElem? (i := 24) (by decide +kernel), List.mem_of_getElem? (i := 413) (by decide +kernel), List.mem_of_getElem? (i := 414) (by decide +kernel)⟩
theorem lw_p26 : lw_okq (⟨"StepMeters$Table", "isFirstMet", "(I)Z"⟩, 3) := ⟨⟨by decide +kernel, by decide +kernel⟩, List.mem_of_getElem? (i := 24) (by decide +kernel), List.mem_of_getElem? (i := 420) (by decide +kernel), List.mem_of_getElem? (i := 421) (by decide +kernel)⟩
theorem lw_p27 : lw_okq (⟨"StepMeters$Table", "greatestCode", "()I"⟩, 3) := ⟨⟨by decide +kernel, by decide +kernel⟩, List.mem_of_getElem? (i := 24) (by decide +kernel), List.mem_of_getElem? (i := 429) (by decide +kernel), List.mem_of_getElem? (i := 430) (by decide +kernel)⟩
theorem lw_p28 : lw_okq (⟨"StepMeters$Table", "firstBack", "()I"⟩, 3) := ⟨⟨by decide +kernel, by decide +kernel⟩, List.mem_of_getElem? (i := 24) (by decide +kernel), List.mem_of_getElem? (i := 439) (by decide +kernel), List.mem_of_getElem? (i := 440) (by decide +kernel)⟩
theorem lw_p29 : lw_okq (⟨"StepMeters$Table", "widestSpan", "()I"⟩, 3) := ⟨⟨by decide +kernel, by decide +kernel⟩, List.mem_of_getElem? (i := 24) (by decide +kernel), List.mem_of_getElem? (i := 447) (by decide +kernel), List.mem_of_getElem? (i := 448) (by decide +kernel)⟩
theorem lw_p30 : lw_okq (⟨"StepMeters$Table", "edgeOf", "(I)I"⟩, 3) := ⟨⟨by decide +kernel, by decide +kernel⟩, List.mem_of_getElem? (i := 24) (by decide +kernel), List.mem_of_getElem? (i := 455) (by decide +kernel), List.mem_of_getElem? (i := 456) (by decide +kernel)⟩
theorem lw_p31 : lw_okq (⟨"StepMeters$Table", "worstOfLine", "(IZ)I"⟩, 3) := ⟨⟨by decide +kernel, by decide +kernel⟩, List.mem_of_getElem? (i := 24) (by decide +kernel), List.mem_of_getElem? (i := 463) (by decide +kernel), List.mem_of_getElem? (i := 464) (by decide +kernel)⟩
def lw_privs_2 : List (MethodName × Nat) := [(⟨"StepMeters$Meter", "passEdges", "(I)V"⟩, 6), (⟨"StepMeters", "isTabled", "(I)Z"⟩, 13), (⟨"StepMeters", "fillTable", "(I)Z"⟩, 13), (⟨"StepMeters$Table", "fillFrom", "(LStepMeters$Meter;I)V"⟩, 3), (⟨"StepMeters$Table", "spanCount", "()I"⟩, 3), (⟨"StepMeters$Table", "endsSpan", "(I)Z"⟩, 3), (⟨"StepMeters$Table", "codeAt", "(I)I"⟩, 3), (⟨"StepMeters$Table", "spanStart", "(I)I"⟩, 3), (⟨"StepMeters$Table", "spanEnd", "(I)I"⟩, 3), (⟨"StepMeters$Table", "unlikeFrom", "(I)I"⟩, 3), (⟨"StepMeters$Table", "isFirstMet", "(I)Z"⟩, 3), (⟨"StepMeters$Table", "greatestCode", "()I"⟩, 3), (⟨"StepMeters$Table", "firstBack", "()I"⟩, 3), (⟨"StepMeters$Table", "widestSpan", "()I"⟩, 3), (⟨"StepMeters$Table", "edgeOf", "(I)I"⟩, 3), (⟨"StepMeters$Table", "worstOfLine", "(IZ)I"⟩, 3)]
theorem lw_r2 : ∀ q ∈ lw_privs_2, lw_okq q := List.forall_mem_cons.mpr ⟨lw_p16, List.forall_mem_cons.mpr ⟨lw_p17, List.forall_mem_cons.mpr ⟨lw_p18, List.forall_mem_cons.mpr ⟨lw_p19, List.forall_mem_cons.mpr ⟨lw_p20, List.forall_mem_cons.mpr ⟨lw_p21, List.forall_mem_cons.mpr ⟨lw_p22, List.forall_mem_cons.mpr ⟨lw_p23, List.forall_mem_cons.mpr ⟨lw_p24, List.forall_mem_cons.mpr ⟨lw_p25, List.forall_mem_cons.mpr ⟨lw_p26, List.forall_mem_cons.mpr ⟨lw_p27, List.forall_mem_cons.mpr ⟨lw_p28, List.forall_mem_cons.mpr ⟨lw_p29, List.forall_mem_cons.mpr ⟨lw_p30, List.forall_mem_cons.mpr ⟨lw_p31, fun _ h => absurd h List.not_mem_nil⟩⟩⟩⟩⟩⟩⟩⟩⟩⟩⟩⟩⟩⟩⟩⟩
theorem lw_p32 : lw_okq (⟨"StepMeters$Meter", "firstUncovered", "()I"⟩, 6) := ⟨⟨by decide +kernel, by decide +kernel⟩, List.mem_of_getElem? (i := 126) (by decide +kernel), List.mem_of_getElem? (i := 478) (by decide +kernel), List.mem_of_getElem? (i := 479) (by decide +kernel)⟩
theorem lw_p33 : lw_okq (⟨"StepMeters$Meter", "together", "()I"⟩, 6) := ⟨⟨by decide +kernel, by decide +kernel⟩, List.mem_of_getElem? (i := 126) (by decide +kernel), List.mem_of_getElem? (i := 482) (by decide +kernel), List.mem_of_getElem? (i := 483) (by decide +kernel)⟩
theorem lw_p34 : lw_okq (⟨"StepMeters$Meter", "mendWorths", "()V"⟩, 6) := ⟨⟨by decide +kernel, by decide +kernel⟩, List.mem_of_getElem? (i := 126) (by decide +kernel), List.mem_of_getElem? (i := 496) (by decide +kernel), List.mem_of_getElem? (i := 497) (by decide +kernel)⟩
theorem lw_p35 : lw_okq (⟨"StepMeters$Noise", "addSum", "(II)V"⟩, 3) := ⟨⟨by decide +kernel, by decide +kernel⟩, List.mem_of_getElem? (i := 42) (by decide +kernel), List.mem_of_getElem? (i := 508) (by decide +kernel), List.mem_of_getElem? (i := 509) (by decide +kernel)⟩
theorem lw_p36 : lw_okq (⟨"StepMeters$Noise", "weighedCodes", "(LStepMeters$Meter;II)I"⟩, 3) := ⟨⟨by decide +kernel, by decide +kernel⟩, List.mem_of_getElem? (i := 42) (by decide +kernel), List.mem_of_getElem? (i := 520) (by decide +kernel), List.mem_of_getElem? (i := 521) (by decide +kernel)⟩
theorem lw_p37 : lw_okq (⟨"StepMeters$Noise", "timesTogether", "()I"⟩, 3) := ⟨⟨by decide +kernel, by decide +kernel⟩, List.mem_of_getElem? (i := 42) (by decide +kernel), List.mem_of_getElem? (i := 527) (by decide +kernel), List.mem_of_getElem? (i := 528) (by decide +kernel)⟩
theorem lw_p38 : lw_okq (⟨"StepMeters", "faultAt", "(I)LStepMeters$Fault;"⟩, 13) := ⟨⟨by decide +kernel, by decide +kernel⟩, List.mem_of_getElem? (i := 14) (by decide +kernel), List.mem_of_getElem? (i := 539) (by decide +kernel), List.mem_of_getElem? (i := 540) (by decide +kernel)⟩
theorem lw_p39 : lw_okq (⟨"StepMeters$Fault", "become", "(III)V"⟩, 3) := ⟨⟨by decide +kernel, by decide +kernel⟩, List.mem_of_getElem? (i := 180) (by decide +kernel), List.mem_of_getElem? (i := 543) (by decide +kernel), List.mem_of_getElem? (i := 544) (by decide +kernel)⟩
theorem lw_p40 : lw_okq (⟨"StepMeters", "isShownBy", "(LStepMeters$Fault;I)Z"⟩, 13) := ⟨⟨by decide +kernel, by decide +kernel⟩, List.mem_of_getElem? (i := 14) (by decide +kernel), List.mem_of_getElem? (i := 555) (by decide +kernel), List.mem_of_getElem? (i := 556) (by decide +kernel)⟩
theorem lw_p41 : lw_okq (⟨"StepMeters", "codeWith", "(LStepMeters$Fault;I)I"⟩, 13) := ⟨⟨by decide +kernel, by decide +kernel⟩, List.mem_of_getElem? (i := 14) (by decide +kernel), List.mem_of_getElem? (i := 559) (by decide +kernel), List.mem_of_getElem? (i := 560) (by decide +kernel)⟩
theorem lw_p42 : lw_okq (⟨"StepMeters$Cover", "begin", "()V"⟩, 5) := ⟨⟨by decide +kernel, by decide +kernel⟩, List.mem_of_getElem? (i := 61) (by decide +kernel), List.mem_of_getElem? (i := 567) (by decide +kernel), List.mem_of_getElem? (i := 568) (by decide +kernel)⟩
theorem lw_p43 : lw_okq (⟨"StepMeters", "faultsShownBy", "(I)I"⟩, 13) := ⟨⟨by decide +kernel, by decide +kernel⟩, List.mem_of_getElem? (i := 14) (by decide +kernel), List.mem_of_getElem? (i := 574) (by decide +kernel), List.mem_of_getElem? (i := 575) (by decide +kernel)⟩
theorem lw_p44 : lw_okq (⟨"StepMeters$Cover", "addMask", "(I)V"⟩, 5) := ⟨⟨by decide +kernel, by decide +kernel⟩, List.mem_of_getElem? (i := 61) (by decide +kernel), List.mem_of_getElem? (i := 578) (by decide +kernel), List.mem_of_getElem? (i := 579) (by decide +kernel)⟩
theorem lw_p45 : lw_okq (⟨"StepMeters$Cover", "fewest", "()I"⟩, 5) := ⟨⟨by decide +kernel, by decide +kernel⟩, List.mem_of_getElem? (i := 61) (by decide +kernel), List.mem_of_getElem? (i := 582) (by decide +kernel), List.mem_of_getElem? (i := 583) (by decide +kernel)⟩
theorem lw_p46 : lw_okq (⟨"StepMeters$Cover", "growFrom", "(I)V"⟩, 5) := ⟨⟨by decide +kernel, by decide +kernel⟩, List.mem_of_getElem? (i := 61) (by decide +kernel), List.mem_of_getElem? (i := 586) (by decide +kernel), List.mem_of_getElem? (i := 587) (by decide +kernel)⟩
theorem lw_p47 : lw_okq (⟨"StepMeters", "tellApart", "(I)V"⟩, 13) := ⟨⟨by decide +kernel, by decide +kernel⟩, List.mem_of_getElem? (i := 14) (by decide +kernel), List.mem_of_getElem? (i := 599) (by decide +kernel), List.mem_of_getElem? (i := 600) (by decide +kernel)⟩
def lw_privs_3 : List (MethodName × Nat) := [(⟨"StepMeters$Meter", "firstUncovered", "()I"⟩, 6), (⟨"StepMeters$Meter", "together", "()I"⟩, 6), (⟨"StepMeters$Meter", "mendWorths", "()V"⟩, 6), (⟨"StepMeters$Noise", "addSum", "(II)V"⟩, 3), (⟨"StepMeters$Noise", "weighedCodes", "(LStepMeters$Meter;II)I"⟩, 3), (⟨"StepMeters$Noise", "timesTogether", "()I"⟩, 3), (⟨"StepMeters", "faultAt", "(I)LStepMeters$Fault;"⟩, 13), (⟨"StepMeters$Fault", "become", "(III)V"⟩, 3), (⟨"StepMeters", "isShownBy", "(LStepMeters$Fault;I)Z"⟩, 13), (⟨"StepMeters", "codeWith", "(LStepMeters$Fault;I)I"⟩, 13), (⟨"StepMeters$Cover", "begin", "()V"⟩, 5), (⟨"StepMeters", "faultsShownBy", "(I)I"⟩, 13), (⟨"StepMeters$Cover", "addMask", "(I)V"⟩, 5), (⟨"StepMeters$Cover", "fewest", "()I"⟩, 5), (⟨"StepMeters$Cover", "growFrom", "(I)V"⟩, 5), (⟨"StepMeters", "tellApart", "(I)V"⟩, 13)]
theorem lw_r3 : ∀ q ∈ lw_privs_3, lw_okq q := List.forall_mem_cons.mpr ⟨lw_p32, List.forall_mem_cons.mpr ⟨lw_p33, List.forall_mem_cons.mpr ⟨lw_p34, List.forall_mem_cons.mpr ⟨lw_p35, List.forall_mem_cons.mpr ⟨lw_p36, List.forall_mem_cons.mpr ⟨lw_p37, List.forall_mem_cons.mpr ⟨lw_p38, List.forall_mem_cons.mpr ⟨lw_p39, List.forall_mem_cons.mpr ⟨lw_p40, List.forall_mem_cons.mpr ⟨lw_p41, List.forall_mem_cons.mpr ⟨lw_p42, List.forall_mem_cons.mpr ⟨lw_p43, List.forall_mem_cons.mpr ⟨lw_p44, List.forall_mem_cons.mpr ⟨lw_p45, List.forall_mem_cons.mpr ⟨lw_p46, List.forall_mem_cons.mpr ⟨lw_p47, fun _ h => absurd h List.not_mem_nil⟩⟩⟩⟩⟩⟩⟩⟩⟩⟩⟩⟩⟩⟩⟩⟩
theorem lw_p48 : lw_okq (⟨"StepMeters", "areAlike", "(II)Z"⟩, 13) := ⟨⟨by decide +kernel, by decide +kernel⟩, List.mem_of_getElem? (i := 14) (by decide +kernel), List.mem_of_getElem? (i := 603) (by decide +kernel), List.mem_of_getElem? (i := 604) (by decide +kernel)⟩
theorem lw_p49 : lw_okq (⟨"StepMeters$Past", "latest", "()LStepMeters$Act;"⟩, 3) := ⟨⟨by decide +kernel, by decide +kernel⟩, List.mem_of_getElem? (i := 83) (by decide +kernel), List.mem_of_getElem? (i := 619) (by decide +kernel), List.mem_of_getElem? (i := 620) (by decide +kernel)⟩
theorem lw_p50 : lw_okq (⟨"StepMeters$Past", "latestPlace", "()I"⟩, 3) := ⟨⟨by decide +kernel, by decide +kernel⟩, List.mem_of_getElem? (i := 83) (by decide +kernel), List.mem_of_getElem? (i := 623) (by decide +kernel), List.mem_of_getElem? (i := 624) (by decide +kernel)⟩
theorem lw_p51 : lw_okq (⟨"StepMeters", "takeBack", "(LStepMeters$Act;)V"⟩, 13) := ⟨⟨by decide +kernel, by decide +kernel⟩, List.mem_of_getElem? (i := 14) (by decide +kernel), List.mem_of_getElem? (i := 627) (by decide +kernel), List.mem_of_getElem? (i := 628) (by decide +kernel)⟩
theorem lw_p52 : lw_okq (⟨"StepMeters$Meter", "dropPart", "()V"⟩, 6) := ⟨⟨by decide +kernel, by decide +kernel⟩, List.mem_of_getElem? (i := 126) (by decide +kernel), List.mem_of_getElem? (i := 631) (by decide +kernel), List.mem_of_getElem? (i := 632) (by decide +kernel)⟩
theorem lw_p53 : lw_okq (⟨"StepMeters$Meter", "giveWorths", "([I)V"⟩, 6) := ⟨⟨by decide +kernel, by decide +kernel⟩, List.mem_of_getElem? (i := 126) (by decide +kernel), List.mem_of_getElem? (i := 635) (by decide +kernel), List.mem_of_getElem? (i := 636) (by decide +kernel)⟩
theorem lw_p54 : lw_okq (⟨"StepMeters$Past", "dropLatest", "()V"⟩, 3) := ⟨⟨by decide +kernel, by decide +kernel⟩, List.mem_of_getElem? (i := 83) (by decide +kernel), List.mem_of_getElem? (i := 639) (by decide +kernel), List.mem_of_getElem? (i := 640) (by decide +kernel)⟩
theorem lw_p55 : lw_okq (⟨"StepMeters", "dropGoneFaults", "()V"⟩, 13) := ⟨⟨by decide +kernel, by decide +kernel⟩, List.mem_of_getElem? (i := 14) (by decide +kernel), List.mem_of_getElem? (i := 643) (by decide +kernel), List.mem_of_getElem? (i := 644) (by decide +kernel)⟩
theorem lw_p56 : lw_okq (⟨"StepMetersModel", "isPart", "(II)Z"⟩, 20) := ⟨⟨by decide +kernel, by decide +kernel⟩, List.mem_of_getElem? (i := 655) (by decide +kernel), List.mem_of_getElem? (i := 727) (by decide +kernel), List.mem_of_getElem? (i := 728) (by decide +kernel)⟩
theorem lw_p57 : lw_okq (⟨"StepMetersModel", "isMeter", "(I)Z"⟩, 20) := ⟨⟨by decide +kernel, by decide +kernel⟩, List.mem_of_getElem? (i := 655) (by decide +kernel), List.mem_of_getElem? (i := 731) (by decide +kernel), List.mem_of_getElem? (i := 732) (by decide +kernel)⟩
theorem lw_p58 : lw_okq (⟨"StepMetersModel", "in", "(III)Z"⟩, 20) := ⟨⟨by decide +kernel, by decide +kernel⟩, List.mem_of_getElem? (i := 655) (by decide +kernel), List.mem_of_getElem? (i := 735) (by decide +kernel), List.mem_of_getElem? (i := 736) (by decide +kernel)⟩
theorem lw_p59 : lw_okq (⟨"StepMetersModel", "not", "(I)Z"⟩, 20) := ⟨⟨by decide +kernel, by decide +kernel⟩, List.mem_of_getElem? (i := 655) (by decide +kernel), List.mem_of_getElem? (i := 743) (by decide +kernel), List.mem_of_getElem? (i := 744) (by decide +kernel)⟩
theorem lw_p60 : lw_okq (⟨"StepMetersModel", "act", "()V"⟩, 20) := ⟨⟨by decide +kernel, by decide +kernel⟩, List.mem_of_getElem? (i := 655) (by decide +kernel), List.mem_of_getElem? (i := 747) (by decide +kernel), List.mem_of_getElem? (i := 748) (by decide +kernel)⟩
theorem lw_p61 : lw_okq (⟨"StepMetersModel", "no", "(I)I"⟩, 20) := ⟨⟨by decide +kernel, by decide +kernel⟩, List.mem_of_getElem? (i := 655) (by decide +kernel), List.mem_of_getElem? (i := 755) (by decide +kernel), List.mem_of_getElem? (i := 756) (by decide +kernel)⟩
theorem lw_p62 : lw_okq (⟨"StepMetersModel", "isStaged", "(I)Z"⟩, 20) := ⟨⟨by decide +kernel, by decide +kernel⟩, List.mem_of_getElem? (i := 655) (by decide +kernel), List.mem_of_getElem? (i := 763) (by decide +kernel), List.mem_of_getElem? (i := 764) (by decide +kernel)⟩
theorem lw_p63 : lw_okq (⟨"StepMetersModel", "at", "(II)I"⟩, 20) := ⟨⟨by decide +kernel, by decide +kernel⟩, List.mem_of_getElem? (i := 655) (by decide +kernel), List.mem_of_getElem? (i := 767) (by decide +kernel), List.mem_of_getElem? (i := 768) (by decide +kernel)⟩
def lw_privs_4 : List (MethodName × Nat) := [(⟨"StepMeters", "areAlike", "(II)Z"⟩, 13), (⟨"StepMeters$Past", "latest", "()LStepMeters$Act;"⟩, 3), (⟨"StepMeters$Past", "latestPlace", "()I"⟩, 3), (⟨"StepMeters", "takeBack", "(LStepMeters$Act;)V"⟩, 13), (⟨"StepMeters$Meter", "dropPart", "()V"⟩, 6), (⟨"StepMeters$Meter", "giveWorths", "([I)V"⟩, 6), (⟨"StepMeters$Past", "dropLatest", "()V"⟩, 3), (⟨"StepMeters", "dropGoneFaults", "()V"⟩, 13), (⟨"StepMetersModel", "isPart", "(II)Z"⟩, 20), (⟨"StepMetersModel", "isMeter", "(I)Z"⟩, 20), (⟨"StepMetersModel", "in", "(III)Z"⟩, 20), (⟨"StepMetersModel", "not", "(I)Z"⟩, 20), (⟨"StepMetersModel", "act", "()V"⟩, 20), (⟨"StepMetersModel", "no", "(I)I"⟩, 20), (⟨"StepMetersModel", "isStaged", "(I)Z"⟩, 20), (⟨"StepMetersModel", "at", "(II)I"⟩, 20)]
theorem lw_r4 : ∀ q ∈ lw_privs_4, lw_okq q := List.forall_mem_cons.mpr ⟨lw_p48, List.forall_mem_cons.mpr ⟨lw_p49, List.forall_mem_cons.mpr ⟨lw_p50, List.forall_mem_cons.mpr ⟨lw_p51, List.forall_mem_cons.mpr ⟨lw_p52, List.forall_mem_cons.mpr ⟨lw_p53, List.forall_mem_cons.mpr ⟨lw_p54, List.forall_mem_cons.mpr ⟨lw_p55, List.forall_mem_cons.mpr ⟨lw_p56, List.forall_mem_cons.mpr ⟨lw_p57, List.forall_mem_cons.mpr ⟨lw_p58, List.forall_mem_cons.mpr ⟨lw_p59, List.forall_mem_cons.mpr ⟨lw_p60, List.forall_mem_cons.mpr ⟨lw_p61, List.forall_mem_cons.mpr ⟨lw_p62, List.forall_mem_cons.mpr ⟨lw_p63, fun _ h => absurd h List.not_mem_nil⟩⟩⟩⟩⟩⟩⟩⟩⟩⟩⟩⟩⟩⟩⟩⟩
theorem lw_p64 : lw_okq (⟨"StepMetersModel", "isNumber", "(I)Z"⟩, 20) := ⟨⟨by decide +kernel, by decide +kernel⟩, List.mem_of_getElem? (i := 655) (by decide +kernel), List.mem_of_getElem? (i := 791) (by decide +kernel), List.mem_of_getElem? (i := 792) (by decide +kernel)⟩
theorem lw_p65 : lw_okq (⟨"StepMetersModel", "codeOf", "(II)I"⟩, 20) := ⟨⟨by decide +kernel, by decide +kernel⟩, List.mem_of_getElem? (i := 655) (by decide +kernel), List.mem_of_getElem? (i := 795) (by decide +kernel), List.mem_of_getElem? (i := 796) (by decide +kernel)⟩
theorem lw_p66 : lw_okq (⟨"StepMetersModel", "reads", "(II)V"⟩, 20) := ⟨⟨by decide +kernel, by decide +kernel⟩, List.mem_of_getElem? (i := 655) (by decide +kernel), List.mem_of_getElem? (i := 799) (by decide +kernel), List.mem_of_getElem? (i := 800) (by decide +kernel)⟩
theorem lw_p67 : lw_okq (⟨"StepMetersModel", "held", "(I)I"⟩, 20) := ⟨⟨by decide +kernel, by decide +kernel⟩, List.mem_of_getElem? (i := 655) (by decide +kernel), List.mem_of_getElem? (i := 803) (by decide +kernel), List.mem_of_getElem? (i := 804) (by decide +kernel)⟩
theorem lw_p68 : lw_okq (⟨"StepMetersModel", "readAll", "(I)V"⟩, 20) := ⟨⟨by decide +kernel, by decide +kernel⟩, List.mem_of_getElem? (i := 655) (by decide +kernel), List.mem_of_getElem? (i := 822) (by decide +kernel), List.mem_of_getElem? (i := 823) (by decide +kernel)⟩
theorem lw_p69 : lw_okq (⟨"StepMetersModel", "sortAll", "()V"⟩, 20) := ⟨⟨by decide +kernel, by decide +kernel⟩, List.mem_of_getElem? (i := 655) (by decide +kernel), List.mem_of_getElem? (i := 834) (by decide +kernel), List.mem_of_getElem? (i := 835) (by decide +kernel)⟩
theorem lw_p70 : lw_okq (⟨"StepMetersModel", "backOf", "()I"⟩, 20) := ⟨⟨by decide +kernel, by decide +kernel⟩, List.mem_of_getElem? (i := 655) (by decide +kernel), List.mem_of_getElem? (i := 846) (by decide +kernel), List.mem_of_getElem? (i := 847) (by decide +kernel)⟩
theorem lw_p71 : lw_okq (⟨"StepMetersModel", "edgeOf", "(I)I"⟩, 20) := ⟨⟨by decide +kernel, by decide +kernel⟩, List.mem_of_getElem? (i := 655) (by decide +kernel), List.mem_of_getElem? (i := 858) (by decide +kernel), List.mem_of_getElem? (i := 859) (by decide +kernel)⟩
theorem lw_p72 : lw_okq (⟨"StepMetersModel", "isOf", "(II)I"⟩, 20) := ⟨⟨by decide +kernel, by decide +kernel⟩, List.mem_of_getElem? (i := 655) (by decide +kernel), List.mem_of_getElem? (i := 870) (by decide +kernel), List.mem_of_getElem? (i := 871) (by decide +kernel)⟩
theorem lw_p73 : lw_okq (⟨"StepMetersModel", "divisor", "(II)I"⟩, 20) := ⟨⟨by decide +kernel, by decide +kernel⟩, List.mem_of_getElem? (i := 655) (by decide +kernel), List.mem_of_getElem? (i := 898) (by decide +kernel), List.mem_of_getElem? (i := 899) (by decide +kernel)⟩
theorem lw_p74 : lw_okq (⟨"StepMetersModel", "showsAt", "(II)Z"⟩, 20) := ⟨⟨by decide +kernel, by decide +kernel⟩, List.mem_of_getElem? (i := 655) (by decide +kernel), List.mem_of_getElem? (i := 914) (by decide +kernel), List.mem_of_getElem? (i := 915) (by decide +kernel)⟩
theorem lw_p75 : lw_okq (⟨"StepMetersModel", "faulty", "(II)I"⟩, 20) := ⟨⟨by decide +kernel, by decide +kernel⟩, List.mem_of_getElem? (i := 655) (by decide +kernel), List.mem_of_getElem? (i := 918) (by decide +kernel), List.mem_of_getElem? (i := 919) (by decide +kernel)⟩
theorem lw_p76 : lw_okq (⟨"StepMetersModel", "bitsAt", "(I)I"⟩, 20) := ⟨⟨by decide +kernel, by decide +kernel⟩, List.mem_of_getElem? (i := 655) (by decide +kernel), List.mem_of_getElem? (i := 926) (by decide +kernel), List.mem_of_getElem? (i := 927) (by decide +kernel)⟩
def lw_privs_5 : List (MethodName × Nat) := [(⟨"StepMetersModel", "isNumber", "(I)Z"⟩, 20), (⟨"StepMetersModel", "codeOf", "(II)I"⟩, 20), (⟨"StepMetersModel", "reads", "(II)V"⟩, 20), (⟨"StepMetersModel", "held", "(I)I"⟩, 20), (⟨"StepMetersModel", "readAll", "(I)V"⟩, 20), (⟨"StepMetersModel", "sortAll", "()V"⟩, 20), (⟨"StepMetersModel", "backOf", "()I"⟩, 20), (⟨"StepMetersModel", "edgeOf", "(I)I"⟩, 20), (⟨"StepMetersModel", "isOf", "(II)I"⟩, 20), (⟨"StepMetersModel", "divisor", "(II)I"⟩, 20), (⟨"StepMetersModel", "showsAt", "(II)Z"⟩, 20), (⟨"StepMetersModel", "faulty", "(II)I"⟩, 20), (⟨"StepMetersModel", "bitsAt", "(I)I"⟩, 20)]
theorem lw_r5 : ∀ q ∈ lw_privs_5, lw_okq q := List.forall_mem_cons.mpr ⟨lw_p64, List.forall_mem_cons.mpr ⟨lw_p65, List.forall_mem_cons.mpr ⟨lw_p66, List.forall_mem_cons.mpr ⟨lw_p67, List.forall_mem_cons.mpr ⟨lw_p68, List.forall_mem_cons.mpr ⟨lw_p69, List.forall_mem_cons.mpr ⟨lw_p70, List.forall_mem_cons.mpr ⟨lw_p71, List.forall_mem_cons.mpr ⟨lw_p72, List.forall_mem_cons.mpr ⟨lw_p73, List.forall_mem_cons.mpr ⟨lw_p74, List.forall_mem_cons.mpr ⟨lw_p75, List.forall_mem_cons.mpr ⟨lw_p76, fun _ h => absurd h List.not_mem_nil⟩⟩⟩⟩⟩⟩⟩⟩⟩⟩⟩⟩⟩
def lw_privs : List (MethodName × Nat) := lw_privs_1 ++ (lw_privs_2 ++ (lw_privs_3 ++ (lw_privs_4 ++ (lw_privs_5))))
def lw_tbl : List Cond := k2_sels lw_privs ++ tables_1
theorem lw_privs_ok : ∀ q ∈ lw_privs, lw_okq q := by
  show ∀ q ∈ lw_privs_1 ++ (lw_privs_2 ++ (lw_privs_3 ++ (lw_privs_4 ++ (lw_privs_5)))), lw_okq q
  exact List.forall_mem_append.mpr ⟨lw_r1, List.forall_mem_append.mpr ⟨lw_r2, List.forall_mem_append.mpr ⟨lw_r3, List.forall_mem_append.mpr ⟨lw_r4, lw_r5⟩⟩⟩⟩
-- ===== end of PART A; then your names; then what follows =====
end
section
/-! ===== BEGIN printed: names, fields, word lists, decode rows ===== -/
def RX0 : String := "StepMeters$Act"
def TX0 : u_T := fun k => match k with
  | 0 => ("StepMeters$Act", "worths", "[I", true)
  | 1 => ("StepMeters$Act", "what", "I", false)
  | 2 => ("StepMeters$Act", "meter", "I", false)
  | 3 => ("StepMeters$Act", "part", "I", false)
  | _ => ("StepMeters$Act", "old", "I", false)
def tyX0 : Nat → FieldType := fun k => match k with
  | 0 => .array .int
  | 1 => .int
  | 2 => .int
  | 3 => .int
  | _ => .int
abbrev wsX00 : List Cond := u_ws RX0 TX0 5
theorem nmX0 : ∀ a, a < 5 → ∀ b, b < 5 → a ≠ b → (TX0 a).2.1 ≠ (TX0 b).2.1 := by decide +kernel
theorem tyX0_ok : ∀ k, k < 5 → parseFieldDescriptor (TX0 k).2.2.1 = some (tyX0 k) := by decide +kernel
abbrev cX0_init : ByteArray := prog_2_method_1_code
def yX0_init : MethodName := ⟨RX0, "<init>", "()V"⟩
def RX1 : String := "StepMeters$Cover"
def TX1 : u_T := fun k => match k with
  | 0 => ("StepMeters$Cover", "fewestFor", "[I", true)
  | 1 => ("StepMeters$Cover", "masks", "[I", true)
  | 2 => ("StepMeters$Cover", "isMask", "[I", true)
  | 3 => ("StepMeters$Cover", "maskCount", "I", false)
  | _ => ("StepMeters$Cover", "all", "I", false)
def tyX1 : Nat → FieldType := fun k => match k with
  | 0 => .array .int
  | 1 => .array .int
  | 2 => .array .int
  | 3 => .int
  | _ => .int
abbrev wsX10 : List Cond := u_ws RX1 TX1 5
theorem nmX1 : ∀ a, a < 5 → ∀ b, b < 5 → a ≠ b → (TX1 a).2.1 ≠ (TX1 b).2.1 := by decide +kernel
theorem tyX1_ok : ∀ k, k < 5 → parseFieldDescriptor (TX1 k).2.2.1 = some (tyX1 k) := by decide +kernel
abbrev cX1_init : ByteArray := prog_3_method_1_code
def yX1_init : MethodName := ⟨RX1, "<init>", "()V"⟩
abbrev cX1_begin : ByteArray := prog_3_method_2_code
def yX1_begin : MethodName := ⟨RX1, "begin", "()V"⟩
abbrev cX1_addMask : ByteArray := prog_3_method_3_code
def yX1_addMask : MethodName := ⟨RX1, "addMask", "(I)V"⟩
abbrev cX1_fewest : ByteArray := prog_3_method_4_code
def yX1_fewest : MethodName := ⟨RX1, "fewest", "()I"⟩
abbrev cX1_growFrom : ByteArray := prog_3_method_5_code
def yX1_growFrom : MethodName := ⟨RX1, "growFrom", "(I)V"⟩
def RX2 : String := "StepMeters$Fault"
def TX2 : u_T := fun k => match k with
  | 0 => ("StepMeters$Fault", "meter", "I", false)
  | 1 => ("StepMeters$Fault", "part", "I", false)
  | _ => ("StepMeters$Fault", "miss", "I", false)
def tyX2 : Nat → FieldType := fun k => match k with
  | 0 => .int
  | 1 => .int
  | _ => .int
abbrev wsX20 : List Cond := u_ws RX2 TX2 3
theorem nmX2 : ∀ a, a < 3 → ∀ b, b < 3 → a ≠ b → (TX2 a).2.1 ≠ (TX2 b).2.1 := by decide +kernel
theorem tyX2_ok : ∀ k, k < 3 → parseFieldDescriptor (TX2 k).2.2.1 = some (tyX2 k) := by decide +kernel
abbrev cX2_init : ByteArray := prog_4_method_1_code
def yX2_init : MethodName := ⟨RX2, "<init>", "()V"⟩
abbrev cX2_become : ByteArray := prog_4_method_2_code
def yX2_become : MethodName := ⟨RX2, "become", "(III)V"⟩
def RX3 : String := "StepMeters$Meter"
def TX3 : u_T := fun k => match k with
  | 0 => ("StepMeters$Meter", "parts", "[LStepMeters$Part;", true)
  | 1 => ("StepMeters$Meter", "kind", "I", false)
  | 2 => ("StepMeters$Meter", "count", "I", false)
  | 3 => ("StepMeters$Meter", "code", "I", false)
  | 4 => ("StepMeters$Meter", "trail", "I", false)
  | _ => ("StepMeters$Meter", "rest", "I", false)
def tyX3 : Nat → FieldType := fun k => match k with
  | 0 => .array (.object "StepMeters$Part")
  | 1 => .int
  | 2 => .int
  | 3 => .int
  | 4 => .int
  | _ => .int
abbrev wsX30 : List Cond := u_ws RX3 TX3 6
theorem nmX3 : ∀ a, a < 6 → ∀ b, b < 6 → a ≠ b → (TX3 a).2.1 ≠ (TX3 b).2.1 := by decide +kernel
theorem tyX3_ok : ∀ k, k < 6 → parseFieldDescriptor (TX3 k).2.2.1 = some (tyX3 k) := by decide +kernel
abbrev cX3_init : ByteArray := prog_5_method_1_code
def yX3_init : MethodName := ⟨RX3, "<init>", "()V"⟩
abbrev cX3_begin : ByteArray := prog_5_method_2_code
def yX3_begin : MethodName := ⟨RX3, "begin", "(I)V"⟩
abbrev cX3_partAt : ByteArray := prog_5_method_3_code
def yX3_partAt : MethodName := ⟨RX3, "partAt", "(I)LStepMeters$Part;"⟩
abbrev cX3_isStaged : ByteArray := prog_5_method_4_code
def yX3_isStaged : MethodName := ⟨RX3, "isStaged", "()Z"⟩
abbrev cX3_addPart : ByteArray := prog_5_method_5_code
def yX3_addPart : MethodName := ⟨RX3, "addPart", "(II)V"⟩
abbrev cX3_dropPart : ByteArray := prog_5_method_6_code
def yX3_dropPart : MethodName := ⟨RX3, "dropPart", "()V"⟩
abbrev cX3_doubleWorths : ByteArray := prog_5_method_7_code
def yX3_doubleWorths : MethodName := ⟨RX3, "doubleWorths", "()V"⟩
abbrev cX3_mendWorths : ByteArray := prog_5_method_8_code
def yX3_mendWorths : MethodName := ⟨RX3, "mendWorths", "()V"⟩
abbrev cX3_keepWorths : ByteArray := prog_5_method_9_code
def yX3_keepWorths : MethodName := ⟨RX3, "keepWorths", "([I)V"⟩
abbrev cX3_giveWorths : ByteArray := prog_5_method_10_code
def yX3_giveWorths : MethodName := ⟨RX3, "giveWorths", "([I)V"⟩
abbrev cX3_codeOf : ByteArray := prog_5_method_11_code
def yX3_codeOf : MethodName := ⟨RX3, "codeOf", "(I)I"⟩
abbrev cX3_passEdges : ByteArray := prog_5_method_12_code
def yX3_passEdges : MethodName := ⟨RX3, "passEdges", "(I)V"⟩
abbrev cX3_weigh : ByteArray := prog_5_method_13_code
def yX3_weigh : MethodName := ⟨RX3, "weigh", "()V"⟩
abbrev cX3_passStages : ByteArray := prog_5_method_14_code
def yX3_passStages : MethodName := ⟨RX3, "passStages", "()V"⟩
abbrev cX3_together : ByteArray := prog_5_method_15_code
def yX3_together : MethodName := ⟨RX3, "together", "()I"⟩
abbrev cX3_firstUncovered : ByteArray := prog_5_method_16_code
def yX3_firstUncovered : MethodName := ⟨RX3, "firstUncovered", "()I"⟩
def RX4 : String := "StepMeters$Noise"
def TX4 : u_T := fun k => match k with
  | 0 => ("StepMeters$Noise", "sum", "[I", true)
  | 1 => ("StepMeters$Noise", "times", "[I", true)
  | _ => ("StepMeters$Noise", "held", "I", false)
def tyX4 : Nat → FieldType := fun k => match k with
  | 0 => .array .int
  | 1 => .array .int
  | _ => .int
abbrev wsX40 : List Cond := u_ws RX4 TX4 3
theorem nmX4 : ∀ a, a < 3 → ∀ b, b < 3 → a ≠ b → (TX4 a).2.1 ≠ (TX4 b).2.1 := by decide +kernel
theorem tyX4_ok : ∀ k, k < 3 → parseFieldDescriptor (TX4 k).2.2.1 = some (tyX4 k) := by decide +kernel
abbrev cX4_init : ByteArray := prog_6_method_1_code
def yX4_init : MethodName := ⟨RX4, "<init>", "()V"⟩
abbrev cX4_addSum : ByteArray := prog_6_method_2_code
def yX4_addSum : MethodName := ⟨RX4, "addSum", "(II)V"⟩
abbrev cX4_weighedCodes : ByteArray := prog_6_method_3_code
def yX4_weighedCodes : MethodName := ⟨RX4, "weighedCodes", "(LStepMeters$Meter;II)I"⟩
abbrev cX4_timesTogether : ByteArray := prog_6_method_4_code
def yX4_timesTogether : MethodName := ⟨RX4, "timesTogether", "()I"⟩
def RX5 : String := "StepMeters$Part"
def TX5 : u_T := fun k => match k with
  | 0 => ("StepMeters$Part", "size", "I", false)
  | 1 => ("StepMeters$Part", "miss", "I", false)
  | 2 => ("StepMeters$Part", "worth", "I", false)
  | _ => ("StepMeters$Part", "bound", "I", false)
def tyX5 : Nat → FieldType := fun k => match k with
  | 0 => .int
  | 1 => .int
  | 2 => .int
  | _ => .int
abbrev wsX50 : List Cond := u_ws RX5 TX5 4
theorem nmX5 : ∀ a, a < 4 → ∀ b, b < 4 → a ≠ b → (TX5 a).2.1 ≠ (TX5 b).2.1 := by decide +kernel
theorem tyX5_ok : ∀ k, k < 4 → parseFieldDescriptor (TX5 k).2.2.1 = some (tyX5 k) := by decide +kernel
abbrev cX5_init : ByteArray := prog_7_method_1_code
def yX5_init : MethodName := ⟨RX5, "<init>", "()V"⟩
abbrev cX5_asItIs : ByteArray := prog_7_method_2_code
def yX5_asItIs : MethodName := ⟨RX5, "asItIs", "()I"⟩
def RX6 : String := "StepMeters$Past"
def TX6 : u_T := fun k => match k with
  | 0 => ("StepMeters$Past", "ring", "[LStepMeters$Act;", true)
  | 1 => ("StepMeters$Past", "next", "I", false)
  | _ => ("StepMeters$Past", "held", "I", false)
def tyX6 : Nat → FieldType := fun k => match k with
  | 0 => .array (.object "StepMeters$Act")
  | 1 => .int
  | _ => .int
abbrev wsX60 : List Cond := u_ws RX6 TX6 3
theorem nmX6 : ∀ a, a < 3 → ∀ b, b < 3 → a ≠ b → (TX6 a).2.1 ≠ (TX6 b).2.1 := by decide +kernel
theorem tyX6_ok : ∀ k, k < 3 → parseFieldDescriptor (TX6 k).2.2.1 = some (tyX6 k) := by decide +kernel
abbrev cX6_init : ByteArray := prog_8_method_1_code
def yX6_init : MethodName := ⟨RX6, "<init>", "()V"⟩
abbrev cX6_slotAt : ByteArray := prog_8_method_2_code
def yX6_slotAt : MethodName := ⟨RX6, "slotAt", "(I)LStepMeters$Act;"⟩
abbrev cX6_addAct : ByteArray := prog_8_method_3_code
def yX6_addAct : MethodName := ⟨RX6, "addAct", "(III)LStepMeters$Act;"⟩
abbrev cX6_latestPlace : ByteArray := prog_8_method_4_code
def yX6_latestPlace : MethodName := ⟨RX6, "latestPlace", "()I"⟩
abbrev cX6_latest : ByteArray := prog_8_method_5_code
def yX6_latest : MethodName := ⟨RX6, "latest", "()LStepMeters$Act;"⟩
abbrev cX6_dropLatest : ByteArray := prog_8_method_6_code
def yX6_dropLatest : MethodName := ⟨RX6, "dropLatest", "()V"⟩
def RX7 : String := "StepMeters$Table"
def TX7 : u_T := fun k => match k with
  | 0 => ("StepMeters$Table", "row", "[I", true)
  | 1 => ("StepMeters$Table", "met", "[J", true)
  | _ => ("StepMeters$Table", "last", "I", false)
def tyX7 : Nat → FieldType := fun k => match k with
  | 0 => .array .int
  | 1 => .array .long
  | _ => .int
abbrev wsX70 : List Cond := u_ws RX7 TX7 3
theorem nmX7 : ∀ a, a < 3 → ∀ b, b < 3 → a ≠ b → (TX7 a).2.1 ≠ (TX7 b).2.1 := by decide +kernel
theorem tyX7_ok : ∀ k, k < 3 → parseFieldDescriptor (TX7 k).2.2.1 = some (tyX7 k) := by decide +kernel
abbrev cX7_init : ByteArray := prog_9_method_1_code
def yX7_init : MethodName := ⟨RX7, "<init>", "()V"⟩
abbrev cX7_fillFrom : ByteArray := prog_9_method_2_code
def yX7_fillFrom : MethodName := ⟨RX7, "fillFrom", "(LStepMeters$Meter;I)V"⟩
abbrev cX7_codeAt : ByteArray := prog_9_method_3_code
def yX7_codeAt : MethodName := ⟨RX7, "codeAt", "(I)I"⟩
abbrev cX7_endsSpan : ByteArray := prog_9_method_4_code
def yX7_endsSpan : MethodName := ⟨RX7, "endsSpan", "(I)Z"⟩
abbrev cX7_spanCount : ByteArray := prog_9_method_5_code
def yX7_spanCount : MethodName := ⟨RX7, "spanCount", "()I"⟩
abbrev cX7_spanStart : ByteArray := prog_9_method_6_code
def yX7_spanStart : MethodName := ⟨RX7, "spanStart", "(I)I"⟩
abbrev cX7_spanEnd : ByteArray := prog_9_method_7_code
def yX7_spanEnd : MethodName := ⟨RX7, "spanEnd", "(I)I"⟩
abbrev cX7_widestSpan : ByteArray := prog_9_method_8_code
def yX7_widestSpan : MethodName := ⟨RX7, "widestSpan", "()I"⟩
abbrev cX7_unlikeFrom : ByteArray := prog_9_method_9_code
def yX7_unlikeFrom : MethodName := ⟨RX7, "unlikeFrom", "(I)I"⟩
abbrev cX7_isFirstMet : ByteArray := prog_9_method_10_code
def yX7_isFirstMet : MethodName := ⟨RX7, "isFirstMet", "(I)Z"⟩
abbrev cX7_greatestCode : ByteArray := prog_9_method_11_code
def yX7_greatestCode : MethodName := ⟨RX7, "greatestCode", "()I"⟩
abbrev cX7_firstBack : ByteArray := prog_9_method_12_code
def yX7_firstBack : MethodName := ⟨RX7, "firstBack", "()I"⟩
abbrev cX7_edgeOf : ByteArray := prog_9_method_13_code
def yX7_edgeOf : MethodName := ⟨RX7, "edgeOf", "(I)I"⟩
abbrev cX7_worstOfLine : ByteArray := prog_9_method_14_code
def yX7_worstOfLine : MethodName := ⟨RX7, "worstOfLine", "(IZ)I"⟩
def RX8 : String := "StepMeters"
def TX8 : u_T := fun k => match k with
  | 0 => ("StepMeters", "meters", "[LStepMeters$Meter;", true)
  | 1 => ("StepMeters", "table", "LStepMeters$Table;", true)
  | 2 => ("StepMeters", "sums", "LStepMeters$Noise;", true)
  | 3 => ("StepMeters", "faults", "[LStepMeters$Fault;", true)
  | 4 => ("StepMeters", "faultCodes", "[I", true)
  | 5 => ("StepMeters", "toldApart", "[I", true)
  | 6 => ("StepMeters", "cover", "LStepMeters$Cover;", true)
  | 7 => ("StepMeters", "past", "LStepMeters$Past;", true)
  | 8 => ("StepMeters", "top", "I", false)
  | 9 => ("StepMeters", "meterCount", "I", false)
  | 10 => ("StepMeters", "faultCount", "I", false)
  | 11 => ("StepMeters", "status", "I", false)
  | _ => ("StepMeters", "tableOf", "I", false)
def tyX8 : Nat → FieldType := fun k => match k with
  | 0 => .array (.object "StepMeters$Meter")
  | 1 => .object "StepMeters$Table"
  | 2 => .object "StepMeters$Noise"
  | 3 => .array (.object "StepMeters$Fault")
  | 4 => .array .int
  | 5 => .array .int
  | 6 => .object "StepMeters$Cover"
  | 7 => .object "StepMeters$Past"
  | 8 => .int
  | 9 => .int
  | 10 => .int
  | 11 => .int
  | _ => .int
abbrev wsX80 : List Cond := u_ws RX8 TX8 13
theorem nmX8 : ∀ a, a < 13 → ∀ b, b < 13 → a ≠ b → (TX8 a).2.1 ≠ (TX8 b).2.1 := by decide +kernel
theorem tyX8_ok : ∀ k, k < 13 → parseFieldDescriptor (TX8 k).2.2.1 = some (tyX8 k) := by decide +kernel
abbrev cX8_init : ByteArray := prog_1_method_1_code
def yX8_init : MethodName := ⟨RX8, "<init>", "()V"⟩
abbrev cX8_range : ByteArray := prog_1_method_2_code
def yX8_range : MethodName := ⟨RX8, "range", "(I)Z"⟩
abbrev cX8_meter : ByteArray := prog_1_method_3_code
def yX8_meter : MethodName := ⟨RX8, "meter", "(I)I"⟩
abbrev cX8_part : ByteArray := prog_1_method_4_code
def yX8_part : MethodName := ⟨RX8, "part", "(III)I"⟩
abbrev cX8_miss : ByteArray := prog_1_method_5_code
def yX8_miss : MethodName := ⟨RX8, "miss", "(III)Z"⟩
abbrev cX8_worth : ByteArray := prog_1_method_6_code
def yX8_worth : MethodName := ⟨RX8, "worth", "(III)Z"⟩
abbrev cX8_partOf : ByteArray := prog_1_method_7_code
def yX8_partOf : MethodName := ⟨RX8, "partOf", "(III)I"⟩
abbrev cX8_kind : ByteArray := prog_1_method_8_code
def yX8_kind : MethodName := ⟨RX8, "kind", "(II)I"⟩
abbrev cX8_read : ByteArray := prog_1_method_9_code
def yX8_read : MethodName := ⟨RX8, "read", "(II)I"⟩
abbrev cX8_trail : ByteArray := prog_1_method_10_code
def yX8_trail : MethodName := ⟨RX8, "trail", "(II)I"⟩
abbrev cX8_rest : ByteArray := prog_1_method_11_code
def yX8_rest : MethodName := ⟨RX8, "rest", "(II)I"⟩
abbrev cX8_spans : ByteArray := prog_1_method_12_code
def yX8_spans : MethodName := ⟨RX8, "spans", "(I)I"⟩
abbrev cX8_span : ByteArray := prog_1_method_13_code
def yX8_span : MethodName := ⟨RX8, "span", "(III)I"⟩
abbrev cX8_codes : ByteArray := prog_1_method_14_code
def yX8_codes : MethodName := ⟨RX8, "codes", "(I)I"⟩
abbrev cX8_lacks : ByteArray := prog_1_method_15_code
def yX8_lacks : MethodName := ⟨RX8, "lacks", "(I)I"⟩
abbrev cX8_back : ByteArray := prog_1_method_16_code
def yX8_back : MethodName := ⟨RX8, "back", "(I)I"⟩
abbrev cX8_widest : ByteArray := prog_1_method_17_code
def yX8_widest : MethodName := ⟨RX8, "widest", "(I)I"⟩
abbrev cX8_edge : ByteArray := prog_1_method_18_code
def yX8_edge : MethodName := ⟨RX8, "edge", "(II)I"⟩
abbrev cX8_line : ByteArray := prog_1_method_19_code
def yX8_line : MethodName := ⟨RX8, "line", "(II)I"⟩
abbrev cX8_covered : ByteArray := prog_1_method_20_code
def yX8_covered : MethodName := ⟨RX8, "covered", "(I)I"⟩
abbrev cX8_tail : ByteArray := prog_1_method_21_code
def yX8_tail : MethodName := ⟨RX8, "tail", "(I)I"⟩
abbrev cX8_mend : ByteArray := prog_1_method_22_code
def yX8_mend : MethodName := ⟨RX8, "mend", "(I)Z"⟩
abbrev cX8_count : ByteArray := prog_1_method_23_code
def yX8_count : MethodName := ⟨RX8, "count", "(IIIII)I"⟩
abbrev cX8_noise : ByteArray := prog_1_method_24_code
def yX8_noise : MethodName := ⟨RX8, "noise", "(II)I"⟩
abbrev cX8_still : ByteArray := prog_1_method_25_code
def yX8_still : MethodName := ⟨RX8, "still", "()I"⟩
abbrev cX8_mean : ByteArray := prog_1_method_26_code
def yX8_mean : MethodName := ⟨RX8, "mean", "(IIZ)I"⟩
abbrev cX8_fault : ByteArray := prog_1_method_27_code
def yX8_fault : MethodName := ⟨RX8, "fault", "(III)I"⟩
abbrev cX8_clear : ByteArray := prog_1_method_28_code
def yX8_clear : MethodName := ⟨RX8, "clear", "()I"⟩
abbrev cX8_shown : ByteArray := prog_1_method_29_code
def yX8_shown : MethodName := ⟨RX8, "shown", "(I)I"⟩
abbrev cX8_shows : ByteArray := prog_1_method_30_code
def yX8_shows : MethodName := ⟨RX8, "shows", "()I"⟩
abbrev cX8_showing : ByteArray := prog_1_method_31_code
def yX8_showing : MethodName := ⟨RX8, "showing", "(I)I"⟩
abbrev cX8_alike : ByteArray := prog_1_method_32_code
def yX8_alike : MethodName := ⟨RX8, "alike", "()I"⟩
abbrev cX8_beyond : ByteArray := prog_1_method_33_code
def yX8_beyond : MethodName := ⟨RX8, "beyond", "(I)I"⟩
abbrev cX8_joined : ByteArray := prog_1_method_34_code
def yX8_joined : MethodName := ⟨RX8, "joined", "(IIII)I"⟩
abbrev cX8_undo : ByteArray := prog_1_method_35_code
def yX8_undo : MethodName := ⟨RX8, "undo", "()I"⟩
abbrev cX8_size : ByteArray := prog_1_method_36_code
def yX8_size : MethodName := ⟨RX8, "size", "(I)I"⟩
abbrev cX8_trouble : ByteArray := prog_1_method_37_code
def yX8_trouble : MethodName := ⟨RX8, "trouble", "()I"⟩
abbrev cX8_isWithin : ByteArray := prog_1_method_38_code
def yX8_isWithin : MethodName := ⟨RX8, "isWithin", "(II)Z"⟩
abbrev cX8_isNumber : ByteArray := prog_1_method_39_code
def yX8_isNumber : MethodName := ⟨RX8, "isNumber", "(I)Z"⟩
abbrev cX8_meterAt : ByteArray := prog_1_method_40_code
def yX8_meterAt : MethodName := ⟨RX8, "meterAt", "(I)LStepMeters$Meter;"⟩
abbrev cX8_partAt : ByteArray := prog_1_method_41_code
def yX8_partAt : MethodName := ⟨RX8, "partAt", "(II)LStepMeters$Part;"⟩
abbrev cX8_faultAt : ByteArray := prog_1_method_42_code
def yX8_faultAt : MethodName := ⟨RX8, "faultAt", "(I)LStepMeters$Fault;"⟩
abbrev cX8_whyNoPart : ByteArray := prog_1_method_43_code
def yX8_whyNoPart : MethodName := ⟨RX8, "whyNoPart", "(LStepMeters$Meter;II)I"⟩
abbrev cX8_whyNoBalance : ByteArray := prog_1_method_44_code
def yX8_whyNoBalance : MethodName := ⟨RX8, "whyNoBalance", "(LStepMeters$Meter;)I"⟩
abbrev cX8_fillTable : ByteArray := prog_1_method_45_code
def yX8_fillTable : MethodName := ⟨RX8, "fillTable", "(I)Z"⟩
abbrev cX8_isTabled : ByteArray := prog_1_method_46_code
def yX8_isTabled : MethodName := ⟨RX8, "isTabled", "(I)Z"⟩
abbrev cX8_commonDivisor : ByteArray := prog_1_method_47_code
def yX8_commonDivisor : MethodName := ⟨RX8, "commonDivisor", "(II)I"⟩
abbrev cX8_isShownBy : ByteArray := prog_1_method_48_code
def yX8_isShownBy : MethodName := ⟨RX8, "isShownBy", "(LStepMeters$Fault;I)Z"⟩
abbrev cX8_codeWith : ByteArray := prog_1_method_49_code
def yX8_codeWith : MethodName := ⟨RX8, "codeWith", "(LStepMeters$Fault;I)I"⟩
abbrev cX8_faultsShownBy : ByteArray := prog_1_method_50_code
def yX8_faultsShownBy : MethodName := ⟨RX8, "faultsShownBy", "(I)I"⟩
abbrev cX8_tellApart : ByteArray := prog_1_method_51_code
def yX8_tellApart : MethodName := ⟨RX8, "tellApart", "(I)V"⟩
abbrev cX8_areAlike : ByteArray := prog_1_method_52_code
def yX8_areAlike : MethodName := ⟨RX8, "areAlike", "(II)Z"⟩
abbrev cX8_newAct : ByteArray := prog_1_method_53_code
def yX8_newAct : MethodName := ⟨RX8, "newAct", "(III)LStepMeters$Act;"⟩
abbrev cX8_takeBack : ByteArray := prog_1_method_54_code
def yX8_takeBack : MethodName := ⟨RX8, "takeBack", "(LStepMeters$Act;)V"⟩
abbrev cX8_dropGoneFaults : ByteArray := prog_1_method_55_code
def yX8_dropGoneFaults : MethodName := ⟨RX8, "dropGoneFaults", "()V"⟩
def RX9 : String := "StepMetersModel"
def TX9 : u_T := fun k => match k with
  | 0 => ("StepMetersModel", "now", "[I", true)
  | 1 => ("StepMetersModel", "past", "[I", true)
  | 2 => ("StepMetersModel", "acts", "I", false)
  | 3 => ("StepMetersModel", "trouble", "I", false)
  | 4 => ("StepMetersModel", "thrown", "I", false)
  | 5 => ("StepMetersModel", "noise", "[I", true)
  | 6 => ("StepMetersModel", "often", "[I", true)
  | 7 => ("StepMetersModel", "faultMeter", "[I", true)
  | 8 => ("StepMetersModel", "faultPart", "[I", true)
  | 9 => ("StepMetersModel", "faultMiss", "[I", true)
  | 10 => ("StepMetersModel", "noises", "I", false)
  | 11 => ("StepMetersModel", "faults", "I", false)
  | 12 => ("StepMetersModel", "code", "I", false)
  | 13 => ("StepMetersModel", "trail", "I", false)
  | 14 => ("StepMetersModel", "rest", "I", false)
  | 15 => ("StepMetersModel", "codes", "[I", true)
  | 16 => ("StepMetersModel", "sorted", "[I", true)
  | 17 => ("StepMetersModel", "melted", "[I", true)
  | 18 => ("StepMetersModel", "isThere", "[Z", true)
  | _ => ("StepMetersModel", "fewest", "[I", true)
def tyX9 : Nat → FieldType := fun k => match k with
  | 0 => .array .int
  | 1 => .array .int
  | 2 => .int
  | 3 => .int
  | 4 => .int
  | 5 => .array .int
  | 6 => .array .int
  | 7 => .array .int
  | 8 => .array .int
  | 9 => .array .int
  | 10 => .int
  | 11 => .int
  | 12 => .int
  | 13 => .int
  | 14 => .int
  | 15 => .array .int
  | 16 => .array .int
  | 17 => .array .int
  | 18 => .array .boolean
  | _ => .array .int
abbrev wsX90 : List Cond := u_ws RX9 TX9 20
theorem nmX9 : ∀ a, a < 20 → ∀ b, b < 20 → a ≠ b → (TX9 a).2.1 ≠ (TX9 b).2.1 := by decide +kernel
theorem tyX9_ok : ∀ k, k < 20 → parseFieldDescriptor (TX9 k).2.2.1 = some (tyX9 k) := by decide +kernel
abbrev cX9_init : ByteArray := prog_11_method_1_code
def yX9_init : MethodName := ⟨RX9, "<init>", "()V"⟩
abbrev cX9_in : ByteArray := prog_11_method_3_code
def yX9_in : MethodName := ⟨RX9, "in", "(III)Z"⟩
abbrev cX9_no : ByteArray := prog_11_method_4_code
def yX9_no : MethodName := ⟨RX9, "no", "(I)I"⟩
abbrev cX9_not : ByteArray := prog_11_method_5_code
def yX9_not : MethodName := ⟨RX9, "not", "(I)Z"⟩
abbrev cX9_act : ByteArray := prog_11_method_6_code
def yX9_act : MethodName := ⟨RX9, "act", "()V"⟩
abbrev cX9_undo : ByteArray := prog_11_method_7_code
def yX9_undo : MethodName := ⟨RX9, "undo", "()I"⟩
abbrev cX9_isMeter : ByteArray := prog_11_method_8_code
def yX9_isMeter : MethodName := ⟨RX9, "isMeter", "(I)Z"⟩
abbrev cX9_isPart : ByteArray := prog_11_method_9_code
def yX9_isPart : MethodName := ⟨RX9, "isPart", "(II)Z"⟩
abbrev cX9_isNumber : ByteArray := prog_11_method_10_code
def yX9_isNumber : MethodName := ⟨RX9, "isNumber", "(I)Z"⟩
abbrev cX9_at : ByteArray := prog_11_method_11_code
def yX9_at : MethodName := ⟨RX9, "at", "(II)I"⟩
abbrev cX9_range : ByteArray := prog_11_method_12_code
def yX9_range : MethodName := ⟨RX9, "range", "(I)Z"⟩
abbrev cX9_meter : ByteArray := prog_11_method_13_code
def yX9_meter : MethodName := ⟨RX9, "meter", "(I)I"⟩
abbrev cX9_isStaged : ByteArray := prog_11_method_14_code
def yX9_isStaged : MethodName := ⟨RX9, "isStaged", "(I)Z"⟩
abbrev cX9_part : ByteArray := prog_11_method_15_code
def yX9_part : MethodName := ⟨RX9, "part", "(III)I"⟩
abbrev cX9_miss : ByteArray := prog_11_method_16_code
def yX9_miss : MethodName := ⟨RX9, "miss", "(III)Z"⟩
abbrev cX9_worth : ByteArray := prog_11_method_17_code
def yX9_worth : MethodName := ⟨RX9, "worth", "(III)Z"⟩
abbrev cX9_partOf : ByteArray := prog_11_method_18_code
def yX9_partOf : MethodName := ⟨RX9, "partOf", "(III)I"⟩
abbrev cX9_kind : ByteArray := prog_11_method_19_code
def yX9_kind : MethodName := ⟨RX9, "kind", "(II)I"⟩
abbrev cX9_held : ByteArray := prog_11_method_20_code
def yX9_held : MethodName := ⟨RX9, "held", "(I)I"⟩
abbrev cX9_reads : ByteArray := prog_11_method_21_code
def yX9_reads : MethodName := ⟨RX9, "reads", "(II)V"⟩
abbrev cX9_codeOf : ByteArray := prog_11_method_22_code
def yX9_codeOf : MethodName := ⟨RX9, "codeOf", "(II)I"⟩
abbrev cX9_read : ByteArray := prog_11_method_23_code
def yX9_read : MethodName := ⟨RX9, "read", "(II)I"⟩
abbrev cX9_trail : ByteArray := prog_11_method_24_code
def yX9_trail : MethodName := ⟨RX9, "trail", "(II)I"⟩
abbrev cX9_rest : ByteArray := prog_11_method_25_code
def yX9_rest : MethodName := ⟨RX9, "rest", "(II)I"⟩
abbrev cX9_readAll : ByteArray := prog_11_method_26_code
def yX9_readAll : MethodName := ⟨RX9, "readAll", "(I)V"⟩
abbrev cX9_spans : ByteArray := prog_11_method_27_code
def yX9_spans : MethodName := ⟨RX9, "spans", "(I)I"⟩
abbrev cX9_span : ByteArray := prog_11_method_28_code
def yX9_span : MethodName := ⟨RX9, "span", "(III)I"⟩
abbrev cX9_sortAll : ByteArray := prog_11_method_29_code
def yX9_sortAll : MethodName := ⟨RX9, "sortAll", "()V"⟩
abbrev cX9_codes : ByteArray := prog_11_method_30_code
def yX9_codes : MethodName := ⟨RX9, "codes", "(I)I"⟩
abbrev cX9_lacks : ByteArray := prog_11_method_31_code
def yX9_lacks : MethodName := ⟨RX9, "lacks", "(I)I"⟩
abbrev cX9_backOf : ByteArray := prog_11_method_32_code
def yX9_backOf : MethodName := ⟨RX9, "backOf", "()I"⟩
abbrev cX9_back : ByteArray := prog_11_method_33_code
def yX9_back : MethodName := ⟨RX9, "back", "(I)I"⟩
abbrev cX9_widest : ByteArray := prog_11_method_34_code
def yX9_widest : MethodName := ⟨RX9, "widest", "(I)I"⟩
abbrev cX9_edgeOf : ByteArray := prog_11_method_35_code
def yX9_edgeOf : MethodName := ⟨RX9, "edgeOf", "(I)I"⟩
abbrev cX9_edge : ByteArray := prog_11_method_36_code
def yX9_edge : MethodName := ⟨RX9, "edge", "(II)I"⟩
abbrev cX9_line : ByteArray := prog_11_method_37_code
def yX9_line : MethodName := ⟨RX9, "line", "(II)I"⟩
abbrev cX9_isOf : ByteArray := prog_11_method_38_code
def yX9_isOf : MethodName := ⟨RX9, "isOf", "(II)I"⟩
abbrev cX9_covered : ByteArray := prog_11_method_39_code
def yX9_covered : MethodName := ⟨RX9, "covered", "(I)I"⟩
abbrev cX9_tail : ByteArray := prog_11_method_40_code
def yX9_tail : MethodName := ⟨RX9, "tail", "(I)I"⟩
abbrev cX9_mend : ByteArray := prog_11_method_41_code
def yX9_mend : MethodName := ⟨RX9, "mend", "(I)Z"⟩
abbrev cX9_count : ByteArray := prog_11_method_42_code
def yX9_count : MethodName := ⟨RX9, "count", "(IIIII)I"⟩
abbrev cX9_noise : ByteArray := prog_11_method_43_code
def yX9_noise : MethodName := ⟨RX9, "noise", "(II)I"⟩
abbrev cX9_still : ByteArray := prog_11_method_44_code
def yX9_still : MethodName := ⟨RX9, "still", "()I"⟩
abbrev cX9_divisor : ByteArray := prog_11_method_45_code
def yX9_divisor : MethodName := ⟨RX9, "divisor", "(II)I"⟩
abbrev cX9_mean : ByteArray := prog_11_method_46_code
def yX9_mean : MethodName := ⟨RX9, "mean", "(IIZ)I"⟩
abbrev cX9_fault : ByteArray := prog_11_method_47_code
def yX9_fault : MethodName := ⟨RX9, "fault", "(III)I"⟩
abbrev cX9_clear : ByteArray := prog_11_method_48_code
def yX9_clear : MethodName := ⟨RX9, "clear", "()I"⟩
abbrev cX9_faulty : ByteArray := prog_11_method_49_code
def yX9_faulty : MethodName := ⟨RX9, "faulty", "(II)I"⟩
abbrev cX9_showsAt : ByteArray := prog_11_method_50_code
def yX9_showsAt : MethodName := ⟨RX9, "showsAt", "(II)Z"⟩
abbrev cX9_shown : ByteArray := prog_11_method_51_code
def yX9_shown : MethodName := ⟨RX9, "shown", "(I)I"⟩
abbrev cX9_bitsAt : ByteArray := prog_11_method_52_code
def yX9_bitsAt : MethodName := ⟨RX9, "bitsAt", "(I)I"⟩
abbrev cX9_shows : ByteArray := prog_11_method_53_code
def yX9_shows : MethodName := ⟨RX9, "shows", "()I"⟩
abbrev cX9_showing : ByteArray := prog_11_method_54_code
def yX9_showing : MethodName := ⟨RX9, "showing", "(I)I"⟩
abbrev cX9_alike : ByteArray := prog_11_method_55_code
def yX9_alike : MethodName := ⟨RX9, "alike", "()I"⟩
abbrev cX9_beyond : ByteArray := prog_11_method_56_code
def yX9_beyond : MethodName := ⟨RX9, "beyond", "(I)I"⟩
abbrev cX9_joined : ByteArray := prog_11_method_57_code
def yX9_joined : MethodName := ⟨RX9, "joined", "(IIII)I"⟩
abbrev cX9_size : ByteArray := prog_11_method_58_code
def yX9_size : MethodName := ⟨RX9, "size", "(I)I"⟩
abbrev cX9_trouble : ByteArray := prog_11_method_59_code
def yX9_trouble : MethodName := ⟨RX9, "trouble", "()I"⟩
def RJ9 : String := "java/lang/Math"
def TJ9 : u_T := fun k => match k with
  | _ => ("", "", "", false)
def tyJ9 : Nat → FieldType := fun k => match k with
  | _ => .int
abbrev wsJ90 : List Cond := u_ws RJ9 TJ9 0
theorem nmJ9 : ∀ a, a < 0 → ∀ b, b < 0 → a ≠ b → (TJ9 a).2.1 ≠ (TJ9 b).2.1 := by decide +kernel
theorem tyJ9_ok : ∀ k, k < 0 → parseFieldDescriptor (TJ9 k).2.2.1 = some (tyJ9 k) := by decide +kernel
abbrev cJ9_abs_0f7a4 : ByteArray := prog_12_method_59_code
def yJ9_abs_0f7a4 : MethodName := ⟨RJ9, "abs", "(I)I"⟩
abbrev cJ9_max_7cf53 : ByteArray := prog_12_method_65_code
def yJ9_max_7cf53 : MethodName := ⟨RJ9, "max", "(II)I"⟩
abbrev cJ9_min_7cf53 : ByteArray := prog_12_method_69_code
def yJ9_min_7cf53 : MethodName := ⟨RJ9, "min", "(II)I"⟩
def RJ7 : String := "java/util/Arrays"
def TJ7 : u_T := fun k => match k with
  | _ => ("", "", "", false)
def tyJ7 : Nat → FieldType := fun k => match k with
  | _ => .int
abbrev wsJ70 : List Cond := u_ws RJ7 TJ7 0
theorem nmJ7 : ∀ a, a < 0 → ∀ b, b < 0 → a ≠ b → (TJ7 a).2.1 ≠ (TJ7 b).2.1 := by decide +kernel
theorem tyJ7_ok : ∀ k, k < 0 → parseFieldDescriptor (TJ7 k).2.2.1 = some (tyJ7 k) := by decide +kernel
abbrev cJ7_fill_d0a16 : ByteArray := prog_13_method_101_code
def yJ7_fill_d0a16 : MethodName := ⟨RJ7, "fill", "([JJ)V"⟩
abbrev cJ7_fill_53178 : ByteArray := prog_13_method_103_code
def yJ7_fill_53178 : MethodName := ⟨RJ7, "fill", "([II)V"⟩
abbrev vwCl : List vw_C := [(RX0, TX0, 5), (RX1, TX1, 5), (RX2, TX2, 3), (RX3, TX3, 6), (RX4, TX4, 3), (RX5, TX5, 4), (RX6, TX6, 3), (RX7, TX7, 3), (RX8, TX8, 13), (RX9, TX9, 20)]
def RL : String := "StepMetersLaw"
abbrev cL_law : ByteArray := code
def yL_law : MethodName := ⟨RL, "law", "([I)Z"⟩
end
section
theorem all_d {b : ByteArray} {l : List (Nat × Instr × Nat)} (h : l.all (fun q => decide (decode b q.1 = .ok (q.2.1, q.2.2))) = true) (i : Nat) {pc len : Nat} {ins : Instr} (hi : l[i]? = some (pc, ins, len)) : decode b pc = .ok (ins, len) := of_decide_eq_true (List.all_eq_true.mp h (pc, ins, len) (List.mem_of_getElem? hi))
set_option maxRecDepth 100000 in
theorem dX0_init_all0 : ([(0, (.aload_n 0 : Instr), 1), (1, (.invokespecial 3 : Instr), 3), (4, (.aload_n 0 : Instr), 1), (5, (.bipush 16 : Instr), 2), (7, (.newarray .int : Instr), 2), (9, (.putfield 9 : Instr), 3), (12, (.return_ : Instr), 1)] : List (Nat × Instr × Nat)).all (fun q => decide (decode cX0_init q.1 = .ok (q.2.1, q.2.2))) = true := by decide +kernel
theorem dX0_init_0 : decode cX0_init 0 = .ok (.aload_n 0, 1) := all_d dX0_init_all0 0 rfl
theorem dX0_init_1 : decode cX0_init 1 = .ok (.invokespecial 3, 3) := all_d dX0_init_all0 1 rfl
theorem dX0_init_4 : decode cX0_init 4 = .ok (.aload_n 0, 1) := all_d dX0_init_all0 2 rfl
theorem dX0_init_5 : decode cX0_init 5 = .ok (.bipush 16, 2) := all_d dX0_init_all0 3 rfl
theorem dX0_init_7 : decode cX0_init 7 = .ok (.newarray .int, 2) := all_d dX0_init_all0 4 rfl
theorem dX0_init_9 : decode cX0_init 9 = .ok (.putfield 9, 3) := all_d dX0_init_all0 5 rfl
theorem dX0_init_12 : decode cX0_init 12 = .ok (.return_, 1) := all_d dX0_init_all0 6 rfl
set_option maxRecDepth 100000 in
theorem dX1_init_all0 : ([(0, (.aload_n 0 : Instr), 1), (1, (.invokespecial 3 : Instr), 3), (4, (.aload_n 0 : Instr), 1), (5, (.sipush 1024 : Instr), 3), (8, (.newarray .int : Instr), 2), (10, (.putfield 11 : Instr), 3), (13, (.aload_n 0 : Instr), 1), (14, (.sipush 1024 : Instr), 3), (17, (.newarray .int : Instr), 2), (19, (.putfield 15 : Instr), 3), (22, (.aload_n 0 : Instr), 1), (23, (.sipush 1024 : Instr), 3), (26, (.newarray .int : Instr), 2), (28, (.putfield 18 : Instr), 3), (31, (.return_ : Instr), 1)] : List (Nat × Instr × Nat)).all (fun q => decide (decode cX1_init q.1 = .ok (q.2.1, q.2.2))) = true := by decide +kernel
theorem dX1_init_0 : decode cX1_init 0 = .ok (.aload_n 0, 1) := all_d dX1_init_all0 0 rfl
theorem dX1_init_1 : decode cX1_init 1 = .ok (.invokespecial 3, 3) := all_d dX1_init_all0 1 rfl
theorem dX1_init_4 : decode cX1_init 4 = .ok (.aload_n 0, 1) := all_d dX1_init_all0 2 rfl
theorem dX1_init_5 : decode cX1_init 5 = .ok (.sipush 1024, 3) := all_d dX1_init_all0 3 rfl
theorem dX1_init_8 : decode cX1_init 8 = .ok (.newarray .int, 2) := all_d dX1_init_all0 4 rfl
theorem dX1_init_10 : decode cX1_init 10 = .ok (.putfield 11, 3) := all_d dX1_init_all0 5 rfl
theorem dX1_init_13 : decode cX1_init 13 = .ok (.aload_n 0, 1) := all_d dX1_init_all0 6 rfl
theorem dX1_init_14 : decode cX1_init 14 = .ok (.sipush 1024, 3) := all_d dX1_init_all0 7 rfl
theorem dX1_init_17 : decode cX1_init 17 = .ok (.newarray .int, 2) := all_d dX1_init_all0 8 rfl
theorem dX1_init_19 : decode cX1_init 19 = .ok (.putfield 15, 3) := all_d dX1_init_all0 9 rfl
theorem dX1_init_22 : decode cX1_init 22 = .ok (.aload_n 0, 1) := all_d dX1_init_all0 10 rfl
theorem dX1_init_23 : decode cX1_init 23 = .ok (.sipush 1024, 3) := all_d dX1_init_all0 11 rfl
theorem dX1_init_26 : decode cX1_init 26 = .ok (.newarray .int, 2) := all_d dX1_init_all0 12 rfl
theorem dX1_init_28 : decode cX1_init 28 = .ok (.putfield 18, 3) := all_d dX1_init_all0 13 rfl
theorem dX1_init_31 : decode cX1_init 31 = .ok (.return_, 1) := all_d dX1_init_all0 14 rfl
set_option maxRecDepth 100000 in
theorem dX1_begin_all0 : ([(0, (.aload_n 0 : Instr), 1), (1, (.getfield 11 : Instr), 3), (4, (.sipush 1000 : Instr), 3), (7, (.invokestatic 21 : Instr), 3), (10, (.aload_n 0 : Instr), 1), (11, (.getfield 18 : Instr), 3), (14, (.iconst 0 : Instr), 1), (15, (.invokestatic 21 : Instr), 3), (18, (.aload_n 0 : Instr), 1), (19, (.getfield 11 : Instr), 3), (22, (.iconst 0 : Instr), 1), (23, (.iconst 0 : Instr), 1), (24, (.iastore : Instr), 1), (25, (.aload_n 0 : Instr), 1), (26, (.iconst 0 : Instr), 1), (27, (.putfield 27 : Instr), 3), (30, (.aload_n 0 : Instr), 1), (31, (.iconst 0 : Instr), 1), (32, (.putfield 31 : Instr), 3), (35, (.return_ : Instr), 1)] : List (Nat × Instr × Nat)).all (fun q => decide (decode cX1_begin q.1 = .ok (q.2.1, q.2.2))) = true := by decide +kernel
theorem dX1_begin_0 : decode cX1_begin 0 = .ok (.aload_n 0, 1) := all_d dX1_begin_all0 0 rfl
theorem dX1_begin_1 : decode cX1_begin 1 = .ok (.getfield 11, 3) := all_d dX1_begin_all0 1 rfl
theorem dX1_begin_4 : decode cX1_begin 4 = .ok (.sipush 1000, 3) := all_d dX1_begin_all0 2 rfl
theorem dX1_begin_7 : decode cX1_begin 7 = .ok (.invokestatic 21, 3) := all_d dX1_begin_all0 3 rfl
theorem dX1_begin_10 : decode cX1_begin 10 = .ok (.aload_n 0, 1) := all_d dX1_begin_all0 4 rfl
theorem dX1_begin_11 : decode cX1_begin 11 = .ok (.getfield 18, 3) := all_d dX1_begin_all0 5 rfl
theorem dX1_begin_14 : decode cX1_begin 14 = .ok (.iconst 0, 1) := all_d dX1_begin_all0 6 rfl
theorem dX1_begin_15 : decode cX1_begin 15 = .ok (.invokestatic 21, 3) := all_d dX1_begin_all0 7 rfl
theorem dX1_begin_18 : decode cX1_begin 18 = .ok (.aload_n 0, 1) := all_d dX1_begin_all0 8 rfl
theorem dX1_begin_19 : decode cX1_begin 19 = .ok (.getfield 11, 3) := all_d dX1_begin_all0 9 rfl
theorem dX1_begin_22 : decode cX1_begin 22 = .ok (.iconst 0, 1) := all_d dX1_begin_all0 10 rfl
theorem dX1_begin_23 : decode cX1_begin 23 = .ok (.iconst 0, 1) := all_d dX1_begin_all0 11 rfl
theorem dX1_begin_24 : decode cX1_begin 24 = .ok (.iastore, 1) := all_d dX1_begin_all0 12 rfl
theorem dX1_begin_25 : decode cX1_begin 25 = .ok (.aload_n 0, 1) := all_d dX1_begin_all0 13 rfl
theorem dX1_begin_26 : decode cX1_begin 26 = .ok (.iconst 0, 1) := all_d dX1_begin_all0 14 rfl
theorem dX1_begin_27 : decode cX1_begin 27 = .ok (.putfield 27, 3) := all_d dX1_begin_all0 15 rfl
theorem dX1_begin_30 : decode cX1_begin 30 = .ok (.aload_n 0, 1) := all_d dX1_begin_all0 16 rfl
theorem dX1_begin_31 : decode cX1_begin 31 = .ok (.iconst 0, 1) := all_d dX1_begin_all0 17 rfl
theorem dX1_begin_32 : decode cX1_begin 32 = .ok (.putfield 31, 3) := all_d dX1_begin_all0 18 rfl
theorem dX1_begin_35 : decode cX1_begin 35 = .ok (.return_, 1) := all_d dX1_begin_all0 19 rfl
set_option maxRecDepth 100000 in
theorem dX1_addMask_all0 : ([(0, (.iload_n 1 : Instr), 1), (1, (.ifCond .le 21 : Instr), 3), (4, (.iload_n 1 : Instr), 1), (5, (.aload_n 0 : Instr), 1), (6, (.getfield 18 : Instr), 3), (9, (.arraylength : Instr), 1), (10, (.if_icmp .ge 12 : Instr), 3), (13, (.aload_n 0 : Instr), 1), (14, (.getfield 18 : Instr), 3), (17, (.iload_n 1 : Instr), 1), (18, (.iaload : Instr), 1), (19, (.ifCond .eq 4 : Instr), 3), (22, (.return_ : Instr), 1), (23, (.aload_n 0 : Instr), 1), (24, (.getfield 27 : Instr), 3), (27, (.ifCond .lt 15 : Instr), 3), (30, (.aload_n 0 : Instr), 1), (31, (.getfield 27 : Instr), 3), (34, (.aload_n 0 : Instr), 1), (35, (.getfield 15 : Instr), 3), (38, (.arraylength : Instr), 1), (39, (.if_icmp .lt 4 : Instr), 3), (42, (.return_ : Instr), 1), (43, (.aload_n 0 : Instr), 1), (44, (.getfield 18 : Instr), 3), (47, (.iload_n 1 : Instr), 1), (48, (.iconst 1 : Instr), 1), (49, (.iastore : Instr), 1), (50, (.aload_n 0 : Instr), 1), (51, (.getfield 15 : Instr), 3), (54, (.aload_n 0 : Instr), 1), (55, (.getfield 27 : Instr), 3), (58, (.iload_n 1 : Instr), 1), (59, (.iastore : Instr), 1), (60, (.aload_n 0 : Instr), 1), (61, (.dup : Instr), 1), (62, (.getfield 27 : Instr), 3), (65, (.iconst 1 : Instr), 1), (66, (.iadd : Instr), 1), (67, (.putfield 27 : Instr), 3), (70, (.aload_n 0 : Instr), 1), (71, (.dup : Instr), 1), (72, (.getfield 31 : Instr), 3), (75, (.iload_n 1 : Instr), 1), (76, (.ior : Instr), 1), (77, (.putfield 31 : Instr), 3), (80, (.return_ : Instr), 1)] : List (Nat × Instr × Nat)).all (fun q => decide (decode cX1_addMask q.1 = .ok (q.2.1, q.2.2))) = true := by decide +kernel
theorem dX1_addMask_0 : decode cX1_addMask 0 = .ok (.iload_n 1, 1) := all_d dX1_addMask_all0 0 rfl
theorem dX1_addMask_1 : decode cX1_addMask 1 = .ok (.ifCond .le 21, 3) := all_d dX1_addMask_all0 1 rfl
theorem dX1_addMask_4 : decode cX1_addMask 4 = .ok (.iload_n 1, 1) := all_d dX1_addMask_all0 2 rfl
theorem dX1_addMask_5 : decode cX1_addMask 5 = .ok (.aload_n 0, 1) := all_d dX1_addMask_all0 3 rfl
theorem dX1_addMask_6 : decode cX1_addMask 6 = .ok (.getfield 18, 3) := all_d dX1_addMask_all0 4 rfl
theorem dX1_addMask_9 : decode cX1_addMask 9 = .ok (.arraylength, 1) := all_d dX1_addMask_all0 5 rfl
theorem dX1_addMask_10 : decode cX1_addMask 10 = .ok (.if_icmp .ge 12, 3) := all_d dX1_addMask_all0 6 rfl
theorem dX1_addMask_13 : decode cX1_addMask 13 = .ok (.aload_n 0, 1) := all_d dX1_addMask_all0 7 rfl
theorem dX1_addMask_14 : decode cX1_addMask 14 = .ok (.getfield 18, 3) := all_d dX1_addMask_all0 8 rfl
theorem dX1_addMask_17 : decode cX1_addMask 17 = .ok (.iload_n 1, 1) := all_d dX1_addMask_all0 9 rfl
theorem dX1_addMask_18 : decode cX1_addMask 18 = .ok (.iaload, 1) := all_d dX1_addMask_all0 10 rfl
theorem dX1_addMask_19 : decode cX1_addMask 19 = .ok (.ifCond .eq 4, 3) := all_d dX1_addMask_all0 11 rfl
theorem dX1_addMask_22 : decode cX1_addMask 22 = .ok (.return_, 1) := all_d dX1_addMask_all0 12 rfl
theorem dX1_addMask_23 : decode cX1_addMask 23 = .ok (.aload_n 0, 1) := all_d dX1_addMask_all0 13 rfl
theorem dX1_addMask_24 : decode cX1_addMask 24 = .ok (.getfield 27, 3) := all_d dX1_addMask_all0 14 rfl
theorem dX1_addMask_27 : decode cX1_addMask 27 = .ok (.ifCond .lt 15, 3) := all_d dX1_addMask_all0 15 rfl
theorem dX1_addMask_30 : decode cX1_addMask 30 = .ok (.aload_n 0, 1) := all_d dX1_addMask_all0 16 rfl
theorem dX1_addMask_31 : decode cX1_addMask 31 = .ok (.getfield 27, 3) := all_d dX1_addMask_all0 17 rfl
theorem dX1_addMask_34 : decode cX1_addMask 34 = .ok (.aload_n 0, 1) := all_d dX1_addMask_all0 18 rfl
theorem dX1_addMask_35 : decode cX1_addMask 35 = .ok (.getfield 15, 3) := all_d dX1_addMask_all0 19 rfl
theorem dX1_addMask_38 : decode cX1_addMask 38 = .ok (.arraylength, 1) := all_d dX1_addMask_all0 20 rfl
theorem dX1_addMask_39 : decode cX1_addMask 39 = .ok (.if_icmp .lt 4, 3) := all_d dX1_addMask_all0 21 rfl
theorem dX1_addMask_42 : decode cX1_addMask 42 = .ok (.return_, 1) := all_d dX1_addMask_all0 22 rfl
theorem dX1_addMask_43 : decode cX1_addMask 43 = .ok (.aload_n 0, 1) := all_d dX1_addMask_all0 23 rfl
theorem dX1_addMask_44 : decode cX1_addMask 44 = .ok (.getfield 18, 3) := all_d dX1_addMask_all0 24 rfl
theorem dX1_addMask_47 : decode cX1_addMask 47 = .ok (.iload_n 1, 1) := all_d dX1_addMask_all0 25 rfl
theorem dX1_addMask_48 : decode cX1_addMask 48 = .ok (.iconst 1, 1) := all_d dX1_addMask_all0 26 rfl
theorem dX1_addMask_49 : decode cX1_addMask 49 = .ok (.iastore, 1) := all_d dX1_addMask_all0 27 rfl
theorem dX1_addMask_50 : decode cX1_addMask 50 = .ok (.aload_n 0, 1) := all_d dX1_addMask_all0 28 rfl
theorem dX1_addMask_51 : decode cX1_addMask 51 = .ok (.getfield 15, 3) := all_d dX1_addMask_all0 29 rfl
theorem dX1_addMask_54 : decode cX1_addMask 54 = .ok (.aload_n 0, 1) := all_d dX1_addMask_all0 30 rfl
theorem dX1_addMask_55 : decode cX1_addMask 55 = .ok (.getfield 27, 3) := all_d dX1_addMask_all0 31 rfl
theorem dX1_addMask_58 : decode cX1_addMask 58 = .ok (.iload_n 1, 1) := all_d dX1_addMask_all0 32 rfl
theorem dX1_addMask_59 : decode cX1_addMask 59 = .ok (.iastore, 1) := all_d dX1_addMask_all0 33 rfl
theorem dX1_addMask_60 : decode cX1_addMask 60 = .ok (.aload_n 0, 1) := all_d dX1_addMask_all0 34 rfl
theorem dX1_addMask_61 : decode cX1_addMask 61 = .ok (.dup, 1) := all_d dX1_addMask_all0 35 rfl
theorem dX1_addMask_62 : decode cX1_addMask 62 = .ok (.getfield 27, 3) := all_d dX1_addMask_all0 36 rfl
theorem dX1_addMask_65 : decode cX1_addMask 65 = .ok (.iconst 1, 1) := all_d dX1_addMask_all0 37 rfl
theorem dX1_addMask_66 : decode cX1_addMask 66 = .ok (.iadd, 1) := all_d dX1_addMask_all0 38 rfl
theorem dX1_addMask_67 : decode cX1_addMask 67 = .ok (.putfield 27, 3) := all_d dX1_addMask_all0 39 rfl
theorem dX1_addMask_70 : decode cX1_addMask 70 = .ok (.aload_n 0, 1) := all_d dX1_addMask_all0 40 rfl
theorem dX1_addMask_71 : decode cX1_addMask 71 = .ok (.dup, 1) := all_d dX1_addMask_all0 41 rfl
theorem dX1_addMask_72 : decode cX1_addMask 72 = .ok (.getfield 31, 3) := all_d dX1_addMask_all0 42 rfl
theorem dX1_addMask_75 : decode cX1_addMask 75 = .ok (.iload_n 1, 1) := all_d dX1_addMask_all0 43 rfl
theorem dX1_addMask_76 : decode cX1_addMask 76 = .ok (.ior, 1) := all_d dX1_addMask_all0 44 rfl
theorem dX1_addMask_77 : decode cX1_addMask 77 = .ok (.putfield 31, 3) := all_d dX1_addMask_all0 45 rfl
theorem dX1_addMask_80 : decode cX1_addMask 80 = .ok (.return_, 1) := all_d dX1_addMask_all0 46 rfl
set_option maxRecDepth 100000 in
theorem dX1_fewest_all0 : ([(0, (.iconst 0 : Instr), 1), (1, (.istore_n 1 : Instr), 1), (2, (.iload_n 1 : Instr), 1), (3, (.aload_n 0 : Instr), 1), (4, (.getfield 31 : Instr), 3), (7, (.if_icmp .ge 35 : Instr), 3), (10, (.iload_n 1 : Instr), 1), (11, (.aload_n 0 : Instr), 1), (12, (.getfield 11 : Instr), 3), (15, (.arraylength : Instr), 1), (16, (.if_icmp .ge 26 : Instr), 3), (19, (.aload_n 0 : Instr), 1), (20, (.getfield 11 : Instr), 3), (23, (.iload_n 1 : Instr), 1), (24, (.iaload : Instr), 1), (25, (.sipush 1000 : Instr), 3), (28, (.if_icmp .ge 8 : Instr), 3), (31, (.aload_n 0 : Instr), 1), (32, (.iload_n 1 : Instr), 1), (33, (.invokevirtual 34 : Instr), 3), (36, (.iinc 1 1 : Instr), 3), (39, (.goto (-37) : Instr), 3), (42, (.aload_n 0 : Instr), 1), (43, (.getfield 31 : Instr), 3), (46, (.ifCond .lt 27 : Instr), 3), (49, (.aload_n 0 : Instr), 1), (50, (.getfield 31 : Instr), 3), (53, (.aload_n 0 : Instr), 1), (54, (.getfield 11 : Instr), 3), (57, (.arraylength : Instr), 1), (58, (.if_icmp .ge 15 : Instr), 3), (61, (.aload_n 0 : Instr), 1), (62, (.getfield 11 : Instr), 3), (65, (.aload_n 0 : Instr), 1), (66, (.getfield 31 : Instr), 3), (69, (.iaload : Instr), 1), (70, (.goto 4 : Instr), 3), (73, (.iconst 0 : Instr), 1), (74, (.ireturn : Instr), 1)] : List (Nat × Instr × Nat)).all (fun q => decide (decode cX1_fewest q.1 = .ok (q.2.1, q.2.2))) = true := by decide +kernel
theorem dX1_fewest_0 : decode cX1_fewest 0 = .ok (.iconst 0, 1) := all_d dX1_fewest_all0 0 rfl
theorem dX1_fewest_1 : decode cX1_fewest 1 = .ok (.istore_n 1, 1) := all_d dX1_fewest_all0 1 rfl
theorem dX1_fewest_2 : decode cX1_fewest 2 = .ok (.iload_n 1, 1) := all_d dX1_fewest_all0 2 rfl
theorem dX1_fewest_3 : decode cX1_fewest 3 = .ok (.aload_n 0, 1) := all_d dX1_fewest_all0 3 rfl
theorem dX1_fewest_4 : decode cX1_fewest 4 = .ok (.getfield 31, 3) := all_d dX1_fewest_all0 4 rfl
theorem dX1_fewest_7 : decode cX1_fewest 7 = .ok (.if_icmp .ge 35, 3) := all_d dX1_fewest_all0 5 rfl
theorem dX1_fewest_10 : decode cX1_fewest 10 = .ok (.iload_n 1, 1) := all_d dX1_fewest_all0 6 rfl
theorem dX1_fewest_11 : decode cX1_fewest 11 = .ok (.aload_n 0, 1) := all_d dX1_fewest_all0 7 rfl
theorem dX1_fewest_12 : decode cX1_fewest 12 = .ok (.getfield 11, 3) := all_d dX1_fewest_all0 8 rfl
theorem dX1_fewest_15 : decode cX1_fewest 15 = .ok (.arraylength, 1) := all_d dX1_fewest_all0 9 rfl
theorem dX1_fewest_16 : decode cX1_fewest 16 = .ok (.if_icmp .ge 26, 3) := all_d dX1_fewest_all0 10 rfl
theorem dX1_fewest_19 : decode cX1_fewest 19 = .ok (.aload_n 0, 1) := all_d dX1_fewest_all0 11 rfl
theorem dX1_fewest_20 : decode cX1_fewest 20 = .ok (.getfield 11, 3) := all_d dX1_fewest_all0 12 rfl
theorem dX1_fewest_23 : decode cX1_fewest 23 = .ok (.iload_n 1, 1) := all_d dX1_fewest_all0 13 rfl
theorem dX1_fewest_24 : decode cX1_fewest 24 = .ok (.iaload, 1) := all_d dX1_fewest_all0 14 rfl
theorem dX1_fewest_25 : decode cX1_fewest 25 = .ok (.sipush 1000, 3) := all_d dX1_fewest_all0 15 rfl
theorem dX1_fewest_28 : decode cX1_fewest 28 = .ok (.if_icmp .ge 8, 3) := all_d dX1_fewest_all0 16 rfl
theorem dX1_fewest_31 : decode cX1_fewest 31 = .ok (.aload_n 0, 1) := all_d dX1_fewest_all0 17 rfl
theorem dX1_fewest_32 : decode cX1_fewest 32 = .ok (.iload_n 1, 1) := all_d dX1_fewest_all0 18 rfl
theorem dX1_fewest_33 : decode cX1_fewest 33 = .ok (.invokevirtual 34, 3) := all_d dX1_fewest_all0 19 rfl
theorem dX1_fewest_36 : decode cX1_fewest 36 = .ok (.iinc 1 1, 3) := all_d dX1_fewest_all0 20 rfl
theorem dX1_fewest_39 : decode cX1_fewest 39 = .ok (.goto (-37), 3) := all_d dX1_fewest_all0 21 rfl
theorem dX1_fewest_42 : decode cX1_fewest 42 = .ok (.aload_n 0, 1) := all_d dX1_fewest_all0 22 rfl
theorem dX1_fewest_43 : decode cX1_fewest 43 = .ok (.getfield 31, 3) := all_d dX1_fewest_all0 23 rfl
theorem dX1_fewest_46 : decode cX1_fewest 46 = .ok (.ifCond .lt 27, 3) := all_d dX1_fewest_all0 24 rfl
theorem dX1_fewest_49 : decode cX1_fewest 49 = .ok (.aload_n 0, 1) := all_d dX1_fewest_all0 25 rfl
theorem dX1_fewest_50 : decode cX1_fewest 50 = .ok (.getfield 31, 3) := all_d dX1_fewest_all0 26 rfl
theorem dX1_fewest_53 : decode cX1_fewest 53 = .ok (.aload_n 0, 1) := all_d dX1_fewest_all0 27 rfl
theorem dX1_fewest_54 : decode cX1_fewest 54 = .ok (.getfield 11, 3) := all_d dX1_fewest_all0 28 rfl
theorem dX1_fewest_57 : decode cX1_fewest 57 = .ok (.arraylength, 1) := all_d dX1_fewest_all0 29 rfl
theorem dX1_fewest_58 : decode cX1_fewest 58 = .ok (.if_icmp .ge 15, 3) := all_d dX1_fewest_all0 30 rfl
theorem dX1_fewest_61 : decode cX1_fewest 61 = .ok (.aload_n 0, 1) := all_d dX1_fewest_all0 31 rfl
theorem dX1_fewest_62 : decode cX1_fewest 62 = .ok (.getfield 11, 3) := all_d dX1_fewest_all0 32 rfl
theorem dX1_fewest_65 : decode cX1_fewest 65 = .ok (.aload_n 0, 1) := all_d dX1_fewest_all0 33 rfl
theorem dX1_fewest_66 : decode cX1_fewest 66 = .ok (.getfield 31, 3) := all_d dX1_fewest_all0 34 rfl
theorem dX1_fewest_69 : decode cX1_fewest 69 = .ok (.iaload, 1) := all_d dX1_fewest_all0 35 rfl
theorem dX1_fewest_70 : decode cX1_fewest 70 = .ok (.goto 4, 3) := all_d dX1_fewest_all0 36 rfl
theorem dX1_fewest_73 : decode cX1_fewest 73 = .ok (.iconst 0, 1) := all_d dX1_fewest_all0 37 rfl
theorem dX1_fewest_74 : decode cX1_fewest 74 = .ok (.ireturn, 1) := all_d dX1_fewest_all0 38 rfl
set_option maxRecDepth 100000 in
theorem dX1_growFrom_all0 : ([(0, (.iload_n 1 : Instr), 1), (1, (.ifCond .lt 12 : Instr), 3), (4, (.iload_n 1 : Instr), 1), (5, (.aload_n 0 : Instr), 1), (6, (.getfield 11 : Instr), 3), (9, (.arraylength : Instr), 1), (10, (.if_icmp .lt 4 : Instr), 3), (13, (.return_ : Instr), 1), (14, (.aload_n 0 : Instr), 1), (15, (.getfield 11 : Instr), 3), (18, (.iload_n 1 : Instr), 1), (19, (.iaload : Instr), 1), (20, (.iconst 1 : Instr), 1), (21, (.iadd : Instr), 1), (22, (.istore_n 2 : Instr), 1), (23, (.iconst 0 : Instr), 1), (24, (.istore_n 3 : Instr), 1), (25, (.iload_n 3 : Instr), 1), (26, (.aload_n 0 : Instr), 1), (27, (.getfield 27 : Instr), 3), (30, (.if_icmp .ge 62 : Instr), 3), (33, (.iload_n 3 : Instr), 1), (34, (.aload_n 0 : Instr), 1), (35, (.getfield 15 : Instr), 3), (38, (.arraylength : Instr), 1), (39, (.if_icmp .ge 53 : Instr), 3), (42, (.iload_n 1 : Instr), 1), (43, (.aload_n 0 : Instr), 1), (44, (.getfield 15 : Instr), 3), (47, (.iload_n 3 : Instr), 1), (48, (.iaload : Instr), 1), (49, (.ior : Instr), 1), (50, (.istore 4 : Instr), 2), (52, (.iload 4 : Instr), 2), (54, (.ifCond .lt 32 : Instr), 3), (57, (.iload 4 : Instr), 2), (59, (.aload_n 0 : Instr), 1), (60, (.getfield 11 : Instr), 3), (63, (.arraylength : Instr), 1), (64, (.if_icmp .ge 22 : Instr), 3), (67, (.iload_n 2 : Instr), 1), (68, (.aload_n 0 : Instr), 1), (69, (.getfield 11 : Instr), 3), (72, (.iload 4 : Instr), 2), (74, (.iaload : Instr), 1), (75, (.if_icmp .ge 11 : Instr), 3), (78, (.aload_n 0 : Instr), 1), (79, (.getfield 11 : Instr), 3), (82, (.iload 4 : Instr), 2), (84, (.iload_n 2 : Instr), 1), (85, (.iastore : Instr), 1), (86, (.iinc 3 1 : Instr), 3), (89, (.goto (-64) : Instr), 3), (92, (.return_ : Instr), 1)] : List (Nat × Instr × Nat)).all (fun q => decide (decode cX1_growFrom q.1 = .ok (q.2.1, q.2.2))) = true := by decide +kernel
theorem dX1_growFrom_0 : decode cX1_growFrom 0 = .ok (.iload_n 1, 1) := all_d dX1_growFrom_all0 0 rfl
theorem dX1_growFrom_1 : decode cX1_growFrom 1 = .ok (.ifCond .lt 12, 3) := all_d dX1_growFrom_all0 1 rfl
theorem dX1_growFrom_4 : decode cX1_growFrom 4 = .ok (.iload_n 1, 1) := all_d dX1_growFrom_all0 2 rfl
theorem dX1_growFrom_5 : decode cX1_growFrom 5 = .ok (.aload_n 0, 1) := all_d dX1_growFrom_all0 3 rfl
theorem dX1_growFrom_6 : decode cX1_growFrom 6 = .ok (.getfield 11, 3) := all_d dX1_growFrom_all0 4 rfl
theorem dX1_growFrom_9 : decode cX1_growFrom 9 = .ok (.arraylength, 1) := all_d dX1_growFrom_all0 5 rfl
theorem dX1_growFrom_10 : decode cX1_growFrom 10 = .ok (.if_icmp .lt 4, 3) := all_d dX1_growFrom_all0 6 rfl
theorem dX1_growFrom_13 : decode cX1_growFrom 13 = .ok (.return_, 1) := all_d dX1_growFrom_all0 7 rfl
theorem dX1_growFrom_14 : decode cX1_growFrom 14 = .ok (.aload_n 0, 1) := all_d dX1_growFrom_all0 8 rfl
theorem dX1_growFrom_15 : decode cX1_growFrom 15 = .ok (.getfield 11, 3) := all_d dX1_growFrom_all0 9 rfl
theorem dX1_growFrom_18 : decode cX1_growFrom 18 = .ok (.iload_n 1, 1) := all_d dX1_growFrom_all0 10 rfl
theorem dX1_growFrom_19 : decode cX1_growFrom 19 = .ok (.iaload, 1) := all_d dX1_growFrom_all0 11 rfl
theorem dX1_growFrom_20 : decode cX1_growFrom 20 = .ok (.iconst 1, 1) := all_d dX1_growFrom_all0 12 rfl
theorem dX1_growFrom_21 : decode cX1_growFrom 21 = .ok (.iadd, 1) := all_d dX1_growFrom_all0 13 rfl
theorem dX1_growFrom_22 : decode cX1_growFrom 22 = .ok (.istore_n 2, 1) := all_d dX1_growFrom_all0 14 rfl
theorem dX1_growFrom_23 : decode cX1_growFrom 23 = .ok (.iconst 0, 1) := all_d dX1_growFrom_all0 15 rfl
theorem dX1_growFrom_24 : decode cX1_growFrom 24 = .ok (.istore_n 3, 1) := all_d dX1_growFrom_all0 16 rfl
theorem dX1_growFrom_25 : decode cX1_growFrom 25 = .ok (.iload_n 3, 1) := all_d dX1_growFrom_all0 17 rfl
theorem dX1_growFrom_26 : decode cX1_growFrom 26 = .ok (.aload_n 0, 1) := all_d dX1_growFrom_all0 18 rfl
theorem dX1_growFrom_27 : decode cX1_growFrom 27 = .ok (.getfield 27, 3) := all_d dX1_growFrom_all0 19 rfl
theorem dX1_growFrom_30 : decode cX1_growFrom 30 = .ok (.if_icmp .ge 62, 3) := all_d dX1_growFrom_all0 20 rfl
theorem dX1_growFrom_33 : decode cX1_growFrom 33 = .ok (.iload_n 3, 1) := all_d dX1_growFrom_all0 21 rfl
theorem dX1_growFrom_34 : decode cX1_growFrom 34 = .ok (.aload_n 0, 1) := all_d dX1_growFrom_all0 22 rfl
theorem dX1_growFrom_35 : decode cX1_growFrom 35 = .ok (.getfield 15, 3) := all_d dX1_growFrom_all0 23 rfl
theorem dX1_growFrom_38 : decode cX1_growFrom 38 = .ok (.arraylength, 1) := all_d dX1_growFrom_all0 24 rfl
theorem dX1_growFrom_39 : decode cX1_growFrom 39 = .ok (.if_icmp .ge 53, 3) := all_d dX1_growFrom_all0 25 rfl
theorem dX1_growFrom_42 : decode cX1_growFrom 42 = .ok (.iload_n 1, 1) := all_d dX1_growFrom_all0 26 rfl
theorem dX1_growFrom_43 : decode cX1_growFrom 43 = .ok (.aload_n 0, 1) := all_d dX1_growFrom_all0 27 rfl
theorem dX1_growFrom_44 : decode cX1_growFrom 44 = .ok (.getfield 15, 3) := all_d dX1_growFrom_all0 28 rfl
theorem dX1_growFrom_47 : decode cX1_growFrom 47 = .ok (.iload_n 3, 1) := all_d dX1_growFrom_all0 29 rfl
theorem dX1_growFrom_48 : decode cX1_growFrom 48 = .ok (.iaload, 1) := all_d dX1_growFrom_all0 30 rfl
theorem dX1_growFrom_49 : decode cX1_growFrom 49 = .ok (.ior, 1) := all_d dX1_growFrom_all0 31 rfl
theorem dX1_growFrom_50 : decode cX1_growFrom 50 = .ok (.istore 4, 2) := all_d dX1_growFrom_all0 32 rfl
theorem dX1_growFrom_52 : decode cX1_growFrom 52 = .ok (.iload 4, 2) := all_d dX1_growFrom_all0 33 rfl
theorem dX1_growFrom_54 : decode cX1_growFrom 54 = .ok (.ifCond .lt 32, 3) := all_d dX1_growFrom_all0 34 rfl
theorem dX1_growFrom_57 : decode cX1_growFrom 57 = .ok (.iload 4, 2) := all_d dX1_growFrom_all0 35 rfl
theorem dX1_growFrom_59 : decode cX1_growFrom 59 = .ok (.aload_n 0, 1) := all_d dX1_growFrom_all0 36 rfl
theorem dX1_growFrom_60 : decode cX1_growFrom 60 = .ok (.getfield 11, 3) := all_d dX1_growFrom_all0 37 rfl
theorem dX1_growFrom_63 : decode cX1_growFrom 63 = .ok (.arraylength, 1) := all_d dX1_growFrom_all0 38 rfl
theorem dX1_growFrom_64 : decode cX1_growFrom 64 = .ok (.if_icmp .ge 22, 3) := all_d dX1_growFrom_all0 39 rfl
theorem dX1_growFrom_67 : decode cX1_growFrom 67 = .ok (.iload_n 2, 1) := all_d dX1_growFrom_all0 40 rfl
theorem dX1_growFrom_68 : decode cX1_growFrom 68 = .ok (.aload_n 0, 1) := all_d dX1_growFrom_all0 41 rfl
theorem dX1_growFrom_69 : decode cX1_growFrom 69 = .ok (.getfield 11, 3) := all_d dX1_growFrom_all0 42 rfl
theorem dX1_growFrom_72 : decode cX1_growFrom 72 = .ok (.iload 4, 2) := all_d dX1_growFrom_all0 43 rfl
theorem dX1_growFrom_74 : decode cX1_growFrom 74 = .ok (.iaload, 1) := all_d dX1_growFrom_all0 44 rfl
theorem dX1_growFrom_75 : decode cX1_growFrom 75 = .ok (.if_icmp .ge 11, 3) := all_d dX1_growFrom_all0 45 rfl
theorem dX1_growFrom_78 : decode cX1_growFrom 78 = .ok (.aload_n 0, 1) := all_d dX1_growFrom_all0 46 rfl
theorem dX1_growFrom_79 : decode cX1_growFrom 79 = .ok (.getfield 11, 3) := all_d dX1_growFrom_all0 47 rfl
theorem dX1_growFrom_82 : decode cX1_growFrom 82 = .ok (.iload 4, 2) := all_d dX1_growFrom_all0 48 rfl
theorem dX1_growFrom_84 : decode cX1_growFrom 84 = .ok (.iload_n 2, 1) := all_d dX1_growFrom_all0 49 rfl
theorem dX1_growFrom_85 : decode cX1_growFrom 85 = .ok (.iastore, 1) := all_d dX1_growFrom_all0 50 rfl
theorem dX1_growFrom_86 : decode cX1_growFrom 86 = .ok (.iinc 3 1, 3) := all_d dX1_growFrom_all0 51 rfl
theorem dX1_growFrom_89 : decode cX1_growFrom 89 = .ok (.goto (-64), 3) := all_d dX1_growFrom_all0 52 rfl
theorem dX1_growFrom_92 : decode cX1_growFrom 92 = .ok (.return_, 1) := all_d dX1_growFrom_all0 53 rfl
set_option maxRecDepth 100000 in
theorem dX2_init_all0 : ([(0, (.aload_n 0 : Instr), 1), (1, (.invokespecial 1 : Instr), 3), (4, (.return_ : Instr), 1)] : List (Nat × Instr × Nat)).all (fun q => decide (decode cX2_init q.1 = .ok (q.2.1, q.2.2))) = true := by decide +kernel
theorem dX2_init_0 : decode cX2_init 0 = .ok (.aload_n 0, 1) := all_d dX2_init_all0 0 rfl
theorem dX2_init_1 : decode cX2_init 1 = .ok (.invokespecial 1, 3) := all_d dX2_init_all0 1 rfl
theorem dX2_init_4 : decode cX2_init 4 = .ok (.return_, 1) := all_d dX2_init_all0 2 rfl
set_option maxRecDepth 100000 in
theorem dX2_become_all0 : ([(0, (.aload_n 0 : Instr), 1), (1, (.iload_n 1 : Instr), 1), (2, (.putfield 7 : Instr), 3), (5, (.aload_n 0 : Instr), 1), (6, (.iload_n 2 : Instr), 1), (7, (.putfield 13 : Instr), 3), (10, (.aload_n 0 : Instr), 1), (11, (.iload_n 3 : Instr), 1), (12, (.putfield 16 : Instr), 3), (15, (.return_ : Instr), 1)] : List (Nat × Instr × Nat)).all (fun q => decide (decode cX2_become q.1 = .ok (q.2.1, q.2.2))) = true := by decide +kernel
theorem dX2_become_0 : decode cX2_become 0 = .ok (.aload_n 0, 1) := all_d dX2_become_all0 0 rfl
theorem dX2_become_1 : decode cX2_become 1 = .ok (.iload_n 1, 1) := all_d dX2_become_all0 1 rfl
theorem dX2_become_2 : decode cX2_become 2 = .ok (.putfield 7, 3) := all_d dX2_become_all0 2 rfl
theorem dX2_become_5 : decode cX2_become 5 = .ok (.aload_n 0, 1) := all_d dX2_become_all0 3 rfl
theorem dX2_become_6 : decode cX2_become 6 = .ok (.iload_n 2, 1) := all_d dX2_become_all0 4 rfl
theorem dX2_become_7 : decode cX2_become 7 = .ok (.putfield 13, 3) := all_d dX2_become_all0 5 rfl
theorem dX2_become_10 : decode cX2_become 10 = .ok (.aload_n 0, 1) := all_d dX2_become_all0 6 rfl
theorem dX2_become_11 : decode cX2_become 11 = .ok (.iload_n 3, 1) := all_d dX2_become_all0 7 rfl
theorem dX2_become_12 : decode cX2_become 12 = .ok (.putfield 16, 3) := all_d dX2_become_all0 8 rfl
theorem dX2_become_15 : decode cX2_become 15 = .ok (.return_, 1) := all_d dX2_become_all0 9 rfl
set_option maxRecDepth 100000 in
theorem dX3_init_all0 : ([(0, (.aload_n 0 : Instr), 1), (1, (.invokespecial 3 : Instr), 3), (4, (.aload_n 0 : Instr), 1), (5, (.bipush 16 : Instr), 2), (7, (.anewarray 9 : Instr), 3), (10, (.putfield 11 : Instr), 3), (13, (.iconst 0 : Instr), 1), (14, (.istore_n 1 : Instr), 1), (15, (.iload_n 1 : Instr), 1), (16, (.aload_n 0 : Instr), 1), (17, (.getfield 11 : Instr), 3), (20, (.arraylength : Instr), 1), (21, (.if_icmp .ge 22 : Instr), 3), (24, (.aload_n 0 : Instr), 1), (25, (.getfield 11 : Instr), 3), (28, (.iload_n 1 : Instr), 1), (29, (.new 9 : Instr), 3), (32, (.dup : Instr), 1), (33, (.invokespecial 17 : Instr), 3), (36, (.aastore : Instr), 1), (37, (.iinc 1 1 : Instr), 3), (40, (.goto (-25) : Instr), 3), (43, (.return_ : Instr), 1)] : List (Nat × Instr × Nat)).all (fun q => decide (decode cX3_init q.1 = .ok (q.2.1, q.2.2))) = true := by decide +kernel
theorem dX3_init_0 : decode cX3_init 0 = .ok (.aload_n 0, 1) := all_d dX3_init_all0 0 rfl
theorem dX3_init_1 : decode cX3_init 1 = .ok (.invokespecial 3, 3) := all_d dX3_init_all0 1 rfl
theorem dX3_init_4 : decode cX3_init 4 = .ok (.aload_n 0, 1) := all_d dX3_init_all0 2 rfl
theorem dX3_init_5 : decode cX3_init 5 = .ok (.bipush 16, 2) := all_d dX3_init_all0 3 rfl
theorem dX3_init_7 : decode cX3_init 7 = .ok (.anewarray 9, 3) := all_d dX3_init_all0 4 rfl
theorem dX3_init_10 : decode cX3_init 10 = .ok (.putfield 11, 3) := all_d dX3_init_all0 5 rfl
theorem dX3_init_13 : decode cX3_init 13 = .ok (.iconst 0, 1) := all_d dX3_init_all0 6 rfl
theorem dX3_init_14 : decode cX3_init 14 = .ok (.istore_n 1, 1) := all_d dX3_init_all0 7 rfl
theorem dX3_init_15 : decode cX3_init 15 = .ok (.iload_n 1, 1) := all_d dX3_init_all0 8 rfl
theorem dX3_init_16 : decode cX3_init 16 = .ok (.aload_n 0, 1) := all_d dX3_init_all0 9 rfl
theorem dX3_init_17 : decode cX3_init 17 = .ok (.getfield 11, 3) := all_d dX3_init_all0 10 rfl
theorem dX3_init_20 : decode cX3_init 20 = .ok (.arraylength, 1) := all_d dX3_init_all0 11 rfl
theorem dX3_init_21 : decode cX3_init 21 = .ok (.if_icmp .ge 22, 3) := all_d dX3_init_all0 12 rfl
theorem dX3_init_24 : decode cX3_init 24 = .ok (.aload_n 0, 1) := all_d dX3_init_all0 13 rfl
theorem dX3_init_25 : decode cX3_init 25 = .ok (.getfield 11, 3) := all_d dX3_init_all0 14 rfl
theorem dX3_init_28 : decode cX3_init 28 = .ok (.iload_n 1, 1) := all_d dX3_init_all0 15 rfl
theorem dX3_init_29 : decode cX3_init 29 = .ok (.new 9, 3) := all_d dX3_init_all0 16 rfl
theorem dX3_init_32 : decode cX3_init 32 = .ok (.dup, 1) := all_d dX3_init_all0 17 rfl
theorem dX3_init_33 : decode cX3_init 33 = .ok (.invokespecial 17, 3) := all_d dX3_init_all0 18 rfl
theorem dX3_init_36 : decode cX3_init 36 = .ok (.aastore, 1) := all_d dX3_init_all0 19 rfl
theorem dX3_init_37 : decode cX3_init 37 = .ok (.iinc 1 1, 3) := all_d dX3_init_all0 20 rfl
theorem dX3_init_40 : decode cX3_init 40 = .ok (.goto (-25), 3) := all_d dX3_init_all0 21 rfl
theorem dX3_init_43 : decode cX3_init 43 = .ok (.return_, 1) := all_d dX3_init_all0 22 rfl
set_option maxRecDepth 100000 in
theorem dX3_begin_all0 : ([(0, (.aload_n 0 : Instr), 1), (1, (.iload_n 1 : Instr), 1), (2, (.putfield 18 : Instr), 3), (5, (.aload_n 0 : Instr), 1), (6, (.iconst 0 : Instr), 1), (7, (.putfield 22 : Instr), 3), (10, (.return_ : Instr), 1)] : List (Nat × Instr × Nat)).all (fun q => decide (decode cX3_begin q.1 = .ok (q.2.1, q.2.2))) = true := by decide +kernel
theorem dX3_begin_0 : decode cX3_begin 0 = .ok (.aload_n 0, 1) := all_d dX3_begin_all0 0 rfl
theorem dX3_begin_1 : decode cX3_begin 1 = .ok (.iload_n 1, 1) := all_d dX3_begin_all0 1 rfl
theorem dX3_begin_2 : decode cX3_begin 2 = .ok (.putfield 18, 3) := all_d dX3_begin_all0 2 rfl
theorem dX3_begin_5 : decode cX3_begin 5 = .ok (.aload_n 0, 1) := all_d dX3_begin_all0 3 rfl
theorem dX3_begin_6 : decode cX3_begin 6 = .ok (.iconst 0, 1) := all_d dX3_begin_all0 4 rfl
theorem dX3_begin_7 : decode cX3_begin 7 = .ok (.putfield 22, 3) := all_d dX3_begin_all0 5 rfl
theorem dX3_begin_10 : decode cX3_begin 10 = .ok (.return_, 1) := all_d dX3_begin_all0 6 rfl
set_option maxRecDepth 100000 in
theorem dX3_partAt_all0 : ([(0, (.iload_n 1 : Instr), 1), (1, (.ifCond .lt 29 : Instr), 3), (4, (.iload_n 1 : Instr), 1), (5, (.aload_n 0 : Instr), 1), (6, (.getfield 22 : Instr), 3), (9, (.if_icmp .ge 21 : Instr), 3), (12, (.iload_n 1 : Instr), 1), (13, (.aload_n 0 : Instr), 1), (14, (.getfield 11 : Instr), 3), (17, (.arraylength : Instr), 1), (18, (.if_icmp .ge 12 : Instr), 3), (21, (.aload_n 0 : Instr), 1), (22, (.getfield 11 : Instr), 3), (25, (.iload_n 1 : Instr), 1), (26, (.aaload : Instr), 1), (27, (.goto 4 : Instr), 3), (30, (.aconst_null : Instr), 1), (31, (.areturn : Instr), 1)] : List (Nat × Instr × Nat)).all (fun q => decide (decode cX3_partAt q.1 = .ok (q.2.1, q.2.2))) = true := by decide +kernel
theorem dX3_partAt_0 : decode cX3_partAt 0 = .ok (.iload_n 1, 1) := all_d dX3_partAt_all0 0 rfl
theorem dX3_partAt_1 : decode cX3_partAt 1 = .ok (.ifCond .lt 29, 3) := all_d dX3_partAt_all0 1 rfl
theorem dX3_partAt_4 : decode cX3_partAt 4 = .ok (.iload_n 1, 1) := all_d dX3_partAt_all0 2 rfl
theorem dX3_partAt_5 : decode cX3_partAt 5 = .ok (.aload_n 0, 1) := all_d dX3_partAt_all0 3 rfl
theorem dX3_partAt_6 : decode cX3_partAt 6 = .ok (.getfield 22, 3) := all_d dX3_partAt_all0 4 rfl
theorem dX3_partAt_9 : decode cX3_partAt 9 = .ok (.if_icmp .ge 21, 3) := all_d dX3_partAt_all0 5 rfl
theorem dX3_partAt_12 : decode cX3_partAt 12 = .ok (.iload_n 1, 1) := all_d dX3_partAt_all0 6 rfl
theorem dX3_partAt_13 : decode cX3_partAt 13 = .ok (.aload_n 0, 1) := all_d dX3_partAt_all0 7 rfl
theorem dX3_partAt_14 : decode cX3_partAt 14 = .ok (.getfield 11, 3) := all_d dX3_partAt_all0 8 rfl
theorem dX3_partAt_17 : decode cX3_partAt 17 = .ok (.arraylength, 1) := all_d dX3_partAt_all0 9 rfl
theorem dX3_partAt_18 : decode cX3_partAt 18 = .ok (.if_icmp .ge 12, 3) := all_d dX3_partAt_all0 10 rfl
theorem dX3_partAt_21 : decode cX3_partAt 21 = .ok (.aload_n 0, 1) := all_d dX3_partAt_all0 11 rfl
theorem dX3_partAt_22 : decode cX3_partAt 22 = .ok (.getfield 11, 3) := all_d dX3_partAt_all0 12 rfl
theorem dX3_partAt_25 : decode cX3_partAt 25 = .ok (.iload_n 1, 1) := all_d dX3_partAt_all0 13 rfl
theorem dX3_partAt_26 : decode cX3_partAt 26 = .ok (.aaload, 1) := all_d dX3_partAt_all0 14 rfl
theorem dX3_partAt_27 : decode cX3_partAt 27 = .ok (.goto 4, 3) := all_d dX3_partAt_all0 15 rfl
theorem dX3_partAt_30 : decode cX3_partAt 30 = .ok (.aconst_null, 1) := all_d dX3_partAt_all0 16 rfl
theorem dX3_partAt_31 : decode cX3_partAt 31 = .ok (.areturn, 1) := all_d dX3_partAt_all0 17 rfl
set_option maxRecDepth 100000 in
theorem dX3_isStaged_all0 : ([(0, (.aload_n 0 : Instr), 1), (1, (.getfield 18 : Instr), 3), (4, (.iconst 3 : Instr), 1), (5, (.if_icmp .eq 11 : Instr), 3), (8, (.aload_n 0 : Instr), 1), (9, (.getfield 18 : Instr), 3), (12, (.iconst 4 : Instr), 1), (13, (.if_icmp .ne 7 : Instr), 3), (16, (.iconst 1 : Instr), 1), (17, (.goto 4 : Instr), 3), (20, (.iconst 0 : Instr), 1), (21, (.ireturn : Instr), 1)] : List (Nat × Instr × Nat)).all (fun q => decide (decode cX3_isStaged q.1 = .ok (q.2.1, q.2.2))) = true := by decide +kernel
theorem dX3_isStaged_0 : decode cX3_isStaged 0 = .ok (.aload_n 0, 1) := all_d dX3_isStaged_all0 0 rfl
theorem dX3_isStaged_1 : decode cX3_isStaged 1 = .ok (.getfield 18, 3) := all_d dX3_isStaged_all0 1 rfl
theorem dX3_isStaged_4 : decode cX3_isStaged 4 = .ok (.iconst 3, 1) := all_d dX3_isStaged_all0 2 rfl
theorem dX3_isStaged_5 : decode cX3_isStaged 5 = .ok (.if_icmp .eq 11, 3) := all_d dX3_isStaged_all0 3 rfl
theorem dX3_isStaged_8 : decode cX3_isStaged 8 = .ok (.aload_n 0, 1) := all_d dX3_isStaged_all0 4 rfl
theorem dX3_isStaged_9 : decode cX3_isStaged 9 = .ok (.getfield 18, 3) := all_d dX3_isStaged_all0 5 rfl
theorem dX3_isStaged_12 : decode cX3_isStaged 12 = .ok (.iconst 4, 1) := all_d dX3_isStaged_all0 6 rfl
theorem dX3_isStaged_13 : decode cX3_isStaged 13 = .ok (.if_icmp .ne 7, 3) := all_d dX3_isStaged_all0 7 rfl
theorem dX3_isStaged_16 : decode cX3_isStaged 16 = .ok (.iconst 1, 1) := all_d dX3_isStaged_all0 8 rfl
theorem dX3_isStaged_17 : decode cX3_isStaged 17 = .ok (.goto 4, 3) := all_d dX3_isStaged_all0 9 rfl
theorem dX3_isStaged_20 : decode cX3_isStaged 20 = .ok (.iconst 0, 1) := all_d dX3_isStaged_all0 10 rfl
theorem dX3_isStaged_21 : decode cX3_isStaged 21 = .ok (.ireturn, 1) := all_d dX3_isStaged_all0 11 rfl
set_option maxRecDepth 100000 in
theorem dX3_addPart_all0 : ([(0, (.aload_n 0 : Instr), 1), (1, (.getfield 22 : Instr), 3), (4, (.aload_n 0 : Instr), 1), (5, (.getfield 11 : Instr), 3), (8, (.arraylength : Instr), 1), (9, (.if_icmp .lt 4 : Instr), 3), (12, (.return_ : Instr), 1), (13, (.aload_n 0 : Instr), 1), (14, (.dup : Instr), 1), (15, (.getfield 22 : Instr), 3), (18, (.iconst 1 : Instr), 1), (19, (.iadd : Instr), 1), (20, (.putfield 22 : Instr), 3), (23, (.aload_n 0 : Instr), 1), (24, (.aload_n 0 : Instr), 1), (25, (.getfield 22 : Instr), 3), (28, (.iconst 1 : Instr), 1), (29, (.isub : Instr), 1), (30, (.invokevirtual 25 : Instr), 3), (33, (.astore_n 3 : Instr), 1), (34, (.aload_n 3 : Instr), 1), (35, (.ifnonnull 4 : Instr), 3), (38, (.return_ : Instr), 1), (39, (.aload_n 3 : Instr), 1), (40, (.iload_n 1 : Instr), 1), (41, (.putfield 29 : Instr), 3), (44, (.aload_n 3 : Instr), 1), (45, (.iconst 0 : Instr), 1), (46, (.putfield 32 : Instr), 3), (49, (.aload_n 3 : Instr), 1), (50, (.aload_n 0 : Instr), 1), (51, (.getfield 18 : Instr), 3), (54, (.iconst 2 : Instr), 1), (55, (.if_icmp .ne 7 : Instr), 3), (58, (.iload_n 1 : Instr), 1), (59, (.goto 4 : Instr), 3), (62, (.iconst 1 : Instr), 1), (63, (.putfield 35 : Instr), 3), (66, (.aload_n 3 : Instr), 1), (67, (.aload_n 0 : Instr), 1), (68, (.invokevirtual 38 : Instr), 3), (71, (.ifCond .eq 7 : Instr), 3), (74, (.iload_n 2 : Instr), 1), (75, (.goto 4 : Instr), 3), (78, (.iconst 0 : Instr), 1), (79, (.putfield 42 : Instr), 3), (82, (.aload_n 0 : Instr), 1), (83, (.invokevirtual 38 : Instr), 3), (86, (.ifCond .eq 7 : Instr), 3), (89, (.aload_n 0 : Instr), 1), (90, (.invokevirtual 45 : Instr), 3), (93, (.return_ : Instr), 1)] : List (Nat × Instr × Nat)).all (fun q => decide (decode cX3_addPart q.1 = .ok (q.2.1, q.2.2))) = true := by decide +kernel
theorem dX3_addPart_0 : decode cX3_addPart 0 = .ok (.aload_n 0, 1) := all_d dX3_addPart_all0 0 rfl
theorem dX3_addPart_1 : decode cX3_addPart 1 = .ok (.getfield 22, 3) := all_d dX3_addPart_all0 1 rfl
theorem dX3_addPart_4 : decode cX3_addPart 4 = .ok (.aload_n 0, 1) := all_d dX3_addPart_all0 2 rfl
theorem dX3_addPart_5 : decode cX3_addPart 5 = .ok (.getfield 11, 3) := all_d dX3_addPart_all0 3 rfl
theorem dX3_addPart_8 : decode cX3_addPart 8 = .ok (.arraylength, 1) := all_d dX3_addPart_all0 4 rfl
theorem dX3_addPart_9 : decode cX3_addPart 9 = .ok (.if_icmp .lt 4, 3) := all_d dX3_addPart_all0 5 rfl
theorem dX3_addPart_12 : decode cX3_addPart 12 = .ok (.return_, 1) := all_d dX3_addPart_all0 6 rfl
theorem dX3_addPart_13 : decode cX3_addPart 13 = .ok (.aload_n 0, 1) := all_d dX3_addPart_all0 7 rfl
theorem dX3_addPart_14 : decode cX3_addPart 14 = .ok (.dup, 1) := all_d dX3_addPart_all0 8 rfl
theorem dX3_addPart_15 : decode cX3_addPart 15 = .ok (.getfield 22, 3) := all_d dX3_addPart_all0 9 rfl
theorem dX3_addPart_18 : decode cX3_addPart 18 = .ok (.iconst 1, 1) := all_d dX3_addPart_all0 10 rfl
theorem dX3_addPart_19 : decode cX3_addPart 19 = .ok (.iadd, 1) := all_d dX3_addPart_all0 11 rfl
theorem dX3_addPart_20 : decode cX3_addPart 20 = .ok (.putfield 22, 3) := all_d dX3_addPart_all0 12 rfl
theorem dX3_addPart_23 : decode cX3_addPart 23 = .ok (.aload_n 0, 1) := all_d dX3_addPart_all0 13 rfl
theorem dX3_addPart_24 : decode cX3_addPart 24 = .ok (.aload_n 0, 1) := all_d dX3_addPart_all0 14 rfl
theorem dX3_addPart_25 : decode cX3_addPart 25 = .ok (.getfield 22, 3) := all_d dX3_addPart_all0 15 rfl
theorem dX3_addPart_28 : decode cX3_addPart 28 = .ok (.iconst 1, 1) := all_d dX3_addPart_all0 16 rfl
theorem dX3_addPart_29 : decode cX3_addPart 29 = .ok (.isub, 1) := all_d dX3_addPart_all0 17 rfl
theorem dX3_addPart_30 : decode cX3_addPart 30 = .ok (.invokevirtual 25, 3) := all_d dX3_addPart_all0 18 rfl
theorem dX3_addPart_33 : decode cX3_addPart 33 = .ok (.astore_n 3, 1) := all_d dX3_addPart_all0 19 rfl
theorem dX3_addPart_34 : decode cX3_addPart 34 = .ok (.aload_n 3, 1) := all_d dX3_addPart_all0 20 rfl
theorem dX3_addPart_35 : decode cX3_addPart 35 = .ok (.ifnonnull 4, 3) := all_d dX3_addPart_all0 21 rfl
theorem dX3_addPart_38 : decode cX3_addPart 38 = .ok (.return_, 1) := all_d dX3_addPart_all0 22 rfl
theorem dX3_addPart_39 : decode cX3_addPart 39 = .ok (.aload_n 3, 1) := all_d dX3_addPart_all0 23 rfl
theorem dX3_addPart_40 : decode cX3_addPart 40 = .ok (.iload_n 1, 1) := all_d dX3_addPart_all0 24 rfl
theorem dX3_addPart_41 : decode cX3_addPart 41 = .ok (.putfield 29, 3) := all_d dX3_addPart_all0 25 rfl
theorem dX3_addPart_44 : decode cX3_addPart 44 = .ok (.aload_n 3, 1) := all_d dX3_addPart_all0 26 rfl
theorem dX3_addPart_45 : decode cX3_addPart 45 = .ok (.iconst 0, 1) := all_d dX3_addPart_all0 27 rfl
theorem dX3_addPart_46 : decode cX3_addPart 46 = .ok (.putfield 32, 3) := all_d dX3_addPart_all0 28 rfl
theorem dX3_addPart_49 : decode cX3_addPart 49 = .ok (.aload_n 3, 1) := all_d dX3_addPart_all0 29 rfl
theorem dX3_addPart_50 : decode cX3_addPart 50 = .ok (.aload_n 0, 1) := all_d dX3_addPart_all0 30 rfl
theorem dX3_addPart_51 : decode cX3_addPart 51 = .ok (.getfield 18, 3) := all_d dX3_addPart_all0 31 rfl
theorem dX3_addPart_54 : decode cX3_addPart 54 = .ok (.iconst 2, 1) := all_d dX3_addPart_all0 32 rfl
theorem dX3_addPart_55 : decode cX3_addPart 55 = .ok (.if_icmp .ne 7, 3) := all_d dX3_addPart_all0 33 rfl
theorem dX3_addPart_58 : decode cX3_addPart 58 = .ok (.iload_n 1, 1) := all_d dX3_addPart_all0 34 rfl
theorem dX3_addPart_59 : decode cX3_addPart 59 = .ok (.goto 4, 3) := all_d dX3_addPart_all0 35 rfl
theorem dX3_addPart_62 : decode cX3_addPart 62 = .ok (.iconst 1, 1) := all_d dX3_addPart_all0 36 rfl
theorem dX3_addPart_63 : decode cX3_addPart 63 = .ok (.putfield 35, 3) := all_d dX3_addPart_all0 37 rfl
theorem dX3_addPart_66 : decode cX3_addPart 66 = .ok (.aload_n 3, 1) := all_d dX3_addPart_all0 38 rfl
theorem dX3_addPart_67 : decode cX3_addPart 67 = .ok (.aload_n 0, 1) := all_d dX3_addPart_all0 39 rfl
theorem dX3_addPart_68 : decode cX3_addPart 68 = .ok (.invokevirtual 38, 3) := all_d dX3_addPart_all0 40 rfl
theorem dX3_addPart_71 : decode cX3_addPart 71 = .ok (.ifCond .eq 7, 3) := all_d dX3_addPart_all0 41 rfl
theorem dX3_addPart_74 : decode cX3_addPart 74 = .ok (.iload_n 2, 1) := all_d dX3_addPart_all0 42 rfl
theorem dX3_addPart_75 : decode cX3_addPart 75 = .ok (.goto 4, 3) := all_d dX3_addPart_all0 43 rfl
theorem dX3_addPart_78 : decode cX3_addPart 78 = .ok (.iconst 0, 1) := all_d dX3_addPart_all0 44 rfl
theorem dX3_addPart_79 : decode cX3_addPart 79 = .ok (.putfield 42, 3) := all_d dX3_addPart_all0 45 rfl
theorem dX3_addPart_82 : decode cX3_addPart 82 = .ok (.aload_n 0, 1) := all_d dX3_addPart_all0 46 rfl
theorem dX3_addPart_83 : decode cX3_addPart 83 = .ok (.invokevirtual 38, 3) := all_d dX3_addPart_all0 47 rfl
theorem dX3_addPart_86 : decode cX3_addPart 86 = .ok (.ifCond .eq 7, 3) := all_d dX3_addPart_all0 48 rfl
theorem dX3_addPart_89 : decode cX3_addPart 89 = .ok (.aload_n 0, 1) := all_d dX3_addPart_all0 49 rfl
theorem dX3_addPart_90 : decode cX3_addPart 90 = .ok (.invokevirtual 45, 3) := all_d dX3_addPart_all0 50 rfl
theorem dX3_addPart_93 : decode cX3_addPart 93 = .ok (.return_, 1) := all_d dX3_addPart_all0 51 rfl
set_option maxRecDepth 100000 in
theorem dX3_dropPart_all0 : ([(0, (.aload_n 0 : Instr), 1), (1, (.getfield 22 : Instr), 3), (4, (.ifCond .le 13 : Instr), 3), (7, (.aload_n 0 : Instr), 1), (8, (.dup : Instr), 1), (9, (.getfield 22 : Instr), 3), (12, (.iconst 1 : Instr), 1), (13, (.isub : Instr), 1), (14, (.putfield 22 : Instr), 3), (17, (.return_ : Instr), 1)] : List (Nat × Instr × Nat)).all (fun q => decide (decode cX3_dropPart q.1 = .ok (q.2.1, q.2.2))) = true := by decide +kernel
theorem dX3_dropPart_0 : decode cX3_dropPart 0 = .ok (.aload_n 0, 1) := all_d dX3_dropPart_all0 0 rfl
theorem dX3_dropPart_1 : decode cX3_dropPart 1 = .ok (.getfield 22, 3) := all_d dX3_dropPart_all0 1 rfl
theorem dX3_dropPart_4 : decode cX3_dropPart 4 = .ok (.ifCond .le 13, 3) := all_d dX3_dropPart_all0 2 rfl
theorem dX3_dropPart_7 : decode cX3_dropPart 7 = .ok (.aload_n 0, 1) := all_d dX3_dropPart_all0 3 rfl
theorem dX3_dropPart_8 : decode cX3_dropPart 8 = .ok (.dup, 1) := all_d dX3_dropPart_all0 4 rfl
theorem dX3_dropPart_9 : decode cX3_dropPart 9 = .ok (.getfield 22, 3) := all_d dX3_dropPart_all0 5 rfl
theorem dX3_dropPart_12 : decode cX3_dropPart 12 = .ok (.iconst 1, 1) := all_d dX3_dropPart_all0 6 rfl
theorem dX3_dropPart_13 : decode cX3_dropPart 13 = .ok (.isub, 1) := all_d dX3_dropPart_all0 7 rfl
theorem dX3_dropPart_14 : decode cX3_dropPart 14 = .ok (.putfield 22, 3) := all_d dX3_dropPart_all0 8 rfl
theorem dX3_dropPart_17 : decode cX3_dropPart 17 = .ok (.return_, 1) := all_d dX3_dropPart_all0 9 rfl
set_option maxRecDepth 100000 in
theorem dX3_doubleWorths_all0 : ([(0, (.iconst 1 : Instr), 1), (1, (.istore_n 1 : Instr), 1), (2, (.aload_n 0 : Instr), 1), (3, (.getfield 22 : Instr), 3), (6, (.iconst 1 : Instr), 1), (7, (.isub : Instr), 1), (8, (.istore_n 2 : Instr), 1), (9, (.iload_n 2 : Instr), 1), (10, (.ifCond .lt 34 : Instr), 3), (13, (.aload_n 0 : Instr), 1), (14, (.iload_n 2 : Instr), 1), (15, (.invokevirtual 25 : Instr), 3), (18, (.astore_n 3 : Instr), 1), (19, (.aload_n 3 : Instr), 1), (20, (.ifnull 8 : Instr), 3), (23, (.aload_n 3 : Instr), 1), (24, (.iload_n 1 : Instr), 1), (25, (.putfield 35 : Instr), 3), (28, (.sipush 8000 : Instr), 3), (31, (.iload_n 1 : Instr), 1), (32, (.iconst 2 : Instr), 1), (33, (.imul : Instr), 1), (34, (.invokestatic 48 : Instr), 3), (37, (.istore_n 1 : Instr), 1), (38, (.iinc 2 (-1) : Instr), 3), (41, (.goto (-32) : Instr), 3), (44, (.return_ : Instr), 1)] : List (Nat × Instr × Nat)).all (fun q => decide (decode cX3_doubleWorths q.1 = .ok (q.2.1, q.2.2))) = true := by decide +kernel
theorem dX3_doubleWorths_0 : decode cX3_doubleWorths 0 = .ok (.iconst 1, 1) := all_d dX3_doubleWorths_all0 0 rfl
theorem dX3_doubleWorths_1 : decode cX3_doubleWorths 1 = .ok (.istore_n 1, 1) := all_d dX3_doubleWorths_all0 1 rfl
theorem dX3_doubleWorths_2 : decode cX3_doubleWorths 2 = .ok (.aload_n 0, 1) := all_d dX3_doubleWorths_all0 2 rfl
theorem dX3_doubleWorths_3 : decode cX3_doubleWorths 3 = .ok (.getfield 22, 3) := all_d dX3_doubleWorths_all0 3 rfl
theorem dX3_doubleWorths_6 : decode cX3_doubleWorths 6 = .ok (.iconst 1, 1) := all_d dX3_doubleWorths_all0 4 rfl
theorem dX3_doubleWorths_7 : decode cX3_doubleWorths 7 = .ok (.isub, 1) := all_d dX3_doubleWorths_all0 5 rfl
theorem dX3_doubleWorths_8 : decode cX3_doubleWorths 8 = .ok (.istore_n 2, 1) := all_d dX3_doubleWorths_all0 6 rfl
theorem dX3_doubleWorths_9 : decode cX3_doubleWorths 9 = .ok (.iload_n 2, 1) := all_d dX3_doubleWorths_all0 7 rfl
theorem dX3_doubleWorths_10 : decode cX3_doubleWorths 10 = .ok (.ifCond .lt 34, 3) := all_d dX3_doubleWorths_all0 8 rfl
theorem dX3_doubleWorths_13 : decode cX3_doubleWorths 13 = .ok (.aload_n 0, 1) := all_d dX3_doubleWorths_all0 9 rfl
theorem dX3_doubleWorths_14 : decode cX3_doubleWorths 14 = .ok (.iload_n 2, 1) := all_d dX3_doubleWorths_all0 10 rfl
theorem dX3_doubleWorths_15 : decode cX3_doubleWorths 15 = .ok (.invokevirtual 25, 3) := all_d dX3_doubleWorths_all0 11 rfl
theorem dX3_doubleWorths_18 : decode cX3_doubleWorths 18 = .ok (.astore_n 3, 1) := all_d dX3_doubleWorths_all0 12 rfl
theorem dX3_doubleWorths_19 : decode cX3_doubleWorths 19 = .ok (.aload_n 3, 1) := all_d dX3_doubleWorths_all0 13 rfl
theorem dX3_doubleWorths_20 : decode cX3_doubleWorths 20 = .ok (.ifnull 8, 3) := all_d dX3_doubleWorths_all0 14 rfl
theorem dX3_doubleWorths_23 : decode cX3_doubleWorths 23 = .ok (.aload_n 3, 1) := all_d dX3_doubleWorths_all0 15 rfl
theorem dX3_doubleWorths_24 : decode cX3_doubleWorths 24 = .ok (.iload_n 1, 1) := all_d dX3_doubleWorths_all0 16 rfl
theorem dX3_doubleWorths_25 : decode cX3_doubleWorths 25 = .ok (.putfield 35, 3) := all_d dX3_doubleWorths_all0 17 rfl
theorem dX3_doubleWorths_28 : decode cX3_doubleWorths 28 = .ok (.sipush 8000, 3) := all_d dX3_doubleWorths_all0 18 rfl
theorem dX3_doubleWorths_31 : decode cX3_doubleWorths 31 = .ok (.iload_n 1, 1) := all_d dX3_doubleWorths_all0 19 rfl
theorem dX3_doubleWorths_32 : decode cX3_doubleWorths 32 = .ok (.iconst 2, 1) := all_d dX3_doubleWorths_all0 20 rfl
theorem dX3_doubleWorths_33 : decode cX3_doubleWorths 33 = .ok (.imul, 1) := all_d dX3_doubleWorths_all0 21 rfl
theorem dX3_doubleWorths_34 : decode cX3_doubleWorths 34 = .ok (.invokestatic 48, 3) := all_d dX3_doubleWorths_all0 22 rfl
theorem dX3_doubleWorths_37 : decode cX3_doubleWorths 37 = .ok (.istore_n 1, 1) := all_d dX3_doubleWorths_all0 23 rfl
theorem dX3_doubleWorths_38 : decode cX3_doubleWorths 38 = .ok (.iinc 2 (-1), 3) := all_d dX3_doubleWorths_all0 24 rfl
theorem dX3_doubleWorths_41 : decode cX3_doubleWorths 41 = .ok (.goto (-32), 3) := all_d dX3_doubleWorths_all0 25 rfl
theorem dX3_doubleWorths_44 : decode cX3_doubleWorths 44 = .ok (.return_, 1) := all_d dX3_doubleWorths_all0 26 rfl
set_option maxRecDepth 100000 in
theorem dX3_mendWorths_all0 : ([(0, (.iconst 0 : Instr), 1), (1, (.istore_n 1 : Instr), 1), (2, (.iload_n 1 : Instr), 1), (3, (.aload_n 0 : Instr), 1), (4, (.getfield 22 : Instr), 3), (7, (.if_icmp .ge 27 : Instr), 3), (10, (.aload_n 0 : Instr), 1), (11, (.iload_n 1 : Instr), 1), (12, (.invokevirtual 25 : Instr), 3), (15, (.astore_n 2 : Instr), 1), (16, (.aload_n 2 : Instr), 1), (17, (.ifnull 11 : Instr), 3), (20, (.aload_n 2 : Instr), 1), (21, (.aload_n 2 : Instr), 1), (22, (.invokevirtual 54 : Instr), 3), (25, (.putfield 35 : Instr), 3), (28, (.iinc 1 1 : Instr), 3), (31, (.goto (-29) : Instr), 3), (34, (.return_ : Instr), 1)] : List (Nat × Instr × Nat)).all (fun q => decide (decode cX3_mendWorths q.1 = .ok (q.2.1, q.2.2))) = true := by decide +kernel
theorem dX3_mendWorths_0 : decode cX3_mendWorths 0 = .ok (.iconst 0, 1) := all_d dX3_mendWorths_all0 0 rfl
theorem dX3_mendWorths_1 : decode cX3_mendWorths 1 = .ok (.istore_n 1, 1) := all_d dX3_mendWorths_all0 1 rfl
theorem dX3_mendWorths_2 : decode cX3_mendWorths 2 = .ok (.iload_n 1, 1) := all_d dX3_mendWorths_all0 2 rfl
theorem dX3_mendWorths_3 : decode cX3_mendWorths 3 = .ok (.aload_n 0, 1) := all_d dX3_mendWorths_all0 3 rfl
theorem dX3_mendWorths_4 : decode cX3_mendWorths 4 = .ok (.getfield 22, 3) := all_d dX3_mendWorths_all0 4 rfl
theorem dX3_mendWorths_7 : decode cX3_mendWorths 7 = .ok (.if_icmp .ge 27, 3) := all_d dX3_mendWorths_all0 5 rfl
theorem dX3_mendWorths_10 : decode cX3_mendWorths 10 = .ok (.aload_n 0, 1) := all_d dX3_mendWorths_all0 6 rfl
theorem dX3_mendWorths_11 : decode cX3_mendWorths 11 = .ok (.iload_n 1, 1) := all_d dX3_mendWorths_all0 7 rfl
theorem dX3_mendWorths_12 : decode cX3_mendWorths 12 = .ok (.invokevirtual 25, 3) := all_d dX3_mendWorths_all0 8 rfl
theorem dX3_mendWorths_15 : decode cX3_mendWorths 15 = .ok (.astore_n 2, 1) := all_d dX3_mendWorths_all0 9 rfl
theorem dX3_mendWorths_16 : decode cX3_mendWorths 16 = .ok (.aload_n 2, 1) := all_d dX3_mendWorths_all0 10 rfl
theorem dX3_mendWorths_17 : decode cX3_mendWorths 17 = .ok (.ifnull 11, 3) := all_d dX3_mendWorths_all0 11 rfl
theorem dX3_mendWorths_20 : decode cX3_mendWorths 20 = .ok (.aload_n 2, 1) := all_d dX3_mendWorths_all0 12 rfl
theorem dX3_mendWorths_21 : decode cX3_mendWorths 21 = .ok (.aload_n 2, 1) := all_d dX3_mendWorths_all0 13 rfl
theorem dX3_mendWorths_22 : decode cX3_mendWorths 22 = .ok (.invokevirtual 54, 3) := all_d dX3_mendWorths_all0 14 rfl
theorem dX3_mendWorths_25 : decode cX3_mendWorths 25 = .ok (.putfield 35, 3) := all_d dX3_mendWorths_all0 15 rfl
theorem dX3_mendWorths_28 : decode cX3_mendWorths 28 = .ok (.iinc 1 1, 3) := all_d dX3_mendWorths_all0 16 rfl
theorem dX3_mendWorths_31 : decode cX3_mendWorths 31 = .ok (.goto (-29), 3) := all_d dX3_mendWorths_all0 17 rfl
theorem dX3_mendWorths_34 : decode cX3_mendWorths 34 = .ok (.return_, 1) := all_d dX3_mendWorths_all0 18 rfl
set_option maxRecDepth 100000 in
theorem dX3_keepWorths_all0 : ([(0, (.iconst 0 : Instr), 1), (1, (.istore_n 2 : Instr), 1), (2, (.iload_n 2 : Instr), 1), (3, (.aload_n 0 : Instr), 1), (4, (.getfield 22 : Instr), 3), (7, (.if_icmp .ge 36 : Instr), 3), (10, (.iload_n 2 : Instr), 1), (11, (.aload_n 1 : Instr), 1), (12, (.arraylength : Instr), 1), (13, (.if_icmp .ge 30 : Instr), 3), (16, (.aload_n 0 : Instr), 1), (17, (.iload_n 2 : Instr), 1), (18, (.invokevirtual 25 : Instr), 3), (21, (.astore_n 3 : Instr), 1), (22, (.aload_n 1 : Instr), 1), (23, (.iload_n 2 : Instr), 1), (24, (.aload_n 3 : Instr), 1), (25, (.ifnonnull 7 : Instr), 3), (28, (.iconst 0 : Instr), 1), (29, (.goto 7 : Instr), 3), (32, (.aload_n 3 : Instr), 1), (33, (.getfield 35 : Instr), 3), (36, (.iastore : Instr), 1), (37, (.iinc 2 1 : Instr), 3), (40, (.goto (-38) : Instr), 3), (43, (.return_ : Instr), 1)] : List (Nat × Instr × Nat)).all (fun q => decide (decode cX3_keepWorths q.1 = .ok (q.2.1, q.2.2))) = true := by decide +kernel
theorem dX3_keepWorths_0 : decode cX3_keepWorths 0 = .ok (.iconst 0, 1) := all_d dX3_keepWorths_all0 0 rfl
theorem dX3_keepWorths_1 : decode cX3_keepWorths 1 = .ok (.istore_n 2, 1) := all_d dX3_keepWorths_all0 1 rfl
theorem dX3_keepWorths_2 : decode cX3_keepWorths 2 = .ok (.iload_n 2, 1) := all_d dX3_keepWorths_all0 2 rfl
theorem dX3_keepWorths_3 : decode cX3_keepWorths 3 = .ok (.aload_n 0, 1) := all_d dX3_keepWorths_all0 3 rfl
theorem dX3_keepWorths_4 : decode cX3_keepWorths 4 = .ok (.getfield 22, 3) := all_d dX3_keepWorths_all0 4 rfl
theorem dX3_keepWorths_7 : decode cX3_keepWorths 7 = .ok (.if_icmp .ge 36, 3) := all_d dX3_keepWorths_all0 5 rfl
theorem dX3_keepWorths_10 : decode cX3_keepWorths 10 = .ok (.iload_n 2, 1) := all_d dX3_keepWorths_all0 6 rfl
theorem dX3_keepWorths_11 : decode cX3_keepWorths 11 = .ok (.aload_n 1, 1) := all_d dX3_keepWorths_all0 7 rfl
theorem dX3_keepWorths_12 : decode cX3_keepWorths 12 = .ok (.arraylength, 1) := all_d dX3_keepWorths_all0 8 rfl
theorem dX3_keepWorths_13 : decode cX3_keepWorths 13 = .ok (.if_icmp .ge 30, 3) := all_d dX3_keepWorths_all0 9 rfl
theorem dX3_keepWorths_16 : decode cX3_keepWorths 16 = .ok (.aload_n 0, 1) := all_d dX3_keepWorths_all0 10 rfl
theorem dX3_keepWorths_17 : decode cX3_keepWorths 17 = .ok (.iload_n 2, 1) := all_d dX3_keepWorths_all0 11 rfl
theorem dX3_keepWorths_18 : decode cX3_keepWorths 18 = .ok (.invokevirtual 25, 3) := all_d dX3_keepWorths_all0 12 rfl
theorem dX3_keepWorths_21 : decode cX3_keepWorths 21 = .ok (.astore_n 3, 1) := all_d dX3_keepWorths_all0 13 rfl
theorem dX3_keepWorths_22 : decode cX3_keepWorths 22 = .ok (.aload_n 1, 1) := all_d dX3_keepWorths_all0 14 rfl
theorem dX3_keepWorths_23 : decode cX3_keepWorths 23 = .ok (.iload_n 2, 1) := all_d dX3_keepWorths_all0 15 rfl
theorem dX3_keepWorths_24 : decode cX3_keepWorths 24 = .ok (.aload_n 3, 1) := all_d dX3_keepWorths_all0 16 rfl
theorem dX3_keepWorths_25 : decode cX3_keepWorths 25 = .ok (.ifnonnull 7, 3) := all_d dX3_keepWorths_all0 17 rfl
theorem dX3_keepWorths_28 : decode cX3_keepWorths 28 = .ok (.iconst 0, 1) := all_d dX3_keepWorths_all0 18 rfl
theorem dX3_keepWorths_29 : decode cX3_keepWorths 29 = .ok (.goto 7, 3) := all_d dX3_keepWorths_all0 19 rfl
theorem dX3_keepWorths_32 : decode cX3_keepWorths 32 = .ok (.aload_n 3, 1) := all_d dX3_keepWorths_all0 20 rfl
theorem dX3_keepWorths_33 : decode cX3_keepWorths 33 = .ok (.getfield 35, 3) := all_d dX3_keepWorths_all0 21 rfl
theorem dX3_keepWorths_36 : decode cX3_keepWorths 36 = .ok (.iastore, 1) := all_d dX3_keepWorths_all0 22 rfl
theorem dX3_keepWorths_37 : decode cX3_keepWorths 37 = .ok (.iinc 2 1, 3) := all_d dX3_keepWorths_all0 23 rfl
theorem dX3_keepWorths_40 : decode cX3_keepWorths 40 = .ok (.goto (-38), 3) := all_d dX3_keepWorths_all0 24 rfl
theorem dX3_keepWorths_43 : decode cX3_keepWorths 43 = .ok (.return_, 1) := all_d dX3_keepWorths_all0 25 rfl
set_option maxRecDepth 100000 in
theorem dX3_giveWorths_all0 : ([(0, (.iconst 0 : Instr), 1), (1, (.istore_n 2 : Instr), 1), (2, (.iload_n 2 : Instr), 1), (3, (.aload_n 0 : Instr), 1), (4, (.getfield 22 : Instr), 3), (7, (.if_icmp .ge 32 : Instr), 3), (10, (.iload_n 2 : Instr), 1), (11, (.aload_n 1 : Instr), 1), (12, (.arraylength : Instr), 1), (13, (.if_icmp .ge 26 : Instr), 3), (16, (.aload_n 0 : Instr), 1), (17, (.iload_n 2 : Instr), 1), (18, (.invokevirtual 25 : Instr), 3), (21, (.astore_n 3 : Instr), 1), (22, (.aload_n 3 : Instr), 1), (23, (.ifnull 10 : Instr), 3), (26, (.aload_n 3 : Instr), 1), (27, (.aload_n 1 : Instr), 1), (28, (.iload_n 2 : Instr), 1), (29, (.iaload : Instr), 1), (30, (.putfield 35 : Instr), 3), (33, (.iinc 2 1 : Instr), 3), (36, (.goto (-34) : Instr), 3), (39, (.return_ : Instr), 1)] : List (Nat × Instr × Nat)).all (fun q => decide (decode cX3_giveWorths q.1 = .ok (q.2.1, q.2.2))) = true := by decide +kernel
theorem dX3_giveWorths_0 : decode cX3_giveWorths 0 = .ok (.iconst 0, 1) := all_d dX3_giveWorths_all0 0 rfl
theorem dX3_giveWorths_1 : decode cX3_giveWorths 1 = .ok (.istore_n 2, 1) := all_d dX3_giveWorths_all0 1 rfl
theorem dX3_giveWorths_2 : decode cX3_giveWorths 2 = .ok (.iload_n 2, 1) := all_d dX3_giveWorths_all0 2 rfl
theorem dX3_giveWorths_3 : decode cX3_giveWorths 3 = .ok (.aload_n 0, 1) := all_d dX3_giveWorths_all0 3 rfl
theorem dX3_giveWorths_4 : decode cX3_giveWorths 4 = .ok (.getfield 22, 3) := all_d dX3_giveWorths_all0 4 rfl
theorem dX3_giveWorths_7 : decode cX3_giveWorths 7 = .ok (.if_icmp .ge 32, 3) := all_d dX3_giveWorths_all0 5 rfl
theorem dX3_giveWorths_10 : decode cX3_giveWorths 10 = .ok (.iload_n 2, 1) := all_d dX3_giveWorths_all0 6 rfl
theorem dX3_giveWorths_11 : decode cX3_giveWorths 11 = .ok (.aload_n 1, 1) := all_d dX3_giveWorths_all0 7 rfl
theorem dX3_giveWorths_12 : decode cX3_giveWorths 12 = .ok (.arraylength, 1) := all_d dX3_giveWorths_all0 8 rfl
theorem dX3_giveWorths_13 : decode cX3_giveWorths 13 = .ok (.if_icmp .ge 26, 3) := all_d dX3_giveWorths_all0 9 rfl
theorem dX3_giveWorths_16 : decode cX3_giveWorths 16 = .ok (.aload_n 0, 1) := all_d dX3_giveWorths_all0 10 rfl
theorem dX3_giveWorths_17 : decode cX3_giveWorths 17 = .ok (.iload_n 2, 1) := all_d dX3_giveWorths_all0 11 rfl
theorem dX3_giveWorths_18 : decode cX3_giveWorths 18 = .ok (.invokevirtual 25, 3) := all_d dX3_giveWorths_all0 12 rfl
theorem dX3_giveWorths_21 : decode cX3_giveWorths 21 = .ok (.astore_n 3, 1) := all_d dX3_giveWorths_all0 13 rfl
theorem dX3_giveWorths_22 : decode cX3_giveWorths 22 = .ok (.aload_n 3, 1) := all_d dX3_giveWorths_all0 14 rfl
theorem dX3_giveWorths_23 : decode cX3_giveWorths 23 = .ok (.ifnull 10, 3) := all_d dX3_giveWorths_all0 15 rfl
theorem dX3_giveWorths_26 : decode cX3_giveWorths 26 = .ok (.aload_n 3, 1) := all_d dX3_giveWorths_all0 16 rfl
theorem dX3_giveWorths_27 : decode cX3_giveWorths 27 = .ok (.aload_n 1, 1) := all_d dX3_giveWorths_all0 17 rfl
theorem dX3_giveWorths_28 : decode cX3_giveWorths 28 = .ok (.iload_n 2, 1) := all_d dX3_giveWorths_all0 18 rfl
theorem dX3_giveWorths_29 : decode cX3_giveWorths 29 = .ok (.iaload, 1) := all_d dX3_giveWorths_all0 19 rfl
theorem dX3_giveWorths_30 : decode cX3_giveWorths 30 = .ok (.putfield 35, 3) := all_d dX3_giveWorths_all0 20 rfl
theorem dX3_giveWorths_33 : decode cX3_giveWorths 33 = .ok (.iinc 2 1, 3) := all_d dX3_giveWorths_all0 21 rfl
theorem dX3_giveWorths_36 : decode cX3_giveWorths 36 = .ok (.goto (-34), 3) := all_d dX3_giveWorths_all0 22 rfl
theorem dX3_giveWorths_39 : decode cX3_giveWorths 39 = .ok (.return_, 1) := all_d dX3_giveWorths_all0 23 rfl
set_option maxRecDepth 100000 in
theorem dX3_codeOf_all0 : ([(0, (.aload_n 0 : Instr), 1), (1, (.iconst 0 : Instr), 1), (2, (.putfield 58 : Instr), 3), (5, (.aload_n 0 : Instr), 1), (6, (.iconst 0 : Instr), 1), (7, (.putfield 61 : Instr), 3), (10, (.aload_n 0 : Instr), 1), (11, (.iload_n 1 : Instr), 1), (12, (.putfield 64 : Instr), 3), (15, (.aload_n 0 : Instr), 1), (16, (.getfield 18 : Instr), 3), (19, (.iconst 2 : Instr), 1), (20, (.if_icmp .ne 10 : Instr), 3), (23, (.aload_n 0 : Instr), 1), (24, (.invokevirtual 67 : Instr), 3), (27, (.goto 22 : Instr), 3), (30, (.aload_n 0 : Instr), 1), (31, (.invokevirtual 38 : Instr), 3), (34, (.ifCond .eq 10 : Instr), 3), (37, (.aload_n 0 : Instr), 1), (38, (.invokevirtual 70 : Instr), 3), (41, (.goto 8 : Instr), 3), (44, (.aload_n 0 : Instr), 1), (45, (.iload_n 1 : Instr), 1), (46, (.invokevirtual 73 : Instr), 3), (49, (.aload_n 0 : Instr), 1), (50, (.getfield 58 : Instr), 3), (53, (.ireturn : Instr), 1)] : List (Nat × Instr × Nat)).all (fun q => decide (decode cX3_codeOf q.1 = .ok (q.2.1, q.2.2))) = true := by decide +kernel
theorem dX3_codeOf_0 : decode cX3_codeOf 0 = .ok (.aload_n 0, 1) := all_d dX3_codeOf_all0 0 rfl
theorem dX3_codeOf_1 : decode cX3_codeOf 1 = .ok (.iconst 0, 1) := all_d dX3_codeOf_all0 1 rfl
theorem dX3_codeOf_2 : decode cX3_codeOf 2 = .ok (.putfield 58, 3) := all_d dX3_codeOf_all0 2 rfl
theorem dX3_codeOf_5 : decode cX3_codeOf 5 = .ok (.aload_n 0, 1) := all_d dX3_codeOf_all0 3 rfl
theorem dX3_codeOf_6 : decode cX3_codeOf 6 = .ok (.iconst 0, 1) := all_d dX3_codeOf_all0 4 rfl
theorem dX3_codeOf_7 : decode cX3_codeOf 7 = .ok (.putfield 61, 3) := all_d dX3_codeOf_all0 5 rfl
theorem dX3_codeOf_10 : decode cX3_codeOf 10 = .ok (.aload_n 0, 1) := all_d dX3_codeOf_all0 6 rfl
theorem dX3_codeOf_11 : decode cX3_codeOf 11 = .ok (.iload_n 1, 1) := all_d dX3_codeOf_all0 7 rfl
theorem dX3_codeOf_12 : decode cX3_codeOf 12 = .ok (.putfield 64, 3) := all_d dX3_codeOf_all0 8 rfl
theorem dX3_codeOf_15 : decode cX3_codeOf 15 = .ok (.aload_n 0, 1) := all_d dX3_codeOf_all0 9 rfl
theorem dX3_codeOf_16 : decode cX3_codeOf 16 = .ok (.getfield 18, 3) := all_d dX3_codeOf_all0 10 rfl
theorem dX3_codeOf_19 : decode cX3_codeOf 19 = .ok (.iconst 2, 1) := all_d dX3_codeOf_all0 11 rfl
theorem dX3_codeOf_20 : decode cX3_codeOf 20 = .ok (.if_icmp .ne 10, 3) := all_d dX3_codeOf_all0 12 rfl
theorem dX3_codeOf_23 : decode cX3_codeOf 23 = .ok (.aload_n 0, 1) := all_d dX3_codeOf_all0 13 rfl
theorem dX3_codeOf_24 : decode cX3_codeOf 24 = .ok (.invokevirtual 67, 3) := all_d dX3_codeOf_all0 14 rfl
theorem dX3_codeOf_27 : decode cX3_codeOf 27 = .ok (.goto 22, 3) := all_d dX3_codeOf_all0 15 rfl
theorem dX3_codeOf_30 : decode cX3_codeOf 30 = .ok (.aload_n 0, 1) := all_d dX3_codeOf_all0 16 rfl
theorem dX3_codeOf_31 : decode cX3_codeOf 31 = .ok (.invokevirtual 38, 3) := all_d dX3_codeOf_all0 17 rfl
theorem dX3_codeOf_34 : decode cX3_codeOf 34 = .ok (.ifCond .eq 10, 3) := all_d dX3_codeOf_all0 18 rfl
theorem dX3_codeOf_37 : decode cX3_codeOf 37 = .ok (.aload_n 0, 1) := all_d dX3_codeOf_all0 19 rfl
theorem dX3_codeOf_38 : decode cX3_codeOf 38 = .ok (.invokevirtual 70, 3) := all_d dX3_codeOf_all0 20 rfl
theorem dX3_codeOf_41 : decode cX3_codeOf 41 = .ok (.goto 8, 3) := all_d dX3_codeOf_all0 21 rfl
theorem dX3_codeOf_44 : decode cX3_codeOf 44 = .ok (.aload_n 0, 1) := all_d dX3_codeOf_all0 22 rfl
theorem dX3_codeOf_45 : decode cX3_codeOf 45 = .ok (.iload_n 1, 1) := all_d dX3_codeOf_all0 23 rfl
theorem dX3_codeOf_46 : decode cX3_codeOf 46 = .ok (.invokevirtual 73, 3) := all_d dX3_codeOf_all0 24 rfl
theorem dX3_codeOf_49 : decode cX3_codeOf 49 = .ok (.aload_n 0, 1) := all_d dX3_codeOf_all0 25 rfl
theorem dX3_codeOf_50 : decode cX3_codeOf 50 = .ok (.getfield 58, 3) := all_d dX3_codeOf_all0 26 rfl
theorem dX3_codeOf_53 : decode cX3_codeOf 53 = .ok (.ireturn, 1) := all_d dX3_codeOf_all0 27 rfl
set_option maxRecDepth 100000 in
theorem dX3_passEdges_all0 : ([(0, (.iconst 0 : Instr), 1), (1, (.istore_n 2 : Instr), 1), (2, (.iconst 0 : Instr), 1), (3, (.istore_n 3 : Instr), 1), (4, (.iload_n 3 : Instr), 1), (5, (.aload_n 0 : Instr), 1), (6, (.getfield 22 : Instr), 3), (9, (.if_icmp .ge 102 : Instr), 3), (12, (.aload_n 0 : Instr), 1), (13, (.iload_n 3 : Instr), 1), (14, (.invokevirtual 25 : Instr), 3), (17, (.astore 4 : Instr), 2), (19, (.aload 4 : Instr), 2), (21, (.ifnonnull 6 : Instr), 3), (24, (.goto 81 : Instr), 3), (27, (.aload_n 0 : Instr), 1), (28, (.getfield 18 : Instr), 3), (31, (.iconst 1 : Instr), 1), (32, (.if_icmp .ne 13 : Instr), 3), (35, (.iload_n 2 : Instr), 1), (36, (.aload 4 : Instr), 2), (38, (.invokevirtual 54 : Instr), 3), (41, (.iadd : Instr), 1), (42, (.goto 8 : Instr), 3), (45, (.aload 4 : Instr), 2), (47, (.invokevirtual 54 : Instr), 3), (50, (.istore_n 2 : Instr), 1), (51, (.iload_n 2 : Instr), 1), (52, (.iload_n 1 : Instr), 1), (53, (.if_icmp .gt 52 : Instr), 3), (56, (.aload_n 0 : Instr), 1), (57, (.aload_n 0 : Instr), 1), (58, (.getfield 58 : Instr), 3), (61, (.ifCond .ne 9 : Instr), 3), (64, (.iload_n 1 : Instr), 1), (65, (.iload_n 2 : Instr), 1), (66, (.isub : Instr), 1), (67, (.goto 13 : Instr), 3), (70, (.aload_n 0 : Instr), 1), (71, (.getfield 64 : Instr), 3), (74, (.iload_n 1 : Instr), 1), (75, (.iload_n 2 : Instr), 1), (76, (.isub : Instr), 1), (77, (.invokestatic 48 : Instr), 3), (80, (.putfield 64 : Instr), 3), (83, (.aload_n 0 : Instr), 1), (84, (.dup : Instr), 1), (85, (.getfield 58 : Instr), 3), (88, (.iconst 1 : Instr), 1), (89, (.iadd : Instr), 1), (90, (.putfield 58 : Instr), 3), (93, (.aload_n 0 : Instr), 1), (94, (.dup : Instr), 1), (95, (.getfield 61 : Instr), 3), (98, (.iconst 1 : Instr), 1), (99, (.iload_n 3 : Instr), 1), (100, (.ishl : Instr), 1), (101, (.ior : Instr), 1), (102, (.putfield 61 : Instr), 3), (105, (.iinc 3 1 : Instr), 3), (108, (.goto (-104) : Instr), 3), (111, (.return_ : Instr), 1)] : List (Nat × Instr × Nat)).all (fun q => decide (decode cX3_passEdges q.1 = .ok (q.2.1, q.2.2))) = true := by decide +kernel
theorem dX3_passEdges_0 : decode cX3_passEdges 0 = .ok (.iconst 0, 1) := all_d dX3_passEdges_all0 0 rfl
theorem dX3_passEdges_1 : decode cX3_passEdges 1 = .ok (.istore_n 2, 1) := all_d dX3_passEdges_all0 1 rfl
theorem dX3_passEdges_2 : decode cX3_passEdges 2 = .ok (.iconst 0, 1) := all_d dX3_passEdges_all0 2 rfl
theorem dX3_passEdges_3 : decode cX3_passEdges 3 = .ok (.istore_n 3, 1) := all_d dX3_passEdges_all0 3 rfl
theorem dX3_passEdges_4 : decode cX3_passEdges 4 = .ok (.iload_n 3, 1) := all_d dX3_passEdges_all0 4 rfl
theorem dX3_passEdges_5 : decode cX3_passEdges 5 = .ok (.aload_n 0, 1) := all_d dX3_passEdges_all0 5 rfl
theorem dX3_passEdges_6 : decode cX3_passEdges 6 = .ok (.getfield 22, 3) := all_d dX3_passEdges_all0 6 rfl
theorem dX3_passEdges_9 : decode cX3_passEdges 9 = .ok (.if_icmp .ge 102, 3) := all_d dX3_passEdges_all0 7 rfl
theorem dX3_passEdges_12 : decode cX3_passEdges 12 = .ok (.aload_n 0, 1) := all_d dX3_passEdges_all0 8 rfl
theorem dX3_passEdges_13 : decode cX3_passEdges 13 = .ok (.iload_n 3, 1) := all_d dX3_passEdges_all0 9 rfl
theorem dX3_passEdges_14 : decode cX3_passEdges 14 = .ok (.invokevirtual 25, 3) := all_d dX3_passEdges_all0 10 rfl
theorem dX3_passEdges_17 : decode cX3_passEdges 17 = .ok (.astore 4, 2) := all_d dX3_passEdges_all0 11 rfl
theorem dX3_passEdges_19 : decode cX3_passEdges 19 = .ok (.aload 4, 2) := all_d dX3_passEdges_all0 12 rfl
theorem dX3_passEdges_21 : decode cX3_passEdges 21 = .ok (.ifnonnull 6, 3) := all_d dX3_passEdges_all0 13 rfl
theorem dX3_passEdges_24 : decode cX3_passEdges 24 = .ok (.goto 81, 3) := all_d dX3_passEdges_all0 14 rfl
theorem dX3_passEdges_27 : decode cX3_passEdges 27 = .ok (.aload_n 0, 1) := all_d dX3_passEdges_all0 15 rfl
theorem dX3_passEdges_28 : decode cX3_passEdges 28 = .ok (.getfield 18, 3) := all_d dX3_passEdges_all0 16 rfl
theorem dX3_passEdges_31 : decode cX3_passEdges 31 = .ok (.iconst 1, 1) := all_d dX3_passEdges_all0 17 rfl
theorem dX3_passEdges_32 : decode cX3_passEdges 32 = .ok (.if_icmp .ne 13, 3) := all_d dX3_passEdges_all0 18 rfl
theorem dX3_passEdges_35 : decode cX3_passEdges 35 = .ok (.iload_n 2, 1) := all_d dX3_passEdges_all0 19 rfl
theorem dX3_passEdges_36 : decode cX3_passEdges 36 = .ok (.aload 4, 2) := all_d dX3_passEdges_all0 20 rfl
theorem dX3_passEdges_38 : decode cX3_passEdges 38 = .ok (.invokevirtual 54, 3) := all_d dX3_passEdges_all0 21 rfl
theorem dX3_passEdges_41 : decode cX3_passEdges 41 = .ok (.iadd, 1) := all_d dX3_passEdges_all0 22 rfl
theorem dX3_passEdges_42 : decode cX3_passEdges 42 = .ok (.goto 8, 3) := all_d dX3_passEdges_all0 23 rfl
theorem dX3_passEdges_45 : decode cX3_passEdges 45 = .ok (.aload 4, 2) := all_d dX3_passEdges_all0 24 rfl
theorem dX3_passEdges_47 : decode cX3_passEdges 47 = .ok (.invokevirtual 54, 3) := all_d dX3_passEdges_all0 25 rfl
theorem dX3_passEdges_50 : decode cX3_passEdges 50 = .ok (.istore_n 2, 1) := all_d dX3_passEdges_all0 26 rfl
theorem dX3_passEdges_51 : decode cX3_passEdges 51 = .ok (.iload_n 2, 1) := all_d dX3_passEdges_all0 27 rfl
theorem dX3_passEdges_52 : decode cX3_passEdges 52 = .ok (.iload_n 1, 1) := all_d dX3_passEdges_all0 28 rfl
theorem dX3_passEdges_53 : decode cX3_passEdges 53 = .ok (.if_icmp .gt 52, 3) := all_d dX3_passEdges_all0 29 rfl
theorem dX3_passEdges_56 : decode cX3_passEdges 56 = .ok (.aload_n 0, 1) := all_d dX3_passEdges_all0 30 rfl
theorem dX3_passEdges_57 : decode cX3_passEdges 57 = .ok (.aload_n 0, 1) := all_d dX3_passEdges_all0 31 rfl
theorem dX3_passEdges_58 : decode cX3_passEdges 58 = .ok (.getfield 58, 3) := all_d dX3_passEdges_all0 32 rfl
theorem dX3_passEdges_61 : decode cX3_passEdges 61 = .ok (.ifCond .ne 9, 3) := all_d dX3_passEdges_all0 33 rfl
theorem dX3_passEdges_64 : decode cX3_passEdges 64 = .ok (.iload_n 1, 1) := all_d dX3_passEdges_all0 34 rfl
theorem dX3_passEdges_65 : decode cX3_passEdges 65 = .ok (.iload_n 2, 1) := all_d dX3_passEdges_all0 35 rfl
theorem dX3_passEdges_66 : decode cX3_passEdges 66 = .ok (.isub, 1) := all_d dX3_passEdges_all0 36 rfl
theorem dX3_passEdges_67 : decode cX3_passEdges 67 = .ok (.goto 13, 3) := all_d dX3_passEdges_all0 37 rfl
theorem dX3_passEdges_70 : decode cX3_passEdges 70 = .ok (.aload_n 0, 1) := all_d dX3_passEdges_all0 38 rfl
theorem dX3_passEdges_71 : decode cX3_passEdges 71 = .ok (.getfield 64, 3) := all_d dX3_passEdges_all0 39 rfl
theorem dX3_passEdges_74 : decode cX3_passEdges 74 = .ok (.iload_n 1, 1) := all_d dX3_passEdges_all0 40 rfl
theorem dX3_passEdges_75 : decode cX3_passEdges 75 = .ok (.iload_n 2, 1) := all_d dX3_passEdges_all0 41 rfl
theorem dX3_passEdges_76 : decode cX3_passEdges 76 = .ok (.isub, 1) := all_d dX3_passEdges_all0 42 rfl
theorem dX3_passEdges_77 : decode cX3_passEdges 77 = .ok (.invokestatic 48, 3) := all_d dX3_passEdges_all0 43 rfl
theorem dX3_passEdges_80 : decode cX3_passEdges 80 = .ok (.putfield 64, 3) := all_d dX3_passEdges_all0 44 rfl
theorem dX3_passEdges_83 : decode cX3_passEdges 83 = .ok (.aload_n 0, 1) := all_d dX3_passEdges_all0 45 rfl
theorem dX3_passEdges_84 : decode cX3_passEdges 84 = .ok (.dup, 1) := all_d dX3_passEdges_all0 46 rfl
theorem dX3_passEdges_85 : decode cX3_passEdges 85 = .ok (.getfield 58, 3) := all_d dX3_passEdges_all0 47 rfl
theorem dX3_passEdges_88 : decode cX3_passEdges 88 = .ok (.iconst 1, 1) := all_d dX3_passEdges_all0 48 rfl
theorem dX3_passEdges_89 : decode cX3_passEdges 89 = .ok (.iadd, 1) := all_d dX3_passEdges_all0 49 rfl
theorem dX3_passEdges_90 : decode cX3_passEdges 90 = .ok (.putfield 58, 3) := all_d dX3_passEdges_all0 50 rfl
theorem dX3_passEdges_93 : decode cX3_passEdges 93 = .ok (.aload_n 0, 1) := all_d dX3_passEdges_all0 51 rfl
theorem dX3_passEdges_94 : decode cX3_passEdges 94 = .ok (.dup, 1) := all_d dX3_passEdges_all0 52 rfl
theorem dX3_passEdges_95 : decode cX3_passEdges 95 = .ok (.getfield 61, 3) := all_d dX3_passEdges_all0 53 rfl
theorem dX3_passEdges_98 : decode cX3_passEdges 98 = .ok (.iconst 1, 1) := all_d dX3_passEdges_all0 54 rfl
theorem dX3_passEdges_99 : decode cX3_passEdges 99 = .ok (.iload_n 3, 1) := all_d dX3_passEdges_all0 55 rfl
theorem dX3_passEdges_100 : decode cX3_passEdges 100 = .ok (.ishl, 1) := all_d dX3_passEdges_all0 56 rfl
theorem dX3_passEdges_101 : decode cX3_passEdges 101 = .ok (.ior, 1) := all_d dX3_passEdges_all0 57 rfl
theorem dX3_passEdges_102 : decode cX3_passEdges 102 = .ok (.putfield 61, 3) := all_d dX3_passEdges_all0 58 rfl
theorem dX3_passEdges_105 : decode cX3_passEdges 105 = .ok (.iinc 3 1, 3) := all_d dX3_passEdges_all0 59 rfl
theorem dX3_passEdges_108 : decode cX3_passEdges 108 = .ok (.goto (-104), 3) := all_d dX3_passEdges_all0 60 rfl
theorem dX3_passEdges_111 : decode cX3_passEdges 111 = .ok (.return_, 1) := all_d dX3_passEdges_all0 61 rfl
set_option maxRecDepth 100000 in
theorem dX3_weigh_all0 : ([(0, (.iconst 0 : Instr), 1), (1, (.istore_n 1 : Instr), 1), (2, (.iload_n 1 : Instr), 1), (3, (.aload_n 0 : Instr), 1), (4, (.getfield 22 : Instr), 3), (7, (.if_icmp .ge 68 : Instr), 3), (10, (.aload_n 0 : Instr), 1), (11, (.iload_n 1 : Instr), 1), (12, (.invokevirtual 25 : Instr), 3), (15, (.astore_n 2 : Instr), 1), (16, (.aload_n 2 : Instr), 1), (17, (.ifnull 52 : Instr), 3), (20, (.aload_n 2 : Instr), 1), (21, (.invokevirtual 54 : Instr), 3), (24, (.aload_n 0 : Instr), 1), (25, (.getfield 64 : Instr), 3), (28, (.if_icmp .gt 41 : Instr), 3), (31, (.aload_n 0 : Instr), 1), (32, (.dup : Instr), 1), (33, (.getfield 64 : Instr), 3), (36, (.aload_n 2 : Instr), 1), (37, (.invokevirtual 54 : Instr), 3), (40, (.isub : Instr), 1), (41, (.putfield 64 : Instr), 3), (44, (.aload_n 0 : Instr), 1), (45, (.dup : Instr), 1), (46, (.getfield 58 : Instr), 3), (49, (.aload_n 2 : Instr), 1), (50, (.getfield 35 : Instr), 3), (53, (.iadd : Instr), 1), (54, (.putfield 58 : Instr), 3), (57, (.aload_n 0 : Instr), 1), (58, (.dup : Instr), 1), (59, (.getfield 61 : Instr), 3), (62, (.iconst 1 : Instr), 1), (63, (.iload_n 1 : Instr), 1), (64, (.ishl : Instr), 1), (65, (.ior : Instr), 1), (66, (.putfield 61 : Instr), 3), (69, (.iinc 1 1 : Instr), 3), (72, (.goto (-70) : Instr), 3), (75, (.return_ : Instr), 1)] : List (Nat × Instr × Nat)).all (fun q => decide (decode cX3_weigh q.1 = .ok (q.2.1, q.2.2))) = true := by decide +kernel
theorem dX3_weigh_0 : decode cX3_weigh 0 = .ok (.iconst 0, 1) := all_d dX3_weigh_all0 0 rfl
theorem dX3_weigh_1 : decode cX3_weigh 1 = .ok (.istore_n 1, 1) := all_d dX3_weigh_all0 1 rfl
theorem dX3_weigh_2 : decode cX3_weigh 2 = .ok (.iload_n 1, 1) := all_d dX3_weigh_all0 2 rfl
theorem dX3_weigh_3 : decode cX3_weigh 3 = .ok (.aload_n 0, 1) := all_d dX3_weigh_all0 3 rfl
theorem dX3_weigh_4 : decode cX3_weigh 4 = .ok (.getfield 22, 3) := all_d dX3_weigh_all0 4 rfl
theorem dX3_weigh_7 : decode cX3_weigh 7 = .ok (.if_icmp .ge 68, 3) := all_d dX3_weigh_all0 5 rfl
theorem dX3_weigh_10 : decode cX3_weigh 10 = .ok (.aload_n 0, 1) := all_d dX3_weigh_all0 6 rfl
theorem dX3_weigh_11 : decode cX3_weigh 11 = .ok (.iload_n 1, 1) := all_d dX3_weigh_all0 7 rfl
theorem dX3_weigh_12 : decode cX3_weigh 12 = .ok (.invokevirtual 25, 3) := all_d dX3_weigh_all0 8 rfl
theorem dX3_weigh_15 : decode cX3_weigh 15 = .ok (.astore_n 2, 1) := all_d dX3_weigh_all0 9 rfl
theorem dX3_weigh_16 : decode cX3_weigh 16 = .ok (.aload_n 2, 1) := all_d dX3_weigh_all0 10 rfl
theorem dX3_weigh_17 : decode cX3_weigh 17 = .ok (.ifnull 52, 3) := all_d dX3_weigh_all0 11 rfl
theorem dX3_weigh_20 : decode cX3_weigh 20 = .ok (.aload_n 2, 1) := all_d dX3_weigh_all0 12 rfl
theorem dX3_weigh_21 : decode cX3_weigh 21 = .ok (.invokevirtual 54, 3) := all_d dX3_weigh_all0 13 rfl
theorem dX3_weigh_24 : decode cX3_weigh 24 = .ok (.aload_n 0, 1) := all_d dX3_weigh_all0 14 rfl
theorem dX3_weigh_25 : decode cX3_weigh 25 = .ok (.getfield 64, 3) := all_d dX3_weigh_all0 15 rfl
theorem dX3_weigh_28 : decode cX3_weigh 28 = .ok (.if_icmp .gt 41, 3) := all_d dX3_weigh_all0 16 rfl
theorem dX3_weigh_31 : decode cX3_weigh 31 = .ok (.aload_n 0, 1) := all_d dX3_weigh_all0 17 rfl
theorem dX3_weigh_32 : decode cX3_weigh 32 = .ok (.dup, 1) := all_d dX3_weigh_all0 18 rfl
theorem dX3_weigh_33 : decode cX3_weigh 33 = .ok (.getfield 64, 3) := all_d dX3_weigh_all0 19 rfl
theorem dX3_weigh_36 : decode cX3_weigh 36 = .ok (.aload_n 2, 1) := all_d dX3_weigh_all0 20 rfl
theorem dX3_weigh_37 : decode cX3_weigh 37 = .ok (.invokevirtual 54, 3) := all_d dX3_weigh_all0 21 rfl
theorem dX3_weigh_40 : decode cX3_weigh 40 = .ok (.isub, 1) := all_d dX3_weigh_all0 22 rfl
theorem dX3_weigh_41 : decode cX3_weigh 41 = .ok (.putfield 64, 3) := all_d dX3_weigh_all0 23 rfl
theorem dX3_weigh_44 : decode cX3_weigh 44 = .ok (.aload_n 0, 1) := all_d dX3_weigh_all0 24 rfl
theorem dX3_weigh_45 : decode cX3_weigh 45 = .ok (.dup, 1) := all_d dX3_weigh_all0 25 rfl
theorem dX3_weigh_46 : decode cX3_weigh 46 = .ok (.getfield 58, 3) := all_d dX3_weigh_all0 26 rfl
theorem dX3_weigh_49 : decode cX3_weigh 49 = .ok (.aload_n 2, 1) := all_d dX3_weigh_all0 27 rfl
theorem dX3_weigh_50 : decode cX3_weigh 50 = .ok (.getfield 35, 3) := all_d dX3_weigh_all0 28 rfl
theorem dX3_weigh_53 : decode cX3_weigh 53 = .ok (.iadd, 1) := all_d dX3_weigh_all0 29 rfl
theorem dX3_weigh_54 : decode cX3_weigh 54 = .ok (.putfield 58, 3) := all_d dX3_weigh_all0 30 rfl
theorem dX3_weigh_57 : decode cX3_weigh 57 = .ok (.aload_n 0, 1) := all_d dX3_weigh_all0 31 rfl
theorem dX3_weigh_58 : decode cX3_weigh 58 = .ok (.dup, 1) := all_d dX3_weigh_all0 32 rfl
theorem dX3_weigh_59 : decode cX3_weigh 59 = .ok (.getfield 61, 3) := all_d dX3_weigh_all0 33 rfl
theorem dX3_weigh_62 : decode cX3_weigh 62 = .ok (.iconst 1, 1) := all_d dX3_weigh_all0 34 rfl
theorem dX3_weigh_63 : decode cX3_weigh 63 = .ok (.iload_n 1, 1) := all_d dX3_weigh_all0 35 rfl
theorem dX3_weigh_64 : decode cX3_weigh 64 = .ok (.ishl, 1) := all_d dX3_weigh_all0 36 rfl
theorem dX3_weigh_65 : decode cX3_weigh 65 = .ok (.ior, 1) := all_d dX3_weigh_all0 37 rfl
theorem dX3_weigh_66 : decode cX3_weigh 66 = .ok (.putfield 61, 3) := all_d dX3_weigh_all0 38 rfl
theorem dX3_weigh_69 : decode cX3_weigh 69 = .ok (.iinc 1 1, 3) := all_d dX3_weigh_all0 39 rfl
theorem dX3_weigh_72 : decode cX3_weigh 72 = .ok (.goto (-70), 3) := all_d dX3_weigh_all0 40 rfl
theorem dX3_weigh_75 : decode cX3_weigh 75 = .ok (.return_, 1) := all_d dX3_weigh_all0 41 rfl
set_option maxRecDepth 100000 in
theorem dX3_passStages_all0 : ([(0, (.iconst 0 : Instr), 1), (1, (.istore_n 1 : Instr), 1), (2, (.iconst 0 : Instr), 1), (3, (.istore_n 2 : Instr), 1), (4, (.iload_n 2 : Instr), 1), (5, (.aload_n 0 : Instr), 1), (6, (.getfield 22 : Instr), 3), (9, (.if_icmp .ge 153 : Instr), 3), (12, (.aload_n 0 : Instr), 1), (13, (.iload_n 2 : Instr), 1), (14, (.invokevirtual 25 : Instr), 3), (17, (.astore_n 3 : Instr), 1), (18, (.aload_n 3 : Instr), 1), (19, (.ifnonnull 6 : Instr), 3), (22, (.goto 134 : Instr), 3), (25, (.aload_n 0 : Instr), 1), (26, (.getfield 64 : Instr), 3), (29, (.aload_n 3 : Instr), 1), (30, (.getfield 42 : Instr), 3), (33, (.if_icmp .lt 7 : Instr), 3), (36, (.iconst 1 : Instr), 1), (37, (.goto 4 : Instr), 3), (40, (.iconst 0 : Instr), 1), (41, (.istore 4 : Instr), 2), (43, (.iload 4 : Instr), 2), (45, (.ifCond .eq 58 : Instr), 3), (48, (.iload_n 1 : Instr), 1), (49, (.ifCond .ne 7 : Instr), 3), (52, (.iconst 1 : Instr), 1), (53, (.goto 4 : Instr), 3), (56, (.iconst 0 : Instr), 1), (57, (.istore_n 1 : Instr), 1), (58, (.aload_n 0 : Instr), 1), (59, (.dup : Instr), 1), (60, (.getfield 61 : Instr), 3), (63, (.iconst 1 : Instr), 1), (64, (.iload_n 2 : Instr), 1), (65, (.ishl : Instr), 1), (66, (.ior : Instr), 1), (67, (.putfield 61 : Instr), 3), (70, (.aload_n 0 : Instr), 1), (71, (.aload_n 0 : Instr), 1), (72, (.getfield 18 : Instr), 3), (75, (.iconst 4 : Instr), 1), (76, (.if_icmp .ne 15 : Instr), 3), (79, (.aload_n 3 : Instr), 1), (80, (.invokevirtual 54 : Instr), 3), (83, (.aload_n 0 : Instr), 1), (84, (.getfield 64 : Instr), 3), (87, (.isub : Instr), 1), (88, (.goto 12 : Instr), 3), (91, (.aload_n 0 : Instr), 1), (92, (.getfield 64 : Instr), 3), (95, (.aload_n 3 : Instr), 1), (96, (.invokevirtual 54 : Instr), 3), (99, (.isub : Instr), 1), (100, (.putfield 64 : Instr), 3), (103, (.aload_n 0 : Instr), 1), (104, (.getfield 18 : Instr), 3), (107, (.iconst 4 : Instr), 1), (108, (.if_icmp .ne 10 : Instr), 3), (111, (.iload_n 1 : Instr), 1), (112, (.ifCond .eq 24 : Instr), 3), (115, (.goto 8 : Instr), 3), (118, (.iload 4 : Instr), 2), (120, (.ifCond .eq 16 : Instr), 3), (123, (.aload_n 0 : Instr), 1), (124, (.dup : Instr), 1), (125, (.getfield 58 : Instr), 3), (128, (.aload_n 3 : Instr), 1), (129, (.getfield 35 : Instr), 3), (132, (.iadd : Instr), 1), (133, (.putfield 58 : Instr), 3), (136, (.aload_n 0 : Instr), 1), (137, (.ldc 77 : Instr), 2), (139, (.ldc 78 : Instr), 2), (141, (.aload_n 0 : Instr), 1), (142, (.getfield 64 : Instr), 3), (145, (.iconst 2 : Instr), 1), (146, (.imul : Instr), 1)] : List (Nat × Instr × Nat)).all (fun q => decide (decode cX3_passStages q.1 = .ok (q.2.1, q.2.2))) = true := by decide +kernel
theorem dX3_passStages_0 : decode cX3_passStages 0 = .ok (.iconst 0, 1) := all_d dX3_passStages_all0 0 rfl
theorem dX3_passStages_1 : decode cX3_passStages 1 = .ok (.istore_n 1, 1) := all_d dX3_passStages_all0 1 rfl
theorem dX3_passStages_2 : decode cX3_passStages 2 = .ok (.iconst 0, 1) := all_d dX3_passStages_all0 2 rfl
theorem dX3_passStages_3 : decode cX3_passStages 3 = .ok (.istore_n 2, 1) := all_d dX3_passStages_all0 3 rfl
theorem dX3_passStages_4 : decode cX3_passStages 4 = .ok (.iload_n 2, 1) := all_d dX3_passStages_all0 4 rfl
theorem dX3_passStages_5 : decode cX3_passStages 5 = .ok (.aload_n 0, 1) := all_d dX3_passStages_all0 5 rfl
theorem dX3_passStages_6 : decode cX3_passStages 6 = .ok (.getfield 22, 3) := all_d dX3_passStages_all0 6 rfl
theorem dX3_passStages_9 : decode cX3_passStages 9 = .ok (.if_icmp .ge 153, 3) := all_d dX3_passStages_all0 7 rfl
theorem dX3_passStages_12 : decode cX3_passStages 12 = .ok (.aload_n 0, 1) := all_d dX3_passStages_all0 8 rfl
theorem dX3_passStages_13 : decode cX3_passStages 13 = .ok (.iload_n 2, 1) := all_d dX3_passStages_all0 9 rfl
theorem dX3_passStages_14 : decode cX3_passStages 14 = .ok (.invokevirtual 25, 3) := all_d dX3_passStages_all0 10 rfl
theorem dX3_passStages_17 : decode cX3_passStages 17 = .ok (.astore_n 3, 1) := all_d dX3_passStages_all0 11 rfl
theorem dX3_passStages_18 : decode cX3_passStages 18 = .ok (.aload_n 3, 1) := all_d dX3_passStages_all0 12 rfl
theorem dX3_passStages_19 : decode cX3_passStages 19 = .ok (.ifnonnull 6, 3) := all_d dX3_passStages_all0 13 rfl
theorem dX3_passStages_22 : decode cX3_passStages 22 = .ok (.goto 134, 3) := all_d dX3_passStages_all0 14 rfl
theorem dX3_passStages_25 : decode cX3_passStages 25 = .ok (.aload_n 0, 1) := all_d dX3_passStages_all0 15 rfl
theorem dX3_passStages_26 : decode cX3_passStages 26 = .ok (.getfield 64, 3) := all_d dX3_passStages_all0 16 rfl
theorem dX3_passStages_29 : decode cX3_passStages 29 = .ok (.aload_n 3, 1) := all_d dX3_passStages_all0 17 rfl
theorem dX3_passStages_30 : decode cX3_passStages 30 = .ok (.getfield 42, 3) := all_d dX3_passStages_all0 18 rfl
theorem dX3_passStages_33 : decode cX3_passStages 33 = .ok (.if_icmp .lt 7, 3) := all_d dX3_passStages_all0 19 rfl
theorem dX3_passStages_36 : decode cX3_passStages 36 = .ok (.iconst 1, 1) := all_d dX3_passStages_all0 20 rfl
theorem dX3_passStages_37 : decode cX3_passStages 37 = .ok (.goto 4, 3) := all_d dX3_passStages_all0 21 rfl
theorem dX3_passStages_40 : decode cX3_passStages 40 = .ok (.iconst 0, 1) := all_d dX3_passStages_all0 22 rfl
theorem dX3_passStages_41 : decode cX3_passStages 41 = .ok (.istore 4, 2) := all_d dX3_passStages_all0 23 rfl
theorem dX3_passStages_43 : decode cX3_passStages 43 = .ok (.iload 4, 2) := all_d dX3_passStages_all0 24 rfl
theorem dX3_passStages_45 : decode cX3_passStages 45 = .ok (.ifCond .eq 58, 3) := all_d dX3_passStages_all0 25 rfl
theorem dX3_passStages_48 : decode cX3_passStages 48 = .ok (.iload_n 1, 1) := all_d dX3_passStages_all0 26 rfl
theorem dX3_passStages_49 : decode cX3_passStages 49 = .ok (.ifCond .ne 7, 3) := all_d dX3_passStages_all0 27 rfl
theorem dX3_passStages_52 : decode cX3_passStages 52 = .ok (.iconst 1, 1) := all_d dX3_passStages_all0 28 rfl
theorem dX3_passStages_53 : decode cX3_passStages 53 = .ok (.goto 4, 3) := all_d dX3_passStages_all0 29 rfl
theorem dX3_passStages_56 : decode cX3_passStages 56 = .ok (.iconst 0, 1) := all_d dX3_passStages_all0 30 rfl
theorem dX3_passStages_57 : decode cX3_passStages 57 = .ok (.istore_n 1, 1) := all_d dX3_passStages_all0 31 rfl
theorem dX3_passStages_58 : decode cX3_passStages 58 = .ok (.aload_n 0, 1) := all_d dX3_passStages_all0 32 rfl
theorem dX3_passStages_59 : decode cX3_passStages 59 = .ok (.dup, 1) := all_d dX3_passStages_all0 33 rfl
theorem dX3_passStages_60 : decode cX3_passStages 60 = .ok (.getfield 61, 3) := all_d dX3_passStages_all0 34 rfl
theorem dX3_passStages_63 : decode cX3_passStages 63 = .ok (.iconst 1, 1) := all_d dX3_passStages_all0 35 rfl
theorem dX3_passStages_64 : decode cX3_passStages 64 = .ok (.iload_n 2, 1) := all_d dX3_passStages_all0 36 rfl
theorem dX3_passStages_65 : decode cX3_passStages 65 = .ok (.ishl, 1) := all_d dX3_passStages_all0 37 rfl
theorem dX3_passStages_66 : decode cX3_passStages 66 = .ok (.ior, 1) := all_d dX3_passStages_all0 38 rfl
theorem dX3_passStages_67 : decode cX3_passStages 67 = .ok (.putfield 61, 3) := all_d dX3_passStages_all0 39 rfl
theorem dX3_passStages_70 : decode cX3_passStages 70 = .ok (.aload_n 0, 1) := all_d dX3_passStages_all0 40 rfl
theorem dX3_passStages_71 : decode cX3_passStages 71 = .ok (.aload_n 0, 1) := all_d dX3_passStages_all0 41 rfl
theorem dX3_passStages_72 : decode cX3_passStages 72 = .ok (.getfield 18, 3) := all_d dX3_passStages_all0 42 rfl
theorem dX3_passStages_75 : decode cX3_passStages 75 = .ok (.iconst 4, 1) := all_d dX3_passStages_all0 43 rfl
theorem dX3_passStages_76 : decode cX3_passStages 76 = .ok (.if_icmp .ne 15, 3) := all_d dX3_passStages_all0 44 rfl
theorem dX3_passStages_79 : decode cX3_passStages 79 = .ok (.aload_n 3, 1) := all_d dX3_passStages_all0 45 rfl
theorem dX3_passStages_80 : decode cX3_passStages 80 = .ok (.invokevirtual 54, 3) := all_d dX3_passStages_all0 46 rfl
theorem dX3_passStages_83 : decode cX3_passStages 83 = .ok (.aload_n 0, 1) := all_d dX3_passStages_all0 47 rfl
theorem dX3_passStages_84 : decode cX3_passStages 84 = .ok (.getfield 64, 3) := all_d dX3_passStages_all0 48 rfl
theorem dX3_passStages_87 : decode cX3_passStages 87 = .ok (.isub, 1) := all_d dX3_passStages_all0 49 rfl
theorem dX3_passStages_88 : decode cX3_passStages 88 = .ok (.goto 12, 3) := all_d dX3_passStages_all0 50 rfl
theorem dX3_passStages_91 : decode cX3_passStages 91 = .ok (.aload_n 0, 1) := all_d dX3_passStages_all0 51 rfl
theorem dX3_passStages_92 : decode cX3_passStages 92 = .ok (.getfield 64, 3) := all_d dX3_passStages_all0 52 rfl
theorem dX3_passStages_95 : decode cX3_passStages 95 = .ok (.aload_n 3, 1) := all_d dX3_passStages_all0 53 rfl
theorem dX3_passStages_96 : decode cX3_passStages 96 = .ok (.invokevirtual 54, 3) := all_d dX3_passStages_all0 54 rfl
theorem dX3_passStages_99 : decode cX3_passStages 99 = .ok (.isub, 1) := all_d dX3_passStages_all0 55 rfl
theorem dX3_passStages_100 : decode cX3_passStages 100 = .ok (.putfield 64, 3) := all_d dX3_passStages_all0 56 rfl
theorem dX3_passStages_103 : decode cX3_passStages 103 = .ok (.aload_n 0, 1) := all_d dX3_passStages_all0 57 rfl
theorem dX3_passStages_104 : decode cX3_passStages 104 = .ok (.getfield 18, 3) := all_d dX3_passStages_all0 58 rfl
theorem dX3_passStages_107 : decode cX3_passStages 107 = .ok (.iconst 4, 1) := all_d dX3_passStages_all0 59 rfl
theorem dX3_passStages_108 : decode cX3_passStages 108 = .ok (.if_icmp .ne 10, 3) := all_d dX3_passStages_all0 60 rfl
theorem dX3_passStages_111 : decode cX3_passStages 111 = .ok (.iload_n 1, 1) := all_d dX3_passStages_all0 61 rfl
theorem dX3_passStages_112 : decode cX3_passStages 112 = .ok (.ifCond .eq 24, 3) := all_d dX3_passStages_all0 62 rfl
theorem dX3_passStages_115 : decode cX3_passStages 115 = .ok (.goto 8, 3) := all_d dX3_passStages_all0 63 rfl
theorem dX3_passStages_118 : decode cX3_passStages 118 = .ok (.iload 4, 2) := all_d dX3_passStages_all0 64 rfl
theorem dX3_passStages_120 : decode cX3_passStages 120 = .ok (.ifCond .eq 16, 3) := all_d dX3_passStages_all0 65 rfl
theorem dX3_passStages_123 : decode cX3_passStages 123 = .ok (.aload_n 0, 1) := all_d dX3_passStages_all0 66 rfl
theorem dX3_passStages_124 : decode cX3_passStages 124 = .ok (.dup, 1) := all_d dX3_passStages_all0 67 rfl
theorem dX3_passStages_125 : decode cX3_passStages 125 = .ok (.getfield 58, 3) := all_d dX3_passStages_all0 68 rfl
theorem dX3_passStages_128 : decode cX3_passStages 128 = .ok (.aload_n 3, 1) := all_d dX3_passStages_all0 69 rfl
theorem dX3_passStages_129 : decode cX3_passStages 129 = .ok (.getfield 35, 3) := all_d dX3_passStages_all0 70 rfl
theorem dX3_passStages_132 : decode cX3_passStages 132 = .ok (.iadd, 1) := all_d dX3_passStages_all0 71 rfl
theorem dX3_passStages_133 : decode cX3_passStages 133 = .ok (.putfield 58, 3) := all_d dX3_passStages_all0 72 rfl
theorem dX3_passStages_136 : decode cX3_passStages 136 = .ok (.aload_n 0, 1) := all_d dX3_passStages_all0 73 rfl
theorem dX3_passStages_137 : decode cX3_passStages 137 = .ok (.ldc 77, 2) := all_d dX3_passStages_all0 74 rfl
theorem dX3_passStages_139 : decode cX3_passStages 139 = .ok (.ldc 78, 2) := all_d dX3_passStages_all0 75 rfl
theorem dX3_passStages_141 : decode cX3_passStages 141 = .ok (.aload_n 0, 1) := all_d dX3_passStages_all0 76 rfl
theorem dX3_passStages_142 : decode cX3_passStages 142 = .ok (.getfield 64, 3) := all_d dX3_passStages_all0 77 rfl
theorem dX3_passStages_145 : decode cX3_passStages 145 = .ok (.iconst 2, 1) := all_d dX3_passStages_all0 78 rfl
theorem dX3_passStages_146 : decode cX3_passStages 146 = .ok (.imul, 1) := all_d dX3_passStages_all0 79 rfl
set_option maxRecDepth 100000 in
theorem dX3_passStages_all1 : ([(147, (.invokestatic 48 : Instr), 3), (150, (.invokestatic 79 : Instr), 3), (153, (.putfield 64 : Instr), 3), (156, (.iinc 2 1 : Instr), 3), (159, (.goto (-155) : Instr), 3), (162, (.return_ : Instr), 1)] : List (Nat × Instr × Nat)).all (fun q => decide (decode cX3_passStages q.1 = .ok (q.2.1, q.2.2))) = true := by decide +kernel
theorem dX3_passStages_147 : decode cX3_passStages 147 = .ok (.invokestatic 48, 3) := all_d dX3_passStages_all1 0 rfl
theorem dX3_passStages_150 : decode cX3_passStages 150 = .ok (.invokestatic 79, 3) := all_d dX3_passStages_all1 1 rfl
theorem dX3_passStages_153 : decode cX3_passStages 153 = .ok (.putfield 64, 3) := all_d dX3_passStages_all1 2 rfl
theorem dX3_passStages_156 : decode cX3_passStages 156 = .ok (.iinc 2 1, 3) := all_d dX3_passStages_all1 3 rfl
theorem dX3_passStages_159 : decode cX3_passStages 159 = .ok (.goto (-155), 3) := all_d dX3_passStages_all1 4 rfl
theorem dX3_passStages_162 : decode cX3_passStages 162 = .ok (.return_, 1) := all_d dX3_passStages_all1 5 rfl
set_option maxRecDepth 100000 in
theorem dX3_together_all0 : ([(0, (.iconst 0 : Instr), 1), (1, (.istore_n 1 : Instr), 1), (2, (.iconst 0 : Instr), 1), (3, (.istore_n 2 : Instr), 1), (4, (.iload_n 2 : Instr), 1), (5, (.aload_n 0 : Instr), 1), (6, (.getfield 22 : Instr), 3), (9, (.if_icmp .ge 30 : Instr), 3), (12, (.aload_n 0 : Instr), 1), (13, (.iload_n 2 : Instr), 1), (14, (.invokevirtual 25 : Instr), 3), (17, (.astore_n 3 : Instr), 1), (18, (.iload_n 1 : Instr), 1), (19, (.aload_n 3 : Instr), 1), (20, (.ifnonnull 7 : Instr), 3), (23, (.iconst 0 : Instr), 1), (24, (.goto 7 : Instr), 3), (27, (.aload_n 3 : Instr), 1), (28, (.invokevirtual 54 : Instr), 3), (31, (.iadd : Instr), 1), (32, (.istore_n 1 : Instr), 1), (33, (.iinc 2 1 : Instr), 3), (36, (.goto (-32) : Instr), 3), (39, (.iload_n 1 : Instr), 1), (40, (.ireturn : Instr), 1)] : List (Nat × Instr × Nat)).all (fun q => decide (decode cX3_together q.1 = .ok (q.2.1, q.2.2))) = true := by decide +kernel
theorem dX3_together_0 : decode cX3_together 0 = .ok (.iconst 0, 1) := all_d dX3_together_all0 0 rfl
theorem dX3_together_1 : decode cX3_together 1 = .ok (.istore_n 1, 1) := all_d dX3_together_all0 1 rfl
theorem dX3_together_2 : decode cX3_together 2 = .ok (.iconst 0, 1) := all_d dX3_together_all0 2 rfl
theorem dX3_together_3 : decode cX3_together 3 = .ok (.istore_n 2, 1) := all_d dX3_together_all0 3 rfl
theorem dX3_together_4 : decode cX3_together 4 = .ok (.iload_n 2, 1) := all_d dX3_together_all0 4 rfl
theorem dX3_together_5 : decode cX3_together 5 = .ok (.aload_n 0, 1) := all_d dX3_together_all0 5 rfl
theorem dX3_together_6 : decode cX3_together 6 = .ok (.getfield 22, 3) := all_d dX3_together_all0 6 rfl
theorem dX3_together_9 : decode cX3_together 9 = .ok (.if_icmp .ge 30, 3) := all_d dX3_together_all0 7 rfl
theorem dX3_together_12 : decode cX3_together 12 = .ok (.aload_n 0, 1) := all_d dX3_together_all0 8 rfl
theorem dX3_together_13 : decode cX3_together 13 = .ok (.iload_n 2, 1) := all_d dX3_together_all0 9 rfl
theorem dX3_together_14 : decode cX3_together 14 = .ok (.invokevirtual 25, 3) := all_d dX3_together_all0 10 rfl
theorem dX3_together_17 : decode cX3_together 17 = .ok (.astore_n 3, 1) := all_d dX3_together_all0 11 rfl
theorem dX3_together_18 : decode cX3_together 18 = .ok (.iload_n 1, 1) := all_d dX3_together_all0 12 rfl
theorem dX3_together_19 : decode cX3_together 19 = .ok (.aload_n 3, 1) := all_d dX3_together_all0 13 rfl
theorem dX3_together_20 : decode cX3_together 20 = .ok (.ifnonnull 7, 3) := all_d dX3_together_all0 14 rfl
theorem dX3_together_23 : decode cX3_together 23 = .ok (.iconst 0, 1) := all_d dX3_together_all0 15 rfl
theorem dX3_together_24 : decode cX3_together 24 = .ok (.goto 7, 3) := all_d dX3_together_all0 16 rfl
theorem dX3_together_27 : decode cX3_together 27 = .ok (.aload_n 3, 1) := all_d dX3_together_all0 17 rfl
theorem dX3_together_28 : decode cX3_together 28 = .ok (.invokevirtual 54, 3) := all_d dX3_together_all0 18 rfl
theorem dX3_together_31 : decode cX3_together 31 = .ok (.iadd, 1) := all_d dX3_together_all0 19 rfl
theorem dX3_together_32 : decode cX3_together 32 = .ok (.istore_n 1, 1) := all_d dX3_together_all0 20 rfl
theorem dX3_together_33 : decode cX3_together 33 = .ok (.iinc 2 1, 3) := all_d dX3_together_all0 21 rfl
theorem dX3_together_36 : decode cX3_together 36 = .ok (.goto (-32), 3) := all_d dX3_together_all0 22 rfl
theorem dX3_together_39 : decode cX3_together 39 = .ok (.iload_n 1, 1) := all_d dX3_together_all0 23 rfl
theorem dX3_together_40 : decode cX3_together 40 = .ok (.ireturn, 1) := all_d dX3_together_all0 24 rfl
set_option maxRecDepth 100000 in
theorem dX3_firstUncovered_all0 : ([(0, (.aload_n 0 : Instr), 1), (1, (.invokevirtual 82 : Instr), 3), (4, (.istore_n 1 : Instr), 1), (5, (.iconst 0 : Instr), 1), (6, (.istore_n 2 : Instr), 1), (7, (.iload_n 2 : Instr), 1), (8, (.aload_n 0 : Instr), 1), (9, (.getfield 22 : Instr), 3), (12, (.if_icmp .ge 49 : Instr), 3), (15, (.aload_n 0 : Instr), 1), (16, (.iload_n 2 : Instr), 1), (17, (.invokevirtual 25 : Instr), 3), (20, (.astore_n 3 : Instr), 1), (21, (.aload_n 3 : Instr), 1), (22, (.ifnonnull 7 : Instr), 3), (25, (.iconst 0 : Instr), 1), (26, (.goto 7 : Instr), 3), (29, (.aload_n 3 : Instr), 1), (30, (.invokevirtual 54 : Instr), 3), (33, (.istore 4 : Instr), 2), (35, (.iload_n 1 : Instr), 1), (36, (.iload 4 : Instr), 2), (38, (.isub : Instr), 1), (39, (.istore_n 1 : Instr), 1), (40, (.iload 4 : Instr), 2), (42, (.ifCond .lt 11 : Instr), 3), (45, (.iload 4 : Instr), 2), (47, (.iload_n 1 : Instr), 1), (48, (.iconst 1 : Instr), 1), (49, (.iadd : Instr), 1), (50, (.if_icmp .le 5 : Instr), 3), (53, (.iload_n 2 : Instr), 1), (54, (.ireturn : Instr), 1), (55, (.iinc 2 1 : Instr), 3), (58, (.goto (-51) : Instr), 3), (61, (.bipush (-2) : Instr), 2), (63, (.ireturn : Instr), 1)] : List (Nat × Instr × Nat)).all (fun q => decide (decode cX3_firstUncovered q.1 = .ok (q.2.1, q.2.2))) = true := by decide +kernel
theorem dX3_firstUncovered_0 : decode cX3_firstUncovered 0 = .ok (.aload_n 0, 1) := all_d dX3_firstUncovered_all0 0 rfl
theorem dX3_firstUncovered_1 : decode cX3_firstUncovered 1 = .ok (.invokevirtual 82, 3) := all_d dX3_firstUncovered_all0 1 rfl
theorem dX3_firstUncovered_4 : decode cX3_firstUncovered 4 = .ok (.istore_n 1, 1) := all_d dX3_firstUncovered_all0 2 rfl
theorem dX3_firstUncovered_5 : decode cX3_firstUncovered 5 = .ok (.iconst 0, 1) := all_d dX3_firstUncovered_all0 3 rfl
theorem dX3_firstUncovered_6 : decode cX3_firstUncovered 6 = .ok (.istore_n 2, 1) := all_d dX3_firstUncovered_all0 4 rfl
theorem dX3_firstUncovered_7 : decode cX3_firstUncovered 7 = .ok (.iload_n 2, 1) := all_d dX3_firstUncovered_all0 5 rfl
theorem dX3_firstUncovered_8 : decode cX3_firstUncovered 8 = .ok (.aload_n 0, 1) := all_d dX3_firstUncovered_all0 6 rfl
theorem dX3_firstUncovered_9 : decode cX3_firstUncovered 9 = .ok (.getfield 22, 3) := all_d dX3_firstUncovered_all0 7 rfl
theorem dX3_firstUncovered_12 : decode cX3_firstUncovered 12 = .ok (.if_icmp .ge 49, 3) := all_d dX3_firstUncovered_all0 8 rfl
theorem dX3_firstUncovered_15 : decode cX3_firstUncovered 15 = .ok (.aload_n 0, 1) := all_d dX3_firstUncovered_all0 9 rfl
theorem dX3_firstUncovered_16 : decode cX3_firstUncovered 16 = .ok (.iload_n 2, 1) := all_d dX3_firstUncovered_all0 10 rfl
theorem dX3_firstUncovered_17 : decode cX3_firstUncovered 17 = .ok (.invokevirtual 25, 3) := all_d dX3_firstUncovered_all0 11 rfl
theorem dX3_firstUncovered_20 : decode cX3_firstUncovered 20 = .ok (.astore_n 3, 1) := all_d dX3_firstUncovered_all0 12 rfl
theorem dX3_firstUncovered_21 : decode cX3_firstUncovered 21 = .ok (.aload_n 3, 1) := all_d dX3_firstUncovered_all0 13 rfl
theorem dX3_firstUncovered_22 : decode cX3_firstUncovered 22 = .ok (.ifnonnull 7, 3) := all_d dX3_firstUncovered_all0 14 rfl
theorem dX3_firstUncovered_25 : decode cX3_firstUncovered 25 = .ok (.iconst 0, 1) := all_d dX3_firstUncovered_all0 15 rfl
theorem dX3_firstUncovered_26 : decode cX3_firstUncovered 26 = .ok (.goto 7, 3) := all_d dX3_firstUncovered_all0 16 rfl
theorem dX3_firstUncovered_29 : decode cX3_firstUncovered 29 = .ok (.aload_n 3, 1) := all_d dX3_firstUncovered_all0 17 rfl
theorem dX3_firstUncovered_30 : decode cX3_firstUncovered 30 = .ok (.invokevirtual 54, 3) := all_d dX3_firstUncovered_all0 18 rfl
theorem dX3_firstUncovered_33 : decode cX3_firstUncovered 33 = .ok (.istore 4, 2) := all_d dX3_firstUncovered_all0 19 rfl
theorem dX3_firstUncovered_35 : decode cX3_firstUncovered 35 = .ok (.iload_n 1, 1) := all_d dX3_firstUncovered_all0 20 rfl
theorem dX3_firstUncovered_36 : decode cX3_firstUncovered 36 = .ok (.iload 4, 2) := all_d dX3_firstUncovered_all0 21 rfl
theorem dX3_firstUncovered_38 : decode cX3_firstUncovered 38 = .ok (.isub, 1) := all_d dX3_firstUncovered_all0 22 rfl
theorem dX3_firstUncovered_39 : decode cX3_firstUncovered 39 = .ok (.istore_n 1, 1) := all_d dX3_firstUncovered_all0 23 rfl
theorem dX3_firstUncovered_40 : decode cX3_firstUncovered 40 = .ok (.iload 4, 2) := all_d dX3_firstUncovered_all0 24 rfl
theorem dX3_firstUncovered_42 : decode cX3_firstUncovered 42 = .ok (.ifCond .lt 11, 3) := all_d dX3_firstUncovered_all0 25 rfl
theorem dX3_firstUncovered_45 : decode cX3_firstUncovered 45 = .ok (.iload 4, 2) := all_d dX3_firstUncovered_all0 26 rfl
theorem dX3_firstUncovered_47 : decode cX3_firstUncovered 47 = .ok (.iload_n 1, 1) := all_d dX3_firstUncovered_all0 27 rfl
theorem dX3_firstUncovered_48 : decode cX3_firstUncovered 48 = .ok (.iconst 1, 1) := all_d dX3_firstUncovered_all0 28 rfl
theorem dX3_firstUncovered_49 : decode cX3_firstUncovered 49 = .ok (.iadd, 1) := all_d dX3_firstUncovered_all0 29 rfl
theorem dX3_firstUncovered_50 : decode cX3_firstUncovered 50 = .ok (.if_icmp .le 5, 3) := all_d dX3_firstUncovered_all0 30 rfl
theorem dX3_firstUncovered_53 : decode cX3_firstUncovered 53 = .ok (.iload_n 2, 1) := all_d dX3_firstUncovered_all0 31 rfl
theorem dX3_firstUncovered_54 : decode cX3_firstUncovered 54 = .ok (.ireturn, 1) := all_d dX3_firstUncovered_all0 32 rfl
theorem dX3_firstUncovered_55 : decode cX3_firstUncovered 55 = .ok (.iinc 2 1, 3) := all_d dX3_firstUncovered_all0 33 rfl
theorem dX3_firstUncovered_58 : decode cX3_firstUncovered 58 = .ok (.goto (-51), 3) := all_d dX3_firstUncovered_all0 34 rfl
theorem dX3_firstUncovered_61 : decode cX3_firstUncovered 61 = .ok (.bipush (-2), 2) := all_d dX3_firstUncovered_all0 35 rfl
theorem dX3_firstUncovered_63 : decode cX3_firstUncovered 63 = .ok (.ireturn, 1) := all_d dX3_firstUncovered_all0 36 rfl
set_option maxRecDepth 100000 in
theorem dX4_init_all0 : ([(0, (.aload_n 0 : Instr), 1), (1, (.invokespecial 3 : Instr), 3), (4, (.aload_n 0 : Instr), 1), (5, (.bipush 8 : Instr), 2), (7, (.newarray .int : Instr), 2), (9, (.putfield 9 : Instr), 3), (12, (.aload_n 0 : Instr), 1), (13, (.bipush 8 : Instr), 2), (15, (.newarray .int : Instr), 2), (17, (.putfield 15 : Instr), 3), (20, (.return_ : Instr), 1)] : List (Nat × Instr × Nat)).all (fun q => decide (decode cX4_init q.1 = .ok (q.2.1, q.2.2))) = true := by decide +kernel
theorem dX4_init_0 : decode cX4_init 0 = .ok (.aload_n 0, 1) := all_d dX4_init_all0 0 rfl
theorem dX4_init_1 : decode cX4_init 1 = .ok (.invokespecial 3, 3) := all_d dX4_init_all0 1 rfl
theorem dX4_init_4 : decode cX4_init 4 = .ok (.aload_n 0, 1) := all_d dX4_init_all0 2 rfl
theorem dX4_init_5 : decode cX4_init 5 = .ok (.bipush 8, 2) := all_d dX4_init_all0 3 rfl
theorem dX4_init_7 : decode cX4_init 7 = .ok (.newarray .int, 2) := all_d dX4_init_all0 4 rfl
theorem dX4_init_9 : decode cX4_init 9 = .ok (.putfield 9, 3) := all_d dX4_init_all0 5 rfl
theorem dX4_init_12 : decode cX4_init 12 = .ok (.aload_n 0, 1) := all_d dX4_init_all0 6 rfl
theorem dX4_init_13 : decode cX4_init 13 = .ok (.bipush 8, 2) := all_d dX4_init_all0 7 rfl
theorem dX4_init_15 : decode cX4_init 15 = .ok (.newarray .int, 2) := all_d dX4_init_all0 8 rfl
theorem dX4_init_17 : decode cX4_init 17 = .ok (.putfield 15, 3) := all_d dX4_init_all0 9 rfl
theorem dX4_init_20 : decode cX4_init 20 = .ok (.return_, 1) := all_d dX4_init_all0 10 rfl
set_option maxRecDepth 100000 in
theorem dX4_addSum_all0 : ([(0, (.aload_n 0 : Instr), 1), (1, (.getfield 18 : Instr), 3), (4, (.ifCond .lt 27 : Instr), 3), (7, (.aload_n 0 : Instr), 1), (8, (.getfield 18 : Instr), 3), (11, (.aload_n 0 : Instr), 1), (12, (.getfield 9 : Instr), 3), (15, (.arraylength : Instr), 1), (16, (.if_icmp .ge 15 : Instr), 3), (19, (.aload_n 0 : Instr), 1), (20, (.getfield 18 : Instr), 3), (23, (.aload_n 0 : Instr), 1), (24, (.getfield 15 : Instr), 3), (27, (.arraylength : Instr), 1), (28, (.if_icmp .lt 4 : Instr), 3), (31, (.return_ : Instr), 1), (32, (.aload_n 0 : Instr), 1), (33, (.getfield 9 : Instr), 3), (36, (.aload_n 0 : Instr), 1), (37, (.getfield 18 : Instr), 3), (40, (.iload_n 1 : Instr), 1), (41, (.iastore : Instr), 1), (42, (.aload_n 0 : Instr), 1), (43, (.getfield 15 : Instr), 3), (46, (.aload_n 0 : Instr), 1), (47, (.getfield 18 : Instr), 3), (50, (.iload_n 2 : Instr), 1), (51, (.iastore : Instr), 1), (52, (.aload_n 0 : Instr), 1), (53, (.dup : Instr), 1), (54, (.getfield 18 : Instr), 3), (57, (.iconst 1 : Instr), 1), (58, (.iadd : Instr), 1), (59, (.putfield 18 : Instr), 3), (62, (.return_ : Instr), 1)] : List (Nat × Instr × Nat)).all (fun q => decide (decode cX4_addSum q.1 = .ok (q.2.1, q.2.2))) = true := by decide +kernel
theorem dX4_addSum_0 : decode cX4_addSum 0 = .ok (.aload_n 0, 1) := all_d dX4_addSum_all0 0 rfl
theorem dX4_addSum_1 : decode cX4_addSum 1 = .ok (.getfield 18, 3) := all_d dX4_addSum_all0 1 rfl
theorem dX4_addSum_4 : decode cX4_addSum 4 = .ok (.ifCond .lt 27, 3) := all_d dX4_addSum_all0 2 rfl
theorem dX4_addSum_7 : decode cX4_addSum 7 = .ok (.aload_n 0, 1) := all_d dX4_addSum_all0 3 rfl
theorem dX4_addSum_8 : decode cX4_addSum 8 = .ok (.getfield 18, 3) := all_d dX4_addSum_all0 4 rfl
theorem dX4_addSum_11 : decode cX4_addSum 11 = .ok (.aload_n 0, 1) := all_d dX4_addSum_all0 5 rfl
theorem dX4_addSum_12 : decode cX4_addSum 12 = .ok (.getfield 9, 3) := all_d dX4_addSum_all0 6 rfl
theorem dX4_addSum_15 : decode cX4_addSum 15 = .ok (.arraylength, 1) := all_d dX4_addSum_all0 7 rfl
theorem dX4_addSum_16 : decode cX4_addSum 16 = .ok (.if_icmp .ge 15, 3) := all_d dX4_addSum_all0 8 rfl
theorem dX4_addSum_19 : decode cX4_addSum 19 = .ok (.aload_n 0, 1) := all_d dX4_addSum_all0 9 rfl
theorem dX4_addSum_20 : decode cX4_addSum 20 = .ok (.getfield 18, 3) := all_d dX4_addSum_all0 10 rfl
theorem dX4_addSum_23 : decode cX4_addSum 23 = .ok (.aload_n 0, 1) := all_d dX4_addSum_all0 11 rfl
theorem dX4_addSum_24 : decode cX4_addSum 24 = .ok (.getfield 15, 3) := all_d dX4_addSum_all0 12 rfl
theorem dX4_addSum_27 : decode cX4_addSum 27 = .ok (.arraylength, 1) := all_d dX4_addSum_all0 13 rfl
theorem dX4_addSum_28 : decode cX4_addSum 28 = .ok (.if_icmp .lt 4, 3) := all_d dX4_addSum_all0 14 rfl
theorem dX4_addSum_31 : decode cX4_addSum 31 = .ok (.return_, 1) := all_d dX4_addSum_all0 15 rfl
theorem dX4_addSum_32 : decode cX4_addSum 32 = .ok (.aload_n 0, 1) := all_d dX4_addSum_all0 16 rfl
theorem dX4_addSum_33 : decode cX4_addSum 33 = .ok (.getfield 9, 3) := all_d dX4_addSum_all0 17 rfl
theorem dX4_addSum_36 : decode cX4_addSum 36 = .ok (.aload_n 0, 1) := all_d dX4_addSum_all0 18 rfl
theorem dX4_addSum_37 : decode cX4_addSum 37 = .ok (.getfield 18, 3) := all_d dX4_addSum_all0 19 rfl
theorem dX4_addSum_40 : decode cX4_addSum 40 = .ok (.iload_n 1, 1) := all_d dX4_addSum_all0 20 rfl
theorem dX4_addSum_41 : decode cX4_addSum 41 = .ok (.iastore, 1) := all_d dX4_addSum_all0 21 rfl
theorem dX4_addSum_42 : decode cX4_addSum 42 = .ok (.aload_n 0, 1) := all_d dX4_addSum_all0 22 rfl
theorem dX4_addSum_43 : decode cX4_addSum 43 = .ok (.getfield 15, 3) := all_d dX4_addSum_all0 23 rfl
theorem dX4_addSum_46 : decode cX4_addSum 46 = .ok (.aload_n 0, 1) := all_d dX4_addSum_all0 24 rfl
theorem dX4_addSum_47 : decode cX4_addSum 47 = .ok (.getfield 18, 3) := all_d dX4_addSum_all0 25 rfl
theorem dX4_addSum_50 : decode cX4_addSum 50 = .ok (.iload_n 2, 1) := all_d dX4_addSum_all0 26 rfl
theorem dX4_addSum_51 : decode cX4_addSum 51 = .ok (.iastore, 1) := all_d dX4_addSum_all0 27 rfl
theorem dX4_addSum_52 : decode cX4_addSum 52 = .ok (.aload_n 0, 1) := all_d dX4_addSum_all0 28 rfl
theorem dX4_addSum_53 : decode cX4_addSum 53 = .ok (.dup, 1) := all_d dX4_addSum_all0 29 rfl
theorem dX4_addSum_54 : decode cX4_addSum 54 = .ok (.getfield 18, 3) := all_d dX4_addSum_all0 30 rfl
theorem dX4_addSum_57 : decode cX4_addSum 57 = .ok (.iconst 1, 1) := all_d dX4_addSum_all0 31 rfl
theorem dX4_addSum_58 : decode cX4_addSum 58 = .ok (.iadd, 1) := all_d dX4_addSum_all0 32 rfl
theorem dX4_addSum_59 : decode cX4_addSum 59 = .ok (.putfield 18, 3) := all_d dX4_addSum_all0 33 rfl
theorem dX4_addSum_62 : decode cX4_addSum 62 = .ok (.return_, 1) := all_d dX4_addSum_all0 34 rfl
set_option maxRecDepth 100000 in
theorem dX4_weighedCodes_all0 : ([(0, (.iconst 0 : Instr), 1), (1, (.istore 4 : Instr), 2), (3, (.iconst 0 : Instr), 1), (4, (.istore 5 : Instr), 2), (6, (.iload 5 : Instr), 2), (8, (.aload_n 0 : Instr), 1), (9, (.getfield 18 : Instr), 3), (12, (.if_icmp .ge 67 : Instr), 3), (15, (.iload 5 : Instr), 2), (17, (.aload_n 0 : Instr), 1), (18, (.getfield 9 : Instr), 3), (21, (.arraylength : Instr), 1), (22, (.if_icmp .ge 57 : Instr), 3), (25, (.iload 5 : Instr), 2), (27, (.aload_n 0 : Instr), 1), (28, (.getfield 15 : Instr), 3), (31, (.arraylength : Instr), 1), (32, (.if_icmp .ge 47 : Instr), 3), (35, (.iconst 0 : Instr), 1), (36, (.iload_n 3 : Instr), 1), (37, (.iload_n 2 : Instr), 1), (38, (.aload_n 0 : Instr), 1), (39, (.getfield 9 : Instr), 3), (42, (.iload 5 : Instr), 2), (44, (.iaload : Instr), 1), (45, (.iadd : Instr), 1), (46, (.invokestatic 22 : Instr), 3), (49, (.invokestatic 28 : Instr), 3), (52, (.istore 6 : Instr), 2), (54, (.iload 4 : Instr), 2), (56, (.aload_n 0 : Instr), 1), (57, (.getfield 15 : Instr), 3), (60, (.iload 5 : Instr), 2), (62, (.iaload : Instr), 1), (63, (.aload_n 1 : Instr), 1), (64, (.iload 6 : Instr), 2), (66, (.invokevirtual 31 : Instr), 3), (69, (.imul : Instr), 1), (70, (.iadd : Instr), 1), (71, (.istore 4 : Instr), 2), (73, (.iinc 5 1 : Instr), 3), (76, (.goto (-70) : Instr), 3), (79, (.iload 4 : Instr), 2), (81, (.ireturn : Instr), 1)] : List (Nat × Instr × Nat)).all (fun q => decide (decode cX4_weighedCodes q.1 = .ok (q.2.1, q.2.2))) = true := by decide +kernel
theorem dX4_weighedCodes_0 : decode cX4_weighedCodes 0 = .ok (.iconst 0, 1) := all_d dX4_weighedCodes_all0 0 rfl
theorem dX4_weighedCodes_1 : decode cX4_weighedCodes 1 = .ok (.istore 4, 2) := all_d dX4_weighedCodes_all0 1 rfl
theorem dX4_weighedCodes_3 : decode cX4_weighedCodes 3 = .ok (.iconst 0, 1) := all_d dX4_weighedCodes_all0 2 rfl
theorem dX4_weighedCodes_4 : decode cX4_weighedCodes 4 = .ok (.istore 5, 2) := all_d dX4_weighedCodes_all0 3 rfl
theorem dX4_weighedCodes_6 : decode cX4_weighedCodes 6 = .ok (.iload 5, 2) := all_d dX4_weighedCodes_all0 4 rfl
theorem dX4_weighedCodes_8 : decode cX4_weighedCodes 8 = .ok (.aload_n 0, 1) := all_d dX4_weighedCodes_all0 5 rfl
theorem dX4_weighedCodes_9 : decode cX4_weighedCodes 9 = .ok (.getfield 18, 3) := all_d dX4_weighedCodes_all0 6 rfl
theorem dX4_weighedCodes_12 : decode cX4_weighedCodes 12 = .ok (.if_icmp .ge 67, 3) := all_d dX4_weighedCodes_all0 7 rfl
theorem dX4_weighedCodes_15 : decode cX4_weighedCodes 15 = .ok (.iload 5, 2) := all_d dX4_weighedCodes_all0 8 rfl
theorem dX4_weighedCodes_17 : decode cX4_weighedCodes 17 = .ok (.aload_n 0, 1) := all_d dX4_weighedCodes_all0 9 rfl
theorem dX4_weighedCodes_18 : decode cX4_weighedCodes 18 = .ok (.getfield 9, 3) := all_d dX4_weighedCodes_all0 10 rfl
theorem dX4_weighedCodes_21 : decode cX4_weighedCodes 21 = .ok (.arraylength, 1) := all_d dX4_weighedCodes_all0 11 rfl
theorem dX4_weighedCodes_22 : decode cX4_weighedCodes 22 = .ok (.if_icmp .ge 57, 3) := all_d dX4_weighedCodes_all0 12 rfl
theorem dX4_weighedCodes_25 : decode cX4_weighedCodes 25 = .ok (.iload 5, 2) := all_d dX4_weighedCodes_all0 13 rfl
theorem dX4_weighedCodes_27 : decode cX4_weighedCodes 27 = .ok (.aload_n 0, 1) := all_d dX4_weighedCodes_all0 14 rfl
theorem dX4_weighedCodes_28 : decode cX4_weighedCodes 28 = .ok (.getfield 15, 3) := all_d dX4_weighedCodes_all0 15 rfl
theorem dX4_weighedCodes_31 : decode cX4_weighedCodes 31 = .ok (.arraylength, 1) := all_d dX4_weighedCodes_all0 16 rfl
theorem dX4_weighedCodes_32 : decode cX4_weighedCodes 32 = .ok (.if_icmp .ge 47, 3) := all_d dX4_weighedCodes_all0 17 rfl
theorem dX4_weighedCodes_35 : decode cX4_weighedCodes 35 = .ok (.iconst 0, 1) := all_d dX4_weighedCodes_all0 18 rfl
theorem dX4_weighedCodes_36 : decode cX4_weighedCodes 36 = .ok (.iload_n 3, 1) := all_d dX4_weighedCodes_all0 19 rfl
theorem dX4_weighedCodes_37 : decode cX4_weighedCodes 37 = .ok (.iload_n 2, 1) := all_d dX4_weighedCodes_all0 20 rfl
theorem dX4_weighedCodes_38 : decode cX4_weighedCodes 38 = .ok (.aload_n 0, 1) := all_d dX4_weighedCodes_all0 21 rfl
theorem dX4_weighedCodes_39 : decode cX4_weighedCodes 39 = .ok (.getfield 9, 3) := all_d dX4_weighedCodes_all0 22 rfl
theorem dX4_weighedCodes_42 : decode cX4_weighedCodes 42 = .ok (.iload 5, 2) := all_d dX4_weighedCodes_all0 23 rfl
theorem dX4_weighedCodes_44 : decode cX4_weighedCodes 44 = .ok (.iaload, 1) := all_d dX4_weighedCodes_all0 24 rfl
theorem dX4_weighedCodes_45 : decode cX4_weighedCodes 45 = .ok (.iadd, 1) := all_d dX4_weighedCodes_all0 25 rfl
theorem dX4_weighedCodes_46 : decode cX4_weighedCodes 46 = .ok (.invokestatic 22, 3) := all_d dX4_weighedCodes_all0 26 rfl
theorem dX4_weighedCodes_49 : decode cX4_weighedCodes 49 = .ok (.invokestatic 28, 3) := all_d dX4_weighedCodes_all0 27 rfl
theorem dX4_weighedCodes_52 : decode cX4_weighedCodes 52 = .ok (.istore 6, 2) := all_d dX4_weighedCodes_all0 28 rfl
theorem dX4_weighedCodes_54 : decode cX4_weighedCodes 54 = .ok (.iload 4, 2) := all_d dX4_weighedCodes_all0 29 rfl
theorem dX4_weighedCodes_56 : decode cX4_weighedCodes 56 = .ok (.aload_n 0, 1) := all_d dX4_weighedCodes_all0 30 rfl
theorem dX4_weighedCodes_57 : decode cX4_weighedCodes 57 = .ok (.getfield 15, 3) := all_d dX4_weighedCodes_all0 31 rfl
theorem dX4_weighedCodes_60 : decode cX4_weighedCodes 60 = .ok (.iload 5, 2) := all_d dX4_weighedCodes_all0 32 rfl
theorem dX4_weighedCodes_62 : decode cX4_weighedCodes 62 = .ok (.iaload, 1) := all_d dX4_weighedCodes_all0 33 rfl
theorem dX4_weighedCodes_63 : decode cX4_weighedCodes 63 = .ok (.aload_n 1, 1) := all_d dX4_weighedCodes_all0 34 rfl
theorem dX4_weighedCodes_64 : decode cX4_weighedCodes 64 = .ok (.iload 6, 2) := all_d dX4_weighedCodes_all0 35 rfl
theorem dX4_weighedCodes_66 : decode cX4_weighedCodes 66 = .ok (.invokevirtual 31, 3) := all_d dX4_weighedCodes_all0 36 rfl
theorem dX4_weighedCodes_69 : decode cX4_weighedCodes 69 = .ok (.imul, 1) := all_d dX4_weighedCodes_all0 37 rfl
theorem dX4_weighedCodes_70 : decode cX4_weighedCodes 70 = .ok (.iadd, 1) := all_d dX4_weighedCodes_all0 38 rfl
theorem dX4_weighedCodes_71 : decode cX4_weighedCodes 71 = .ok (.istore 4, 2) := all_d dX4_weighedCodes_all0 39 rfl
theorem dX4_weighedCodes_73 : decode cX4_weighedCodes 73 = .ok (.iinc 5 1, 3) := all_d dX4_weighedCodes_all0 40 rfl
theorem dX4_weighedCodes_76 : decode cX4_weighedCodes 76 = .ok (.goto (-70), 3) := all_d dX4_weighedCodes_all0 41 rfl
theorem dX4_weighedCodes_79 : decode cX4_weighedCodes 79 = .ok (.iload 4, 2) := all_d dX4_weighedCodes_all0 42 rfl
theorem dX4_weighedCodes_81 : decode cX4_weighedCodes 81 = .ok (.ireturn, 1) := all_d dX4_weighedCodes_all0 43 rfl
set_option maxRecDepth 100000 in
theorem dX4_timesTogether_all0 : ([(0, (.iconst 0 : Instr), 1), (1, (.istore_n 1 : Instr), 1), (2, (.iconst 0 : Instr), 1), (3, (.istore_n 2 : Instr), 1), (4, (.iload_n 2 : Instr), 1), (5, (.aload_n 0 : Instr), 1), (6, (.getfield 18 : Instr), 3), (9, (.if_icmp .ge 27 : Instr), 3), (12, (.iload_n 2 : Instr), 1), (13, (.aload_n 0 : Instr), 1), (14, (.getfield 15 : Instr), 3), (17, (.arraylength : Instr), 1), (18, (.if_icmp .ge 18 : Instr), 3), (21, (.iload_n 1 : Instr), 1), (22, (.aload_n 0 : Instr), 1), (23, (.getfield 15 : Instr), 3), (26, (.iload_n 2 : Instr), 1), (27, (.iaload : Instr), 1), (28, (.iadd : Instr), 1), (29, (.istore_n 1 : Instr), 1), (30, (.iinc 2 1 : Instr), 3), (33, (.goto (-29) : Instr), 3), (36, (.iload_n 1 : Instr), 1), (37, (.ireturn : Instr), 1)] : List (Nat × Instr × Nat)).all (fun q => decide (decode cX4_timesTogether q.1 = .ok (q.2.1, q.2.2))) = true := by decide +kernel
theorem dX4_timesTogether_0 : decode cX4_timesTogether 0 = .ok (.iconst 0, 1) := all_d dX4_timesTogether_all0 0 rfl
theorem dX4_timesTogether_1 : decode cX4_timesTogether 1 = .ok (.istore_n 1, 1) := all_d dX4_timesTogether_all0 1 rfl
theorem dX4_timesTogether_2 : decode cX4_timesTogether 2 = .ok (.iconst 0, 1) := all_d dX4_timesTogether_all0 2 rfl
theorem dX4_timesTogether_3 : decode cX4_timesTogether 3 = .ok (.istore_n 2, 1) := all_d dX4_timesTogether_all0 3 rfl
theorem dX4_timesTogether_4 : decode cX4_timesTogether 4 = .ok (.iload_n 2, 1) := all_d dX4_timesTogether_all0 4 rfl
theorem dX4_timesTogether_5 : decode cX4_timesTogether 5 = .ok (.aload_n 0, 1) := all_d dX4_timesTogether_all0 5 rfl
theorem dX4_timesTogether_6 : decode cX4_timesTogether 6 = .ok (.getfield 18, 3) := all_d dX4_timesTogether_all0 6 rfl
theorem dX4_timesTogether_9 : decode cX4_timesTogether 9 = .ok (.if_icmp .ge 27, 3) := all_d dX4_timesTogether_all0 7 rfl
theorem dX4_timesTogether_12 : decode cX4_timesTogether 12 = .ok (.iload_n 2, 1) := all_d dX4_timesTogether_all0 8 rfl
theorem dX4_timesTogether_13 : decode cX4_timesTogether 13 = .ok (.aload_n 0, 1) := all_d dX4_timesTogether_all0 9 rfl
theorem dX4_timesTogether_14 : decode cX4_timesTogether 14 = .ok (.getfield 15, 3) := all_d dX4_timesTogether_all0 10 rfl
theorem dX4_timesTogether_17 : decode cX4_timesTogether 17 = .ok (.arraylength, 1) := all_d dX4_timesTogether_all0 11 rfl
theorem dX4_timesTogether_18 : decode cX4_timesTogether 18 = .ok (.if_icmp .ge 18, 3) := all_d dX4_timesTogether_all0 12 rfl
theorem dX4_timesTogether_21 : decode cX4_timesTogether 21 = .ok (.iload_n 1, 1) := all_d dX4_timesTogether_all0 13 rfl
theorem dX4_timesTogether_22 : decode cX4_timesTogether 22 = .ok (.aload_n 0, 1) := all_d dX4_timesTogether_all0 14 rfl
theorem dX4_timesTogether_23 : decode cX4_timesTogether 23 = .ok (.getfield 15, 3) := all_d dX4_timesTogether_all0 15 rfl
theorem dX4_timesTogether_26 : decode cX4_timesTogether 26 = .ok (.iload_n 2, 1) := all_d dX4_timesTogether_all0 16 rfl
theorem dX4_timesTogether_27 : decode cX4_timesTogether 27 = .ok (.iaload, 1) := all_d dX4_timesTogether_all0 17 rfl
theorem dX4_timesTogether_28 : decode cX4_timesTogether 28 = .ok (.iadd, 1) := all_d dX4_timesTogether_all0 18 rfl
theorem dX4_timesTogether_29 : decode cX4_timesTogether 29 = .ok (.istore_n 1, 1) := all_d dX4_timesTogether_all0 19 rfl
theorem dX4_timesTogether_30 : decode cX4_timesTogether 30 = .ok (.iinc 2 1, 3) := all_d dX4_timesTogether_all0 20 rfl
theorem dX4_timesTogether_33 : decode cX4_timesTogether 33 = .ok (.goto (-29), 3) := all_d dX4_timesTogether_all0 21 rfl
theorem dX4_timesTogether_36 : decode cX4_timesTogether 36 = .ok (.iload_n 1, 1) := all_d dX4_timesTogether_all0 22 rfl
theorem dX4_timesTogether_37 : decode cX4_timesTogether 37 = .ok (.ireturn, 1) := all_d dX4_timesTogether_all0 23 rfl
set_option maxRecDepth 100000 in
theorem dX5_init_all0 : ([(0, (.aload_n 0 : Instr), 1), (1, (.invokespecial 1 : Instr), 3), (4, (.return_ : Instr), 1)] : List (Nat × Instr × Nat)).all (fun q => decide (decode cX5_init q.1 = .ok (q.2.1, q.2.2))) = true := by decide +kernel
theorem dX5_init_0 : decode cX5_init 0 = .ok (.aload_n 0, 1) := all_d dX5_init_all0 0 rfl
theorem dX5_init_1 : decode cX5_init 1 = .ok (.invokespecial 1, 3) := all_d dX5_init_all0 1 rfl
theorem dX5_init_4 : decode cX5_init 4 = .ok (.return_, 1) := all_d dX5_init_all0 2 rfl
set_option maxRecDepth 100000 in
theorem dX5_asItIs_all0 : ([(0, (.aload_n 0 : Instr), 1), (1, (.getfield 7 : Instr), 3), (4, (.aload_n 0 : Instr), 1), (5, (.getfield 13 : Instr), 3), (8, (.iadd : Instr), 1), (9, (.ireturn : Instr), 1)] : List (Nat × Instr × Nat)).all (fun q => decide (decode cX5_asItIs q.1 = .ok (q.2.1, q.2.2))) = true := by decide +kernel
theorem dX5_asItIs_0 : decode cX5_asItIs 0 = .ok (.aload_n 0, 1) := all_d dX5_asItIs_all0 0 rfl
theorem dX5_asItIs_1 : decode cX5_asItIs 1 = .ok (.getfield 7, 3) := all_d dX5_asItIs_all0 1 rfl
theorem dX5_asItIs_4 : decode cX5_asItIs 4 = .ok (.aload_n 0, 1) := all_d dX5_asItIs_all0 2 rfl
theorem dX5_asItIs_5 : decode cX5_asItIs 5 = .ok (.getfield 13, 3) := all_d dX5_asItIs_all0 3 rfl
theorem dX5_asItIs_8 : decode cX5_asItIs 8 = .ok (.iadd, 1) := all_d dX5_asItIs_all0 4 rfl
theorem dX5_asItIs_9 : decode cX5_asItIs 9 = .ok (.ireturn, 1) := all_d dX5_asItIs_all0 5 rfl
set_option maxRecDepth 100000 in
theorem dX6_init_all0 : ([(0, (.aload_n 0 : Instr), 1), (1, (.invokespecial 3 : Instr), 3), (4, (.aload_n 0 : Instr), 1), (5, (.bipush 60 : Instr), 2), (7, (.anewarray 9 : Instr), 3), (10, (.putfield 11 : Instr), 3), (13, (.iconst 0 : Instr), 1), (14, (.istore_n 1 : Instr), 1), (15, (.iload_n 1 : Instr), 1), (16, (.aload_n 0 : Instr), 1), (17, (.getfield 11 : Instr), 3), (20, (.arraylength : Instr), 1), (21, (.if_icmp .ge 22 : Instr), 3), (24, (.aload_n 0 : Instr), 1), (25, (.getfield 11 : Instr), 3), (28, (.iload_n 1 : Instr), 1), (29, (.new 9 : Instr), 3), (32, (.dup : Instr), 1), (33, (.invokespecial 17 : Instr), 3), (36, (.aastore : Instr), 1), (37, (.iinc 1 1 : Instr), 3), (40, (.goto (-25) : Instr), 3), (43, (.return_ : Instr), 1)] : List (Nat × Instr × Nat)).all (fun q => decide (decode cX6_init q.1 = .ok (q.2.1, q.2.2))) = true := by decide +kernel
theorem dX6_init_0 : decode cX6_init 0 = .ok (.aload_n 0, 1) := all_d dX6_init_all0 0 rfl
theorem dX6_init_1 : decode cX6_init 1 = .ok (.invokespecial 3, 3) := all_d dX6_init_all0 1 rfl
theorem dX6_init_4 : decode cX6_init 4 = .ok (.aload_n 0, 1) := all_d dX6_init_all0 2 rfl
theorem dX6_init_5 : decode cX6_init 5 = .ok (.bipush 60, 2) := all_d dX6_init_all0 3 rfl
theorem dX6_init_7 : decode cX6_init 7 = .ok (.anewarray 9, 3) := all_d dX6_init_all0 4 rfl
theorem dX6_init_10 : decode cX6_init 10 = .ok (.putfield 11, 3) := all_d dX6_init_all0 5 rfl
theorem dX6_init_13 : decode cX6_init 13 = .ok (.iconst 0, 1) := all_d dX6_init_all0 6 rfl
theorem dX6_init_14 : decode cX6_init 14 = .ok (.istore_n 1, 1) := all_d dX6_init_all0 7 rfl
theorem dX6_init_15 : decode cX6_init 15 = .ok (.iload_n 1, 1) := all_d dX6_init_all0 8 rfl
theorem dX6_init_16 : decode cX6_init 16 = .ok (.aload_n 0, 1) := all_d dX6_init_all0 9 rfl
theorem dX6_init_17 : decode cX6_init 17 = .ok (.getfield 11, 3) := all_d dX6_init_all0 10 rfl
theorem dX6_init_20 : decode cX6_init 20 = .ok (.arraylength, 1) := all_d dX6_init_all0 11 rfl
theorem dX6_init_21 : decode cX6_init 21 = .ok (.if_icmp .ge 22, 3) := all_d dX6_init_all0 12 rfl
theorem dX6_init_24 : decode cX6_init 24 = .ok (.aload_n 0, 1) := all_d dX6_init_all0 13 rfl
theorem dX6_init_25 : decode cX6_init 25 = .ok (.getfield 11, 3) := all_d dX6_init_all0 14 rfl
theorem dX6_init_28 : decode cX6_init 28 = .ok (.iload_n 1, 1) := all_d dX6_init_all0 15 rfl
theorem dX6_init_29 : decode cX6_init 29 = .ok (.new 9, 3) := all_d dX6_init_all0 16 rfl
theorem dX6_init_32 : decode cX6_init 32 = .ok (.dup, 1) := all_d dX6_init_all0 17 rfl
theorem dX6_init_33 : decode cX6_init 33 = .ok (.invokespecial 17, 3) := all_d dX6_init_all0 18 rfl
theorem dX6_init_36 : decode cX6_init 36 = .ok (.aastore, 1) := all_d dX6_init_all0 19 rfl
theorem dX6_init_37 : decode cX6_init 37 = .ok (.iinc 1 1, 3) := all_d dX6_init_all0 20 rfl
theorem dX6_init_40 : decode cX6_init 40 = .ok (.goto (-25), 3) := all_d dX6_init_all0 21 rfl
theorem dX6_init_43 : decode cX6_init 43 = .ok (.return_, 1) := all_d dX6_init_all0 22 rfl
set_option maxRecDepth 100000 in
theorem dX6_slotAt_all0 : ([(0, (.iload_n 1 : Instr), 1), (1, (.ifCond .lt 21 : Instr), 3), (4, (.iload_n 1 : Instr), 1), (5, (.aload_n 0 : Instr), 1), (6, (.getfield 11 : Instr), 3), (9, (.arraylength : Instr), 1), (10, (.if_icmp .ge 12 : Instr), 3), (13, (.aload_n 0 : Instr), 1), (14, (.getfield 11 : Instr), 3), (17, (.iload_n 1 : Instr), 1), (18, (.aaload : Instr), 1), (19, (.goto 4 : Instr), 3), (22, (.aconst_null : Instr), 1), (23, (.areturn : Instr), 1)] : List (Nat × Instr × Nat)).all (fun q => decide (decode cX6_slotAt q.1 = .ok (q.2.1, q.2.2))) = true := by decide +kernel
theorem dX6_slotAt_0 : decode cX6_slotAt 0 = .ok (.iload_n 1, 1) := all_d dX6_slotAt_all0 0 rfl
theorem dX6_slotAt_1 : decode cX6_slotAt 1 = .ok (.ifCond .lt 21, 3) := all_d dX6_slotAt_all0 1 rfl
theorem dX6_slotAt_4 : decode cX6_slotAt 4 = .ok (.iload_n 1, 1) := all_d dX6_slotAt_all0 2 rfl
theorem dX6_slotAt_5 : decode cX6_slotAt 5 = .ok (.aload_n 0, 1) := all_d dX6_slotAt_all0 3 rfl
theorem dX6_slotAt_6 : decode cX6_slotAt 6 = .ok (.getfield 11, 3) := all_d dX6_slotAt_all0 4 rfl
theorem dX6_slotAt_9 : decode cX6_slotAt 9 = .ok (.arraylength, 1) := all_d dX6_slotAt_all0 5 rfl
theorem dX6_slotAt_10 : decode cX6_slotAt 10 = .ok (.if_icmp .ge 12, 3) := all_d dX6_slotAt_all0 6 rfl
theorem dX6_slotAt_13 : decode cX6_slotAt 13 = .ok (.aload_n 0, 1) := all_d dX6_slotAt_all0 7 rfl
theorem dX6_slotAt_14 : decode cX6_slotAt 14 = .ok (.getfield 11, 3) := all_d dX6_slotAt_all0 8 rfl
theorem dX6_slotAt_17 : decode cX6_slotAt 17 = .ok (.iload_n 1, 1) := all_d dX6_slotAt_all0 9 rfl
theorem dX6_slotAt_18 : decode cX6_slotAt 18 = .ok (.aaload, 1) := all_d dX6_slotAt_all0 10 rfl
theorem dX6_slotAt_19 : decode cX6_slotAt 19 = .ok (.goto 4, 3) := all_d dX6_slotAt_all0 11 rfl
theorem dX6_slotAt_22 : decode cX6_slotAt 22 = .ok (.aconst_null, 1) := all_d dX6_slotAt_all0 12 rfl
theorem dX6_slotAt_23 : decode cX6_slotAt 23 = .ok (.areturn, 1) := all_d dX6_slotAt_all0 13 rfl
set_option maxRecDepth 100000 in
theorem dX6_addAct_all0 : ([(0, (.aload_n 0 : Instr), 1), (1, (.aload_n 0 : Instr), 1), (2, (.getfield 18 : Instr), 3), (5, (.invokevirtual 22 : Instr), 3), (8, (.astore 4 : Instr), 2), (10, (.aload 4 : Instr), 2), (12, (.ifnonnull 5 : Instr), 3), (15, (.aconst_null : Instr), 1), (16, (.areturn : Instr), 1), (17, (.aload 4 : Instr), 2), (19, (.iload_n 1 : Instr), 1), (20, (.putfield 26 : Instr), 3), (23, (.aload 4 : Instr), 2), (25, (.iload_n 2 : Instr), 1), (26, (.putfield 29 : Instr), 3), (29, (.aload 4 : Instr), 2), (31, (.iload_n 3 : Instr), 1), (32, (.putfield 32 : Instr), 3), (35, (.aload_n 0 : Instr), 1), (36, (.aload_n 0 : Instr), 1), (37, (.getfield 18 : Instr), 3), (40, (.iconst 1 : Instr), 1), (41, (.iadd : Instr), 1), (42, (.bipush 60 : Instr), 2), (44, (.irem : Instr), 1), (45, (.putfield 18 : Instr), 3), (48, (.aload_n 0 : Instr), 1), (49, (.bipush 60 : Instr), 2), (51, (.aload_n 0 : Instr), 1), (52, (.getfield 35 : Instr), 3), (55, (.iconst 1 : Instr), 1), (56, (.iadd : Instr), 1), (57, (.invokestatic 38 : Instr), 3), (60, (.putfield 35 : Instr), 3), (63, (.aload 4 : Instr), 2), (65, (.areturn : Instr), 1)] : List (Nat × Instr × Nat)).all (fun q => decide (decode cX6_addAct q.1 = .ok (q.2.1, q.2.2))) = true := by decide +kernel
theorem dX6_addAct_0 : decode cX6_addAct 0 = .ok (.aload_n 0, 1) := all_d dX6_addAct_all0 0 rfl
theorem dX6_addAct_1 : decode cX6_addAct 1 = .ok (.aload_n 0, 1) := all_d dX6_addAct_all0 1 rfl
theorem dX6_addAct_2 : decode cX6_addAct 2 = .ok (.getfield 18, 3) := all_d dX6_addAct_all0 2 rfl
theorem dX6_addAct_5 : decode cX6_addAct 5 = .ok (.invokevirtual 22, 3) := all_d dX6_addAct_all0 3 rfl
theorem dX6_addAct_8 : decode cX6_addAct 8 = .ok (.astore 4, 2) := all_d dX6_addAct_all0 4 rfl
theorem dX6_addAct_10 : decode cX6_addAct 10 = .ok (.aload 4, 2) := all_d dX6_addAct_all0 5 rfl
theorem dX6_addAct_12 : decode cX6_addAct 12 = .ok (.ifnonnull 5, 3) := all_d dX6_addAct_all0 6 rfl
theorem dX6_addAct_15 : decode cX6_addAct 15 = .ok (.aconst_null, 1) := all_d dX6_addAct_all0 7 rfl
theorem dX6_addAct_16 : decode cX6_addAct 16 = .ok (.areturn, 1) := all_d dX6_addAct_all0 8 rfl
theorem dX6_addAct_17 : decode cX6_addAct 17 = .ok (.aload 4, 2) := all_d dX6_addAct_all0 9 rfl
theorem dX6_addAct_19 : decode cX6_addAct 19 = .ok (.iload_n 1, 1) := all_d dX6_addAct_all0 10 rfl
theorem dX6_addAct_20 : decode cX6_addAct 20 = .ok (.putfield 26, 3) := all_d dX6_addAct_all0 11 rfl
theorem dX6_addAct_23 : decode cX6_addAct 23 = .ok (.aload 4, 2) := all_d dX6_addAct_all0 12 rfl
theorem dX6_addAct_25 : decode cX6_addAct 25 = .ok (.iload_n 2, 1) := all_d dX6_addAct_all0 13 rfl
theorem dX6_addAct_26 : decode cX6_addAct 26 = .ok (.putfield 29, 3) := all_d dX6_addAct_all0 14 rfl
theorem dX6_addAct_29 : decode cX6_addAct 29 = .ok (.aload 4, 2) := all_d dX6_addAct_all0 15 rfl
theorem dX6_addAct_31 : decode cX6_addAct 31 = .ok (.iload_n 3, 1) := all_d dX6_addAct_all0 16 rfl
theorem dX6_addAct_32 : decode cX6_addAct 32 = .ok (.putfield 32, 3) := all_d dX6_addAct_all0 17 rfl
theorem dX6_addAct_35 : decode cX6_addAct 35 = .ok (.aload_n 0, 1) := all_d dX6_addAct_all0 18 rfl
theorem dX6_addAct_36 : decode cX6_addAct 36 = .ok (.aload_n 0, 1) := all_d dX6_addAct_all0 19 rfl
theorem dX6_addAct_37 : decode cX6_addAct 37 = .ok (.getfield 18, 3) := all_d dX6_addAct_all0 20 rfl
theorem dX6_addAct_40 : decode cX6_addAct 40 = .ok (.iconst 1, 1) := all_d dX6_addAct_all0 21 rfl
theorem dX6_addAct_41 : decode cX6_addAct 41 = .ok (.iadd, 1) := all_d dX6_addAct_all0 22 rfl
theorem dX6_addAct_42 : decode cX6_addAct 42 = .ok (.bipush 60, 2) := all_d dX6_addAct_all0 23 rfl
theorem dX6_addAct_44 : decode cX6_addAct 44 = .ok (.irem, 1) := all_d dX6_addAct_all0 24 rfl
theorem dX6_addAct_45 : decode cX6_addAct 45 = .ok (.putfield 18, 3) := all_d dX6_addAct_all0 25 rfl
theorem dX6_addAct_48 : decode cX6_addAct 48 = .ok (.aload_n 0, 1) := all_d dX6_addAct_all0 26 rfl
theorem dX6_addAct_49 : decode cX6_addAct 49 = .ok (.bipush 60, 2) := all_d dX6_addAct_all0 27 rfl
theorem dX6_addAct_51 : decode cX6_addAct 51 = .ok (.aload_n 0, 1) := all_d dX6_addAct_all0 28 rfl
theorem dX6_addAct_52 : decode cX6_addAct 52 = .ok (.getfield 35, 3) := all_d dX6_addAct_all0 29 rfl
theorem dX6_addAct_55 : decode cX6_addAct 55 = .ok (.iconst 1, 1) := all_d dX6_addAct_all0 30 rfl
theorem dX6_addAct_56 : decode cX6_addAct 56 = .ok (.iadd, 1) := all_d dX6_addAct_all0 31 rfl
theorem dX6_addAct_57 : decode cX6_addAct 57 = .ok (.invokestatic 38, 3) := all_d dX6_addAct_all0 32 rfl
theorem dX6_addAct_60 : decode cX6_addAct 60 = .ok (.putfield 35, 3) := all_d dX6_addAct_all0 33 rfl
theorem dX6_addAct_63 : decode cX6_addAct 63 = .ok (.aload 4, 2) := all_d dX6_addAct_all0 34 rfl
theorem dX6_addAct_65 : decode cX6_addAct 65 = .ok (.areturn, 1) := all_d dX6_addAct_all0 35 rfl
set_option maxRecDepth 100000 in
theorem dX6_latestPlace_all0 : ([(0, (.aload_n 0 : Instr), 1), (1, (.getfield 18 : Instr), 3), (4, (.bipush 60 : Instr), 2), (6, (.iadd : Instr), 1), (7, (.iconst 1 : Instr), 1), (8, (.isub : Instr), 1), (9, (.bipush 60 : Instr), 2), (11, (.irem : Instr), 1), (12, (.ireturn : Instr), 1)] : List (Nat × Instr × Nat)).all (fun q => decide (decode cX6_latestPlace q.1 = .ok (q.2.1, q.2.2))) = true := by decide +kernel
theorem dX6_latestPlace_0 : decode cX6_latestPlace 0 = .ok (.aload_n 0, 1) := all_d dX6_latestPlace_all0 0 rfl
theorem dX6_latestPlace_1 : decode cX6_latestPlace 1 = .ok (.getfield 18, 3) := all_d dX6_latestPlace_all0 1 rfl
theorem dX6_latestPlace_4 : decode cX6_latestPlace 4 = .ok (.bipush 60, 2) := all_d dX6_latestPlace_all0 2 rfl
theorem dX6_latestPlace_6 : decode cX6_latestPlace 6 = .ok (.iadd, 1) := all_d dX6_latestPlace_all0 3 rfl
theorem dX6_latestPlace_7 : decode cX6_latestPlace 7 = .ok (.iconst 1, 1) := all_d dX6_latestPlace_all0 4 rfl
theorem dX6_latestPlace_8 : decode cX6_latestPlace 8 = .ok (.isub, 1) := all_d dX6_latestPlace_all0 5 rfl
theorem dX6_latestPlace_9 : decode cX6_latestPlace 9 = .ok (.bipush 60, 2) := all_d dX6_latestPlace_all0 6 rfl
theorem dX6_latestPlace_11 : decode cX6_latestPlace 11 = .ok (.irem, 1) := all_d dX6_latestPlace_all0 7 rfl
theorem dX6_latestPlace_12 : decode cX6_latestPlace 12 = .ok (.ireturn, 1) := all_d dX6_latestPlace_all0 8 rfl
set_option maxRecDepth 100000 in
theorem dX6_latest_all0 : ([(0, (.aload_n 0 : Instr), 1), (1, (.getfield 35 : Instr), 3), (4, (.ifCond .le 14 : Instr), 3), (7, (.aload_n 0 : Instr), 1), (8, (.aload_n 0 : Instr), 1), (9, (.invokevirtual 44 : Instr), 3), (12, (.invokevirtual 22 : Instr), 3), (15, (.goto 4 : Instr), 3), (18, (.aconst_null : Instr), 1), (19, (.areturn : Instr), 1)] : List (Nat × Instr × Nat)).all (fun q => decide (decode cX6_latest q.1 = .ok (q.2.1, q.2.2))) = true := by decide +kernel
theorem dX6_latest_0 : decode cX6_latest 0 = .ok (.aload_n 0, 1) := all_d dX6_latest_all0 0 rfl
theorem dX6_latest_1 : decode cX6_latest 1 = .ok (.getfield 35, 3) := all_d dX6_latest_all0 1 rfl
theorem dX6_latest_4 : decode cX6_latest 4 = .ok (.ifCond .le 14, 3) := all_d dX6_latest_all0 2 rfl
theorem dX6_latest_7 : decode cX6_latest 7 = .ok (.aload_n 0, 1) := all_d dX6_latest_all0 3 rfl
theorem dX6_latest_8 : decode cX6_latest 8 = .ok (.aload_n 0, 1) := all_d dX6_latest_all0 4 rfl
theorem dX6_latest_9 : decode cX6_latest 9 = .ok (.invokevirtual 44, 3) := all_d dX6_latest_all0 5 rfl
theorem dX6_latest_12 : decode cX6_latest 12 = .ok (.invokevirtual 22, 3) := all_d dX6_latest_all0 6 rfl
theorem dX6_latest_15 : decode cX6_latest 15 = .ok (.goto 4, 3) := all_d dX6_latest_all0 7 rfl
theorem dX6_latest_18 : decode cX6_latest 18 = .ok (.aconst_null, 1) := all_d dX6_latest_all0 8 rfl
theorem dX6_latest_19 : decode cX6_latest 19 = .ok (.areturn, 1) := all_d dX6_latest_all0 9 rfl
set_option maxRecDepth 100000 in
theorem dX6_dropLatest_all0 : ([(0, (.aload_n 0 : Instr), 1), (1, (.getfield 35 : Instr), 3), (4, (.ifCond .le 21 : Instr), 3), (7, (.aload_n 0 : Instr), 1), (8, (.aload_n 0 : Instr), 1), (9, (.invokevirtual 44 : Instr), 3), (12, (.putfield 18 : Instr), 3), (15, (.aload_n 0 : Instr), 1), (16, (.dup : Instr), 1), (17, (.getfield 35 : Instr), 3), (20, (.iconst 1 : Instr), 1), (21, (.isub : Instr), 1), (22, (.putfield 35 : Instr), 3), (25, (.return_ : Instr), 1)] : List (Nat × Instr × Nat)).all (fun q => decide (decode cX6_dropLatest q.1 = .ok (q.2.1, q.2.2))) = true := by decide +kernel
theorem dX6_dropLatest_0 : decode cX6_dropLatest 0 = .ok (.aload_n 0, 1) := all_d dX6_dropLatest_all0 0 rfl
theorem dX6_dropLatest_1 : decode cX6_dropLatest 1 = .ok (.getfield 35, 3) := all_d dX6_dropLatest_all0 1 rfl
theorem dX6_dropLatest_4 : decode cX6_dropLatest 4 = .ok (.ifCond .le 21, 3) := all_d dX6_dropLatest_all0 2 rfl
theorem dX6_dropLatest_7 : decode cX6_dropLatest 7 = .ok (.aload_n 0, 1) := all_d dX6_dropLatest_all0 3 rfl
theorem dX6_dropLatest_8 : decode cX6_dropLatest 8 = .ok (.aload_n 0, 1) := all_d dX6_dropLatest_all0 4 rfl
theorem dX6_dropLatest_9 : decode cX6_dropLatest 9 = .ok (.invokevirtual 44, 3) := all_d dX6_dropLatest_all0 5 rfl
theorem dX6_dropLatest_12 : decode cX6_dropLatest 12 = .ok (.putfield 18, 3) := all_d dX6_dropLatest_all0 6 rfl
theorem dX6_dropLatest_15 : decode cX6_dropLatest 15 = .ok (.aload_n 0, 1) := all_d dX6_dropLatest_all0 7 rfl
theorem dX6_dropLatest_16 : decode cX6_dropLatest 16 = .ok (.dup, 1) := all_d dX6_dropLatest_all0 8 rfl
theorem dX6_dropLatest_17 : decode cX6_dropLatest 17 = .ok (.getfield 35, 3) := all_d dX6_dropLatest_all0 9 rfl
theorem dX6_dropLatest_20 : decode cX6_dropLatest 20 = .ok (.iconst 1, 1) := all_d dX6_dropLatest_all0 10 rfl
theorem dX6_dropLatest_21 : decode cX6_dropLatest 21 = .ok (.isub, 1) := all_d dX6_dropLatest_all0 11 rfl
theorem dX6_dropLatest_22 : decode cX6_dropLatest 22 = .ok (.putfield 35, 3) := all_d dX6_dropLatest_all0 12 rfl
theorem dX6_dropLatest_25 : decode cX6_dropLatest 25 = .ok (.return_, 1) := all_d dX6_dropLatest_all0 13 rfl
set_option maxRecDepth 100000 in
theorem dX7_init_all0 : ([(0, (.aload_n 0 : Instr), 1), (1, (.invokespecial 3 : Instr), 3), (4, (.aload_n 0 : Instr), 1), (5, (.sipush 4096 : Instr), 3), (8, (.newarray .int : Instr), 2), (10, (.putfield 9 : Instr), 3), (13, (.aload_n 0 : Instr), 1), (14, (.sipush 4251 : Instr), 3), (17, (.newarray .long : Instr), 2), (19, (.putfield 15 : Instr), 3), (22, (.aload_n 0 : Instr), 1), (23, (.iconst (-1) : Instr), 1), (24, (.putfield 19 : Instr), 3), (27, (.return_ : Instr), 1)] : List (Nat × Instr × Nat)).all (fun q => decide (decode cX7_init q.1 = .ok (q.2.1, q.2.2))) = true := by decide +kernel
theorem dX7_init_0 : decode cX7_init 0 = .ok (.aload_n 0, 1) := all_d dX7_init_all0 0 rfl
theorem dX7_init_1 : decode cX7_init 1 = .ok (.invokespecial 3, 3) := all_d dX7_init_all0 1 rfl
theorem dX7_init_4 : decode cX7_init 4 = .ok (.aload_n 0, 1) := all_d dX7_init_all0 2 rfl
theorem dX7_init_5 : decode cX7_init 5 = .ok (.sipush 4096, 3) := all_d dX7_init_all0 3 rfl
theorem dX7_init_8 : decode cX7_init 8 = .ok (.newarray .int, 2) := all_d dX7_init_all0 4 rfl
theorem dX7_init_10 : decode cX7_init 10 = .ok (.putfield 9, 3) := all_d dX7_init_all0 5 rfl
theorem dX7_init_13 : decode cX7_init 13 = .ok (.aload_n 0, 1) := all_d dX7_init_all0 6 rfl
theorem dX7_init_14 : decode cX7_init 14 = .ok (.sipush 4251, 3) := all_d dX7_init_all0 7 rfl
theorem dX7_init_17 : decode cX7_init 17 = .ok (.newarray .long, 2) := all_d dX7_init_all0 8 rfl
theorem dX7_init_19 : decode cX7_init 19 = .ok (.putfield 15, 3) := all_d dX7_init_all0 9 rfl
theorem dX7_init_22 : decode cX7_init 22 = .ok (.aload_n 0, 1) := all_d dX7_init_all0 10 rfl
theorem dX7_init_23 : decode cX7_init 23 = .ok (.iconst (-1), 1) := all_d dX7_init_all0 11 rfl
theorem dX7_init_24 : decode cX7_init 24 = .ok (.putfield 19, 3) := all_d dX7_init_all0 12 rfl
theorem dX7_init_27 : decode cX7_init 27 = .ok (.return_, 1) := all_d dX7_init_all0 13 rfl
set_option maxRecDepth 100000 in
theorem dX7_fillFrom_all0 : ([(0, (.aload_n 0 : Instr), 1), (1, (.iload_n 2 : Instr), 1), (2, (.aload_n 0 : Instr), 1), (3, (.getfield 9 : Instr), 3), (6, (.arraylength : Instr), 1), (7, (.iconst 1 : Instr), 1), (8, (.isub : Instr), 1), (9, (.invokestatic 23 : Instr), 3), (12, (.putfield 19 : Instr), 3), (15, (.iconst 0 : Instr), 1), (16, (.istore_n 3 : Instr), 1), (17, (.iload_n 3 : Instr), 1), (18, (.aload_n 0 : Instr), 1), (19, (.getfield 19 : Instr), 3), (22, (.if_icmp .gt 29 : Instr), 3), (25, (.iload_n 3 : Instr), 1), (26, (.aload_n 0 : Instr), 1), (27, (.getfield 9 : Instr), 3), (30, (.arraylength : Instr), 1), (31, (.if_icmp .ge 20 : Instr), 3), (34, (.aload_n 0 : Instr), 1), (35, (.getfield 9 : Instr), 3), (38, (.iload_n 3 : Instr), 1), (39, (.aload_n 1 : Instr), 1), (40, (.iload_n 3 : Instr), 1), (41, (.invokevirtual 29 : Instr), 3), (44, (.iastore : Instr), 1), (45, (.iinc 3 1 : Instr), 3), (48, (.goto (-31) : Instr), 3), (51, (.return_ : Instr), 1)] : List (Nat × Instr × Nat)).all (fun q => decide (decode cX7_fillFrom q.1 = .ok (q.2.1, q.2.2))) = true := by decide +kernel
theorem dX7_fillFrom_0 : decode cX7_fillFrom 0 = .ok (.aload_n 0, 1) := all_d dX7_fillFrom_all0 0 rfl
theorem dX7_fillFrom_1 : decode cX7_fillFrom 1 = .ok (.iload_n 2, 1) := all_d dX7_fillFrom_all0 1 rfl
theorem dX7_fillFrom_2 : decode cX7_fillFrom 2 = .ok (.aload_n 0, 1) := all_d dX7_fillFrom_all0 2 rfl
theorem dX7_fillFrom_3 : decode cX7_fillFrom 3 = .ok (.getfield 9, 3) := all_d dX7_fillFrom_all0 3 rfl
theorem dX7_fillFrom_6 : decode cX7_fillFrom 6 = .ok (.arraylength, 1) := all_d dX7_fillFrom_all0 4 rfl
theorem dX7_fillFrom_7 : decode cX7_fillFrom 7 = .ok (.iconst 1, 1) := all_d dX7_fillFrom_all0 5 rfl
theorem dX7_fillFrom_8 : decode cX7_fillFrom 8 = .ok (.isub, 1) := all_d dX7_fillFrom_all0 6 rfl
theorem dX7_fillFrom_9 : decode cX7_fillFrom 9 = .ok (.invokestatic 23, 3) := all_d dX7_fillFrom_all0 7 rfl
theorem dX7_fillFrom_12 : decode cX7_fillFrom 12 = .ok (.putfield 19, 3) := all_d dX7_fillFrom_all0 8 rfl
theorem dX7_fillFrom_15 : decode cX7_fillFrom 15 = .ok (.iconst 0, 1) := all_d dX7_fillFrom_all0 9 rfl
theorem dX7_fillFrom_16 : decode cX7_fillFrom 16 = .ok (.istore_n 3, 1) := all_d dX7_fillFrom_all0 10 rfl
theorem dX7_fillFrom_17 : decode cX7_fillFrom 17 = .ok (.iload_n 3, 1) := all_d dX7_fillFrom_all0 11 rfl
theorem dX7_fillFrom_18 : decode cX7_fillFrom 18 = .ok (.aload_n 0, 1) := all_d dX7_fillFrom_all0 12 rfl
theorem dX7_fillFrom_19 : decode cX7_fillFrom 19 = .ok (.getfield 19, 3) := all_d dX7_fillFrom_all0 13 rfl
theorem dX7_fillFrom_22 : decode cX7_fillFrom 22 = .ok (.if_icmp .gt 29, 3) := all_d dX7_fillFrom_all0 14 rfl
theorem dX7_fillFrom_25 : decode cX7_fillFrom 25 = .ok (.iload_n 3, 1) := all_d dX7_fillFrom_all0 15 rfl
theorem dX7_fillFrom_26 : decode cX7_fillFrom 26 = .ok (.aload_n 0, 1) := all_d dX7_fillFrom_all0 16 rfl
theorem dX7_fillFrom_27 : decode cX7_fillFrom 27 = .ok (.getfield 9, 3) := all_d dX7_fillFrom_all0 17 rfl
theorem dX7_fillFrom_30 : decode cX7_fillFrom 30 = .ok (.arraylength, 1) := all_d dX7_fillFrom_all0 18 rfl
theorem dX7_fillFrom_31 : decode cX7_fillFrom 31 = .ok (.if_icmp .ge 20, 3) := all_d dX7_fillFrom_all0 19 rfl
theorem dX7_fillFrom_34 : decode cX7_fillFrom 34 = .ok (.aload_n 0, 1) := all_d dX7_fillFrom_all0 20 rfl
theorem dX7_fillFrom_35 : decode cX7_fillFrom 35 = .ok (.getfield 9, 3) := all_d dX7_fillFrom_all0 21 rfl
theorem dX7_fillFrom_38 : decode cX7_fillFrom 38 = .ok (.iload_n 3, 1) := all_d dX7_fillFrom_all0 22 rfl
theorem dX7_fillFrom_39 : decode cX7_fillFrom 39 = .ok (.aload_n 1, 1) := all_d dX7_fillFrom_all0 23 rfl
theorem dX7_fillFrom_40 : decode cX7_fillFrom 40 = .ok (.iload_n 3, 1) := all_d dX7_fillFrom_all0 24 rfl
theorem dX7_fillFrom_41 : decode cX7_fillFrom 41 = .ok (.invokevirtual 29, 3) := all_d dX7_fillFrom_all0 25 rfl
theorem dX7_fillFrom_44 : decode cX7_fillFrom 44 = .ok (.iastore, 1) := all_d dX7_fillFrom_all0 26 rfl
theorem dX7_fillFrom_45 : decode cX7_fillFrom 45 = .ok (.iinc 3 1, 3) := all_d dX7_fillFrom_all0 27 rfl
theorem dX7_fillFrom_48 : decode cX7_fillFrom 48 = .ok (.goto (-31), 3) := all_d dX7_fillFrom_all0 28 rfl
theorem dX7_fillFrom_51 : decode cX7_fillFrom 51 = .ok (.return_, 1) := all_d dX7_fillFrom_all0 29 rfl
set_option maxRecDepth 100000 in
theorem dX7_codeAt_all0 : ([(0, (.iload_n 1 : Instr), 1), (1, (.ifCond .lt 21 : Instr), 3), (4, (.iload_n 1 : Instr), 1), (5, (.aload_n 0 : Instr), 1), (6, (.getfield 9 : Instr), 3), (9, (.arraylength : Instr), 1), (10, (.if_icmp .ge 12 : Instr), 3), (13, (.aload_n 0 : Instr), 1), (14, (.getfield 9 : Instr), 3), (17, (.iload_n 1 : Instr), 1), (18, (.iaload : Instr), 1), (19, (.goto 4 : Instr), 3), (22, (.iconst 0 : Instr), 1), (23, (.ireturn : Instr), 1)] : List (Nat × Instr × Nat)).all (fun q => decide (decode cX7_codeAt q.1 = .ok (q.2.1, q.2.2))) = true := by decide +kernel
theorem dX7_codeAt_0 : decode cX7_codeAt 0 = .ok (.iload_n 1, 1) := all_d dX7_codeAt_all0 0 rfl
theorem dX7_codeAt_1 : decode cX7_codeAt 1 = .ok (.ifCond .lt 21, 3) := all_d dX7_codeAt_all0 1 rfl
theorem dX7_codeAt_4 : decode cX7_codeAt 4 = .ok (.iload_n 1, 1) := all_d dX7_codeAt_all0 2 rfl
theorem dX7_codeAt_5 : decode cX7_codeAt 5 = .ok (.aload_n 0, 1) := all_d dX7_codeAt_all0 3 rfl
theorem dX7_codeAt_6 : decode cX7_codeAt 6 = .ok (.getfield 9, 3) := all_d dX7_codeAt_all0 4 rfl
theorem dX7_codeAt_9 : decode cX7_codeAt 9 = .ok (.arraylength, 1) := all_d dX7_codeAt_all0 5 rfl
theorem dX7_codeAt_10 : decode cX7_codeAt 10 = .ok (.if_icmp .ge 12, 3) := all_d dX7_codeAt_all0 6 rfl
theorem dX7_codeAt_13 : decode cX7_codeAt 13 = .ok (.aload_n 0, 1) := all_d dX7_codeAt_all0 7 rfl
theorem dX7_codeAt_14 : decode cX7_codeAt 14 = .ok (.getfield 9, 3) := all_d dX7_codeAt_all0 8 rfl
theorem dX7_codeAt_17 : decode cX7_codeAt 17 = .ok (.iload_n 1, 1) := all_d dX7_codeAt_all0 9 rfl
theorem dX7_codeAt_18 : decode cX7_codeAt 18 = .ok (.iaload, 1) := all_d dX7_codeAt_all0 10 rfl
theorem dX7_codeAt_19 : decode cX7_codeAt 19 = .ok (.goto 4, 3) := all_d dX7_codeAt_all0 11 rfl
theorem dX7_codeAt_22 : decode cX7_codeAt 22 = .ok (.iconst 0, 1) := all_d dX7_codeAt_all0 12 rfl
theorem dX7_codeAt_23 : decode cX7_codeAt 23 = .ok (.ireturn, 1) := all_d dX7_codeAt_all0 13 rfl
set_option maxRecDepth 100000 in
theorem dX7_endsSpan_all0 : ([(0, (.iload_n 1 : Instr), 1), (1, (.aload_n 0 : Instr), 1), (2, (.getfield 19 : Instr), 3), (5, (.if_icmp .ge 18 : Instr), 3), (8, (.aload_n 0 : Instr), 1), (9, (.iload_n 1 : Instr), 1), (10, (.iconst 1 : Instr), 1), (11, (.iadd : Instr), 1), (12, (.invokevirtual 35 : Instr), 3), (15, (.aload_n 0 : Instr), 1), (16, (.iload_n 1 : Instr), 1), (17, (.invokevirtual 35 : Instr), 3), (20, (.if_icmp .eq 7 : Instr), 3), (23, (.iconst 1 : Instr), 1), (24, (.goto 4 : Instr), 3), (27, (.iconst 0 : Instr), 1), (28, (.ireturn : Instr), 1)] : List (Nat × Instr × Nat)).all (fun q => decide (decode cX7_endsSpan q.1 = .ok (q.2.1, q.2.2))) = true := by decide +kernel
theorem dX7_endsSpan_0 : decode cX7_endsSpan 0 = .ok (.iload_n 1, 1) := all_d dX7_endsSpan_all0 0 rfl
theorem dX7_endsSpan_1 : decode cX7_endsSpan 1 = .ok (.aload_n 0, 1) := all_d dX7_endsSpan_all0 1 rfl
theorem dX7_endsSpan_2 : decode cX7_endsSpan 2 = .ok (.getfield 19, 3) := all_d dX7_endsSpan_all0 2 rfl
theorem dX7_endsSpan_5 : decode cX7_endsSpan 5 = .ok (.if_icmp .ge 18, 3) := all_d dX7_endsSpan_all0 3 rfl
theorem dX7_endsSpan_8 : decode cX7_endsSpan 8 = .ok (.aload_n 0, 1) := all_d dX7_endsSpan_all0 4 rfl
theorem dX7_endsSpan_9 : decode cX7_endsSpan 9 = .ok (.iload_n 1, 1) := all_d dX7_endsSpan_all0 5 rfl
theorem dX7_endsSpan_10 : decode cX7_endsSpan 10 = .ok (.iconst 1, 1) := all_d dX7_endsSpan_all0 6 rfl
theorem dX7_endsSpan_11 : decode cX7_endsSpan 11 = .ok (.iadd, 1) := all_d dX7_endsSpan_all0 7 rfl
theorem dX7_endsSpan_12 : decode cX7_endsSpan 12 = .ok (.invokevirtual 35, 3) := all_d dX7_endsSpan_all0 8 rfl
theorem dX7_endsSpan_15 : decode cX7_endsSpan 15 = .ok (.aload_n 0, 1) := all_d dX7_endsSpan_all0 9 rfl
theorem dX7_endsSpan_16 : decode cX7_endsSpan 16 = .ok (.iload_n 1, 1) := all_d dX7_endsSpan_all0 10 rfl
theorem dX7_endsSpan_17 : decode cX7_endsSpan 17 = .ok (.invokevirtual 35, 3) := all_d dX7_endsSpan_all0 11 rfl
theorem dX7_endsSpan_20 : decode cX7_endsSpan 20 = .ok (.if_icmp .eq 7, 3) := all_d dX7_endsSpan_all0 12 rfl
theorem dX7_endsSpan_23 : decode cX7_endsSpan 23 = .ok (.iconst 1, 1) := all_d dX7_endsSpan_all0 13 rfl
theorem dX7_endsSpan_24 : decode cX7_endsSpan 24 = .ok (.goto 4, 3) := all_d dX7_endsSpan_all0 14 rfl
theorem dX7_endsSpan_27 : decode cX7_endsSpan 27 = .ok (.iconst 0, 1) := all_d dX7_endsSpan_all0 15 rfl
theorem dX7_endsSpan_28 : decode cX7_endsSpan 28 = .ok (.ireturn, 1) := all_d dX7_endsSpan_all0 16 rfl
set_option maxRecDepth 100000 in
theorem dX7_spanCount_all0 : ([(0, (.iconst 0 : Instr), 1), (1, (.istore_n 1 : Instr), 1), (2, (.iconst 0 : Instr), 1), (3, (.istore_n 2 : Instr), 1), (4, (.iload_n 2 : Instr), 1), (5, (.aload_n 0 : Instr), 1), (6, (.getfield 19 : Instr), 3), (9, (.if_icmp .gt 20 : Instr), 3), (12, (.aload_n 0 : Instr), 1), (13, (.iload_n 2 : Instr), 1), (14, (.invokevirtual 38 : Instr), 3), (17, (.ifCond .eq 6 : Instr), 3), (20, (.iinc 1 1 : Instr), 3), (23, (.iinc 2 1 : Instr), 3), (26, (.goto (-22) : Instr), 3), (29, (.iload_n 1 : Instr), 1), (30, (.ireturn : Instr), 1)] : List (Nat × Instr × Nat)).all (fun q => decide (decode cX7_spanCount q.1 = .ok (q.2.1, q.2.2))) = true := by decide +kernel
theorem dX7_spanCount_0 : decode cX7_spanCount 0 = .ok (.iconst 0, 1) := all_d dX7_spanCount_all0 0 rfl
theorem dX7_spanCount_1 : decode cX7_spanCount 1 = .ok (.istore_n 1, 1) := all_d dX7_spanCount_all0 1 rfl
theorem dX7_spanCount_2 : decode cX7_spanCount 2 = .ok (.iconst 0, 1) := all_d dX7_spanCount_all0 2 rfl
theorem dX7_spanCount_3 : decode cX7_spanCount 3 = .ok (.istore_n 2, 1) := all_d dX7_spanCount_all0 3 rfl
theorem dX7_spanCount_4 : decode cX7_spanCount 4 = .ok (.iload_n 2, 1) := all_d dX7_spanCount_all0 4 rfl
theorem dX7_spanCount_5 : decode cX7_spanCount 5 = .ok (.aload_n 0, 1) := all_d dX7_spanCount_all0 5 rfl
theorem dX7_spanCount_6 : decode cX7_spanCount 6 = .ok (.getfield 19, 3) := all_d dX7_spanCount_all0 6 rfl
theorem dX7_spanCount_9 : decode cX7_spanCount 9 = .ok (.if_icmp .gt 20, 3) := all_d dX7_spanCount_all0 7 rfl
theorem dX7_spanCount_12 : decode cX7_spanCount 12 = .ok (.aload_n 0, 1) := all_d dX7_spanCount_all0 8 rfl
theorem dX7_spanCount_13 : decode cX7_spanCount 13 = .ok (.iload_n 2, 1) := all_d dX7_spanCount_all0 9 rfl
theorem dX7_spanCount_14 : decode cX7_spanCount 14 = .ok (.invokevirtual 38, 3) := all_d dX7_spanCount_all0 10 rfl
theorem dX7_spanCount_17 : decode cX7_spanCount 17 = .ok (.ifCond .eq 6, 3) := all_d dX7_spanCount_all0 11 rfl
theorem dX7_spanCount_20 : decode cX7_spanCount 20 = .ok (.iinc 1 1, 3) := all_d dX7_spanCount_all0 12 rfl
theorem dX7_spanCount_23 : decode cX7_spanCount 23 = .ok (.iinc 2 1, 3) := all_d dX7_spanCount_all0 13 rfl
theorem dX7_spanCount_26 : decode cX7_spanCount 26 = .ok (.goto (-22), 3) := all_d dX7_spanCount_all0 14 rfl
theorem dX7_spanCount_29 : decode cX7_spanCount 29 = .ok (.iload_n 1, 1) := all_d dX7_spanCount_all0 15 rfl
theorem dX7_spanCount_30 : decode cX7_spanCount 30 = .ok (.ireturn, 1) := all_d dX7_spanCount_all0 16 rfl
set_option maxRecDepth 100000 in
theorem dX7_spanStart_all0 : ([(0, (.iconst 0 : Instr), 1), (1, (.istore_n 2 : Instr), 1), (2, (.iconst 0 : Instr), 1), (3, (.istore_n 3 : Instr), 1), (4, (.iload_n 3 : Instr), 1), (5, (.aload_n 0 : Instr), 1), (6, (.getfield 19 : Instr), 3), (9, (.if_icmp .gt 27 : Instr), 3), (12, (.iload_n 2 : Instr), 1), (13, (.iload_n 1 : Instr), 1), (14, (.if_icmp .ne 5 : Instr), 3), (17, (.iload_n 3 : Instr), 1), (18, (.ireturn : Instr), 1), (19, (.aload_n 0 : Instr), 1), (20, (.iload_n 3 : Instr), 1), (21, (.invokevirtual 38 : Instr), 3), (24, (.ifCond .eq 6 : Instr), 3), (27, (.iinc 2 1 : Instr), 3), (30, (.iinc 3 1 : Instr), 3), (33, (.goto (-29) : Instr), 3), (36, (.iconst (-1) : Instr), 1), (37, (.ireturn : Instr), 1)] : List (Nat × Instr × Nat)).all (fun q => decide (decode cX7_spanStart q.1 = .ok (q.2.1, q.2.2))) = true := by decide +kernel
theorem dX7_spanStart_0 : decode cX7_spanStart 0 = .ok (.iconst 0, 1) := all_d dX7_spanStart_all0 0 rfl
theorem dX7_spanStart_1 : decode cX7_spanStart 1 = .ok (.istore_n 2, 1) := all_d dX7_spanStart_all0 1 rfl
theorem dX7_spanStart_2 : decode cX7_spanStart 2 = .ok (.iconst 0, 1) := all_d dX7_spanStart_all0 2 rfl
theorem dX7_spanStart_3 : decode cX7_spanStart 3 = .ok (.istore_n 3, 1) := all_d dX7_spanStart_all0 3 rfl
theorem dX7_spanStart_4 : decode cX7_spanStart 4 = .ok (.iload_n 3, 1) := all_d dX7_spanStart_all0 4 rfl
theorem dX7_spanStart_5 : decode cX7_spanStart 5 = .ok (.aload_n 0, 1) := all_d dX7_spanStart_all0 5 rfl
theorem dX7_spanStart_6 : decode cX7_spanStart 6 = .ok (.getfield 19, 3) := all_d dX7_spanStart_all0 6 rfl
theorem dX7_spanStart_9 : decode cX7_spanStart 9 = .ok (.if_icmp .gt 27, 3) := all_d dX7_spanStart_all0 7 rfl
theorem dX7_spanStart_12 : decode cX7_spanStart 12 = .ok (.iload_n 2, 1) := all_d dX7_spanStart_all0 8 rfl
theorem dX7_spanStart_13 : decode cX7_spanStart 13 = .ok (.iload_n 1, 1) := all_d dX7_spanStart_all0 9 rfl
theorem dX7_spanStart_14 : decode cX7_spanStart 14 = .ok (.if_icmp .ne 5, 3) := all_d dX7_spanStart_all0 10 rfl
theorem dX7_spanStart_17 : decode cX7_spanStart 17 = .ok (.iload_n 3, 1) := all_d dX7_spanStart_all0 11 rfl
theorem dX7_spanStart_18 : decode cX7_spanStart 18 = .ok (.ireturn, 1) := all_d dX7_spanStart_all0 12 rfl
theorem dX7_spanStart_19 : decode cX7_spanStart 19 = .ok (.aload_n 0, 1) := all_d dX7_spanStart_all0 13 rfl
theorem dX7_spanStart_20 : decode cX7_spanStart 20 = .ok (.iload_n 3, 1) := all_d dX7_spanStart_all0 14 rfl
theorem dX7_spanStart_21 : decode cX7_spanStart 21 = .ok (.invokevirtual 38, 3) := all_d dX7_spanStart_all0 15 rfl
theorem dX7_spanStart_24 : decode cX7_spanStart 24 = .ok (.ifCond .eq 6, 3) := all_d dX7_spanStart_all0 16 rfl
theorem dX7_spanStart_27 : decode cX7_spanStart 27 = .ok (.iinc 2 1, 3) := all_d dX7_spanStart_all0 17 rfl
theorem dX7_spanStart_30 : decode cX7_spanStart 30 = .ok (.iinc 3 1, 3) := all_d dX7_spanStart_all0 18 rfl
theorem dX7_spanStart_33 : decode cX7_spanStart 33 = .ok (.goto (-29), 3) := all_d dX7_spanStart_all0 19 rfl
theorem dX7_spanStart_36 : decode cX7_spanStart 36 = .ok (.iconst (-1), 1) := all_d dX7_spanStart_all0 20 rfl
theorem dX7_spanStart_37 : decode cX7_spanStart 37 = .ok (.ireturn, 1) := all_d dX7_spanStart_all0 21 rfl
set_option maxRecDepth 100000 in
theorem dX7_spanEnd_all0 : ([(0, (.iload_n 1 : Instr), 1), (1, (.istore_n 2 : Instr), 1), (2, (.iload_n 2 : Instr), 1), (3, (.aload_n 0 : Instr), 1), (4, (.getfield 19 : Instr), 3), (7, (.if_icmp .gt 19 : Instr), 3), (10, (.aload_n 0 : Instr), 1), (11, (.iload_n 2 : Instr), 1), (12, (.invokevirtual 38 : Instr), 3), (15, (.ifCond .eq 5 : Instr), 3), (18, (.iload_n 2 : Instr), 1), (19, (.ireturn : Instr), 1), (20, (.iinc 2 1 : Instr), 3), (23, (.goto (-21) : Instr), 3), (26, (.aload_n 0 : Instr), 1), (27, (.getfield 19 : Instr), 3), (30, (.ireturn : Instr), 1)] : List (Nat × Instr × Nat)).all (fun q => decide (decode cX7_spanEnd q.1 = .ok (q.2.1, q.2.2))) = true := by decide +kernel
theorem dX7_spanEnd_0 : decode cX7_spanEnd 0 = .ok (.iload_n 1, 1) := all_d dX7_spanEnd_all0 0 rfl
theorem dX7_spanEnd_1 : decode cX7_spanEnd 1 = .ok (.istore_n 2, 1) := all_d dX7_spanEnd_all0 1 rfl
theorem dX7_spanEnd_2 : decode cX7_spanEnd 2 = .ok (.iload_n 2, 1) := all_d dX7_spanEnd_all0 2 rfl
theorem dX7_spanEnd_3 : decode cX7_spanEnd 3 = .ok (.aload_n 0, 1) := all_d dX7_spanEnd_all0 3 rfl
theorem dX7_spanEnd_4 : decode cX7_spanEnd 4 = .ok (.getfield 19, 3) := all_d dX7_spanEnd_all0 4 rfl
theorem dX7_spanEnd_7 : decode cX7_spanEnd 7 = .ok (.if_icmp .gt 19, 3) := all_d dX7_spanEnd_all0 5 rfl
theorem dX7_spanEnd_10 : decode cX7_spanEnd 10 = .ok (.aload_n 0, 1) := all_d dX7_spanEnd_all0 6 rfl
theorem dX7_spanEnd_11 : decode cX7_spanEnd 11 = .ok (.iload_n 2, 1) := all_d dX7_spanEnd_all0 7 rfl
theorem dX7_spanEnd_12 : decode cX7_spanEnd 12 = .ok (.invokevirtual 38, 3) := all_d dX7_spanEnd_all0 8 rfl
theorem dX7_spanEnd_15 : decode cX7_spanEnd 15 = .ok (.ifCond .eq 5, 3) := all_d dX7_spanEnd_all0 9 rfl
theorem dX7_spanEnd_18 : decode cX7_spanEnd 18 = .ok (.iload_n 2, 1) := all_d dX7_spanEnd_all0 10 rfl
theorem dX7_spanEnd_19 : decode cX7_spanEnd 19 = .ok (.ireturn, 1) := all_d dX7_spanEnd_all0 11 rfl
theorem dX7_spanEnd_20 : decode cX7_spanEnd 20 = .ok (.iinc 2 1, 3) := all_d dX7_spanEnd_all0 12 rfl
theorem dX7_spanEnd_23 : decode cX7_spanEnd 23 = .ok (.goto (-21), 3) := all_d dX7_spanEnd_all0 13 rfl
theorem dX7_spanEnd_26 : decode cX7_spanEnd 26 = .ok (.aload_n 0, 1) := all_d dX7_spanEnd_all0 14 rfl
theorem dX7_spanEnd_27 : decode cX7_spanEnd 27 = .ok (.getfield 19, 3) := all_d dX7_spanEnd_all0 15 rfl
theorem dX7_spanEnd_30 : decode cX7_spanEnd 30 = .ok (.ireturn, 1) := all_d dX7_spanEnd_all0 16 rfl
set_option maxRecDepth 100000 in
theorem dX7_widestSpan_all0 : ([(0, (.iconst 0 : Instr), 1), (1, (.istore_n 1 : Instr), 1), (2, (.iconst 0 : Instr), 1), (3, (.istore_n 2 : Instr), 1), (4, (.iconst 0 : Instr), 1), (5, (.istore_n 3 : Instr), 1), (6, (.iconst 0 : Instr), 1), (7, (.istore 4 : Instr), 2), (9, (.iconst 0 : Instr), 1), (10, (.istore 5 : Instr), 2), (12, (.iload 5 : Instr), 2), (14, (.aload_n 0 : Instr), 1), (15, (.getfield 19 : Instr), 3), (18, (.if_icmp .gt 38 : Instr), 3), (21, (.iinc 4 1 : Instr), 3), (24, (.aload_n 0 : Instr), 1), (25, (.iload 5 : Instr), 2), (27, (.invokevirtual 38 : Instr), 3), (30, (.ifCond .eq 20 : Instr), 3), (33, (.iload 4 : Instr), 2), (35, (.iload_n 1 : Instr), 1), (36, (.if_icmp .le 8 : Instr), 3), (39, (.iload 4 : Instr), 2), (41, (.istore_n 1 : Instr), 1), (42, (.iload_n 3 : Instr), 1), (43, (.istore_n 2 : Instr), 1), (44, (.iinc 3 1 : Instr), 3), (47, (.iconst 0 : Instr), 1), (48, (.istore 4 : Instr), 2), (50, (.iinc 5 1 : Instr), 3), (53, (.goto (-41) : Instr), 3), (56, (.sipush 10000 : Instr), 3), (59, (.iload_n 1 : Instr), 1), (60, (.imul : Instr), 1), (61, (.iload_n 2 : Instr), 1), (62, (.iadd : Instr), 1), (63, (.ireturn : Instr), 1)] : List (Nat × Instr × Nat)).all (fun q => decide (decode cX7_widestSpan q.1 = .ok (q.2.1, q.2.2))) = true := by decide +kernel
theorem dX7_widestSpan_0 : decode cX7_widestSpan 0 = .ok (.iconst 0, 1) := all_d dX7_widestSpan_all0 0 rfl
theorem dX7_widestSpan_1 : decode cX7_widestSpan 1 = .ok (.istore_n 1, 1) := all_d dX7_widestSpan_all0 1 rfl
theorem dX7_widestSpan_2 : decode cX7_widestSpan 2 = .ok (.iconst 0, 1) := all_d dX7_widestSpan_all0 2 rfl
theorem dX7_widestSpan_3 : decode cX7_widestSpan 3 = .ok (.istore_n 2, 1) := all_d dX7_widestSpan_all0 3 rfl
theorem dX7_widestSpan_4 : decode cX7_widestSpan 4 = .ok (.iconst 0, 1) := all_d dX7_widestSpan_all0 4 rfl
theorem dX7_widestSpan_5 : decode cX7_widestSpan 5 = .ok (.istore_n 3, 1) := all_d dX7_widestSpan_all0 5 rfl
theorem dX7_widestSpan_6 : decode cX7_widestSpan 6 = .ok (.iconst 0, 1) := all_d dX7_widestSpan_all0 6 rfl
theorem dX7_widestSpan_7 : decode cX7_widestSpan 7 = .ok (.istore 4, 2) := all_d dX7_widestSpan_all0 7 rfl
theorem dX7_widestSpan_9 : decode cX7_widestSpan 9 = .ok (.iconst 0, 1) := all_d dX7_widestSpan_all0 8 rfl
theorem dX7_widestSpan_10 : decode cX7_widestSpan 10 = .ok (.istore 5, 2) := all_d dX7_widestSpan_all0 9 rfl
theorem dX7_widestSpan_12 : decode cX7_widestSpan 12 = .ok (.iload 5, 2) := all_d dX7_widestSpan_all0 10 rfl
theorem dX7_widestSpan_14 : decode cX7_widestSpan 14 = .ok (.aload_n 0, 1) := all_d dX7_widestSpan_all0 11 rfl
theorem dX7_widestSpan_15 : decode cX7_widestSpan 15 = .ok (.getfield 19, 3) := all_d dX7_widestSpan_all0 12 rfl
theorem dX7_widestSpan_18 : decode cX7_widestSpan 18 = .ok (.if_icmp .gt 38, 3) := all_d dX7_widestSpan_all0 13 rfl
theorem dX7_widestSpan_21 : decode cX7_widestSpan 21 = .ok (.iinc 4 1, 3) := all_d dX7_widestSpan_all0 14 rfl
theorem dX7_widestSpan_24 : decode cX7_widestSpan 24 = .ok (.aload_n 0, 1) := all_d dX7_widestSpan_all0 15 rfl
theorem dX7_widestSpan_25 : decode cX7_widestSpan 25 = .ok (.iload 5, 2) := all_d dX7_widestSpan_all0 16 rfl
theorem dX7_widestSpan_27 : decode cX7_widestSpan 27 = .ok (.invokevirtual 38, 3) := all_d dX7_widestSpan_all0 17 rfl
theorem dX7_widestSpan_30 : decode cX7_widestSpan 30 = .ok (.ifCond .eq 20, 3) := all_d dX7_widestSpan_all0 18 rfl
theorem dX7_widestSpan_33 : decode cX7_widestSpan 33 = .ok (.iload 4, 2) := all_d dX7_widestSpan_all0 19 rfl
theorem dX7_widestSpan_35 : decode cX7_widestSpan 35 = .ok (.iload_n 1, 1) := all_d dX7_widestSpan_all0 20 rfl
theorem dX7_widestSpan_36 : decode cX7_widestSpan 36 = .ok (.if_icmp .le 8, 3) := all_d dX7_widestSpan_all0 21 rfl
theorem dX7_widestSpan_39 : decode cX7_widestSpan 39 = .ok (.iload 4, 2) := all_d dX7_widestSpan_all0 22 rfl
theorem dX7_widestSpan_41 : decode cX7_widestSpan 41 = .ok (.istore_n 1, 1) := all_d dX7_widestSpan_all0 23 rfl
theorem dX7_widestSpan_42 : decode cX7_widestSpan 42 = .ok (.iload_n 3, 1) := all_d dX7_widestSpan_all0 24 rfl
theorem dX7_widestSpan_43 : decode cX7_widestSpan 43 = .ok (.istore_n 2, 1) := all_d dX7_widestSpan_all0 25 rfl
theorem dX7_widestSpan_44 : decode cX7_widestSpan 44 = .ok (.iinc 3 1, 3) := all_d dX7_widestSpan_all0 26 rfl
theorem dX7_widestSpan_47 : decode cX7_widestSpan 47 = .ok (.iconst 0, 1) := all_d dX7_widestSpan_all0 27 rfl
theorem dX7_widestSpan_48 : decode cX7_widestSpan 48 = .ok (.istore 4, 2) := all_d dX7_widestSpan_all0 28 rfl
theorem dX7_widestSpan_50 : decode cX7_widestSpan 50 = .ok (.iinc 5 1, 3) := all_d dX7_widestSpan_all0 29 rfl
theorem dX7_widestSpan_53 : decode cX7_widestSpan 53 = .ok (.goto (-41), 3) := all_d dX7_widestSpan_all0 30 rfl
theorem dX7_widestSpan_56 : decode cX7_widestSpan 56 = .ok (.sipush 10000, 3) := all_d dX7_widestSpan_all0 31 rfl
theorem dX7_widestSpan_59 : decode cX7_widestSpan 59 = .ok (.iload_n 1, 1) := all_d dX7_widestSpan_all0 32 rfl
theorem dX7_widestSpan_60 : decode cX7_widestSpan 60 = .ok (.imul, 1) := all_d dX7_widestSpan_all0 33 rfl
theorem dX7_widestSpan_61 : decode cX7_widestSpan 61 = .ok (.iload_n 2, 1) := all_d dX7_widestSpan_all0 34 rfl
theorem dX7_widestSpan_62 : decode cX7_widestSpan 62 = .ok (.iadd, 1) := all_d dX7_widestSpan_all0 35 rfl
theorem dX7_widestSpan_63 : decode cX7_widestSpan 63 = .ok (.ireturn, 1) := all_d dX7_widestSpan_all0 36 rfl
set_option maxRecDepth 100000 in
theorem dX7_unlikeFrom_all0 : ([(0, (.aload_n 0 : Instr), 1), (1, (.getfield 15 : Instr), 3), (4, (.lconst 0 : Instr), 1), (5, (.invokestatic 42 : Instr), 3), (8, (.iconst 0 : Instr), 1), (9, (.istore_n 2 : Instr), 1), (10, (.iconst 0 : Instr), 1), (11, (.istore_n 3 : Instr), 1), (12, (.iload_n 3 : Instr), 1), (13, (.aload_n 0 : Instr), 1), (14, (.getfield 19 : Instr), 3), (17, (.if_icmp .gt 33 : Instr), 3), (20, (.aload_n 0 : Instr), 1), (21, (.iload_n 3 : Instr), 1), (22, (.invokevirtual 35 : Instr), 3), (25, (.iload_n 1 : Instr), 1), (26, (.if_icmp .lt 18 : Instr), 3), (29, (.aload_n 0 : Instr), 1), (30, (.aload_n 0 : Instr), 1), (31, (.iload_n 3 : Instr), 1), (32, (.invokevirtual 35 : Instr), 3), (35, (.invokevirtual 48 : Instr), 3), (38, (.ifCond .eq 6 : Instr), 3), (41, (.iinc 2 1 : Instr), 3), (44, (.iinc 3 1 : Instr), 3), (47, (.goto (-35) : Instr), 3), (50, (.iload_n 2 : Instr), 1), (51, (.ireturn : Instr), 1)] : List (Nat × Instr × Nat)).all (fun q => decide (decode cX7_unlikeFrom q.1 = .ok (q.2.1, q.2.2))) = true := by decide +kernel
theorem dX7_unlikeFrom_0 : decode cX7_unlikeFrom 0 = .ok (.aload_n 0, 1) := all_d dX7_unlikeFrom_all0 0 rfl
theorem dX7_unlikeFrom_1 : decode cX7_unlikeFrom 1 = .ok (.getfield 15, 3) := all_d dX7_unlikeFrom_all0 1 rfl
theorem dX7_unlikeFrom_4 : decode cX7_unlikeFrom 4 = .ok (.lconst 0, 1) := all_d dX7_unlikeFrom_all0 2 rfl
theorem dX7_unlikeFrom_5 : decode cX7_unlikeFrom 5 = .ok (.invokestatic 42, 3) := all_d dX7_unlikeFrom_all0 3 rfl
theorem dX7_unlikeFrom_8 : decode cX7_unlikeFrom 8 = .ok (.iconst 0, 1) := all_d dX7_unlikeFrom_all0 4 rfl
theorem dX7_unlikeFrom_9 : decode cX7_unlikeFrom 9 = .ok (.istore_n 2, 1) := all_d dX7_unlikeFrom_all0 5 rfl
theorem dX7_unlikeFrom_10 : decode cX7_unlikeFrom 10 = .ok (.iconst 0, 1) := all_d dX7_unlikeFrom_all0 6 rfl
theorem dX7_unlikeFrom_11 : decode cX7_unlikeFrom 11 = .ok (.istore_n 3, 1) := all_d dX7_unlikeFrom_all0 7 rfl
theorem dX7_unlikeFrom_12 : decode cX7_unlikeFrom 12 = .ok (.iload_n 3, 1) := all_d dX7_unlikeFrom_all0 8 rfl
theorem dX7_unlikeFrom_13 : decode cX7_unlikeFrom 13 = .ok (.aload_n 0, 1) := all_d dX7_unlikeFrom_all0 9 rfl
theorem dX7_unlikeFrom_14 : decode cX7_unlikeFrom 14 = .ok (.getfield 19, 3) := all_d dX7_unlikeFrom_all0 10 rfl
theorem dX7_unlikeFrom_17 : decode cX7_unlikeFrom 17 = .ok (.if_icmp .gt 33, 3) := all_d dX7_unlikeFrom_all0 11 rfl
theorem dX7_unlikeFrom_20 : decode cX7_unlikeFrom 20 = .ok (.aload_n 0, 1) := all_d dX7_unlikeFrom_all0 12 rfl
theorem dX7_unlikeFrom_21 : decode cX7_unlikeFrom 21 = .ok (.iload_n 3, 1) := all_d dX7_unlikeFrom_all0 13 rfl
theorem dX7_unlikeFrom_22 : decode cX7_unlikeFrom 22 = .ok (.invokevirtual 35, 3) := all_d dX7_unlikeFrom_all0 14 rfl
theorem dX7_unlikeFrom_25 : decode cX7_unlikeFrom 25 = .ok (.iload_n 1, 1) := all_d dX7_unlikeFrom_all0 15 rfl
theorem dX7_unlikeFrom_26 : decode cX7_unlikeFrom 26 = .ok (.if_icmp .lt 18, 3) := all_d dX7_unlikeFrom_all0 16 rfl
theorem dX7_unlikeFrom_29 : decode cX7_unlikeFrom 29 = .ok (.aload_n 0, 1) := all_d dX7_unlikeFrom_all0 17 rfl
theorem dX7_unlikeFrom_30 : decode cX7_unlikeFrom 30 = .ok (.aload_n 0, 1) := all_d dX7_unlikeFrom_all0 18 rfl
theorem dX7_unlikeFrom_31 : decode cX7_unlikeFrom 31 = .ok (.iload_n 3, 1) := all_d dX7_unlikeFrom_all0 19 rfl
theorem dX7_unlikeFrom_32 : decode cX7_unlikeFrom 32 = .ok (.invokevirtual 35, 3) := all_d dX7_unlikeFrom_all0 20 rfl
theorem dX7_unlikeFrom_35 : decode cX7_unlikeFrom 35 = .ok (.invokevirtual 48, 3) := all_d dX7_unlikeFrom_all0 21 rfl
theorem dX7_unlikeFrom_38 : decode cX7_unlikeFrom 38 = .ok (.ifCond .eq 6, 3) := all_d dX7_unlikeFrom_all0 22 rfl
theorem dX7_unlikeFrom_41 : decode cX7_unlikeFrom 41 = .ok (.iinc 2 1, 3) := all_d dX7_unlikeFrom_all0 23 rfl
theorem dX7_unlikeFrom_44 : decode cX7_unlikeFrom 44 = .ok (.iinc 3 1, 3) := all_d dX7_unlikeFrom_all0 24 rfl
theorem dX7_unlikeFrom_47 : decode cX7_unlikeFrom 47 = .ok (.goto (-35), 3) := all_d dX7_unlikeFrom_all0 25 rfl
theorem dX7_unlikeFrom_50 : decode cX7_unlikeFrom 50 = .ok (.iload_n 2, 1) := all_d dX7_unlikeFrom_all0 26 rfl
theorem dX7_unlikeFrom_51 : decode cX7_unlikeFrom 51 = .ok (.ireturn, 1) := all_d dX7_unlikeFrom_all0 27 rfl
set_option maxRecDepth 100000 in
theorem dX7_isFirstMet_all0 : ([(0, (.iload_n 1 : Instr), 1), (1, (.ldc 51 : Instr), 2), (3, (.iadd : Instr), 1), (4, (.istore_n 2 : Instr), 1), (5, (.iload_n 2 : Instr), 1), (6, (.bipush 6 : Instr), 2), (8, (.ishr : Instr), 1), (9, (.istore_n 3 : Instr), 1), (10, (.iload_n 3 : Instr), 1), (11, (.ifCond .lt 12 : Instr), 3), (14, (.iload_n 3 : Instr), 1), (15, (.aload_n 0 : Instr), 1), (16, (.getfield 15 : Instr), 3), (19, (.arraylength : Instr), 1), (20, (.if_icmp .lt 5 : Instr), 3), (23, (.iconst 0 : Instr), 1), (24, (.ireturn : Instr), 1), (25, (.lconst 1 : Instr), 1), (26, (.iload_n 2 : Instr), 1), (27, (.bipush 63 : Instr), 2), (29, (.iand : Instr), 1), (30, (.lshl : Instr), 1), (31, (.lstore 4 : Instr), 2), (33, (.aload_n 0 : Instr), 1), (34, (.getfield 15 : Instr), 3), (37, (.iload_n 3 : Instr), 1), (38, (.laload : Instr), 1), (39, (.lload 4 : Instr), 2), (41, (.land : Instr), 1), (42, (.lconst 0 : Instr), 1), (43, (.lcmp : Instr), 1), (44, (.ifCond .ne 7 : Instr), 3), (47, (.iconst 1 : Instr), 1), (48, (.goto 4 : Instr), 3), (51, (.iconst 0 : Instr), 1), (52, (.istore 6 : Instr), 2), (54, (.aload_n 0 : Instr), 1), (55, (.getfield 15 : Instr), 3), (58, (.iload_n 3 : Instr), 1), (59, (.dup2 : Instr), 1), (60, (.laload : Instr), 1), (61, (.lload 4 : Instr), 2), (63, (.lor : Instr), 1), (64, (.lastore : Instr), 1), (65, (.iload 6 : Instr), 2), (67, (.ireturn : Instr), 1)] : List (Nat × Instr × Nat)).all (fun q => decide (decode cX7_isFirstMet q.1 = .ok (q.2.1, q.2.2))) = true := by decide +kernel
theorem dX7_isFirstMet_0 : decode cX7_isFirstMet 0 = .ok (.iload_n 1, 1) := all_d dX7_isFirstMet_all0 0 rfl
theorem dX7_isFirstMet_1 : decode cX7_isFirstMet 1 = .ok (.ldc 51, 2) := all_d dX7_isFirstMet_all0 1 rfl
theorem dX7_isFirstMet_3 : decode cX7_isFirstMet 3 = .ok (.iadd, 1) := all_d dX7_isFirstMet_all0 2 rfl
theorem dX7_isFirstMet_4 : decode cX7_isFirstMet 4 = .ok (.istore_n 2, 1) := all_d dX7_isFirstMet_all0 3 rfl
theorem dX7_isFirstMet_5 : decode cX7_isFirstMet 5 = .ok (.iload_n 2, 1) := all_d dX7_isFirstMet_all0 4 rfl
theorem dX7_isFirstMet_6 : decode cX7_isFirstMet 6 = .ok (.bipush 6, 2) := all_d dX7_isFirstMet_all0 5 rfl
theorem dX7_isFirstMet_8 : decode cX7_isFirstMet 8 = .ok (.ishr, 1) := all_d dX7_isFirstMet_all0 6 rfl
theorem dX7_isFirstMet_9 : decode cX7_isFirstMet 9 = .ok (.istore_n 3, 1) := all_d dX7_isFirstMet_all0 7 rfl
theorem dX7_isFirstMet_10 : decode cX7_isFirstMet 10 = .ok (.iload_n 3, 1) := all_d dX7_isFirstMet_all0 8 rfl
theorem dX7_isFirstMet_11 : decode cX7_isFirstMet 11 = .ok (.ifCond .lt 12, 3) := all_d dX7_isFirstMet_all0 9 rfl
theorem dX7_isFirstMet_14 : decode cX7_isFirstMet 14 = .ok (.iload_n 3, 1) := all_d dX7_isFirstMet_all0 10 rfl
theorem dX7_isFirstMet_15 : decode cX7_isFirstMet 15 = .ok (.aload_n 0, 1) := all_d dX7_isFirstMet_all0 11 rfl
theorem dX7_isFirstMet_16 : decode cX7_isFirstMet 16 = .ok (.getfield 15, 3) := all_d dX7_isFirstMet_all0 12 rfl
theorem dX7_isFirstMet_19 : decode cX7_isFirstMet 19 = .ok (.arraylength, 1) := all_d dX7_isFirstMet_all0 13 rfl
theorem dX7_isFirstMet_20 : decode cX7_isFirstMet 20 = .ok (.if_icmp .lt 5, 3) := all_d dX7_isFirstMet_all0 14 rfl
theorem dX7_isFirstMet_23 : decode cX7_isFirstMet 23 = .ok (.iconst 0, 1) := all_d dX7_isFirstMet_all0 15 rfl
theorem dX7_isFirstMet_24 : decode cX7_isFirstMet 24 = .ok (.ireturn, 1) := all_d dX7_isFirstMet_all0 16 rfl
theorem dX7_isFirstMet_25 : decode cX7_isFirstMet 25 = .ok (.lconst 1, 1) := all_d dX7_isFirstMet_all0 17 rfl
theorem dX7_isFirstMet_26 : decode cX7_isFirstMet 26 = .ok (.iload_n 2, 1) := all_d dX7_isFirstMet_all0 18 rfl
theorem dX7_isFirstMet_27 : decode cX7_isFirstMet 27 = .ok (.bipush 63, 2) := all_d dX7_isFirstMet_all0 19 rfl
theorem dX7_isFirstMet_29 : decode cX7_isFirstMet 29 = .ok (.iand, 1) := all_d dX7_isFirstMet_all0 20 rfl
theorem dX7_isFirstMet_30 : decode cX7_isFirstMet 30 = .ok (.lshl, 1) := all_d dX7_isFirstMet_all0 21 rfl
theorem dX7_isFirstMet_31 : decode cX7_isFirstMet 31 = .ok (.lstore 4, 2) := all_d dX7_isFirstMet_all0 22 rfl
theorem dX7_isFirstMet_33 : decode cX7_isFirstMet 33 = .ok (.aload_n 0, 1) := all_d dX7_isFirstMet_all0 23 rfl
theorem dX7_isFirstMet_34 : decode cX7_isFirstMet 34 = .ok (.getfield 15, 3) := all_d dX7_isFirstMet_all0 24 rfl
theorem dX7_isFirstMet_37 : decode cX7_isFirstMet 37 = .ok (.iload_n 3, 1) := all_d dX7_isFirstMet_all0 25 rfl
theorem dX7_isFirstMet_38 : decode cX7_isFirstMet 38 = .ok (.laload, 1) := all_d dX7_isFirstMet_all0 26 rfl
theorem dX7_isFirstMet_39 : decode cX7_isFirstMet 39 = .ok (.lload 4, 2) := all_d dX7_isFirstMet_all0 27 rfl
theorem dX7_isFirstMet_41 : decode cX7_isFirstMet 41 = .ok (.land, 1) := all_d dX7_isFirstMet_all0 28 rfl
theorem dX7_isFirstMet_42 : decode cX7_isFirstMet 42 = .ok (.lconst 0, 1) := all_d dX7_isFirstMet_all0 29 rfl
theorem dX7_isFirstMet_43 : decode cX7_isFirstMet 43 = .ok (.lcmp, 1) := all_d dX7_isFirstMet_all0 30 rfl
theorem dX7_isFirstMet_44 : decode cX7_isFirstMet 44 = .ok (.ifCond .ne 7, 3) := all_d dX7_isFirstMet_all0 31 rfl
theorem dX7_isFirstMet_47 : decode cX7_isFirstMet 47 = .ok (.iconst 1, 1) := all_d dX7_isFirstMet_all0 32 rfl
theorem dX7_isFirstMet_48 : decode cX7_isFirstMet 48 = .ok (.goto 4, 3) := all_d dX7_isFirstMet_all0 33 rfl
theorem dX7_isFirstMet_51 : decode cX7_isFirstMet 51 = .ok (.iconst 0, 1) := all_d dX7_isFirstMet_all0 34 rfl
theorem dX7_isFirstMet_52 : decode cX7_isFirstMet 52 = .ok (.istore 6, 2) := all_d dX7_isFirstMet_all0 35 rfl
theorem dX7_isFirstMet_54 : decode cX7_isFirstMet 54 = .ok (.aload_n 0, 1) := all_d dX7_isFirstMet_all0 36 rfl
theorem dX7_isFirstMet_55 : decode cX7_isFirstMet 55 = .ok (.getfield 15, 3) := all_d dX7_isFirstMet_all0 37 rfl
theorem dX7_isFirstMet_58 : decode cX7_isFirstMet 58 = .ok (.iload_n 3, 1) := all_d dX7_isFirstMet_all0 38 rfl
theorem dX7_isFirstMet_59 : decode cX7_isFirstMet 59 = .ok (.dup2, 1) := all_d dX7_isFirstMet_all0 39 rfl
theorem dX7_isFirstMet_60 : decode cX7_isFirstMet 60 = .ok (.laload, 1) := all_d dX7_isFirstMet_all0 40 rfl
theorem dX7_isFirstMet_61 : decode cX7_isFirstMet 61 = .ok (.lload 4, 2) := all_d dX7_isFirstMet_all0 41 rfl
theorem dX7_isFirstMet_63 : decode cX7_isFirstMet 63 = .ok (.lor, 1) := all_d dX7_isFirstMet_all0 42 rfl
theorem dX7_isFirstMet_64 : decode cX7_isFirstMet 64 = .ok (.lastore, 1) := all_d dX7_isFirstMet_all0 43 rfl
theorem dX7_isFirstMet_65 : decode cX7_isFirstMet 65 = .ok (.iload 6, 2) := all_d dX7_isFirstMet_all0 44 rfl
theorem dX7_isFirstMet_67 : decode cX7_isFirstMet 67 = .ok (.ireturn, 1) := all_d dX7_isFirstMet_all0 45 rfl
set_option maxRecDepth 100000 in
theorem dX7_greatestCode_all0 : ([(0, (.aload_n 0 : Instr), 1), (1, (.iconst 0 : Instr), 1), (2, (.invokevirtual 35 : Instr), 3), (5, (.istore_n 1 : Instr), 1), (6, (.iconst 1 : Instr), 1), (7, (.istore_n 2 : Instr), 1), (8, (.iload_n 2 : Instr), 1), (9, (.aload_n 0 : Instr), 1), (10, (.getfield 19 : Instr), 3), (13, (.if_icmp .gt 19 : Instr), 3), (16, (.iload_n 1 : Instr), 1), (17, (.aload_n 0 : Instr), 1), (18, (.iload_n 2 : Instr), 1), (19, (.invokevirtual 35 : Instr), 3), (22, (.invokestatic 52 : Instr), 3), (25, (.istore_n 1 : Instr), 1), (26, (.iinc 2 1 : Instr), 3), (29, (.goto (-21) : Instr), 3), (32, (.iload_n 1 : Instr), 1), (33, (.ireturn : Instr), 1)] : List (Nat × Instr × Nat)).all (fun q => decide (decode cX7_greatestCode q.1 = .ok (q.2.1, q.2.2))) = true := by decide +kernel
theorem dX7_greatestCode_0 : decode cX7_greatestCode 0 = .ok (.aload_n 0, 1) := all_d dX7_greatestCode_all0 0 rfl
theorem dX7_greatestCode_1 : decode cX7_greatestCode 1 = .ok (.iconst 0, 1) := all_d dX7_greatestCode_all0 1 rfl
theorem dX7_greatestCode_2 : decode cX7_greatestCode 2 = .ok (.invokevirtual 35, 3) := all_d dX7_greatestCode_all0 2 rfl
theorem dX7_greatestCode_5 : decode cX7_greatestCode 5 = .ok (.istore_n 1, 1) := all_d dX7_greatestCode_all0 3 rfl
theorem dX7_greatestCode_6 : decode cX7_greatestCode 6 = .ok (.iconst 1, 1) := all_d dX7_greatestCode_all0 4 rfl
theorem dX7_greatestCode_7 : decode cX7_greatestCode 7 = .ok (.istore_n 2, 1) := all_d dX7_greatestCode_all0 5 rfl
theorem dX7_greatestCode_8 : decode cX7_greatestCode 8 = .ok (.iload_n 2, 1) := all_d dX7_greatestCode_all0 6 rfl
theorem dX7_greatestCode_9 : decode cX7_greatestCode 9 = .ok (.aload_n 0, 1) := all_d dX7_greatestCode_all0 7 rfl
theorem dX7_greatestCode_10 : decode cX7_greatestCode 10 = .ok (.getfield 19, 3) := all_d dX7_greatestCode_all0 8 rfl
theorem dX7_greatestCode_13 : decode cX7_greatestCode 13 = .ok (.if_icmp .gt 19, 3) := all_d dX7_greatestCode_all0 9 rfl
theorem dX7_greatestCode_16 : decode cX7_greatestCode 16 = .ok (.iload_n 1, 1) := all_d dX7_greatestCode_all0 10 rfl
theorem dX7_greatestCode_17 : decode cX7_greatestCode 17 = .ok (.aload_n 0, 1) := all_d dX7_greatestCode_all0 11 rfl
theorem dX7_greatestCode_18 : decode cX7_greatestCode 18 = .ok (.iload_n 2, 1) := all_d dX7_greatestCode_all0 12 rfl
theorem dX7_greatestCode_19 : decode cX7_greatestCode 19 = .ok (.invokevirtual 35, 3) := all_d dX7_greatestCode_all0 13 rfl
theorem dX7_greatestCode_22 : decode cX7_greatestCode 22 = .ok (.invokestatic 52, 3) := all_d dX7_greatestCode_all0 14 rfl
theorem dX7_greatestCode_25 : decode cX7_greatestCode 25 = .ok (.istore_n 1, 1) := all_d dX7_greatestCode_all0 15 rfl
theorem dX7_greatestCode_26 : decode cX7_greatestCode 26 = .ok (.iinc 2 1, 3) := all_d dX7_greatestCode_all0 16 rfl
theorem dX7_greatestCode_29 : decode cX7_greatestCode 29 = .ok (.goto (-21), 3) := all_d dX7_greatestCode_all0 17 rfl
theorem dX7_greatestCode_32 : decode cX7_greatestCode 32 = .ok (.iload_n 1, 1) := all_d dX7_greatestCode_all0 18 rfl
theorem dX7_greatestCode_33 : decode cX7_greatestCode 33 = .ok (.ireturn, 1) := all_d dX7_greatestCode_all0 19 rfl
set_option maxRecDepth 100000 in
theorem dX7_firstBack_all0 : ([(0, (.iconst 1 : Instr), 1), (1, (.istore_n 1 : Instr), 1), (2, (.iload_n 1 : Instr), 1), (3, (.aload_n 0 : Instr), 1), (4, (.getfield 19 : Instr), 3), (7, (.if_icmp .gt 26 : Instr), 3), (10, (.aload_n 0 : Instr), 1), (11, (.iload_n 1 : Instr), 1), (12, (.invokevirtual 35 : Instr), 3), (15, (.aload_n 0 : Instr), 1), (16, (.iload_n 1 : Instr), 1), (17, (.iconst 1 : Instr), 1), (18, (.isub : Instr), 1), (19, (.invokevirtual 35 : Instr), 3), (22, (.if_icmp .ge 5 : Instr), 3), (25, (.iload_n 1 : Instr), 1), (26, (.ireturn : Instr), 1), (27, (.iinc 1 1 : Instr), 3), (30, (.goto (-28) : Instr), 3), (33, (.bipush (-2) : Instr), 2), (35, (.ireturn : Instr), 1)] : List (Nat × Instr × Nat)).all (fun q => decide (decode cX7_firstBack q.1 = .ok (q.2.1, q.2.2))) = true := by decide +kernel
theorem dX7_firstBack_0 : decode cX7_firstBack 0 = .ok (.iconst 1, 1) := all_d dX7_firstBack_all0 0 rfl
theorem dX7_firstBack_1 : decode cX7_firstBack 1 = .ok (.istore_n 1, 1) := all_d dX7_firstBack_all0 1 rfl
theorem dX7_firstBack_2 : decode cX7_firstBack 2 = .ok (.iload_n 1, 1) := all_d dX7_firstBack_all0 2 rfl
theorem dX7_firstBack_3 : decode cX7_firstBack 3 = .ok (.aload_n 0, 1) := all_d dX7_firstBack_all0 3 rfl
theorem dX7_firstBack_4 : decode cX7_firstBack 4 = .ok (.getfield 19, 3) := all_d dX7_firstBack_all0 4 rfl
theorem dX7_firstBack_7 : decode cX7_firstBack 7 = .ok (.if_icmp .gt 26, 3) := all_d dX7_firstBack_all0 5 rfl
theorem dX7_firstBack_10 : decode cX7_firstBack 10 = .ok (.aload_n 0, 1) := all_d dX7_firstBack_all0 6 rfl
theorem dX7_firstBack_11 : decode cX7_firstBack 11 = .ok (.iload_n 1, 1) := all_d dX7_firstBack_all0 7 rfl
theorem dX7_firstBack_12 : decode cX7_firstBack 12 = .ok (.invokevirtual 35, 3) := all_d dX7_firstBack_all0 8 rfl
theorem dX7_firstBack_15 : decode cX7_firstBack 15 = .ok (.aload_n 0, 1) := all_d dX7_firstBack_all0 9 rfl
theorem dX7_firstBack_16 : decode cX7_firstBack 16 = .ok (.iload_n 1, 1) := all_d dX7_firstBack_all0 10 rfl
theorem dX7_firstBack_17 : decode cX7_firstBack 17 = .ok (.iconst 1, 1) := all_d dX7_firstBack_all0 11 rfl
theorem dX7_firstBack_18 : decode cX7_firstBack 18 = .ok (.isub, 1) := all_d dX7_firstBack_all0 12 rfl
theorem dX7_firstBack_19 : decode cX7_firstBack 19 = .ok (.invokevirtual 35, 3) := all_d dX7_firstBack_all0 13 rfl
theorem dX7_firstBack_22 : decode cX7_firstBack 22 = .ok (.if_icmp .ge 5, 3) := all_d dX7_firstBack_all0 14 rfl
theorem dX7_firstBack_25 : decode cX7_firstBack 25 = .ok (.iload_n 1, 1) := all_d dX7_firstBack_all0 15 rfl
theorem dX7_firstBack_26 : decode cX7_firstBack 26 = .ok (.ireturn, 1) := all_d dX7_firstBack_all0 16 rfl
theorem dX7_firstBack_27 : decode cX7_firstBack 27 = .ok (.iinc 1 1, 3) := all_d dX7_firstBack_all0 17 rfl
theorem dX7_firstBack_30 : decode cX7_firstBack 30 = .ok (.goto (-28), 3) := all_d dX7_firstBack_all0 18 rfl
theorem dX7_firstBack_33 : decode cX7_firstBack 33 = .ok (.bipush (-2), 2) := all_d dX7_firstBack_all0 19 rfl
theorem dX7_firstBack_35 : decode cX7_firstBack 35 = .ok (.ireturn, 1) := all_d dX7_firstBack_all0 20 rfl
set_option maxRecDepth 100000 in
theorem dX7_edgeOf_all0 : ([(0, (.iconst 0 : Instr), 1), (1, (.istore_n 2 : Instr), 1), (2, (.iload_n 2 : Instr), 1), (3, (.aload_n 0 : Instr), 1), (4, (.getfield 19 : Instr), 3), (7, (.if_icmp .gt 20 : Instr), 3), (10, (.aload_n 0 : Instr), 1), (11, (.iload_n 2 : Instr), 1), (12, (.invokevirtual 35 : Instr), 3), (15, (.iload_n 1 : Instr), 1), (16, (.if_icmp .lt 5 : Instr), 3), (19, (.iload_n 2 : Instr), 1), (20, (.ireturn : Instr), 1), (21, (.iinc 2 1 : Instr), 3), (24, (.goto (-22) : Instr), 3), (27, (.aload_n 0 : Instr), 1), (28, (.getfield 19 : Instr), 3), (31, (.iconst 1 : Instr), 1), (32, (.iadd : Instr), 1), (33, (.ireturn : Instr), 1)] : List (Nat × Instr × Nat)).all (fun q => decide (decode cX7_edgeOf q.1 = .ok (q.2.1, q.2.2))) = true := by decide +kernel
theorem dX7_edgeOf_0 : decode cX7_edgeOf 0 = .ok (.iconst 0, 1) := all_d dX7_edgeOf_all0 0 rfl
theorem dX7_edgeOf_1 : decode cX7_edgeOf 1 = .ok (.istore_n 2, 1) := all_d dX7_edgeOf_all0 1 rfl
theorem dX7_edgeOf_2 : decode cX7_edgeOf 2 = .ok (.iload_n 2, 1) := all_d dX7_edgeOf_all0 2 rfl
theorem dX7_edgeOf_3 : decode cX7_edgeOf 3 = .ok (.aload_n 0, 1) := all_d dX7_edgeOf_all0 3 rfl
theorem dX7_edgeOf_4 : decode cX7_edgeOf 4 = .ok (.getfield 19, 3) := all_d dX7_edgeOf_all0 4 rfl
theorem dX7_edgeOf_7 : decode cX7_edgeOf 7 = .ok (.if_icmp .gt 20, 3) := all_d dX7_edgeOf_all0 5 rfl
theorem dX7_edgeOf_10 : decode cX7_edgeOf 10 = .ok (.aload_n 0, 1) := all_d dX7_edgeOf_all0 6 rfl
theorem dX7_edgeOf_11 : decode cX7_edgeOf 11 = .ok (.iload_n 2, 1) := all_d dX7_edgeOf_all0 7 rfl
theorem dX7_edgeOf_12 : decode cX7_edgeOf 12 = .ok (.invokevirtual 35, 3) := all_d dX7_edgeOf_all0 8 rfl
theorem dX7_edgeOf_15 : decode cX7_edgeOf 15 = .ok (.iload_n 1, 1) := all_d dX7_edgeOf_all0 9 rfl
theorem dX7_edgeOf_16 : decode cX7_edgeOf 16 = .ok (.if_icmp .lt 5, 3) := all_d dX7_edgeOf_all0 10 rfl
theorem dX7_edgeOf_19 : decode cX7_edgeOf 19 = .ok (.iload_n 2, 1) := all_d dX7_edgeOf_all0 11 rfl
theorem dX7_edgeOf_20 : decode cX7_edgeOf 20 = .ok (.ireturn, 1) := all_d dX7_edgeOf_all0 12 rfl
theorem dX7_edgeOf_21 : decode cX7_edgeOf 21 = .ok (.iinc 2 1, 3) := all_d dX7_edgeOf_all0 13 rfl
theorem dX7_edgeOf_24 : decode cX7_edgeOf 24 = .ok (.goto (-22), 3) := all_d dX7_edgeOf_all0 14 rfl
theorem dX7_edgeOf_27 : decode cX7_edgeOf 27 = .ok (.aload_n 0, 1) := all_d dX7_edgeOf_all0 15 rfl
theorem dX7_edgeOf_28 : decode cX7_edgeOf 28 = .ok (.getfield 19, 3) := all_d dX7_edgeOf_all0 16 rfl
theorem dX7_edgeOf_31 : decode cX7_edgeOf 31 = .ok (.iconst 1, 1) := all_d dX7_edgeOf_all0 17 rfl
theorem dX7_edgeOf_32 : decode cX7_edgeOf 32 = .ok (.iadd, 1) := all_d dX7_edgeOf_all0 18 rfl
theorem dX7_edgeOf_33 : decode cX7_edgeOf 33 = .ok (.ireturn, 1) := all_d dX7_edgeOf_all0 19 rfl
set_option maxRecDepth 100000 in
theorem dX7_worstOfLine_all0 : ([(0, (.aload_n 0 : Instr), 1), (1, (.iconst 1 : Instr), 1), (2, (.invokevirtual 55 : Instr), 3), (5, (.istore_n 3 : Instr), 1), (6, (.aload_n 0 : Instr), 1), (7, (.iload_n 1 : Instr), 1), (8, (.invokevirtual 55 : Instr), 3), (11, (.iload_n 3 : Instr), 1), (12, (.isub : Instr), 1), (13, (.istore 4 : Instr), 2), (15, (.iconst 0 : Instr), 1), (16, (.istore 5 : Instr), 2), (18, (.iconst 1 : Instr), 1), (19, (.istore 6 : Instr), 2), (21, (.iconst 1 : Instr), 1), (22, (.istore 7 : Instr), 2), (24, (.iload_n 3 : Instr), 1), (25, (.istore 8 : Instr), 2), (27, (.iload 8 : Instr), 2), (29, (.aload_n 0 : Instr), 1), (30, (.getfield 19 : Instr), 3), (33, (.if_icmp .gt 62 : Instr), 3), (36, (.iload 7 : Instr), 2), (38, (.aload_n 0 : Instr), 1), (39, (.iload 8 : Instr), 2), (41, (.invokevirtual 35 : Instr), 3), (44, (.if_icmp .gt 45 : Instr), 3), (47, (.iload_n 1 : Instr), 1), (48, (.iconst 1 : Instr), 1), (49, (.isub : Instr), 1), (50, (.iload 8 : Instr), 2), (52, (.iload_n 3 : Instr), 1), (53, (.isub : Instr), 1), (54, (.imul : Instr), 1), (55, (.iload 7 : Instr), 2), (57, (.iconst 1 : Instr), 1), (58, (.isub : Instr), 1), (59, (.iload 4 : Instr), 2), (61, (.imul : Instr), 1), (62, (.isub : Instr), 1), (63, (.invokestatic 58 : Instr), 3), (66, (.istore 9 : Instr), 2), (68, (.iload 9 : Instr), 2), (70, (.iload 5 : Instr), 2), (72, (.if_icmp .le 11 : Instr), 3), (75, (.iload 9 : Instr), 2), (77, (.istore 5 : Instr), 2), (79, (.iload 7 : Instr), 2), (81, (.istore 6 : Instr), 2), (83, (.iinc 7 1 : Instr), 3), (86, (.goto (-50) : Instr), 3), (89, (.iinc 8 1 : Instr), 3), (92, (.goto (-65) : Instr), 3), (95, (.iload_n 2 : Instr), 1), (96, (.ifCond .eq 8 : Instr), 3), (99, (.iload 6 : Instr), 2), (101, (.goto 5 : Instr), 3), (104, (.iload 5 : Instr), 2), (106, (.ireturn : Instr), 1)] : List (Nat × Instr × Nat)).all (fun q => decide (decode cX7_worstOfLine q.1 = .ok (q.2.1, q.2.2))) = true := by decide +kernel
theorem dX7_worstOfLine_0 : decode cX7_worstOfLine 0 = .ok (.aload_n 0, 1) := all_d dX7_worstOfLine_all0 0 rfl
theorem dX7_worstOfLine_1 : decode cX7_worstOfLine 1 = .ok (.iconst 1, 1) := all_d dX7_worstOfLine_all0 1 rfl
theorem dX7_worstOfLine_2 : decode cX7_worstOfLine 2 = .ok (.invokevirtual 55, 3) := all_d dX7_worstOfLine_all0 2 rfl
theorem dX7_worstOfLine_5 : decode cX7_worstOfLine 5 = .ok (.istore_n 3, 1) := all_d dX7_worstOfLine_all0 3 rfl
theorem dX7_worstOfLine_6 : decode cX7_worstOfLine 6 = .ok (.aload_n 0, 1) := all_d dX7_worstOfLine_all0 4 rfl
theorem dX7_worstOfLine_7 : decode cX7_worstOfLine 7 = .ok (.iload_n 1, 1) := all_d dX7_worstOfLine_all0 5 rfl
theorem dX7_worstOfLine_8 : decode cX7_worstOfLine 8 = .ok (.invokevirtual 55, 3) := all_d dX7_worstOfLine_all0 6 rfl
theorem dX7_worstOfLine_11 : decode cX7_worstOfLine 11 = .ok (.iload_n 3, 1) := all_d dX7_worstOfLine_all0 7 rfl
theorem dX7_worstOfLine_12 : decode cX7_worstOfLine 12 = .ok (.isub, 1) := all_d dX7_worstOfLine_all0 8 rfl
theorem dX7_worstOfLine_13 : decode cX7_worstOfLine 13 = .ok (.istore 4, 2) := all_d dX7_worstOfLine_all0 9 rfl
theorem dX7_worstOfLine_15 : decode cX7_worstOfLine 15 = .ok (.iconst 0, 1) := all_d dX7_worstOfLine_all0 10 rfl
theorem dX7_worstOfLine_16 : decode cX7_worstOfLine 16 = .ok (.istore 5, 2) := all_d dX7_worstOfLine_all0 11 rfl
theorem dX7_worstOfLine_18 : decode cX7_worstOfLine 18 = .ok (.iconst 1, 1) := all_d dX7_worstOfLine_all0 12 rfl
theorem dX7_worstOfLine_19 : decode cX7_worstOfLine 19 = .ok (.istore 6, 2) := all_d dX7_worstOfLine_all0 13 rfl
theorem dX7_worstOfLine_21 : decode cX7_worstOfLine 21 = .ok (.iconst 1, 1) := all_d dX7_worstOfLine_all0 14 rfl
theorem dX7_worstOfLine_22 : decode cX7_worstOfLine 22 = .ok (.istore 7, 2) := all_d dX7_worstOfLine_all0 15 rfl
theorem dX7_worstOfLine_24 : decode cX7_worstOfLine 24 = .ok (.iload_n 3, 1) := all_d dX7_worstOfLine_all0 16 rfl
theorem dX7_worstOfLine_25 : decode cX7_worstOfLine 25 = .ok (.istore 8, 2) := all_d dX7_worstOfLine_all0 17 rfl
theorem dX7_worstOfLine_27 : decode cX7_worstOfLine 27 = .ok (.iload 8, 2) := all_d dX7_worstOfLine_all0 18 rfl
theorem dX7_worstOfLine_29 : decode cX7_worstOfLine 29 = .ok (.aload_n 0, 1) := all_d dX7_worstOfLine_all0 19 rfl
theorem dX7_worstOfLine_30 : decode cX7_worstOfLine 30 = .ok (.getfield 19, 3) := all_d dX7_worstOfLine_all0 20 rfl
theorem dX7_worstOfLine_33 : decode cX7_worstOfLine 33 = .ok (.if_icmp .gt 62, 3) := all_d dX7_worstOfLine_all0 21 rfl
theorem dX7_worstOfLine_36 : decode cX7_worstOfLine 36 = .ok (.iload 7, 2) := all_d dX7_worstOfLine_all0 22 rfl
theorem dX7_worstOfLine_38 : decode cX7_worstOfLine 38 = .ok (.aload_n 0, 1) := all_d dX7_worstOfLine_all0 23 rfl
theorem dX7_worstOfLine_39 : decode cX7_worstOfLine 39 = .ok (.iload 8, 2) := all_d dX7_worstOfLine_all0 24 rfl
theorem dX7_worstOfLine_41 : decode cX7_worstOfLine 41 = .ok (.invokevirtual 35, 3) := all_d dX7_worstOfLine_all0 25 rfl
theorem dX7_worstOfLine_44 : decode cX7_worstOfLine 44 = .ok (.if_icmp .gt 45, 3) := all_d dX7_worstOfLine_all0 26 rfl
theorem dX7_worstOfLine_47 : decode cX7_worstOfLine 47 = .ok (.iload_n 1, 1) := all_d dX7_worstOfLine_all0 27 rfl
theorem dX7_worstOfLine_48 : decode cX7_worstOfLine 48 = .ok (.iconst 1, 1) := all_d dX7_worstOfLine_all0 28 rfl
theorem dX7_worstOfLine_49 : decode cX7_worstOfLine 49 = .ok (.isub, 1) := all_d dX7_worstOfLine_all0 29 rfl
theorem dX7_worstOfLine_50 : decode cX7_worstOfLine 50 = .ok (.iload 8, 2) := all_d dX7_worstOfLine_all0 30 rfl
theorem dX7_worstOfLine_52 : decode cX7_worstOfLine 52 = .ok (.iload_n 3, 1) := all_d dX7_worstOfLine_all0 31 rfl
theorem dX7_worstOfLine_53 : decode cX7_worstOfLine 53 = .ok (.isub, 1) := all_d dX7_worstOfLine_all0 32 rfl
theorem dX7_worstOfLine_54 : decode cX7_worstOfLine 54 = .ok (.imul, 1) := all_d dX7_worstOfLine_all0 33 rfl
theorem dX7_worstOfLine_55 : decode cX7_worstOfLine 55 = .ok (.iload 7, 2) := all_d dX7_worstOfLine_all0 34 rfl
theorem dX7_worstOfLine_57 : decode cX7_worstOfLine 57 = .ok (.iconst 1, 1) := all_d dX7_worstOfLine_all0 35 rfl
theorem dX7_worstOfLine_58 : decode cX7_worstOfLine 58 = .ok (.isub, 1) := all_d dX7_worstOfLine_all0 36 rfl
theorem dX7_worstOfLine_59 : decode cX7_worstOfLine 59 = .ok (.iload 4, 2) := all_d dX7_worstOfLine_all0 37 rfl
theorem dX7_worstOfLine_61 : decode cX7_worstOfLine 61 = .ok (.imul, 1) := all_d dX7_worstOfLine_all0 38 rfl
theorem dX7_worstOfLine_62 : decode cX7_worstOfLine 62 = .ok (.isub, 1) := all_d dX7_worstOfLine_all0 39 rfl
theorem dX7_worstOfLine_63 : decode cX7_worstOfLine 63 = .ok (.invokestatic 58, 3) := all_d dX7_worstOfLine_all0 40 rfl
theorem dX7_worstOfLine_66 : decode cX7_worstOfLine 66 = .ok (.istore 9, 2) := all_d dX7_worstOfLine_all0 41 rfl
theorem dX7_worstOfLine_68 : decode cX7_worstOfLine 68 = .ok (.iload 9, 2) := all_d dX7_worstOfLine_all0 42 rfl
theorem dX7_worstOfLine_70 : decode cX7_worstOfLine 70 = .ok (.iload 5, 2) := all_d dX7_worstOfLine_all0 43 rfl
theorem dX7_worstOfLine_72 : decode cX7_worstOfLine 72 = .ok (.if_icmp .le 11, 3) := all_d dX7_worstOfLine_all0 44 rfl
theorem dX7_worstOfLine_75 : decode cX7_worstOfLine 75 = .ok (.iload 9, 2) := all_d dX7_worstOfLine_all0 45 rfl
theorem dX7_worstOfLine_77 : decode cX7_worstOfLine 77 = .ok (.istore 5, 2) := all_d dX7_worstOfLine_all0 46 rfl
theorem dX7_worstOfLine_79 : decode cX7_worstOfLine 79 = .ok (.iload 7, 2) := all_d dX7_worstOfLine_all0 47 rfl
theorem dX7_worstOfLine_81 : decode cX7_worstOfLine 81 = .ok (.istore 6, 2) := all_d dX7_worstOfLine_all0 48 rfl
theorem dX7_worstOfLine_83 : decode cX7_worstOfLine 83 = .ok (.iinc 7 1, 3) := all_d dX7_worstOfLine_all0 49 rfl
theorem dX7_worstOfLine_86 : decode cX7_worstOfLine 86 = .ok (.goto (-50), 3) := all_d dX7_worstOfLine_all0 50 rfl
theorem dX7_worstOfLine_89 : decode cX7_worstOfLine 89 = .ok (.iinc 8 1, 3) := all_d dX7_worstOfLine_all0 51 rfl
theorem dX7_worstOfLine_92 : decode cX7_worstOfLine 92 = .ok (.goto (-65), 3) := all_d dX7_worstOfLine_all0 52 rfl
theorem dX7_worstOfLine_95 : decode cX7_worstOfLine 95 = .ok (.iload_n 2, 1) := all_d dX7_worstOfLine_all0 53 rfl
theorem dX7_worstOfLine_96 : decode cX7_worstOfLine 96 = .ok (.ifCond .eq 8, 3) := all_d dX7_worstOfLine_all0 54 rfl
theorem dX7_worstOfLine_99 : decode cX7_worstOfLine 99 = .ok (.iload 6, 2) := all_d dX7_worstOfLine_all0 55 rfl
theorem dX7_worstOfLine_101 : decode cX7_worstOfLine 101 = .ok (.goto 5, 3) := all_d dX7_worstOfLine_all0 56 rfl
theorem dX7_worstOfLine_104 : decode cX7_worstOfLine 104 = .ok (.iload 5, 2) := all_d dX7_worstOfLine_all0 57 rfl
theorem dX7_worstOfLine_106 : decode cX7_worstOfLine 106 = .ok (.ireturn, 1) := all_d dX7_worstOfLine_all0 58 rfl
set_option maxRecDepth 100000 in
theorem dX8_init_all0 : ([(0, (.aload_n 0 : Instr), 1), (1, (.invokespecial 3 : Instr), 3), (4, (.aload_n 0 : Instr), 1), (5, (.bipush 8 : Instr), 2), (7, (.anewarray 9 : Instr), 3), (10, (.putfield 11 : Instr), 3), (13, (.aload_n 0 : Instr), 1), (14, (.new 15 : Instr), 3), (17, (.dup : Instr), 1), (18, (.invokespecial 17 : Instr), 3), (21, (.putfield 18 : Instr), 3), (24, (.aload_n 0 : Instr), 1), (25, (.new 22 : Instr), 3), (28, (.dup : Instr), 1), (29, (.invokespecial 24 : Instr), 3), (32, (.putfield 25 : Instr), 3), (35, (.aload_n 0 : Instr), 1), (36, (.bipush 10 : Instr), 2), (38, (.anewarray 29 : Instr), 3), (41, (.putfield 31 : Instr), 3), (44, (.aload_n 0 : Instr), 1), (45, (.bipush 10 : Instr), 2), (47, (.newarray .int : Instr), 2), (49, (.putfield 35 : Instr), 3), (52, (.aload_n 0 : Instr), 1), (53, (.bipush 10 : Instr), 2), (55, (.newarray .int : Instr), 2), (57, (.putfield 39 : Instr), 3), (60, (.aload_n 0 : Instr), 1), (61, (.new 42 : Instr), 3), (64, (.dup : Instr), 1), (65, (.invokespecial 44 : Instr), 3), (68, (.putfield 45 : Instr), 3), (71, (.aload_n 0 : Instr), 1), (72, (.new 49 : Instr), 3), (75, (.dup : Instr), 1), (76, (.invokespecial 51 : Instr), 3), (79, (.putfield 52 : Instr), 3), (82, (.aload_n 0 : Instr), 1), (83, (.sipush 255 : Instr), 3), (86, (.putfield 56 : Instr), 3), (89, (.aload_n 0 : Instr), 1), (90, (.iconst 0 : Instr), 1), (91, (.putfield 60 : Instr), 3), (94, (.aload_n 0 : Instr), 1), (95, (.iconst 0 : Instr), 1), (96, (.putfield 63 : Instr), 3), (99, (.aload_n 0 : Instr), 1), (100, (.iconst 0 : Instr), 1), (101, (.putfield 66 : Instr), 3), (104, (.aload_n 0 : Instr), 1), (105, (.iconst (-1) : Instr), 1), (106, (.putfield 69 : Instr), 3), (109, (.iconst 0 : Instr), 1), (110, (.istore_n 1 : Instr), 1), (111, (.iload_n 1 : Instr), 1), (112, (.aload_n 0 : Instr), 1), (113, (.getfield 11 : Instr), 3), (116, (.arraylength : Instr), 1), (117, (.if_icmp .ge 22 : Instr), 3), (120, (.aload_n 0 : Instr), 1), (121, (.getfield 11 : Instr), 3), (124, (.iload_n 1 : Instr), 1), (125, (.new 9 : Instr), 3), (128, (.dup : Instr), 1), (129, (.invokespecial 72 : Instr), 3), (132, (.aastore : Instr), 1), (133, (.iinc 1 1 : Instr), 3), (136, (.goto (-25) : Instr), 3), (139, (.iconst 0 : Instr), 1), (140, (.istore_n 1 : Instr), 1), (141, (.iload_n 1 : Instr), 1), (142, (.aload_n 0 : Instr), 1), (143, (.getfield 31 : Instr), 3), (146, (.arraylength : Instr), 1), (147, (.if_icmp .ge 22 : Instr), 3), (150, (.aload_n 0 : Instr), 1), (151, (.getfield 31 : Instr), 3), (154, (.iload_n 1 : Instr), 1), (155, (.new 29 : Instr), 3)] : List (Nat × Instr × Nat)).all (fun q => decide (decode cX8_init q.1 = .ok (q.2.1, q.2.2))) = true := by decide +kernel
theorem dX8_init_0 : decode cX8_init 0 = .ok (.aload_n 0, 1) := all_d dX8_init_all0 0 rfl
theorem dX8_init_1 : decode cX8_init 1 = .ok (.invokespecial 3, 3) := all_d dX8_init_all0 1 rfl
theorem dX8_init_4 : decode cX8_init 4 = .ok (.aload_n 0, 1) := all_d dX8_init_all0 2 rfl
theorem dX8_init_5 : decode cX8_init 5 = .ok (.bipush 8, 2) := all_d dX8_init_all0 3 rfl
theorem dX8_init_7 : decode cX8_init 7 = .ok (.anewarray 9, 3) := all_d dX8_init_all0 4 rfl
theorem dX8_init_10 : decode cX8_init 10 = .ok (.putfield 11, 3) := all_d dX8_init_all0 5 rfl
theorem dX8_init_13 : decode cX8_init 13 = .ok (.aload_n 0, 1) := all_d dX8_init_all0 6 rfl
theorem dX8_init_14 : decode cX8_init 14 = .ok (.new 15, 3) := all_d dX8_init_all0 7 rfl
theorem dX8_init_17 : decode cX8_init 17 = .ok (.dup, 1) := all_d dX8_init_all0 8 rfl
theorem dX8_init_18 : decode cX8_init 18 = .ok (.invokespecial 17, 3) := all_d dX8_init_all0 9 rfl
theorem dX8_init_21 : decode cX8_init 21 = .ok (.putfield 18, 3) := all_d dX8_init_all0 10 rfl
theorem dX8_init_24 : decode cX8_init 24 = .ok (.aload_n 0, 1) := all_d dX8_init_all0 11 rfl
theorem dX8_init_25 : decode cX8_init 25 = .ok (.new 22, 3) := all_d dX8_init_all0 12 rfl
theorem dX8_init_28 : decode cX8_init 28 = .ok (.dup, 1) := all_d dX8_init_all0 13 rfl
theorem dX8_init_29 : decode cX8_init 29 = .ok (.invokespecial 24, 3) := all_d dX8_init_all0 14 rfl
theorem dX8_init_32 : decode cX8_init 32 = .ok (.putfield 25, 3) := all_d dX8_init_all0 15 rfl
theorem dX8_init_35 : decode cX8_init 35 = .ok (.aload_n 0, 1) := all_d dX8_init_all0 16 rfl
theorem dX8_init_36 : decode cX8_init 36 = .ok (.bipush 10, 2) := all_d dX8_init_all0 17 rfl
theorem dX8_init_38 : decode cX8_init 38 = .ok (.anewarray 29, 3) := all_d dX8_init_all0 18 rfl
theorem dX8_init_41 : decode cX8_init 41 = .ok (.putfield 31, 3) := all_d dX8_init_all0 19 rfl
theorem dX8_init_44 : decode cX8_init 44 = .ok (.aload_n 0, 1) := all_d dX8_init_all0 20 rfl
theorem dX8_init_45 : decode cX8_init 45 = .ok (.bipush 10, 2) := all_d dX8_init_all0 21 rfl
theorem dX8_init_47 : decode cX8_init 47 = .ok (.newarray .int, 2) := all_d dX8_init_all0 22 rfl
theorem dX8_init_49 : decode cX8_init 49 = .ok (.putfield 35, 3) := all_d dX8_init_all0 23 rfl
theorem dX8_init_52 : decode cX8_init 52 = .ok (.aload_n 0, 1) := all_d dX8_init_all0 24 rfl
theorem dX8_init_53 : decode cX8_init 53 = .ok (.bipush 10, 2) := all_d dX8_init_all0 25 rfl
theorem dX8_init_55 : decode cX8_init 55 = .ok (.newarray .int, 2) := all_d dX8_init_all0 26 rfl
theorem dX8_init_57 : decode cX8_init 57 = .ok (.putfield 39, 3) := all_d dX8_init_all0 27 rfl
theorem dX8_init_60 : decode cX8_init 60 = .ok (.aload_n 0, 1) := all_d dX8_init_all0 28 rfl
theorem dX8_init_61 : decode cX8_init 61 = .ok (.new 42, 3) := all_d dX8_init_all0 29 rfl
theorem dX8_init_64 : decode cX8_init 64 = .ok (.dup, 1) := all_d dX8_init_all0 30 rfl
theorem dX8_init_65 : decode cX8_init 65 = .ok (.invokespecial 44, 3) := all_d dX8_init_all0 31 rfl
theorem dX8_init_68 : decode cX8_init 68 = .ok (.putfield 45, 3) := all_d dX8_init_all0 32 rfl
theorem dX8_init_71 : decode cX8_init 71 = .ok (.aload_n 0, 1) := all_d dX8_init_all0 33 rfl
theorem dX8_init_72 : decode cX8_init 72 = .ok (.new 49, 3) := all_d dX8_init_all0 34 rfl
theorem dX8_init_75 : decode cX8_init 75 = .ok (.dup, 1) := all_d dX8_init_all0 35 rfl
theorem dX8_init_76 : decode cX8_init 76 = .ok (.invokespecial 51, 3) := all_d dX8_init_all0 36 rfl
theorem dX8_init_79 : decode cX8_init 79 = .ok (.putfield 52, 3) := all_d dX8_init_all0 37 rfl
theorem dX8_init_82 : decode cX8_init 82 = .ok (.aload_n 0, 1) := all_d dX8_init_all0 38 rfl
theorem dX8_init_83 : decode cX8_init 83 = .ok (.sipush 255, 3) := all_d dX8_init_all0 39 rfl
theorem dX8_init_86 : decode cX8_init 86 = .ok (.putfield 56, 3) := all_d dX8_init_all0 40 rfl
theorem dX8_init_89 : decode cX8_init 89 = .ok (.aload_n 0, 1) := all_d dX8_init_all0 41 rfl
theorem dX8_init_90 : decode cX8_init 90 = .ok (.iconst 0, 1) := all_d dX8_init_all0 42 rfl
theorem dX8_init_91 : decode cX8_init 91 = .ok (.putfield 60, 3) := all_d dX8_init_all0 43 rfl
theorem dX8_init_94 : decode cX8_init 94 = .ok (.aload_n 0, 1) := all_d dX8_init_all0 44 rfl
theorem dX8_init_95 : decode cX8_init 95 = .ok (.iconst 0, 1) := all_d dX8_init_all0 45 rfl
theorem dX8_init_96 : decode cX8_init 96 = .ok (.putfield 63, 3) := all_d dX8_init_all0 46 rfl
theorem dX8_init_99 : decode cX8_init 99 = .ok (.aload_n 0, 1) := all_d dX8_init_all0 47 rfl
theorem dX8_init_100 : decode cX8_init 100 = .ok (.iconst 0, 1) := all_d dX8_init_all0 48 rfl
theorem dX8_init_101 : decode cX8_init 101 = .ok (.putfield 66, 3) := all_d dX8_init_all0 49 rfl
theorem dX8_init_104 : decode cX8_init 104 = .ok (.aload_n 0, 1) := all_d dX8_init_all0 50 rfl
theorem dX8_init_105 : decode cX8_init 105 = .ok (.iconst (-1), 1) := all_d dX8_init_all0 51 rfl
theorem dX8_init_106 : decode cX8_init 106 = .ok (.putfield 69, 3) := all_d dX8_init_all0 52 rfl
theorem dX8_init_109 : decode cX8_init 109 = .ok (.iconst 0, 1) := all_d dX8_init_all0 53 rfl
theorem dX8_init_110 : decode cX8_init 110 = .ok (.istore_n 1, 1) := all_d dX8_init_all0 54 rfl
theorem dX8_init_111 : decode cX8_init 111 = .ok (.iload_n 1, 1) := all_d dX8_init_all0 55 rfl
theorem dX8_init_112 : decode cX8_init 112 = .ok (.aload_n 0, 1) := all_d dX8_init_all0 56 rfl
theorem dX8_init_113 : decode cX8_init 113 = .ok (.getfield 11, 3) := all_d dX8_init_all0 57 rfl
theorem dX8_init_116 : decode cX8_init 116 = .ok (.arraylength, 1) := all_d dX8_init_all0 58 rfl
theorem dX8_init_117 : decode cX8_init 117 = .ok (.if_icmp .ge 22, 3) := all_d dX8_init_all0 59 rfl
theorem dX8_init_120 : decode cX8_init 120 = .ok (.aload_n 0, 1) := all_d dX8_init_all0 60 rfl
theorem dX8_init_121 : decode cX8_init 121 = .ok (.getfield 11, 3) := all_d dX8_init_all0 61 rfl
theorem dX8_init_124 : decode cX8_init 124 = .ok (.iload_n 1, 1) := all_d dX8_init_all0 62 rfl
theorem dX8_init_125 : decode cX8_init 125 = .ok (.new 9, 3) := all_d dX8_init_all0 63 rfl
theorem dX8_init_128 : decode cX8_init 128 = .ok (.dup, 1) := all_d dX8_init_all0 64 rfl
theorem dX8_init_129 : decode cX8_init 129 = .ok (.invokespecial 72, 3) := all_d dX8_init_all0 65 rfl
theorem dX8_init_132 : decode cX8_init 132 = .ok (.aastore, 1) := all_d dX8_init_all0 66 rfl
theorem dX8_init_133 : decode cX8_init 133 = .ok (.iinc 1 1, 3) := all_d dX8_init_all0 67 rfl
theorem dX8_init_136 : decode cX8_init 136 = .ok (.goto (-25), 3) := all_d dX8_init_all0 68 rfl
theorem dX8_init_139 : decode cX8_init 139 = .ok (.iconst 0, 1) := all_d dX8_init_all0 69 rfl
theorem dX8_init_140 : decode cX8_init 140 = .ok (.istore_n 1, 1) := all_d dX8_init_all0 70 rfl
theorem dX8_init_141 : decode cX8_init 141 = .ok (.iload_n 1, 1) := all_d dX8_init_all0 71 rfl
theorem dX8_init_142 : decode cX8_init 142 = .ok (.aload_n 0, 1) := all_d dX8_init_all0 72 rfl
theorem dX8_init_143 : decode cX8_init 143 = .ok (.getfield 31, 3) := all_d dX8_init_all0 73 rfl
theorem dX8_init_146 : decode cX8_init 146 = .ok (.arraylength, 1) := all_d dX8_init_all0 74 rfl
theorem dX8_init_147 : decode cX8_init 147 = .ok (.if_icmp .ge 22, 3) := all_d dX8_init_all0 75 rfl
theorem dX8_init_150 : decode cX8_init 150 = .ok (.aload_n 0, 1) := all_d dX8_init_all0 76 rfl
theorem dX8_init_151 : decode cX8_init 151 = .ok (.getfield 31, 3) := all_d dX8_init_all0 77 rfl
theorem dX8_init_154 : decode cX8_init 154 = .ok (.iload_n 1, 1) := all_d dX8_init_all0 78 rfl
theorem dX8_init_155 : decode cX8_init 155 = .ok (.new 29, 3) := all_d dX8_init_all0 79 rfl
set_option maxRecDepth 100000 in
theorem dX8_init_all1 : ([(158, (.dup : Instr), 1), (159, (.invokespecial 73 : Instr), 3), (162, (.aastore : Instr), 1), (163, (.iinc 1 1 : Instr), 3), (166, (.goto (-25) : Instr), 3), (169, (.return_ : Instr), 1)] : List (Nat × Instr × Nat)).all (fun q => decide (decode cX8_init q.1 = .ok (q.2.1, q.2.2))) = true := by decide +kernel
theorem dX8_init_158 : decode cX8_init 158 = .ok (.dup, 1) := all_d dX8_init_all1 0 rfl
theorem dX8_init_159 : decode cX8_init 159 = .ok (.invokespecial 73, 3) := all_d dX8_init_all1 1 rfl
theorem dX8_init_162 : decode cX8_init 162 = .ok (.aastore, 1) := all_d dX8_init_all1 2 rfl
theorem dX8_init_163 : decode cX8_init 163 = .ok (.iinc 1 1, 3) := all_d dX8_init_all1 3 rfl
theorem dX8_init_166 : decode cX8_init 166 = .ok (.goto (-25), 3) := all_d dX8_init_all1 4 rfl
theorem dX8_init_169 : decode cX8_init 169 = .ok (.return_, 1) := all_d dX8_init_all1 5 rfl
set_option maxRecDepth 100000 in
theorem dX8_range_all0 : ([(0, (.aload_n 0 : Instr), 1), (1, (.iload_n 1 : Instr), 1), (2, (.iconst 1 : Instr), 1), (3, (.if_icmp .lt 10 : Instr), 3), (6, (.iload_n 1 : Instr), 1), (7, (.sipush 4095 : Instr), 3), (10, (.if_icmp .le 7 : Instr), 3), (13, (.iconst 1 : Instr), 1), (14, (.goto 4 : Instr), 3), (17, (.iconst 0 : Instr), 1), (18, (.putfield 66 : Instr), 3), (21, (.aload_n 0 : Instr), 1), (22, (.getfield 66 : Instr), 3), (25, (.ifCond .eq 5 : Instr), 3), (28, (.iconst 0 : Instr), 1), (29, (.ireturn : Instr), 1), (30, (.aload_n 0 : Instr), 1), (31, (.iconst 0 : Instr), 1), (32, (.iconst (-1) : Instr), 1), (33, (.iconst (-1) : Instr), 1), (34, (.invokevirtual 74 : Instr), 3), (37, (.astore_n 2 : Instr), 1), (38, (.aload_n 2 : Instr), 1), (39, (.ifnull 11 : Instr), 3), (42, (.aload_n 2 : Instr), 1), (43, (.aload_n 0 : Instr), 1), (44, (.getfield 56 : Instr), 3), (47, (.putfield 78 : Instr), 3), (50, (.aload_n 0 : Instr), 1), (51, (.iload_n 1 : Instr), 1), (52, (.putfield 56 : Instr), 3), (55, (.iconst 1 : Instr), 1), (56, (.ireturn : Instr), 1)] : List (Nat × Instr × Nat)).all (fun q => decide (decode cX8_range q.1 = .ok (q.2.1, q.2.2))) = true := by decide +kernel
theorem dX8_range_0 : decode cX8_range 0 = .ok (.aload_n 0, 1) := all_d dX8_range_all0 0 rfl
theorem dX8_range_1 : decode cX8_range 1 = .ok (.iload_n 1, 1) := all_d dX8_range_all0 1 rfl
theorem dX8_range_2 : decode cX8_range 2 = .ok (.iconst 1, 1) := all_d dX8_range_all0 2 rfl
theorem dX8_range_3 : decode cX8_range 3 = .ok (.if_icmp .lt 10, 3) := all_d dX8_range_all0 3 rfl
theorem dX8_range_6 : decode cX8_range 6 = .ok (.iload_n 1, 1) := all_d dX8_range_all0 4 rfl
theorem dX8_range_7 : decode cX8_range 7 = .ok (.sipush 4095, 3) := all_d dX8_range_all0 5 rfl
theorem dX8_range_10 : decode cX8_range 10 = .ok (.if_icmp .le 7, 3) := all_d dX8_range_all0 6 rfl
theorem dX8_range_13 : decode cX8_range 13 = .ok (.iconst 1, 1) := all_d dX8_range_all0 7 rfl
theorem dX8_range_14 : decode cX8_range 14 = .ok (.goto 4, 3) := all_d dX8_range_all0 8 rfl
theorem dX8_range_17 : decode cX8_range 17 = .ok (.iconst 0, 1) := all_d dX8_range_all0 9 rfl
theorem dX8_range_18 : decode cX8_range 18 = .ok (.putfield 66, 3) := all_d dX8_range_all0 10 rfl
theorem dX8_range_21 : decode cX8_range 21 = .ok (.aload_n 0, 1) := all_d dX8_range_all0 11 rfl
theorem dX8_range_22 : decode cX8_range 22 = .ok (.getfield 66, 3) := all_d dX8_range_all0 12 rfl
theorem dX8_range_25 : decode cX8_range 25 = .ok (.ifCond .eq 5, 3) := all_d dX8_range_all0 13 rfl
theorem dX8_range_28 : decode cX8_range 28 = .ok (.iconst 0, 1) := all_d dX8_range_all0 14 rfl
theorem dX8_range_29 : decode cX8_range 29 = .ok (.ireturn, 1) := all_d dX8_range_all0 15 rfl
theorem dX8_range_30 : decode cX8_range 30 = .ok (.aload_n 0, 1) := all_d dX8_range_all0 16 rfl
theorem dX8_range_31 : decode cX8_range 31 = .ok (.iconst 0, 1) := all_d dX8_range_all0 17 rfl
theorem dX8_range_32 : decode cX8_range 32 = .ok (.iconst (-1), 1) := all_d dX8_range_all0 18 rfl
theorem dX8_range_33 : decode cX8_range 33 = .ok (.iconst (-1), 1) := all_d dX8_range_all0 19 rfl
theorem dX8_range_34 : decode cX8_range 34 = .ok (.invokevirtual 74, 3) := all_d dX8_range_all0 20 rfl
theorem dX8_range_37 : decode cX8_range 37 = .ok (.astore_n 2, 1) := all_d dX8_range_all0 21 rfl
theorem dX8_range_38 : decode cX8_range 38 = .ok (.aload_n 2, 1) := all_d dX8_range_all0 22 rfl
theorem dX8_range_39 : decode cX8_range 39 = .ok (.ifnull 11, 3) := all_d dX8_range_all0 23 rfl
theorem dX8_range_42 : decode cX8_range 42 = .ok (.aload_n 2, 1) := all_d dX8_range_all0 24 rfl
theorem dX8_range_43 : decode cX8_range 43 = .ok (.aload_n 0, 1) := all_d dX8_range_all0 25 rfl
theorem dX8_range_44 : decode cX8_range 44 = .ok (.getfield 56, 3) := all_d dX8_range_all0 26 rfl
theorem dX8_range_47 : decode cX8_range 47 = .ok (.putfield 78, 3) := all_d dX8_range_all0 27 rfl
theorem dX8_range_50 : decode cX8_range 50 = .ok (.aload_n 0, 1) := all_d dX8_range_all0 28 rfl
theorem dX8_range_51 : decode cX8_range 51 = .ok (.iload_n 1, 1) := all_d dX8_range_all0 29 rfl
theorem dX8_range_52 : decode cX8_range 52 = .ok (.putfield 56, 3) := all_d dX8_range_all0 30 rfl
theorem dX8_range_55 : decode cX8_range 55 = .ok (.iconst 1, 1) := all_d dX8_range_all0 31 rfl
theorem dX8_range_56 : decode cX8_range 56 = .ok (.ireturn, 1) := all_d dX8_range_all0 32 rfl
set_option maxRecDepth 100000 in
theorem dX8_meter_all0 : ([(0, (.aload_n 0 : Instr), 1), (1, (.iload_n 1 : Instr), 1), (2, (.ifCond .lt 8 : Instr), 3), (5, (.iload_n 1 : Instr), 1), (6, (.iconst 4 : Instr), 1), (7, (.if_icmp .le 7 : Instr), 3), (10, (.iconst 1 : Instr), 1), (11, (.goto 17 : Instr), 3), (14, (.aload_n 0 : Instr), 1), (15, (.getfield 60 : Instr), 3), (18, (.bipush 8 : Instr), 2), (20, (.if_icmp .lt 7 : Instr), 3), (23, (.iconst 3 : Instr), 1), (24, (.goto 4 : Instr), 3), (27, (.iconst 0 : Instr), 1), (28, (.putfield 66 : Instr), 3), (31, (.aload_n 0 : Instr), 1), (32, (.getfield 66 : Instr), 3), (35, (.ifCond .eq 5 : Instr), 3), (38, (.iconst (-1) : Instr), 1), (39, (.ireturn : Instr), 1), (40, (.aload_n 0 : Instr), 1), (41, (.iconst 1 : Instr), 1), (42, (.aload_n 0 : Instr), 1), (43, (.getfield 60 : Instr), 3), (46, (.iconst (-1) : Instr), 1), (47, (.invokevirtual 74 : Instr), 3), (50, (.pop : Instr), 1), (51, (.aload_n 0 : Instr), 1), (52, (.dup : Instr), 1), (53, (.getfield 60 : Instr), 3), (56, (.iconst 1 : Instr), 1), (57, (.iadd : Instr), 1), (58, (.putfield 60 : Instr), 3), (61, (.aload_n 0 : Instr), 1), (62, (.aload_n 0 : Instr), 1), (63, (.getfield 60 : Instr), 3), (66, (.iconst 1 : Instr), 1), (67, (.isub : Instr), 1), (68, (.invokevirtual 83 : Instr), 3), (71, (.astore_n 2 : Instr), 1), (72, (.aload_n 2 : Instr), 1), (73, (.ifnull 8 : Instr), 3), (76, (.aload_n 2 : Instr), 1), (77, (.iload_n 1 : Instr), 1), (78, (.invokevirtual 87 : Instr), 3), (81, (.aload_n 0 : Instr), 1), (82, (.getfield 60 : Instr), 3), (85, (.iconst 1 : Instr), 1), (86, (.isub : Instr), 1), (87, (.ireturn : Instr), 1)] : List (Nat × Instr × Nat)).all (fun q => decide (decode cX8_meter q.1 = .ok (q.2.1, q.2.2))) = true := by decide +kernel
theorem dX8_meter_0 : decode cX8_meter 0 = .ok (.aload_n 0, 1) := all_d dX8_meter_all0 0 rfl
theorem dX8_meter_1 : decode cX8_meter 1 = .ok (.iload_n 1, 1) := all_d dX8_meter_all0 1 rfl
theorem dX8_meter_2 : decode cX8_meter 2 = .ok (.ifCond .lt 8, 3) := all_d dX8_meter_all0 2 rfl
theorem dX8_meter_5 : decode cX8_meter 5 = .ok (.iload_n 1, 1) := all_d dX8_meter_all0 3 rfl
theorem dX8_meter_6 : decode cX8_meter 6 = .ok (.iconst 4, 1) := all_d dX8_meter_all0 4 rfl
theorem dX8_meter_7 : decode cX8_meter 7 = .ok (.if_icmp .le 7, 3) := all_d dX8_meter_all0 5 rfl
theorem dX8_meter_10 : decode cX8_meter 10 = .ok (.iconst 1, 1) := all_d dX8_meter_all0 6 rfl
theorem dX8_meter_11 : decode cX8_meter 11 = .ok (.goto 17, 3) := all_d dX8_meter_all0 7 rfl
theorem dX8_meter_14 : decode cX8_meter 14 = .ok (.aload_n 0, 1) := all_d dX8_meter_all0 8 rfl
theorem dX8_meter_15 : decode cX8_meter 15 = .ok (.getfield 60, 3) := all_d dX8_meter_all0 9 rfl
theorem dX8_meter_18 : decode cX8_meter 18 = .ok (.bipush 8, 2) := all_d dX8_meter_all0 10 rfl
theorem dX8_meter_20 : decode cX8_meter 20 = .ok (.if_icmp .lt 7, 3) := all_d dX8_meter_all0 11 rfl
theorem dX8_meter_23 : decode cX8_meter 23 = .ok (.iconst 3, 1) := all_d dX8_meter_all0 12 rfl
theorem dX8_meter_24 : decode cX8_meter 24 = .ok (.goto 4, 3) := all_d dX8_meter_all0 13 rfl
theorem dX8_meter_27 : decode cX8_meter 27 = .ok (.iconst 0, 1) := all_d dX8_meter_all0 14 rfl
theorem dX8_meter_28 : decode cX8_meter 28 = .ok (.putfield 66, 3) := all_d dX8_meter_all0 15 rfl
theorem dX8_meter_31 : decode cX8_meter 31 = .ok (.aload_n 0, 1) := all_d dX8_meter_all0 16 rfl
theorem dX8_meter_32 : decode cX8_meter 32 = .ok (.getfield 66, 3) := all_d dX8_meter_all0 17 rfl
theorem dX8_meter_35 : decode cX8_meter 35 = .ok (.ifCond .eq 5, 3) := all_d dX8_meter_all0 18 rfl
theorem dX8_meter_38 : decode cX8_meter 38 = .ok (.iconst (-1), 1) := all_d dX8_meter_all0 19 rfl
theorem dX8_meter_39 : decode cX8_meter 39 = .ok (.ireturn, 1) := all_d dX8_meter_all0 20 rfl
theorem dX8_meter_40 : decode cX8_meter 40 = .ok (.aload_n 0, 1) := all_d dX8_meter_all0 21 rfl
theorem dX8_meter_41 : decode cX8_meter 41 = .ok (.iconst 1, 1) := all_d dX8_meter_all0 22 rfl
theorem dX8_meter_42 : decode cX8_meter 42 = .ok (.aload_n 0, 1) := all_d dX8_meter_all0 23 rfl
theorem dX8_meter_43 : decode cX8_meter 43 = .ok (.getfield 60, 3) := all_d dX8_meter_all0 24 rfl
theorem dX8_meter_46 : decode cX8_meter 46 = .ok (.iconst (-1), 1) := all_d dX8_meter_all0 25 rfl
theorem dX8_meter_47 : decode cX8_meter 47 = .ok (.invokevirtual 74, 3) := all_d dX8_meter_all0 26 rfl
theorem dX8_meter_50 : decode cX8_meter 50 = .ok (.pop, 1) := all_d dX8_meter_all0 27 rfl
theorem dX8_meter_51 : decode cX8_meter 51 = .ok (.aload_n 0, 1) := all_d dX8_meter_all0 28 rfl
theorem dX8_meter_52 : decode cX8_meter 52 = .ok (.dup, 1) := all_d dX8_meter_all0 29 rfl
theorem dX8_meter_53 : decode cX8_meter 53 = .ok (.getfield 60, 3) := all_d dX8_meter_all0 30 rfl
theorem dX8_meter_56 : decode cX8_meter 56 = .ok (.iconst 1, 1) := all_d dX8_meter_all0 31 rfl
theorem dX8_meter_57 : decode cX8_meter 57 = .ok (.iadd, 1) := all_d dX8_meter_all0 32 rfl
theorem dX8_meter_58 : decode cX8_meter 58 = .ok (.putfield 60, 3) := all_d dX8_meter_all0 33 rfl
theorem dX8_meter_61 : decode cX8_meter 61 = .ok (.aload_n 0, 1) := all_d dX8_meter_all0 34 rfl
theorem dX8_meter_62 : decode cX8_meter 62 = .ok (.aload_n 0, 1) := all_d dX8_meter_all0 35 rfl
theorem dX8_meter_63 : decode cX8_meter 63 = .ok (.getfield 60, 3) := all_d dX8_meter_all0 36 rfl
theorem dX8_meter_66 : decode cX8_meter 66 = .ok (.iconst 1, 1) := all_d dX8_meter_all0 37 rfl
theorem dX8_meter_67 : decode cX8_meter 67 = .ok (.isub, 1) := all_d dX8_meter_all0 38 rfl
theorem dX8_meter_68 : decode cX8_meter 68 = .ok (.invokevirtual 83, 3) := all_d dX8_meter_all0 39 rfl
theorem dX8_meter_71 : decode cX8_meter 71 = .ok (.astore_n 2, 1) := all_d dX8_meter_all0 40 rfl
theorem dX8_meter_72 : decode cX8_meter 72 = .ok (.aload_n 2, 1) := all_d dX8_meter_all0 41 rfl
theorem dX8_meter_73 : decode cX8_meter 73 = .ok (.ifnull 8, 3) := all_d dX8_meter_all0 42 rfl
theorem dX8_meter_76 : decode cX8_meter 76 = .ok (.aload_n 2, 1) := all_d dX8_meter_all0 43 rfl
theorem dX8_meter_77 : decode cX8_meter 77 = .ok (.iload_n 1, 1) := all_d dX8_meter_all0 44 rfl
theorem dX8_meter_78 : decode cX8_meter 78 = .ok (.invokevirtual 87, 3) := all_d dX8_meter_all0 45 rfl
theorem dX8_meter_81 : decode cX8_meter 81 = .ok (.aload_n 0, 1) := all_d dX8_meter_all0 46 rfl
theorem dX8_meter_82 : decode cX8_meter 82 = .ok (.getfield 60, 3) := all_d dX8_meter_all0 47 rfl
theorem dX8_meter_85 : decode cX8_meter 85 = .ok (.iconst 1, 1) := all_d dX8_meter_all0 48 rfl
theorem dX8_meter_86 : decode cX8_meter 86 = .ok (.isub, 1) := all_d dX8_meter_all0 49 rfl
theorem dX8_meter_87 : decode cX8_meter 87 = .ok (.ireturn, 1) := all_d dX8_meter_all0 50 rfl
set_option maxRecDepth 100000 in
theorem dX8_part_all0 : ([(0, (.aload_n 0 : Instr), 1), (1, (.iload_n 1 : Instr), 1), (2, (.invokevirtual 83 : Instr), 3), (5, (.astore 4 : Instr), 2), (7, (.aload_n 0 : Instr), 1), (8, (.aload 4 : Instr), 2), (10, (.iload_n 2 : Instr), 1), (11, (.iload_n 3 : Instr), 1), (12, (.invokestatic 91 : Instr), 3), (15, (.putfield 66 : Instr), 3), (18, (.aload 4 : Instr), 2), (20, (.ifnull 10 : Instr), 3), (23, (.aload_n 0 : Instr), 1), (24, (.getfield 66 : Instr), 3), (27, (.ifCond .eq 5 : Instr), 3), (30, (.iconst (-1) : Instr), 1), (31, (.ireturn : Instr), 1), (32, (.aload_n 0 : Instr), 1), (33, (.iconst 2 : Instr), 1), (34, (.iload_n 1 : Instr), 1), (35, (.aload 4 : Instr), 2), (37, (.getfield 95 : Instr), 3), (40, (.invokevirtual 74 : Instr), 3), (43, (.astore 5 : Instr), 2), (45, (.aload 5 : Instr), 2), (47, (.ifnull 13 : Instr), 3), (50, (.aload 4 : Instr), 2), (52, (.aload 5 : Instr), 2), (54, (.getfield 98 : Instr), 3), (57, (.invokevirtual 101 : Instr), 3), (60, (.aload 4 : Instr), 2), (62, (.iload_n 2 : Instr), 1), (63, (.iload_n 3 : Instr), 1), (64, (.invokevirtual 105 : Instr), 3), (67, (.aload 4 : Instr), 2), (69, (.getfield 95 : Instr), 3), (72, (.ireturn : Instr), 1)] : List (Nat × Instr × Nat)).all (fun q => decide (decode cX8_part q.1 = .ok (q.2.1, q.2.2))) = true := by decide +kernel
theorem dX8_part_0 : decode cX8_part 0 = .ok (.aload_n 0, 1) := all_d dX8_part_all0 0 rfl
theorem dX8_part_1 : decode cX8_part 1 = .ok (.iload_n 1, 1) := all_d dX8_part_all0 1 rfl
theorem dX8_part_2 : decode cX8_part 2 = .ok (.invokevirtual 83, 3) := all_d dX8_part_all0 2 rfl
theorem dX8_part_5 : decode cX8_part 5 = .ok (.astore 4, 2) := all_d dX8_part_all0 3 rfl
theorem dX8_part_7 : decode cX8_part 7 = .ok (.aload_n 0, 1) := all_d dX8_part_all0 4 rfl
theorem dX8_part_8 : decode cX8_part 8 = .ok (.aload 4, 2) := all_d dX8_part_all0 5 rfl
theorem dX8_part_10 : decode cX8_part 10 = .ok (.iload_n 2, 1) := all_d dX8_part_all0 6 rfl
theorem dX8_part_11 : decode cX8_part 11 = .ok (.iload_n 3, 1) := all_d dX8_part_all0 7 rfl
theorem dX8_part_12 : decode cX8_part 12 = .ok (.invokestatic 91, 3) := all_d dX8_part_all0 8 rfl
theorem dX8_part_15 : decode cX8_part 15 = .ok (.putfield 66, 3) := all_d dX8_part_all0 9 rfl
theorem dX8_part_18 : decode cX8_part 18 = .ok (.aload 4, 2) := all_d dX8_part_all0 10 rfl
theorem dX8_part_20 : decode cX8_part 20 = .ok (.ifnull 10, 3) := all_d dX8_part_all0 11 rfl
theorem dX8_part_23 : decode cX8_part 23 = .ok (.aload_n 0, 1) := all_d dX8_part_all0 12 rfl
theorem dX8_part_24 : decode cX8_part 24 = .ok (.getfield 66, 3) := all_d dX8_part_all0 13 rfl
theorem dX8_part_27 : decode cX8_part 27 = .ok (.ifCond .eq 5, 3) := all_d dX8_part_all0 14 rfl
theorem dX8_part_30 : decode cX8_part 30 = .ok (.iconst (-1), 1) := all_d dX8_part_all0 15 rfl
theorem dX8_part_31 : decode cX8_part 31 = .ok (.ireturn, 1) := all_d dX8_part_all0 16 rfl
theorem dX8_part_32 : decode cX8_part 32 = .ok (.aload_n 0, 1) := all_d dX8_part_all0 17 rfl
theorem dX8_part_33 : decode cX8_part 33 = .ok (.iconst 2, 1) := all_d dX8_part_all0 18 rfl
theorem dX8_part_34 : decode cX8_part 34 = .ok (.iload_n 1, 1) := all_d dX8_part_all0 19 rfl
theorem dX8_part_35 : decode cX8_part 35 = .ok (.aload 4, 2) := all_d dX8_part_all0 20 rfl
theorem dX8_part_37 : decode cX8_part 37 = .ok (.getfield 95, 3) := all_d dX8_part_all0 21 rfl
theorem dX8_part_40 : decode cX8_part 40 = .ok (.invokevirtual 74, 3) := all_d dX8_part_all0 22 rfl
theorem dX8_part_43 : decode cX8_part 43 = .ok (.astore 5, 2) := all_d dX8_part_all0 23 rfl
theorem dX8_part_45 : decode cX8_part 45 = .ok (.aload 5, 2) := all_d dX8_part_all0 24 rfl
theorem dX8_part_47 : decode cX8_part 47 = .ok (.ifnull 13, 3) := all_d dX8_part_all0 25 rfl
theorem dX8_part_50 : decode cX8_part 50 = .ok (.aload 4, 2) := all_d dX8_part_all0 26 rfl
theorem dX8_part_52 : decode cX8_part 52 = .ok (.aload 5, 2) := all_d dX8_part_all0 27 rfl
theorem dX8_part_54 : decode cX8_part 54 = .ok (.getfield 98, 3) := all_d dX8_part_all0 28 rfl
theorem dX8_part_57 : decode cX8_part 57 = .ok (.invokevirtual 101, 3) := all_d dX8_part_all0 29 rfl
theorem dX8_part_60 : decode cX8_part 60 = .ok (.aload 4, 2) := all_d dX8_part_all0 30 rfl
theorem dX8_part_62 : decode cX8_part 62 = .ok (.iload_n 2, 1) := all_d dX8_part_all0 31 rfl
theorem dX8_part_63 : decode cX8_part 63 = .ok (.iload_n 3, 1) := all_d dX8_part_all0 32 rfl
theorem dX8_part_64 : decode cX8_part 64 = .ok (.invokevirtual 105, 3) := all_d dX8_part_all0 33 rfl
theorem dX8_part_67 : decode cX8_part 67 = .ok (.aload 4, 2) := all_d dX8_part_all0 34 rfl
theorem dX8_part_69 : decode cX8_part 69 = .ok (.getfield 95, 3) := all_d dX8_part_all0 35 rfl
theorem dX8_part_72 : decode cX8_part 72 = .ok (.ireturn, 1) := all_d dX8_part_all0 36 rfl
set_option maxRecDepth 100000 in
theorem dX8_miss_all0 : ([(0, (.aload_n 0 : Instr), 1), (1, (.iload_n 1 : Instr), 1), (2, (.iload_n 2 : Instr), 1), (3, (.invokevirtual 109 : Instr), 3), (6, (.astore 4 : Instr), 2), (8, (.aload_n 0 : Instr), 1), (9, (.aload 4 : Instr), 2), (11, (.ifnonnull 7 : Instr), 3), (14, (.iconst 2 : Instr), 1), (15, (.goto 18 : Instr), 3), (18, (.iload_n 3 : Instr), 1), (19, (.sipush 500 : Instr), 3), (22, (.invokestatic 113 : Instr), 3), (25, (.ifCond .eq 7 : Instr), 3), (28, (.iconst 0 : Instr), 1), (29, (.goto 4 : Instr), 3), (32, (.iconst 1 : Instr), 1), (33, (.putfield 66 : Instr), 3), (36, (.aload 4 : Instr), 2), (38, (.ifnull 10 : Instr), 3), (41, (.aload_n 0 : Instr), 1), (42, (.getfield 66 : Instr), 3), (45, (.ifCond .eq 5 : Instr), 3), (48, (.iconst 0 : Instr), 1), (49, (.ireturn : Instr), 1), (50, (.aload_n 0 : Instr), 1), (51, (.iconst 3 : Instr), 1), (52, (.iload_n 1 : Instr), 1), (53, (.iload_n 2 : Instr), 1), (54, (.invokevirtual 74 : Instr), 3), (57, (.astore 5 : Instr), 2), (59, (.aload 5 : Instr), 2), (61, (.ifnull 13 : Instr), 3), (64, (.aload 5 : Instr), 2), (66, (.aload 4 : Instr), 2), (68, (.getfield 117 : Instr), 3), (71, (.putfield 78 : Instr), 3), (74, (.aload 4 : Instr), 2), (76, (.iload_n 3 : Instr), 1), (77, (.putfield 117 : Instr), 3), (80, (.iconst 1 : Instr), 1), (81, (.ireturn : Instr), 1)] : List (Nat × Instr × Nat)).all (fun q => decide (decode cX8_miss q.1 = .ok (q.2.1, q.2.2))) = true := by decide +kernel
theorem dX8_miss_0 : decode cX8_miss 0 = .ok (.aload_n 0, 1) := all_d dX8_miss_all0 0 rfl
theorem dX8_miss_1 : decode cX8_miss 1 = .ok (.iload_n 1, 1) := all_d dX8_miss_all0 1 rfl
theorem dX8_miss_2 : decode cX8_miss 2 = .ok (.iload_n 2, 1) := all_d dX8_miss_all0 2 rfl
theorem dX8_miss_3 : decode cX8_miss 3 = .ok (.invokevirtual 109, 3) := all_d dX8_miss_all0 3 rfl
theorem dX8_miss_6 : decode cX8_miss 6 = .ok (.astore 4, 2) := all_d dX8_miss_all0 4 rfl
theorem dX8_miss_8 : decode cX8_miss 8 = .ok (.aload_n 0, 1) := all_d dX8_miss_all0 5 rfl
theorem dX8_miss_9 : decode cX8_miss 9 = .ok (.aload 4, 2) := all_d dX8_miss_all0 6 rfl
theorem dX8_miss_11 : decode cX8_miss 11 = .ok (.ifnonnull 7, 3) := all_d dX8_miss_all0 7 rfl
theorem dX8_miss_14 : decode cX8_miss 14 = .ok (.iconst 2, 1) := all_d dX8_miss_all0 8 rfl
theorem dX8_miss_15 : decode cX8_miss 15 = .ok (.goto 18, 3) := all_d dX8_miss_all0 9 rfl
theorem dX8_miss_18 : decode cX8_miss 18 = .ok (.iload_n 3, 1) := all_d dX8_miss_all0 10 rfl
theorem dX8_miss_19 : decode cX8_miss 19 = .ok (.sipush 500, 3) := all_d dX8_miss_all0 11 rfl
theorem dX8_miss_22 : decode cX8_miss 22 = .ok (.invokestatic 113, 3) := all_d dX8_miss_all0 12 rfl
theorem dX8_miss_25 : decode cX8_miss 25 = .ok (.ifCond .eq 7, 3) := all_d dX8_miss_all0 13 rfl
theorem dX8_miss_28 : decode cX8_miss 28 = .ok (.iconst 0, 1) := all_d dX8_miss_all0 14 rfl
theorem dX8_miss_29 : decode cX8_miss 29 = .ok (.goto 4, 3) := all_d dX8_miss_all0 15 rfl
theorem dX8_miss_32 : decode cX8_miss 32 = .ok (.iconst 1, 1) := all_d dX8_miss_all0 16 rfl
theorem dX8_miss_33 : decode cX8_miss 33 = .ok (.putfield 66, 3) := all_d dX8_miss_all0 17 rfl
theorem dX8_miss_36 : decode cX8_miss 36 = .ok (.aload 4, 2) := all_d dX8_miss_all0 18 rfl
theorem dX8_miss_38 : decode cX8_miss 38 = .ok (.ifnull 10, 3) := all_d dX8_miss_all0 19 rfl
theorem dX8_miss_41 : decode cX8_miss 41 = .ok (.aload_n 0, 1) := all_d dX8_miss_all0 20 rfl
theorem dX8_miss_42 : decode cX8_miss 42 = .ok (.getfield 66, 3) := all_d dX8_miss_all0 21 rfl
theorem dX8_miss_45 : decode cX8_miss 45 = .ok (.ifCond .eq 5, 3) := all_d dX8_miss_all0 22 rfl
theorem dX8_miss_48 : decode cX8_miss 48 = .ok (.iconst 0, 1) := all_d dX8_miss_all0 23 rfl
theorem dX8_miss_49 : decode cX8_miss 49 = .ok (.ireturn, 1) := all_d dX8_miss_all0 24 rfl
theorem dX8_miss_50 : decode cX8_miss 50 = .ok (.aload_n 0, 1) := all_d dX8_miss_all0 25 rfl
theorem dX8_miss_51 : decode cX8_miss 51 = .ok (.iconst 3, 1) := all_d dX8_miss_all0 26 rfl
theorem dX8_miss_52 : decode cX8_miss 52 = .ok (.iload_n 1, 1) := all_d dX8_miss_all0 27 rfl
theorem dX8_miss_53 : decode cX8_miss 53 = .ok (.iload_n 2, 1) := all_d dX8_miss_all0 28 rfl
theorem dX8_miss_54 : decode cX8_miss 54 = .ok (.invokevirtual 74, 3) := all_d dX8_miss_all0 29 rfl
theorem dX8_miss_57 : decode cX8_miss 57 = .ok (.astore 5, 2) := all_d dX8_miss_all0 30 rfl
theorem dX8_miss_59 : decode cX8_miss 59 = .ok (.aload 5, 2) := all_d dX8_miss_all0 31 rfl
theorem dX8_miss_61 : decode cX8_miss 61 = .ok (.ifnull 13, 3) := all_d dX8_miss_all0 32 rfl
theorem dX8_miss_64 : decode cX8_miss 64 = .ok (.aload 5, 2) := all_d dX8_miss_all0 33 rfl
theorem dX8_miss_66 : decode cX8_miss 66 = .ok (.aload 4, 2) := all_d dX8_miss_all0 34 rfl
theorem dX8_miss_68 : decode cX8_miss 68 = .ok (.getfield 117, 3) := all_d dX8_miss_all0 35 rfl
theorem dX8_miss_71 : decode cX8_miss 71 = .ok (.putfield 78, 3) := all_d dX8_miss_all0 36 rfl
theorem dX8_miss_74 : decode cX8_miss 74 = .ok (.aload 4, 2) := all_d dX8_miss_all0 37 rfl
theorem dX8_miss_76 : decode cX8_miss 76 = .ok (.iload_n 3, 1) := all_d dX8_miss_all0 38 rfl
theorem dX8_miss_77 : decode cX8_miss 77 = .ok (.putfield 117, 3) := all_d dX8_miss_all0 39 rfl
theorem dX8_miss_80 : decode cX8_miss 80 = .ok (.iconst 1, 1) := all_d dX8_miss_all0 40 rfl
theorem dX8_miss_81 : decode cX8_miss 81 = .ok (.ireturn, 1) := all_d dX8_miss_all0 41 rfl
set_option maxRecDepth 100000 in
theorem dX8_worth_all0 : ([(0, (.aload_n 0 : Instr), 1), (1, (.iload_n 1 : Instr), 1), (2, (.invokevirtual 83 : Instr), 3), (5, (.astore 4 : Instr), 2), (7, (.aload_n 0 : Instr), 1), (8, (.iload_n 1 : Instr), 1), (9, (.iload_n 2 : Instr), 1), (10, (.invokevirtual 109 : Instr), 3), (13, (.astore 5 : Instr), 2), (15, (.aload_n 0 : Instr), 1), (16, (.aload 4 : Instr), 2), (18, (.ifnull 8 : Instr), 3), (21, (.aload 5 : Instr), 2), (23, (.ifnonnull 7 : Instr), 3), (26, (.iconst 2 : Instr), 1), (27, (.goto 39 : Instr), 3), (30, (.aload 4 : Instr), 2), (32, (.getfield 122 : Instr), 3), (35, (.ifCond .eq 12 : Instr), 3), (38, (.aload 4 : Instr), 2), (40, (.getfield 122 : Instr), 3), (43, (.iconst 1 : Instr), 1), (44, (.if_icmp .ne 7 : Instr), 3), (47, (.iconst 4 : Instr), 1), (48, (.goto 18 : Instr), 3), (51, (.iload_n 3 : Instr), 1), (52, (.sipush 8000 : Instr), 3), (55, (.invokestatic 113 : Instr), 3), (58, (.ifCond .eq 7 : Instr), 3), (61, (.iconst 0 : Instr), 1), (62, (.goto 4 : Instr), 3), (65, (.iconst 1 : Instr), 1), (66, (.putfield 66 : Instr), 3), (69, (.aload 5 : Instr), 2), (71, (.ifnull 10 : Instr), 3), (74, (.aload_n 0 : Instr), 1), (75, (.getfield 66 : Instr), 3), (78, (.ifCond .eq 5 : Instr), 3), (81, (.iconst 0 : Instr), 1), (82, (.ireturn : Instr), 1), (83, (.aload_n 0 : Instr), 1), (84, (.iconst 4 : Instr), 1), (85, (.iload_n 1 : Instr), 1), (86, (.iload_n 2 : Instr), 1), (87, (.invokevirtual 74 : Instr), 3), (90, (.astore 6 : Instr), 2), (92, (.aload 6 : Instr), 2), (94, (.ifnull 13 : Instr), 3), (97, (.aload 6 : Instr), 2), (99, (.aload 5 : Instr), 2), (101, (.getfield 125 : Instr), 3), (104, (.putfield 78 : Instr), 3), (107, (.aload 5 : Instr), 2), (109, (.iload_n 3 : Instr), 1), (110, (.putfield 125 : Instr), 3), (113, (.iconst 1 : Instr), 1), (114, (.ireturn : Instr), 1)] : List (Nat × Instr × Nat)).all (fun q => decide (decode cX8_worth q.1 = .ok (q.2.1, q.2.2))) = true := by decide +kernel
theorem dX8_worth_0 : decode cX8_worth 0 = .ok (.aload_n 0, 1) := all_d dX8_worth_all0 0 rfl
theorem dX8_worth_1 : decode cX8_worth 1 = .ok (.iload_n 1, 1) := all_d dX8_worth_all0 1 rfl
theorem dX8_worth_2 : decode cX8_worth 2 = .ok (.invokevirtual 83, 3) := all_d dX8_worth_all0 2 rfl
theorem dX8_worth_5 : decode cX8_worth 5 = .ok (.astore 4, 2) := all_d dX8_worth_all0 3 rfl
theorem dX8_worth_7 : decode cX8_worth 7 = .ok (.aload_n 0, 1) := all_d dX8_worth_all0 4 rfl
theorem dX8_worth_8 : decode cX8_worth 8 = .ok (.iload_n 1, 1) := all_d dX8_worth_all0 5 rfl
theorem dX8_worth_9 : decode cX8_worth 9 = .ok (.iload_n 2, 1) := all_d dX8_worth_all0 6 rfl
theorem dX8_worth_10 : decode cX8_worth 10 = .ok (.invokevirtual 109, 3) := all_d dX8_worth_all0 7 rfl
theorem dX8_worth_13 : decode cX8_worth 13 = .ok (.astore 5, 2) := all_d dX8_worth_all0 8 rfl
theorem dX8_worth_15 : decode cX8_worth 15 = .ok (.aload_n 0, 1) := all_d dX8_worth_all0 9 rfl
theorem dX8_worth_16 : decode cX8_worth 16 = .ok (.aload 4, 2) := all_d dX8_worth_all0 10 rfl
theorem dX8_worth_18 : decode cX8_worth 18 = .ok (.ifnull 8, 3) := all_d dX8_worth_all0 11 rfl
theorem dX8_worth_21 : decode cX8_worth 21 = .ok (.aload 5, 2) := all_d dX8_worth_all0 12 rfl
theorem dX8_worth_23 : decode cX8_worth 23 = .ok (.ifnonnull 7, 3) := all_d dX8_worth_all0 13 rfl
theorem dX8_worth_26 : decode cX8_worth 26 = .ok (.iconst 2, 1) := all_d dX8_worth_all0 14 rfl
theorem dX8_worth_27 : decode cX8_worth 27 = .ok (.goto 39, 3) := all_d dX8_worth_all0 15 rfl
theorem dX8_worth_30 : decode cX8_worth 30 = .ok (.aload 4, 2) := all_d dX8_worth_all0 16 rfl
theorem dX8_worth_32 : decode cX8_worth 32 = .ok (.getfield 122, 3) := all_d dX8_worth_all0 17 rfl
theorem dX8_worth_35 : decode cX8_worth 35 = .ok (.ifCond .eq 12, 3) := all_d dX8_worth_all0 18 rfl
theorem dX8_worth_38 : decode cX8_worth 38 = .ok (.aload 4, 2) := all_d dX8_worth_all0 19 rfl
theorem dX8_worth_40 : decode cX8_worth 40 = .ok (.getfield 122, 3) := all_d dX8_worth_all0 20 rfl
theorem dX8_worth_43 : decode cX8_worth 43 = .ok (.iconst 1, 1) := all_d dX8_worth_all0 21 rfl
theorem dX8_worth_44 : decode cX8_worth 44 = .ok (.if_icmp .ne 7, 3) := all_d dX8_worth_all0 22 rfl
theorem dX8_worth_47 : decode cX8_worth 47 = .ok (.iconst 4, 1) := all_d dX8_worth_all0 23 rfl
theorem dX8_worth_48 : decode cX8_worth 48 = .ok (.goto 18, 3) := all_d dX8_worth_all0 24 rfl
theorem dX8_worth_51 : decode cX8_worth 51 = .ok (.iload_n 3, 1) := all_d dX8_worth_all0 25 rfl
theorem dX8_worth_52 : decode cX8_worth 52 = .ok (.sipush 8000, 3) := all_d dX8_worth_all0 26 rfl
theorem dX8_worth_55 : decode cX8_worth 55 = .ok (.invokestatic 113, 3) := all_d dX8_worth_all0 27 rfl
theorem dX8_worth_58 : decode cX8_worth 58 = .ok (.ifCond .eq 7, 3) := all_d dX8_worth_all0 28 rfl
theorem dX8_worth_61 : decode cX8_worth 61 = .ok (.iconst 0, 1) := all_d dX8_worth_all0 29 rfl
theorem dX8_worth_62 : decode cX8_worth 62 = .ok (.goto 4, 3) := all_d dX8_worth_all0 30 rfl
theorem dX8_worth_65 : decode cX8_worth 65 = .ok (.iconst 1, 1) := all_d dX8_worth_all0 31 rfl
theorem dX8_worth_66 : decode cX8_worth 66 = .ok (.putfield 66, 3) := all_d dX8_worth_all0 32 rfl
theorem dX8_worth_69 : decode cX8_worth 69 = .ok (.aload 5, 2) := all_d dX8_worth_all0 33 rfl
theorem dX8_worth_71 : decode cX8_worth 71 = .ok (.ifnull 10, 3) := all_d dX8_worth_all0 34 rfl
theorem dX8_worth_74 : decode cX8_worth 74 = .ok (.aload_n 0, 1) := all_d dX8_worth_all0 35 rfl
theorem dX8_worth_75 : decode cX8_worth 75 = .ok (.getfield 66, 3) := all_d dX8_worth_all0 36 rfl
theorem dX8_worth_78 : decode cX8_worth 78 = .ok (.ifCond .eq 5, 3) := all_d dX8_worth_all0 37 rfl
theorem dX8_worth_81 : decode cX8_worth 81 = .ok (.iconst 0, 1) := all_d dX8_worth_all0 38 rfl
theorem dX8_worth_82 : decode cX8_worth 82 = .ok (.ireturn, 1) := all_d dX8_worth_all0 39 rfl
theorem dX8_worth_83 : decode cX8_worth 83 = .ok (.aload_n 0, 1) := all_d dX8_worth_all0 40 rfl
theorem dX8_worth_84 : decode cX8_worth 84 = .ok (.iconst 4, 1) := all_d dX8_worth_all0 41 rfl
theorem dX8_worth_85 : decode cX8_worth 85 = .ok (.iload_n 1, 1) := all_d dX8_worth_all0 42 rfl
theorem dX8_worth_86 : decode cX8_worth 86 = .ok (.iload_n 2, 1) := all_d dX8_worth_all0 43 rfl
theorem dX8_worth_87 : decode cX8_worth 87 = .ok (.invokevirtual 74, 3) := all_d dX8_worth_all0 44 rfl
theorem dX8_worth_90 : decode cX8_worth 90 = .ok (.astore 6, 2) := all_d dX8_worth_all0 45 rfl
theorem dX8_worth_92 : decode cX8_worth 92 = .ok (.aload 6, 2) := all_d dX8_worth_all0 46 rfl
theorem dX8_worth_94 : decode cX8_worth 94 = .ok (.ifnull 13, 3) := all_d dX8_worth_all0 47 rfl
theorem dX8_worth_97 : decode cX8_worth 97 = .ok (.aload 6, 2) := all_d dX8_worth_all0 48 rfl
theorem dX8_worth_99 : decode cX8_worth 99 = .ok (.aload 5, 2) := all_d dX8_worth_all0 49 rfl
theorem dX8_worth_101 : decode cX8_worth 101 = .ok (.getfield 125, 3) := all_d dX8_worth_all0 50 rfl
theorem dX8_worth_104 : decode cX8_worth 104 = .ok (.putfield 78, 3) := all_d dX8_worth_all0 51 rfl
theorem dX8_worth_107 : decode cX8_worth 107 = .ok (.aload 5, 2) := all_d dX8_worth_all0 52 rfl
theorem dX8_worth_109 : decode cX8_worth 109 = .ok (.iload_n 3, 1) := all_d dX8_worth_all0 53 rfl
theorem dX8_worth_110 : decode cX8_worth 110 = .ok (.putfield 125, 3) := all_d dX8_worth_all0 54 rfl
theorem dX8_worth_113 : decode cX8_worth 113 = .ok (.iconst 1, 1) := all_d dX8_worth_all0 55 rfl
theorem dX8_worth_114 : decode cX8_worth 114 = .ok (.ireturn, 1) := all_d dX8_worth_all0 56 rfl
set_option maxRecDepth 100000 in
theorem dX8_partOf_all0 : ([(0, (.aload_n 0 : Instr), 1), (1, (.iload_n 1 : Instr), 1), (2, (.iload_n 2 : Instr), 1), (3, (.invokevirtual 109 : Instr), 3), (6, (.astore 4 : Instr), 2), (8, (.aload 4 : Instr), 2), (10, (.ifnonnull 7 : Instr), 3), (13, (.sipush (-10000) : Instr), 3), (16, (.ireturn : Instr), 1), (17, (.iload_n 3 : Instr), 1), (18, (.tableswitch 54 0 3 #[30, 36, 42, 48] : Instr), 30), (48, (.aload 4 : Instr), 2), (50, (.getfield 128 : Instr), 3), (53, (.ireturn : Instr), 1), (54, (.aload 4 : Instr), 2), (56, (.getfield 117 : Instr), 3), (59, (.ireturn : Instr), 1), (60, (.aload 4 : Instr), 2), (62, (.getfield 125 : Instr), 3), (65, (.ireturn : Instr), 1), (66, (.aload 4 : Instr), 2), (68, (.getfield 131 : Instr), 3), (71, (.ireturn : Instr), 1), (72, (.sipush (-10000) : Instr), 3), (75, (.ireturn : Instr), 1)] : List (Nat × Instr × Nat)).all (fun q => decide (decode cX8_partOf q.1 = .ok (q.2.1, q.2.2))) = true := by decide +kernel
theorem dX8_partOf_0 : decode cX8_partOf 0 = .ok (.aload_n 0, 1) := all_d dX8_partOf_all0 0 rfl
theorem dX8_partOf_1 : decode cX8_partOf 1 = .ok (.iload_n 1, 1) := all_d dX8_partOf_all0 1 rfl
theorem dX8_partOf_2 : decode cX8_partOf 2 = .ok (.iload_n 2, 1) := all_d dX8_partOf_all0 2 rfl
theorem dX8_partOf_3 : decode cX8_partOf 3 = .ok (.invokevirtual 109, 3) := all_d dX8_partOf_all0 3 rfl
theorem dX8_partOf_6 : decode cX8_partOf 6 = .ok (.astore 4, 2) := all_d dX8_partOf_all0 4 rfl
theorem dX8_partOf_8 : decode cX8_partOf 8 = .ok (.aload 4, 2) := all_d dX8_partOf_all0 5 rfl
theorem dX8_partOf_10 : decode cX8_partOf 10 = .ok (.ifnonnull 7, 3) := all_d dX8_partOf_all0 6 rfl
theorem dX8_partOf_13 : decode cX8_partOf 13 = .ok (.sipush (-10000), 3) := all_d dX8_partOf_all0 7 rfl
theorem dX8_partOf_16 : decode cX8_partOf 16 = .ok (.ireturn, 1) := all_d dX8_partOf_all0 8 rfl
theorem dX8_partOf_17 : decode cX8_partOf 17 = .ok (.iload_n 3, 1) := all_d dX8_partOf_all0 9 rfl
theorem dX8_partOf_18 : decode cX8_partOf 18 = .ok (.tableswitch 54 0 3 #[30, 36, 42, 48], 30) := all_d dX8_partOf_all0 10 rfl
theorem dX8_partOf_48 : decode cX8_partOf 48 = .ok (.aload 4, 2) := all_d dX8_partOf_all0 11 rfl
theorem dX8_partOf_50 : decode cX8_partOf 50 = .ok (.getfield 128, 3) := all_d dX8_partOf_all0 12 rfl
theorem dX8_partOf_53 : decode cX8_partOf 53 = .ok (.ireturn, 1) := all_d dX8_partOf_all0 13 rfl
theorem dX8_partOf_54 : decode cX8_partOf 54 = .ok (.aload 4, 2) := all_d dX8_partOf_all0 14 rfl
theorem dX8_partOf_56 : decode cX8_partOf 56 = .ok (.getfield 117, 3) := all_d dX8_partOf_all0 15 rfl
theorem dX8_partOf_59 : decode cX8_partOf 59 = .ok (.ireturn, 1) := all_d dX8_partOf_all0 16 rfl
theorem dX8_partOf_60 : decode cX8_partOf 60 = .ok (.aload 4, 2) := all_d dX8_partOf_all0 17 rfl
theorem dX8_partOf_62 : decode cX8_partOf 62 = .ok (.getfield 125, 3) := all_d dX8_partOf_all0 18 rfl
theorem dX8_partOf_65 : decode cX8_partOf 65 = .ok (.ireturn, 1) := all_d dX8_partOf_all0 19 rfl
theorem dX8_partOf_66 : decode cX8_partOf 66 = .ok (.aload 4, 2) := all_d dX8_partOf_all0 20 rfl
theorem dX8_partOf_68 : decode cX8_partOf 68 = .ok (.getfield 131, 3) := all_d dX8_partOf_all0 21 rfl
theorem dX8_partOf_71 : decode cX8_partOf 71 = .ok (.ireturn, 1) := all_d dX8_partOf_all0 22 rfl
theorem dX8_partOf_72 : decode cX8_partOf 72 = .ok (.sipush (-10000), 3) := all_d dX8_partOf_all0 23 rfl
theorem dX8_partOf_75 : decode cX8_partOf 75 = .ok (.ireturn, 1) := all_d dX8_partOf_all0 24 rfl
set_option maxRecDepth 100000 in
theorem dX8_kind_all0 : ([(0, (.aload_n 0 : Instr), 1), (1, (.iload_n 1 : Instr), 1), (2, (.invokevirtual 83 : Instr), 3), (5, (.astore_n 3 : Instr), 1), (6, (.aload_n 3 : Instr), 1), (7, (.ifnull 12 : Instr), 3), (10, (.iload_n 2 : Instr), 1), (11, (.ifCond .lt 8 : Instr), 3), (14, (.iload_n 2 : Instr), 1), (15, (.iconst 1 : Instr), 1), (16, (.if_icmp .le 5 : Instr), 3), (19, (.iconst (-1) : Instr), 1), (20, (.ireturn : Instr), 1), (21, (.iload_n 2 : Instr), 1), (22, (.ifCond .ne 10 : Instr), 3), (25, (.aload_n 3 : Instr), 1), (26, (.getfield 122 : Instr), 3), (29, (.goto 7 : Instr), 3), (32, (.aload_n 3 : Instr), 1), (33, (.getfield 95 : Instr), 3), (36, (.ireturn : Instr), 1)] : List (Nat × Instr × Nat)).all (fun q => decide (decode cX8_kind q.1 = .ok (q.2.1, q.2.2))) = true := by decide +kernel
theorem dX8_kind_0 : decode cX8_kind 0 = .ok (.aload_n 0, 1) := all_d dX8_kind_all0 0 rfl
theorem dX8_kind_1 : decode cX8_kind 1 = .ok (.iload_n 1, 1) := all_d dX8_kind_all0 1 rfl
theorem dX8_kind_2 : decode cX8_kind 2 = .ok (.invokevirtual 83, 3) := all_d dX8_kind_all0 2 rfl
theorem dX8_kind_5 : decode cX8_kind 5 = .ok (.astore_n 3, 1) := all_d dX8_kind_all0 3 rfl
theorem dX8_kind_6 : decode cX8_kind 6 = .ok (.aload_n 3, 1) := all_d dX8_kind_all0 4 rfl
theorem dX8_kind_7 : decode cX8_kind 7 = .ok (.ifnull 12, 3) := all_d dX8_kind_all0 5 rfl
theorem dX8_kind_10 : decode cX8_kind 10 = .ok (.iload_n 2, 1) := all_d dX8_kind_all0 6 rfl
theorem dX8_kind_11 : decode cX8_kind 11 = .ok (.ifCond .lt 8, 3) := all_d dX8_kind_all0 7 rfl
theorem dX8_kind_14 : decode cX8_kind 14 = .ok (.iload_n 2, 1) := all_d dX8_kind_all0 8 rfl
theorem dX8_kind_15 : decode cX8_kind 15 = .ok (.iconst 1, 1) := all_d dX8_kind_all0 9 rfl
theorem dX8_kind_16 : decode cX8_kind 16 = .ok (.if_icmp .le 5, 3) := all_d dX8_kind_all0 10 rfl
theorem dX8_kind_19 : decode cX8_kind 19 = .ok (.iconst (-1), 1) := all_d dX8_kind_all0 11 rfl
theorem dX8_kind_20 : decode cX8_kind 20 = .ok (.ireturn, 1) := all_d dX8_kind_all0 12 rfl
theorem dX8_kind_21 : decode cX8_kind 21 = .ok (.iload_n 2, 1) := all_d dX8_kind_all0 13 rfl
theorem dX8_kind_22 : decode cX8_kind 22 = .ok (.ifCond .ne 10, 3) := all_d dX8_kind_all0 14 rfl
theorem dX8_kind_25 : decode cX8_kind 25 = .ok (.aload_n 3, 1) := all_d dX8_kind_all0 15 rfl
theorem dX8_kind_26 : decode cX8_kind 26 = .ok (.getfield 122, 3) := all_d dX8_kind_all0 16 rfl
theorem dX8_kind_29 : decode cX8_kind 29 = .ok (.goto 7, 3) := all_d dX8_kind_all0 17 rfl
theorem dX8_kind_32 : decode cX8_kind 32 = .ok (.aload_n 3, 1) := all_d dX8_kind_all0 18 rfl
theorem dX8_kind_33 : decode cX8_kind 33 = .ok (.getfield 95, 3) := all_d dX8_kind_all0 19 rfl
theorem dX8_kind_36 : decode cX8_kind 36 = .ok (.ireturn, 1) := all_d dX8_kind_all0 20 rfl
set_option maxRecDepth 100000 in
theorem dX8_read_all0 : ([(0, (.aload_n 0 : Instr), 1), (1, (.iload_n 1 : Instr), 1), (2, (.invokevirtual 83 : Instr), 3), (5, (.astore_n 3 : Instr), 1), (6, (.aload_n 3 : Instr), 1), (7, (.ifnull 11 : Instr), 3), (10, (.aload_n 0 : Instr), 1), (11, (.iload_n 2 : Instr), 1), (12, (.invokevirtual 134 : Instr), 3), (15, (.ifCond .ne 8 : Instr), 3), (18, (.ldc 138 : Instr), 2), (20, (.goto 8 : Instr), 3), (23, (.aload_n 3 : Instr), 1), (24, (.iload_n 2 : Instr), 1), (25, (.invokevirtual 139 : Instr), 3), (28, (.ireturn : Instr), 1)] : List (Nat × Instr × Nat)).all (fun q => decide (decode cX8_read q.1 = .ok (q.2.1, q.2.2))) = true := by decide +kernel
theorem dX8_read_0 : decode cX8_read 0 = .ok (.aload_n 0, 1) := all_d dX8_read_all0 0 rfl
theorem dX8_read_1 : decode cX8_read 1 = .ok (.iload_n 1, 1) := all_d dX8_read_all0 1 rfl
theorem dX8_read_2 : decode cX8_read 2 = .ok (.invokevirtual 83, 3) := all_d dX8_read_all0 2 rfl
theorem dX8_read_5 : decode cX8_read 5 = .ok (.astore_n 3, 1) := all_d dX8_read_all0 3 rfl
theorem dX8_read_6 : decode cX8_read 6 = .ok (.aload_n 3, 1) := all_d dX8_read_all0 4 rfl
theorem dX8_read_7 : decode cX8_read 7 = .ok (.ifnull 11, 3) := all_d dX8_read_all0 5 rfl
theorem dX8_read_10 : decode cX8_read 10 = .ok (.aload_n 0, 1) := all_d dX8_read_all0 6 rfl
theorem dX8_read_11 : decode cX8_read 11 = .ok (.iload_n 2, 1) := all_d dX8_read_all0 7 rfl
theorem dX8_read_12 : decode cX8_read 12 = .ok (.invokevirtual 134, 3) := all_d dX8_read_all0 8 rfl
theorem dX8_read_15 : decode cX8_read 15 = .ok (.ifCond .ne 8, 3) := all_d dX8_read_all0 9 rfl
theorem dX8_read_18 : decode cX8_read 18 = .ok (.ldc 138, 2) := all_d dX8_read_all0 10 rfl
theorem dX8_read_20 : decode cX8_read 20 = .ok (.goto 8, 3) := all_d dX8_read_all0 11 rfl
theorem dX8_read_23 : decode cX8_read 23 = .ok (.aload_n 3, 1) := all_d dX8_read_all0 12 rfl
theorem dX8_read_24 : decode cX8_read 24 = .ok (.iload_n 2, 1) := all_d dX8_read_all0 13 rfl
theorem dX8_read_25 : decode cX8_read 25 = .ok (.invokevirtual 139, 3) := all_d dX8_read_all0 14 rfl
theorem dX8_read_28 : decode cX8_read 28 = .ok (.ireturn, 1) := all_d dX8_read_all0 15 rfl
set_option maxRecDepth 100000 in
theorem dX8_trail_all0 : ([(0, (.aload_n 0 : Instr), 1), (1, (.iload_n 1 : Instr), 1), (2, (.invokevirtual 83 : Instr), 3), (5, (.astore_n 3 : Instr), 1), (6, (.aload_n 3 : Instr), 1), (7, (.ifnull 11 : Instr), 3), (10, (.aload_n 0 : Instr), 1), (11, (.iload_n 2 : Instr), 1), (12, (.invokevirtual 134 : Instr), 3), (15, (.ifCond .ne 5 : Instr), 3), (18, (.iconst (-1) : Instr), 1), (19, (.ireturn : Instr), 1), (20, (.aload_n 3 : Instr), 1), (21, (.iload_n 2 : Instr), 1), (22, (.invokevirtual 139 : Instr), 3), (25, (.pop : Instr), 1), (26, (.aload_n 3 : Instr), 1), (27, (.getfield 143 : Instr), 3), (30, (.ireturn : Instr), 1)] : List (Nat × Instr × Nat)).all (fun q => decide (decode cX8_trail q.1 = .ok (q.2.1, q.2.2))) = true := by decide +kernel
theorem dX8_trail_0 : decode cX8_trail 0 = .ok (.aload_n 0, 1) := all_d dX8_trail_all0 0 rfl
theorem dX8_trail_1 : decode cX8_trail 1 = .ok (.iload_n 1, 1) := all_d dX8_trail_all0 1 rfl
theorem dX8_trail_2 : decode cX8_trail 2 = .ok (.invokevirtual 83, 3) := all_d dX8_trail_all0 2 rfl
theorem dX8_trail_5 : decode cX8_trail 5 = .ok (.astore_n 3, 1) := all_d dX8_trail_all0 3 rfl
theorem dX8_trail_6 : decode cX8_trail 6 = .ok (.aload_n 3, 1) := all_d dX8_trail_all0 4 rfl
theorem dX8_trail_7 : decode cX8_trail 7 = .ok (.ifnull 11, 3) := all_d dX8_trail_all0 5 rfl
theorem dX8_trail_10 : decode cX8_trail 10 = .ok (.aload_n 0, 1) := all_d dX8_trail_all0 6 rfl
theorem dX8_trail_11 : decode cX8_trail 11 = .ok (.iload_n 2, 1) := all_d dX8_trail_all0 7 rfl
theorem dX8_trail_12 : decode cX8_trail 12 = .ok (.invokevirtual 134, 3) := all_d dX8_trail_all0 8 rfl
theorem dX8_trail_15 : decode cX8_trail 15 = .ok (.ifCond .ne 5, 3) := all_d dX8_trail_all0 9 rfl
theorem dX8_trail_18 : decode cX8_trail 18 = .ok (.iconst (-1), 1) := all_d dX8_trail_all0 10 rfl
theorem dX8_trail_19 : decode cX8_trail 19 = .ok (.ireturn, 1) := all_d dX8_trail_all0 11 rfl
theorem dX8_trail_20 : decode cX8_trail 20 = .ok (.aload_n 3, 1) := all_d dX8_trail_all0 12 rfl
theorem dX8_trail_21 : decode cX8_trail 21 = .ok (.iload_n 2, 1) := all_d dX8_trail_all0 13 rfl
theorem dX8_trail_22 : decode cX8_trail 22 = .ok (.invokevirtual 139, 3) := all_d dX8_trail_all0 14 rfl
theorem dX8_trail_25 : decode cX8_trail 25 = .ok (.pop, 1) := all_d dX8_trail_all0 15 rfl
theorem dX8_trail_26 : decode cX8_trail 26 = .ok (.aload_n 3, 1) := all_d dX8_trail_all0 16 rfl
theorem dX8_trail_27 : decode cX8_trail 27 = .ok (.getfield 143, 3) := all_d dX8_trail_all0 17 rfl
theorem dX8_trail_30 : decode cX8_trail 30 = .ok (.ireturn, 1) := all_d dX8_trail_all0 18 rfl
set_option maxRecDepth 100000 in
theorem dX8_rest_all0 : ([(0, (.aload_n 0 : Instr), 1), (1, (.iload_n 1 : Instr), 1), (2, (.invokevirtual 83 : Instr), 3), (5, (.astore_n 3 : Instr), 1), (6, (.aload_n 3 : Instr), 1), (7, (.ifnull 11 : Instr), 3), (10, (.aload_n 0 : Instr), 1), (11, (.iload_n 2 : Instr), 1), (12, (.invokevirtual 134 : Instr), 3), (15, (.ifCond .ne 6 : Instr), 3), (18, (.ldc 138 : Instr), 2), (20, (.ireturn : Instr), 1), (21, (.aload_n 3 : Instr), 1), (22, (.iload_n 2 : Instr), 1), (23, (.invokevirtual 139 : Instr), 3), (26, (.pop : Instr), 1), (27, (.aload_n 3 : Instr), 1), (28, (.getfield 146 : Instr), 3), (31, (.ireturn : Instr), 1)] : List (Nat × Instr × Nat)).all (fun q => decide (decode cX8_rest q.1 = .ok (q.2.1, q.2.2))) = true := by decide +kernel
theorem dX8_rest_0 : decode cX8_rest 0 = .ok (.aload_n 0, 1) := all_d dX8_rest_all0 0 rfl
theorem dX8_rest_1 : decode cX8_rest 1 = .ok (.iload_n 1, 1) := all_d dX8_rest_all0 1 rfl
theorem dX8_rest_2 : decode cX8_rest 2 = .ok (.invokevirtual 83, 3) := all_d dX8_rest_all0 2 rfl
theorem dX8_rest_5 : decode cX8_rest 5 = .ok (.astore_n 3, 1) := all_d dX8_rest_all0 3 rfl
theorem dX8_rest_6 : decode cX8_rest 6 = .ok (.aload_n 3, 1) := all_d dX8_rest_all0 4 rfl
theorem dX8_rest_7 : decode cX8_rest 7 = .ok (.ifnull 11, 3) := all_d dX8_rest_all0 5 rfl
theorem dX8_rest_10 : decode cX8_rest 10 = .ok (.aload_n 0, 1) := all_d dX8_rest_all0 6 rfl
theorem dX8_rest_11 : decode cX8_rest 11 = .ok (.iload_n 2, 1) := all_d dX8_rest_all0 7 rfl
theorem dX8_rest_12 : decode cX8_rest 12 = .ok (.invokevirtual 134, 3) := all_d dX8_rest_all0 8 rfl
theorem dX8_rest_15 : decode cX8_rest 15 = .ok (.ifCond .ne 6, 3) := all_d dX8_rest_all0 9 rfl
theorem dX8_rest_18 : decode cX8_rest 18 = .ok (.ldc 138, 2) := all_d dX8_rest_all0 10 rfl
theorem dX8_rest_20 : decode cX8_rest 20 = .ok (.ireturn, 1) := all_d dX8_rest_all0 11 rfl
theorem dX8_rest_21 : decode cX8_rest 21 = .ok (.aload_n 3, 1) := all_d dX8_rest_all0 12 rfl
theorem dX8_rest_22 : decode cX8_rest 22 = .ok (.iload_n 2, 1) := all_d dX8_rest_all0 13 rfl
theorem dX8_rest_23 : decode cX8_rest 23 = .ok (.invokevirtual 139, 3) := all_d dX8_rest_all0 14 rfl
theorem dX8_rest_26 : decode cX8_rest 26 = .ok (.pop, 1) := all_d dX8_rest_all0 15 rfl
theorem dX8_rest_27 : decode cX8_rest 27 = .ok (.aload_n 3, 1) := all_d dX8_rest_all0 16 rfl
theorem dX8_rest_28 : decode cX8_rest 28 = .ok (.getfield 146, 3) := all_d dX8_rest_all0 17 rfl
theorem dX8_rest_31 : decode cX8_rest 31 = .ok (.ireturn, 1) := all_d dX8_rest_all0 18 rfl
set_option maxRecDepth 100000 in
theorem dX8_spans_all0 : ([(0, (.aload_n 0 : Instr), 1), (1, (.iload_n 1 : Instr), 1), (2, (.invokevirtual 149 : Instr), 3), (5, (.ifCond .eq 13 : Instr), 3), (8, (.aload_n 0 : Instr), 1), (9, (.getfield 18 : Instr), 3), (12, (.invokevirtual 152 : Instr), 3), (15, (.goto 4 : Instr), 3), (18, (.iconst (-1) : Instr), 1), (19, (.ireturn : Instr), 1)] : List (Nat × Instr × Nat)).all (fun q => decide (decode cX8_spans q.1 = .ok (q.2.1, q.2.2))) = true := by decide +kernel
theorem dX8_spans_0 : decode cX8_spans 0 = .ok (.aload_n 0, 1) := all_d dX8_spans_all0 0 rfl
theorem dX8_spans_1 : decode cX8_spans 1 = .ok (.iload_n 1, 1) := all_d dX8_spans_all0 1 rfl
theorem dX8_spans_2 : decode cX8_spans 2 = .ok (.invokevirtual 149, 3) := all_d dX8_spans_all0 2 rfl
theorem dX8_spans_5 : decode cX8_spans 5 = .ok (.ifCond .eq 13, 3) := all_d dX8_spans_all0 3 rfl
theorem dX8_spans_8 : decode cX8_spans 8 = .ok (.aload_n 0, 1) := all_d dX8_spans_all0 4 rfl
theorem dX8_spans_9 : decode cX8_spans 9 = .ok (.getfield 18, 3) := all_d dX8_spans_all0 5 rfl
theorem dX8_spans_12 : decode cX8_spans 12 = .ok (.invokevirtual 152, 3) := all_d dX8_spans_all0 6 rfl
theorem dX8_spans_15 : decode cX8_spans 15 = .ok (.goto 4, 3) := all_d dX8_spans_all0 7 rfl
theorem dX8_spans_18 : decode cX8_spans 18 = .ok (.iconst (-1), 1) := all_d dX8_spans_all0 8 rfl
theorem dX8_spans_19 : decode cX8_spans 19 = .ok (.ireturn, 1) := all_d dX8_spans_all0 9 rfl
set_option maxRecDepth 100000 in
theorem dX8_span_all0 : ([(0, (.iload_n 3 : Instr), 1), (1, (.ifCond .lt 16 : Instr), 3), (4, (.iload_n 3 : Instr), 1), (5, (.iconst 2 : Instr), 1), (6, (.if_icmp .gt 11 : Instr), 3), (9, (.aload_n 0 : Instr), 1), (10, (.iload_n 1 : Instr), 1), (11, (.invokevirtual 156 : Instr), 3), (14, (.ifCond .ne 6 : Instr), 3), (17, (.ldc 138 : Instr), 2), (19, (.ireturn : Instr), 1), (20, (.aload_n 0 : Instr), 1), (21, (.getfield 18 : Instr), 3), (24, (.iload_n 2 : Instr), 1), (25, (.invokevirtual 159 : Instr), 3), (28, (.istore 4 : Instr), 2), (30, (.iload 4 : Instr), 2), (32, (.iconst (-1) : Instr), 1), (33, (.if_icmp .ne 6 : Instr), 3), (36, (.ldc 138 : Instr), 2), (38, (.ireturn : Instr), 1), (39, (.iload_n 3 : Instr), 1), (40, (.ifCond .ne 8 : Instr), 3), (43, (.iload 4 : Instr), 2), (45, (.goto 29 : Instr), 3), (48, (.iload_n 3 : Instr), 1), (49, (.iconst 1 : Instr), 1), (50, (.if_icmp .ne 15 : Instr), 3), (53, (.aload_n 0 : Instr), 1), (54, (.getfield 18 : Instr), 3), (57, (.iload 4 : Instr), 2), (59, (.invokevirtual 162 : Instr), 3), (62, (.goto 12 : Instr), 3), (65, (.aload_n 0 : Instr), 1), (66, (.getfield 18 : Instr), 3), (69, (.iload 4 : Instr), 2), (71, (.invokevirtual 165 : Instr), 3), (74, (.ireturn : Instr), 1)] : List (Nat × Instr × Nat)).all (fun q => decide (decode cX8_span q.1 = .ok (q.2.1, q.2.2))) = true := by decide +kernel
theorem dX8_span_0 : decode cX8_span 0 = .ok (.iload_n 3, 1) := all_d dX8_span_all0 0 rfl
theorem dX8_span_1 : decode cX8_span 1 = .ok (.ifCond .lt 16, 3) := all_d dX8_span_all0 1 rfl
theorem dX8_span_4 : decode cX8_span 4 = .ok (.iload_n 3, 1) := all_d dX8_span_all0 2 rfl
theorem dX8_span_5 : decode cX8_span 5 = .ok (.iconst 2, 1) := all_d dX8_span_all0 3 rfl
theorem dX8_span_6 : decode cX8_span 6 = .ok (.if_icmp .gt 11, 3) := all_d dX8_span_all0 4 rfl
theorem dX8_span_9 : decode cX8_span 9 = .ok (.aload_n 0, 1) := all_d dX8_span_all0 5 rfl
theorem dX8_span_10 : decode cX8_span 10 = .ok (.iload_n 1, 1) := all_d dX8_span_all0 6 rfl
theorem dX8_span_11 : decode cX8_span 11 = .ok (.invokevirtual 156, 3) := all_d dX8_span_all0 7 rfl
theorem dX8_span_14 : decode cX8_span 14 = .ok (.ifCond .ne 6, 3) := all_d dX8_span_all0 8 rfl
theorem dX8_span_17 : decode cX8_span 17 = .ok (.ldc 138, 2) := all_d dX8_span_all0 9 rfl
theorem dX8_span_19 : decode cX8_span 19 = .ok (.ireturn, 1) := all_d dX8_span_all0 10 rfl
theorem dX8_span_20 : decode cX8_span 20 = .ok (.aload_n 0, 1) := all_d dX8_span_all0 11 rfl
theorem dX8_span_21 : decode cX8_span 21 = .ok (.getfield 18, 3) := all_d dX8_span_all0 12 rfl
theorem dX8_span_24 : decode cX8_span 24 = .ok (.iload_n 2, 1) := all_d dX8_span_all0 13 rfl
theorem dX8_span_25 : decode cX8_span 25 = .ok (.invokevirtual 159, 3) := all_d dX8_span_all0 14 rfl
theorem dX8_span_28 : decode cX8_span 28 = .ok (.istore 4, 2) := all_d dX8_span_all0 15 rfl
theorem dX8_span_30 : decode cX8_span 30 = .ok (.iload 4, 2) := all_d dX8_span_all0 16 rfl
theorem dX8_span_32 : decode cX8_span 32 = .ok (.iconst (-1), 1) := all_d dX8_span_all0 17 rfl
theorem dX8_span_33 : decode cX8_span 33 = .ok (.if_icmp .ne 6, 3) := all_d dX8_span_all0 18 rfl
theorem dX8_span_36 : decode cX8_span 36 = .ok (.ldc 138, 2) := all_d dX8_span_all0 19 rfl
theorem dX8_span_38 : decode cX8_span 38 = .ok (.ireturn, 1) := all_d dX8_span_all0 20 rfl
theorem dX8_span_39 : decode cX8_span 39 = .ok (.iload_n 3, 1) := all_d dX8_span_all0 21 rfl
theorem dX8_span_40 : decode cX8_span 40 = .ok (.ifCond .ne 8, 3) := all_d dX8_span_all0 22 rfl
theorem dX8_span_43 : decode cX8_span 43 = .ok (.iload 4, 2) := all_d dX8_span_all0 23 rfl
theorem dX8_span_45 : decode cX8_span 45 = .ok (.goto 29, 3) := all_d dX8_span_all0 24 rfl
theorem dX8_span_48 : decode cX8_span 48 = .ok (.iload_n 3, 1) := all_d dX8_span_all0 25 rfl
theorem dX8_span_49 : decode cX8_span 49 = .ok (.iconst 1, 1) := all_d dX8_span_all0 26 rfl
theorem dX8_span_50 : decode cX8_span 50 = .ok (.if_icmp .ne 15, 3) := all_d dX8_span_all0 27 rfl
theorem dX8_span_53 : decode cX8_span 53 = .ok (.aload_n 0, 1) := all_d dX8_span_all0 28 rfl
theorem dX8_span_54 : decode cX8_span 54 = .ok (.getfield 18, 3) := all_d dX8_span_all0 29 rfl
theorem dX8_span_57 : decode cX8_span 57 = .ok (.iload 4, 2) := all_d dX8_span_all0 30 rfl
theorem dX8_span_59 : decode cX8_span 59 = .ok (.invokevirtual 162, 3) := all_d dX8_span_all0 31 rfl
theorem dX8_span_62 : decode cX8_span 62 = .ok (.goto 12, 3) := all_d dX8_span_all0 32 rfl
theorem dX8_span_65 : decode cX8_span 65 = .ok (.aload_n 0, 1) := all_d dX8_span_all0 33 rfl
theorem dX8_span_66 : decode cX8_span 66 = .ok (.getfield 18, 3) := all_d dX8_span_all0 34 rfl
theorem dX8_span_69 : decode cX8_span 69 = .ok (.iload 4, 2) := all_d dX8_span_all0 35 rfl
theorem dX8_span_71 : decode cX8_span 71 = .ok (.invokevirtual 165, 3) := all_d dX8_span_all0 36 rfl
theorem dX8_span_74 : decode cX8_span 74 = .ok (.ireturn, 1) := all_d dX8_span_all0 37 rfl
set_option maxRecDepth 100000 in
theorem dX8_codes_all0 : ([(0, (.aload_n 0 : Instr), 1), (1, (.iload_n 1 : Instr), 1), (2, (.invokevirtual 149 : Instr), 3), (5, (.ifCond .eq 15 : Instr), 3), (8, (.aload_n 0 : Instr), 1), (9, (.getfield 18 : Instr), 3), (12, (.ldc 168 : Instr), 2), (14, (.invokevirtual 169 : Instr), 3), (17, (.goto 4 : Instr), 3), (20, (.iconst (-1) : Instr), 1), (21, (.ireturn : Instr), 1)] : List (Nat × Instr × Nat)).all (fun q => decide (decode cX8_codes q.1 = .ok (q.2.1, q.2.2))) = true := by decide +kernel
theorem dX8_codes_0 : decode cX8_codes 0 = .ok (.aload_n 0, 1) := all_d dX8_codes_all0 0 rfl
theorem dX8_codes_1 : decode cX8_codes 1 = .ok (.iload_n 1, 1) := all_d dX8_codes_all0 1 rfl
theorem dX8_codes_2 : decode cX8_codes 2 = .ok (.invokevirtual 149, 3) := all_d dX8_codes_all0 2 rfl
theorem dX8_codes_5 : decode cX8_codes 5 = .ok (.ifCond .eq 15, 3) := all_d dX8_codes_all0 3 rfl
theorem dX8_codes_8 : decode cX8_codes 8 = .ok (.aload_n 0, 1) := all_d dX8_codes_all0 4 rfl
theorem dX8_codes_9 : decode cX8_codes 9 = .ok (.getfield 18, 3) := all_d dX8_codes_all0 5 rfl
theorem dX8_codes_12 : decode cX8_codes 12 = .ok (.ldc 168, 2) := all_d dX8_codes_all0 6 rfl
theorem dX8_codes_14 : decode cX8_codes 14 = .ok (.invokevirtual 169, 3) := all_d dX8_codes_all0 7 rfl
theorem dX8_codes_17 : decode cX8_codes 17 = .ok (.goto 4, 3) := all_d dX8_codes_all0 8 rfl
theorem dX8_codes_20 : decode cX8_codes 20 = .ok (.iconst (-1), 1) := all_d dX8_codes_all0 9 rfl
theorem dX8_codes_21 : decode cX8_codes 21 = .ok (.ireturn, 1) := all_d dX8_codes_all0 10 rfl
set_option maxRecDepth 100000 in
theorem dX8_lacks_all0 : ([(0, (.aload_n 0 : Instr), 1), (1, (.iload_n 1 : Instr), 1), (2, (.invokevirtual 149 : Instr), 3), (5, (.ifCond .ne 5 : Instr), 3), (8, (.iconst (-1) : Instr), 1), (9, (.ireturn : Instr), 1), (10, (.iconst 0 : Instr), 1), (11, (.aload_n 0 : Instr), 1), (12, (.getfield 18 : Instr), 3), (15, (.invokevirtual 172 : Instr), 3), (18, (.iconst 1 : Instr), 1), (19, (.iadd : Instr), 1), (20, (.invokestatic 175 : Instr), 3), (23, (.aload_n 0 : Instr), 1), (24, (.getfield 18 : Instr), 3), (27, (.iconst 0 : Instr), 1), (28, (.invokevirtual 169 : Instr), 3), (31, (.isub : Instr), 1), (32, (.ireturn : Instr), 1)] : List (Nat × Instr × Nat)).all (fun q => decide (decode cX8_lacks q.1 = .ok (q.2.1, q.2.2))) = true := by decide +kernel
theorem dX8_lacks_0 : decode cX8_lacks 0 = .ok (.aload_n 0, 1) := all_d dX8_lacks_all0 0 rfl
theorem dX8_lacks_1 : decode cX8_lacks 1 = .ok (.iload_n 1, 1) := all_d dX8_lacks_all0 1 rfl
theorem dX8_lacks_2 : decode cX8_lacks 2 = .ok (.invokevirtual 149, 3) := all_d dX8_lacks_all0 2 rfl
theorem dX8_lacks_5 : decode cX8_lacks 5 = .ok (.ifCond .ne 5, 3) := all_d dX8_lacks_all0 3 rfl
theorem dX8_lacks_8 : decode cX8_lacks 8 = .ok (.iconst (-1), 1) := all_d dX8_lacks_all0 4 rfl
theorem dX8_lacks_9 : decode cX8_lacks 9 = .ok (.ireturn, 1) := all_d dX8_lacks_all0 5 rfl
theorem dX8_lacks_10 : decode cX8_lacks 10 = .ok (.iconst 0, 1) := all_d dX8_lacks_all0 6 rfl
theorem dX8_lacks_11 : decode cX8_lacks 11 = .ok (.aload_n 0, 1) := all_d dX8_lacks_all0 7 rfl
theorem dX8_lacks_12 : decode cX8_lacks 12 = .ok (.getfield 18, 3) := all_d dX8_lacks_all0 8 rfl
theorem dX8_lacks_15 : decode cX8_lacks 15 = .ok (.invokevirtual 172, 3) := all_d dX8_lacks_all0 9 rfl
theorem dX8_lacks_18 : decode cX8_lacks 18 = .ok (.iconst 1, 1) := all_d dX8_lacks_all0 10 rfl
theorem dX8_lacks_19 : decode cX8_lacks 19 = .ok (.iadd, 1) := all_d dX8_lacks_all0 11 rfl
theorem dX8_lacks_20 : decode cX8_lacks 20 = .ok (.invokestatic 175, 3) := all_d dX8_lacks_all0 12 rfl
theorem dX8_lacks_23 : decode cX8_lacks 23 = .ok (.aload_n 0, 1) := all_d dX8_lacks_all0 13 rfl
theorem dX8_lacks_24 : decode cX8_lacks 24 = .ok (.getfield 18, 3) := all_d dX8_lacks_all0 14 rfl
theorem dX8_lacks_27 : decode cX8_lacks 27 = .ok (.iconst 0, 1) := all_d dX8_lacks_all0 15 rfl
theorem dX8_lacks_28 : decode cX8_lacks 28 = .ok (.invokevirtual 169, 3) := all_d dX8_lacks_all0 16 rfl
theorem dX8_lacks_31 : decode cX8_lacks 31 = .ok (.isub, 1) := all_d dX8_lacks_all0 17 rfl
theorem dX8_lacks_32 : decode cX8_lacks 32 = .ok (.ireturn, 1) := all_d dX8_lacks_all0 18 rfl
set_option maxRecDepth 100000 in
theorem dX8_back_all0 : ([(0, (.aload_n 0 : Instr), 1), (1, (.iload_n 1 : Instr), 1), (2, (.invokevirtual 149 : Instr), 3), (5, (.ifCond .eq 13 : Instr), 3), (8, (.aload_n 0 : Instr), 1), (9, (.getfield 18 : Instr), 3), (12, (.invokevirtual 181 : Instr), 3), (15, (.goto 4 : Instr), 3), (18, (.iconst (-1) : Instr), 1), (19, (.ireturn : Instr), 1)] : List (Nat × Instr × Nat)).all (fun q => decide (decode cX8_back q.1 = .ok (q.2.1, q.2.2))) = true := by decide +kernel
theorem dX8_back_0 : decode cX8_back 0 = .ok (.aload_n 0, 1) := all_d dX8_back_all0 0 rfl
theorem dX8_back_1 : decode cX8_back 1 = .ok (.iload_n 1, 1) := all_d dX8_back_all0 1 rfl
theorem dX8_back_2 : decode cX8_back 2 = .ok (.invokevirtual 149, 3) := all_d dX8_back_all0 2 rfl
theorem dX8_back_5 : decode cX8_back 5 = .ok (.ifCond .eq 13, 3) := all_d dX8_back_all0 3 rfl
theorem dX8_back_8 : decode cX8_back 8 = .ok (.aload_n 0, 1) := all_d dX8_back_all0 4 rfl
theorem dX8_back_9 : decode cX8_back 9 = .ok (.getfield 18, 3) := all_d dX8_back_all0 5 rfl
theorem dX8_back_12 : decode cX8_back 12 = .ok (.invokevirtual 181, 3) := all_d dX8_back_all0 6 rfl
theorem dX8_back_15 : decode cX8_back 15 = .ok (.goto 4, 3) := all_d dX8_back_all0 7 rfl
theorem dX8_back_18 : decode cX8_back 18 = .ok (.iconst (-1), 1) := all_d dX8_back_all0 8 rfl
theorem dX8_back_19 : decode cX8_back 19 = .ok (.ireturn, 1) := all_d dX8_back_all0 9 rfl
set_option maxRecDepth 100000 in
theorem dX8_widest_all0 : ([(0, (.aload_n 0 : Instr), 1), (1, (.iload_n 1 : Instr), 1), (2, (.invokevirtual 149 : Instr), 3), (5, (.ifCond .eq 13 : Instr), 3), (8, (.aload_n 0 : Instr), 1), (9, (.getfield 18 : Instr), 3), (12, (.invokevirtual 184 : Instr), 3), (15, (.goto 4 : Instr), 3), (18, (.iconst (-1) : Instr), 1), (19, (.ireturn : Instr), 1)] : List (Nat × Instr × Nat)).all (fun q => decide (decode cX8_widest q.1 = .ok (q.2.1, q.2.2))) = true := by decide +kernel
theorem dX8_widest_0 : decode cX8_widest 0 = .ok (.aload_n 0, 1) := all_d dX8_widest_all0 0 rfl
theorem dX8_widest_1 : decode cX8_widest 1 = .ok (.iload_n 1, 1) := all_d dX8_widest_all0 1 rfl
theorem dX8_widest_2 : decode cX8_widest 2 = .ok (.invokevirtual 149, 3) := all_d dX8_widest_all0 2 rfl
theorem dX8_widest_5 : decode cX8_widest 5 = .ok (.ifCond .eq 13, 3) := all_d dX8_widest_all0 3 rfl
theorem dX8_widest_8 : decode cX8_widest 8 = .ok (.aload_n 0, 1) := all_d dX8_widest_all0 4 rfl
theorem dX8_widest_9 : decode cX8_widest 9 = .ok (.getfield 18, 3) := all_d dX8_widest_all0 5 rfl
theorem dX8_widest_12 : decode cX8_widest 12 = .ok (.invokevirtual 184, 3) := all_d dX8_widest_all0 6 rfl
theorem dX8_widest_15 : decode cX8_widest 15 = .ok (.goto 4, 3) := all_d dX8_widest_all0 7 rfl
theorem dX8_widest_18 : decode cX8_widest 18 = .ok (.iconst (-1), 1) := all_d dX8_widest_all0 8 rfl
theorem dX8_widest_19 : decode cX8_widest 19 = .ok (.ireturn, 1) := all_d dX8_widest_all0 9 rfl
set_option maxRecDepth 100000 in
theorem dX8_edge_all0 : ([(0, (.aload_n 0 : Instr), 1), (1, (.iload_n 1 : Instr), 1), (2, (.invokevirtual 149 : Instr), 3), (5, (.ifCond .eq 14 : Instr), 3), (8, (.aload_n 0 : Instr), 1), (9, (.getfield 18 : Instr), 3), (12, (.iload_n 2 : Instr), 1), (13, (.invokevirtual 187 : Instr), 3), (16, (.goto 4 : Instr), 3), (19, (.iconst (-1) : Instr), 1), (20, (.ireturn : Instr), 1)] : List (Nat × Instr × Nat)).all (fun q => decide (decode cX8_edge q.1 = .ok (q.2.1, q.2.2))) = true := by decide +kernel
theorem dX8_edge_0 : decode cX8_edge 0 = .ok (.aload_n 0, 1) := all_d dX8_edge_all0 0 rfl
theorem dX8_edge_1 : decode cX8_edge 1 = .ok (.iload_n 1, 1) := all_d dX8_edge_all0 1 rfl
theorem dX8_edge_2 : decode cX8_edge 2 = .ok (.invokevirtual 149, 3) := all_d dX8_edge_all0 2 rfl
theorem dX8_edge_5 : decode cX8_edge 5 = .ok (.ifCond .eq 14, 3) := all_d dX8_edge_all0 3 rfl
theorem dX8_edge_8 : decode cX8_edge 8 = .ok (.aload_n 0, 1) := all_d dX8_edge_all0 4 rfl
theorem dX8_edge_9 : decode cX8_edge 9 = .ok (.getfield 18, 3) := all_d dX8_edge_all0 5 rfl
theorem dX8_edge_12 : decode cX8_edge 12 = .ok (.iload_n 2, 1) := all_d dX8_edge_all0 6 rfl
theorem dX8_edge_13 : decode cX8_edge 13 = .ok (.invokevirtual 187, 3) := all_d dX8_edge_all0 7 rfl
theorem dX8_edge_16 : decode cX8_edge 16 = .ok (.goto 4, 3) := all_d dX8_edge_all0 8 rfl
theorem dX8_edge_19 : decode cX8_edge 19 = .ok (.iconst (-1), 1) := all_d dX8_edge_all0 9 rfl
theorem dX8_edge_20 : decode cX8_edge 20 = .ok (.ireturn, 1) := all_d dX8_edge_all0 10 rfl
set_option maxRecDepth 100000 in
theorem dX8_line_all0 : ([(0, (.aload_n 0 : Instr), 1), (1, (.iload_n 1 : Instr), 1), (2, (.invokevirtual 149 : Instr), 3), (5, (.ifCond .ne 5 : Instr), 3), (8, (.iconst (-1) : Instr), 1), (9, (.ireturn : Instr), 1), (10, (.aload_n 0 : Instr), 1), (11, (.getfield 18 : Instr), 3), (14, (.invokevirtual 172 : Instr), 3), (17, (.istore_n 3 : Instr), 1), (18, (.aload_n 0 : Instr), 1), (19, (.iload_n 2 : Instr), 1), (20, (.ifCond .lt 8 : Instr), 3), (23, (.iload_n 2 : Instr), 1), (24, (.iconst 1 : Instr), 1), (25, (.if_icmp .le 7 : Instr), 3), (28, (.iconst 1 : Instr), 1), (29, (.goto 25 : Instr), 3), (32, (.iload_n 3 : Instr), 1), (33, (.iconst 2 : Instr), 1), (34, (.if_icmp .lt 15 : Instr), 3), (37, (.aload_n 0 : Instr), 1), (38, (.getfield 18 : Instr), 3), (41, (.invokevirtual 181 : Instr), 3), (44, (.bipush (-2) : Instr), 2), (46, (.if_icmp .eq 7 : Instr), 3), (49, (.iconst 5 : Instr), 1), (50, (.goto 4 : Instr), 3), (53, (.iconst 0 : Instr), 1), (54, (.putfield 66 : Instr), 3), (57, (.aload_n 0 : Instr), 1), (58, (.getfield 66 : Instr), 3), (61, (.ifCond .ne 24 : Instr), 3), (64, (.aload_n 0 : Instr), 1), (65, (.getfield 18 : Instr), 3), (68, (.iload_n 3 : Instr), 1), (69, (.iload_n 2 : Instr), 1), (70, (.iconst 1 : Instr), 1), (71, (.if_icmp .ne 7 : Instr), 3), (74, (.iconst 1 : Instr), 1), (75, (.goto 4 : Instr), 3), (78, (.iconst 0 : Instr), 1), (79, (.invokevirtual 190 : Instr), 3), (82, (.goto 4 : Instr), 3), (85, (.iconst (-1) : Instr), 1), (86, (.ireturn : Instr), 1)] : List (Nat × Instr × Nat)).all (fun q => decide (decode cX8_line q.1 = .ok (q.2.1, q.2.2))) = true := by decide +kernel
theorem dX8_line_0 : decode cX8_line 0 = .ok (.aload_n 0, 1) := all_d dX8_line_all0 0 rfl
theorem dX8_line_1 : decode cX8_line 1 = .ok (.iload_n 1, 1) := all_d dX8_line_all0 1 rfl
theorem dX8_line_2 : decode cX8_line 2 = .ok (.invokevirtual 149, 3) := all_d dX8_line_all0 2 rfl
theorem dX8_line_5 : decode cX8_line 5 = .ok (.ifCond .ne 5, 3) := all_d dX8_line_all0 3 rfl
theorem dX8_line_8 : decode cX8_line 8 = .ok (.iconst (-1), 1) := all_d dX8_line_all0 4 rfl
theorem dX8_line_9 : decode cX8_line 9 = .ok (.ireturn, 1) := all_d dX8_line_all0 5 rfl
theorem dX8_line_10 : decode cX8_line 10 = .ok (.aload_n 0, 1) := all_d dX8_line_all0 6 rfl
theorem dX8_line_11 : decode cX8_line 11 = .ok (.getfield 18, 3) := all_d dX8_line_all0 7 rfl
theorem dX8_line_14 : decode cX8_line 14 = .ok (.invokevirtual 172, 3) := all_d dX8_line_all0 8 rfl
theorem dX8_line_17 : decode cX8_line 17 = .ok (.istore_n 3, 1) := all_d dX8_line_all0 9 rfl
theorem dX8_line_18 : decode cX8_line 18 = .ok (.aload_n 0, 1) := all_d dX8_line_all0 10 rfl
theorem dX8_line_19 : decode cX8_line 19 = .ok (.iload_n 2, 1) := all_d dX8_line_all0 11 rfl
theorem dX8_line_20 : decode cX8_line 20 = .ok (.ifCond .lt 8, 3) := all_d dX8_line_all0 12 rfl
theorem dX8_line_23 : decode cX8_line 23 = .ok (.iload_n 2, 1) := all_d dX8_line_all0 13 rfl
theorem dX8_line_24 : decode cX8_line 24 = .ok (.iconst 1, 1) := all_d dX8_line_all0 14 rfl
theorem dX8_line_25 : decode cX8_line 25 = .ok (.if_icmp .le 7, 3) := all_d dX8_line_all0 15 rfl
theorem dX8_line_28 : decode cX8_line 28 = .ok (.iconst 1, 1) := all_d dX8_line_all0 16 rfl
theorem dX8_line_29 : decode cX8_line 29 = .ok (.goto 25, 3) := all_d dX8_line_all0 17 rfl
theorem dX8_line_32 : decode cX8_line 32 = .ok (.iload_n 3, 1) := all_d dX8_line_all0 18 rfl
theorem dX8_line_33 : decode cX8_line 33 = .ok (.iconst 2, 1) := all_d dX8_line_all0 19 rfl
theorem dX8_line_34 : decode cX8_line 34 = .ok (.if_icmp .lt 15, 3) := all_d dX8_line_all0 20 rfl
theorem dX8_line_37 : decode cX8_line 37 = .ok (.aload_n 0, 1) := all_d dX8_line_all0 21 rfl
theorem dX8_line_38 : decode cX8_line 38 = .ok (.getfield 18, 3) := all_d dX8_line_all0 22 rfl
theorem dX8_line_41 : decode cX8_line 41 = .ok (.invokevirtual 181, 3) := all_d dX8_line_all0 23 rfl
theorem dX8_line_44 : decode cX8_line 44 = .ok (.bipush (-2), 2) := all_d dX8_line_all0 24 rfl
theorem dX8_line_46 : decode cX8_line 46 = .ok (.if_icmp .eq 7, 3) := all_d dX8_line_all0 25 rfl
theorem dX8_line_49 : decode cX8_line 49 = .ok (.iconst 5, 1) := all_d dX8_line_all0 26 rfl
theorem dX8_line_50 : decode cX8_line 50 = .ok (.goto 4, 3) := all_d dX8_line_all0 27 rfl
theorem dX8_line_53 : decode cX8_line 53 = .ok (.iconst 0, 1) := all_d dX8_line_all0 28 rfl
theorem dX8_line_54 : decode cX8_line 54 = .ok (.putfield 66, 3) := all_d dX8_line_all0 29 rfl
theorem dX8_line_57 : decode cX8_line 57 = .ok (.aload_n 0, 1) := all_d dX8_line_all0 30 rfl
theorem dX8_line_58 : decode cX8_line 58 = .ok (.getfield 66, 3) := all_d dX8_line_all0 31 rfl
theorem dX8_line_61 : decode cX8_line 61 = .ok (.ifCond .ne 24, 3) := all_d dX8_line_all0 32 rfl
theorem dX8_line_64 : decode cX8_line 64 = .ok (.aload_n 0, 1) := all_d dX8_line_all0 33 rfl
theorem dX8_line_65 : decode cX8_line 65 = .ok (.getfield 18, 3) := all_d dX8_line_all0 34 rfl
theorem dX8_line_68 : decode cX8_line 68 = .ok (.iload_n 3, 1) := all_d dX8_line_all0 35 rfl
theorem dX8_line_69 : decode cX8_line 69 = .ok (.iload_n 2, 1) := all_d dX8_line_all0 36 rfl
theorem dX8_line_70 : decode cX8_line 70 = .ok (.iconst 1, 1) := all_d dX8_line_all0 37 rfl
theorem dX8_line_71 : decode cX8_line 71 = .ok (.if_icmp .ne 7, 3) := all_d dX8_line_all0 38 rfl
theorem dX8_line_74 : decode cX8_line 74 = .ok (.iconst 1, 1) := all_d dX8_line_all0 39 rfl
theorem dX8_line_75 : decode cX8_line 75 = .ok (.goto 4, 3) := all_d dX8_line_all0 40 rfl
theorem dX8_line_78 : decode cX8_line 78 = .ok (.iconst 0, 1) := all_d dX8_line_all0 41 rfl
theorem dX8_line_79 : decode cX8_line 79 = .ok (.invokevirtual 190, 3) := all_d dX8_line_all0 42 rfl
theorem dX8_line_82 : decode cX8_line 82 = .ok (.goto 4, 3) := all_d dX8_line_all0 43 rfl
theorem dX8_line_85 : decode cX8_line 85 = .ok (.iconst (-1), 1) := all_d dX8_line_all0 44 rfl
theorem dX8_line_86 : decode cX8_line 86 = .ok (.ireturn, 1) := all_d dX8_line_all0 45 rfl
set_option maxRecDepth 100000 in
theorem dX8_covered_all0 : ([(0, (.aload_n 0 : Instr), 1), (1, (.iload_n 1 : Instr), 1), (2, (.invokevirtual 83 : Instr), 3), (5, (.astore_n 2 : Instr), 1), (6, (.aload_n 0 : Instr), 1), (7, (.aload_n 2 : Instr), 1), (8, (.invokestatic 194 : Instr), 3), (11, (.putfield 66 : Instr), 3), (14, (.aload_n 2 : Instr), 1), (15, (.ifnull 10 : Instr), 3), (18, (.aload_n 0 : Instr), 1), (19, (.getfield 66 : Instr), 3), (22, (.ifCond .eq 7 : Instr), 3), (25, (.iconst (-1) : Instr), 1), (26, (.goto 7 : Instr), 3), (29, (.aload_n 2 : Instr), 1), (30, (.invokevirtual 198 : Instr), 3), (33, (.ireturn : Instr), 1)] : List (Nat × Instr × Nat)).all (fun q => decide (decode cX8_covered q.1 = .ok (q.2.1, q.2.2))) = true := by decide +kernel
theorem dX8_covered_0 : decode cX8_covered 0 = .ok (.aload_n 0, 1) := all_d dX8_covered_all0 0 rfl
theorem dX8_covered_1 : decode cX8_covered 1 = .ok (.iload_n 1, 1) := all_d dX8_covered_all0 1 rfl
theorem dX8_covered_2 : decode cX8_covered 2 = .ok (.invokevirtual 83, 3) := all_d dX8_covered_all0 2 rfl
theorem dX8_covered_5 : decode cX8_covered 5 = .ok (.astore_n 2, 1) := all_d dX8_covered_all0 3 rfl
theorem dX8_covered_6 : decode cX8_covered 6 = .ok (.aload_n 0, 1) := all_d dX8_covered_all0 4 rfl
theorem dX8_covered_7 : decode cX8_covered 7 = .ok (.aload_n 2, 1) := all_d dX8_covered_all0 5 rfl
theorem dX8_covered_8 : decode cX8_covered 8 = .ok (.invokestatic 194, 3) := all_d dX8_covered_all0 6 rfl
theorem dX8_covered_11 : decode cX8_covered 11 = .ok (.putfield 66, 3) := all_d dX8_covered_all0 7 rfl
theorem dX8_covered_14 : decode cX8_covered 14 = .ok (.aload_n 2, 1) := all_d dX8_covered_all0 8 rfl
theorem dX8_covered_15 : decode cX8_covered 15 = .ok (.ifnull 10, 3) := all_d dX8_covered_all0 9 rfl
theorem dX8_covered_18 : decode cX8_covered 18 = .ok (.aload_n 0, 1) := all_d dX8_covered_all0 10 rfl
theorem dX8_covered_19 : decode cX8_covered 19 = .ok (.getfield 66, 3) := all_d dX8_covered_all0 11 rfl
theorem dX8_covered_22 : decode cX8_covered 22 = .ok (.ifCond .eq 7, 3) := all_d dX8_covered_all0 12 rfl
theorem dX8_covered_25 : decode cX8_covered 25 = .ok (.iconst (-1), 1) := all_d dX8_covered_all0 13 rfl
theorem dX8_covered_26 : decode cX8_covered 26 = .ok (.goto 7, 3) := all_d dX8_covered_all0 14 rfl
theorem dX8_covered_29 : decode cX8_covered 29 = .ok (.aload_n 2, 1) := all_d dX8_covered_all0 15 rfl
theorem dX8_covered_30 : decode cX8_covered 30 = .ok (.invokevirtual 198, 3) := all_d dX8_covered_all0 16 rfl
theorem dX8_covered_33 : decode cX8_covered 33 = .ok (.ireturn, 1) := all_d dX8_covered_all0 17 rfl
set_option maxRecDepth 100000 in
theorem dX8_tail_all0 : ([(0, (.aload_n 0 : Instr), 1), (1, (.iload_n 1 : Instr), 1), (2, (.invokevirtual 83 : Instr), 3), (5, (.astore_n 2 : Instr), 1), (6, (.aload_n 0 : Instr), 1), (7, (.aload_n 2 : Instr), 1), (8, (.invokestatic 194 : Instr), 3), (11, (.putfield 66 : Instr), 3), (14, (.aload_n 2 : Instr), 1), (15, (.ifnull 10 : Instr), 3), (18, (.aload_n 0 : Instr), 1), (19, (.getfield 66 : Instr), 3), (22, (.ifCond .eq 5 : Instr), 3), (25, (.iconst (-1) : Instr), 1), (26, (.ireturn : Instr), 1), (27, (.iconst 0 : Instr), 1), (28, (.aload_n 0 : Instr), 1), (29, (.getfield 56 : Instr), 3), (32, (.aload_n 2 : Instr), 1), (33, (.invokevirtual 201 : Instr), 3), (36, (.invokestatic 204 : Instr), 3), (39, (.invokestatic 175 : Instr), 3), (42, (.istore_n 3 : Instr), 1), (43, (.aload_n 2 : Instr), 1), (44, (.iconst 0 : Instr), 1), (45, (.invokevirtual 139 : Instr), 3), (48, (.ineg : Instr), 1), (49, (.istore 4 : Instr), 2), (51, (.iconst 1 : Instr), 1), (52, (.istore 5 : Instr), 2), (54, (.iload 5 : Instr), 2), (56, (.iload_n 3 : Instr), 1), (57, (.if_icmp .gt 25 : Instr), 3), (60, (.iload 4 : Instr), 2), (62, (.iload 5 : Instr), 2), (64, (.aload_n 2 : Instr), 1), (65, (.iload 5 : Instr), 2), (67, (.invokevirtual 139 : Instr), 3), (70, (.isub : Instr), 1), (71, (.invokestatic 175 : Instr), 3), (74, (.istore 4 : Instr), 2), (76, (.iinc 5 1 : Instr), 3), (79, (.goto (-25) : Instr), 3), (82, (.iload 4 : Instr), 2), (84, (.ireturn : Instr), 1)] : List (Nat × Instr × Nat)).all (fun q => decide (decode cX8_tail q.1 = .ok (q.2.1, q.2.2))) = true := by decide +kernel
theorem dX8_tail_0 : decode cX8_tail 0 = .ok (.aload_n 0, 1) := all_d dX8_tail_all0 0 rfl
theorem dX8_tail_1 : decode cX8_tail 1 = .ok (.iload_n 1, 1) := all_d dX8_tail_all0 1 rfl
theorem dX8_tail_2 : decode cX8_tail 2 = .ok (.invokevirtual 83, 3) := all_d dX8_tail_all0 2 rfl
theorem dX8_tail_5 : decode cX8_tail 5 = .ok (.astore_n 2, 1) := all_d dX8_tail_all0 3 rfl
theorem dX8_tail_6 : decode cX8_tail 6 = .ok (.aload_n 0, 1) := all_d dX8_tail_all0 4 rfl
theorem dX8_tail_7 : decode cX8_tail 7 = .ok (.aload_n 2, 1) := all_d dX8_tail_all0 5 rfl
theorem dX8_tail_8 : decode cX8_tail 8 = .ok (.invokestatic 194, 3) := all_d dX8_tail_all0 6 rfl
theorem dX8_tail_11 : decode cX8_tail 11 = .ok (.putfield 66, 3) := all_d dX8_tail_all0 7 rfl
theorem dX8_tail_14 : decode cX8_tail 14 = .ok (.aload_n 2, 1) := all_d dX8_tail_all0 8 rfl
theorem dX8_tail_15 : decode cX8_tail 15 = .ok (.ifnull 10, 3) := all_d dX8_tail_all0 9 rfl
theorem dX8_tail_18 : decode cX8_tail 18 = .ok (.aload_n 0, 1) := all_d dX8_tail_all0 10 rfl
theorem dX8_tail_19 : decode cX8_tail 19 = .ok (.getfield 66, 3) := all_d dX8_tail_all0 11 rfl
theorem dX8_tail_22 : decode cX8_tail 22 = .ok (.ifCond .eq 5, 3) := all_d dX8_tail_all0 12 rfl
theorem dX8_tail_25 : decode cX8_tail 25 = .ok (.iconst (-1), 1) := all_d dX8_tail_all0 13 rfl
theorem dX8_tail_26 : decode cX8_tail 26 = .ok (.ireturn, 1) := all_d dX8_tail_all0 14 rfl
theorem dX8_tail_27 : decode cX8_tail 27 = .ok (.iconst 0, 1) := all_d dX8_tail_all0 15 rfl
theorem dX8_tail_28 : decode cX8_tail 28 = .ok (.aload_n 0, 1) := all_d dX8_tail_all0 16 rfl
theorem dX8_tail_29 : decode cX8_tail 29 = .ok (.getfield 56, 3) := all_d dX8_tail_all0 17 rfl
theorem dX8_tail_32 : decode cX8_tail 32 = .ok (.aload_n 2, 1) := all_d dX8_tail_all0 18 rfl
theorem dX8_tail_33 : decode cX8_tail 33 = .ok (.invokevirtual 201, 3) := all_d dX8_tail_all0 19 rfl
theorem dX8_tail_36 : decode cX8_tail 36 = .ok (.invokestatic 204, 3) := all_d dX8_tail_all0 20 rfl
theorem dX8_tail_39 : decode cX8_tail 39 = .ok (.invokestatic 175, 3) := all_d dX8_tail_all0 21 rfl
theorem dX8_tail_42 : decode cX8_tail 42 = .ok (.istore_n 3, 1) := all_d dX8_tail_all0 22 rfl
theorem dX8_tail_43 : decode cX8_tail 43 = .ok (.aload_n 2, 1) := all_d dX8_tail_all0 23 rfl
theorem dX8_tail_44 : decode cX8_tail 44 = .ok (.iconst 0, 1) := all_d dX8_tail_all0 24 rfl
theorem dX8_tail_45 : decode cX8_tail 45 = .ok (.invokevirtual 139, 3) := all_d dX8_tail_all0 25 rfl
theorem dX8_tail_48 : decode cX8_tail 48 = .ok (.ineg, 1) := all_d dX8_tail_all0 26 rfl
theorem dX8_tail_49 : decode cX8_tail 49 = .ok (.istore 4, 2) := all_d dX8_tail_all0 27 rfl
theorem dX8_tail_51 : decode cX8_tail 51 = .ok (.iconst 1, 1) := all_d dX8_tail_all0 28 rfl
theorem dX8_tail_52 : decode cX8_tail 52 = .ok (.istore 5, 2) := all_d dX8_tail_all0 29 rfl
theorem dX8_tail_54 : decode cX8_tail 54 = .ok (.iload 5, 2) := all_d dX8_tail_all0 30 rfl
theorem dX8_tail_56 : decode cX8_tail 56 = .ok (.iload_n 3, 1) := all_d dX8_tail_all0 31 rfl
theorem dX8_tail_57 : decode cX8_tail 57 = .ok (.if_icmp .gt 25, 3) := all_d dX8_tail_all0 32 rfl
theorem dX8_tail_60 : decode cX8_tail 60 = .ok (.iload 4, 2) := all_d dX8_tail_all0 33 rfl
theorem dX8_tail_62 : decode cX8_tail 62 = .ok (.iload 5, 2) := all_d dX8_tail_all0 34 rfl
theorem dX8_tail_64 : decode cX8_tail 64 = .ok (.aload_n 2, 1) := all_d dX8_tail_all0 35 rfl
theorem dX8_tail_65 : decode cX8_tail 65 = .ok (.iload 5, 2) := all_d dX8_tail_all0 36 rfl
theorem dX8_tail_67 : decode cX8_tail 67 = .ok (.invokevirtual 139, 3) := all_d dX8_tail_all0 37 rfl
theorem dX8_tail_70 : decode cX8_tail 70 = .ok (.isub, 1) := all_d dX8_tail_all0 38 rfl
theorem dX8_tail_71 : decode cX8_tail 71 = .ok (.invokestatic 175, 3) := all_d dX8_tail_all0 39 rfl
theorem dX8_tail_74 : decode cX8_tail 74 = .ok (.istore 4, 2) := all_d dX8_tail_all0 40 rfl
theorem dX8_tail_76 : decode cX8_tail 76 = .ok (.iinc 5 1, 3) := all_d dX8_tail_all0 41 rfl
theorem dX8_tail_79 : decode cX8_tail 79 = .ok (.goto (-25), 3) := all_d dX8_tail_all0 42 rfl
theorem dX8_tail_82 : decode cX8_tail 82 = .ok (.iload 4, 2) := all_d dX8_tail_all0 43 rfl
theorem dX8_tail_84 : decode cX8_tail 84 = .ok (.ireturn, 1) := all_d dX8_tail_all0 44 rfl
set_option maxRecDepth 100000 in
theorem dX8_mend_all0 : ([(0, (.aload_n 0 : Instr), 1), (1, (.iload_n 1 : Instr), 1), (2, (.invokevirtual 83 : Instr), 3), (5, (.astore_n 2 : Instr), 1), (6, (.aload_n 0 : Instr), 1), (7, (.aload_n 2 : Instr), 1), (8, (.invokestatic 194 : Instr), 3), (11, (.putfield 66 : Instr), 3), (14, (.aload_n 2 : Instr), 1), (15, (.ifnull 10 : Instr), 3), (18, (.aload_n 0 : Instr), 1), (19, (.getfield 66 : Instr), 3), (22, (.ifCond .eq 5 : Instr), 3), (25, (.iconst 0 : Instr), 1), (26, (.ireturn : Instr), 1), (27, (.aload_n 0 : Instr), 1), (28, (.iconst 5 : Instr), 1), (29, (.iload_n 1 : Instr), 1), (30, (.iconst (-1) : Instr), 1), (31, (.invokevirtual 74 : Instr), 3), (34, (.astore_n 3 : Instr), 1), (35, (.aload_n 3 : Instr), 1), (36, (.ifnull 11 : Instr), 3), (39, (.aload_n 2 : Instr), 1), (40, (.aload_n 3 : Instr), 1), (41, (.getfield 98 : Instr), 3), (44, (.invokevirtual 101 : Instr), 3), (47, (.aload_n 2 : Instr), 1), (48, (.invokevirtual 207 : Instr), 3), (51, (.iconst 1 : Instr), 1), (52, (.ireturn : Instr), 1)] : List (Nat × Instr × Nat)).all (fun q => decide (decode cX8_mend q.1 = .ok (q.2.1, q.2.2))) = true := by decide +kernel
theorem dX8_mend_0 : decode cX8_mend 0 = .ok (.aload_n 0, 1) := all_d dX8_mend_all0 0 rfl
theorem dX8_mend_1 : decode cX8_mend 1 = .ok (.iload_n 1, 1) := all_d dX8_mend_all0 1 rfl
theorem dX8_mend_2 : decode cX8_mend 2 = .ok (.invokevirtual 83, 3) := all_d dX8_mend_all0 2 rfl
theorem dX8_mend_5 : decode cX8_mend 5 = .ok (.astore_n 2, 1) := all_d dX8_mend_all0 3 rfl
theorem dX8_mend_6 : decode cX8_mend 6 = .ok (.aload_n 0, 1) := all_d dX8_mend_all0 4 rfl
theorem dX8_mend_7 : decode cX8_mend 7 = .ok (.aload_n 2, 1) := all_d dX8_mend_all0 5 rfl
theorem dX8_mend_8 : decode cX8_mend 8 = .ok (.invokestatic 194, 3) := all_d dX8_mend_all0 6 rfl
theorem dX8_mend_11 : decode cX8_mend 11 = .ok (.putfield 66, 3) := all_d dX8_mend_all0 7 rfl
theorem dX8_mend_14 : decode cX8_mend 14 = .ok (.aload_n 2, 1) := all_d dX8_mend_all0 8 rfl
theorem dX8_mend_15 : decode cX8_mend 15 = .ok (.ifnull 10, 3) := all_d dX8_mend_all0 9 rfl
theorem dX8_mend_18 : decode cX8_mend 18 = .ok (.aload_n 0, 1) := all_d dX8_mend_all0 10 rfl
theorem dX8_mend_19 : decode cX8_mend 19 = .ok (.getfield 66, 3) := all_d dX8_mend_all0 11 rfl
theorem dX8_mend_22 : decode cX8_mend 22 = .ok (.ifCond .eq 5, 3) := all_d dX8_mend_all0 12 rfl
theorem dX8_mend_25 : decode cX8_mend 25 = .ok (.iconst 0, 1) := all_d dX8_mend_all0 13 rfl
theorem dX8_mend_26 : decode cX8_mend 26 = .ok (.ireturn, 1) := all_d dX8_mend_all0 14 rfl
theorem dX8_mend_27 : decode cX8_mend 27 = .ok (.aload_n 0, 1) := all_d dX8_mend_all0 15 rfl
theorem dX8_mend_28 : decode cX8_mend 28 = .ok (.iconst 5, 1) := all_d dX8_mend_all0 16 rfl
theorem dX8_mend_29 : decode cX8_mend 29 = .ok (.iload_n 1, 1) := all_d dX8_mend_all0 17 rfl
theorem dX8_mend_30 : decode cX8_mend 30 = .ok (.iconst (-1), 1) := all_d dX8_mend_all0 18 rfl
theorem dX8_mend_31 : decode cX8_mend 31 = .ok (.invokevirtual 74, 3) := all_d dX8_mend_all0 19 rfl
theorem dX8_mend_34 : decode cX8_mend 34 = .ok (.astore_n 3, 1) := all_d dX8_mend_all0 20 rfl
theorem dX8_mend_35 : decode cX8_mend 35 = .ok (.aload_n 3, 1) := all_d dX8_mend_all0 21 rfl
theorem dX8_mend_36 : decode cX8_mend 36 = .ok (.ifnull 11, 3) := all_d dX8_mend_all0 22 rfl
theorem dX8_mend_39 : decode cX8_mend 39 = .ok (.aload_n 2, 1) := all_d dX8_mend_all0 23 rfl
theorem dX8_mend_40 : decode cX8_mend 40 = .ok (.aload_n 3, 1) := all_d dX8_mend_all0 24 rfl
theorem dX8_mend_41 : decode cX8_mend 41 = .ok (.getfield 98, 3) := all_d dX8_mend_all0 25 rfl
theorem dX8_mend_44 : decode cX8_mend 44 = .ok (.invokevirtual 101, 3) := all_d dX8_mend_all0 26 rfl
theorem dX8_mend_47 : decode cX8_mend 47 = .ok (.aload_n 2, 1) := all_d dX8_mend_all0 27 rfl
theorem dX8_mend_48 : decode cX8_mend 48 = .ok (.invokevirtual 207, 3) := all_d dX8_mend_all0 28 rfl
theorem dX8_mend_51 : decode cX8_mend 51 = .ok (.iconst 1, 1) := all_d dX8_mend_all0 29 rfl
theorem dX8_mend_52 : decode cX8_mend 52 = .ok (.ireturn, 1) := all_d dX8_mend_all0 30 rfl
set_option maxRecDepth 100000 in
theorem dX8_count_all0 : ([(0, (.aload_n 0 : Instr), 1), (1, (.iload_n 1 : Instr), 1), (2, (.invokevirtual 83 : Instr), 3), (5, (.astore 6 : Instr), 2), (7, (.iconst 0 : Instr), 1), (8, (.iload_n 2 : Instr), 1), (9, (.if_icmp .gt 26 : Instr), 3), (12, (.iload_n 2 : Instr), 1), (13, (.iload_n 3 : Instr), 1), (14, (.if_icmp .gt 21 : Instr), 3), (17, (.iload_n 3 : Instr), 1), (18, (.aload_n 0 : Instr), 1), (19, (.getfield 56 : Instr), 3), (22, (.if_icmp .gt 13 : Instr), 3), (25, (.iload 4 : Instr), 2), (27, (.iconst 1 : Instr), 1), (28, (.if_icmp .lt 7 : Instr), 3), (31, (.iconst 1 : Instr), 1), (32, (.goto 4 : Instr), 3), (35, (.iconst 0 : Instr), 1), (36, (.istore 7 : Instr), 2), (38, (.aload_n 0 : Instr), 1), (39, (.aload 6 : Instr), 2), (41, (.ifnonnull 7 : Instr), 3), (44, (.iconst 2 : Instr), 1), (45, (.goto 13 : Instr), 3), (48, (.iload 7 : Instr), 2), (50, (.ifCond .eq 7 : Instr), 3), (53, (.iconst 0 : Instr), 1), (54, (.goto 4 : Instr), 3), (57, (.iconst 1 : Instr), 1), (58, (.putfield 66 : Instr), 3), (61, (.aload 6 : Instr), 2), (63, (.ifnull 10 : Instr), 3), (66, (.aload_n 0 : Instr), 1), (67, (.getfield 66 : Instr), 3), (70, (.ifCond .eq 5 : Instr), 3), (73, (.iconst (-1) : Instr), 1), (74, (.ireturn : Instr), 1), (75, (.iconst 0 : Instr), 1), (76, (.istore 8 : Instr), 2), (78, (.iload_n 2 : Instr), 1), (79, (.i2l : Instr), 1), (80, (.lstore 9 : Instr), 2), (82, (.lload 9 : Instr), 2), (84, (.iload_n 3 : Instr), 1), (85, (.i2l : Instr), 1), (86, (.lcmp : Instr), 1), (87, (.ifCond .gt 30 : Instr), 3), (90, (.aload 6 : Instr), 2), (92, (.lload 9 : Instr), 2), (94, (.l2i : Instr), 1), (95, (.invokevirtual 139 : Instr), 3), (98, (.iload 5 : Instr), 2), (100, (.if_icmp .ne 6 : Instr), 3), (103, (.iinc 8 1 : Instr), 3), (106, (.lload 9 : Instr), 2), (108, (.iload 4 : Instr), 2), (110, (.i2l : Instr), 1), (111, (.ladd : Instr), 1), (112, (.lstore 9 : Instr), 2), (114, (.goto (-32) : Instr), 3), (117, (.iload 8 : Instr), 2), (119, (.ireturn : Instr), 1)] : List (Nat × Instr × Nat)).all (fun q => decide (decode cX8_count q.1 = .ok (q.2.1, q.2.2))) = true := by decide +kernel
theorem dX8_count_0 : decode cX8_count 0 = .ok (.aload_n 0, 1) := all_d dX8_count_all0 0 rfl
theorem dX8_count_1 : decode cX8_count 1 = .ok (.iload_n 1, 1) := all_d dX8_count_all0 1 rfl
theorem dX8_count_2 : decode cX8_count 2 = .ok (.invokevirtual 83, 3) := all_d dX8_count_all0 2 rfl
theorem dX8_count_5 : decode cX8_count 5 = .ok (.astore 6, 2) := all_d dX8_count_all0 3 rfl
theorem dX8_count_7 : decode cX8_count 7 = .ok (.iconst 0, 1) := all_d dX8_count_all0 4 rfl
theorem dX8_count_8 : decode cX8_count 8 = .ok (.iload_n 2, 1) := all_d dX8_count_all0 5 rfl
theorem dX8_count_9 : decode cX8_count 9 = .ok (.if_icmp .gt 26, 3) := all_d dX8_count_all0 6 rfl
theorem dX8_count_12 : decode cX8_count 12 = .ok (.iload_n 2, 1) := all_d dX8_count_all0 7 rfl
theorem dX8_count_13 : decode cX8_count 13 = .ok (.iload_n 3, 1) := all_d dX8_count_all0 8 rfl
theorem dX8_count_14 : decode cX8_count 14 = .ok (.if_icmp .gt 21, 3) := all_d dX8_count_all0 9 rfl
theorem dX8_count_17 : decode cX8_count 17 = .ok (.iload_n 3, 1) := all_d dX8_count_all0 10 rfl
theorem dX8_count_18 : decode cX8_count 18 = .ok (.aload_n 0, 1) := all_d dX8_count_all0 11 rfl
theorem dX8_count_19 : decode cX8_count 19 = .ok (.getfield 56, 3) := all_d dX8_count_all0 12 rfl
theorem dX8_count_22 : decode cX8_count 22 = .ok (.if_icmp .gt 13, 3) := all_d dX8_count_all0 13 rfl
theorem dX8_count_25 : decode cX8_count 25 = .ok (.iload 4, 2) := all_d dX8_count_all0 14 rfl
theorem dX8_count_27 : decode cX8_count 27 = .ok (.iconst 1, 1) := all_d dX8_count_all0 15 rfl
theorem dX8_count_28 : decode cX8_count 28 = .ok (.if_icmp .lt 7, 3) := all_d dX8_count_all0 16 rfl
theorem dX8_count_31 : decode cX8_count 31 = .ok (.iconst 1, 1) := all_d dX8_count_all0 17 rfl
theorem dX8_count_32 : decode cX8_count 32 = .ok (.goto 4, 3) := all_d dX8_count_all0 18 rfl
theorem dX8_count_35 : decode cX8_count 35 = .ok (.iconst 0, 1) := all_d dX8_count_all0 19 rfl
theorem dX8_count_36 : decode cX8_count 36 = .ok (.istore 7, 2) := all_d dX8_count_all0 20 rfl
theorem dX8_count_38 : decode cX8_count 38 = .ok (.aload_n 0, 1) := all_d dX8_count_all0 21 rfl
theorem dX8_count_39 : decode cX8_count 39 = .ok (.aload 6, 2) := all_d dX8_count_all0 22 rfl
theorem dX8_count_41 : decode cX8_count 41 = .ok (.ifnonnull 7, 3) := all_d dX8_count_all0 23 rfl
theorem dX8_count_44 : decode cX8_count 44 = .ok (.iconst 2, 1) := all_d dX8_count_all0 24 rfl
theorem dX8_count_45 : decode cX8_count 45 = .ok (.goto 13, 3) := all_d dX8_count_all0 25 rfl
theorem dX8_count_48 : decode cX8_count 48 = .ok (.iload 7, 2) := all_d dX8_count_all0 26 rfl
theorem dX8_count_50 : decode cX8_count 50 = .ok (.ifCond .eq 7, 3) := all_d dX8_count_all0 27 rfl
theorem dX8_count_53 : decode cX8_count 53 = .ok (.iconst 0, 1) := all_d dX8_count_all0 28 rfl
theorem dX8_count_54 : decode cX8_count 54 = .ok (.goto 4, 3) := all_d dX8_count_all0 29 rfl
theorem dX8_count_57 : decode cX8_count 57 = .ok (.iconst 1, 1) := all_d dX8_count_all0 30 rfl
theorem dX8_count_58 : decode cX8_count 58 = .ok (.putfield 66, 3) := all_d dX8_count_all0 31 rfl
theorem dX8_count_61 : decode cX8_count 61 = .ok (.aload 6, 2) := all_d dX8_count_all0 32 rfl
theorem dX8_count_63 : decode cX8_count 63 = .ok (.ifnull 10, 3) := all_d dX8_count_all0 33 rfl
theorem dX8_count_66 : decode cX8_count 66 = .ok (.aload_n 0, 1) := all_d dX8_count_all0 34 rfl
theorem dX8_count_67 : decode cX8_count 67 = .ok (.getfield 66, 3) := all_d dX8_count_all0 35 rfl
theorem dX8_count_70 : decode cX8_count 70 = .ok (.ifCond .eq 5, 3) := all_d dX8_count_all0 36 rfl
theorem dX8_count_73 : decode cX8_count 73 = .ok (.iconst (-1), 1) := all_d dX8_count_all0 37 rfl
theorem dX8_count_74 : decode cX8_count 74 = .ok (.ireturn, 1) := all_d dX8_count_all0 38 rfl
theorem dX8_count_75 : decode cX8_count 75 = .ok (.iconst 0, 1) := all_d dX8_count_all0 39 rfl
theorem dX8_count_76 : decode cX8_count 76 = .ok (.istore 8, 2) := all_d dX8_count_all0 40 rfl
theorem dX8_count_78 : decode cX8_count 78 = .ok (.iload_n 2, 1) := all_d dX8_count_all0 41 rfl
theorem dX8_count_79 : decode cX8_count 79 = .ok (.i2l, 1) := all_d dX8_count_all0 42 rfl
theorem dX8_count_80 : decode cX8_count 80 = .ok (.lstore 9, 2) := all_d dX8_count_all0 43 rfl
theorem dX8_count_82 : decode cX8_count 82 = .ok (.lload 9, 2) := all_d dX8_count_all0 44 rfl
theorem dX8_count_84 : decode cX8_count 84 = .ok (.iload_n 3, 1) := all_d dX8_count_all0 45 rfl
theorem dX8_count_85 : decode cX8_count 85 = .ok (.i2l, 1) := all_d dX8_count_all0 46 rfl
theorem dX8_count_86 : decode cX8_count 86 = .ok (.lcmp, 1) := all_d dX8_count_all0 47 rfl
theorem dX8_count_87 : decode cX8_count 87 = .ok (.ifCond .gt 30, 3) := all_d dX8_count_all0 48 rfl
theorem dX8_count_90 : decode cX8_count 90 = .ok (.aload 6, 2) := all_d dX8_count_all0 49 rfl
theorem dX8_count_92 : decode cX8_count 92 = .ok (.lload 9, 2) := all_d dX8_count_all0 50 rfl
theorem dX8_count_94 : decode cX8_count 94 = .ok (.l2i, 1) := all_d dX8_count_all0 51 rfl
theorem dX8_count_95 : decode cX8_count 95 = .ok (.invokevirtual 139, 3) := all_d dX8_count_all0 52 rfl
theorem dX8_count_98 : decode cX8_count 98 = .ok (.iload 5, 2) := all_d dX8_count_all0 53 rfl
theorem dX8_count_100 : decode cX8_count 100 = .ok (.if_icmp .ne 6, 3) := all_d dX8_count_all0 54 rfl
theorem dX8_count_103 : decode cX8_count 103 = .ok (.iinc 8 1, 3) := all_d dX8_count_all0 55 rfl
theorem dX8_count_106 : decode cX8_count 106 = .ok (.lload 9, 2) := all_d dX8_count_all0 56 rfl
theorem dX8_count_108 : decode cX8_count 108 = .ok (.iload 4, 2) := all_d dX8_count_all0 57 rfl
theorem dX8_count_110 : decode cX8_count 110 = .ok (.i2l, 1) := all_d dX8_count_all0 58 rfl
theorem dX8_count_111 : decode cX8_count 111 = .ok (.ladd, 1) := all_d dX8_count_all0 59 rfl
theorem dX8_count_112 : decode cX8_count 112 = .ok (.lstore 9, 2) := all_d dX8_count_all0 60 rfl
theorem dX8_count_114 : decode cX8_count 114 = .ok (.goto (-32), 3) := all_d dX8_count_all0 61 rfl
theorem dX8_count_117 : decode cX8_count 117 = .ok (.iload 8, 2) := all_d dX8_count_all0 62 rfl
theorem dX8_count_119 : decode cX8_count 119 = .ok (.ireturn, 1) := all_d dX8_count_all0 63 rfl
set_option maxRecDepth 100000 in
theorem dX8_noise_all0 : ([(0, (.iload_n 1 : Instr), 1), (1, (.bipush 100 : Instr), 2), (3, (.invokestatic 113 : Instr), 3), (6, (.ifCond .eq 19 : Instr), 3), (9, (.iload_n 2 : Instr), 1), (10, (.iconst 1 : Instr), 1), (11, (.if_icmp .lt 14 : Instr), 3), (14, (.iload_n 2 : Instr), 1), (15, (.sipush 1000 : Instr), 3), (18, (.if_icmp .gt 7 : Instr), 3), (21, (.iconst 1 : Instr), 1), (22, (.goto 4 : Instr), 3), (25, (.iconst 0 : Instr), 1), (26, (.istore_n 3 : Instr), 1), (27, (.aload_n 0 : Instr), 1), (28, (.iload_n 3 : Instr), 1), (29, (.ifCond .ne 7 : Instr), 3), (32, (.iconst 1 : Instr), 1), (33, (.goto 20 : Instr), 3), (36, (.aload_n 0 : Instr), 1), (37, (.getfield 25 : Instr), 3), (40, (.getfield 210 : Instr), 3), (43, (.bipush 8 : Instr), 2), (45, (.if_icmp .lt 7 : Instr), 3), (48, (.iconst 3 : Instr), 1), (49, (.goto 4 : Instr), 3), (52, (.iconst 0 : Instr), 1), (53, (.putfield 66 : Instr), 3), (56, (.aload_n 0 : Instr), 1), (57, (.getfield 66 : Instr), 3), (60, (.ifCond .eq 5 : Instr), 3), (63, (.iconst (-1) : Instr), 1), (64, (.ireturn : Instr), 1), (65, (.aload_n 0 : Instr), 1), (66, (.getfield 25 : Instr), 3), (69, (.iload_n 1 : Instr), 1), (70, (.iload_n 2 : Instr), 1), (71, (.invokevirtual 213 : Instr), 3), (74, (.aload_n 0 : Instr), 1), (75, (.getfield 25 : Instr), 3), (78, (.getfield 210 : Instr), 3), (81, (.ireturn : Instr), 1)] : List (Nat × Instr × Nat)).all (fun q => decide (decode cX8_noise q.1 = .ok (q.2.1, q.2.2))) = true := by decide +kernel
theorem dX8_noise_0 : decode cX8_noise 0 = .ok (.iload_n 1, 1) := all_d dX8_noise_all0 0 rfl
theorem dX8_noise_1 : decode cX8_noise 1 = .ok (.bipush 100, 2) := all_d dX8_noise_all0 1 rfl
theorem dX8_noise_3 : decode cX8_noise 3 = .ok (.invokestatic 113, 3) := all_d dX8_noise_all0 2 rfl
theorem dX8_noise_6 : decode cX8_noise 6 = .ok (.ifCond .eq 19, 3) := all_d dX8_noise_all0 3 rfl
theorem dX8_noise_9 : decode cX8_noise 9 = .ok (.iload_n 2, 1) := all_d dX8_noise_all0 4 rfl
theorem dX8_noise_10 : decode cX8_noise 10 = .ok (.iconst 1, 1) := all_d dX8_noise_all0 5 rfl
theorem dX8_noise_11 : decode cX8_noise 11 = .ok (.if_icmp .lt 14, 3) := all_d dX8_noise_all0 6 rfl
theorem dX8_noise_14 : decode cX8_noise 14 = .ok (.iload_n 2, 1) := all_d dX8_noise_all0 7 rfl
theorem dX8_noise_15 : decode cX8_noise 15 = .ok (.sipush 1000, 3) := all_d dX8_noise_all0 8 rfl
theorem dX8_noise_18 : decode cX8_noise 18 = .ok (.if_icmp .gt 7, 3) := all_d dX8_noise_all0 9 rfl
theorem dX8_noise_21 : decode cX8_noise 21 = .ok (.iconst 1, 1) := all_d dX8_noise_all0 10 rfl
theorem dX8_noise_22 : decode cX8_noise 22 = .ok (.goto 4, 3) := all_d dX8_noise_all0 11 rfl
theorem dX8_noise_25 : decode cX8_noise 25 = .ok (.iconst 0, 1) := all_d dX8_noise_all0 12 rfl
theorem dX8_noise_26 : decode cX8_noise 26 = .ok (.istore_n 3, 1) := all_d dX8_noise_all0 13 rfl
theorem dX8_noise_27 : decode cX8_noise 27 = .ok (.aload_n 0, 1) := all_d dX8_noise_all0 14 rfl
theorem dX8_noise_28 : decode cX8_noise 28 = .ok (.iload_n 3, 1) := all_d dX8_noise_all0 15 rfl
theorem dX8_noise_29 : decode cX8_noise 29 = .ok (.ifCond .ne 7, 3) := all_d dX8_noise_all0 16 rfl
theorem dX8_noise_32 : decode cX8_noise 32 = .ok (.iconst 1, 1) := all_d dX8_noise_all0 17 rfl
theorem dX8_noise_33 : decode cX8_noise 33 = .ok (.goto 20, 3) := all_d dX8_noise_all0 18 rfl
theorem dX8_noise_36 : decode cX8_noise 36 = .ok (.aload_n 0, 1) := all_d dX8_noise_all0 19 rfl
theorem dX8_noise_37 : decode cX8_noise 37 = .ok (.getfield 25, 3) := all_d dX8_noise_all0 20 rfl
theorem dX8_noise_40 : decode cX8_noise 40 = .ok (.getfield 210, 3) := all_d dX8_noise_all0 21 rfl
theorem dX8_noise_43 : decode cX8_noise 43 = .ok (.bipush 8, 2) := all_d dX8_noise_all0 22 rfl
theorem dX8_noise_45 : decode cX8_noise 45 = .ok (.if_icmp .lt 7, 3) := all_d dX8_noise_all0 23 rfl
theorem dX8_noise_48 : decode cX8_noise 48 = .ok (.iconst 3, 1) := all_d dX8_noise_all0 24 rfl
theorem dX8_noise_49 : decode cX8_noise 49 = .ok (.goto 4, 3) := all_d dX8_noise_all0 25 rfl
theorem dX8_noise_52 : decode cX8_noise 52 = .ok (.iconst 0, 1) := all_d dX8_noise_all0 26 rfl
theorem dX8_noise_53 : decode cX8_noise 53 = .ok (.putfield 66, 3) := all_d dX8_noise_all0 27 rfl
theorem dX8_noise_56 : decode cX8_noise 56 = .ok (.aload_n 0, 1) := all_d dX8_noise_all0 28 rfl
theorem dX8_noise_57 : decode cX8_noise 57 = .ok (.getfield 66, 3) := all_d dX8_noise_all0 29 rfl
theorem dX8_noise_60 : decode cX8_noise 60 = .ok (.ifCond .eq 5, 3) := all_d dX8_noise_all0 30 rfl
theorem dX8_noise_63 : decode cX8_noise 63 = .ok (.iconst (-1), 1) := all_d dX8_noise_all0 31 rfl
theorem dX8_noise_64 : decode cX8_noise 64 = .ok (.ireturn, 1) := all_d dX8_noise_all0 32 rfl
theorem dX8_noise_65 : decode cX8_noise 65 = .ok (.aload_n 0, 1) := all_d dX8_noise_all0 33 rfl
theorem dX8_noise_66 : decode cX8_noise 66 = .ok (.getfield 25, 3) := all_d dX8_noise_all0 34 rfl
theorem dX8_noise_69 : decode cX8_noise 69 = .ok (.iload_n 1, 1) := all_d dX8_noise_all0 35 rfl
theorem dX8_noise_70 : decode cX8_noise 70 = .ok (.iload_n 2, 1) := all_d dX8_noise_all0 36 rfl
theorem dX8_noise_71 : decode cX8_noise 71 = .ok (.invokevirtual 213, 3) := all_d dX8_noise_all0 37 rfl
theorem dX8_noise_74 : decode cX8_noise 74 = .ok (.aload_n 0, 1) := all_d dX8_noise_all0 38 rfl
theorem dX8_noise_75 : decode cX8_noise 75 = .ok (.getfield 25, 3) := all_d dX8_noise_all0 39 rfl
theorem dX8_noise_78 : decode cX8_noise 78 = .ok (.getfield 210, 3) := all_d dX8_noise_all0 40 rfl
theorem dX8_noise_81 : decode cX8_noise 81 = .ok (.ireturn, 1) := all_d dX8_noise_all0 41 rfl
set_option maxRecDepth 100000 in
theorem dX8_still_all0 : ([(0, (.aload_n 0 : Instr), 1), (1, (.getfield 25 : Instr), 3), (4, (.getfield 210 : Instr), 3), (7, (.istore_n 1 : Instr), 1), (8, (.aload_n 0 : Instr), 1), (9, (.getfield 25 : Instr), 3), (12, (.iconst 0 : Instr), 1), (13, (.putfield 210 : Instr), 3), (16, (.iload_n 1 : Instr), 1), (17, (.ireturn : Instr), 1)] : List (Nat × Instr × Nat)).all (fun q => decide (decode cX8_still q.1 = .ok (q.2.1, q.2.2))) = true := by decide +kernel
theorem dX8_still_0 : decode cX8_still 0 = .ok (.aload_n 0, 1) := all_d dX8_still_all0 0 rfl
theorem dX8_still_1 : decode cX8_still 1 = .ok (.getfield 25, 3) := all_d dX8_still_all0 1 rfl
theorem dX8_still_4 : decode cX8_still 4 = .ok (.getfield 210, 3) := all_d dX8_still_all0 2 rfl
theorem dX8_still_7 : decode cX8_still 7 = .ok (.istore_n 1, 1) := all_d dX8_still_all0 3 rfl
theorem dX8_still_8 : decode cX8_still 8 = .ok (.aload_n 0, 1) := all_d dX8_still_all0 4 rfl
theorem dX8_still_9 : decode cX8_still 9 = .ok (.getfield 25, 3) := all_d dX8_still_all0 5 rfl
theorem dX8_still_12 : decode cX8_still 12 = .ok (.iconst 0, 1) := all_d dX8_still_all0 6 rfl
theorem dX8_still_13 : decode cX8_still 13 = .ok (.putfield 210, 3) := all_d dX8_still_all0 7 rfl
theorem dX8_still_16 : decode cX8_still 16 = .ok (.iload_n 1, 1) := all_d dX8_still_all0 8 rfl
theorem dX8_still_17 : decode cX8_still 17 = .ok (.ireturn, 1) := all_d dX8_still_all0 9 rfl
set_option maxRecDepth 100000 in
theorem dX8_mean_all0 : ([(0, (.aload_n 0 : Instr), 1), (1, (.iload_n 1 : Instr), 1), (2, (.invokevirtual 83 : Instr), 3), (5, (.astore 4 : Instr), 2), (7, (.aload_n 0 : Instr), 1), (8, (.aload 4 : Instr), 2), (10, (.ifnull 11 : Instr), 3), (13, (.aload_n 0 : Instr), 1), (14, (.iload_n 2 : Instr), 1), (15, (.invokevirtual 134 : Instr), 3), (18, (.ifCond .ne 7 : Instr), 3), (21, (.iconst 2 : Instr), 1), (22, (.goto 4 : Instr), 3), (25, (.iconst 0 : Instr), 1), (26, (.putfield 66 : Instr), 3), (29, (.aload 4 : Instr), 2), (31, (.ifnull 10 : Instr), 3), (34, (.aload_n 0 : Instr), 1), (35, (.getfield 66 : Instr), 3), (38, (.ifCond .eq 5 : Instr), 3), (41, (.iconst (-1) : Instr), 1), (42, (.ireturn : Instr), 1), (43, (.aload_n 0 : Instr), 1), (44, (.getfield 25 : Instr), 3), (47, (.getfield 210 : Instr), 3), (50, (.ifCond .ne 18 : Instr), 3), (53, (.iload_n 3 : Instr), 1), (54, (.ifCond .eq 7 : Instr), 3), (57, (.iconst 1 : Instr), 1), (58, (.goto 9 : Instr), 3), (61, (.aload 4 : Instr), 2), (63, (.iload_n 2 : Instr), 1), (64, (.invokevirtual 139 : Instr), 3), (67, (.ireturn : Instr), 1), (68, (.aload_n 0 : Instr), 1), (69, (.getfield 25 : Instr), 3), (72, (.aload 4 : Instr), 2), (74, (.iload_n 2 : Instr), 1), (75, (.aload_n 0 : Instr), 1), (76, (.getfield 56 : Instr), 3), (79, (.invokevirtual 216 : Instr), 3), (82, (.istore 5 : Instr), 2), (84, (.aload_n 0 : Instr), 1), (85, (.getfield 25 : Instr), 3), (88, (.invokevirtual 219 : Instr), 3), (91, (.istore 6 : Instr), 2), (93, (.iconst 1 : Instr), 1), (94, (.iload 5 : Instr), 2), (96, (.iload 6 : Instr), 2), (98, (.invokestatic 222 : Instr), 3), (101, (.invokestatic 175 : Instr), 3), (104, (.istore 7 : Instr), 2), (106, (.iload_n 3 : Instr), 1), (107, (.ifCond .eq 8 : Instr), 3), (110, (.iload 6 : Instr), 2), (112, (.goto 5 : Instr), 3), (115, (.iload 5 : Instr), 2), (117, (.iload 7 : Instr), 2), (119, (.idiv : Instr), 1), (120, (.ireturn : Instr), 1)] : List (Nat × Instr × Nat)).all (fun q => decide (decode cX8_mean q.1 = .ok (q.2.1, q.2.2))) = true := by decide +kernel
theorem dX8_mean_0 : decode cX8_mean 0 = .ok (.aload_n 0, 1) := all_d dX8_mean_all0 0 rfl
theorem dX8_mean_1 : decode cX8_mean 1 = .ok (.iload_n 1, 1) := all_d dX8_mean_all0 1 rfl
theorem dX8_mean_2 : decode cX8_mean 2 = .ok (.invokevirtual 83, 3) := all_d dX8_mean_all0 2 rfl
theorem dX8_mean_5 : decode cX8_mean 5 = .ok (.astore 4, 2) := all_d dX8_mean_all0 3 rfl
theorem dX8_mean_7 : decode cX8_mean 7 = .ok (.aload_n 0, 1) := all_d dX8_mean_all0 4 rfl
theorem dX8_mean_8 : decode cX8_mean 8 = .ok (.aload 4, 2) := all_d dX8_mean_all0 5 rfl
theorem dX8_mean_10 : decode cX8_mean 10 = .ok (.ifnull 11, 3) := all_d dX8_mean_all0 6 rfl
theorem dX8_mean_13 : decode cX8_mean 13 = .ok (.aload_n 0, 1) := all_d dX8_mean_all0 7 rfl
theorem dX8_mean_14 : decode cX8_mean 14 = .ok (.iload_n 2, 1) := all_d dX8_mean_all0 8 rfl
theorem dX8_mean_15 : decode cX8_mean 15 = .ok (.invokevirtual 134, 3) := all_d dX8_mean_all0 9 rfl
theorem dX8_mean_18 : decode cX8_mean 18 = .ok (.ifCond .ne 7, 3) := all_d dX8_mean_all0 10 rfl
theorem dX8_mean_21 : decode cX8_mean 21 = .ok (.iconst 2, 1) := all_d dX8_mean_all0 11 rfl
theorem dX8_mean_22 : decode cX8_mean 22 = .ok (.goto 4, 3) := all_d dX8_mean_all0 12 rfl
theorem dX8_mean_25 : decode cX8_mean 25 = .ok (.iconst 0, 1) := all_d dX8_mean_all0 13 rfl
theorem dX8_mean_26 : decode cX8_mean 26 = .ok (.putfield 66, 3) := all_d dX8_mean_all0 14 rfl
theorem dX8_mean_29 : decode cX8_mean 29 = .ok (.aload 4, 2) := all_d dX8_mean_all0 15 rfl
theorem dX8_mean_31 : decode cX8_mean 31 = .ok (.ifnull 10, 3) := all_d dX8_mean_all0 16 rfl
theorem dX8_mean_34 : decode cX8_mean 34 = .ok (.aload_n 0, 1) := all_d dX8_mean_all0 17 rfl
theorem dX8_mean_35 : decode cX8_mean 35 = .ok (.getfield 66, 3) := all_d dX8_mean_all0 18 rfl
theorem dX8_mean_38 : decode cX8_mean 38 = .ok (.ifCond .eq 5, 3) := all_d dX8_mean_all0 19 rfl
theorem dX8_mean_41 : decode cX8_mean 41 = .ok (.iconst (-1), 1) := all_d dX8_mean_all0 20 rfl
theorem dX8_mean_42 : decode cX8_mean 42 = .ok (.ireturn, 1) := all_d dX8_mean_all0 21 rfl
theorem dX8_mean_43 : decode cX8_mean 43 = .ok (.aload_n 0, 1) := all_d dX8_mean_all0 22 rfl
theorem dX8_mean_44 : decode cX8_mean 44 = .ok (.getfield 25, 3) := all_d dX8_mean_all0 23 rfl
theorem dX8_mean_47 : decode cX8_mean 47 = .ok (.getfield 210, 3) := all_d dX8_mean_all0 24 rfl
theorem dX8_mean_50 : decode cX8_mean 50 = .ok (.ifCond .ne 18, 3) := all_d dX8_mean_all0 25 rfl
theorem dX8_mean_53 : decode cX8_mean 53 = .ok (.iload_n 3, 1) := all_d dX8_mean_all0 26 rfl
theorem dX8_mean_54 : decode cX8_mean 54 = .ok (.ifCond .eq 7, 3) := all_d dX8_mean_all0 27 rfl
theorem dX8_mean_57 : decode cX8_mean 57 = .ok (.iconst 1, 1) := all_d dX8_mean_all0 28 rfl
theorem dX8_mean_58 : decode cX8_mean 58 = .ok (.goto 9, 3) := all_d dX8_mean_all0 29 rfl
theorem dX8_mean_61 : decode cX8_mean 61 = .ok (.aload 4, 2) := all_d dX8_mean_all0 30 rfl
theorem dX8_mean_63 : decode cX8_mean 63 = .ok (.iload_n 2, 1) := all_d dX8_mean_all0 31 rfl
theorem dX8_mean_64 : decode cX8_mean 64 = .ok (.invokevirtual 139, 3) := all_d dX8_mean_all0 32 rfl
theorem dX8_mean_67 : decode cX8_mean 67 = .ok (.ireturn, 1) := all_d dX8_mean_all0 33 rfl
theorem dX8_mean_68 : decode cX8_mean 68 = .ok (.aload_n 0, 1) := all_d dX8_mean_all0 34 rfl
theorem dX8_mean_69 : decode cX8_mean 69 = .ok (.getfield 25, 3) := all_d dX8_mean_all0 35 rfl
theorem dX8_mean_72 : decode cX8_mean 72 = .ok (.aload 4, 2) := all_d dX8_mean_all0 36 rfl
theorem dX8_mean_74 : decode cX8_mean 74 = .ok (.iload_n 2, 1) := all_d dX8_mean_all0 37 rfl
theorem dX8_mean_75 : decode cX8_mean 75 = .ok (.aload_n 0, 1) := all_d dX8_mean_all0 38 rfl
theorem dX8_mean_76 : decode cX8_mean 76 = .ok (.getfield 56, 3) := all_d dX8_mean_all0 39 rfl
theorem dX8_mean_79 : decode cX8_mean 79 = .ok (.invokevirtual 216, 3) := all_d dX8_mean_all0 40 rfl
theorem dX8_mean_82 : decode cX8_mean 82 = .ok (.istore 5, 2) := all_d dX8_mean_all0 41 rfl
theorem dX8_mean_84 : decode cX8_mean 84 = .ok (.aload_n 0, 1) := all_d dX8_mean_all0 42 rfl
theorem dX8_mean_85 : decode cX8_mean 85 = .ok (.getfield 25, 3) := all_d dX8_mean_all0 43 rfl
theorem dX8_mean_88 : decode cX8_mean 88 = .ok (.invokevirtual 219, 3) := all_d dX8_mean_all0 44 rfl
theorem dX8_mean_91 : decode cX8_mean 91 = .ok (.istore 6, 2) := all_d dX8_mean_all0 45 rfl
theorem dX8_mean_93 : decode cX8_mean 93 = .ok (.iconst 1, 1) := all_d dX8_mean_all0 46 rfl
theorem dX8_mean_94 : decode cX8_mean 94 = .ok (.iload 5, 2) := all_d dX8_mean_all0 47 rfl
theorem dX8_mean_96 : decode cX8_mean 96 = .ok (.iload 6, 2) := all_d dX8_mean_all0 48 rfl
theorem dX8_mean_98 : decode cX8_mean 98 = .ok (.invokestatic 222, 3) := all_d dX8_mean_all0 49 rfl
theorem dX8_mean_101 : decode cX8_mean 101 = .ok (.invokestatic 175, 3) := all_d dX8_mean_all0 50 rfl
theorem dX8_mean_104 : decode cX8_mean 104 = .ok (.istore 7, 2) := all_d dX8_mean_all0 51 rfl
theorem dX8_mean_106 : decode cX8_mean 106 = .ok (.iload_n 3, 1) := all_d dX8_mean_all0 52 rfl
theorem dX8_mean_107 : decode cX8_mean 107 = .ok (.ifCond .eq 8, 3) := all_d dX8_mean_all0 53 rfl
theorem dX8_mean_110 : decode cX8_mean 110 = .ok (.iload 6, 2) := all_d dX8_mean_all0 54 rfl
theorem dX8_mean_112 : decode cX8_mean 112 = .ok (.goto 5, 3) := all_d dX8_mean_all0 55 rfl
theorem dX8_mean_115 : decode cX8_mean 115 = .ok (.iload 5, 2) := all_d dX8_mean_all0 56 rfl
theorem dX8_mean_117 : decode cX8_mean 117 = .ok (.iload 7, 2) := all_d dX8_mean_all0 57 rfl
theorem dX8_mean_119 : decode cX8_mean 119 = .ok (.idiv, 1) := all_d dX8_mean_all0 58 rfl
theorem dX8_mean_120 : decode cX8_mean 120 = .ok (.ireturn, 1) := all_d dX8_mean_all0 59 rfl
set_option maxRecDepth 100000 in
theorem dX8_fault_all0 : ([(0, (.aload_n 0 : Instr), 1), (1, (.aload_n 0 : Instr), 1), (2, (.iload_n 1 : Instr), 1), (3, (.iload_n 2 : Instr), 1), (4, (.invokevirtual 109 : Instr), 3), (7, (.ifnonnull 7 : Instr), 3), (10, (.iconst 2 : Instr), 1), (11, (.goto 31 : Instr), 3), (14, (.iload_n 3 : Instr), 1), (15, (.sipush 500 : Instr), 3), (18, (.invokestatic 113 : Instr), 3), (21, (.ifCond .ne 7 : Instr), 3), (24, (.iconst 1 : Instr), 1), (25, (.goto 17 : Instr), 3), (28, (.aload_n 0 : Instr), 1), (29, (.getfield 63 : Instr), 3), (32, (.bipush 10 : Instr), 2), (34, (.if_icmp .lt 7 : Instr), 3), (37, (.iconst 3 : Instr), 1), (38, (.goto 4 : Instr), 3), (41, (.iconst 0 : Instr), 1), (42, (.putfield 66 : Instr), 3), (45, (.aload_n 0 : Instr), 1), (46, (.getfield 66 : Instr), 3), (49, (.ifCond .eq 5 : Instr), 3), (52, (.iconst (-1) : Instr), 1), (53, (.ireturn : Instr), 1), (54, (.aload_n 0 : Instr), 1), (55, (.dup : Instr), 1), (56, (.getfield 63 : Instr), 3), (59, (.iconst 1 : Instr), 1), (60, (.iadd : Instr), 1), (61, (.putfield 63 : Instr), 3), (64, (.aload_n 0 : Instr), 1), (65, (.aload_n 0 : Instr), 1), (66, (.getfield 63 : Instr), 3), (69, (.iconst 1 : Instr), 1), (70, (.isub : Instr), 1), (71, (.invokevirtual 225 : Instr), 3), (74, (.astore 4 : Instr), 2), (76, (.aload 4 : Instr), 2), (78, (.ifnull 11 : Instr), 3), (81, (.aload 4 : Instr), 2), (83, (.iload_n 1 : Instr), 1), (84, (.iload_n 2 : Instr), 1), (85, (.iload_n 3 : Instr), 1), (86, (.invokevirtual 229 : Instr), 3), (89, (.aload_n 0 : Instr), 1), (90, (.getfield 63 : Instr), 3), (93, (.ireturn : Instr), 1)] : List (Nat × Instr × Nat)).all (fun q => decide (decode cX8_fault q.1 = .ok (q.2.1, q.2.2))) = true := by decide +kernel
theorem dX8_fault_0 : decode cX8_fault 0 = .ok (.aload_n 0, 1) := all_d dX8_fault_all0 0 rfl
theorem dX8_fault_1 : decode cX8_fault 1 = .ok (.aload_n 0, 1) := all_d dX8_fault_all0 1 rfl
theorem dX8_fault_2 : decode cX8_fault 2 = .ok (.iload_n 1, 1) := all_d dX8_fault_all0 2 rfl
theorem dX8_fault_3 : decode cX8_fault 3 = .ok (.iload_n 2, 1) := all_d dX8_fault_all0 3 rfl
theorem dX8_fault_4 : decode cX8_fault 4 = .ok (.invokevirtual 109, 3) := all_d dX8_fault_all0 4 rfl
theorem dX8_fault_7 : decode cX8_fault 7 = .ok (.ifnonnull 7, 3) := all_d dX8_fault_all0 5 rfl
theorem dX8_fault_10 : decode cX8_fault 10 = .ok (.iconst 2, 1) := all_d dX8_fault_all0 6 rfl
theorem dX8_fault_11 : decode cX8_fault 11 = .ok (.goto 31, 3) := all_d dX8_fault_all0 7 rfl
theorem dX8_fault_14 : decode cX8_fault 14 = .ok (.iload_n 3, 1) := all_d dX8_fault_all0 8 rfl
theorem dX8_fault_15 : decode cX8_fault 15 = .ok (.sipush 500, 3) := all_d dX8_fault_all0 9 rfl
theorem dX8_fault_18 : decode cX8_fault 18 = .ok (.invokestatic 113, 3) := all_d dX8_fault_all0 10 rfl
theorem dX8_fault_21 : decode cX8_fault 21 = .ok (.ifCond .ne 7, 3) := all_d dX8_fault_all0 11 rfl
theorem dX8_fault_24 : decode cX8_fault 24 = .ok (.iconst 1, 1) := all_d dX8_fault_all0 12 rfl
theorem dX8_fault_25 : decode cX8_fault 25 = .ok (.goto 17, 3) := all_d dX8_fault_all0 13 rfl
theorem dX8_fault_28 : decode cX8_fault 28 = .ok (.aload_n 0, 1) := all_d dX8_fault_all0 14 rfl
theorem dX8_fault_29 : decode cX8_fault 29 = .ok (.getfield 63, 3) := all_d dX8_fault_all0 15 rfl
theorem dX8_fault_32 : decode cX8_fault 32 = .ok (.bipush 10, 2) := all_d dX8_fault_all0 16 rfl
theorem dX8_fault_34 : decode cX8_fault 34 = .ok (.if_icmp .lt 7, 3) := all_d dX8_fault_all0 17 rfl
theorem dX8_fault_37 : decode cX8_fault 37 = .ok (.iconst 3, 1) := all_d dX8_fault_all0 18 rfl
theorem dX8_fault_38 : decode cX8_fault 38 = .ok (.goto 4, 3) := all_d dX8_fault_all0 19 rfl
theorem dX8_fault_41 : decode cX8_fault 41 = .ok (.iconst 0, 1) := all_d dX8_fault_all0 20 rfl
theorem dX8_fault_42 : decode cX8_fault 42 = .ok (.putfield 66, 3) := all_d dX8_fault_all0 21 rfl
theorem dX8_fault_45 : decode cX8_fault 45 = .ok (.aload_n 0, 1) := all_d dX8_fault_all0 22 rfl
theorem dX8_fault_46 : decode cX8_fault 46 = .ok (.getfield 66, 3) := all_d dX8_fault_all0 23 rfl
theorem dX8_fault_49 : decode cX8_fault 49 = .ok (.ifCond .eq 5, 3) := all_d dX8_fault_all0 24 rfl
theorem dX8_fault_52 : decode cX8_fault 52 = .ok (.iconst (-1), 1) := all_d dX8_fault_all0 25 rfl
theorem dX8_fault_53 : decode cX8_fault 53 = .ok (.ireturn, 1) := all_d dX8_fault_all0 26 rfl
theorem dX8_fault_54 : decode cX8_fault 54 = .ok (.aload_n 0, 1) := all_d dX8_fault_all0 27 rfl
theorem dX8_fault_55 : decode cX8_fault 55 = .ok (.dup, 1) := all_d dX8_fault_all0 28 rfl
theorem dX8_fault_56 : decode cX8_fault 56 = .ok (.getfield 63, 3) := all_d dX8_fault_all0 29 rfl
theorem dX8_fault_59 : decode cX8_fault 59 = .ok (.iconst 1, 1) := all_d dX8_fault_all0 30 rfl
theorem dX8_fault_60 : decode cX8_fault 60 = .ok (.iadd, 1) := all_d dX8_fault_all0 31 rfl
theorem dX8_fault_61 : decode cX8_fault 61 = .ok (.putfield 63, 3) := all_d dX8_fault_all0 32 rfl
theorem dX8_fault_64 : decode cX8_fault 64 = .ok (.aload_n 0, 1) := all_d dX8_fault_all0 33 rfl
theorem dX8_fault_65 : decode cX8_fault 65 = .ok (.aload_n 0, 1) := all_d dX8_fault_all0 34 rfl
theorem dX8_fault_66 : decode cX8_fault 66 = .ok (.getfield 63, 3) := all_d dX8_fault_all0 35 rfl
theorem dX8_fault_69 : decode cX8_fault 69 = .ok (.iconst 1, 1) := all_d dX8_fault_all0 36 rfl
theorem dX8_fault_70 : decode cX8_fault 70 = .ok (.isub, 1) := all_d dX8_fault_all0 37 rfl
theorem dX8_fault_71 : decode cX8_fault 71 = .ok (.invokevirtual 225, 3) := all_d dX8_fault_all0 38 rfl
theorem dX8_fault_74 : decode cX8_fault 74 = .ok (.astore 4, 2) := all_d dX8_fault_all0 39 rfl
theorem dX8_fault_76 : decode cX8_fault 76 = .ok (.aload 4, 2) := all_d dX8_fault_all0 40 rfl
theorem dX8_fault_78 : decode cX8_fault 78 = .ok (.ifnull 11, 3) := all_d dX8_fault_all0 41 rfl
theorem dX8_fault_81 : decode cX8_fault 81 = .ok (.aload 4, 2) := all_d dX8_fault_all0 42 rfl
theorem dX8_fault_83 : decode cX8_fault 83 = .ok (.iload_n 1, 1) := all_d dX8_fault_all0 43 rfl
theorem dX8_fault_84 : decode cX8_fault 84 = .ok (.iload_n 2, 1) := all_d dX8_fault_all0 44 rfl
theorem dX8_fault_85 : decode cX8_fault 85 = .ok (.iload_n 3, 1) := all_d dX8_fault_all0 45 rfl
theorem dX8_fault_86 : decode cX8_fault 86 = .ok (.invokevirtual 229, 3) := all_d dX8_fault_all0 46 rfl
theorem dX8_fault_89 : decode cX8_fault 89 = .ok (.aload_n 0, 1) := all_d dX8_fault_all0 47 rfl
theorem dX8_fault_90 : decode cX8_fault 90 = .ok (.getfield 63, 3) := all_d dX8_fault_all0 48 rfl
theorem dX8_fault_93 : decode cX8_fault 93 = .ok (.ireturn, 1) := all_d dX8_fault_all0 49 rfl
set_option maxRecDepth 100000 in
theorem dX8_clear_all0 : ([(0, (.aload_n 0 : Instr), 1), (1, (.getfield 63 : Instr), 3), (4, (.istore_n 1 : Instr), 1), (5, (.aload_n 0 : Instr), 1), (6, (.iconst 0 : Instr), 1), (7, (.putfield 63 : Instr), 3), (10, (.iload_n 1 : Instr), 1), (11, (.ireturn : Instr), 1)] : List (Nat × Instr × Nat)).all (fun q => decide (decode cX8_clear q.1 = .ok (q.2.1, q.2.2))) = true := by decide +kernel
theorem dX8_clear_0 : decode cX8_clear 0 = .ok (.aload_n 0, 1) := all_d dX8_clear_all0 0 rfl
theorem dX8_clear_1 : decode cX8_clear 1 = .ok (.getfield 63, 3) := all_d dX8_clear_all0 1 rfl
theorem dX8_clear_4 : decode cX8_clear 4 = .ok (.istore_n 1, 1) := all_d dX8_clear_all0 2 rfl
theorem dX8_clear_5 : decode cX8_clear 5 = .ok (.aload_n 0, 1) := all_d dX8_clear_all0 3 rfl
theorem dX8_clear_6 : decode cX8_clear 6 = .ok (.iconst 0, 1) := all_d dX8_clear_all0 4 rfl
theorem dX8_clear_7 : decode cX8_clear 7 = .ok (.putfield 63, 3) := all_d dX8_clear_all0 5 rfl
theorem dX8_clear_10 : decode cX8_clear 10 = .ok (.iload_n 1, 1) := all_d dX8_clear_all0 6 rfl
theorem dX8_clear_11 : decode cX8_clear 11 = .ok (.ireturn, 1) := all_d dX8_clear_all0 7 rfl
set_option maxRecDepth 100000 in
theorem dX8_shown_all0 : ([(0, (.aload_n 0 : Instr), 1), (1, (.iload_n 1 : Instr), 1), (2, (.invokevirtual 225 : Instr), 3), (5, (.astore_n 2 : Instr), 1), (6, (.aload_n 0 : Instr), 1), (7, (.aload_n 2 : Instr), 1), (8, (.ifnonnull 7 : Instr), 3), (11, (.iconst 2 : Instr), 1), (12, (.goto 4 : Instr), 3), (15, (.iconst 0 : Instr), 1), (16, (.putfield 66 : Instr), 3), (19, (.aload_n 2 : Instr), 1), (20, (.ifnonnull 5 : Instr), 3), (23, (.iconst (-1) : Instr), 1), (24, (.ireturn : Instr), 1), (25, (.iconst 0 : Instr), 1), (26, (.istore_n 3 : Instr), 1), (27, (.iload_n 3 : Instr), 1), (28, (.aload_n 0 : Instr), 1), (29, (.getfield 56 : Instr), 3), (32, (.if_icmp .gt 20 : Instr), 3), (35, (.aload_n 0 : Instr), 1), (36, (.aload_n 2 : Instr), 1), (37, (.iload_n 3 : Instr), 1), (38, (.invokevirtual 233 : Instr), 3), (41, (.ifCond .eq 5 : Instr), 3), (44, (.iload_n 3 : Instr), 1), (45, (.ireturn : Instr), 1), (46, (.iinc 3 1 : Instr), 3), (49, (.goto (-22) : Instr), 3), (52, (.bipush (-2) : Instr), 2), (54, (.ireturn : Instr), 1)] : List (Nat × Instr × Nat)).all (fun q => decide (decode cX8_shown q.1 = .ok (q.2.1, q.2.2))) = true := by decide +kernel
theorem dX8_shown_0 : decode cX8_shown 0 = .ok (.aload_n 0, 1) := all_d dX8_shown_all0 0 rfl
theorem dX8_shown_1 : decode cX8_shown 1 = .ok (.iload_n 1, 1) := all_d dX8_shown_all0 1 rfl
theorem dX8_shown_2 : decode cX8_shown 2 = .ok (.invokevirtual 225, 3) := all_d dX8_shown_all0 2 rfl
theorem dX8_shown_5 : decode cX8_shown 5 = .ok (.astore_n 2, 1) := all_d dX8_shown_all0 3 rfl
theorem dX8_shown_6 : decode cX8_shown 6 = .ok (.aload_n 0, 1) := all_d dX8_shown_all0 4 rfl
theorem dX8_shown_7 : decode cX8_shown 7 = .ok (.aload_n 2, 1) := all_d dX8_shown_all0 5 rfl
theorem dX8_shown_8 : decode cX8_shown 8 = .ok (.ifnonnull 7, 3) := all_d dX8_shown_all0 6 rfl
theorem dX8_shown_11 : decode cX8_shown 11 = .ok (.iconst 2, 1) := all_d dX8_shown_all0 7 rfl
theorem dX8_shown_12 : decode cX8_shown 12 = .ok (.goto 4, 3) := all_d dX8_shown_all0 8 rfl
theorem dX8_shown_15 : decode cX8_shown 15 = .ok (.iconst 0, 1) := all_d dX8_shown_all0 9 rfl
theorem dX8_shown_16 : decode cX8_shown 16 = .ok (.putfield 66, 3) := all_d dX8_shown_all0 10 rfl
theorem dX8_shown_19 : decode cX8_shown 19 = .ok (.aload_n 2, 1) := all_d dX8_shown_all0 11 rfl
theorem dX8_shown_20 : decode cX8_shown 20 = .ok (.ifnonnull 5, 3) := all_d dX8_shown_all0 12 rfl
theorem dX8_shown_23 : decode cX8_shown 23 = .ok (.iconst (-1), 1) := all_d dX8_shown_all0 13 rfl
theorem dX8_shown_24 : decode cX8_shown 24 = .ok (.ireturn, 1) := all_d dX8_shown_all0 14 rfl
theorem dX8_shown_25 : decode cX8_shown 25 = .ok (.iconst 0, 1) := all_d dX8_shown_all0 15 rfl
theorem dX8_shown_26 : decode cX8_shown 26 = .ok (.istore_n 3, 1) := all_d dX8_shown_all0 16 rfl
theorem dX8_shown_27 : decode cX8_shown 27 = .ok (.iload_n 3, 1) := all_d dX8_shown_all0 17 rfl
theorem dX8_shown_28 : decode cX8_shown 28 = .ok (.aload_n 0, 1) := all_d dX8_shown_all0 18 rfl
theorem dX8_shown_29 : decode cX8_shown 29 = .ok (.getfield 56, 3) := all_d dX8_shown_all0 19 rfl
theorem dX8_shown_32 : decode cX8_shown 32 = .ok (.if_icmp .gt 20, 3) := all_d dX8_shown_all0 20 rfl
theorem dX8_shown_35 : decode cX8_shown 35 = .ok (.aload_n 0, 1) := all_d dX8_shown_all0 21 rfl
theorem dX8_shown_36 : decode cX8_shown 36 = .ok (.aload_n 2, 1) := all_d dX8_shown_all0 22 rfl
theorem dX8_shown_37 : decode cX8_shown 37 = .ok (.iload_n 3, 1) := all_d dX8_shown_all0 23 rfl
theorem dX8_shown_38 : decode cX8_shown 38 = .ok (.invokevirtual 233, 3) := all_d dX8_shown_all0 24 rfl
theorem dX8_shown_41 : decode cX8_shown 41 = .ok (.ifCond .eq 5, 3) := all_d dX8_shown_all0 25 rfl
theorem dX8_shown_44 : decode cX8_shown 44 = .ok (.iload_n 3, 1) := all_d dX8_shown_all0 26 rfl
theorem dX8_shown_45 : decode cX8_shown 45 = .ok (.ireturn, 1) := all_d dX8_shown_all0 27 rfl
theorem dX8_shown_46 : decode cX8_shown 46 = .ok (.iinc 3 1, 3) := all_d dX8_shown_all0 28 rfl
theorem dX8_shown_49 : decode cX8_shown 49 = .ok (.goto (-22), 3) := all_d dX8_shown_all0 29 rfl
theorem dX8_shown_52 : decode cX8_shown 52 = .ok (.bipush (-2), 2) := all_d dX8_shown_all0 30 rfl
theorem dX8_shown_54 : decode cX8_shown 54 = .ok (.ireturn, 1) := all_d dX8_shown_all0 31 rfl
set_option maxRecDepth 100000 in
theorem dX8_shows_all0 : ([(0, (.aload_n 0 : Instr), 1), (1, (.getfield 63 : Instr), 3), (4, (.ifCond .ne 5 : Instr), 3), (7, (.iconst 0 : Instr), 1), (8, (.ireturn : Instr), 1), (9, (.aload_n 0 : Instr), 1), (10, (.getfield 45 : Instr), 3), (13, (.invokevirtual 237 : Instr), 3), (16, (.iconst 0 : Instr), 1), (17, (.istore_n 1 : Instr), 1), (18, (.iload_n 1 : Instr), 1), (19, (.aload_n 0 : Instr), 1), (20, (.getfield 56 : Instr), 3), (23, (.if_icmp .gt 21 : Instr), 3), (26, (.aload_n 0 : Instr), 1), (27, (.getfield 45 : Instr), 3), (30, (.aload_n 0 : Instr), 1), (31, (.iload_n 1 : Instr), 1), (32, (.invokevirtual 239 : Instr), 3), (35, (.invokevirtual 242 : Instr), 3), (38, (.iinc 1 1 : Instr), 3), (41, (.goto (-23) : Instr), 3), (44, (.aload_n 0 : Instr), 1), (45, (.getfield 45 : Instr), 3), (48, (.invokevirtual 245 : Instr), 3), (51, (.ireturn : Instr), 1)] : List (Nat × Instr × Nat)).all (fun q => decide (decode cX8_shows q.1 = .ok (q.2.1, q.2.2))) = true := by decide +kernel
theorem dX8_shows_0 : decode cX8_shows 0 = .ok (.aload_n 0, 1) := all_d dX8_shows_all0 0 rfl
theorem dX8_shows_1 : decode cX8_shows 1 = .ok (.getfield 63, 3) := all_d dX8_shows_all0 1 rfl
theorem dX8_shows_4 : decode cX8_shows 4 = .ok (.ifCond .ne 5, 3) := all_d dX8_shows_all0 2 rfl
theorem dX8_shows_7 : decode cX8_shows 7 = .ok (.iconst 0, 1) := all_d dX8_shows_all0 3 rfl
theorem dX8_shows_8 : decode cX8_shows 8 = .ok (.ireturn, 1) := all_d dX8_shows_all0 4 rfl
theorem dX8_shows_9 : decode cX8_shows 9 = .ok (.aload_n 0, 1) := all_d dX8_shows_all0 5 rfl
theorem dX8_shows_10 : decode cX8_shows 10 = .ok (.getfield 45, 3) := all_d dX8_shows_all0 6 rfl
theorem dX8_shows_13 : decode cX8_shows 13 = .ok (.invokevirtual 237, 3) := all_d dX8_shows_all0 7 rfl
theorem dX8_shows_16 : decode cX8_shows 16 = .ok (.iconst 0, 1) := all_d dX8_shows_all0 8 rfl
theorem dX8_shows_17 : decode cX8_shows 17 = .ok (.istore_n 1, 1) := all_d dX8_shows_all0 9 rfl
theorem dX8_shows_18 : decode cX8_shows 18 = .ok (.iload_n 1, 1) := all_d dX8_shows_all0 10 rfl
theorem dX8_shows_19 : decode cX8_shows 19 = .ok (.aload_n 0, 1) := all_d dX8_shows_all0 11 rfl
theorem dX8_shows_20 : decode cX8_shows 20 = .ok (.getfield 56, 3) := all_d dX8_shows_all0 12 rfl
theorem dX8_shows_23 : decode cX8_shows 23 = .ok (.if_icmp .gt 21, 3) := all_d dX8_shows_all0 13 rfl
theorem dX8_shows_26 : decode cX8_shows 26 = .ok (.aload_n 0, 1) := all_d dX8_shows_all0 14 rfl
theorem dX8_shows_27 : decode cX8_shows 27 = .ok (.getfield 45, 3) := all_d dX8_shows_all0 15 rfl
theorem dX8_shows_30 : decode cX8_shows 30 = .ok (.aload_n 0, 1) := all_d dX8_shows_all0 16 rfl
theorem dX8_shows_31 : decode cX8_shows 31 = .ok (.iload_n 1, 1) := all_d dX8_shows_all0 17 rfl
theorem dX8_shows_32 : decode cX8_shows 32 = .ok (.invokevirtual 239, 3) := all_d dX8_shows_all0 18 rfl
theorem dX8_shows_35 : decode cX8_shows 35 = .ok (.invokevirtual 242, 3) := all_d dX8_shows_all0 19 rfl
theorem dX8_shows_38 : decode cX8_shows 38 = .ok (.iinc 1 1, 3) := all_d dX8_shows_all0 20 rfl
theorem dX8_shows_41 : decode cX8_shows 41 = .ok (.goto (-23), 3) := all_d dX8_shows_all0 21 rfl
theorem dX8_shows_44 : decode cX8_shows 44 = .ok (.aload_n 0, 1) := all_d dX8_shows_all0 22 rfl
theorem dX8_shows_45 : decode cX8_shows 45 = .ok (.getfield 45, 3) := all_d dX8_shows_all0 23 rfl
theorem dX8_shows_48 : decode cX8_shows 48 = .ok (.invokevirtual 245, 3) := all_d dX8_shows_all0 24 rfl
theorem dX8_shows_51 : decode cX8_shows 51 = .ok (.ireturn, 1) := all_d dX8_shows_all0 25 rfl
set_option maxRecDepth 100000 in
theorem dX8_showing_all0 : ([(0, (.aload_n 0 : Instr), 1), (1, (.iload_n 1 : Instr), 1), (2, (.invokevirtual 134 : Instr), 3), (5, (.ifCond .eq 11 : Instr), 3), (8, (.aload_n 0 : Instr), 1), (9, (.iload_n 1 : Instr), 1), (10, (.invokevirtual 239 : Instr), 3), (13, (.goto 4 : Instr), 3), (16, (.iconst (-1) : Instr), 1), (17, (.ireturn : Instr), 1)] : List (Nat × Instr × Nat)).all (fun q => decide (decode cX8_showing q.1 = .ok (q.2.1, q.2.2))) = true := by decide +kernel
theorem dX8_showing_0 : decode cX8_showing 0 = .ok (.aload_n 0, 1) := all_d dX8_showing_all0 0 rfl
theorem dX8_showing_1 : decode cX8_showing 1 = .ok (.iload_n 1, 1) := all_d dX8_showing_all0 1 rfl
theorem dX8_showing_2 : decode cX8_showing 2 = .ok (.invokevirtual 134, 3) := all_d dX8_showing_all0 2 rfl
theorem dX8_showing_5 : decode cX8_showing 5 = .ok (.ifCond .eq 11, 3) := all_d dX8_showing_all0 3 rfl
theorem dX8_showing_8 : decode cX8_showing 8 = .ok (.aload_n 0, 1) := all_d dX8_showing_all0 4 rfl
theorem dX8_showing_9 : decode cX8_showing 9 = .ok (.iload_n 1, 1) := all_d dX8_showing_all0 5 rfl
theorem dX8_showing_10 : decode cX8_showing 10 = .ok (.invokevirtual 239, 3) := all_d dX8_showing_all0 6 rfl
theorem dX8_showing_13 : decode cX8_showing 13 = .ok (.goto 4, 3) := all_d dX8_showing_all0 7 rfl
theorem dX8_showing_16 : decode cX8_showing 16 = .ok (.iconst (-1), 1) := all_d dX8_showing_all0 8 rfl
theorem dX8_showing_17 : decode cX8_showing 17 = .ok (.ireturn, 1) := all_d dX8_showing_all0 9 rfl
set_option maxRecDepth 100000 in
theorem dX8_alike_all0 : ([(0, (.aload_n 0 : Instr), 1), (1, (.getfield 63 : Instr), 3), (4, (.iconst 2 : Instr), 1), (5, (.if_icmp .ge 5 : Instr), 3), (8, (.iconst 0 : Instr), 1), (9, (.ireturn : Instr), 1), (10, (.aload_n 0 : Instr), 1), (11, (.getfield 39 : Instr), 3), (14, (.iconst 0 : Instr), 1), (15, (.invokestatic 248 : Instr), 3), (18, (.iconst 0 : Instr), 1), (19, (.istore_n 1 : Instr), 1), (20, (.iload_n 1 : Instr), 1), (21, (.aload_n 0 : Instr), 1), (22, (.getfield 56 : Instr), 3), (25, (.if_icmp .gt 14 : Instr), 3), (28, (.aload_n 0 : Instr), 1), (29, (.iload_n 1 : Instr), 1), (30, (.invokevirtual 254 : Instr), 3), (33, (.iinc 1 1 : Instr), 3), (36, (.goto (-16) : Instr), 3), (39, (.iconst 0 : Instr), 1), (40, (.istore_n 1 : Instr), 1), (41, (.iconst 0 : Instr), 1), (42, (.istore_n 2 : Instr), 1), (43, (.iload_n 2 : Instr), 1), (44, (.aload_n 0 : Instr), 1), (45, (.getfield 63 : Instr), 3), (48, (.if_icmp .ge 39 : Instr), 3), (51, (.iload_n 2 : Instr), 1), (52, (.iconst 1 : Instr), 1), (53, (.iadd : Instr), 1), (54, (.istore_n 3 : Instr), 1), (55, (.iload_n 3 : Instr), 1), (56, (.aload_n 0 : Instr), 1), (57, (.getfield 63 : Instr), 3), (60, (.if_icmp .ge 21 : Instr), 3), (63, (.aload_n 0 : Instr), 1), (64, (.iload_n 2 : Instr), 1), (65, (.iload_n 3 : Instr), 1), (66, (.invokevirtual 257 : Instr), 3), (69, (.ifCond .eq 6 : Instr), 3), (72, (.iinc 1 1 : Instr), 3), (75, (.iinc 3 1 : Instr), 3), (78, (.goto (-23) : Instr), 3), (81, (.iinc 2 1 : Instr), 3), (84, (.goto (-41) : Instr), 3), (87, (.iload_n 1 : Instr), 1), (88, (.ireturn : Instr), 1)] : List (Nat × Instr × Nat)).all (fun q => decide (decode cX8_alike q.1 = .ok (q.2.1, q.2.2))) = true := by decide +kernel
theorem dX8_alike_0 : decode cX8_alike 0 = .ok (.aload_n 0, 1) := all_d dX8_alike_all0 0 rfl
theorem dX8_alike_1 : decode cX8_alike 1 = .ok (.getfield 63, 3) := all_d dX8_alike_all0 1 rfl
theorem dX8_alike_4 : decode cX8_alike 4 = .ok (.iconst 2, 1) := all_d dX8_alike_all0 2 rfl
theorem dX8_alike_5 : decode cX8_alike 5 = .ok (.if_icmp .ge 5, 3) := all_d dX8_alike_all0 3 rfl
theorem dX8_alike_8 : decode cX8_alike 8 = .ok (.iconst 0, 1) := all_d dX8_alike_all0 4 rfl
theorem dX8_alike_9 : decode cX8_alike 9 = .ok (.ireturn, 1) := all_d dX8_alike_all0 5 rfl
theorem dX8_alike_10 : decode cX8_alike 10 = .ok (.aload_n 0, 1) := all_d dX8_alike_all0 6 rfl
theorem dX8_alike_11 : decode cX8_alike 11 = .ok (.getfield 39, 3) := all_d dX8_alike_all0 7 rfl
theorem dX8_alike_14 : decode cX8_alike 14 = .ok (.iconst 0, 1) := all_d dX8_alike_all0 8 rfl
theorem dX8_alike_15 : decode cX8_alike 15 = .ok (.invokestatic 248, 3) := all_d dX8_alike_all0 9 rfl
theorem dX8_alike_18 : decode cX8_alike 18 = .ok (.iconst 0, 1) := all_d dX8_alike_all0 10 rfl
theorem dX8_alike_19 : decode cX8_alike 19 = .ok (.istore_n 1, 1) := all_d dX8_alike_all0 11 rfl
theorem dX8_alike_20 : decode cX8_alike 20 = .ok (.iload_n 1, 1) := all_d dX8_alike_all0 12 rfl
theorem dX8_alike_21 : decode cX8_alike 21 = .ok (.aload_n 0, 1) := all_d dX8_alike_all0 13 rfl
theorem dX8_alike_22 : decode cX8_alike 22 = .ok (.getfield 56, 3) := all_d dX8_alike_all0 14 rfl
theorem dX8_alike_25 : decode cX8_alike 25 = .ok (.if_icmp .gt 14, 3) := all_d dX8_alike_all0 15 rfl
theorem dX8_alike_28 : decode cX8_alike 28 = .ok (.aload_n 0, 1) := all_d dX8_alike_all0 16 rfl
theorem dX8_alike_29 : decode cX8_alike 29 = .ok (.iload_n 1, 1) := all_d dX8_alike_all0 17 rfl
theorem dX8_alike_30 : decode cX8_alike 30 = .ok (.invokevirtual 254, 3) := all_d dX8_alike_all0 18 rfl
theorem dX8_alike_33 : decode cX8_alike 33 = .ok (.iinc 1 1, 3) := all_d dX8_alike_all0 19 rfl
theorem dX8_alike_36 : decode cX8_alike 36 = .ok (.goto (-16), 3) := all_d dX8_alike_all0 20 rfl
theorem dX8_alike_39 : decode cX8_alike 39 = .ok (.iconst 0, 1) := all_d dX8_alike_all0 21 rfl
theorem dX8_alike_40 : decode cX8_alike 40 = .ok (.istore_n 1, 1) := all_d dX8_alike_all0 22 rfl
theorem dX8_alike_41 : decode cX8_alike 41 = .ok (.iconst 0, 1) := all_d dX8_alike_all0 23 rfl
theorem dX8_alike_42 : decode cX8_alike 42 = .ok (.istore_n 2, 1) := all_d dX8_alike_all0 24 rfl
theorem dX8_alike_43 : decode cX8_alike 43 = .ok (.iload_n 2, 1) := all_d dX8_alike_all0 25 rfl
theorem dX8_alike_44 : decode cX8_alike 44 = .ok (.aload_n 0, 1) := all_d dX8_alike_all0 26 rfl
theorem dX8_alike_45 : decode cX8_alike 45 = .ok (.getfield 63, 3) := all_d dX8_alike_all0 27 rfl
theorem dX8_alike_48 : decode cX8_alike 48 = .ok (.if_icmp .ge 39, 3) := all_d dX8_alike_all0 28 rfl
theorem dX8_alike_51 : decode cX8_alike 51 = .ok (.iload_n 2, 1) := all_d dX8_alike_all0 29 rfl
theorem dX8_alike_52 : decode cX8_alike 52 = .ok (.iconst 1, 1) := all_d dX8_alike_all0 30 rfl
theorem dX8_alike_53 : decode cX8_alike 53 = .ok (.iadd, 1) := all_d dX8_alike_all0 31 rfl
theorem dX8_alike_54 : decode cX8_alike 54 = .ok (.istore_n 3, 1) := all_d dX8_alike_all0 32 rfl
theorem dX8_alike_55 : decode cX8_alike 55 = .ok (.iload_n 3, 1) := all_d dX8_alike_all0 33 rfl
theorem dX8_alike_56 : decode cX8_alike 56 = .ok (.aload_n 0, 1) := all_d dX8_alike_all0 34 rfl
theorem dX8_alike_57 : decode cX8_alike 57 = .ok (.getfield 63, 3) := all_d dX8_alike_all0 35 rfl
theorem dX8_alike_60 : decode cX8_alike 60 = .ok (.if_icmp .ge 21, 3) := all_d dX8_alike_all0 36 rfl
theorem dX8_alike_63 : decode cX8_alike 63 = .ok (.aload_n 0, 1) := all_d dX8_alike_all0 37 rfl
theorem dX8_alike_64 : decode cX8_alike 64 = .ok (.iload_n 2, 1) := all_d dX8_alike_all0 38 rfl
theorem dX8_alike_65 : decode cX8_alike 65 = .ok (.iload_n 3, 1) := all_d dX8_alike_all0 39 rfl
theorem dX8_alike_66 : decode cX8_alike 66 = .ok (.invokevirtual 257, 3) := all_d dX8_alike_all0 40 rfl
theorem dX8_alike_69 : decode cX8_alike 69 = .ok (.ifCond .eq 6, 3) := all_d dX8_alike_all0 41 rfl
theorem dX8_alike_72 : decode cX8_alike 72 = .ok (.iinc 1 1, 3) := all_d dX8_alike_all0 42 rfl
theorem dX8_alike_75 : decode cX8_alike 75 = .ok (.iinc 3 1, 3) := all_d dX8_alike_all0 43 rfl
theorem dX8_alike_78 : decode cX8_alike 78 = .ok (.goto (-23), 3) := all_d dX8_alike_all0 44 rfl
theorem dX8_alike_81 : decode cX8_alike 81 = .ok (.iinc 2 1, 3) := all_d dX8_alike_all0 45 rfl
theorem dX8_alike_84 : decode cX8_alike 84 = .ok (.goto (-41), 3) := all_d dX8_alike_all0 46 rfl
theorem dX8_alike_87 : decode cX8_alike 87 = .ok (.iload_n 1, 1) := all_d dX8_alike_all0 47 rfl
theorem dX8_alike_88 : decode cX8_alike 88 = .ok (.ireturn, 1) := all_d dX8_alike_all0 48 rfl
set_option maxRecDepth 100000 in
theorem dX8_beyond_all0 : ([(0, (.aload_n 0 : Instr), 1), (1, (.iload_n 1 : Instr), 1), (2, (.invokevirtual 83 : Instr), 3), (5, (.astore_n 2 : Instr), 1), (6, (.aload_n 0 : Instr), 1), (7, (.aload_n 2 : Instr), 1), (8, (.ifnonnull 7 : Instr), 3), (11, (.iconst 2 : Instr), 1), (12, (.goto 4 : Instr), 3), (15, (.iconst 0 : Instr), 1), (16, (.putfield 66 : Instr), 3), (19, (.aload_n 2 : Instr), 1), (20, (.ifnonnull 5 : Instr), 3), (23, (.iconst (-1) : Instr), 1), (24, (.ireturn : Instr), 1), (25, (.iconst 0 : Instr), 1), (26, (.istore_n 3 : Instr), 1), (27, (.iload_n 3 : Instr), 1), (28, (.aload_n 0 : Instr), 1), (29, (.getfield 56 : Instr), 3), (32, (.if_icmp .gt 28 : Instr), 3), (35, (.aload_n 2 : Instr), 1), (36, (.iload_n 3 : Instr), 1), (37, (.invokevirtual 139 : Instr), 3), (40, (.pop : Instr), 1), (41, (.aload_n 0 : Instr), 1), (42, (.aload_n 2 : Instr), 1), (43, (.getfield 146 : Instr), 3), (46, (.invokevirtual 134 : Instr), 3), (49, (.ifCond .ne 5 : Instr), 3), (52, (.iload_n 3 : Instr), 1), (53, (.ireturn : Instr), 1), (54, (.iinc 3 1 : Instr), 3), (57, (.goto (-30) : Instr), 3), (60, (.bipush (-2) : Instr), 2), (62, (.ireturn : Instr), 1)] : List (Nat × Instr × Nat)).all (fun q => decide (decode cX8_beyond q.1 = .ok (q.2.1, q.2.2))) = true := by decide +kernel
theorem dX8_beyond_0 : decode cX8_beyond 0 = .ok (.aload_n 0, 1) := all_d dX8_beyond_all0 0 rfl
theorem dX8_beyond_1 : decode cX8_beyond 1 = .ok (.iload_n 1, 1) := all_d dX8_beyond_all0 1 rfl
theorem dX8_beyond_2 : decode cX8_beyond 2 = .ok (.invokevirtual 83, 3) := all_d dX8_beyond_all0 2 rfl
theorem dX8_beyond_5 : decode cX8_beyond 5 = .ok (.astore_n 2, 1) := all_d dX8_beyond_all0 3 rfl
theorem dX8_beyond_6 : decode cX8_beyond 6 = .ok (.aload_n 0, 1) := all_d dX8_beyond_all0 4 rfl
theorem dX8_beyond_7 : decode cX8_beyond 7 = .ok (.aload_n 2, 1) := all_d dX8_beyond_all0 5 rfl
theorem dX8_beyond_8 : decode cX8_beyond 8 = .ok (.ifnonnull 7, 3) := all_d dX8_beyond_all0 6 rfl
theorem dX8_beyond_11 : decode cX8_beyond 11 = .ok (.iconst 2, 1) := all_d dX8_beyond_all0 7 rfl
theorem dX8_beyond_12 : decode cX8_beyond 12 = .ok (.goto 4, 3) := all_d dX8_beyond_all0 8 rfl
theorem dX8_beyond_15 : decode cX8_beyond 15 = .ok (.iconst 0, 1) := all_d dX8_beyond_all0 9 rfl
theorem dX8_beyond_16 : decode cX8_beyond 16 = .ok (.putfield 66, 3) := all_d dX8_beyond_all0 10 rfl
theorem dX8_beyond_19 : decode cX8_beyond 19 = .ok (.aload_n 2, 1) := all_d dX8_beyond_all0 11 rfl
theorem dX8_beyond_20 : decode cX8_beyond 20 = .ok (.ifnonnull 5, 3) := all_d dX8_beyond_all0 12 rfl
theorem dX8_beyond_23 : decode cX8_beyond 23 = .ok (.iconst (-1), 1) := all_d dX8_beyond_all0 13 rfl
theorem dX8_beyond_24 : decode cX8_beyond 24 = .ok (.ireturn, 1) := all_d dX8_beyond_all0 14 rfl
theorem dX8_beyond_25 : decode cX8_beyond 25 = .ok (.iconst 0, 1) := all_d dX8_beyond_all0 15 rfl
theorem dX8_beyond_26 : decode cX8_beyond 26 = .ok (.istore_n 3, 1) := all_d dX8_beyond_all0 16 rfl
theorem dX8_beyond_27 : decode cX8_beyond 27 = .ok (.iload_n 3, 1) := all_d dX8_beyond_all0 17 rfl
theorem dX8_beyond_28 : decode cX8_beyond 28 = .ok (.aload_n 0, 1) := all_d dX8_beyond_all0 18 rfl
theorem dX8_beyond_29 : decode cX8_beyond 29 = .ok (.getfield 56, 3) := all_d dX8_beyond_all0 19 rfl
theorem dX8_beyond_32 : decode cX8_beyond 32 = .ok (.if_icmp .gt 28, 3) := all_d dX8_beyond_all0 20 rfl
theorem dX8_beyond_35 : decode cX8_beyond 35 = .ok (.aload_n 2, 1) := all_d dX8_beyond_all0 21 rfl
theorem dX8_beyond_36 : decode cX8_beyond 36 = .ok (.iload_n 3, 1) := all_d dX8_beyond_all0 22 rfl
theorem dX8_beyond_37 : decode cX8_beyond 37 = .ok (.invokevirtual 139, 3) := all_d dX8_beyond_all0 23 rfl
theorem dX8_beyond_40 : decode cX8_beyond 40 = .ok (.pop, 1) := all_d dX8_beyond_all0 24 rfl
theorem dX8_beyond_41 : decode cX8_beyond 41 = .ok (.aload_n 0, 1) := all_d dX8_beyond_all0 25 rfl
theorem dX8_beyond_42 : decode cX8_beyond 42 = .ok (.aload_n 2, 1) := all_d dX8_beyond_all0 26 rfl
theorem dX8_beyond_43 : decode cX8_beyond 43 = .ok (.getfield 146, 3) := all_d dX8_beyond_all0 27 rfl
theorem dX8_beyond_46 : decode cX8_beyond 46 = .ok (.invokevirtual 134, 3) := all_d dX8_beyond_all0 28 rfl
theorem dX8_beyond_49 : decode cX8_beyond 49 = .ok (.ifCond .ne 5, 3) := all_d dX8_beyond_all0 29 rfl
theorem dX8_beyond_52 : decode cX8_beyond 52 = .ok (.iload_n 3, 1) := all_d dX8_beyond_all0 30 rfl
theorem dX8_beyond_53 : decode cX8_beyond 53 = .ok (.ireturn, 1) := all_d dX8_beyond_all0 31 rfl
theorem dX8_beyond_54 : decode cX8_beyond 54 = .ok (.iinc 3 1, 3) := all_d dX8_beyond_all0 32 rfl
theorem dX8_beyond_57 : decode cX8_beyond 57 = .ok (.goto (-30), 3) := all_d dX8_beyond_all0 33 rfl
theorem dX8_beyond_60 : decode cX8_beyond 60 = .ok (.bipush (-2), 2) := all_d dX8_beyond_all0 34 rfl
theorem dX8_beyond_62 : decode cX8_beyond 62 = .ok (.ireturn, 1) := all_d dX8_beyond_all0 35 rfl
set_option maxRecDepth 100000 in
theorem dX8_joined_all0 : ([(0, (.aload_n 0 : Instr), 1), (1, (.iload_n 1 : Instr), 1), (2, (.invokevirtual 83 : Instr), 3), (5, (.astore 5 : Instr), 2), (7, (.aload_n 0 : Instr), 1), (8, (.iload_n 2 : Instr), 1), (9, (.invokevirtual 83 : Instr), 3), (12, (.astore 6 : Instr), 2), (14, (.aload_n 0 : Instr), 1), (15, (.aload 5 : Instr), 2), (17, (.ifnull 17 : Instr), 3), (20, (.aload 6 : Instr), 2), (22, (.ifnull 12 : Instr), 3), (25, (.aload_n 0 : Instr), 1), (26, (.iload 4 : Instr), 2), (28, (.invokevirtual 134 : Instr), 3), (31, (.ifCond .ne 7 : Instr), 3), (34, (.iconst 2 : Instr), 1), (35, (.goto 18 : Instr), 3), (38, (.iload_n 3 : Instr), 1), (39, (.sipush 1000 : Instr), 3), (42, (.invokestatic 113 : Instr), 3), (45, (.ifCond .eq 7 : Instr), 3), (48, (.iconst 0 : Instr), 1), (49, (.goto 4 : Instr), 3), (52, (.iconst 1 : Instr), 1), (53, (.putfield 66 : Instr), 3), (56, (.aload 5 : Instr), 2), (58, (.ifnull 15 : Instr), 3), (61, (.aload 6 : Instr), 2), (63, (.ifnull 10 : Instr), 3), (66, (.aload_n 0 : Instr), 1), (67, (.getfield 66 : Instr), 3), (70, (.ifCond .eq 6 : Instr), 3), (73, (.ldc 138 : Instr), 2), (75, (.ireturn : Instr), 1), (76, (.aload 5 : Instr), 2), (78, (.iload 4 : Instr), 2), (80, (.invokevirtual 139 : Instr), 3), (83, (.istore 7 : Instr), 2), (85, (.aload 5 : Instr), 2), (87, (.getfield 146 : Instr), 3), (90, (.istore 8 : Instr), 2), (92, (.aload_n 0 : Instr), 1), (93, (.iload 8 : Instr), 2), (95, (.invokevirtual 134 : Instr), 3), (98, (.ifCond .ne 11 : Instr), 3), (101, (.aload_n 0 : Instr), 1), (102, (.iconst 1 : Instr), 1), (103, (.putfield 66 : Instr), 3), (106, (.ldc 138 : Instr), 2), (108, (.ireturn : Instr), 1), (109, (.iload 7 : Instr), 2), (111, (.iload_n 3 : Instr), 1), (112, (.imul : Instr), 1), (113, (.aload 6 : Instr), 2), (115, (.iload 8 : Instr), 2), (117, (.invokevirtual 139 : Instr), 3), (120, (.iadd : Instr), 1), (121, (.ireturn : Instr), 1)] : List (Nat × Instr × Nat)).all (fun q => decide (decode cX8_joined q.1 = .ok (q.2.1, q.2.2))) = true := by decide +kernel
theorem dX8_joined_0 : decode cX8_joined 0 = .ok (.aload_n 0, 1) := all_d dX8_joined_all0 0 rfl
theorem dX8_joined_1 : decode cX8_joined 1 = .ok (.iload_n 1, 1) := all_d dX8_joined_all0 1 rfl
theorem dX8_joined_2 : decode cX8_joined 2 = .ok (.invokevirtual 83, 3) := all_d dX8_joined_all0 2 rfl
theorem dX8_joined_5 : decode cX8_joined 5 = .ok (.astore 5, 2) := all_d dX8_joined_all0 3 rfl
theorem dX8_joined_7 : decode cX8_joined 7 = .ok (.aload_n 0, 1) := all_d dX8_joined_all0 4 rfl
theorem dX8_joined_8 : decode cX8_joined 8 = .ok (.iload_n 2, 1) := all_d dX8_joined_all0 5 rfl
theorem dX8_joined_9 : decode cX8_joined 9 = .ok (.invokevirtual 83, 3) := all_d dX8_joined_all0 6 rfl
theorem dX8_joined_12 : decode cX8_joined 12 = .ok (.astore 6, 2) := all_d dX8_joined_all0 7 rfl
theorem dX8_joined_14 : decode cX8_joined 14 = .ok (.aload_n 0, 1) := all_d dX8_joined_all0 8 rfl
theorem dX8_joined_15 : decode cX8_joined 15 = .ok (.aload 5, 2) := all_d dX8_joined_all0 9 rfl
theorem dX8_joined_17 : decode cX8_joined 17 = .ok (.ifnull 17, 3) := all_d dX8_joined_all0 10 rfl
theorem dX8_joined_20 : decode cX8_joined 20 = .ok (.aload 6, 2) := all_d dX8_joined_all0 11 rfl
theorem dX8_joined_22 : decode cX8_joined 22 = .ok (.ifnull 12, 3) := all_d dX8_joined_all0 12 rfl
theorem dX8_joined_25 : decode cX8_joined 25 = .ok (.aload_n 0, 1) := all_d dX8_joined_all0 13 rfl
theorem dX8_joined_26 : decode cX8_joined 26 = .ok (.iload 4, 2) := all_d dX8_joined_all0 14 rfl
theorem dX8_joined_28 : decode cX8_joined 28 = .ok (.invokevirtual 134, 3) := all_d dX8_joined_all0 15 rfl
theorem dX8_joined_31 : decode cX8_joined 31 = .ok (.ifCond .ne 7, 3) := all_d dX8_joined_all0 16 rfl
theorem dX8_joined_34 : decode cX8_joined 34 = .ok (.iconst 2, 1) := all_d dX8_joined_all0 17 rfl
theorem dX8_joined_35 : decode cX8_joined 35 = .ok (.goto 18, 3) := all_d dX8_joined_all0 18 rfl
theorem dX8_joined_38 : decode cX8_joined 38 = .ok (.iload_n 3, 1) := all_d dX8_joined_all0 19 rfl
theorem dX8_joined_39 : decode cX8_joined 39 = .ok (.sipush 1000, 3) := all_d dX8_joined_all0 20 rfl
theorem dX8_joined_42 : decode cX8_joined 42 = .ok (.invokestatic 113, 3) := all_d dX8_joined_all0 21 rfl
theorem dX8_joined_45 : decode cX8_joined 45 = .ok (.ifCond .eq 7, 3) := all_d dX8_joined_all0 22 rfl
theorem dX8_joined_48 : decode cX8_joined 48 = .ok (.iconst 0, 1) := all_d dX8_joined_all0 23 rfl
theorem dX8_joined_49 : decode cX8_joined 49 = .ok (.goto 4, 3) := all_d dX8_joined_all0 24 rfl
theorem dX8_joined_52 : decode cX8_joined 52 = .ok (.iconst 1, 1) := all_d dX8_joined_all0 25 rfl
theorem dX8_joined_53 : decode cX8_joined 53 = .ok (.putfield 66, 3) := all_d dX8_joined_all0 26 rfl
theorem dX8_joined_56 : decode cX8_joined 56 = .ok (.aload 5, 2) := all_d dX8_joined_all0 27 rfl
theorem dX8_joined_58 : decode cX8_joined 58 = .ok (.ifnull 15, 3) := all_d dX8_joined_all0 28 rfl
theorem dX8_joined_61 : decode cX8_joined 61 = .ok (.aload 6, 2) := all_d dX8_joined_all0 29 rfl
theorem dX8_joined_63 : decode cX8_joined 63 = .ok (.ifnull 10, 3) := all_d dX8_joined_all0 30 rfl
theorem dX8_joined_66 : decode cX8_joined 66 = .ok (.aload_n 0, 1) := all_d dX8_joined_all0 31 rfl
theorem dX8_joined_67 : decode cX8_joined 67 = .ok (.getfield 66, 3) := all_d dX8_joined_all0 32 rfl
theorem dX8_joined_70 : decode cX8_joined 70 = .ok (.ifCond .eq 6, 3) := all_d dX8_joined_all0 33 rfl
theorem dX8_joined_73 : decode cX8_joined 73 = .ok (.ldc 138, 2) := all_d dX8_joined_all0 34 rfl
theorem dX8_joined_75 : decode cX8_joined 75 = .ok (.ireturn, 1) := all_d dX8_joined_all0 35 rfl
theorem dX8_joined_76 : decode cX8_joined 76 = .ok (.aload 5, 2) := all_d dX8_joined_all0 36 rfl
theorem dX8_joined_78 : decode cX8_joined 78 = .ok (.iload 4, 2) := all_d dX8_joined_all0 37 rfl
theorem dX8_joined_80 : decode cX8_joined 80 = .ok (.invokevirtual 139, 3) := all_d dX8_joined_all0 38 rfl
theorem dX8_joined_83 : decode cX8_joined 83 = .ok (.istore 7, 2) := all_d dX8_joined_all0 39 rfl
theorem dX8_joined_85 : decode cX8_joined 85 = .ok (.aload 5, 2) := all_d dX8_joined_all0 40 rfl
theorem dX8_joined_87 : decode cX8_joined 87 = .ok (.getfield 146, 3) := all_d dX8_joined_all0 41 rfl
theorem dX8_joined_90 : decode cX8_joined 90 = .ok (.istore 8, 2) := all_d dX8_joined_all0 42 rfl
theorem dX8_joined_92 : decode cX8_joined 92 = .ok (.aload_n 0, 1) := all_d dX8_joined_all0 43 rfl
theorem dX8_joined_93 : decode cX8_joined 93 = .ok (.iload 8, 2) := all_d dX8_joined_all0 44 rfl
theorem dX8_joined_95 : decode cX8_joined 95 = .ok (.invokevirtual 134, 3) := all_d dX8_joined_all0 45 rfl
theorem dX8_joined_98 : decode cX8_joined 98 = .ok (.ifCond .ne 11, 3) := all_d dX8_joined_all0 46 rfl
theorem dX8_joined_101 : decode cX8_joined 101 = .ok (.aload_n 0, 1) := all_d dX8_joined_all0 47 rfl
theorem dX8_joined_102 : decode cX8_joined 102 = .ok (.iconst 1, 1) := all_d dX8_joined_all0 48 rfl
theorem dX8_joined_103 : decode cX8_joined 103 = .ok (.putfield 66, 3) := all_d dX8_joined_all0 49 rfl
theorem dX8_joined_106 : decode cX8_joined 106 = .ok (.ldc 138, 2) := all_d dX8_joined_all0 50 rfl
theorem dX8_joined_108 : decode cX8_joined 108 = .ok (.ireturn, 1) := all_d dX8_joined_all0 51 rfl
theorem dX8_joined_109 : decode cX8_joined 109 = .ok (.iload 7, 2) := all_d dX8_joined_all0 52 rfl
theorem dX8_joined_111 : decode cX8_joined 111 = .ok (.iload_n 3, 1) := all_d dX8_joined_all0 53 rfl
theorem dX8_joined_112 : decode cX8_joined 112 = .ok (.imul, 1) := all_d dX8_joined_all0 54 rfl
theorem dX8_joined_113 : decode cX8_joined 113 = .ok (.aload 6, 2) := all_d dX8_joined_all0 55 rfl
theorem dX8_joined_115 : decode cX8_joined 115 = .ok (.iload 8, 2) := all_d dX8_joined_all0 56 rfl
theorem dX8_joined_117 : decode cX8_joined 117 = .ok (.invokevirtual 139, 3) := all_d dX8_joined_all0 57 rfl
theorem dX8_joined_120 : decode cX8_joined 120 = .ok (.iadd, 1) := all_d dX8_joined_all0 58 rfl
theorem dX8_joined_121 : decode cX8_joined 121 = .ok (.ireturn, 1) := all_d dX8_joined_all0 59 rfl
set_option maxRecDepth 100000 in
theorem dX8_undo_all0 : ([(0, (.aload_n 0 : Instr), 1), (1, (.getfield 52 : Instr), 3), (4, (.invokevirtual 260 : Instr), 3), (7, (.astore_n 1 : Instr), 1), (8, (.aload_n 1 : Instr), 1), (9, (.ifnonnull 5 : Instr), 3), (12, (.iconst 0 : Instr), 1), (13, (.ireturn : Instr), 1), (14, (.aload_n 0 : Instr), 1), (15, (.aload_n 1 : Instr), 1), (16, (.invokevirtual 264 : Instr), 3), (19, (.aload_n 0 : Instr), 1), (20, (.getfield 52 : Instr), 3), (23, (.invokevirtual 268 : Instr), 3), (26, (.aload_n 0 : Instr), 1), (27, (.invokevirtual 271 : Instr), 3), (30, (.aload_n 0 : Instr), 1), (31, (.iconst (-1) : Instr), 1), (32, (.putfield 69 : Instr), 3), (35, (.iconst 1 : Instr), 1), (36, (.ireturn : Instr), 1)] : List (Nat × Instr × Nat)).all (fun q => decide (decode cX8_undo q.1 = .ok (q.2.1, q.2.2))) = true := by decide +kernel
theorem dX8_undo_0 : decode cX8_undo 0 = .ok (.aload_n 0, 1) := all_d dX8_undo_all0 0 rfl
theorem dX8_undo_1 : decode cX8_undo 1 = .ok (.getfield 52, 3) := all_d dX8_undo_all0 1 rfl
theorem dX8_undo_4 : decode cX8_undo 4 = .ok (.invokevirtual 260, 3) := all_d dX8_undo_all0 2 rfl
theorem dX8_undo_7 : decode cX8_undo 7 = .ok (.astore_n 1, 1) := all_d dX8_undo_all0 3 rfl
theorem dX8_undo_8 : decode cX8_undo 8 = .ok (.aload_n 1, 1) := all_d dX8_undo_all0 4 rfl
theorem dX8_undo_9 : decode cX8_undo 9 = .ok (.ifnonnull 5, 3) := all_d dX8_undo_all0 5 rfl
theorem dX8_undo_12 : decode cX8_undo 12 = .ok (.iconst 0, 1) := all_d dX8_undo_all0 6 rfl
theorem dX8_undo_13 : decode cX8_undo 13 = .ok (.ireturn, 1) := all_d dX8_undo_all0 7 rfl
theorem dX8_undo_14 : decode cX8_undo 14 = .ok (.aload_n 0, 1) := all_d dX8_undo_all0 8 rfl
theorem dX8_undo_15 : decode cX8_undo 15 = .ok (.aload_n 1, 1) := all_d dX8_undo_all0 9 rfl
theorem dX8_undo_16 : decode cX8_undo 16 = .ok (.invokevirtual 264, 3) := all_d dX8_undo_all0 10 rfl
theorem dX8_undo_19 : decode cX8_undo 19 = .ok (.aload_n 0, 1) := all_d dX8_undo_all0 11 rfl
theorem dX8_undo_20 : decode cX8_undo 20 = .ok (.getfield 52, 3) := all_d dX8_undo_all0 12 rfl
theorem dX8_undo_23 : decode cX8_undo 23 = .ok (.invokevirtual 268, 3) := all_d dX8_undo_all0 13 rfl
theorem dX8_undo_26 : decode cX8_undo 26 = .ok (.aload_n 0, 1) := all_d dX8_undo_all0 14 rfl
theorem dX8_undo_27 : decode cX8_undo 27 = .ok (.invokevirtual 271, 3) := all_d dX8_undo_all0 15 rfl
theorem dX8_undo_30 : decode cX8_undo 30 = .ok (.aload_n 0, 1) := all_d dX8_undo_all0 16 rfl
theorem dX8_undo_31 : decode cX8_undo 31 = .ok (.iconst (-1), 1) := all_d dX8_undo_all0 17 rfl
theorem dX8_undo_32 : decode cX8_undo 32 = .ok (.putfield 69, 3) := all_d dX8_undo_all0 18 rfl
theorem dX8_undo_35 : decode cX8_undo 35 = .ok (.iconst 1, 1) := all_d dX8_undo_all0 19 rfl
theorem dX8_undo_36 : decode cX8_undo 36 = .ok (.ireturn, 1) := all_d dX8_undo_all0 20 rfl
set_option maxRecDepth 100000 in
theorem dX8_size_all0 : ([(0, (.iload_n 1 : Instr), 1), (1, (.tableswitch 66 0 4 #[35, 40, 45, 53, 58] : Instr), 35), (36, (.aload_n 0 : Instr), 1), (37, (.getfield 56 : Instr), 3), (40, (.ireturn : Instr), 1), (41, (.aload_n 0 : Instr), 1), (42, (.getfield 60 : Instr), 3), (45, (.ireturn : Instr), 1), (46, (.aload_n 0 : Instr), 1), (47, (.getfield 25 : Instr), 3), (50, (.getfield 210 : Instr), 3), (53, (.ireturn : Instr), 1), (54, (.aload_n 0 : Instr), 1), (55, (.getfield 63 : Instr), 3), (58, (.ireturn : Instr), 1), (59, (.aload_n 0 : Instr), 1), (60, (.getfield 52 : Instr), 3), (63, (.getfield 274 : Instr), 3), (66, (.ireturn : Instr), 1), (67, (.iconst (-1) : Instr), 1), (68, (.ireturn : Instr), 1)] : List (Nat × Instr × Nat)).all (fun q => decide (decode cX8_size q.1 = .ok (q.2.1, q.2.2))) = true := by decide +kernel
theorem dX8_size_0 : decode cX8_size 0 = .ok (.iload_n 1, 1) := all_d dX8_size_all0 0 rfl
theorem dX8_size_1 : decode cX8_size 1 = .ok (.tableswitch 66 0 4 #[35, 40, 45, 53, 58], 35) := all_d dX8_size_all0 1 rfl
theorem dX8_size_36 : decode cX8_size 36 = .ok (.aload_n 0, 1) := all_d dX8_size_all0 2 rfl
theorem dX8_size_37 : decode cX8_size 37 = .ok (.getfield 56, 3) := all_d dX8_size_all0 3 rfl
theorem dX8_size_40 : decode cX8_size 40 = .ok (.ireturn, 1) := all_d dX8_size_all0 4 rfl
theorem dX8_size_41 : decode cX8_size 41 = .ok (.aload_n 0, 1) := all_d dX8_size_all0 5 rfl
theorem dX8_size_42 : decode cX8_size 42 = .ok (.getfield 60, 3) := all_d dX8_size_all0 6 rfl
theorem dX8_size_45 : decode cX8_size 45 = .ok (.ireturn, 1) := all_d dX8_size_all0 7 rfl
theorem dX8_size_46 : decode cX8_size 46 = .ok (.aload_n 0, 1) := all_d dX8_size_all0 8 rfl
theorem dX8_size_47 : decode cX8_size 47 = .ok (.getfield 25, 3) := all_d dX8_size_all0 9 rfl
theorem dX8_size_50 : decode cX8_size 50 = .ok (.getfield 210, 3) := all_d dX8_size_all0 10 rfl
theorem dX8_size_53 : decode cX8_size 53 = .ok (.ireturn, 1) := all_d dX8_size_all0 11 rfl
theorem dX8_size_54 : decode cX8_size 54 = .ok (.aload_n 0, 1) := all_d dX8_size_all0 12 rfl
theorem dX8_size_55 : decode cX8_size 55 = .ok (.getfield 63, 3) := all_d dX8_size_all0 13 rfl
theorem dX8_size_58 : decode cX8_size 58 = .ok (.ireturn, 1) := all_d dX8_size_all0 14 rfl
theorem dX8_size_59 : decode cX8_size 59 = .ok (.aload_n 0, 1) := all_d dX8_size_all0 15 rfl
theorem dX8_size_60 : decode cX8_size 60 = .ok (.getfield 52, 3) := all_d dX8_size_all0 16 rfl
theorem dX8_size_63 : decode cX8_size 63 = .ok (.getfield 274, 3) := all_d dX8_size_all0 17 rfl
theorem dX8_size_66 : decode cX8_size 66 = .ok (.ireturn, 1) := all_d dX8_size_all0 18 rfl
theorem dX8_size_67 : decode cX8_size 67 = .ok (.iconst (-1), 1) := all_d dX8_size_all0 19 rfl
theorem dX8_size_68 : decode cX8_size 68 = .ok (.ireturn, 1) := all_d dX8_size_all0 20 rfl
set_option maxRecDepth 100000 in
theorem dX8_trouble_all0 : ([(0, (.aload_n 0 : Instr), 1), (1, (.getfield 66 : Instr), 3), (4, (.ireturn : Instr), 1)] : List (Nat × Instr × Nat)).all (fun q => decide (decode cX8_trouble q.1 = .ok (q.2.1, q.2.2))) = true := by decide +kernel
theorem dX8_trouble_0 : decode cX8_trouble 0 = .ok (.aload_n 0, 1) := all_d dX8_trouble_all0 0 rfl
theorem dX8_trouble_1 : decode cX8_trouble 1 = .ok (.getfield 66, 3) := all_d dX8_trouble_all0 1 rfl
theorem dX8_trouble_4 : decode cX8_trouble 4 = .ok (.ireturn, 1) := all_d dX8_trouble_all0 2 rfl
set_option maxRecDepth 100000 in
theorem dX8_isWithin_all0 : ([(0, (.iload_n 0 : Instr), 1), (1, (.iload_n 1 : Instr), 1), (2, (.ineg : Instr), 1), (3, (.if_icmp .lt 12 : Instr), 3), (6, (.iload_n 0 : Instr), 1), (7, (.iload_n 1 : Instr), 1), (8, (.if_icmp .gt 7 : Instr), 3), (11, (.iconst 1 : Instr), 1), (12, (.goto 4 : Instr), 3), (15, (.iconst 0 : Instr), 1), (16, (.ireturn : Instr), 1)] : List (Nat × Instr × Nat)).all (fun q => decide (decode cX8_isWithin q.1 = .ok (q.2.1, q.2.2))) = true := by decide +kernel
theorem dX8_isWithin_0 : decode cX8_isWithin 0 = .ok (.iload_n 0, 1) := all_d dX8_isWithin_all0 0 rfl
theorem dX8_isWithin_1 : decode cX8_isWithin 1 = .ok (.iload_n 1, 1) := all_d dX8_isWithin_all0 1 rfl
theorem dX8_isWithin_2 : decode cX8_isWithin 2 = .ok (.ineg, 1) := all_d dX8_isWithin_all0 2 rfl
theorem dX8_isWithin_3 : decode cX8_isWithin 3 = .ok (.if_icmp .lt 12, 3) := all_d dX8_isWithin_all0 3 rfl
theorem dX8_isWithin_6 : decode cX8_isWithin 6 = .ok (.iload_n 0, 1) := all_d dX8_isWithin_all0 4 rfl
theorem dX8_isWithin_7 : decode cX8_isWithin 7 = .ok (.iload_n 1, 1) := all_d dX8_isWithin_all0 5 rfl
theorem dX8_isWithin_8 : decode cX8_isWithin 8 = .ok (.if_icmp .gt 7, 3) := all_d dX8_isWithin_all0 6 rfl
theorem dX8_isWithin_11 : decode cX8_isWithin 11 = .ok (.iconst 1, 1) := all_d dX8_isWithin_all0 7 rfl
theorem dX8_isWithin_12 : decode cX8_isWithin 12 = .ok (.goto 4, 3) := all_d dX8_isWithin_all0 8 rfl
theorem dX8_isWithin_15 : decode cX8_isWithin 15 = .ok (.iconst 0, 1) := all_d dX8_isWithin_all0 9 rfl
theorem dX8_isWithin_16 : decode cX8_isWithin 16 = .ok (.ireturn, 1) := all_d dX8_isWithin_all0 10 rfl
set_option maxRecDepth 100000 in
theorem dX8_isNumber_all0 : ([(0, (.iload_n 1 : Instr), 1), (1, (.ifCond .lt 15 : Instr), 3), (4, (.iload_n 1 : Instr), 1), (5, (.aload_n 0 : Instr), 1), (6, (.getfield 56 : Instr), 3), (9, (.if_icmp .gt 7 : Instr), 3), (12, (.iconst 1 : Instr), 1), (13, (.goto 4 : Instr), 3), (16, (.iconst 0 : Instr), 1), (17, (.ireturn : Instr), 1)] : List (Nat × Instr × Nat)).all (fun q => decide (decode cX8_isNumber q.1 = .ok (q.2.1, q.2.2))) = true := by decide +kernel
theorem dX8_isNumber_0 : decode cX8_isNumber 0 = .ok (.iload_n 1, 1) := all_d dX8_isNumber_all0 0 rfl
theorem dX8_isNumber_1 : decode cX8_isNumber 1 = .ok (.ifCond .lt 15, 3) := all_d dX8_isNumber_all0 1 rfl
theorem dX8_isNumber_4 : decode cX8_isNumber 4 = .ok (.iload_n 1, 1) := all_d dX8_isNumber_all0 2 rfl
theorem dX8_isNumber_5 : decode cX8_isNumber 5 = .ok (.aload_n 0, 1) := all_d dX8_isNumber_all0 3 rfl
theorem dX8_isNumber_6 : decode cX8_isNumber 6 = .ok (.getfield 56, 3) := all_d dX8_isNumber_all0 4 rfl
theorem dX8_isNumber_9 : decode cX8_isNumber 9 = .ok (.if_icmp .gt 7, 3) := all_d dX8_isNumber_all0 5 rfl
theorem dX8_isNumber_12 : decode cX8_isNumber 12 = .ok (.iconst 1, 1) := all_d dX8_isNumber_all0 6 rfl
theorem dX8_isNumber_13 : decode cX8_isNumber 13 = .ok (.goto 4, 3) := all_d dX8_isNumber_all0 7 rfl
theorem dX8_isNumber_16 : decode cX8_isNumber 16 = .ok (.iconst 0, 1) := all_d dX8_isNumber_all0 8 rfl
theorem dX8_isNumber_17 : decode cX8_isNumber 17 = .ok (.ireturn, 1) := all_d dX8_isNumber_all0 9 rfl
set_option maxRecDepth 100000 in
theorem dX8_meterAt_all0 : ([(0, (.iload_n 1 : Instr), 1), (1, (.ifCond .lt 29 : Instr), 3), (4, (.iload_n 1 : Instr), 1), (5, (.aload_n 0 : Instr), 1), (6, (.getfield 60 : Instr), 3), (9, (.if_icmp .ge 21 : Instr), 3), (12, (.iload_n 1 : Instr), 1), (13, (.aload_n 0 : Instr), 1), (14, (.getfield 11 : Instr), 3), (17, (.arraylength : Instr), 1), (18, (.if_icmp .ge 12 : Instr), 3), (21, (.aload_n 0 : Instr), 1), (22, (.getfield 11 : Instr), 3), (25, (.iload_n 1 : Instr), 1), (26, (.aaload : Instr), 1), (27, (.goto 4 : Instr), 3), (30, (.aconst_null : Instr), 1), (31, (.areturn : Instr), 1)] : List (Nat × Instr × Nat)).all (fun q => decide (decode cX8_meterAt q.1 = .ok (q.2.1, q.2.2))) = true := by decide +kernel
theorem dX8_meterAt_0 : decode cX8_meterAt 0 = .ok (.iload_n 1, 1) := all_d dX8_meterAt_all0 0 rfl
theorem dX8_meterAt_1 : decode cX8_meterAt 1 = .ok (.ifCond .lt 29, 3) := all_d dX8_meterAt_all0 1 rfl
theorem dX8_meterAt_4 : decode cX8_meterAt 4 = .ok (.iload_n 1, 1) := all_d dX8_meterAt_all0 2 rfl
theorem dX8_meterAt_5 : decode cX8_meterAt 5 = .ok (.aload_n 0, 1) := all_d dX8_meterAt_all0 3 rfl
theorem dX8_meterAt_6 : decode cX8_meterAt 6 = .ok (.getfield 60, 3) := all_d dX8_meterAt_all0 4 rfl
theorem dX8_meterAt_9 : decode cX8_meterAt 9 = .ok (.if_icmp .ge 21, 3) := all_d dX8_meterAt_all0 5 rfl
theorem dX8_meterAt_12 : decode cX8_meterAt 12 = .ok (.iload_n 1, 1) := all_d dX8_meterAt_all0 6 rfl
theorem dX8_meterAt_13 : decode cX8_meterAt 13 = .ok (.aload_n 0, 1) := all_d dX8_meterAt_all0 7 rfl
theorem dX8_meterAt_14 : decode cX8_meterAt 14 = .ok (.getfield 11, 3) := all_d dX8_meterAt_all0 8 rfl
theorem dX8_meterAt_17 : decode cX8_meterAt 17 = .ok (.arraylength, 1) := all_d dX8_meterAt_all0 9 rfl
theorem dX8_meterAt_18 : decode cX8_meterAt 18 = .ok (.if_icmp .ge 12, 3) := all_d dX8_meterAt_all0 10 rfl
theorem dX8_meterAt_21 : decode cX8_meterAt 21 = .ok (.aload_n 0, 1) := all_d dX8_meterAt_all0 11 rfl
theorem dX8_meterAt_22 : decode cX8_meterAt 22 = .ok (.getfield 11, 3) := all_d dX8_meterAt_all0 12 rfl
theorem dX8_meterAt_25 : decode cX8_meterAt 25 = .ok (.iload_n 1, 1) := all_d dX8_meterAt_all0 13 rfl
theorem dX8_meterAt_26 : decode cX8_meterAt 26 = .ok (.aaload, 1) := all_d dX8_meterAt_all0 14 rfl
theorem dX8_meterAt_27 : decode cX8_meterAt 27 = .ok (.goto 4, 3) := all_d dX8_meterAt_all0 15 rfl
theorem dX8_meterAt_30 : decode cX8_meterAt 30 = .ok (.aconst_null, 1) := all_d dX8_meterAt_all0 16 rfl
theorem dX8_meterAt_31 : decode cX8_meterAt 31 = .ok (.areturn, 1) := all_d dX8_meterAt_all0 17 rfl
set_option maxRecDepth 100000 in
theorem dX8_partAt_all0 : ([(0, (.aload_n 0 : Instr), 1), (1, (.iload_n 1 : Instr), 1), (2, (.invokevirtual 83 : Instr), 3), (5, (.astore_n 3 : Instr), 1), (6, (.aload_n 3 : Instr), 1), (7, (.ifnonnull 7 : Instr), 3), (10, (.aconst_null : Instr), 1), (11, (.goto 8 : Instr), 3), (14, (.aload_n 3 : Instr), 1), (15, (.iload_n 2 : Instr), 1), (16, (.invokevirtual 275 : Instr), 3), (19, (.areturn : Instr), 1)] : List (Nat × Instr × Nat)).all (fun q => decide (decode cX8_partAt q.1 = .ok (q.2.1, q.2.2))) = true := by decide +kernel
theorem dX8_partAt_0 : decode cX8_partAt 0 = .ok (.aload_n 0, 1) := all_d dX8_partAt_all0 0 rfl
theorem dX8_partAt_1 : decode cX8_partAt 1 = .ok (.iload_n 1, 1) := all_d dX8_partAt_all0 1 rfl
theorem dX8_partAt_2 : decode cX8_partAt 2 = .ok (.invokevirtual 83, 3) := all_d dX8_partAt_all0 2 rfl
theorem dX8_partAt_5 : decode cX8_partAt 5 = .ok (.astore_n 3, 1) := all_d dX8_partAt_all0 3 rfl
theorem dX8_partAt_6 : decode cX8_partAt 6 = .ok (.aload_n 3, 1) := all_d dX8_partAt_all0 4 rfl
theorem dX8_partAt_7 : decode cX8_partAt 7 = .ok (.ifnonnull 7, 3) := all_d dX8_partAt_all0 5 rfl
theorem dX8_partAt_10 : decode cX8_partAt 10 = .ok (.aconst_null, 1) := all_d dX8_partAt_all0 6 rfl
theorem dX8_partAt_11 : decode cX8_partAt 11 = .ok (.goto 8, 3) := all_d dX8_partAt_all0 7 rfl
theorem dX8_partAt_14 : decode cX8_partAt 14 = .ok (.aload_n 3, 1) := all_d dX8_partAt_all0 8 rfl
theorem dX8_partAt_15 : decode cX8_partAt 15 = .ok (.iload_n 2, 1) := all_d dX8_partAt_all0 9 rfl
theorem dX8_partAt_16 : decode cX8_partAt 16 = .ok (.invokevirtual 275, 3) := all_d dX8_partAt_all0 10 rfl
theorem dX8_partAt_19 : decode cX8_partAt 19 = .ok (.areturn, 1) := all_d dX8_partAt_all0 11 rfl
set_option maxRecDepth 100000 in
theorem dX8_faultAt_all0 : ([(0, (.iload_n 1 : Instr), 1), (1, (.ifCond .lt 29 : Instr), 3), (4, (.iload_n 1 : Instr), 1), (5, (.aload_n 0 : Instr), 1), (6, (.getfield 63 : Instr), 3), (9, (.if_icmp .ge 21 : Instr), 3), (12, (.iload_n 1 : Instr), 1), (13, (.aload_n 0 : Instr), 1), (14, (.getfield 31 : Instr), 3), (17, (.arraylength : Instr), 1), (18, (.if_icmp .ge 12 : Instr), 3), (21, (.aload_n 0 : Instr), 1), (22, (.getfield 31 : Instr), 3), (25, (.iload_n 1 : Instr), 1), (26, (.aaload : Instr), 1), (27, (.goto 4 : Instr), 3), (30, (.aconst_null : Instr), 1), (31, (.areturn : Instr), 1)] : List (Nat × Instr × Nat)).all (fun q => decide (decode cX8_faultAt q.1 = .ok (q.2.1, q.2.2))) = true := by decide +kernel
theorem dX8_faultAt_0 : decode cX8_faultAt 0 = .ok (.iload_n 1, 1) := all_d dX8_faultAt_all0 0 rfl
theorem dX8_faultAt_1 : decode cX8_faultAt 1 = .ok (.ifCond .lt 29, 3) := all_d dX8_faultAt_all0 1 rfl
theorem dX8_faultAt_4 : decode cX8_faultAt 4 = .ok (.iload_n 1, 1) := all_d dX8_faultAt_all0 2 rfl
theorem dX8_faultAt_5 : decode cX8_faultAt 5 = .ok (.aload_n 0, 1) := all_d dX8_faultAt_all0 3 rfl
theorem dX8_faultAt_6 : decode cX8_faultAt 6 = .ok (.getfield 63, 3) := all_d dX8_faultAt_all0 4 rfl
theorem dX8_faultAt_9 : decode cX8_faultAt 9 = .ok (.if_icmp .ge 21, 3) := all_d dX8_faultAt_all0 5 rfl
theorem dX8_faultAt_12 : decode cX8_faultAt 12 = .ok (.iload_n 1, 1) := all_d dX8_faultAt_all0 6 rfl
theorem dX8_faultAt_13 : decode cX8_faultAt 13 = .ok (.aload_n 0, 1) := all_d dX8_faultAt_all0 7 rfl
theorem dX8_faultAt_14 : decode cX8_faultAt 14 = .ok (.getfield 31, 3) := all_d dX8_faultAt_all0 8 rfl
theorem dX8_faultAt_17 : decode cX8_faultAt 17 = .ok (.arraylength, 1) := all_d dX8_faultAt_all0 9 rfl
theorem dX8_faultAt_18 : decode cX8_faultAt 18 = .ok (.if_icmp .ge 12, 3) := all_d dX8_faultAt_all0 10 rfl
theorem dX8_faultAt_21 : decode cX8_faultAt 21 = .ok (.aload_n 0, 1) := all_d dX8_faultAt_all0 11 rfl
theorem dX8_faultAt_22 : decode cX8_faultAt 22 = .ok (.getfield 31, 3) := all_d dX8_faultAt_all0 12 rfl
theorem dX8_faultAt_25 : decode cX8_faultAt 25 = .ok (.iload_n 1, 1) := all_d dX8_faultAt_all0 13 rfl
theorem dX8_faultAt_26 : decode cX8_faultAt 26 = .ok (.aaload, 1) := all_d dX8_faultAt_all0 14 rfl
theorem dX8_faultAt_27 : decode cX8_faultAt 27 = .ok (.goto 4, 3) := all_d dX8_faultAt_all0 15 rfl
theorem dX8_faultAt_30 : decode cX8_faultAt 30 = .ok (.aconst_null, 1) := all_d dX8_faultAt_all0 16 rfl
theorem dX8_faultAt_31 : decode cX8_faultAt 31 = .ok (.areturn, 1) := all_d dX8_faultAt_all0 17 rfl
set_option maxRecDepth 100000 in
theorem dX8_whyNoPart_all0 : ([(0, (.aload_n 0 : Instr), 1), (1, (.ifnonnull 5 : Instr), 3), (4, (.iconst 2 : Instr), 1), (5, (.ireturn : Instr), 1), (6, (.iload_n 1 : Instr), 1), (7, (.sipush 8000 : Instr), 3), (10, (.invokestatic 113 : Instr), 3), (13, (.ifCond .eq 20 : Instr), 3), (16, (.aload_n 0 : Instr), 1), (17, (.invokevirtual 278 : Instr), 3), (20, (.ifCond .eq 15 : Instr), 3), (23, (.iload_n 2 : Instr), 1), (24, (.sipush 8000 : Instr), 3), (27, (.invokestatic 113 : Instr), 3), (30, (.ifCond .ne 5 : Instr), 3), (33, (.iconst 1 : Instr), 1), (34, (.ireturn : Instr), 1), (35, (.aload_n 0 : Instr), 1), (36, (.getfield 95 : Instr), 3), (39, (.bipush 16 : Instr), 2), (41, (.if_icmp .lt 7 : Instr), 3), (44, (.iconst 3 : Instr), 1), (45, (.goto 4 : Instr), 3), (48, (.iconst 0 : Instr), 1), (49, (.ireturn : Instr), 1)] : List (Nat × Instr × Nat)).all (fun q => decide (decode cX8_whyNoPart q.1 = .ok (q.2.1, q.2.2))) = true := by decide +kernel
theorem dX8_whyNoPart_0 : decode cX8_whyNoPart 0 = .ok (.aload_n 0, 1) := all_d dX8_whyNoPart_all0 0 rfl
theorem dX8_whyNoPart_1 : decode cX8_whyNoPart 1 = .ok (.ifnonnull 5, 3) := all_d dX8_whyNoPart_all0 1 rfl
theorem dX8_whyNoPart_4 : decode cX8_whyNoPart 4 = .ok (.iconst 2, 1) := all_d dX8_whyNoPart_all0 2 rfl
theorem dX8_whyNoPart_5 : decode cX8_whyNoPart 5 = .ok (.ireturn, 1) := all_d dX8_whyNoPart_all0 3 rfl
theorem dX8_whyNoPart_6 : decode cX8_whyNoPart 6 = .ok (.iload_n 1, 1) := all_d dX8_whyNoPart_all0 4 rfl
theorem dX8_whyNoPart_7 : decode cX8_whyNoPart 7 = .ok (.sipush 8000, 3) := all_d dX8_whyNoPart_all0 5 rfl
theorem dX8_whyNoPart_10 : decode cX8_whyNoPart 10 = .ok (.invokestatic 113, 3) := all_d dX8_whyNoPart_all0 6 rfl
theorem dX8_whyNoPart_13 : decode cX8_whyNoPart 13 = .ok (.ifCond .eq 20, 3) := all_d dX8_whyNoPart_all0 7 rfl
theorem dX8_whyNoPart_16 : decode cX8_whyNoPart 16 = .ok (.aload_n 0, 1) := all_d dX8_whyNoPart_all0 8 rfl
theorem dX8_whyNoPart_17 : decode cX8_whyNoPart 17 = .ok (.invokevirtual 278, 3) := all_d dX8_whyNoPart_all0 9 rfl
theorem dX8_whyNoPart_20 : decode cX8_whyNoPart 20 = .ok (.ifCond .eq 15, 3) := all_d dX8_whyNoPart_all0 10 rfl
theorem dX8_whyNoPart_23 : decode cX8_whyNoPart 23 = .ok (.iload_n 2, 1) := all_d dX8_whyNoPart_all0 11 rfl
theorem dX8_whyNoPart_24 : decode cX8_whyNoPart 24 = .ok (.sipush 8000, 3) := all_d dX8_whyNoPart_all0 12 rfl
theorem dX8_whyNoPart_27 : decode cX8_whyNoPart 27 = .ok (.invokestatic 113, 3) := all_d dX8_whyNoPart_all0 13 rfl
theorem dX8_whyNoPart_30 : decode cX8_whyNoPart 30 = .ok (.ifCond .ne 5, 3) := all_d dX8_whyNoPart_all0 14 rfl
theorem dX8_whyNoPart_33 : decode cX8_whyNoPart 33 = .ok (.iconst 1, 1) := all_d dX8_whyNoPart_all0 15 rfl
theorem dX8_whyNoPart_34 : decode cX8_whyNoPart 34 = .ok (.ireturn, 1) := all_d dX8_whyNoPart_all0 16 rfl
theorem dX8_whyNoPart_35 : decode cX8_whyNoPart 35 = .ok (.aload_n 0, 1) := all_d dX8_whyNoPart_all0 17 rfl
theorem dX8_whyNoPart_36 : decode cX8_whyNoPart 36 = .ok (.getfield 95, 3) := all_d dX8_whyNoPart_all0 18 rfl
theorem dX8_whyNoPart_39 : decode cX8_whyNoPart 39 = .ok (.bipush 16, 2) := all_d dX8_whyNoPart_all0 19 rfl
theorem dX8_whyNoPart_41 : decode cX8_whyNoPart 41 = .ok (.if_icmp .lt 7, 3) := all_d dX8_whyNoPart_all0 20 rfl
theorem dX8_whyNoPart_44 : decode cX8_whyNoPart 44 = .ok (.iconst 3, 1) := all_d dX8_whyNoPart_all0 21 rfl
theorem dX8_whyNoPart_45 : decode cX8_whyNoPart 45 = .ok (.goto 4, 3) := all_d dX8_whyNoPart_all0 22 rfl
theorem dX8_whyNoPart_48 : decode cX8_whyNoPart 48 = .ok (.iconst 0, 1) := all_d dX8_whyNoPart_all0 23 rfl
theorem dX8_whyNoPart_49 : decode cX8_whyNoPart 49 = .ok (.ireturn, 1) := all_d dX8_whyNoPart_all0 24 rfl
set_option maxRecDepth 100000 in
theorem dX8_whyNoBalance_all0 : ([(0, (.aload_n 0 : Instr), 1), (1, (.ifnonnull 7 : Instr), 3), (4, (.iconst 2 : Instr), 1), (5, (.goto 16 : Instr), 3), (8, (.aload_n 0 : Instr), 1), (9, (.getfield 122 : Instr), 3), (12, (.iconst 2 : Instr), 1), (13, (.if_icmp .eq 7 : Instr), 3), (16, (.iconst 4 : Instr), 1), (17, (.goto 4 : Instr), 3), (20, (.iconst 0 : Instr), 1), (21, (.ireturn : Instr), 1)] : List (Nat × Instr × Nat)).all (fun q => decide (decode cX8_whyNoBalance q.1 = .ok (q.2.1, q.2.2))) = true := by decide +kernel
theorem dX8_whyNoBalance_0 : decode cX8_whyNoBalance 0 = .ok (.aload_n 0, 1) := all_d dX8_whyNoBalance_all0 0 rfl
theorem dX8_whyNoBalance_1 : decode cX8_whyNoBalance 1 = .ok (.ifnonnull 7, 3) := all_d dX8_whyNoBalance_all0 1 rfl
theorem dX8_whyNoBalance_4 : decode cX8_whyNoBalance 4 = .ok (.iconst 2, 1) := all_d dX8_whyNoBalance_all0 2 rfl
theorem dX8_whyNoBalance_5 : decode cX8_whyNoBalance 5 = .ok (.goto 16, 3) := all_d dX8_whyNoBalance_all0 3 rfl
theorem dX8_whyNoBalance_8 : decode cX8_whyNoBalance 8 = .ok (.aload_n 0, 1) := all_d dX8_whyNoBalance_all0 4 rfl
theorem dX8_whyNoBalance_9 : decode cX8_whyNoBalance 9 = .ok (.getfield 122, 3) := all_d dX8_whyNoBalance_all0 5 rfl
theorem dX8_whyNoBalance_12 : decode cX8_whyNoBalance 12 = .ok (.iconst 2, 1) := all_d dX8_whyNoBalance_all0 6 rfl
theorem dX8_whyNoBalance_13 : decode cX8_whyNoBalance 13 = .ok (.if_icmp .eq 7, 3) := all_d dX8_whyNoBalance_all0 7 rfl
theorem dX8_whyNoBalance_16 : decode cX8_whyNoBalance 16 = .ok (.iconst 4, 1) := all_d dX8_whyNoBalance_all0 8 rfl
theorem dX8_whyNoBalance_17 : decode cX8_whyNoBalance 17 = .ok (.goto 4, 3) := all_d dX8_whyNoBalance_all0 9 rfl
theorem dX8_whyNoBalance_20 : decode cX8_whyNoBalance 20 = .ok (.iconst 0, 1) := all_d dX8_whyNoBalance_all0 10 rfl
theorem dX8_whyNoBalance_21 : decode cX8_whyNoBalance 21 = .ok (.ireturn, 1) := all_d dX8_whyNoBalance_all0 11 rfl
set_option maxRecDepth 100000 in
theorem dX8_fillTable_all0 : ([(0, (.aload_n 0 : Instr), 1), (1, (.iload_n 1 : Instr), 1), (2, (.invokevirtual 83 : Instr), 3), (5, (.astore_n 2 : Instr), 1), (6, (.aload_n 2 : Instr), 1), (7, (.ifnonnull 5 : Instr), 3), (10, (.iconst 0 : Instr), 1), (11, (.ireturn : Instr), 1), (12, (.aload_n 0 : Instr), 1), (13, (.getfield 69 : Instr), 3), (16, (.iload_n 1 : Instr), 1), (17, (.if_icmp .eq 20 : Instr), 3), (20, (.aload_n 0 : Instr), 1), (21, (.getfield 18 : Instr), 3), (24, (.aload_n 2 : Instr), 1), (25, (.aload_n 0 : Instr), 1), (26, (.getfield 56 : Instr), 3), (29, (.invokevirtual 282 : Instr), 3), (32, (.aload_n 0 : Instr), 1), (33, (.iload_n 1 : Instr), 1), (34, (.putfield 69 : Instr), 3), (37, (.iconst 1 : Instr), 1), (38, (.ireturn : Instr), 1)] : List (Nat × Instr × Nat)).all (fun q => decide (decode cX8_fillTable q.1 = .ok (q.2.1, q.2.2))) = true := by decide +kernel
theorem dX8_fillTable_0 : decode cX8_fillTable 0 = .ok (.aload_n 0, 1) := all_d dX8_fillTable_all0 0 rfl
theorem dX8_fillTable_1 : decode cX8_fillTable 1 = .ok (.iload_n 1, 1) := all_d dX8_fillTable_all0 1 rfl
theorem dX8_fillTable_2 : decode cX8_fillTable 2 = .ok (.invokevirtual 83, 3) := all_d dX8_fillTable_all0 2 rfl
theorem dX8_fillTable_5 : decode cX8_fillTable 5 = .ok (.astore_n 2, 1) := all_d dX8_fillTable_all0 3 rfl
theorem dX8_fillTable_6 : decode cX8_fillTable 6 = .ok (.aload_n 2, 1) := all_d dX8_fillTable_all0 4 rfl
theorem dX8_fillTable_7 : decode cX8_fillTable 7 = .ok (.ifnonnull 5, 3) := all_d dX8_fillTable_all0 5 rfl
theorem dX8_fillTable_10 : decode cX8_fillTable 10 = .ok (.iconst 0, 1) := all_d dX8_fillTable_all0 6 rfl
theorem dX8_fillTable_11 : decode cX8_fillTable 11 = .ok (.ireturn, 1) := all_d dX8_fillTable_all0 7 rfl
theorem dX8_fillTable_12 : decode cX8_fillTable 12 = .ok (.aload_n 0, 1) := all_d dX8_fillTable_all0 8 rfl
theorem dX8_fillTable_13 : decode cX8_fillTable 13 = .ok (.getfield 69, 3) := all_d dX8_fillTable_all0 9 rfl
theorem dX8_fillTable_16 : decode cX8_fillTable 16 = .ok (.iload_n 1, 1) := all_d dX8_fillTable_all0 10 rfl
theorem dX8_fillTable_17 : decode cX8_fillTable 17 = .ok (.if_icmp .eq 20, 3) := all_d dX8_fillTable_all0 11 rfl
theorem dX8_fillTable_20 : decode cX8_fillTable 20 = .ok (.aload_n 0, 1) := all_d dX8_fillTable_all0 12 rfl
theorem dX8_fillTable_21 : decode cX8_fillTable 21 = .ok (.getfield 18, 3) := all_d dX8_fillTable_all0 13 rfl
theorem dX8_fillTable_24 : decode cX8_fillTable 24 = .ok (.aload_n 2, 1) := all_d dX8_fillTable_all0 14 rfl
theorem dX8_fillTable_25 : decode cX8_fillTable 25 = .ok (.aload_n 0, 1) := all_d dX8_fillTable_all0 15 rfl
theorem dX8_fillTable_26 : decode cX8_fillTable 26 = .ok (.getfield 56, 3) := all_d dX8_fillTable_all0 16 rfl
theorem dX8_fillTable_29 : decode cX8_fillTable 29 = .ok (.invokevirtual 282, 3) := all_d dX8_fillTable_all0 17 rfl
theorem dX8_fillTable_32 : decode cX8_fillTable 32 = .ok (.aload_n 0, 1) := all_d dX8_fillTable_all0 18 rfl
theorem dX8_fillTable_33 : decode cX8_fillTable 33 = .ok (.iload_n 1, 1) := all_d dX8_fillTable_all0 19 rfl
theorem dX8_fillTable_34 : decode cX8_fillTable 34 = .ok (.putfield 69, 3) := all_d dX8_fillTable_all0 20 rfl
theorem dX8_fillTable_37 : decode cX8_fillTable 37 = .ok (.iconst 1, 1) := all_d dX8_fillTable_all0 21 rfl
theorem dX8_fillTable_38 : decode cX8_fillTable 38 = .ok (.ireturn, 1) := all_d dX8_fillTable_all0 22 rfl
set_option maxRecDepth 100000 in
theorem dX8_isTabled_all0 : ([(0, (.aload_n 0 : Instr), 1), (1, (.iload_n 1 : Instr), 1), (2, (.invokevirtual 156 : Instr), 3), (5, (.istore_n 2 : Instr), 1), (6, (.aload_n 0 : Instr), 1), (7, (.iload_n 2 : Instr), 1), (8, (.ifCond .eq 7 : Instr), 3), (11, (.iconst 0 : Instr), 1), (12, (.goto 4 : Instr), 3), (15, (.iconst 2 : Instr), 1), (16, (.putfield 66 : Instr), 3), (19, (.iload_n 2 : Instr), 1), (20, (.ireturn : Instr), 1)] : List (Nat × Instr × Nat)).all (fun q => decide (decode cX8_isTabled q.1 = .ok (q.2.1, q.2.2))) = true := by decide +kernel
theorem dX8_isTabled_0 : decode cX8_isTabled 0 = .ok (.aload_n 0, 1) := all_d dX8_isTabled_all0 0 rfl
theorem dX8_isTabled_1 : decode cX8_isTabled 1 = .ok (.iload_n 1, 1) := all_d dX8_isTabled_all0 1 rfl
theorem dX8_isTabled_2 : decode cX8_isTabled 2 = .ok (.invokevirtual 156, 3) := all_d dX8_isTabled_all0 2 rfl
theorem dX8_isTabled_5 : decode cX8_isTabled 5 = .ok (.istore_n 2, 1) := all_d dX8_isTabled_all0 3 rfl
theorem dX8_isTabled_6 : decode cX8_isTabled 6 = .ok (.aload_n 0, 1) := all_d dX8_isTabled_all0 4 rfl
theorem dX8_isTabled_7 : decode cX8_isTabled 7 = .ok (.iload_n 2, 1) := all_d dX8_isTabled_all0 5 rfl
theorem dX8_isTabled_8 : decode cX8_isTabled 8 = .ok (.ifCond .eq 7, 3) := all_d dX8_isTabled_all0 6 rfl
theorem dX8_isTabled_11 : decode cX8_isTabled 11 = .ok (.iconst 0, 1) := all_d dX8_isTabled_all0 7 rfl
theorem dX8_isTabled_12 : decode cX8_isTabled 12 = .ok (.goto 4, 3) := all_d dX8_isTabled_all0 8 rfl
theorem dX8_isTabled_15 : decode cX8_isTabled 15 = .ok (.iconst 2, 1) := all_d dX8_isTabled_all0 9 rfl
theorem dX8_isTabled_16 : decode cX8_isTabled 16 = .ok (.putfield 66, 3) := all_d dX8_isTabled_all0 10 rfl
theorem dX8_isTabled_19 : decode cX8_isTabled 19 = .ok (.iload_n 2, 1) := all_d dX8_isTabled_all0 11 rfl
theorem dX8_isTabled_20 : decode cX8_isTabled 20 = .ok (.ireturn, 1) := all_d dX8_isTabled_all0 12 rfl
set_option maxRecDepth 100000 in
theorem dX8_commonDivisor_all0 : ([(0, (.iload_n 0 : Instr), 1), (1, (.invokestatic 286 : Instr), 3), (4, (.istore_n 2 : Instr), 1), (5, (.iload_n 1 : Instr), 1), (6, (.invokestatic 286 : Instr), 3), (9, (.istore_n 3 : Instr), 1), (10, (.iconst 0 : Instr), 1), (11, (.istore 4 : Instr), 2), (13, (.iload 4 : Instr), 2), (15, (.bipush 100 : Instr), 2), (17, (.if_icmp .ge 23 : Instr), 3), (20, (.iload_n 3 : Instr), 1), (21, (.ifCond .eq 19 : Instr), 3), (24, (.iload_n 2 : Instr), 1), (25, (.iload_n 3 : Instr), 1), (26, (.irem : Instr), 1), (27, (.istore 5 : Instr), 2), (29, (.iload_n 3 : Instr), 1), (30, (.istore_n 2 : Instr), 1), (31, (.iload 5 : Instr), 2), (33, (.istore_n 3 : Instr), 1), (34, (.iinc 4 1 : Instr), 3), (37, (.goto (-24) : Instr), 3), (40, (.iload_n 2 : Instr), 1), (41, (.ireturn : Instr), 1)] : List (Nat × Instr × Nat)).all (fun q => decide (decode cX8_commonDivisor q.1 = .ok (q.2.1, q.2.2))) = true := by decide +kernel
theorem dX8_commonDivisor_0 : decode cX8_commonDivisor 0 = .ok (.iload_n 0, 1) := all_d dX8_commonDivisor_all0 0 rfl
theorem dX8_commonDivisor_1 : decode cX8_commonDivisor 1 = .ok (.invokestatic 286, 3) := all_d dX8_commonDivisor_all0 1 rfl
theorem dX8_commonDivisor_4 : decode cX8_commonDivisor 4 = .ok (.istore_n 2, 1) := all_d dX8_commonDivisor_all0 2 rfl
theorem dX8_commonDivisor_5 : decode cX8_commonDivisor 5 = .ok (.iload_n 1, 1) := all_d dX8_commonDivisor_all0 3 rfl
theorem dX8_commonDivisor_6 : decode cX8_commonDivisor 6 = .ok (.invokestatic 286, 3) := all_d dX8_commonDivisor_all0 4 rfl
theorem dX8_commonDivisor_9 : decode cX8_commonDivisor 9 = .ok (.istore_n 3, 1) := all_d dX8_commonDivisor_all0 5 rfl
theorem dX8_commonDivisor_10 : decode cX8_commonDivisor 10 = .ok (.iconst 0, 1) := all_d dX8_commonDivisor_all0 6 rfl
theorem dX8_commonDivisor_11 : decode cX8_commonDivisor 11 = .ok (.istore 4, 2) := all_d dX8_commonDivisor_all0 7 rfl
theorem dX8_commonDivisor_13 : decode cX8_commonDivisor 13 = .ok (.iload 4, 2) := all_d dX8_commonDivisor_all0 8 rfl
theorem dX8_commonDivisor_15 : decode cX8_commonDivisor 15 = .ok (.bipush 100, 2) := all_d dX8_commonDivisor_all0 9 rfl
theorem dX8_commonDivisor_17 : decode cX8_commonDivisor 17 = .ok (.if_icmp .ge 23, 3) := all_d dX8_commonDivisor_all0 10 rfl
theorem dX8_commonDivisor_20 : decode cX8_commonDivisor 20 = .ok (.iload_n 3, 1) := all_d dX8_commonDivisor_all0 11 rfl
theorem dX8_commonDivisor_21 : decode cX8_commonDivisor 21 = .ok (.ifCond .eq 19, 3) := all_d dX8_commonDivisor_all0 12 rfl
theorem dX8_commonDivisor_24 : decode cX8_commonDivisor 24 = .ok (.iload_n 2, 1) := all_d dX8_commonDivisor_all0 13 rfl
theorem dX8_commonDivisor_25 : decode cX8_commonDivisor 25 = .ok (.iload_n 3, 1) := all_d dX8_commonDivisor_all0 14 rfl
theorem dX8_commonDivisor_26 : decode cX8_commonDivisor 26 = .ok (.irem, 1) := all_d dX8_commonDivisor_all0 15 rfl
theorem dX8_commonDivisor_27 : decode cX8_commonDivisor 27 = .ok (.istore 5, 2) := all_d dX8_commonDivisor_all0 16 rfl
theorem dX8_commonDivisor_29 : decode cX8_commonDivisor 29 = .ok (.iload_n 3, 1) := all_d dX8_commonDivisor_all0 17 rfl
theorem dX8_commonDivisor_30 : decode cX8_commonDivisor 30 = .ok (.istore_n 2, 1) := all_d dX8_commonDivisor_all0 18 rfl
theorem dX8_commonDivisor_31 : decode cX8_commonDivisor 31 = .ok (.iload 5, 2) := all_d dX8_commonDivisor_all0 19 rfl
theorem dX8_commonDivisor_33 : decode cX8_commonDivisor 33 = .ok (.istore_n 3, 1) := all_d dX8_commonDivisor_all0 20 rfl
theorem dX8_commonDivisor_34 : decode cX8_commonDivisor 34 = .ok (.iinc 4 1, 3) := all_d dX8_commonDivisor_all0 21 rfl
theorem dX8_commonDivisor_37 : decode cX8_commonDivisor 37 = .ok (.goto (-24), 3) := all_d dX8_commonDivisor_all0 22 rfl
theorem dX8_commonDivisor_40 : decode cX8_commonDivisor 40 = .ok (.iload_n 2, 1) := all_d dX8_commonDivisor_all0 23 rfl
theorem dX8_commonDivisor_41 : decode cX8_commonDivisor 41 = .ok (.ireturn, 1) := all_d dX8_commonDivisor_all0 24 rfl
set_option maxRecDepth 100000 in
theorem dX8_isShownBy_all0 : ([(0, (.aload_n 0 : Instr), 1), (1, (.aload_n 1 : Instr), 1), (2, (.getfield 289 : Instr), 3), (5, (.invokevirtual 83 : Instr), 3), (8, (.astore_n 3 : Instr), 1), (9, (.aload_n 3 : Instr), 1), (10, (.ifnull 21 : Instr), 3), (13, (.aload_n 0 : Instr), 1), (14, (.aload_n 1 : Instr), 1), (15, (.iload_n 2 : Instr), 1), (16, (.invokevirtual 292 : Instr), 3), (19, (.aload_n 3 : Instr), 1), (20, (.iload_n 2 : Instr), 1), (21, (.invokevirtual 139 : Instr), 3), (24, (.if_icmp .eq 7 : Instr), 3), (27, (.iconst 1 : Instr), 1), (28, (.goto 4 : Instr), 3), (31, (.iconst 0 : Instr), 1), (32, (.ireturn : Instr), 1)] : List (Nat × Instr × Nat)).all (fun q => decide (decode cX8_isShownBy q.1 = .ok (q.2.1, q.2.2))) = true := by decide +kernel
theorem dX8_isShownBy_0 : decode cX8_isShownBy 0 = .ok (.aload_n 0, 1) := all_d dX8_isShownBy_all0 0 rfl
theorem dX8_isShownBy_1 : decode cX8_isShownBy 1 = .ok (.aload_n 1, 1) := all_d dX8_isShownBy_all0 1 rfl
theorem dX8_isShownBy_2 : decode cX8_isShownBy 2 = .ok (.getfield 289, 3) := all_d dX8_isShownBy_all0 2 rfl
theorem dX8_isShownBy_5 : decode cX8_isShownBy 5 = .ok (.invokevirtual 83, 3) := all_d dX8_isShownBy_all0 3 rfl
theorem dX8_isShownBy_8 : decode cX8_isShownBy 8 = .ok (.astore_n 3, 1) := all_d dX8_isShownBy_all0 4 rfl
theorem dX8_isShownBy_9 : decode cX8_isShownBy 9 = .ok (.aload_n 3, 1) := all_d dX8_isShownBy_all0 5 rfl
theorem dX8_isShownBy_10 : decode cX8_isShownBy 10 = .ok (.ifnull 21, 3) := all_d dX8_isShownBy_all0 6 rfl
theorem dX8_isShownBy_13 : decode cX8_isShownBy 13 = .ok (.aload_n 0, 1) := all_d dX8_isShownBy_all0 7 rfl
theorem dX8_isShownBy_14 : decode cX8_isShownBy 14 = .ok (.aload_n 1, 1) := all_d dX8_isShownBy_all0 8 rfl
theorem dX8_isShownBy_15 : decode cX8_isShownBy 15 = .ok (.iload_n 2, 1) := all_d dX8_isShownBy_all0 9 rfl
theorem dX8_isShownBy_16 : decode cX8_isShownBy 16 = .ok (.invokevirtual 292, 3) := all_d dX8_isShownBy_all0 10 rfl
theorem dX8_isShownBy_19 : decode cX8_isShownBy 19 = .ok (.aload_n 3, 1) := all_d dX8_isShownBy_all0 11 rfl
theorem dX8_isShownBy_20 : decode cX8_isShownBy 20 = .ok (.iload_n 2, 1) := all_d dX8_isShownBy_all0 12 rfl
theorem dX8_isShownBy_21 : decode cX8_isShownBy 21 = .ok (.invokevirtual 139, 3) := all_d dX8_isShownBy_all0 13 rfl
theorem dX8_isShownBy_24 : decode cX8_isShownBy 24 = .ok (.if_icmp .eq 7, 3) := all_d dX8_isShownBy_all0 14 rfl
theorem dX8_isShownBy_27 : decode cX8_isShownBy 27 = .ok (.iconst 1, 1) := all_d dX8_isShownBy_all0 15 rfl
theorem dX8_isShownBy_28 : decode cX8_isShownBy 28 = .ok (.goto 4, 3) := all_d dX8_isShownBy_all0 16 rfl
theorem dX8_isShownBy_31 : decode cX8_isShownBy 31 = .ok (.iconst 0, 1) := all_d dX8_isShownBy_all0 17 rfl
theorem dX8_isShownBy_32 : decode cX8_isShownBy 32 = .ok (.ireturn, 1) := all_d dX8_isShownBy_all0 18 rfl
set_option maxRecDepth 100000 in
theorem dX8_codeWith_all0 : ([(0, (.aload_n 0 : Instr), 1), (1, (.aload_n 1 : Instr), 1), (2, (.getfield 289 : Instr), 3), (5, (.invokevirtual 83 : Instr), 3), (8, (.astore_n 3 : Instr), 1), (9, (.aload_n 0 : Instr), 1), (10, (.aload_n 1 : Instr), 1), (11, (.getfield 289 : Instr), 3), (14, (.aload_n 1 : Instr), 1), (15, (.getfield 296 : Instr), 3), (18, (.invokevirtual 109 : Instr), 3), (21, (.astore 4 : Instr), 2), (23, (.aload_n 3 : Instr), 1), (24, (.ifnull 8 : Instr), 3), (27, (.aload 4 : Instr), 2), (29, (.ifnonnull 5 : Instr), 3), (32, (.iconst 0 : Instr), 1), (33, (.ireturn : Instr), 1), (34, (.aload 4 : Instr), 2), (36, (.getfield 117 : Instr), 3), (39, (.istore 5 : Instr), 2), (41, (.aload 4 : Instr), 2), (43, (.aload_n 1 : Instr), 1), (44, (.getfield 299 : Instr), 3), (47, (.putfield 117 : Instr), 3), (50, (.aload_n 3 : Instr), 1), (51, (.iload_n 2 : Instr), 1), (52, (.invokevirtual 139 : Instr), 3), (55, (.istore 6 : Instr), 2), (57, (.aload 4 : Instr), 2), (59, (.iload 5 : Instr), 2), (61, (.putfield 117 : Instr), 3), (64, (.iload 6 : Instr), 2), (66, (.ireturn : Instr), 1)] : List (Nat × Instr × Nat)).all (fun q => decide (decode cX8_codeWith q.1 = .ok (q.2.1, q.2.2))) = true := by decide +kernel
theorem dX8_codeWith_0 : decode cX8_codeWith 0 = .ok (.aload_n 0, 1) := all_d dX8_codeWith_all0 0 rfl
theorem dX8_codeWith_1 : decode cX8_codeWith 1 = .ok (.aload_n 1, 1) := all_d dX8_codeWith_all0 1 rfl
theorem dX8_codeWith_2 : decode cX8_codeWith 2 = .ok (.getfield 289, 3) := all_d dX8_codeWith_all0 2 rfl
theorem dX8_codeWith_5 : decode cX8_codeWith 5 = .ok (.invokevirtual 83, 3) := all_d dX8_codeWith_all0 3 rfl
theorem dX8_codeWith_8 : decode cX8_codeWith 8 = .ok (.astore_n 3, 1) := all_d dX8_codeWith_all0 4 rfl
theorem dX8_codeWith_9 : decode cX8_codeWith 9 = .ok (.aload_n 0, 1) := all_d dX8_codeWith_all0 5 rfl
theorem dX8_codeWith_10 : decode cX8_codeWith 10 = .ok (.aload_n 1, 1) := all_d dX8_codeWith_all0 6 rfl
theorem dX8_codeWith_11 : decode cX8_codeWith 11 = .ok (.getfield 289, 3) := all_d dX8_codeWith_all0 7 rfl
theorem dX8_codeWith_14 : decode cX8_codeWith 14 = .ok (.aload_n 1, 1) := all_d dX8_codeWith_all0 8 rfl
theorem dX8_codeWith_15 : decode cX8_codeWith 15 = .ok (.getfield 296, 3) := all_d dX8_codeWith_all0 9 rfl
theorem dX8_codeWith_18 : decode cX8_codeWith 18 = .ok (.invokevirtual 109, 3) := all_d dX8_codeWith_all0 10 rfl
theorem dX8_codeWith_21 : decode cX8_codeWith 21 = .ok (.astore 4, 2) := all_d dX8_codeWith_all0 11 rfl
theorem dX8_codeWith_23 : decode cX8_codeWith 23 = .ok (.aload_n 3, 1) := all_d dX8_codeWith_all0 12 rfl
theorem dX8_codeWith_24 : decode cX8_codeWith 24 = .ok (.ifnull 8, 3) := all_d dX8_codeWith_all0 13 rfl
theorem dX8_codeWith_27 : decode cX8_codeWith 27 = .ok (.aload 4, 2) := all_d dX8_codeWith_all0 14 rfl
theorem dX8_codeWith_29 : decode cX8_codeWith 29 = .ok (.ifnonnull 5, 3) := all_d dX8_codeWith_all0 15 rfl
theorem dX8_codeWith_32 : decode cX8_codeWith 32 = .ok (.iconst 0, 1) := all_d dX8_codeWith_all0 16 rfl
theorem dX8_codeWith_33 : decode cX8_codeWith 33 = .ok (.ireturn, 1) := all_d dX8_codeWith_all0 17 rfl
theorem dX8_codeWith_34 : decode cX8_codeWith 34 = .ok (.aload 4, 2) := all_d dX8_codeWith_all0 18 rfl
theorem dX8_codeWith_36 : decode cX8_codeWith 36 = .ok (.getfield 117, 3) := all_d dX8_codeWith_all0 19 rfl
theorem dX8_codeWith_39 : decode cX8_codeWith 39 = .ok (.istore 5, 2) := all_d dX8_codeWith_all0 20 rfl
theorem dX8_codeWith_41 : decode cX8_codeWith 41 = .ok (.aload 4, 2) := all_d dX8_codeWith_all0 21 rfl
theorem dX8_codeWith_43 : decode cX8_codeWith 43 = .ok (.aload_n 1, 1) := all_d dX8_codeWith_all0 22 rfl
theorem dX8_codeWith_44 : decode cX8_codeWith 44 = .ok (.getfield 299, 3) := all_d dX8_codeWith_all0 23 rfl
theorem dX8_codeWith_47 : decode cX8_codeWith 47 = .ok (.putfield 117, 3) := all_d dX8_codeWith_all0 24 rfl
theorem dX8_codeWith_50 : decode cX8_codeWith 50 = .ok (.aload_n 3, 1) := all_d dX8_codeWith_all0 25 rfl
theorem dX8_codeWith_51 : decode cX8_codeWith 51 = .ok (.iload_n 2, 1) := all_d dX8_codeWith_all0 26 rfl
theorem dX8_codeWith_52 : decode cX8_codeWith 52 = .ok (.invokevirtual 139, 3) := all_d dX8_codeWith_all0 27 rfl
theorem dX8_codeWith_55 : decode cX8_codeWith 55 = .ok (.istore 6, 2) := all_d dX8_codeWith_all0 28 rfl
theorem dX8_codeWith_57 : decode cX8_codeWith 57 = .ok (.aload 4, 2) := all_d dX8_codeWith_all0 29 rfl
theorem dX8_codeWith_59 : decode cX8_codeWith 59 = .ok (.iload 5, 2) := all_d dX8_codeWith_all0 30 rfl
theorem dX8_codeWith_61 : decode cX8_codeWith 61 = .ok (.putfield 117, 3) := all_d dX8_codeWith_all0 31 rfl
theorem dX8_codeWith_64 : decode cX8_codeWith 64 = .ok (.iload 6, 2) := all_d dX8_codeWith_all0 32 rfl
theorem dX8_codeWith_66 : decode cX8_codeWith 66 = .ok (.ireturn, 1) := all_d dX8_codeWith_all0 33 rfl
set_option maxRecDepth 100000 in
theorem dX8_faultsShownBy_all0 : ([(0, (.iconst 0 : Instr), 1), (1, (.istore_n 2 : Instr), 1), (2, (.iconst 0 : Instr), 1), (3, (.istore_n 3 : Instr), 1), (4, (.iload_n 3 : Instr), 1), (5, (.aload_n 0 : Instr), 1), (6, (.getfield 63 : Instr), 3), (9, (.if_icmp .ge 37 : Instr), 3), (12, (.aload_n 0 : Instr), 1), (13, (.iload_n 3 : Instr), 1), (14, (.invokevirtual 225 : Instr), 3), (17, (.astore 4 : Instr), 2), (19, (.aload 4 : Instr), 2), (21, (.ifnull 19 : Instr), 3), (24, (.aload_n 0 : Instr), 1), (25, (.aload 4 : Instr), 2), (27, (.iload_n 1 : Instr), 1), (28, (.invokevirtual 233 : Instr), 3), (31, (.ifCond .eq 9 : Instr), 3), (34, (.iload_n 2 : Instr), 1), (35, (.iconst 1 : Instr), 1), (36, (.iload_n 3 : Instr), 1), (37, (.ishl : Instr), 1), (38, (.ior : Instr), 1), (39, (.istore_n 2 : Instr), 1), (40, (.iinc 3 1 : Instr), 3), (43, (.goto (-39) : Instr), 3), (46, (.iload_n 2 : Instr), 1), (47, (.ireturn : Instr), 1)] : List (Nat × Instr × Nat)).all (fun q => decide (decode cX8_faultsShownBy q.1 = .ok (q.2.1, q.2.2))) = true := by decide +kernel
theorem dX8_faultsShownBy_0 : decode cX8_faultsShownBy 0 = .ok (.iconst 0, 1) := all_d dX8_faultsShownBy_all0 0 rfl
theorem dX8_faultsShownBy_1 : decode cX8_faultsShownBy 1 = .ok (.istore_n 2, 1) := all_d dX8_faultsShownBy_all0 1 rfl
theorem dX8_faultsShownBy_2 : decode cX8_faultsShownBy 2 = .ok (.iconst 0, 1) := all_d dX8_faultsShownBy_all0 2 rfl
theorem dX8_faultsShownBy_3 : decode cX8_faultsShownBy 3 = .ok (.istore_n 3, 1) := all_d dX8_faultsShownBy_all0 3 rfl
theorem dX8_faultsShownBy_4 : decode cX8_faultsShownBy 4 = .ok (.iload_n 3, 1) := all_d dX8_faultsShownBy_all0 4 rfl
theorem dX8_faultsShownBy_5 : decode cX8_faultsShownBy 5 = .ok (.aload_n 0, 1) := all_d dX8_faultsShownBy_all0 5 rfl
theorem dX8_faultsShownBy_6 : decode cX8_faultsShownBy 6 = .ok (.getfield 63, 3) := all_d dX8_faultsShownBy_all0 6 rfl
theorem dX8_faultsShownBy_9 : decode cX8_faultsShownBy 9 = .ok (.if_icmp .ge 37, 3) := all_d dX8_faultsShownBy_all0 7 rfl
theorem dX8_faultsShownBy_12 : decode cX8_faultsShownBy 12 = .ok (.aload_n 0, 1) := all_d dX8_faultsShownBy_all0 8 rfl
theorem dX8_faultsShownBy_13 : decode cX8_faultsShownBy 13 = .ok (.iload_n 3, 1) := all_d dX8_faultsShownBy_all0 9 rfl
theorem dX8_faultsShownBy_14 : decode cX8_faultsShownBy 14 = .ok (.invokevirtual 225, 3) := all_d dX8_faultsShownBy_all0 10 rfl
theorem dX8_faultsShownBy_17 : decode cX8_faultsShownBy 17 = .ok (.astore 4, 2) := all_d dX8_faultsShownBy_all0 11 rfl
theorem dX8_faultsShownBy_19 : decode cX8_faultsShownBy 19 = .ok (.aload 4, 2) := all_d dX8_faultsShownBy_all0 12 rfl
theorem dX8_faultsShownBy_21 : decode cX8_faultsShownBy 21 = .ok (.ifnull 19, 3) := all_d dX8_faultsShownBy_all0 13 rfl
theorem dX8_faultsShownBy_24 : decode cX8_faultsShownBy 24 = .ok (.aload_n 0, 1) := all_d dX8_faultsShownBy_all0 14 rfl
theorem dX8_faultsShownBy_25 : decode cX8_faultsShownBy 25 = .ok (.aload 4, 2) := all_d dX8_faultsShownBy_all0 15 rfl
theorem dX8_faultsShownBy_27 : decode cX8_faultsShownBy 27 = .ok (.iload_n 1, 1) := all_d dX8_faultsShownBy_all0 16 rfl
theorem dX8_faultsShownBy_28 : decode cX8_faultsShownBy 28 = .ok (.invokevirtual 233, 3) := all_d dX8_faultsShownBy_all0 17 rfl
theorem dX8_faultsShownBy_31 : decode cX8_faultsShownBy 31 = .ok (.ifCond .eq 9, 3) := all_d dX8_faultsShownBy_all0 18 rfl
theorem dX8_faultsShownBy_34 : decode cX8_faultsShownBy 34 = .ok (.iload_n 2, 1) := all_d dX8_faultsShownBy_all0 19 rfl
theorem dX8_faultsShownBy_35 : decode cX8_faultsShownBy 35 = .ok (.iconst 1, 1) := all_d dX8_faultsShownBy_all0 20 rfl
theorem dX8_faultsShownBy_36 : decode cX8_faultsShownBy 36 = .ok (.iload_n 3, 1) := all_d dX8_faultsShownBy_all0 21 rfl
theorem dX8_faultsShownBy_37 : decode cX8_faultsShownBy 37 = .ok (.ishl, 1) := all_d dX8_faultsShownBy_all0 22 rfl
theorem dX8_faultsShownBy_38 : decode cX8_faultsShownBy 38 = .ok (.ior, 1) := all_d dX8_faultsShownBy_all0 23 rfl
theorem dX8_faultsShownBy_39 : decode cX8_faultsShownBy 39 = .ok (.istore_n 2, 1) := all_d dX8_faultsShownBy_all0 24 rfl
theorem dX8_faultsShownBy_40 : decode cX8_faultsShownBy 40 = .ok (.iinc 3 1, 3) := all_d dX8_faultsShownBy_all0 25 rfl
theorem dX8_faultsShownBy_43 : decode cX8_faultsShownBy 43 = .ok (.goto (-39), 3) := all_d dX8_faultsShownBy_all0 26 rfl
theorem dX8_faultsShownBy_46 : decode cX8_faultsShownBy 46 = .ok (.iload_n 2, 1) := all_d dX8_faultsShownBy_all0 27 rfl
theorem dX8_faultsShownBy_47 : decode cX8_faultsShownBy 47 = .ok (.ireturn, 1) := all_d dX8_faultsShownBy_all0 28 rfl
set_option maxRecDepth 100000 in
theorem dX8_tellApart_all0 : ([(0, (.iconst 0 : Instr), 1), (1, (.istore_n 2 : Instr), 1), (2, (.iload_n 2 : Instr), 1), (3, (.aload_n 0 : Instr), 1), (4, (.getfield 63 : Instr), 3), (7, (.if_icmp .ge 44 : Instr), 3), (10, (.iload_n 2 : Instr), 1), (11, (.aload_n 0 : Instr), 1), (12, (.getfield 35 : Instr), 3), (15, (.arraylength : Instr), 1), (16, (.if_icmp .ge 35 : Instr), 3), (19, (.aload_n 0 : Instr), 1), (20, (.iload_n 2 : Instr), 1), (21, (.invokevirtual 225 : Instr), 3), (24, (.astore_n 3 : Instr), 1), (25, (.aload_n 0 : Instr), 1), (26, (.getfield 35 : Instr), 3), (29, (.iload_n 2 : Instr), 1), (30, (.aload_n 3 : Instr), 1), (31, (.ifnonnull 7 : Instr), 3), (34, (.iconst 0 : Instr), 1), (35, (.goto 9 : Instr), 3), (38, (.aload_n 0 : Instr), 1), (39, (.aload_n 3 : Instr), 1), (40, (.iload_n 1 : Instr), 1), (41, (.invokevirtual 292 : Instr), 3), (44, (.iastore : Instr), 1), (45, (.iinc 2 1 : Instr), 3), (48, (.goto (-46) : Instr), 3), (51, (.iconst 0 : Instr), 1), (52, (.istore_n 2 : Instr), 1), (53, (.iload_n 2 : Instr), 1), (54, (.aload_n 0 : Instr), 1), (55, (.getfield 63 : Instr), 3), (58, (.if_icmp .ge 81 : Instr), 3), (61, (.iload_n 2 : Instr), 1), (62, (.aload_n 0 : Instr), 1), (63, (.getfield 35 : Instr), 3), (66, (.arraylength : Instr), 1), (67, (.if_icmp .ge 72 : Instr), 3), (70, (.iload_n 2 : Instr), 1), (71, (.aload_n 0 : Instr), 1), (72, (.getfield 39 : Instr), 3), (75, (.arraylength : Instr), 1), (76, (.if_icmp .ge 63 : Instr), 3), (79, (.iload_n 2 : Instr), 1), (80, (.iconst 1 : Instr), 1), (81, (.iadd : Instr), 1), (82, (.istore_n 3 : Instr), 1), (83, (.iload_n 3 : Instr), 1), (84, (.aload_n 0 : Instr), 1), (85, (.getfield 63 : Instr), 3), (88, (.if_icmp .ge 45 : Instr), 3), (91, (.iload_n 3 : Instr), 1), (92, (.aload_n 0 : Instr), 1), (93, (.getfield 35 : Instr), 3), (96, (.arraylength : Instr), 1), (97, (.if_icmp .ge 36 : Instr), 3), (100, (.aload_n 0 : Instr), 1), (101, (.getfield 35 : Instr), 3), (104, (.iload_n 2 : Instr), 1), (105, (.iaload : Instr), 1), (106, (.aload_n 0 : Instr), 1), (107, (.getfield 35 : Instr), 3), (110, (.iload_n 3 : Instr), 1), (111, (.iaload : Instr), 1), (112, (.if_icmp .eq 15 : Instr), 3), (115, (.aload_n 0 : Instr), 1), (116, (.getfield 39 : Instr), 3), (119, (.iload_n 2 : Instr), 1), (120, (.dup2 : Instr), 1), (121, (.iaload : Instr), 1), (122, (.iconst 1 : Instr), 1), (123, (.iload_n 3 : Instr), 1), (124, (.ishl : Instr), 1), (125, (.ior : Instr), 1), (126, (.iastore : Instr), 1), (127, (.iinc 3 1 : Instr), 3), (130, (.goto (-47) : Instr), 3), (133, (.iinc 2 1 : Instr), 3)] : List (Nat × Instr × Nat)).all (fun q => decide (decode cX8_tellApart q.1 = .ok (q.2.1, q.2.2))) = true := by decide +kernel
theorem dX8_tellApart_0 : decode cX8_tellApart 0 = .ok (.iconst 0, 1) := all_d dX8_tellApart_all0 0 rfl
theorem dX8_tellApart_1 : decode cX8_tellApart 1 = .ok (.istore_n 2, 1) := all_d dX8_tellApart_all0 1 rfl
theorem dX8_tellApart_2 : decode cX8_tellApart 2 = .ok (.iload_n 2, 1) := all_d dX8_tellApart_all0 2 rfl
theorem dX8_tellApart_3 : decode cX8_tellApart 3 = .ok (.aload_n 0, 1) := all_d dX8_tellApart_all0 3 rfl
theorem dX8_tellApart_4 : decode cX8_tellApart 4 = .ok (.getfield 63, 3) := all_d dX8_tellApart_all0 4 rfl
theorem dX8_tellApart_7 : decode cX8_tellApart 7 = .ok (.if_icmp .ge 44, 3) := all_d dX8_tellApart_all0 5 rfl
theorem dX8_tellApart_10 : decode cX8_tellApart 10 = .ok (.iload_n 2, 1) := all_d dX8_tellApart_all0 6 rfl
theorem dX8_tellApart_11 : decode cX8_tellApart 11 = .ok (.aload_n 0, 1) := all_d dX8_tellApart_all0 7 rfl
theorem dX8_tellApart_12 : decode cX8_tellApart 12 = .ok (.getfield 35, 3) := all_d dX8_tellApart_all0 8 rfl
theorem dX8_tellApart_15 : decode cX8_tellApart 15 = .ok (.arraylength, 1) := all_d dX8_tellApart_all0 9 rfl
theorem dX8_tellApart_16 : decode cX8_tellApart 16 = .ok (.if_icmp .ge 35, 3) := all_d dX8_tellApart_all0 10 rfl
theorem dX8_tellApart_19 : decode cX8_tellApart 19 = .ok (.aload_n 0, 1) := all_d dX8_tellApart_all0 11 rfl
theorem dX8_tellApart_20 : decode cX8_tellApart 20 = .ok (.iload_n 2, 1) := all_d dX8_tellApart_all0 12 rfl
theorem dX8_tellApart_21 : decode cX8_tellApart 21 = .ok (.invokevirtual 225, 3) := all_d dX8_tellApart_all0 13 rfl
theorem dX8_tellApart_24 : decode cX8_tellApart 24 = .ok (.astore_n 3, 1) := all_d dX8_tellApart_all0 14 rfl
theorem dX8_tellApart_25 : decode cX8_tellApart 25 = .ok (.aload_n 0, 1) := all_d dX8_tellApart_all0 15 rfl
theorem dX8_tellApart_26 : decode cX8_tellApart 26 = .ok (.getfield 35, 3) := all_d dX8_tellApart_all0 16 rfl
theorem dX8_tellApart_29 : decode cX8_tellApart 29 = .ok (.iload_n 2, 1) := all_d dX8_tellApart_all0 17 rfl
theorem dX8_tellApart_30 : decode cX8_tellApart 30 = .ok (.aload_n 3, 1) := all_d dX8_tellApart_all0 18 rfl
theorem dX8_tellApart_31 : decode cX8_tellApart 31 = .ok (.ifnonnull 7, 3) := all_d dX8_tellApart_all0 19 rfl
theorem dX8_tellApart_34 : decode cX8_tellApart 34 = .ok (.iconst 0, 1) := all_d dX8_tellApart_all0 20 rfl
theorem dX8_tellApart_35 : decode cX8_tellApart 35 = .ok (.goto 9, 3) := all_d dX8_tellApart_all0 21 rfl
theorem dX8_tellApart_38 : decode cX8_tellApart 38 = .ok (.aload_n 0, 1) := all_d dX8_tellApart_all0 22 rfl
theorem dX8_tellApart_39 : decode cX8_tellApart 39 = .ok (.aload_n 3, 1) := all_d dX8_tellApart_all0 23 rfl
theorem dX8_tellApart_40 : decode cX8_tellApart 40 = .ok (.iload_n 1, 1) := all_d dX8_tellApart_all0 24 rfl
theorem dX8_tellApart_41 : decode cX8_tellApart 41 = .ok (.invokevirtual 292, 3) := all_d dX8_tellApart_all0 25 rfl
theorem dX8_tellApart_44 : decode cX8_tellApart 44 = .ok (.iastore, 1) := all_d dX8_tellApart_all0 26 rfl
theorem dX8_tellApart_45 : decode cX8_tellApart 45 = .ok (.iinc 2 1, 3) := all_d dX8_tellApart_all0 27 rfl
theorem dX8_tellApart_48 : decode cX8_tellApart 48 = .ok (.goto (-46), 3) := all_d dX8_tellApart_all0 28 rfl
theorem dX8_tellApart_51 : decode cX8_tellApart 51 = .ok (.iconst 0, 1) := all_d dX8_tellApart_all0 29 rfl
theorem dX8_tellApart_52 : decode cX8_tellApart 52 = .ok (.istore_n 2, 1) := all_d dX8_tellApart_all0 30 rfl
theorem dX8_tellApart_53 : decode cX8_tellApart 53 = .ok (.iload_n 2, 1) := all_d dX8_tellApart_all0 31 rfl
theorem dX8_tellApart_54 : decode cX8_tellApart 54 = .ok (.aload_n 0, 1) := all_d dX8_tellApart_all0 32 rfl
theorem dX8_tellApart_55 : decode cX8_tellApart 55 = .ok (.getfield 63, 3) := all_d dX8_tellApart_all0 33 rfl
theorem dX8_tellApart_58 : decode cX8_tellApart 58 = .ok (.if_icmp .ge 81, 3) := all_d dX8_tellApart_all0 34 rfl
theorem dX8_tellApart_61 : decode cX8_tellApart 61 = .ok (.iload_n 2, 1) := all_d dX8_tellApart_all0 35 rfl
theorem dX8_tellApart_62 : decode cX8_tellApart 62 = .ok (.aload_n 0, 1) := all_d dX8_tellApart_all0 36 rfl
theorem dX8_tellApart_63 : decode cX8_tellApart 63 = .ok (.getfield 35, 3) := all_d dX8_tellApart_all0 37 rfl
theorem dX8_tellApart_66 : decode cX8_tellApart 66 = .ok (.arraylength, 1) := all_d dX8_tellApart_all0 38 rfl
theorem dX8_tellApart_67 : decode cX8_tellApart 67 = .ok (.if_icmp .ge 72, 3) := all_d dX8_tellApart_all0 39 rfl
theorem dX8_tellApart_70 : decode cX8_tellApart 70 = .ok (.iload_n 2, 1) := all_d dX8_tellApart_all0 40 rfl
theorem dX8_tellApart_71 : decode cX8_tellApart 71 = .ok (.aload_n 0, 1) := all_d dX8_tellApart_all0 41 rfl
theorem dX8_tellApart_72 : decode cX8_tellApart 72 = .ok (.getfield 39, 3) := all_d dX8_tellApart_all0 42 rfl
theorem dX8_tellApart_75 : decode cX8_tellApart 75 = .ok (.arraylength, 1) := all_d dX8_tellApart_all0 43 rfl
theorem dX8_tellApart_76 : decode cX8_tellApart 76 = .ok (.if_icmp .ge 63, 3) := all_d dX8_tellApart_all0 44 rfl
theorem dX8_tellApart_79 : decode cX8_tellApart 79 = .ok (.iload_n 2, 1) := all_d dX8_tellApart_all0 45 rfl
theorem dX8_tellApart_80 : decode cX8_tellApart 80 = .ok (.iconst 1, 1) := all_d dX8_tellApart_all0 46 rfl
theorem dX8_tellApart_81 : decode cX8_tellApart 81 = .ok (.iadd, 1) := all_d dX8_tellApart_all0 47 rfl
theorem dX8_tellApart_82 : decode cX8_tellApart 82 = .ok (.istore_n 3, 1) := all_d dX8_tellApart_all0 48 rfl
theorem dX8_tellApart_83 : decode cX8_tellApart 83 = .ok (.iload_n 3, 1) := all_d dX8_tellApart_all0 49 rfl
theorem dX8_tellApart_84 : decode cX8_tellApart 84 = .ok (.aload_n 0, 1) := all_d dX8_tellApart_all0 50 rfl
theorem dX8_tellApart_85 : decode cX8_tellApart 85 = .ok (.getfield 63, 3) := all_d dX8_tellApart_all0 51 rfl
theorem dX8_tellApart_88 : decode cX8_tellApart 88 = .ok (.if_icmp .ge 45, 3) := all_d dX8_tellApart_all0 52 rfl
theorem dX8_tellApart_91 : decode cX8_tellApart 91 = .ok (.iload_n 3, 1) := all_d dX8_tellApart_all0 53 rfl
theorem dX8_tellApart_92 : decode cX8_tellApart 92 = .ok (.aload_n 0, 1) := all_d dX8_tellApart_all0 54 rfl
theorem dX8_tellApart_93 : decode cX8_tellApart 93 = .ok (.getfield 35, 3) := all_d dX8_tellApart_all0 55 rfl
theorem dX8_tellApart_96 : decode cX8_tellApart 96 = .ok (.arraylength, 1) := all_d dX8_tellApart_all0 56 rfl
theorem dX8_tellApart_97 : decode cX8_tellApart 97 = .ok (.if_icmp .ge 36, 3) := all_d dX8_tellApart_all0 57 rfl
theorem dX8_tellApart_100 : decode cX8_tellApart 100 = .ok (.aload_n 0, 1) := all_d dX8_tellApart_all0 58 rfl
theorem dX8_tellApart_101 : decode cX8_tellApart 101 = .ok (.getfield 35, 3) := all_d dX8_tellApart_all0 59 rfl
theorem dX8_tellApart_104 : decode cX8_tellApart 104 = .ok (.iload_n 2, 1) := all_d dX8_tellApart_all0 60 rfl
theorem dX8_tellApart_105 : decode cX8_tellApart 105 = .ok (.iaload, 1) := all_d dX8_tellApart_all0 61 rfl
theorem dX8_tellApart_106 : decode cX8_tellApart 106 = .ok (.aload_n 0, 1) := all_d dX8_tellApart_all0 62 rfl
theorem dX8_tellApart_107 : decode cX8_tellApart 107 = .ok (.getfield 35, 3) := all_d dX8_tellApart_all0 63 rfl
theorem dX8_tellApart_110 : decode cX8_tellApart 110 = .ok (.iload_n 3, 1) := all_d dX8_tellApart_all0 64 rfl
theorem dX8_tellApart_111 : decode cX8_tellApart 111 = .ok (.iaload, 1) := all_d dX8_tellApart_all0 65 rfl
theorem dX8_tellApart_112 : decode cX8_tellApart 112 = .ok (.if_icmp .eq 15, 3) := all_d dX8_tellApart_all0 66 rfl
theorem dX8_tellApart_115 : decode cX8_tellApart 115 = .ok (.aload_n 0, 1) := all_d dX8_tellApart_all0 67 rfl
theorem dX8_tellApart_116 : decode cX8_tellApart 116 = .ok (.getfield 39, 3) := all_d dX8_tellApart_all0 68 rfl
theorem dX8_tellApart_119 : decode cX8_tellApart 119 = .ok (.iload_n 2, 1) := all_d dX8_tellApart_all0 69 rfl
theorem dX8_tellApart_120 : decode cX8_tellApart 120 = .ok (.dup2, 1) := all_d dX8_tellApart_all0 70 rfl
theorem dX8_tellApart_121 : decode cX8_tellApart 121 = .ok (.iaload, 1) := all_d dX8_tellApart_all0 71 rfl
theorem dX8_tellApart_122 : decode cX8_tellApart 122 = .ok (.iconst 1, 1) := all_d dX8_tellApart_all0 72 rfl
theorem dX8_tellApart_123 : decode cX8_tellApart 123 = .ok (.iload_n 3, 1) := all_d dX8_tellApart_all0 73 rfl
theorem dX8_tellApart_124 : decode cX8_tellApart 124 = .ok (.ishl, 1) := all_d dX8_tellApart_all0 74 rfl
theorem dX8_tellApart_125 : decode cX8_tellApart 125 = .ok (.ior, 1) := all_d dX8_tellApart_all0 75 rfl
theorem dX8_tellApart_126 : decode cX8_tellApart 126 = .ok (.iastore, 1) := all_d dX8_tellApart_all0 76 rfl
theorem dX8_tellApart_127 : decode cX8_tellApart 127 = .ok (.iinc 3 1, 3) := all_d dX8_tellApart_all0 77 rfl
theorem dX8_tellApart_130 : decode cX8_tellApart 130 = .ok (.goto (-47), 3) := all_d dX8_tellApart_all0 78 rfl
theorem dX8_tellApart_133 : decode cX8_tellApart 133 = .ok (.iinc 2 1, 3) := all_d dX8_tellApart_all0 79 rfl
set_option maxRecDepth 100000 in
theorem dX8_tellApart_all1 : ([(136, (.goto (-83) : Instr), 3), (139, (.return_ : Instr), 1)] : List (Nat × Instr × Nat)).all (fun q => decide (decode cX8_tellApart q.1 = .ok (q.2.1, q.2.2))) = true := by decide +kernel
theorem dX8_tellApart_136 : decode cX8_tellApart 136 = .ok (.goto (-83), 3) := all_d dX8_tellApart_all1 0 rfl
theorem dX8_tellApart_139 : decode cX8_tellApart 139 = .ok (.return_, 1) := all_d dX8_tellApart_all1 1 rfl
set_option maxRecDepth 100000 in
theorem dX8_areAlike_all0 : ([(0, (.aload_n 0 : Instr), 1), (1, (.iload_n 1 : Instr), 1), (2, (.invokevirtual 225 : Instr), 3), (5, (.astore_n 3 : Instr), 1), (6, (.aload_n 0 : Instr), 1), (7, (.iload_n 2 : Instr), 1), (8, (.invokevirtual 225 : Instr), 3), (11, (.astore 4 : Instr), 2), (13, (.aload_n 3 : Instr), 1), (14, (.ifnull 46 : Instr), 3), (17, (.aload 4 : Instr), 2), (19, (.ifnull 41 : Instr), 3), (22, (.aload_n 3 : Instr), 1), (23, (.getfield 289 : Instr), 3), (26, (.aload 4 : Instr), 2), (28, (.getfield 289 : Instr), 3), (31, (.if_icmp .ne 29 : Instr), 3), (34, (.iload_n 1 : Instr), 1), (35, (.aload_n 0 : Instr), 1), (36, (.getfield 39 : Instr), 3), (39, (.arraylength : Instr), 1), (40, (.if_icmp .ge 20 : Instr), 3), (43, (.aload_n 0 : Instr), 1), (44, (.getfield 39 : Instr), 3), (47, (.iload_n 1 : Instr), 1), (48, (.iaload : Instr), 1), (49, (.iload_n 2 : Instr), 1), (50, (.ishr : Instr), 1), (51, (.iconst 1 : Instr), 1), (52, (.iand : Instr), 1), (53, (.ifCond .ne 7 : Instr), 3), (56, (.iconst 1 : Instr), 1), (57, (.goto 4 : Instr), 3), (60, (.iconst 0 : Instr), 1), (61, (.ireturn : Instr), 1)] : List (Nat × Instr × Nat)).all (fun q => decide (decode cX8_areAlike q.1 = .ok (q.2.1, q.2.2))) = true := by decide +kernel
theorem dX8_areAlike_0 : decode cX8_areAlike 0 = .ok (.aload_n 0, 1) := all_d dX8_areAlike_all0 0 rfl
theorem dX8_areAlike_1 : decode cX8_areAlike 1 = .ok (.iload_n 1, 1) := all_d dX8_areAlike_all0 1 rfl
theorem dX8_areAlike_2 : decode cX8_areAlike 2 = .ok (.invokevirtual 225, 3) := all_d dX8_areAlike_all0 2 rfl
theorem dX8_areAlike_5 : decode cX8_areAlike 5 = .ok (.astore_n 3, 1) := all_d dX8_areAlike_all0 3 rfl
theorem dX8_areAlike_6 : decode cX8_areAlike 6 = .ok (.aload_n 0, 1) := all_d dX8_areAlike_all0 4 rfl
theorem dX8_areAlike_7 : decode cX8_areAlike 7 = .ok (.iload_n 2, 1) := all_d dX8_areAlike_all0 5 rfl
theorem dX8_areAlike_8 : decode cX8_areAlike 8 = .ok (.invokevirtual 225, 3) := all_d dX8_areAlike_all0 6 rfl
theorem dX8_areAlike_11 : decode cX8_areAlike 11 = .ok (.astore 4, 2) := all_d dX8_areAlike_all0 7 rfl
theorem dX8_areAlike_13 : decode cX8_areAlike 13 = .ok (.aload_n 3, 1) := all_d dX8_areAlike_all0 8 rfl
theorem dX8_areAlike_14 : decode cX8_areAlike 14 = .ok (.ifnull 46, 3) := all_d dX8_areAlike_all0 9 rfl
theorem dX8_areAlike_17 : decode cX8_areAlike 17 = .ok (.aload 4, 2) := all_d dX8_areAlike_all0 10 rfl
theorem dX8_areAlike_19 : decode cX8_areAlike 19 = .ok (.ifnull 41, 3) := all_d dX8_areAlike_all0 11 rfl
theorem dX8_areAlike_22 : decode cX8_areAlike 22 = .ok (.aload_n 3, 1) := all_d dX8_areAlike_all0 12 rfl
theorem dX8_areAlike_23 : decode cX8_areAlike 23 = .ok (.getfield 289, 3) := all_d dX8_areAlike_all0 13 rfl
theorem dX8_areAlike_26 : decode cX8_areAlike 26 = .ok (.aload 4, 2) := all_d dX8_areAlike_all0 14 rfl
theorem dX8_areAlike_28 : decode cX8_areAlike 28 = .ok (.getfield 289, 3) := all_d dX8_areAlike_all0 15 rfl
theorem dX8_areAlike_31 : decode cX8_areAlike 31 = .ok (.if_icmp .ne 29, 3) := all_d dX8_areAlike_all0 16 rfl
theorem dX8_areAlike_34 : decode cX8_areAlike 34 = .ok (.iload_n 1, 1) := all_d dX8_areAlike_all0 17 rfl
theorem dX8_areAlike_35 : decode cX8_areAlike 35 = .ok (.aload_n 0, 1) := all_d dX8_areAlike_all0 18 rfl
theorem dX8_areAlike_36 : decode cX8_areAlike 36 = .ok (.getfield 39, 3) := all_d dX8_areAlike_all0 19 rfl
theorem dX8_areAlike_39 : decode cX8_areAlike 39 = .ok (.arraylength, 1) := all_d dX8_areAlike_all0 20 rfl
theorem dX8_areAlike_40 : decode cX8_areAlike 40 = .ok (.if_icmp .ge 20, 3) := all_d dX8_areAlike_all0 21 rfl
theorem dX8_areAlike_43 : decode cX8_areAlike 43 = .ok (.aload_n 0, 1) := all_d dX8_areAlike_all0 22 rfl
theorem dX8_areAlike_44 : decode cX8_areAlike 44 = .ok (.getfield 39, 3) := all_d dX8_areAlike_all0 23 rfl
theorem dX8_areAlike_47 : decode cX8_areAlike 47 = .ok (.iload_n 1, 1) := all_d dX8_areAlike_all0 24 rfl
theorem dX8_areAlike_48 : decode cX8_areAlike 48 = .ok (.iaload, 1) := all_d dX8_areAlike_all0 25 rfl
theorem dX8_areAlike_49 : decode cX8_areAlike 49 = .ok (.iload_n 2, 1) := all_d dX8_areAlike_all0 26 rfl
theorem dX8_areAlike_50 : decode cX8_areAlike 50 = .ok (.ishr, 1) := all_d dX8_areAlike_all0 27 rfl
theorem dX8_areAlike_51 : decode cX8_areAlike 51 = .ok (.iconst 1, 1) := all_d dX8_areAlike_all0 28 rfl
theorem dX8_areAlike_52 : decode cX8_areAlike 52 = .ok (.iand, 1) := all_d dX8_areAlike_all0 29 rfl
theorem dX8_areAlike_53 : decode cX8_areAlike 53 = .ok (.ifCond .ne 7, 3) := all_d dX8_areAlike_all0 30 rfl
theorem dX8_areAlike_56 : decode cX8_areAlike 56 = .ok (.iconst 1, 1) := all_d dX8_areAlike_all0 31 rfl
theorem dX8_areAlike_57 : decode cX8_areAlike 57 = .ok (.goto 4, 3) := all_d dX8_areAlike_all0 32 rfl
theorem dX8_areAlike_60 : decode cX8_areAlike 60 = .ok (.iconst 0, 1) := all_d dX8_areAlike_all0 33 rfl
theorem dX8_areAlike_61 : decode cX8_areAlike 61 = .ok (.ireturn, 1) := all_d dX8_areAlike_all0 34 rfl
set_option maxRecDepth 100000 in
theorem dX8_newAct_all0 : ([(0, (.aload_n 0 : Instr), 1), (1, (.iconst (-1) : Instr), 1), (2, (.putfield 69 : Instr), 3), (5, (.aload_n 0 : Instr), 1), (6, (.getfield 52 : Instr), 3), (9, (.iload_n 1 : Instr), 1), (10, (.iload_n 2 : Instr), 1), (11, (.iload_n 3 : Instr), 1), (12, (.invokevirtual 300 : Instr), 3), (15, (.areturn : Instr), 1)] : List (Nat × Instr × Nat)).all (fun q => decide (decode cX8_newAct q.1 = .ok (q.2.1, q.2.2))) = true := by decide +kernel
theorem dX8_newAct_0 : decode cX8_newAct 0 = .ok (.aload_n 0, 1) := all_d dX8_newAct_all0 0 rfl
theorem dX8_newAct_1 : decode cX8_newAct 1 = .ok (.iconst (-1), 1) := all_d dX8_newAct_all0 1 rfl
theorem dX8_newAct_2 : decode cX8_newAct 2 = .ok (.putfield 69, 3) := all_d dX8_newAct_all0 2 rfl
theorem dX8_newAct_5 : decode cX8_newAct 5 = .ok (.aload_n 0, 1) := all_d dX8_newAct_all0 3 rfl
theorem dX8_newAct_6 : decode cX8_newAct 6 = .ok (.getfield 52, 3) := all_d dX8_newAct_all0 4 rfl
theorem dX8_newAct_9 : decode cX8_newAct 9 = .ok (.iload_n 1, 1) := all_d dX8_newAct_all0 5 rfl
theorem dX8_newAct_10 : decode cX8_newAct 10 = .ok (.iload_n 2, 1) := all_d dX8_newAct_all0 6 rfl
theorem dX8_newAct_11 : decode cX8_newAct 11 = .ok (.iload_n 3, 1) := all_d dX8_newAct_all0 7 rfl
theorem dX8_newAct_12 : decode cX8_newAct 12 = .ok (.invokevirtual 300, 3) := all_d dX8_newAct_all0 8 rfl
theorem dX8_newAct_15 : decode cX8_newAct 15 = .ok (.areturn, 1) := all_d dX8_newAct_all0 9 rfl
set_option maxRecDepth 100000 in
theorem dX8_takeBack_all0 : ([(0, (.aload_n 0 : Instr), 1), (1, (.aload_n 1 : Instr), 1), (2, (.getfield 303 : Instr), 3), (5, (.invokevirtual 83 : Instr), 3), (8, (.astore_n 2 : Instr), 1), (9, (.aload_n 0 : Instr), 1), (10, (.aload_n 1 : Instr), 1), (11, (.getfield 303 : Instr), 3), (14, (.aload_n 1 : Instr), 1), (15, (.getfield 304 : Instr), 3), (18, (.invokevirtual 109 : Instr), 3), (21, (.astore_n 3 : Instr), 1), (22, (.aload_n 1 : Instr), 1), (23, (.getfield 305 : Instr), 3), (26, (.ifCond .ne 14 : Instr), 3), (29, (.aload_n 0 : Instr), 1), (30, (.aload_n 1 : Instr), 1), (31, (.getfield 78 : Instr), 3), (34, (.putfield 56 : Instr), 3), (37, (.goto 124 : Instr), 3), (40, (.aload_n 1 : Instr), 1), (41, (.getfield 305 : Instr), 3), (44, (.iconst 1 : Instr), 1), (45, (.if_icmp .ne 23 : Instr), 3), (48, (.aload_n 0 : Instr), 1), (49, (.getfield 60 : Instr), 3), (52, (.ifCond .le 16 : Instr), 3), (55, (.aload_n 0 : Instr), 1), (56, (.dup : Instr), 1), (57, (.getfield 60 : Instr), 3), (60, (.iconst 1 : Instr), 1), (61, (.isub : Instr), 1), (62, (.putfield 60 : Instr), 3), (65, (.goto 96 : Instr), 3), (68, (.aload_n 1 : Instr), 1), (69, (.getfield 305 : Instr), 3), (72, (.iconst 2 : Instr), 1), (73, (.if_icmp .ne 22 : Instr), 3), (76, (.aload_n 2 : Instr), 1), (77, (.ifnull 18 : Instr), 3), (80, (.aload_n 2 : Instr), 1), (81, (.invokevirtual 308 : Instr), 3), (84, (.aload_n 2 : Instr), 1), (85, (.aload_n 1 : Instr), 1), (86, (.getfield 98 : Instr), 3), (89, (.invokevirtual 311 : Instr), 3), (92, (.goto 69 : Instr), 3), (95, (.aload_n 1 : Instr), 1), (96, (.getfield 305 : Instr), 3), (99, (.iconst 3 : Instr), 1), (100, (.if_icmp .ne 18 : Instr), 3), (103, (.aload_n 3 : Instr), 1), (104, (.ifnull 14 : Instr), 3), (107, (.aload_n 3 : Instr), 1), (108, (.aload_n 1 : Instr), 1), (109, (.getfield 78 : Instr), 3), (112, (.putfield 117 : Instr), 3), (115, (.goto 46 : Instr), 3), (118, (.aload_n 1 : Instr), 1), (119, (.getfield 305 : Instr), 3), (122, (.iconst 4 : Instr), 1), (123, (.if_icmp .ne 18 : Instr), 3), (126, (.aload_n 3 : Instr), 1), (127, (.ifnull 14 : Instr), 3), (130, (.aload_n 3 : Instr), 1), (131, (.aload_n 1 : Instr), 1), (132, (.getfield 78 : Instr), 3), (135, (.putfield 125 : Instr), 3), (138, (.goto 23 : Instr), 3), (141, (.aload_n 1 : Instr), 1), (142, (.getfield 305 : Instr), 3), (145, (.iconst 5 : Instr), 1), (146, (.if_icmp .ne 15 : Instr), 3), (149, (.aload_n 2 : Instr), 1), (150, (.ifnull 11 : Instr), 3), (153, (.aload_n 2 : Instr), 1), (154, (.aload_n 1 : Instr), 1), (155, (.getfield 98 : Instr), 3), (158, (.invokevirtual 311 : Instr), 3), (161, (.return_ : Instr), 1)] : List (Nat × Instr × Nat)).all (fun q => decide (decode cX8_takeBack q.1 = .ok (q.2.1, q.2.2))) = true := by decide +kernel
theorem dX8_takeBack_0 : decode cX8_takeBack 0 = .ok (.aload_n 0, 1) := all_d dX8_takeBack_all0 0 rfl
theorem dX8_takeBack_1 : decode cX8_takeBack 1 = .ok (.aload_n 1, 1) := all_d dX8_takeBack_all0 1 rfl
theorem dX8_takeBack_2 : decode cX8_takeBack 2 = .ok (.getfield 303, 3) := all_d dX8_takeBack_all0 2 rfl
theorem dX8_takeBack_5 : decode cX8_takeBack 5 = .ok (.invokevirtual 83, 3) := all_d dX8_takeBack_all0 3 rfl
theorem dX8_takeBack_8 : decode cX8_takeBack 8 = .ok (.astore_n 2, 1) := all_d dX8_takeBack_all0 4 rfl
theorem dX8_takeBack_9 : decode cX8_takeBack 9 = .ok (.aload_n 0, 1) := all_d dX8_takeBack_all0 5 rfl
theorem dX8_takeBack_10 : decode cX8_takeBack 10 = .ok (.aload_n 1, 1) := all_d dX8_takeBack_all0 6 rfl
theorem dX8_takeBack_11 : decode cX8_takeBack 11 = .ok (.getfield 303, 3) := all_d dX8_takeBack_all0 7 rfl
theorem dX8_takeBack_14 : decode cX8_takeBack 14 = .ok (.aload_n 1, 1) := all_d dX8_takeBack_all0 8 rfl
theorem dX8_takeBack_15 : decode cX8_takeBack 15 = .ok (.getfield 304, 3) := all_d dX8_takeBack_all0 9 rfl
theorem dX8_takeBack_18 : decode cX8_takeBack 18 = .ok (.invokevirtual 109, 3) := all_d dX8_takeBack_all0 10 rfl
theorem dX8_takeBack_21 : decode cX8_takeBack 21 = .ok (.astore_n 3, 1) := all_d dX8_takeBack_all0 11 rfl
theorem dX8_takeBack_22 : decode cX8_takeBack 22 = .ok (.aload_n 1, 1) := all_d dX8_takeBack_all0 12 rfl
theorem dX8_takeBack_23 : decode cX8_takeBack 23 = .ok (.getfield 305, 3) := all_d dX8_takeBack_all0 13 rfl
theorem dX8_takeBack_26 : decode cX8_takeBack 26 = .ok (.ifCond .ne 14, 3) := all_d dX8_takeBack_all0 14 rfl
theorem dX8_takeBack_29 : decode cX8_takeBack 29 = .ok (.aload_n 0, 1) := all_d dX8_takeBack_all0 15 rfl
theorem dX8_takeBack_30 : decode cX8_takeBack 30 = .ok (.aload_n 1, 1) := all_d dX8_takeBack_all0 16 rfl
theorem dX8_takeBack_31 : decode cX8_takeBack 31 = .ok (.getfield 78, 3) := all_d dX8_takeBack_all0 17 rfl
theorem dX8_takeBack_34 : decode cX8_takeBack 34 = .ok (.putfield 56, 3) := all_d dX8_takeBack_all0 18 rfl
theorem dX8_takeBack_37 : decode cX8_takeBack 37 = .ok (.goto 124, 3) := all_d dX8_takeBack_all0 19 rfl
theorem dX8_takeBack_40 : decode cX8_takeBack 40 = .ok (.aload_n 1, 1) := all_d dX8_takeBack_all0 20 rfl
theorem dX8_takeBack_41 : decode cX8_takeBack 41 = .ok (.getfield 305, 3) := all_d dX8_takeBack_all0 21 rfl
theorem dX8_takeBack_44 : decode cX8_takeBack 44 = .ok (.iconst 1, 1) := all_d dX8_takeBack_all0 22 rfl
theorem dX8_takeBack_45 : decode cX8_takeBack 45 = .ok (.if_icmp .ne 23, 3) := all_d dX8_takeBack_all0 23 rfl
theorem dX8_takeBack_48 : decode cX8_takeBack 48 = .ok (.aload_n 0, 1) := all_d dX8_takeBack_all0 24 rfl
theorem dX8_takeBack_49 : decode cX8_takeBack 49 = .ok (.getfield 60, 3) := all_d dX8_takeBack_all0 25 rfl
theorem dX8_takeBack_52 : decode cX8_takeBack 52 = .ok (.ifCond .le 16, 3) := all_d dX8_takeBack_all0 26 rfl
theorem dX8_takeBack_55 : decode cX8_takeBack 55 = .ok (.aload_n 0, 1) := all_d dX8_takeBack_all0 27 rfl
theorem dX8_takeBack_56 : decode cX8_takeBack 56 = .ok (.dup, 1) := all_d dX8_takeBack_all0 28 rfl
theorem dX8_takeBack_57 : decode cX8_takeBack 57 = .ok (.getfield 60, 3) := all_d dX8_takeBack_all0 29 rfl
theorem dX8_takeBack_60 : decode cX8_takeBack 60 = .ok (.iconst 1, 1) := all_d dX8_takeBack_all0 30 rfl
theorem dX8_takeBack_61 : decode cX8_takeBack 61 = .ok (.isub, 1) := all_d dX8_takeBack_all0 31 rfl
theorem dX8_takeBack_62 : decode cX8_takeBack 62 = .ok (.putfield 60, 3) := all_d dX8_takeBack_all0 32 rfl
theorem dX8_takeBack_65 : decode cX8_takeBack 65 = .ok (.goto 96, 3) := all_d dX8_takeBack_all0 33 rfl
theorem dX8_takeBack_68 : decode cX8_takeBack 68 = .ok (.aload_n 1, 1) := all_d dX8_takeBack_all0 34 rfl
theorem dX8_takeBack_69 : decode cX8_takeBack 69 = .ok (.getfield 305, 3) := all_d dX8_takeBack_all0 35 rfl
theorem dX8_takeBack_72 : decode cX8_takeBack 72 = .ok (.iconst 2, 1) := all_d dX8_takeBack_all0 36 rfl
theorem dX8_takeBack_73 : decode cX8_takeBack 73 = .ok (.if_icmp .ne 22, 3) := all_d dX8_takeBack_all0 37 rfl
theorem dX8_takeBack_76 : decode cX8_takeBack 76 = .ok (.aload_n 2, 1) := all_d dX8_takeBack_all0 38 rfl
theorem dX8_takeBack_77 : decode cX8_takeBack 77 = .ok (.ifnull 18, 3) := all_d dX8_takeBack_all0 39 rfl
theorem dX8_takeBack_80 : decode cX8_takeBack 80 = .ok (.aload_n 2, 1) := all_d dX8_takeBack_all0 40 rfl
theorem dX8_takeBack_81 : decode cX8_takeBack 81 = .ok (.invokevirtual 308, 3) := all_d dX8_takeBack_all0 41 rfl
theorem dX8_takeBack_84 : decode cX8_takeBack 84 = .ok (.aload_n 2, 1) := all_d dX8_takeBack_all0 42 rfl
theorem dX8_takeBack_85 : decode cX8_takeBack 85 = .ok (.aload_n 1, 1) := all_d dX8_takeBack_all0 43 rfl
theorem dX8_takeBack_86 : decode cX8_takeBack 86 = .ok (.getfield 98, 3) := all_d dX8_takeBack_all0 44 rfl
theorem dX8_takeBack_89 : decode cX8_takeBack 89 = .ok (.invokevirtual 311, 3) := all_d dX8_takeBack_all0 45 rfl
theorem dX8_takeBack_92 : decode cX8_takeBack 92 = .ok (.goto 69, 3) := all_d dX8_takeBack_all0 46 rfl
theorem dX8_takeBack_95 : decode cX8_takeBack 95 = .ok (.aload_n 1, 1) := all_d dX8_takeBack_all0 47 rfl
theorem dX8_takeBack_96 : decode cX8_takeBack 96 = .ok (.getfield 305, 3) := all_d dX8_takeBack_all0 48 rfl
theorem dX8_takeBack_99 : decode cX8_takeBack 99 = .ok (.iconst 3, 1) := all_d dX8_takeBack_all0 49 rfl
theorem dX8_takeBack_100 : decode cX8_takeBack 100 = .ok (.if_icmp .ne 18, 3) := all_d dX8_takeBack_all0 50 rfl
theorem dX8_takeBack_103 : decode cX8_takeBack 103 = .ok (.aload_n 3, 1) := all_d dX8_takeBack_all0 51 rfl
theorem dX8_takeBack_104 : decode cX8_takeBack 104 = .ok (.ifnull 14, 3) := all_d dX8_takeBack_all0 52 rfl
theorem dX8_takeBack_107 : decode cX8_takeBack 107 = .ok (.aload_n 3, 1) := all_d dX8_takeBack_all0 53 rfl
theorem dX8_takeBack_108 : decode cX8_takeBack 108 = .ok (.aload_n 1, 1) := all_d dX8_takeBack_all0 54 rfl
theorem dX8_takeBack_109 : decode cX8_takeBack 109 = .ok (.getfield 78, 3) := all_d dX8_takeBack_all0 55 rfl
theorem dX8_takeBack_112 : decode cX8_takeBack 112 = .ok (.putfield 117, 3) := all_d dX8_takeBack_all0 56 rfl
theorem dX8_takeBack_115 : decode cX8_takeBack 115 = .ok (.goto 46, 3) := all_d dX8_takeBack_all0 57 rfl
theorem dX8_takeBack_118 : decode cX8_takeBack 118 = .ok (.aload_n 1, 1) := all_d dX8_takeBack_all0 58 rfl
theorem dX8_takeBack_119 : decode cX8_takeBack 119 = .ok (.getfield 305, 3) := all_d dX8_takeBack_all0 59 rfl
theorem dX8_takeBack_122 : decode cX8_takeBack 122 = .ok (.iconst 4, 1) := all_d dX8_takeBack_all0 60 rfl
theorem dX8_takeBack_123 : decode cX8_takeBack 123 = .ok (.if_icmp .ne 18, 3) := all_d dX8_takeBack_all0 61 rfl
theorem dX8_takeBack_126 : decode cX8_takeBack 126 = .ok (.aload_n 3, 1) := all_d dX8_takeBack_all0 62 rfl
theorem dX8_takeBack_127 : decode cX8_takeBack 127 = .ok (.ifnull 14, 3) := all_d dX8_takeBack_all0 63 rfl
theorem dX8_takeBack_130 : decode cX8_takeBack 130 = .ok (.aload_n 3, 1) := all_d dX8_takeBack_all0 64 rfl
theorem dX8_takeBack_131 : decode cX8_takeBack 131 = .ok (.aload_n 1, 1) := all_d dX8_takeBack_all0 65 rfl
theorem dX8_takeBack_132 : decode cX8_takeBack 132 = .ok (.getfield 78, 3) := all_d dX8_takeBack_all0 66 rfl
theorem dX8_takeBack_135 : decode cX8_takeBack 135 = .ok (.putfield 125, 3) := all_d dX8_takeBack_all0 67 rfl
theorem dX8_takeBack_138 : decode cX8_takeBack 138 = .ok (.goto 23, 3) := all_d dX8_takeBack_all0 68 rfl
theorem dX8_takeBack_141 : decode cX8_takeBack 141 = .ok (.aload_n 1, 1) := all_d dX8_takeBack_all0 69 rfl
theorem dX8_takeBack_142 : decode cX8_takeBack 142 = .ok (.getfield 305, 3) := all_d dX8_takeBack_all0 70 rfl
theorem dX8_takeBack_145 : decode cX8_takeBack 145 = .ok (.iconst 5, 1) := all_d dX8_takeBack_all0 71 rfl
theorem dX8_takeBack_146 : decode cX8_takeBack 146 = .ok (.if_icmp .ne 15, 3) := all_d dX8_takeBack_all0 72 rfl
theorem dX8_takeBack_149 : decode cX8_takeBack 149 = .ok (.aload_n 2, 1) := all_d dX8_takeBack_all0 73 rfl
theorem dX8_takeBack_150 : decode cX8_takeBack 150 = .ok (.ifnull 11, 3) := all_d dX8_takeBack_all0 74 rfl
theorem dX8_takeBack_153 : decode cX8_takeBack 153 = .ok (.aload_n 2, 1) := all_d dX8_takeBack_all0 75 rfl
theorem dX8_takeBack_154 : decode cX8_takeBack 154 = .ok (.aload_n 1, 1) := all_d dX8_takeBack_all0 76 rfl
theorem dX8_takeBack_155 : decode cX8_takeBack 155 = .ok (.getfield 98, 3) := all_d dX8_takeBack_all0 77 rfl
theorem dX8_takeBack_158 : decode cX8_takeBack 158 = .ok (.invokevirtual 311, 3) := all_d dX8_takeBack_all0 78 rfl
theorem dX8_takeBack_161 : decode cX8_takeBack 161 = .ok (.return_, 1) := all_d dX8_takeBack_all0 79 rfl
set_option maxRecDepth 100000 in
theorem dX8_dropGoneFaults_all0 : ([(0, (.aload_n 0 : Instr), 1), (1, (.getfield 63 : Instr), 3), (4, (.istore_n 1 : Instr), 1), (5, (.iconst 0 : Instr), 1), (6, (.istore_n 2 : Instr), 1), (7, (.iconst 0 : Instr), 1), (8, (.istore_n 3 : Instr), 1), (9, (.iload_n 3 : Instr), 1), (10, (.iload_n 1 : Instr), 1), (11, (.if_icmp .ge 82 : Instr), 3), (14, (.iload_n 3 : Instr), 1), (15, (.aload_n 0 : Instr), 1), (16, (.getfield 31 : Instr), 3), (19, (.arraylength : Instr), 1), (20, (.if_icmp .ge 73 : Instr), 3), (23, (.aload_n 0 : Instr), 1), (24, (.iload_n 3 : Instr), 1), (25, (.invokevirtual 225 : Instr), 3), (28, (.astore 4 : Instr), 2), (30, (.aload_n 0 : Instr), 1), (31, (.iload_n 2 : Instr), 1), (32, (.invokevirtual 225 : Instr), 3), (35, (.astore 5 : Instr), 2), (37, (.aload 4 : Instr), 2), (39, (.ifnull 48 : Instr), 3), (42, (.aload 5 : Instr), 2), (44, (.ifnull 43 : Instr), 3), (47, (.aload_n 0 : Instr), 1), (48, (.aload 4 : Instr), 2), (50, (.getfield 289 : Instr), 3), (53, (.aload 4 : Instr), 2), (55, (.getfield 296 : Instr), 3), (58, (.invokevirtual 109 : Instr), 3), (61, (.ifnull 26 : Instr), 3), (64, (.aload 5 : Instr), 2), (66, (.aload 4 : Instr), 2), (68, (.getfield 289 : Instr), 3), (71, (.aload 4 : Instr), 2), (73, (.getfield 296 : Instr), 3), (76, (.aload 4 : Instr), 2), (78, (.getfield 299 : Instr), 3), (81, (.invokevirtual 229 : Instr), 3), (84, (.iinc 2 1 : Instr), 3), (87, (.iinc 3 1 : Instr), 3), (90, (.goto (-81) : Instr), 3), (93, (.aload_n 0 : Instr), 1), (94, (.iload_n 2 : Instr), 1), (95, (.putfield 63 : Instr), 3), (98, (.return_ : Instr), 1)] : List (Nat × Instr × Nat)).all (fun q => decide (decode cX8_dropGoneFaults q.1 = .ok (q.2.1, q.2.2))) = true := by decide +kernel
theorem dX8_dropGoneFaults_0 : decode cX8_dropGoneFaults 0 = .ok (.aload_n 0, 1) := all_d dX8_dropGoneFaults_all0 0 rfl
theorem dX8_dropGoneFaults_1 : decode cX8_dropGoneFaults 1 = .ok (.getfield 63, 3) := all_d dX8_dropGoneFaults_all0 1 rfl
theorem dX8_dropGoneFaults_4 : decode cX8_dropGoneFaults 4 = .ok (.istore_n 1, 1) := all_d dX8_dropGoneFaults_all0 2 rfl
theorem dX8_dropGoneFaults_5 : decode cX8_dropGoneFaults 5 = .ok (.iconst 0, 1) := all_d dX8_dropGoneFaults_all0 3 rfl
theorem dX8_dropGoneFaults_6 : decode cX8_dropGoneFaults 6 = .ok (.istore_n 2, 1) := all_d dX8_dropGoneFaults_all0 4 rfl
theorem dX8_dropGoneFaults_7 : decode cX8_dropGoneFaults 7 = .ok (.iconst 0, 1) := all_d dX8_dropGoneFaults_all0 5 rfl
theorem dX8_dropGoneFaults_8 : decode cX8_dropGoneFaults 8 = .ok (.istore_n 3, 1) := all_d dX8_dropGoneFaults_all0 6 rfl
theorem dX8_dropGoneFaults_9 : decode cX8_dropGoneFaults 9 = .ok (.iload_n 3, 1) := all_d dX8_dropGoneFaults_all0 7 rfl
theorem dX8_dropGoneFaults_10 : decode cX8_dropGoneFaults 10 = .ok (.iload_n 1, 1) := all_d dX8_dropGoneFaults_all0 8 rfl
theorem dX8_dropGoneFaults_11 : decode cX8_dropGoneFaults 11 = .ok (.if_icmp .ge 82, 3) := all_d dX8_dropGoneFaults_all0 9 rfl
theorem dX8_dropGoneFaults_14 : decode cX8_dropGoneFaults 14 = .ok (.iload_n 3, 1) := all_d dX8_dropGoneFaults_all0 10 rfl
theorem dX8_dropGoneFaults_15 : decode cX8_dropGoneFaults 15 = .ok (.aload_n 0, 1) := all_d dX8_dropGoneFaults_all0 11 rfl
theorem dX8_dropGoneFaults_16 : decode cX8_dropGoneFaults 16 = .ok (.getfield 31, 3) := all_d dX8_dropGoneFaults_all0 12 rfl
theorem dX8_dropGoneFaults_19 : decode cX8_dropGoneFaults 19 = .ok (.arraylength, 1) := all_d dX8_dropGoneFaults_all0 13 rfl
theorem dX8_dropGoneFaults_20 : decode cX8_dropGoneFaults 20 = .ok (.if_icmp .ge 73, 3) := all_d dX8_dropGoneFaults_all0 14 rfl
theorem dX8_dropGoneFaults_23 : decode cX8_dropGoneFaults 23 = .ok (.aload_n 0, 1) := all_d dX8_dropGoneFaults_all0 15 rfl
theorem dX8_dropGoneFaults_24 : decode cX8_dropGoneFaults 24 = .ok (.iload_n 3, 1) := all_d dX8_dropGoneFaults_all0 16 rfl
theorem dX8_dropGoneFaults_25 : decode cX8_dropGoneFaults 25 = .ok (.invokevirtual 225, 3) := all_d dX8_dropGoneFaults_all0 17 rfl
theorem dX8_dropGoneFaults_28 : decode cX8_dropGoneFaults 28 = .ok (.astore 4, 2) := all_d dX8_dropGoneFaults_all0 18 rfl
theorem dX8_dropGoneFaults_30 : decode cX8_dropGoneFaults 30 = .ok (.aload_n 0, 1) := all_d dX8_dropGoneFaults_all0 19 rfl
theorem dX8_dropGoneFaults_31 : decode cX8_dropGoneFaults 31 = .ok (.iload_n 2, 1) := all_d dX8_dropGoneFaults_all0 20 rfl
theorem dX8_dropGoneFaults_32 : decode cX8_dropGoneFaults 32 = .ok (.invokevirtual 225, 3) := all_d dX8_dropGoneFaults_all0 21 rfl
theorem dX8_dropGoneFaults_35 : decode cX8_dropGoneFaults 35 = .ok (.astore 5, 2) := all_d dX8_dropGoneFaults_all0 22 rfl
theorem dX8_dropGoneFaults_37 : decode cX8_dropGoneFaults 37 = .ok (.aload 4, 2) := all_d dX8_dropGoneFaults_all0 23 rfl
theorem dX8_dropGoneFaults_39 : decode cX8_dropGoneFaults 39 = .ok (.ifnull 48, 3) := all_d dX8_dropGoneFaults_all0 24 rfl
theorem dX8_dropGoneFaults_42 : decode cX8_dropGoneFaults 42 = .ok (.aload 5, 2) := all_d dX8_dropGoneFaults_all0 25 rfl
theorem dX8_dropGoneFaults_44 : decode cX8_dropGoneFaults 44 = .ok (.ifnull 43, 3) := all_d dX8_dropGoneFaults_all0 26 rfl
theorem dX8_dropGoneFaults_47 : decode cX8_dropGoneFaults 47 = .ok (.aload_n 0, 1) := all_d dX8_dropGoneFaults_all0 27 rfl
theorem dX8_dropGoneFaults_48 : decode cX8_dropGoneFaults 48 = .ok (.aload 4, 2) := all_d dX8_dropGoneFaults_all0 28 rfl
theorem dX8_dropGoneFaults_50 : decode cX8_dropGoneFaults 50 = .ok (.getfield 289, 3) := all_d dX8_dropGoneFaults_all0 29 rfl
theorem dX8_dropGoneFaults_53 : decode cX8_dropGoneFaults 53 = .ok (.aload 4, 2) := all_d dX8_dropGoneFaults_all0 30 rfl
theorem dX8_dropGoneFaults_55 : decode cX8_dropGoneFaults 55 = .ok (.getfield 296, 3) := all_d dX8_dropGoneFaults_all0 31 rfl
theorem dX8_dropGoneFaults_58 : decode cX8_dropGoneFaults 58 = .ok (.invokevirtual 109, 3) := all_d dX8_dropGoneFaults_all0 32 rfl
theorem dX8_dropGoneFaults_61 : decode cX8_dropGoneFaults 61 = .ok (.ifnull 26, 3) := all_d dX8_dropGoneFaults_all0 33 rfl
theorem dX8_dropGoneFaults_64 : decode cX8_dropGoneFaults 64 = .ok (.aload 5, 2) := all_d dX8_dropGoneFaults_all0 34 rfl
theorem dX8_dropGoneFaults_66 : decode cX8_dropGoneFaults 66 = .ok (.aload 4, 2) := all_d dX8_dropGoneFaults_all0 35 rfl
theorem dX8_dropGoneFaults_68 : decode cX8_dropGoneFaults 68 = .ok (.getfield 289, 3) := all_d dX8_dropGoneFaults_all0 36 rfl
theorem dX8_dropGoneFaults_71 : decode cX8_dropGoneFaults 71 = .ok (.aload 4, 2) := all_d dX8_dropGoneFaults_all0 37 rfl
theorem dX8_dropGoneFaults_73 : decode cX8_dropGoneFaults 73 = .ok (.getfield 296, 3) := all_d dX8_dropGoneFaults_all0 38 rfl
theorem dX8_dropGoneFaults_76 : decode cX8_dropGoneFaults 76 = .ok (.aload 4, 2) := all_d dX8_dropGoneFaults_all0 39 rfl
theorem dX8_dropGoneFaults_78 : decode cX8_dropGoneFaults 78 = .ok (.getfield 299, 3) := all_d dX8_dropGoneFaults_all0 40 rfl
theorem dX8_dropGoneFaults_81 : decode cX8_dropGoneFaults 81 = .ok (.invokevirtual 229, 3) := all_d dX8_dropGoneFaults_all0 41 rfl
theorem dX8_dropGoneFaults_84 : decode cX8_dropGoneFaults 84 = .ok (.iinc 2 1, 3) := all_d dX8_dropGoneFaults_all0 42 rfl
theorem dX8_dropGoneFaults_87 : decode cX8_dropGoneFaults 87 = .ok (.iinc 3 1, 3) := all_d dX8_dropGoneFaults_all0 43 rfl
theorem dX8_dropGoneFaults_90 : decode cX8_dropGoneFaults 90 = .ok (.goto (-81), 3) := all_d dX8_dropGoneFaults_all0 44 rfl
theorem dX8_dropGoneFaults_93 : decode cX8_dropGoneFaults 93 = .ok (.aload_n 0, 1) := all_d dX8_dropGoneFaults_all0 45 rfl
theorem dX8_dropGoneFaults_94 : decode cX8_dropGoneFaults 94 = .ok (.iload_n 2, 1) := all_d dX8_dropGoneFaults_all0 46 rfl
theorem dX8_dropGoneFaults_95 : decode cX8_dropGoneFaults 95 = .ok (.putfield 63, 3) := all_d dX8_dropGoneFaults_all0 47 rfl
theorem dX8_dropGoneFaults_98 : decode cX8_dropGoneFaults 98 = .ok (.return_, 1) := all_d dX8_dropGoneFaults_all0 48 rfl
set_option maxRecDepth 100000 in
theorem dJ9_abs_0f7a4_all0 : ([(0, (.iload_n 0 : Instr), 1), (1, (.ifCond .ge 8 : Instr), 3), (4, (.iload_n 0 : Instr), 1), (5, (.ineg : Instr), 1), (6, (.goto 4 : Instr), 3), (9, (.iload_n 0 : Instr), 1), (10, (.ireturn : Instr), 1)] : List (Nat × Instr × Nat)).all (fun q => decide (decode cJ9_abs_0f7a4 q.1 = .ok (q.2.1, q.2.2))) = true := by decide +kernel
theorem dJ9_abs_0f7a4_0 : decode cJ9_abs_0f7a4 0 = .ok (.iload_n 0, 1) := all_d dJ9_abs_0f7a4_all0 0 rfl
theorem dJ9_abs_0f7a4_1 : decode cJ9_abs_0f7a4 1 = .ok (.ifCond .ge 8, 3) := all_d dJ9_abs_0f7a4_all0 1 rfl
theorem dJ9_abs_0f7a4_4 : decode cJ9_abs_0f7a4 4 = .ok (.iload_n 0, 1) := all_d dJ9_abs_0f7a4_all0 2 rfl
theorem dJ9_abs_0f7a4_5 : decode cJ9_abs_0f7a4 5 = .ok (.ineg, 1) := all_d dJ9_abs_0f7a4_all0 3 rfl
theorem dJ9_abs_0f7a4_6 : decode cJ9_abs_0f7a4 6 = .ok (.goto 4, 3) := all_d dJ9_abs_0f7a4_all0 4 rfl
theorem dJ9_abs_0f7a4_9 : decode cJ9_abs_0f7a4 9 = .ok (.iload_n 0, 1) := all_d dJ9_abs_0f7a4_all0 5 rfl
theorem dJ9_abs_0f7a4_10 : decode cJ9_abs_0f7a4 10 = .ok (.ireturn, 1) := all_d dJ9_abs_0f7a4_all0 6 rfl
set_option maxRecDepth 100000 in
theorem dJ9_max_7cf53_all0 : ([(0, (.iload_n 0 : Instr), 1), (1, (.iload_n 1 : Instr), 1), (2, (.if_icmp .lt 7 : Instr), 3), (5, (.iload_n 0 : Instr), 1), (6, (.goto 4 : Instr), 3), (9, (.iload_n 1 : Instr), 1), (10, (.ireturn : Instr), 1)] : List (Nat × Instr × Nat)).all (fun q => decide (decode cJ9_max_7cf53 q.1 = .ok (q.2.1, q.2.2))) = true := by decide +kernel
theorem dJ9_max_7cf53_0 : decode cJ9_max_7cf53 0 = .ok (.iload_n 0, 1) := all_d dJ9_max_7cf53_all0 0 rfl
theorem dJ9_max_7cf53_1 : decode cJ9_max_7cf53 1 = .ok (.iload_n 1, 1) := all_d dJ9_max_7cf53_all0 1 rfl
theorem dJ9_max_7cf53_2 : decode cJ9_max_7cf53 2 = .ok (.if_icmp .lt 7, 3) := all_d dJ9_max_7cf53_all0 2 rfl
theorem dJ9_max_7cf53_5 : decode cJ9_max_7cf53 5 = .ok (.iload_n 0, 1) := all_d dJ9_max_7cf53_all0 3 rfl
theorem dJ9_max_7cf53_6 : decode cJ9_max_7cf53 6 = .ok (.goto 4, 3) := all_d dJ9_max_7cf53_all0 4 rfl
theorem dJ9_max_7cf53_9 : decode cJ9_max_7cf53 9 = .ok (.iload_n 1, 1) := all_d dJ9_max_7cf53_all0 5 rfl
theorem dJ9_max_7cf53_10 : decode cJ9_max_7cf53 10 = .ok (.ireturn, 1) := all_d dJ9_max_7cf53_all0 6 rfl
set_option maxRecDepth 100000 in
theorem dJ9_min_7cf53_all0 : ([(0, (.iload_n 0 : Instr), 1), (1, (.iload_n 1 : Instr), 1), (2, (.if_icmp .gt 7 : Instr), 3), (5, (.iload_n 0 : Instr), 1), (6, (.goto 4 : Instr), 3), (9, (.iload_n 1 : Instr), 1), (10, (.ireturn : Instr), 1)] : List (Nat × Instr × Nat)).all (fun q => decide (decode cJ9_min_7cf53 q.1 = .ok (q.2.1, q.2.2))) = true := by decide +kernel
theorem dJ9_min_7cf53_0 : decode cJ9_min_7cf53 0 = .ok (.iload_n 0, 1) := all_d dJ9_min_7cf53_all0 0 rfl
theorem dJ9_min_7cf53_1 : decode cJ9_min_7cf53 1 = .ok (.iload_n 1, 1) := all_d dJ9_min_7cf53_all0 1 rfl
theorem dJ9_min_7cf53_2 : decode cJ9_min_7cf53 2 = .ok (.if_icmp .gt 7, 3) := all_d dJ9_min_7cf53_all0 2 rfl
theorem dJ9_min_7cf53_5 : decode cJ9_min_7cf53 5 = .ok (.iload_n 0, 1) := all_d dJ9_min_7cf53_all0 3 rfl
theorem dJ9_min_7cf53_6 : decode cJ9_min_7cf53 6 = .ok (.goto 4, 3) := all_d dJ9_min_7cf53_all0 4 rfl
theorem dJ9_min_7cf53_9 : decode cJ9_min_7cf53 9 = .ok (.iload_n 1, 1) := all_d dJ9_min_7cf53_all0 5 rfl
theorem dJ9_min_7cf53_10 : decode cJ9_min_7cf53 10 = .ok (.ireturn, 1) := all_d dJ9_min_7cf53_all0 6 rfl
set_option maxRecDepth 100000 in
theorem dJ7_fill_d0a16_all0 : ([(0, (.iconst 0 : Instr), 1), (1, (.istore_n 3 : Instr), 1), (2, (.aload_n 0 : Instr), 1), (3, (.arraylength : Instr), 1), (4, (.istore 4 : Instr), 2), (6, (.iload_n 3 : Instr), 1), (7, (.iload 4 : Instr), 2), (9, (.if_icmp .ge 13 : Instr), 3), (12, (.aload_n 0 : Instr), 1), (13, (.iload_n 3 : Instr), 1), (14, (.lload_n 1 : Instr), 1), (15, (.lastore : Instr), 1), (16, (.iinc 3 1 : Instr), 3), (19, (.goto (-13) : Instr), 3), (22, (.return_ : Instr), 1)] : List (Nat × Instr × Nat)).all (fun q => decide (decode cJ7_fill_d0a16 q.1 = .ok (q.2.1, q.2.2))) = true := by decide +kernel
theorem dJ7_fill_d0a16_0 : decode cJ7_fill_d0a16 0 = .ok (.iconst 0, 1) := all_d dJ7_fill_d0a16_all0 0 rfl
theorem dJ7_fill_d0a16_1 : decode cJ7_fill_d0a16 1 = .ok (.istore_n 3, 1) := all_d dJ7_fill_d0a16_all0 1 rfl
theorem dJ7_fill_d0a16_2 : decode cJ7_fill_d0a16 2 = .ok (.aload_n 0, 1) := all_d dJ7_fill_d0a16_all0 2 rfl
theorem dJ7_fill_d0a16_3 : decode cJ7_fill_d0a16 3 = .ok (.arraylength, 1) := all_d dJ7_fill_d0a16_all0 3 rfl
theorem dJ7_fill_d0a16_4 : decode cJ7_fill_d0a16 4 = .ok (.istore 4, 2) := all_d dJ7_fill_d0a16_all0 4 rfl
theorem dJ7_fill_d0a16_6 : decode cJ7_fill_d0a16 6 = .ok (.iload_n 3, 1) := all_d dJ7_fill_d0a16_all0 5 rfl
theorem dJ7_fill_d0a16_7 : decode cJ7_fill_d0a16 7 = .ok (.iload 4, 2) := all_d dJ7_fill_d0a16_all0 6 rfl
theorem dJ7_fill_d0a16_9 : decode cJ7_fill_d0a16 9 = .ok (.if_icmp .ge 13, 3) := all_d dJ7_fill_d0a16_all0 7 rfl
theorem dJ7_fill_d0a16_12 : decode cJ7_fill_d0a16 12 = .ok (.aload_n 0, 1) := all_d dJ7_fill_d0a16_all0 8 rfl
theorem dJ7_fill_d0a16_13 : decode cJ7_fill_d0a16 13 = .ok (.iload_n 3, 1) := all_d dJ7_fill_d0a16_all0 9 rfl
theorem dJ7_fill_d0a16_14 : decode cJ7_fill_d0a16 14 = .ok (.lload_n 1, 1) := all_d dJ7_fill_d0a16_all0 10 rfl
theorem dJ7_fill_d0a16_15 : decode cJ7_fill_d0a16 15 = .ok (.lastore, 1) := all_d dJ7_fill_d0a16_all0 11 rfl
theorem dJ7_fill_d0a16_16 : decode cJ7_fill_d0a16 16 = .ok (.iinc 3 1, 3) := all_d dJ7_fill_d0a16_all0 12 rfl
theorem dJ7_fill_d0a16_19 : decode cJ7_fill_d0a16 19 = .ok (.goto (-13), 3) := all_d dJ7_fill_d0a16_all0 13 rfl
theorem dJ7_fill_d0a16_22 : decode cJ7_fill_d0a16 22 = .ok (.return_, 1) := all_d dJ7_fill_d0a16_all0 14 rfl
set_option maxRecDepth 100000 in
theorem dJ7_fill_53178_all0 : ([(0, (.iconst 0 : Instr), 1), (1, (.istore_n 2 : Instr), 1), (2, (.aload_n 0 : Instr), 1), (3, (.arraylength : Instr), 1), (4, (.istore_n 3 : Instr), 1), (5, (.iload_n 2 : Instr), 1), (6, (.iload_n 3 : Instr), 1), (7, (.if_icmp .ge 13 : Instr), 3), (10, (.aload_n 0 : Instr), 1), (11, (.iload_n 2 : Instr), 1), (12, (.iload_n 1 : Instr), 1), (13, (.iastore : Instr), 1), (14, (.iinc 2 1 : Instr), 3), (17, (.goto (-12) : Instr), 3), (20, (.return_ : Instr), 1)] : List (Nat × Instr × Nat)).all (fun q => decide (decode cJ7_fill_53178 q.1 = .ok (q.2.1, q.2.2))) = true := by decide +kernel
theorem dJ7_fill_53178_0 : decode cJ7_fill_53178 0 = .ok (.iconst 0, 1) := all_d dJ7_fill_53178_all0 0 rfl
theorem dJ7_fill_53178_1 : decode cJ7_fill_53178 1 = .ok (.istore_n 2, 1) := all_d dJ7_fill_53178_all0 1 rfl
theorem dJ7_fill_53178_2 : decode cJ7_fill_53178 2 = .ok (.aload_n 0, 1) := all_d dJ7_fill_53178_all0 2 rfl
theorem dJ7_fill_53178_3 : decode cJ7_fill_53178 3 = .ok (.arraylength, 1) := all_d dJ7_fill_53178_all0 3 rfl
theorem dJ7_fill_53178_4 : decode cJ7_fill_53178 4 = .ok (.istore_n 3, 1) := all_d dJ7_fill_53178_all0 4 rfl
theorem dJ7_fill_53178_5 : decode cJ7_fill_53178 5 = .ok (.iload_n 2, 1) := all_d dJ7_fill_53178_all0 5 rfl
theorem dJ7_fill_53178_6 : decode cJ7_fill_53178 6 = .ok (.iload_n 3, 1) := all_d dJ7_fill_53178_all0 6 rfl
theorem dJ7_fill_53178_7 : decode cJ7_fill_53178 7 = .ok (.if_icmp .ge 13, 3) := all_d dJ7_fill_53178_all0 7 rfl
theorem dJ7_fill_53178_10 : decode cJ7_fill_53178 10 = .ok (.aload_n 0, 1) := all_d dJ7_fill_53178_all0 8 rfl
theorem dJ7_fill_53178_11 : decode cJ7_fill_53178 11 = .ok (.iload_n 2, 1) := all_d dJ7_fill_53178_all0 9 rfl
theorem dJ7_fill_53178_12 : decode cJ7_fill_53178 12 = .ok (.iload_n 1, 1) := all_d dJ7_fill_53178_all0 10 rfl
theorem dJ7_fill_53178_13 : decode cJ7_fill_53178 13 = .ok (.iastore, 1) := all_d dJ7_fill_53178_all0 11 rfl
theorem dJ7_fill_53178_14 : decode cJ7_fill_53178 14 = .ok (.iinc 2 1, 3) := all_d dJ7_fill_53178_all0 12 rfl
theorem dJ7_fill_53178_17 : decode cJ7_fill_53178 17 = .ok (.goto (-12), 3) := all_d dJ7_fill_53178_all0 13 rfl
theorem dJ7_fill_53178_20 : decode cJ7_fill_53178 20 = .ok (.return_, 1) := all_d dJ7_fill_53178_all0 14 rfl
end
section
set_option maxRecDepth 100000 in
theorem dX9_init_all0 : ([(0, (.aload_n 0 : Instr), 1), (1, (.invokespecial 1 : Instr), 3), (4, (.aload_n 0 : Instr), 1), (5, (.sipush 530 : Instr), 3), (8, (.newarray .int : Instr), 2), (10, (.putfield 7 : Instr), 3), (13, (.aload_n 0 : Instr), 1), (14, (.sipush 31800 : Instr), 3), (17, (.newarray .int : Instr), 2), (19, (.putfield 13 : Instr), 3), (22, (.aload_n 0 : Instr), 1), (23, (.bipush 8 : Instr), 2), (25, (.newarray .int : Instr), 2), (27, (.putfield 16 : Instr), 3), (30, (.aload_n 0 : Instr), 1), (31, (.bipush 8 : Instr), 2), (33, (.newarray .int : Instr), 2), (35, (.putfield 19 : Instr), 3), (38, (.aload_n 0 : Instr), 1), (39, (.bipush 10 : Instr), 2), (41, (.newarray .int : Instr), 2), (43, (.putfield 22 : Instr), 3), (46, (.aload_n 0 : Instr), 1), (47, (.bipush 10 : Instr), 2), (49, (.newarray .int : Instr), 2), (51, (.putfield 25 : Instr), 3), (54, (.aload_n 0 : Instr), 1), (55, (.bipush 10 : Instr), 2), (57, (.newarray .int : Instr), 2), (59, (.putfield 28 : Instr), 3), (62, (.aload_n 0 : Instr), 1), (63, (.sipush 4096 : Instr), 3), (66, (.newarray .int : Instr), 2), (68, (.putfield 31 : Instr), 3), (71, (.aload_n 0 : Instr), 1), (72, (.sipush 4096 : Instr), 3), (75, (.newarray .int : Instr), 2), (77, (.putfield 34 : Instr), 3), (80, (.aload_n 0 : Instr), 1), (81, (.sipush 4096 : Instr), 3), (84, (.newarray .int : Instr), 2), (86, (.putfield 37 : Instr), 3), (89, (.aload_n 0 : Instr), 1), (90, (.sipush 1024 : Instr), 3), (93, (.newarray .boolean : Instr), 2), (95, (.putfield 40 : Instr), 3), (98, (.aload_n 0 : Instr), 1), (99, (.sipush 1024 : Instr), 3), (102, (.newarray .int : Instr), 2), (104, (.putfield 44 : Instr), 3), (107, (.aload_n 0 : Instr), 1), (108, (.getfield 7 : Instr), 3), (111, (.iconst 0 : Instr), 1), (112, (.sipush 255 : Instr), 3), (115, (.iastore : Instr), 1), (116, (.return_ : Instr), 1)] : List (Nat × Instr × Nat)).all (fun q => decide (decode cX9_init q.1 = .ok (q.2.1, q.2.2))) = true := by decide +kernel
theorem dX9_init_0 : decode cX9_init 0 = .ok (.aload_n 0, 1) := all_d dX9_init_all0 0 rfl
theorem dX9_init_1 : decode cX9_init 1 = .ok (.invokespecial 1, 3) := all_d dX9_init_all0 1 rfl
theorem dX9_init_4 : decode cX9_init 4 = .ok (.aload_n 0, 1) := all_d dX9_init_all0 2 rfl
theorem dX9_init_5 : decode cX9_init 5 = .ok (.sipush 530, 3) := all_d dX9_init_all0 3 rfl
theorem dX9_init_8 : decode cX9_init 8 = .ok (.newarray .int, 2) := all_d dX9_init_all0 4 rfl
theorem dX9_init_10 : decode cX9_init 10 = .ok (.putfield 7, 3) := all_d dX9_init_all0 5 rfl
theorem dX9_init_13 : decode cX9_init 13 = .ok (.aload_n 0, 1) := all_d dX9_init_all0 6 rfl
theorem dX9_init_14 : decode cX9_init 14 = .ok (.sipush 31800, 3) := all_d dX9_init_all0 7 rfl
theorem dX9_init_17 : decode cX9_init 17 = .ok (.newarray .int, 2) := all_d dX9_init_all0 8 rfl
theorem dX9_init_19 : decode cX9_init 19 = .ok (.putfield 13, 3) := all_d dX9_init_all0 9 rfl
theorem dX9_init_22 : decode cX9_init 22 = .ok (.aload_n 0, 1) := all_d dX9_init_all0 10 rfl
theorem dX9_init_23 : decode cX9_init 23 = .ok (.bipush 8, 2) := all_d dX9_init_all0 11 rfl
theorem dX9_init_25 : decode cX9_init 25 = .ok (.newarray .int, 2) := all_d dX9_init_all0 12 rfl
theorem dX9_init_27 : decode cX9_init 27 = .ok (.putfield 16, 3) := all_d dX9_init_all0 13 rfl
theorem dX9_init_30 : decode cX9_init 30 = .ok (.aload_n 0, 1) := all_d dX9_init_all0 14 rfl
theorem dX9_init_31 : decode cX9_init 31 = .ok (.bipush 8, 2) := all_d dX9_init_all0 15 rfl
theorem dX9_init_33 : decode cX9_init 33 = .ok (.newarray .int, 2) := all_d dX9_init_all0 16 rfl
theorem dX9_init_35 : decode cX9_init 35 = .ok (.putfield 19, 3) := all_d dX9_init_all0 17 rfl
theorem dX9_init_38 : decode cX9_init 38 = .ok (.aload_n 0, 1) := all_d dX9_init_all0 18 rfl
theorem dX9_init_39 : decode cX9_init 39 = .ok (.bipush 10, 2) := all_d dX9_init_all0 19 rfl
theorem dX9_init_41 : decode cX9_init 41 = .ok (.newarray .int, 2) := all_d dX9_init_all0 20 rfl
theorem dX9_init_43 : decode cX9_init 43 = .ok (.putfield 22, 3) := all_d dX9_init_all0 21 rfl
theorem dX9_init_46 : decode cX9_init 46 = .ok (.aload_n 0, 1) := all_d dX9_init_all0 22 rfl
theorem dX9_init_47 : decode cX9_init 47 = .ok (.bipush 10, 2) := all_d dX9_init_all0 23 rfl
theorem dX9_init_49 : decode cX9_init 49 = .ok (.newarray .int, 2) := all_d dX9_init_all0 24 rfl
theorem dX9_init_51 : decode cX9_init 51 = .ok (.putfield 25, 3) := all_d dX9_init_all0 25 rfl
theorem dX9_init_54 : decode cX9_init 54 = .ok (.aload_n 0, 1) := all_d dX9_init_all0 26 rfl
theorem dX9_init_55 : decode cX9_init 55 = .ok (.bipush 10, 2) := all_d dX9_init_all0 27 rfl
theorem dX9_init_57 : decode cX9_init 57 = .ok (.newarray .int, 2) := all_d dX9_init_all0 28 rfl
theorem dX9_init_59 : decode cX9_init 59 = .ok (.putfield 28, 3) := all_d dX9_init_all0 29 rfl
theorem dX9_init_62 : decode cX9_init 62 = .ok (.aload_n 0, 1) := all_d dX9_init_all0 30 rfl
theorem dX9_init_63 : decode cX9_init 63 = .ok (.sipush 4096, 3) := all_d dX9_init_all0 31 rfl
theorem dX9_init_66 : decode cX9_init 66 = .ok (.newarray .int, 2) := all_d dX9_init_all0 32 rfl
theorem dX9_init_68 : decode cX9_init 68 = .ok (.putfield 31, 3) := all_d dX9_init_all0 33 rfl
theorem dX9_init_71 : decode cX9_init 71 = .ok (.aload_n 0, 1) := all_d dX9_init_all0 34 rfl
theorem dX9_init_72 : decode cX9_init 72 = .ok (.sipush 4096, 3) := all_d dX9_init_all0 35 rfl
theorem dX9_init_75 : decode cX9_init 75 = .ok (.newarray .int, 2) := all_d dX9_init_all0 36 rfl
theorem dX9_init_77 : decode cX9_init 77 = .ok (.putfield 34, 3) := all_d dX9_init_all0 37 rfl
theorem dX9_init_80 : decode cX9_init 80 = .ok (.aload_n 0, 1) := all_d dX9_init_all0 38 rfl
theorem dX9_init_81 : decode cX9_init 81 = .ok (.sipush 4096, 3) := all_d dX9_init_all0 39 rfl
theorem dX9_init_84 : decode cX9_init 84 = .ok (.newarray .int, 2) := all_d dX9_init_all0 40 rfl
theorem dX9_init_86 : decode cX9_init 86 = .ok (.putfield 37, 3) := all_d dX9_init_all0 41 rfl
theorem dX9_init_89 : decode cX9_init 89 = .ok (.aload_n 0, 1) := all_d dX9_init_all0 42 rfl
theorem dX9_init_90 : decode cX9_init 90 = .ok (.sipush 1024, 3) := all_d dX9_init_all0 43 rfl
theorem dX9_init_93 : decode cX9_init 93 = .ok (.newarray .boolean, 2) := all_d dX9_init_all0 44 rfl
theorem dX9_init_95 : decode cX9_init 95 = .ok (.putfield 40, 3) := all_d dX9_init_all0 45 rfl
theorem dX9_init_98 : decode cX9_init 98 = .ok (.aload_n 0, 1) := all_d dX9_init_all0 46 rfl
theorem dX9_init_99 : decode cX9_init 99 = .ok (.sipush 1024, 3) := all_d dX9_init_all0 47 rfl
theorem dX9_init_102 : decode cX9_init 102 = .ok (.newarray .int, 2) := all_d dX9_init_all0 48 rfl
theorem dX9_init_104 : decode cX9_init 104 = .ok (.putfield 44, 3) := all_d dX9_init_all0 49 rfl
theorem dX9_init_107 : decode cX9_init 107 = .ok (.aload_n 0, 1) := all_d dX9_init_all0 50 rfl
theorem dX9_init_108 : decode cX9_init 108 = .ok (.getfield 7, 3) := all_d dX9_init_all0 51 rfl
theorem dX9_init_111 : decode cX9_init 111 = .ok (.iconst 0, 1) := all_d dX9_init_all0 52 rfl
theorem dX9_init_112 : decode cX9_init 112 = .ok (.sipush 255, 3) := all_d dX9_init_all0 53 rfl
theorem dX9_init_115 : decode cX9_init 115 = .ok (.iastore, 1) := all_d dX9_init_all0 54 rfl
theorem dX9_init_116 : decode cX9_init 116 = .ok (.return_, 1) := all_d dX9_init_all0 55 rfl
set_option maxRecDepth 100000 in
theorem dX9_in_all0 : ([(0, (.iload_n 1 : Instr), 1), (1, (.iload_n 2 : Instr), 1), (2, (.if_icmp .lt 12 : Instr), 3), (5, (.iload_n 1 : Instr), 1), (6, (.iload_n 3 : Instr), 1), (7, (.if_icmp .gt 7 : Instr), 3), (10, (.iconst 1 : Instr), 1), (11, (.goto 4 : Instr), 3), (14, (.iconst 0 : Instr), 1), (15, (.ireturn : Instr), 1)] : List (Nat × Instr × Nat)).all (fun q => decide (decode cX9_in q.1 = .ok (q.2.1, q.2.2))) = true := by decide +kernel
theorem dX9_in_0 : decode cX9_in 0 = .ok (.iload_n 1, 1) := all_d dX9_in_all0 0 rfl
theorem dX9_in_1 : decode cX9_in 1 = .ok (.iload_n 2, 1) := all_d dX9_in_all0 1 rfl
theorem dX9_in_2 : decode cX9_in 2 = .ok (.if_icmp .lt 12, 3) := all_d dX9_in_all0 2 rfl
theorem dX9_in_5 : decode cX9_in 5 = .ok (.iload_n 1, 1) := all_d dX9_in_all0 3 rfl
theorem dX9_in_6 : decode cX9_in 6 = .ok (.iload_n 3, 1) := all_d dX9_in_all0 4 rfl
theorem dX9_in_7 : decode cX9_in 7 = .ok (.if_icmp .gt 7, 3) := all_d dX9_in_all0 5 rfl
theorem dX9_in_10 : decode cX9_in 10 = .ok (.iconst 1, 1) := all_d dX9_in_all0 6 rfl
theorem dX9_in_11 : decode cX9_in 11 = .ok (.goto 4, 3) := all_d dX9_in_all0 7 rfl
theorem dX9_in_14 : decode cX9_in 14 = .ok (.iconst 0, 1) := all_d dX9_in_all0 8 rfl
theorem dX9_in_15 : decode cX9_in 15 = .ok (.ireturn, 1) := all_d dX9_in_all0 9 rfl
set_option maxRecDepth 100000 in
theorem dX9_no_all0 : ([(0, (.aload_n 0 : Instr), 1), (1, (.iload_n 1 : Instr), 1), (2, (.putfield 51 : Instr), 3), (5, (.iconst (-1) : Instr), 1), (6, (.ireturn : Instr), 1)] : List (Nat × Instr × Nat)).all (fun q => decide (decode cX9_no q.1 = .ok (q.2.1, q.2.2))) = true := by decide +kernel
theorem dX9_no_0 : decode cX9_no 0 = .ok (.aload_n 0, 1) := all_d dX9_no_all0 0 rfl
theorem dX9_no_1 : decode cX9_no 1 = .ok (.iload_n 1, 1) := all_d dX9_no_all0 1 rfl
theorem dX9_no_2 : decode cX9_no 2 = .ok (.putfield 51, 3) := all_d dX9_no_all0 2 rfl
theorem dX9_no_5 : decode cX9_no 5 = .ok (.iconst (-1), 1) := all_d dX9_no_all0 3 rfl
theorem dX9_no_6 : decode cX9_no 6 = .ok (.ireturn, 1) := all_d dX9_no_all0 4 rfl
set_option maxRecDepth 100000 in
theorem dX9_not_all0 : ([(0, (.aload_n 0 : Instr), 1), (1, (.iload_n 1 : Instr), 1), (2, (.putfield 51 : Instr), 3), (5, (.iconst 0 : Instr), 1), (6, (.ireturn : Instr), 1)] : List (Nat × Instr × Nat)).all (fun q => decide (decode cX9_not q.1 = .ok (q.2.1, q.2.2))) = true := by decide +kernel
theorem dX9_not_0 : decode cX9_not 0 = .ok (.aload_n 0, 1) := all_d dX9_not_all0 0 rfl
theorem dX9_not_1 : decode cX9_not 1 = .ok (.iload_n 1, 1) := all_d dX9_not_all0 1 rfl
theorem dX9_not_2 : decode cX9_not 2 = .ok (.putfield 51, 3) := all_d dX9_not_all0 2 rfl
theorem dX9_not_5 : decode cX9_not 5 = .ok (.iconst 0, 1) := all_d dX9_not_all0 3 rfl
theorem dX9_not_6 : decode cX9_not 6 = .ok (.ireturn, 1) := all_d dX9_not_all0 4 rfl
set_option maxRecDepth 100000 in
theorem dX9_act_all0 : ([(0, (.aload_n 0 : Instr), 1), (1, (.getfield 54 : Instr), 3), (4, (.bipush 60 : Instr), 2), (6, (.if_icmp .ne 46 : Instr), 3), (9, (.sipush 530 : Instr), 3), (12, (.istore_n 1 : Instr), 1), (13, (.iload_n 1 : Instr), 1), (14, (.sipush 31800 : Instr), 3), (17, (.if_icmp .ge 25 : Instr), 3), (20, (.aload_n 0 : Instr), 1), (21, (.getfield 13 : Instr), 3), (24, (.iload_n 1 : Instr), 1), (25, (.sipush 530 : Instr), 3), (28, (.isub : Instr), 1), (29, (.aload_n 0 : Instr), 1), (30, (.getfield 13 : Instr), 3), (33, (.iload_n 1 : Instr), 1), (34, (.iaload : Instr), 1), (35, (.iastore : Instr), 1), (36, (.iinc 1 1 : Instr), 3), (39, (.goto (-26) : Instr), 3), (42, (.aload_n 0 : Instr), 1), (43, (.dup : Instr), 1), (44, (.getfield 54 : Instr), 3), (47, (.iconst 1 : Instr), 1), (48, (.isub : Instr), 1), (49, (.putfield 54 : Instr), 3), (52, (.iconst 0 : Instr), 1), (53, (.istore_n 1 : Instr), 1), (54, (.iload_n 1 : Instr), 1), (55, (.sipush 530 : Instr), 3), (58, (.if_icmp .ge 30 : Instr), 3), (61, (.aload_n 0 : Instr), 1), (62, (.getfield 13 : Instr), 3), (65, (.sipush 530 : Instr), 3), (68, (.aload_n 0 : Instr), 1), (69, (.getfield 54 : Instr), 3), (72, (.imul : Instr), 1), (73, (.iload_n 1 : Instr), 1), (74, (.iadd : Instr), 1), (75, (.aload_n 0 : Instr), 1), (76, (.getfield 7 : Instr), 3), (79, (.iload_n 1 : Instr), 1), (80, (.iaload : Instr), 1), (81, (.iastore : Instr), 1), (82, (.iinc 1 1 : Instr), 3), (85, (.goto (-31) : Instr), 3), (88, (.aload_n 0 : Instr), 1), (89, (.dup : Instr), 1), (90, (.getfield 54 : Instr), 3), (93, (.iconst 1 : Instr), 1), (94, (.iadd : Instr), 1), (95, (.putfield 54 : Instr), 3), (98, (.aload_n 0 : Instr), 1), (99, (.iconst 0 : Instr), 1), (100, (.putfield 51 : Instr), 3), (103, (.return_ : Instr), 1)] : List (Nat × Instr × Nat)).all (fun q => decide (decode cX9_act q.1 = .ok (q.2.1, q.2.2))) = true := by decide +kernel
theorem dX9_act_0 : decode cX9_act 0 = .ok (.aload_n 0, 1) := all_d dX9_act_all0 0 rfl
theorem dX9_act_1 : decode cX9_act 1 = .ok (.getfield 54, 3) := all_d dX9_act_all0 1 rfl
theorem dX9_act_4 : decode cX9_act 4 = .ok (.bipush 60, 2) := all_d dX9_act_all0 2 rfl
theorem dX9_act_6 : decode cX9_act 6 = .ok (.if_icmp .ne 46, 3) := all_d dX9_act_all0 3 rfl
theorem dX9_act_9 : decode cX9_act 9 = .ok (.sipush 530, 3) := all_d dX9_act_all0 4 rfl
theorem dX9_act_12 : decode cX9_act 12 = .ok (.istore_n 1, 1) := all_d dX9_act_all0 5 rfl
theorem dX9_act_13 : decode cX9_act 13 = .ok (.iload_n 1, 1) := all_d dX9_act_all0 6 rfl
theorem dX9_act_14 : decode cX9_act 14 = .ok (.sipush 31800, 3) := all_d dX9_act_all0 7 rfl
theorem dX9_act_17 : decode cX9_act 17 = .ok (.if_icmp .ge 25, 3) := all_d dX9_act_all0 8 rfl
theorem dX9_act_20 : decode cX9_act 20 = .ok (.aload_n 0, 1) := all_d dX9_act_all0 9 rfl
theorem dX9_act_21 : decode cX9_act 21 = .ok (.getfield 13, 3) := all_d dX9_act_all0 10 rfl
theorem dX9_act_24 : decode cX9_act 24 = .ok (.iload_n 1, 1) := all_d dX9_act_all0 11 rfl
theorem dX9_act_25 : decode cX9_act 25 = .ok (.sipush 530, 3) := all_d dX9_act_all0 12 rfl
theorem dX9_act_28 : decode cX9_act 28 = .ok (.isub, 1) := all_d dX9_act_all0 13 rfl
theorem dX9_act_29 : decode cX9_act 29 = .ok (.aload_n 0, 1) := all_d dX9_act_all0 14 rfl
theorem dX9_act_30 : decode cX9_act 30 = .ok (.getfield 13, 3) := all_d dX9_act_all0 15 rfl
theorem dX9_act_33 : decode cX9_act 33 = .ok (.iload_n 1, 1) := all_d dX9_act_all0 16 rfl
theorem dX9_act_34 : decode cX9_act 34 = .ok (.iaload, 1) := all_d dX9_act_all0 17 rfl
theorem dX9_act_35 : decode cX9_act 35 = .ok (.iastore, 1) := all_d dX9_act_all0 18 rfl
theorem dX9_act_36 : decode cX9_act 36 = .ok (.iinc 1 1, 3) := all_d dX9_act_all0 19 rfl
theorem dX9_act_39 : decode cX9_act 39 = .ok (.goto (-26), 3) := all_d dX9_act_all0 20 rfl
theorem dX9_act_42 : decode cX9_act 42 = .ok (.aload_n 0, 1) := all_d dX9_act_all0 21 rfl
theorem dX9_act_43 : decode cX9_act 43 = .ok (.dup, 1) := all_d dX9_act_all0 22 rfl
theorem dX9_act_44 : decode cX9_act 44 = .ok (.getfield 54, 3) := all_d dX9_act_all0 23 rfl
theorem dX9_act_47 : decode cX9_act 47 = .ok (.iconst 1, 1) := all_d dX9_act_all0 24 rfl
theorem dX9_act_48 : decode cX9_act 48 = .ok (.isub, 1) := all_d dX9_act_all0 25 rfl
theorem dX9_act_49 : decode cX9_act 49 = .ok (.putfield 54, 3) := all_d dX9_act_all0 26 rfl
theorem dX9_act_52 : decode cX9_act 52 = .ok (.iconst 0, 1) := all_d dX9_act_all0 27 rfl
theorem dX9_act_53 : decode cX9_act 53 = .ok (.istore_n 1, 1) := all_d dX9_act_all0 28 rfl
theorem dX9_act_54 : decode cX9_act 54 = .ok (.iload_n 1, 1) := all_d dX9_act_all0 29 rfl
theorem dX9_act_55 : decode cX9_act 55 = .ok (.sipush 530, 3) := all_d dX9_act_all0 30 rfl
theorem dX9_act_58 : decode cX9_act 58 = .ok (.if_icmp .ge 30, 3) := all_d dX9_act_all0 31 rfl
theorem dX9_act_61 : decode cX9_act 61 = .ok (.aload_n 0, 1) := all_d dX9_act_all0 32 rfl
theorem dX9_act_62 : decode cX9_act 62 = .ok (.getfield 13, 3) := all_d dX9_act_all0 33 rfl
theorem dX9_act_65 : decode cX9_act 65 = .ok (.sipush 530, 3) := all_d dX9_act_all0 34 rfl
theorem dX9_act_68 : decode cX9_act 68 = .ok (.aload_n 0, 1) := all_d dX9_act_all0 35 rfl
theorem dX9_act_69 : decode cX9_act 69 = .ok (.getfield 54, 3) := all_d dX9_act_all0 36 rfl
theorem dX9_act_72 : decode cX9_act 72 = .ok (.imul, 1) := all_d dX9_act_all0 37 rfl
theorem dX9_act_73 : decode cX9_act 73 = .ok (.iload_n 1, 1) := all_d dX9_act_all0 38 rfl
theorem dX9_act_74 : decode cX9_act 74 = .ok (.iadd, 1) := all_d dX9_act_all0 39 rfl
theorem dX9_act_75 : decode cX9_act 75 = .ok (.aload_n 0, 1) := all_d dX9_act_all0 40 rfl
theorem dX9_act_76 : decode cX9_act 76 = .ok (.getfield 7, 3) := all_d dX9_act_all0 41 rfl
theorem dX9_act_79 : decode cX9_act 79 = .ok (.iload_n 1, 1) := all_d dX9_act_all0 42 rfl
theorem dX9_act_80 : decode cX9_act 80 = .ok (.iaload, 1) := all_d dX9_act_all0 43 rfl
theorem dX9_act_81 : decode cX9_act 81 = .ok (.iastore, 1) := all_d dX9_act_all0 44 rfl
theorem dX9_act_82 : decode cX9_act 82 = .ok (.iinc 1 1, 3) := all_d dX9_act_all0 45 rfl
theorem dX9_act_85 : decode cX9_act 85 = .ok (.goto (-31), 3) := all_d dX9_act_all0 46 rfl
theorem dX9_act_88 : decode cX9_act 88 = .ok (.aload_n 0, 1) := all_d dX9_act_all0 47 rfl
theorem dX9_act_89 : decode cX9_act 89 = .ok (.dup, 1) := all_d dX9_act_all0 48 rfl
theorem dX9_act_90 : decode cX9_act 90 = .ok (.getfield 54, 3) := all_d dX9_act_all0 49 rfl
theorem dX9_act_93 : decode cX9_act 93 = .ok (.iconst 1, 1) := all_d dX9_act_all0 50 rfl
theorem dX9_act_94 : decode cX9_act 94 = .ok (.iadd, 1) := all_d dX9_act_all0 51 rfl
theorem dX9_act_95 : decode cX9_act 95 = .ok (.putfield 54, 3) := all_d dX9_act_all0 52 rfl
theorem dX9_act_98 : decode cX9_act 98 = .ok (.aload_n 0, 1) := all_d dX9_act_all0 53 rfl
theorem dX9_act_99 : decode cX9_act 99 = .ok (.iconst 0, 1) := all_d dX9_act_all0 54 rfl
theorem dX9_act_100 : decode cX9_act 100 = .ok (.putfield 51, 3) := all_d dX9_act_all0 55 rfl
theorem dX9_act_103 : decode cX9_act 103 = .ok (.return_, 1) := all_d dX9_act_all0 56 rfl
set_option maxRecDepth 100000 in
theorem dX9_undo_all0 : ([(0, (.aload_n 0 : Instr), 1), (1, (.iconst 0 : Instr), 1), (2, (.putfield 47 : Instr), 3), (5, (.aload_n 0 : Instr), 1), (6, (.getfield 54 : Instr), 3), (9, (.ifCond .ne 5 : Instr), 3), (12, (.iconst 0 : Instr), 1), (13, (.ireturn : Instr), 1), (14, (.aload_n 0 : Instr), 1), (15, (.dup : Instr), 1), (16, (.getfield 54 : Instr), 3), (19, (.iconst 1 : Instr), 1), (20, (.isub : Instr), 1), (21, (.putfield 54 : Instr), 3), (24, (.iconst 0 : Instr), 1), (25, (.istore_n 1 : Instr), 1), (26, (.iload_n 1 : Instr), 1), (27, (.sipush 530 : Instr), 3), (30, (.if_icmp .ge 30 : Instr), 3), (33, (.aload_n 0 : Instr), 1), (34, (.getfield 7 : Instr), 3), (37, (.iload_n 1 : Instr), 1), (38, (.aload_n 0 : Instr), 1), (39, (.getfield 13 : Instr), 3), (42, (.sipush 530 : Instr), 3), (45, (.aload_n 0 : Instr), 1), (46, (.getfield 54 : Instr), 3), (49, (.imul : Instr), 1), (50, (.iload_n 1 : Instr), 1), (51, (.iadd : Instr), 1), (52, (.iaload : Instr), 1), (53, (.iastore : Instr), 1), (54, (.iinc 1 1 : Instr), 3), (57, (.goto (-31) : Instr), 3), (60, (.iconst 0 : Instr), 1), (61, (.istore_n 1 : Instr), 1), (62, (.iconst 0 : Instr), 1), (63, (.istore_n 2 : Instr), 1), (64, (.iload_n 2 : Instr), 1), (65, (.aload_n 0 : Instr), 1), (66, (.getfield 57 : Instr), 3), (69, (.if_icmp .ge 70 : Instr), 3), (72, (.aload_n 0 : Instr), 1), (73, (.aload_n 0 : Instr), 1), (74, (.getfield 22 : Instr), 3), (77, (.iload_n 2 : Instr), 1), (78, (.iaload : Instr), 1), (79, (.aload_n 0 : Instr), 1), (80, (.getfield 25 : Instr), 3), (83, (.iload_n 2 : Instr), 1), (84, (.iaload : Instr), 1), (85, (.invokevirtual 60 : Instr), 3), (88, (.ifCond .ne 6 : Instr), 3), (91, (.goto 42 : Instr), 3), (94, (.aload_n 0 : Instr), 1), (95, (.getfield 22 : Instr), 3), (98, (.iload_n 1 : Instr), 1), (99, (.aload_n 0 : Instr), 1), (100, (.getfield 22 : Instr), 3), (103, (.iload_n 2 : Instr), 1), (104, (.iaload : Instr), 1), (105, (.iastore : Instr), 1), (106, (.aload_n 0 : Instr), 1), (107, (.getfield 25 : Instr), 3), (110, (.iload_n 1 : Instr), 1), (111, (.aload_n 0 : Instr), 1), (112, (.getfield 25 : Instr), 3), (115, (.iload_n 2 : Instr), 1), (116, (.iaload : Instr), 1), (117, (.iastore : Instr), 1), (118, (.aload_n 0 : Instr), 1), (119, (.getfield 28 : Instr), 3), (122, (.iload_n 1 : Instr), 1), (123, (.aload_n 0 : Instr), 1), (124, (.getfield 28 : Instr), 3), (127, (.iload_n 2 : Instr), 1), (128, (.iaload : Instr), 1), (129, (.iastore : Instr), 1), (130, (.iinc 1 1 : Instr), 3), (133, (.iinc 2 1 : Instr), 3)] : List (Nat × Instr × Nat)).all (fun q => decide (decode cX9_undo q.1 = .ok (q.2.1, q.2.2))) = true := by decide +kernel
theorem dX9_undo_0 : decode cX9_undo 0 = .ok (.aload_n 0, 1) := all_d dX9_undo_all0 0 rfl
theorem dX9_undo_1 : decode cX9_undo 1 = .ok (.iconst 0, 1) := all_d dX9_undo_all0 1 rfl
theorem dX9_undo_2 : decode cX9_undo 2 = .ok (.putfield 47, 3) := all_d dX9_undo_all0 2 rfl
theorem dX9_undo_5 : decode cX9_undo 5 = .ok (.aload_n 0, 1) := all_d dX9_undo_all0 3 rfl
theorem dX9_undo_6 : decode cX9_undo 6 = .ok (.getfield 54, 3) := all_d dX9_undo_all0 4 rfl
theorem dX9_undo_9 : decode cX9_undo 9 = .ok (.ifCond .ne 5, 3) := all_d dX9_undo_all0 5 rfl
theorem dX9_undo_12 : decode cX9_undo 12 = .ok (.iconst 0, 1) := all_d dX9_undo_all0 6 rfl
theorem dX9_undo_13 : decode cX9_undo 13 = .ok (.ireturn, 1) := all_d dX9_undo_all0 7 rfl
theorem dX9_undo_14 : decode cX9_undo 14 = .ok (.aload_n 0, 1) := all_d dX9_undo_all0 8 rfl
theorem dX9_undo_15 : decode cX9_undo 15 = .ok (.dup, 1) := all_d dX9_undo_all0 9 rfl
theorem dX9_undo_16 : decode cX9_undo 16 = .ok (.getfield 54, 3) := all_d dX9_undo_all0 10 rfl
theorem dX9_undo_19 : decode cX9_undo 19 = .ok (.iconst 1, 1) := all_d dX9_undo_all0 11 rfl
theorem dX9_undo_20 : decode cX9_undo 20 = .ok (.isub, 1) := all_d dX9_undo_all0 12 rfl
theorem dX9_undo_21 : decode cX9_undo 21 = .ok (.putfield 54, 3) := all_d dX9_undo_all0 13 rfl
theorem dX9_undo_24 : decode cX9_undo 24 = .ok (.iconst 0, 1) := all_d dX9_undo_all0 14 rfl
theorem dX9_undo_25 : decode cX9_undo 25 = .ok (.istore_n 1, 1) := all_d dX9_undo_all0 15 rfl
theorem dX9_undo_26 : decode cX9_undo 26 = .ok (.iload_n 1, 1) := all_d dX9_undo_all0 16 rfl
theorem dX9_undo_27 : decode cX9_undo 27 = .ok (.sipush 530, 3) := all_d dX9_undo_all0 17 rfl
theorem dX9_undo_30 : decode cX9_undo 30 = .ok (.if_icmp .ge 30, 3) := all_d dX9_undo_all0 18 rfl
theorem dX9_undo_33 : decode cX9_undo 33 = .ok (.aload_n 0, 1) := all_d dX9_undo_all0 19 rfl
theorem dX9_undo_34 : decode cX9_undo 34 = .ok (.getfield 7, 3) := all_d dX9_undo_all0 20 rfl
theorem dX9_undo_37 : decode cX9_undo 37 = .ok (.iload_n 1, 1) := all_d dX9_undo_all0 21 rfl
theorem dX9_undo_38 : decode cX9_undo 38 = .ok (.aload_n 0, 1) := all_d dX9_undo_all0 22 rfl
theorem dX9_undo_39 : decode cX9_undo 39 = .ok (.getfield 13, 3) := all_d dX9_undo_all0 23 rfl
theorem dX9_undo_42 : decode cX9_undo 42 = .ok (.sipush 530, 3) := all_d dX9_undo_all0 24 rfl
theorem dX9_undo_45 : decode cX9_undo 45 = .ok (.aload_n 0, 1) := all_d dX9_undo_all0 25 rfl
theorem dX9_undo_46 : decode cX9_undo 46 = .ok (.getfield 54, 3) := all_d dX9_undo_all0 26 rfl
theorem dX9_undo_49 : decode cX9_undo 49 = .ok (.imul, 1) := all_d dX9_undo_all0 27 rfl
theorem dX9_undo_50 : decode cX9_undo 50 = .ok (.iload_n 1, 1) := all_d dX9_undo_all0 28 rfl
theorem dX9_undo_51 : decode cX9_undo 51 = .ok (.iadd, 1) := all_d dX9_undo_all0 29 rfl
theorem dX9_undo_52 : decode cX9_undo 52 = .ok (.iaload, 1) := all_d dX9_undo_all0 30 rfl
theorem dX9_undo_53 : decode cX9_undo 53 = .ok (.iastore, 1) := all_d dX9_undo_all0 31 rfl
theorem dX9_undo_54 : decode cX9_undo 54 = .ok (.iinc 1 1, 3) := all_d dX9_undo_all0 32 rfl
theorem dX9_undo_57 : decode cX9_undo 57 = .ok (.goto (-31), 3) := all_d dX9_undo_all0 33 rfl
theorem dX9_undo_60 : decode cX9_undo 60 = .ok (.iconst 0, 1) := all_d dX9_undo_all0 34 rfl
theorem dX9_undo_61 : decode cX9_undo 61 = .ok (.istore_n 1, 1) := all_d dX9_undo_all0 35 rfl
theorem dX9_undo_62 : decode cX9_undo 62 = .ok (.iconst 0, 1) := all_d dX9_undo_all0 36 rfl
theorem dX9_undo_63 : decode cX9_undo 63 = .ok (.istore_n 2, 1) := all_d dX9_undo_all0 37 rfl
theorem dX9_undo_64 : decode cX9_undo 64 = .ok (.iload_n 2, 1) := all_d dX9_undo_all0 38 rfl
theorem dX9_undo_65 : decode cX9_undo 65 = .ok (.aload_n 0, 1) := all_d dX9_undo_all0 39 rfl
theorem dX9_undo_66 : decode cX9_undo 66 = .ok (.getfield 57, 3) := all_d dX9_undo_all0 40 rfl
theorem dX9_undo_69 : decode cX9_undo 69 = .ok (.if_icmp .ge 70, 3) := all_d dX9_undo_all0 41 rfl
theorem dX9_undo_72 : decode cX9_undo 72 = .ok (.aload_n 0, 1) := all_d dX9_undo_all0 42 rfl
theorem dX9_undo_73 : decode cX9_undo 73 = .ok (.aload_n 0, 1) := all_d dX9_undo_all0 43 rfl
theorem dX9_undo_74 : decode cX9_undo 74 = .ok (.getfield 22, 3) := all_d dX9_undo_all0 44 rfl
theorem dX9_undo_77 : decode cX9_undo 77 = .ok (.iload_n 2, 1) := all_d dX9_undo_all0 45 rfl
theorem dX9_undo_78 : decode cX9_undo 78 = .ok (.iaload, 1) := all_d dX9_undo_all0 46 rfl
theorem dX9_undo_79 : decode cX9_undo 79 = .ok (.aload_n 0, 1) := all_d dX9_undo_all0 47 rfl
theorem dX9_undo_80 : decode cX9_undo 80 = .ok (.getfield 25, 3) := all_d dX9_undo_all0 48 rfl
theorem dX9_undo_83 : decode cX9_undo 83 = .ok (.iload_n 2, 1) := all_d dX9_undo_all0 49 rfl
theorem dX9_undo_84 : decode cX9_undo 84 = .ok (.iaload, 1) := all_d dX9_undo_all0 50 rfl
theorem dX9_undo_85 : decode cX9_undo 85 = .ok (.invokevirtual 60, 3) := all_d dX9_undo_all0 51 rfl
theorem dX9_undo_88 : decode cX9_undo 88 = .ok (.ifCond .ne 6, 3) := all_d dX9_undo_all0 52 rfl
theorem dX9_undo_91 : decode cX9_undo 91 = .ok (.goto 42, 3) := all_d dX9_undo_all0 53 rfl
theorem dX9_undo_94 : decode cX9_undo 94 = .ok (.aload_n 0, 1) := all_d dX9_undo_all0 54 rfl
theorem dX9_undo_95 : decode cX9_undo 95 = .ok (.getfield 22, 3) := all_d dX9_undo_all0 55 rfl
theorem dX9_undo_98 : decode cX9_undo 98 = .ok (.iload_n 1, 1) := all_d dX9_undo_all0 56 rfl
theorem dX9_undo_99 : decode cX9_undo 99 = .ok (.aload_n 0, 1) := all_d dX9_undo_all0 57 rfl
theorem dX9_undo_100 : decode cX9_undo 100 = .ok (.getfield 22, 3) := all_d dX9_undo_all0 58 rfl
theorem dX9_undo_103 : decode cX9_undo 103 = .ok (.iload_n 2, 1) := all_d dX9_undo_all0 59 rfl
theorem dX9_undo_104 : decode cX9_undo 104 = .ok (.iaload, 1) := all_d dX9_undo_all0 60 rfl
theorem dX9_undo_105 : decode cX9_undo 105 = .ok (.iastore, 1) := all_d dX9_undo_all0 61 rfl
theorem dX9_undo_106 : decode cX9_undo 106 = .ok (.aload_n 0, 1) := all_d dX9_undo_all0 62 rfl
theorem dX9_undo_107 : decode cX9_undo 107 = .ok (.getfield 25, 3) := all_d dX9_undo_all0 63 rfl
theorem dX9_undo_110 : decode cX9_undo 110 = .ok (.iload_n 1, 1) := all_d dX9_undo_all0 64 rfl
theorem dX9_undo_111 : decode cX9_undo 111 = .ok (.aload_n 0, 1) := all_d dX9_undo_all0 65 rfl
theorem dX9_undo_112 : decode cX9_undo 112 = .ok (.getfield 25, 3) := all_d dX9_undo_all0 66 rfl
theorem dX9_undo_115 : decode cX9_undo 115 = .ok (.iload_n 2, 1) := all_d dX9_undo_all0 67 rfl
theorem dX9_undo_116 : decode cX9_undo 116 = .ok (.iaload, 1) := all_d dX9_undo_all0 68 rfl
theorem dX9_undo_117 : decode cX9_undo 117 = .ok (.iastore, 1) := all_d dX9_undo_all0 69 rfl
theorem dX9_undo_118 : decode cX9_undo 118 = .ok (.aload_n 0, 1) := all_d dX9_undo_all0 70 rfl
theorem dX9_undo_119 : decode cX9_undo 119 = .ok (.getfield 28, 3) := all_d dX9_undo_all0 71 rfl
theorem dX9_undo_122 : decode cX9_undo 122 = .ok (.iload_n 1, 1) := all_d dX9_undo_all0 72 rfl
theorem dX9_undo_123 : decode cX9_undo 123 = .ok (.aload_n 0, 1) := all_d dX9_undo_all0 73 rfl
theorem dX9_undo_124 : decode cX9_undo 124 = .ok (.getfield 28, 3) := all_d dX9_undo_all0 74 rfl
theorem dX9_undo_127 : decode cX9_undo 127 = .ok (.iload_n 2, 1) := all_d dX9_undo_all0 75 rfl
theorem dX9_undo_128 : decode cX9_undo 128 = .ok (.iaload, 1) := all_d dX9_undo_all0 76 rfl
theorem dX9_undo_129 : decode cX9_undo 129 = .ok (.iastore, 1) := all_d dX9_undo_all0 77 rfl
theorem dX9_undo_130 : decode cX9_undo 130 = .ok (.iinc 1 1, 3) := all_d dX9_undo_all0 78 rfl
theorem dX9_undo_133 : decode cX9_undo 133 = .ok (.iinc 2 1, 3) := all_d dX9_undo_all0 79 rfl
set_option maxRecDepth 100000 in
theorem dX9_undo_all1 : ([(136, (.goto (-72) : Instr), 3), (139, (.aload_n 0 : Instr), 1), (140, (.iload_n 1 : Instr), 1), (141, (.putfield 57 : Instr), 3), (144, (.iconst 1 : Instr), 1), (145, (.ireturn : Instr), 1)] : List (Nat × Instr × Nat)).all (fun q => decide (decode cX9_undo q.1 = .ok (q.2.1, q.2.2))) = true := by decide +kernel
theorem dX9_undo_136 : decode cX9_undo 136 = .ok (.goto (-72), 3) := all_d dX9_undo_all1 0 rfl
theorem dX9_undo_139 : decode cX9_undo 139 = .ok (.aload_n 0, 1) := all_d dX9_undo_all1 1 rfl
theorem dX9_undo_140 : decode cX9_undo 140 = .ok (.iload_n 1, 1) := all_d dX9_undo_all1 2 rfl
theorem dX9_undo_141 : decode cX9_undo 141 = .ok (.putfield 57, 3) := all_d dX9_undo_all1 3 rfl
theorem dX9_undo_144 : decode cX9_undo 144 = .ok (.iconst 1, 1) := all_d dX9_undo_all1 4 rfl
theorem dX9_undo_145 : decode cX9_undo 145 = .ok (.ireturn, 1) := all_d dX9_undo_all1 5 rfl
set_option maxRecDepth 100000 in
theorem dX9_isMeter_all0 : ([(0, (.aload_n 0 : Instr), 1), (1, (.iload_n 1 : Instr), 1), (2, (.iconst 0 : Instr), 1), (3, (.aload_n 0 : Instr), 1), (4, (.getfield 7 : Instr), 3), (7, (.iconst 1 : Instr), 1), (8, (.iaload : Instr), 1), (9, (.iconst 1 : Instr), 1), (10, (.isub : Instr), 1), (11, (.invokevirtual 64 : Instr), 3), (14, (.ireturn : Instr), 1)] : List (Nat × Instr × Nat)).all (fun q => decide (decode cX9_isMeter q.1 = .ok (q.2.1, q.2.2))) = true := by decide +kernel
theorem dX9_isMeter_0 : decode cX9_isMeter 0 = .ok (.aload_n 0, 1) := all_d dX9_isMeter_all0 0 rfl
theorem dX9_isMeter_1 : decode cX9_isMeter 1 = .ok (.iload_n 1, 1) := all_d dX9_isMeter_all0 1 rfl
theorem dX9_isMeter_2 : decode cX9_isMeter 2 = .ok (.iconst 0, 1) := all_d dX9_isMeter_all0 2 rfl
theorem dX9_isMeter_3 : decode cX9_isMeter 3 = .ok (.aload_n 0, 1) := all_d dX9_isMeter_all0 3 rfl
theorem dX9_isMeter_4 : decode cX9_isMeter 4 = .ok (.getfield 7, 3) := all_d dX9_isMeter_all0 4 rfl
theorem dX9_isMeter_7 : decode cX9_isMeter 7 = .ok (.iconst 1, 1) := all_d dX9_isMeter_all0 5 rfl
theorem dX9_isMeter_8 : decode cX9_isMeter 8 = .ok (.iaload, 1) := all_d dX9_isMeter_all0 6 rfl
theorem dX9_isMeter_9 : decode cX9_isMeter 9 = .ok (.iconst 1, 1) := all_d dX9_isMeter_all0 7 rfl
theorem dX9_isMeter_10 : decode cX9_isMeter 10 = .ok (.isub, 1) := all_d dX9_isMeter_all0 8 rfl
theorem dX9_isMeter_11 : decode cX9_isMeter 11 = .ok (.invokevirtual 64, 3) := all_d dX9_isMeter_all0 9 rfl
theorem dX9_isMeter_14 : decode cX9_isMeter 14 = .ok (.ireturn, 1) := all_d dX9_isMeter_all0 10 rfl
set_option maxRecDepth 100000 in
theorem dX9_isPart_all0 : ([(0, (.aload_n 0 : Instr), 1), (1, (.iload_n 1 : Instr), 1), (2, (.invokevirtual 68 : Instr), 3), (5, (.ifCond .eq 27 : Instr), 3), (8, (.aload_n 0 : Instr), 1), (9, (.iload_n 2 : Instr), 1), (10, (.iconst 0 : Instr), 1), (11, (.aload_n 0 : Instr), 1), (12, (.getfield 7 : Instr), 3), (15, (.bipush 10 : Instr), 2), (17, (.iload_n 1 : Instr), 1), (18, (.iadd : Instr), 1), (19, (.iaload : Instr), 1), (20, (.iconst 1 : Instr), 1), (21, (.isub : Instr), 1), (22, (.invokevirtual 64 : Instr), 3), (25, (.ifCond .eq 7 : Instr), 3), (28, (.iconst 1 : Instr), 1), (29, (.goto 4 : Instr), 3), (32, (.iconst 0 : Instr), 1), (33, (.ireturn : Instr), 1)] : List (Nat × Instr × Nat)).all (fun q => decide (decode cX9_isPart q.1 = .ok (q.2.1, q.2.2))) = true := by decide +kernel
theorem dX9_isPart_0 : decode cX9_isPart 0 = .ok (.aload_n 0, 1) := all_d dX9_isPart_all0 0 rfl
theorem dX9_isPart_1 : decode cX9_isPart 1 = .ok (.iload_n 1, 1) := all_d dX9_isPart_all0 1 rfl
theorem dX9_isPart_2 : decode cX9_isPart 2 = .ok (.invokevirtual 68, 3) := all_d dX9_isPart_all0 2 rfl
theorem dX9_isPart_5 : decode cX9_isPart 5 = .ok (.ifCond .eq 27, 3) := all_d dX9_isPart_all0 3 rfl
theorem dX9_isPart_8 : decode cX9_isPart 8 = .ok (.aload_n 0, 1) := all_d dX9_isPart_all0 4 rfl
theorem dX9_isPart_9 : decode cX9_isPart 9 = .ok (.iload_n 2, 1) := all_d dX9_isPart_all0 5 rfl
theorem dX9_isPart_10 : decode cX9_isPart 10 = .ok (.iconst 0, 1) := all_d dX9_isPart_all0 6 rfl
theorem dX9_isPart_11 : decode cX9_isPart 11 = .ok (.aload_n 0, 1) := all_d dX9_isPart_all0 7 rfl
theorem dX9_isPart_12 : decode cX9_isPart 12 = .ok (.getfield 7, 3) := all_d dX9_isPart_all0 8 rfl
theorem dX9_isPart_15 : decode cX9_isPart 15 = .ok (.bipush 10, 2) := all_d dX9_isPart_all0 9 rfl
theorem dX9_isPart_17 : decode cX9_isPart 17 = .ok (.iload_n 1, 1) := all_d dX9_isPart_all0 10 rfl
theorem dX9_isPart_18 : decode cX9_isPart 18 = .ok (.iadd, 1) := all_d dX9_isPart_all0 11 rfl
theorem dX9_isPart_19 : decode cX9_isPart 19 = .ok (.iaload, 1) := all_d dX9_isPart_all0 12 rfl
theorem dX9_isPart_20 : decode cX9_isPart 20 = .ok (.iconst 1, 1) := all_d dX9_isPart_all0 13 rfl
theorem dX9_isPart_21 : decode cX9_isPart 21 = .ok (.isub, 1) := all_d dX9_isPart_all0 14 rfl
theorem dX9_isPart_22 : decode cX9_isPart 22 = .ok (.invokevirtual 64, 3) := all_d dX9_isPart_all0 15 rfl
theorem dX9_isPart_25 : decode cX9_isPart 25 = .ok (.ifCond .eq 7, 3) := all_d dX9_isPart_all0 16 rfl
theorem dX9_isPart_28 : decode cX9_isPart 28 = .ok (.iconst 1, 1) := all_d dX9_isPart_all0 17 rfl
theorem dX9_isPart_29 : decode cX9_isPart 29 = .ok (.goto 4, 3) := all_d dX9_isPart_all0 18 rfl
theorem dX9_isPart_32 : decode cX9_isPart 32 = .ok (.iconst 0, 1) := all_d dX9_isPart_all0 19 rfl
theorem dX9_isPart_33 : decode cX9_isPart 33 = .ok (.ireturn, 1) := all_d dX9_isPart_all0 20 rfl
set_option maxRecDepth 100000 in
theorem dX9_isNumber_all0 : ([(0, (.aload_n 0 : Instr), 1), (1, (.iload_n 1 : Instr), 1), (2, (.iconst 0 : Instr), 1), (3, (.aload_n 0 : Instr), 1), (4, (.getfield 7 : Instr), 3), (7, (.iconst 0 : Instr), 1), (8, (.iaload : Instr), 1), (9, (.invokevirtual 64 : Instr), 3), (12, (.ireturn : Instr), 1)] : List (Nat × Instr × Nat)).all (fun q => decide (decode cX9_isNumber q.1 = .ok (q.2.1, q.2.2))) = true := by decide +kernel
theorem dX9_isNumber_0 : decode cX9_isNumber 0 = .ok (.aload_n 0, 1) := all_d dX9_isNumber_all0 0 rfl
theorem dX9_isNumber_1 : decode cX9_isNumber 1 = .ok (.iload_n 1, 1) := all_d dX9_isNumber_all0 1 rfl
theorem dX9_isNumber_2 : decode cX9_isNumber 2 = .ok (.iconst 0, 1) := all_d dX9_isNumber_all0 2 rfl
theorem dX9_isNumber_3 : decode cX9_isNumber 3 = .ok (.aload_n 0, 1) := all_d dX9_isNumber_all0 3 rfl
theorem dX9_isNumber_4 : decode cX9_isNumber 4 = .ok (.getfield 7, 3) := all_d dX9_isNumber_all0 4 rfl
theorem dX9_isNumber_7 : decode cX9_isNumber 7 = .ok (.iconst 0, 1) := all_d dX9_isNumber_all0 5 rfl
theorem dX9_isNumber_8 : decode cX9_isNumber 8 = .ok (.iaload, 1) := all_d dX9_isNumber_all0 6 rfl
theorem dX9_isNumber_9 : decode cX9_isNumber 9 = .ok (.invokevirtual 64, 3) := all_d dX9_isNumber_all0 7 rfl
theorem dX9_isNumber_12 : decode cX9_isNumber 12 = .ok (.ireturn, 1) := all_d dX9_isNumber_all0 8 rfl
set_option maxRecDepth 100000 in
theorem dX9_at_all0 : ([(0, (.bipush 18 : Instr), 2), (2, (.iconst 4 : Instr), 1), (3, (.bipush 16 : Instr), 2), (5, (.iload_n 1 : Instr), 1), (6, (.imul : Instr), 1), (7, (.iload_n 2 : Instr), 1), (8, (.iadd : Instr), 1), (9, (.imul : Instr), 1), (10, (.iadd : Instr), 1), (11, (.ireturn : Instr), 1)] : List (Nat × Instr × Nat)).all (fun q => decide (decode cX9_at q.1 = .ok (q.2.1, q.2.2))) = true := by decide +kernel
theorem dX9_at_0 : decode cX9_at 0 = .ok (.bipush 18, 2) := all_d dX9_at_all0 0 rfl
theorem dX9_at_2 : decode cX9_at 2 = .ok (.iconst 4, 1) := all_d dX9_at_all0 1 rfl
theorem dX9_at_3 : decode cX9_at 3 = .ok (.bipush 16, 2) := all_d dX9_at_all0 2 rfl
theorem dX9_at_5 : decode cX9_at 5 = .ok (.iload_n 1, 1) := all_d dX9_at_all0 3 rfl
theorem dX9_at_6 : decode cX9_at 6 = .ok (.imul, 1) := all_d dX9_at_all0 4 rfl
theorem dX9_at_7 : decode cX9_at 7 = .ok (.iload_n 2, 1) := all_d dX9_at_all0 5 rfl
theorem dX9_at_8 : decode cX9_at 8 = .ok (.iadd, 1) := all_d dX9_at_all0 6 rfl
theorem dX9_at_9 : decode cX9_at 9 = .ok (.imul, 1) := all_d dX9_at_all0 7 rfl
theorem dX9_at_10 : decode cX9_at 10 = .ok (.iadd, 1) := all_d dX9_at_all0 8 rfl
theorem dX9_at_11 : decode cX9_at 11 = .ok (.ireturn, 1) := all_d dX9_at_all0 9 rfl
set_option maxRecDepth 100000 in
theorem dX9_range_all0 : ([(0, (.aload_n 0 : Instr), 1), (1, (.iconst 0 : Instr), 1), (2, (.putfield 47 : Instr), 3), (5, (.aload_n 0 : Instr), 1), (6, (.iload_n 1 : Instr), 1), (7, (.iconst 1 : Instr), 1), (8, (.sipush 4095 : Instr), 3), (11, (.invokevirtual 64 : Instr), 3), (14, (.ifCond .ne 9 : Instr), 3), (17, (.aload_n 0 : Instr), 1), (18, (.iconst 1 : Instr), 1), (19, (.invokevirtual 72 : Instr), 3), (22, (.ireturn : Instr), 1), (23, (.aload_n 0 : Instr), 1), (24, (.invokevirtual 75 : Instr), 3), (27, (.aload_n 0 : Instr), 1), (28, (.getfield 7 : Instr), 3), (31, (.iconst 0 : Instr), 1), (32, (.iload_n 1 : Instr), 1), (33, (.iastore : Instr), 1), (34, (.iconst 1 : Instr), 1), (35, (.ireturn : Instr), 1)] : List (Nat × Instr × Nat)).all (fun q => decide (decode cX9_range q.1 = .ok (q.2.1, q.2.2))) = true := by decide +kernel
theorem dX9_range_0 : decode cX9_range 0 = .ok (.aload_n 0, 1) := all_d dX9_range_all0 0 rfl
theorem dX9_range_1 : decode cX9_range 1 = .ok (.iconst 0, 1) := all_d dX9_range_all0 1 rfl
theorem dX9_range_2 : decode cX9_range 2 = .ok (.putfield 47, 3) := all_d dX9_range_all0 2 rfl
theorem dX9_range_5 : decode cX9_range 5 = .ok (.aload_n 0, 1) := all_d dX9_range_all0 3 rfl
theorem dX9_range_6 : decode cX9_range 6 = .ok (.iload_n 1, 1) := all_d dX9_range_all0 4 rfl
theorem dX9_range_7 : decode cX9_range 7 = .ok (.iconst 1, 1) := all_d dX9_range_all0 5 rfl
theorem dX9_range_8 : decode cX9_range 8 = .ok (.sipush 4095, 3) := all_d dX9_range_all0 6 rfl
theorem dX9_range_11 : decode cX9_range 11 = .ok (.invokevirtual 64, 3) := all_d dX9_range_all0 7 rfl
theorem dX9_range_14 : decode cX9_range 14 = .ok (.ifCond .ne 9, 3) := all_d dX9_range_all0 8 rfl
theorem dX9_range_17 : decode cX9_range 17 = .ok (.aload_n 0, 1) := all_d dX9_range_all0 9 rfl
theorem dX9_range_18 : decode cX9_range 18 = .ok (.iconst 1, 1) := all_d dX9_range_all0 10 rfl
theorem dX9_range_19 : decode cX9_range 19 = .ok (.invokevirtual 72, 3) := all_d dX9_range_all0 11 rfl
theorem dX9_range_22 : decode cX9_range 22 = .ok (.ireturn, 1) := all_d dX9_range_all0 12 rfl
theorem dX9_range_23 : decode cX9_range 23 = .ok (.aload_n 0, 1) := all_d dX9_range_all0 13 rfl
theorem dX9_range_24 : decode cX9_range 24 = .ok (.invokevirtual 75, 3) := all_d dX9_range_all0 14 rfl
theorem dX9_range_27 : decode cX9_range 27 = .ok (.aload_n 0, 1) := all_d dX9_range_all0 15 rfl
theorem dX9_range_28 : decode cX9_range 28 = .ok (.getfield 7, 3) := all_d dX9_range_all0 16 rfl
theorem dX9_range_31 : decode cX9_range 31 = .ok (.iconst 0, 1) := all_d dX9_range_all0 17 rfl
theorem dX9_range_32 : decode cX9_range 32 = .ok (.iload_n 1, 1) := all_d dX9_range_all0 18 rfl
theorem dX9_range_33 : decode cX9_range 33 = .ok (.iastore, 1) := all_d dX9_range_all0 19 rfl
theorem dX9_range_34 : decode cX9_range 34 = .ok (.iconst 1, 1) := all_d dX9_range_all0 20 rfl
theorem dX9_range_35 : decode cX9_range 35 = .ok (.ireturn, 1) := all_d dX9_range_all0 21 rfl
set_option maxRecDepth 100000 in
theorem dX9_meter_all0 : ([(0, (.aload_n 0 : Instr), 1), (1, (.iconst 0 : Instr), 1), (2, (.putfield 47 : Instr), 3), (5, (.aload_n 0 : Instr), 1), (6, (.iload_n 1 : Instr), 1), (7, (.iconst 0 : Instr), 1), (8, (.iconst 4 : Instr), 1), (9, (.invokevirtual 64 : Instr), 3), (12, (.ifCond .ne 9 : Instr), 3), (15, (.aload_n 0 : Instr), 1), (16, (.iconst 1 : Instr), 1), (17, (.invokevirtual 78 : Instr), 3), (20, (.ireturn : Instr), 1), (21, (.aload_n 0 : Instr), 1), (22, (.getfield 7 : Instr), 3), (25, (.iconst 1 : Instr), 1), (26, (.iaload : Instr), 1), (27, (.bipush 8 : Instr), 2), (29, (.if_icmp .ne 9 : Instr), 3), (32, (.aload_n 0 : Instr), 1), (33, (.iconst 3 : Instr), 1), (34, (.invokevirtual 78 : Instr), 3), (37, (.ireturn : Instr), 1), (38, (.aload_n 0 : Instr), 1), (39, (.invokevirtual 75 : Instr), 3), (42, (.aload_n 0 : Instr), 1), (43, (.getfield 7 : Instr), 3), (46, (.iconst 2 : Instr), 1), (47, (.aload_n 0 : Instr), 1), (48, (.getfield 7 : Instr), 3), (51, (.iconst 1 : Instr), 1), (52, (.iaload : Instr), 1), (53, (.iadd : Instr), 1), (54, (.iload_n 1 : Instr), 1), (55, (.iastore : Instr), 1), (56, (.aload_n 0 : Instr), 1), (57, (.getfield 7 : Instr), 3), (60, (.bipush 10 : Instr), 2), (62, (.aload_n 0 : Instr), 1), (63, (.getfield 7 : Instr), 3), (66, (.iconst 1 : Instr), 1), (67, (.iaload : Instr), 1), (68, (.iadd : Instr), 1), (69, (.iconst 0 : Instr), 1), (70, (.iastore : Instr), 1), (71, (.aload_n 0 : Instr), 1), (72, (.getfield 7 : Instr), 3), (75, (.iconst 1 : Instr), 1), (76, (.dup2 : Instr), 1), (77, (.iaload : Instr), 1), (78, (.iconst 1 : Instr), 1), (79, (.iadd : Instr), 1), (80, (.iastore : Instr), 1), (81, (.aload_n 0 : Instr), 1), (82, (.getfield 7 : Instr), 3), (85, (.iconst 1 : Instr), 1), (86, (.iaload : Instr), 1), (87, (.iconst 1 : Instr), 1), (88, (.isub : Instr), 1), (89, (.ireturn : Instr), 1)] : List (Nat × Instr × Nat)).all (fun q => decide (decode cX9_meter q.1 = .ok (q.2.1, q.2.2))) = true := by decide +kernel
theorem dX9_meter_0 : decode cX9_meter 0 = .ok (.aload_n 0, 1) := all_d dX9_meter_all0 0 rfl
theorem dX9_meter_1 : decode cX9_meter 1 = .ok (.iconst 0, 1) := all_d dX9_meter_all0 1 rfl
theorem dX9_meter_2 : decode cX9_meter 2 = .ok (.putfield 47, 3) := all_d dX9_meter_all0 2 rfl
theorem dX9_meter_5 : decode cX9_meter 5 = .ok (.aload_n 0, 1) := all_d dX9_meter_all0 3 rfl
theorem dX9_meter_6 : decode cX9_meter 6 = .ok (.iload_n 1, 1) := all_d dX9_meter_all0 4 rfl
theorem dX9_meter_7 : decode cX9_meter 7 = .ok (.iconst 0, 1) := all_d dX9_meter_all0 5 rfl
theorem dX9_meter_8 : decode cX9_meter 8 = .ok (.iconst 4, 1) := all_d dX9_meter_all0 6 rfl
theorem dX9_meter_9 : decode cX9_meter 9 = .ok (.invokevirtual 64, 3) := all_d dX9_meter_all0 7 rfl
theorem dX9_meter_12 : decode cX9_meter 12 = .ok (.ifCond .ne 9, 3) := all_d dX9_meter_all0 8 rfl
theorem dX9_meter_15 : decode cX9_meter 15 = .ok (.aload_n 0, 1) := all_d dX9_meter_all0 9 rfl
theorem dX9_meter_16 : decode cX9_meter 16 = .ok (.iconst 1, 1) := all_d dX9_meter_all0 10 rfl
theorem dX9_meter_17 : decode cX9_meter 17 = .ok (.invokevirtual 78, 3) := all_d dX9_meter_all0 11 rfl
theorem dX9_meter_20 : decode cX9_meter 20 = .ok (.ireturn, 1) := all_d dX9_meter_all0 12 rfl
theorem dX9_meter_21 : decode cX9_meter 21 = .ok (.aload_n 0, 1) := all_d dX9_meter_all0 13 rfl
theorem dX9_meter_22 : decode cX9_meter 22 = .ok (.getfield 7, 3) := all_d dX9_meter_all0 14 rfl
theorem dX9_meter_25 : decode cX9_meter 25 = .ok (.iconst 1, 1) := all_d dX9_meter_all0 15 rfl
theorem dX9_meter_26 : decode cX9_meter 26 = .ok (.iaload, 1) := all_d dX9_meter_all0 16 rfl
theorem dX9_meter_27 : decode cX9_meter 27 = .ok (.bipush 8, 2) := all_d dX9_meter_all0 17 rfl
theorem dX9_meter_29 : decode cX9_meter 29 = .ok (.if_icmp .ne 9, 3) := all_d dX9_meter_all0 18 rfl
theorem dX9_meter_32 : decode cX9_meter 32 = .ok (.aload_n 0, 1) := all_d dX9_meter_all0 19 rfl
theorem dX9_meter_33 : decode cX9_meter 33 = .ok (.iconst 3, 1) := all_d dX9_meter_all0 20 rfl
theorem dX9_meter_34 : decode cX9_meter 34 = .ok (.invokevirtual 78, 3) := all_d dX9_meter_all0 21 rfl
theorem dX9_meter_37 : decode cX9_meter 37 = .ok (.ireturn, 1) := all_d dX9_meter_all0 22 rfl
theorem dX9_meter_38 : decode cX9_meter 38 = .ok (.aload_n 0, 1) := all_d dX9_meter_all0 23 rfl
theorem dX9_meter_39 : decode cX9_meter 39 = .ok (.invokevirtual 75, 3) := all_d dX9_meter_all0 24 rfl
theorem dX9_meter_42 : decode cX9_meter 42 = .ok (.aload_n 0, 1) := all_d dX9_meter_all0 25 rfl
theorem dX9_meter_43 : decode cX9_meter 43 = .ok (.getfield 7, 3) := all_d dX9_meter_all0 26 rfl
theorem dX9_meter_46 : decode cX9_meter 46 = .ok (.iconst 2, 1) := all_d dX9_meter_all0 27 rfl
theorem dX9_meter_47 : decode cX9_meter 47 = .ok (.aload_n 0, 1) := all_d dX9_meter_all0 28 rfl
theorem dX9_meter_48 : decode cX9_meter 48 = .ok (.getfield 7, 3) := all_d dX9_meter_all0 29 rfl
theorem dX9_meter_51 : decode cX9_meter 51 = .ok (.iconst 1, 1) := all_d dX9_meter_all0 30 rfl
theorem dX9_meter_52 : decode cX9_meter 52 = .ok (.iaload, 1) := all_d dX9_meter_all0 31 rfl
theorem dX9_meter_53 : decode cX9_meter 53 = .ok (.iadd, 1) := all_d dX9_meter_all0 32 rfl
theorem dX9_meter_54 : decode cX9_meter 54 = .ok (.iload_n 1, 1) := all_d dX9_meter_all0 33 rfl
theorem dX9_meter_55 : decode cX9_meter 55 = .ok (.iastore, 1) := all_d dX9_meter_all0 34 rfl
theorem dX9_meter_56 : decode cX9_meter 56 = .ok (.aload_n 0, 1) := all_d dX9_meter_all0 35 rfl
theorem dX9_meter_57 : decode cX9_meter 57 = .ok (.getfield 7, 3) := all_d dX9_meter_all0 36 rfl
theorem dX9_meter_60 : decode cX9_meter 60 = .ok (.bipush 10, 2) := all_d dX9_meter_all0 37 rfl
theorem dX9_meter_62 : decode cX9_meter 62 = .ok (.aload_n 0, 1) := all_d dX9_meter_all0 38 rfl
theorem dX9_meter_63 : decode cX9_meter 63 = .ok (.getfield 7, 3) := all_d dX9_meter_all0 39 rfl
theorem dX9_meter_66 : decode cX9_meter 66 = .ok (.iconst 1, 1) := all_d dX9_meter_all0 40 rfl
theorem dX9_meter_67 : decode cX9_meter 67 = .ok (.iaload, 1) := all_d dX9_meter_all0 41 rfl
theorem dX9_meter_68 : decode cX9_meter 68 = .ok (.iadd, 1) := all_d dX9_meter_all0 42 rfl
theorem dX9_meter_69 : decode cX9_meter 69 = .ok (.iconst 0, 1) := all_d dX9_meter_all0 43 rfl
theorem dX9_meter_70 : decode cX9_meter 70 = .ok (.iastore, 1) := all_d dX9_meter_all0 44 rfl
theorem dX9_meter_71 : decode cX9_meter 71 = .ok (.aload_n 0, 1) := all_d dX9_meter_all0 45 rfl
theorem dX9_meter_72 : decode cX9_meter 72 = .ok (.getfield 7, 3) := all_d dX9_meter_all0 46 rfl
theorem dX9_meter_75 : decode cX9_meter 75 = .ok (.iconst 1, 1) := all_d dX9_meter_all0 47 rfl
theorem dX9_meter_76 : decode cX9_meter 76 = .ok (.dup2, 1) := all_d dX9_meter_all0 48 rfl
theorem dX9_meter_77 : decode cX9_meter 77 = .ok (.iaload, 1) := all_d dX9_meter_all0 49 rfl
theorem dX9_meter_78 : decode cX9_meter 78 = .ok (.iconst 1, 1) := all_d dX9_meter_all0 50 rfl
theorem dX9_meter_79 : decode cX9_meter 79 = .ok (.iadd, 1) := all_d dX9_meter_all0 51 rfl
theorem dX9_meter_80 : decode cX9_meter 80 = .ok (.iastore, 1) := all_d dX9_meter_all0 52 rfl
theorem dX9_meter_81 : decode cX9_meter 81 = .ok (.aload_n 0, 1) := all_d dX9_meter_all0 53 rfl
theorem dX9_meter_82 : decode cX9_meter 82 = .ok (.getfield 7, 3) := all_d dX9_meter_all0 54 rfl
theorem dX9_meter_85 : decode cX9_meter 85 = .ok (.iconst 1, 1) := all_d dX9_meter_all0 55 rfl
theorem dX9_meter_86 : decode cX9_meter 86 = .ok (.iaload, 1) := all_d dX9_meter_all0 56 rfl
theorem dX9_meter_87 : decode cX9_meter 87 = .ok (.iconst 1, 1) := all_d dX9_meter_all0 57 rfl
theorem dX9_meter_88 : decode cX9_meter 88 = .ok (.isub, 1) := all_d dX9_meter_all0 58 rfl
theorem dX9_meter_89 : decode cX9_meter 89 = .ok (.ireturn, 1) := all_d dX9_meter_all0 59 rfl
set_option maxRecDepth 100000 in
theorem dX9_isStaged_all0 : ([(0, (.aload_n 0 : Instr), 1), (1, (.getfield 7 : Instr), 3), (4, (.iconst 2 : Instr), 1), (5, (.iload_n 1 : Instr), 1), (6, (.iadd : Instr), 1), (7, (.iaload : Instr), 1), (8, (.iconst 2 : Instr), 1), (9, (.if_icmp .le 7 : Instr), 3), (12, (.iconst 1 : Instr), 1), (13, (.goto 4 : Instr), 3), (16, (.iconst 0 : Instr), 1), (17, (.ireturn : Instr), 1)] : List (Nat × Instr × Nat)).all (fun q => decide (decode cX9_isStaged q.1 = .ok (q.2.1, q.2.2))) = true := by decide +kernel
theorem dX9_isStaged_0 : decode cX9_isStaged 0 = .ok (.aload_n 0, 1) := all_d dX9_isStaged_all0 0 rfl
theorem dX9_isStaged_1 : decode cX9_isStaged 1 = .ok (.getfield 7, 3) := all_d dX9_isStaged_all0 1 rfl
theorem dX9_isStaged_4 : decode cX9_isStaged 4 = .ok (.iconst 2, 1) := all_d dX9_isStaged_all0 2 rfl
theorem dX9_isStaged_5 : decode cX9_isStaged 5 = .ok (.iload_n 1, 1) := all_d dX9_isStaged_all0 3 rfl
theorem dX9_isStaged_6 : decode cX9_isStaged 6 = .ok (.iadd, 1) := all_d dX9_isStaged_all0 4 rfl
theorem dX9_isStaged_7 : decode cX9_isStaged 7 = .ok (.iaload, 1) := all_d dX9_isStaged_all0 5 rfl
theorem dX9_isStaged_8 : decode cX9_isStaged 8 = .ok (.iconst 2, 1) := all_d dX9_isStaged_all0 6 rfl
theorem dX9_isStaged_9 : decode cX9_isStaged 9 = .ok (.if_icmp .le 7, 3) := all_d dX9_isStaged_all0 7 rfl
theorem dX9_isStaged_12 : decode cX9_isStaged 12 = .ok (.iconst 1, 1) := all_d dX9_isStaged_all0 8 rfl
theorem dX9_isStaged_13 : decode cX9_isStaged 13 = .ok (.goto 4, 3) := all_d dX9_isStaged_all0 9 rfl
theorem dX9_isStaged_16 : decode cX9_isStaged 16 = .ok (.iconst 0, 1) := all_d dX9_isStaged_all0 10 rfl
theorem dX9_isStaged_17 : decode cX9_isStaged 17 = .ok (.ireturn, 1) := all_d dX9_isStaged_all0 11 rfl
set_option maxRecDepth 100000 in
theorem dX9_part_all0 : ([(0, (.aload_n 0 : Instr), 1), (1, (.iconst 0 : Instr), 1), (2, (.putfield 47 : Instr), 3), (5, (.aload_n 0 : Instr), 1), (6, (.iload_n 1 : Instr), 1), (7, (.invokevirtual 68 : Instr), 3), (10, (.ifCond .ne 9 : Instr), 3), (13, (.aload_n 0 : Instr), 1), (14, (.iconst 2 : Instr), 1), (15, (.invokevirtual 78 : Instr), 3), (18, (.ireturn : Instr), 1), (19, (.aload_n 0 : Instr), 1), (20, (.iload_n 2 : Instr), 1), (21, (.sipush (-8000) : Instr), 3), (24, (.sipush 8000 : Instr), 3), (27, (.invokevirtual 64 : Instr), 3), (30, (.ifCond .eq 25 : Instr), 3), (33, (.aload_n 0 : Instr), 1), (34, (.iload_n 1 : Instr), 1), (35, (.invokevirtual 82 : Instr), 3), (38, (.ifCond .eq 23 : Instr), 3), (41, (.aload_n 0 : Instr), 1), (42, (.iload_n 3 : Instr), 1), (43, (.sipush (-8000) : Instr), 3), (46, (.sipush 8000 : Instr), 3), (49, (.invokevirtual 64 : Instr), 3), (52, (.ifCond .ne 9 : Instr), 3), (55, (.aload_n 0 : Instr), 1), (56, (.iconst 1 : Instr), 1), (57, (.invokevirtual 78 : Instr), 3), (60, (.ireturn : Instr), 1), (61, (.aload_n 0 : Instr), 1), (62, (.getfield 7 : Instr), 3), (65, (.bipush 10 : Instr), 2), (67, (.iload_n 1 : Instr), 1), (68, (.iadd : Instr), 1), (69, (.iaload : Instr), 1), (70, (.istore 4 : Instr), 2), (72, (.iload 4 : Instr), 2), (74, (.bipush 16 : Instr), 2), (76, (.if_icmp .ne 9 : Instr), 3), (79, (.aload_n 0 : Instr), 1), (80, (.iconst 3 : Instr), 1), (81, (.invokevirtual 78 : Instr), 3), (84, (.ireturn : Instr), 1), (85, (.aload_n 0 : Instr), 1), (86, (.invokevirtual 75 : Instr), 3), (89, (.aload_n 0 : Instr), 1), (90, (.iload_n 1 : Instr), 1), (91, (.iload 4 : Instr), 2), (93, (.invokevirtual 85 : Instr), 3), (96, (.istore 5 : Instr), 2), (98, (.aload_n 0 : Instr), 1), (99, (.getfield 7 : Instr), 3), (102, (.iload 5 : Instr), 2), (104, (.iload_n 2 : Instr), 1), (105, (.iastore : Instr), 1), (106, (.aload_n 0 : Instr), 1), (107, (.getfield 7 : Instr), 3), (110, (.iload 5 : Instr), 2), (112, (.iconst 1 : Instr), 1), (113, (.iadd : Instr), 1), (114, (.iconst 0 : Instr), 1), (115, (.iastore : Instr), 1), (116, (.aload_n 0 : Instr), 1), (117, (.getfield 7 : Instr), 3), (120, (.iload 5 : Instr), 2), (122, (.iconst 2 : Instr), 1), (123, (.iadd : Instr), 1), (124, (.aload_n 0 : Instr), 1), (125, (.getfield 7 : Instr), 3), (128, (.iconst 2 : Instr), 1), (129, (.iload_n 1 : Instr), 1), (130, (.iadd : Instr), 1), (131, (.iaload : Instr), 1), (132, (.iconst 2 : Instr), 1), (133, (.if_icmp .ne 7 : Instr), 3), (136, (.iload_n 2 : Instr), 1), (137, (.goto 4 : Instr), 3), (140, (.iconst 1 : Instr), 1)] : List (Nat × Instr × Nat)).all (fun q => decide (decode cX9_part q.1 = .ok (q.2.1, q.2.2))) = true := by decide +kernel
theorem dX9_part_0 : decode cX9_part 0 = .ok (.aload_n 0, 1) := all_d dX9_part_all0 0 rfl
theorem dX9_part_1 : decode cX9_part 1 = .ok (.iconst 0, 1) := all_d dX9_part_all0 1 rfl
theorem dX9_part_2 : decode cX9_part 2 = .ok (.putfield 47, 3) := all_d dX9_part_all0 2 rfl
theorem dX9_part_5 : decode cX9_part 5 = .ok (.aload_n 0, 1) := all_d dX9_part_all0 3 rfl
theorem dX9_part_6 : decode cX9_part 6 = .ok (.iload_n 1, 1) := all_d dX9_part_all0 4 rfl
theorem dX9_part_7 : decode cX9_part 7 = .ok (.invokevirtual 68, 3) := all_d dX9_part_all0 5 rfl
theorem dX9_part_10 : decode cX9_part 10 = .ok (.ifCond .ne 9, 3) := all_d dX9_part_all0 6 rfl
theorem dX9_part_13 : decode cX9_part 13 = .ok (.aload_n 0, 1) := all_d dX9_part_all0 7 rfl
theorem dX9_part_14 : decode cX9_part 14 = .ok (.iconst 2, 1) := all_d dX9_part_all0 8 rfl
theorem dX9_part_15 : decode cX9_part 15 = .ok (.invokevirtual 78, 3) := all_d dX9_part_all0 9 rfl
theorem dX9_part_18 : decode cX9_part 18 = .ok (.ireturn, 1) := all_d dX9_part_all0 10 rfl
theorem dX9_part_19 : decode cX9_part 19 = .ok (.aload_n 0, 1) := all_d dX9_part_all0 11 rfl
theorem dX9_part_20 : decode cX9_part 20 = .ok (.iload_n 2, 1) := all_d dX9_part_all0 12 rfl
theorem dX9_part_21 : decode cX9_part 21 = .ok (.sipush (-8000), 3) := all_d dX9_part_all0 13 rfl
theorem dX9_part_24 : decode cX9_part 24 = .ok (.sipush 8000, 3) := all_d dX9_part_all0 14 rfl
theorem dX9_part_27 : decode cX9_part 27 = .ok (.invokevirtual 64, 3) := all_d dX9_part_all0 15 rfl
theorem dX9_part_30 : decode cX9_part 30 = .ok (.ifCond .eq 25, 3) := all_d dX9_part_all0 16 rfl
theorem dX9_part_33 : decode cX9_part 33 = .ok (.aload_n 0, 1) := all_d dX9_part_all0 17 rfl
theorem dX9_part_34 : decode cX9_part 34 = .ok (.iload_n 1, 1) := all_d dX9_part_all0 18 rfl
theorem dX9_part_35 : decode cX9_part 35 = .ok (.invokevirtual 82, 3) := all_d dX9_part_all0 19 rfl
theorem dX9_part_38 : decode cX9_part 38 = .ok (.ifCond .eq 23, 3) := all_d dX9_part_all0 20 rfl
theorem dX9_part_41 : decode cX9_part 41 = .ok (.aload_n 0, 1) := all_d dX9_part_all0 21 rfl
theorem dX9_part_42 : decode cX9_part 42 = .ok (.iload_n 3, 1) := all_d dX9_part_all0 22 rfl
theorem dX9_part_43 : decode cX9_part 43 = .ok (.sipush (-8000), 3) := all_d dX9_part_all0 23 rfl
theorem dX9_part_46 : decode cX9_part 46 = .ok (.sipush 8000, 3) := all_d dX9_part_all0 24 rfl
theorem dX9_part_49 : decode cX9_part 49 = .ok (.invokevirtual 64, 3) := all_d dX9_part_all0 25 rfl
theorem dX9_part_52 : decode cX9_part 52 = .ok (.ifCond .ne 9, 3) := all_d dX9_part_all0 26 rfl
theorem dX9_part_55 : decode cX9_part 55 = .ok (.aload_n 0, 1) := all_d dX9_part_all0 27 rfl
theorem dX9_part_56 : decode cX9_part 56 = .ok (.iconst 1, 1) := all_d dX9_part_all0 28 rfl
theorem dX9_part_57 : decode cX9_part 57 = .ok (.invokevirtual 78, 3) := all_d dX9_part_all0 29 rfl
theorem dX9_part_60 : decode cX9_part 60 = .ok (.ireturn, 1) := all_d dX9_part_all0 30 rfl
theorem dX9_part_61 : decode cX9_part 61 = .ok (.aload_n 0, 1) := all_d dX9_part_all0 31 rfl
theorem dX9_part_62 : decode cX9_part 62 = .ok (.getfield 7, 3) := all_d dX9_part_all0 32 rfl
theorem dX9_part_65 : decode cX9_part 65 = .ok (.bipush 10, 2) := all_d dX9_part_all0 33 rfl
theorem dX9_part_67 : decode cX9_part 67 = .ok (.iload_n 1, 1) := all_d dX9_part_all0 34 rfl
theorem dX9_part_68 : decode cX9_part 68 = .ok (.iadd, 1) := all_d dX9_part_all0 35 rfl
theorem dX9_part_69 : decode cX9_part 69 = .ok (.iaload, 1) := all_d dX9_part_all0 36 rfl
theorem dX9_part_70 : decode cX9_part 70 = .ok (.istore 4, 2) := all_d dX9_part_all0 37 rfl
theorem dX9_part_72 : decode cX9_part 72 = .ok (.iload 4, 2) := all_d dX9_part_all0 38 rfl
theorem dX9_part_74 : decode cX9_part 74 = .ok (.bipush 16, 2) := all_d dX9_part_all0 39 rfl
theorem dX9_part_76 : decode cX9_part 76 = .ok (.if_icmp .ne 9, 3) := all_d dX9_part_all0 40 rfl
theorem dX9_part_79 : decode cX9_part 79 = .ok (.aload_n 0, 1) := all_d dX9_part_all0 41 rfl
theorem dX9_part_80 : decode cX9_part 80 = .ok (.iconst 3, 1) := all_d dX9_part_all0 42 rfl
theorem dX9_part_81 : decode cX9_part 81 = .ok (.invokevirtual 78, 3) := all_d dX9_part_all0 43 rfl
theorem dX9_part_84 : decode cX9_part 84 = .ok (.ireturn, 1) := all_d dX9_part_all0 44 rfl
theorem dX9_part_85 : decode cX9_part 85 = .ok (.aload_n 0, 1) := all_d dX9_part_all0 45 rfl
theorem dX9_part_86 : decode cX9_part 86 = .ok (.invokevirtual 75, 3) := all_d dX9_part_all0 46 rfl
theorem dX9_part_89 : decode cX9_part 89 = .ok (.aload_n 0, 1) := all_d dX9_part_all0 47 rfl
theorem dX9_part_90 : decode cX9_part 90 = .ok (.iload_n 1, 1) := all_d dX9_part_all0 48 rfl
theorem dX9_part_91 : decode cX9_part 91 = .ok (.iload 4, 2) := all_d dX9_part_all0 49 rfl
theorem dX9_part_93 : decode cX9_part 93 = .ok (.invokevirtual 85, 3) := all_d dX9_part_all0 50 rfl
theorem dX9_part_96 : decode cX9_part 96 = .ok (.istore 5, 2) := all_d dX9_part_all0 51 rfl
theorem dX9_part_98 : decode cX9_part 98 = .ok (.aload_n 0, 1) := all_d dX9_part_all0 52 rfl
theorem dX9_part_99 : decode cX9_part 99 = .ok (.getfield 7, 3) := all_d dX9_part_all0 53 rfl
theorem dX9_part_102 : decode cX9_part 102 = .ok (.iload 5, 2) := all_d dX9_part_all0 54 rfl
theorem dX9_part_104 : decode cX9_part 104 = .ok (.iload_n 2, 1) := all_d dX9_part_all0 55 rfl
theorem dX9_part_105 : decode cX9_part 105 = .ok (.iastore, 1) := all_d dX9_part_all0 56 rfl
theorem dX9_part_106 : decode cX9_part 106 = .ok (.aload_n 0, 1) := all_d dX9_part_all0 57 rfl
theorem dX9_part_107 : decode cX9_part 107 = .ok (.getfield 7, 3) := all_d dX9_part_all0 58 rfl
theorem dX9_part_110 : decode cX9_part 110 = .ok (.iload 5, 2) := all_d dX9_part_all0 59 rfl
theorem dX9_part_112 : decode cX9_part 112 = .ok (.iconst 1, 1) := all_d dX9_part_all0 60 rfl
theorem dX9_part_113 : decode cX9_part 113 = .ok (.iadd, 1) := all_d dX9_part_all0 61 rfl
theorem dX9_part_114 : decode cX9_part 114 = .ok (.iconst 0, 1) := all_d dX9_part_all0 62 rfl
theorem dX9_part_115 : decode cX9_part 115 = .ok (.iastore, 1) := all_d dX9_part_all0 63 rfl
theorem dX9_part_116 : decode cX9_part 116 = .ok (.aload_n 0, 1) := all_d dX9_part_all0 64 rfl
theorem dX9_part_117 : decode cX9_part 117 = .ok (.getfield 7, 3) := all_d dX9_part_all0 65 rfl
theorem dX9_part_120 : decode cX9_part 120 = .ok (.iload 5, 2) := all_d dX9_part_all0 66 rfl
theorem dX9_part_122 : decode cX9_part 122 = .ok (.iconst 2, 1) := all_d dX9_part_all0 67 rfl
theorem dX9_part_123 : decode cX9_part 123 = .ok (.iadd, 1) := all_d dX9_part_all0 68 rfl
theorem dX9_part_124 : decode cX9_part 124 = .ok (.aload_n 0, 1) := all_d dX9_part_all0 69 rfl
theorem dX9_part_125 : decode cX9_part 125 = .ok (.getfield 7, 3) := all_d dX9_part_all0 70 rfl
theorem dX9_part_128 : decode cX9_part 128 = .ok (.iconst 2, 1) := all_d dX9_part_all0 71 rfl
theorem dX9_part_129 : decode cX9_part 129 = .ok (.iload_n 1, 1) := all_d dX9_part_all0 72 rfl
theorem dX9_part_130 : decode cX9_part 130 = .ok (.iadd, 1) := all_d dX9_part_all0 73 rfl
theorem dX9_part_131 : decode cX9_part 131 = .ok (.iaload, 1) := all_d dX9_part_all0 74 rfl
theorem dX9_part_132 : decode cX9_part 132 = .ok (.iconst 2, 1) := all_d dX9_part_all0 75 rfl
theorem dX9_part_133 : decode cX9_part 133 = .ok (.if_icmp .ne 7, 3) := all_d dX9_part_all0 76 rfl
theorem dX9_part_136 : decode cX9_part 136 = .ok (.iload_n 2, 1) := all_d dX9_part_all0 77 rfl
theorem dX9_part_137 : decode cX9_part 137 = .ok (.goto 4, 3) := all_d dX9_part_all0 78 rfl
theorem dX9_part_140 : decode cX9_part 140 = .ok (.iconst 1, 1) := all_d dX9_part_all0 79 rfl
set_option maxRecDepth 100000 in
theorem dX9_part_all1 : ([(141, (.iastore : Instr), 1), (142, (.aload_n 0 : Instr), 1), (143, (.getfield 7 : Instr), 3), (146, (.iload 5 : Instr), 2), (148, (.iconst 3 : Instr), 1), (149, (.iadd : Instr), 1), (150, (.aload_n 0 : Instr), 1), (151, (.iload_n 1 : Instr), 1), (152, (.invokevirtual 82 : Instr), 3), (155, (.ifCond .eq 7 : Instr), 3), (158, (.iload_n 3 : Instr), 1), (159, (.goto 4 : Instr), 3), (162, (.iconst 0 : Instr), 1), (163, (.iastore : Instr), 1), (164, (.aload_n 0 : Instr), 1), (165, (.getfield 7 : Instr), 3), (168, (.bipush 10 : Instr), 2), (170, (.iload_n 1 : Instr), 1), (171, (.iadd : Instr), 1), (172, (.dup2 : Instr), 1), (173, (.iaload : Instr), 1), (174, (.iconst 1 : Instr), 1), (175, (.iadd : Instr), 1), (176, (.iastore : Instr), 1), (177, (.aload_n 0 : Instr), 1), (178, (.iload_n 1 : Instr), 1), (179, (.invokevirtual 82 : Instr), 3), (182, (.ifCond .eq 56 : Instr), 3), (185, (.iconst 0 : Instr), 1), (186, (.istore 6 : Instr), 2), (188, (.iload 6 : Instr), 2), (190, (.iload 4 : Instr), 2), (192, (.if_icmp .gt 46 : Instr), 3), (195, (.aload_n 0 : Instr), 1), (196, (.getfield 7 : Instr), 3), (199, (.aload_n 0 : Instr), 1), (200, (.iload_n 1 : Instr), 1), (201, (.iload 6 : Instr), 2), (203, (.invokevirtual 85 : Instr), 3), (206, (.iconst 2 : Instr), 1), (207, (.iadd : Instr), 1), (208, (.iload 4 : Instr), 2), (210, (.iload 6 : Instr), 2), (212, (.isub : Instr), 1), (213, (.bipush 12 : Instr), 2), (215, (.if_icmp .le 9 : Instr), 3), (218, (.sipush 8000 : Instr), 3), (221, (.goto 10 : Instr), 3), (224, (.iconst 1 : Instr), 1), (225, (.iload 4 : Instr), 2), (227, (.iload 6 : Instr), 2), (229, (.isub : Instr), 1), (230, (.ishl : Instr), 1), (231, (.iastore : Instr), 1), (232, (.iinc 6 1 : Instr), 3), (235, (.goto (-47) : Instr), 3), (238, (.iload 4 : Instr), 2), (240, (.iconst 1 : Instr), 1), (241, (.iadd : Instr), 1), (242, (.ireturn : Instr), 1)] : List (Nat × Instr × Nat)).all (fun q => decide (decode cX9_part q.1 = .ok (q.2.1, q.2.2))) = true := by decide +kernel
theorem dX9_part_141 : decode cX9_part 141 = .ok (.iastore, 1) := all_d dX9_part_all1 0 rfl
theorem dX9_part_142 : decode cX9_part 142 = .ok (.aload_n 0, 1) := all_d dX9_part_all1 1 rfl
theorem dX9_part_143 : decode cX9_part 143 = .ok (.getfield 7, 3) := all_d dX9_part_all1 2 rfl
theorem dX9_part_146 : decode cX9_part 146 = .ok (.iload 5, 2) := all_d dX9_part_all1 3 rfl
theorem dX9_part_148 : decode cX9_part 148 = .ok (.iconst 3, 1) := all_d dX9_part_all1 4 rfl
theorem dX9_part_149 : decode cX9_part 149 = .ok (.iadd, 1) := all_d dX9_part_all1 5 rfl
theorem dX9_part_150 : decode cX9_part 150 = .ok (.aload_n 0, 1) := all_d dX9_part_all1 6 rfl
theorem dX9_part_151 : decode cX9_part 151 = .ok (.iload_n 1, 1) := all_d dX9_part_all1 7 rfl
theorem dX9_part_152 : decode cX9_part 152 = .ok (.invokevirtual 82, 3) := all_d dX9_part_all1 8 rfl
theorem dX9_part_155 : decode cX9_part 155 = .ok (.ifCond .eq 7, 3) := all_d dX9_part_all1 9 rfl
theorem dX9_part_158 : decode cX9_part 158 = .ok (.iload_n 3, 1) := all_d dX9_part_all1 10 rfl
theorem dX9_part_159 : decode cX9_part 159 = .ok (.goto 4, 3) := all_d dX9_part_all1 11 rfl
theorem dX9_part_162 : decode cX9_part 162 = .ok (.iconst 0, 1) := all_d dX9_part_all1 12 rfl
theorem dX9_part_163 : decode cX9_part 163 = .ok (.iastore, 1) := all_d dX9_part_all1 13 rfl
theorem dX9_part_164 : decode cX9_part 164 = .ok (.aload_n 0, 1) := all_d dX9_part_all1 14 rfl
theorem dX9_part_165 : decode cX9_part 165 = .ok (.getfield 7, 3) := all_d dX9_part_all1 15 rfl
theorem dX9_part_168 : decode cX9_part 168 = .ok (.bipush 10, 2) := all_d dX9_part_all1 16 rfl
theorem dX9_part_170 : decode cX9_part 170 = .ok (.iload_n 1, 1) := all_d dX9_part_all1 17 rfl
theorem dX9_part_171 : decode cX9_part 171 = .ok (.iadd, 1) := all_d dX9_part_all1 18 rfl
theorem dX9_part_172 : decode cX9_part 172 = .ok (.dup2, 1) := all_d dX9_part_all1 19 rfl
theorem dX9_part_173 : decode cX9_part 173 = .ok (.iaload, 1) := all_d dX9_part_all1 20 rfl
theorem dX9_part_174 : decode cX9_part 174 = .ok (.iconst 1, 1) := all_d dX9_part_all1 21 rfl
theorem dX9_part_175 : decode cX9_part 175 = .ok (.iadd, 1) := all_d dX9_part_all1 22 rfl
theorem dX9_part_176 : decode cX9_part 176 = .ok (.iastore, 1) := all_d dX9_part_all1 23 rfl
theorem dX9_part_177 : decode cX9_part 177 = .ok (.aload_n 0, 1) := all_d dX9_part_all1 24 rfl
theorem dX9_part_178 : decode cX9_part 178 = .ok (.iload_n 1, 1) := all_d dX9_part_all1 25 rfl
theorem dX9_part_179 : decode cX9_part 179 = .ok (.invokevirtual 82, 3) := all_d dX9_part_all1 26 rfl
theorem dX9_part_182 : decode cX9_part 182 = .ok (.ifCond .eq 56, 3) := all_d dX9_part_all1 27 rfl
theorem dX9_part_185 : decode cX9_part 185 = .ok (.iconst 0, 1) := all_d dX9_part_all1 28 rfl
theorem dX9_part_186 : decode cX9_part 186 = .ok (.istore 6, 2) := all_d dX9_part_all1 29 rfl
theorem dX9_part_188 : decode cX9_part 188 = .ok (.iload 6, 2) := all_d dX9_part_all1 30 rfl
theorem dX9_part_190 : decode cX9_part 190 = .ok (.iload 4, 2) := all_d dX9_part_all1 31 rfl
theorem dX9_part_192 : decode cX9_part 192 = .ok (.if_icmp .gt 46, 3) := all_d dX9_part_all1 32 rfl
theorem dX9_part_195 : decode cX9_part 195 = .ok (.aload_n 0, 1) := all_d dX9_part_all1 33 rfl
theorem dX9_part_196 : decode cX9_part 196 = .ok (.getfield 7, 3) := all_d dX9_part_all1 34 rfl
theorem dX9_part_199 : decode cX9_part 199 = .ok (.aload_n 0, 1) := all_d dX9_part_all1 35 rfl
theorem dX9_part_200 : decode cX9_part 200 = .ok (.iload_n 1, 1) := all_d dX9_part_all1 36 rfl
theorem dX9_part_201 : decode cX9_part 201 = .ok (.iload 6, 2) := all_d dX9_part_all1 37 rfl
theorem dX9_part_203 : decode cX9_part 203 = .ok (.invokevirtual 85, 3) := all_d dX9_part_all1 38 rfl
theorem dX9_part_206 : decode cX9_part 206 = .ok (.iconst 2, 1) := all_d dX9_part_all1 39 rfl
theorem dX9_part_207 : decode cX9_part 207 = .ok (.iadd, 1) := all_d dX9_part_all1 40 rfl
theorem dX9_part_208 : decode cX9_part 208 = .ok (.iload 4, 2) := all_d dX9_part_all1 41 rfl
theorem dX9_part_210 : decode cX9_part 210 = .ok (.iload 6, 2) := all_d dX9_part_all1 42 rfl
theorem dX9_part_212 : decode cX9_part 212 = .ok (.isub, 1) := all_d dX9_part_all1 43 rfl
theorem dX9_part_213 : decode cX9_part 213 = .ok (.bipush 12, 2) := all_d dX9_part_all1 44 rfl
theorem dX9_part_215 : decode cX9_part 215 = .ok (.if_icmp .le 9, 3) := all_d dX9_part_all1 45 rfl
theorem dX9_part_218 : decode cX9_part 218 = .ok (.sipush 8000, 3) := all_d dX9_part_all1 46 rfl
theorem dX9_part_221 : decode cX9_part 221 = .ok (.goto 10, 3) := all_d dX9_part_all1 47 rfl
theorem dX9_part_224 : decode cX9_part 224 = .ok (.iconst 1, 1) := all_d dX9_part_all1 48 rfl
theorem dX9_part_225 : decode cX9_part 225 = .ok (.iload 4, 2) := all_d dX9_part_all1 49 rfl
theorem dX9_part_227 : decode cX9_part 227 = .ok (.iload 6, 2) := all_d dX9_part_all1 50 rfl
theorem dX9_part_229 : decode cX9_part 229 = .ok (.isub, 1) := all_d dX9_part_all1 51 rfl
theorem dX9_part_230 : decode cX9_part 230 = .ok (.ishl, 1) := all_d dX9_part_all1 52 rfl
theorem dX9_part_231 : decode cX9_part 231 = .ok (.iastore, 1) := all_d dX9_part_all1 53 rfl
theorem dX9_part_232 : decode cX9_part 232 = .ok (.iinc 6 1, 3) := all_d dX9_part_all1 54 rfl
theorem dX9_part_235 : decode cX9_part 235 = .ok (.goto (-47), 3) := all_d dX9_part_all1 55 rfl
theorem dX9_part_238 : decode cX9_part 238 = .ok (.iload 4, 2) := all_d dX9_part_all1 56 rfl
theorem dX9_part_240 : decode cX9_part 240 = .ok (.iconst 1, 1) := all_d dX9_part_all1 57 rfl
theorem dX9_part_241 : decode cX9_part 241 = .ok (.iadd, 1) := all_d dX9_part_all1 58 rfl
theorem dX9_part_242 : decode cX9_part 242 = .ok (.ireturn, 1) := all_d dX9_part_all1 59 rfl
set_option maxRecDepth 100000 in
theorem dX9_miss_all0 : ([(0, (.aload_n 0 : Instr), 1), (1, (.iconst 0 : Instr), 1), (2, (.putfield 47 : Instr), 3), (5, (.aload_n 0 : Instr), 1), (6, (.iload_n 1 : Instr), 1), (7, (.iload_n 2 : Instr), 1), (8, (.invokevirtual 60 : Instr), 3), (11, (.ifCond .ne 9 : Instr), 3), (14, (.aload_n 0 : Instr), 1), (15, (.iconst 2 : Instr), 1), (16, (.invokevirtual 72 : Instr), 3), (19, (.ireturn : Instr), 1), (20, (.aload_n 0 : Instr), 1), (21, (.iload_n 3 : Instr), 1), (22, (.sipush (-500) : Instr), 3), (25, (.sipush 500 : Instr), 3), (28, (.invokevirtual 64 : Instr), 3), (31, (.ifCond .ne 9 : Instr), 3), (34, (.aload_n 0 : Instr), 1), (35, (.iconst 1 : Instr), 1), (36, (.invokevirtual 72 : Instr), 3), (39, (.ireturn : Instr), 1), (40, (.aload_n 0 : Instr), 1), (41, (.invokevirtual 75 : Instr), 3), (44, (.aload_n 0 : Instr), 1), (45, (.getfield 7 : Instr), 3), (48, (.aload_n 0 : Instr), 1), (49, (.iload_n 1 : Instr), 1), (50, (.iload_n 2 : Instr), 1), (51, (.invokevirtual 85 : Instr), 3), (54, (.iconst 1 : Instr), 1), (55, (.iadd : Instr), 1), (56, (.iload_n 3 : Instr), 1), (57, (.iastore : Instr), 1), (58, (.iconst 1 : Instr), 1), (59, (.ireturn : Instr), 1)] : List (Nat × Instr × Nat)).all (fun q => decide (decode cX9_miss q.1 = .ok (q.2.1, q.2.2))) = true := by decide +kernel
theorem dX9_miss_0 : decode cX9_miss 0 = .ok (.aload_n 0, 1) := all_d dX9_miss_all0 0 rfl
theorem dX9_miss_1 : decode cX9_miss 1 = .ok (.iconst 0, 1) := all_d dX9_miss_all0 1 rfl
theorem dX9_miss_2 : decode cX9_miss 2 = .ok (.putfield 47, 3) := all_d dX9_miss_all0 2 rfl
theorem dX9_miss_5 : decode cX9_miss 5 = .ok (.aload_n 0, 1) := all_d dX9_miss_all0 3 rfl
theorem dX9_miss_6 : decode cX9_miss 6 = .ok (.iload_n 1, 1) := all_d dX9_miss_all0 4 rfl
theorem dX9_miss_7 : decode cX9_miss 7 = .ok (.iload_n 2, 1) := all_d dX9_miss_all0 5 rfl
theorem dX9_miss_8 : decode cX9_miss 8 = .ok (.invokevirtual 60, 3) := all_d dX9_miss_all0 6 rfl
theorem dX9_miss_11 : decode cX9_miss 11 = .ok (.ifCond .ne 9, 3) := all_d dX9_miss_all0 7 rfl
theorem dX9_miss_14 : decode cX9_miss 14 = .ok (.aload_n 0, 1) := all_d dX9_miss_all0 8 rfl
theorem dX9_miss_15 : decode cX9_miss 15 = .ok (.iconst 2, 1) := all_d dX9_miss_all0 9 rfl
theorem dX9_miss_16 : decode cX9_miss 16 = .ok (.invokevirtual 72, 3) := all_d dX9_miss_all0 10 rfl
theorem dX9_miss_19 : decode cX9_miss 19 = .ok (.ireturn, 1) := all_d dX9_miss_all0 11 rfl
theorem dX9_miss_20 : decode cX9_miss 20 = .ok (.aload_n 0, 1) := all_d dX9_miss_all0 12 rfl
theorem dX9_miss_21 : decode cX9_miss 21 = .ok (.iload_n 3, 1) := all_d dX9_miss_all0 13 rfl
theorem dX9_miss_22 : decode cX9_miss 22 = .ok (.sipush (-500), 3) := all_d dX9_miss_all0 14 rfl
theorem dX9_miss_25 : decode cX9_miss 25 = .ok (.sipush 500, 3) := all_d dX9_miss_all0 15 rfl
theorem dX9_miss_28 : decode cX9_miss 28 = .ok (.invokevirtual 64, 3) := all_d dX9_miss_all0 16 rfl
theorem dX9_miss_31 : decode cX9_miss 31 = .ok (.ifCond .ne 9, 3) := all_d dX9_miss_all0 17 rfl
theorem dX9_miss_34 : decode cX9_miss 34 = .ok (.aload_n 0, 1) := all_d dX9_miss_all0 18 rfl
theorem dX9_miss_35 : decode cX9_miss 35 = .ok (.iconst 1, 1) := all_d dX9_miss_all0 19 rfl
theorem dX9_miss_36 : decode cX9_miss 36 = .ok (.invokevirtual 72, 3) := all_d dX9_miss_all0 20 rfl
theorem dX9_miss_39 : decode cX9_miss 39 = .ok (.ireturn, 1) := all_d dX9_miss_all0 21 rfl
theorem dX9_miss_40 : decode cX9_miss 40 = .ok (.aload_n 0, 1) := all_d dX9_miss_all0 22 rfl
theorem dX9_miss_41 : decode cX9_miss 41 = .ok (.invokevirtual 75, 3) := all_d dX9_miss_all0 23 rfl
theorem dX9_miss_44 : decode cX9_miss 44 = .ok (.aload_n 0, 1) := all_d dX9_miss_all0 24 rfl
theorem dX9_miss_45 : decode cX9_miss 45 = .ok (.getfield 7, 3) := all_d dX9_miss_all0 25 rfl
theorem dX9_miss_48 : decode cX9_miss 48 = .ok (.aload_n 0, 1) := all_d dX9_miss_all0 26 rfl
theorem dX9_miss_49 : decode cX9_miss 49 = .ok (.iload_n 1, 1) := all_d dX9_miss_all0 27 rfl
theorem dX9_miss_50 : decode cX9_miss 50 = .ok (.iload_n 2, 1) := all_d dX9_miss_all0 28 rfl
theorem dX9_miss_51 : decode cX9_miss 51 = .ok (.invokevirtual 85, 3) := all_d dX9_miss_all0 29 rfl
theorem dX9_miss_54 : decode cX9_miss 54 = .ok (.iconst 1, 1) := all_d dX9_miss_all0 30 rfl
theorem dX9_miss_55 : decode cX9_miss 55 = .ok (.iadd, 1) := all_d dX9_miss_all0 31 rfl
theorem dX9_miss_56 : decode cX9_miss 56 = .ok (.iload_n 3, 1) := all_d dX9_miss_all0 32 rfl
theorem dX9_miss_57 : decode cX9_miss 57 = .ok (.iastore, 1) := all_d dX9_miss_all0 33 rfl
theorem dX9_miss_58 : decode cX9_miss 58 = .ok (.iconst 1, 1) := all_d dX9_miss_all0 34 rfl
theorem dX9_miss_59 : decode cX9_miss 59 = .ok (.ireturn, 1) := all_d dX9_miss_all0 35 rfl
set_option maxRecDepth 100000 in
theorem dX9_worth_all0 : ([(0, (.aload_n 0 : Instr), 1), (1, (.iconst 0 : Instr), 1), (2, (.putfield 47 : Instr), 3), (5, (.aload_n 0 : Instr), 1), (6, (.iload_n 1 : Instr), 1), (7, (.iload_n 2 : Instr), 1), (8, (.invokevirtual 60 : Instr), 3), (11, (.ifCond .ne 9 : Instr), 3), (14, (.aload_n 0 : Instr), 1), (15, (.iconst 2 : Instr), 1), (16, (.invokevirtual 72 : Instr), 3), (19, (.ireturn : Instr), 1), (20, (.aload_n 0 : Instr), 1), (21, (.getfield 7 : Instr), 3), (24, (.iconst 2 : Instr), 1), (25, (.iload_n 1 : Instr), 1), (26, (.iadd : Instr), 1), (27, (.iaload : Instr), 1), (28, (.iconst 2 : Instr), 1), (29, (.if_icmp .ge 9 : Instr), 3), (32, (.aload_n 0 : Instr), 1), (33, (.iconst 4 : Instr), 1), (34, (.invokevirtual 72 : Instr), 3), (37, (.ireturn : Instr), 1), (38, (.aload_n 0 : Instr), 1), (39, (.iload_n 3 : Instr), 1), (40, (.sipush (-8000) : Instr), 3), (43, (.sipush 8000 : Instr), 3), (46, (.invokevirtual 64 : Instr), 3), (49, (.ifCond .ne 9 : Instr), 3), (52, (.aload_n 0 : Instr), 1), (53, (.iconst 1 : Instr), 1), (54, (.invokevirtual 72 : Instr), 3), (57, (.ireturn : Instr), 1), (58, (.aload_n 0 : Instr), 1), (59, (.invokevirtual 75 : Instr), 3), (62, (.aload_n 0 : Instr), 1), (63, (.getfield 7 : Instr), 3), (66, (.aload_n 0 : Instr), 1), (67, (.iload_n 1 : Instr), 1), (68, (.iload_n 2 : Instr), 1), (69, (.invokevirtual 85 : Instr), 3), (72, (.iconst 2 : Instr), 1), (73, (.iadd : Instr), 1), (74, (.iload_n 3 : Instr), 1), (75, (.iastore : Instr), 1), (76, (.iconst 1 : Instr), 1), (77, (.ireturn : Instr), 1)] : List (Nat × Instr × Nat)).all (fun q => decide (decode cX9_worth q.1 = .ok (q.2.1, q.2.2))) = true := by decide +kernel
theorem dX9_worth_0 : decode cX9_worth 0 = .ok (.aload_n 0, 1) := all_d dX9_worth_all0 0 rfl
theorem dX9_worth_1 : decode cX9_worth 1 = .ok (.iconst 0, 1) := all_d dX9_worth_all0 1 rfl
theorem dX9_worth_2 : decode cX9_worth 2 = .ok (.putfield 47, 3) := all_d dX9_worth_all0 2 rfl
theorem dX9_worth_5 : decode cX9_worth 5 = .ok (.aload_n 0, 1) := all_d dX9_worth_all0 3 rfl
theorem dX9_worth_6 : decode cX9_worth 6 = .ok (.iload_n 1, 1) := all_d dX9_worth_all0 4 rfl
theorem dX9_worth_7 : decode cX9_worth 7 = .ok (.iload_n 2, 1) := all_d dX9_worth_all0 5 rfl
theorem dX9_worth_8 : decode cX9_worth 8 = .ok (.invokevirtual 60, 3) := all_d dX9_worth_all0 6 rfl
theorem dX9_worth_11 : decode cX9_worth 11 = .ok (.ifCond .ne 9, 3) := all_d dX9_worth_all0 7 rfl
theorem dX9_worth_14 : decode cX9_worth 14 = .ok (.aload_n 0, 1) := all_d dX9_worth_all0 8 rfl
theorem dX9_worth_15 : decode cX9_worth 15 = .ok (.iconst 2, 1) := all_d dX9_worth_all0 9 rfl
theorem dX9_worth_16 : decode cX9_worth 16 = .ok (.invokevirtual 72, 3) := all_d dX9_worth_all0 10 rfl
theorem dX9_worth_19 : decode cX9_worth 19 = .ok (.ireturn, 1) := all_d dX9_worth_all0 11 rfl
theorem dX9_worth_20 : decode cX9_worth 20 = .ok (.aload_n 0, 1) := all_d dX9_worth_all0 12 rfl
theorem dX9_worth_21 : decode cX9_worth 21 = .ok (.getfield 7, 3) := all_d dX9_worth_all0 13 rfl
theorem dX9_worth_24 : decode cX9_worth 24 = .ok (.iconst 2, 1) := all_d dX9_worth_all0 14 rfl
theorem dX9_worth_25 : decode cX9_worth 25 = .ok (.iload_n 1, 1) := all_d dX9_worth_all0 15 rfl
theorem dX9_worth_26 : decode cX9_worth 26 = .ok (.iadd, 1) := all_d dX9_worth_all0 16 rfl
theorem dX9_worth_27 : decode cX9_worth 27 = .ok (.iaload, 1) := all_d dX9_worth_all0 17 rfl
theorem dX9_worth_28 : decode cX9_worth 28 = .ok (.iconst 2, 1) := all_d dX9_worth_all0 18 rfl
theorem dX9_worth_29 : decode cX9_worth 29 = .ok (.if_icmp .ge 9, 3) := all_d dX9_worth_all0 19 rfl
theorem dX9_worth_32 : decode cX9_worth 32 = .ok (.aload_n 0, 1) := all_d dX9_worth_all0 20 rfl
theorem dX9_worth_33 : decode cX9_worth 33 = .ok (.iconst 4, 1) := all_d dX9_worth_all0 21 rfl
theorem dX9_worth_34 : decode cX9_worth 34 = .ok (.invokevirtual 72, 3) := all_d dX9_worth_all0 22 rfl
theorem dX9_worth_37 : decode cX9_worth 37 = .ok (.ireturn, 1) := all_d dX9_worth_all0 23 rfl
theorem dX9_worth_38 : decode cX9_worth 38 = .ok (.aload_n 0, 1) := all_d dX9_worth_all0 24 rfl
theorem dX9_worth_39 : decode cX9_worth 39 = .ok (.iload_n 3, 1) := all_d dX9_worth_all0 25 rfl
theorem dX9_worth_40 : decode cX9_worth 40 = .ok (.sipush (-8000), 3) := all_d dX9_worth_all0 26 rfl
theorem dX9_worth_43 : decode cX9_worth 43 = .ok (.sipush 8000, 3) := all_d dX9_worth_all0 27 rfl
theorem dX9_worth_46 : decode cX9_worth 46 = .ok (.invokevirtual 64, 3) := all_d dX9_worth_all0 28 rfl
theorem dX9_worth_49 : decode cX9_worth 49 = .ok (.ifCond .ne 9, 3) := all_d dX9_worth_all0 29 rfl
theorem dX9_worth_52 : decode cX9_worth 52 = .ok (.aload_n 0, 1) := all_d dX9_worth_all0 30 rfl
theorem dX9_worth_53 : decode cX9_worth 53 = .ok (.iconst 1, 1) := all_d dX9_worth_all0 31 rfl
theorem dX9_worth_54 : decode cX9_worth 54 = .ok (.invokevirtual 72, 3) := all_d dX9_worth_all0 32 rfl
theorem dX9_worth_57 : decode cX9_worth 57 = .ok (.ireturn, 1) := all_d dX9_worth_all0 33 rfl
theorem dX9_worth_58 : decode cX9_worth 58 = .ok (.aload_n 0, 1) := all_d dX9_worth_all0 34 rfl
theorem dX9_worth_59 : decode cX9_worth 59 = .ok (.invokevirtual 75, 3) := all_d dX9_worth_all0 35 rfl
theorem dX9_worth_62 : decode cX9_worth 62 = .ok (.aload_n 0, 1) := all_d dX9_worth_all0 36 rfl
theorem dX9_worth_63 : decode cX9_worth 63 = .ok (.getfield 7, 3) := all_d dX9_worth_all0 37 rfl
theorem dX9_worth_66 : decode cX9_worth 66 = .ok (.aload_n 0, 1) := all_d dX9_worth_all0 38 rfl
theorem dX9_worth_67 : decode cX9_worth 67 = .ok (.iload_n 1, 1) := all_d dX9_worth_all0 39 rfl
theorem dX9_worth_68 : decode cX9_worth 68 = .ok (.iload_n 2, 1) := all_d dX9_worth_all0 40 rfl
theorem dX9_worth_69 : decode cX9_worth 69 = .ok (.invokevirtual 85, 3) := all_d dX9_worth_all0 41 rfl
theorem dX9_worth_72 : decode cX9_worth 72 = .ok (.iconst 2, 1) := all_d dX9_worth_all0 42 rfl
theorem dX9_worth_73 : decode cX9_worth 73 = .ok (.iadd, 1) := all_d dX9_worth_all0 43 rfl
theorem dX9_worth_74 : decode cX9_worth 74 = .ok (.iload_n 3, 1) := all_d dX9_worth_all0 44 rfl
theorem dX9_worth_75 : decode cX9_worth 75 = .ok (.iastore, 1) := all_d dX9_worth_all0 45 rfl
theorem dX9_worth_76 : decode cX9_worth 76 = .ok (.iconst 1, 1) := all_d dX9_worth_all0 46 rfl
theorem dX9_worth_77 : decode cX9_worth 77 = .ok (.ireturn, 1) := all_d dX9_worth_all0 47 rfl
set_option maxRecDepth 100000 in
theorem dX9_partOf_all0 : ([(0, (.aload_n 0 : Instr), 1), (1, (.iconst 0 : Instr), 1), (2, (.putfield 47 : Instr), 3), (5, (.aload_n 0 : Instr), 1), (6, (.iload_n 1 : Instr), 1), (7, (.iload_n 2 : Instr), 1), (8, (.invokevirtual 60 : Instr), 3), (11, (.ifCond .eq 29 : Instr), 3), (14, (.aload_n 0 : Instr), 1), (15, (.iload_n 3 : Instr), 1), (16, (.iconst 0 : Instr), 1), (17, (.iconst 3 : Instr), 1), (18, (.invokevirtual 64 : Instr), 3), (21, (.ifCond .eq 19 : Instr), 3), (24, (.aload_n 0 : Instr), 1), (25, (.getfield 7 : Instr), 3), (28, (.aload_n 0 : Instr), 1), (29, (.iload_n 1 : Instr), 1), (30, (.iload_n 2 : Instr), 1), (31, (.invokevirtual 85 : Instr), 3), (34, (.iload_n 3 : Instr), 1), (35, (.iadd : Instr), 1), (36, (.iaload : Instr), 1), (37, (.goto 6 : Instr), 3), (40, (.sipush (-10000) : Instr), 3), (43, (.ireturn : Instr), 1)] : List (Nat × Instr × Nat)).all (fun q => decide (decode cX9_partOf q.1 = .ok (q.2.1, q.2.2))) = true := by decide +kernel
theorem dX9_partOf_0 : decode cX9_partOf 0 = .ok (.aload_n 0, 1) := all_d dX9_partOf_all0 0 rfl
theorem dX9_partOf_1 : decode cX9_partOf 1 = .ok (.iconst 0, 1) := all_d dX9_partOf_all0 1 rfl
theorem dX9_partOf_2 : decode cX9_partOf 2 = .ok (.putfield 47, 3) := all_d dX9_partOf_all0 2 rfl
theorem dX9_partOf_5 : decode cX9_partOf 5 = .ok (.aload_n 0, 1) := all_d dX9_partOf_all0 3 rfl
theorem dX9_partOf_6 : decode cX9_partOf 6 = .ok (.iload_n 1, 1) := all_d dX9_partOf_all0 4 rfl
theorem dX9_partOf_7 : decode cX9_partOf 7 = .ok (.iload_n 2, 1) := all_d dX9_partOf_all0 5 rfl
theorem dX9_partOf_8 : decode cX9_partOf 8 = .ok (.invokevirtual 60, 3) := all_d dX9_partOf_all0 6 rfl
theorem dX9_partOf_11 : decode cX9_partOf 11 = .ok (.ifCond .eq 29, 3) := all_d dX9_partOf_all0 7 rfl
theorem dX9_partOf_14 : decode cX9_partOf 14 = .ok (.aload_n 0, 1) := all_d dX9_partOf_all0 8 rfl
theorem dX9_partOf_15 : decode cX9_partOf 15 = .ok (.iload_n 3, 1) := all_d dX9_partOf_all0 9 rfl
theorem dX9_partOf_16 : decode cX9_partOf 16 = .ok (.iconst 0, 1) := all_d dX9_partOf_all0 10 rfl
theorem dX9_partOf_17 : decode cX9_partOf 17 = .ok (.iconst 3, 1) := all_d dX9_partOf_all0 11 rfl
theorem dX9_partOf_18 : decode cX9_partOf 18 = .ok (.invokevirtual 64, 3) := all_d dX9_partOf_all0 12 rfl
theorem dX9_partOf_21 : decode cX9_partOf 21 = .ok (.ifCond .eq 19, 3) := all_d dX9_partOf_all0 13 rfl
theorem dX9_partOf_24 : decode cX9_partOf 24 = .ok (.aload_n 0, 1) := all_d dX9_partOf_all0 14 rfl
theorem dX9_partOf_25 : decode cX9_partOf 25 = .ok (.getfield 7, 3) := all_d dX9_partOf_all0 15 rfl
theorem dX9_partOf_28 : decode cX9_partOf 28 = .ok (.aload_n 0, 1) := all_d dX9_partOf_all0 16 rfl
theorem dX9_partOf_29 : decode cX9_partOf 29 = .ok (.iload_n 1, 1) := all_d dX9_partOf_all0 17 rfl
theorem dX9_partOf_30 : decode cX9_partOf 30 = .ok (.iload_n 2, 1) := all_d dX9_partOf_all0 18 rfl
theorem dX9_partOf_31 : decode cX9_partOf 31 = .ok (.invokevirtual 85, 3) := all_d dX9_partOf_all0 19 rfl
theorem dX9_partOf_34 : decode cX9_partOf 34 = .ok (.iload_n 3, 1) := all_d dX9_partOf_all0 20 rfl
theorem dX9_partOf_35 : decode cX9_partOf 35 = .ok (.iadd, 1) := all_d dX9_partOf_all0 21 rfl
theorem dX9_partOf_36 : decode cX9_partOf 36 = .ok (.iaload, 1) := all_d dX9_partOf_all0 22 rfl
theorem dX9_partOf_37 : decode cX9_partOf 37 = .ok (.goto 6, 3) := all_d dX9_partOf_all0 23 rfl
theorem dX9_partOf_40 : decode cX9_partOf 40 = .ok (.sipush (-10000), 3) := all_d dX9_partOf_all0 24 rfl
theorem dX9_partOf_43 : decode cX9_partOf 43 = .ok (.ireturn, 1) := all_d dX9_partOf_all0 25 rfl
set_option maxRecDepth 100000 in
theorem dX9_kind_all0 : ([(0, (.aload_n 0 : Instr), 1), (1, (.iconst 0 : Instr), 1), (2, (.putfield 47 : Instr), 3), (5, (.aload_n 0 : Instr), 1), (6, (.iload_n 1 : Instr), 1), (7, (.invokevirtual 68 : Instr), 3), (10, (.ifCond .ne 7 : Instr), 3), (13, (.iconst (-1) : Instr), 1), (14, (.goto 36 : Instr), 3), (17, (.iload_n 2 : Instr), 1), (18, (.ifCond .ne 14 : Instr), 3), (21, (.aload_n 0 : Instr), 1), (22, (.getfield 7 : Instr), 3), (25, (.iconst 2 : Instr), 1), (26, (.iload_n 1 : Instr), 1), (27, (.iadd : Instr), 1), (28, (.iaload : Instr), 1), (29, (.goto 21 : Instr), 3), (32, (.iload_n 2 : Instr), 1), (33, (.iconst 1 : Instr), 1), (34, (.if_icmp .ne 15 : Instr), 3), (37, (.aload_n 0 : Instr), 1), (38, (.getfield 7 : Instr), 3), (41, (.bipush 10 : Instr), 2), (43, (.iload_n 1 : Instr), 1), (44, (.iadd : Instr), 1), (45, (.iaload : Instr), 1), (46, (.goto 4 : Instr), 3), (49, (.iconst (-1) : Instr), 1), (50, (.ireturn : Instr), 1)] : List (Nat × Instr × Nat)).all (fun q => decide (decode cX9_kind q.1 = .ok (q.2.1, q.2.2))) = true := by decide +kernel
theorem dX9_kind_0 : decode cX9_kind 0 = .ok (.aload_n 0, 1) := all_d dX9_kind_all0 0 rfl
theorem dX9_kind_1 : decode cX9_kind 1 = .ok (.iconst 0, 1) := all_d dX9_kind_all0 1 rfl
theorem dX9_kind_2 : decode cX9_kind 2 = .ok (.putfield 47, 3) := all_d dX9_kind_all0 2 rfl
theorem dX9_kind_5 : decode cX9_kind 5 = .ok (.aload_n 0, 1) := all_d dX9_kind_all0 3 rfl
theorem dX9_kind_6 : decode cX9_kind 6 = .ok (.iload_n 1, 1) := all_d dX9_kind_all0 4 rfl
theorem dX9_kind_7 : decode cX9_kind 7 = .ok (.invokevirtual 68, 3) := all_d dX9_kind_all0 5 rfl
theorem dX9_kind_10 : decode cX9_kind 10 = .ok (.ifCond .ne 7, 3) := all_d dX9_kind_all0 6 rfl
theorem dX9_kind_13 : decode cX9_kind 13 = .ok (.iconst (-1), 1) := all_d dX9_kind_all0 7 rfl
theorem dX9_kind_14 : decode cX9_kind 14 = .ok (.goto 36, 3) := all_d dX9_kind_all0 8 rfl
theorem dX9_kind_17 : decode cX9_kind 17 = .ok (.iload_n 2, 1) := all_d dX9_kind_all0 9 rfl
theorem dX9_kind_18 : decode cX9_kind 18 = .ok (.ifCond .ne 14, 3) := all_d dX9_kind_all0 10 rfl
theorem dX9_kind_21 : decode cX9_kind 21 = .ok (.aload_n 0, 1) := all_d dX9_kind_all0 11 rfl
theorem dX9_kind_22 : decode cX9_kind 22 = .ok (.getfield 7, 3) := all_d dX9_kind_all0 12 rfl
theorem dX9_kind_25 : decode cX9_kind 25 = .ok (.iconst 2, 1) := all_d dX9_kind_all0 13 rfl
theorem dX9_kind_26 : decode cX9_kind 26 = .ok (.iload_n 1, 1) := all_d dX9_kind_all0 14 rfl
theorem dX9_kind_27 : decode cX9_kind 27 = .ok (.iadd, 1) := all_d dX9_kind_all0 15 rfl
theorem dX9_kind_28 : decode cX9_kind 28 = .ok (.iaload, 1) := all_d dX9_kind_all0 16 rfl
theorem dX9_kind_29 : decode cX9_kind 29 = .ok (.goto 21, 3) := all_d dX9_kind_all0 17 rfl
theorem dX9_kind_32 : decode cX9_kind 32 = .ok (.iload_n 2, 1) := all_d dX9_kind_all0 18 rfl
theorem dX9_kind_33 : decode cX9_kind 33 = .ok (.iconst 1, 1) := all_d dX9_kind_all0 19 rfl
theorem dX9_kind_34 : decode cX9_kind 34 = .ok (.if_icmp .ne 15, 3) := all_d dX9_kind_all0 20 rfl
theorem dX9_kind_37 : decode cX9_kind 37 = .ok (.aload_n 0, 1) := all_d dX9_kind_all0 21 rfl
theorem dX9_kind_38 : decode cX9_kind 38 = .ok (.getfield 7, 3) := all_d dX9_kind_all0 22 rfl
theorem dX9_kind_41 : decode cX9_kind 41 = .ok (.bipush 10, 2) := all_d dX9_kind_all0 23 rfl
theorem dX9_kind_43 : decode cX9_kind 43 = .ok (.iload_n 1, 1) := all_d dX9_kind_all0 24 rfl
theorem dX9_kind_44 : decode cX9_kind 44 = .ok (.iadd, 1) := all_d dX9_kind_all0 25 rfl
theorem dX9_kind_45 : decode cX9_kind 45 = .ok (.iaload, 1) := all_d dX9_kind_all0 26 rfl
theorem dX9_kind_46 : decode cX9_kind 46 = .ok (.goto 4, 3) := all_d dX9_kind_all0 27 rfl
theorem dX9_kind_49 : decode cX9_kind 49 = .ok (.iconst (-1), 1) := all_d dX9_kind_all0 28 rfl
theorem dX9_kind_50 : decode cX9_kind 50 = .ok (.ireturn, 1) := all_d dX9_kind_all0 29 rfl
set_option maxRecDepth 100000 in
theorem dX9_held_all0 : ([(0, (.iload_n 1 : Instr), 1), (1, (.ldc 89 : Instr), 2), (3, (.if_icmp .le 8 : Instr), 3), (6, (.ldc 89 : Instr), 2), (8, (.goto 15 : Instr), 3), (11, (.iload_n 1 : Instr), 1), (12, (.ldc 90 : Instr), 2), (14, (.if_icmp .ge 8 : Instr), 3), (17, (.ldc 90 : Instr), 2), (19, (.goto 4 : Instr), 3), (22, (.iload_n 1 : Instr), 1), (23, (.ireturn : Instr), 1)] : List (Nat × Instr × Nat)).all (fun q => decide (decode cX9_held q.1 = .ok (q.2.1, q.2.2))) = true := by decide +kernel
theorem dX9_held_0 : decode cX9_held 0 = .ok (.iload_n 1, 1) := all_d dX9_held_all0 0 rfl
theorem dX9_held_1 : decode cX9_held 1 = .ok (.ldc 89, 2) := all_d dX9_held_all0 1 rfl
theorem dX9_held_3 : decode cX9_held 3 = .ok (.if_icmp .le 8, 3) := all_d dX9_held_all0 2 rfl
theorem dX9_held_6 : decode cX9_held 6 = .ok (.ldc 89, 2) := all_d dX9_held_all0 3 rfl
theorem dX9_held_8 : decode cX9_held 8 = .ok (.goto 15, 3) := all_d dX9_held_all0 4 rfl
theorem dX9_held_11 : decode cX9_held 11 = .ok (.iload_n 1, 1) := all_d dX9_held_all0 5 rfl
theorem dX9_held_12 : decode cX9_held 12 = .ok (.ldc 90, 2) := all_d dX9_held_all0 6 rfl
theorem dX9_held_14 : decode cX9_held 14 = .ok (.if_icmp .ge 8, 3) := all_d dX9_held_all0 7 rfl
theorem dX9_held_17 : decode cX9_held 17 = .ok (.ldc 90, 2) := all_d dX9_held_all0 8 rfl
theorem dX9_held_19 : decode cX9_held 19 = .ok (.goto 4, 3) := all_d dX9_held_all0 9 rfl
theorem dX9_held_22 : decode cX9_held 22 = .ok (.iload_n 1, 1) := all_d dX9_held_all0 10 rfl
theorem dX9_held_23 : decode cX9_held 23 = .ok (.ireturn, 1) := all_d dX9_held_all0 11 rfl
set_option maxRecDepth 100000 in
theorem dX9_reads_all0 : ([(0, (.aload_n 0 : Instr), 1), (1, (.getfield 7 : Instr), 3), (4, (.bipush 10 : Instr), 2), (6, (.iload_n 1 : Instr), 1), (7, (.iadd : Instr), 1), (8, (.iaload : Instr), 1), (9, (.istore_n 3 : Instr), 1), (10, (.aload_n 0 : Instr), 1), (11, (.getfield 7 : Instr), 3), (14, (.iconst 2 : Instr), 1), (15, (.iload_n 1 : Instr), 1), (16, (.iadd : Instr), 1), (17, (.iaload : Instr), 1), (18, (.istore 4 : Instr), 2), (20, (.aload_n 0 : Instr), 1), (21, (.iconst 0 : Instr), 1), (22, (.putfield 91 : Instr), 3), (25, (.aload_n 0 : Instr), 1), (26, (.iconst 0 : Instr), 1), (27, (.putfield 94 : Instr), 3), (30, (.aload_n 0 : Instr), 1), (31, (.iload_n 2 : Instr), 1), (32, (.putfield 97 : Instr), 3), (35, (.iconst 0 : Instr), 1), (36, (.istore 5 : Instr), 2), (38, (.iconst 0 : Instr), 1), (39, (.istore 6 : Instr), 2), (41, (.iconst 0 : Instr), 1), (42, (.istore 7 : Instr), 2), (44, (.iload 7 : Instr), 2), (46, (.iload_n 3 : Instr), 1), (47, (.if_icmp .ge 351 : Instr), 3), (50, (.aload_n 0 : Instr), 1), (51, (.iload_n 1 : Instr), 1), (52, (.iload 7 : Instr), 2), (54, (.invokevirtual 85 : Instr), 3), (57, (.istore 8 : Instr), 2), (59, (.aload_n 0 : Instr), 1), (60, (.getfield 7 : Instr), 3), (63, (.iload 8 : Instr), 2), (65, (.iaload : Instr), 1), (66, (.aload_n 0 : Instr), 1), (67, (.getfield 7 : Instr), 3), (70, (.iload 8 : Instr), 2), (72, (.iconst 1 : Instr), 1), (73, (.iadd : Instr), 1), (74, (.iaload : Instr), 1), (75, (.iadd : Instr), 1), (76, (.istore 9 : Instr), 2), (78, (.aload_n 0 : Instr), 1), (79, (.getfield 7 : Instr), 3), (82, (.iload 8 : Instr), 2), (84, (.iconst 2 : Instr), 1), (85, (.iadd : Instr), 1), (86, (.iaload : Instr), 1), (87, (.istore 10 : Instr), 2), (89, (.iconst 0 : Instr), 1), (90, (.istore 11 : Instr), 2), (92, (.iload 4 : Instr), 2), (94, (.tableswitch 159 0 2 #[26, 26, 109] : Instr), 26), (120, (.iload 4 : Instr), 2), (122, (.ifCond .ne 8 : Instr), 3), (125, (.iload 9 : Instr), 2), (127, (.goto 8 : Instr), 3), (130, (.iload 5 : Instr), 2), (132, (.iload 9 : Instr), 2), (134, (.iadd : Instr), 1), (135, (.istore 5 : Instr), 2), (137, (.iload 5 : Instr), 2), (139, (.iload_n 2 : Instr), 1), (140, (.if_icmp .gt 7 : Instr), 3), (143, (.iconst 1 : Instr), 1), (144, (.goto 4 : Instr), 3), (147, (.iconst 0 : Instr), 1), (148, (.istore 11 : Instr), 2), (150, (.aload_n 0 : Instr), 1), (151, (.dup : Instr), 1), (152, (.getfield 91 : Instr), 3), (155, (.iload 11 : Instr), 2), (157, (.ifCond .eq 7 : Instr), 3)] : List (Nat × Instr × Nat)).all (fun q => decide (decode cX9_reads q.1 = .ok (q.2.1, q.2.2))) = true := by decide +kernel
theorem dX9_reads_0 : decode cX9_reads 0 = .ok (.aload_n 0, 1) := all_d dX9_reads_all0 0 rfl
theorem dX9_reads_1 : decode cX9_reads 1 = .ok (.getfield 7, 3) := all_d dX9_reads_all0 1 rfl
theorem dX9_reads_4 : decode cX9_reads 4 = .ok (.bipush 10, 2) := all_d dX9_reads_all0 2 rfl
theorem dX9_reads_6 : decode cX9_reads 6 = .ok (.iload_n 1, 1) := all_d dX9_reads_all0 3 rfl
theorem dX9_reads_7 : decode cX9_reads 7 = .ok (.iadd, 1) := all_d dX9_reads_all0 4 rfl
theorem dX9_reads_8 : decode cX9_reads 8 = .ok (.iaload, 1) := all_d dX9_reads_all0 5 rfl
theorem dX9_reads_9 : decode cX9_reads 9 = .ok (.istore_n 3, 1) := all_d dX9_reads_all0 6 rfl
theorem dX9_reads_10 : decode cX9_reads 10 = .ok (.aload_n 0, 1) := all_d dX9_reads_all0 7 rfl
theorem dX9_reads_11 : decode cX9_reads 11 = .ok (.getfield 7, 3) := all_d dX9_reads_all0 8 rfl
theorem dX9_reads_14 : decode cX9_reads 14 = .ok (.iconst 2, 1) := all_d dX9_reads_all0 9 rfl
theorem dX9_reads_15 : decode cX9_reads 15 = .ok (.iload_n 1, 1) := all_d dX9_reads_all0 10 rfl
theorem dX9_reads_16 : decode cX9_reads 16 = .ok (.iadd, 1) := all_d dX9_reads_all0 11 rfl
theorem dX9_reads_17 : decode cX9_reads 17 = .ok (.iaload, 1) := all_d dX9_reads_all0 12 rfl
theorem dX9_reads_18 : decode cX9_reads 18 = .ok (.istore 4, 2) := all_d dX9_reads_all0 13 rfl
theorem dX9_reads_20 : decode cX9_reads 20 = .ok (.aload_n 0, 1) := all_d dX9_reads_all0 14 rfl
theorem dX9_reads_21 : decode cX9_reads 21 = .ok (.iconst 0, 1) := all_d dX9_reads_all0 15 rfl
theorem dX9_reads_22 : decode cX9_reads 22 = .ok (.putfield 91, 3) := all_d dX9_reads_all0 16 rfl
theorem dX9_reads_25 : decode cX9_reads 25 = .ok (.aload_n 0, 1) := all_d dX9_reads_all0 17 rfl
theorem dX9_reads_26 : decode cX9_reads 26 = .ok (.iconst 0, 1) := all_d dX9_reads_all0 18 rfl
theorem dX9_reads_27 : decode cX9_reads 27 = .ok (.putfield 94, 3) := all_d dX9_reads_all0 19 rfl
theorem dX9_reads_30 : decode cX9_reads 30 = .ok (.aload_n 0, 1) := all_d dX9_reads_all0 20 rfl
theorem dX9_reads_31 : decode cX9_reads 31 = .ok (.iload_n 2, 1) := all_d dX9_reads_all0 21 rfl
theorem dX9_reads_32 : decode cX9_reads 32 = .ok (.putfield 97, 3) := all_d dX9_reads_all0 22 rfl
theorem dX9_reads_35 : decode cX9_reads 35 = .ok (.iconst 0, 1) := all_d dX9_reads_all0 23 rfl
theorem dX9_reads_36 : decode cX9_reads 36 = .ok (.istore 5, 2) := all_d dX9_reads_all0 24 rfl
theorem dX9_reads_38 : decode cX9_reads 38 = .ok (.iconst 0, 1) := all_d dX9_reads_all0 25 rfl
theorem dX9_reads_39 : decode cX9_reads 39 = .ok (.istore 6, 2) := all_d dX9_reads_all0 26 rfl
theorem dX9_reads_41 : decode cX9_reads 41 = .ok (.iconst 0, 1) := all_d dX9_reads_all0 27 rfl
theorem dX9_reads_42 : decode cX9_reads 42 = .ok (.istore 7, 2) := all_d dX9_reads_all0 28 rfl
theorem dX9_reads_44 : decode cX9_reads 44 = .ok (.iload 7, 2) := all_d dX9_reads_all0 29 rfl
theorem dX9_reads_46 : decode cX9_reads 46 = .ok (.iload_n 3, 1) := all_d dX9_reads_all0 30 rfl
theorem dX9_reads_47 : decode cX9_reads 47 = .ok (.if_icmp .ge 351, 3) := all_d dX9_reads_all0 31 rfl
theorem dX9_reads_50 : decode cX9_reads 50 = .ok (.aload_n 0, 1) := all_d dX9_reads_all0 32 rfl
theorem dX9_reads_51 : decode cX9_reads 51 = .ok (.iload_n 1, 1) := all_d dX9_reads_all0 33 rfl
theorem dX9_reads_52 : decode cX9_reads 52 = .ok (.iload 7, 2) := all_d dX9_reads_all0 34 rfl
theorem dX9_reads_54 : decode cX9_reads 54 = .ok (.invokevirtual 85, 3) := all_d dX9_reads_all0 35 rfl
theorem dX9_reads_57 : decode cX9_reads 57 = .ok (.istore 8, 2) := all_d dX9_reads_all0 36 rfl
theorem dX9_reads_59 : decode cX9_reads 59 = .ok (.aload_n 0, 1) := all_d dX9_reads_all0 37 rfl
theorem dX9_reads_60 : decode cX9_reads 60 = .ok (.getfield 7, 3) := all_d dX9_reads_all0 38 rfl
theorem dX9_reads_63 : decode cX9_reads 63 = .ok (.iload 8, 2) := all_d dX9_reads_all0 39 rfl
theorem dX9_reads_65 : decode cX9_reads 65 = .ok (.iaload, 1) := all_d dX9_reads_all0 40 rfl
theorem dX9_reads_66 : decode cX9_reads 66 = .ok (.aload_n 0, 1) := all_d dX9_reads_all0 41 rfl
theorem dX9_reads_67 : decode cX9_reads 67 = .ok (.getfield 7, 3) := all_d dX9_reads_all0 42 rfl
theorem dX9_reads_70 : decode cX9_reads 70 = .ok (.iload 8, 2) := all_d dX9_reads_all0 43 rfl
theorem dX9_reads_72 : decode cX9_reads 72 = .ok (.iconst 1, 1) := all_d dX9_reads_all0 44 rfl
theorem dX9_reads_73 : decode cX9_reads 73 = .ok (.iadd, 1) := all_d dX9_reads_all0 45 rfl
theorem dX9_reads_74 : decode cX9_reads 74 = .ok (.iaload, 1) := all_d dX9_reads_all0 46 rfl
theorem dX9_reads_75 : decode cX9_reads 75 = .ok (.iadd, 1) := all_d dX9_reads_all0 47 rfl
theorem dX9_reads_76 : decode cX9_reads 76 = .ok (.istore 9, 2) := all_d dX9_reads_all0 48 rfl
theorem dX9_reads_78 : decode cX9_reads 78 = .ok (.aload_n 0, 1) := all_d dX9_reads_all0 49 rfl
theorem dX9_reads_79 : decode cX9_reads 79 = .ok (.getfield 7, 3) := all_d dX9_reads_all0 50 rfl
theorem dX9_reads_82 : decode cX9_reads 82 = .ok (.iload 8, 2) := all_d dX9_reads_all0 51 rfl
theorem dX9_reads_84 : decode cX9_reads 84 = .ok (.iconst 2, 1) := all_d dX9_reads_all0 52 rfl
theorem dX9_reads_85 : decode cX9_reads 85 = .ok (.iadd, 1) := all_d dX9_reads_all0 53 rfl
theorem dX9_reads_86 : decode cX9_reads 86 = .ok (.iaload, 1) := all_d dX9_reads_all0 54 rfl
theorem dX9_reads_87 : decode cX9_reads 87 = .ok (.istore 10, 2) := all_d dX9_reads_all0 55 rfl
theorem dX9_reads_89 : decode cX9_reads 89 = .ok (.iconst 0, 1) := all_d dX9_reads_all0 56 rfl
theorem dX9_reads_90 : decode cX9_reads 90 = .ok (.istore 11, 2) := all_d dX9_reads_all0 57 rfl
theorem dX9_reads_92 : decode cX9_reads 92 = .ok (.iload 4, 2) := all_d dX9_reads_all0 58 rfl
theorem dX9_reads_94 : decode cX9_reads 94 = .ok (.tableswitch 159 0 2 #[26, 26, 109], 26) := all_d dX9_reads_all0 59 rfl
theorem dX9_reads_120 : decode cX9_reads 120 = .ok (.iload 4, 2) := all_d dX9_reads_all0 60 rfl
theorem dX9_reads_122 : decode cX9_reads 122 = .ok (.ifCond .ne 8, 3) := all_d dX9_reads_all0 61 rfl
theorem dX9_reads_125 : decode cX9_reads 125 = .ok (.iload 9, 2) := all_d dX9_reads_all0 62 rfl
theorem dX9_reads_127 : decode cX9_reads 127 = .ok (.goto 8, 3) := all_d dX9_reads_all0 63 rfl
theorem dX9_reads_130 : decode cX9_reads 130 = .ok (.iload 5, 2) := all_d dX9_reads_all0 64 rfl
theorem dX9_reads_132 : decode cX9_reads 132 = .ok (.iload 9, 2) := all_d dX9_reads_all0 65 rfl
theorem dX9_reads_134 : decode cX9_reads 134 = .ok (.iadd, 1) := all_d dX9_reads_all0 66 rfl
theorem dX9_reads_135 : decode cX9_reads 135 = .ok (.istore 5, 2) := all_d dX9_reads_all0 67 rfl
theorem dX9_reads_137 : decode cX9_reads 137 = .ok (.iload 5, 2) := all_d dX9_reads_all0 68 rfl
theorem dX9_reads_139 : decode cX9_reads 139 = .ok (.iload_n 2, 1) := all_d dX9_reads_all0 69 rfl
theorem dX9_reads_140 : decode cX9_reads 140 = .ok (.if_icmp .gt 7, 3) := all_d dX9_reads_all0 70 rfl
theorem dX9_reads_143 : decode cX9_reads 143 = .ok (.iconst 1, 1) := all_d dX9_reads_all0 71 rfl
theorem dX9_reads_144 : decode cX9_reads 144 = .ok (.goto 4, 3) := all_d dX9_reads_all0 72 rfl
theorem dX9_reads_147 : decode cX9_reads 147 = .ok (.iconst 0, 1) := all_d dX9_reads_all0 73 rfl
theorem dX9_reads_148 : decode cX9_reads 148 = .ok (.istore 11, 2) := all_d dX9_reads_all0 74 rfl
theorem dX9_reads_150 : decode cX9_reads 150 = .ok (.aload_n 0, 1) := all_d dX9_reads_all0 75 rfl
theorem dX9_reads_151 : decode cX9_reads 151 = .ok (.dup, 1) := all_d dX9_reads_all0 76 rfl
theorem dX9_reads_152 : decode cX9_reads 152 = .ok (.getfield 91, 3) := all_d dX9_reads_all0 77 rfl
theorem dX9_reads_155 : decode cX9_reads 155 = .ok (.iload 11, 2) := all_d dX9_reads_all0 78 rfl
theorem dX9_reads_157 : decode cX9_reads 157 = .ok (.ifCond .eq 7, 3) := all_d dX9_reads_all0 79 rfl
set_option maxRecDepth 100000 in
theorem dX9_reads_all1 : ([(160, (.iconst 1 : Instr), 1), (161, (.goto 4 : Instr), 3), (164, (.iconst 0 : Instr), 1), (165, (.iadd : Instr), 1), (166, (.putfield 91 : Instr), 3), (169, (.iload 11 : Instr), 2), (171, (.ifCond .eq 199 : Instr), 3), (174, (.aload_n 0 : Instr), 1), (175, (.getfield 94 : Instr), 3), (178, (.ifCond .eq 14 : Instr), 3), (181, (.iload_n 2 : Instr), 1), (182, (.iload 5 : Instr), 2), (184, (.isub : Instr), 1), (185, (.aload_n 0 : Instr), 1), (186, (.getfield 97 : Instr), 3), (189, (.if_icmp .ge 181 : Instr), 3), (192, (.aload_n 0 : Instr), 1), (193, (.iload_n 2 : Instr), 1), (194, (.iload 5 : Instr), 2), (196, (.isub : Instr), 1), (197, (.putfield 97 : Instr), 3), (200, (.goto 170 : Instr), 3), (203, (.iload 5 : Instr), 2), (205, (.iload 9 : Instr), 2), (207, (.iadd : Instr), 1), (208, (.iload_n 2 : Instr), 1), (209, (.if_icmp .gt 7 : Instr), 3), (212, (.iconst 1 : Instr), 1), (213, (.goto 4 : Instr), 3), (216, (.iconst 0 : Instr), 1), (217, (.istore 11 : Instr), 2), (219, (.iload 11 : Instr), 2), (221, (.ifCond .eq 149 : Instr), 3), (224, (.iload 5 : Instr), 2), (226, (.iload 9 : Instr), 2), (228, (.iadd : Instr), 1), (229, (.istore 5 : Instr), 2), (231, (.aload_n 0 : Instr), 1), (232, (.dup : Instr), 1), (233, (.getfield 91 : Instr), 3), (236, (.iload 10 : Instr), 2), (238, (.iadd : Instr), 1), (239, (.putfield 91 : Instr), 3), (242, (.aload_n 0 : Instr), 1), (243, (.iload_n 2 : Instr), 1), (244, (.iload 5 : Instr), 2), (246, (.isub : Instr), 1), (247, (.putfield 97 : Instr), 3), (250, (.goto 120 : Instr), 3), (253, (.aload_n 0 : Instr), 1), (254, (.getfield 97 : Instr), 3), (257, (.aload_n 0 : Instr), 1), (258, (.getfield 7 : Instr), 3), (261, (.iload 8 : Instr), 2), (263, (.iconst 3 : Instr), 1), (264, (.iadd : Instr), 1), (265, (.iaload : Instr), 1), (266, (.if_icmp .lt 7 : Instr), 3), (269, (.iconst 1 : Instr), 1), (270, (.goto 4 : Instr), 3), (273, (.iconst 0 : Instr), 1), (274, (.istore 11 : Instr), 2), (276, (.iload 6 : Instr), 2), (278, (.iload 11 : Instr), 2), (280, (.if_icmp .eq 7 : Instr), 3), (283, (.iconst 1 : Instr), 1), (284, (.goto 4 : Instr), 3), (287, (.iconst 0 : Instr), 1), (288, (.istore 6 : Instr), 2), (290, (.iload 11 : Instr), 2), (292, (.ifCond .eq 30 : Instr), 3), (295, (.aload_n 0 : Instr), 1), (296, (.iload 4 : Instr), 2), (298, (.iconst 3 : Instr), 1), (299, (.if_icmp .ne 13 : Instr), 3), (302, (.aload_n 0 : Instr), 1), (303, (.getfield 97 : Instr), 3), (306, (.iload 9 : Instr), 2), (308, (.isub : Instr), 1), (309, (.goto 10 : Instr), 3)] : List (Nat × Instr × Nat)).all (fun q => decide (decode cX9_reads q.1 = .ok (q.2.1, q.2.2))) = true := by decide +kernel
theorem dX9_reads_160 : decode cX9_reads 160 = .ok (.iconst 1, 1) := all_d dX9_reads_all1 0 rfl
theorem dX9_reads_161 : decode cX9_reads 161 = .ok (.goto 4, 3) := all_d dX9_reads_all1 1 rfl
theorem dX9_reads_164 : decode cX9_reads 164 = .ok (.iconst 0, 1) := all_d dX9_reads_all1 2 rfl
theorem dX9_reads_165 : decode cX9_reads 165 = .ok (.iadd, 1) := all_d dX9_reads_all1 3 rfl
theorem dX9_reads_166 : decode cX9_reads 166 = .ok (.putfield 91, 3) := all_d dX9_reads_all1 4 rfl
theorem dX9_reads_169 : decode cX9_reads 169 = .ok (.iload 11, 2) := all_d dX9_reads_all1 5 rfl
theorem dX9_reads_171 : decode cX9_reads 171 = .ok (.ifCond .eq 199, 3) := all_d dX9_reads_all1 6 rfl
theorem dX9_reads_174 : decode cX9_reads 174 = .ok (.aload_n 0, 1) := all_d dX9_reads_all1 7 rfl
theorem dX9_reads_175 : decode cX9_reads 175 = .ok (.getfield 94, 3) := all_d dX9_reads_all1 8 rfl
theorem dX9_reads_178 : decode cX9_reads 178 = .ok (.ifCond .eq 14, 3) := all_d dX9_reads_all1 9 rfl
theorem dX9_reads_181 : decode cX9_reads 181 = .ok (.iload_n 2, 1) := all_d dX9_reads_all1 10 rfl
theorem dX9_reads_182 : decode cX9_reads 182 = .ok (.iload 5, 2) := all_d dX9_reads_all1 11 rfl
theorem dX9_reads_184 : decode cX9_reads 184 = .ok (.isub, 1) := all_d dX9_reads_all1 12 rfl
theorem dX9_reads_185 : decode cX9_reads 185 = .ok (.aload_n 0, 1) := all_d dX9_reads_all1 13 rfl
theorem dX9_reads_186 : decode cX9_reads 186 = .ok (.getfield 97, 3) := all_d dX9_reads_all1 14 rfl
theorem dX9_reads_189 : decode cX9_reads 189 = .ok (.if_icmp .ge 181, 3) := all_d dX9_reads_all1 15 rfl
theorem dX9_reads_192 : decode cX9_reads 192 = .ok (.aload_n 0, 1) := all_d dX9_reads_all1 16 rfl
theorem dX9_reads_193 : decode cX9_reads 193 = .ok (.iload_n 2, 1) := all_d dX9_reads_all1 17 rfl
theorem dX9_reads_194 : decode cX9_reads 194 = .ok (.iload 5, 2) := all_d dX9_reads_all1 18 rfl
theorem dX9_reads_196 : decode cX9_reads 196 = .ok (.isub, 1) := all_d dX9_reads_all1 19 rfl
theorem dX9_reads_197 : decode cX9_reads 197 = .ok (.putfield 97, 3) := all_d dX9_reads_all1 20 rfl
theorem dX9_reads_200 : decode cX9_reads 200 = .ok (.goto 170, 3) := all_d dX9_reads_all1 21 rfl
theorem dX9_reads_203 : decode cX9_reads 203 = .ok (.iload 5, 2) := all_d dX9_reads_all1 22 rfl
theorem dX9_reads_205 : decode cX9_reads 205 = .ok (.iload 9, 2) := all_d dX9_reads_all1 23 rfl
theorem dX9_reads_207 : decode cX9_reads 207 = .ok (.iadd, 1) := all_d dX9_reads_all1 24 rfl
theorem dX9_reads_208 : decode cX9_reads 208 = .ok (.iload_n 2, 1) := all_d dX9_reads_all1 25 rfl
theorem dX9_reads_209 : decode cX9_reads 209 = .ok (.if_icmp .gt 7, 3) := all_d dX9_reads_all1 26 rfl
theorem dX9_reads_212 : decode cX9_reads 212 = .ok (.iconst 1, 1) := all_d dX9_reads_all1 27 rfl
theorem dX9_reads_213 : decode cX9_reads 213 = .ok (.goto 4, 3) := all_d dX9_reads_all1 28 rfl
theorem dX9_reads_216 : decode cX9_reads 216 = .ok (.iconst 0, 1) := all_d dX9_reads_all1 29 rfl
theorem dX9_reads_217 : decode cX9_reads 217 = .ok (.istore 11, 2) := all_d dX9_reads_all1 30 rfl
theorem dX9_reads_219 : decode cX9_reads 219 = .ok (.iload 11, 2) := all_d dX9_reads_all1 31 rfl
theorem dX9_reads_221 : decode cX9_reads 221 = .ok (.ifCond .eq 149, 3) := all_d dX9_reads_all1 32 rfl
theorem dX9_reads_224 : decode cX9_reads 224 = .ok (.iload 5, 2) := all_d dX9_reads_all1 33 rfl
theorem dX9_reads_226 : decode cX9_reads 226 = .ok (.iload 9, 2) := all_d dX9_reads_all1 34 rfl
theorem dX9_reads_228 : decode cX9_reads 228 = .ok (.iadd, 1) := all_d dX9_reads_all1 35 rfl
theorem dX9_reads_229 : decode cX9_reads 229 = .ok (.istore 5, 2) := all_d dX9_reads_all1 36 rfl
theorem dX9_reads_231 : decode cX9_reads 231 = .ok (.aload_n 0, 1) := all_d dX9_reads_all1 37 rfl
theorem dX9_reads_232 : decode cX9_reads 232 = .ok (.dup, 1) := all_d dX9_reads_all1 38 rfl
theorem dX9_reads_233 : decode cX9_reads 233 = .ok (.getfield 91, 3) := all_d dX9_reads_all1 39 rfl
theorem dX9_reads_236 : decode cX9_reads 236 = .ok (.iload 10, 2) := all_d dX9_reads_all1 40 rfl
theorem dX9_reads_238 : decode cX9_reads 238 = .ok (.iadd, 1) := all_d dX9_reads_all1 41 rfl
theorem dX9_reads_239 : decode cX9_reads 239 = .ok (.putfield 91, 3) := all_d dX9_reads_all1 42 rfl
theorem dX9_reads_242 : decode cX9_reads 242 = .ok (.aload_n 0, 1) := all_d dX9_reads_all1 43 rfl
theorem dX9_reads_243 : decode cX9_reads 243 = .ok (.iload_n 2, 1) := all_d dX9_reads_all1 44 rfl
theorem dX9_reads_244 : decode cX9_reads 244 = .ok (.iload 5, 2) := all_d dX9_reads_all1 45 rfl
theorem dX9_reads_246 : decode cX9_reads 246 = .ok (.isub, 1) := all_d dX9_reads_all1 46 rfl
theorem dX9_reads_247 : decode cX9_reads 247 = .ok (.putfield 97, 3) := all_d dX9_reads_all1 47 rfl
theorem dX9_reads_250 : decode cX9_reads 250 = .ok (.goto 120, 3) := all_d dX9_reads_all1 48 rfl
theorem dX9_reads_253 : decode cX9_reads 253 = .ok (.aload_n 0, 1) := all_d dX9_reads_all1 49 rfl
theorem dX9_reads_254 : decode cX9_reads 254 = .ok (.getfield 97, 3) := all_d dX9_reads_all1 50 rfl
theorem dX9_reads_257 : decode cX9_reads 257 = .ok (.aload_n 0, 1) := all_d dX9_reads_all1 51 rfl
theorem dX9_reads_258 : decode cX9_reads 258 = .ok (.getfield 7, 3) := all_d dX9_reads_all1 52 rfl
theorem dX9_reads_261 : decode cX9_reads 261 = .ok (.iload 8, 2) := all_d dX9_reads_all1 53 rfl
theorem dX9_reads_263 : decode cX9_reads 263 = .ok (.iconst 3, 1) := all_d dX9_reads_all1 54 rfl
theorem dX9_reads_264 : decode cX9_reads 264 = .ok (.iadd, 1) := all_d dX9_reads_all1 55 rfl
theorem dX9_reads_265 : decode cX9_reads 265 = .ok (.iaload, 1) := all_d dX9_reads_all1 56 rfl
theorem dX9_reads_266 : decode cX9_reads 266 = .ok (.if_icmp .lt 7, 3) := all_d dX9_reads_all1 57 rfl
theorem dX9_reads_269 : decode cX9_reads 269 = .ok (.iconst 1, 1) := all_d dX9_reads_all1 58 rfl
theorem dX9_reads_270 : decode cX9_reads 270 = .ok (.goto 4, 3) := all_d dX9_reads_all1 59 rfl
theorem dX9_reads_273 : decode cX9_reads 273 = .ok (.iconst 0, 1) := all_d dX9_reads_all1 60 rfl
theorem dX9_reads_274 : decode cX9_reads 274 = .ok (.istore 11, 2) := all_d dX9_reads_all1 61 rfl
theorem dX9_reads_276 : decode cX9_reads 276 = .ok (.iload 6, 2) := all_d dX9_reads_all1 62 rfl
theorem dX9_reads_278 : decode cX9_reads 278 = .ok (.iload 11, 2) := all_d dX9_reads_all1 63 rfl
theorem dX9_reads_280 : decode cX9_reads 280 = .ok (.if_icmp .eq 7, 3) := all_d dX9_reads_all1 64 rfl
theorem dX9_reads_283 : decode cX9_reads 283 = .ok (.iconst 1, 1) := all_d dX9_reads_all1 65 rfl
theorem dX9_reads_284 : decode cX9_reads 284 = .ok (.goto 4, 3) := all_d dX9_reads_all1 66 rfl
theorem dX9_reads_287 : decode cX9_reads 287 = .ok (.iconst 0, 1) := all_d dX9_reads_all1 67 rfl
theorem dX9_reads_288 : decode cX9_reads 288 = .ok (.istore 6, 2) := all_d dX9_reads_all1 68 rfl
theorem dX9_reads_290 : decode cX9_reads 290 = .ok (.iload 11, 2) := all_d dX9_reads_all1 69 rfl
theorem dX9_reads_292 : decode cX9_reads 292 = .ok (.ifCond .eq 30, 3) := all_d dX9_reads_all1 70 rfl
theorem dX9_reads_295 : decode cX9_reads 295 = .ok (.aload_n 0, 1) := all_d dX9_reads_all1 71 rfl
theorem dX9_reads_296 : decode cX9_reads 296 = .ok (.iload 4, 2) := all_d dX9_reads_all1 72 rfl
theorem dX9_reads_298 : decode cX9_reads 298 = .ok (.iconst 3, 1) := all_d dX9_reads_all1 73 rfl
theorem dX9_reads_299 : decode cX9_reads 299 = .ok (.if_icmp .ne 13, 3) := all_d dX9_reads_all1 74 rfl
theorem dX9_reads_302 : decode cX9_reads 302 = .ok (.aload_n 0, 1) := all_d dX9_reads_all1 75 rfl
theorem dX9_reads_303 : decode cX9_reads 303 = .ok (.getfield 97, 3) := all_d dX9_reads_all1 76 rfl
theorem dX9_reads_306 : decode cX9_reads 306 = .ok (.iload 9, 2) := all_d dX9_reads_all1 77 rfl
theorem dX9_reads_308 : decode cX9_reads 308 = .ok (.isub, 1) := all_d dX9_reads_all1 78 rfl
theorem dX9_reads_309 : decode cX9_reads 309 = .ok (.goto 10, 3) := all_d dX9_reads_all1 79 rfl
set_option maxRecDepth 100000 in
theorem dX9_reads_all2 : ([(312, (.iload 9 : Instr), 2), (314, (.aload_n 0 : Instr), 1), (315, (.getfield 97 : Instr), 3), (318, (.isub : Instr), 1), (319, (.putfield 97 : Instr), 3), (322, (.aload_n 0 : Instr), 1), (323, (.aload_n 0 : Instr), 1), (324, (.iconst 2 : Instr), 1), (325, (.aload_n 0 : Instr), 1), (326, (.getfield 97 : Instr), 3), (329, (.imul : Instr), 1), (330, (.invokevirtual 100 : Instr), 3), (333, (.putfield 97 : Instr), 3), (336, (.aload_n 0 : Instr), 1), (337, (.dup : Instr), 1), (338, (.getfield 91 : Instr), 3), (341, (.iload 4 : Instr), 2), (343, (.iconst 3 : Instr), 1), (344, (.if_icmp .ne 11 : Instr), 3), (347, (.iload 11 : Instr), 2), (349, (.ifCond .eq 16 : Instr), 3), (352, (.goto 8 : Instr), 3), (355, (.iload 6 : Instr), 2), (357, (.ifCond .eq 8 : Instr), 3), (360, (.iload 10 : Instr), 2), (362, (.goto 4 : Instr), 3), (365, (.iconst 0 : Instr), 1), (366, (.iadd : Instr), 1), (367, (.putfield 91 : Instr), 3), (370, (.aload_n 0 : Instr), 1), (371, (.dup : Instr), 1), (372, (.getfield 94 : Instr), 3), (375, (.iload 11 : Instr), 2), (377, (.ifCond .eq 10 : Instr), 3), (380, (.iconst 1 : Instr), 1), (381, (.iload 7 : Instr), 2), (383, (.ishl : Instr), 1), (384, (.goto 4 : Instr), 3), (387, (.iconst 0 : Instr), 1), (388, (.ior : Instr), 1), (389, (.putfield 94 : Instr), 3), (392, (.iinc 7 1 : Instr), 3), (395, (.goto (-351) : Instr), 3), (398, (.return_ : Instr), 1)] : List (Nat × Instr × Nat)).all (fun q => decide (decode cX9_reads q.1 = .ok (q.2.1, q.2.2))) = true := by decide +kernel
theorem dX9_reads_312 : decode cX9_reads 312 = .ok (.iload 9, 2) := all_d dX9_reads_all2 0 rfl
theorem dX9_reads_314 : decode cX9_reads 314 = .ok (.aload_n 0, 1) := all_d dX9_reads_all2 1 rfl
theorem dX9_reads_315 : decode cX9_reads 315 = .ok (.getfield 97, 3) := all_d dX9_reads_all2 2 rfl
theorem dX9_reads_318 : decode cX9_reads 318 = .ok (.isub, 1) := all_d dX9_reads_all2 3 rfl
theorem dX9_reads_319 : decode cX9_reads 319 = .ok (.putfield 97, 3) := all_d dX9_reads_all2 4 rfl
theorem dX9_reads_322 : decode cX9_reads 322 = .ok (.aload_n 0, 1) := all_d dX9_reads_all2 5 rfl
theorem dX9_reads_323 : decode cX9_reads 323 = .ok (.aload_n 0, 1) := all_d dX9_reads_all2 6 rfl
theorem dX9_reads_324 : decode cX9_reads 324 = .ok (.iconst 2, 1) := all_d dX9_reads_all2 7 rfl
theorem dX9_reads_325 : decode cX9_reads 325 = .ok (.aload_n 0, 1) := all_d dX9_reads_all2 8 rfl
theorem dX9_reads_326 : decode cX9_reads 326 = .ok (.getfield 97, 3) := all_d dX9_reads_all2 9 rfl
theorem dX9_reads_329 : decode cX9_reads 329 = .ok (.imul, 1) := all_d dX9_reads_all2 10 rfl
theorem dX9_reads_330 : decode cX9_reads 330 = .ok (.invokevirtual 100, 3) := all_d dX9_reads_all2 11 rfl
theorem dX9_reads_333 : decode cX9_reads 333 = .ok (.putfield 97, 3) := all_d dX9_reads_all2 12 rfl
theorem dX9_reads_336 : decode cX9_reads 336 = .ok (.aload_n 0, 1) := all_d dX9_reads_all2 13 rfl
theorem dX9_reads_337 : decode cX9_reads 337 = .ok (.dup, 1) := all_d dX9_reads_all2 14 rfl
theorem dX9_reads_338 : decode cX9_reads 338 = .ok (.getfield 91, 3) := all_d dX9_reads_all2 15 rfl
theorem dX9_reads_341 : decode cX9_reads 341 = .ok (.iload 4, 2) := all_d dX9_reads_all2 16 rfl
theorem dX9_reads_343 : decode cX9_reads 343 = .ok (.iconst 3, 1) := all_d dX9_reads_all2 17 rfl
theorem dX9_reads_344 : decode cX9_reads 344 = .ok (.if_icmp .ne 11, 3) := all_d dX9_reads_all2 18 rfl
theorem dX9_reads_347 : decode cX9_reads 347 = .ok (.iload 11, 2) := all_d dX9_reads_all2 19 rfl
theorem dX9_reads_349 : decode cX9_reads 349 = .ok (.ifCond .eq 16, 3) := all_d dX9_reads_all2 20 rfl
theorem dX9_reads_352 : decode cX9_reads 352 = .ok (.goto 8, 3) := all_d dX9_reads_all2 21 rfl
theorem dX9_reads_355 : decode cX9_reads 355 = .ok (.iload 6, 2) := all_d dX9_reads_all2 22 rfl
theorem dX9_reads_357 : decode cX9_reads 357 = .ok (.ifCond .eq 8, 3) := all_d dX9_reads_all2 23 rfl
theorem dX9_reads_360 : decode cX9_reads 360 = .ok (.iload 10, 2) := all_d dX9_reads_all2 24 rfl
theorem dX9_reads_362 : decode cX9_reads 362 = .ok (.goto 4, 3) := all_d dX9_reads_all2 25 rfl
theorem dX9_reads_365 : decode cX9_reads 365 = .ok (.iconst 0, 1) := all_d dX9_reads_all2 26 rfl
theorem dX9_reads_366 : decode cX9_reads 366 = .ok (.iadd, 1) := all_d dX9_reads_all2 27 rfl
theorem dX9_reads_367 : decode cX9_reads 367 = .ok (.putfield 91, 3) := all_d dX9_reads_all2 28 rfl
theorem dX9_reads_370 : decode cX9_reads 370 = .ok (.aload_n 0, 1) := all_d dX9_reads_all2 29 rfl
theorem dX9_reads_371 : decode cX9_reads 371 = .ok (.dup, 1) := all_d dX9_reads_all2 30 rfl
theorem dX9_reads_372 : decode cX9_reads 372 = .ok (.getfield 94, 3) := all_d dX9_reads_all2 31 rfl
theorem dX9_reads_375 : decode cX9_reads 375 = .ok (.iload 11, 2) := all_d dX9_reads_all2 32 rfl
theorem dX9_reads_377 : decode cX9_reads 377 = .ok (.ifCond .eq 10, 3) := all_d dX9_reads_all2 33 rfl
theorem dX9_reads_380 : decode cX9_reads 380 = .ok (.iconst 1, 1) := all_d dX9_reads_all2 34 rfl
theorem dX9_reads_381 : decode cX9_reads 381 = .ok (.iload 7, 2) := all_d dX9_reads_all2 35 rfl
theorem dX9_reads_383 : decode cX9_reads 383 = .ok (.ishl, 1) := all_d dX9_reads_all2 36 rfl
theorem dX9_reads_384 : decode cX9_reads 384 = .ok (.goto 4, 3) := all_d dX9_reads_all2 37 rfl
theorem dX9_reads_387 : decode cX9_reads 387 = .ok (.iconst 0, 1) := all_d dX9_reads_all2 38 rfl
theorem dX9_reads_388 : decode cX9_reads 388 = .ok (.ior, 1) := all_d dX9_reads_all2 39 rfl
theorem dX9_reads_389 : decode cX9_reads 389 = .ok (.putfield 94, 3) := all_d dX9_reads_all2 40 rfl
theorem dX9_reads_392 : decode cX9_reads 392 = .ok (.iinc 7 1, 3) := all_d dX9_reads_all2 41 rfl
theorem dX9_reads_395 : decode cX9_reads 395 = .ok (.goto (-351), 3) := all_d dX9_reads_all2 42 rfl
theorem dX9_reads_398 : decode cX9_reads 398 = .ok (.return_, 1) := all_d dX9_reads_all2 43 rfl
set_option maxRecDepth 100000 in
theorem dX9_codeOf_all0 : ([(0, (.aload_n 0 : Instr), 1), (1, (.iload_n 1 : Instr), 1), (2, (.iload_n 2 : Instr), 1), (3, (.invokevirtual 103 : Instr), 3), (6, (.aload_n 0 : Instr), 1), (7, (.getfield 91 : Instr), 3), (10, (.ireturn : Instr), 1)] : List (Nat × Instr × Nat)).all (fun q => decide (decode cX9_codeOf q.1 = .ok (q.2.1, q.2.2))) = true := by decide +kernel
theorem dX9_codeOf_0 : decode cX9_codeOf 0 = .ok (.aload_n 0, 1) := all_d dX9_codeOf_all0 0 rfl
theorem dX9_codeOf_1 : decode cX9_codeOf 1 = .ok (.iload_n 1, 1) := all_d dX9_codeOf_all0 1 rfl
theorem dX9_codeOf_2 : decode cX9_codeOf 2 = .ok (.iload_n 2, 1) := all_d dX9_codeOf_all0 2 rfl
theorem dX9_codeOf_3 : decode cX9_codeOf 3 = .ok (.invokevirtual 103, 3) := all_d dX9_codeOf_all0 3 rfl
theorem dX9_codeOf_6 : decode cX9_codeOf 6 = .ok (.aload_n 0, 1) := all_d dX9_codeOf_all0 4 rfl
theorem dX9_codeOf_7 : decode cX9_codeOf 7 = .ok (.getfield 91, 3) := all_d dX9_codeOf_all0 5 rfl
theorem dX9_codeOf_10 : decode cX9_codeOf 10 = .ok (.ireturn, 1) := all_d dX9_codeOf_all0 6 rfl
set_option maxRecDepth 100000 in
theorem dX9_read_all0 : ([(0, (.aload_n 0 : Instr), 1), (1, (.iconst 0 : Instr), 1), (2, (.putfield 47 : Instr), 3), (5, (.aload_n 0 : Instr), 1), (6, (.iload_n 1 : Instr), 1), (7, (.invokevirtual 68 : Instr), 3), (10, (.ifCond .eq 20 : Instr), 3), (13, (.aload_n 0 : Instr), 1), (14, (.iload_n 2 : Instr), 1), (15, (.invokevirtual 107 : Instr), 3), (18, (.ifCond .eq 12 : Instr), 3), (21, (.aload_n 0 : Instr), 1), (22, (.iload_n 1 : Instr), 1), (23, (.iload_n 2 : Instr), 1), (24, (.invokevirtual 110 : Instr), 3), (27, (.goto 5 : Instr), 3), (30, (.ldc 113 : Instr), 2), (32, (.ireturn : Instr), 1)] : List (Nat × Instr × Nat)).all (fun q => decide (decode cX9_read q.1 = .ok (q.2.1, q.2.2))) = true := by decide +kernel
theorem dX9_read_0 : decode cX9_read 0 = .ok (.aload_n 0, 1) := all_d dX9_read_all0 0 rfl
theorem dX9_read_1 : decode cX9_read 1 = .ok (.iconst 0, 1) := all_d dX9_read_all0 1 rfl
theorem dX9_read_2 : decode cX9_read 2 = .ok (.putfield 47, 3) := all_d dX9_read_all0 2 rfl
theorem dX9_read_5 : decode cX9_read 5 = .ok (.aload_n 0, 1) := all_d dX9_read_all0 3 rfl
theorem dX9_read_6 : decode cX9_read 6 = .ok (.iload_n 1, 1) := all_d dX9_read_all0 4 rfl
theorem dX9_read_7 : decode cX9_read 7 = .ok (.invokevirtual 68, 3) := all_d dX9_read_all0 5 rfl
theorem dX9_read_10 : decode cX9_read 10 = .ok (.ifCond .eq 20, 3) := all_d dX9_read_all0 6 rfl
theorem dX9_read_13 : decode cX9_read 13 = .ok (.aload_n 0, 1) := all_d dX9_read_all0 7 rfl
theorem dX9_read_14 : decode cX9_read 14 = .ok (.iload_n 2, 1) := all_d dX9_read_all0 8 rfl
theorem dX9_read_15 : decode cX9_read 15 = .ok (.invokevirtual 107, 3) := all_d dX9_read_all0 9 rfl
theorem dX9_read_18 : decode cX9_read 18 = .ok (.ifCond .eq 12, 3) := all_d dX9_read_all0 10 rfl
theorem dX9_read_21 : decode cX9_read 21 = .ok (.aload_n 0, 1) := all_d dX9_read_all0 11 rfl
theorem dX9_read_22 : decode cX9_read 22 = .ok (.iload_n 1, 1) := all_d dX9_read_all0 12 rfl
theorem dX9_read_23 : decode cX9_read 23 = .ok (.iload_n 2, 1) := all_d dX9_read_all0 13 rfl
theorem dX9_read_24 : decode cX9_read 24 = .ok (.invokevirtual 110, 3) := all_d dX9_read_all0 14 rfl
theorem dX9_read_27 : decode cX9_read 27 = .ok (.goto 5, 3) := all_d dX9_read_all0 15 rfl
theorem dX9_read_30 : decode cX9_read 30 = .ok (.ldc 113, 2) := all_d dX9_read_all0 16 rfl
theorem dX9_read_32 : decode cX9_read 32 = .ok (.ireturn, 1) := all_d dX9_read_all0 17 rfl
set_option maxRecDepth 100000 in
theorem dX9_trail_all0 : ([(0, (.aload_n 0 : Instr), 1), (1, (.iconst 0 : Instr), 1), (2, (.putfield 47 : Instr), 3), (5, (.aload_n 0 : Instr), 1), (6, (.iload_n 1 : Instr), 1), (7, (.invokevirtual 68 : Instr), 3), (10, (.ifCond .eq 11 : Instr), 3), (13, (.aload_n 0 : Instr), 1), (14, (.iload_n 2 : Instr), 1), (15, (.invokevirtual 107 : Instr), 3), (18, (.ifCond .ne 5 : Instr), 3), (21, (.iconst (-1) : Instr), 1), (22, (.ireturn : Instr), 1), (23, (.aload_n 0 : Instr), 1), (24, (.iload_n 1 : Instr), 1), (25, (.iload_n 2 : Instr), 1), (26, (.invokevirtual 103 : Instr), 3), (29, (.aload_n 0 : Instr), 1), (30, (.getfield 94 : Instr), 3), (33, (.ireturn : Instr), 1)] : List (Nat × Instr × Nat)).all (fun q => decide (decode cX9_trail q.1 = .ok (q.2.1, q.2.2))) = true := by decide +kernel
theorem dX9_trail_0 : decode cX9_trail 0 = .ok (.aload_n 0, 1) := all_d dX9_trail_all0 0 rfl
theorem dX9_trail_1 : decode cX9_trail 1 = .ok (.iconst 0, 1) := all_d dX9_trail_all0 1 rfl
theorem dX9_trail_2 : decode cX9_trail 2 = .ok (.putfield 47, 3) := all_d dX9_trail_all0 2 rfl
theorem dX9_trail_5 : decode cX9_trail 5 = .ok (.aload_n 0, 1) := all_d dX9_trail_all0 3 rfl
theorem dX9_trail_6 : decode cX9_trail 6 = .ok (.iload_n 1, 1) := all_d dX9_trail_all0 4 rfl
theorem dX9_trail_7 : decode cX9_trail 7 = .ok (.invokevirtual 68, 3) := all_d dX9_trail_all0 5 rfl
theorem dX9_trail_10 : decode cX9_trail 10 = .ok (.ifCond .eq 11, 3) := all_d dX9_trail_all0 6 rfl
theorem dX9_trail_13 : decode cX9_trail 13 = .ok (.aload_n 0, 1) := all_d dX9_trail_all0 7 rfl
theorem dX9_trail_14 : decode cX9_trail 14 = .ok (.iload_n 2, 1) := all_d dX9_trail_all0 8 rfl
theorem dX9_trail_15 : decode cX9_trail 15 = .ok (.invokevirtual 107, 3) := all_d dX9_trail_all0 9 rfl
theorem dX9_trail_18 : decode cX9_trail 18 = .ok (.ifCond .ne 5, 3) := all_d dX9_trail_all0 10 rfl
theorem dX9_trail_21 : decode cX9_trail 21 = .ok (.iconst (-1), 1) := all_d dX9_trail_all0 11 rfl
theorem dX9_trail_22 : decode cX9_trail 22 = .ok (.ireturn, 1) := all_d dX9_trail_all0 12 rfl
theorem dX9_trail_23 : decode cX9_trail 23 = .ok (.aload_n 0, 1) := all_d dX9_trail_all0 13 rfl
theorem dX9_trail_24 : decode cX9_trail 24 = .ok (.iload_n 1, 1) := all_d dX9_trail_all0 14 rfl
theorem dX9_trail_25 : decode cX9_trail 25 = .ok (.iload_n 2, 1) := all_d dX9_trail_all0 15 rfl
theorem dX9_trail_26 : decode cX9_trail 26 = .ok (.invokevirtual 103, 3) := all_d dX9_trail_all0 16 rfl
theorem dX9_trail_29 : decode cX9_trail 29 = .ok (.aload_n 0, 1) := all_d dX9_trail_all0 17 rfl
theorem dX9_trail_30 : decode cX9_trail 30 = .ok (.getfield 94, 3) := all_d dX9_trail_all0 18 rfl
theorem dX9_trail_33 : decode cX9_trail 33 = .ok (.ireturn, 1) := all_d dX9_trail_all0 19 rfl
set_option maxRecDepth 100000 in
theorem dX9_rest_all0 : ([(0, (.aload_n 0 : Instr), 1), (1, (.iconst 0 : Instr), 1), (2, (.putfield 47 : Instr), 3), (5, (.aload_n 0 : Instr), 1), (6, (.iload_n 1 : Instr), 1), (7, (.invokevirtual 68 : Instr), 3), (10, (.ifCond .eq 11 : Instr), 3), (13, (.aload_n 0 : Instr), 1), (14, (.iload_n 2 : Instr), 1), (15, (.invokevirtual 107 : Instr), 3), (18, (.ifCond .ne 6 : Instr), 3), (21, (.ldc 113 : Instr), 2), (23, (.ireturn : Instr), 1), (24, (.aload_n 0 : Instr), 1), (25, (.iload_n 1 : Instr), 1), (26, (.iload_n 2 : Instr), 1), (27, (.invokevirtual 103 : Instr), 3), (30, (.aload_n 0 : Instr), 1), (31, (.getfield 97 : Instr), 3), (34, (.ireturn : Instr), 1)] : List (Nat × Instr × Nat)).all (fun q => decide (decode cX9_rest q.1 = .ok (q.2.1, q.2.2))) = true := by decide +kernel
theorem dX9_rest_0 : decode cX9_rest 0 = .ok (.aload_n 0, 1) := all_d dX9_rest_all0 0 rfl
theorem dX9_rest_1 : decode cX9_rest 1 = .ok (.iconst 0, 1) := all_d dX9_rest_all0 1 rfl
theorem dX9_rest_2 : decode cX9_rest 2 = .ok (.putfield 47, 3) := all_d dX9_rest_all0 2 rfl
theorem dX9_rest_5 : decode cX9_rest 5 = .ok (.aload_n 0, 1) := all_d dX9_rest_all0 3 rfl
theorem dX9_rest_6 : decode cX9_rest 6 = .ok (.iload_n 1, 1) := all_d dX9_rest_all0 4 rfl
theorem dX9_rest_7 : decode cX9_rest 7 = .ok (.invokevirtual 68, 3) := all_d dX9_rest_all0 5 rfl
theorem dX9_rest_10 : decode cX9_rest 10 = .ok (.ifCond .eq 11, 3) := all_d dX9_rest_all0 6 rfl
theorem dX9_rest_13 : decode cX9_rest 13 = .ok (.aload_n 0, 1) := all_d dX9_rest_all0 7 rfl
theorem dX9_rest_14 : decode cX9_rest 14 = .ok (.iload_n 2, 1) := all_d dX9_rest_all0 8 rfl
theorem dX9_rest_15 : decode cX9_rest 15 = .ok (.invokevirtual 107, 3) := all_d dX9_rest_all0 9 rfl
theorem dX9_rest_18 : decode cX9_rest 18 = .ok (.ifCond .ne 6, 3) := all_d dX9_rest_all0 10 rfl
theorem dX9_rest_21 : decode cX9_rest 21 = .ok (.ldc 113, 2) := all_d dX9_rest_all0 11 rfl
theorem dX9_rest_23 : decode cX9_rest 23 = .ok (.ireturn, 1) := all_d dX9_rest_all0 12 rfl
theorem dX9_rest_24 : decode cX9_rest 24 = .ok (.aload_n 0, 1) := all_d dX9_rest_all0 13 rfl
theorem dX9_rest_25 : decode cX9_rest 25 = .ok (.iload_n 1, 1) := all_d dX9_rest_all0 14 rfl
theorem dX9_rest_26 : decode cX9_rest 26 = .ok (.iload_n 2, 1) := all_d dX9_rest_all0 15 rfl
theorem dX9_rest_27 : decode cX9_rest 27 = .ok (.invokevirtual 103, 3) := all_d dX9_rest_all0 16 rfl
theorem dX9_rest_30 : decode cX9_rest 30 = .ok (.aload_n 0, 1) := all_d dX9_rest_all0 17 rfl
theorem dX9_rest_31 : decode cX9_rest 31 = .ok (.getfield 97, 3) := all_d dX9_rest_all0 18 rfl
theorem dX9_rest_34 : decode cX9_rest 34 = .ok (.ireturn, 1) := all_d dX9_rest_all0 19 rfl
set_option maxRecDepth 100000 in
theorem dX9_readAll_all0 : ([(0, (.iconst 0 : Instr), 1), (1, (.istore_n 2 : Instr), 1), (2, (.iload_n 2 : Instr), 1), (3, (.aload_n 0 : Instr), 1), (4, (.getfield 7 : Instr), 3), (7, (.iconst 0 : Instr), 1), (8, (.iaload : Instr), 1), (9, (.if_icmp .gt 21 : Instr), 3), (12, (.aload_n 0 : Instr), 1), (13, (.getfield 31 : Instr), 3), (16, (.iload_n 2 : Instr), 1), (17, (.aload_n 0 : Instr), 1), (18, (.iload_n 1 : Instr), 1), (19, (.iload_n 2 : Instr), 1), (20, (.invokevirtual 110 : Instr), 3), (23, (.iastore : Instr), 1), (24, (.iinc 2 1 : Instr), 3), (27, (.goto (-25) : Instr), 3), (30, (.return_ : Instr), 1)] : List (Nat × Instr × Nat)).all (fun q => decide (decode cX9_readAll q.1 = .ok (q.2.1, q.2.2))) = true := by decide +kernel
theorem dX9_readAll_0 : decode cX9_readAll 0 = .ok (.iconst 0, 1) := all_d dX9_readAll_all0 0 rfl
theorem dX9_readAll_1 : decode cX9_readAll 1 = .ok (.istore_n 2, 1) := all_d dX9_readAll_all0 1 rfl
theorem dX9_readAll_2 : decode cX9_readAll 2 = .ok (.iload_n 2, 1) := all_d dX9_readAll_all0 2 rfl
theorem dX9_readAll_3 : decode cX9_readAll 3 = .ok (.aload_n 0, 1) := all_d dX9_readAll_all0 3 rfl
theorem dX9_readAll_4 : decode cX9_readAll 4 = .ok (.getfield 7, 3) := all_d dX9_readAll_all0 4 rfl
theorem dX9_readAll_7 : decode cX9_readAll 7 = .ok (.iconst 0, 1) := all_d dX9_readAll_all0 5 rfl
theorem dX9_readAll_8 : decode cX9_readAll 8 = .ok (.iaload, 1) := all_d dX9_readAll_all0 6 rfl
theorem dX9_readAll_9 : decode cX9_readAll 9 = .ok (.if_icmp .gt 21, 3) := all_d dX9_readAll_all0 7 rfl
theorem dX9_readAll_12 : decode cX9_readAll 12 = .ok (.aload_n 0, 1) := all_d dX9_readAll_all0 8 rfl
theorem dX9_readAll_13 : decode cX9_readAll 13 = .ok (.getfield 31, 3) := all_d dX9_readAll_all0 9 rfl
theorem dX9_readAll_16 : decode cX9_readAll 16 = .ok (.iload_n 2, 1) := all_d dX9_readAll_all0 10 rfl
theorem dX9_readAll_17 : decode cX9_readAll 17 = .ok (.aload_n 0, 1) := all_d dX9_readAll_all0 11 rfl
theorem dX9_readAll_18 : decode cX9_readAll 18 = .ok (.iload_n 1, 1) := all_d dX9_readAll_all0 12 rfl
theorem dX9_readAll_19 : decode cX9_readAll 19 = .ok (.iload_n 2, 1) := all_d dX9_readAll_all0 13 rfl
theorem dX9_readAll_20 : decode cX9_readAll 20 = .ok (.invokevirtual 110, 3) := all_d dX9_readAll_all0 14 rfl
theorem dX9_readAll_23 : decode cX9_readAll 23 = .ok (.iastore, 1) := all_d dX9_readAll_all0 15 rfl
theorem dX9_readAll_24 : decode cX9_readAll 24 = .ok (.iinc 2 1, 3) := all_d dX9_readAll_all0 16 rfl
theorem dX9_readAll_27 : decode cX9_readAll 27 = .ok (.goto (-25), 3) := all_d dX9_readAll_all0 17 rfl
theorem dX9_readAll_30 : decode cX9_readAll 30 = .ok (.return_, 1) := all_d dX9_readAll_all0 18 rfl
set_option maxRecDepth 100000 in
theorem dX9_spans_all0 : ([(0, (.aload_n 0 : Instr), 1), (1, (.iconst 0 : Instr), 1), (2, (.putfield 47 : Instr), 3), (5, (.aload_n 0 : Instr), 1), (6, (.iload_n 1 : Instr), 1), (7, (.invokevirtual 68 : Instr), 3), (10, (.ifCond .ne 9 : Instr), 3), (13, (.aload_n 0 : Instr), 1), (14, (.iconst 2 : Instr), 1), (15, (.invokevirtual 78 : Instr), 3), (18, (.ireturn : Instr), 1), (19, (.aload_n 0 : Instr), 1), (20, (.iconst 0 : Instr), 1), (21, (.putfield 51 : Instr), 3), (24, (.aload_n 0 : Instr), 1), (25, (.iload_n 1 : Instr), 1), (26, (.invokevirtual 114 : Instr), 3), (29, (.iconst 1 : Instr), 1), (30, (.istore_n 2 : Instr), 1), (31, (.iconst 1 : Instr), 1), (32, (.istore_n 3 : Instr), 1), (33, (.iload_n 3 : Instr), 1), (34, (.aload_n 0 : Instr), 1), (35, (.getfield 7 : Instr), 3), (38, (.iconst 0 : Instr), 1), (39, (.iaload : Instr), 1), (40, (.if_icmp .gt 34 : Instr), 3), (43, (.iload_n 2 : Instr), 1), (44, (.aload_n 0 : Instr), 1), (45, (.getfield 31 : Instr), 3), (48, (.iload_n 3 : Instr), 1), (49, (.iaload : Instr), 1), (50, (.aload_n 0 : Instr), 1), (51, (.getfield 31 : Instr), 3), (54, (.iload_n 3 : Instr), 1), (55, (.iconst 1 : Instr), 1), (56, (.isub : Instr), 1), (57, (.iaload : Instr), 1), (58, (.if_icmp .eq 7 : Instr), 3), (61, (.iconst 1 : Instr), 1), (62, (.goto 4 : Instr), 3), (65, (.iconst 0 : Instr), 1), (66, (.iadd : Instr), 1), (67, (.istore_n 2 : Instr), 1), (68, (.iinc 3 1 : Instr), 3), (71, (.goto (-38) : Instr), 3), (74, (.iload_n 2 : Instr), 1), (75, (.ireturn : Instr), 1)] : List (Nat × Instr × Nat)).all (fun q => decide (decode cX9_spans q.1 = .ok (q.2.1, q.2.2))) = true := by decide +kernel
theorem dX9_spans_0 : decode cX9_spans 0 = .ok (.aload_n 0, 1) := all_d dX9_spans_all0 0 rfl
theorem dX9_spans_1 : decode cX9_spans 1 = .ok (.iconst 0, 1) := all_d dX9_spans_all0 1 rfl
theorem dX9_spans_2 : decode cX9_spans 2 = .ok (.putfield 47, 3) := all_d dX9_spans_all0 2 rfl
theorem dX9_spans_5 : decode cX9_spans 5 = .ok (.aload_n 0, 1) := all_d dX9_spans_all0 3 rfl
theorem dX9_spans_6 : decode cX9_spans 6 = .ok (.iload_n 1, 1) := all_d dX9_spans_all0 4 rfl
theorem dX9_spans_7 : decode cX9_spans 7 = .ok (.invokevirtual 68, 3) := all_d dX9_spans_all0 5 rfl
theorem dX9_spans_10 : decode cX9_spans 10 = .ok (.ifCond .ne 9, 3) := all_d dX9_spans_all0 6 rfl
theorem dX9_spans_13 : decode cX9_spans 13 = .ok (.aload_n 0, 1) := all_d dX9_spans_all0 7 rfl
theorem dX9_spans_14 : decode cX9_spans 14 = .ok (.iconst 2, 1) := all_d dX9_spans_all0 8 rfl
theorem dX9_spans_15 : decode cX9_spans 15 = .ok (.invokevirtual 78, 3) := all_d dX9_spans_all0 9 rfl
theorem dX9_spans_18 : decode cX9_spans 18 = .ok (.ireturn, 1) := all_d dX9_spans_all0 10 rfl
theorem dX9_spans_19 : decode cX9_spans 19 = .ok (.aload_n 0, 1) := all_d dX9_spans_all0 11 rfl
theorem dX9_spans_20 : decode cX9_spans 20 = .ok (.iconst 0, 1) := all_d dX9_spans_all0 12 rfl
theorem dX9_spans_21 : decode cX9_spans 21 = .ok (.putfield 51, 3) := all_d dX9_spans_all0 13 rfl
theorem dX9_spans_24 : decode cX9_spans 24 = .ok (.aload_n 0, 1) := all_d dX9_spans_all0 14 rfl
theorem dX9_spans_25 : decode cX9_spans 25 = .ok (.iload_n 1, 1) := all_d dX9_spans_all0 15 rfl
theorem dX9_spans_26 : decode cX9_spans 26 = .ok (.invokevirtual 114, 3) := all_d dX9_spans_all0 16 rfl
theorem dX9_spans_29 : decode cX9_spans 29 = .ok (.iconst 1, 1) := all_d dX9_spans_all0 17 rfl
theorem dX9_spans_30 : decode cX9_spans 30 = .ok (.istore_n 2, 1) := all_d dX9_spans_all0 18 rfl
theorem dX9_spans_31 : decode cX9_spans 31 = .ok (.iconst 1, 1) := all_d dX9_spans_all0 19 rfl
theorem dX9_spans_32 : decode cX9_spans 32 = .ok (.istore_n 3, 1) := all_d dX9_spans_all0 20 rfl
theorem dX9_spans_33 : decode cX9_spans 33 = .ok (.iload_n 3, 1) := all_d dX9_spans_all0 21 rfl
theorem dX9_spans_34 : decode cX9_spans 34 = .ok (.aload_n 0, 1) := all_d dX9_spans_all0 22 rfl
theorem dX9_spans_35 : decode cX9_spans 35 = .ok (.getfield 7, 3) := all_d dX9_spans_all0 23 rfl
theorem dX9_spans_38 : decode cX9_spans 38 = .ok (.iconst 0, 1) := all_d dX9_spans_all0 24 rfl
theorem dX9_spans_39 : decode cX9_spans 39 = .ok (.iaload, 1) := all_d dX9_spans_all0 25 rfl
theorem dX9_spans_40 : decode cX9_spans 40 = .ok (.if_icmp .gt 34, 3) := all_d dX9_spans_all0 26 rfl
theorem dX9_spans_43 : decode cX9_spans 43 = .ok (.iload_n 2, 1) := all_d dX9_spans_all0 27 rfl
theorem dX9_spans_44 : decode cX9_spans 44 = .ok (.aload_n 0, 1) := all_d dX9_spans_all0 28 rfl
theorem dX9_spans_45 : decode cX9_spans 45 = .ok (.getfield 31, 3) := all_d dX9_spans_all0 29 rfl
theorem dX9_spans_48 : decode cX9_spans 48 = .ok (.iload_n 3, 1) := all_d dX9_spans_all0 30 rfl
theorem dX9_spans_49 : decode cX9_spans 49 = .ok (.iaload, 1) := all_d dX9_spans_all0 31 rfl
theorem dX9_spans_50 : decode cX9_spans 50 = .ok (.aload_n 0, 1) := all_d dX9_spans_all0 32 rfl
theorem dX9_spans_51 : decode cX9_spans 51 = .ok (.getfield 31, 3) := all_d dX9_spans_all0 33 rfl
theorem dX9_spans_54 : decode cX9_spans 54 = .ok (.iload_n 3, 1) := all_d dX9_spans_all0 34 rfl
theorem dX9_spans_55 : decode cX9_spans 55 = .ok (.iconst 1, 1) := all_d dX9_spans_all0 35 rfl
theorem dX9_spans_56 : decode cX9_spans 56 = .ok (.isub, 1) := all_d dX9_spans_all0 36 rfl
theorem dX9_spans_57 : decode cX9_spans 57 = .ok (.iaload, 1) := all_d dX9_spans_all0 37 rfl
theorem dX9_spans_58 : decode cX9_spans 58 = .ok (.if_icmp .eq 7, 3) := all_d dX9_spans_all0 38 rfl
theorem dX9_spans_61 : decode cX9_spans 61 = .ok (.iconst 1, 1) := all_d dX9_spans_all0 39 rfl
theorem dX9_spans_62 : decode cX9_spans 62 = .ok (.goto 4, 3) := all_d dX9_spans_all0 40 rfl
theorem dX9_spans_65 : decode cX9_spans 65 = .ok (.iconst 0, 1) := all_d dX9_spans_all0 41 rfl
theorem dX9_spans_66 : decode cX9_spans 66 = .ok (.iadd, 1) := all_d dX9_spans_all0 42 rfl
theorem dX9_spans_67 : decode cX9_spans 67 = .ok (.istore_n 2, 1) := all_d dX9_spans_all0 43 rfl
theorem dX9_spans_68 : decode cX9_spans 68 = .ok (.iinc 3 1, 3) := all_d dX9_spans_all0 44 rfl
theorem dX9_spans_71 : decode cX9_spans 71 = .ok (.goto (-38), 3) := all_d dX9_spans_all0 45 rfl
theorem dX9_spans_74 : decode cX9_spans 74 = .ok (.iload_n 2, 1) := all_d dX9_spans_all0 46 rfl
theorem dX9_spans_75 : decode cX9_spans 75 = .ok (.ireturn, 1) := all_d dX9_spans_all0 47 rfl
set_option maxRecDepth 100000 in
theorem dX9_span_all0 : ([(0, (.aload_n 0 : Instr), 1), (1, (.iconst 0 : Instr), 1), (2, (.putfield 47 : Instr), 3), (5, (.aload_n 0 : Instr), 1), (6, (.iload_n 1 : Instr), 1), (7, (.invokevirtual 68 : Instr), 3), (10, (.ifCond .eq 17 : Instr), 3), (13, (.aload_n 0 : Instr), 1), (14, (.iload_n 3 : Instr), 1), (15, (.iconst 0 : Instr), 1), (16, (.iconst 2 : Instr), 1), (17, (.invokevirtual 64 : Instr), 3), (20, (.ifCond .eq 7 : Instr), 3), (23, (.iload_n 2 : Instr), 1), (24, (.ifCond .ge 6 : Instr), 3), (27, (.ldc 113 : Instr), 2), (29, (.ireturn : Instr), 1), (30, (.aload_n 0 : Instr), 1), (31, (.iload_n 1 : Instr), 1), (32, (.invokevirtual 114 : Instr), 3), (35, (.iload_n 2 : Instr), 1), (36, (.istore 4 : Instr), 2), (38, (.iconst 0 : Instr), 1), (39, (.istore 5 : Instr), 2), (41, (.iconst 1 : Instr), 1), (42, (.istore 6 : Instr), 2), (44, (.iload 6 : Instr), 2), (46, (.aload_n 0 : Instr), 1), (47, (.getfield 7 : Instr), 3), (50, (.iconst 0 : Instr), 1), (51, (.iaload : Instr), 1), (52, (.iconst 1 : Instr), 1), (53, (.iadd : Instr), 1), (54, (.if_icmp .gt 83 : Instr), 3), (57, (.iload 6 : Instr), 2), (59, (.aload_n 0 : Instr), 1), (60, (.getfield 7 : Instr), 3), (63, (.iconst 0 : Instr), 1), (64, (.iaload : Instr), 1), (65, (.if_icmp .gt 25 : Instr), 3), (68, (.aload_n 0 : Instr), 1), (69, (.getfield 31 : Instr), 3), (72, (.iload 6 : Instr), 2), (74, (.iaload : Instr), 1), (75, (.aload_n 0 : Instr), 1), (76, (.getfield 31 : Instr), 3), (79, (.iload 6 : Instr), 2), (81, (.iconst 1 : Instr), 1), (82, (.isub : Instr), 1), (83, (.iaload : Instr), 1), (84, (.if_icmp .ne 6 : Instr), 3), (87, (.goto 44 : Instr), 3), (90, (.iload 4 : Instr), 2), (92, (.ifCond .ne 32 : Instr), 3), (95, (.iload_n 3 : Instr), 1), (96, (.ifCond .ne 8 : Instr), 3), (99, (.iload 5 : Instr), 2), (101, (.goto 22 : Instr), 3), (104, (.iload_n 3 : Instr), 1), (105, (.iconst 1 : Instr), 1), (106, (.if_icmp .ne 10 : Instr), 3), (109, (.iload 6 : Instr), 2), (111, (.iconst 1 : Instr), 1), (112, (.isub : Instr), 1), (113, (.goto 10 : Instr), 3), (116, (.aload_n 0 : Instr), 1), (117, (.getfield 31 : Instr), 3), (120, (.iload 5 : Instr), 2), (122, (.iaload : Instr), 1), (123, (.ireturn : Instr), 1), (124, (.iinc 4 (-1) : Instr), 3), (127, (.iload 6 : Instr), 2), (129, (.istore 5 : Instr), 2), (131, (.iinc 6 1 : Instr), 3), (134, (.goto (-90) : Instr), 3), (137, (.ldc 113 : Instr), 2), (139, (.ireturn : Instr), 1)] : List (Nat × Instr × Nat)).all (fun q => decide (decode cX9_span q.1 = .ok (q.2.1, q.2.2))) = true := by decide +kernel
theorem dX9_span_0 : decode cX9_span 0 = .ok (.aload_n 0, 1) := all_d dX9_span_all0 0 rfl
theorem dX9_span_1 : decode cX9_span 1 = .ok (.iconst 0, 1) := all_d dX9_span_all0 1 rfl
theorem dX9_span_2 : decode cX9_span 2 = .ok (.putfield 47, 3) := all_d dX9_span_all0 2 rfl
theorem dX9_span_5 : decode cX9_span 5 = .ok (.aload_n 0, 1) := all_d dX9_span_all0 3 rfl
theorem dX9_span_6 : decode cX9_span 6 = .ok (.iload_n 1, 1) := all_d dX9_span_all0 4 rfl
theorem dX9_span_7 : decode cX9_span 7 = .ok (.invokevirtual 68, 3) := all_d dX9_span_all0 5 rfl
theorem dX9_span_10 : decode cX9_span 10 = .ok (.ifCond .eq 17, 3) := all_d dX9_span_all0 6 rfl
theorem dX9_span_13 : decode cX9_span 13 = .ok (.aload_n 0, 1) := all_d dX9_span_all0 7 rfl
theorem dX9_span_14 : decode cX9_span 14 = .ok (.iload_n 3, 1) := all_d dX9_span_all0 8 rfl
theorem dX9_span_15 : decode cX9_span 15 = .ok (.iconst 0, 1) := all_d dX9_span_all0 9 rfl
theorem dX9_span_16 : decode cX9_span 16 = .ok (.iconst 2, 1) := all_d dX9_span_all0 10 rfl
theorem dX9_span_17 : decode cX9_span 17 = .ok (.invokevirtual 64, 3) := all_d dX9_span_all0 11 rfl
theorem dX9_span_20 : decode cX9_span 20 = .ok (.ifCond .eq 7, 3) := all_d dX9_span_all0 12 rfl
theorem dX9_span_23 : decode cX9_span 23 = .ok (.iload_n 2, 1) := all_d dX9_span_all0 13 rfl
theorem dX9_span_24 : decode cX9_span 24 = .ok (.ifCond .ge 6, 3) := all_d dX9_span_all0 14 rfl
theorem dX9_span_27 : decode cX9_span 27 = .ok (.ldc 113, 2) := all_d dX9_span_all0 15 rfl
theorem dX9_span_29 : decode cX9_span 29 = .ok (.ireturn, 1) := all_d dX9_span_all0 16 rfl
theorem dX9_span_30 : decode cX9_span 30 = .ok (.aload_n 0, 1) := all_d dX9_span_all0 17 rfl
theorem dX9_span_31 : decode cX9_span 31 = .ok (.iload_n 1, 1) := all_d dX9_span_all0 18 rfl
theorem dX9_span_32 : decode cX9_span 32 = .ok (.invokevirtual 114, 3) := all_d dX9_span_all0 19 rfl
theorem dX9_span_35 : decode cX9_span 35 = .ok (.iload_n 2, 1) := all_d dX9_span_all0 20 rfl
theorem dX9_span_36 : decode cX9_span 36 = .ok (.istore 4, 2) := all_d dX9_span_all0 21 rfl
theorem dX9_span_38 : decode cX9_span 38 = .ok (.iconst 0, 1) := all_d dX9_span_all0 22 rfl
theorem dX9_span_39 : decode cX9_span 39 = .ok (.istore 5, 2) := all_d dX9_span_all0 23 rfl
theorem dX9_span_41 : decode cX9_span 41 = .ok (.iconst 1, 1) := all_d dX9_span_all0 24 rfl
theorem dX9_span_42 : decode cX9_span 42 = .ok (.istore 6, 2) := all_d dX9_span_all0 25 rfl
theorem dX9_span_44 : decode cX9_span 44 = .ok (.iload 6, 2) := all_d dX9_span_all0 26 rfl
theorem dX9_span_46 : decode cX9_span 46 = .ok (.aload_n 0, 1) := all_d dX9_span_all0 27 rfl
theorem dX9_span_47 : decode cX9_span 47 = .ok (.getfield 7, 3) := all_d dX9_span_all0 28 rfl
theorem dX9_span_50 : decode cX9_span 50 = .ok (.iconst 0, 1) := all_d dX9_span_all0 29 rfl
theorem dX9_span_51 : decode cX9_span 51 = .ok (.iaload, 1) := all_d dX9_span_all0 30 rfl
theorem dX9_span_52 : decode cX9_span 52 = .ok (.iconst 1, 1) := all_d dX9_span_all0 31 rfl
theorem dX9_span_53 : decode cX9_span 53 = .ok (.iadd, 1) := all_d dX9_span_all0 32 rfl
theorem dX9_span_54 : decode cX9_span 54 = .ok (.if_icmp .gt 83, 3) := all_d dX9_span_all0 33 rfl
theorem dX9_span_57 : decode cX9_span 57 = .ok (.iload 6, 2) := all_d dX9_span_all0 34 rfl
theorem dX9_span_59 : decode cX9_span 59 = .ok (.aload_n 0, 1) := all_d dX9_span_all0 35 rfl
theorem dX9_span_60 : decode cX9_span 60 = .ok (.getfield 7, 3) := all_d dX9_span_all0 36 rfl
theorem dX9_span_63 : decode cX9_span 63 = .ok (.iconst 0, 1) := all_d dX9_span_all0 37 rfl
theorem dX9_span_64 : decode cX9_span 64 = .ok (.iaload, 1) := all_d dX9_span_all0 38 rfl
theorem dX9_span_65 : decode cX9_span 65 = .ok (.if_icmp .gt 25, 3) := all_d dX9_span_all0 39 rfl
theorem dX9_span_68 : decode cX9_span 68 = .ok (.aload_n 0, 1) := all_d dX9_span_all0 40 rfl
theorem dX9_span_69 : decode cX9_span 69 = .ok (.getfield 31, 3) := all_d dX9_span_all0 41 rfl
theorem dX9_span_72 : decode cX9_span 72 = .ok (.iload 6, 2) := all_d dX9_span_all0 42 rfl
theorem dX9_span_74 : decode cX9_span 74 = .ok (.iaload, 1) := all_d dX9_span_all0 43 rfl
theorem dX9_span_75 : decode cX9_span 75 = .ok (.aload_n 0, 1) := all_d dX9_span_all0 44 rfl
theorem dX9_span_76 : decode cX9_span 76 = .ok (.getfield 31, 3) := all_d dX9_span_all0 45 rfl
theorem dX9_span_79 : decode cX9_span 79 = .ok (.iload 6, 2) := all_d dX9_span_all0 46 rfl
theorem dX9_span_81 : decode cX9_span 81 = .ok (.iconst 1, 1) := all_d dX9_span_all0 47 rfl
theorem dX9_span_82 : decode cX9_span 82 = .ok (.isub, 1) := all_d dX9_span_all0 48 rfl
theorem dX9_span_83 : decode cX9_span 83 = .ok (.iaload, 1) := all_d dX9_span_all0 49 rfl
theorem dX9_span_84 : decode cX9_span 84 = .ok (.if_icmp .ne 6, 3) := all_d dX9_span_all0 50 rfl
theorem dX9_span_87 : decode cX9_span 87 = .ok (.goto 44, 3) := all_d dX9_span_all0 51 rfl
theorem dX9_span_90 : decode cX9_span 90 = .ok (.iload 4, 2) := all_d dX9_span_all0 52 rfl
theorem dX9_span_92 : decode cX9_span 92 = .ok (.ifCond .ne 32, 3) := all_d dX9_span_all0 53 rfl
theorem dX9_span_95 : decode cX9_span 95 = .ok (.iload_n 3, 1) := all_d dX9_span_all0 54 rfl
theorem dX9_span_96 : decode cX9_span 96 = .ok (.ifCond .ne 8, 3) := all_d dX9_span_all0 55 rfl
theorem dX9_span_99 : decode cX9_span 99 = .ok (.iload 5, 2) := all_d dX9_span_all0 56 rfl
theorem dX9_span_101 : decode cX9_span 101 = .ok (.goto 22, 3) := all_d dX9_span_all0 57 rfl
theorem dX9_span_104 : decode cX9_span 104 = .ok (.iload_n 3, 1) := all_d dX9_span_all0 58 rfl
theorem dX9_span_105 : decode cX9_span 105 = .ok (.iconst 1, 1) := all_d dX9_span_all0 59 rfl
theorem dX9_span_106 : decode cX9_span 106 = .ok (.if_icmp .ne 10, 3) := all_d dX9_span_all0 60 rfl
theorem dX9_span_109 : decode cX9_span 109 = .ok (.iload 6, 2) := all_d dX9_span_all0 61 rfl
theorem dX9_span_111 : decode cX9_span 111 = .ok (.iconst 1, 1) := all_d dX9_span_all0 62 rfl
theorem dX9_span_112 : decode cX9_span 112 = .ok (.isub, 1) := all_d dX9_span_all0 63 rfl
theorem dX9_span_113 : decode cX9_span 113 = .ok (.goto 10, 3) := all_d dX9_span_all0 64 rfl
theorem dX9_span_116 : decode cX9_span 116 = .ok (.aload_n 0, 1) := all_d dX9_span_all0 65 rfl
theorem dX9_span_117 : decode cX9_span 117 = .ok (.getfield 31, 3) := all_d dX9_span_all0 66 rfl
theorem dX9_span_120 : decode cX9_span 120 = .ok (.iload 5, 2) := all_d dX9_span_all0 67 rfl
theorem dX9_span_122 : decode cX9_span 122 = .ok (.iaload, 1) := all_d dX9_span_all0 68 rfl
theorem dX9_span_123 : decode cX9_span 123 = .ok (.ireturn, 1) := all_d dX9_span_all0 69 rfl
theorem dX9_span_124 : decode cX9_span 124 = .ok (.iinc 4 (-1), 3) := all_d dX9_span_all0 70 rfl
theorem dX9_span_127 : decode cX9_span 127 = .ok (.iload 6, 2) := all_d dX9_span_all0 71 rfl
theorem dX9_span_129 : decode cX9_span 129 = .ok (.istore 5, 2) := all_d dX9_span_all0 72 rfl
theorem dX9_span_131 : decode cX9_span 131 = .ok (.iinc 6 1, 3) := all_d dX9_span_all0 73 rfl
theorem dX9_span_134 : decode cX9_span 134 = .ok (.goto (-90), 3) := all_d dX9_span_all0 74 rfl
theorem dX9_span_137 : decode cX9_span 137 = .ok (.ldc 113, 2) := all_d dX9_span_all0 75 rfl
theorem dX9_span_139 : decode cX9_span 139 = .ok (.ireturn, 1) := all_d dX9_span_all0 76 rfl
set_option maxRecDepth 100000 in
theorem dX9_sortAll_all0 : ([(0, (.aload_n 0 : Instr), 1), (1, (.getfield 7 : Instr), 3), (4, (.iconst 0 : Instr), 1), (5, (.iaload : Instr), 1), (6, (.iconst 1 : Instr), 1), (7, (.iadd : Instr), 1), (8, (.istore_n 1 : Instr), 1), (9, (.iconst 0 : Instr), 1), (10, (.istore_n 2 : Instr), 1), (11, (.iload_n 2 : Instr), 1), (12, (.iload_n 1 : Instr), 1), (13, (.if_icmp .ge 21 : Instr), 3), (16, (.aload_n 0 : Instr), 1), (17, (.getfield 34 : Instr), 3), (20, (.iload_n 2 : Instr), 1), (21, (.aload_n 0 : Instr), 1), (22, (.getfield 31 : Instr), 3), (25, (.iload_n 2 : Instr), 1), (26, (.iaload : Instr), 1), (27, (.iastore : Instr), 1), (28, (.iinc 2 1 : Instr), 3), (31, (.goto (-20) : Instr), 3), (34, (.iconst 1 : Instr), 1), (35, (.istore_n 2 : Instr), 1), (36, (.iload_n 2 : Instr), 1), (37, (.iload_n 1 : Instr), 1), (38, (.if_icmp .ge 190 : Instr), 3), (41, (.iconst 0 : Instr), 1), (42, (.istore_n 3 : Instr), 1), (43, (.iload_n 3 : Instr), 1), (44, (.iload_n 1 : Instr), 1), (45, (.if_icmp .ge 151 : Instr), 3), (48, (.iload_n 3 : Instr), 1), (49, (.istore 4 : Instr), 2), (51, (.iload_n 3 : Instr), 1), (52, (.iload_n 2 : Instr), 1), (53, (.iadd : Instr), 1), (54, (.istore 5 : Instr), 2), (56, (.iload 5 : Instr), 2), (58, (.iload_n 1 : Instr), 1), (59, (.if_icmp .ge 8 : Instr), 3), (62, (.iload 5 : Instr), 2), (64, (.goto 4 : Instr), 3), (67, (.iload_n 1 : Instr), 1), (68, (.istore 6 : Instr), 2), (70, (.iload_n 3 : Instr), 1), (71, (.iconst 2 : Instr), 1), (72, (.iload_n 2 : Instr), 1), (73, (.imul : Instr), 1), (74, (.iadd : Instr), 1), (75, (.iload_n 1 : Instr), 1), (76, (.if_icmp .ge 11 : Instr), 3), (79, (.iload_n 3 : Instr), 1), (80, (.iconst 2 : Instr), 1), (81, (.iload_n 2 : Instr), 1), (82, (.imul : Instr), 1), (83, (.iadd : Instr), 1), (84, (.goto 4 : Instr), 3), (87, (.iload_n 1 : Instr), 1), (88, (.istore 7 : Instr), 2), (90, (.iload_n 3 : Instr), 1), (91, (.istore 8 : Instr), 2), (93, (.iload 8 : Instr), 2), (95, (.iload 7 : Instr), 2), (97, (.if_icmp .ge 90 : Instr), 3), (100, (.iload 4 : Instr), 2), (102, (.iload 6 : Instr), 2), (104, (.if_icmp .ge 31 : Instr), 3), (107, (.iload 5 : Instr), 2), (109, (.iload 7 : Instr), 2), (111, (.if_icmp .ge 20 : Instr), 3), (114, (.aload_n 0 : Instr), 1), (115, (.getfield 34 : Instr), 3), (118, (.iload 4 : Instr), 2), (120, (.iaload : Instr), 1), (121, (.aload_n 0 : Instr), 1), (122, (.getfield 34 : Instr), 3), (125, (.iload 5 : Instr), 2), (127, (.iaload : Instr), 1), (128, (.if_icmp .gt 7 : Instr), 3)] : List (Nat × Instr × Nat)).all (fun q => decide (decode cX9_sortAll q.1 = .ok (q.2.1, q.2.2))) = true := by decide +kernel
theorem dX9_sortAll_0 : decode cX9_sortAll 0 = .ok (.aload_n 0, 1) := all_d dX9_sortAll_all0 0 rfl
theorem dX9_sortAll_1 : decode cX9_sortAll 1 = .ok (.getfield 7, 3) := all_d dX9_sortAll_all0 1 rfl
theorem dX9_sortAll_4 : decode cX9_sortAll 4 = .ok (.iconst 0, 1) := all_d dX9_sortAll_all0 2 rfl
theorem dX9_sortAll_5 : decode cX9_sortAll 5 = .ok (.iaload, 1) := all_d dX9_sortAll_all0 3 rfl
theorem dX9_sortAll_6 : decode cX9_sortAll 6 = .ok (.iconst 1, 1) := all_d dX9_sortAll_all0 4 rfl
theorem dX9_sortAll_7 : decode cX9_sortAll 7 = .ok (.iadd, 1) := all_d dX9_sortAll_all0 5 rfl
theorem dX9_sortAll_8 : decode cX9_sortAll 8 = .ok (.istore_n 1, 1) := all_d dX9_sortAll_all0 6 rfl
theorem dX9_sortAll_9 : decode cX9_sortAll 9 = .ok (.iconst 0, 1) := all_d dX9_sortAll_all0 7 rfl
theorem dX9_sortAll_10 : decode cX9_sortAll 10 = .ok (.istore_n 2, 1) := all_d dX9_sortAll_all0 8 rfl
theorem dX9_sortAll_11 : decode cX9_sortAll 11 = .ok (.iload_n 2, 1) := all_d dX9_sortAll_all0 9 rfl
theorem dX9_sortAll_12 : decode cX9_sortAll 12 = .ok (.iload_n 1, 1) := all_d dX9_sortAll_all0 10 rfl
theorem dX9_sortAll_13 : decode cX9_sortAll 13 = .ok (.if_icmp .ge 21, 3) := all_d dX9_sortAll_all0 11 rfl
theorem dX9_sortAll_16 : decode cX9_sortAll 16 = .ok (.aload_n 0, 1) := all_d dX9_sortAll_all0 12 rfl
theorem dX9_sortAll_17 : decode cX9_sortAll 17 = .ok (.getfield 34, 3) := all_d dX9_sortAll_all0 13 rfl
theorem dX9_sortAll_20 : decode cX9_sortAll 20 = .ok (.iload_n 2, 1) := all_d dX9_sortAll_all0 14 rfl
theorem dX9_sortAll_21 : decode cX9_sortAll 21 = .ok (.aload_n 0, 1) := all_d dX9_sortAll_all0 15 rfl
theorem dX9_sortAll_22 : decode cX9_sortAll 22 = .ok (.getfield 31, 3) := all_d dX9_sortAll_all0 16 rfl
theorem dX9_sortAll_25 : decode cX9_sortAll 25 = .ok (.iload_n 2, 1) := all_d dX9_sortAll_all0 17 rfl
theorem dX9_sortAll_26 : decode cX9_sortAll 26 = .ok (.iaload, 1) := all_d dX9_sortAll_all0 18 rfl
theorem dX9_sortAll_27 : decode cX9_sortAll 27 = .ok (.iastore, 1) := all_d dX9_sortAll_all0 19 rfl
theorem dX9_sortAll_28 : decode cX9_sortAll 28 = .ok (.iinc 2 1, 3) := all_d dX9_sortAll_all0 20 rfl
theorem dX9_sortAll_31 : decode cX9_sortAll 31 = .ok (.goto (-20), 3) := all_d dX9_sortAll_all0 21 rfl
theorem dX9_sortAll_34 : decode cX9_sortAll 34 = .ok (.iconst 1, 1) := all_d dX9_sortAll_all0 22 rfl
theorem dX9_sortAll_35 : decode cX9_sortAll 35 = .ok (.istore_n 2, 1) := all_d dX9_sortAll_all0 23 rfl
theorem dX9_sortAll_36 : decode cX9_sortAll 36 = .ok (.iload_n 2, 1) := all_d dX9_sortAll_all0 24 rfl
theorem dX9_sortAll_37 : decode cX9_sortAll 37 = .ok (.iload_n 1, 1) := all_d dX9_sortAll_all0 25 rfl
theorem dX9_sortAll_38 : decode cX9_sortAll 38 = .ok (.if_icmp .ge 190, 3) := all_d dX9_sortAll_all0 26 rfl
theorem dX9_sortAll_41 : decode cX9_sortAll 41 = .ok (.iconst 0, 1) := all_d dX9_sortAll_all0 27 rfl
theorem dX9_sortAll_42 : decode cX9_sortAll 42 = .ok (.istore_n 3, 1) := all_d dX9_sortAll_all0 28 rfl
theorem dX9_sortAll_43 : decode cX9_sortAll 43 = .ok (.iload_n 3, 1) := all_d dX9_sortAll_all0 29 rfl
theorem dX9_sortAll_44 : decode cX9_sortAll 44 = .ok (.iload_n 1, 1) := all_d dX9_sortAll_all0 30 rfl
theorem dX9_sortAll_45 : decode cX9_sortAll 45 = .ok (.if_icmp .ge 151, 3) := all_d dX9_sortAll_all0 31 rfl
theorem dX9_sortAll_48 : decode cX9_sortAll 48 = .ok (.iload_n 3, 1) := all_d dX9_sortAll_all0 32 rfl
theorem dX9_sortAll_49 : decode cX9_sortAll 49 = .ok (.istore 4, 2) := all_d dX9_sortAll_all0 33 rfl
theorem dX9_sortAll_51 : decode cX9_sortAll 51 = .ok (.iload_n 3, 1) := all_d dX9_sortAll_all0 34 rfl
theorem dX9_sortAll_52 : decode cX9_sortAll 52 = .ok (.iload_n 2, 1) := all_d dX9_sortAll_all0 35 rfl
theorem dX9_sortAll_53 : decode cX9_sortAll 53 = .ok (.iadd, 1) := all_d dX9_sortAll_all0 36 rfl
theorem dX9_sortAll_54 : decode cX9_sortAll 54 = .ok (.istore 5, 2) := all_d dX9_sortAll_all0 37 rfl
theorem dX9_sortAll_56 : decode cX9_sortAll 56 = .ok (.iload 5, 2) := all_d dX9_sortAll_all0 38 rfl
theorem dX9_sortAll_58 : decode cX9_sortAll 58 = .ok (.iload_n 1, 1) := all_d dX9_sortAll_all0 39 rfl
theorem dX9_sortAll_59 : decode cX9_sortAll 59 = .ok (.if_icmp .ge 8, 3) := all_d dX9_sortAll_all0 40 rfl
theorem dX9_sortAll_62 : decode cX9_sortAll 62 = .ok (.iload 5, 2) := all_d dX9_sortAll_all0 41 rfl
theorem dX9_sortAll_64 : decode cX9_sortAll 64 = .ok (.goto 4, 3) := all_d dX9_sortAll_all0 42 rfl
theorem dX9_sortAll_67 : decode cX9_sortAll 67 = .ok (.iload_n 1, 1) := all_d dX9_sortAll_all0 43 rfl
theorem dX9_sortAll_68 : decode cX9_sortAll 68 = .ok (.istore 6, 2) := all_d dX9_sortAll_all0 44 rfl
theorem dX9_sortAll_70 : decode cX9_sortAll 70 = .ok (.iload_n 3, 1) := all_d dX9_sortAll_all0 45 rfl
theorem dX9_sortAll_71 : decode cX9_sortAll 71 = .ok (.iconst 2, 1) := all_d dX9_sortAll_all0 46 rfl
theorem dX9_sortAll_72 : decode cX9_sortAll 72 = .ok (.iload_n 2, 1) := all_d dX9_sortAll_all0 47 rfl
theorem dX9_sortAll_73 : decode cX9_sortAll 73 = .ok (.imul, 1) := all_d dX9_sortAll_all0 48 rfl
theorem dX9_sortAll_74 : decode cX9_sortAll 74 = .ok (.iadd, 1) := all_d dX9_sortAll_all0 49 rfl
theorem dX9_sortAll_75 : decode cX9_sortAll 75 = .ok (.iload_n 1, 1) := all_d dX9_sortAll_all0 50 rfl
theorem dX9_sortAll_76 : decode cX9_sortAll 76 = .ok (.if_icmp .ge 11, 3) := all_d dX9_sortAll_all0 51 rfl
theorem dX9_sortAll_79 : decode cX9_sortAll 79 = .ok (.iload_n 3, 1) := all_d dX9_sortAll_all0 52 rfl
theorem dX9_sortAll_80 : decode cX9_sortAll 80 = .ok (.iconst 2, 1) := all_d dX9_sortAll_all0 53 rfl
theorem dX9_sortAll_81 : decode cX9_sortAll 81 = .ok (.iload_n 2, 1) := all_d dX9_sortAll_all0 54 rfl
theorem dX9_sortAll_82 : decode cX9_sortAll 82 = .ok (.imul, 1) := all_d dX9_sortAll_all0 55 rfl
theorem dX9_sortAll_83 : decode cX9_sortAll 83 = .ok (.iadd, 1) := all_d dX9_sortAll_all0 56 rfl
theorem dX9_sortAll_84 : decode cX9_sortAll 84 = .ok (.goto 4, 3) := all_d dX9_sortAll_all0 57 rfl
theorem dX9_sortAll_87 : decode cX9_sortAll 87 = .ok (.iload_n 1, 1) := all_d dX9_sortAll_all0 58 rfl
theorem dX9_sortAll_88 : decode cX9_sortAll 88 = .ok (.istore 7, 2) := all_d dX9_sortAll_all0 59 rfl
theorem dX9_sortAll_90 : decode cX9_sortAll 90 = .ok (.iload_n 3, 1) := all_d dX9_sortAll_all0 60 rfl
theorem dX9_sortAll_91 : decode cX9_sortAll 91 = .ok (.istore 8, 2) := all_d dX9_sortAll_all0 61 rfl
theorem dX9_sortAll_93 : decode cX9_sortAll 93 = .ok (.iload 8, 2) := all_d dX9_sortAll_all0 62 rfl
theorem dX9_sortAll_95 : decode cX9_sortAll 95 = .ok (.iload 7, 2) := all_d dX9_sortAll_all0 63 rfl
theorem dX9_sortAll_97 : decode cX9_sortAll 97 = .ok (.if_icmp .ge 90, 3) := all_d dX9_sortAll_all0 64 rfl
theorem dX9_sortAll_100 : decode cX9_sortAll 100 = .ok (.iload 4, 2) := all_d dX9_sortAll_all0 65 rfl
theorem dX9_sortAll_102 : decode cX9_sortAll 102 = .ok (.iload 6, 2) := all_d dX9_sortAll_all0 66 rfl
theorem dX9_sortAll_104 : decode cX9_sortAll 104 = .ok (.if_icmp .ge 31, 3) := all_d dX9_sortAll_all0 67 rfl
theorem dX9_sortAll_107 : decode cX9_sortAll 107 = .ok (.iload 5, 2) := all_d dX9_sortAll_all0 68 rfl
theorem dX9_sortAll_109 : decode cX9_sortAll 109 = .ok (.iload 7, 2) := all_d dX9_sortAll_all0 69 rfl
theorem dX9_sortAll_111 : decode cX9_sortAll 111 = .ok (.if_icmp .ge 20, 3) := all_d dX9_sortAll_all0 70 rfl
theorem dX9_sortAll_114 : decode cX9_sortAll 114 = .ok (.aload_n 0, 1) := all_d dX9_sortAll_all0 71 rfl
theorem dX9_sortAll_115 : decode cX9_sortAll 115 = .ok (.getfield 34, 3) := all_d dX9_sortAll_all0 72 rfl
theorem dX9_sortAll_118 : decode cX9_sortAll 118 = .ok (.iload 4, 2) := all_d dX9_sortAll_all0 73 rfl
theorem dX9_sortAll_120 : decode cX9_sortAll 120 = .ok (.iaload, 1) := all_d dX9_sortAll_all0 74 rfl
theorem dX9_sortAll_121 : decode cX9_sortAll 121 = .ok (.aload_n 0, 1) := all_d dX9_sortAll_all0 75 rfl
theorem dX9_sortAll_122 : decode cX9_sortAll 122 = .ok (.getfield 34, 3) := all_d dX9_sortAll_all0 76 rfl
theorem dX9_sortAll_125 : decode cX9_sortAll 125 = .ok (.iload 5, 2) := all_d dX9_sortAll_all0 77 rfl
theorem dX9_sortAll_127 : decode cX9_sortAll 127 = .ok (.iaload, 1) := all_d dX9_sortAll_all0 78 rfl
theorem dX9_sortAll_128 : decode cX9_sortAll 128 = .ok (.if_icmp .gt 7, 3) := all_d dX9_sortAll_all0 79 rfl
set_option maxRecDepth 100000 in
theorem dX9_sortAll_all1 : ([(131, (.iconst 1 : Instr), 1), (132, (.goto 4 : Instr), 3), (135, (.iconst 0 : Instr), 1), (136, (.istore 9 : Instr), 2), (138, (.aload_n 0 : Instr), 1), (139, (.getfield 37 : Instr), 3), (142, (.iload 8 : Instr), 2), (144, (.iload 9 : Instr), 2), (146, (.ifCond .eq 13 : Instr), 3), (149, (.aload_n 0 : Instr), 1), (150, (.getfield 34 : Instr), 3), (153, (.iload 4 : Instr), 2), (155, (.iaload : Instr), 1), (156, (.goto 10 : Instr), 3), (159, (.aload_n 0 : Instr), 1), (160, (.getfield 34 : Instr), 3), (163, (.iload 5 : Instr), 2), (165, (.iaload : Instr), 1), (166, (.iastore : Instr), 1), (167, (.iload 9 : Instr), 2), (169, (.ifCond .eq 9 : Instr), 3), (172, (.iinc 4 1 : Instr), 3), (175, (.goto 6 : Instr), 3), (178, (.iinc 5 1 : Instr), 3), (181, (.iinc 8 1 : Instr), 3), (184, (.goto (-91) : Instr), 3), (187, (.iload_n 3 : Instr), 1), (188, (.iconst 2 : Instr), 1), (189, (.iload_n 2 : Instr), 1), (190, (.imul : Instr), 1), (191, (.iadd : Instr), 1), (192, (.istore_n 3 : Instr), 1), (193, (.goto (-150) : Instr), 3), (196, (.iconst 0 : Instr), 1), (197, (.istore_n 3 : Instr), 1), (198, (.iload_n 3 : Instr), 1), (199, (.iload_n 1 : Instr), 1), (200, (.if_icmp .ge 21 : Instr), 3), (203, (.aload_n 0 : Instr), 1), (204, (.getfield 34 : Instr), 3), (207, (.iload_n 3 : Instr), 1), (208, (.aload_n 0 : Instr), 1), (209, (.getfield 37 : Instr), 3), (212, (.iload_n 3 : Instr), 1), (213, (.iaload : Instr), 1), (214, (.iastore : Instr), 1), (215, (.iinc 3 1 : Instr), 3), (218, (.goto (-20) : Instr), 3), (221, (.iload_n 2 : Instr), 1), (222, (.iconst 2 : Instr), 1), (223, (.imul : Instr), 1), (224, (.istore_n 2 : Instr), 1), (225, (.goto (-189) : Instr), 3), (228, (.return_ : Instr), 1)] : List (Nat × Instr × Nat)).all (fun q => decide (decode cX9_sortAll q.1 = .ok (q.2.1, q.2.2))) = true := by decide +kernel
theorem dX9_sortAll_131 : decode cX9_sortAll 131 = .ok (.iconst 1, 1) := all_d dX9_sortAll_all1 0 rfl
theorem dX9_sortAll_132 : decode cX9_sortAll 132 = .ok (.goto 4, 3) := all_d dX9_sortAll_all1 1 rfl
theorem dX9_sortAll_135 : decode cX9_sortAll 135 = .ok (.iconst 0, 1) := all_d dX9_sortAll_all1 2 rfl
theorem dX9_sortAll_136 : decode cX9_sortAll 136 = .ok (.istore 9, 2) := all_d dX9_sortAll_all1 3 rfl
theorem dX9_sortAll_138 : decode cX9_sortAll 138 = .ok (.aload_n 0, 1) := all_d dX9_sortAll_all1 4 rfl
theorem dX9_sortAll_139 : decode cX9_sortAll 139 = .ok (.getfield 37, 3) := all_d dX9_sortAll_all1 5 rfl
theorem dX9_sortAll_142 : decode cX9_sortAll 142 = .ok (.iload 8, 2) := all_d dX9_sortAll_all1 6 rfl
theorem dX9_sortAll_144 : decode cX9_sortAll 144 = .ok (.iload 9, 2) := all_d dX9_sortAll_all1 7 rfl
theorem dX9_sortAll_146 : decode cX9_sortAll 146 = .ok (.ifCond .eq 13, 3) := all_d dX9_sortAll_all1 8 rfl
theorem dX9_sortAll_149 : decode cX9_sortAll 149 = .ok (.aload_n 0, 1) := all_d dX9_sortAll_all1 9 rfl
theorem dX9_sortAll_150 : decode cX9_sortAll 150 = .ok (.getfield 34, 3) := all_d dX9_sortAll_all1 10 rfl
theorem dX9_sortAll_153 : decode cX9_sortAll 153 = .ok (.iload 4, 2) := all_d dX9_sortAll_all1 11 rfl
theorem dX9_sortAll_155 : decode cX9_sortAll 155 = .ok (.iaload, 1) := all_d dX9_sortAll_all1 12 rfl
theorem dX9_sortAll_156 : decode cX9_sortAll 156 = .ok (.goto 10, 3) := all_d dX9_sortAll_all1 13 rfl
theorem dX9_sortAll_159 : decode cX9_sortAll 159 = .ok (.aload_n 0, 1) := all_d dX9_sortAll_all1 14 rfl
theorem dX9_sortAll_160 : decode cX9_sortAll 160 = .ok (.getfield 34, 3) := all_d dX9_sortAll_all1 15 rfl
theorem dX9_sortAll_163 : decode cX9_sortAll 163 = .ok (.iload 5, 2) := all_d dX9_sortAll_all1 16 rfl
theorem dX9_sortAll_165 : decode cX9_sortAll 165 = .ok (.iaload, 1) := all_d dX9_sortAll_all1 17 rfl
theorem dX9_sortAll_166 : decode cX9_sortAll 166 = .ok (.iastore, 1) := all_d dX9_sortAll_all1 18 rfl
theorem dX9_sortAll_167 : decode cX9_sortAll 167 = .ok (.iload 9, 2) := all_d dX9_sortAll_all1 19 rfl
theorem dX9_sortAll_169 : decode cX9_sortAll 169 = .ok (.ifCond .eq 9, 3) := all_d dX9_sortAll_all1 20 rfl
theorem dX9_sortAll_172 : decode cX9_sortAll 172 = .ok (.iinc 4 1, 3) := all_d dX9_sortAll_all1 21 rfl
theorem dX9_sortAll_175 : decode cX9_sortAll 175 = .ok (.goto 6, 3) := all_d dX9_sortAll_all1 22 rfl
theorem dX9_sortAll_178 : decode cX9_sortAll 178 = .ok (.iinc 5 1, 3) := all_d dX9_sortAll_all1 23 rfl
theorem dX9_sortAll_181 : decode cX9_sortAll 181 = .ok (.iinc 8 1, 3) := all_d dX9_sortAll_all1 24 rfl
theorem dX9_sortAll_184 : decode cX9_sortAll 184 = .ok (.goto (-91), 3) := all_d dX9_sortAll_all1 25 rfl
theorem dX9_sortAll_187 : decode cX9_sortAll 187 = .ok (.iload_n 3, 1) := all_d dX9_sortAll_all1 26 rfl
theorem dX9_sortAll_188 : decode cX9_sortAll 188 = .ok (.iconst 2, 1) := all_d dX9_sortAll_all1 27 rfl
theorem dX9_sortAll_189 : decode cX9_sortAll 189 = .ok (.iload_n 2, 1) := all_d dX9_sortAll_all1 28 rfl
theorem dX9_sortAll_190 : decode cX9_sortAll 190 = .ok (.imul, 1) := all_d dX9_sortAll_all1 29 rfl
theorem dX9_sortAll_191 : decode cX9_sortAll 191 = .ok (.iadd, 1) := all_d dX9_sortAll_all1 30 rfl
theorem dX9_sortAll_192 : decode cX9_sortAll 192 = .ok (.istore_n 3, 1) := all_d dX9_sortAll_all1 31 rfl
theorem dX9_sortAll_193 : decode cX9_sortAll 193 = .ok (.goto (-150), 3) := all_d dX9_sortAll_all1 32 rfl
theorem dX9_sortAll_196 : decode cX9_sortAll 196 = .ok (.iconst 0, 1) := all_d dX9_sortAll_all1 33 rfl
theorem dX9_sortAll_197 : decode cX9_sortAll 197 = .ok (.istore_n 3, 1) := all_d dX9_sortAll_all1 34 rfl
theorem dX9_sortAll_198 : decode cX9_sortAll 198 = .ok (.iload_n 3, 1) := all_d dX9_sortAll_all1 35 rfl
theorem dX9_sortAll_199 : decode cX9_sortAll 199 = .ok (.iload_n 1, 1) := all_d dX9_sortAll_all1 36 rfl
theorem dX9_sortAll_200 : decode cX9_sortAll 200 = .ok (.if_icmp .ge 21, 3) := all_d dX9_sortAll_all1 37 rfl
theorem dX9_sortAll_203 : decode cX9_sortAll 203 = .ok (.aload_n 0, 1) := all_d dX9_sortAll_all1 38 rfl
theorem dX9_sortAll_204 : decode cX9_sortAll 204 = .ok (.getfield 34, 3) := all_d dX9_sortAll_all1 39 rfl
theorem dX9_sortAll_207 : decode cX9_sortAll 207 = .ok (.iload_n 3, 1) := all_d dX9_sortAll_all1 40 rfl
theorem dX9_sortAll_208 : decode cX9_sortAll 208 = .ok (.aload_n 0, 1) := all_d dX9_sortAll_all1 41 rfl
theorem dX9_sortAll_209 : decode cX9_sortAll 209 = .ok (.getfield 37, 3) := all_d dX9_sortAll_all1 42 rfl
theorem dX9_sortAll_212 : decode cX9_sortAll 212 = .ok (.iload_n 3, 1) := all_d dX9_sortAll_all1 43 rfl
theorem dX9_sortAll_213 : decode cX9_sortAll 213 = .ok (.iaload, 1) := all_d dX9_sortAll_all1 44 rfl
theorem dX9_sortAll_214 : decode cX9_sortAll 214 = .ok (.iastore, 1) := all_d dX9_sortAll_all1 45 rfl
theorem dX9_sortAll_215 : decode cX9_sortAll 215 = .ok (.iinc 3 1, 3) := all_d dX9_sortAll_all1 46 rfl
theorem dX9_sortAll_218 : decode cX9_sortAll 218 = .ok (.goto (-20), 3) := all_d dX9_sortAll_all1 47 rfl
theorem dX9_sortAll_221 : decode cX9_sortAll 221 = .ok (.iload_n 2, 1) := all_d dX9_sortAll_all1 48 rfl
theorem dX9_sortAll_222 : decode cX9_sortAll 222 = .ok (.iconst 2, 1) := all_d dX9_sortAll_all1 49 rfl
theorem dX9_sortAll_223 : decode cX9_sortAll 223 = .ok (.imul, 1) := all_d dX9_sortAll_all1 50 rfl
theorem dX9_sortAll_224 : decode cX9_sortAll 224 = .ok (.istore_n 2, 1) := all_d dX9_sortAll_all1 51 rfl
theorem dX9_sortAll_225 : decode cX9_sortAll 225 = .ok (.goto (-189), 3) := all_d dX9_sortAll_all1 52 rfl
theorem dX9_sortAll_228 : decode cX9_sortAll 228 = .ok (.return_, 1) := all_d dX9_sortAll_all1 53 rfl
set_option maxRecDepth 100000 in
theorem dX9_codes_all0 : ([(0, (.aload_n 0 : Instr), 1), (1, (.iconst 0 : Instr), 1), (2, (.putfield 47 : Instr), 3), (5, (.aload_n 0 : Instr), 1), (6, (.iload_n 1 : Instr), 1), (7, (.invokevirtual 68 : Instr), 3), (10, (.ifCond .ne 9 : Instr), 3), (13, (.aload_n 0 : Instr), 1), (14, (.iconst 2 : Instr), 1), (15, (.invokevirtual 78 : Instr), 3), (18, (.ireturn : Instr), 1), (19, (.aload_n 0 : Instr), 1), (20, (.iconst 0 : Instr), 1), (21, (.putfield 51 : Instr), 3), (24, (.aload_n 0 : Instr), 1), (25, (.iload_n 1 : Instr), 1), (26, (.invokevirtual 114 : Instr), 3), (29, (.aload_n 0 : Instr), 1), (30, (.invokevirtual 118 : Instr), 3), (33, (.iconst 1 : Instr), 1), (34, (.istore_n 2 : Instr), 1), (35, (.iconst 1 : Instr), 1), (36, (.istore_n 3 : Instr), 1), (37, (.iload_n 3 : Instr), 1), (38, (.aload_n 0 : Instr), 1), (39, (.getfield 7 : Instr), 3), (42, (.iconst 0 : Instr), 1), (43, (.iaload : Instr), 1), (44, (.if_icmp .gt 34 : Instr), 3), (47, (.iload_n 2 : Instr), 1), (48, (.aload_n 0 : Instr), 1), (49, (.getfield 34 : Instr), 3), (52, (.iload_n 3 : Instr), 1), (53, (.iaload : Instr), 1), (54, (.aload_n 0 : Instr), 1), (55, (.getfield 34 : Instr), 3), (58, (.iload_n 3 : Instr), 1), (59, (.iconst 1 : Instr), 1), (60, (.isub : Instr), 1), (61, (.iaload : Instr), 1), (62, (.if_icmp .eq 7 : Instr), 3), (65, (.iconst 1 : Instr), 1), (66, (.goto 4 : Instr), 3), (69, (.iconst 0 : Instr), 1), (70, (.iadd : Instr), 1), (71, (.istore_n 2 : Instr), 1), (72, (.iinc 3 1 : Instr), 3), (75, (.goto (-38) : Instr), 3), (78, (.iload_n 2 : Instr), 1), (79, (.ireturn : Instr), 1)] : List (Nat × Instr × Nat)).all (fun q => decide (decode cX9_codes q.1 = .ok (q.2.1, q.2.2))) = true := by decide +kernel
theorem dX9_codes_0 : decode cX9_codes 0 = .ok (.aload_n 0, 1) := all_d dX9_codes_all0 0 rfl
theorem dX9_codes_1 : decode cX9_codes 1 = .ok (.iconst 0, 1) := all_d dX9_codes_all0 1 rfl
theorem dX9_codes_2 : decode cX9_codes 2 = .ok (.putfield 47, 3) := all_d dX9_codes_all0 2 rfl
theorem dX9_codes_5 : decode cX9_codes 5 = .ok (.aload_n 0, 1) := all_d dX9_codes_all0 3 rfl
theorem dX9_codes_6 : decode cX9_codes 6 = .ok (.iload_n 1, 1) := all_d dX9_codes_all0 4 rfl
theorem dX9_codes_7 : decode cX9_codes 7 = .ok (.invokevirtual 68, 3) := all_d dX9_codes_all0 5 rfl
theorem dX9_codes_10 : decode cX9_codes 10 = .ok (.ifCond .ne 9, 3) := all_d dX9_codes_all0 6 rfl
theorem dX9_codes_13 : decode cX9_codes 13 = .ok (.aload_n 0, 1) := all_d dX9_codes_all0 7 rfl
theorem dX9_codes_14 : decode cX9_codes 14 = .ok (.iconst 2, 1) := all_d dX9_codes_all0 8 rfl
theorem dX9_codes_15 : decode cX9_codes 15 = .ok (.invokevirtual 78, 3) := all_d dX9_codes_all0 9 rfl
theorem dX9_codes_18 : decode cX9_codes 18 = .ok (.ireturn, 1) := all_d dX9_codes_all0 10 rfl
theorem dX9_codes_19 : decode cX9_codes 19 = .ok (.aload_n 0, 1) := all_d dX9_codes_all0 11 rfl
theorem dX9_codes_20 : decode cX9_codes 20 = .ok (.iconst 0, 1) := all_d dX9_codes_all0 12 rfl
theorem dX9_codes_21 : decode cX9_codes 21 = .ok (.putfield 51, 3) := all_d dX9_codes_all0 13 rfl
theorem dX9_codes_24 : decode cX9_codes 24 = .ok (.aload_n 0, 1) := all_d dX9_codes_all0 14 rfl
theorem dX9_codes_25 : decode cX9_codes 25 = .ok (.iload_n 1, 1) := all_d dX9_codes_all0 15 rfl
theorem dX9_codes_26 : decode cX9_codes 26 = .ok (.invokevirtual 114, 3) := all_d dX9_codes_all0 16 rfl
theorem dX9_codes_29 : decode cX9_codes 29 = .ok (.aload_n 0, 1) := all_d dX9_codes_all0 17 rfl
theorem dX9_codes_30 : decode cX9_codes 30 = .ok (.invokevirtual 118, 3) := all_d dX9_codes_all0 18 rfl
theorem dX9_codes_33 : decode cX9_codes 33 = .ok (.iconst 1, 1) := all_d dX9_codes_all0 19 rfl
theorem dX9_codes_34 : decode cX9_codes 34 = .ok (.istore_n 2, 1) := all_d dX9_codes_all0 20 rfl
theorem dX9_codes_35 : decode cX9_codes 35 = .ok (.iconst 1, 1) := all_d dX9_codes_all0 21 rfl
theorem dX9_codes_36 : decode cX9_codes 36 = .ok (.istore_n 3, 1) := all_d dX9_codes_all0 22 rfl
theorem dX9_codes_37 : decode cX9_codes 37 = .ok (.iload_n 3, 1) := all_d dX9_codes_all0 23 rfl
theorem dX9_codes_38 : decode cX9_codes 38 = .ok (.aload_n 0, 1) := all_d dX9_codes_all0 24 rfl
theorem dX9_codes_39 : decode cX9_codes 39 = .ok (.getfield 7, 3) := all_d dX9_codes_all0 25 rfl
theorem dX9_codes_42 : decode cX9_codes 42 = .ok (.iconst 0, 1) := all_d dX9_codes_all0 26 rfl
theorem dX9_codes_43 : decode cX9_codes 43 = .ok (.iaload, 1) := all_d dX9_codes_all0 27 rfl
theorem dX9_codes_44 : decode cX9_codes 44 = .ok (.if_icmp .gt 34, 3) := all_d dX9_codes_all0 28 rfl
theorem dX9_codes_47 : decode cX9_codes 47 = .ok (.iload_n 2, 1) := all_d dX9_codes_all0 29 rfl
theorem dX9_codes_48 : decode cX9_codes 48 = .ok (.aload_n 0, 1) := all_d dX9_codes_all0 30 rfl
theorem dX9_codes_49 : decode cX9_codes 49 = .ok (.getfield 34, 3) := all_d dX9_codes_all0 31 rfl
theorem dX9_codes_52 : decode cX9_codes 52 = .ok (.iload_n 3, 1) := all_d dX9_codes_all0 32 rfl
theorem dX9_codes_53 : decode cX9_codes 53 = .ok (.iaload, 1) := all_d dX9_codes_all0 33 rfl
theorem dX9_codes_54 : decode cX9_codes 54 = .ok (.aload_n 0, 1) := all_d dX9_codes_all0 34 rfl
theorem dX9_codes_55 : decode cX9_codes 55 = .ok (.getfield 34, 3) := all_d dX9_codes_all0 35 rfl
theorem dX9_codes_58 : decode cX9_codes 58 = .ok (.iload_n 3, 1) := all_d dX9_codes_all0 36 rfl
theorem dX9_codes_59 : decode cX9_codes 59 = .ok (.iconst 1, 1) := all_d dX9_codes_all0 37 rfl
theorem dX9_codes_60 : decode cX9_codes 60 = .ok (.isub, 1) := all_d dX9_codes_all0 38 rfl
theorem dX9_codes_61 : decode cX9_codes 61 = .ok (.iaload, 1) := all_d dX9_codes_all0 39 rfl
theorem dX9_codes_62 : decode cX9_codes 62 = .ok (.if_icmp .eq 7, 3) := all_d dX9_codes_all0 40 rfl
theorem dX9_codes_65 : decode cX9_codes 65 = .ok (.iconst 1, 1) := all_d dX9_codes_all0 41 rfl
theorem dX9_codes_66 : decode cX9_codes 66 = .ok (.goto 4, 3) := all_d dX9_codes_all0 42 rfl
theorem dX9_codes_69 : decode cX9_codes 69 = .ok (.iconst 0, 1) := all_d dX9_codes_all0 43 rfl
theorem dX9_codes_70 : decode cX9_codes 70 = .ok (.iadd, 1) := all_d dX9_codes_all0 44 rfl
theorem dX9_codes_71 : decode cX9_codes 71 = .ok (.istore_n 2, 1) := all_d dX9_codes_all0 45 rfl
theorem dX9_codes_72 : decode cX9_codes 72 = .ok (.iinc 3 1, 3) := all_d dX9_codes_all0 46 rfl
theorem dX9_codes_75 : decode cX9_codes 75 = .ok (.goto (-38), 3) := all_d dX9_codes_all0 47 rfl
theorem dX9_codes_78 : decode cX9_codes 78 = .ok (.iload_n 2, 1) := all_d dX9_codes_all0 48 rfl
theorem dX9_codes_79 : decode cX9_codes 79 = .ok (.ireturn, 1) := all_d dX9_codes_all0 49 rfl
set_option maxRecDepth 100000 in
theorem dX9_lacks_all0 : ([(0, (.aload_n 0 : Instr), 1), (1, (.iconst 0 : Instr), 1), (2, (.putfield 47 : Instr), 3), (5, (.aload_n 0 : Instr), 1), (6, (.iload_n 1 : Instr), 1), (7, (.invokevirtual 68 : Instr), 3), (10, (.ifCond .ne 9 : Instr), 3), (13, (.aload_n 0 : Instr), 1), (14, (.iconst 2 : Instr), 1), (15, (.invokevirtual 78 : Instr), 3), (18, (.ireturn : Instr), 1), (19, (.aload_n 0 : Instr), 1), (20, (.iconst 0 : Instr), 1), (21, (.putfield 51 : Instr), 3), (24, (.aload_n 0 : Instr), 1), (25, (.iload_n 1 : Instr), 1), (26, (.invokevirtual 114 : Instr), 3), (29, (.aload_n 0 : Instr), 1), (30, (.invokevirtual 118 : Instr), 3), (33, (.aload_n 0 : Instr), 1), (34, (.getfield 34 : Instr), 3), (37, (.aload_n 0 : Instr), 1), (38, (.getfield 7 : Instr), 3), (41, (.iconst 0 : Instr), 1), (42, (.iaload : Instr), 1), (43, (.iaload : Instr), 1), (44, (.istore_n 2 : Instr), 1), (45, (.iload_n 2 : Instr), 1), (46, (.ifCond .ge 5 : Instr), 3), (49, (.iconst 0 : Instr), 1), (50, (.ireturn : Instr), 1), (51, (.iconst 0 : Instr), 1), (52, (.istore_n 3 : Instr), 1), (53, (.iconst 0 : Instr), 1), (54, (.istore 4 : Instr), 2), (56, (.iload 4 : Instr), 2), (58, (.aload_n 0 : Instr), 1), (59, (.getfield 7 : Instr), 3), (62, (.iconst 0 : Instr), 1), (63, (.iaload : Instr), 1), (64, (.if_icmp .gt 51 : Instr), 3), (67, (.iload_n 3 : Instr), 1), (68, (.aload_n 0 : Instr), 1), (69, (.getfield 34 : Instr), 3), (72, (.iload 4 : Instr), 2), (74, (.iaload : Instr), 1), (75, (.ifCond .lt 31 : Instr), 3), (78, (.iload 4 : Instr), 2), (80, (.ifCond .eq 22 : Instr), 3), (83, (.aload_n 0 : Instr), 1), (84, (.getfield 34 : Instr), 3), (87, (.iload 4 : Instr), 2), (89, (.iaload : Instr), 1), (90, (.aload_n 0 : Instr), 1), (91, (.getfield 34 : Instr), 3), (94, (.iload 4 : Instr), 2), (96, (.iconst 1 : Instr), 1), (97, (.isub : Instr), 1), (98, (.iaload : Instr), 1), (99, (.if_icmp .eq 7 : Instr), 3), (102, (.iconst 1 : Instr), 1), (103, (.goto 4 : Instr), 3), (106, (.iconst 0 : Instr), 1), (107, (.iadd : Instr), 1), (108, (.istore_n 3 : Instr), 1), (109, (.iinc 4 1 : Instr), 3), (112, (.goto (-56) : Instr), 3), (115, (.iload_n 2 : Instr), 1), (116, (.iconst 1 : Instr), 1), (117, (.iadd : Instr), 1), (118, (.iload_n 3 : Instr), 1), (119, (.isub : Instr), 1), (120, (.ireturn : Instr), 1)] : List (Nat × Instr × Nat)).all (fun q => decide (decode cX9_lacks q.1 = .ok (q.2.1, q.2.2))) = true := by decide +kernel
theorem dX9_lacks_0 : decode cX9_lacks 0 = .ok (.aload_n 0, 1) := all_d dX9_lacks_all0 0 rfl
theorem dX9_lacks_1 : decode cX9_lacks 1 = .ok (.iconst 0, 1) := all_d dX9_lacks_all0 1 rfl
theorem dX9_lacks_2 : decode cX9_lacks 2 = .ok (.putfield 47, 3) := all_d dX9_lacks_all0 2 rfl
theorem dX9_lacks_5 : decode cX9_lacks 5 = .ok (.aload_n 0, 1) := all_d dX9_lacks_all0 3 rfl
theorem dX9_lacks_6 : decode cX9_lacks 6 = .ok (.iload_n 1, 1) := all_d dX9_lacks_all0 4 rfl
theorem dX9_lacks_7 : decode cX9_lacks 7 = .ok (.invokevirtual 68, 3) := all_d dX9_lacks_all0 5 rfl
theorem dX9_lacks_10 : decode cX9_lacks 10 = .ok (.ifCond .ne 9, 3) := all_d dX9_lacks_all0 6 rfl
theorem dX9_lacks_13 : decode cX9_lacks 13 = .ok (.aload_n 0, 1) := all_d dX9_lacks_all0 7 rfl
theorem dX9_lacks_14 : decode cX9_lacks 14 = .ok (.iconst 2, 1) := all_d dX9_lacks_all0 8 rfl
theorem dX9_lacks_15 : decode cX9_lacks 15 = .ok (.invokevirtual 78, 3) := all_d dX9_lacks_all0 9 rfl
theorem dX9_lacks_18 : decode cX9_lacks 18 = .ok (.ireturn, 1) := all_d dX9_lacks_all0 10 rfl
theorem dX9_lacks_19 : decode cX9_lacks 19 = .ok (.aload_n 0, 1) := all_d dX9_lacks_all0 11 rfl
theorem dX9_lacks_20 : decode cX9_lacks 20 = .ok (.iconst 0, 1) := all_d dX9_lacks_all0 12 rfl
theorem dX9_lacks_21 : decode cX9_lacks 21 = .ok (.putfield 51, 3) := all_d dX9_lacks_all0 13 rfl
theorem dX9_lacks_24 : decode cX9_lacks 24 = .ok (.aload_n 0, 1) := all_d dX9_lacks_all0 14 rfl
theorem dX9_lacks_25 : decode cX9_lacks 25 = .ok (.iload_n 1, 1) := all_d dX9_lacks_all0 15 rfl
theorem dX9_lacks_26 : decode cX9_lacks 26 = .ok (.invokevirtual 114, 3) := all_d dX9_lacks_all0 16 rfl
theorem dX9_lacks_29 : decode cX9_lacks 29 = .ok (.aload_n 0, 1) := all_d dX9_lacks_all0 17 rfl
theorem dX9_lacks_30 : decode cX9_lacks 30 = .ok (.invokevirtual 118, 3) := all_d dX9_lacks_all0 18 rfl
theorem dX9_lacks_33 : decode cX9_lacks 33 = .ok (.aload_n 0, 1) := all_d dX9_lacks_all0 19 rfl
theorem dX9_lacks_34 : decode cX9_lacks 34 = .ok (.getfield 34, 3) := all_d dX9_lacks_all0 20 rfl
theorem dX9_lacks_37 : decode cX9_lacks 37 = .ok (.aload_n 0, 1) := all_d dX9_lacks_all0 21 rfl
theorem dX9_lacks_38 : decode cX9_lacks 38 = .ok (.getfield 7, 3) := all_d dX9_lacks_all0 22 rfl
theorem dX9_lacks_41 : decode cX9_lacks 41 = .ok (.iconst 0, 1) := all_d dX9_lacks_all0 23 rfl
theorem dX9_lacks_42 : decode cX9_lacks 42 = .ok (.iaload, 1) := all_d dX9_lacks_all0 24 rfl
theorem dX9_lacks_43 : decode cX9_lacks 43 = .ok (.iaload, 1) := all_d dX9_lacks_all0 25 rfl
theorem dX9_lacks_44 : decode cX9_lacks 44 = .ok (.istore_n 2, 1) := all_d dX9_lacks_all0 26 rfl
theorem dX9_lacks_45 : decode cX9_lacks 45 = .ok (.iload_n 2, 1) := all_d dX9_lacks_all0 27 rfl
theorem dX9_lacks_46 : decode cX9_lacks 46 = .ok (.ifCond .ge 5, 3) := all_d dX9_lacks_all0 28 rfl
theorem dX9_lacks_49 : decode cX9_lacks 49 = .ok (.iconst 0, 1) := all_d dX9_lacks_all0 29 rfl
theorem dX9_lacks_50 : decode cX9_lacks 50 = .ok (.ireturn, 1) := all_d dX9_lacks_all0 30 rfl
theorem dX9_lacks_51 : decode cX9_lacks 51 = .ok (.iconst 0, 1) := all_d dX9_lacks_all0 31 rfl
theorem dX9_lacks_52 : decode cX9_lacks 52 = .ok (.istore_n 3, 1) := all_d dX9_lacks_all0 32 rfl
theorem dX9_lacks_53 : decode cX9_lacks 53 = .ok (.iconst 0, 1) := all_d dX9_lacks_all0 33 rfl
theorem dX9_lacks_54 : decode cX9_lacks 54 = .ok (.istore 4, 2) := all_d dX9_lacks_all0 34 rfl
theorem dX9_lacks_56 : decode cX9_lacks 56 = .ok (.iload 4, 2) := all_d dX9_lacks_all0 35 rfl
theorem dX9_lacks_58 : decode cX9_lacks 58 = .ok (.aload_n 0, 1) := all_d dX9_lacks_all0 36 rfl
theorem dX9_lacks_59 : decode cX9_lacks 59 = .ok (.getfield 7, 3) := all_d dX9_lacks_all0 37 rfl
theorem dX9_lacks_62 : decode cX9_lacks 62 = .ok (.iconst 0, 1) := all_d dX9_lacks_all0 38 rfl
theorem dX9_lacks_63 : decode cX9_lacks 63 = .ok (.iaload, 1) := all_d dX9_lacks_all0 39 rfl
theorem dX9_lacks_64 : decode cX9_lacks 64 = .ok (.if_icmp .gt 51, 3) := all_d dX9_lacks_all0 40 rfl
theorem dX9_lacks_67 : decode cX9_lacks 67 = .ok (.iload_n 3, 1) := all_d dX9_lacks_all0 41 rfl
theorem dX9_lacks_68 : decode cX9_lacks 68 = .ok (.aload_n 0, 1) := all_d dX9_lacks_all0 42 rfl
theorem dX9_lacks_69 : decode cX9_lacks 69 = .ok (.getfield 34, 3) := all_d dX9_lacks_all0 43 rfl
theorem dX9_lacks_72 : decode cX9_lacks 72 = .ok (.iload 4, 2) := all_d dX9_lacks_all0 44 rfl
theorem dX9_lacks_74 : decode cX9_lacks 74 = .ok (.iaload, 1) := all_d dX9_lacks_all0 45 rfl
theorem dX9_lacks_75 : decode cX9_lacks 75 = .ok (.ifCond .lt 31, 3) := all_d dX9_lacks_all0 46 rfl
theorem dX9_lacks_78 : decode cX9_lacks 78 = .ok (.iload 4, 2) := all_d dX9_lacks_all0 47 rfl
theorem dX9_lacks_80 : decode cX9_lacks 80 = .ok (.ifCond .eq 22, 3) := all_d dX9_lacks_all0 48 rfl
theorem dX9_lacks_83 : decode cX9_lacks 83 = .ok (.aload_n 0, 1) := all_d dX9_lacks_all0 49 rfl
theorem dX9_lacks_84 : decode cX9_lacks 84 = .ok (.getfield 34, 3) := all_d dX9_lacks_all0 50 rfl
theorem dX9_lacks_87 : decode cX9_lacks 87 = .ok (.iload 4, 2) := all_d dX9_lacks_all0 51 rfl
theorem dX9_lacks_89 : decode cX9_lacks 89 = .ok (.iaload, 1) := all_d dX9_lacks_all0 52 rfl
theorem dX9_lacks_90 : decode cX9_lacks 90 = .ok (.aload_n 0, 1) := all_d dX9_lacks_all0 53 rfl
theorem dX9_lacks_91 : decode cX9_lacks 91 = .ok (.getfield 34, 3) := all_d dX9_lacks_all0 54 rfl
theorem dX9_lacks_94 : decode cX9_lacks 94 = .ok (.iload 4, 2) := all_d dX9_lacks_all0 55 rfl
theorem dX9_lacks_96 : decode cX9_lacks 96 = .ok (.iconst 1, 1) := all_d dX9_lacks_all0 56 rfl
theorem dX9_lacks_97 : decode cX9_lacks 97 = .ok (.isub, 1) := all_d dX9_lacks_all0 57 rfl
theorem dX9_lacks_98 : decode cX9_lacks 98 = .ok (.iaload, 1) := all_d dX9_lacks_all0 58 rfl
theorem dX9_lacks_99 : decode cX9_lacks 99 = .ok (.if_icmp .eq 7, 3) := all_d dX9_lacks_all0 59 rfl
theorem dX9_lacks_102 : decode cX9_lacks 102 = .ok (.iconst 1, 1) := all_d dX9_lacks_all0 60 rfl
theorem dX9_lacks_103 : decode cX9_lacks 103 = .ok (.goto 4, 3) := all_d dX9_lacks_all0 61 rfl
theorem dX9_lacks_106 : decode cX9_lacks 106 = .ok (.iconst 0, 1) := all_d dX9_lacks_all0 62 rfl
theorem dX9_lacks_107 : decode cX9_lacks 107 = .ok (.iadd, 1) := all_d dX9_lacks_all0 63 rfl
theorem dX9_lacks_108 : decode cX9_lacks 108 = .ok (.istore_n 3, 1) := all_d dX9_lacks_all0 64 rfl
theorem dX9_lacks_109 : decode cX9_lacks 109 = .ok (.iinc 4 1, 3) := all_d dX9_lacks_all0 65 rfl
theorem dX9_lacks_112 : decode cX9_lacks 112 = .ok (.goto (-56), 3) := all_d dX9_lacks_all0 66 rfl
theorem dX9_lacks_115 : decode cX9_lacks 115 = .ok (.iload_n 2, 1) := all_d dX9_lacks_all0 67 rfl
theorem dX9_lacks_116 : decode cX9_lacks 116 = .ok (.iconst 1, 1) := all_d dX9_lacks_all0 68 rfl
theorem dX9_lacks_117 : decode cX9_lacks 117 = .ok (.iadd, 1) := all_d dX9_lacks_all0 69 rfl
theorem dX9_lacks_118 : decode cX9_lacks 118 = .ok (.iload_n 3, 1) := all_d dX9_lacks_all0 70 rfl
theorem dX9_lacks_119 : decode cX9_lacks 119 = .ok (.isub, 1) := all_d dX9_lacks_all0 71 rfl
theorem dX9_lacks_120 : decode cX9_lacks 120 = .ok (.ireturn, 1) := all_d dX9_lacks_all0 72 rfl
set_option maxRecDepth 100000 in
theorem dX9_backOf_all0 : ([(0, (.iconst 1 : Instr), 1), (1, (.istore_n 1 : Instr), 1), (2, (.iload_n 1 : Instr), 1), (3, (.aload_n 0 : Instr), 1), (4, (.getfield 7 : Instr), 3), (7, (.iconst 0 : Instr), 1), (8, (.iaload : Instr), 1), (9, (.if_icmp .gt 28 : Instr), 3), (12, (.aload_n 0 : Instr), 1), (13, (.getfield 31 : Instr), 3), (16, (.iload_n 1 : Instr), 1), (17, (.iaload : Instr), 1), (18, (.aload_n 0 : Instr), 1), (19, (.getfield 31 : Instr), 3), (22, (.iload_n 1 : Instr), 1), (23, (.iconst 1 : Instr), 1), (24, (.isub : Instr), 1), (25, (.iaload : Instr), 1), (26, (.if_icmp .ge 5 : Instr), 3), (29, (.iload_n 1 : Instr), 1), (30, (.ireturn : Instr), 1), (31, (.iinc 1 1 : Instr), 3), (34, (.goto (-32) : Instr), 3), (37, (.bipush (-2) : Instr), 2), (39, (.ireturn : Instr), 1)] : List (Nat × Instr × Nat)).all (fun q => decide (decode cX9_backOf q.1 = .ok (q.2.1, q.2.2))) = true := by decide +kernel
theorem dX9_backOf_0 : decode cX9_backOf 0 = .ok (.iconst 1, 1) := all_d dX9_backOf_all0 0 rfl
theorem dX9_backOf_1 : decode cX9_backOf 1 = .ok (.istore_n 1, 1) := all_d dX9_backOf_all0 1 rfl
theorem dX9_backOf_2 : decode cX9_backOf 2 = .ok (.iload_n 1, 1) := all_d dX9_backOf_all0 2 rfl
theorem dX9_backOf_3 : decode cX9_backOf 3 = .ok (.aload_n 0, 1) := all_d dX9_backOf_all0 3 rfl
theorem dX9_backOf_4 : decode cX9_backOf 4 = .ok (.getfield 7, 3) := all_d dX9_backOf_all0 4 rfl
theorem dX9_backOf_7 : decode cX9_backOf 7 = .ok (.iconst 0, 1) := all_d dX9_backOf_all0 5 rfl
theorem dX9_backOf_8 : decode cX9_backOf 8 = .ok (.iaload, 1) := all_d dX9_backOf_all0 6 rfl
theorem dX9_backOf_9 : decode cX9_backOf 9 = .ok (.if_icmp .gt 28, 3) := all_d dX9_backOf_all0 7 rfl
theorem dX9_backOf_12 : decode cX9_backOf 12 = .ok (.aload_n 0, 1) := all_d dX9_backOf_all0 8 rfl
theorem dX9_backOf_13 : decode cX9_backOf 13 = .ok (.getfield 31, 3) := all_d dX9_backOf_all0 9 rfl
theorem dX9_backOf_16 : decode cX9_backOf 16 = .ok (.iload_n 1, 1) := all_d dX9_backOf_all0 10 rfl
theorem dX9_backOf_17 : decode cX9_backOf 17 = .ok (.iaload, 1) := all_d dX9_backOf_all0 11 rfl
theorem dX9_backOf_18 : decode cX9_backOf 18 = .ok (.aload_n 0, 1) := all_d dX9_backOf_all0 12 rfl
theorem dX9_backOf_19 : decode cX9_backOf 19 = .ok (.getfield 31, 3) := all_d dX9_backOf_all0 13 rfl
theorem dX9_backOf_22 : decode cX9_backOf 22 = .ok (.iload_n 1, 1) := all_d dX9_backOf_all0 14 rfl
theorem dX9_backOf_23 : decode cX9_backOf 23 = .ok (.iconst 1, 1) := all_d dX9_backOf_all0 15 rfl
theorem dX9_backOf_24 : decode cX9_backOf 24 = .ok (.isub, 1) := all_d dX9_backOf_all0 16 rfl
theorem dX9_backOf_25 : decode cX9_backOf 25 = .ok (.iaload, 1) := all_d dX9_backOf_all0 17 rfl
theorem dX9_backOf_26 : decode cX9_backOf 26 = .ok (.if_icmp .ge 5, 3) := all_d dX9_backOf_all0 18 rfl
theorem dX9_backOf_29 : decode cX9_backOf 29 = .ok (.iload_n 1, 1) := all_d dX9_backOf_all0 19 rfl
theorem dX9_backOf_30 : decode cX9_backOf 30 = .ok (.ireturn, 1) := all_d dX9_backOf_all0 20 rfl
theorem dX9_backOf_31 : decode cX9_backOf 31 = .ok (.iinc 1 1, 3) := all_d dX9_backOf_all0 21 rfl
theorem dX9_backOf_34 : decode cX9_backOf 34 = .ok (.goto (-32), 3) := all_d dX9_backOf_all0 22 rfl
theorem dX9_backOf_37 : decode cX9_backOf 37 = .ok (.bipush (-2), 2) := all_d dX9_backOf_all0 23 rfl
theorem dX9_backOf_39 : decode cX9_backOf 39 = .ok (.ireturn, 1) := all_d dX9_backOf_all0 24 rfl
set_option maxRecDepth 100000 in
theorem dX9_back_all0 : ([(0, (.aload_n 0 : Instr), 1), (1, (.iconst 0 : Instr), 1), (2, (.putfield 47 : Instr), 3), (5, (.aload_n 0 : Instr), 1), (6, (.iload_n 1 : Instr), 1), (7, (.invokevirtual 68 : Instr), 3), (10, (.ifCond .ne 9 : Instr), 3), (13, (.aload_n 0 : Instr), 1), (14, (.iconst 2 : Instr), 1), (15, (.invokevirtual 78 : Instr), 3), (18, (.ireturn : Instr), 1), (19, (.aload_n 0 : Instr), 1), (20, (.iconst 0 : Instr), 1), (21, (.putfield 51 : Instr), 3), (24, (.aload_n 0 : Instr), 1), (25, (.iload_n 1 : Instr), 1), (26, (.invokevirtual 114 : Instr), 3), (29, (.aload_n 0 : Instr), 1), (30, (.invokevirtual 121 : Instr), 3), (33, (.ireturn : Instr), 1)] : List (Nat × Instr × Nat)).all (fun q => decide (decode cX9_back q.1 = .ok (q.2.1, q.2.2))) = true := by decide +kernel
theorem dX9_back_0 : decode cX9_back 0 = .ok (.aload_n 0, 1) := all_d dX9_back_all0 0 rfl
theorem dX9_back_1 : decode cX9_back 1 = .ok (.iconst 0, 1) := all_d dX9_back_all0 1 rfl
theorem dX9_back_2 : decode cX9_back 2 = .ok (.putfield 47, 3) := all_d dX9_back_all0 2 rfl
theorem dX9_back_5 : decode cX9_back 5 = .ok (.aload_n 0, 1) := all_d dX9_back_all0 3 rfl
theorem dX9_back_6 : decode cX9_back 6 = .ok (.iload_n 1, 1) := all_d dX9_back_all0 4 rfl
theorem dX9_back_7 : decode cX9_back 7 = .ok (.invokevirtual 68, 3) := all_d dX9_back_all0 5 rfl
theorem dX9_back_10 : decode cX9_back 10 = .ok (.ifCond .ne 9, 3) := all_d dX9_back_all0 6 rfl
theorem dX9_back_13 : decode cX9_back 13 = .ok (.aload_n 0, 1) := all_d dX9_back_all0 7 rfl
theorem dX9_back_14 : decode cX9_back 14 = .ok (.iconst 2, 1) := all_d dX9_back_all0 8 rfl
theorem dX9_back_15 : decode cX9_back 15 = .ok (.invokevirtual 78, 3) := all_d dX9_back_all0 9 rfl
theorem dX9_back_18 : decode cX9_back 18 = .ok (.ireturn, 1) := all_d dX9_back_all0 10 rfl
theorem dX9_back_19 : decode cX9_back 19 = .ok (.aload_n 0, 1) := all_d dX9_back_all0 11 rfl
theorem dX9_back_20 : decode cX9_back 20 = .ok (.iconst 0, 1) := all_d dX9_back_all0 12 rfl
theorem dX9_back_21 : decode cX9_back 21 = .ok (.putfield 51, 3) := all_d dX9_back_all0 13 rfl
theorem dX9_back_24 : decode cX9_back 24 = .ok (.aload_n 0, 1) := all_d dX9_back_all0 14 rfl
theorem dX9_back_25 : decode cX9_back 25 = .ok (.iload_n 1, 1) := all_d dX9_back_all0 15 rfl
theorem dX9_back_26 : decode cX9_back 26 = .ok (.invokevirtual 114, 3) := all_d dX9_back_all0 16 rfl
theorem dX9_back_29 : decode cX9_back 29 = .ok (.aload_n 0, 1) := all_d dX9_back_all0 17 rfl
theorem dX9_back_30 : decode cX9_back 30 = .ok (.invokevirtual 121, 3) := all_d dX9_back_all0 18 rfl
theorem dX9_back_33 : decode cX9_back 33 = .ok (.ireturn, 1) := all_d dX9_back_all0 19 rfl
set_option maxRecDepth 100000 in
theorem dX9_widest_all0 : ([(0, (.aload_n 0 : Instr), 1), (1, (.iconst 0 : Instr), 1), (2, (.putfield 47 : Instr), 3), (5, (.aload_n 0 : Instr), 1), (6, (.iload_n 1 : Instr), 1), (7, (.invokevirtual 68 : Instr), 3), (10, (.ifCond .ne 9 : Instr), 3), (13, (.aload_n 0 : Instr), 1), (14, (.iconst 2 : Instr), 1), (15, (.invokevirtual 78 : Instr), 3), (18, (.ireturn : Instr), 1), (19, (.aload_n 0 : Instr), 1), (20, (.iconst 0 : Instr), 1), (21, (.putfield 51 : Instr), 3), (24, (.aload_n 0 : Instr), 1), (25, (.iload_n 1 : Instr), 1), (26, (.invokevirtual 114 : Instr), 3), (29, (.iconst 0 : Instr), 1), (30, (.istore_n 2 : Instr), 1), (31, (.iconst 0 : Instr), 1), (32, (.istore_n 3 : Instr), 1), (33, (.iconst 0 : Instr), 1), (34, (.istore 4 : Instr), 2), (36, (.iconst 0 : Instr), 1), (37, (.istore 5 : Instr), 2), (39, (.iconst 1 : Instr), 1), (40, (.istore 6 : Instr), 2), (42, (.iload 6 : Instr), 2), (44, (.aload_n 0 : Instr), 1), (45, (.getfield 7 : Instr), 3), (48, (.iconst 0 : Instr), 1), (49, (.iaload : Instr), 1), (50, (.iconst 1 : Instr), 1), (51, (.iadd : Instr), 1), (52, (.if_icmp .gt 67 : Instr), 3), (55, (.iload 6 : Instr), 2), (57, (.aload_n 0 : Instr), 1), (58, (.getfield 7 : Instr), 3), (61, (.iconst 0 : Instr), 1), (62, (.iaload : Instr), 1), (63, (.if_icmp .gt 25 : Instr), 3), (66, (.aload_n 0 : Instr), 1), (67, (.getfield 31 : Instr), 3), (70, (.iload 6 : Instr), 2), (72, (.iaload : Instr), 1), (73, (.aload_n 0 : Instr), 1), (74, (.getfield 31 : Instr), 3), (77, (.iload 6 : Instr), 2), (79, (.iconst 1 : Instr), 1), (80, (.isub : Instr), 1), (81, (.iaload : Instr), 1), (82, (.if_icmp .ne 6 : Instr), 3), (85, (.goto 28 : Instr), 3), (88, (.iload 6 : Instr), 2), (90, (.iload 5 : Instr), 2), (92, (.isub : Instr), 1), (93, (.iload_n 2 : Instr), 1), (94, (.if_icmp .le 12 : Instr), 3), (97, (.iload 6 : Instr), 2), (99, (.iload 5 : Instr), 2), (101, (.isub : Instr), 1), (102, (.istore_n 2 : Instr), 1), (103, (.iload 4 : Instr), 2), (105, (.istore_n 3 : Instr), 1), (106, (.iinc 4 1 : Instr), 3), (109, (.iload 6 : Instr), 2), (111, (.istore 5 : Instr), 2), (113, (.iinc 6 1 : Instr), 3), (116, (.goto (-74) : Instr), 3), (119, (.sipush 10000 : Instr), 3), (122, (.iload_n 2 : Instr), 1), (123, (.imul : Instr), 1), (124, (.iload_n 3 : Instr), 1), (125, (.iadd : Instr), 1), (126, (.ireturn : Instr), 1)] : List (Nat × Instr × Nat)).all (fun q => decide (decode cX9_widest q.1 = .ok (q.2.1, q.2.2))) = true := by decide +kernel
theorem dX9_widest_0 : decode cX9_widest 0 = .ok (.aload_n 0, 1) := all_d dX9_widest_all0 0 rfl
theorem dX9_widest_1 : decode cX9_widest 1 = .ok (.iconst 0, 1) := all_d dX9_widest_all0 1 rfl
theorem dX9_widest_2 : decode cX9_widest 2 = .ok (.putfield 47, 3) := all_d dX9_widest_all0 2 rfl
theorem dX9_widest_5 : decode cX9_widest 5 = .ok (.aload_n 0, 1) := all_d dX9_widest_all0 3 rfl
theorem dX9_widest_6 : decode cX9_widest 6 = .ok (.iload_n 1, 1) := all_d dX9_widest_all0 4 rfl
theorem dX9_widest_7 : decode cX9_widest 7 = .ok (.invokevirtual 68, 3) := all_d dX9_widest_all0 5 rfl
theorem dX9_widest_10 : decode cX9_widest 10 = .ok (.ifCond .ne 9, 3) := all_d dX9_widest_all0 6 rfl
theorem dX9_widest_13 : decode cX9_widest 13 = .ok (.aload_n 0, 1) := all_d dX9_widest_all0 7 rfl
theorem dX9_widest_14 : decode cX9_widest 14 = .ok (.iconst 2, 1) := all_d dX9_widest_all0 8 rfl
theorem dX9_widest_15 : decode cX9_widest 15 = .ok (.invokevirtual 78, 3) := all_d dX9_widest_all0 9 rfl
theorem dX9_widest_18 : decode cX9_widest 18 = .ok (.ireturn, 1) := all_d dX9_widest_all0 10 rfl
theorem dX9_widest_19 : decode cX9_widest 19 = .ok (.aload_n 0, 1) := all_d dX9_widest_all0 11 rfl
theorem dX9_widest_20 : decode cX9_widest 20 = .ok (.iconst 0, 1) := all_d dX9_widest_all0 12 rfl
theorem dX9_widest_21 : decode cX9_widest 21 = .ok (.putfield 51, 3) := all_d dX9_widest_all0 13 rfl
theorem dX9_widest_24 : decode cX9_widest 24 = .ok (.aload_n 0, 1) := all_d dX9_widest_all0 14 rfl
theorem dX9_widest_25 : decode cX9_widest 25 = .ok (.iload_n 1, 1) := all_d dX9_widest_all0 15 rfl
theorem dX9_widest_26 : decode cX9_widest 26 = .ok (.invokevirtual 114, 3) := all_d dX9_widest_all0 16 rfl
theorem dX9_widest_29 : decode cX9_widest 29 = .ok (.iconst 0, 1) := all_d dX9_widest_all0 17 rfl
theorem dX9_widest_30 : decode cX9_widest 30 = .ok (.istore_n 2, 1) := all_d dX9_widest_all0 18 rfl
theorem dX9_widest_31 : decode cX9_widest 31 = .ok (.iconst 0, 1) := all_d dX9_widest_all0 19 rfl
theorem dX9_widest_32 : decode cX9_widest 32 = .ok (.istore_n 3, 1) := all_d dX9_widest_all0 20 rfl
theorem dX9_widest_33 : decode cX9_widest 33 = .ok (.iconst 0, 1) := all_d dX9_widest_all0 21 rfl
theorem dX9_widest_34 : decode cX9_widest 34 = .ok (.istore 4, 2) := all_d dX9_widest_all0 22 rfl
theorem dX9_widest_36 : decode cX9_widest 36 = .ok (.iconst 0, 1) := all_d dX9_widest_all0 23 rfl
theorem dX9_widest_37 : decode cX9_widest 37 = .ok (.istore 5, 2) := all_d dX9_widest_all0 24 rfl
theorem dX9_widest_39 : decode cX9_widest 39 = .ok (.iconst 1, 1) := all_d dX9_widest_all0 25 rfl
theorem dX9_widest_40 : decode cX9_widest 40 = .ok (.istore 6, 2) := all_d dX9_widest_all0 26 rfl
theorem dX9_widest_42 : decode cX9_widest 42 = .ok (.iload 6, 2) := all_d dX9_widest_all0 27 rfl
theorem dX9_widest_44 : decode cX9_widest 44 = .ok (.aload_n 0, 1) := all_d dX9_widest_all0 28 rfl
theorem dX9_widest_45 : decode cX9_widest 45 = .ok (.getfield 7, 3) := all_d dX9_widest_all0 29 rfl
theorem dX9_widest_48 : decode cX9_widest 48 = .ok (.iconst 0, 1) := all_d dX9_widest_all0 30 rfl
theorem dX9_widest_49 : decode cX9_widest 49 = .ok (.iaload, 1) := all_d dX9_widest_all0 31 rfl
theorem dX9_widest_50 : decode cX9_widest 50 = .ok (.iconst 1, 1) := all_d dX9_widest_all0 32 rfl
theorem dX9_widest_51 : decode cX9_widest 51 = .ok (.iadd, 1) := all_d dX9_widest_all0 33 rfl
theorem dX9_widest_52 : decode cX9_widest 52 = .ok (.if_icmp .gt 67, 3) := all_d dX9_widest_all0 34 rfl
theorem dX9_widest_55 : decode cX9_widest 55 = .ok (.iload 6, 2) := all_d dX9_widest_all0 35 rfl
theorem dX9_widest_57 : decode cX9_widest 57 = .ok (.aload_n 0, 1) := all_d dX9_widest_all0 36 rfl
theorem dX9_widest_58 : decode cX9_widest 58 = .ok (.getfield 7, 3) := all_d dX9_widest_all0 37 rfl
theorem dX9_widest_61 : decode cX9_widest 61 = .ok (.iconst 0, 1) := all_d dX9_widest_all0 38 rfl
theorem dX9_widest_62 : decode cX9_widest 62 = .ok (.iaload, 1) := all_d dX9_widest_all0 39 rfl
theorem dX9_widest_63 : decode cX9_widest 63 = .ok (.if_icmp .gt 25, 3) := all_d dX9_widest_all0 40 rfl
theorem dX9_widest_66 : decode cX9_widest 66 = .ok (.aload_n 0, 1) := all_d dX9_widest_all0 41 rfl
theorem dX9_widest_67 : decode cX9_widest 67 = .ok (.getfield 31, 3) := all_d dX9_widest_all0 42 rfl
theorem dX9_widest_70 : decode cX9_widest 70 = .ok (.iload 6, 2) := all_d dX9_widest_all0 43 rfl
theorem dX9_widest_72 : decode cX9_widest 72 = .ok (.iaload, 1) := all_d dX9_widest_all0 44 rfl
theorem dX9_widest_73 : decode cX9_widest 73 = .ok (.aload_n 0, 1) := all_d dX9_widest_all0 45 rfl
theorem dX9_widest_74 : decode cX9_widest 74 = .ok (.getfield 31, 3) := all_d dX9_widest_all0 46 rfl
theorem dX9_widest_77 : decode cX9_widest 77 = .ok (.iload 6, 2) := all_d dX9_widest_all0 47 rfl
theorem dX9_widest_79 : decode cX9_widest 79 = .ok (.iconst 1, 1) := all_d dX9_widest_all0 48 rfl
theorem dX9_widest_80 : decode cX9_widest 80 = .ok (.isub, 1) := all_d dX9_widest_all0 49 rfl
theorem dX9_widest_81 : decode cX9_widest 81 = .ok (.iaload, 1) := all_d dX9_widest_all0 50 rfl
theorem dX9_widest_82 : decode cX9_widest 82 = .ok (.if_icmp .ne 6, 3) := all_d dX9_widest_all0 51 rfl
theorem dX9_widest_85 : decode cX9_widest 85 = .ok (.goto 28, 3) := all_d dX9_widest_all0 52 rfl
theorem dX9_widest_88 : decode cX9_widest 88 = .ok (.iload 6, 2) := all_d dX9_widest_all0 53 rfl
theorem dX9_widest_90 : decode cX9_widest 90 = .ok (.iload 5, 2) := all_d dX9_widest_all0 54 rfl
theorem dX9_widest_92 : decode cX9_widest 92 = .ok (.isub, 1) := all_d dX9_widest_all0 55 rfl
theorem dX9_widest_93 : decode cX9_widest 93 = .ok (.iload_n 2, 1) := all_d dX9_widest_all0 56 rfl
theorem dX9_widest_94 : decode cX9_widest 94 = .ok (.if_icmp .le 12, 3) := all_d dX9_widest_all0 57 rfl
theorem dX9_widest_97 : decode cX9_widest 97 = .ok (.iload 6, 2) := all_d dX9_widest_all0 58 rfl
theorem dX9_widest_99 : decode cX9_widest 99 = .ok (.iload 5, 2) := all_d dX9_widest_all0 59 rfl
theorem dX9_widest_101 : decode cX9_widest 101 = .ok (.isub, 1) := all_d dX9_widest_all0 60 rfl
theorem dX9_widest_102 : decode cX9_widest 102 = .ok (.istore_n 2, 1) := all_d dX9_widest_all0 61 rfl
theorem dX9_widest_103 : decode cX9_widest 103 = .ok (.iload 4, 2) := all_d dX9_widest_all0 62 rfl
theorem dX9_widest_105 : decode cX9_widest 105 = .ok (.istore_n 3, 1) := all_d dX9_widest_all0 63 rfl
theorem dX9_widest_106 : decode cX9_widest 106 = .ok (.iinc 4 1, 3) := all_d dX9_widest_all0 64 rfl
theorem dX9_widest_109 : decode cX9_widest 109 = .ok (.iload 6, 2) := all_d dX9_widest_all0 65 rfl
theorem dX9_widest_111 : decode cX9_widest 111 = .ok (.istore 5, 2) := all_d dX9_widest_all0 66 rfl
theorem dX9_widest_113 : decode cX9_widest 113 = .ok (.iinc 6 1, 3) := all_d dX9_widest_all0 67 rfl
theorem dX9_widest_116 : decode cX9_widest 116 = .ok (.goto (-74), 3) := all_d dX9_widest_all0 68 rfl
theorem dX9_widest_119 : decode cX9_widest 119 = .ok (.sipush 10000, 3) := all_d dX9_widest_all0 69 rfl
theorem dX9_widest_122 : decode cX9_widest 122 = .ok (.iload_n 2, 1) := all_d dX9_widest_all0 70 rfl
theorem dX9_widest_123 : decode cX9_widest 123 = .ok (.imul, 1) := all_d dX9_widest_all0 71 rfl
theorem dX9_widest_124 : decode cX9_widest 124 = .ok (.iload_n 3, 1) := all_d dX9_widest_all0 72 rfl
theorem dX9_widest_125 : decode cX9_widest 125 = .ok (.iadd, 1) := all_d dX9_widest_all0 73 rfl
theorem dX9_widest_126 : decode cX9_widest 126 = .ok (.ireturn, 1) := all_d dX9_widest_all0 74 rfl
set_option maxRecDepth 100000 in
theorem dX9_edgeOf_all0 : ([(0, (.iconst 0 : Instr), 1), (1, (.istore_n 2 : Instr), 1), (2, (.iload_n 2 : Instr), 1), (3, (.aload_n 0 : Instr), 1), (4, (.getfield 7 : Instr), 3), (7, (.iconst 0 : Instr), 1), (8, (.iaload : Instr), 1), (9, (.if_icmp .gt 19 : Instr), 3), (12, (.aload_n 0 : Instr), 1), (13, (.getfield 31 : Instr), 3), (16, (.iload_n 2 : Instr), 1), (17, (.iaload : Instr), 1), (18, (.iload_n 1 : Instr), 1), (19, (.if_icmp .ge 9 : Instr), 3), (22, (.iinc 2 1 : Instr), 3), (25, (.goto (-23) : Instr), 3), (28, (.iload_n 2 : Instr), 1), (29, (.ireturn : Instr), 1)] : List (Nat × Instr × Nat)).all (fun q => decide (decode cX9_edgeOf q.1 = .ok (q.2.1, q.2.2))) = true := by decide +kernel
theorem dX9_edgeOf_0 : decode cX9_edgeOf 0 = .ok (.iconst 0, 1) := all_d dX9_edgeOf_all0 0 rfl
theorem dX9_edgeOf_1 : decode cX9_edgeOf 1 = .ok (.istore_n 2, 1) := all_d dX9_edgeOf_all0 1 rfl
theorem dX9_edgeOf_2 : decode cX9_edgeOf 2 = .ok (.iload_n 2, 1) := all_d dX9_edgeOf_all0 2 rfl
theorem dX9_edgeOf_3 : decode cX9_edgeOf 3 = .ok (.aload_n 0, 1) := all_d dX9_edgeOf_all0 3 rfl
theorem dX9_edgeOf_4 : decode cX9_edgeOf 4 = .ok (.getfield 7, 3) := all_d dX9_edgeOf_all0 4 rfl
theorem dX9_edgeOf_7 : decode cX9_edgeOf 7 = .ok (.iconst 0, 1) := all_d dX9_edgeOf_all0 5 rfl
theorem dX9_edgeOf_8 : decode cX9_edgeOf 8 = .ok (.iaload, 1) := all_d dX9_edgeOf_all0 6 rfl
theorem dX9_edgeOf_9 : decode cX9_edgeOf 9 = .ok (.if_icmp .gt 19, 3) := all_d dX9_edgeOf_all0 7 rfl
theorem dX9_edgeOf_12 : decode cX9_edgeOf 12 = .ok (.aload_n 0, 1) := all_d dX9_edgeOf_all0 8 rfl
theorem dX9_edgeOf_13 : decode cX9_edgeOf 13 = .ok (.getfield 31, 3) := all_d dX9_edgeOf_all0 9 rfl
theorem dX9_edgeOf_16 : decode cX9_edgeOf 16 = .ok (.iload_n 2, 1) := all_d dX9_edgeOf_all0 10 rfl
theorem dX9_edgeOf_17 : decode cX9_edgeOf 17 = .ok (.iaload, 1) := all_d dX9_edgeOf_all0 11 rfl
theorem dX9_edgeOf_18 : decode cX9_edgeOf 18 = .ok (.iload_n 1, 1) := all_d dX9_edgeOf_all0 12 rfl
theorem dX9_edgeOf_19 : decode cX9_edgeOf 19 = .ok (.if_icmp .ge 9, 3) := all_d dX9_edgeOf_all0 13 rfl
theorem dX9_edgeOf_22 : decode cX9_edgeOf 22 = .ok (.iinc 2 1, 3) := all_d dX9_edgeOf_all0 14 rfl
theorem dX9_edgeOf_25 : decode cX9_edgeOf 25 = .ok (.goto (-23), 3) := all_d dX9_edgeOf_all0 15 rfl
theorem dX9_edgeOf_28 : decode cX9_edgeOf 28 = .ok (.iload_n 2, 1) := all_d dX9_edgeOf_all0 16 rfl
theorem dX9_edgeOf_29 : decode cX9_edgeOf 29 = .ok (.ireturn, 1) := all_d dX9_edgeOf_all0 17 rfl
set_option maxRecDepth 100000 in
theorem dX9_edge_all0 : ([(0, (.aload_n 0 : Instr), 1), (1, (.iconst 0 : Instr), 1), (2, (.putfield 47 : Instr), 3), (5, (.aload_n 0 : Instr), 1), (6, (.iload_n 1 : Instr), 1), (7, (.invokevirtual 68 : Instr), 3), (10, (.ifCond .ne 9 : Instr), 3), (13, (.aload_n 0 : Instr), 1), (14, (.iconst 2 : Instr), 1), (15, (.invokevirtual 78 : Instr), 3), (18, (.ireturn : Instr), 1), (19, (.aload_n 0 : Instr), 1), (20, (.iconst 0 : Instr), 1), (21, (.putfield 51 : Instr), 3), (24, (.aload_n 0 : Instr), 1), (25, (.iload_n 1 : Instr), 1), (26, (.invokevirtual 114 : Instr), 3), (29, (.aload_n 0 : Instr), 1), (30, (.iload_n 2 : Instr), 1), (31, (.invokevirtual 125 : Instr), 3), (34, (.ireturn : Instr), 1)] : List (Nat × Instr × Nat)).all (fun q => decide (decode cX9_edge q.1 = .ok (q.2.1, q.2.2))) = true := by decide +kernel
theorem dX9_edge_0 : decode cX9_edge 0 = .ok (.aload_n 0, 1) := all_d dX9_edge_all0 0 rfl
theorem dX9_edge_1 : decode cX9_edge 1 = .ok (.iconst 0, 1) := all_d dX9_edge_all0 1 rfl
theorem dX9_edge_2 : decode cX9_edge 2 = .ok (.putfield 47, 3) := all_d dX9_edge_all0 2 rfl
theorem dX9_edge_5 : decode cX9_edge 5 = .ok (.aload_n 0, 1) := all_d dX9_edge_all0 3 rfl
theorem dX9_edge_6 : decode cX9_edge 6 = .ok (.iload_n 1, 1) := all_d dX9_edge_all0 4 rfl
theorem dX9_edge_7 : decode cX9_edge 7 = .ok (.invokevirtual 68, 3) := all_d dX9_edge_all0 5 rfl
theorem dX9_edge_10 : decode cX9_edge 10 = .ok (.ifCond .ne 9, 3) := all_d dX9_edge_all0 6 rfl
theorem dX9_edge_13 : decode cX9_edge 13 = .ok (.aload_n 0, 1) := all_d dX9_edge_all0 7 rfl
theorem dX9_edge_14 : decode cX9_edge 14 = .ok (.iconst 2, 1) := all_d dX9_edge_all0 8 rfl
theorem dX9_edge_15 : decode cX9_edge 15 = .ok (.invokevirtual 78, 3) := all_d dX9_edge_all0 9 rfl
theorem dX9_edge_18 : decode cX9_edge 18 = .ok (.ireturn, 1) := all_d dX9_edge_all0 10 rfl
theorem dX9_edge_19 : decode cX9_edge 19 = .ok (.aload_n 0, 1) := all_d dX9_edge_all0 11 rfl
theorem dX9_edge_20 : decode cX9_edge 20 = .ok (.iconst 0, 1) := all_d dX9_edge_all0 12 rfl
theorem dX9_edge_21 : decode cX9_edge 21 = .ok (.putfield 51, 3) := all_d dX9_edge_all0 13 rfl
theorem dX9_edge_24 : decode cX9_edge 24 = .ok (.aload_n 0, 1) := all_d dX9_edge_all0 14 rfl
theorem dX9_edge_25 : decode cX9_edge 25 = .ok (.iload_n 1, 1) := all_d dX9_edge_all0 15 rfl
theorem dX9_edge_26 : decode cX9_edge 26 = .ok (.invokevirtual 114, 3) := all_d dX9_edge_all0 16 rfl
theorem dX9_edge_29 : decode cX9_edge 29 = .ok (.aload_n 0, 1) := all_d dX9_edge_all0 17 rfl
theorem dX9_edge_30 : decode cX9_edge 30 = .ok (.iload_n 2, 1) := all_d dX9_edge_all0 18 rfl
theorem dX9_edge_31 : decode cX9_edge 31 = .ok (.invokevirtual 125, 3) := all_d dX9_edge_all0 19 rfl
theorem dX9_edge_34 : decode cX9_edge 34 = .ok (.ireturn, 1) := all_d dX9_edge_all0 20 rfl
set_option maxRecDepth 100000 in
theorem dX9_line_all0 : ([(0, (.aload_n 0 : Instr), 1), (1, (.iconst 0 : Instr), 1), (2, (.putfield 47 : Instr), 3), (5, (.aload_n 0 : Instr), 1), (6, (.iload_n 1 : Instr), 1), (7, (.invokevirtual 68 : Instr), 3), (10, (.ifCond .ne 9 : Instr), 3), (13, (.aload_n 0 : Instr), 1), (14, (.iconst 2 : Instr), 1), (15, (.invokevirtual 78 : Instr), 3), (18, (.ireturn : Instr), 1), (19, (.aload_n 0 : Instr), 1), (20, (.iload_n 2 : Instr), 1), (21, (.iconst 0 : Instr), 1), (22, (.iconst 1 : Instr), 1), (23, (.invokevirtual 64 : Instr), 3), (26, (.ifCond .ne 9 : Instr), 3), (29, (.aload_n 0 : Instr), 1), (30, (.iconst 1 : Instr), 1), (31, (.invokevirtual 78 : Instr), 3), (34, (.ireturn : Instr), 1), (35, (.aload_n 0 : Instr), 1), (36, (.iload_n 1 : Instr), 1), (37, (.invokevirtual 114 : Instr), 3), (40, (.aload_n 0 : Instr), 1), (41, (.getfield 31 : Instr), 3), (44, (.aload_n 0 : Instr), 1), (45, (.getfield 7 : Instr), 3), (48, (.iconst 0 : Instr), 1), (49, (.iaload : Instr), 1), (50, (.iaload : Instr), 1), (51, (.istore_n 3 : Instr), 1), (52, (.aload_n 0 : Instr), 1), (53, (.invokevirtual 121 : Instr), 3), (56, (.bipush (-2) : Instr), 2), (58, (.if_icmp .ne 8 : Instr), 3), (61, (.iload_n 3 : Instr), 1), (62, (.iconst 2 : Instr), 1), (63, (.if_icmp .ge 9 : Instr), 3), (66, (.aload_n 0 : Instr), 1), (67, (.iconst 5 : Instr), 1), (68, (.invokevirtual 78 : Instr), 3), (71, (.ireturn : Instr), 1), (72, (.aload_n 0 : Instr), 1), (73, (.iconst 0 : Instr), 1), (74, (.putfield 51 : Instr), 3), (77, (.aload_n 0 : Instr), 1), (78, (.iconst 1 : Instr), 1), (79, (.invokevirtual 125 : Instr), 3), (82, (.istore 4 : Instr), 2), (84, (.aload_n 0 : Instr), 1), (85, (.iload_n 3 : Instr), 1), (86, (.invokevirtual 125 : Instr), 3), (89, (.istore 5 : Instr), 2), (91, (.iconst 0 : Instr), 1), (92, (.istore 6 : Instr), 2), (94, (.iconst 1 : Instr), 1), (95, (.istore 7 : Instr), 2), (97, (.iconst 0 : Instr), 1), (98, (.istore 8 : Instr), 2), (100, (.iconst 1 : Instr), 1), (101, (.istore 9 : Instr), 2), (103, (.iload 9 : Instr), 2), (105, (.iload_n 3 : Instr), 1), (106, (.if_icmp .gt 82 : Instr), 3), (109, (.aload_n 0 : Instr), 1), (110, (.getfield 31 : Instr), 3), (113, (.iload 8 : Instr), 2), (115, (.iaload : Instr), 1), (116, (.iload 9 : Instr), 2), (118, (.if_icmp .ge 9 : Instr), 3), (121, (.iinc 8 1 : Instr), 3), (124, (.goto (-15) : Instr), 3), (127, (.iload_n 3 : Instr), 1), (128, (.iconst 1 : Instr), 1), (129, (.isub : Instr), 1), (130, (.iload 8 : Instr), 2), (132, (.iload 4 : Instr), 2), (134, (.isub : Instr), 1), (135, (.imul : Instr), 1)] : List (Nat × Instr × Nat)).all (fun q => decide (decode cX9_line q.1 = .ok (q.2.1, q.2.2))) = true := by decide +kernel
theorem dX9_line_0 : decode cX9_line 0 = .ok (.aload_n 0, 1) := all_d dX9_line_all0 0 rfl
theorem dX9_line_1 : decode cX9_line 1 = .ok (.iconst 0, 1) := all_d dX9_line_all0 1 rfl
theorem dX9_line_2 : decode cX9_line 2 = .ok (.putfield 47, 3) := all_d dX9_line_all0 2 rfl
theorem dX9_line_5 : decode cX9_line 5 = .ok (.aload_n 0, 1) := all_d dX9_line_all0 3 rfl
theorem dX9_line_6 : decode cX9_line 6 = .ok (.iload_n 1, 1) := all_d dX9_line_all0 4 rfl
theorem dX9_line_7 : decode cX9_line 7 = .ok (.invokevirtual 68, 3) := all_d dX9_line_all0 5 rfl
theorem dX9_line_10 : decode cX9_line 10 = .ok (.ifCond .ne 9, 3) := all_d dX9_line_all0 6 rfl
theorem dX9_line_13 : decode cX9_line 13 = .ok (.aload_n 0, 1) := all_d dX9_line_all0 7 rfl
theorem dX9_line_14 : decode cX9_line 14 = .ok (.iconst 2, 1) := all_d dX9_line_all0 8 rfl
theorem dX9_line_15 : decode cX9_line 15 = .ok (.invokevirtual 78, 3) := all_d dX9_line_all0 9 rfl
theorem dX9_line_18 : decode cX9_line 18 = .ok (.ireturn, 1) := all_d dX9_line_all0 10 rfl
theorem dX9_line_19 : decode cX9_line 19 = .ok (.aload_n 0, 1) := all_d dX9_line_all0 11 rfl
theorem dX9_line_20 : decode cX9_line 20 = .ok (.iload_n 2, 1) := all_d dX9_line_all0 12 rfl
theorem dX9_line_21 : decode cX9_line 21 = .ok (.iconst 0, 1) := all_d dX9_line_all0 13 rfl
theorem dX9_line_22 : decode cX9_line 22 = .ok (.iconst 1, 1) := all_d dX9_line_all0 14 rfl
theorem dX9_line_23 : decode cX9_line 23 = .ok (.invokevirtual 64, 3) := all_d dX9_line_all0 15 rfl
theorem dX9_line_26 : decode cX9_line 26 = .ok (.ifCond .ne 9, 3) := all_d dX9_line_all0 16 rfl
theorem dX9_line_29 : decode cX9_line 29 = .ok (.aload_n 0, 1) := all_d dX9_line_all0 17 rfl
theorem dX9_line_30 : decode cX9_line 30 = .ok (.iconst 1, 1) := all_d dX9_line_all0 18 rfl
theorem dX9_line_31 : decode cX9_line 31 = .ok (.invokevirtual 78, 3) := all_d dX9_line_all0 19 rfl
theorem dX9_line_34 : decode cX9_line 34 = .ok (.ireturn, 1) := all_d dX9_line_all0 20 rfl
theorem dX9_line_35 : decode cX9_line 35 = .ok (.aload_n 0, 1) := all_d dX9_line_all0 21 rfl
theorem dX9_line_36 : decode cX9_line 36 = .ok (.iload_n 1, 1) := all_d dX9_line_all0 22 rfl
theorem dX9_line_37 : decode cX9_line 37 = .ok (.invokevirtual 114, 3) := all_d dX9_line_all0 23 rfl
theorem dX9_line_40 : decode cX9_line 40 = .ok (.aload_n 0, 1) := all_d dX9_line_all0 24 rfl
theorem dX9_line_41 : decode cX9_line 41 = .ok (.getfield 31, 3) := all_d dX9_line_all0 25 rfl
theorem dX9_line_44 : decode cX9_line 44 = .ok (.aload_n 0, 1) := all_d dX9_line_all0 26 rfl
theorem dX9_line_45 : decode cX9_line 45 = .ok (.getfield 7, 3) := all_d dX9_line_all0 27 rfl
theorem dX9_line_48 : decode cX9_line 48 = .ok (.iconst 0, 1) := all_d dX9_line_all0 28 rfl
theorem dX9_line_49 : decode cX9_line 49 = .ok (.iaload, 1) := all_d dX9_line_all0 29 rfl
theorem dX9_line_50 : decode cX9_line 50 = .ok (.iaload, 1) := all_d dX9_line_all0 30 rfl
theorem dX9_line_51 : decode cX9_line 51 = .ok (.istore_n 3, 1) := all_d dX9_line_all0 31 rfl
theorem dX9_line_52 : decode cX9_line 52 = .ok (.aload_n 0, 1) := all_d dX9_line_all0 32 rfl
theorem dX9_line_53 : decode cX9_line 53 = .ok (.invokevirtual 121, 3) := all_d dX9_line_all0 33 rfl
theorem dX9_line_56 : decode cX9_line 56 = .ok (.bipush (-2), 2) := all_d dX9_line_all0 34 rfl
theorem dX9_line_58 : decode cX9_line 58 = .ok (.if_icmp .ne 8, 3) := all_d dX9_line_all0 35 rfl
theorem dX9_line_61 : decode cX9_line 61 = .ok (.iload_n 3, 1) := all_d dX9_line_all0 36 rfl
theorem dX9_line_62 : decode cX9_line 62 = .ok (.iconst 2, 1) := all_d dX9_line_all0 37 rfl
theorem dX9_line_63 : decode cX9_line 63 = .ok (.if_icmp .ge 9, 3) := all_d dX9_line_all0 38 rfl
theorem dX9_line_66 : decode cX9_line 66 = .ok (.aload_n 0, 1) := all_d dX9_line_all0 39 rfl
theorem dX9_line_67 : decode cX9_line 67 = .ok (.iconst 5, 1) := all_d dX9_line_all0 40 rfl
theorem dX9_line_68 : decode cX9_line 68 = .ok (.invokevirtual 78, 3) := all_d dX9_line_all0 41 rfl
theorem dX9_line_71 : decode cX9_line 71 = .ok (.ireturn, 1) := all_d dX9_line_all0 42 rfl
theorem dX9_line_72 : decode cX9_line 72 = .ok (.aload_n 0, 1) := all_d dX9_line_all0 43 rfl
theorem dX9_line_73 : decode cX9_line 73 = .ok (.iconst 0, 1) := all_d dX9_line_all0 44 rfl
theorem dX9_line_74 : decode cX9_line 74 = .ok (.putfield 51, 3) := all_d dX9_line_all0 45 rfl
theorem dX9_line_77 : decode cX9_line 77 = .ok (.aload_n 0, 1) := all_d dX9_line_all0 46 rfl
theorem dX9_line_78 : decode cX9_line 78 = .ok (.iconst 1, 1) := all_d dX9_line_all0 47 rfl
theorem dX9_line_79 : decode cX9_line 79 = .ok (.invokevirtual 125, 3) := all_d dX9_line_all0 48 rfl
theorem dX9_line_82 : decode cX9_line 82 = .ok (.istore 4, 2) := all_d dX9_line_all0 49 rfl
theorem dX9_line_84 : decode cX9_line 84 = .ok (.aload_n 0, 1) := all_d dX9_line_all0 50 rfl
theorem dX9_line_85 : decode cX9_line 85 = .ok (.iload_n 3, 1) := all_d dX9_line_all0 51 rfl
theorem dX9_line_86 : decode cX9_line 86 = .ok (.invokevirtual 125, 3) := all_d dX9_line_all0 52 rfl
theorem dX9_line_89 : decode cX9_line 89 = .ok (.istore 5, 2) := all_d dX9_line_all0 53 rfl
theorem dX9_line_91 : decode cX9_line 91 = .ok (.iconst 0, 1) := all_d dX9_line_all0 54 rfl
theorem dX9_line_92 : decode cX9_line 92 = .ok (.istore 6, 2) := all_d dX9_line_all0 55 rfl
theorem dX9_line_94 : decode cX9_line 94 = .ok (.iconst 1, 1) := all_d dX9_line_all0 56 rfl
theorem dX9_line_95 : decode cX9_line 95 = .ok (.istore 7, 2) := all_d dX9_line_all0 57 rfl
theorem dX9_line_97 : decode cX9_line 97 = .ok (.iconst 0, 1) := all_d dX9_line_all0 58 rfl
theorem dX9_line_98 : decode cX9_line 98 = .ok (.istore 8, 2) := all_d dX9_line_all0 59 rfl
theorem dX9_line_100 : decode cX9_line 100 = .ok (.iconst 1, 1) := all_d dX9_line_all0 60 rfl
theorem dX9_line_101 : decode cX9_line 101 = .ok (.istore 9, 2) := all_d dX9_line_all0 61 rfl
theorem dX9_line_103 : decode cX9_line 103 = .ok (.iload 9, 2) := all_d dX9_line_all0 62 rfl
theorem dX9_line_105 : decode cX9_line 105 = .ok (.iload_n 3, 1) := all_d dX9_line_all0 63 rfl
theorem dX9_line_106 : decode cX9_line 106 = .ok (.if_icmp .gt 82, 3) := all_d dX9_line_all0 64 rfl
theorem dX9_line_109 : decode cX9_line 109 = .ok (.aload_n 0, 1) := all_d dX9_line_all0 65 rfl
theorem dX9_line_110 : decode cX9_line 110 = .ok (.getfield 31, 3) := all_d dX9_line_all0 66 rfl
theorem dX9_line_113 : decode cX9_line 113 = .ok (.iload 8, 2) := all_d dX9_line_all0 67 rfl
theorem dX9_line_115 : decode cX9_line 115 = .ok (.iaload, 1) := all_d dX9_line_all0 68 rfl
theorem dX9_line_116 : decode cX9_line 116 = .ok (.iload 9, 2) := all_d dX9_line_all0 69 rfl
theorem dX9_line_118 : decode cX9_line 118 = .ok (.if_icmp .ge 9, 3) := all_d dX9_line_all0 70 rfl
theorem dX9_line_121 : decode cX9_line 121 = .ok (.iinc 8 1, 3) := all_d dX9_line_all0 71 rfl
theorem dX9_line_124 : decode cX9_line 124 = .ok (.goto (-15), 3) := all_d dX9_line_all0 72 rfl
theorem dX9_line_127 : decode cX9_line 127 = .ok (.iload_n 3, 1) := all_d dX9_line_all0 73 rfl
theorem dX9_line_128 : decode cX9_line 128 = .ok (.iconst 1, 1) := all_d dX9_line_all0 74 rfl
theorem dX9_line_129 : decode cX9_line 129 = .ok (.isub, 1) := all_d dX9_line_all0 75 rfl
theorem dX9_line_130 : decode cX9_line 130 = .ok (.iload 8, 2) := all_d dX9_line_all0 76 rfl
theorem dX9_line_132 : decode cX9_line 132 = .ok (.iload 4, 2) := all_d dX9_line_all0 77 rfl
theorem dX9_line_134 : decode cX9_line 134 = .ok (.isub, 1) := all_d dX9_line_all0 78 rfl
theorem dX9_line_135 : decode cX9_line 135 = .ok (.imul, 1) := all_d dX9_line_all0 79 rfl
set_option maxRecDepth 100000 in
theorem dX9_line_all1 : ([(136, (.iload 9 : Instr), 2), (138, (.iconst 1 : Instr), 1), (139, (.isub : Instr), 1), (140, (.iload 5 : Instr), 2), (142, (.iload 4 : Instr), 2), (144, (.isub : Instr), 1), (145, (.imul : Instr), 1), (146, (.isub : Instr), 1), (147, (.istore 10 : Instr), 2), (149, (.iload 10 : Instr), 2), (151, (.ifCond .ge 9 : Instr), 3), (154, (.iload 10 : Instr), 2), (156, (.ineg : Instr), 1), (157, (.goto 5 : Instr), 3), (160, (.iload 10 : Instr), 2), (162, (.istore 11 : Instr), 2), (164, (.iload 11 : Instr), 2), (166, (.iload 6 : Instr), 2), (168, (.if_icmp .gt 6 : Instr), 3), (171, (.goto 11 : Instr), 3), (174, (.iload 11 : Instr), 2), (176, (.istore 6 : Instr), 2), (178, (.iload 9 : Instr), 2), (180, (.istore 7 : Instr), 2), (182, (.iinc 9 1 : Instr), 3), (185, (.goto (-82) : Instr), 3), (188, (.iload_n 2 : Instr), 1), (189, (.ifCond .ne 8 : Instr), 3), (192, (.iload 6 : Instr), 2), (194, (.goto 5 : Instr), 3), (197, (.iload 7 : Instr), 2), (199, (.ireturn : Instr), 1)] : List (Nat × Instr × Nat)).all (fun q => decide (decode cX9_line q.1 = .ok (q.2.1, q.2.2))) = true := by decide +kernel
theorem dX9_line_136 : decode cX9_line 136 = .ok (.iload 9, 2) := all_d dX9_line_all1 0 rfl
theorem dX9_line_138 : decode cX9_line 138 = .ok (.iconst 1, 1) := all_d dX9_line_all1 1 rfl
theorem dX9_line_139 : decode cX9_line 139 = .ok (.isub, 1) := all_d dX9_line_all1 2 rfl
theorem dX9_line_140 : decode cX9_line 140 = .ok (.iload 5, 2) := all_d dX9_line_all1 3 rfl
theorem dX9_line_142 : decode cX9_line 142 = .ok (.iload 4, 2) := all_d dX9_line_all1 4 rfl
theorem dX9_line_144 : decode cX9_line 144 = .ok (.isub, 1) := all_d dX9_line_all1 5 rfl
theorem dX9_line_145 : decode cX9_line 145 = .ok (.imul, 1) := all_d dX9_line_all1 6 rfl
theorem dX9_line_146 : decode cX9_line 146 = .ok (.isub, 1) := all_d dX9_line_all1 7 rfl
theorem dX9_line_147 : decode cX9_line 147 = .ok (.istore 10, 2) := all_d dX9_line_all1 8 rfl
theorem dX9_line_149 : decode cX9_line 149 = .ok (.iload 10, 2) := all_d dX9_line_all1 9 rfl
theorem dX9_line_151 : decode cX9_line 151 = .ok (.ifCond .ge 9, 3) := all_d dX9_line_all1 10 rfl
theorem dX9_line_154 : decode cX9_line 154 = .ok (.iload 10, 2) := all_d dX9_line_all1 11 rfl
theorem dX9_line_156 : decode cX9_line 156 = .ok (.ineg, 1) := all_d dX9_line_all1 12 rfl
theorem dX9_line_157 : decode cX9_line 157 = .ok (.goto 5, 3) := all_d dX9_line_all1 13 rfl
theorem dX9_line_160 : decode cX9_line 160 = .ok (.iload 10, 2) := all_d dX9_line_all1 14 rfl
theorem dX9_line_162 : decode cX9_line 162 = .ok (.istore 11, 2) := all_d dX9_line_all1 15 rfl
theorem dX9_line_164 : decode cX9_line 164 = .ok (.iload 11, 2) := all_d dX9_line_all1 16 rfl
theorem dX9_line_166 : decode cX9_line 166 = .ok (.iload 6, 2) := all_d dX9_line_all1 17 rfl
theorem dX9_line_168 : decode cX9_line 168 = .ok (.if_icmp .gt 6, 3) := all_d dX9_line_all1 18 rfl
theorem dX9_line_171 : decode cX9_line 171 = .ok (.goto 11, 3) := all_d dX9_line_all1 19 rfl
theorem dX9_line_174 : decode cX9_line 174 = .ok (.iload 11, 2) := all_d dX9_line_all1 20 rfl
theorem dX9_line_176 : decode cX9_line 176 = .ok (.istore 6, 2) := all_d dX9_line_all1 21 rfl
theorem dX9_line_178 : decode cX9_line 178 = .ok (.iload 9, 2) := all_d dX9_line_all1 22 rfl
theorem dX9_line_180 : decode cX9_line 180 = .ok (.istore 7, 2) := all_d dX9_line_all1 23 rfl
theorem dX9_line_182 : decode cX9_line 182 = .ok (.iinc 9 1, 3) := all_d dX9_line_all1 24 rfl
theorem dX9_line_185 : decode cX9_line 185 = .ok (.goto (-82), 3) := all_d dX9_line_all1 25 rfl
theorem dX9_line_188 : decode cX9_line 188 = .ok (.iload_n 2, 1) := all_d dX9_line_all1 26 rfl
theorem dX9_line_189 : decode cX9_line 189 = .ok (.ifCond .ne 8, 3) := all_d dX9_line_all1 27 rfl
theorem dX9_line_192 : decode cX9_line 192 = .ok (.iload 6, 2) := all_d dX9_line_all1 28 rfl
theorem dX9_line_194 : decode cX9_line 194 = .ok (.goto 5, 3) := all_d dX9_line_all1 29 rfl
theorem dX9_line_197 : decode cX9_line 197 = .ok (.iload 7, 2) := all_d dX9_line_all1 30 rfl
theorem dX9_line_199 : decode cX9_line 199 = .ok (.ireturn, 1) := all_d dX9_line_all1 31 rfl
set_option maxRecDepth 100000 in
theorem dX9_isOf_all0 : ([(0, (.aload_n 0 : Instr), 1), (1, (.getfield 7 : Instr), 3), (4, (.aload_n 0 : Instr), 1), (5, (.iload_n 1 : Instr), 1), (6, (.iload_n 2 : Instr), 1), (7, (.invokevirtual 85 : Instr), 3), (10, (.iaload : Instr), 1), (11, (.aload_n 0 : Instr), 1), (12, (.getfield 7 : Instr), 3), (15, (.aload_n 0 : Instr), 1), (16, (.iload_n 1 : Instr), 1), (17, (.iload_n 2 : Instr), 1), (18, (.invokevirtual 85 : Instr), 3), (21, (.iconst 1 : Instr), 1), (22, (.iadd : Instr), 1), (23, (.iaload : Instr), 1), (24, (.iadd : Instr), 1), (25, (.ireturn : Instr), 1)] : List (Nat × Instr × Nat)).all (fun q => decide (decode cX9_isOf q.1 = .ok (q.2.1, q.2.2))) = true := by decide +kernel
theorem dX9_isOf_0 : decode cX9_isOf 0 = .ok (.aload_n 0, 1) := all_d dX9_isOf_all0 0 rfl
theorem dX9_isOf_1 : decode cX9_isOf 1 = .ok (.getfield 7, 3) := all_d dX9_isOf_all0 1 rfl
theorem dX9_isOf_4 : decode cX9_isOf 4 = .ok (.aload_n 0, 1) := all_d dX9_isOf_all0 2 rfl
theorem dX9_isOf_5 : decode cX9_isOf 5 = .ok (.iload_n 1, 1) := all_d dX9_isOf_all0 3 rfl
theorem dX9_isOf_6 : decode cX9_isOf 6 = .ok (.iload_n 2, 1) := all_d dX9_isOf_all0 4 rfl
theorem dX9_isOf_7 : decode cX9_isOf 7 = .ok (.invokevirtual 85, 3) := all_d dX9_isOf_all0 5 rfl
theorem dX9_isOf_10 : decode cX9_isOf 10 = .ok (.iaload, 1) := all_d dX9_isOf_all0 6 rfl
theorem dX9_isOf_11 : decode cX9_isOf 11 = .ok (.aload_n 0, 1) := all_d dX9_isOf_all0 7 rfl
theorem dX9_isOf_12 : decode cX9_isOf 12 = .ok (.getfield 7, 3) := all_d dX9_isOf_all0 8 rfl
theorem dX9_isOf_15 : decode cX9_isOf 15 = .ok (.aload_n 0, 1) := all_d dX9_isOf_all0 9 rfl
theorem dX9_isOf_16 : decode cX9_isOf 16 = .ok (.iload_n 1, 1) := all_d dX9_isOf_all0 10 rfl
theorem dX9_isOf_17 : decode cX9_isOf 17 = .ok (.iload_n 2, 1) := all_d dX9_isOf_all0 11 rfl
theorem dX9_isOf_18 : decode cX9_isOf 18 = .ok (.invokevirtual 85, 3) := all_d dX9_isOf_all0 12 rfl
theorem dX9_isOf_21 : decode cX9_isOf 21 = .ok (.iconst 1, 1) := all_d dX9_isOf_all0 13 rfl
theorem dX9_isOf_22 : decode cX9_isOf 22 = .ok (.iadd, 1) := all_d dX9_isOf_all0 14 rfl
theorem dX9_isOf_23 : decode cX9_isOf 23 = .ok (.iaload, 1) := all_d dX9_isOf_all0 15 rfl
theorem dX9_isOf_24 : decode cX9_isOf 24 = .ok (.iadd, 1) := all_d dX9_isOf_all0 16 rfl
theorem dX9_isOf_25 : decode cX9_isOf 25 = .ok (.ireturn, 1) := all_d dX9_isOf_all0 17 rfl
set_option maxRecDepth 100000 in
theorem dX9_covered_all0 : ([(0, (.aload_n 0 : Instr), 1), (1, (.iconst 0 : Instr), 1), (2, (.putfield 47 : Instr), 3), (5, (.aload_n 0 : Instr), 1), (6, (.iload_n 1 : Instr), 1), (7, (.invokevirtual 68 : Instr), 3), (10, (.ifCond .ne 9 : Instr), 3), (13, (.aload_n 0 : Instr), 1), (14, (.iconst 2 : Instr), 1), (15, (.invokevirtual 78 : Instr), 3), (18, (.ireturn : Instr), 1), (19, (.aload_n 0 : Instr), 1), (20, (.getfield 7 : Instr), 3), (23, (.iconst 2 : Instr), 1), (24, (.iload_n 1 : Instr), 1), (25, (.iadd : Instr), 1), (26, (.iaload : Instr), 1), (27, (.iconst 2 : Instr), 1), (28, (.if_icmp .eq 9 : Instr), 3), (31, (.aload_n 0 : Instr), 1), (32, (.iconst 4 : Instr), 1), (33, (.invokevirtual 78 : Instr), 3), (36, (.ireturn : Instr), 1), (37, (.aload_n 0 : Instr), 1), (38, (.iconst 0 : Instr), 1), (39, (.putfield 51 : Instr), 3), (42, (.iconst 0 : Instr), 1), (43, (.istore_n 2 : Instr), 1), (44, (.iload_n 2 : Instr), 1), (45, (.aload_n 0 : Instr), 1), (46, (.getfield 7 : Instr), 3), (49, (.bipush 10 : Instr), 2), (51, (.iload_n 1 : Instr), 1), (52, (.iadd : Instr), 1), (53, (.iaload : Instr), 1), (54, (.if_icmp .ge 63 : Instr), 3), (57, (.iconst 1 : Instr), 1), (58, (.istore_n 3 : Instr), 1), (59, (.iload_n 2 : Instr), 1), (60, (.iconst 1 : Instr), 1), (61, (.iadd : Instr), 1), (62, (.istore 4 : Instr), 2), (64, (.iload 4 : Instr), 2), (66, (.aload_n 0 : Instr), 1), (67, (.getfield 7 : Instr), 3), (70, (.bipush 10 : Instr), 2), (72, (.iload_n 1 : Instr), 1), (73, (.iadd : Instr), 1), (74, (.iaload : Instr), 1), (75, (.if_icmp .ge 19 : Instr), 3), (78, (.iload_n 3 : Instr), 1), (79, (.aload_n 0 : Instr), 1), (80, (.iload_n 1 : Instr), 1), (81, (.iload 4 : Instr), 2), (83, (.invokevirtual 128 : Instr), 3), (86, (.iadd : Instr), 1), (87, (.istore_n 3 : Instr), 1), (88, (.iinc 4 1 : Instr), 3), (91, (.goto (-27) : Instr), 3), (94, (.aload_n 0 : Instr), 1), (95, (.aload_n 0 : Instr), 1), (96, (.iload_n 1 : Instr), 1), (97, (.iload_n 2 : Instr), 1), (98, (.invokevirtual 128 : Instr), 3), (101, (.iconst 0 : Instr), 1), (102, (.iload_n 3 : Instr), 1), (103, (.invokevirtual 64 : Instr), 3), (106, (.ifCond .ne 5 : Instr), 3), (109, (.iload_n 2 : Instr), 1), (110, (.ireturn : Instr), 1), (111, (.iinc 2 1 : Instr), 3), (114, (.goto (-70) : Instr), 3), (117, (.bipush (-2) : Instr), 2), (119, (.ireturn : Instr), 1)] : List (Nat × Instr × Nat)).all (fun q => decide (decode cX9_covered q.1 = .ok (q.2.1, q.2.2))) = true := by decide +kernel
theorem dX9_covered_0 : decode cX9_covered 0 = .ok (.aload_n 0, 1) := all_d dX9_covered_all0 0 rfl
theorem dX9_covered_1 : decode cX9_covered 1 = .ok (.iconst 0, 1) := all_d dX9_covered_all0 1 rfl
theorem dX9_covered_2 : decode cX9_covered 2 = .ok (.putfield 47, 3) := all_d dX9_covered_all0 2 rfl
theorem dX9_covered_5 : decode cX9_covered 5 = .ok (.aload_n 0, 1) := all_d dX9_covered_all0 3 rfl
theorem dX9_covered_6 : decode cX9_covered 6 = .ok (.iload_n 1, 1) := all_d dX9_covered_all0 4 rfl
theorem dX9_covered_7 : decode cX9_covered 7 = .ok (.invokevirtual 68, 3) := all_d dX9_covered_all0 5 rfl
theorem dX9_covered_10 : decode cX9_covered 10 = .ok (.ifCond .ne 9, 3) := all_d dX9_covered_all0 6 rfl
theorem dX9_covered_13 : decode cX9_covered 13 = .ok (.aload_n 0, 1) := all_d dX9_covered_all0 7 rfl
theorem dX9_covered_14 : decode cX9_covered 14 = .ok (.iconst 2, 1) := all_d dX9_covered_all0 8 rfl
theorem dX9_covered_15 : decode cX9_covered 15 = .ok (.invokevirtual 78, 3) := all_d dX9_covered_all0 9 rfl
theorem dX9_covered_18 : decode cX9_covered 18 = .ok (.ireturn, 1) := all_d dX9_covered_all0 10 rfl
theorem dX9_covered_19 : decode cX9_covered 19 = .ok (.aload_n 0, 1) := all_d dX9_covered_all0 11 rfl
theorem dX9_covered_20 : decode cX9_covered 20 = .ok (.getfield 7, 3) := all_d dX9_covered_all0 12 rfl
theorem dX9_covered_23 : decode cX9_covered 23 = .ok (.iconst 2, 1) := all_d dX9_covered_all0 13 rfl
theorem dX9_covered_24 : decode cX9_covered 24 = .ok (.iload_n 1, 1) := all_d dX9_covered_all0 14 rfl
theorem dX9_covered_25 : decode cX9_covered 25 = .ok (.iadd, 1) := all_d dX9_covered_all0 15 rfl
theorem dX9_covered_26 : decode cX9_covered 26 = .ok (.iaload, 1) := all_d dX9_covered_all0 16 rfl
theorem dX9_covered_27 : decode cX9_covered 27 = .ok (.iconst 2, 1) := all_d dX9_covered_all0 17 rfl
theorem dX9_covered_28 : decode cX9_covered 28 = .ok (.if_icmp .eq 9, 3) := all_d dX9_covered_all0 18 rfl
theorem dX9_covered_31 : decode cX9_covered 31 = .ok (.aload_n 0, 1) := all_d dX9_covered_all0 19 rfl
theorem dX9_covered_32 : decode cX9_covered 32 = .ok (.iconst 4, 1) := all_d dX9_covered_all0 20 rfl
theorem dX9_covered_33 : decode cX9_covered 33 = .ok (.invokevirtual 78, 3) := all_d dX9_covered_all0 21 rfl
theorem dX9_covered_36 : decode cX9_covered 36 = .ok (.ireturn, 1) := all_d dX9_covered_all0 22 rfl
theorem dX9_covered_37 : decode cX9_covered 37 = .ok (.aload_n 0, 1) := all_d dX9_covered_all0 23 rfl
theorem dX9_covered_38 : decode cX9_covered 38 = .ok (.iconst 0, 1) := all_d dX9_covered_all0 24 rfl
theorem dX9_covered_39 : decode cX9_covered 39 = .ok (.putfield 51, 3) := all_d dX9_covered_all0 25 rfl
theorem dX9_covered_42 : decode cX9_covered 42 = .ok (.iconst 0, 1) := all_d dX9_covered_all0 26 rfl
theorem dX9_covered_43 : decode cX9_covered 43 = .ok (.istore_n 2, 1) := all_d dX9_covered_all0 27 rfl
theorem dX9_covered_44 : decode cX9_covered 44 = .ok (.iload_n 2, 1) := all_d dX9_covered_all0 28 rfl
theorem dX9_covered_45 : decode cX9_covered 45 = .ok (.aload_n 0, 1) := all_d dX9_covered_all0 29 rfl
theorem dX9_covered_46 : decode cX9_covered 46 = .ok (.getfield 7, 3) := all_d dX9_covered_all0 30 rfl
theorem dX9_covered_49 : decode cX9_covered 49 = .ok (.bipush 10, 2) := all_d dX9_covered_all0 31 rfl
theorem dX9_covered_51 : decode cX9_covered 51 = .ok (.iload_n 1, 1) := all_d dX9_covered_all0 32 rfl
theorem dX9_covered_52 : decode cX9_covered 52 = .ok (.iadd, 1) := all_d dX9_covered_all0 33 rfl
theorem dX9_covered_53 : decode cX9_covered 53 = .ok (.iaload, 1) := all_d dX9_covered_all0 34 rfl
theorem dX9_covered_54 : decode cX9_covered 54 = .ok (.if_icmp .ge 63, 3) := all_d dX9_covered_all0 35 rfl
theorem dX9_covered_57 : decode cX9_covered 57 = .ok (.iconst 1, 1) := all_d dX9_covered_all0 36 rfl
theorem dX9_covered_58 : decode cX9_covered 58 = .ok (.istore_n 3, 1) := all_d dX9_covered_all0 37 rfl
theorem dX9_covered_59 : decode cX9_covered 59 = .ok (.iload_n 2, 1) := all_d dX9_covered_all0 38 rfl
theorem dX9_covered_60 : decode cX9_covered 60 = .ok (.iconst 1, 1) := all_d dX9_covered_all0 39 rfl
theorem dX9_covered_61 : decode cX9_covered 61 = .ok (.iadd, 1) := all_d dX9_covered_all0 40 rfl
theorem dX9_covered_62 : decode cX9_covered 62 = .ok (.istore 4, 2) := all_d dX9_covered_all0 41 rfl
theorem dX9_covered_64 : decode cX9_covered 64 = .ok (.iload 4, 2) := all_d dX9_covered_all0 42 rfl
theorem dX9_covered_66 : decode cX9_covered 66 = .ok (.aload_n 0, 1) := all_d dX9_covered_all0 43 rfl
theorem dX9_covered_67 : decode cX9_covered 67 = .ok (.getfield 7, 3) := all_d dX9_covered_all0 44 rfl
theorem dX9_covered_70 : decode cX9_covered 70 = .ok (.bipush 10, 2) := all_d dX9_covered_all0 45 rfl
theorem dX9_covered_72 : decode cX9_covered 72 = .ok (.iload_n 1, 1) := all_d dX9_covered_all0 46 rfl
theorem dX9_covered_73 : decode cX9_covered 73 = .ok (.iadd, 1) := all_d dX9_covered_all0 47 rfl
theorem dX9_covered_74 : decode cX9_covered 74 = .ok (.iaload, 1) := all_d dX9_covered_all0 48 rfl
theorem dX9_covered_75 : decode cX9_covered 75 = .ok (.if_icmp .ge 19, 3) := all_d dX9_covered_all0 49 rfl
theorem dX9_covered_78 : decode cX9_covered 78 = .ok (.iload_n 3, 1) := all_d dX9_covered_all0 50 rfl
theorem dX9_covered_79 : decode cX9_covered 79 = .ok (.aload_n 0, 1) := all_d dX9_covered_all0 51 rfl
theorem dX9_covered_80 : decode cX9_covered 80 = .ok (.iload_n 1, 1) := all_d dX9_covered_all0 52 rfl
theorem dX9_covered_81 : decode cX9_covered 81 = .ok (.iload 4, 2) := all_d dX9_covered_all0 53 rfl
theorem dX9_covered_83 : decode cX9_covered 83 = .ok (.invokevirtual 128, 3) := all_d dX9_covered_all0 54 rfl
theorem dX9_covered_86 : decode cX9_covered 86 = .ok (.iadd, 1) := all_d dX9_covered_all0 55 rfl
theorem dX9_covered_87 : decode cX9_covered 87 = .ok (.istore_n 3, 1) := all_d dX9_covered_all0 56 rfl
theorem dX9_covered_88 : decode cX9_covered 88 = .ok (.iinc 4 1, 3) := all_d dX9_covered_all0 57 rfl
theorem dX9_covered_91 : decode cX9_covered 91 = .ok (.goto (-27), 3) := all_d dX9_covered_all0 58 rfl
theorem dX9_covered_94 : decode cX9_covered 94 = .ok (.aload_n 0, 1) := all_d dX9_covered_all0 59 rfl
theorem dX9_covered_95 : decode cX9_covered 95 = .ok (.aload_n 0, 1) := all_d dX9_covered_all0 60 rfl
theorem dX9_covered_96 : decode cX9_covered 96 = .ok (.iload_n 1, 1) := all_d dX9_covered_all0 61 rfl
theorem dX9_covered_97 : decode cX9_covered 97 = .ok (.iload_n 2, 1) := all_d dX9_covered_all0 62 rfl
theorem dX9_covered_98 : decode cX9_covered 98 = .ok (.invokevirtual 128, 3) := all_d dX9_covered_all0 63 rfl
theorem dX9_covered_101 : decode cX9_covered 101 = .ok (.iconst 0, 1) := all_d dX9_covered_all0 64 rfl
theorem dX9_covered_102 : decode cX9_covered 102 = .ok (.iload_n 3, 1) := all_d dX9_covered_all0 65 rfl
theorem dX9_covered_103 : decode cX9_covered 103 = .ok (.invokevirtual 64, 3) := all_d dX9_covered_all0 66 rfl
theorem dX9_covered_106 : decode cX9_covered 106 = .ok (.ifCond .ne 5, 3) := all_d dX9_covered_all0 67 rfl
theorem dX9_covered_109 : decode cX9_covered 109 = .ok (.iload_n 2, 1) := all_d dX9_covered_all0 68 rfl
theorem dX9_covered_110 : decode cX9_covered 110 = .ok (.ireturn, 1) := all_d dX9_covered_all0 69 rfl
theorem dX9_covered_111 : decode cX9_covered 111 = .ok (.iinc 2 1, 3) := all_d dX9_covered_all0 70 rfl
theorem dX9_covered_114 : decode cX9_covered 114 = .ok (.goto (-70), 3) := all_d dX9_covered_all0 71 rfl
theorem dX9_covered_117 : decode cX9_covered 117 = .ok (.bipush (-2), 2) := all_d dX9_covered_all0 72 rfl
theorem dX9_covered_119 : decode cX9_covered 119 = .ok (.ireturn, 1) := all_d dX9_covered_all0 73 rfl
set_option maxRecDepth 100000 in
theorem dX9_tail_all0 : ([(0, (.aload_n 0 : Instr), 1), (1, (.iconst 0 : Instr), 1), (2, (.putfield 47 : Instr), 3), (5, (.aload_n 0 : Instr), 1), (6, (.iload_n 1 : Instr), 1), (7, (.invokevirtual 68 : Instr), 3), (10, (.ifCond .ne 9 : Instr), 3), (13, (.aload_n 0 : Instr), 1), (14, (.iconst 2 : Instr), 1), (15, (.invokevirtual 78 : Instr), 3), (18, (.ireturn : Instr), 1), (19, (.aload_n 0 : Instr), 1), (20, (.getfield 7 : Instr), 3), (23, (.iconst 2 : Instr), 1), (24, (.iload_n 1 : Instr), 1), (25, (.iadd : Instr), 1), (26, (.iaload : Instr), 1), (27, (.iconst 2 : Instr), 1), (28, (.if_icmp .eq 9 : Instr), 3), (31, (.aload_n 0 : Instr), 1), (32, (.iconst 4 : Instr), 1), (33, (.invokevirtual 78 : Instr), 3), (36, (.ireturn : Instr), 1), (37, (.aload_n 0 : Instr), 1), (38, (.iconst 0 : Instr), 1), (39, (.putfield 51 : Instr), 3), (42, (.iconst 0 : Instr), 1), (43, (.istore_n 2 : Instr), 1), (44, (.iconst 0 : Instr), 1), (45, (.istore_n 3 : Instr), 1), (46, (.iload_n 3 : Instr), 1), (47, (.aload_n 0 : Instr), 1), (48, (.getfield 7 : Instr), 3), (51, (.bipush 10 : Instr), 2), (53, (.iload_n 1 : Instr), 1), (54, (.iadd : Instr), 1), (55, (.iaload : Instr), 1), (56, (.if_icmp .ge 18 : Instr), 3), (59, (.iload_n 2 : Instr), 1), (60, (.aload_n 0 : Instr), 1), (61, (.iload_n 1 : Instr), 1), (62, (.iload_n 3 : Instr), 1), (63, (.invokevirtual 128 : Instr), 3), (66, (.iadd : Instr), 1), (67, (.istore_n 2 : Instr), 1), (68, (.iinc 3 1 : Instr), 3), (71, (.goto (-25) : Instr), 3), (74, (.iload_n 2 : Instr), 1), (75, (.ifCond .ge 7 : Instr), 3), (78, (.iconst 0 : Instr), 1), (79, (.goto 23 : Instr), 3), (82, (.iload_n 2 : Instr), 1), (83, (.aload_n 0 : Instr), 1), (84, (.getfield 7 : Instr), 3), (87, (.iconst 0 : Instr), 1), (88, (.iaload : Instr), 1), (89, (.if_icmp .ge 7 : Instr), 3), (92, (.iload_n 2 : Instr), 1), (93, (.goto 9 : Instr), 3), (96, (.aload_n 0 : Instr), 1), (97, (.getfield 7 : Instr), 3), (100, (.iconst 0 : Instr), 1), (101, (.iaload : Instr), 1), (102, (.istore_n 3 : Instr), 1), (103, (.ldc 113 : Instr), 2), (105, (.istore 4 : Instr), 2), (107, (.iconst 0 : Instr), 1), (108, (.istore 5 : Instr), 2), (110, (.iload 5 : Instr), 2), (112, (.iload_n 3 : Instr), 1), (113, (.if_icmp .gt 37 : Instr), 3), (116, (.iload 5 : Instr), 2), (118, (.aload_n 0 : Instr), 1), (119, (.iload_n 1 : Instr), 1), (120, (.iload 5 : Instr), 2), (122, (.invokevirtual 110 : Instr), 3), (125, (.isub : Instr), 1), (126, (.istore 6 : Instr), 2), (128, (.iload 6 : Instr), 2), (130, (.iload 4 : Instr), 2)] : List (Nat × Instr × Nat)).all (fun q => decide (decode cX9_tail q.1 = .ok (q.2.1, q.2.2))) = true := by decide +kernel
theorem dX9_tail_0 : decode cX9_tail 0 = .ok (.aload_n 0, 1) := all_d dX9_tail_all0 0 rfl
theorem dX9_tail_1 : decode cX9_tail 1 = .ok (.iconst 0, 1) := all_d dX9_tail_all0 1 rfl
theorem dX9_tail_2 : decode cX9_tail 2 = .ok (.putfield 47, 3) := all_d dX9_tail_all0 2 rfl
theorem dX9_tail_5 : decode cX9_tail 5 = .ok (.aload_n 0, 1) := all_d dX9_tail_all0 3 rfl
theorem dX9_tail_6 : decode cX9_tail 6 = .ok (.iload_n 1, 1) := all_d dX9_tail_all0 4 rfl
theorem dX9_tail_7 : decode cX9_tail 7 = .ok (.invokevirtual 68, 3) := all_d dX9_tail_all0 5 rfl
theorem dX9_tail_10 : decode cX9_tail 10 = .ok (.ifCond .ne 9, 3) := all_d dX9_tail_all0 6 rfl
theorem dX9_tail_13 : decode cX9_tail 13 = .ok (.aload_n 0, 1) := all_d dX9_tail_all0 7 rfl
theorem dX9_tail_14 : decode cX9_tail 14 = .ok (.iconst 2, 1) := all_d dX9_tail_all0 8 rfl
theorem dX9_tail_15 : decode cX9_tail 15 = .ok (.invokevirtual 78, 3) := all_d dX9_tail_all0 9 rfl
theorem dX9_tail_18 : decode cX9_tail 18 = .ok (.ireturn, 1) := all_d dX9_tail_all0 10 rfl
theorem dX9_tail_19 : decode cX9_tail 19 = .ok (.aload_n 0, 1) := all_d dX9_tail_all0 11 rfl
theorem dX9_tail_20 : decode cX9_tail 20 = .ok (.getfield 7, 3) := all_d dX9_tail_all0 12 rfl
theorem dX9_tail_23 : decode cX9_tail 23 = .ok (.iconst 2, 1) := all_d dX9_tail_all0 13 rfl
theorem dX9_tail_24 : decode cX9_tail 24 = .ok (.iload_n 1, 1) := all_d dX9_tail_all0 14 rfl
theorem dX9_tail_25 : decode cX9_tail 25 = .ok (.iadd, 1) := all_d dX9_tail_all0 15 rfl
theorem dX9_tail_26 : decode cX9_tail 26 = .ok (.iaload, 1) := all_d dX9_tail_all0 16 rfl
theorem dX9_tail_27 : decode cX9_tail 27 = .ok (.iconst 2, 1) := all_d dX9_tail_all0 17 rfl
theorem dX9_tail_28 : decode cX9_tail 28 = .ok (.if_icmp .eq 9, 3) := all_d dX9_tail_all0 18 rfl
theorem dX9_tail_31 : decode cX9_tail 31 = .ok (.aload_n 0, 1) := all_d dX9_tail_all0 19 rfl
theorem dX9_tail_32 : decode cX9_tail 32 = .ok (.iconst 4, 1) := all_d dX9_tail_all0 20 rfl
theorem dX9_tail_33 : decode cX9_tail 33 = .ok (.invokevirtual 78, 3) := all_d dX9_tail_all0 21 rfl
theorem dX9_tail_36 : decode cX9_tail 36 = .ok (.ireturn, 1) := all_d dX9_tail_all0 22 rfl
theorem dX9_tail_37 : decode cX9_tail 37 = .ok (.aload_n 0, 1) := all_d dX9_tail_all0 23 rfl
theorem dX9_tail_38 : decode cX9_tail 38 = .ok (.iconst 0, 1) := all_d dX9_tail_all0 24 rfl
theorem dX9_tail_39 : decode cX9_tail 39 = .ok (.putfield 51, 3) := all_d dX9_tail_all0 25 rfl
theorem dX9_tail_42 : decode cX9_tail 42 = .ok (.iconst 0, 1) := all_d dX9_tail_all0 26 rfl
theorem dX9_tail_43 : decode cX9_tail 43 = .ok (.istore_n 2, 1) := all_d dX9_tail_all0 27 rfl
theorem dX9_tail_44 : decode cX9_tail 44 = .ok (.iconst 0, 1) := all_d dX9_tail_all0 28 rfl
theorem dX9_tail_45 : decode cX9_tail 45 = .ok (.istore_n 3, 1) := all_d dX9_tail_all0 29 rfl
theorem dX9_tail_46 : decode cX9_tail 46 = .ok (.iload_n 3, 1) := all_d dX9_tail_all0 30 rfl
theorem dX9_tail_47 : decode cX9_tail 47 = .ok (.aload_n 0, 1) := all_d dX9_tail_all0 31 rfl
theorem dX9_tail_48 : decode cX9_tail 48 = .ok (.getfield 7, 3) := all_d dX9_tail_all0 32 rfl
theorem dX9_tail_51 : decode cX9_tail 51 = .ok (.bipush 10, 2) := all_d dX9_tail_all0 33 rfl
theorem dX9_tail_53 : decode cX9_tail 53 = .ok (.iload_n 1, 1) := all_d dX9_tail_all0 34 rfl
theorem dX9_tail_54 : decode cX9_tail 54 = .ok (.iadd, 1) := all_d dX9_tail_all0 35 rfl
theorem dX9_tail_55 : decode cX9_tail 55 = .ok (.iaload, 1) := all_d dX9_tail_all0 36 rfl
theorem dX9_tail_56 : decode cX9_tail 56 = .ok (.if_icmp .ge 18, 3) := all_d dX9_tail_all0 37 rfl
theorem dX9_tail_59 : decode cX9_tail 59 = .ok (.iload_n 2, 1) := all_d dX9_tail_all0 38 rfl
theorem dX9_tail_60 : decode cX9_tail 60 = .ok (.aload_n 0, 1) := all_d dX9_tail_all0 39 rfl
theorem dX9_tail_61 : decode cX9_tail 61 = .ok (.iload_n 1, 1) := all_d dX9_tail_all0 40 rfl
theorem dX9_tail_62 : decode cX9_tail 62 = .ok (.iload_n 3, 1) := all_d dX9_tail_all0 41 rfl
theorem dX9_tail_63 : decode cX9_tail 63 = .ok (.invokevirtual 128, 3) := all_d dX9_tail_all0 42 rfl
theorem dX9_tail_66 : decode cX9_tail 66 = .ok (.iadd, 1) := all_d dX9_tail_all0 43 rfl
theorem dX9_tail_67 : decode cX9_tail 67 = .ok (.istore_n 2, 1) := all_d dX9_tail_all0 44 rfl
theorem dX9_tail_68 : decode cX9_tail 68 = .ok (.iinc 3 1, 3) := all_d dX9_tail_all0 45 rfl
theorem dX9_tail_71 : decode cX9_tail 71 = .ok (.goto (-25), 3) := all_d dX9_tail_all0 46 rfl
theorem dX9_tail_74 : decode cX9_tail 74 = .ok (.iload_n 2, 1) := all_d dX9_tail_all0 47 rfl
theorem dX9_tail_75 : decode cX9_tail 75 = .ok (.ifCond .ge 7, 3) := all_d dX9_tail_all0 48 rfl
theorem dX9_tail_78 : decode cX9_tail 78 = .ok (.iconst 0, 1) := all_d dX9_tail_all0 49 rfl
theorem dX9_tail_79 : decode cX9_tail 79 = .ok (.goto 23, 3) := all_d dX9_tail_all0 50 rfl
theorem dX9_tail_82 : decode cX9_tail 82 = .ok (.iload_n 2, 1) := all_d dX9_tail_all0 51 rfl
theorem dX9_tail_83 : decode cX9_tail 83 = .ok (.aload_n 0, 1) := all_d dX9_tail_all0 52 rfl
theorem dX9_tail_84 : decode cX9_tail 84 = .ok (.getfield 7, 3) := all_d dX9_tail_all0 53 rfl
theorem dX9_tail_87 : decode cX9_tail 87 = .ok (.iconst 0, 1) := all_d dX9_tail_all0 54 rfl
theorem dX9_tail_88 : decode cX9_tail 88 = .ok (.iaload, 1) := all_d dX9_tail_all0 55 rfl
theorem dX9_tail_89 : decode cX9_tail 89 = .ok (.if_icmp .ge 7, 3) := all_d dX9_tail_all0 56 rfl
theorem dX9_tail_92 : decode cX9_tail 92 = .ok (.iload_n 2, 1) := all_d dX9_tail_all0 57 rfl
theorem dX9_tail_93 : decode cX9_tail 93 = .ok (.goto 9, 3) := all_d dX9_tail_all0 58 rfl
theorem dX9_tail_96 : decode cX9_tail 96 = .ok (.aload_n 0, 1) := all_d dX9_tail_all0 59 rfl
theorem dX9_tail_97 : decode cX9_tail 97 = .ok (.getfield 7, 3) := all_d dX9_tail_all0 60 rfl
theorem dX9_tail_100 : decode cX9_tail 100 = .ok (.iconst 0, 1) := all_d dX9_tail_all0 61 rfl
theorem dX9_tail_101 : decode cX9_tail 101 = .ok (.iaload, 1) := all_d dX9_tail_all0 62 rfl
theorem dX9_tail_102 : decode cX9_tail 102 = .ok (.istore_n 3, 1) := all_d dX9_tail_all0 63 rfl
theorem dX9_tail_103 : decode cX9_tail 103 = .ok (.ldc 113, 2) := all_d dX9_tail_all0 64 rfl
theorem dX9_tail_105 : decode cX9_tail 105 = .ok (.istore 4, 2) := all_d dX9_tail_all0 65 rfl
theorem dX9_tail_107 : decode cX9_tail 107 = .ok (.iconst 0, 1) := all_d dX9_tail_all0 66 rfl
theorem dX9_tail_108 : decode cX9_tail 108 = .ok (.istore 5, 2) := all_d dX9_tail_all0 67 rfl
theorem dX9_tail_110 : decode cX9_tail 110 = .ok (.iload 5, 2) := all_d dX9_tail_all0 68 rfl
theorem dX9_tail_112 : decode cX9_tail 112 = .ok (.iload_n 3, 1) := all_d dX9_tail_all0 69 rfl
theorem dX9_tail_113 : decode cX9_tail 113 = .ok (.if_icmp .gt 37, 3) := all_d dX9_tail_all0 70 rfl
theorem dX9_tail_116 : decode cX9_tail 116 = .ok (.iload 5, 2) := all_d dX9_tail_all0 71 rfl
theorem dX9_tail_118 : decode cX9_tail 118 = .ok (.aload_n 0, 1) := all_d dX9_tail_all0 72 rfl
theorem dX9_tail_119 : decode cX9_tail 119 = .ok (.iload_n 1, 1) := all_d dX9_tail_all0 73 rfl
theorem dX9_tail_120 : decode cX9_tail 120 = .ok (.iload 5, 2) := all_d dX9_tail_all0 74 rfl
theorem dX9_tail_122 : decode cX9_tail 122 = .ok (.invokevirtual 110, 3) := all_d dX9_tail_all0 75 rfl
theorem dX9_tail_125 : decode cX9_tail 125 = .ok (.isub, 1) := all_d dX9_tail_all0 76 rfl
theorem dX9_tail_126 : decode cX9_tail 126 = .ok (.istore 6, 2) := all_d dX9_tail_all0 77 rfl
theorem dX9_tail_128 : decode cX9_tail 128 = .ok (.iload 6, 2) := all_d dX9_tail_all0 78 rfl
theorem dX9_tail_130 : decode cX9_tail 130 = .ok (.iload 4, 2) := all_d dX9_tail_all0 79 rfl
set_option maxRecDepth 100000 in
theorem dX9_tail_all1 : ([(132, (.if_icmp .le 8 : Instr), 3), (135, (.iload 6 : Instr), 2), (137, (.goto 5 : Instr), 3), (140, (.iload 4 : Instr), 2), (142, (.istore 4 : Instr), 2), (144, (.iinc 5 1 : Instr), 3), (147, (.goto (-37) : Instr), 3), (150, (.iload 4 : Instr), 2), (152, (.ireturn : Instr), 1)] : List (Nat × Instr × Nat)).all (fun q => decide (decode cX9_tail q.1 = .ok (q.2.1, q.2.2))) = true := by decide +kernel
theorem dX9_tail_132 : decode cX9_tail 132 = .ok (.if_icmp .le 8, 3) := all_d dX9_tail_all1 0 rfl
theorem dX9_tail_135 : decode cX9_tail 135 = .ok (.iload 6, 2) := all_d dX9_tail_all1 1 rfl
theorem dX9_tail_137 : decode cX9_tail 137 = .ok (.goto 5, 3) := all_d dX9_tail_all1 2 rfl
theorem dX9_tail_140 : decode cX9_tail 140 = .ok (.iload 4, 2) := all_d dX9_tail_all1 3 rfl
theorem dX9_tail_142 : decode cX9_tail 142 = .ok (.istore 4, 2) := all_d dX9_tail_all1 4 rfl
theorem dX9_tail_144 : decode cX9_tail 144 = .ok (.iinc 5 1, 3) := all_d dX9_tail_all1 5 rfl
theorem dX9_tail_147 : decode cX9_tail 147 = .ok (.goto (-37), 3) := all_d dX9_tail_all1 6 rfl
theorem dX9_tail_150 : decode cX9_tail 150 = .ok (.iload 4, 2) := all_d dX9_tail_all1 7 rfl
theorem dX9_tail_152 : decode cX9_tail 152 = .ok (.ireturn, 1) := all_d dX9_tail_all1 8 rfl
set_option maxRecDepth 100000 in
theorem dX9_mend_all0 : ([(0, (.aload_n 0 : Instr), 1), (1, (.iconst 0 : Instr), 1), (2, (.putfield 47 : Instr), 3), (5, (.aload_n 0 : Instr), 1), (6, (.iload_n 1 : Instr), 1), (7, (.invokevirtual 68 : Instr), 3), (10, (.ifCond .ne 9 : Instr), 3), (13, (.aload_n 0 : Instr), 1), (14, (.iconst 2 : Instr), 1), (15, (.invokevirtual 72 : Instr), 3), (18, (.ireturn : Instr), 1), (19, (.aload_n 0 : Instr), 1), (20, (.getfield 7 : Instr), 3), (23, (.iconst 2 : Instr), 1), (24, (.iload_n 1 : Instr), 1), (25, (.iadd : Instr), 1), (26, (.iaload : Instr), 1), (27, (.iconst 2 : Instr), 1), (28, (.if_icmp .eq 9 : Instr), 3), (31, (.aload_n 0 : Instr), 1), (32, (.iconst 4 : Instr), 1), (33, (.invokevirtual 72 : Instr), 3), (36, (.ireturn : Instr), 1), (37, (.aload_n 0 : Instr), 1), (38, (.invokevirtual 75 : Instr), 3), (41, (.iconst 0 : Instr), 1), (42, (.istore_n 2 : Instr), 1), (43, (.iload_n 2 : Instr), 1), (44, (.aload_n 0 : Instr), 1), (45, (.getfield 7 : Instr), 3), (48, (.bipush 10 : Instr), 2), (50, (.iload_n 1 : Instr), 1), (51, (.iadd : Instr), 1), (52, (.iaload : Instr), 1), (53, (.if_icmp .ge 28 : Instr), 3), (56, (.aload_n 0 : Instr), 1), (57, (.getfield 7 : Instr), 3), (60, (.aload_n 0 : Instr), 1), (61, (.iload_n 1 : Instr), 1), (62, (.iload_n 2 : Instr), 1), (63, (.invokevirtual 85 : Instr), 3), (66, (.iconst 2 : Instr), 1), (67, (.iadd : Instr), 1), (68, (.aload_n 0 : Instr), 1), (69, (.iload_n 1 : Instr), 1), (70, (.iload_n 2 : Instr), 1), (71, (.invokevirtual 128 : Instr), 3), (74, (.iastore : Instr), 1), (75, (.iinc 2 1 : Instr), 3), (78, (.goto (-35) : Instr), 3), (81, (.iconst 1 : Instr), 1), (82, (.ireturn : Instr), 1)] : List (Nat × Instr × Nat)).all (fun q => decide (decode cX9_mend q.1 = .ok (q.2.1, q.2.2))) = true := by decide +kernel
theorem dX9_mend_0 : decode cX9_mend 0 = .ok (.aload_n 0, 1) := all_d dX9_mend_all0 0 rfl
theorem dX9_mend_1 : decode cX9_mend 1 = .ok (.iconst 0, 1) := all_d dX9_mend_all0 1 rfl
theorem dX9_mend_2 : decode cX9_mend 2 = .ok (.putfield 47, 3) := all_d dX9_mend_all0 2 rfl
theorem dX9_mend_5 : decode cX9_mend 5 = .ok (.aload_n 0, 1) := all_d dX9_mend_all0 3 rfl
theorem dX9_mend_6 : decode cX9_mend 6 = .ok (.iload_n 1, 1) := all_d dX9_mend_all0 4 rfl
theorem dX9_mend_7 : decode cX9_mend 7 = .ok (.invokevirtual 68, 3) := all_d dX9_mend_all0 5 rfl
theorem dX9_mend_10 : decode cX9_mend 10 = .ok (.ifCond .ne 9, 3) := all_d dX9_mend_all0 6 rfl
theorem dX9_mend_13 : decode cX9_mend 13 = .ok (.aload_n 0, 1) := all_d dX9_mend_all0 7 rfl
theorem dX9_mend_14 : decode cX9_mend 14 = .ok (.iconst 2, 1) := all_d dX9_mend_all0 8 rfl
theorem dX9_mend_15 : decode cX9_mend 15 = .ok (.invokevirtual 72, 3) := all_d dX9_mend_all0 9 rfl
theorem dX9_mend_18 : decode cX9_mend 18 = .ok (.ireturn, 1) := all_d dX9_mend_all0 10 rfl
theorem dX9_mend_19 : decode cX9_mend 19 = .ok (.aload_n 0, 1) := all_d dX9_mend_all0 11 rfl
theorem dX9_mend_20 : decode cX9_mend 20 = .ok (.getfield 7, 3) := all_d dX9_mend_all0 12 rfl
theorem dX9_mend_23 : decode cX9_mend 23 = .ok (.iconst 2, 1) := all_d dX9_mend_all0 13 rfl
theorem dX9_mend_24 : decode cX9_mend 24 = .ok (.iload_n 1, 1) := all_d dX9_mend_all0 14 rfl
theorem dX9_mend_25 : decode cX9_mend 25 = .ok (.iadd, 1) := all_d dX9_mend_all0 15 rfl
theorem dX9_mend_26 : decode cX9_mend 26 = .ok (.iaload, 1) := all_d dX9_mend_all0 16 rfl
theorem dX9_mend_27 : decode cX9_mend 27 = .ok (.iconst 2, 1) := all_d dX9_mend_all0 17 rfl
theorem dX9_mend_28 : decode cX9_mend 28 = .ok (.if_icmp .eq 9, 3) := all_d dX9_mend_all0 18 rfl
theorem dX9_mend_31 : decode cX9_mend 31 = .ok (.aload_n 0, 1) := all_d dX9_mend_all0 19 rfl
theorem dX9_mend_32 : decode cX9_mend 32 = .ok (.iconst 4, 1) := all_d dX9_mend_all0 20 rfl
theorem dX9_mend_33 : decode cX9_mend 33 = .ok (.invokevirtual 72, 3) := all_d dX9_mend_all0 21 rfl
theorem dX9_mend_36 : decode cX9_mend 36 = .ok (.ireturn, 1) := all_d dX9_mend_all0 22 rfl
theorem dX9_mend_37 : decode cX9_mend 37 = .ok (.aload_n 0, 1) := all_d dX9_mend_all0 23 rfl
theorem dX9_mend_38 : decode cX9_mend 38 = .ok (.invokevirtual 75, 3) := all_d dX9_mend_all0 24 rfl
theorem dX9_mend_41 : decode cX9_mend 41 = .ok (.iconst 0, 1) := all_d dX9_mend_all0 25 rfl
theorem dX9_mend_42 : decode cX9_mend 42 = .ok (.istore_n 2, 1) := all_d dX9_mend_all0 26 rfl
theorem dX9_mend_43 : decode cX9_mend 43 = .ok (.iload_n 2, 1) := all_d dX9_mend_all0 27 rfl
theorem dX9_mend_44 : decode cX9_mend 44 = .ok (.aload_n 0, 1) := all_d dX9_mend_all0 28 rfl
theorem dX9_mend_45 : decode cX9_mend 45 = .ok (.getfield 7, 3) := all_d dX9_mend_all0 29 rfl
theorem dX9_mend_48 : decode cX9_mend 48 = .ok (.bipush 10, 2) := all_d dX9_mend_all0 30 rfl
theorem dX9_mend_50 : decode cX9_mend 50 = .ok (.iload_n 1, 1) := all_d dX9_mend_all0 31 rfl
theorem dX9_mend_51 : decode cX9_mend 51 = .ok (.iadd, 1) := all_d dX9_mend_all0 32 rfl
theorem dX9_mend_52 : decode cX9_mend 52 = .ok (.iaload, 1) := all_d dX9_mend_all0 33 rfl
theorem dX9_mend_53 : decode cX9_mend 53 = .ok (.if_icmp .ge 28, 3) := all_d dX9_mend_all0 34 rfl
theorem dX9_mend_56 : decode cX9_mend 56 = .ok (.aload_n 0, 1) := all_d dX9_mend_all0 35 rfl
theorem dX9_mend_57 : decode cX9_mend 57 = .ok (.getfield 7, 3) := all_d dX9_mend_all0 36 rfl
theorem dX9_mend_60 : decode cX9_mend 60 = .ok (.aload_n 0, 1) := all_d dX9_mend_all0 37 rfl
theorem dX9_mend_61 : decode cX9_mend 61 = .ok (.iload_n 1, 1) := all_d dX9_mend_all0 38 rfl
theorem dX9_mend_62 : decode cX9_mend 62 = .ok (.iload_n 2, 1) := all_d dX9_mend_all0 39 rfl
theorem dX9_mend_63 : decode cX9_mend 63 = .ok (.invokevirtual 85, 3) := all_d dX9_mend_all0 40 rfl
theorem dX9_mend_66 : decode cX9_mend 66 = .ok (.iconst 2, 1) := all_d dX9_mend_all0 41 rfl
theorem dX9_mend_67 : decode cX9_mend 67 = .ok (.iadd, 1) := all_d dX9_mend_all0 42 rfl
theorem dX9_mend_68 : decode cX9_mend 68 = .ok (.aload_n 0, 1) := all_d dX9_mend_all0 43 rfl
theorem dX9_mend_69 : decode cX9_mend 69 = .ok (.iload_n 1, 1) := all_d dX9_mend_all0 44 rfl
theorem dX9_mend_70 : decode cX9_mend 70 = .ok (.iload_n 2, 1) := all_d dX9_mend_all0 45 rfl
theorem dX9_mend_71 : decode cX9_mend 71 = .ok (.invokevirtual 128, 3) := all_d dX9_mend_all0 46 rfl
theorem dX9_mend_74 : decode cX9_mend 74 = .ok (.iastore, 1) := all_d dX9_mend_all0 47 rfl
theorem dX9_mend_75 : decode cX9_mend 75 = .ok (.iinc 2 1, 3) := all_d dX9_mend_all0 48 rfl
theorem dX9_mend_78 : decode cX9_mend 78 = .ok (.goto (-35), 3) := all_d dX9_mend_all0 49 rfl
theorem dX9_mend_81 : decode cX9_mend 81 = .ok (.iconst 1, 1) := all_d dX9_mend_all0 50 rfl
theorem dX9_mend_82 : decode cX9_mend 82 = .ok (.ireturn, 1) := all_d dX9_mend_all0 51 rfl
set_option maxRecDepth 100000 in
theorem dX9_count_all0 : ([(0, (.aload_n 0 : Instr), 1), (1, (.iconst 0 : Instr), 1), (2, (.putfield 47 : Instr), 3), (5, (.aload_n 0 : Instr), 1), (6, (.iload_n 1 : Instr), 1), (7, (.invokevirtual 68 : Instr), 3), (10, (.ifCond .ne 9 : Instr), 3), (13, (.aload_n 0 : Instr), 1), (14, (.iconst 2 : Instr), 1), (15, (.invokevirtual 78 : Instr), 3), (18, (.ireturn : Instr), 1), (19, (.iload_n 2 : Instr), 1), (20, (.ifCond .lt 24 : Instr), 3), (23, (.iload_n 2 : Instr), 1), (24, (.iload_n 3 : Instr), 1), (25, (.if_icmp .gt 19 : Instr), 3), (28, (.iload_n 3 : Instr), 1), (29, (.aload_n 0 : Instr), 1), (30, (.getfield 7 : Instr), 3), (33, (.iconst 0 : Instr), 1), (34, (.iaload : Instr), 1), (35, (.if_icmp .gt 9 : Instr), 3), (38, (.iload 4 : Instr), 2), (40, (.iconst 1 : Instr), 1), (41, (.if_icmp .ge 9 : Instr), 3), (44, (.aload_n 0 : Instr), 1), (45, (.iconst 1 : Instr), 1), (46, (.invokevirtual 78 : Instr), 3), (49, (.ireturn : Instr), 1), (50, (.aload_n 0 : Instr), 1), (51, (.iconst 0 : Instr), 1), (52, (.putfield 51 : Instr), 3), (55, (.iconst 0 : Instr), 1), (56, (.istore 6 : Instr), 2), (58, (.iload_n 2 : Instr), 1), (59, (.istore 7 : Instr), 2), (61, (.iconst 1 : Instr), 1), (62, (.istore 8 : Instr), 2), (64, (.iload 8 : Instr), 2), (66, (.ifCond .eq 56 : Instr), 3), (69, (.iload 6 : Instr), 2), (71, (.aload_n 0 : Instr), 1), (72, (.iload_n 1 : Instr), 1), (73, (.iload 7 : Instr), 2), (75, (.invokevirtual 110 : Instr), 3), (78, (.iload 5 : Instr), 2), (80, (.if_icmp .ne 7 : Instr), 3), (83, (.iconst 1 : Instr), 1), (84, (.goto 4 : Instr), 3), (87, (.iconst 0 : Instr), 1), (88, (.iadd : Instr), 1), (89, (.istore 6 : Instr), 2), (91, (.iload 4 : Instr), 2), (93, (.iload_n 3 : Instr), 1), (94, (.iload 7 : Instr), 2), (96, (.isub : Instr), 1), (97, (.if_icmp .gt 7 : Instr), 3), (100, (.iconst 1 : Instr), 1), (101, (.goto 4 : Instr), 3), (104, (.iconst 0 : Instr), 1), (105, (.istore 8 : Instr), 2), (107, (.iload 8 : Instr), 2), (109, (.ifCond .eq (-45) : Instr), 3), (112, (.iload 7 : Instr), 2), (114, (.iload 4 : Instr), 2), (116, (.iadd : Instr), 1), (117, (.istore 7 : Instr), 2), (119, (.goto (-55) : Instr), 3), (122, (.iload 6 : Instr), 2), (124, (.ireturn : Instr), 1)] : List (Nat × Instr × Nat)).all (fun q => decide (decode cX9_count q.1 = .ok (q.2.1, q.2.2))) = true := by decide +kernel
theorem dX9_count_0 : decode cX9_count 0 = .ok (.aload_n 0, 1) := all_d dX9_count_all0 0 rfl
theorem dX9_count_1 : decode cX9_count 1 = .ok (.iconst 0, 1) := all_d dX9_count_all0 1 rfl
theorem dX9_count_2 : decode cX9_count 2 = .ok (.putfield 47, 3) := all_d dX9_count_all0 2 rfl
theorem dX9_count_5 : decode cX9_count 5 = .ok (.aload_n 0, 1) := all_d dX9_count_all0 3 rfl
theorem dX9_count_6 : decode cX9_count 6 = .ok (.iload_n 1, 1) := all_d dX9_count_all0 4 rfl
theorem dX9_count_7 : decode cX9_count 7 = .ok (.invokevirtual 68, 3) := all_d dX9_count_all0 5 rfl
theorem dX9_count_10 : decode cX9_count 10 = .ok (.ifCond .ne 9, 3) := all_d dX9_count_all0 6 rfl
theorem dX9_count_13 : decode cX9_count 13 = .ok (.aload_n 0, 1) := all_d dX9_count_all0 7 rfl
theorem dX9_count_14 : decode cX9_count 14 = .ok (.iconst 2, 1) := all_d dX9_count_all0 8 rfl
theorem dX9_count_15 : decode cX9_count 15 = .ok (.invokevirtual 78, 3) := all_d dX9_count_all0 9 rfl
theorem dX9_count_18 : decode cX9_count 18 = .ok (.ireturn, 1) := all_d dX9_count_all0 10 rfl
theorem dX9_count_19 : decode cX9_count 19 = .ok (.iload_n 2, 1) := all_d dX9_count_all0 11 rfl
theorem dX9_count_20 : decode cX9_count 20 = .ok (.ifCond .lt 24, 3) := all_d dX9_count_all0 12 rfl
theorem dX9_count_23 : decode cX9_count 23 = .ok (.iload_n 2, 1) := all_d dX9_count_all0 13 rfl
theorem dX9_count_24 : decode cX9_count 24 = .ok (.iload_n 3, 1) := all_d dX9_count_all0 14 rfl
theorem dX9_count_25 : decode cX9_count 25 = .ok (.if_icmp .gt 19, 3) := all_d dX9_count_all0 15 rfl
theorem dX9_count_28 : decode cX9_count 28 = .ok (.iload_n 3, 1) := all_d dX9_count_all0 16 rfl
theorem dX9_count_29 : decode cX9_count 29 = .ok (.aload_n 0, 1) := all_d dX9_count_all0 17 rfl
theorem dX9_count_30 : decode cX9_count 30 = .ok (.getfield 7, 3) := all_d dX9_count_all0 18 rfl
theorem dX9_count_33 : decode cX9_count 33 = .ok (.iconst 0, 1) := all_d dX9_count_all0 19 rfl
theorem dX9_count_34 : decode cX9_count 34 = .ok (.iaload, 1) := all_d dX9_count_all0 20 rfl
theorem dX9_count_35 : decode cX9_count 35 = .ok (.if_icmp .gt 9, 3) := all_d dX9_count_all0 21 rfl
theorem dX9_count_38 : decode cX9_count 38 = .ok (.iload 4, 2) := all_d dX9_count_all0 22 rfl
theorem dX9_count_40 : decode cX9_count 40 = .ok (.iconst 1, 1) := all_d dX9_count_all0 23 rfl
theorem dX9_count_41 : decode cX9_count 41 = .ok (.if_icmp .ge 9, 3) := all_d dX9_count_all0 24 rfl
theorem dX9_count_44 : decode cX9_count 44 = .ok (.aload_n 0, 1) := all_d dX9_count_all0 25 rfl
theorem dX9_count_45 : decode cX9_count 45 = .ok (.iconst 1, 1) := all_d dX9_count_all0 26 rfl
theorem dX9_count_46 : decode cX9_count 46 = .ok (.invokevirtual 78, 3) := all_d dX9_count_all0 27 rfl
theorem dX9_count_49 : decode cX9_count 49 = .ok (.ireturn, 1) := all_d dX9_count_all0 28 rfl
theorem dX9_count_50 : decode cX9_count 50 = .ok (.aload_n 0, 1) := all_d dX9_count_all0 29 rfl
theorem dX9_count_51 : decode cX9_count 51 = .ok (.iconst 0, 1) := all_d dX9_count_all0 30 rfl
theorem dX9_count_52 : decode cX9_count 52 = .ok (.putfield 51, 3) := all_d dX9_count_all0 31 rfl
theorem dX9_count_55 : decode cX9_count 55 = .ok (.iconst 0, 1) := all_d dX9_count_all0 32 rfl
theorem dX9_count_56 : decode cX9_count 56 = .ok (.istore 6, 2) := all_d dX9_count_all0 33 rfl
theorem dX9_count_58 : decode cX9_count 58 = .ok (.iload_n 2, 1) := all_d dX9_count_all0 34 rfl
theorem dX9_count_59 : decode cX9_count 59 = .ok (.istore 7, 2) := all_d dX9_count_all0 35 rfl
theorem dX9_count_61 : decode cX9_count 61 = .ok (.iconst 1, 1) := all_d dX9_count_all0 36 rfl
theorem dX9_count_62 : decode cX9_count 62 = .ok (.istore 8, 2) := all_d dX9_count_all0 37 rfl
theorem dX9_count_64 : decode cX9_count 64 = .ok (.iload 8, 2) := all_d dX9_count_all0 38 rfl
theorem dX9_count_66 : decode cX9_count 66 = .ok (.ifCond .eq 56, 3) := all_d dX9_count_all0 39 rfl
theorem dX9_count_69 : decode cX9_count 69 = .ok (.iload 6, 2) := all_d dX9_count_all0 40 rfl
theorem dX9_count_71 : decode cX9_count 71 = .ok (.aload_n 0, 1) := all_d dX9_count_all0 41 rfl
theorem dX9_count_72 : decode cX9_count 72 = .ok (.iload_n 1, 1) := all_d dX9_count_all0 42 rfl
theorem dX9_count_73 : decode cX9_count 73 = .ok (.iload 7, 2) := all_d dX9_count_all0 43 rfl
theorem dX9_count_75 : decode cX9_count 75 = .ok (.invokevirtual 110, 3) := all_d dX9_count_all0 44 rfl
theorem dX9_count_78 : decode cX9_count 78 = .ok (.iload 5, 2) := all_d dX9_count_all0 45 rfl
theorem dX9_count_80 : decode cX9_count 80 = .ok (.if_icmp .ne 7, 3) := all_d dX9_count_all0 46 rfl
theorem dX9_count_83 : decode cX9_count 83 = .ok (.iconst 1, 1) := all_d dX9_count_all0 47 rfl
theorem dX9_count_84 : decode cX9_count 84 = .ok (.goto 4, 3) := all_d dX9_count_all0 48 rfl
theorem dX9_count_87 : decode cX9_count 87 = .ok (.iconst 0, 1) := all_d dX9_count_all0 49 rfl
theorem dX9_count_88 : decode cX9_count 88 = .ok (.iadd, 1) := all_d dX9_count_all0 50 rfl
theorem dX9_count_89 : decode cX9_count 89 = .ok (.istore 6, 2) := all_d dX9_count_all0 51 rfl
theorem dX9_count_91 : decode cX9_count 91 = .ok (.iload 4, 2) := all_d dX9_count_all0 52 rfl
theorem dX9_count_93 : decode cX9_count 93 = .ok (.iload_n 3, 1) := all_d dX9_count_all0 53 rfl
theorem dX9_count_94 : decode cX9_count 94 = .ok (.iload 7, 2) := all_d dX9_count_all0 54 rfl
theorem dX9_count_96 : decode cX9_count 96 = .ok (.isub, 1) := all_d dX9_count_all0 55 rfl
theorem dX9_count_97 : decode cX9_count 97 = .ok (.if_icmp .gt 7, 3) := all_d dX9_count_all0 56 rfl
theorem dX9_count_100 : decode cX9_count 100 = .ok (.iconst 1, 1) := all_d dX9_count_all0 57 rfl
theorem dX9_count_101 : decode cX9_count 101 = .ok (.goto 4, 3) := all_d dX9_count_all0 58 rfl
theorem dX9_count_104 : decode cX9_count 104 = .ok (.iconst 0, 1) := all_d dX9_count_all0 59 rfl
theorem dX9_count_105 : decode cX9_count 105 = .ok (.istore 8, 2) := all_d dX9_count_all0 60 rfl
theorem dX9_count_107 : decode cX9_count 107 = .ok (.iload 8, 2) := all_d dX9_count_all0 61 rfl
theorem dX9_count_109 : decode cX9_count 109 = .ok (.ifCond .eq (-45), 3) := all_d dX9_count_all0 62 rfl
theorem dX9_count_112 : decode cX9_count 112 = .ok (.iload 7, 2) := all_d dX9_count_all0 63 rfl
theorem dX9_count_114 : decode cX9_count 114 = .ok (.iload 4, 2) := all_d dX9_count_all0 64 rfl
theorem dX9_count_116 : decode cX9_count 116 = .ok (.iadd, 1) := all_d dX9_count_all0 65 rfl
theorem dX9_count_117 : decode cX9_count 117 = .ok (.istore 7, 2) := all_d dX9_count_all0 66 rfl
theorem dX9_count_119 : decode cX9_count 119 = .ok (.goto (-55), 3) := all_d dX9_count_all0 67 rfl
theorem dX9_count_122 : decode cX9_count 122 = .ok (.iload 6, 2) := all_d dX9_count_all0 68 rfl
theorem dX9_count_124 : decode cX9_count 124 = .ok (.ireturn, 1) := all_d dX9_count_all0 69 rfl
set_option maxRecDepth 100000 in
theorem dX9_noise_all0 : ([(0, (.aload_n 0 : Instr), 1), (1, (.iconst 0 : Instr), 1), (2, (.putfield 47 : Instr), 3), (5, (.aload_n 0 : Instr), 1), (6, (.iload_n 1 : Instr), 1), (7, (.bipush (-100) : Instr), 2), (9, (.bipush 100 : Instr), 2), (11, (.invokevirtual 64 : Instr), 3), (14, (.ifCond .eq 15 : Instr), 3), (17, (.aload_n 0 : Instr), 1), (18, (.iload_n 2 : Instr), 1), (19, (.iconst 1 : Instr), 1), (20, (.sipush 1000 : Instr), 3), (23, (.invokevirtual 64 : Instr), 3), (26, (.ifCond .ne 9 : Instr), 3), (29, (.aload_n 0 : Instr), 1), (30, (.iconst 1 : Instr), 1), (31, (.invokevirtual 78 : Instr), 3), (34, (.ireturn : Instr), 1), (35, (.aload_n 0 : Instr), 1), (36, (.getfield 131 : Instr), 3), (39, (.bipush 8 : Instr), 2), (41, (.if_icmp .ne 9 : Instr), 3), (44, (.aload_n 0 : Instr), 1), (45, (.iconst 3 : Instr), 1), (46, (.invokevirtual 78 : Instr), 3), (49, (.ireturn : Instr), 1), (50, (.aload_n 0 : Instr), 1), (51, (.iconst 0 : Instr), 1), (52, (.putfield 51 : Instr), 3), (55, (.aload_n 0 : Instr), 1), (56, (.getfield 16 : Instr), 3), (59, (.aload_n 0 : Instr), 1), (60, (.getfield 131 : Instr), 3), (63, (.iload_n 1 : Instr), 1), (64, (.iastore : Instr), 1), (65, (.aload_n 0 : Instr), 1), (66, (.getfield 19 : Instr), 3), (69, (.aload_n 0 : Instr), 1), (70, (.getfield 131 : Instr), 3), (73, (.iload_n 2 : Instr), 1), (74, (.iastore : Instr), 1), (75, (.aload_n 0 : Instr), 1), (76, (.dup : Instr), 1), (77, (.getfield 131 : Instr), 3), (80, (.iconst 1 : Instr), 1), (81, (.iadd : Instr), 1), (82, (.putfield 131 : Instr), 3), (85, (.aload_n 0 : Instr), 1), (86, (.getfield 131 : Instr), 3), (89, (.ireturn : Instr), 1)] : List (Nat × Instr × Nat)).all (fun q => decide (decode cX9_noise q.1 = .ok (q.2.1, q.2.2))) = true := by decide +kernel
theorem dX9_noise_0 : decode cX9_noise 0 = .ok (.aload_n 0, 1) := all_d dX9_noise_all0 0 rfl
theorem dX9_noise_1 : decode cX9_noise 1 = .ok (.iconst 0, 1) := all_d dX9_noise_all0 1 rfl
theorem dX9_noise_2 : decode cX9_noise 2 = .ok (.putfield 47, 3) := all_d dX9_noise_all0 2 rfl
theorem dX9_noise_5 : decode cX9_noise 5 = .ok (.aload_n 0, 1) := all_d dX9_noise_all0 3 rfl
theorem dX9_noise_6 : decode cX9_noise 6 = .ok (.iload_n 1, 1) := all_d dX9_noise_all0 4 rfl
theorem dX9_noise_7 : decode cX9_noise 7 = .ok (.bipush (-100), 2) := all_d dX9_noise_all0 5 rfl
theorem dX9_noise_9 : decode cX9_noise 9 = .ok (.bipush 100, 2) := all_d dX9_noise_all0 6 rfl
theorem dX9_noise_11 : decode cX9_noise 11 = .ok (.invokevirtual 64, 3) := all_d dX9_noise_all0 7 rfl
theorem dX9_noise_14 : decode cX9_noise 14 = .ok (.ifCond .eq 15, 3) := all_d dX9_noise_all0 8 rfl
theorem dX9_noise_17 : decode cX9_noise 17 = .ok (.aload_n 0, 1) := all_d dX9_noise_all0 9 rfl
theorem dX9_noise_18 : decode cX9_noise 18 = .ok (.iload_n 2, 1) := all_d dX9_noise_all0 10 rfl
theorem dX9_noise_19 : decode cX9_noise 19 = .ok (.iconst 1, 1) := all_d dX9_noise_all0 11 rfl
theorem dX9_noise_20 : decode cX9_noise 20 = .ok (.sipush 1000, 3) := all_d dX9_noise_all0 12 rfl
theorem dX9_noise_23 : decode cX9_noise 23 = .ok (.invokevirtual 64, 3) := all_d dX9_noise_all0 13 rfl
theorem dX9_noise_26 : decode cX9_noise 26 = .ok (.ifCond .ne 9, 3) := all_d dX9_noise_all0 14 rfl
theorem dX9_noise_29 : decode cX9_noise 29 = .ok (.aload_n 0, 1) := all_d dX9_noise_all0 15 rfl
theorem dX9_noise_30 : decode cX9_noise 30 = .ok (.iconst 1, 1) := all_d dX9_noise_all0 16 rfl
theorem dX9_noise_31 : decode cX9_noise 31 = .ok (.invokevirtual 78, 3) := all_d dX9_noise_all0 17 rfl
theorem dX9_noise_34 : decode cX9_noise 34 = .ok (.ireturn, 1) := all_d dX9_noise_all0 18 rfl
theorem dX9_noise_35 : decode cX9_noise 35 = .ok (.aload_n 0, 1) := all_d dX9_noise_all0 19 rfl
theorem dX9_noise_36 : decode cX9_noise 36 = .ok (.getfield 131, 3) := all_d dX9_noise_all0 20 rfl
theorem dX9_noise_39 : decode cX9_noise 39 = .ok (.bipush 8, 2) := all_d dX9_noise_all0 21 rfl
theorem dX9_noise_41 : decode cX9_noise 41 = .ok (.if_icmp .ne 9, 3) := all_d dX9_noise_all0 22 rfl
theorem dX9_noise_44 : decode cX9_noise 44 = .ok (.aload_n 0, 1) := all_d dX9_noise_all0 23 rfl
theorem dX9_noise_45 : decode cX9_noise 45 = .ok (.iconst 3, 1) := all_d dX9_noise_all0 24 rfl
theorem dX9_noise_46 : decode cX9_noise 46 = .ok (.invokevirtual 78, 3) := all_d dX9_noise_all0 25 rfl
theorem dX9_noise_49 : decode cX9_noise 49 = .ok (.ireturn, 1) := all_d dX9_noise_all0 26 rfl
theorem dX9_noise_50 : decode cX9_noise 50 = .ok (.aload_n 0, 1) := all_d dX9_noise_all0 27 rfl
theorem dX9_noise_51 : decode cX9_noise 51 = .ok (.iconst 0, 1) := all_d dX9_noise_all0 28 rfl
theorem dX9_noise_52 : decode cX9_noise 52 = .ok (.putfield 51, 3) := all_d dX9_noise_all0 29 rfl
theorem dX9_noise_55 : decode cX9_noise 55 = .ok (.aload_n 0, 1) := all_d dX9_noise_all0 30 rfl
theorem dX9_noise_56 : decode cX9_noise 56 = .ok (.getfield 16, 3) := all_d dX9_noise_all0 31 rfl
theorem dX9_noise_59 : decode cX9_noise 59 = .ok (.aload_n 0, 1) := all_d dX9_noise_all0 32 rfl
theorem dX9_noise_60 : decode cX9_noise 60 = .ok (.getfield 131, 3) := all_d dX9_noise_all0 33 rfl
theorem dX9_noise_63 : decode cX9_noise 63 = .ok (.iload_n 1, 1) := all_d dX9_noise_all0 34 rfl
theorem dX9_noise_64 : decode cX9_noise 64 = .ok (.iastore, 1) := all_d dX9_noise_all0 35 rfl
theorem dX9_noise_65 : decode cX9_noise 65 = .ok (.aload_n 0, 1) := all_d dX9_noise_all0 36 rfl
theorem dX9_noise_66 : decode cX9_noise 66 = .ok (.getfield 19, 3) := all_d dX9_noise_all0 37 rfl
theorem dX9_noise_69 : decode cX9_noise 69 = .ok (.aload_n 0, 1) := all_d dX9_noise_all0 38 rfl
theorem dX9_noise_70 : decode cX9_noise 70 = .ok (.getfield 131, 3) := all_d dX9_noise_all0 39 rfl
theorem dX9_noise_73 : decode cX9_noise 73 = .ok (.iload_n 2, 1) := all_d dX9_noise_all0 40 rfl
theorem dX9_noise_74 : decode cX9_noise 74 = .ok (.iastore, 1) := all_d dX9_noise_all0 41 rfl
theorem dX9_noise_75 : decode cX9_noise 75 = .ok (.aload_n 0, 1) := all_d dX9_noise_all0 42 rfl
theorem dX9_noise_76 : decode cX9_noise 76 = .ok (.dup, 1) := all_d dX9_noise_all0 43 rfl
theorem dX9_noise_77 : decode cX9_noise 77 = .ok (.getfield 131, 3) := all_d dX9_noise_all0 44 rfl
theorem dX9_noise_80 : decode cX9_noise 80 = .ok (.iconst 1, 1) := all_d dX9_noise_all0 45 rfl
theorem dX9_noise_81 : decode cX9_noise 81 = .ok (.iadd, 1) := all_d dX9_noise_all0 46 rfl
theorem dX9_noise_82 : decode cX9_noise 82 = .ok (.putfield 131, 3) := all_d dX9_noise_all0 47 rfl
theorem dX9_noise_85 : decode cX9_noise 85 = .ok (.aload_n 0, 1) := all_d dX9_noise_all0 48 rfl
theorem dX9_noise_86 : decode cX9_noise 86 = .ok (.getfield 131, 3) := all_d dX9_noise_all0 49 rfl
theorem dX9_noise_89 : decode cX9_noise 89 = .ok (.ireturn, 1) := all_d dX9_noise_all0 50 rfl
set_option maxRecDepth 100000 in
theorem dX9_still_all0 : ([(0, (.aload_n 0 : Instr), 1), (1, (.iconst 0 : Instr), 1), (2, (.putfield 47 : Instr), 3), (5, (.aload_n 0 : Instr), 1), (6, (.getfield 131 : Instr), 3), (9, (.istore_n 1 : Instr), 1), (10, (.aload_n 0 : Instr), 1), (11, (.iconst 0 : Instr), 1), (12, (.putfield 131 : Instr), 3), (15, (.iload_n 1 : Instr), 1), (16, (.ireturn : Instr), 1)] : List (Nat × Instr × Nat)).all (fun q => decide (decode cX9_still q.1 = .ok (q.2.1, q.2.2))) = true := by decide +kernel
theorem dX9_still_0 : decode cX9_still 0 = .ok (.aload_n 0, 1) := all_d dX9_still_all0 0 rfl
theorem dX9_still_1 : decode cX9_still 1 = .ok (.iconst 0, 1) := all_d dX9_still_all0 1 rfl
theorem dX9_still_2 : decode cX9_still 2 = .ok (.putfield 47, 3) := all_d dX9_still_all0 2 rfl
theorem dX9_still_5 : decode cX9_still 5 = .ok (.aload_n 0, 1) := all_d dX9_still_all0 3 rfl
theorem dX9_still_6 : decode cX9_still 6 = .ok (.getfield 131, 3) := all_d dX9_still_all0 4 rfl
theorem dX9_still_9 : decode cX9_still 9 = .ok (.istore_n 1, 1) := all_d dX9_still_all0 5 rfl
theorem dX9_still_10 : decode cX9_still 10 = .ok (.aload_n 0, 1) := all_d dX9_still_all0 6 rfl
theorem dX9_still_11 : decode cX9_still 11 = .ok (.iconst 0, 1) := all_d dX9_still_all0 7 rfl
theorem dX9_still_12 : decode cX9_still 12 = .ok (.putfield 131, 3) := all_d dX9_still_all0 8 rfl
theorem dX9_still_15 : decode cX9_still 15 = .ok (.iload_n 1, 1) := all_d dX9_still_all0 9 rfl
theorem dX9_still_16 : decode cX9_still 16 = .ok (.ireturn, 1) := all_d dX9_still_all0 10 rfl
set_option maxRecDepth 100000 in
theorem dX9_divisor_all0 : ([(0, (.iload_n 1 : Instr), 1), (1, (.ifCond .ge 8 : Instr), 3), (4, (.iload_n 1 : Instr), 1), (5, (.ineg : Instr), 1), (6, (.goto 4 : Instr), 3), (9, (.iload_n 1 : Instr), 1), (10, (.istore_n 3 : Instr), 1), (11, (.iload_n 2 : Instr), 1), (12, (.istore 4 : Instr), 2), (14, (.iload 4 : Instr), 2), (16, (.ifCond .eq 19 : Instr), 3), (19, (.iload_n 3 : Instr), 1), (20, (.iload 4 : Instr), 2), (22, (.irem : Instr), 1), (23, (.istore 5 : Instr), 2), (25, (.iload 4 : Instr), 2), (27, (.istore_n 3 : Instr), 1), (28, (.iload 5 : Instr), 2), (30, (.istore 4 : Instr), 2), (32, (.goto (-18) : Instr), 3), (35, (.iload_n 3 : Instr), 1), (36, (.ireturn : Instr), 1)] : List (Nat × Instr × Nat)).all (fun q => decide (decode cX9_divisor q.1 = .ok (q.2.1, q.2.2))) = true := by decide +kernel
theorem dX9_divisor_0 : decode cX9_divisor 0 = .ok (.iload_n 1, 1) := all_d dX9_divisor_all0 0 rfl
theorem dX9_divisor_1 : decode cX9_divisor 1 = .ok (.ifCond .ge 8, 3) := all_d dX9_divisor_all0 1 rfl
theorem dX9_divisor_4 : decode cX9_divisor 4 = .ok (.iload_n 1, 1) := all_d dX9_divisor_all0 2 rfl
theorem dX9_divisor_5 : decode cX9_divisor 5 = .ok (.ineg, 1) := all_d dX9_divisor_all0 3 rfl
theorem dX9_divisor_6 : decode cX9_divisor 6 = .ok (.goto 4, 3) := all_d dX9_divisor_all0 4 rfl
theorem dX9_divisor_9 : decode cX9_divisor 9 = .ok (.iload_n 1, 1) := all_d dX9_divisor_all0 5 rfl
theorem dX9_divisor_10 : decode cX9_divisor 10 = .ok (.istore_n 3, 1) := all_d dX9_divisor_all0 6 rfl
theorem dX9_divisor_11 : decode cX9_divisor 11 = .ok (.iload_n 2, 1) := all_d dX9_divisor_all0 7 rfl
theorem dX9_divisor_12 : decode cX9_divisor 12 = .ok (.istore 4, 2) := all_d dX9_divisor_all0 8 rfl
theorem dX9_divisor_14 : decode cX9_divisor 14 = .ok (.iload 4, 2) := all_d dX9_divisor_all0 9 rfl
theorem dX9_divisor_16 : decode cX9_divisor 16 = .ok (.ifCond .eq 19, 3) := all_d dX9_divisor_all0 10 rfl
theorem dX9_divisor_19 : decode cX9_divisor 19 = .ok (.iload_n 3, 1) := all_d dX9_divisor_all0 11 rfl
theorem dX9_divisor_20 : decode cX9_divisor 20 = .ok (.iload 4, 2) := all_d dX9_divisor_all0 12 rfl
theorem dX9_divisor_22 : decode cX9_divisor 22 = .ok (.irem, 1) := all_d dX9_divisor_all0 13 rfl
theorem dX9_divisor_23 : decode cX9_divisor 23 = .ok (.istore 5, 2) := all_d dX9_divisor_all0 14 rfl
theorem dX9_divisor_25 : decode cX9_divisor 25 = .ok (.iload 4, 2) := all_d dX9_divisor_all0 15 rfl
theorem dX9_divisor_27 : decode cX9_divisor 27 = .ok (.istore_n 3, 1) := all_d dX9_divisor_all0 16 rfl
theorem dX9_divisor_28 : decode cX9_divisor 28 = .ok (.iload 5, 2) := all_d dX9_divisor_all0 17 rfl
theorem dX9_divisor_30 : decode cX9_divisor 30 = .ok (.istore 4, 2) := all_d dX9_divisor_all0 18 rfl
theorem dX9_divisor_32 : decode cX9_divisor 32 = .ok (.goto (-18), 3) := all_d dX9_divisor_all0 19 rfl
theorem dX9_divisor_35 : decode cX9_divisor 35 = .ok (.iload_n 3, 1) := all_d dX9_divisor_all0 20 rfl
theorem dX9_divisor_36 : decode cX9_divisor 36 = .ok (.ireturn, 1) := all_d dX9_divisor_all0 21 rfl
set_option maxRecDepth 100000 in
theorem dX9_mean_all0 : ([(0, (.aload_n 0 : Instr), 1), (1, (.iconst 0 : Instr), 1), (2, (.putfield 47 : Instr), 3), (5, (.aload_n 0 : Instr), 1), (6, (.iload_n 1 : Instr), 1), (7, (.invokevirtual 68 : Instr), 3), (10, (.ifCond .eq 11 : Instr), 3), (13, (.aload_n 0 : Instr), 1), (14, (.iload_n 2 : Instr), 1), (15, (.invokevirtual 107 : Instr), 3), (18, (.ifCond .ne 9 : Instr), 3), (21, (.aload_n 0 : Instr), 1), (22, (.iconst 2 : Instr), 1), (23, (.invokevirtual 78 : Instr), 3), (26, (.ireturn : Instr), 1), (27, (.aload_n 0 : Instr), 1), (28, (.iconst 0 : Instr), 1), (29, (.putfield 51 : Instr), 3), (32, (.aload_n 0 : Instr), 1), (33, (.getfield 131 : Instr), 3), (36, (.ifCond .ne 18 : Instr), 3), (39, (.iload_n 3 : Instr), 1), (40, (.ifCond .eq 7 : Instr), 3), (43, (.iconst 1 : Instr), 1), (44, (.goto 9 : Instr), 3), (47, (.aload_n 0 : Instr), 1), (48, (.iload_n 1 : Instr), 1), (49, (.iload_n 2 : Instr), 1), (50, (.invokevirtual 110 : Instr), 3), (53, (.ireturn : Instr), 1), (54, (.iconst 0 : Instr), 1), (55, (.istore 4 : Instr), 2), (57, (.iconst 0 : Instr), 1), (58, (.istore 5 : Instr), 2), (60, (.iconst 0 : Instr), 1), (61, (.istore 6 : Instr), 2), (63, (.iload 6 : Instr), 2), (65, (.aload_n 0 : Instr), 1), (66, (.getfield 131 : Instr), 3), (69, (.if_icmp .ge 85 : Instr), 3), (72, (.iload_n 2 : Instr), 1), (73, (.aload_n 0 : Instr), 1), (74, (.getfield 16 : Instr), 3), (77, (.iload 6 : Instr), 2), (79, (.iaload : Instr), 1), (80, (.iadd : Instr), 1), (81, (.istore 7 : Instr), 2), (83, (.iload 7 : Instr), 2), (85, (.ifCond .ge 7 : Instr), 3), (88, (.iconst 0 : Instr), 1), (89, (.goto 25 : Instr), 3), (92, (.iload 7 : Instr), 2), (94, (.aload_n 0 : Instr), 1), (95, (.getfield 7 : Instr), 3), (98, (.iconst 0 : Instr), 1), (99, (.iaload : Instr), 1), (100, (.if_icmp .le 12 : Instr), 3), (103, (.aload_n 0 : Instr), 1), (104, (.getfield 7 : Instr), 3), (107, (.iconst 0 : Instr), 1), (108, (.iaload : Instr), 1), (109, (.goto 5 : Instr), 3), (112, (.iload 7 : Instr), 2), (114, (.istore 7 : Instr), 2), (116, (.iload 4 : Instr), 2), (118, (.aload_n 0 : Instr), 1), (119, (.getfield 19 : Instr), 3), (122, (.iload 6 : Instr), 2), (124, (.iaload : Instr), 1), (125, (.aload_n 0 : Instr), 1), (126, (.iload_n 1 : Instr), 1), (127, (.iload 7 : Instr), 2), (129, (.invokevirtual 110 : Instr), 3), (132, (.imul : Instr), 1), (133, (.iadd : Instr), 1), (134, (.istore 4 : Instr), 2), (136, (.iload 5 : Instr), 2), (138, (.aload_n 0 : Instr), 1), (139, (.getfield 19 : Instr), 3), (142, (.iload 6 : Instr), 2)] : List (Nat × Instr × Nat)).all (fun q => decide (decode cX9_mean q.1 = .ok (q.2.1, q.2.2))) = true := by decide +kernel
theorem dX9_mean_0 : decode cX9_mean 0 = .ok (.aload_n 0, 1) := all_d dX9_mean_all0 0 rfl
theorem dX9_mean_1 : decode cX9_mean 1 = .ok (.iconst 0, 1) := all_d dX9_mean_all0 1 rfl
theorem dX9_mean_2 : decode cX9_mean 2 = .ok (.putfield 47, 3) := all_d dX9_mean_all0 2 rfl
theorem dX9_mean_5 : decode cX9_mean 5 = .ok (.aload_n 0, 1) := all_d dX9_mean_all0 3 rfl
theorem dX9_mean_6 : decode cX9_mean 6 = .ok (.iload_n 1, 1) := all_d dX9_mean_all0 4 rfl
theorem dX9_mean_7 : decode cX9_mean 7 = .ok (.invokevirtual 68, 3) := all_d dX9_mean_all0 5 rfl
theorem dX9_mean_10 : decode cX9_mean 10 = .ok (.ifCond .eq 11, 3) := all_d dX9_mean_all0 6 rfl
theorem dX9_mean_13 : decode cX9_mean 13 = .ok (.aload_n 0, 1) := all_d dX9_mean_all0 7 rfl
theorem dX9_mean_14 : decode cX9_mean 14 = .ok (.iload_n 2, 1) := all_d dX9_mean_all0 8 rfl
theorem dX9_mean_15 : decode cX9_mean 15 = .ok (.invokevirtual 107, 3) := all_d dX9_mean_all0 9 rfl
theorem dX9_mean_18 : decode cX9_mean 18 = .ok (.ifCond .ne 9, 3) := all_d dX9_mean_all0 10 rfl
theorem dX9_mean_21 : decode cX9_mean 21 = .ok (.aload_n 0, 1) := all_d dX9_mean_all0 11 rfl
theorem dX9_mean_22 : decode cX9_mean 22 = .ok (.iconst 2, 1) := all_d dX9_mean_all0 12 rfl
theorem dX9_mean_23 : decode cX9_mean 23 = .ok (.invokevirtual 78, 3) := all_d dX9_mean_all0 13 rfl
theorem dX9_mean_26 : decode cX9_mean 26 = .ok (.ireturn, 1) := all_d dX9_mean_all0 14 rfl
theorem dX9_mean_27 : decode cX9_mean 27 = .ok (.aload_n 0, 1) := all_d dX9_mean_all0 15 rfl
theorem dX9_mean_28 : decode cX9_mean 28 = .ok (.iconst 0, 1) := all_d dX9_mean_all0 16 rfl
theorem dX9_mean_29 : decode cX9_mean 29 = .ok (.putfield 51, 3) := all_d dX9_mean_all0 17 rfl
theorem dX9_mean_32 : decode cX9_mean 32 = .ok (.aload_n 0, 1) := all_d dX9_mean_all0 18 rfl
theorem dX9_mean_33 : decode cX9_mean 33 = .ok (.getfield 131, 3) := all_d dX9_mean_all0 19 rfl
theorem dX9_mean_36 : decode cX9_mean 36 = .ok (.ifCond .ne 18, 3) := all_d dX9_mean_all0 20 rfl
theorem dX9_mean_39 : decode cX9_mean 39 = .ok (.iload_n 3, 1) := all_d dX9_mean_all0 21 rfl
theorem dX9_mean_40 : decode cX9_mean 40 = .ok (.ifCond .eq 7, 3) := all_d dX9_mean_all0 22 rfl
theorem dX9_mean_43 : decode cX9_mean 43 = .ok (.iconst 1, 1) := all_d dX9_mean_all0 23 rfl
theorem dX9_mean_44 : decode cX9_mean 44 = .ok (.goto 9, 3) := all_d dX9_mean_all0 24 rfl
theorem dX9_mean_47 : decode cX9_mean 47 = .ok (.aload_n 0, 1) := all_d dX9_mean_all0 25 rfl
theorem dX9_mean_48 : decode cX9_mean 48 = .ok (.iload_n 1, 1) := all_d dX9_mean_all0 26 rfl
theorem dX9_mean_49 : decode cX9_mean 49 = .ok (.iload_n 2, 1) := all_d dX9_mean_all0 27 rfl
theorem dX9_mean_50 : decode cX9_mean 50 = .ok (.invokevirtual 110, 3) := all_d dX9_mean_all0 28 rfl
theorem dX9_mean_53 : decode cX9_mean 53 = .ok (.ireturn, 1) := all_d dX9_mean_all0 29 rfl
theorem dX9_mean_54 : decode cX9_mean 54 = .ok (.iconst 0, 1) := all_d dX9_mean_all0 30 rfl
theorem dX9_mean_55 : decode cX9_mean 55 = .ok (.istore 4, 2) := all_d dX9_mean_all0 31 rfl
theorem dX9_mean_57 : decode cX9_mean 57 = .ok (.iconst 0, 1) := all_d dX9_mean_all0 32 rfl
theorem dX9_mean_58 : decode cX9_mean 58 = .ok (.istore 5, 2) := all_d dX9_mean_all0 33 rfl
theorem dX9_mean_60 : decode cX9_mean 60 = .ok (.iconst 0, 1) := all_d dX9_mean_all0 34 rfl
theorem dX9_mean_61 : decode cX9_mean 61 = .ok (.istore 6, 2) := all_d dX9_mean_all0 35 rfl
theorem dX9_mean_63 : decode cX9_mean 63 = .ok (.iload 6, 2) := all_d dX9_mean_all0 36 rfl
theorem dX9_mean_65 : decode cX9_mean 65 = .ok (.aload_n 0, 1) := all_d dX9_mean_all0 37 rfl
theorem dX9_mean_66 : decode cX9_mean 66 = .ok (.getfield 131, 3) := all_d dX9_mean_all0 38 rfl
theorem dX9_mean_69 : decode cX9_mean 69 = .ok (.if_icmp .ge 85, 3) := all_d dX9_mean_all0 39 rfl
theorem dX9_mean_72 : decode cX9_mean 72 = .ok (.iload_n 2, 1) := all_d dX9_mean_all0 40 rfl
theorem dX9_mean_73 : decode cX9_mean 73 = .ok (.aload_n 0, 1) := all_d dX9_mean_all0 41 rfl
theorem dX9_mean_74 : decode cX9_mean 74 = .ok (.getfield 16, 3) := all_d dX9_mean_all0 42 rfl
theorem dX9_mean_77 : decode cX9_mean 77 = .ok (.iload 6, 2) := all_d dX9_mean_all0 43 rfl
theorem dX9_mean_79 : decode cX9_mean 79 = .ok (.iaload, 1) := all_d dX9_mean_all0 44 rfl
theorem dX9_mean_80 : decode cX9_mean 80 = .ok (.iadd, 1) := all_d dX9_mean_all0 45 rfl
theorem dX9_mean_81 : decode cX9_mean 81 = .ok (.istore 7, 2) := all_d dX9_mean_all0 46 rfl
theorem dX9_mean_83 : decode cX9_mean 83 = .ok (.iload 7, 2) := all_d dX9_mean_all0 47 rfl
theorem dX9_mean_85 : decode cX9_mean 85 = .ok (.ifCond .ge 7, 3) := all_d dX9_mean_all0 48 rfl
theorem dX9_mean_88 : decode cX9_mean 88 = .ok (.iconst 0, 1) := all_d dX9_mean_all0 49 rfl
theorem dX9_mean_89 : decode cX9_mean 89 = .ok (.goto 25, 3) := all_d dX9_mean_all0 50 rfl
theorem dX9_mean_92 : decode cX9_mean 92 = .ok (.iload 7, 2) := all_d dX9_mean_all0 51 rfl
theorem dX9_mean_94 : decode cX9_mean 94 = .ok (.aload_n 0, 1) := all_d dX9_mean_all0 52 rfl
theorem dX9_mean_95 : decode cX9_mean 95 = .ok (.getfield 7, 3) := all_d dX9_mean_all0 53 rfl
theorem dX9_mean_98 : decode cX9_mean 98 = .ok (.iconst 0, 1) := all_d dX9_mean_all0 54 rfl
theorem dX9_mean_99 : decode cX9_mean 99 = .ok (.iaload, 1) := all_d dX9_mean_all0 55 rfl
theorem dX9_mean_100 : decode cX9_mean 100 = .ok (.if_icmp .le 12, 3) := all_d dX9_mean_all0 56 rfl
theorem dX9_mean_103 : decode cX9_mean 103 = .ok (.aload_n 0, 1) := all_d dX9_mean_all0 57 rfl
theorem dX9_mean_104 : decode cX9_mean 104 = .ok (.getfield 7, 3) := all_d dX9_mean_all0 58 rfl
theorem dX9_mean_107 : decode cX9_mean 107 = .ok (.iconst 0, 1) := all_d dX9_mean_all0 59 rfl
theorem dX9_mean_108 : decode cX9_mean 108 = .ok (.iaload, 1) := all_d dX9_mean_all0 60 rfl
theorem dX9_mean_109 : decode cX9_mean 109 = .ok (.goto 5, 3) := all_d dX9_mean_all0 61 rfl
theorem dX9_mean_112 : decode cX9_mean 112 = .ok (.iload 7, 2) := all_d dX9_mean_all0 62 rfl
theorem dX9_mean_114 : decode cX9_mean 114 = .ok (.istore 7, 2) := all_d dX9_mean_all0 63 rfl
theorem dX9_mean_116 : decode cX9_mean 116 = .ok (.iload 4, 2) := all_d dX9_mean_all0 64 rfl
theorem dX9_mean_118 : decode cX9_mean 118 = .ok (.aload_n 0, 1) := all_d dX9_mean_all0 65 rfl
theorem dX9_mean_119 : decode cX9_mean 119 = .ok (.getfield 19, 3) := all_d dX9_mean_all0 66 rfl
theorem dX9_mean_122 : decode cX9_mean 122 = .ok (.iload 6, 2) := all_d dX9_mean_all0 67 rfl
theorem dX9_mean_124 : decode cX9_mean 124 = .ok (.iaload, 1) := all_d dX9_mean_all0 68 rfl
theorem dX9_mean_125 : decode cX9_mean 125 = .ok (.aload_n 0, 1) := all_d dX9_mean_all0 69 rfl
theorem dX9_mean_126 : decode cX9_mean 126 = .ok (.iload_n 1, 1) := all_d dX9_mean_all0 70 rfl
theorem dX9_mean_127 : decode cX9_mean 127 = .ok (.iload 7, 2) := all_d dX9_mean_all0 71 rfl
theorem dX9_mean_129 : decode cX9_mean 129 = .ok (.invokevirtual 110, 3) := all_d dX9_mean_all0 72 rfl
theorem dX9_mean_132 : decode cX9_mean 132 = .ok (.imul, 1) := all_d dX9_mean_all0 73 rfl
theorem dX9_mean_133 : decode cX9_mean 133 = .ok (.iadd, 1) := all_d dX9_mean_all0 74 rfl
theorem dX9_mean_134 : decode cX9_mean 134 = .ok (.istore 4, 2) := all_d dX9_mean_all0 75 rfl
theorem dX9_mean_136 : decode cX9_mean 136 = .ok (.iload 5, 2) := all_d dX9_mean_all0 76 rfl
theorem dX9_mean_138 : decode cX9_mean 138 = .ok (.aload_n 0, 1) := all_d dX9_mean_all0 77 rfl
theorem dX9_mean_139 : decode cX9_mean 139 = .ok (.getfield 19, 3) := all_d dX9_mean_all0 78 rfl
theorem dX9_mean_142 : decode cX9_mean 142 = .ok (.iload 6, 2) := all_d dX9_mean_all0 79 rfl
set_option maxRecDepth 100000 in
theorem dX9_mean_all1 : ([(144, (.iaload : Instr), 1), (145, (.iadd : Instr), 1), (146, (.istore 5 : Instr), 2), (148, (.iinc 6 1 : Instr), 3), (151, (.goto (-88) : Instr), 3), (154, (.aload_n 0 : Instr), 1), (155, (.iload 4 : Instr), 2), (157, (.iload 5 : Instr), 2), (159, (.invokevirtual 134 : Instr), 3), (162, (.istore 6 : Instr), 2), (164, (.iload_n 3 : Instr), 1), (165, (.ifCond .eq 11 : Instr), 3), (168, (.iload 5 : Instr), 2), (170, (.iload 6 : Instr), 2), (172, (.idiv : Instr), 1), (173, (.goto 8 : Instr), 3), (176, (.iload 4 : Instr), 2), (178, (.iload 6 : Instr), 2), (180, (.idiv : Instr), 1), (181, (.ireturn : Instr), 1)] : List (Nat × Instr × Nat)).all (fun q => decide (decode cX9_mean q.1 = .ok (q.2.1, q.2.2))) = true := by decide +kernel
theorem dX9_mean_144 : decode cX9_mean 144 = .ok (.iaload, 1) := all_d dX9_mean_all1 0 rfl
theorem dX9_mean_145 : decode cX9_mean 145 = .ok (.iadd, 1) := all_d dX9_mean_all1 1 rfl
theorem dX9_mean_146 : decode cX9_mean 146 = .ok (.istore 5, 2) := all_d dX9_mean_all1 2 rfl
theorem dX9_mean_148 : decode cX9_mean 148 = .ok (.iinc 6 1, 3) := all_d dX9_mean_all1 3 rfl
theorem dX9_mean_151 : decode cX9_mean 151 = .ok (.goto (-88), 3) := all_d dX9_mean_all1 4 rfl
theorem dX9_mean_154 : decode cX9_mean 154 = .ok (.aload_n 0, 1) := all_d dX9_mean_all1 5 rfl
theorem dX9_mean_155 : decode cX9_mean 155 = .ok (.iload 4, 2) := all_d dX9_mean_all1 6 rfl
theorem dX9_mean_157 : decode cX9_mean 157 = .ok (.iload 5, 2) := all_d dX9_mean_all1 7 rfl
theorem dX9_mean_159 : decode cX9_mean 159 = .ok (.invokevirtual 134, 3) := all_d dX9_mean_all1 8 rfl
theorem dX9_mean_162 : decode cX9_mean 162 = .ok (.istore 6, 2) := all_d dX9_mean_all1 9 rfl
theorem dX9_mean_164 : decode cX9_mean 164 = .ok (.iload_n 3, 1) := all_d dX9_mean_all1 10 rfl
theorem dX9_mean_165 : decode cX9_mean 165 = .ok (.ifCond .eq 11, 3) := all_d dX9_mean_all1 11 rfl
theorem dX9_mean_168 : decode cX9_mean 168 = .ok (.iload 5, 2) := all_d dX9_mean_all1 12 rfl
theorem dX9_mean_170 : decode cX9_mean 170 = .ok (.iload 6, 2) := all_d dX9_mean_all1 13 rfl
theorem dX9_mean_172 : decode cX9_mean 172 = .ok (.idiv, 1) := all_d dX9_mean_all1 14 rfl
theorem dX9_mean_173 : decode cX9_mean 173 = .ok (.goto 8, 3) := all_d dX9_mean_all1 15 rfl
theorem dX9_mean_176 : decode cX9_mean 176 = .ok (.iload 4, 2) := all_d dX9_mean_all1 16 rfl
theorem dX9_mean_178 : decode cX9_mean 178 = .ok (.iload 6, 2) := all_d dX9_mean_all1 17 rfl
theorem dX9_mean_180 : decode cX9_mean 180 = .ok (.idiv, 1) := all_d dX9_mean_all1 18 rfl
theorem dX9_mean_181 : decode cX9_mean 181 = .ok (.ireturn, 1) := all_d dX9_mean_all1 19 rfl
set_option maxRecDepth 100000 in
theorem dX9_fault_all0 : ([(0, (.aload_n 0 : Instr), 1), (1, (.iconst 0 : Instr), 1), (2, (.putfield 47 : Instr), 3), (5, (.aload_n 0 : Instr), 1), (6, (.iload_n 1 : Instr), 1), (7, (.iload_n 2 : Instr), 1), (8, (.invokevirtual 60 : Instr), 3), (11, (.ifCond .ne 9 : Instr), 3), (14, (.aload_n 0 : Instr), 1), (15, (.iconst 2 : Instr), 1), (16, (.invokevirtual 78 : Instr), 3), (19, (.ireturn : Instr), 1), (20, (.aload_n 0 : Instr), 1), (21, (.iload_n 3 : Instr), 1), (22, (.sipush (-500) : Instr), 3), (25, (.sipush 500 : Instr), 3), (28, (.invokevirtual 64 : Instr), 3), (31, (.ifCond .ne 9 : Instr), 3), (34, (.aload_n 0 : Instr), 1), (35, (.iconst 1 : Instr), 1), (36, (.invokevirtual 78 : Instr), 3), (39, (.ireturn : Instr), 1), (40, (.aload_n 0 : Instr), 1), (41, (.getfield 57 : Instr), 3), (44, (.bipush 10 : Instr), 2), (46, (.if_icmp .ne 9 : Instr), 3), (49, (.aload_n 0 : Instr), 1), (50, (.iconst 3 : Instr), 1), (51, (.invokevirtual 78 : Instr), 3), (54, (.ireturn : Instr), 1), (55, (.aload_n 0 : Instr), 1), (56, (.iconst 0 : Instr), 1), (57, (.putfield 51 : Instr), 3), (60, (.aload_n 0 : Instr), 1), (61, (.getfield 22 : Instr), 3), (64, (.aload_n 0 : Instr), 1), (65, (.getfield 57 : Instr), 3), (68, (.iload_n 1 : Instr), 1), (69, (.iastore : Instr), 1), (70, (.aload_n 0 : Instr), 1), (71, (.getfield 25 : Instr), 3), (74, (.aload_n 0 : Instr), 1), (75, (.getfield 57 : Instr), 3), (78, (.iload_n 2 : Instr), 1), (79, (.iastore : Instr), 1), (80, (.aload_n 0 : Instr), 1), (81, (.getfield 28 : Instr), 3), (84, (.aload_n 0 : Instr), 1), (85, (.getfield 57 : Instr), 3), (88, (.iload_n 3 : Instr), 1), (89, (.iastore : Instr), 1), (90, (.aload_n 0 : Instr), 1), (91, (.dup : Instr), 1), (92, (.getfield 57 : Instr), 3), (95, (.iconst 1 : Instr), 1), (96, (.iadd : Instr), 1), (97, (.putfield 57 : Instr), 3), (100, (.aload_n 0 : Instr), 1), (101, (.getfield 57 : Instr), 3), (104, (.ireturn : Instr), 1)] : List (Nat × Instr × Nat)).all (fun q => decide (decode cX9_fault q.1 = .ok (q.2.1, q.2.2))) = true := by decide +kernel
theorem dX9_fault_0 : decode cX9_fault 0 = .ok (.aload_n 0, 1) := all_d dX9_fault_all0 0 rfl
theorem dX9_fault_1 : decode cX9_fault 1 = .ok (.iconst 0, 1) := all_d dX9_fault_all0 1 rfl
theorem dX9_fault_2 : decode cX9_fault 2 = .ok (.putfield 47, 3) := all_d dX9_fault_all0 2 rfl
theorem dX9_fault_5 : decode cX9_fault 5 = .ok (.aload_n 0, 1) := all_d dX9_fault_all0 3 rfl
theorem dX9_fault_6 : decode cX9_fault 6 = .ok (.iload_n 1, 1) := all_d dX9_fault_all0 4 rfl
theorem dX9_fault_7 : decode cX9_fault 7 = .ok (.iload_n 2, 1) := all_d dX9_fault_all0 5 rfl
theorem dX9_fault_8 : decode cX9_fault 8 = .ok (.invokevirtual 60, 3) := all_d dX9_fault_all0 6 rfl
theorem dX9_fault_11 : decode cX9_fault 11 = .ok (.ifCond .ne 9, 3) := all_d dX9_fault_all0 7 rfl
theorem dX9_fault_14 : decode cX9_fault 14 = .ok (.aload_n 0, 1) := all_d dX9_fault_all0 8 rfl
theorem dX9_fault_15 : decode cX9_fault 15 = .ok (.iconst 2, 1) := all_d dX9_fault_all0 9 rfl
theorem dX9_fault_16 : decode cX9_fault 16 = .ok (.invokevirtual 78, 3) := all_d dX9_fault_all0 10 rfl
theorem dX9_fault_19 : decode cX9_fault 19 = .ok (.ireturn, 1) := all_d dX9_fault_all0 11 rfl
theorem dX9_fault_20 : decode cX9_fault 20 = .ok (.aload_n 0, 1) := all_d dX9_fault_all0 12 rfl
theorem dX9_fault_21 : decode cX9_fault 21 = .ok (.iload_n 3, 1) := all_d dX9_fault_all0 13 rfl
theorem dX9_fault_22 : decode cX9_fault 22 = .ok (.sipush (-500), 3) := all_d dX9_fault_all0 14 rfl
theorem dX9_fault_25 : decode cX9_fault 25 = .ok (.sipush 500, 3) := all_d dX9_fault_all0 15 rfl
theorem dX9_fault_28 : decode cX9_fault 28 = .ok (.invokevirtual 64, 3) := all_d dX9_fault_all0 16 rfl
theorem dX9_fault_31 : decode cX9_fault 31 = .ok (.ifCond .ne 9, 3) := all_d dX9_fault_all0 17 rfl
theorem dX9_fault_34 : decode cX9_fault 34 = .ok (.aload_n 0, 1) := all_d dX9_fault_all0 18 rfl
theorem dX9_fault_35 : decode cX9_fault 35 = .ok (.iconst 1, 1) := all_d dX9_fault_all0 19 rfl
theorem dX9_fault_36 : decode cX9_fault 36 = .ok (.invokevirtual 78, 3) := all_d dX9_fault_all0 20 rfl
theorem dX9_fault_39 : decode cX9_fault 39 = .ok (.ireturn, 1) := all_d dX9_fault_all0 21 rfl
theorem dX9_fault_40 : decode cX9_fault 40 = .ok (.aload_n 0, 1) := all_d dX9_fault_all0 22 rfl
theorem dX9_fault_41 : decode cX9_fault 41 = .ok (.getfield 57, 3) := all_d dX9_fault_all0 23 rfl
theorem dX9_fault_44 : decode cX9_fault 44 = .ok (.bipush 10, 2) := all_d dX9_fault_all0 24 rfl
theorem dX9_fault_46 : decode cX9_fault 46 = .ok (.if_icmp .ne 9, 3) := all_d dX9_fault_all0 25 rfl
theorem dX9_fault_49 : decode cX9_fault 49 = .ok (.aload_n 0, 1) := all_d dX9_fault_all0 26 rfl
theorem dX9_fault_50 : decode cX9_fault 50 = .ok (.iconst 3, 1) := all_d dX9_fault_all0 27 rfl
theorem dX9_fault_51 : decode cX9_fault 51 = .ok (.invokevirtual 78, 3) := all_d dX9_fault_all0 28 rfl
theorem dX9_fault_54 : decode cX9_fault 54 = .ok (.ireturn, 1) := all_d dX9_fault_all0 29 rfl
theorem dX9_fault_55 : decode cX9_fault 55 = .ok (.aload_n 0, 1) := all_d dX9_fault_all0 30 rfl
theorem dX9_fault_56 : decode cX9_fault 56 = .ok (.iconst 0, 1) := all_d dX9_fault_all0 31 rfl
theorem dX9_fault_57 : decode cX9_fault 57 = .ok (.putfield 51, 3) := all_d dX9_fault_all0 32 rfl
theorem dX9_fault_60 : decode cX9_fault 60 = .ok (.aload_n 0, 1) := all_d dX9_fault_all0 33 rfl
theorem dX9_fault_61 : decode cX9_fault 61 = .ok (.getfield 22, 3) := all_d dX9_fault_all0 34 rfl
theorem dX9_fault_64 : decode cX9_fault 64 = .ok (.aload_n 0, 1) := all_d dX9_fault_all0 35 rfl
theorem dX9_fault_65 : decode cX9_fault 65 = .ok (.getfield 57, 3) := all_d dX9_fault_all0 36 rfl
theorem dX9_fault_68 : decode cX9_fault 68 = .ok (.iload_n 1, 1) := all_d dX9_fault_all0 37 rfl
theorem dX9_fault_69 : decode cX9_fault 69 = .ok (.iastore, 1) := all_d dX9_fault_all0 38 rfl
theorem dX9_fault_70 : decode cX9_fault 70 = .ok (.aload_n 0, 1) := all_d dX9_fault_all0 39 rfl
theorem dX9_fault_71 : decode cX9_fault 71 = .ok (.getfield 25, 3) := all_d dX9_fault_all0 40 rfl
theorem dX9_fault_74 : decode cX9_fault 74 = .ok (.aload_n 0, 1) := all_d dX9_fault_all0 41 rfl
theorem dX9_fault_75 : decode cX9_fault 75 = .ok (.getfield 57, 3) := all_d dX9_fault_all0 42 rfl
theorem dX9_fault_78 : decode cX9_fault 78 = .ok (.iload_n 2, 1) := all_d dX9_fault_all0 43 rfl
theorem dX9_fault_79 : decode cX9_fault 79 = .ok (.iastore, 1) := all_d dX9_fault_all0 44 rfl
theorem dX9_fault_80 : decode cX9_fault 80 = .ok (.aload_n 0, 1) := all_d dX9_fault_all0 45 rfl
theorem dX9_fault_81 : decode cX9_fault 81 = .ok (.getfield 28, 3) := all_d dX9_fault_all0 46 rfl
theorem dX9_fault_84 : decode cX9_fault 84 = .ok (.aload_n 0, 1) := all_d dX9_fault_all0 47 rfl
theorem dX9_fault_85 : decode cX9_fault 85 = .ok (.getfield 57, 3) := all_d dX9_fault_all0 48 rfl
theorem dX9_fault_88 : decode cX9_fault 88 = .ok (.iload_n 3, 1) := all_d dX9_fault_all0 49 rfl
theorem dX9_fault_89 : decode cX9_fault 89 = .ok (.iastore, 1) := all_d dX9_fault_all0 50 rfl
theorem dX9_fault_90 : decode cX9_fault 90 = .ok (.aload_n 0, 1) := all_d dX9_fault_all0 51 rfl
theorem dX9_fault_91 : decode cX9_fault 91 = .ok (.dup, 1) := all_d dX9_fault_all0 52 rfl
theorem dX9_fault_92 : decode cX9_fault 92 = .ok (.getfield 57, 3) := all_d dX9_fault_all0 53 rfl
theorem dX9_fault_95 : decode cX9_fault 95 = .ok (.iconst 1, 1) := all_d dX9_fault_all0 54 rfl
theorem dX9_fault_96 : decode cX9_fault 96 = .ok (.iadd, 1) := all_d dX9_fault_all0 55 rfl
theorem dX9_fault_97 : decode cX9_fault 97 = .ok (.putfield 57, 3) := all_d dX9_fault_all0 56 rfl
theorem dX9_fault_100 : decode cX9_fault 100 = .ok (.aload_n 0, 1) := all_d dX9_fault_all0 57 rfl
theorem dX9_fault_101 : decode cX9_fault 101 = .ok (.getfield 57, 3) := all_d dX9_fault_all0 58 rfl
theorem dX9_fault_104 : decode cX9_fault 104 = .ok (.ireturn, 1) := all_d dX9_fault_all0 59 rfl
set_option maxRecDepth 100000 in
theorem dX9_clear_all0 : ([(0, (.aload_n 0 : Instr), 1), (1, (.iconst 0 : Instr), 1), (2, (.putfield 47 : Instr), 3), (5, (.aload_n 0 : Instr), 1), (6, (.getfield 57 : Instr), 3), (9, (.istore_n 1 : Instr), 1), (10, (.aload_n 0 : Instr), 1), (11, (.iconst 0 : Instr), 1), (12, (.putfield 57 : Instr), 3), (15, (.iload_n 1 : Instr), 1), (16, (.ireturn : Instr), 1)] : List (Nat × Instr × Nat)).all (fun q => decide (decode cX9_clear q.1 = .ok (q.2.1, q.2.2))) = true := by decide +kernel
theorem dX9_clear_0 : decode cX9_clear 0 = .ok (.aload_n 0, 1) := all_d dX9_clear_all0 0 rfl
theorem dX9_clear_1 : decode cX9_clear 1 = .ok (.iconst 0, 1) := all_d dX9_clear_all0 1 rfl
theorem dX9_clear_2 : decode cX9_clear 2 = .ok (.putfield 47, 3) := all_d dX9_clear_all0 2 rfl
theorem dX9_clear_5 : decode cX9_clear 5 = .ok (.aload_n 0, 1) := all_d dX9_clear_all0 3 rfl
theorem dX9_clear_6 : decode cX9_clear 6 = .ok (.getfield 57, 3) := all_d dX9_clear_all0 4 rfl
theorem dX9_clear_9 : decode cX9_clear 9 = .ok (.istore_n 1, 1) := all_d dX9_clear_all0 5 rfl
theorem dX9_clear_10 : decode cX9_clear 10 = .ok (.aload_n 0, 1) := all_d dX9_clear_all0 6 rfl
theorem dX9_clear_11 : decode cX9_clear 11 = .ok (.iconst 0, 1) := all_d dX9_clear_all0 7 rfl
theorem dX9_clear_12 : decode cX9_clear 12 = .ok (.putfield 57, 3) := all_d dX9_clear_all0 8 rfl
theorem dX9_clear_15 : decode cX9_clear 15 = .ok (.iload_n 1, 1) := all_d dX9_clear_all0 9 rfl
theorem dX9_clear_16 : decode cX9_clear 16 = .ok (.ireturn, 1) := all_d dX9_clear_all0 10 rfl
set_option maxRecDepth 100000 in
theorem dX9_faulty_all0 : ([(0, (.aload_n 0 : Instr), 1), (1, (.aload_n 0 : Instr), 1), (2, (.getfield 22 : Instr), 3), (5, (.iload_n 1 : Instr), 1), (6, (.iaload : Instr), 1), (7, (.aload_n 0 : Instr), 1), (8, (.getfield 25 : Instr), 3), (11, (.iload_n 1 : Instr), 1), (12, (.iaload : Instr), 1), (13, (.invokevirtual 85 : Instr), 3), (16, (.iconst 1 : Instr), 1), (17, (.iadd : Instr), 1), (18, (.istore_n 3 : Instr), 1), (19, (.aload_n 0 : Instr), 1), (20, (.getfield 7 : Instr), 3), (23, (.iload_n 3 : Instr), 1), (24, (.iaload : Instr), 1), (25, (.istore 4 : Instr), 2), (27, (.aload_n 0 : Instr), 1), (28, (.getfield 7 : Instr), 3), (31, (.iload_n 3 : Instr), 1), (32, (.aload_n 0 : Instr), 1), (33, (.getfield 28 : Instr), 3), (36, (.iload_n 1 : Instr), 1), (37, (.iaload : Instr), 1), (38, (.iastore : Instr), 1), (39, (.aload_n 0 : Instr), 1), (40, (.aload_n 0 : Instr), 1), (41, (.getfield 22 : Instr), 3), (44, (.iload_n 1 : Instr), 1), (45, (.iaload : Instr), 1), (46, (.iload_n 2 : Instr), 1), (47, (.invokevirtual 110 : Instr), 3), (50, (.istore 5 : Instr), 2), (52, (.aload_n 0 : Instr), 1), (53, (.getfield 7 : Instr), 3), (56, (.iload_n 3 : Instr), 1), (57, (.iload 4 : Instr), 2), (59, (.iastore : Instr), 1), (60, (.iload 5 : Instr), 2), (62, (.ireturn : Instr), 1)] : List (Nat × Instr × Nat)).all (fun q => decide (decode cX9_faulty q.1 = .ok (q.2.1, q.2.2))) = true := by decide +kernel
theorem dX9_faulty_0 : decode cX9_faulty 0 = .ok (.aload_n 0, 1) := all_d dX9_faulty_all0 0 rfl
theorem dX9_faulty_1 : decode cX9_faulty 1 = .ok (.aload_n 0, 1) := all_d dX9_faulty_all0 1 rfl
theorem dX9_faulty_2 : decode cX9_faulty 2 = .ok (.getfield 22, 3) := all_d dX9_faulty_all0 2 rfl
theorem dX9_faulty_5 : decode cX9_faulty 5 = .ok (.iload_n 1, 1) := all_d dX9_faulty_all0 3 rfl
theorem dX9_faulty_6 : decode cX9_faulty 6 = .ok (.iaload, 1) := all_d dX9_faulty_all0 4 rfl
theorem dX9_faulty_7 : decode cX9_faulty 7 = .ok (.aload_n 0, 1) := all_d dX9_faulty_all0 5 rfl
theorem dX9_faulty_8 : decode cX9_faulty 8 = .ok (.getfield 25, 3) := all_d dX9_faulty_all0 6 rfl
theorem dX9_faulty_11 : decode cX9_faulty 11 = .ok (.iload_n 1, 1) := all_d dX9_faulty_all0 7 rfl
theorem dX9_faulty_12 : decode cX9_faulty 12 = .ok (.iaload, 1) := all_d dX9_faulty_all0 8 rfl
theorem dX9_faulty_13 : decode cX9_faulty 13 = .ok (.invokevirtual 85, 3) := all_d dX9_faulty_all0 9 rfl
theorem dX9_faulty_16 : decode cX9_faulty 16 = .ok (.iconst 1, 1) := all_d dX9_faulty_all0 10 rfl
theorem dX9_faulty_17 : decode cX9_faulty 17 = .ok (.iadd, 1) := all_d dX9_faulty_all0 11 rfl
theorem dX9_faulty_18 : decode cX9_faulty 18 = .ok (.istore_n 3, 1) := all_d dX9_faulty_all0 12 rfl
theorem dX9_faulty_19 : decode cX9_faulty 19 = .ok (.aload_n 0, 1) := all_d dX9_faulty_all0 13 rfl
theorem dX9_faulty_20 : decode cX9_faulty 20 = .ok (.getfield 7, 3) := all_d dX9_faulty_all0 14 rfl
theorem dX9_faulty_23 : decode cX9_faulty 23 = .ok (.iload_n 3, 1) := all_d dX9_faulty_all0 15 rfl
theorem dX9_faulty_24 : decode cX9_faulty 24 = .ok (.iaload, 1) := all_d dX9_faulty_all0 16 rfl
theorem dX9_faulty_25 : decode cX9_faulty 25 = .ok (.istore 4, 2) := all_d dX9_faulty_all0 17 rfl
theorem dX9_faulty_27 : decode cX9_faulty 27 = .ok (.aload_n 0, 1) := all_d dX9_faulty_all0 18 rfl
theorem dX9_faulty_28 : decode cX9_faulty 28 = .ok (.getfield 7, 3) := all_d dX9_faulty_all0 19 rfl
theorem dX9_faulty_31 : decode cX9_faulty 31 = .ok (.iload_n 3, 1) := all_d dX9_faulty_all0 20 rfl
theorem dX9_faulty_32 : decode cX9_faulty 32 = .ok (.aload_n 0, 1) := all_d dX9_faulty_all0 21 rfl
theorem dX9_faulty_33 : decode cX9_faulty 33 = .ok (.getfield 28, 3) := all_d dX9_faulty_all0 22 rfl
theorem dX9_faulty_36 : decode cX9_faulty 36 = .ok (.iload_n 1, 1) := all_d dX9_faulty_all0 23 rfl
theorem dX9_faulty_37 : decode cX9_faulty 37 = .ok (.iaload, 1) := all_d dX9_faulty_all0 24 rfl
theorem dX9_faulty_38 : decode cX9_faulty 38 = .ok (.iastore, 1) := all_d dX9_faulty_all0 25 rfl
theorem dX9_faulty_39 : decode cX9_faulty 39 = .ok (.aload_n 0, 1) := all_d dX9_faulty_all0 26 rfl
theorem dX9_faulty_40 : decode cX9_faulty 40 = .ok (.aload_n 0, 1) := all_d dX9_faulty_all0 27 rfl
theorem dX9_faulty_41 : decode cX9_faulty 41 = .ok (.getfield 22, 3) := all_d dX9_faulty_all0 28 rfl
theorem dX9_faulty_44 : decode cX9_faulty 44 = .ok (.iload_n 1, 1) := all_d dX9_faulty_all0 29 rfl
theorem dX9_faulty_45 : decode cX9_faulty 45 = .ok (.iaload, 1) := all_d dX9_faulty_all0 30 rfl
theorem dX9_faulty_46 : decode cX9_faulty 46 = .ok (.iload_n 2, 1) := all_d dX9_faulty_all0 31 rfl
theorem dX9_faulty_47 : decode cX9_faulty 47 = .ok (.invokevirtual 110, 3) := all_d dX9_faulty_all0 32 rfl
theorem dX9_faulty_50 : decode cX9_faulty 50 = .ok (.istore 5, 2) := all_d dX9_faulty_all0 33 rfl
theorem dX9_faulty_52 : decode cX9_faulty 52 = .ok (.aload_n 0, 1) := all_d dX9_faulty_all0 34 rfl
theorem dX9_faulty_53 : decode cX9_faulty 53 = .ok (.getfield 7, 3) := all_d dX9_faulty_all0 35 rfl
theorem dX9_faulty_56 : decode cX9_faulty 56 = .ok (.iload_n 3, 1) := all_d dX9_faulty_all0 36 rfl
theorem dX9_faulty_57 : decode cX9_faulty 57 = .ok (.iload 4, 2) := all_d dX9_faulty_all0 37 rfl
theorem dX9_faulty_59 : decode cX9_faulty 59 = .ok (.iastore, 1) := all_d dX9_faulty_all0 38 rfl
theorem dX9_faulty_60 : decode cX9_faulty 60 = .ok (.iload 5, 2) := all_d dX9_faulty_all0 39 rfl
theorem dX9_faulty_62 : decode cX9_faulty 62 = .ok (.ireturn, 1) := all_d dX9_faulty_all0 40 rfl
set_option maxRecDepth 100000 in
theorem dX9_showsAt_all0 : ([(0, (.aload_n 0 : Instr), 1), (1, (.iload_n 1 : Instr), 1), (2, (.iload_n 2 : Instr), 1), (3, (.invokevirtual 137 : Instr), 3), (6, (.aload_n 0 : Instr), 1), (7, (.aload_n 0 : Instr), 1), (8, (.getfield 22 : Instr), 3), (11, (.iload_n 1 : Instr), 1), (12, (.iaload : Instr), 1), (13, (.iload_n 2 : Instr), 1), (14, (.invokevirtual 110 : Instr), 3), (17, (.if_icmp .eq 7 : Instr), 3), (20, (.iconst 1 : Instr), 1), (21, (.goto 4 : Instr), 3), (24, (.iconst 0 : Instr), 1), (25, (.ireturn : Instr), 1)] : List (Nat × Instr × Nat)).all (fun q => decide (decode cX9_showsAt q.1 = .ok (q.2.1, q.2.2))) = true := by decide +kernel
theorem dX9_showsAt_0 : decode cX9_showsAt 0 = .ok (.aload_n 0, 1) := all_d dX9_showsAt_all0 0 rfl
theorem dX9_showsAt_1 : decode cX9_showsAt 1 = .ok (.iload_n 1, 1) := all_d dX9_showsAt_all0 1 rfl
theorem dX9_showsAt_2 : decode cX9_showsAt 2 = .ok (.iload_n 2, 1) := all_d dX9_showsAt_all0 2 rfl
theorem dX9_showsAt_3 : decode cX9_showsAt 3 = .ok (.invokevirtual 137, 3) := all_d dX9_showsAt_all0 3 rfl
theorem dX9_showsAt_6 : decode cX9_showsAt 6 = .ok (.aload_n 0, 1) := all_d dX9_showsAt_all0 4 rfl
theorem dX9_showsAt_7 : decode cX9_showsAt 7 = .ok (.aload_n 0, 1) := all_d dX9_showsAt_all0 5 rfl
theorem dX9_showsAt_8 : decode cX9_showsAt 8 = .ok (.getfield 22, 3) := all_d dX9_showsAt_all0 6 rfl
theorem dX9_showsAt_11 : decode cX9_showsAt 11 = .ok (.iload_n 1, 1) := all_d dX9_showsAt_all0 7 rfl
theorem dX9_showsAt_12 : decode cX9_showsAt 12 = .ok (.iaload, 1) := all_d dX9_showsAt_all0 8 rfl
theorem dX9_showsAt_13 : decode cX9_showsAt 13 = .ok (.iload_n 2, 1) := all_d dX9_showsAt_all0 9 rfl
theorem dX9_showsAt_14 : decode cX9_showsAt 14 = .ok (.invokevirtual 110, 3) := all_d dX9_showsAt_all0 10 rfl
theorem dX9_showsAt_17 : decode cX9_showsAt 17 = .ok (.if_icmp .eq 7, 3) := all_d dX9_showsAt_all0 11 rfl
theorem dX9_showsAt_20 : decode cX9_showsAt 20 = .ok (.iconst 1, 1) := all_d dX9_showsAt_all0 12 rfl
theorem dX9_showsAt_21 : decode cX9_showsAt 21 = .ok (.goto 4, 3) := all_d dX9_showsAt_all0 13 rfl
theorem dX9_showsAt_24 : decode cX9_showsAt 24 = .ok (.iconst 0, 1) := all_d dX9_showsAt_all0 14 rfl
theorem dX9_showsAt_25 : decode cX9_showsAt 25 = .ok (.ireturn, 1) := all_d dX9_showsAt_all0 15 rfl
set_option maxRecDepth 100000 in
theorem dX9_shown_all0 : ([(0, (.aload_n 0 : Instr), 1), (1, (.iconst 0 : Instr), 1), (2, (.putfield 47 : Instr), 3), (5, (.aload_n 0 : Instr), 1), (6, (.iload_n 1 : Instr), 1), (7, (.iconst 0 : Instr), 1), (8, (.aload_n 0 : Instr), 1), (9, (.getfield 57 : Instr), 3), (12, (.iconst 1 : Instr), 1), (13, (.isub : Instr), 1), (14, (.invokevirtual 64 : Instr), 3), (17, (.ifCond .ne 9 : Instr), 3), (20, (.aload_n 0 : Instr), 1), (21, (.iconst 2 : Instr), 1), (22, (.invokevirtual 78 : Instr), 3), (25, (.ireturn : Instr), 1), (26, (.aload_n 0 : Instr), 1), (27, (.iconst 0 : Instr), 1), (28, (.putfield 51 : Instr), 3), (31, (.iconst 0 : Instr), 1), (32, (.istore_n 2 : Instr), 1), (33, (.iload_n 2 : Instr), 1), (34, (.aload_n 0 : Instr), 1), (35, (.getfield 7 : Instr), 3), (38, (.iconst 0 : Instr), 1), (39, (.iaload : Instr), 1), (40, (.if_icmp .gt 20 : Instr), 3), (43, (.aload_n 0 : Instr), 1), (44, (.iload_n 1 : Instr), 1), (45, (.iload_n 2 : Instr), 1), (46, (.invokevirtual 140 : Instr), 3), (49, (.ifCond .eq 5 : Instr), 3), (52, (.iload_n 2 : Instr), 1), (53, (.ireturn : Instr), 1), (54, (.iinc 2 1 : Instr), 3), (57, (.goto (-24) : Instr), 3), (60, (.bipush (-2) : Instr), 2), (62, (.ireturn : Instr), 1)] : List (Nat × Instr × Nat)).all (fun q => decide (decode cX9_shown q.1 = .ok (q.2.1, q.2.2))) = true := by decide +kernel
theorem dX9_shown_0 : decode cX9_shown 0 = .ok (.aload_n 0, 1) := all_d dX9_shown_all0 0 rfl
theorem dX9_shown_1 : decode cX9_shown 1 = .ok (.iconst 0, 1) := all_d dX9_shown_all0 1 rfl
theorem dX9_shown_2 : decode cX9_shown 2 = .ok (.putfield 47, 3) := all_d dX9_shown_all0 2 rfl
theorem dX9_shown_5 : decode cX9_shown 5 = .ok (.aload_n 0, 1) := all_d dX9_shown_all0 3 rfl
theorem dX9_shown_6 : decode cX9_shown 6 = .ok (.iload_n 1, 1) := all_d dX9_shown_all0 4 rfl
theorem dX9_shown_7 : decode cX9_shown 7 = .ok (.iconst 0, 1) := all_d dX9_shown_all0 5 rfl
theorem dX9_shown_8 : decode cX9_shown 8 = .ok (.aload_n 0, 1) := all_d dX9_shown_all0 6 rfl
theorem dX9_shown_9 : decode cX9_shown 9 = .ok (.getfield 57, 3) := all_d dX9_shown_all0 7 rfl
theorem dX9_shown_12 : decode cX9_shown 12 = .ok (.iconst 1, 1) := all_d dX9_shown_all0 8 rfl
theorem dX9_shown_13 : decode cX9_shown 13 = .ok (.isub, 1) := all_d dX9_shown_all0 9 rfl
theorem dX9_shown_14 : decode cX9_shown 14 = .ok (.invokevirtual 64, 3) := all_d dX9_shown_all0 10 rfl
theorem dX9_shown_17 : decode cX9_shown 17 = .ok (.ifCond .ne 9, 3) := all_d dX9_shown_all0 11 rfl
theorem dX9_shown_20 : decode cX9_shown 20 = .ok (.aload_n 0, 1) := all_d dX9_shown_all0 12 rfl
theorem dX9_shown_21 : decode cX9_shown 21 = .ok (.iconst 2, 1) := all_d dX9_shown_all0 13 rfl
theorem dX9_shown_22 : decode cX9_shown 22 = .ok (.invokevirtual 78, 3) := all_d dX9_shown_all0 14 rfl
theorem dX9_shown_25 : decode cX9_shown 25 = .ok (.ireturn, 1) := all_d dX9_shown_all0 15 rfl
theorem dX9_shown_26 : decode cX9_shown 26 = .ok (.aload_n 0, 1) := all_d dX9_shown_all0 16 rfl
theorem dX9_shown_27 : decode cX9_shown 27 = .ok (.iconst 0, 1) := all_d dX9_shown_all0 17 rfl
theorem dX9_shown_28 : decode cX9_shown 28 = .ok (.putfield 51, 3) := all_d dX9_shown_all0 18 rfl
theorem dX9_shown_31 : decode cX9_shown 31 = .ok (.iconst 0, 1) := all_d dX9_shown_all0 19 rfl
theorem dX9_shown_32 : decode cX9_shown 32 = .ok (.istore_n 2, 1) := all_d dX9_shown_all0 20 rfl
theorem dX9_shown_33 : decode cX9_shown 33 = .ok (.iload_n 2, 1) := all_d dX9_shown_all0 21 rfl
theorem dX9_shown_34 : decode cX9_shown 34 = .ok (.aload_n 0, 1) := all_d dX9_shown_all0 22 rfl
theorem dX9_shown_35 : decode cX9_shown 35 = .ok (.getfield 7, 3) := all_d dX9_shown_all0 23 rfl
theorem dX9_shown_38 : decode cX9_shown 38 = .ok (.iconst 0, 1) := all_d dX9_shown_all0 24 rfl
theorem dX9_shown_39 : decode cX9_shown 39 = .ok (.iaload, 1) := all_d dX9_shown_all0 25 rfl
theorem dX9_shown_40 : decode cX9_shown 40 = .ok (.if_icmp .gt 20, 3) := all_d dX9_shown_all0 26 rfl
theorem dX9_shown_43 : decode cX9_shown 43 = .ok (.aload_n 0, 1) := all_d dX9_shown_all0 27 rfl
theorem dX9_shown_44 : decode cX9_shown 44 = .ok (.iload_n 1, 1) := all_d dX9_shown_all0 28 rfl
theorem dX9_shown_45 : decode cX9_shown 45 = .ok (.iload_n 2, 1) := all_d dX9_shown_all0 29 rfl
theorem dX9_shown_46 : decode cX9_shown 46 = .ok (.invokevirtual 140, 3) := all_d dX9_shown_all0 30 rfl
theorem dX9_shown_49 : decode cX9_shown 49 = .ok (.ifCond .eq 5, 3) := all_d dX9_shown_all0 31 rfl
theorem dX9_shown_52 : decode cX9_shown 52 = .ok (.iload_n 2, 1) := all_d dX9_shown_all0 32 rfl
theorem dX9_shown_53 : decode cX9_shown 53 = .ok (.ireturn, 1) := all_d dX9_shown_all0 33 rfl
theorem dX9_shown_54 : decode cX9_shown 54 = .ok (.iinc 2 1, 3) := all_d dX9_shown_all0 34 rfl
theorem dX9_shown_57 : decode cX9_shown 57 = .ok (.goto (-24), 3) := all_d dX9_shown_all0 35 rfl
theorem dX9_shown_60 : decode cX9_shown 60 = .ok (.bipush (-2), 2) := all_d dX9_shown_all0 36 rfl
theorem dX9_shown_62 : decode cX9_shown 62 = .ok (.ireturn, 1) := all_d dX9_shown_all0 37 rfl
set_option maxRecDepth 100000 in
theorem dX9_bitsAt_all0 : ([(0, (.iconst 0 : Instr), 1), (1, (.istore_n 2 : Instr), 1), (2, (.iconst 0 : Instr), 1), (3, (.istore_n 3 : Instr), 1), (4, (.iload_n 3 : Instr), 1), (5, (.aload_n 0 : Instr), 1), (6, (.getfield 57 : Instr), 3), (9, (.if_icmp .ge 28 : Instr), 3), (12, (.iload_n 2 : Instr), 1), (13, (.aload_n 0 : Instr), 1), (14, (.iload_n 3 : Instr), 1), (15, (.iload_n 1 : Instr), 1), (16, (.invokevirtual 140 : Instr), 3), (19, (.ifCond .eq 9 : Instr), 3), (22, (.iconst 1 : Instr), 1), (23, (.iload_n 3 : Instr), 1), (24, (.ishl : Instr), 1), (25, (.goto 4 : Instr), 3), (28, (.iconst 0 : Instr), 1), (29, (.ior : Instr), 1), (30, (.istore_n 2 : Instr), 1), (31, (.iinc 3 1 : Instr), 3), (34, (.goto (-30) : Instr), 3), (37, (.iload_n 2 : Instr), 1), (38, (.ireturn : Instr), 1)] : List (Nat × Instr × Nat)).all (fun q => decide (decode cX9_bitsAt q.1 = .ok (q.2.1, q.2.2))) = true := by decide +kernel
theorem dX9_bitsAt_0 : decode cX9_bitsAt 0 = .ok (.iconst 0, 1) := all_d dX9_bitsAt_all0 0 rfl
theorem dX9_bitsAt_1 : decode cX9_bitsAt 1 = .ok (.istore_n 2, 1) := all_d dX9_bitsAt_all0 1 rfl
theorem dX9_bitsAt_2 : decode cX9_bitsAt 2 = .ok (.iconst 0, 1) := all_d dX9_bitsAt_all0 2 rfl
theorem dX9_bitsAt_3 : decode cX9_bitsAt 3 = .ok (.istore_n 3, 1) := all_d dX9_bitsAt_all0 3 rfl
theorem dX9_bitsAt_4 : decode cX9_bitsAt 4 = .ok (.iload_n 3, 1) := all_d dX9_bitsAt_all0 4 rfl
theorem dX9_bitsAt_5 : decode cX9_bitsAt 5 = .ok (.aload_n 0, 1) := all_d dX9_bitsAt_all0 5 rfl
theorem dX9_bitsAt_6 : decode cX9_bitsAt 6 = .ok (.getfield 57, 3) := all_d dX9_bitsAt_all0 6 rfl
theorem dX9_bitsAt_9 : decode cX9_bitsAt 9 = .ok (.if_icmp .ge 28, 3) := all_d dX9_bitsAt_all0 7 rfl
theorem dX9_bitsAt_12 : decode cX9_bitsAt 12 = .ok (.iload_n 2, 1) := all_d dX9_bitsAt_all0 8 rfl
theorem dX9_bitsAt_13 : decode cX9_bitsAt 13 = .ok (.aload_n 0, 1) := all_d dX9_bitsAt_all0 9 rfl
theorem dX9_bitsAt_14 : decode cX9_bitsAt 14 = .ok (.iload_n 3, 1) := all_d dX9_bitsAt_all0 10 rfl
theorem dX9_bitsAt_15 : decode cX9_bitsAt 15 = .ok (.iload_n 1, 1) := all_d dX9_bitsAt_all0 11 rfl
theorem dX9_bitsAt_16 : decode cX9_bitsAt 16 = .ok (.invokevirtual 140, 3) := all_d dX9_bitsAt_all0 12 rfl
theorem dX9_bitsAt_19 : decode cX9_bitsAt 19 = .ok (.ifCond .eq 9, 3) := all_d dX9_bitsAt_all0 13 rfl
theorem dX9_bitsAt_22 : decode cX9_bitsAt 22 = .ok (.iconst 1, 1) := all_d dX9_bitsAt_all0 14 rfl
theorem dX9_bitsAt_23 : decode cX9_bitsAt 23 = .ok (.iload_n 3, 1) := all_d dX9_bitsAt_all0 15 rfl
theorem dX9_bitsAt_24 : decode cX9_bitsAt 24 = .ok (.ishl, 1) := all_d dX9_bitsAt_all0 16 rfl
theorem dX9_bitsAt_25 : decode cX9_bitsAt 25 = .ok (.goto 4, 3) := all_d dX9_bitsAt_all0 17 rfl
theorem dX9_bitsAt_28 : decode cX9_bitsAt 28 = .ok (.iconst 0, 1) := all_d dX9_bitsAt_all0 18 rfl
theorem dX9_bitsAt_29 : decode cX9_bitsAt 29 = .ok (.ior, 1) := all_d dX9_bitsAt_all0 19 rfl
theorem dX9_bitsAt_30 : decode cX9_bitsAt 30 = .ok (.istore_n 2, 1) := all_d dX9_bitsAt_all0 20 rfl
theorem dX9_bitsAt_31 : decode cX9_bitsAt 31 = .ok (.iinc 3 1, 3) := all_d dX9_bitsAt_all0 21 rfl
theorem dX9_bitsAt_34 : decode cX9_bitsAt 34 = .ok (.goto (-30), 3) := all_d dX9_bitsAt_all0 22 rfl
theorem dX9_bitsAt_37 : decode cX9_bitsAt 37 = .ok (.iload_n 2, 1) := all_d dX9_bitsAt_all0 23 rfl
theorem dX9_bitsAt_38 : decode cX9_bitsAt 38 = .ok (.ireturn, 1) := all_d dX9_bitsAt_all0 24 rfl
set_option maxRecDepth 100000 in
theorem dX9_shows_all0 : ([(0, (.aload_n 0 : Instr), 1), (1, (.iconst 0 : Instr), 1), (2, (.putfield 47 : Instr), 3), (5, (.iconst 0 : Instr), 1), (6, (.istore_n 1 : Instr), 1), (7, (.iconst 0 : Instr), 1), (8, (.istore_n 2 : Instr), 1), (9, (.iload_n 2 : Instr), 1), (10, (.sipush 1024 : Instr), 3), (13, (.if_icmp .ge 32 : Instr), 3), (16, (.aload_n 0 : Instr), 1), (17, (.getfield 40 : Instr), 3), (20, (.iload_n 2 : Instr), 1), (21, (.iconst 0 : Instr), 1), (22, (.bastore : Instr), 1), (23, (.aload_n 0 : Instr), 1), (24, (.getfield 44 : Instr), 3), (27, (.iload_n 2 : Instr), 1), (28, (.iload_n 2 : Instr), 1), (29, (.ifCond .ne 7 : Instr), 3), (32, (.iconst 0 : Instr), 1), (33, (.goto 5 : Instr), 3), (36, (.bipush 100 : Instr), 2), (38, (.iastore : Instr), 1), (39, (.iinc 2 1 : Instr), 3), (42, (.goto (-33) : Instr), 3), (45, (.iconst 0 : Instr), 1), (46, (.istore_n 2 : Instr), 1), (47, (.iload_n 2 : Instr), 1), (48, (.aload_n 0 : Instr), 1), (49, (.getfield 7 : Instr), 3), (52, (.iconst 0 : Instr), 1), (53, (.iaload : Instr), 1), (54, (.if_icmp .gt 26 : Instr), 3), (57, (.aload_n 0 : Instr), 1), (58, (.iload_n 2 : Instr), 1), (59, (.invokevirtual 143 : Instr), 3), (62, (.istore_n 3 : Instr), 1), (63, (.aload_n 0 : Instr), 1), (64, (.getfield 40 : Instr), 3), (67, (.iload_n 3 : Instr), 1), (68, (.iconst 1 : Instr), 1), (69, (.bastore : Instr), 1), (70, (.iload_n 1 : Instr), 1), (71, (.iload_n 3 : Instr), 1), (72, (.ior : Instr), 1), (73, (.istore_n 1 : Instr), 1), (74, (.iinc 2 1 : Instr), 3), (77, (.goto (-30) : Instr), 3), (80, (.iconst 0 : Instr), 1), (81, (.istore_n 2 : Instr), 1), (82, (.iload_n 2 : Instr), 1), (83, (.sipush 1024 : Instr), 3), (86, (.if_icmp .ge 82 : Instr), 3), (89, (.aload_n 0 : Instr), 1), (90, (.getfield 44 : Instr), 3), (93, (.iload_n 2 : Instr), 1), (94, (.iaload : Instr), 1), (95, (.bipush 100 : Instr), 2), (97, (.if_icmp .ne 6 : Instr), 3), (100, (.goto 62 : Instr), 3), (103, (.iconst 1 : Instr), 1), (104, (.istore_n 3 : Instr), 1), (105, (.iload_n 3 : Instr), 1), (106, (.sipush 1024 : Instr), 3), (109, (.if_icmp .ge 53 : Instr), 3), (112, (.aload_n 0 : Instr), 1), (113, (.getfield 40 : Instr), 3), (116, (.iload_n 3 : Instr), 1), (117, (.baload : Instr), 1), (118, (.ifCond .eq 38 : Instr), 3), (121, (.aload_n 0 : Instr), 1), (122, (.getfield 44 : Instr), 3), (125, (.iload_n 2 : Instr), 1), (126, (.iload_n 3 : Instr), 1), (127, (.ior : Instr), 1), (128, (.iaload : Instr), 1), (129, (.aload_n 0 : Instr), 1), (130, (.getfield 44 : Instr), 3), (133, (.iload_n 2 : Instr), 1)] : List (Nat × Instr × Nat)).all (fun q => decide (decode cX9_shows q.1 = .ok (q.2.1, q.2.2))) = true := by decide +kernel
theorem dX9_shows_0 : decode cX9_shows 0 = .ok (.aload_n 0, 1) := all_d dX9_shows_all0 0 rfl
theorem dX9_shows_1 : decode cX9_shows 1 = .ok (.iconst 0, 1) := all_d dX9_shows_all0 1 rfl
theorem dX9_shows_2 : decode cX9_shows 2 = .ok (.putfield 47, 3) := all_d dX9_shows_all0 2 rfl
theorem dX9_shows_5 : decode cX9_shows 5 = .ok (.iconst 0, 1) := all_d dX9_shows_all0 3 rfl
theorem dX9_shows_6 : decode cX9_shows 6 = .ok (.istore_n 1, 1) := all_d dX9_shows_all0 4 rfl
theorem dX9_shows_7 : decode cX9_shows 7 = .ok (.iconst 0, 1) := all_d dX9_shows_all0 5 rfl
theorem dX9_shows_8 : decode cX9_shows 8 = .ok (.istore_n 2, 1) := all_d dX9_shows_all0 6 rfl
theorem dX9_shows_9 : decode cX9_shows 9 = .ok (.iload_n 2, 1) := all_d dX9_shows_all0 7 rfl
theorem dX9_shows_10 : decode cX9_shows 10 = .ok (.sipush 1024, 3) := all_d dX9_shows_all0 8 rfl
theorem dX9_shows_13 : decode cX9_shows 13 = .ok (.if_icmp .ge 32, 3) := all_d dX9_shows_all0 9 rfl
theorem dX9_shows_16 : decode cX9_shows 16 = .ok (.aload_n 0, 1) := all_d dX9_shows_all0 10 rfl
theorem dX9_shows_17 : decode cX9_shows 17 = .ok (.getfield 40, 3) := all_d dX9_shows_all0 11 rfl
theorem dX9_shows_20 : decode cX9_shows 20 = .ok (.iload_n 2, 1) := all_d dX9_shows_all0 12 rfl
theorem dX9_shows_21 : decode cX9_shows 21 = .ok (.iconst 0, 1) := all_d dX9_shows_all0 13 rfl
theorem dX9_shows_22 : decode cX9_shows 22 = .ok (.bastore, 1) := all_d dX9_shows_all0 14 rfl
theorem dX9_shows_23 : decode cX9_shows 23 = .ok (.aload_n 0, 1) := all_d dX9_shows_all0 15 rfl
theorem dX9_shows_24 : decode cX9_shows 24 = .ok (.getfield 44, 3) := all_d dX9_shows_all0 16 rfl
theorem dX9_shows_27 : decode cX9_shows 27 = .ok (.iload_n 2, 1) := all_d dX9_shows_all0 17 rfl
theorem dX9_shows_28 : decode cX9_shows 28 = .ok (.iload_n 2, 1) := all_d dX9_shows_all0 18 rfl
theorem dX9_shows_29 : decode cX9_shows 29 = .ok (.ifCond .ne 7, 3) := all_d dX9_shows_all0 19 rfl
theorem dX9_shows_32 : decode cX9_shows 32 = .ok (.iconst 0, 1) := all_d dX9_shows_all0 20 rfl
theorem dX9_shows_33 : decode cX9_shows 33 = .ok (.goto 5, 3) := all_d dX9_shows_all0 21 rfl
theorem dX9_shows_36 : decode cX9_shows 36 = .ok (.bipush 100, 2) := all_d dX9_shows_all0 22 rfl
theorem dX9_shows_38 : decode cX9_shows 38 = .ok (.iastore, 1) := all_d dX9_shows_all0 23 rfl
theorem dX9_shows_39 : decode cX9_shows 39 = .ok (.iinc 2 1, 3) := all_d dX9_shows_all0 24 rfl
theorem dX9_shows_42 : decode cX9_shows 42 = .ok (.goto (-33), 3) := all_d dX9_shows_all0 25 rfl
theorem dX9_shows_45 : decode cX9_shows 45 = .ok (.iconst 0, 1) := all_d dX9_shows_all0 26 rfl
theorem dX9_shows_46 : decode cX9_shows 46 = .ok (.istore_n 2, 1) := all_d dX9_shows_all0 27 rfl
theorem dX9_shows_47 : decode cX9_shows 47 = .ok (.iload_n 2, 1) := all_d dX9_shows_all0 28 rfl
theorem dX9_shows_48 : decode cX9_shows 48 = .ok (.aload_n 0, 1) := all_d dX9_shows_all0 29 rfl
theorem dX9_shows_49 : decode cX9_shows 49 = .ok (.getfield 7, 3) := all_d dX9_shows_all0 30 rfl
theorem dX9_shows_52 : decode cX9_shows 52 = .ok (.iconst 0, 1) := all_d dX9_shows_all0 31 rfl
theorem dX9_shows_53 : decode cX9_shows 53 = .ok (.iaload, 1) := all_d dX9_shows_all0 32 rfl
theorem dX9_shows_54 : decode cX9_shows 54 = .ok (.if_icmp .gt 26, 3) := all_d dX9_shows_all0 33 rfl
theorem dX9_shows_57 : decode cX9_shows 57 = .ok (.aload_n 0, 1) := all_d dX9_shows_all0 34 rfl
theorem dX9_shows_58 : decode cX9_shows 58 = .ok (.iload_n 2, 1) := all_d dX9_shows_all0 35 rfl
theorem dX9_shows_59 : decode cX9_shows 59 = .ok (.invokevirtual 143, 3) := all_d dX9_shows_all0 36 rfl
theorem dX9_shows_62 : decode cX9_shows 62 = .ok (.istore_n 3, 1) := all_d dX9_shows_all0 37 rfl
theorem dX9_shows_63 : decode cX9_shows 63 = .ok (.aload_n 0, 1) := all_d dX9_shows_all0 38 rfl
theorem dX9_shows_64 : decode cX9_shows 64 = .ok (.getfield 40, 3) := all_d dX9_shows_all0 39 rfl
theorem dX9_shows_67 : decode cX9_shows 67 = .ok (.iload_n 3, 1) := all_d dX9_shows_all0 40 rfl
theorem dX9_shows_68 : decode cX9_shows 68 = .ok (.iconst 1, 1) := all_d dX9_shows_all0 41 rfl
theorem dX9_shows_69 : decode cX9_shows 69 = .ok (.bastore, 1) := all_d dX9_shows_all0 42 rfl
theorem dX9_shows_70 : decode cX9_shows 70 = .ok (.iload_n 1, 1) := all_d dX9_shows_all0 43 rfl
theorem dX9_shows_71 : decode cX9_shows 71 = .ok (.iload_n 3, 1) := all_d dX9_shows_all0 44 rfl
theorem dX9_shows_72 : decode cX9_shows 72 = .ok (.ior, 1) := all_d dX9_shows_all0 45 rfl
theorem dX9_shows_73 : decode cX9_shows 73 = .ok (.istore_n 1, 1) := all_d dX9_shows_all0 46 rfl
theorem dX9_shows_74 : decode cX9_shows 74 = .ok (.iinc 2 1, 3) := all_d dX9_shows_all0 47 rfl
theorem dX9_shows_77 : decode cX9_shows 77 = .ok (.goto (-30), 3) := all_d dX9_shows_all0 48 rfl
theorem dX9_shows_80 : decode cX9_shows 80 = .ok (.iconst 0, 1) := all_d dX9_shows_all0 49 rfl
theorem dX9_shows_81 : decode cX9_shows 81 = .ok (.istore_n 2, 1) := all_d dX9_shows_all0 50 rfl
theorem dX9_shows_82 : decode cX9_shows 82 = .ok (.iload_n 2, 1) := all_d dX9_shows_all0 51 rfl
theorem dX9_shows_83 : decode cX9_shows 83 = .ok (.sipush 1024, 3) := all_d dX9_shows_all0 52 rfl
theorem dX9_shows_86 : decode cX9_shows 86 = .ok (.if_icmp .ge 82, 3) := all_d dX9_shows_all0 53 rfl
theorem dX9_shows_89 : decode cX9_shows 89 = .ok (.aload_n 0, 1) := all_d dX9_shows_all0 54 rfl
theorem dX9_shows_90 : decode cX9_shows 90 = .ok (.getfield 44, 3) := all_d dX9_shows_all0 55 rfl
theorem dX9_shows_93 : decode cX9_shows 93 = .ok (.iload_n 2, 1) := all_d dX9_shows_all0 56 rfl
theorem dX9_shows_94 : decode cX9_shows 94 = .ok (.iaload, 1) := all_d dX9_shows_all0 57 rfl
theorem dX9_shows_95 : decode cX9_shows 95 = .ok (.bipush 100, 2) := all_d dX9_shows_all0 58 rfl
theorem dX9_shows_97 : decode cX9_shows 97 = .ok (.if_icmp .ne 6, 3) := all_d dX9_shows_all0 59 rfl
theorem dX9_shows_100 : decode cX9_shows 100 = .ok (.goto 62, 3) := all_d dX9_shows_all0 60 rfl
theorem dX9_shows_103 : decode cX9_shows 103 = .ok (.iconst 1, 1) := all_d dX9_shows_all0 61 rfl
theorem dX9_shows_104 : decode cX9_shows 104 = .ok (.istore_n 3, 1) := all_d dX9_shows_all0 62 rfl
theorem dX9_shows_105 : decode cX9_shows 105 = .ok (.iload_n 3, 1) := all_d dX9_shows_all0 63 rfl
theorem dX9_shows_106 : decode cX9_shows 106 = .ok (.sipush 1024, 3) := all_d dX9_shows_all0 64 rfl
theorem dX9_shows_109 : decode cX9_shows 109 = .ok (.if_icmp .ge 53, 3) := all_d dX9_shows_all0 65 rfl
theorem dX9_shows_112 : decode cX9_shows 112 = .ok (.aload_n 0, 1) := all_d dX9_shows_all0 66 rfl
theorem dX9_shows_113 : decode cX9_shows 113 = .ok (.getfield 40, 3) := all_d dX9_shows_all0 67 rfl
theorem dX9_shows_116 : decode cX9_shows 116 = .ok (.iload_n 3, 1) := all_d dX9_shows_all0 68 rfl
theorem dX9_shows_117 : decode cX9_shows 117 = .ok (.baload, 1) := all_d dX9_shows_all0 69 rfl
theorem dX9_shows_118 : decode cX9_shows 118 = .ok (.ifCond .eq 38, 3) := all_d dX9_shows_all0 70 rfl
theorem dX9_shows_121 : decode cX9_shows 121 = .ok (.aload_n 0, 1) := all_d dX9_shows_all0 71 rfl
theorem dX9_shows_122 : decode cX9_shows 122 = .ok (.getfield 44, 3) := all_d dX9_shows_all0 72 rfl
theorem dX9_shows_125 : decode cX9_shows 125 = .ok (.iload_n 2, 1) := all_d dX9_shows_all0 73 rfl
theorem dX9_shows_126 : decode cX9_shows 126 = .ok (.iload_n 3, 1) := all_d dX9_shows_all0 74 rfl
theorem dX9_shows_127 : decode cX9_shows 127 = .ok (.ior, 1) := all_d dX9_shows_all0 75 rfl
theorem dX9_shows_128 : decode cX9_shows 128 = .ok (.iaload, 1) := all_d dX9_shows_all0 76 rfl
theorem dX9_shows_129 : decode cX9_shows 129 = .ok (.aload_n 0, 1) := all_d dX9_shows_all0 77 rfl
theorem dX9_shows_130 : decode cX9_shows 130 = .ok (.getfield 44, 3) := all_d dX9_shows_all0 78 rfl
theorem dX9_shows_133 : decode cX9_shows 133 = .ok (.iload_n 2, 1) := all_d dX9_shows_all0 79 rfl
set_option maxRecDepth 100000 in
theorem dX9_shows_all1 : ([(134, (.iaload : Instr), 1), (135, (.iconst 1 : Instr), 1), (136, (.iadd : Instr), 1), (137, (.if_icmp .le 19 : Instr), 3), (140, (.aload_n 0 : Instr), 1), (141, (.getfield 44 : Instr), 3), (144, (.iload_n 2 : Instr), 1), (145, (.iload_n 3 : Instr), 1), (146, (.ior : Instr), 1), (147, (.aload_n 0 : Instr), 1), (148, (.getfield 44 : Instr), 3), (151, (.iload_n 2 : Instr), 1), (152, (.iaload : Instr), 1), (153, (.iconst 1 : Instr), 1), (154, (.iadd : Instr), 1), (155, (.iastore : Instr), 1), (156, (.iinc 3 1 : Instr), 3), (159, (.goto (-54) : Instr), 3), (162, (.iinc 2 1 : Instr), 3), (165, (.goto (-83) : Instr), 3), (168, (.aload_n 0 : Instr), 1), (169, (.getfield 44 : Instr), 3), (172, (.iload_n 1 : Instr), 1), (173, (.iaload : Instr), 1), (174, (.ireturn : Instr), 1)] : List (Nat × Instr × Nat)).all (fun q => decide (decode cX9_shows q.1 = .ok (q.2.1, q.2.2))) = true := by decide +kernel
theorem dX9_shows_134 : decode cX9_shows 134 = .ok (.iaload, 1) := all_d dX9_shows_all1 0 rfl
theorem dX9_shows_135 : decode cX9_shows 135 = .ok (.iconst 1, 1) := all_d dX9_shows_all1 1 rfl
theorem dX9_shows_136 : decode cX9_shows 136 = .ok (.iadd, 1) := all_d dX9_shows_all1 2 rfl
theorem dX9_shows_137 : decode cX9_shows 137 = .ok (.if_icmp .le 19, 3) := all_d dX9_shows_all1 3 rfl
theorem dX9_shows_140 : decode cX9_shows 140 = .ok (.aload_n 0, 1) := all_d dX9_shows_all1 4 rfl
theorem dX9_shows_141 : decode cX9_shows 141 = .ok (.getfield 44, 3) := all_d dX9_shows_all1 5 rfl
theorem dX9_shows_144 : decode cX9_shows 144 = .ok (.iload_n 2, 1) := all_d dX9_shows_all1 6 rfl
theorem dX9_shows_145 : decode cX9_shows 145 = .ok (.iload_n 3, 1) := all_d dX9_shows_all1 7 rfl
theorem dX9_shows_146 : decode cX9_shows 146 = .ok (.ior, 1) := all_d dX9_shows_all1 8 rfl
theorem dX9_shows_147 : decode cX9_shows 147 = .ok (.aload_n 0, 1) := all_d dX9_shows_all1 9 rfl
theorem dX9_shows_148 : decode cX9_shows 148 = .ok (.getfield 44, 3) := all_d dX9_shows_all1 10 rfl
theorem dX9_shows_151 : decode cX9_shows 151 = .ok (.iload_n 2, 1) := all_d dX9_shows_all1 11 rfl
theorem dX9_shows_152 : decode cX9_shows 152 = .ok (.iaload, 1) := all_d dX9_shows_all1 12 rfl
theorem dX9_shows_153 : decode cX9_shows 153 = .ok (.iconst 1, 1) := all_d dX9_shows_all1 13 rfl
theorem dX9_shows_154 : decode cX9_shows 154 = .ok (.iadd, 1) := all_d dX9_shows_all1 14 rfl
theorem dX9_shows_155 : decode cX9_shows 155 = .ok (.iastore, 1) := all_d dX9_shows_all1 15 rfl
theorem dX9_shows_156 : decode cX9_shows 156 = .ok (.iinc 3 1, 3) := all_d dX9_shows_all1 16 rfl
theorem dX9_shows_159 : decode cX9_shows 159 = .ok (.goto (-54), 3) := all_d dX9_shows_all1 17 rfl
theorem dX9_shows_162 : decode cX9_shows 162 = .ok (.iinc 2 1, 3) := all_d dX9_shows_all1 18 rfl
theorem dX9_shows_165 : decode cX9_shows 165 = .ok (.goto (-83), 3) := all_d dX9_shows_all1 19 rfl
theorem dX9_shows_168 : decode cX9_shows 168 = .ok (.aload_n 0, 1) := all_d dX9_shows_all1 20 rfl
theorem dX9_shows_169 : decode cX9_shows 169 = .ok (.getfield 44, 3) := all_d dX9_shows_all1 21 rfl
theorem dX9_shows_172 : decode cX9_shows 172 = .ok (.iload_n 1, 1) := all_d dX9_shows_all1 22 rfl
theorem dX9_shows_173 : decode cX9_shows 173 = .ok (.iaload, 1) := all_d dX9_shows_all1 23 rfl
theorem dX9_shows_174 : decode cX9_shows 174 = .ok (.ireturn, 1) := all_d dX9_shows_all1 24 rfl
set_option maxRecDepth 100000 in
theorem dX9_showing_all0 : ([(0, (.aload_n 0 : Instr), 1), (1, (.iconst 0 : Instr), 1), (2, (.putfield 47 : Instr), 3), (5, (.aload_n 0 : Instr), 1), (6, (.iload_n 1 : Instr), 1), (7, (.invokevirtual 107 : Instr), 3), (10, (.ifCond .eq 11 : Instr), 3), (13, (.aload_n 0 : Instr), 1), (14, (.iload_n 1 : Instr), 1), (15, (.invokevirtual 143 : Instr), 3), (18, (.goto 4 : Instr), 3), (21, (.iconst (-1) : Instr), 1), (22, (.ireturn : Instr), 1)] : List (Nat × Instr × Nat)).all (fun q => decide (decode cX9_showing q.1 = .ok (q.2.1, q.2.2))) = true := by decide +kernel
theorem dX9_showing_0 : decode cX9_showing 0 = .ok (.aload_n 0, 1) := all_d dX9_showing_all0 0 rfl
theorem dX9_showing_1 : decode cX9_showing 1 = .ok (.iconst 0, 1) := all_d dX9_showing_all0 1 rfl
theorem dX9_showing_2 : decode cX9_showing 2 = .ok (.putfield 47, 3) := all_d dX9_showing_all0 2 rfl
theorem dX9_showing_5 : decode cX9_showing 5 = .ok (.aload_n 0, 1) := all_d dX9_showing_all0 3 rfl
theorem dX9_showing_6 : decode cX9_showing 6 = .ok (.iload_n 1, 1) := all_d dX9_showing_all0 4 rfl
theorem dX9_showing_7 : decode cX9_showing 7 = .ok (.invokevirtual 107, 3) := all_d dX9_showing_all0 5 rfl
theorem dX9_showing_10 : decode cX9_showing 10 = .ok (.ifCond .eq 11, 3) := all_d dX9_showing_all0 6 rfl
theorem dX9_showing_13 : decode cX9_showing 13 = .ok (.aload_n 0, 1) := all_d dX9_showing_all0 7 rfl
theorem dX9_showing_14 : decode cX9_showing 14 = .ok (.iload_n 1, 1) := all_d dX9_showing_all0 8 rfl
theorem dX9_showing_15 : decode cX9_showing 15 = .ok (.invokevirtual 143, 3) := all_d dX9_showing_all0 9 rfl
theorem dX9_showing_18 : decode cX9_showing 18 = .ok (.goto 4, 3) := all_d dX9_showing_all0 10 rfl
theorem dX9_showing_21 : decode cX9_showing 21 = .ok (.iconst (-1), 1) := all_d dX9_showing_all0 11 rfl
theorem dX9_showing_22 : decode cX9_showing 22 = .ok (.ireturn, 1) := all_d dX9_showing_all0 12 rfl
set_option maxRecDepth 100000 in
theorem dX9_alike_all0 : ([(0, (.aload_n 0 : Instr), 1), (1, (.iconst 0 : Instr), 1), (2, (.putfield 47 : Instr), 3), (5, (.iconst 0 : Instr), 1), (6, (.istore_n 1 : Instr), 1), (7, (.iconst 0 : Instr), 1), (8, (.istore_n 2 : Instr), 1), (9, (.iload_n 2 : Instr), 1), (10, (.aload_n 0 : Instr), 1), (11, (.getfield 57 : Instr), 3), (14, (.if_icmp .ge 110 : Instr), 3), (17, (.iload_n 2 : Instr), 1), (18, (.iconst 1 : Instr), 1), (19, (.iadd : Instr), 1), (20, (.istore_n 3 : Instr), 1), (21, (.iload_n 3 : Instr), 1), (22, (.aload_n 0 : Instr), 1), (23, (.getfield 57 : Instr), 3), (26, (.if_icmp .ge 92 : Instr), 3), (29, (.aload_n 0 : Instr), 1), (30, (.getfield 22 : Instr), 3), (33, (.iload_n 2 : Instr), 1), (34, (.iaload : Instr), 1), (35, (.aload_n 0 : Instr), 1), (36, (.getfield 22 : Instr), 3), (39, (.iload_n 3 : Instr), 1), (40, (.iaload : Instr), 1), (41, (.if_icmp .eq 6 : Instr), 3), (44, (.goto 68 : Instr), 3), (47, (.iconst 1 : Instr), 1), (48, (.istore 4 : Instr), 2), (50, (.iconst 0 : Instr), 1), (51, (.istore 5 : Instr), 2), (53, (.iload 5 : Instr), 2), (55, (.aload_n 0 : Instr), 1), (56, (.getfield 7 : Instr), 3), (59, (.iconst 0 : Instr), 1), (60, (.iaload : Instr), 1), (61, (.if_icmp .gt 38 : Instr), 3), (64, (.iload 4 : Instr), 2), (66, (.ifCond .eq 33 : Instr), 3), (69, (.aload_n 0 : Instr), 1), (70, (.iload_n 2 : Instr), 1), (71, (.iload 5 : Instr), 2), (73, (.invokevirtual 137 : Instr), 3), (76, (.aload_n 0 : Instr), 1), (77, (.iload_n 3 : Instr), 1), (78, (.iload 5 : Instr), 2), (80, (.invokevirtual 137 : Instr), 3), (83, (.if_icmp .ne 7 : Instr), 3), (86, (.iconst 1 : Instr), 1), (87, (.goto 4 : Instr), 3), (90, (.iconst 0 : Instr), 1), (91, (.istore 4 : Instr), 2), (93, (.iinc 5 1 : Instr), 3), (96, (.goto (-43) : Instr), 3), (99, (.iload_n 1 : Instr), 1), (100, (.iload 4 : Instr), 2), (102, (.ifCond .eq 7 : Instr), 3), (105, (.iconst 1 : Instr), 1), (106, (.goto 4 : Instr), 3), (109, (.iconst 0 : Instr), 1), (110, (.iadd : Instr), 1), (111, (.istore_n 1 : Instr), 1), (112, (.iinc 3 1 : Instr), 3), (115, (.goto (-94) : Instr), 3), (118, (.iinc 2 1 : Instr), 3), (121, (.goto (-112) : Instr), 3), (124, (.iload_n 1 : Instr), 1), (125, (.ireturn : Instr), 1)] : List (Nat × Instr × Nat)).all (fun q => decide (decode cX9_alike q.1 = .ok (q.2.1, q.2.2))) = true := by decide +kernel
theorem dX9_alike_0 : decode cX9_alike 0 = .ok (.aload_n 0, 1) := all_d dX9_alike_all0 0 rfl
theorem dX9_alike_1 : decode cX9_alike 1 = .ok (.iconst 0, 1) := all_d dX9_alike_all0 1 rfl
theorem dX9_alike_2 : decode cX9_alike 2 = .ok (.putfield 47, 3) := all_d dX9_alike_all0 2 rfl
theorem dX9_alike_5 : decode cX9_alike 5 = .ok (.iconst 0, 1) := all_d dX9_alike_all0 3 rfl
theorem dX9_alike_6 : decode cX9_alike 6 = .ok (.istore_n 1, 1) := all_d dX9_alike_all0 4 rfl
theorem dX9_alike_7 : decode cX9_alike 7 = .ok (.iconst 0, 1) := all_d dX9_alike_all0 5 rfl
theorem dX9_alike_8 : decode cX9_alike 8 = .ok (.istore_n 2, 1) := all_d dX9_alike_all0 6 rfl
theorem dX9_alike_9 : decode cX9_alike 9 = .ok (.iload_n 2, 1) := all_d dX9_alike_all0 7 rfl
theorem dX9_alike_10 : decode cX9_alike 10 = .ok (.aload_n 0, 1) := all_d dX9_alike_all0 8 rfl
theorem dX9_alike_11 : decode cX9_alike 11 = .ok (.getfield 57, 3) := all_d dX9_alike_all0 9 rfl
theorem dX9_alike_14 : decode cX9_alike 14 = .ok (.if_icmp .ge 110, 3) := all_d dX9_alike_all0 10 rfl
theorem dX9_alike_17 : decode cX9_alike 17 = .ok (.iload_n 2, 1) := all_d dX9_alike_all0 11 rfl
theorem dX9_alike_18 : decode cX9_alike 18 = .ok (.iconst 1, 1) := all_d dX9_alike_all0 12 rfl
theorem dX9_alike_19 : decode cX9_alike 19 = .ok (.iadd, 1) := all_d dX9_alike_all0 13 rfl
theorem dX9_alike_20 : decode cX9_alike 20 = .ok (.istore_n 3, 1) := all_d dX9_alike_all0 14 rfl
theorem dX9_alike_21 : decode cX9_alike 21 = .ok (.iload_n 3, 1) := all_d dX9_alike_all0 15 rfl
theorem dX9_alike_22 : decode cX9_alike 22 = .ok (.aload_n 0, 1) := all_d dX9_alike_all0 16 rfl
theorem dX9_alike_23 : decode cX9_alike 23 = .ok (.getfield 57, 3) := all_d dX9_alike_all0 17 rfl
theorem dX9_alike_26 : decode cX9_alike 26 = .ok (.if_icmp .ge 92, 3) := all_d dX9_alike_all0 18 rfl
theorem dX9_alike_29 : decode cX9_alike 29 = .ok (.aload_n 0, 1) := all_d dX9_alike_all0 19 rfl
theorem dX9_alike_30 : decode cX9_alike 30 = .ok (.getfield 22, 3) := all_d dX9_alike_all0 20 rfl
theorem dX9_alike_33 : decode cX9_alike 33 = .ok (.iload_n 2, 1) := all_d dX9_alike_all0 21 rfl
theorem dX9_alike_34 : decode cX9_alike 34 = .ok (.iaload, 1) := all_d dX9_alike_all0 22 rfl
theorem dX9_alike_35 : decode cX9_alike 35 = .ok (.aload_n 0, 1) := all_d dX9_alike_all0 23 rfl
theorem dX9_alike_36 : decode cX9_alike 36 = .ok (.getfield 22, 3) := all_d dX9_alike_all0 24 rfl
theorem dX9_alike_39 : decode cX9_alike 39 = .ok (.iload_n 3, 1) := all_d dX9_alike_all0 25 rfl
theorem dX9_alike_40 : decode cX9_alike 40 = .ok (.iaload, 1) := all_d dX9_alike_all0 26 rfl
theorem dX9_alike_41 : decode cX9_alike 41 = .ok (.if_icmp .eq 6, 3) := all_d dX9_alike_all0 27 rfl
theorem dX9_alike_44 : decode cX9_alike 44 = .ok (.goto 68, 3) := all_d dX9_alike_all0 28 rfl
theorem dX9_alike_47 : decode cX9_alike 47 = .ok (.iconst 1, 1) := all_d dX9_alike_all0 29 rfl
theorem dX9_alike_48 : decode cX9_alike 48 = .ok (.istore 4, 2) := all_d dX9_alike_all0 30 rfl
theorem dX9_alike_50 : decode cX9_alike 50 = .ok (.iconst 0, 1) := all_d dX9_alike_all0 31 rfl
theorem dX9_alike_51 : decode cX9_alike 51 = .ok (.istore 5, 2) := all_d dX9_alike_all0 32 rfl
theorem dX9_alike_53 : decode cX9_alike 53 = .ok (.iload 5, 2) := all_d dX9_alike_all0 33 rfl
theorem dX9_alike_55 : decode cX9_alike 55 = .ok (.aload_n 0, 1) := all_d dX9_alike_all0 34 rfl
theorem dX9_alike_56 : decode cX9_alike 56 = .ok (.getfield 7, 3) := all_d dX9_alike_all0 35 rfl
theorem dX9_alike_59 : decode cX9_alike 59 = .ok (.iconst 0, 1) := all_d dX9_alike_all0 36 rfl
theorem dX9_alike_60 : decode cX9_alike 60 = .ok (.iaload, 1) := all_d dX9_alike_all0 37 rfl
theorem dX9_alike_61 : decode cX9_alike 61 = .ok (.if_icmp .gt 38, 3) := all_d dX9_alike_all0 38 rfl
theorem dX9_alike_64 : decode cX9_alike 64 = .ok (.iload 4, 2) := all_d dX9_alike_all0 39 rfl
theorem dX9_alike_66 : decode cX9_alike 66 = .ok (.ifCond .eq 33, 3) := all_d dX9_alike_all0 40 rfl
theorem dX9_alike_69 : decode cX9_alike 69 = .ok (.aload_n 0, 1) := all_d dX9_alike_all0 41 rfl
theorem dX9_alike_70 : decode cX9_alike 70 = .ok (.iload_n 2, 1) := all_d dX9_alike_all0 42 rfl
theorem dX9_alike_71 : decode cX9_alike 71 = .ok (.iload 5, 2) := all_d dX9_alike_all0 43 rfl
theorem dX9_alike_73 : decode cX9_alike 73 = .ok (.invokevirtual 137, 3) := all_d dX9_alike_all0 44 rfl
theorem dX9_alike_76 : decode cX9_alike 76 = .ok (.aload_n 0, 1) := all_d dX9_alike_all0 45 rfl
theorem dX9_alike_77 : decode cX9_alike 77 = .ok (.iload_n 3, 1) := all_d dX9_alike_all0 46 rfl
theorem dX9_alike_78 : decode cX9_alike 78 = .ok (.iload 5, 2) := all_d dX9_alike_all0 47 rfl
theorem dX9_alike_80 : decode cX9_alike 80 = .ok (.invokevirtual 137, 3) := all_d dX9_alike_all0 48 rfl
theorem dX9_alike_83 : decode cX9_alike 83 = .ok (.if_icmp .ne 7, 3) := all_d dX9_alike_all0 49 rfl
theorem dX9_alike_86 : decode cX9_alike 86 = .ok (.iconst 1, 1) := all_d dX9_alike_all0 50 rfl
theorem dX9_alike_87 : decode cX9_alike 87 = .ok (.goto 4, 3) := all_d dX9_alike_all0 51 rfl
theorem dX9_alike_90 : decode cX9_alike 90 = .ok (.iconst 0, 1) := all_d dX9_alike_all0 52 rfl
theorem dX9_alike_91 : decode cX9_alike 91 = .ok (.istore 4, 2) := all_d dX9_alike_all0 53 rfl
theorem dX9_alike_93 : decode cX9_alike 93 = .ok (.iinc 5 1, 3) := all_d dX9_alike_all0 54 rfl
theorem dX9_alike_96 : decode cX9_alike 96 = .ok (.goto (-43), 3) := all_d dX9_alike_all0 55 rfl
theorem dX9_alike_99 : decode cX9_alike 99 = .ok (.iload_n 1, 1) := all_d dX9_alike_all0 56 rfl
theorem dX9_alike_100 : decode cX9_alike 100 = .ok (.iload 4, 2) := all_d dX9_alike_all0 57 rfl
theorem dX9_alike_102 : decode cX9_alike 102 = .ok (.ifCond .eq 7, 3) := all_d dX9_alike_all0 58 rfl
theorem dX9_alike_105 : decode cX9_alike 105 = .ok (.iconst 1, 1) := all_d dX9_alike_all0 59 rfl
theorem dX9_alike_106 : decode cX9_alike 106 = .ok (.goto 4, 3) := all_d dX9_alike_all0 60 rfl
theorem dX9_alike_109 : decode cX9_alike 109 = .ok (.iconst 0, 1) := all_d dX9_alike_all0 61 rfl
theorem dX9_alike_110 : decode cX9_alike 110 = .ok (.iadd, 1) := all_d dX9_alike_all0 62 rfl
theorem dX9_alike_111 : decode cX9_alike 111 = .ok (.istore_n 1, 1) := all_d dX9_alike_all0 63 rfl
theorem dX9_alike_112 : decode cX9_alike 112 = .ok (.iinc 3 1, 3) := all_d dX9_alike_all0 64 rfl
theorem dX9_alike_115 : decode cX9_alike 115 = .ok (.goto (-94), 3) := all_d dX9_alike_all0 65 rfl
theorem dX9_alike_118 : decode cX9_alike 118 = .ok (.iinc 2 1, 3) := all_d dX9_alike_all0 66 rfl
theorem dX9_alike_121 : decode cX9_alike 121 = .ok (.goto (-112), 3) := all_d dX9_alike_all0 67 rfl
theorem dX9_alike_124 : decode cX9_alike 124 = .ok (.iload_n 1, 1) := all_d dX9_alike_all0 68 rfl
theorem dX9_alike_125 : decode cX9_alike 125 = .ok (.ireturn, 1) := all_d dX9_alike_all0 69 rfl
set_option maxRecDepth 100000 in
theorem dX9_beyond_all0 : ([(0, (.aload_n 0 : Instr), 1), (1, (.iconst 0 : Instr), 1), (2, (.putfield 47 : Instr), 3), (5, (.aload_n 0 : Instr), 1), (6, (.iload_n 1 : Instr), 1), (7, (.invokevirtual 68 : Instr), 3), (10, (.ifCond .ne 9 : Instr), 3), (13, (.aload_n 0 : Instr), 1), (14, (.iconst 2 : Instr), 1), (15, (.invokevirtual 78 : Instr), 3), (18, (.ireturn : Instr), 1), (19, (.aload_n 0 : Instr), 1), (20, (.iconst 0 : Instr), 1), (21, (.putfield 51 : Instr), 3), (24, (.iconst 0 : Instr), 1), (25, (.istore_n 2 : Instr), 1), (26, (.iload_n 2 : Instr), 1), (27, (.aload_n 0 : Instr), 1), (28, (.getfield 7 : Instr), 3), (31, (.iconst 0 : Instr), 1), (32, (.iaload : Instr), 1), (33, (.if_icmp .gt 28 : Instr), 3), (36, (.aload_n 0 : Instr), 1), (37, (.iload_n 1 : Instr), 1), (38, (.iload_n 2 : Instr), 1), (39, (.invokevirtual 103 : Instr), 3), (42, (.aload_n 0 : Instr), 1), (43, (.aload_n 0 : Instr), 1), (44, (.getfield 97 : Instr), 3), (47, (.invokevirtual 107 : Instr), 3), (50, (.ifCond .ne 5 : Instr), 3), (53, (.iload_n 2 : Instr), 1), (54, (.ireturn : Instr), 1), (55, (.iinc 2 1 : Instr), 3), (58, (.goto (-32) : Instr), 3), (61, (.bipush (-2) : Instr), 2), (63, (.ireturn : Instr), 1)] : List (Nat × Instr × Nat)).all (fun q => decide (decode cX9_beyond q.1 = .ok (q.2.1, q.2.2))) = true := by decide +kernel
theorem dX9_beyond_0 : decode cX9_beyond 0 = .ok (.aload_n 0, 1) := all_d dX9_beyond_all0 0 rfl
theorem dX9_beyond_1 : decode cX9_beyond 1 = .ok (.iconst 0, 1) := all_d dX9_beyond_all0 1 rfl
theorem dX9_beyond_2 : decode cX9_beyond 2 = .ok (.putfield 47, 3) := all_d dX9_beyond_all0 2 rfl
theorem dX9_beyond_5 : decode cX9_beyond 5 = .ok (.aload_n 0, 1) := all_d dX9_beyond_all0 3 rfl
theorem dX9_beyond_6 : decode cX9_beyond 6 = .ok (.iload_n 1, 1) := all_d dX9_beyond_all0 4 rfl
theorem dX9_beyond_7 : decode cX9_beyond 7 = .ok (.invokevirtual 68, 3) := all_d dX9_beyond_all0 5 rfl
theorem dX9_beyond_10 : decode cX9_beyond 10 = .ok (.ifCond .ne 9, 3) := all_d dX9_beyond_all0 6 rfl
theorem dX9_beyond_13 : decode cX9_beyond 13 = .ok (.aload_n 0, 1) := all_d dX9_beyond_all0 7 rfl
theorem dX9_beyond_14 : decode cX9_beyond 14 = .ok (.iconst 2, 1) := all_d dX9_beyond_all0 8 rfl
theorem dX9_beyond_15 : decode cX9_beyond 15 = .ok (.invokevirtual 78, 3) := all_d dX9_beyond_all0 9 rfl
theorem dX9_beyond_18 : decode cX9_beyond 18 = .ok (.ireturn, 1) := all_d dX9_beyond_all0 10 rfl
theorem dX9_beyond_19 : decode cX9_beyond 19 = .ok (.aload_n 0, 1) := all_d dX9_beyond_all0 11 rfl
theorem dX9_beyond_20 : decode cX9_beyond 20 = .ok (.iconst 0, 1) := all_d dX9_beyond_all0 12 rfl
theorem dX9_beyond_21 : decode cX9_beyond 21 = .ok (.putfield 51, 3) := all_d dX9_beyond_all0 13 rfl
theorem dX9_beyond_24 : decode cX9_beyond 24 = .ok (.iconst 0, 1) := all_d dX9_beyond_all0 14 rfl
theorem dX9_beyond_25 : decode cX9_beyond 25 = .ok (.istore_n 2, 1) := all_d dX9_beyond_all0 15 rfl
theorem dX9_beyond_26 : decode cX9_beyond 26 = .ok (.iload_n 2, 1) := all_d dX9_beyond_all0 16 rfl
theorem dX9_beyond_27 : decode cX9_beyond 27 = .ok (.aload_n 0, 1) := all_d dX9_beyond_all0 17 rfl
theorem dX9_beyond_28 : decode cX9_beyond 28 = .ok (.getfield 7, 3) := all_d dX9_beyond_all0 18 rfl
theorem dX9_beyond_31 : decode cX9_beyond 31 = .ok (.iconst 0, 1) := all_d dX9_beyond_all0 19 rfl
theorem dX9_beyond_32 : decode cX9_beyond 32 = .ok (.iaload, 1) := all_d dX9_beyond_all0 20 rfl
theorem dX9_beyond_33 : decode cX9_beyond 33 = .ok (.if_icmp .gt 28, 3) := all_d dX9_beyond_all0 21 rfl
theorem dX9_beyond_36 : decode cX9_beyond 36 = .ok (.aload_n 0, 1) := all_d dX9_beyond_all0 22 rfl
theorem dX9_beyond_37 : decode cX9_beyond 37 = .ok (.iload_n 1, 1) := all_d dX9_beyond_all0 23 rfl
theorem dX9_beyond_38 : decode cX9_beyond 38 = .ok (.iload_n 2, 1) := all_d dX9_beyond_all0 24 rfl
theorem dX9_beyond_39 : decode cX9_beyond 39 = .ok (.invokevirtual 103, 3) := all_d dX9_beyond_all0 25 rfl
theorem dX9_beyond_42 : decode cX9_beyond 42 = .ok (.aload_n 0, 1) := all_d dX9_beyond_all0 26 rfl
theorem dX9_beyond_43 : decode cX9_beyond 43 = .ok (.aload_n 0, 1) := all_d dX9_beyond_all0 27 rfl
theorem dX9_beyond_44 : decode cX9_beyond 44 = .ok (.getfield 97, 3) := all_d dX9_beyond_all0 28 rfl
theorem dX9_beyond_47 : decode cX9_beyond 47 = .ok (.invokevirtual 107, 3) := all_d dX9_beyond_all0 29 rfl
theorem dX9_beyond_50 : decode cX9_beyond 50 = .ok (.ifCond .ne 5, 3) := all_d dX9_beyond_all0 30 rfl
theorem dX9_beyond_53 : decode cX9_beyond 53 = .ok (.iload_n 2, 1) := all_d dX9_beyond_all0 31 rfl
theorem dX9_beyond_54 : decode cX9_beyond 54 = .ok (.ireturn, 1) := all_d dX9_beyond_all0 32 rfl
theorem dX9_beyond_55 : decode cX9_beyond 55 = .ok (.iinc 2 1, 3) := all_d dX9_beyond_all0 33 rfl
theorem dX9_beyond_58 : decode cX9_beyond 58 = .ok (.goto (-32), 3) := all_d dX9_beyond_all0 34 rfl
theorem dX9_beyond_61 : decode cX9_beyond 61 = .ok (.bipush (-2), 2) := all_d dX9_beyond_all0 35 rfl
theorem dX9_beyond_63 : decode cX9_beyond 63 = .ok (.ireturn, 1) := all_d dX9_beyond_all0 36 rfl
set_option maxRecDepth 100000 in
theorem dX9_joined_all0 : ([(0, (.aload_n 0 : Instr), 1), (1, (.iconst 0 : Instr), 1), (2, (.putfield 47 : Instr), 3), (5, (.aload_n 0 : Instr), 1), (6, (.iload_n 1 : Instr), 1), (7, (.invokevirtual 68 : Instr), 3), (10, (.ifCond .eq 20 : Instr), 3), (13, (.aload_n 0 : Instr), 1), (14, (.iload_n 2 : Instr), 1), (15, (.invokevirtual 68 : Instr), 3), (18, (.ifCond .eq 12 : Instr), 3), (21, (.aload_n 0 : Instr), 1), (22, (.iload 4 : Instr), 2), (24, (.invokevirtual 107 : Instr), 3), (27, (.ifCond .ne 11 : Instr), 3), (30, (.aload_n 0 : Instr), 1), (31, (.iconst 2 : Instr), 1), (32, (.putfield 51 : Instr), 3), (35, (.ldc 113 : Instr), 2), (37, (.ireturn : Instr), 1), (38, (.aload_n 0 : Instr), 1), (39, (.iload_n 1 : Instr), 1), (40, (.iload 4 : Instr), 2), (42, (.invokevirtual 103 : Instr), 3), (45, (.aload_n 0 : Instr), 1), (46, (.getfield 91 : Instr), 3), (49, (.istore 5 : Instr), 2), (51, (.aload_n 0 : Instr), 1), (52, (.getfield 97 : Instr), 3), (55, (.istore 6 : Instr), 2), (57, (.aload_n 0 : Instr), 1), (58, (.iload_n 3 : Instr), 1), (59, (.sipush (-1000) : Instr), 3), (62, (.sipush 1000 : Instr), 3), (65, (.invokevirtual 64 : Instr), 3), (68, (.ifCond .eq 12 : Instr), 3), (71, (.aload_n 0 : Instr), 1), (72, (.iload 6 : Instr), 2), (74, (.invokevirtual 107 : Instr), 3), (77, (.ifCond .ne 11 : Instr), 3), (80, (.aload_n 0 : Instr), 1), (81, (.iconst 1 : Instr), 1), (82, (.putfield 51 : Instr), 3), (85, (.ldc 113 : Instr), 2), (87, (.ireturn : Instr), 1), (88, (.aload_n 0 : Instr), 1), (89, (.iconst 0 : Instr), 1), (90, (.putfield 51 : Instr), 3), (93, (.iload 5 : Instr), 2), (95, (.iload_n 3 : Instr), 1), (96, (.imul : Instr), 1), (97, (.aload_n 0 : Instr), 1), (98, (.iload_n 2 : Instr), 1), (99, (.iload 6 : Instr), 2), (101, (.invokevirtual 110 : Instr), 3), (104, (.iadd : Instr), 1), (105, (.ireturn : Instr), 1)] : List (Nat × Instr × Nat)).all (fun q => decide (decode cX9_joined q.1 = .ok (q.2.1, q.2.2))) = true := by decide +kernel
theorem dX9_joined_0 : decode cX9_joined 0 = .ok (.aload_n 0, 1) := all_d dX9_joined_all0 0 rfl
theorem dX9_joined_1 : decode cX9_joined 1 = .ok (.iconst 0, 1) := all_d dX9_joined_all0 1 rfl
theorem dX9_joined_2 : decode cX9_joined 2 = .ok (.putfield 47, 3) := all_d dX9_joined_all0 2 rfl
theorem dX9_joined_5 : decode cX9_joined 5 = .ok (.aload_n 0, 1) := all_d dX9_joined_all0 3 rfl
theorem dX9_joined_6 : decode cX9_joined 6 = .ok (.iload_n 1, 1) := all_d dX9_joined_all0 4 rfl
theorem dX9_joined_7 : decode cX9_joined 7 = .ok (.invokevirtual 68, 3) := all_d dX9_joined_all0 5 rfl
theorem dX9_joined_10 : decode cX9_joined 10 = .ok (.ifCond .eq 20, 3) := all_d dX9_joined_all0 6 rfl
theorem dX9_joined_13 : decode cX9_joined 13 = .ok (.aload_n 0, 1) := all_d dX9_joined_all0 7 rfl
theorem dX9_joined_14 : decode cX9_joined 14 = .ok (.iload_n 2, 1) := all_d dX9_joined_all0 8 rfl
theorem dX9_joined_15 : decode cX9_joined 15 = .ok (.invokevirtual 68, 3) := all_d dX9_joined_all0 9 rfl
theorem dX9_joined_18 : decode cX9_joined 18 = .ok (.ifCond .eq 12, 3) := all_d dX9_joined_all0 10 rfl
theorem dX9_joined_21 : decode cX9_joined 21 = .ok (.aload_n 0, 1) := all_d dX9_joined_all0 11 rfl
theorem dX9_joined_22 : decode cX9_joined 22 = .ok (.iload 4, 2) := all_d dX9_joined_all0 12 rfl
theorem dX9_joined_24 : decode cX9_joined 24 = .ok (.invokevirtual 107, 3) := all_d dX9_joined_all0 13 rfl
theorem dX9_joined_27 : decode cX9_joined 27 = .ok (.ifCond .ne 11, 3) := all_d dX9_joined_all0 14 rfl
theorem dX9_joined_30 : decode cX9_joined 30 = .ok (.aload_n 0, 1) := all_d dX9_joined_all0 15 rfl
theorem dX9_joined_31 : decode cX9_joined 31 = .ok (.iconst 2, 1) := all_d dX9_joined_all0 16 rfl
theorem dX9_joined_32 : decode cX9_joined 32 = .ok (.putfield 51, 3) := all_d dX9_joined_all0 17 rfl
theorem dX9_joined_35 : decode cX9_joined 35 = .ok (.ldc 113, 2) := all_d dX9_joined_all0 18 rfl
theorem dX9_joined_37 : decode cX9_joined 37 = .ok (.ireturn, 1) := all_d dX9_joined_all0 19 rfl
theorem dX9_joined_38 : decode cX9_joined 38 = .ok (.aload_n 0, 1) := all_d dX9_joined_all0 20 rfl
theorem dX9_joined_39 : decode cX9_joined 39 = .ok (.iload_n 1, 1) := all_d dX9_joined_all0 21 rfl
theorem dX9_joined_40 : decode cX9_joined 40 = .ok (.iload 4, 2) := all_d dX9_joined_all0 22 rfl
theorem dX9_joined_42 : decode cX9_joined 42 = .ok (.invokevirtual 103, 3) := all_d dX9_joined_all0 23 rfl
theorem dX9_joined_45 : decode cX9_joined 45 = .ok (.aload_n 0, 1) := all_d dX9_joined_all0 24 rfl
theorem dX9_joined_46 : decode cX9_joined 46 = .ok (.getfield 91, 3) := all_d dX9_joined_all0 25 rfl
theorem dX9_joined_49 : decode cX9_joined 49 = .ok (.istore 5, 2) := all_d dX9_joined_all0 26 rfl
theorem dX9_joined_51 : decode cX9_joined 51 = .ok (.aload_n 0, 1) := all_d dX9_joined_all0 27 rfl
theorem dX9_joined_52 : decode cX9_joined 52 = .ok (.getfield 97, 3) := all_d dX9_joined_all0 28 rfl
theorem dX9_joined_55 : decode cX9_joined 55 = .ok (.istore 6, 2) := all_d dX9_joined_all0 29 rfl
theorem dX9_joined_57 : decode cX9_joined 57 = .ok (.aload_n 0, 1) := all_d dX9_joined_all0 30 rfl
theorem dX9_joined_58 : decode cX9_joined 58 = .ok (.iload_n 3, 1) := all_d dX9_joined_all0 31 rfl
theorem dX9_joined_59 : decode cX9_joined 59 = .ok (.sipush (-1000), 3) := all_d dX9_joined_all0 32 rfl
theorem dX9_joined_62 : decode cX9_joined 62 = .ok (.sipush 1000, 3) := all_d dX9_joined_all0 33 rfl
theorem dX9_joined_65 : decode cX9_joined 65 = .ok (.invokevirtual 64, 3) := all_d dX9_joined_all0 34 rfl
theorem dX9_joined_68 : decode cX9_joined 68 = .ok (.ifCond .eq 12, 3) := all_d dX9_joined_all0 35 rfl
theorem dX9_joined_71 : decode cX9_joined 71 = .ok (.aload_n 0, 1) := all_d dX9_joined_all0 36 rfl
theorem dX9_joined_72 : decode cX9_joined 72 = .ok (.iload 6, 2) := all_d dX9_joined_all0 37 rfl
theorem dX9_joined_74 : decode cX9_joined 74 = .ok (.invokevirtual 107, 3) := all_d dX9_joined_all0 38 rfl
theorem dX9_joined_77 : decode cX9_joined 77 = .ok (.ifCond .ne 11, 3) := all_d dX9_joined_all0 39 rfl
theorem dX9_joined_80 : decode cX9_joined 80 = .ok (.aload_n 0, 1) := all_d dX9_joined_all0 40 rfl
theorem dX9_joined_81 : decode cX9_joined 81 = .ok (.iconst 1, 1) := all_d dX9_joined_all0 41 rfl
theorem dX9_joined_82 : decode cX9_joined 82 = .ok (.putfield 51, 3) := all_d dX9_joined_all0 42 rfl
theorem dX9_joined_85 : decode cX9_joined 85 = .ok (.ldc 113, 2) := all_d dX9_joined_all0 43 rfl
theorem dX9_joined_87 : decode cX9_joined 87 = .ok (.ireturn, 1) := all_d dX9_joined_all0 44 rfl
theorem dX9_joined_88 : decode cX9_joined 88 = .ok (.aload_n 0, 1) := all_d dX9_joined_all0 45 rfl
theorem dX9_joined_89 : decode cX9_joined 89 = .ok (.iconst 0, 1) := all_d dX9_joined_all0 46 rfl
theorem dX9_joined_90 : decode cX9_joined 90 = .ok (.putfield 51, 3) := all_d dX9_joined_all0 47 rfl
theorem dX9_joined_93 : decode cX9_joined 93 = .ok (.iload 5, 2) := all_d dX9_joined_all0 48 rfl
theorem dX9_joined_95 : decode cX9_joined 95 = .ok (.iload_n 3, 1) := all_d dX9_joined_all0 49 rfl
theorem dX9_joined_96 : decode cX9_joined 96 = .ok (.imul, 1) := all_d dX9_joined_all0 50 rfl
theorem dX9_joined_97 : decode cX9_joined 97 = .ok (.aload_n 0, 1) := all_d dX9_joined_all0 51 rfl
theorem dX9_joined_98 : decode cX9_joined 98 = .ok (.iload_n 2, 1) := all_d dX9_joined_all0 52 rfl
theorem dX9_joined_99 : decode cX9_joined 99 = .ok (.iload 6, 2) := all_d dX9_joined_all0 53 rfl
theorem dX9_joined_101 : decode cX9_joined 101 = .ok (.invokevirtual 110, 3) := all_d dX9_joined_all0 54 rfl
theorem dX9_joined_104 : decode cX9_joined 104 = .ok (.iadd, 1) := all_d dX9_joined_all0 55 rfl
theorem dX9_joined_105 : decode cX9_joined 105 = .ok (.ireturn, 1) := all_d dX9_joined_all0 56 rfl
set_option maxRecDepth 100000 in
theorem dX9_size_all0 : ([(0, (.aload_n 0 : Instr), 1), (1, (.iconst 0 : Instr), 1), (2, (.putfield 47 : Instr), 3), (5, (.iload_n 1 : Instr), 1), (6, (.ifCond .ne 12 : Instr), 3), (9, (.aload_n 0 : Instr), 1), (10, (.getfield 7 : Instr), 3), (13, (.iconst 0 : Instr), 1), (14, (.iaload : Instr), 1), (15, (.goto 54 : Instr), 3), (18, (.iload_n 1 : Instr), 1), (19, (.iconst 1 : Instr), 1), (20, (.if_icmp .ne 12 : Instr), 3), (23, (.aload_n 0 : Instr), 1), (24, (.getfield 7 : Instr), 3), (27, (.iconst 1 : Instr), 1), (28, (.iaload : Instr), 1), (29, (.goto 40 : Instr), 3), (32, (.iload_n 1 : Instr), 1), (33, (.iconst 2 : Instr), 1), (34, (.if_icmp .ne 10 : Instr), 3), (37, (.aload_n 0 : Instr), 1), (38, (.getfield 131 : Instr), 3), (41, (.goto 28 : Instr), 3), (44, (.iload_n 1 : Instr), 1), (45, (.iconst 3 : Instr), 1), (46, (.if_icmp .ne 10 : Instr), 3), (49, (.aload_n 0 : Instr), 1), (50, (.getfield 57 : Instr), 3), (53, (.goto 16 : Instr), 3), (56, (.iload_n 1 : Instr), 1), (57, (.iconst 4 : Instr), 1), (58, (.if_icmp .ne 10 : Instr), 3), (61, (.aload_n 0 : Instr), 1), (62, (.getfield 54 : Instr), 3), (65, (.goto 4 : Instr), 3), (68, (.iconst (-1) : Instr), 1), (69, (.ireturn : Instr), 1)] : List (Nat × Instr × Nat)).all (fun q => decide (decode cX9_size q.1 = .ok (q.2.1, q.2.2))) = true := by decide +kernel
theorem dX9_size_0 : decode cX9_size 0 = .ok (.aload_n 0, 1) := all_d dX9_size_all0 0 rfl
theorem dX9_size_1 : decode cX9_size 1 = .ok (.iconst 0, 1) := all_d dX9_size_all0 1 rfl
theorem dX9_size_2 : decode cX9_size 2 = .ok (.putfield 47, 3) := all_d dX9_size_all0 2 rfl
theorem dX9_size_5 : decode cX9_size 5 = .ok (.iload_n 1, 1) := all_d dX9_size_all0 3 rfl
theorem dX9_size_6 : decode cX9_size 6 = .ok (.ifCond .ne 12, 3) := all_d dX9_size_all0 4 rfl
theorem dX9_size_9 : decode cX9_size 9 = .ok (.aload_n 0, 1) := all_d dX9_size_all0 5 rfl
theorem dX9_size_10 : decode cX9_size 10 = .ok (.getfield 7, 3) := all_d dX9_size_all0 6 rfl
theorem dX9_size_13 : decode cX9_size 13 = .ok (.iconst 0, 1) := all_d dX9_size_all0 7 rfl
theorem dX9_size_14 : decode cX9_size 14 = .ok (.iaload, 1) := all_d dX9_size_all0 8 rfl
theorem dX9_size_15 : decode cX9_size 15 = .ok (.goto 54, 3) := all_d dX9_size_all0 9 rfl
theorem dX9_size_18 : decode cX9_size 18 = .ok (.iload_n 1, 1) := all_d dX9_size_all0 10 rfl
theorem dX9_size_19 : decode cX9_size 19 = .ok (.iconst 1, 1) := all_d dX9_size_all0 11 rfl
theorem dX9_size_20 : decode cX9_size 20 = .ok (.if_icmp .ne 12, 3) := all_d dX9_size_all0 12 rfl
theorem dX9_size_23 : decode cX9_size 23 = .ok (.aload_n 0, 1) := all_d dX9_size_all0 13 rfl
theorem dX9_size_24 : decode cX9_size 24 = .ok (.getfield 7, 3) := all_d dX9_size_all0 14 rfl
theorem dX9_size_27 : decode cX9_size 27 = .ok (.iconst 1, 1) := all_d dX9_size_all0 15 rfl
theorem dX9_size_28 : decode cX9_size 28 = .ok (.iaload, 1) := all_d dX9_size_all0 16 rfl
theorem dX9_size_29 : decode cX9_size 29 = .ok (.goto 40, 3) := all_d dX9_size_all0 17 rfl
theorem dX9_size_32 : decode cX9_size 32 = .ok (.iload_n 1, 1) := all_d dX9_size_all0 18 rfl
theorem dX9_size_33 : decode cX9_size 33 = .ok (.iconst 2, 1) := all_d dX9_size_all0 19 rfl
theorem dX9_size_34 : decode cX9_size 34 = .ok (.if_icmp .ne 10, 3) := all_d dX9_size_all0 20 rfl
theorem dX9_size_37 : decode cX9_size 37 = .ok (.aload_n 0, 1) := all_d dX9_size_all0 21 rfl
theorem dX9_size_38 : decode cX9_size 38 = .ok (.getfield 131, 3) := all_d dX9_size_all0 22 rfl
theorem dX9_size_41 : decode cX9_size 41 = .ok (.goto 28, 3) := all_d dX9_size_all0 23 rfl
theorem dX9_size_44 : decode cX9_size 44 = .ok (.iload_n 1, 1) := all_d dX9_size_all0 24 rfl
theorem dX9_size_45 : decode cX9_size 45 = .ok (.iconst 3, 1) := all_d dX9_size_all0 25 rfl
theorem dX9_size_46 : decode cX9_size 46 = .ok (.if_icmp .ne 10, 3) := all_d dX9_size_all0 26 rfl
theorem dX9_size_49 : decode cX9_size 49 = .ok (.aload_n 0, 1) := all_d dX9_size_all0 27 rfl
theorem dX9_size_50 : decode cX9_size 50 = .ok (.getfield 57, 3) := all_d dX9_size_all0 28 rfl
theorem dX9_size_53 : decode cX9_size 53 = .ok (.goto 16, 3) := all_d dX9_size_all0 29 rfl
theorem dX9_size_56 : decode cX9_size 56 = .ok (.iload_n 1, 1) := all_d dX9_size_all0 30 rfl
theorem dX9_size_57 : decode cX9_size 57 = .ok (.iconst 4, 1) := all_d dX9_size_all0 31 rfl
theorem dX9_size_58 : decode cX9_size 58 = .ok (.if_icmp .ne 10, 3) := all_d dX9_size_all0 32 rfl
theorem dX9_size_61 : decode cX9_size 61 = .ok (.aload_n 0, 1) := all_d dX9_size_all0 33 rfl
theorem dX9_size_62 : decode cX9_size 62 = .ok (.getfield 54, 3) := all_d dX9_size_all0 34 rfl
theorem dX9_size_65 : decode cX9_size 65 = .ok (.goto 4, 3) := all_d dX9_size_all0 35 rfl
theorem dX9_size_68 : decode cX9_size 68 = .ok (.iconst (-1), 1) := all_d dX9_size_all0 36 rfl
theorem dX9_size_69 : decode cX9_size 69 = .ok (.ireturn, 1) := all_d dX9_size_all0 37 rfl
set_option maxRecDepth 100000 in
theorem dX9_trouble_all0 : ([(0, (.aload_n 0 : Instr), 1), (1, (.iconst 0 : Instr), 1), (2, (.putfield 47 : Instr), 3), (5, (.aload_n 0 : Instr), 1), (6, (.getfield 51 : Instr), 3), (9, (.ireturn : Instr), 1)] : List (Nat × Instr × Nat)).all (fun q => decide (decode cX9_trouble q.1 = .ok (q.2.1, q.2.2))) = true := by decide +kernel
theorem dX9_trouble_0 : decode cX9_trouble 0 = .ok (.aload_n 0, 1) := all_d dX9_trouble_all0 0 rfl
theorem dX9_trouble_1 : decode cX9_trouble 1 = .ok (.iconst 0, 1) := all_d dX9_trouble_all0 1 rfl
theorem dX9_trouble_2 : decode cX9_trouble 2 = .ok (.putfield 47, 3) := all_d dX9_trouble_all0 2 rfl
theorem dX9_trouble_5 : decode cX9_trouble 5 = .ok (.aload_n 0, 1) := all_d dX9_trouble_all0 3 rfl
theorem dX9_trouble_6 : decode cX9_trouble 6 = .ok (.getfield 51, 3) := all_d dX9_trouble_all0 4 rfl
theorem dX9_trouble_9 : decode cX9_trouble 9 = .ok (.ireturn, 1) := all_d dX9_trouble_all0 5 rfl
end
section
set_option maxRecDepth 100000 in
theorem dL_law_all0 : ([(0, (.new 7 : Instr), 3), (3, (.dup : Instr), 1), (4, (.invokespecial 9 : Instr), 3), (7, (.astore_n 1 : Instr), 1), (8, (.new 10 : Instr), 3), (11, (.dup : Instr), 1), (12, (.invokespecial 12 : Instr), 3), (15, (.astore_n 2 : Instr), 1), (16, (.iconst 0 : Instr), 1), (17, (.istore_n 3 : Instr), 1), (18, (.iload_n 3 : Instr), 1), (19, (.aload_n 0 : Instr), 1), (20, (.arraylength : Instr), 1), (21, (.bipush 6 : Instr), 2), (23, (.isub : Instr), 1), (24, (.if_icmp .gt 1238 : Instr), 3), (27, (.aload_n 0 : Instr), 1), (28, (.iload_n 3 : Instr), 1), (29, (.iaload : Instr), 1), (30, (.bipush 63 : Instr), 2), (32, (.iand : Instr), 1), (33, (.tableswitch 1223 0 35 #[159, 182, 205, 248, 291, 334, 377, 410, 443, 476, 509, 532, 575, 598, 621, 644, 667, 700, 733, 756, 779, 802, 865, 898, 911, 970, 1013, 1026, 1049, 1062, 1085, 1098, 1121, 1174, 1187, 1210] : Instr), 159), (192, (.aload_n 1 : Instr), 1), (193, (.aload_n 0 : Instr), 1), (194, (.iload_n 3 : Instr), 1), (195, (.iconst 1 : Instr), 1), (196, (.iadd : Instr), 1), (197, (.iaload : Instr), 1), (198, (.invokevirtual 13 : Instr), 3), (201, (.aload_n 2 : Instr), 1), (202, (.aload_n 0 : Instr), 1), (203, (.iload_n 3 : Instr), 1), (204, (.iconst 1 : Instr), 1), (205, (.iadd : Instr), 1), (206, (.iaload : Instr), 1), (207, (.invokevirtual 17 : Instr), 3), (210, (.if_icmp .eq 1046 : Instr), 3), (213, (.iconst 0 : Instr), 1), (214, (.ireturn : Instr), 1), (215, (.aload_n 1 : Instr), 1), (216, (.aload_n 0 : Instr), 1), (217, (.iload_n 3 : Instr), 1), (218, (.iconst 1 : Instr), 1), (219, (.iadd : Instr), 1), (220, (.iaload : Instr), 1), (221, (.invokevirtual 18 : Instr), 3), (224, (.aload_n 2 : Instr), 1), (225, (.aload_n 0 : Instr), 1)] : List (Nat × Instr × Nat)).all (fun q => decide (decode cL_law q.1 = .ok (q.2.1, q.2.2))) = true := by decide +kernel
theorem dL_law_0 : decode cL_law 0 = .ok (.new 7, 3) := all_d dL_law_all0 0 rfl
theorem dL_law_3 : decode cL_law 3 = .ok (.dup, 1) := all_d dL_law_all0 1 rfl
theorem dL_law_4 : decode cL_law 4 = .ok (.invokespecial 9, 3) := all_d dL_law_all0 2 rfl
theorem dL_law_7 : decode cL_law 7 = .ok (.astore_n 1, 1) := all_d dL_law_all0 3 rfl
theorem dL_law_8 : decode cL_law 8 = .ok (.new 10, 3) := all_d dL_law_all0 4 rfl
theorem dL_law_11 : decode cL_law 11 = .ok (.dup, 1) := all_d dL_law_all0 5 rfl
theorem dL_law_12 : decode cL_law 12 = .ok (.invokespecial 12, 3) := all_d dL_law_all0 6 rfl
theorem dL_law_15 : decode cL_law 15 = .ok (.astore_n 2, 1) := all_d dL_law_all0 7 rfl
theorem dL_law_16 : decode cL_law 16 = .ok (.iconst 0, 1) := all_d dL_law_all0 8 rfl
theorem dL_law_17 : decode cL_law 17 = .ok (.istore_n 3, 1) := all_d dL_law_all0 9 rfl
theorem dL_law_18 : decode cL_law 18 = .ok (.iload_n 3, 1) := all_d dL_law_all0 10 rfl
theorem dL_law_19 : decode cL_law 19 = .ok (.aload_n 0, 1) := all_d dL_law_all0 11 rfl
theorem dL_law_20 : decode cL_law 20 = .ok (.arraylength, 1) := all_d dL_law_all0 12 rfl
theorem dL_law_21 : decode cL_law 21 = .ok (.bipush 6, 2) := all_d dL_law_all0 13 rfl
theorem dL_law_23 : decode cL_law 23 = .ok (.isub, 1) := all_d dL_law_all0 14 rfl
theorem dL_law_24 : decode cL_law 24 = .ok (.if_icmp .gt 1238, 3) := all_d dL_law_all0 15 rfl
theorem dL_law_27 : decode cL_law 27 = .ok (.aload_n 0, 1) := all_d dL_law_all0 16 rfl
theorem dL_law_28 : decode cL_law 28 = .ok (.iload_n 3, 1) := all_d dL_law_all0 17 rfl
theorem dL_law_29 : decode cL_law 29 = .ok (.iaload, 1) := all_d dL_law_all0 18 rfl
theorem dL_law_30 : decode cL_law 30 = .ok (.bipush 63, 2) := all_d dL_law_all0 19 rfl
theorem dL_law_32 : decode cL_law 32 = .ok (.iand, 1) := all_d dL_law_all0 20 rfl
theorem dL_law_33 : decode cL_law 33 = .ok (.tableswitch 1223 0 35 #[159, 182, 205, 248, 291, 334, 377, 410, 443, 476, 509, 532, 575, 598, 621, 644, 667, 700, 733, 756, 779, 802, 865, 898, 911, 970, 1013, 1026, 1049, 1062, 1085, 1098, 1121, 1174, 1187, 1210], 159) := all_d dL_law_all0 21 rfl
theorem dL_law_192 : decode cL_law 192 = .ok (.aload_n 1, 1) := all_d dL_law_all0 22 rfl
theorem dL_law_193 : decode cL_law 193 = .ok (.aload_n 0, 1) := all_d dL_law_all0 23 rfl
theorem dL_law_194 : decode cL_law 194 = .ok (.iload_n 3, 1) := all_d dL_law_all0 24 rfl
theorem dL_law_195 : decode cL_law 195 = .ok (.iconst 1, 1) := all_d dL_law_all0 25 rfl
theorem dL_law_196 : decode cL_law 196 = .ok (.iadd, 1) := all_d dL_law_all0 26 rfl
theorem dL_law_197 : decode cL_law 197 = .ok (.iaload, 1) := all_d dL_law_all0 27 rfl
theorem dL_law_198 : decode cL_law 198 = .ok (.invokevirtual 13, 3) := all_d dL_law_all0 28 rfl
theorem dL_law_201 : decode cL_law 201 = .ok (.aload_n 2, 1) := all_d dL_law_all0 29 rfl
theorem dL_law_202 : decode cL_law 202 = .ok (.aload_n 0, 1) := all_d dL_law_all0 30 rfl
theorem dL_law_203 : decode cL_law 203 = .ok (.iload_n 3, 1) := all_d dL_law_all0 31 rfl
theorem dL_law_204 : decode cL_law 204 = .ok (.iconst 1, 1) := all_d dL_law_all0 32 rfl
theorem dL_law_205 : decode cL_law 205 = .ok (.iadd, 1) := all_d dL_law_all0 33 rfl
theorem dL_law_206 : decode cL_law 206 = .ok (.iaload, 1) := all_d dL_law_all0 34 rfl
theorem dL_law_207 : decode cL_law 207 = .ok (.invokevirtual 17, 3) := all_d dL_law_all0 35 rfl
theorem dL_law_210 : decode cL_law 210 = .ok (.if_icmp .eq 1046, 3) := all_d dL_law_all0 36 rfl
theorem dL_law_213 : decode cL_law 213 = .ok (.iconst 0, 1) := all_d dL_law_all0 37 rfl
theorem dL_law_214 : decode cL_law 214 = .ok (.ireturn, 1) := all_d dL_law_all0 38 rfl
theorem dL_law_215 : decode cL_law 215 = .ok (.aload_n 1, 1) := all_d dL_law_all0 39 rfl
theorem dL_law_216 : decode cL_law 216 = .ok (.aload_n 0, 1) := all_d dL_law_all0 40 rfl
theorem dL_law_217 : decode cL_law 217 = .ok (.iload_n 3, 1) := all_d dL_law_all0 41 rfl
theorem dL_law_218 : decode cL_law 218 = .ok (.iconst 1, 1) := all_d dL_law_all0 42 rfl
theorem dL_law_219 : decode cL_law 219 = .ok (.iadd, 1) := all_d dL_law_all0 43 rfl
theorem dL_law_220 : decode cL_law 220 = .ok (.iaload, 1) := all_d dL_law_all0 44 rfl
theorem dL_law_221 : decode cL_law 221 = .ok (.invokevirtual 18, 3) := all_d dL_law_all0 45 rfl
theorem dL_law_224 : decode cL_law 224 = .ok (.aload_n 2, 1) := all_d dL_law_all0 46 rfl
theorem dL_law_225 : decode cL_law 225 = .ok (.aload_n 0, 1) := all_d dL_law_all0 47 rfl
set_option maxRecDepth 100000 in
theorem dL_law_all1 : ([(226, (.iload_n 3 : Instr), 1), (227, (.iconst 1 : Instr), 1), (228, (.iadd : Instr), 1), (229, (.iaload : Instr), 1), (230, (.invokevirtual 22 : Instr), 3), (233, (.if_icmp .eq 1023 : Instr), 3), (236, (.iconst 0 : Instr), 1), (237, (.ireturn : Instr), 1), (238, (.aload_n 1 : Instr), 1), (239, (.aload_n 0 : Instr), 1), (240, (.iload_n 3 : Instr), 1), (241, (.iconst 1 : Instr), 1), (242, (.iadd : Instr), 1), (243, (.iaload : Instr), 1), (244, (.aload_n 0 : Instr), 1), (245, (.iload_n 3 : Instr), 1), (246, (.iconst 2 : Instr), 1), (247, (.iadd : Instr), 1), (248, (.iaload : Instr), 1), (249, (.aload_n 0 : Instr), 1), (250, (.iload_n 3 : Instr), 1), (251, (.iconst 3 : Instr), 1), (252, (.iadd : Instr), 1), (253, (.iaload : Instr), 1), (254, (.invokevirtual 23 : Instr), 3), (257, (.aload_n 2 : Instr), 1), (258, (.aload_n 0 : Instr), 1), (259, (.iload_n 3 : Instr), 1), (260, (.iconst 1 : Instr), 1), (261, (.iadd : Instr), 1), (262, (.iaload : Instr), 1), (263, (.aload_n 0 : Instr), 1), (264, (.iload_n 3 : Instr), 1), (265, (.iconst 2 : Instr), 1), (266, (.iadd : Instr), 1), (267, (.iaload : Instr), 1), (268, (.aload_n 0 : Instr), 1), (269, (.iload_n 3 : Instr), 1), (270, (.iconst 3 : Instr), 1), (271, (.iadd : Instr), 1), (272, (.iaload : Instr), 1), (273, (.invokevirtual 27 : Instr), 3), (276, (.if_icmp .eq 980 : Instr), 3), (279, (.iconst 0 : Instr), 1), (280, (.ireturn : Instr), 1), (281, (.aload_n 1 : Instr), 1), (282, (.aload_n 0 : Instr), 1), (283, (.iload_n 3 : Instr), 1)] : List (Nat × Instr × Nat)).all (fun q => decide (decode cL_law q.1 = .ok (q.2.1, q.2.2))) = true := by decide +kernel
theorem dL_law_226 : decode cL_law 226 = .ok (.iload_n 3, 1) := all_d dL_law_all1 0 rfl
theorem dL_law_227 : decode cL_law 227 = .ok (.iconst 1, 1) := all_d dL_law_all1 1 rfl
theorem dL_law_228 : decode cL_law 228 = .ok (.iadd, 1) := all_d dL_law_all1 2 rfl
theorem dL_law_229 : decode cL_law 229 = .ok (.iaload, 1) := all_d dL_law_all1 3 rfl
theorem dL_law_230 : decode cL_law 230 = .ok (.invokevirtual 22, 3) := all_d dL_law_all1 4 rfl
theorem dL_law_233 : decode cL_law 233 = .ok (.if_icmp .eq 1023, 3) := all_d dL_law_all1 5 rfl
theorem dL_law_236 : decode cL_law 236 = .ok (.iconst 0, 1) := all_d dL_law_all1 6 rfl
theorem dL_law_237 : decode cL_law 237 = .ok (.ireturn, 1) := all_d dL_law_all1 7 rfl
theorem dL_law_238 : decode cL_law 238 = .ok (.aload_n 1, 1) := all_d dL_law_all1 8 rfl
theorem dL_law_239 : decode cL_law 239 = .ok (.aload_n 0, 1) := all_d dL_law_all1 9 rfl
theorem dL_law_240 : decode cL_law 240 = .ok (.iload_n 3, 1) := all_d dL_law_all1 10 rfl
theorem dL_law_241 : decode cL_law 241 = .ok (.iconst 1, 1) := all_d dL_law_all1 11 rfl
theorem dL_law_242 : decode cL_law 242 = .ok (.iadd, 1) := all_d dL_law_all1 12 rfl
theorem dL_law_243 : decode cL_law 243 = .ok (.iaload, 1) := all_d dL_law_all1 13 rfl
theorem dL_law_244 : decode cL_law 244 = .ok (.aload_n 0, 1) := all_d dL_law_all1 14 rfl
theorem dL_law_245 : decode cL_law 245 = .ok (.iload_n 3, 1) := all_d dL_law_all1 15 rfl
theorem dL_law_246 : decode cL_law 246 = .ok (.iconst 2, 1) := all_d dL_law_all1 16 rfl
theorem dL_law_247 : decode cL_law 247 = .ok (.iadd, 1) := all_d dL_law_all1 17 rfl
theorem dL_law_248 : decode cL_law 248 = .ok (.iaload, 1) := all_d dL_law_all1 18 rfl
theorem dL_law_249 : decode cL_law 249 = .ok (.aload_n 0, 1) := all_d dL_law_all1 19 rfl
theorem dL_law_250 : decode cL_law 250 = .ok (.iload_n 3, 1) := all_d dL_law_all1 20 rfl
theorem dL_law_251 : decode cL_law 251 = .ok (.iconst 3, 1) := all_d dL_law_all1 21 rfl
theorem dL_law_252 : decode cL_law 252 = .ok (.iadd, 1) := all_d dL_law_all1 22 rfl
theorem dL_law_253 : decode cL_law 253 = .ok (.iaload, 1) := all_d dL_law_all1 23 rfl
theorem dL_law_254 : decode cL_law 254 = .ok (.invokevirtual 23, 3) := all_d dL_law_all1 24 rfl
theorem dL_law_257 : decode cL_law 257 = .ok (.aload_n 2, 1) := all_d dL_law_all1 25 rfl
theorem dL_law_258 : decode cL_law 258 = .ok (.aload_n 0, 1) := all_d dL_law_all1 26 rfl
theorem dL_law_259 : decode cL_law 259 = .ok (.iload_n 3, 1) := all_d dL_law_all1 27 rfl
theorem dL_law_260 : decode cL_law 260 = .ok (.iconst 1, 1) := all_d dL_law_all1 28 rfl
theorem dL_law_261 : decode cL_law 261 = .ok (.iadd, 1) := all_d dL_law_all1 29 rfl
theorem dL_law_262 : decode cL_law 262 = .ok (.iaload, 1) := all_d dL_law_all1 30 rfl
theorem dL_law_263 : decode cL_law 263 = .ok (.aload_n 0, 1) := all_d dL_law_all1 31 rfl
theorem dL_law_264 : decode cL_law 264 = .ok (.iload_n 3, 1) := all_d dL_law_all1 32 rfl
theorem dL_law_265 : decode cL_law 265 = .ok (.iconst 2, 1) := all_d dL_law_all1 33 rfl
theorem dL_law_266 : decode cL_law 266 = .ok (.iadd, 1) := all_d dL_law_all1 34 rfl
theorem dL_law_267 : decode cL_law 267 = .ok (.iaload, 1) := all_d dL_law_all1 35 rfl
theorem dL_law_268 : decode cL_law 268 = .ok (.aload_n 0, 1) := all_d dL_law_all1 36 rfl
theorem dL_law_269 : decode cL_law 269 = .ok (.iload_n 3, 1) := all_d dL_law_all1 37 rfl
theorem dL_law_270 : decode cL_law 270 = .ok (.iconst 3, 1) := all_d dL_law_all1 38 rfl
theorem dL_law_271 : decode cL_law 271 = .ok (.iadd, 1) := all_d dL_law_all1 39 rfl
theorem dL_law_272 : decode cL_law 272 = .ok (.iaload, 1) := all_d dL_law_all1 40 rfl
theorem dL_law_273 : decode cL_law 273 = .ok (.invokevirtual 27, 3) := all_d dL_law_all1 41 rfl
theorem dL_law_276 : decode cL_law 276 = .ok (.if_icmp .eq 980, 3) := all_d dL_law_all1 42 rfl
theorem dL_law_279 : decode cL_law 279 = .ok (.iconst 0, 1) := all_d dL_law_all1 43 rfl
theorem dL_law_280 : decode cL_law 280 = .ok (.ireturn, 1) := all_d dL_law_all1 44 rfl
theorem dL_law_281 : decode cL_law 281 = .ok (.aload_n 1, 1) := all_d dL_law_all1 45 rfl
theorem dL_law_282 : decode cL_law 282 = .ok (.aload_n 0, 1) := all_d dL_law_all1 46 rfl
theorem dL_law_283 : decode cL_law 283 = .ok (.iload_n 3, 1) := all_d dL_law_all1 47 rfl
set_option maxRecDepth 100000 in
theorem dL_law_all2 : ([(284, (.iconst 1 : Instr), 1), (285, (.iadd : Instr), 1), (286, (.iaload : Instr), 1), (287, (.aload_n 0 : Instr), 1), (288, (.iload_n 3 : Instr), 1), (289, (.iconst 2 : Instr), 1), (290, (.iadd : Instr), 1), (291, (.iaload : Instr), 1), (292, (.aload_n 0 : Instr), 1), (293, (.iload_n 3 : Instr), 1), (294, (.iconst 3 : Instr), 1), (295, (.iadd : Instr), 1), (296, (.iaload : Instr), 1), (297, (.invokevirtual 28 : Instr), 3), (300, (.aload_n 2 : Instr), 1), (301, (.aload_n 0 : Instr), 1), (302, (.iload_n 3 : Instr), 1), (303, (.iconst 1 : Instr), 1), (304, (.iadd : Instr), 1), (305, (.iaload : Instr), 1), (306, (.aload_n 0 : Instr), 1), (307, (.iload_n 3 : Instr), 1), (308, (.iconst 2 : Instr), 1), (309, (.iadd : Instr), 1), (310, (.iaload : Instr), 1), (311, (.aload_n 0 : Instr), 1), (312, (.iload_n 3 : Instr), 1), (313, (.iconst 3 : Instr), 1), (314, (.iadd : Instr), 1), (315, (.iaload : Instr), 1), (316, (.invokevirtual 32 : Instr), 3), (319, (.if_icmp .eq 937 : Instr), 3), (322, (.iconst 0 : Instr), 1), (323, (.ireturn : Instr), 1), (324, (.aload_n 1 : Instr), 1), (325, (.aload_n 0 : Instr), 1), (326, (.iload_n 3 : Instr), 1), (327, (.iconst 1 : Instr), 1), (328, (.iadd : Instr), 1), (329, (.iaload : Instr), 1), (330, (.aload_n 0 : Instr), 1), (331, (.iload_n 3 : Instr), 1), (332, (.iconst 2 : Instr), 1), (333, (.iadd : Instr), 1), (334, (.iaload : Instr), 1), (335, (.aload_n 0 : Instr), 1), (336, (.iload_n 3 : Instr), 1), (337, (.iconst 3 : Instr), 1)] : List (Nat × Instr × Nat)).all (fun q => decide (decode cL_law q.1 = .ok (q.2.1, q.2.2))) = true := by decide +kernel
theorem dL_law_284 : decode cL_law 284 = .ok (.iconst 1, 1) := all_d dL_law_all2 0 rfl
theorem dL_law_285 : decode cL_law 285 = .ok (.iadd, 1) := all_d dL_law_all2 1 rfl
theorem dL_law_286 : decode cL_law 286 = .ok (.iaload, 1) := all_d dL_law_all2 2 rfl
theorem dL_law_287 : decode cL_law 287 = .ok (.aload_n 0, 1) := all_d dL_law_all2 3 rfl
theorem dL_law_288 : decode cL_law 288 = .ok (.iload_n 3, 1) := all_d dL_law_all2 4 rfl
theorem dL_law_289 : decode cL_law 289 = .ok (.iconst 2, 1) := all_d dL_law_all2 5 rfl
theorem dL_law_290 : decode cL_law 290 = .ok (.iadd, 1) := all_d dL_law_all2 6 rfl
theorem dL_law_291 : decode cL_law 291 = .ok (.iaload, 1) := all_d dL_law_all2 7 rfl
theorem dL_law_292 : decode cL_law 292 = .ok (.aload_n 0, 1) := all_d dL_law_all2 8 rfl
theorem dL_law_293 : decode cL_law 293 = .ok (.iload_n 3, 1) := all_d dL_law_all2 9 rfl
theorem dL_law_294 : decode cL_law 294 = .ok (.iconst 3, 1) := all_d dL_law_all2 10 rfl
theorem dL_law_295 : decode cL_law 295 = .ok (.iadd, 1) := all_d dL_law_all2 11 rfl
theorem dL_law_296 : decode cL_law 296 = .ok (.iaload, 1) := all_d dL_law_all2 12 rfl
theorem dL_law_297 : decode cL_law 297 = .ok (.invokevirtual 28, 3) := all_d dL_law_all2 13 rfl
theorem dL_law_300 : decode cL_law 300 = .ok (.aload_n 2, 1) := all_d dL_law_all2 14 rfl
theorem dL_law_301 : decode cL_law 301 = .ok (.aload_n 0, 1) := all_d dL_law_all2 15 rfl
theorem dL_law_302 : decode cL_law 302 = .ok (.iload_n 3, 1) := all_d dL_law_all2 16 rfl
theorem dL_law_303 : decode cL_law 303 = .ok (.iconst 1, 1) := all_d dL_law_all2 17 rfl
theorem dL_law_304 : decode cL_law 304 = .ok (.iadd, 1) := all_d dL_law_all2 18 rfl
theorem dL_law_305 : decode cL_law 305 = .ok (.iaload, 1) := all_d dL_law_all2 19 rfl
theorem dL_law_306 : decode cL_law 306 = .ok (.aload_n 0, 1) := all_d dL_law_all2 20 rfl
theorem dL_law_307 : decode cL_law 307 = .ok (.iload_n 3, 1) := all_d dL_law_all2 21 rfl
theorem dL_law_308 : decode cL_law 308 = .ok (.iconst 2, 1) := all_d dL_law_all2 22 rfl
theorem dL_law_309 : decode cL_law 309 = .ok (.iadd, 1) := all_d dL_law_all2 23 rfl
theorem dL_law_310 : decode cL_law 310 = .ok (.iaload, 1) := all_d dL_law_all2 24 rfl
theorem dL_law_311 : decode cL_law 311 = .ok (.aload_n 0, 1) := all_d dL_law_all2 25 rfl
theorem dL_law_312 : decode cL_law 312 = .ok (.iload_n 3, 1) := all_d dL_law_all2 26 rfl
theorem dL_law_313 : decode cL_law 313 = .ok (.iconst 3, 1) := all_d dL_law_all2 27 rfl
theorem dL_law_314 : decode cL_law 314 = .ok (.iadd, 1) := all_d dL_law_all2 28 rfl
theorem dL_law_315 : decode cL_law 315 = .ok (.iaload, 1) := all_d dL_law_all2 29 rfl
theorem dL_law_316 : decode cL_law 316 = .ok (.invokevirtual 32, 3) := all_d dL_law_all2 30 rfl
theorem dL_law_319 : decode cL_law 319 = .ok (.if_icmp .eq 937, 3) := all_d dL_law_all2 31 rfl
theorem dL_law_322 : decode cL_law 322 = .ok (.iconst 0, 1) := all_d dL_law_all2 32 rfl
theorem dL_law_323 : decode cL_law 323 = .ok (.ireturn, 1) := all_d dL_law_all2 33 rfl
theorem dL_law_324 : decode cL_law 324 = .ok (.aload_n 1, 1) := all_d dL_law_all2 34 rfl
theorem dL_law_325 : decode cL_law 325 = .ok (.aload_n 0, 1) := all_d dL_law_all2 35 rfl
theorem dL_law_326 : decode cL_law 326 = .ok (.iload_n 3, 1) := all_d dL_law_all2 36 rfl
theorem dL_law_327 : decode cL_law 327 = .ok (.iconst 1, 1) := all_d dL_law_all2 37 rfl
theorem dL_law_328 : decode cL_law 328 = .ok (.iadd, 1) := all_d dL_law_all2 38 rfl
theorem dL_law_329 : decode cL_law 329 = .ok (.iaload, 1) := all_d dL_law_all2 39 rfl
theorem dL_law_330 : decode cL_law 330 = .ok (.aload_n 0, 1) := all_d dL_law_all2 40 rfl
theorem dL_law_331 : decode cL_law 331 = .ok (.iload_n 3, 1) := all_d dL_law_all2 41 rfl
theorem dL_law_332 : decode cL_law 332 = .ok (.iconst 2, 1) := all_d dL_law_all2 42 rfl
theorem dL_law_333 : decode cL_law 333 = .ok (.iadd, 1) := all_d dL_law_all2 43 rfl
theorem dL_law_334 : decode cL_law 334 = .ok (.iaload, 1) := all_d dL_law_all2 44 rfl
theorem dL_law_335 : decode cL_law 335 = .ok (.aload_n 0, 1) := all_d dL_law_all2 45 rfl
theorem dL_law_336 : decode cL_law 336 = .ok (.iload_n 3, 1) := all_d dL_law_all2 46 rfl
theorem dL_law_337 : decode cL_law 337 = .ok (.iconst 3, 1) := all_d dL_law_all2 47 rfl
set_option maxRecDepth 100000 in
theorem dL_law_all3 : ([(338, (.iadd : Instr), 1), (339, (.iaload : Instr), 1), (340, (.invokevirtual 33 : Instr), 3), (343, (.aload_n 2 : Instr), 1), (344, (.aload_n 0 : Instr), 1), (345, (.iload_n 3 : Instr), 1), (346, (.iconst 1 : Instr), 1), (347, (.iadd : Instr), 1), (348, (.iaload : Instr), 1), (349, (.aload_n 0 : Instr), 1), (350, (.iload_n 3 : Instr), 1), (351, (.iconst 2 : Instr), 1), (352, (.iadd : Instr), 1), (353, (.iaload : Instr), 1), (354, (.aload_n 0 : Instr), 1), (355, (.iload_n 3 : Instr), 1), (356, (.iconst 3 : Instr), 1), (357, (.iadd : Instr), 1), (358, (.iaload : Instr), 1), (359, (.invokevirtual 36 : Instr), 3), (362, (.if_icmp .eq 894 : Instr), 3), (365, (.iconst 0 : Instr), 1), (366, (.ireturn : Instr), 1), (367, (.aload_n 1 : Instr), 1), (368, (.aload_n 0 : Instr), 1), (369, (.iload_n 3 : Instr), 1), (370, (.iconst 1 : Instr), 1), (371, (.iadd : Instr), 1), (372, (.iaload : Instr), 1), (373, (.aload_n 0 : Instr), 1), (374, (.iload_n 3 : Instr), 1), (375, (.iconst 2 : Instr), 1), (376, (.iadd : Instr), 1), (377, (.iaload : Instr), 1), (378, (.aload_n 0 : Instr), 1), (379, (.iload_n 3 : Instr), 1), (380, (.iconst 3 : Instr), 1), (381, (.iadd : Instr), 1), (382, (.iaload : Instr), 1), (383, (.invokevirtual 37 : Instr), 3), (386, (.aload_n 2 : Instr), 1), (387, (.aload_n 0 : Instr), 1), (388, (.iload_n 3 : Instr), 1), (389, (.iconst 1 : Instr), 1), (390, (.iadd : Instr), 1), (391, (.iaload : Instr), 1), (392, (.aload_n 0 : Instr), 1), (393, (.iload_n 3 : Instr), 1)] : List (Nat × Instr × Nat)).all (fun q => decide (decode cL_law q.1 = .ok (q.2.1, q.2.2))) = true := by decide +kernel
theorem dL_law_338 : decode cL_law 338 = .ok (.iadd, 1) := all_d dL_law_all3 0 rfl
theorem dL_law_339 : decode cL_law 339 = .ok (.iaload, 1) := all_d dL_law_all3 1 rfl
theorem dL_law_340 : decode cL_law 340 = .ok (.invokevirtual 33, 3) := all_d dL_law_all3 2 rfl
theorem dL_law_343 : decode cL_law 343 = .ok (.aload_n 2, 1) := all_d dL_law_all3 3 rfl
theorem dL_law_344 : decode cL_law 344 = .ok (.aload_n 0, 1) := all_d dL_law_all3 4 rfl
theorem dL_law_345 : decode cL_law 345 = .ok (.iload_n 3, 1) := all_d dL_law_all3 5 rfl
theorem dL_law_346 : decode cL_law 346 = .ok (.iconst 1, 1) := all_d dL_law_all3 6 rfl
theorem dL_law_347 : decode cL_law 347 = .ok (.iadd, 1) := all_d dL_law_all3 7 rfl
theorem dL_law_348 : decode cL_law 348 = .ok (.iaload, 1) := all_d dL_law_all3 8 rfl
theorem dL_law_349 : decode cL_law 349 = .ok (.aload_n 0, 1) := all_d dL_law_all3 9 rfl
theorem dL_law_350 : decode cL_law 350 = .ok (.iload_n 3, 1) := all_d dL_law_all3 10 rfl
theorem dL_law_351 : decode cL_law 351 = .ok (.iconst 2, 1) := all_d dL_law_all3 11 rfl
theorem dL_law_352 : decode cL_law 352 = .ok (.iadd, 1) := all_d dL_law_all3 12 rfl
theorem dL_law_353 : decode cL_law 353 = .ok (.iaload, 1) := all_d dL_law_all3 13 rfl
theorem dL_law_354 : decode cL_law 354 = .ok (.aload_n 0, 1) := all_d dL_law_all3 14 rfl
theorem dL_law_355 : decode cL_law 355 = .ok (.iload_n 3, 1) := all_d dL_law_all3 15 rfl
theorem dL_law_356 : decode cL_law 356 = .ok (.iconst 3, 1) := all_d dL_law_all3 16 rfl
theorem dL_law_357 : decode cL_law 357 = .ok (.iadd, 1) := all_d dL_law_all3 17 rfl
theorem dL_law_358 : decode cL_law 358 = .ok (.iaload, 1) := all_d dL_law_all3 18 rfl
theorem dL_law_359 : decode cL_law 359 = .ok (.invokevirtual 36, 3) := all_d dL_law_all3 19 rfl
theorem dL_law_362 : decode cL_law 362 = .ok (.if_icmp .eq 894, 3) := all_d dL_law_all3 20 rfl
theorem dL_law_365 : decode cL_law 365 = .ok (.iconst 0, 1) := all_d dL_law_all3 21 rfl
theorem dL_law_366 : decode cL_law 366 = .ok (.ireturn, 1) := all_d dL_law_all3 22 rfl
theorem dL_law_367 : decode cL_law 367 = .ok (.aload_n 1, 1) := all_d dL_law_all3 23 rfl
theorem dL_law_368 : decode cL_law 368 = .ok (.aload_n 0, 1) := all_d dL_law_all3 24 rfl
theorem dL_law_369 : decode cL_law 369 = .ok (.iload_n 3, 1) := all_d dL_law_all3 25 rfl
theorem dL_law_370 : decode cL_law 370 = .ok (.iconst 1, 1) := all_d dL_law_all3 26 rfl
theorem dL_law_371 : decode cL_law 371 = .ok (.iadd, 1) := all_d dL_law_all3 27 rfl
theorem dL_law_372 : decode cL_law 372 = .ok (.iaload, 1) := all_d dL_law_all3 28 rfl
theorem dL_law_373 : decode cL_law 373 = .ok (.aload_n 0, 1) := all_d dL_law_all3 29 rfl
theorem dL_law_374 : decode cL_law 374 = .ok (.iload_n 3, 1) := all_d dL_law_all3 30 rfl
theorem dL_law_375 : decode cL_law 375 = .ok (.iconst 2, 1) := all_d dL_law_all3 31 rfl
theorem dL_law_376 : decode cL_law 376 = .ok (.iadd, 1) := all_d dL_law_all3 32 rfl
theorem dL_law_377 : decode cL_law 377 = .ok (.iaload, 1) := all_d dL_law_all3 33 rfl
theorem dL_law_378 : decode cL_law 378 = .ok (.aload_n 0, 1) := all_d dL_law_all3 34 rfl
theorem dL_law_379 : decode cL_law 379 = .ok (.iload_n 3, 1) := all_d dL_law_all3 35 rfl
theorem dL_law_380 : decode cL_law 380 = .ok (.iconst 3, 1) := all_d dL_law_all3 36 rfl
theorem dL_law_381 : decode cL_law 381 = .ok (.iadd, 1) := all_d dL_law_all3 37 rfl
theorem dL_law_382 : decode cL_law 382 = .ok (.iaload, 1) := all_d dL_law_all3 38 rfl
theorem dL_law_383 : decode cL_law 383 = .ok (.invokevirtual 37, 3) := all_d dL_law_all3 39 rfl
theorem dL_law_386 : decode cL_law 386 = .ok (.aload_n 2, 1) := all_d dL_law_all3 40 rfl
theorem dL_law_387 : decode cL_law 387 = .ok (.aload_n 0, 1) := all_d dL_law_all3 41 rfl
theorem dL_law_388 : decode cL_law 388 = .ok (.iload_n 3, 1) := all_d dL_law_all3 42 rfl
theorem dL_law_389 : decode cL_law 389 = .ok (.iconst 1, 1) := all_d dL_law_all3 43 rfl
theorem dL_law_390 : decode cL_law 390 = .ok (.iadd, 1) := all_d dL_law_all3 44 rfl
theorem dL_law_391 : decode cL_law 391 = .ok (.iaload, 1) := all_d dL_law_all3 45 rfl
theorem dL_law_392 : decode cL_law 392 = .ok (.aload_n 0, 1) := all_d dL_law_all3 46 rfl
theorem dL_law_393 : decode cL_law 393 = .ok (.iload_n 3, 1) := all_d dL_law_all3 47 rfl
set_option maxRecDepth 100000 in
theorem dL_law_all4 : ([(394, (.iconst 2 : Instr), 1), (395, (.iadd : Instr), 1), (396, (.iaload : Instr), 1), (397, (.aload_n 0 : Instr), 1), (398, (.iload_n 3 : Instr), 1), (399, (.iconst 3 : Instr), 1), (400, (.iadd : Instr), 1), (401, (.iaload : Instr), 1), (402, (.invokevirtual 40 : Instr), 3), (405, (.if_icmp .eq 851 : Instr), 3), (408, (.iconst 0 : Instr), 1), (409, (.ireturn : Instr), 1), (410, (.aload_n 1 : Instr), 1), (411, (.aload_n 0 : Instr), 1), (412, (.iload_n 3 : Instr), 1), (413, (.iconst 1 : Instr), 1), (414, (.iadd : Instr), 1), (415, (.iaload : Instr), 1), (416, (.aload_n 0 : Instr), 1), (417, (.iload_n 3 : Instr), 1), (418, (.iconst 2 : Instr), 1), (419, (.iadd : Instr), 1), (420, (.iaload : Instr), 1), (421, (.invokevirtual 41 : Instr), 3), (424, (.aload_n 2 : Instr), 1), (425, (.aload_n 0 : Instr), 1), (426, (.iload_n 3 : Instr), 1), (427, (.iconst 1 : Instr), 1), (428, (.iadd : Instr), 1), (429, (.iaload : Instr), 1), (430, (.aload_n 0 : Instr), 1), (431, (.iload_n 3 : Instr), 1), (432, (.iconst 2 : Instr), 1), (433, (.iadd : Instr), 1), (434, (.iaload : Instr), 1), (435, (.invokevirtual 45 : Instr), 3), (438, (.if_icmp .eq 818 : Instr), 3), (441, (.iconst 0 : Instr), 1), (442, (.ireturn : Instr), 1), (443, (.aload_n 1 : Instr), 1), (444, (.aload_n 0 : Instr), 1), (445, (.iload_n 3 : Instr), 1), (446, (.iconst 1 : Instr), 1), (447, (.iadd : Instr), 1), (448, (.iaload : Instr), 1), (449, (.aload_n 0 : Instr), 1), (450, (.iload_n 3 : Instr), 1), (451, (.iconst 2 : Instr), 1)] : List (Nat × Instr × Nat)).all (fun q => decide (decode cL_law q.1 = .ok (q.2.1, q.2.2))) = true := by decide +kernel
theorem dL_law_394 : decode cL_law 394 = .ok (.iconst 2, 1) := all_d dL_law_all4 0 rfl
theorem dL_law_395 : decode cL_law 395 = .ok (.iadd, 1) := all_d dL_law_all4 1 rfl
theorem dL_law_396 : decode cL_law 396 = .ok (.iaload, 1) := all_d dL_law_all4 2 rfl
theorem dL_law_397 : decode cL_law 397 = .ok (.aload_n 0, 1) := all_d dL_law_all4 3 rfl
theorem dL_law_398 : decode cL_law 398 = .ok (.iload_n 3, 1) := all_d dL_law_all4 4 rfl
theorem dL_law_399 : decode cL_law 399 = .ok (.iconst 3, 1) := all_d dL_law_all4 5 rfl
theorem dL_law_400 : decode cL_law 400 = .ok (.iadd, 1) := all_d dL_law_all4 6 rfl
theorem dL_law_401 : decode cL_law 401 = .ok (.iaload, 1) := all_d dL_law_all4 7 rfl
theorem dL_law_402 : decode cL_law 402 = .ok (.invokevirtual 40, 3) := all_d dL_law_all4 8 rfl
theorem dL_law_405 : decode cL_law 405 = .ok (.if_icmp .eq 851, 3) := all_d dL_law_all4 9 rfl
theorem dL_law_408 : decode cL_law 408 = .ok (.iconst 0, 1) := all_d dL_law_all4 10 rfl
theorem dL_law_409 : decode cL_law 409 = .ok (.ireturn, 1) := all_d dL_law_all4 11 rfl
theorem dL_law_410 : decode cL_law 410 = .ok (.aload_n 1, 1) := all_d dL_law_all4 12 rfl
theorem dL_law_411 : decode cL_law 411 = .ok (.aload_n 0, 1) := all_d dL_law_all4 13 rfl
theorem dL_law_412 : decode cL_law 412 = .ok (.iload_n 3, 1) := all_d dL_law_all4 14 rfl
theorem dL_law_413 : decode cL_law 413 = .ok (.iconst 1, 1) := all_d dL_law_all4 15 rfl
theorem dL_law_414 : decode cL_law 414 = .ok (.iadd, 1) := all_d dL_law_all4 16 rfl
theorem dL_law_415 : decode cL_law 415 = .ok (.iaload, 1) := all_d dL_law_all4 17 rfl
theorem dL_law_416 : decode cL_law 416 = .ok (.aload_n 0, 1) := all_d dL_law_all4 18 rfl
theorem dL_law_417 : decode cL_law 417 = .ok (.iload_n 3, 1) := all_d dL_law_all4 19 rfl
theorem dL_law_418 : decode cL_law 418 = .ok (.iconst 2, 1) := all_d dL_law_all4 20 rfl
theorem dL_law_419 : decode cL_law 419 = .ok (.iadd, 1) := all_d dL_law_all4 21 rfl
theorem dL_law_420 : decode cL_law 420 = .ok (.iaload, 1) := all_d dL_law_all4 22 rfl
theorem dL_law_421 : decode cL_law 421 = .ok (.invokevirtual 41, 3) := all_d dL_law_all4 23 rfl
theorem dL_law_424 : decode cL_law 424 = .ok (.aload_n 2, 1) := all_d dL_law_all4 24 rfl
theorem dL_law_425 : decode cL_law 425 = .ok (.aload_n 0, 1) := all_d dL_law_all4 25 rfl
theorem dL_law_426 : decode cL_law 426 = .ok (.iload_n 3, 1) := all_d dL_law_all4 26 rfl
theorem dL_law_427 : decode cL_law 427 = .ok (.iconst 1, 1) := all_d dL_law_all4 27 rfl
theorem dL_law_428 : decode cL_law 428 = .ok (.iadd, 1) := all_d dL_law_all4 28 rfl
theorem dL_law_429 : decode cL_law 429 = .ok (.iaload, 1) := all_d dL_law_all4 29 rfl
theorem dL_law_430 : decode cL_law 430 = .ok (.aload_n 0, 1) := all_d dL_law_all4 30 rfl
theorem dL_law_431 : decode cL_law 431 = .ok (.iload_n 3, 1) := all_d dL_law_all4 31 rfl
theorem dL_law_432 : decode cL_law 432 = .ok (.iconst 2, 1) := all_d dL_law_all4 32 rfl
theorem dL_law_433 : decode cL_law 433 = .ok (.iadd, 1) := all_d dL_law_all4 33 rfl
theorem dL_law_434 : decode cL_law 434 = .ok (.iaload, 1) := all_d dL_law_all4 34 rfl
theorem dL_law_435 : decode cL_law 435 = .ok (.invokevirtual 45, 3) := all_d dL_law_all4 35 rfl
theorem dL_law_438 : decode cL_law 438 = .ok (.if_icmp .eq 818, 3) := all_d dL_law_all4 36 rfl
theorem dL_law_441 : decode cL_law 441 = .ok (.iconst 0, 1) := all_d dL_law_all4 37 rfl
theorem dL_law_442 : decode cL_law 442 = .ok (.ireturn, 1) := all_d dL_law_all4 38 rfl
theorem dL_law_443 : decode cL_law 443 = .ok (.aload_n 1, 1) := all_d dL_law_all4 39 rfl
theorem dL_law_444 : decode cL_law 444 = .ok (.aload_n 0, 1) := all_d dL_law_all4 40 rfl
theorem dL_law_445 : decode cL_law 445 = .ok (.iload_n 3, 1) := all_d dL_law_all4 41 rfl
theorem dL_law_446 : decode cL_law 446 = .ok (.iconst 1, 1) := all_d dL_law_all4 42 rfl
theorem dL_law_447 : decode cL_law 447 = .ok (.iadd, 1) := all_d dL_law_all4 43 rfl
theorem dL_law_448 : decode cL_law 448 = .ok (.iaload, 1) := all_d dL_law_all4 44 rfl
theorem dL_law_449 : decode cL_law 449 = .ok (.aload_n 0, 1) := all_d dL_law_all4 45 rfl
theorem dL_law_450 : decode cL_law 450 = .ok (.iload_n 3, 1) := all_d dL_law_all4 46 rfl
theorem dL_law_451 : decode cL_law 451 = .ok (.iconst 2, 1) := all_d dL_law_all4 47 rfl
set_option maxRecDepth 100000 in
theorem dL_law_all5 : ([(452, (.iadd : Instr), 1), (453, (.iaload : Instr), 1), (454, (.invokevirtual 46 : Instr), 3), (457, (.aload_n 2 : Instr), 1), (458, (.aload_n 0 : Instr), 1), (459, (.iload_n 3 : Instr), 1), (460, (.iconst 1 : Instr), 1), (461, (.iadd : Instr), 1), (462, (.iaload : Instr), 1), (463, (.aload_n 0 : Instr), 1), (464, (.iload_n 3 : Instr), 1), (465, (.iconst 2 : Instr), 1), (466, (.iadd : Instr), 1), (467, (.iaload : Instr), 1), (468, (.invokevirtual 49 : Instr), 3), (471, (.if_icmp .eq 785 : Instr), 3), (474, (.iconst 0 : Instr), 1), (475, (.ireturn : Instr), 1), (476, (.aload_n 1 : Instr), 1), (477, (.aload_n 0 : Instr), 1), (478, (.iload_n 3 : Instr), 1), (479, (.iconst 1 : Instr), 1), (480, (.iadd : Instr), 1), (481, (.iaload : Instr), 1), (482, (.aload_n 0 : Instr), 1), (483, (.iload_n 3 : Instr), 1), (484, (.iconst 2 : Instr), 1), (485, (.iadd : Instr), 1), (486, (.iaload : Instr), 1), (487, (.invokevirtual 50 : Instr), 3), (490, (.aload_n 2 : Instr), 1), (491, (.aload_n 0 : Instr), 1), (492, (.iload_n 3 : Instr), 1), (493, (.iconst 1 : Instr), 1), (494, (.iadd : Instr), 1), (495, (.iaload : Instr), 1), (496, (.aload_n 0 : Instr), 1), (497, (.iload_n 3 : Instr), 1), (498, (.iconst 2 : Instr), 1), (499, (.iadd : Instr), 1), (500, (.iaload : Instr), 1), (501, (.invokevirtual 53 : Instr), 3), (504, (.if_icmp .eq 752 : Instr), 3), (507, (.iconst 0 : Instr), 1), (508, (.ireturn : Instr), 1), (509, (.aload_n 1 : Instr), 1), (510, (.aload_n 0 : Instr), 1), (511, (.iload_n 3 : Instr), 1)] : List (Nat × Instr × Nat)).all (fun q => decide (decode cL_law q.1 = .ok (q.2.1, q.2.2))) = true := by decide +kernel
theorem dL_law_452 : decode cL_law 452 = .ok (.iadd, 1) := all_d dL_law_all5 0 rfl
theorem dL_law_453 : decode cL_law 453 = .ok (.iaload, 1) := all_d dL_law_all5 1 rfl
theorem dL_law_454 : decode cL_law 454 = .ok (.invokevirtual 46, 3) := all_d dL_law_all5 2 rfl
theorem dL_law_457 : decode cL_law 457 = .ok (.aload_n 2, 1) := all_d dL_law_all5 3 rfl
theorem dL_law_458 : decode cL_law 458 = .ok (.aload_n 0, 1) := all_d dL_law_all5 4 rfl
theorem dL_law_459 : decode cL_law 459 = .ok (.iload_n 3, 1) := all_d dL_law_all5 5 rfl
theorem dL_law_460 : decode cL_law 460 = .ok (.iconst 1, 1) := all_d dL_law_all5 6 rfl
theorem dL_law_461 : decode cL_law 461 = .ok (.iadd, 1) := all_d dL_law_all5 7 rfl
theorem dL_law_462 : decode cL_law 462 = .ok (.iaload, 1) := all_d dL_law_all5 8 rfl
theorem dL_law_463 : decode cL_law 463 = .ok (.aload_n 0, 1) := all_d dL_law_all5 9 rfl
theorem dL_law_464 : decode cL_law 464 = .ok (.iload_n 3, 1) := all_d dL_law_all5 10 rfl
theorem dL_law_465 : decode cL_law 465 = .ok (.iconst 2, 1) := all_d dL_law_all5 11 rfl
theorem dL_law_466 : decode cL_law 466 = .ok (.iadd, 1) := all_d dL_law_all5 12 rfl
theorem dL_law_467 : decode cL_law 467 = .ok (.iaload, 1) := all_d dL_law_all5 13 rfl
theorem dL_law_468 : decode cL_law 468 = .ok (.invokevirtual 49, 3) := all_d dL_law_all5 14 rfl
theorem dL_law_471 : decode cL_law 471 = .ok (.if_icmp .eq 785, 3) := all_d dL_law_all5 15 rfl
theorem dL_law_474 : decode cL_law 474 = .ok (.iconst 0, 1) := all_d dL_law_all5 16 rfl
theorem dL_law_475 : decode cL_law 475 = .ok (.ireturn, 1) := all_d dL_law_all5 17 rfl
theorem dL_law_476 : decode cL_law 476 = .ok (.aload_n 1, 1) := all_d dL_law_all5 18 rfl
theorem dL_law_477 : decode cL_law 477 = .ok (.aload_n 0, 1) := all_d dL_law_all5 19 rfl
theorem dL_law_478 : decode cL_law 478 = .ok (.iload_n 3, 1) := all_d dL_law_all5 20 rfl
theorem dL_law_479 : decode cL_law 479 = .ok (.iconst 1, 1) := all_d dL_law_all5 21 rfl
theorem dL_law_480 : decode cL_law 480 = .ok (.iadd, 1) := all_d dL_law_all5 22 rfl
theorem dL_law_481 : decode cL_law 481 = .ok (.iaload, 1) := all_d dL_law_all5 23 rfl
theorem dL_law_482 : decode cL_law 482 = .ok (.aload_n 0, 1) := all_d dL_law_all5 24 rfl
theorem dL_law_483 : decode cL_law 483 = .ok (.iload_n 3, 1) := all_d dL_law_all5 25 rfl
theorem dL_law_484 : decode cL_law 484 = .ok (.iconst 2, 1) := all_d dL_law_all5 26 rfl
theorem dL_law_485 : decode cL_law 485 = .ok (.iadd, 1) := all_d dL_law_all5 27 rfl
theorem dL_law_486 : decode cL_law 486 = .ok (.iaload, 1) := all_d dL_law_all5 28 rfl
theorem dL_law_487 : decode cL_law 487 = .ok (.invokevirtual 50, 3) := all_d dL_law_all5 29 rfl
theorem dL_law_490 : decode cL_law 490 = .ok (.aload_n 2, 1) := all_d dL_law_all5 30 rfl
theorem dL_law_491 : decode cL_law 491 = .ok (.aload_n 0, 1) := all_d dL_law_all5 31 rfl
theorem dL_law_492 : decode cL_law 492 = .ok (.iload_n 3, 1) := all_d dL_law_all5 32 rfl
theorem dL_law_493 : decode cL_law 493 = .ok (.iconst 1, 1) := all_d dL_law_all5 33 rfl
theorem dL_law_494 : decode cL_law 494 = .ok (.iadd, 1) := all_d dL_law_all5 34 rfl
theorem dL_law_495 : decode cL_law 495 = .ok (.iaload, 1) := all_d dL_law_all5 35 rfl
theorem dL_law_496 : decode cL_law 496 = .ok (.aload_n 0, 1) := all_d dL_law_all5 36 rfl
theorem dL_law_497 : decode cL_law 497 = .ok (.iload_n 3, 1) := all_d dL_law_all5 37 rfl
theorem dL_law_498 : decode cL_law 498 = .ok (.iconst 2, 1) := all_d dL_law_all5 38 rfl
theorem dL_law_499 : decode cL_law 499 = .ok (.iadd, 1) := all_d dL_law_all5 39 rfl
theorem dL_law_500 : decode cL_law 500 = .ok (.iaload, 1) := all_d dL_law_all5 40 rfl
theorem dL_law_501 : decode cL_law 501 = .ok (.invokevirtual 53, 3) := all_d dL_law_all5 41 rfl
theorem dL_law_504 : decode cL_law 504 = .ok (.if_icmp .eq 752, 3) := all_d dL_law_all5 42 rfl
theorem dL_law_507 : decode cL_law 507 = .ok (.iconst 0, 1) := all_d dL_law_all5 43 rfl
theorem dL_law_508 : decode cL_law 508 = .ok (.ireturn, 1) := all_d dL_law_all5 44 rfl
theorem dL_law_509 : decode cL_law 509 = .ok (.aload_n 1, 1) := all_d dL_law_all5 45 rfl
theorem dL_law_510 : decode cL_law 510 = .ok (.aload_n 0, 1) := all_d dL_law_all5 46 rfl
theorem dL_law_511 : decode cL_law 511 = .ok (.iload_n 3, 1) := all_d dL_law_all5 47 rfl
set_option maxRecDepth 100000 in
theorem dL_law_all6 : ([(512, (.iconst 1 : Instr), 1), (513, (.iadd : Instr), 1), (514, (.iaload : Instr), 1), (515, (.aload_n 0 : Instr), 1), (516, (.iload_n 3 : Instr), 1), (517, (.iconst 2 : Instr), 1), (518, (.iadd : Instr), 1), (519, (.iaload : Instr), 1), (520, (.invokevirtual 54 : Instr), 3), (523, (.aload_n 2 : Instr), 1), (524, (.aload_n 0 : Instr), 1), (525, (.iload_n 3 : Instr), 1), (526, (.iconst 1 : Instr), 1), (527, (.iadd : Instr), 1), (528, (.iaload : Instr), 1), (529, (.aload_n 0 : Instr), 1), (530, (.iload_n 3 : Instr), 1), (531, (.iconst 2 : Instr), 1), (532, (.iadd : Instr), 1), (533, (.iaload : Instr), 1), (534, (.invokevirtual 57 : Instr), 3), (537, (.if_icmp .eq 719 : Instr), 3), (540, (.iconst 0 : Instr), 1), (541, (.ireturn : Instr), 1), (542, (.aload_n 1 : Instr), 1), (543, (.aload_n 0 : Instr), 1), (544, (.iload_n 3 : Instr), 1), (545, (.iconst 1 : Instr), 1), (546, (.iadd : Instr), 1), (547, (.iaload : Instr), 1), (548, (.invokevirtual 58 : Instr), 3), (551, (.aload_n 2 : Instr), 1), (552, (.aload_n 0 : Instr), 1), (553, (.iload_n 3 : Instr), 1), (554, (.iconst 1 : Instr), 1), (555, (.iadd : Instr), 1), (556, (.iaload : Instr), 1), (557, (.invokevirtual 61 : Instr), 3), (560, (.if_icmp .eq 696 : Instr), 3), (563, (.iconst 0 : Instr), 1), (564, (.ireturn : Instr), 1), (565, (.aload_n 1 : Instr), 1), (566, (.aload_n 0 : Instr), 1), (567, (.iload_n 3 : Instr), 1), (568, (.iconst 1 : Instr), 1), (569, (.iadd : Instr), 1), (570, (.iaload : Instr), 1), (571, (.aload_n 0 : Instr), 1)] : List (Nat × Instr × Nat)).all (fun q => decide (decode cL_law q.1 = .ok (q.2.1, q.2.2))) = true := by decide +kernel
theorem dL_law_512 : decode cL_law 512 = .ok (.iconst 1, 1) := all_d dL_law_all6 0 rfl
theorem dL_law_513 : decode cL_law 513 = .ok (.iadd, 1) := all_d dL_law_all6 1 rfl
theorem dL_law_514 : decode cL_law 514 = .ok (.iaload, 1) := all_d dL_law_all6 2 rfl
theorem dL_law_515 : decode cL_law 515 = .ok (.aload_n 0, 1) := all_d dL_law_all6 3 rfl
theorem dL_law_516 : decode cL_law 516 = .ok (.iload_n 3, 1) := all_d dL_law_all6 4 rfl
theorem dL_law_517 : decode cL_law 517 = .ok (.iconst 2, 1) := all_d dL_law_all6 5 rfl
theorem dL_law_518 : decode cL_law 518 = .ok (.iadd, 1) := all_d dL_law_all6 6 rfl
theorem dL_law_519 : decode cL_law 519 = .ok (.iaload, 1) := all_d dL_law_all6 7 rfl
theorem dL_law_520 : decode cL_law 520 = .ok (.invokevirtual 54, 3) := all_d dL_law_all6 8 rfl
theorem dL_law_523 : decode cL_law 523 = .ok (.aload_n 2, 1) := all_d dL_law_all6 9 rfl
theorem dL_law_524 : decode cL_law 524 = .ok (.aload_n 0, 1) := all_d dL_law_all6 10 rfl
theorem dL_law_525 : decode cL_law 525 = .ok (.iload_n 3, 1) := all_d dL_law_all6 11 rfl
theorem dL_law_526 : decode cL_law 526 = .ok (.iconst 1, 1) := all_d dL_law_all6 12 rfl
theorem dL_law_527 : decode cL_law 527 = .ok (.iadd, 1) := all_d dL_law_all6 13 rfl
theorem dL_law_528 : decode cL_law 528 = .ok (.iaload, 1) := all_d dL_law_all6 14 rfl
theorem dL_law_529 : decode cL_law 529 = .ok (.aload_n 0, 1) := all_d dL_law_all6 15 rfl
theorem dL_law_530 : decode cL_law 530 = .ok (.iload_n 3, 1) := all_d dL_law_all6 16 rfl
theorem dL_law_531 : decode cL_law 531 = .ok (.iconst 2, 1) := all_d dL_law_all6 17 rfl
theorem dL_law_532 : decode cL_law 532 = .ok (.iadd, 1) := all_d dL_law_all6 18 rfl
theorem dL_law_533 : decode cL_law 533 = .ok (.iaload, 1) := all_d dL_law_all6 19 rfl
theorem dL_law_534 : decode cL_law 534 = .ok (.invokevirtual 57, 3) := all_d dL_law_all6 20 rfl
theorem dL_law_537 : decode cL_law 537 = .ok (.if_icmp .eq 719, 3) := all_d dL_law_all6 21 rfl
theorem dL_law_540 : decode cL_law 540 = .ok (.iconst 0, 1) := all_d dL_law_all6 22 rfl
theorem dL_law_541 : decode cL_law 541 = .ok (.ireturn, 1) := all_d dL_law_all6 23 rfl
theorem dL_law_542 : decode cL_law 542 = .ok (.aload_n 1, 1) := all_d dL_law_all6 24 rfl
theorem dL_law_543 : decode cL_law 543 = .ok (.aload_n 0, 1) := all_d dL_law_all6 25 rfl
theorem dL_law_544 : decode cL_law 544 = .ok (.iload_n 3, 1) := all_d dL_law_all6 26 rfl
theorem dL_law_545 : decode cL_law 545 = .ok (.iconst 1, 1) := all_d dL_law_all6 27 rfl
theorem dL_law_546 : decode cL_law 546 = .ok (.iadd, 1) := all_d dL_law_all6 28 rfl
theorem dL_law_547 : decode cL_law 547 = .ok (.iaload, 1) := all_d dL_law_all6 29 rfl
theorem dL_law_548 : decode cL_law 548 = .ok (.invokevirtual 58, 3) := all_d dL_law_all6 30 rfl
theorem dL_law_551 : decode cL_law 551 = .ok (.aload_n 2, 1) := all_d dL_law_all6 31 rfl
theorem dL_law_552 : decode cL_law 552 = .ok (.aload_n 0, 1) := all_d dL_law_all6 32 rfl
theorem dL_law_553 : decode cL_law 553 = .ok (.iload_n 3, 1) := all_d dL_law_all6 33 rfl
theorem dL_law_554 : decode cL_law 554 = .ok (.iconst 1, 1) := all_d dL_law_all6 34 rfl
theorem dL_law_555 : decode cL_law 555 = .ok (.iadd, 1) := all_d dL_law_all6 35 rfl
theorem dL_law_556 : decode cL_law 556 = .ok (.iaload, 1) := all_d dL_law_all6 36 rfl
theorem dL_law_557 : decode cL_law 557 = .ok (.invokevirtual 61, 3) := all_d dL_law_all6 37 rfl
theorem dL_law_560 : decode cL_law 560 = .ok (.if_icmp .eq 696, 3) := all_d dL_law_all6 38 rfl
theorem dL_law_563 : decode cL_law 563 = .ok (.iconst 0, 1) := all_d dL_law_all6 39 rfl
theorem dL_law_564 : decode cL_law 564 = .ok (.ireturn, 1) := all_d dL_law_all6 40 rfl
theorem dL_law_565 : decode cL_law 565 = .ok (.aload_n 1, 1) := all_d dL_law_all6 41 rfl
theorem dL_law_566 : decode cL_law 566 = .ok (.aload_n 0, 1) := all_d dL_law_all6 42 rfl
theorem dL_law_567 : decode cL_law 567 = .ok (.iload_n 3, 1) := all_d dL_law_all6 43 rfl
theorem dL_law_568 : decode cL_law 568 = .ok (.iconst 1, 1) := all_d dL_law_all6 44 rfl
theorem dL_law_569 : decode cL_law 569 = .ok (.iadd, 1) := all_d dL_law_all6 45 rfl
theorem dL_law_570 : decode cL_law 570 = .ok (.iaload, 1) := all_d dL_law_all6 46 rfl
theorem dL_law_571 : decode cL_law 571 = .ok (.aload_n 0, 1) := all_d dL_law_all6 47 rfl
set_option maxRecDepth 100000 in
theorem dL_law_all7 : ([(572, (.iload_n 3 : Instr), 1), (573, (.iconst 2 : Instr), 1), (574, (.iadd : Instr), 1), (575, (.iaload : Instr), 1), (576, (.aload_n 0 : Instr), 1), (577, (.iload_n 3 : Instr), 1), (578, (.iconst 3 : Instr), 1), (579, (.iadd : Instr), 1), (580, (.iaload : Instr), 1), (581, (.invokevirtual 62 : Instr), 3), (584, (.aload_n 2 : Instr), 1), (585, (.aload_n 0 : Instr), 1), (586, (.iload_n 3 : Instr), 1), (587, (.iconst 1 : Instr), 1), (588, (.iadd : Instr), 1), (589, (.iaload : Instr), 1), (590, (.aload_n 0 : Instr), 1), (591, (.iload_n 3 : Instr), 1), (592, (.iconst 2 : Instr), 1), (593, (.iadd : Instr), 1), (594, (.iaload : Instr), 1), (595, (.aload_n 0 : Instr), 1), (596, (.iload_n 3 : Instr), 1), (597, (.iconst 3 : Instr), 1), (598, (.iadd : Instr), 1), (599, (.iaload : Instr), 1), (600, (.invokevirtual 65 : Instr), 3), (603, (.if_icmp .eq 653 : Instr), 3), (606, (.iconst 0 : Instr), 1), (607, (.ireturn : Instr), 1), (608, (.aload_n 1 : Instr), 1), (609, (.aload_n 0 : Instr), 1), (610, (.iload_n 3 : Instr), 1), (611, (.iconst 1 : Instr), 1), (612, (.iadd : Instr), 1), (613, (.iaload : Instr), 1), (614, (.invokevirtual 66 : Instr), 3), (617, (.aload_n 2 : Instr), 1), (618, (.aload_n 0 : Instr), 1), (619, (.iload_n 3 : Instr), 1), (620, (.iconst 1 : Instr), 1), (621, (.iadd : Instr), 1), (622, (.iaload : Instr), 1), (623, (.invokevirtual 69 : Instr), 3), (626, (.if_icmp .eq 630 : Instr), 3), (629, (.iconst 0 : Instr), 1), (630, (.ireturn : Instr), 1), (631, (.aload_n 1 : Instr), 1)] : List (Nat × Instr × Nat)).all (fun q => decide (decode cL_law q.1 = .ok (q.2.1, q.2.2))) = true := by decide +kernel
theorem dL_law_572 : decode cL_law 572 = .ok (.iload_n 3, 1) := all_d dL_law_all7 0 rfl
theorem dL_law_573 : decode cL_law 573 = .ok (.iconst 2, 1) := all_d dL_law_all7 1 rfl
theorem dL_law_574 : decode cL_law 574 = .ok (.iadd, 1) := all_d dL_law_all7 2 rfl
theorem dL_law_575 : decode cL_law 575 = .ok (.iaload, 1) := all_d dL_law_all7 3 rfl
theorem dL_law_576 : decode cL_law 576 = .ok (.aload_n 0, 1) := all_d dL_law_all7 4 rfl
theorem dL_law_577 : decode cL_law 577 = .ok (.iload_n 3, 1) := all_d dL_law_all7 5 rfl
theorem dL_law_578 : decode cL_law 578 = .ok (.iconst 3, 1) := all_d dL_law_all7 6 rfl
theorem dL_law_579 : decode cL_law 579 = .ok (.iadd, 1) := all_d dL_law_all7 7 rfl
theorem dL_law_580 : decode cL_law 580 = .ok (.iaload, 1) := all_d dL_law_all7 8 rfl
theorem dL_law_581 : decode cL_law 581 = .ok (.invokevirtual 62, 3) := all_d dL_law_all7 9 rfl
theorem dL_law_584 : decode cL_law 584 = .ok (.aload_n 2, 1) := all_d dL_law_all7 10 rfl
theorem dL_law_585 : decode cL_law 585 = .ok (.aload_n 0, 1) := all_d dL_law_all7 11 rfl
theorem dL_law_586 : decode cL_law 586 = .ok (.iload_n 3, 1) := all_d dL_law_all7 12 rfl
theorem dL_law_587 : decode cL_law 587 = .ok (.iconst 1, 1) := all_d dL_law_all7 13 rfl
theorem dL_law_588 : decode cL_law 588 = .ok (.iadd, 1) := all_d dL_law_all7 14 rfl
theorem dL_law_589 : decode cL_law 589 = .ok (.iaload, 1) := all_d dL_law_all7 15 rfl
theorem dL_law_590 : decode cL_law 590 = .ok (.aload_n 0, 1) := all_d dL_law_all7 16 rfl
theorem dL_law_591 : decode cL_law 591 = .ok (.iload_n 3, 1) := all_d dL_law_all7 17 rfl
theorem dL_law_592 : decode cL_law 592 = .ok (.iconst 2, 1) := all_d dL_law_all7 18 rfl
theorem dL_law_593 : decode cL_law 593 = .ok (.iadd, 1) := all_d dL_law_all7 19 rfl
theorem dL_law_594 : decode cL_law 594 = .ok (.iaload, 1) := all_d dL_law_all7 20 rfl
theorem dL_law_595 : decode cL_law 595 = .ok (.aload_n 0, 1) := all_d dL_law_all7 21 rfl
theorem dL_law_596 : decode cL_law 596 = .ok (.iload_n 3, 1) := all_d dL_law_all7 22 rfl
theorem dL_law_597 : decode cL_law 597 = .ok (.iconst 3, 1) := all_d dL_law_all7 23 rfl
theorem dL_law_598 : decode cL_law 598 = .ok (.iadd, 1) := all_d dL_law_all7 24 rfl
theorem dL_law_599 : decode cL_law 599 = .ok (.iaload, 1) := all_d dL_law_all7 25 rfl
theorem dL_law_600 : decode cL_law 600 = .ok (.invokevirtual 65, 3) := all_d dL_law_all7 26 rfl
theorem dL_law_603 : decode cL_law 603 = .ok (.if_icmp .eq 653, 3) := all_d dL_law_all7 27 rfl
theorem dL_law_606 : decode cL_law 606 = .ok (.iconst 0, 1) := all_d dL_law_all7 28 rfl
theorem dL_law_607 : decode cL_law 607 = .ok (.ireturn, 1) := all_d dL_law_all7 29 rfl
theorem dL_law_608 : decode cL_law 608 = .ok (.aload_n 1, 1) := all_d dL_law_all7 30 rfl
theorem dL_law_609 : decode cL_law 609 = .ok (.aload_n 0, 1) := all_d dL_law_all7 31 rfl
theorem dL_law_610 : decode cL_law 610 = .ok (.iload_n 3, 1) := all_d dL_law_all7 32 rfl
theorem dL_law_611 : decode cL_law 611 = .ok (.iconst 1, 1) := all_d dL_law_all7 33 rfl
theorem dL_law_612 : decode cL_law 612 = .ok (.iadd, 1) := all_d dL_law_all7 34 rfl
theorem dL_law_613 : decode cL_law 613 = .ok (.iaload, 1) := all_d dL_law_all7 35 rfl
theorem dL_law_614 : decode cL_law 614 = .ok (.invokevirtual 66, 3) := all_d dL_law_all7 36 rfl
theorem dL_law_617 : decode cL_law 617 = .ok (.aload_n 2, 1) := all_d dL_law_all7 37 rfl
theorem dL_law_618 : decode cL_law 618 = .ok (.aload_n 0, 1) := all_d dL_law_all7 38 rfl
theorem dL_law_619 : decode cL_law 619 = .ok (.iload_n 3, 1) := all_d dL_law_all7 39 rfl
theorem dL_law_620 : decode cL_law 620 = .ok (.iconst 1, 1) := all_d dL_law_all7 40 rfl
theorem dL_law_621 : decode cL_law 621 = .ok (.iadd, 1) := all_d dL_law_all7 41 rfl
theorem dL_law_622 : decode cL_law 622 = .ok (.iaload, 1) := all_d dL_law_all7 42 rfl
theorem dL_law_623 : decode cL_law 623 = .ok (.invokevirtual 69, 3) := all_d dL_law_all7 43 rfl
theorem dL_law_626 : decode cL_law 626 = .ok (.if_icmp .eq 630, 3) := all_d dL_law_all7 44 rfl
theorem dL_law_629 : decode cL_law 629 = .ok (.iconst 0, 1) := all_d dL_law_all7 45 rfl
theorem dL_law_630 : decode cL_law 630 = .ok (.ireturn, 1) := all_d dL_law_all7 46 rfl
theorem dL_law_631 : decode cL_law 631 = .ok (.aload_n 1, 1) := all_d dL_law_all7 47 rfl
set_option maxRecDepth 100000 in
theorem dL_law_all8 : ([(632, (.aload_n 0 : Instr), 1), (633, (.iload_n 3 : Instr), 1), (634, (.iconst 1 : Instr), 1), (635, (.iadd : Instr), 1), (636, (.iaload : Instr), 1), (637, (.invokevirtual 70 : Instr), 3), (640, (.aload_n 2 : Instr), 1), (641, (.aload_n 0 : Instr), 1), (642, (.iload_n 3 : Instr), 1), (643, (.iconst 1 : Instr), 1), (644, (.iadd : Instr), 1), (645, (.iaload : Instr), 1), (646, (.invokevirtual 73 : Instr), 3), (649, (.if_icmp .eq 607 : Instr), 3), (652, (.iconst 0 : Instr), 1), (653, (.ireturn : Instr), 1), (654, (.aload_n 1 : Instr), 1), (655, (.aload_n 0 : Instr), 1), (656, (.iload_n 3 : Instr), 1), (657, (.iconst 1 : Instr), 1), (658, (.iadd : Instr), 1), (659, (.iaload : Instr), 1), (660, (.invokevirtual 74 : Instr), 3), (663, (.aload_n 2 : Instr), 1), (664, (.aload_n 0 : Instr), 1), (665, (.iload_n 3 : Instr), 1), (666, (.iconst 1 : Instr), 1), (667, (.iadd : Instr), 1), (668, (.iaload : Instr), 1), (669, (.invokevirtual 77 : Instr), 3), (672, (.if_icmp .eq 584 : Instr), 3), (675, (.iconst 0 : Instr), 1), (676, (.ireturn : Instr), 1), (677, (.aload_n 1 : Instr), 1), (678, (.aload_n 0 : Instr), 1), (679, (.iload_n 3 : Instr), 1), (680, (.iconst 1 : Instr), 1), (681, (.iadd : Instr), 1), (682, (.iaload : Instr), 1), (683, (.invokevirtual 78 : Instr), 3), (686, (.aload_n 2 : Instr), 1), (687, (.aload_n 0 : Instr), 1), (688, (.iload_n 3 : Instr), 1), (689, (.iconst 1 : Instr), 1), (690, (.iadd : Instr), 1), (691, (.iaload : Instr), 1), (692, (.invokevirtual 81 : Instr), 3), (695, (.if_icmp .eq 561 : Instr), 3)] : List (Nat × Instr × Nat)).all (fun q => decide (decode cL_law q.1 = .ok (q.2.1, q.2.2))) = true := by decide +kernel
theorem dL_law_632 : decode cL_law 632 = .ok (.aload_n 0, 1) := all_d dL_law_all8 0 rfl
theorem dL_law_633 : decode cL_law 633 = .ok (.iload_n 3, 1) := all_d dL_law_all8 1 rfl
theorem dL_law_634 : decode cL_law 634 = .ok (.iconst 1, 1) := all_d dL_law_all8 2 rfl
theorem dL_law_635 : decode cL_law 635 = .ok (.iadd, 1) := all_d dL_law_all8 3 rfl
theorem dL_law_636 : decode cL_law 636 = .ok (.iaload, 1) := all_d dL_law_all8 4 rfl
theorem dL_law_637 : decode cL_law 637 = .ok (.invokevirtual 70, 3) := all_d dL_law_all8 5 rfl
theorem dL_law_640 : decode cL_law 640 = .ok (.aload_n 2, 1) := all_d dL_law_all8 6 rfl
theorem dL_law_641 : decode cL_law 641 = .ok (.aload_n 0, 1) := all_d dL_law_all8 7 rfl
theorem dL_law_642 : decode cL_law 642 = .ok (.iload_n 3, 1) := all_d dL_law_all8 8 rfl
theorem dL_law_643 : decode cL_law 643 = .ok (.iconst 1, 1) := all_d dL_law_all8 9 rfl
theorem dL_law_644 : decode cL_law 644 = .ok (.iadd, 1) := all_d dL_law_all8 10 rfl
theorem dL_law_645 : decode cL_law 645 = .ok (.iaload, 1) := all_d dL_law_all8 11 rfl
theorem dL_law_646 : decode cL_law 646 = .ok (.invokevirtual 73, 3) := all_d dL_law_all8 12 rfl
theorem dL_law_649 : decode cL_law 649 = .ok (.if_icmp .eq 607, 3) := all_d dL_law_all8 13 rfl
theorem dL_law_652 : decode cL_law 652 = .ok (.iconst 0, 1) := all_d dL_law_all8 14 rfl
theorem dL_law_653 : decode cL_law 653 = .ok (.ireturn, 1) := all_d dL_law_all8 15 rfl
theorem dL_law_654 : decode cL_law 654 = .ok (.aload_n 1, 1) := all_d dL_law_all8 16 rfl
theorem dL_law_655 : decode cL_law 655 = .ok (.aload_n 0, 1) := all_d dL_law_all8 17 rfl
theorem dL_law_656 : decode cL_law 656 = .ok (.iload_n 3, 1) := all_d dL_law_all8 18 rfl
theorem dL_law_657 : decode cL_law 657 = .ok (.iconst 1, 1) := all_d dL_law_all8 19 rfl
theorem dL_law_658 : decode cL_law 658 = .ok (.iadd, 1) := all_d dL_law_all8 20 rfl
theorem dL_law_659 : decode cL_law 659 = .ok (.iaload, 1) := all_d dL_law_all8 21 rfl
theorem dL_law_660 : decode cL_law 660 = .ok (.invokevirtual 74, 3) := all_d dL_law_all8 22 rfl
theorem dL_law_663 : decode cL_law 663 = .ok (.aload_n 2, 1) := all_d dL_law_all8 23 rfl
theorem dL_law_664 : decode cL_law 664 = .ok (.aload_n 0, 1) := all_d dL_law_all8 24 rfl
theorem dL_law_665 : decode cL_law 665 = .ok (.iload_n 3, 1) := all_d dL_law_all8 25 rfl
theorem dL_law_666 : decode cL_law 666 = .ok (.iconst 1, 1) := all_d dL_law_all8 26 rfl
theorem dL_law_667 : decode cL_law 667 = .ok (.iadd, 1) := all_d dL_law_all8 27 rfl
theorem dL_law_668 : decode cL_law 668 = .ok (.iaload, 1) := all_d dL_law_all8 28 rfl
theorem dL_law_669 : decode cL_law 669 = .ok (.invokevirtual 77, 3) := all_d dL_law_all8 29 rfl
theorem dL_law_672 : decode cL_law 672 = .ok (.if_icmp .eq 584, 3) := all_d dL_law_all8 30 rfl
theorem dL_law_675 : decode cL_law 675 = .ok (.iconst 0, 1) := all_d dL_law_all8 31 rfl
theorem dL_law_676 : decode cL_law 676 = .ok (.ireturn, 1) := all_d dL_law_all8 32 rfl
theorem dL_law_677 : decode cL_law 677 = .ok (.aload_n 1, 1) := all_d dL_law_all8 33 rfl
theorem dL_law_678 : decode cL_law 678 = .ok (.aload_n 0, 1) := all_d dL_law_all8 34 rfl
theorem dL_law_679 : decode cL_law 679 = .ok (.iload_n 3, 1) := all_d dL_law_all8 35 rfl
theorem dL_law_680 : decode cL_law 680 = .ok (.iconst 1, 1) := all_d dL_law_all8 36 rfl
theorem dL_law_681 : decode cL_law 681 = .ok (.iadd, 1) := all_d dL_law_all8 37 rfl
theorem dL_law_682 : decode cL_law 682 = .ok (.iaload, 1) := all_d dL_law_all8 38 rfl
theorem dL_law_683 : decode cL_law 683 = .ok (.invokevirtual 78, 3) := all_d dL_law_all8 39 rfl
theorem dL_law_686 : decode cL_law 686 = .ok (.aload_n 2, 1) := all_d dL_law_all8 40 rfl
theorem dL_law_687 : decode cL_law 687 = .ok (.aload_n 0, 1) := all_d dL_law_all8 41 rfl
theorem dL_law_688 : decode cL_law 688 = .ok (.iload_n 3, 1) := all_d dL_law_all8 42 rfl
theorem dL_law_689 : decode cL_law 689 = .ok (.iconst 1, 1) := all_d dL_law_all8 43 rfl
theorem dL_law_690 : decode cL_law 690 = .ok (.iadd, 1) := all_d dL_law_all8 44 rfl
theorem dL_law_691 : decode cL_law 691 = .ok (.iaload, 1) := all_d dL_law_all8 45 rfl
theorem dL_law_692 : decode cL_law 692 = .ok (.invokevirtual 81, 3) := all_d dL_law_all8 46 rfl
theorem dL_law_695 : decode cL_law 695 = .ok (.if_icmp .eq 561, 3) := all_d dL_law_all8 47 rfl
set_option maxRecDepth 100000 in
theorem dL_law_all9 : ([(698, (.iconst 0 : Instr), 1), (699, (.ireturn : Instr), 1), (700, (.aload_n 1 : Instr), 1), (701, (.aload_n 0 : Instr), 1), (702, (.iload_n 3 : Instr), 1), (703, (.iconst 1 : Instr), 1), (704, (.iadd : Instr), 1), (705, (.iaload : Instr), 1), (706, (.aload_n 0 : Instr), 1), (707, (.iload_n 3 : Instr), 1), (708, (.iconst 2 : Instr), 1), (709, (.iadd : Instr), 1), (710, (.iaload : Instr), 1), (711, (.invokevirtual 82 : Instr), 3), (714, (.aload_n 2 : Instr), 1), (715, (.aload_n 0 : Instr), 1), (716, (.iload_n 3 : Instr), 1), (717, (.iconst 1 : Instr), 1), (718, (.iadd : Instr), 1), (719, (.iaload : Instr), 1), (720, (.aload_n 0 : Instr), 1), (721, (.iload_n 3 : Instr), 1), (722, (.iconst 2 : Instr), 1), (723, (.iadd : Instr), 1), (724, (.iaload : Instr), 1), (725, (.invokevirtual 85 : Instr), 3), (728, (.if_icmp .eq 528 : Instr), 3), (731, (.iconst 0 : Instr), 1), (732, (.ireturn : Instr), 1), (733, (.aload_n 1 : Instr), 1), (734, (.aload_n 0 : Instr), 1), (735, (.iload_n 3 : Instr), 1), (736, (.iconst 1 : Instr), 1), (737, (.iadd : Instr), 1), (738, (.iaload : Instr), 1), (739, (.aload_n 0 : Instr), 1), (740, (.iload_n 3 : Instr), 1), (741, (.iconst 2 : Instr), 1), (742, (.iadd : Instr), 1), (743, (.iaload : Instr), 1), (744, (.invokevirtual 86 : Instr), 3), (747, (.aload_n 2 : Instr), 1), (748, (.aload_n 0 : Instr), 1), (749, (.iload_n 3 : Instr), 1), (750, (.iconst 1 : Instr), 1), (751, (.iadd : Instr), 1), (752, (.iaload : Instr), 1), (753, (.aload_n 0 : Instr), 1)] : List (Nat × Instr × Nat)).all (fun q => decide (decode cL_law q.1 = .ok (q.2.1, q.2.2))) = true := by decide +kernel
theorem dL_law_698 : decode cL_law 698 = .ok (.iconst 0, 1) := all_d dL_law_all9 0 rfl
theorem dL_law_699 : decode cL_law 699 = .ok (.ireturn, 1) := all_d dL_law_all9 1 rfl
theorem dL_law_700 : decode cL_law 700 = .ok (.aload_n 1, 1) := all_d dL_law_all9 2 rfl
theorem dL_law_701 : decode cL_law 701 = .ok (.aload_n 0, 1) := all_d dL_law_all9 3 rfl
theorem dL_law_702 : decode cL_law 702 = .ok (.iload_n 3, 1) := all_d dL_law_all9 4 rfl
theorem dL_law_703 : decode cL_law 703 = .ok (.iconst 1, 1) := all_d dL_law_all9 5 rfl
theorem dL_law_704 : decode cL_law 704 = .ok (.iadd, 1) := all_d dL_law_all9 6 rfl
theorem dL_law_705 : decode cL_law 705 = .ok (.iaload, 1) := all_d dL_law_all9 7 rfl
theorem dL_law_706 : decode cL_law 706 = .ok (.aload_n 0, 1) := all_d dL_law_all9 8 rfl
theorem dL_law_707 : decode cL_law 707 = .ok (.iload_n 3, 1) := all_d dL_law_all9 9 rfl
theorem dL_law_708 : decode cL_law 708 = .ok (.iconst 2, 1) := all_d dL_law_all9 10 rfl
theorem dL_law_709 : decode cL_law 709 = .ok (.iadd, 1) := all_d dL_law_all9 11 rfl
theorem dL_law_710 : decode cL_law 710 = .ok (.iaload, 1) := all_d dL_law_all9 12 rfl
theorem dL_law_711 : decode cL_law 711 = .ok (.invokevirtual 82, 3) := all_d dL_law_all9 13 rfl
theorem dL_law_714 : decode cL_law 714 = .ok (.aload_n 2, 1) := all_d dL_law_all9 14 rfl
theorem dL_law_715 : decode cL_law 715 = .ok (.aload_n 0, 1) := all_d dL_law_all9 15 rfl
theorem dL_law_716 : decode cL_law 716 = .ok (.iload_n 3, 1) := all_d dL_law_all9 16 rfl
theorem dL_law_717 : decode cL_law 717 = .ok (.iconst 1, 1) := all_d dL_law_all9 17 rfl
theorem dL_law_718 : decode cL_law 718 = .ok (.iadd, 1) := all_d dL_law_all9 18 rfl
theorem dL_law_719 : decode cL_law 719 = .ok (.iaload, 1) := all_d dL_law_all9 19 rfl
theorem dL_law_720 : decode cL_law 720 = .ok (.aload_n 0, 1) := all_d dL_law_all9 20 rfl
theorem dL_law_721 : decode cL_law 721 = .ok (.iload_n 3, 1) := all_d dL_law_all9 21 rfl
theorem dL_law_722 : decode cL_law 722 = .ok (.iconst 2, 1) := all_d dL_law_all9 22 rfl
theorem dL_law_723 : decode cL_law 723 = .ok (.iadd, 1) := all_d dL_law_all9 23 rfl
theorem dL_law_724 : decode cL_law 724 = .ok (.iaload, 1) := all_d dL_law_all9 24 rfl
theorem dL_law_725 : decode cL_law 725 = .ok (.invokevirtual 85, 3) := all_d dL_law_all9 25 rfl
theorem dL_law_728 : decode cL_law 728 = .ok (.if_icmp .eq 528, 3) := all_d dL_law_all9 26 rfl
theorem dL_law_731 : decode cL_law 731 = .ok (.iconst 0, 1) := all_d dL_law_all9 27 rfl
theorem dL_law_732 : decode cL_law 732 = .ok (.ireturn, 1) := all_d dL_law_all9 28 rfl
theorem dL_law_733 : decode cL_law 733 = .ok (.aload_n 1, 1) := all_d dL_law_all9 29 rfl
theorem dL_law_734 : decode cL_law 734 = .ok (.aload_n 0, 1) := all_d dL_law_all9 30 rfl
theorem dL_law_735 : decode cL_law 735 = .ok (.iload_n 3, 1) := all_d dL_law_all9 31 rfl
theorem dL_law_736 : decode cL_law 736 = .ok (.iconst 1, 1) := all_d dL_law_all9 32 rfl
theorem dL_law_737 : decode cL_law 737 = .ok (.iadd, 1) := all_d dL_law_all9 33 rfl
theorem dL_law_738 : decode cL_law 738 = .ok (.iaload, 1) := all_d dL_law_all9 34 rfl
theorem dL_law_739 : decode cL_law 739 = .ok (.aload_n 0, 1) := all_d dL_law_all9 35 rfl
theorem dL_law_740 : decode cL_law 740 = .ok (.iload_n 3, 1) := all_d dL_law_all9 36 rfl
theorem dL_law_741 : decode cL_law 741 = .ok (.iconst 2, 1) := all_d dL_law_all9 37 rfl
theorem dL_law_742 : decode cL_law 742 = .ok (.iadd, 1) := all_d dL_law_all9 38 rfl
theorem dL_law_743 : decode cL_law 743 = .ok (.iaload, 1) := all_d dL_law_all9 39 rfl
theorem dL_law_744 : decode cL_law 744 = .ok (.invokevirtual 86, 3) := all_d dL_law_all9 40 rfl
theorem dL_law_747 : decode cL_law 747 = .ok (.aload_n 2, 1) := all_d dL_law_all9 41 rfl
theorem dL_law_748 : decode cL_law 748 = .ok (.aload_n 0, 1) := all_d dL_law_all9 42 rfl
theorem dL_law_749 : decode cL_law 749 = .ok (.iload_n 3, 1) := all_d dL_law_all9 43 rfl
theorem dL_law_750 : decode cL_law 750 = .ok (.iconst 1, 1) := all_d dL_law_all9 44 rfl
theorem dL_law_751 : decode cL_law 751 = .ok (.iadd, 1) := all_d dL_law_all9 45 rfl
theorem dL_law_752 : decode cL_law 752 = .ok (.iaload, 1) := all_d dL_law_all9 46 rfl
theorem dL_law_753 : decode cL_law 753 = .ok (.aload_n 0, 1) := all_d dL_law_all9 47 rfl
set_option maxRecDepth 100000 in
theorem dL_law_all10 : ([(754, (.iload_n 3 : Instr), 1), (755, (.iconst 2 : Instr), 1), (756, (.iadd : Instr), 1), (757, (.iaload : Instr), 1), (758, (.invokevirtual 89 : Instr), 3), (761, (.if_icmp .eq 495 : Instr), 3), (764, (.iconst 0 : Instr), 1), (765, (.ireturn : Instr), 1), (766, (.aload_n 1 : Instr), 1), (767, (.aload_n 0 : Instr), 1), (768, (.iload_n 3 : Instr), 1), (769, (.iconst 1 : Instr), 1), (770, (.iadd : Instr), 1), (771, (.iaload : Instr), 1), (772, (.invokevirtual 90 : Instr), 3), (775, (.aload_n 2 : Instr), 1), (776, (.aload_n 0 : Instr), 1), (777, (.iload_n 3 : Instr), 1), (778, (.iconst 1 : Instr), 1), (779, (.iadd : Instr), 1), (780, (.iaload : Instr), 1), (781, (.invokevirtual 93 : Instr), 3), (784, (.if_icmp .eq 472 : Instr), 3), (787, (.iconst 0 : Instr), 1), (788, (.ireturn : Instr), 1), (789, (.aload_n 1 : Instr), 1), (790, (.aload_n 0 : Instr), 1), (791, (.iload_n 3 : Instr), 1), (792, (.iconst 1 : Instr), 1), (793, (.iadd : Instr), 1), (794, (.iaload : Instr), 1), (795, (.invokevirtual 94 : Instr), 3), (798, (.aload_n 2 : Instr), 1), (799, (.aload_n 0 : Instr), 1), (800, (.iload_n 3 : Instr), 1), (801, (.iconst 1 : Instr), 1), (802, (.iadd : Instr), 1), (803, (.iaload : Instr), 1), (804, (.invokevirtual 97 : Instr), 3), (807, (.if_icmp .eq 449 : Instr), 3), (810, (.iconst 0 : Instr), 1), (811, (.ireturn : Instr), 1), (812, (.aload_n 1 : Instr), 1), (813, (.aload_n 0 : Instr), 1), (814, (.iload_n 3 : Instr), 1), (815, (.iconst 1 : Instr), 1), (816, (.iadd : Instr), 1), (817, (.iaload : Instr), 1)] : List (Nat × Instr × Nat)).all (fun q => decide (decode cL_law q.1 = .ok (q.2.1, q.2.2))) = true := by decide +kernel
theorem dL_law_754 : decode cL_law 754 = .ok (.iload_n 3, 1) := all_d dL_law_all10 0 rfl
theorem dL_law_755 : decode cL_law 755 = .ok (.iconst 2, 1) := all_d dL_law_all10 1 rfl
theorem dL_law_756 : decode cL_law 756 = .ok (.iadd, 1) := all_d dL_law_all10 2 rfl
theorem dL_law_757 : decode cL_law 757 = .ok (.iaload, 1) := all_d dL_law_all10 3 rfl
theorem dL_law_758 : decode cL_law 758 = .ok (.invokevirtual 89, 3) := all_d dL_law_all10 4 rfl
theorem dL_law_761 : decode cL_law 761 = .ok (.if_icmp .eq 495, 3) := all_d dL_law_all10 5 rfl
theorem dL_law_764 : decode cL_law 764 = .ok (.iconst 0, 1) := all_d dL_law_all10 6 rfl
theorem dL_law_765 : decode cL_law 765 = .ok (.ireturn, 1) := all_d dL_law_all10 7 rfl
theorem dL_law_766 : decode cL_law 766 = .ok (.aload_n 1, 1) := all_d dL_law_all10 8 rfl
theorem dL_law_767 : decode cL_law 767 = .ok (.aload_n 0, 1) := all_d dL_law_all10 9 rfl
theorem dL_law_768 : decode cL_law 768 = .ok (.iload_n 3, 1) := all_d dL_law_all10 10 rfl
theorem dL_law_769 : decode cL_law 769 = .ok (.iconst 1, 1) := all_d dL_law_all10 11 rfl
theorem dL_law_770 : decode cL_law 770 = .ok (.iadd, 1) := all_d dL_law_all10 12 rfl
theorem dL_law_771 : decode cL_law 771 = .ok (.iaload, 1) := all_d dL_law_all10 13 rfl
theorem dL_law_772 : decode cL_law 772 = .ok (.invokevirtual 90, 3) := all_d dL_law_all10 14 rfl
theorem dL_law_775 : decode cL_law 775 = .ok (.aload_n 2, 1) := all_d dL_law_all10 15 rfl
theorem dL_law_776 : decode cL_law 776 = .ok (.aload_n 0, 1) := all_d dL_law_all10 16 rfl
theorem dL_law_777 : decode cL_law 777 = .ok (.iload_n 3, 1) := all_d dL_law_all10 17 rfl
theorem dL_law_778 : decode cL_law 778 = .ok (.iconst 1, 1) := all_d dL_law_all10 18 rfl
theorem dL_law_779 : decode cL_law 779 = .ok (.iadd, 1) := all_d dL_law_all10 19 rfl
theorem dL_law_780 : decode cL_law 780 = .ok (.iaload, 1) := all_d dL_law_all10 20 rfl
theorem dL_law_781 : decode cL_law 781 = .ok (.invokevirtual 93, 3) := all_d dL_law_all10 21 rfl
theorem dL_law_784 : decode cL_law 784 = .ok (.if_icmp .eq 472, 3) := all_d dL_law_all10 22 rfl
theorem dL_law_787 : decode cL_law 787 = .ok (.iconst 0, 1) := all_d dL_law_all10 23 rfl
theorem dL_law_788 : decode cL_law 788 = .ok (.ireturn, 1) := all_d dL_law_all10 24 rfl
theorem dL_law_789 : decode cL_law 789 = .ok (.aload_n 1, 1) := all_d dL_law_all10 25 rfl
theorem dL_law_790 : decode cL_law 790 = .ok (.aload_n 0, 1) := all_d dL_law_all10 26 rfl
theorem dL_law_791 : decode cL_law 791 = .ok (.iload_n 3, 1) := all_d dL_law_all10 27 rfl
theorem dL_law_792 : decode cL_law 792 = .ok (.iconst 1, 1) := all_d dL_law_all10 28 rfl
theorem dL_law_793 : decode cL_law 793 = .ok (.iadd, 1) := all_d dL_law_all10 29 rfl
theorem dL_law_794 : decode cL_law 794 = .ok (.iaload, 1) := all_d dL_law_all10 30 rfl
theorem dL_law_795 : decode cL_law 795 = .ok (.invokevirtual 94, 3) := all_d dL_law_all10 31 rfl
theorem dL_law_798 : decode cL_law 798 = .ok (.aload_n 2, 1) := all_d dL_law_all10 32 rfl
theorem dL_law_799 : decode cL_law 799 = .ok (.aload_n 0, 1) := all_d dL_law_all10 33 rfl
theorem dL_law_800 : decode cL_law 800 = .ok (.iload_n 3, 1) := all_d dL_law_all10 34 rfl
theorem dL_law_801 : decode cL_law 801 = .ok (.iconst 1, 1) := all_d dL_law_all10 35 rfl
theorem dL_law_802 : decode cL_law 802 = .ok (.iadd, 1) := all_d dL_law_all10 36 rfl
theorem dL_law_803 : decode cL_law 803 = .ok (.iaload, 1) := all_d dL_law_all10 37 rfl
theorem dL_law_804 : decode cL_law 804 = .ok (.invokevirtual 97, 3) := all_d dL_law_all10 38 rfl
theorem dL_law_807 : decode cL_law 807 = .ok (.if_icmp .eq 449, 3) := all_d dL_law_all10 39 rfl
theorem dL_law_810 : decode cL_law 810 = .ok (.iconst 0, 1) := all_d dL_law_all10 40 rfl
theorem dL_law_811 : decode cL_law 811 = .ok (.ireturn, 1) := all_d dL_law_all10 41 rfl
theorem dL_law_812 : decode cL_law 812 = .ok (.aload_n 1, 1) := all_d dL_law_all10 42 rfl
theorem dL_law_813 : decode cL_law 813 = .ok (.aload_n 0, 1) := all_d dL_law_all10 43 rfl
theorem dL_law_814 : decode cL_law 814 = .ok (.iload_n 3, 1) := all_d dL_law_all10 44 rfl
theorem dL_law_815 : decode cL_law 815 = .ok (.iconst 1, 1) := all_d dL_law_all10 45 rfl
theorem dL_law_816 : decode cL_law 816 = .ok (.iadd, 1) := all_d dL_law_all10 46 rfl
theorem dL_law_817 : decode cL_law 817 = .ok (.iaload, 1) := all_d dL_law_all10 47 rfl
set_option maxRecDepth 100000 in
theorem dL_law_all11 : ([(818, (.invokevirtual 98 : Instr), 3), (821, (.aload_n 2 : Instr), 1), (822, (.aload_n 0 : Instr), 1), (823, (.iload_n 3 : Instr), 1), (824, (.iconst 1 : Instr), 1), (825, (.iadd : Instr), 1), (826, (.iaload : Instr), 1), (827, (.invokevirtual 101 : Instr), 3), (830, (.if_icmp .eq 426 : Instr), 3), (833, (.iconst 0 : Instr), 1), (834, (.ireturn : Instr), 1), (835, (.aload_n 1 : Instr), 1), (836, (.aload_n 0 : Instr), 1), (837, (.iload_n 3 : Instr), 1), (838, (.iconst 1 : Instr), 1), (839, (.iadd : Instr), 1), (840, (.iaload : Instr), 1), (841, (.aload_n 0 : Instr), 1), (842, (.iload_n 3 : Instr), 1), (843, (.iconst 2 : Instr), 1), (844, (.iadd : Instr), 1), (845, (.iaload : Instr), 1), (846, (.aload_n 0 : Instr), 1), (847, (.iload_n 3 : Instr), 1), (848, (.iconst 3 : Instr), 1), (849, (.iadd : Instr), 1), (850, (.iaload : Instr), 1), (851, (.aload_n 0 : Instr), 1), (852, (.iload_n 3 : Instr), 1), (853, (.iconst 4 : Instr), 1), (854, (.iadd : Instr), 1), (855, (.iaload : Instr), 1), (856, (.aload_n 0 : Instr), 1), (857, (.iload_n 3 : Instr), 1), (858, (.iconst 5 : Instr), 1), (859, (.iadd : Instr), 1), (860, (.iaload : Instr), 1), (861, (.invokevirtual 102 : Instr), 3), (864, (.aload_n 2 : Instr), 1), (865, (.aload_n 0 : Instr), 1), (866, (.iload_n 3 : Instr), 1), (867, (.iconst 1 : Instr), 1), (868, (.iadd : Instr), 1), (869, (.iaload : Instr), 1), (870, (.aload_n 0 : Instr), 1), (871, (.iload_n 3 : Instr), 1), (872, (.iconst 2 : Instr), 1), (873, (.iadd : Instr), 1)] : List (Nat × Instr × Nat)).all (fun q => decide (decode cL_law q.1 = .ok (q.2.1, q.2.2))) = true := by decide +kernel
theorem dL_law_818 : decode cL_law 818 = .ok (.invokevirtual 98, 3) := all_d dL_law_all11 0 rfl
theorem dL_law_821 : decode cL_law 821 = .ok (.aload_n 2, 1) := all_d dL_law_all11 1 rfl
theorem dL_law_822 : decode cL_law 822 = .ok (.aload_n 0, 1) := all_d dL_law_all11 2 rfl
theorem dL_law_823 : decode cL_law 823 = .ok (.iload_n 3, 1) := all_d dL_law_all11 3 rfl
theorem dL_law_824 : decode cL_law 824 = .ok (.iconst 1, 1) := all_d dL_law_all11 4 rfl
theorem dL_law_825 : decode cL_law 825 = .ok (.iadd, 1) := all_d dL_law_all11 5 rfl
theorem dL_law_826 : decode cL_law 826 = .ok (.iaload, 1) := all_d dL_law_all11 6 rfl
theorem dL_law_827 : decode cL_law 827 = .ok (.invokevirtual 101, 3) := all_d dL_law_all11 7 rfl
theorem dL_law_830 : decode cL_law 830 = .ok (.if_icmp .eq 426, 3) := all_d dL_law_all11 8 rfl
theorem dL_law_833 : decode cL_law 833 = .ok (.iconst 0, 1) := all_d dL_law_all11 9 rfl
theorem dL_law_834 : decode cL_law 834 = .ok (.ireturn, 1) := all_d dL_law_all11 10 rfl
theorem dL_law_835 : decode cL_law 835 = .ok (.aload_n 1, 1) := all_d dL_law_all11 11 rfl
theorem dL_law_836 : decode cL_law 836 = .ok (.aload_n 0, 1) := all_d dL_law_all11 12 rfl
theorem dL_law_837 : decode cL_law 837 = .ok (.iload_n 3, 1) := all_d dL_law_all11 13 rfl
theorem dL_law_838 : decode cL_law 838 = .ok (.iconst 1, 1) := all_d dL_law_all11 14 rfl
theorem dL_law_839 : decode cL_law 839 = .ok (.iadd, 1) := all_d dL_law_all11 15 rfl
theorem dL_law_840 : decode cL_law 840 = .ok (.iaload, 1) := all_d dL_law_all11 16 rfl
theorem dL_law_841 : decode cL_law 841 = .ok (.aload_n 0, 1) := all_d dL_law_all11 17 rfl
theorem dL_law_842 : decode cL_law 842 = .ok (.iload_n 3, 1) := all_d dL_law_all11 18 rfl
theorem dL_law_843 : decode cL_law 843 = .ok (.iconst 2, 1) := all_d dL_law_all11 19 rfl
theorem dL_law_844 : decode cL_law 844 = .ok (.iadd, 1) := all_d dL_law_all11 20 rfl
theorem dL_law_845 : decode cL_law 845 = .ok (.iaload, 1) := all_d dL_law_all11 21 rfl
theorem dL_law_846 : decode cL_law 846 = .ok (.aload_n 0, 1) := all_d dL_law_all11 22 rfl
theorem dL_law_847 : decode cL_law 847 = .ok (.iload_n 3, 1) := all_d dL_law_all11 23 rfl
theorem dL_law_848 : decode cL_law 848 = .ok (.iconst 3, 1) := all_d dL_law_all11 24 rfl
theorem dL_law_849 : decode cL_law 849 = .ok (.iadd, 1) := all_d dL_law_all11 25 rfl
theorem dL_law_850 : decode cL_law 850 = .ok (.iaload, 1) := all_d dL_law_all11 26 rfl
theorem dL_law_851 : decode cL_law 851 = .ok (.aload_n 0, 1) := all_d dL_law_all11 27 rfl
theorem dL_law_852 : decode cL_law 852 = .ok (.iload_n 3, 1) := all_d dL_law_all11 28 rfl
theorem dL_law_853 : decode cL_law 853 = .ok (.iconst 4, 1) := all_d dL_law_all11 29 rfl
theorem dL_law_854 : decode cL_law 854 = .ok (.iadd, 1) := all_d dL_law_all11 30 rfl
theorem dL_law_855 : decode cL_law 855 = .ok (.iaload, 1) := all_d dL_law_all11 31 rfl
theorem dL_law_856 : decode cL_law 856 = .ok (.aload_n 0, 1) := all_d dL_law_all11 32 rfl
theorem dL_law_857 : decode cL_law 857 = .ok (.iload_n 3, 1) := all_d dL_law_all11 33 rfl
theorem dL_law_858 : decode cL_law 858 = .ok (.iconst 5, 1) := all_d dL_law_all11 34 rfl
theorem dL_law_859 : decode cL_law 859 = .ok (.iadd, 1) := all_d dL_law_all11 35 rfl
theorem dL_law_860 : decode cL_law 860 = .ok (.iaload, 1) := all_d dL_law_all11 36 rfl
theorem dL_law_861 : decode cL_law 861 = .ok (.invokevirtual 102, 3) := all_d dL_law_all11 37 rfl
theorem dL_law_864 : decode cL_law 864 = .ok (.aload_n 2, 1) := all_d dL_law_all11 38 rfl
theorem dL_law_865 : decode cL_law 865 = .ok (.aload_n 0, 1) := all_d dL_law_all11 39 rfl
theorem dL_law_866 : decode cL_law 866 = .ok (.iload_n 3, 1) := all_d dL_law_all11 40 rfl
theorem dL_law_867 : decode cL_law 867 = .ok (.iconst 1, 1) := all_d dL_law_all11 41 rfl
theorem dL_law_868 : decode cL_law 868 = .ok (.iadd, 1) := all_d dL_law_all11 42 rfl
theorem dL_law_869 : decode cL_law 869 = .ok (.iaload, 1) := all_d dL_law_all11 43 rfl
theorem dL_law_870 : decode cL_law 870 = .ok (.aload_n 0, 1) := all_d dL_law_all11 44 rfl
theorem dL_law_871 : decode cL_law 871 = .ok (.iload_n 3, 1) := all_d dL_law_all11 45 rfl
theorem dL_law_872 : decode cL_law 872 = .ok (.iconst 2, 1) := all_d dL_law_all11 46 rfl
theorem dL_law_873 : decode cL_law 873 = .ok (.iadd, 1) := all_d dL_law_all11 47 rfl
set_option maxRecDepth 100000 in
theorem dL_law_all12 : ([(874, (.iaload : Instr), 1), (875, (.aload_n 0 : Instr), 1), (876, (.iload_n 3 : Instr), 1), (877, (.iconst 3 : Instr), 1), (878, (.iadd : Instr), 1), (879, (.iaload : Instr), 1), (880, (.aload_n 0 : Instr), 1), (881, (.iload_n 3 : Instr), 1), (882, (.iconst 4 : Instr), 1), (883, (.iadd : Instr), 1), (884, (.iaload : Instr), 1), (885, (.aload_n 0 : Instr), 1), (886, (.iload_n 3 : Instr), 1), (887, (.iconst 5 : Instr), 1), (888, (.iadd : Instr), 1), (889, (.iaload : Instr), 1), (890, (.invokevirtual 106 : Instr), 3), (893, (.if_icmp .eq 363 : Instr), 3), (896, (.iconst 0 : Instr), 1), (897, (.ireturn : Instr), 1), (898, (.aload_n 1 : Instr), 1), (899, (.aload_n 0 : Instr), 1), (900, (.iload_n 3 : Instr), 1), (901, (.iconst 1 : Instr), 1), (902, (.iadd : Instr), 1), (903, (.iaload : Instr), 1), (904, (.aload_n 0 : Instr), 1), (905, (.iload_n 3 : Instr), 1), (906, (.iconst 2 : Instr), 1), (907, (.iadd : Instr), 1), (908, (.iaload : Instr), 1), (909, (.invokevirtual 107 : Instr), 3), (912, (.aload_n 2 : Instr), 1), (913, (.aload_n 0 : Instr), 1), (914, (.iload_n 3 : Instr), 1), (915, (.iconst 1 : Instr), 1), (916, (.iadd : Instr), 1), (917, (.iaload : Instr), 1), (918, (.aload_n 0 : Instr), 1), (919, (.iload_n 3 : Instr), 1), (920, (.iconst 2 : Instr), 1), (921, (.iadd : Instr), 1), (922, (.iaload : Instr), 1), (923, (.invokevirtual 110 : Instr), 3), (926, (.if_icmp .eq 330 : Instr), 3), (929, (.iconst 0 : Instr), 1), (930, (.ireturn : Instr), 1), (931, (.aload_n 1 : Instr), 1)] : List (Nat × Instr × Nat)).all (fun q => decide (decode cL_law q.1 = .ok (q.2.1, q.2.2))) = true := by decide +kernel
theorem dL_law_874 : decode cL_law 874 = .ok (.iaload, 1) := all_d dL_law_all12 0 rfl
theorem dL_law_875 : decode cL_law 875 = .ok (.aload_n 0, 1) := all_d dL_law_all12 1 rfl
theorem dL_law_876 : decode cL_law 876 = .ok (.iload_n 3, 1) := all_d dL_law_all12 2 rfl
theorem dL_law_877 : decode cL_law 877 = .ok (.iconst 3, 1) := all_d dL_law_all12 3 rfl
theorem dL_law_878 : decode cL_law 878 = .ok (.iadd, 1) := all_d dL_law_all12 4 rfl
theorem dL_law_879 : decode cL_law 879 = .ok (.iaload, 1) := all_d dL_law_all12 5 rfl
theorem dL_law_880 : decode cL_law 880 = .ok (.aload_n 0, 1) := all_d dL_law_all12 6 rfl
theorem dL_law_881 : decode cL_law 881 = .ok (.iload_n 3, 1) := all_d dL_law_all12 7 rfl
theorem dL_law_882 : decode cL_law 882 = .ok (.iconst 4, 1) := all_d dL_law_all12 8 rfl
theorem dL_law_883 : decode cL_law 883 = .ok (.iadd, 1) := all_d dL_law_all12 9 rfl
theorem dL_law_884 : decode cL_law 884 = .ok (.iaload, 1) := all_d dL_law_all12 10 rfl
theorem dL_law_885 : decode cL_law 885 = .ok (.aload_n 0, 1) := all_d dL_law_all12 11 rfl
theorem dL_law_886 : decode cL_law 886 = .ok (.iload_n 3, 1) := all_d dL_law_all12 12 rfl
theorem dL_law_887 : decode cL_law 887 = .ok (.iconst 5, 1) := all_d dL_law_all12 13 rfl
theorem dL_law_888 : decode cL_law 888 = .ok (.iadd, 1) := all_d dL_law_all12 14 rfl
theorem dL_law_889 : decode cL_law 889 = .ok (.iaload, 1) := all_d dL_law_all12 15 rfl
theorem dL_law_890 : decode cL_law 890 = .ok (.invokevirtual 106, 3) := all_d dL_law_all12 16 rfl
theorem dL_law_893 : decode cL_law 893 = .ok (.if_icmp .eq 363, 3) := all_d dL_law_all12 17 rfl
theorem dL_law_896 : decode cL_law 896 = .ok (.iconst 0, 1) := all_d dL_law_all12 18 rfl
theorem dL_law_897 : decode cL_law 897 = .ok (.ireturn, 1) := all_d dL_law_all12 19 rfl
theorem dL_law_898 : decode cL_law 898 = .ok (.aload_n 1, 1) := all_d dL_law_all12 20 rfl
theorem dL_law_899 : decode cL_law 899 = .ok (.aload_n 0, 1) := all_d dL_law_all12 21 rfl
theorem dL_law_900 : decode cL_law 900 = .ok (.iload_n 3, 1) := all_d dL_law_all12 22 rfl
theorem dL_law_901 : decode cL_law 901 = .ok (.iconst 1, 1) := all_d dL_law_all12 23 rfl
theorem dL_law_902 : decode cL_law 902 = .ok (.iadd, 1) := all_d dL_law_all12 24 rfl
theorem dL_law_903 : decode cL_law 903 = .ok (.iaload, 1) := all_d dL_law_all12 25 rfl
theorem dL_law_904 : decode cL_law 904 = .ok (.aload_n 0, 1) := all_d dL_law_all12 26 rfl
theorem dL_law_905 : decode cL_law 905 = .ok (.iload_n 3, 1) := all_d dL_law_all12 27 rfl
theorem dL_law_906 : decode cL_law 906 = .ok (.iconst 2, 1) := all_d dL_law_all12 28 rfl
theorem dL_law_907 : decode cL_law 907 = .ok (.iadd, 1) := all_d dL_law_all12 29 rfl
theorem dL_law_908 : decode cL_law 908 = .ok (.iaload, 1) := all_d dL_law_all12 30 rfl
theorem dL_law_909 : decode cL_law 909 = .ok (.invokevirtual 107, 3) := all_d dL_law_all12 31 rfl
theorem dL_law_912 : decode cL_law 912 = .ok (.aload_n 2, 1) := all_d dL_law_all12 32 rfl
theorem dL_law_913 : decode cL_law 913 = .ok (.aload_n 0, 1) := all_d dL_law_all12 33 rfl
theorem dL_law_914 : decode cL_law 914 = .ok (.iload_n 3, 1) := all_d dL_law_all12 34 rfl
theorem dL_law_915 : decode cL_law 915 = .ok (.iconst 1, 1) := all_d dL_law_all12 35 rfl
theorem dL_law_916 : decode cL_law 916 = .ok (.iadd, 1) := all_d dL_law_all12 36 rfl
theorem dL_law_917 : decode cL_law 917 = .ok (.iaload, 1) := all_d dL_law_all12 37 rfl
theorem dL_law_918 : decode cL_law 918 = .ok (.aload_n 0, 1) := all_d dL_law_all12 38 rfl
theorem dL_law_919 : decode cL_law 919 = .ok (.iload_n 3, 1) := all_d dL_law_all12 39 rfl
theorem dL_law_920 : decode cL_law 920 = .ok (.iconst 2, 1) := all_d dL_law_all12 40 rfl
theorem dL_law_921 : decode cL_law 921 = .ok (.iadd, 1) := all_d dL_law_all12 41 rfl
theorem dL_law_922 : decode cL_law 922 = .ok (.iaload, 1) := all_d dL_law_all12 42 rfl
theorem dL_law_923 : decode cL_law 923 = .ok (.invokevirtual 110, 3) := all_d dL_law_all12 43 rfl
theorem dL_law_926 : decode cL_law 926 = .ok (.if_icmp .eq 330, 3) := all_d dL_law_all12 44 rfl
theorem dL_law_929 : decode cL_law 929 = .ok (.iconst 0, 1) := all_d dL_law_all12 45 rfl
theorem dL_law_930 : decode cL_law 930 = .ok (.ireturn, 1) := all_d dL_law_all12 46 rfl
theorem dL_law_931 : decode cL_law 931 = .ok (.aload_n 1, 1) := all_d dL_law_all12 47 rfl
set_option maxRecDepth 100000 in
theorem dL_law_all13 : ([(932, (.invokevirtual 111 : Instr), 3), (935, (.aload_n 2 : Instr), 1), (936, (.invokevirtual 115 : Instr), 3), (939, (.if_icmp .eq 317 : Instr), 3), (942, (.iconst 0 : Instr), 1), (943, (.ireturn : Instr), 1), (944, (.aload_n 1 : Instr), 1), (945, (.aload_n 0 : Instr), 1), (946, (.iload_n 3 : Instr), 1), (947, (.iconst 1 : Instr), 1), (948, (.iadd : Instr), 1), (949, (.iaload : Instr), 1), (950, (.aload_n 0 : Instr), 1), (951, (.iload_n 3 : Instr), 1), (952, (.iconst 2 : Instr), 1), (953, (.iadd : Instr), 1), (954, (.iaload : Instr), 1), (955, (.aload_n 0 : Instr), 1), (956, (.iload_n 3 : Instr), 1), (957, (.iconst 3 : Instr), 1), (958, (.iadd : Instr), 1), (959, (.iaload : Instr), 1), (960, (.ifCond .eq 7 : Instr), 3), (963, (.iconst 1 : Instr), 1), (964, (.goto 4 : Instr), 3), (967, (.iconst 0 : Instr), 1), (968, (.invokevirtual 116 : Instr), 3), (971, (.aload_n 2 : Instr), 1), (972, (.aload_n 0 : Instr), 1), (973, (.iload_n 3 : Instr), 1), (974, (.iconst 1 : Instr), 1), (975, (.iadd : Instr), 1), (976, (.iaload : Instr), 1), (977, (.aload_n 0 : Instr), 1), (978, (.iload_n 3 : Instr), 1), (979, (.iconst 2 : Instr), 1), (980, (.iadd : Instr), 1), (981, (.iaload : Instr), 1), (982, (.aload_n 0 : Instr), 1), (983, (.iload_n 3 : Instr), 1), (984, (.iconst 3 : Instr), 1), (985, (.iadd : Instr), 1), (986, (.iaload : Instr), 1), (987, (.ifCond .eq 7 : Instr), 3), (990, (.iconst 1 : Instr), 1), (991, (.goto 4 : Instr), 3), (994, (.iconst 0 : Instr), 1), (995, (.invokevirtual 120 : Instr), 3)] : List (Nat × Instr × Nat)).all (fun q => decide (decode cL_law q.1 = .ok (q.2.1, q.2.2))) = true := by decide +kernel
theorem dL_law_932 : decode cL_law 932 = .ok (.invokevirtual 111, 3) := all_d dL_law_all13 0 rfl
theorem dL_law_935 : decode cL_law 935 = .ok (.aload_n 2, 1) := all_d dL_law_all13 1 rfl
theorem dL_law_936 : decode cL_law 936 = .ok (.invokevirtual 115, 3) := all_d dL_law_all13 2 rfl
theorem dL_law_939 : decode cL_law 939 = .ok (.if_icmp .eq 317, 3) := all_d dL_law_all13 3 rfl
theorem dL_law_942 : decode cL_law 942 = .ok (.iconst 0, 1) := all_d dL_law_all13 4 rfl
theorem dL_law_943 : decode cL_law 943 = .ok (.ireturn, 1) := all_d dL_law_all13 5 rfl
theorem dL_law_944 : decode cL_law 944 = .ok (.aload_n 1, 1) := all_d dL_law_all13 6 rfl
theorem dL_law_945 : decode cL_law 945 = .ok (.aload_n 0, 1) := all_d dL_law_all13 7 rfl
theorem dL_law_946 : decode cL_law 946 = .ok (.iload_n 3, 1) := all_d dL_law_all13 8 rfl
theorem dL_law_947 : decode cL_law 947 = .ok (.iconst 1, 1) := all_d dL_law_all13 9 rfl
theorem dL_law_948 : decode cL_law 948 = .ok (.iadd, 1) := all_d dL_law_all13 10 rfl
theorem dL_law_949 : decode cL_law 949 = .ok (.iaload, 1) := all_d dL_law_all13 11 rfl
theorem dL_law_950 : decode cL_law 950 = .ok (.aload_n 0, 1) := all_d dL_law_all13 12 rfl
theorem dL_law_951 : decode cL_law 951 = .ok (.iload_n 3, 1) := all_d dL_law_all13 13 rfl
theorem dL_law_952 : decode cL_law 952 = .ok (.iconst 2, 1) := all_d dL_law_all13 14 rfl
theorem dL_law_953 : decode cL_law 953 = .ok (.iadd, 1) := all_d dL_law_all13 15 rfl
theorem dL_law_954 : decode cL_law 954 = .ok (.iaload, 1) := all_d dL_law_all13 16 rfl
theorem dL_law_955 : decode cL_law 955 = .ok (.aload_n 0, 1) := all_d dL_law_all13 17 rfl
theorem dL_law_956 : decode cL_law 956 = .ok (.iload_n 3, 1) := all_d dL_law_all13 18 rfl
theorem dL_law_957 : decode cL_law 957 = .ok (.iconst 3, 1) := all_d dL_law_all13 19 rfl
theorem dL_law_958 : decode cL_law 958 = .ok (.iadd, 1) := all_d dL_law_all13 20 rfl
theorem dL_law_959 : decode cL_law 959 = .ok (.iaload, 1) := all_d dL_law_all13 21 rfl
theorem dL_law_960 : decode cL_law 960 = .ok (.ifCond .eq 7, 3) := all_d dL_law_all13 22 rfl
theorem dL_law_963 : decode cL_law 963 = .ok (.iconst 1, 1) := all_d dL_law_all13 23 rfl
theorem dL_law_964 : decode cL_law 964 = .ok (.goto 4, 3) := all_d dL_law_all13 24 rfl
theorem dL_law_967 : decode cL_law 967 = .ok (.iconst 0, 1) := all_d dL_law_all13 25 rfl
theorem dL_law_968 : decode cL_law 968 = .ok (.invokevirtual 116, 3) := all_d dL_law_all13 26 rfl
theorem dL_law_971 : decode cL_law 971 = .ok (.aload_n 2, 1) := all_d dL_law_all13 27 rfl
theorem dL_law_972 : decode cL_law 972 = .ok (.aload_n 0, 1) := all_d dL_law_all13 28 rfl
theorem dL_law_973 : decode cL_law 973 = .ok (.iload_n 3, 1) := all_d dL_law_all13 29 rfl
theorem dL_law_974 : decode cL_law 974 = .ok (.iconst 1, 1) := all_d dL_law_all13 30 rfl
theorem dL_law_975 : decode cL_law 975 = .ok (.iadd, 1) := all_d dL_law_all13 31 rfl
theorem dL_law_976 : decode cL_law 976 = .ok (.iaload, 1) := all_d dL_law_all13 32 rfl
theorem dL_law_977 : decode cL_law 977 = .ok (.aload_n 0, 1) := all_d dL_law_all13 33 rfl
theorem dL_law_978 : decode cL_law 978 = .ok (.iload_n 3, 1) := all_d dL_law_all13 34 rfl
theorem dL_law_979 : decode cL_law 979 = .ok (.iconst 2, 1) := all_d dL_law_all13 35 rfl
theorem dL_law_980 : decode cL_law 980 = .ok (.iadd, 1) := all_d dL_law_all13 36 rfl
theorem dL_law_981 : decode cL_law 981 = .ok (.iaload, 1) := all_d dL_law_all13 37 rfl
theorem dL_law_982 : decode cL_law 982 = .ok (.aload_n 0, 1) := all_d dL_law_all13 38 rfl
theorem dL_law_983 : decode cL_law 983 = .ok (.iload_n 3, 1) := all_d dL_law_all13 39 rfl
theorem dL_law_984 : decode cL_law 984 = .ok (.iconst 3, 1) := all_d dL_law_all13 40 rfl
theorem dL_law_985 : decode cL_law 985 = .ok (.iadd, 1) := all_d dL_law_all13 41 rfl
theorem dL_law_986 : decode cL_law 986 = .ok (.iaload, 1) := all_d dL_law_all13 42 rfl
theorem dL_law_987 : decode cL_law 987 = .ok (.ifCond .eq 7, 3) := all_d dL_law_all13 43 rfl
theorem dL_law_990 : decode cL_law 990 = .ok (.iconst 1, 1) := all_d dL_law_all13 44 rfl
theorem dL_law_991 : decode cL_law 991 = .ok (.goto 4, 3) := all_d dL_law_all13 45 rfl
theorem dL_law_994 : decode cL_law 994 = .ok (.iconst 0, 1) := all_d dL_law_all13 46 rfl
theorem dL_law_995 : decode cL_law 995 = .ok (.invokevirtual 120, 3) := all_d dL_law_all13 47 rfl
set_option maxRecDepth 100000 in
theorem dL_law_all14 : ([(998, (.if_icmp .eq 258 : Instr), 3), (1001, (.iconst 0 : Instr), 1), (1002, (.ireturn : Instr), 1), (1003, (.aload_n 1 : Instr), 1), (1004, (.aload_n 0 : Instr), 1), (1005, (.iload_n 3 : Instr), 1), (1006, (.iconst 1 : Instr), 1), (1007, (.iadd : Instr), 1), (1008, (.iaload : Instr), 1), (1009, (.aload_n 0 : Instr), 1), (1010, (.iload_n 3 : Instr), 1), (1011, (.iconst 2 : Instr), 1), (1012, (.iadd : Instr), 1), (1013, (.iaload : Instr), 1), (1014, (.aload_n 0 : Instr), 1), (1015, (.iload_n 3 : Instr), 1), (1016, (.iconst 3 : Instr), 1), (1017, (.iadd : Instr), 1), (1018, (.iaload : Instr), 1), (1019, (.invokevirtual 121 : Instr), 3), (1022, (.aload_n 2 : Instr), 1), (1023, (.aload_n 0 : Instr), 1), (1024, (.iload_n 3 : Instr), 1), (1025, (.iconst 1 : Instr), 1), (1026, (.iadd : Instr), 1), (1027, (.iaload : Instr), 1), (1028, (.aload_n 0 : Instr), 1), (1029, (.iload_n 3 : Instr), 1), (1030, (.iconst 2 : Instr), 1), (1031, (.iadd : Instr), 1), (1032, (.iaload : Instr), 1), (1033, (.aload_n 0 : Instr), 1), (1034, (.iload_n 3 : Instr), 1), (1035, (.iconst 3 : Instr), 1), (1036, (.iadd : Instr), 1), (1037, (.iaload : Instr), 1), (1038, (.invokevirtual 124 : Instr), 3), (1041, (.if_icmp .eq 215 : Instr), 3), (1044, (.iconst 0 : Instr), 1), (1045, (.ireturn : Instr), 1), (1046, (.aload_n 1 : Instr), 1), (1047, (.invokevirtual 125 : Instr), 3), (1050, (.aload_n 2 : Instr), 1), (1051, (.invokevirtual 128 : Instr), 3), (1054, (.if_icmp .eq 202 : Instr), 3), (1057, (.iconst 0 : Instr), 1), (1058, (.ireturn : Instr), 1), (1059, (.aload_n 1 : Instr), 1)] : List (Nat × Instr × Nat)).all (fun q => decide (decode cL_law q.1 = .ok (q.2.1, q.2.2))) = true := by decide +kernel
theorem dL_law_998 : decode cL_law 998 = .ok (.if_icmp .eq 258, 3) := all_d dL_law_all14 0 rfl
theorem dL_law_1001 : decode cL_law 1001 = .ok (.iconst 0, 1) := all_d dL_law_all14 1 rfl
theorem dL_law_1002 : decode cL_law 1002 = .ok (.ireturn, 1) := all_d dL_law_all14 2 rfl
theorem dL_law_1003 : decode cL_law 1003 = .ok (.aload_n 1, 1) := all_d dL_law_all14 3 rfl
theorem dL_law_1004 : decode cL_law 1004 = .ok (.aload_n 0, 1) := all_d dL_law_all14 4 rfl
theorem dL_law_1005 : decode cL_law 1005 = .ok (.iload_n 3, 1) := all_d dL_law_all14 5 rfl
theorem dL_law_1006 : decode cL_law 1006 = .ok (.iconst 1, 1) := all_d dL_law_all14 6 rfl
theorem dL_law_1007 : decode cL_law 1007 = .ok (.iadd, 1) := all_d dL_law_all14 7 rfl
theorem dL_law_1008 : decode cL_law 1008 = .ok (.iaload, 1) := all_d dL_law_all14 8 rfl
theorem dL_law_1009 : decode cL_law 1009 = .ok (.aload_n 0, 1) := all_d dL_law_all14 9 rfl
theorem dL_law_1010 : decode cL_law 1010 = .ok (.iload_n 3, 1) := all_d dL_law_all14 10 rfl
theorem dL_law_1011 : decode cL_law 1011 = .ok (.iconst 2, 1) := all_d dL_law_all14 11 rfl
theorem dL_law_1012 : decode cL_law 1012 = .ok (.iadd, 1) := all_d dL_law_all14 12 rfl
theorem dL_law_1013 : decode cL_law 1013 = .ok (.iaload, 1) := all_d dL_law_all14 13 rfl
theorem dL_law_1014 : decode cL_law 1014 = .ok (.aload_n 0, 1) := all_d dL_law_all14 14 rfl
theorem dL_law_1015 : decode cL_law 1015 = .ok (.iload_n 3, 1) := all_d dL_law_all14 15 rfl
theorem dL_law_1016 : decode cL_law 1016 = .ok (.iconst 3, 1) := all_d dL_law_all14 16 rfl
theorem dL_law_1017 : decode cL_law 1017 = .ok (.iadd, 1) := all_d dL_law_all14 17 rfl
theorem dL_law_1018 : decode cL_law 1018 = .ok (.iaload, 1) := all_d dL_law_all14 18 rfl
theorem dL_law_1019 : decode cL_law 1019 = .ok (.invokevirtual 121, 3) := all_d dL_law_all14 19 rfl
theorem dL_law_1022 : decode cL_law 1022 = .ok (.aload_n 2, 1) := all_d dL_law_all14 20 rfl
theorem dL_law_1023 : decode cL_law 1023 = .ok (.aload_n 0, 1) := all_d dL_law_all14 21 rfl
theorem dL_law_1024 : decode cL_law 1024 = .ok (.iload_n 3, 1) := all_d dL_law_all14 22 rfl
theorem dL_law_1025 : decode cL_law 1025 = .ok (.iconst 1, 1) := all_d dL_law_all14 23 rfl
theorem dL_law_1026 : decode cL_law 1026 = .ok (.iadd, 1) := all_d dL_law_all14 24 rfl
theorem dL_law_1027 : decode cL_law 1027 = .ok (.iaload, 1) := all_d dL_law_all14 25 rfl
theorem dL_law_1028 : decode cL_law 1028 = .ok (.aload_n 0, 1) := all_d dL_law_all14 26 rfl
theorem dL_law_1029 : decode cL_law 1029 = .ok (.iload_n 3, 1) := all_d dL_law_all14 27 rfl
theorem dL_law_1030 : decode cL_law 1030 = .ok (.iconst 2, 1) := all_d dL_law_all14 28 rfl
theorem dL_law_1031 : decode cL_law 1031 = .ok (.iadd, 1) := all_d dL_law_all14 29 rfl
theorem dL_law_1032 : decode cL_law 1032 = .ok (.iaload, 1) := all_d dL_law_all14 30 rfl
theorem dL_law_1033 : decode cL_law 1033 = .ok (.aload_n 0, 1) := all_d dL_law_all14 31 rfl
theorem dL_law_1034 : decode cL_law 1034 = .ok (.iload_n 3, 1) := all_d dL_law_all14 32 rfl
theorem dL_law_1035 : decode cL_law 1035 = .ok (.iconst 3, 1) := all_d dL_law_all14 33 rfl
theorem dL_law_1036 : decode cL_law 1036 = .ok (.iadd, 1) := all_d dL_law_all14 34 rfl
theorem dL_law_1037 : decode cL_law 1037 = .ok (.iaload, 1) := all_d dL_law_all14 35 rfl
theorem dL_law_1038 : decode cL_law 1038 = .ok (.invokevirtual 124, 3) := all_d dL_law_all14 36 rfl
theorem dL_law_1041 : decode cL_law 1041 = .ok (.if_icmp .eq 215, 3) := all_d dL_law_all14 37 rfl
theorem dL_law_1044 : decode cL_law 1044 = .ok (.iconst 0, 1) := all_d dL_law_all14 38 rfl
theorem dL_law_1045 : decode cL_law 1045 = .ok (.ireturn, 1) := all_d dL_law_all14 39 rfl
theorem dL_law_1046 : decode cL_law 1046 = .ok (.aload_n 1, 1) := all_d dL_law_all14 40 rfl
theorem dL_law_1047 : decode cL_law 1047 = .ok (.invokevirtual 125, 3) := all_d dL_law_all14 41 rfl
theorem dL_law_1050 : decode cL_law 1050 = .ok (.aload_n 2, 1) := all_d dL_law_all14 42 rfl
theorem dL_law_1051 : decode cL_law 1051 = .ok (.invokevirtual 128, 3) := all_d dL_law_all14 43 rfl
theorem dL_law_1054 : decode cL_law 1054 = .ok (.if_icmp .eq 202, 3) := all_d dL_law_all14 44 rfl
theorem dL_law_1057 : decode cL_law 1057 = .ok (.iconst 0, 1) := all_d dL_law_all14 45 rfl
theorem dL_law_1058 : decode cL_law 1058 = .ok (.ireturn, 1) := all_d dL_law_all14 46 rfl
theorem dL_law_1059 : decode cL_law 1059 = .ok (.aload_n 1, 1) := all_d dL_law_all14 47 rfl
set_option maxRecDepth 100000 in
theorem dL_law_all15 : ([(1060, (.aload_n 0 : Instr), 1), (1061, (.iload_n 3 : Instr), 1), (1062, (.iconst 1 : Instr), 1), (1063, (.iadd : Instr), 1), (1064, (.iaload : Instr), 1), (1065, (.invokevirtual 129 : Instr), 3), (1068, (.aload_n 2 : Instr), 1), (1069, (.aload_n 0 : Instr), 1), (1070, (.iload_n 3 : Instr), 1), (1071, (.iconst 1 : Instr), 1), (1072, (.iadd : Instr), 1), (1073, (.iaload : Instr), 1), (1074, (.invokevirtual 132 : Instr), 3), (1077, (.if_icmp .eq 179 : Instr), 3), (1080, (.iconst 0 : Instr), 1), (1081, (.ireturn : Instr), 1), (1082, (.aload_n 1 : Instr), 1), (1083, (.invokevirtual 133 : Instr), 3), (1086, (.aload_n 2 : Instr), 1), (1087, (.invokevirtual 136 : Instr), 3), (1090, (.if_icmp .eq 166 : Instr), 3), (1093, (.iconst 0 : Instr), 1), (1094, (.ireturn : Instr), 1), (1095, (.aload_n 1 : Instr), 1), (1096, (.aload_n 0 : Instr), 1), (1097, (.iload_n 3 : Instr), 1), (1098, (.iconst 1 : Instr), 1), (1099, (.iadd : Instr), 1), (1100, (.iaload : Instr), 1), (1101, (.invokevirtual 137 : Instr), 3), (1104, (.aload_n 2 : Instr), 1), (1105, (.aload_n 0 : Instr), 1), (1106, (.iload_n 3 : Instr), 1), (1107, (.iconst 1 : Instr), 1), (1108, (.iadd : Instr), 1), (1109, (.iaload : Instr), 1), (1110, (.invokevirtual 140 : Instr), 3), (1113, (.if_icmp .eq 143 : Instr), 3), (1116, (.iconst 0 : Instr), 1), (1117, (.ireturn : Instr), 1), (1118, (.aload_n 1 : Instr), 1), (1119, (.invokevirtual 141 : Instr), 3), (1122, (.aload_n 2 : Instr), 1), (1123, (.invokevirtual 144 : Instr), 3), (1126, (.if_icmp .eq 130 : Instr), 3), (1129, (.iconst 0 : Instr), 1), (1130, (.ireturn : Instr), 1), (1131, (.aload_n 1 : Instr), 1)] : List (Nat × Instr × Nat)).all (fun q => decide (decode cL_law q.1 = .ok (q.2.1, q.2.2))) = true := by decide +kernel
theorem dL_law_1060 : decode cL_law 1060 = .ok (.aload_n 0, 1) := all_d dL_law_all15 0 rfl
theorem dL_law_1061 : decode cL_law 1061 = .ok (.iload_n 3, 1) := all_d dL_law_all15 1 rfl
theorem dL_law_1062 : decode cL_law 1062 = .ok (.iconst 1, 1) := all_d dL_law_all15 2 rfl
theorem dL_law_1063 : decode cL_law 1063 = .ok (.iadd, 1) := all_d dL_law_all15 3 rfl
theorem dL_law_1064 : decode cL_law 1064 = .ok (.iaload, 1) := all_d dL_law_all15 4 rfl
theorem dL_law_1065 : decode cL_law 1065 = .ok (.invokevirtual 129, 3) := all_d dL_law_all15 5 rfl
theorem dL_law_1068 : decode cL_law 1068 = .ok (.aload_n 2, 1) := all_d dL_law_all15 6 rfl
theorem dL_law_1069 : decode cL_law 1069 = .ok (.aload_n 0, 1) := all_d dL_law_all15 7 rfl
theorem dL_law_1070 : decode cL_law 1070 = .ok (.iload_n 3, 1) := all_d dL_law_all15 8 rfl
theorem dL_law_1071 : decode cL_law 1071 = .ok (.iconst 1, 1) := all_d dL_law_all15 9 rfl
theorem dL_law_1072 : decode cL_law 1072 = .ok (.iadd, 1) := all_d dL_law_all15 10 rfl
theorem dL_law_1073 : decode cL_law 1073 = .ok (.iaload, 1) := all_d dL_law_all15 11 rfl
theorem dL_law_1074 : decode cL_law 1074 = .ok (.invokevirtual 132, 3) := all_d dL_law_all15 12 rfl
theorem dL_law_1077 : decode cL_law 1077 = .ok (.if_icmp .eq 179, 3) := all_d dL_law_all15 13 rfl
theorem dL_law_1080 : decode cL_law 1080 = .ok (.iconst 0, 1) := all_d dL_law_all15 14 rfl
theorem dL_law_1081 : decode cL_law 1081 = .ok (.ireturn, 1) := all_d dL_law_all15 15 rfl
theorem dL_law_1082 : decode cL_law 1082 = .ok (.aload_n 1, 1) := all_d dL_law_all15 16 rfl
theorem dL_law_1083 : decode cL_law 1083 = .ok (.invokevirtual 133, 3) := all_d dL_law_all15 17 rfl
theorem dL_law_1086 : decode cL_law 1086 = .ok (.aload_n 2, 1) := all_d dL_law_all15 18 rfl
theorem dL_law_1087 : decode cL_law 1087 = .ok (.invokevirtual 136, 3) := all_d dL_law_all15 19 rfl
theorem dL_law_1090 : decode cL_law 1090 = .ok (.if_icmp .eq 166, 3) := all_d dL_law_all15 20 rfl
theorem dL_law_1093 : decode cL_law 1093 = .ok (.iconst 0, 1) := all_d dL_law_all15 21 rfl
theorem dL_law_1094 : decode cL_law 1094 = .ok (.ireturn, 1) := all_d dL_law_all15 22 rfl
theorem dL_law_1095 : decode cL_law 1095 = .ok (.aload_n 1, 1) := all_d dL_law_all15 23 rfl
theorem dL_law_1096 : decode cL_law 1096 = .ok (.aload_n 0, 1) := all_d dL_law_all15 24 rfl
theorem dL_law_1097 : decode cL_law 1097 = .ok (.iload_n 3, 1) := all_d dL_law_all15 25 rfl
theorem dL_law_1098 : decode cL_law 1098 = .ok (.iconst 1, 1) := all_d dL_law_all15 26 rfl
theorem dL_law_1099 : decode cL_law 1099 = .ok (.iadd, 1) := all_d dL_law_all15 27 rfl
theorem dL_law_1100 : decode cL_law 1100 = .ok (.iaload, 1) := all_d dL_law_all15 28 rfl
theorem dL_law_1101 : decode cL_law 1101 = .ok (.invokevirtual 137, 3) := all_d dL_law_all15 29 rfl
theorem dL_law_1104 : decode cL_law 1104 = .ok (.aload_n 2, 1) := all_d dL_law_all15 30 rfl
theorem dL_law_1105 : decode cL_law 1105 = .ok (.aload_n 0, 1) := all_d dL_law_all15 31 rfl
theorem dL_law_1106 : decode cL_law 1106 = .ok (.iload_n 3, 1) := all_d dL_law_all15 32 rfl
theorem dL_law_1107 : decode cL_law 1107 = .ok (.iconst 1, 1) := all_d dL_law_all15 33 rfl
theorem dL_law_1108 : decode cL_law 1108 = .ok (.iadd, 1) := all_d dL_law_all15 34 rfl
theorem dL_law_1109 : decode cL_law 1109 = .ok (.iaload, 1) := all_d dL_law_all15 35 rfl
theorem dL_law_1110 : decode cL_law 1110 = .ok (.invokevirtual 140, 3) := all_d dL_law_all15 36 rfl
theorem dL_law_1113 : decode cL_law 1113 = .ok (.if_icmp .eq 143, 3) := all_d dL_law_all15 37 rfl
theorem dL_law_1116 : decode cL_law 1116 = .ok (.iconst 0, 1) := all_d dL_law_all15 38 rfl
theorem dL_law_1117 : decode cL_law 1117 = .ok (.ireturn, 1) := all_d dL_law_all15 39 rfl
theorem dL_law_1118 : decode cL_law 1118 = .ok (.aload_n 1, 1) := all_d dL_law_all15 40 rfl
theorem dL_law_1119 : decode cL_law 1119 = .ok (.invokevirtual 141, 3) := all_d dL_law_all15 41 rfl
theorem dL_law_1122 : decode cL_law 1122 = .ok (.aload_n 2, 1) := all_d dL_law_all15 42 rfl
theorem dL_law_1123 : decode cL_law 1123 = .ok (.invokevirtual 144, 3) := all_d dL_law_all15 43 rfl
theorem dL_law_1126 : decode cL_law 1126 = .ok (.if_icmp .eq 130, 3) := all_d dL_law_all15 44 rfl
theorem dL_law_1129 : decode cL_law 1129 = .ok (.iconst 0, 1) := all_d dL_law_all15 45 rfl
theorem dL_law_1130 : decode cL_law 1130 = .ok (.ireturn, 1) := all_d dL_law_all15 46 rfl
theorem dL_law_1131 : decode cL_law 1131 = .ok (.aload_n 1, 1) := all_d dL_law_all15 47 rfl
set_option maxRecDepth 100000 in
theorem dL_law_all16 : ([(1132, (.aload_n 0 : Instr), 1), (1133, (.iload_n 3 : Instr), 1), (1134, (.iconst 1 : Instr), 1), (1135, (.iadd : Instr), 1), (1136, (.iaload : Instr), 1), (1137, (.invokevirtual 145 : Instr), 3), (1140, (.aload_n 2 : Instr), 1), (1141, (.aload_n 0 : Instr), 1), (1142, (.iload_n 3 : Instr), 1), (1143, (.iconst 1 : Instr), 1), (1144, (.iadd : Instr), 1), (1145, (.iaload : Instr), 1), (1146, (.invokevirtual 148 : Instr), 3), (1149, (.if_icmp .eq 107 : Instr), 3), (1152, (.iconst 0 : Instr), 1), (1153, (.ireturn : Instr), 1), (1154, (.aload_n 1 : Instr), 1), (1155, (.aload_n 0 : Instr), 1), (1156, (.iload_n 3 : Instr), 1), (1157, (.iconst 1 : Instr), 1), (1158, (.iadd : Instr), 1), (1159, (.iaload : Instr), 1), (1160, (.aload_n 0 : Instr), 1), (1161, (.iload_n 3 : Instr), 1), (1162, (.iconst 2 : Instr), 1), (1163, (.iadd : Instr), 1), (1164, (.iaload : Instr), 1), (1165, (.aload_n 0 : Instr), 1), (1166, (.iload_n 3 : Instr), 1), (1167, (.iconst 3 : Instr), 1), (1168, (.iadd : Instr), 1), (1169, (.iaload : Instr), 1), (1170, (.aload_n 0 : Instr), 1), (1171, (.iload_n 3 : Instr), 1), (1172, (.iconst 4 : Instr), 1), (1173, (.iadd : Instr), 1), (1174, (.iaload : Instr), 1), (1175, (.invokevirtual 149 : Instr), 3), (1178, (.aload_n 2 : Instr), 1), (1179, (.aload_n 0 : Instr), 1), (1180, (.iload_n 3 : Instr), 1), (1181, (.iconst 1 : Instr), 1), (1182, (.iadd : Instr), 1), (1183, (.iaload : Instr), 1), (1184, (.aload_n 0 : Instr), 1), (1185, (.iload_n 3 : Instr), 1), (1186, (.iconst 2 : Instr), 1), (1187, (.iadd : Instr), 1)] : List (Nat × Instr × Nat)).all (fun q => decide (decode cL_law q.1 = .ok (q.2.1, q.2.2))) = true := by decide +kernel
theorem dL_law_1132 : decode cL_law 1132 = .ok (.aload_n 0, 1) := all_d dL_law_all16 0 rfl
theorem dL_law_1133 : decode cL_law 1133 = .ok (.iload_n 3, 1) := all_d dL_law_all16 1 rfl
theorem dL_law_1134 : decode cL_law 1134 = .ok (.iconst 1, 1) := all_d dL_law_all16 2 rfl
theorem dL_law_1135 : decode cL_law 1135 = .ok (.iadd, 1) := all_d dL_law_all16 3 rfl
theorem dL_law_1136 : decode cL_law 1136 = .ok (.iaload, 1) := all_d dL_law_all16 4 rfl
theorem dL_law_1137 : decode cL_law 1137 = .ok (.invokevirtual 145, 3) := all_d dL_law_all16 5 rfl
theorem dL_law_1140 : decode cL_law 1140 = .ok (.aload_n 2, 1) := all_d dL_law_all16 6 rfl
theorem dL_law_1141 : decode cL_law 1141 = .ok (.aload_n 0, 1) := all_d dL_law_all16 7 rfl
theorem dL_law_1142 : decode cL_law 1142 = .ok (.iload_n 3, 1) := all_d dL_law_all16 8 rfl
theorem dL_law_1143 : decode cL_law 1143 = .ok (.iconst 1, 1) := all_d dL_law_all16 9 rfl
theorem dL_law_1144 : decode cL_law 1144 = .ok (.iadd, 1) := all_d dL_law_all16 10 rfl
theorem dL_law_1145 : decode cL_law 1145 = .ok (.iaload, 1) := all_d dL_law_all16 11 rfl
theorem dL_law_1146 : decode cL_law 1146 = .ok (.invokevirtual 148, 3) := all_d dL_law_all16 12 rfl
theorem dL_law_1149 : decode cL_law 1149 = .ok (.if_icmp .eq 107, 3) := all_d dL_law_all16 13 rfl
theorem dL_law_1152 : decode cL_law 1152 = .ok (.iconst 0, 1) := all_d dL_law_all16 14 rfl
theorem dL_law_1153 : decode cL_law 1153 = .ok (.ireturn, 1) := all_d dL_law_all16 15 rfl
theorem dL_law_1154 : decode cL_law 1154 = .ok (.aload_n 1, 1) := all_d dL_law_all16 16 rfl
theorem dL_law_1155 : decode cL_law 1155 = .ok (.aload_n 0, 1) := all_d dL_law_all16 17 rfl
theorem dL_law_1156 : decode cL_law 1156 = .ok (.iload_n 3, 1) := all_d dL_law_all16 18 rfl
theorem dL_law_1157 : decode cL_law 1157 = .ok (.iconst 1, 1) := all_d dL_law_all16 19 rfl
theorem dL_law_1158 : decode cL_law 1158 = .ok (.iadd, 1) := all_d dL_law_all16 20 rfl
theorem dL_law_1159 : decode cL_law 1159 = .ok (.iaload, 1) := all_d dL_law_all16 21 rfl
theorem dL_law_1160 : decode cL_law 1160 = .ok (.aload_n 0, 1) := all_d dL_law_all16 22 rfl
theorem dL_law_1161 : decode cL_law 1161 = .ok (.iload_n 3, 1) := all_d dL_law_all16 23 rfl
theorem dL_law_1162 : decode cL_law 1162 = .ok (.iconst 2, 1) := all_d dL_law_all16 24 rfl
theorem dL_law_1163 : decode cL_law 1163 = .ok (.iadd, 1) := all_d dL_law_all16 25 rfl
theorem dL_law_1164 : decode cL_law 1164 = .ok (.iaload, 1) := all_d dL_law_all16 26 rfl
theorem dL_law_1165 : decode cL_law 1165 = .ok (.aload_n 0, 1) := all_d dL_law_all16 27 rfl
theorem dL_law_1166 : decode cL_law 1166 = .ok (.iload_n 3, 1) := all_d dL_law_all16 28 rfl
theorem dL_law_1167 : decode cL_law 1167 = .ok (.iconst 3, 1) := all_d dL_law_all16 29 rfl
theorem dL_law_1168 : decode cL_law 1168 = .ok (.iadd, 1) := all_d dL_law_all16 30 rfl
theorem dL_law_1169 : decode cL_law 1169 = .ok (.iaload, 1) := all_d dL_law_all16 31 rfl
theorem dL_law_1170 : decode cL_law 1170 = .ok (.aload_n 0, 1) := all_d dL_law_all16 32 rfl
theorem dL_law_1171 : decode cL_law 1171 = .ok (.iload_n 3, 1) := all_d dL_law_all16 33 rfl
theorem dL_law_1172 : decode cL_law 1172 = .ok (.iconst 4, 1) := all_d dL_law_all16 34 rfl
theorem dL_law_1173 : decode cL_law 1173 = .ok (.iadd, 1) := all_d dL_law_all16 35 rfl
theorem dL_law_1174 : decode cL_law 1174 = .ok (.iaload, 1) := all_d dL_law_all16 36 rfl
theorem dL_law_1175 : decode cL_law 1175 = .ok (.invokevirtual 149, 3) := all_d dL_law_all16 37 rfl
theorem dL_law_1178 : decode cL_law 1178 = .ok (.aload_n 2, 1) := all_d dL_law_all16 38 rfl
theorem dL_law_1179 : decode cL_law 1179 = .ok (.aload_n 0, 1) := all_d dL_law_all16 39 rfl
theorem dL_law_1180 : decode cL_law 1180 = .ok (.iload_n 3, 1) := all_d dL_law_all16 40 rfl
theorem dL_law_1181 : decode cL_law 1181 = .ok (.iconst 1, 1) := all_d dL_law_all16 41 rfl
theorem dL_law_1182 : decode cL_law 1182 = .ok (.iadd, 1) := all_d dL_law_all16 42 rfl
theorem dL_law_1183 : decode cL_law 1183 = .ok (.iaload, 1) := all_d dL_law_all16 43 rfl
theorem dL_law_1184 : decode cL_law 1184 = .ok (.aload_n 0, 1) := all_d dL_law_all16 44 rfl
theorem dL_law_1185 : decode cL_law 1185 = .ok (.iload_n 3, 1) := all_d dL_law_all16 45 rfl
theorem dL_law_1186 : decode cL_law 1186 = .ok (.iconst 2, 1) := all_d dL_law_all16 46 rfl
theorem dL_law_1187 : decode cL_law 1187 = .ok (.iadd, 1) := all_d dL_law_all16 47 rfl
set_option maxRecDepth 100000 in
theorem dL_law_all17 : ([(1188, (.iaload : Instr), 1), (1189, (.aload_n 0 : Instr), 1), (1190, (.iload_n 3 : Instr), 1), (1191, (.iconst 3 : Instr), 1), (1192, (.iadd : Instr), 1), (1193, (.iaload : Instr), 1), (1194, (.aload_n 0 : Instr), 1), (1195, (.iload_n 3 : Instr), 1), (1196, (.iconst 4 : Instr), 1), (1197, (.iadd : Instr), 1), (1198, (.iaload : Instr), 1), (1199, (.invokevirtual 153 : Instr), 3), (1202, (.if_icmp .eq 54 : Instr), 3), (1205, (.iconst 0 : Instr), 1), (1206, (.ireturn : Instr), 1), (1207, (.aload_n 1 : Instr), 1), (1208, (.invokevirtual 154 : Instr), 3), (1211, (.aload_n 2 : Instr), 1), (1212, (.invokevirtual 157 : Instr), 3), (1215, (.if_icmp .eq 41 : Instr), 3), (1218, (.iconst 0 : Instr), 1), (1219, (.ireturn : Instr), 1), (1220, (.aload_n 1 : Instr), 1), (1221, (.aload_n 0 : Instr), 1), (1222, (.iload_n 3 : Instr), 1), (1223, (.iconst 1 : Instr), 1), (1224, (.iadd : Instr), 1), (1225, (.iaload : Instr), 1), (1226, (.invokevirtual 158 : Instr), 3), (1229, (.aload_n 2 : Instr), 1), (1230, (.aload_n 0 : Instr), 1), (1231, (.iload_n 3 : Instr), 1), (1232, (.iconst 1 : Instr), 1), (1233, (.iadd : Instr), 1), (1234, (.iaload : Instr), 1), (1235, (.invokevirtual 161 : Instr), 3), (1238, (.if_icmp .eq 18 : Instr), 3), (1241, (.iconst 0 : Instr), 1), (1242, (.ireturn : Instr), 1), (1243, (.aload_n 1 : Instr), 1), (1244, (.invokevirtual 162 : Instr), 3), (1247, (.aload_n 2 : Instr), 1), (1248, (.invokevirtual 165 : Instr), 3), (1251, (.if_icmp .eq 5 : Instr), 3), (1254, (.iconst 0 : Instr), 1), (1255, (.ireturn : Instr), 1), (1256, (.iinc 3 6 : Instr), 3), (1259, (.goto (-1241) : Instr), 3)] : List (Nat × Instr × Nat)).all (fun q => decide (decode cL_law q.1 = .ok (q.2.1, q.2.2))) = true := by decide +kernel
theorem dL_law_1188 : decode cL_law 1188 = .ok (.iaload, 1) := all_d dL_law_all17 0 rfl
theorem dL_law_1189 : decode cL_law 1189 = .ok (.aload_n 0, 1) := all_d dL_law_all17 1 rfl
theorem dL_law_1190 : decode cL_law 1190 = .ok (.iload_n 3, 1) := all_d dL_law_all17 2 rfl
theorem dL_law_1191 : decode cL_law 1191 = .ok (.iconst 3, 1) := all_d dL_law_all17 3 rfl
theorem dL_law_1192 : decode cL_law 1192 = .ok (.iadd, 1) := all_d dL_law_all17 4 rfl
theorem dL_law_1193 : decode cL_law 1193 = .ok (.iaload, 1) := all_d dL_law_all17 5 rfl
theorem dL_law_1194 : decode cL_law 1194 = .ok (.aload_n 0, 1) := all_d dL_law_all17 6 rfl
theorem dL_law_1195 : decode cL_law 1195 = .ok (.iload_n 3, 1) := all_d dL_law_all17 7 rfl
theorem dL_law_1196 : decode cL_law 1196 = .ok (.iconst 4, 1) := all_d dL_law_all17 8 rfl
theorem dL_law_1197 : decode cL_law 1197 = .ok (.iadd, 1) := all_d dL_law_all17 9 rfl
theorem dL_law_1198 : decode cL_law 1198 = .ok (.iaload, 1) := all_d dL_law_all17 10 rfl
theorem dL_law_1199 : decode cL_law 1199 = .ok (.invokevirtual 153, 3) := all_d dL_law_all17 11 rfl
theorem dL_law_1202 : decode cL_law 1202 = .ok (.if_icmp .eq 54, 3) := all_d dL_law_all17 12 rfl
theorem dL_law_1205 : decode cL_law 1205 = .ok (.iconst 0, 1) := all_d dL_law_all17 13 rfl
theorem dL_law_1206 : decode cL_law 1206 = .ok (.ireturn, 1) := all_d dL_law_all17 14 rfl
theorem dL_law_1207 : decode cL_law 1207 = .ok (.aload_n 1, 1) := all_d dL_law_all17 15 rfl
theorem dL_law_1208 : decode cL_law 1208 = .ok (.invokevirtual 154, 3) := all_d dL_law_all17 16 rfl
theorem dL_law_1211 : decode cL_law 1211 = .ok (.aload_n 2, 1) := all_d dL_law_all17 17 rfl
theorem dL_law_1212 : decode cL_law 1212 = .ok (.invokevirtual 157, 3) := all_d dL_law_all17 18 rfl
theorem dL_law_1215 : decode cL_law 1215 = .ok (.if_icmp .eq 41, 3) := all_d dL_law_all17 19 rfl
theorem dL_law_1218 : decode cL_law 1218 = .ok (.iconst 0, 1) := all_d dL_law_all17 20 rfl
theorem dL_law_1219 : decode cL_law 1219 = .ok (.ireturn, 1) := all_d dL_law_all17 21 rfl
theorem dL_law_1220 : decode cL_law 1220 = .ok (.aload_n 1, 1) := all_d dL_law_all17 22 rfl
theorem dL_law_1221 : decode cL_law 1221 = .ok (.aload_n 0, 1) := all_d dL_law_all17 23 rfl
theorem dL_law_1222 : decode cL_law 1222 = .ok (.iload_n 3, 1) := all_d dL_law_all17 24 rfl
theorem dL_law_1223 : decode cL_law 1223 = .ok (.iconst 1, 1) := all_d dL_law_all17 25 rfl
theorem dL_law_1224 : decode cL_law 1224 = .ok (.iadd, 1) := all_d dL_law_all17 26 rfl
theorem dL_law_1225 : decode cL_law 1225 = .ok (.iaload, 1) := all_d dL_law_all17 27 rfl
theorem dL_law_1226 : decode cL_law 1226 = .ok (.invokevirtual 158, 3) := all_d dL_law_all17 28 rfl
theorem dL_law_1229 : decode cL_law 1229 = .ok (.aload_n 2, 1) := all_d dL_law_all17 29 rfl
theorem dL_law_1230 : decode cL_law 1230 = .ok (.aload_n 0, 1) := all_d dL_law_all17 30 rfl
theorem dL_law_1231 : decode cL_law 1231 = .ok (.iload_n 3, 1) := all_d dL_law_all17 31 rfl
theorem dL_law_1232 : decode cL_law 1232 = .ok (.iconst 1, 1) := all_d dL_law_all17 32 rfl
theorem dL_law_1233 : decode cL_law 1233 = .ok (.iadd, 1) := all_d dL_law_all17 33 rfl
theorem dL_law_1234 : decode cL_law 1234 = .ok (.iaload, 1) := all_d dL_law_all17 34 rfl
theorem dL_law_1235 : decode cL_law 1235 = .ok (.invokevirtual 161, 3) := all_d dL_law_all17 35 rfl
theorem dL_law_1238 : decode cL_law 1238 = .ok (.if_icmp .eq 18, 3) := all_d dL_law_all17 36 rfl
theorem dL_law_1241 : decode cL_law 1241 = .ok (.iconst 0, 1) := all_d dL_law_all17 37 rfl
theorem dL_law_1242 : decode cL_law 1242 = .ok (.ireturn, 1) := all_d dL_law_all17 38 rfl
theorem dL_law_1243 : decode cL_law 1243 = .ok (.aload_n 1, 1) := all_d dL_law_all17 39 rfl
theorem dL_law_1244 : decode cL_law 1244 = .ok (.invokevirtual 162, 3) := all_d dL_law_all17 40 rfl
theorem dL_law_1247 : decode cL_law 1247 = .ok (.aload_n 2, 1) := all_d dL_law_all17 41 rfl
theorem dL_law_1248 : decode cL_law 1248 = .ok (.invokevirtual 165, 3) := all_d dL_law_all17 42 rfl
theorem dL_law_1251 : decode cL_law 1251 = .ok (.if_icmp .eq 5, 3) := all_d dL_law_all17 43 rfl
theorem dL_law_1254 : decode cL_law 1254 = .ok (.iconst 0, 1) := all_d dL_law_all17 44 rfl
theorem dL_law_1255 : decode cL_law 1255 = .ok (.ireturn, 1) := all_d dL_law_all17 45 rfl
theorem dL_law_1256 : decode cL_law 1256 = .ok (.iinc 3 6, 3) := all_d dL_law_all17 46 rfl
theorem dL_law_1259 : decode cL_law 1259 = .ok (.goto (-1241), 3) := all_d dL_law_all17 47 rfl
set_option maxRecDepth 100000 in
theorem dL_law_all18 : ([(1262, (.iconst 1 : Instr), 1), (1263, (.ireturn : Instr), 1)] : List (Nat × Instr × Nat)).all (fun q => decide (decode cL_law q.1 = .ok (q.2.1, q.2.2))) = true := by decide +kernel
theorem dL_law_1262 : decode cL_law 1262 = .ok (.iconst 1, 1) := all_d dL_law_all18 0 rfl
theorem dL_law_1263 : decode cL_law 1263 = .ok (.ireturn, 1) := all_d dL_law_all18 1 rfl
end
section
/-! THE WALKING LAYER: a method's walk over a world of numbered cells: (kind, place) has the address ad kind place and the content E kind place; nothing is made. -/
def gt_ws : List Cond := lw_tbl.filter goodWord
theorem gt_in {w : Cond} (h : w ∈ lw_tbl) (g : goodWord w = true) : w ∈ gt_ws := List.mem_filter.mpr ⟨h, g⟩
theorem gt_ok {w : Cond} (h : w ∈ gt_ws) : (w.onTables && w.keeps) = true ∨ ∃ ty, w = .arrayClass ty := good_of_word (List.mem_filter.mp h).2
theorem gt_lw {w : Cond} (h : w ∈ gt_ws) : w ∈ lw_tbl := (List.mem_filter.mp h).1
def x_ws (y : MethodName) (b : ByteArray) (n : Nat) (r : Option FieldType) : List Cond := Cond.code y b n r :: gt_ws
theorem x_goodin {y : MethodName} {b : ByteArray} {n : Nat} {r : Option FieldType} (h : Cond.code y b n r ∈ gt_ws) : GoodIn gt_ws (x_ws y b n r) := fun w hw => by
  rcases List.mem_cons.mp hw with rfl | hw
  · exact ⟨h, gt_ok h⟩
  · exact ⟨hw, gt_ok hw⟩
abbrev xrm (f lo : Nat) : Room := { frames := f, cells := 0, slots := 0, locals := lo }
/-- class numbers and field slots; addresses; the classes of the arrays -/
abbrev xG : Type := va_G × (Nat → Nat → Nat) × (Nat → ClassId)
abbrev xE : Type := Nat → Nat → va_E
abbrev xD : Type := Nat → Nat → Bool
def x_tys (G : xG) : List (ClassId × FieldType) := [(G.2.2 0, .int), (G.2.2 1, .long), (G.2.2 2, .boolean), (G.2.2 3, .object RX0), (G.2.2 4, .object RX2), (G.2.2 5, .object RX3), (G.2.2 6, .object RX5)]
def xK (G : xG) (U : State) : Prop := va_K G.1 vwCl (x_tys G) U
def xJ (G : xG) (dom : xD) : Prop := ∀ k i k' i' : Nat, dom k i = true → dom k' i' = true → G.2.1 k i = G.2.1 k' i' → k = k' ∧ i = i'
def xP (G : xG) (dom : xD) (E : xE) (H : Heap) : Prop := ∀ k i : Nat, dom k i = true → va_at G.1 vwCl (G.2.1 k i, E k i) H
def xA (G : xG) (dom : xD) : Nat → Prop := fun q => ∃ k i : Nat, dom k i = true ∧ q = G.2.1 k i
def xQ (G : xG) (dom : xD) (rv : Option Value) (E' : xE) : Array Value → State → Outcome → State → Prop := fun _ st oc t => oc = .returned rv ∧ xP G dom E' t.heap ∧ va_F (xA G dom) st t
def xPre (G : xG) (dom : xD) (E : xE) (U : State) : Prop := xP G dom E U.heap ∧ xK G U ∧ xJ G dom
def xMet (l : Launch) (y : MethodName) (ws : List Cond) (rm : Room) (G : xG) (dom : xD) (av : List Value) (E : xE) (rv : Option Value) (E' : xE) : Prop :=
  Met l y ws rm (va_Pc av (xPre G dom E)) (xQ G dom rv E') 0 0 (xA G dom)
def xup (E : xE) (k i : Nat) (e : va_E) : xE := fun k' i' => if k' = k ∧ i' = i then e else E k' i'
theorem xP.set {G : xG} {dom : xD} {E : xE} {H H1 : Heap} {k i : Nat} {e : va_E} (hP : xP G dom E H) (hJ : xJ G dom) (hi : dom k i = true) (he : va_at G.1 vwCl (G.2.1 k i, e) H1) (oq : ∀ q : Nat, q ≠ G.2.1 k i → H1[q]? = H[q]?) : xP G dom (xup E k i e) H1 := by
  intro k' i' h
  unfold xup
  by_cases hh : k' = k ∧ i' = i
  · rw [if_pos hh, hh.1, hh.2]; exact he
  · rw [if_neg hh]
    exact (hP k' i' h).kept (oq _ (fun z => hh (hJ _ _ _ _ h hi z)))
theorem xPre.calling {G : xG} {dom : xD} {E : xE} {U : State} {g : JFrame} {mk : MethodId} {a : Array Value} (h : xPre G dom E U) : xPre G dom E (U.calling g mk a) := ⟨h.1, va_K.moved (u := U) (U := U.calling g mk a) (Vm.Alike.refl U.vm) h.2.1, h.2.2⟩
theorem xPre.blind {av : List Value} {G : xG} {dom : xD} {E : xE} : FrameBlind (va_Pc av (xPre G dom E)) := fun _ _ _ _ h => ⟨h.1, h.2.calling⟩
abbrev xM : Type := Program × Launch × Env × Room × State × MethodId × Array Value × List Frame × Method × Code
/-- what stays the same through a walk: the machine, the world's addresses, which cells there are, how many locals -/
abbrev xY : Type := xM × xG × xD × Nat
def xY.mk (p : Program) (l : Launch) (e : Env) (R : Room) (s : State) (m : MethodId) (args : Array Value) (below : List Frame) (meth : Method) (c : Code) (G : xG) (dom : xD) (n : Nat) : xY := ((p, l, e, R, s, m, args, below, meth, c), G, dom, n)
def xC (Y : xY) (own : String) (cc : ByteArray) (ret : Option FieldType) : Prop := match Y with
  | ((p, _, _, _, s, m, args, _, meth, c), G, dom, nL) => p.tables.exec = Jvm.exec ∧ c.code = cc ∧ c.maxLocals = nL ∧ s.vm.findClass own = some m.cls ∧ (∀ w ∈ gt_ws, w.before args s = true) ∧ xK G s ∧ xJ G dom ∧ meth.locks = false ∧ meth.sig.returnType = ret
def xl (Y : xY) : Launch := Y.1.2.1
def xR (Y : xY) : Room := Y.1.2.2.2.1
abbrev xg (Y : xY) : xG := Y.2.1
abbrev xd (Y : xY) : xD := Y.2.2.1
abbrev xn (Y : xY) : Nat := Y.2.2.2
abbrev xa (Y : xY) : Nat → Nat → Nat := Y.2.1.2.1
def X (Y : xY) (rv : Option Value) (E' : xE) (E : xE) (pc : Nat) (ls : List (Nat × Value)) (st : List Value) : Prop := match Y with
  | ((p, l, e, R, s, m, args, below, meth, c), G, dom, nL) => ∀ (H : Heap) (locs : List Loc) (lsa : Array Slot), xP G dom E H → va_S (xA G dom) s.heap H locs → lv_has lsa nL ls → W p l e R s m args below meth c H locs 0 0 (MQ below (xQ G dom rv E') args s 0 0 (xA G dom)) (F0 m pc lsa st)
section XR
variable {Y : xY} {rv : Option Value} {E' E : xE} {own : String} {cc : ByteArray} {ret : Option FieldType} {pc : Nat} {ls ls' : List (Nat × Value)} {st : List Value}
theorem x_sub (ks : List Nat) (h : lv_pick ls ks = ls') (k : X Y rv E' E pc ls' st) : X Y rv E' E pc ls st := by
  obtain ⟨⟨p, l, e, R, s, m, args, below, meth, c⟩, G, dom, nL⟩ := Y
  exact fun H locs lsa hP hS hl => k H locs lsa hP hS (lv_sub hl ks h)
theorem x_E {E2 : xE} (h : ∀ k i : Nat, xd Y k i = true → E k i = E2 k i) (k : X Y rv E' E2 pc ls st) : X Y rv E' E pc ls st := by
  obtain ⟨⟨p, l, e, R, s, m, args, below, meth, c⟩, G, dom, nL⟩ := Y
  exact fun H locs lsa hP hS hl => k H locs lsa (fun a b hd => by rw [← h a b hd]; exact hP a b hd) hS hl
-- constants
theorem x_iconst (C : xC Y own cc ret) {n : Int} {v : Int32} (d : decode cc pc = .ok (.iconst n, 1)) (hv : Int32.ofInt n = v) (k : X Y rv E' E (pc + 1) ls (.int v :: st)) : X Y rv E' E pc ls st := by
  obtain ⟨⟨p, l, e, R, s, m, args, below, meth, c⟩, G, dom, nL⟩ := Y
  exact fun H locs lsa hP hS hl => lv_iconst C.1 C.2.1 d hv (k H locs lsa hP hS hl)
theorem x_bipush (C : xC Y own cc ret) {n : Int} {v : Int32} (d : decode cc pc = .ok (.bipush n, 2)) (hv : (Int8.ofInt n).toInt32 = v) (k : X Y rv E' E (pc + 2) ls (.int v :: st)) : X Y rv E' E pc ls st := by
  obtain ⟨⟨p, l, e, R, s, m, args, below, meth, c⟩, G, dom, nL⟩ := Y
  exact fun H locs lsa hP hS hl => lv_bipush C.1 C.2.1 d hv (k H locs lsa hP hS hl)
theorem x_sipush (C : xC Y own cc ret) {n : Int} {v : Int32} (d : decode cc pc = .ok (.sipush n, 3)) (hv : (Int16.ofInt n).toInt32 = v) (k : X Y rv E' E (pc + 3) ls (.int v :: st)) : X Y rv E' E pc ls st := by
  obtain ⟨⟨p, l, e, R, s, m, args, below, meth, c⟩, G, dom, nL⟩ := Y
  exact fun H locs lsa hP hS hl => lv_sipush C.1 C.2.1 d hv (k H locs lsa hP hS hl)
theorem x_lconst (C : xC Y own cc ret) {n : Fin 2} {v : Int64} (d : decode cc pc = .ok (.lconst n, 1)) (hv : Int64.ofNat (n : Nat) = v) (k : X Y rv E' E (pc + 1) ls (.long v :: st)) : X Y rv E' E pc ls st := by
  obtain ⟨⟨p, l, e, R, s, m, args, below, meth, c⟩, G, dom, nL⟩ := Y
  exact fun H locs lsa hP hS hl => lv_lconst C.1 C.2.1 d hv (k H locs lsa hP hS hl)
theorem x_ldc (C : xC Y own cc ret) {i : Nat} {v : Int32} (d : decode cc pc = .ok (.ldc i, 2)) (h : Cond.constant own i v ∈ gt_ws) (k : X Y rv E' E (pc + 2) ls (.int v :: st)) : X Y rv E' E pc ls st := by
  obtain ⟨⟨p, l, e, R, s, m, args, below, meth, c⟩, G, dom, nL⟩ := Y
  exact fun H locs lsa hP hS hl => lv_ldc C.1 C.2.1 C.2.2.2.1 (C.2.2.2.2.1 _ h) d (k H locs lsa hP hS hl)
theorem x_null (C : xC Y own cc ret) (d : decode cc pc = .ok (.aconst_null, 1)) (k : X Y rv E' E (pc + 1) ls (.null :: st)) : X Y rv E' E pc ls st := by
  obtain ⟨⟨p, l, e, R, s, m, args, below, meth, c⟩, G, dom, nL⟩ := Y
  exact fun H locs lsa hP hS hl => lv_null C.1 C.2.1 d (k H locs lsa hP hS hl)
-- locals
theorem x_iload_n (C : xC Y own cc ret) {a : Fin 4} {i j : Nat} {x : Int32} (d : decode cc pc = .ok (.iload_n a, 1)) (hi : (a : Nat) = i) (hk : ls[j]? = some (i, .int x)) (k : X Y rv E' E (pc + 1) ls (.int x :: st)) : X Y rv E' E pc ls st := by
  obtain ⟨⟨p, l, e, R, s, m, args, below, meth, c⟩, G, dom, nL⟩ := Y
  exact fun H locs lsa hP hS hl => lv_iload_n C.1 C.2.1 d hi (lv_at hl j hk) (k H locs lsa hP hS hl)
theorem x_iload (C : xC Y own cc ret) {i j : Nat} {x : Int32} (d : decode cc pc = .ok (.iload i, 2)) (hk : ls[j]? = some (i, .int x)) (k : X Y rv E' E (pc + 2) ls (.int x :: st)) : X Y rv E' E pc ls st := by
  obtain ⟨⟨p, l, e, R, s, m, args, below, meth, c⟩, G, dom, nL⟩ := Y
  exact fun H locs lsa hP hS hl => lv_iload C.1 C.2.1 d (lv_at hl j hk) (k H locs lsa hP hS hl)
theorem x_lload_n (C : xC Y own cc ret) {a : Fin 4} {i j : Nat} {x : Int64} (d : decode cc pc = .ok (.lload_n a, 1)) (hi : (a : Nat) = i) (hk : ls[j]? = some (i, .long x)) (k : X Y rv E' E (pc + 1) ls (.long x :: st)) : X Y rv E' E pc ls st := by
  obtain ⟨⟨p, l, e, R, s, m, args, below, meth, c⟩, G, dom, nL⟩ := Y
  exact fun H locs lsa hP hS hl => lv_lload_n C.1 C.2.1 d hi (lv_at hl j hk) (k H locs lsa hP hS hl)
theorem x_lload (C : xC Y own cc ret) {i j : Nat} {x : Int64} (d : decode cc pc = .ok (.lload i, 2)) (hk : ls[j]? = some (i, .long x)) (k : X Y rv E' E (pc + 2) ls (.long x :: st)) : X Y rv E' E pc ls st := by
  obtain ⟨⟨p, l, e, R, s, m, args, below, meth, c⟩, G, dom, nL⟩ := Y
  exact fun H locs lsa hP hS hl => lv_lload C.1 C.2.1 d (lv_at hl j hk) (k H locs lsa hP hS hl)
theorem x_aload_n (C : xC Y own cc ret) {a : Fin 4} {i j : Nat} {x : Nat} (d : decode cc pc = .ok (.aload_n a, 1)) (hi : (a : Nat) = i) (hk : ls[j]? = some (i, .ref x)) (k : X Y rv E' E (pc + 1) ls (.ref x :: st)) : X Y rv E' E pc ls st := by
  obtain ⟨⟨p, l, e, R, s, m, args, below, meth, c⟩, G, dom, nL⟩ := Y
  exact fun H locs lsa hP hS hl => lv_aload_n C.1 C.2.1 d hi (lv_at hl j hk) (k H locs lsa hP hS hl)
theorem x_aload (C : xC Y own cc ret) {i j : Nat} {x : Nat} (d : decode cc pc = .ok (.aload i, 2)) (hk : ls[j]? = some (i, .ref x)) (k : X Y rv E' E (pc + 2) ls (.ref x :: st)) : X Y rv E' E pc ls st := by
  obtain ⟨⟨p, l, e, R, s, m, args, below, meth, c⟩, G, dom, nL⟩ := Y
  exact fun H locs lsa hP hS hl => lv_aload C.1 C.2.1 d (lv_at hl j hk) (k H locs lsa hP hS hl)
theorem x_aload_nq (C : xC Y own cc ret) {a : Fin 4} {i j : Nat} (q : Option Nat) (d : decode cc pc = .ok (.aload_n a, 1)) (hi : (a : Nat) = i) (hk : ls[j]? = some (i, va_rf q)) (k : X Y rv E' E (pc + 1) ls (va_rf q :: st)) : X Y rv E' E pc ls st := by
  obtain ⟨⟨p, l, e, R, s, m, args, below, meth, c⟩, G, dom, nL⟩ := Y
  cases q with
  | none => exact fun H locs lsa hP hS hl => lv_aload_nN C.1 C.2.1 d hi (lv_at hl j hk) (k H locs lsa hP hS hl)
  | some b => exact fun H locs lsa hP hS hl => lv_aload_n C.1 C.2.1 d hi (lv_at hl j hk) (k H locs lsa hP hS hl)
theorem x_aloadq (C : xC Y own cc ret) {i j : Nat} (q : Option Nat) (d : decode cc pc = .ok (.aload i, 2)) (hk : ls[j]? = some (i, va_rf q)) (k : X Y rv E' E (pc + 2) ls (va_rf q :: st)) : X Y rv E' E pc ls st := by
  obtain ⟨⟨p, l, e, R, s, m, args, below, meth, c⟩, G, dom, nL⟩ := Y
  cases q with
  | none => exact fun H locs lsa hP hS hl => lv_aloadN C.1 C.2.1 d (lv_at hl j hk) (k H locs lsa hP hS hl)
  | some b => exact fun H locs lsa hP hS hl => lv_aload C.1 C.2.1 d (lv_at hl j hk) (k H locs lsa hP hS hl)
theorem x_istore_n (C : xC Y own cc ret) {a : Fin 4} {i : Nat} {x : Int32} (d : decode cc pc = .ok (.istore_n a, 1)) (hi : (a : Nat) = i) (hn : i < xn Y) (hl2 : (i, Value.int x) :: ls.filter (fun q => !(q.1 == i) && !(q.1 + 1 == i && q.2.category == 2)) = ls') (k : X Y rv E' E (pc + 1) ls' st) : X Y rv E' E pc ls (.int x :: st) := by
  obtain ⟨⟨p, l, e, R, s, m, args, below, meth, c⟩, G, dom, nL⟩ := Y
  exact fun H locs lsa hP hS hl => lv_istore_n C.1 C.2.1 d hi hl hn hl2 (fun lsb h => k H locs lsb hP hS h)
theorem x_istore (C : xC Y own cc ret) {i : Nat} {x : Int32} (d : decode cc pc = .ok (.istore i, 2)) (hn : i < xn Y) (hl2 : (i, Value.int x) :: ls.filter (fun q => !(q.1 == i) && !(q.1 + 1 == i && q.2.category == 2)) = ls') (k : X Y rv E' E (pc + 2) ls' st) : X Y rv E' E pc ls (.int x :: st) := by
  obtain ⟨⟨p, l, e, R, s, m, args, below, meth, c⟩, G, dom, nL⟩ := Y
  exact fun H locs lsa hP hS hl => lv_istore C.1 C.2.1 d hl hn hl2 (fun lsb h => k H locs lsb hP hS h)
theorem x_lstore_n (C : xC Y own cc ret) {a : Fin 4} {i : Nat} {x : Int64} (d : decode cc pc = .ok (.lstore_n a, 1)) (hi : (a : Nat) = i) (hn : i + 1 < xn Y) (hl2 : (i, Value.long x) :: ls.filter (fun q => !(q.1 == i) && (!(q.1 == i + 1) && !(q.1 + 1 == i && q.2.category == 2))) = ls') (k : X Y rv E' E (pc + 1) ls' st) : X Y rv E' E pc ls (.long x :: st) := by
  obtain ⟨⟨p, l, e, R, s, m, args, below, meth, c⟩, G, dom, nL⟩ := Y
  exact fun H locs lsa hP hS hl => lv_lstore_n C.1 C.2.1 d hi hl hn hl2 (fun lsb h => k H locs lsb hP hS h)
theorem x_lstore (C : xC Y own cc ret) {i : Nat} {x : Int64} (d : decode cc pc = .ok (.lstore i, 2)) (hn : i + 1 < xn Y) (hl2 : (i, Value.long x) :: ls.filter (fun q => !(q.1 == i) && (!(q.1 == i + 1) && !(q.1 + 1 == i && q.2.category == 2))) = ls') (k : X Y rv E' E (pc + 2) ls' st) : X Y rv E' E pc ls (.long x :: st) := by
  obtain ⟨⟨p, l, e, R, s, m, args, below, meth, c⟩, G, dom, nL⟩ := Y
  exact fun H locs lsa hP hS hl => lv_lstore C.1 C.2.1 d hl hn hl2 (fun lsb h => k H locs lsb hP hS h)
theorem x_astore_n (C : xC Y own cc ret) {a : Fin 4} {i x : Nat} (d : decode cc pc = .ok (.astore_n a, 1)) (hi : (a : Nat) = i) (hn : i < xn Y) (hl2 : (i, Value.ref x) :: ls.filter (fun q => !(q.1 == i) && !(q.1 + 1 == i && q.2.category == 2)) = ls') (k : X Y rv E' E (pc + 1) ls' st) : X Y rv E' E pc ls (.ref x :: st) := by
  obtain ⟨⟨p, l, e, R, s, m, args, below, meth, c⟩, G, dom, nL⟩ := Y
  exact fun H locs lsa hP hS hl => lv_astore_n C.1 C.2.1 d hi hl hn hl2 (fun lsb h => k H locs lsb hP hS h)
theorem x_astore (C : xC Y own cc ret) {i x : Nat} (d : decode cc pc = .ok (.astore i, 2)) (hn : i < xn Y) (hl2 : (i, Value.ref x) :: ls.filter (fun q => !(q.1 == i) && !(q.1 + 1 == i && q.2.category == 2)) = ls') (k : X Y rv E' E (pc + 2) ls' st) : X Y rv E' E pc ls (.ref x :: st) := by
  obtain ⟨⟨p, l, e, R, s, m, args, below, meth, c⟩, G, dom, nL⟩ := Y
  exact fun H locs lsa hP hS hl => lv_astore C.1 C.2.1 d hl hn hl2 (fun lsb h => k H locs lsb hP hS h)
theorem x_astore_nq (C : xC Y own cc ret) {a : Fin 4} {i : Nat} (q : Option Nat) (d : decode cc pc = .ok (.astore_n a, 1)) (hi : (a : Nat) = i) (hn : i < xn Y) (hl2 : (i, va_rf q) :: ls.filter (fun q => !(q.1 == i) && !(q.1 + 1 == i && q.2.category == 2)) = ls') (k : X Y rv E' E (pc + 1) ls' st) : X Y rv E' E pc ls (va_rf q :: st) := by
  obtain ⟨⟨p, l, e, R, s, m, args, below, meth, c⟩, G, dom, nL⟩ := Y
  cases q with
  | none => exact fun H locs lsa hP hS hl => lv_astore_nN C.1 C.2.1 d hi hl hn hl2 (fun lsb h => k H locs lsb hP hS h)
  | some b => exact fun H locs lsa hP hS hl => lv_astore_n C.1 C.2.1 d hi hl hn hl2 (fun lsb h => k H locs lsb hP hS h)
theorem x_astoreq (C : xC Y own cc ret) {i : Nat} (q : Option Nat) (d : decode cc pc = .ok (.astore i, 2)) (hn : i < xn Y) (hl2 : (i, va_rf q) :: ls.filter (fun q => !(q.1 == i) && !(q.1 + 1 == i && q.2.category == 2)) = ls') (k : X Y rv E' E (pc + 2) ls' st) : X Y rv E' E pc ls (va_rf q :: st) := by
  obtain ⟨⟨p, l, e, R, s, m, args, below, meth, c⟩, G, dom, nL⟩ := Y
  cases q with
  | none => exact fun H locs lsa hP hS hl => lv_astoreN C.1 C.2.1 d hl hn hl2 (fun lsb h => k H locs lsb hP hS h)
  | some b => exact fun H locs lsa hP hS hl => lv_astore C.1 C.2.1 d hl hn hl2 (fun lsb h => k H locs lsb hP hS h)
theorem x_iinc (C : xC Y own cc ret) {i j : Nat} {n : Int} {x v : Int32} (d : decode cc pc = .ok (.iinc i n, 3)) (hk : ls[j]? = some (i, .int x)) (hv : x + Int32.ofInt n = v) (hn : i < xn Y) (hl2 : (i, Value.int v) :: ls.filter (fun q => !(q.1 == i) && !(q.1 + 1 == i && q.2.category == 2)) = ls') (k : X Y rv E' E (pc + 3) ls' st) : X Y rv E' E pc ls st := by
  obtain ⟨⟨p, l, e, R, s, m, args, below, meth, c⟩, G, dom, nL⟩ := Y
  exact fun H locs lsa hP hS hl => lv_iinc C.1 C.2.1 d hl hk hv hn hl2 (fun lsb h => k H locs lsb hP hS h)
-- arithmetic
theorem x_iadd (C : xC Y own cc ret) {x y : Int32} (d : decode cc pc = .ok (.iadd, 1)) (k : X Y rv E' E (pc + 1) ls (.int (x + y) :: st)) : X Y rv E' E pc ls (.int y :: .int x :: st) := by
  obtain ⟨⟨p, l, e, R, s, m, args, below, meth, c⟩, G, dom, nL⟩ := Y
  exact fun H locs lsa hP hS hl => lv_iadd C.1 C.2.1 d (k H locs lsa hP hS hl)
theorem x_isub (C : xC Y own cc ret) {x y : Int32} (d : decode cc pc = .ok (.isub, 1)) (k : X Y rv E' E (pc + 1) ls (.int (x - y) :: st)) : X Y rv E' E pc ls (.int y :: .int x :: st) := by
  obtain ⟨⟨p, l, e, R, s, m, args, below, meth, c⟩, G, dom, nL⟩ := Y
  exact fun H locs lsa hP hS hl => lv_isub C.1 C.2.1 d (k H locs lsa hP hS hl)
theorem x_imul (C : xC Y own cc ret) {x y : Int32} (d : decode cc pc = .ok (.imul, 1)) (k : X Y rv E' E (pc + 1) ls (.int (x * y) :: st)) : X Y rv E' E pc ls (.int y :: .int x :: st) := by
  obtain ⟨⟨p, l, e, R, s, m, args, below, meth, c⟩, G, dom, nL⟩ := Y
  exact fun H locs lsa hP hS hl => lv_imul C.1 C.2.1 d (k H locs lsa hP hS hl)
theorem x_iand (C : xC Y own cc ret) {x y : Int32} (d : decode cc pc = .ok (.iand, 1)) (k : X Y rv E' E (pc + 1) ls (.int (x &&& y) :: st)) : X Y rv E' E pc ls (.int y :: .int x :: st) := by
  obtain ⟨⟨p, l, e, R, s, m, args, below, meth, c⟩, G, dom, nL⟩ := Y
  exact fun H locs lsa hP hS hl => lv_iand C.1 C.2.1 d (k H locs lsa hP hS hl)
theorem x_ior (C : xC Y own cc ret) {x y : Int32} (d : decode cc pc = .ok (.ior, 1)) (k : X Y rv E' E (pc + 1) ls (.int (x ||| y) :: st)) : X Y rv E' E pc ls (.int y :: .int x :: st) := by
  obtain ⟨⟨p, l, e, R, s, m, args, below, meth, c⟩, G, dom, nL⟩ := Y
  exact fun H locs lsa hP hS hl => lv_ior C.1 C.2.1 d (k H locs lsa hP hS hl)
theorem x_ishl (C : xC Y own cc ret) {x y : Int32} (d : decode cc pc = .ok (.ishl, 1)) (k : X Y rv E' E (pc + 1) ls (.int (x <<< (y &&& 31)) :: st)) : X Y rv E' E pc ls (.int y :: .int x :: st) := by
  obtain ⟨⟨p, l, e, R, s, m, args, below, meth, c⟩, G, dom, nL⟩ := Y
  exact fun H locs lsa hP hS hl => lv_ishl C.1 C.2.1 d (k H locs lsa hP hS hl)
theorem x_ishr (C : xC Y own cc ret) {x y : Int32} (d : decode cc pc = .ok (.ishr, 1)) (k : X Y rv E' E (pc + 1) ls (.int (x >>> (y &&& 31)) :: st)) : X Y rv E' E pc ls (.int y :: .int x :: st) := by
  obtain ⟨⟨p, l, e, R, s, m, args, below, meth, c⟩, G, dom, nL⟩ := Y
  exact fun H locs lsa hP hS hl => lv_ishr C.1 C.2.1 d (k H locs lsa hP hS hl)
theorem x_idiv (C : xC Y own cc ret) {x y : Int32} (d : decode cc pc = .ok (.idiv, 1)) (hne : ¬ y = 0) (k : X Y rv E' E (pc + 1) ls (.int (x / y) :: st)) : X Y rv E' E pc ls (.int y :: .int x :: st) := by
  obtain ⟨⟨p, l, e, R, s, m, args, below, meth, c⟩, G, dom, nL⟩ := Y
  exact fun H locs lsa hP hS hl => lv_idiv C.1 C.2.1 d hne (k H locs lsa hP hS hl)
theorem x_irem (C : xC Y own cc ret) {x y : Int32} (d : decode cc pc = .ok (.irem, 1)) (hne : ¬ y = 0) (k : X Y rv E' E (pc + 1) ls (.int (x - x / y * y) :: st)) : X Y rv E' E pc ls (.int y :: .int x :: st) := by
  obtain ⟨⟨p, l, e, R, s, m, args, below, meth, c⟩, G, dom, nL⟩ := Y
  exact fun H locs lsa hP hS hl => lv_irem C.1 C.2.1 d hne (k H locs lsa hP hS hl)
theorem x_ineg (C : xC Y own cc ret) {x : Int32} (d : decode cc pc = .ok (.ineg, 1)) (k : X Y rv E' E (pc + 1) ls (.int (-x) :: st)) : X Y rv E' E pc ls (.int x :: st) := by
  obtain ⟨⟨p, l, e, R, s, m, args, below, meth, c⟩, G, dom, nL⟩ := Y
  exact fun H locs lsa hP hS hl => lv_ineg C.1 C.2.1 d (k H locs lsa hP hS hl)
theorem x_ladd (C : xC Y own cc ret) {x y : Int64} (d : decode cc pc = .ok (.ladd, 1)) (k : X Y rv E' E (pc + 1) ls (.long (x + y) :: st)) : X Y rv E' E pc ls (.long y :: .long x :: st) := by
  obtain ⟨⟨p, l, e, R, s, m, args, below, meth, c⟩, G, dom, nL⟩ := Y
  exact fun H locs lsa hP hS hl => lv_ladd C.1 C.2.1 d (k H locs lsa hP hS hl)
theorem x_land (C : xC Y own cc ret) {x y : Int64} (d : decode cc pc = .ok (.land, 1)) (k : X Y rv E' E (pc + 1) ls (.long (x &&& y) :: st)) : X Y rv E' E pc ls (.long y :: .long x :: st) := by
  obtain ⟨⟨p, l, e, R, s, m, args, below, meth, c⟩, G, dom, nL⟩ := Y
  exact fun H locs lsa hP hS hl => lv_land C.1 C.2.1 d (k H locs lsa hP hS hl)
theorem x_lor (C : xC Y own cc ret) {x y : Int64} (d : decode cc pc = .ok (.lor, 1)) (k : X Y rv E' E (pc + 1) ls (.long (x ||| y) :: st)) : X Y rv E' E pc ls (.long y :: .long x :: st) := by
  obtain ⟨⟨p, l, e, R, s, m, args, below, meth, c⟩, G, dom, nL⟩ := Y
  exact fun H locs lsa hP hS hl => lv_lor C.1 C.2.1 d (k H locs lsa hP hS hl)
theorem x_lshl (C : xC Y own cc ret) {x : Int64} {y : Int32} (d : decode cc pc = .ok (.lshl, 1)) (k : X Y rv E' E (pc + 1) ls (.long (x <<< (y.toInt64 &&& 63)) :: st)) : X Y rv E' E pc ls (.int y :: .long x :: st) := by
  obtain ⟨⟨p, l, e, R, s, m, args, below, meth, c⟩, G, dom, nL⟩ := Y
  exact fun H locs lsa hP hS hl => lv_lshl C.1 C.2.1 d rfl (k H locs lsa hP hS hl)
theorem x_i2l (C : xC Y own cc ret) {x : Int32} (d : decode cc pc = .ok (.i2l, 1)) (k : X Y rv E' E (pc + 1) ls (.long x.toInt64 :: st)) : X Y rv E' E pc ls (.int x :: st) := by
  obtain ⟨⟨p, l, e, R, s, m, args, below, meth, c⟩, G, dom, nL⟩ := Y
  exact fun H locs lsa hP hS hl => lv_i2l C.1 C.2.1 d rfl (k H locs lsa hP hS hl)
theorem x_l2i (C : xC Y own cc ret) {x : Int64} (d : decode cc pc = .ok (.l2i, 1)) (k : X Y rv E' E (pc + 1) ls (.int x.toInt32 :: st)) : X Y rv E' E pc ls (.long x :: st) := by
  obtain ⟨⟨p, l, e, R, s, m, args, below, meth, c⟩, G, dom, nL⟩ := Y
  exact fun H locs lsa hP hS hl => lv_l2i C.1 C.2.1 d rfl (k H locs lsa hP hS hl)
theorem x_lcmp (C : xC Y own cc ret) {x y : Int64} (d : decode cc pc = .ok (.lcmp, 1)) (k : X Y rv E' E (pc + 1) ls (.int (lg_cmp x y) :: st)) : X Y rv E' E pc ls (.long y :: .long x :: st) := by
  obtain ⟨⟨p, l, e, R, s, m, args, below, meth, c⟩, G, dom, nL⟩ := Y
  exact fun H locs lsa hP hS hl => W.lcmp C.1 C.2.1 d (k H locs lsa hP hS hl)
-- the stack
theorem x_dup (C : xC Y own cc ret) {v : Value} (d : decode cc pc = .ok (.dup, 1)) (hv : v.category = 1) (k : X Y rv E' E (pc + 1) ls (v :: v :: st)) : X Y rv E' E pc ls (v :: st) := by
  obtain ⟨⟨p, l, e, R, s, m, args, below, meth, c⟩, G, dom, nL⟩ := Y
  exact fun H locs lsa hP hS hl => lv_dup C.1 C.2.1 d hv (k H locs lsa hP hS hl)
theorem x_pop (C : xC Y own cc ret) {v : Value} (d : decode cc pc = .ok (.pop, 1)) (hv : v.category = 1) (k : X Y rv E' E (pc + 1) ls st) : X Y rv E' E pc ls (v :: st) := by
  obtain ⟨⟨p, l, e, R, s, m, args, below, meth, c⟩, G, dom, nL⟩ := Y
  exact fun H locs lsa hP hS hl => lv_pop C.1 C.2.1 d hv (k H locs lsa hP hS hl)
theorem x_dup2 (C : xC Y own cc ret) {v w : Value} (d : decode cc pc = .ok (.dup2, 1)) (hv : v.category = 1) (hw : w.category = 1) (k : X Y rv E' E (pc + 1) ls (v :: w :: v :: w :: st)) : X Y rv E' E pc ls (v :: w :: st) := by
  obtain ⟨⟨p, l, e, R, s, m, args, below, meth, c⟩, G, dom, nL⟩ := Y
  exact fun H locs lsa hP hS hl => lv_dup2_11 C.1 C.2.1 d hv hw (k H locs lsa hP hS hl)
-- branches
theorem x_if_eq (C : xC Y own cc ret) {x : Int32} {off : Int} {tgt : Nat} (d : decode cc pc = .ok (.ifCond .eq off, 3)) (ht : (pc : Int) + off = (tgt : Int)) (kt : x = 0 → X Y rv E' E tgt ls st) (kf : ¬ (x = 0) → X Y rv E' E (pc + 3) ls st) : X Y rv E' E pc ls (.int x :: st) := by
  obtain ⟨⟨p, l, e, R, s, m, args, below, meth, c⟩, G, dom, nL⟩ := Y
  exact fun H locs lsa hP hS hl => lv_if_eq C.1 C.2.1 d ht (fun h => kt h H locs lsa hP hS hl) (fun h => kf h H locs lsa hP hS hl)
theorem x_icmp_eq (C : xC Y own cc ret) {x y : Int32} {off : Int} {tgt : Nat} (d : decode cc pc = .ok (.if_icmp .eq off, 3)) (ht : (pc : Int) + off = (tgt : Int)) (kt : x = y → X Y rv E' E tgt ls st) (kf : ¬ (x = y) → X Y rv E' E (pc + 3) ls st) : X Y rv E' E pc ls (.int y :: .int x :: st) := by
  obtain ⟨⟨p, l, e, R, s, m, args, below, meth, c⟩, G, dom, nL⟩ := Y
  exact fun H locs lsa hP hS hl => lv_icmp_eq C.1 C.2.1 d ht (fun h => kt h H locs lsa hP hS hl) (fun h => kf h H locs lsa hP hS hl)
theorem x_if_ne (C : xC Y own cc ret) {x : Int32} {off : Int} {tgt : Nat} (d : decode cc pc = .ok (.ifCond .ne off, 3)) (ht : (pc : Int) + off = (tgt : Int)) (kt : ¬ x = 0 → X Y rv E' E tgt ls st) (kf : x = 0 → X Y rv E' E (pc + 3) ls st) : X Y rv E' E pc ls (.int x :: st) := by
  obtain ⟨⟨p, l, e, R, s, m, args, below, meth, c⟩, G, dom, nL⟩ := Y
  exact fun H locs lsa hP hS hl => lv_if_ne C.1 C.2.1 d ht (fun h => kt h H locs lsa hP hS hl) (fun h => kf h H locs lsa hP hS hl)
theorem x_icmp_ne (C : xC Y own cc ret) {x y : Int32} {off : Int} {tgt : Nat} (d : decode cc pc = .ok (.if_icmp .ne off, 3)) (ht : (pc : Int) + off = (tgt : Int)) (kt : ¬ x = y → X Y rv E' E tgt ls st) (kf : x = y → X Y rv E' E (pc + 3) ls st) : X Y rv E' E pc ls (.int y :: .int x :: st) := by
  obtain ⟨⟨p, l, e, R, s, m, args, below, meth, c⟩, G, dom, nL⟩ := Y
  exact fun H locs lsa hP hS hl => lv_icmp_ne C.1 C.2.1 d ht (fun h => kt h H locs lsa hP hS hl) (fun h => kf h H locs lsa hP hS hl)
theorem x_if_lt (C : xC Y own cc ret) {x : Int32} {off : Int} {tgt : Nat} (d : decode cc pc = .ok (.ifCond .lt off, 3)) (ht : (pc : Int) + off = (tgt : Int)) (kt : x < 0 → X Y rv E' E tgt ls st) (kf : ¬ (x < 0) → X Y rv E' E (pc + 3) ls st) : X Y rv E' E pc ls (.int x :: st) := by
  obtain ⟨⟨p, l, e, R, s, m, args, below, meth, c⟩, G, dom, nL⟩ := Y
  exact fun H locs lsa hP hS hl => lv_if_lt C.1 C.2.1 d ht (fun h => kt h H locs lsa hP hS hl) (fun h => kf h H locs lsa hP hS hl)
theorem x_icmp_lt (C : xC Y own cc ret) {x y : Int32} {off : Int} {tgt : Nat} (d : decode cc pc = .ok (.if_icmp .lt off, 3)) (ht : (pc : Int) + off = (tgt : Int)) (kt : x < y → X Y rv E' E tgt ls st) (kf : ¬ (x < y) → X Y rv E' E (pc + 3) ls st) : X Y rv E' E pc ls (.int y :: .int x :: st) := by
  obtain ⟨⟨p, l, e, R, s, m, args, below, meth, c⟩, G, dom, nL⟩ := Y
  exact fun H locs lsa hP hS hl => lv_icmp_lt C.1 C.2.1 d ht (fun h => kt h H locs lsa hP hS hl) (fun h => kf h H locs lsa hP hS hl)
theorem x_if_ge (C : xC Y own cc ret) {x : Int32} {off : Int} {tgt : Nat} (d : decode cc pc = .ok (.ifCond .ge off, 3)) (ht : (pc : Int) + off = (tgt : Int)) (kt : 0 ≤ x → X Y rv E' E tgt ls st) (kf : ¬ (0 ≤ x) → X Y rv E' E (pc + 3) ls st) : X Y rv E' E pc ls (.int x :: st) := by
  obtain ⟨⟨p, l, e, R, s, m, args, below, meth, c⟩, G, dom, nL⟩ := Y
  exact fun H locs lsa hP hS hl => lv_if_ge C.1 C.2.1 d ht (fun h => kt h H locs lsa hP hS hl) (fun h => kf h H locs lsa hP hS hl)
theorem x_icmp_ge (C : xC Y own cc ret) {x y : Int32} {off : Int} {tgt : Nat} (d : decode cc pc = .ok (.if_icmp .ge off, 3)) (ht : (pc : Int) + off = (tgt : Int)) (kt : y ≤ x → X Y rv E' E tgt ls st) (kf : ¬ (y ≤ x) → X Y rv E' E (pc + 3) ls st) : X Y rv E' E pc ls (.int y :: .int x :: st) := by
  obtain ⟨⟨p, l, e, R, s, m, args, below, meth, c⟩, G, dom, nL⟩ := Y
  exact fun H locs lsa hP hS hl => lv_icmp_ge C.1 C.2.1 d ht (fun h => kt h H locs lsa hP hS hl) (fun h => kf h H locs lsa hP hS hl)
theorem x_if_gt (C : xC Y own cc ret) {x : Int32} {off : Int} {tgt : Nat} (d : decode cc pc = .ok (.ifCond .gt off, 3)) (ht : (pc : Int) + off = (tgt : Int)) (kt : 0 < x → X Y rv E' E tgt ls st) (kf : ¬ (0 < x) → X Y rv E' E (pc + 3) ls st) : X Y rv E' E pc ls (.int x :: st) := by
  obtain ⟨⟨p, l, e, R, s, m, args, below, meth, c⟩, G, dom, nL⟩ := Y
  exact fun H locs lsa hP hS hl => lv_if_gt C.1 C.2.1 d ht (fun h => kt h H locs lsa hP hS hl) (fun h => kf h H locs lsa hP hS hl)
theorem x_icmp_gt (C : xC Y own cc ret) {x y : Int32} {off : Int} {tgt : Nat} (d : decode cc pc = .ok (.if_icmp .gt off, 3)) (ht : (pc : Int) + off = (tgt : Int)) (kt : y < x → X Y rv E' E tgt ls st) (kf : ¬ (y < x) → X Y rv E' E (pc + 3) ls st) : X Y rv E' E pc ls (.int y :: .int x :: st) := by
  obtain ⟨⟨p, l, e, R, s, m, args, below, meth, c⟩, G, dom, nL⟩ := Y
  exact fun H locs lsa hP hS hl => lv_icmp_gt C.1 C.2.1 d ht (fun h => kt h H locs lsa hP hS hl) (fun h => kf h H locs lsa hP hS hl)
theorem x_if_le (C : xC Y own cc ret) {x : Int32} {off : Int} {tgt : Nat} (d : decode cc pc = .ok (.ifCond .le off, 3)) (ht : (pc : Int) + off = (tgt : Int)) (kt : x ≤ 0 → X Y rv E' E tgt ls st) (kf : ¬ (x ≤ 0) → X Y rv E' E (pc + 3) ls st) : X Y rv E' E pc ls (.int x :: st) := by
  obtain ⟨⟨p, l, e, R, s, m, args, below, meth, c⟩, G, dom, nL⟩ := Y
  exact fun H locs lsa hP hS hl => lv_if_le C.1 C.2.1 d ht (fun h => kt h H locs lsa hP hS hl) (fun h => kf h H locs lsa hP hS hl)
theorem x_icmp_le (C : xC Y own cc ret) {x y : Int32} {off : Int} {tgt : Nat} (d : decode cc pc = .ok (.if_icmp .le off, 3)) (ht : (pc : Int) + off = (tgt : Int)) (kt : x ≤ y → X Y rv E' E tgt ls st) (kf : ¬ (x ≤ y) → X Y rv E' E (pc + 3) ls st) : X Y rv E' E pc ls (.int y :: .int x :: st) := by
  obtain ⟨⟨p, l, e, R, s, m, args, below, meth, c⟩, G, dom, nL⟩ := Y
  exact fun H locs lsa hP hS hl => lv_icmp_le C.1 C.2.1 d ht (fun h => kt h H locs lsa hP hS hl) (fun h => kf h H locs lsa hP hS hl)
theorem x_goto (C : xC Y own cc ret) {off : Int} {tgt : Nat} (d : decode cc pc = .ok (.goto off, 3)) (ht : (pc : Int) + off = (tgt : Int)) (k : X Y rv E' E tgt ls st) : X Y rv E' E pc ls st := by
  obtain ⟨⟨p, l, e, R, s, m, args, below, meth, c⟩, G, dom, nL⟩ := Y
  exact fun H locs lsa hP hS hl => lv_goto C.1 C.2.1 d ht (k H locs lsa hP hS hl)
theorem x_ifnull (C : xC Y own cc ret) {x : Nat} {off : Int} (d : decode cc pc = .ok (.ifnull off, 3)) (k : X Y rv E' E (pc + 3) ls st) : X Y rv E' E pc ls (.ref x :: st) := by
  obtain ⟨⟨p, l, e, R, s, m, args, below, meth, c⟩, G, dom, nL⟩ := Y
  exact fun H locs lsa hP hS hl => lv_ifnull C.1 C.2.1 d (k H locs lsa hP hS hl)
theorem x_ifnullN (C : xC Y own cc ret) {off : Int} {tgt : Nat} (d : decode cc pc = .ok (.ifnull off, 3)) (ht : (pc : Int) + off = (tgt : Int)) (k : X Y rv E' E tgt ls st) : X Y rv E' E pc ls (.null :: st) := by
  obtain ⟨⟨p, l, e, R, s, m, args, below, meth, c⟩, G, dom, nL⟩ := Y
  exact fun H locs lsa hP hS hl => lv_ifnullN C.1 C.2.1 d ht (k H locs lsa hP hS hl)
theorem x_ifnonnull (C : xC Y own cc ret) {x : Nat} {off : Int} {tgt : Nat} (d : decode cc pc = .ok (.ifnonnull off, 3)) (ht : (pc : Int) + off = (tgt : Int)) (k : X Y rv E' E tgt ls st) : X Y rv E' E pc ls (.ref x :: st) := by
  obtain ⟨⟨p, l, e, R, s, m, args, below, meth, c⟩, G, dom, nL⟩ := Y
  exact fun H locs lsa hP hS hl => lv_ifnonnull C.1 C.2.1 d ht (k H locs lsa hP hS hl)
theorem x_ifnonnullN (C : xC Y own cc ret) {off : Int} (d : decode cc pc = .ok (.ifnonnull off, 3)) (k : X Y rv E' E (pc + 3) ls st) : X Y rv E' E pc ls (.null :: st) := by
  obtain ⟨⟨p, l, e, R, s, m, args, below, meth, c⟩, G, dom, nL⟩ := Y
  exact fun H locs lsa hP hS hl => lv_ifnonnullN C.1 C.2.1 d (k H locs lsa hP hS hl)
theorem x_tableIn (C : xC Y own cc ret) {dflt lo hi : Int} {offs : Array Int} {len : Nat} {x : Int32} {off : Int} {tgt : Nat} (d : decode cc pc = .ok (.tableswitch dflt lo hi offs, len)) (h1 : ¬ x.toInt < lo) (h2 : ¬ hi < x.toInt) (ho : offs[(x.toInt - lo).toNat]? = some off) (ht : (pc : Int) + off = (tgt : Int)) (k : X Y rv E' E tgt ls st) : X Y rv E' E pc ls (.int x :: st) := by
  obtain ⟨⟨p, l, e, R, s, m, args, below, meth, c⟩, G, dom, nL⟩ := Y
  exact fun H locs lsa hP hS hl => lv_tableIn C.1 C.2.1 d h1 h2 ho ht (k H locs lsa hP hS hl)
theorem x_tableOut (C : xC Y own cc ret) {dflt lo hi : Int} {offs : Array Int} {len : Nat} {x : Int32} {tgt : Nat} (d : decode cc pc = .ok (.tableswitch dflt lo hi offs, len)) (h : x.toInt < lo ∨ hi < x.toInt) (ht : (pc : Int) + dflt = (tgt : Int)) (k : X Y rv E' E tgt ls st) : X Y rv E' E pc ls (.int x :: st) := by
  obtain ⟨⟨p, l, e, R, s, m, args, below, meth, c⟩, G, dom, nL⟩ := Y
  exact fun H locs lsa hP hS hl => lv_tableOut C.1 C.2.1 d h ht (k H locs lsa hP hS hl)
-- fields
theorem x_get (C : xC Y own cc ret) {ref Cn : String} {T : u_T} {N ci index k i j : Nat} {fs : List Value} {v : Value} (d : decode cc pc = .ok (.getfield index, 3)) (hin : ∀ w ∈ u_ws Cn T N, w ∈ gt_ws) (hc : vwCl[ci]? = some (Cn, T, N)) (hk : j < N) (hlink : Cond.fieldLink own index ref (T j).2.1 (T j).2.2.1 ∈ gt_ws) (hsame : (T j).1 = ref) (hi : xd Y k i = true) (he : E k i = .inr (ci, fs)) (hv : fs[j]? = some v) (kk : X Y rv E' E (pc + 3) ls (v :: st)) : X Y rv E' E pc ls (.ref (xa Y k i) :: st) := by
  obtain ⟨⟨p, l, e, R, s, m, args, below, meth, c⟩, G, dom, nL⟩ := Y
  intro H locs lsa hP hS hl
  have h1 : va_P G.1 vwCl [(G.2.1 k i, E k i)] H := fun q x hx => by
    cases q with
    | zero => cases hx; exact hP k i hi
    | succ q => cases hx
  exact va_get (D := G.1) (ci := ci) (v := v) (C := Cn) (T := T) (N := N) C.1 C.2.1 C.2.2.2.2.1 hin C.2.2.2.1 C.2.2.2.2.2.1 h1 0 (by rw [he]; rfl) hc j hk (C.2.2.2.2.1 _ hlink) (fun x h9 => by rw [← hsame]; exact h9) hv d (kk H locs lsa hP hS hl)
theorem x_getN (C : xC Y own cc ret) {ref Cn host : String} {T : u_T} {N ci index k i j : Nat} {fs : List Value} {v : Value} (d : decode cc pc = .ok (.getfield index, 3)) (hin : ∀ w ∈ u_ws Cn T N, w ∈ gt_ws) (hc : vwCl[ci]? = some (Cn, T, N)) (hk : j < N) (hlink : Cond.fieldLinkNest own index ref (T j).2.1 (T j).2.2.1 host ∈ gt_ws) (hsame : (T j).1 = ref) (hi : xd Y k i = true) (he : E k i = .inr (ci, fs)) (hv : fs[j]? = some v) (kk : X Y rv E' E (pc + 3) ls (v :: st)) : X Y rv E' E pc ls (.ref (xa Y k i) :: st) := by
  obtain ⟨⟨p, l, e, R, s, m, args, below, meth, c⟩, G, dom, nL⟩ := Y
  intro H locs lsa hP hS hl
  have h1 : va_P G.1 vwCl [(G.2.1 k i, E k i)] H := fun q x hx => by
    cases q with
    | zero => cases hx; exact hP k i hi
    | succ q => cases hx
  exact va_getN (D := G.1) (ci := ci) (v := v) (C := Cn) (T := T) (N := N) C.1 C.2.1 C.2.2.2.2.1 hin C.2.2.2.1 C.2.2.2.2.2.1 h1 0 (by rw [he]; rfl) hc j hk (C.2.2.2.2.1 _ hlink) (fun x h9 => by rw [← hsame]; exact h9) hv d (kk H locs lsa hP hS hl)
theorem x_put (C : xC Y own cc ret) {ref Cn : String} {T : u_T} {N ci index k i j : Nat} {fs : List Value} {v : Value} {ty : FieldType} (ty0 : Nat → FieldType) (d : decode cc pc = .ok (.putfield index, 3)) (hin : ∀ w ∈ u_ws Cn T N, w ∈ gt_ws) (hty : ∀ k, k < N → parseFieldDescriptor (T k).2.2.1 = some (ty0 k)) (hnm : ∀ a, a < N → ∀ b, b < N → a ≠ b → (T a).2.1 ≠ (T b).2.1) (hc : vwCl[ci]? = some (Cn, T, N)) (hk : j < N) (hlink : Cond.fieldLink own index ref (T j).2.1 (T j).2.2.1 ∈ gt_ws) (hsame : (T j).1 = ref) (hfin : (T j).2.2.2 = false) (hd : parseFieldDescriptor (T j).2.2.1 = some ty) (hn : narrow ty v = v) (hfit : fits ty v = true) (hi : xd Y k i = true) (he : E k i = .inr (ci, fs)) (hl0 : j < fs.length) (kk : X Y rv E' (xup E k i (.inr (ci, fs.set j v))) (pc + 3) ls st) : X Y rv E' E pc ls (v :: .ref (xa Y k i) :: st) := by
  obtain ⟨⟨p, l, e, R, s, m, args, below, meth, c⟩, G, dom, nL⟩ := Y
  intro H locs lsa hP hS hl
  obtain ⟨hx, hb, hml, hown, hts, hK, hJ, hlk, hrt⟩ := C
  have hap := va_apart (own := own) hts hin ty0 hty hnm hK hc
  have h0 := hP k i hi
  rw [he] at h0
  obtain ⟨r, h1, cell, q1, q2, q3, q4⟩ := h0
  have hr : r = (Cn, T, N) := Option.some.inj (h1.symm.trans hc)
  subst hr
  obtain ⟨hSl, hfc, kC, hkC, hkind⟩ := hK.1 ci _ hc
  obtain ⟨cf, kf, fi, f, hfi, hsl⟩ := hSl j hk
  have hlay := hts _ (hin _ (u_in_lay hk))
  unfold u_lay at hlay
  rw [if_neg (by rw [hfin]; decide)] at hlay
  have hst := (u_facts hfc hkC (u_lays hts hin hk) hfi).1
  have h6 := u_store hfc hkC hkind hlay hfi hd hn hfit
  subst hsame
  refine W.putK hx hb (f := f) ⟨hown, hts _ hlink, ⟨_, _, _, hfi⟩, hst⟩ (by rw [q2]; exact h6) q1 q3 (by rw [hsl]; exact k2_hasslot (q4 j hk)) rfl rfl d fun H' e1 e2 e3 => ?_
  rw [hsl] at e1 ⊢
  exact kk H' _ lsa (hP.set hJ hi ⟨_, hc, t_OB.to (V := updV (vp_V fs) j v) ⟨_, e1, q2, q3, t_set q4 hap hk v⟩ (fun q _ => vp_updV_set hl0 v q)⟩ e3) (hS.put e2 e3 ⟨k, i, hi, rfl⟩) hl
theorem x_putN (C : xC Y own cc ret) {ref Cn host : String} {T : u_T} {N ci index k i j : Nat} {fs : List Value} {v : Value} {ty : FieldType} (ty0 : Nat → FieldType) (d : decode cc pc = .ok (.putfield index, 3)) (hin : ∀ w ∈ u_ws Cn T N, w ∈ gt_ws) (hty : ∀ k, k < N → parseFieldDescriptor (T k).2.2.1 = some (ty0 k)) (hnm : ∀ a, a < N → ∀ b, b < N → a ≠ b → (T a).2.1 ≠ (T b).2.1) (hc : vwCl[ci]? = some (Cn, T, N)) (hk : j < N) (hlink : Cond.fieldLinkNest own index ref (T j).2.1 (T j).2.2.1 host ∈ gt_ws) (hsame : (T j).1 = ref) (hfin : (T j).2.2.2 = false) (hd : parseFieldDescriptor (T j).2.2.1 = some ty) (hn : narrow ty v = v) (hfit : fits ty v = true) (hi : xd Y k i = true) (he : E k i = .inr (ci, fs)) (hl0 : j < fs.length) (kk : X Y rv E' (xup E k i (.inr (ci, fs.set j v))) (pc + 3) ls st) : X Y rv E' E pc ls (v :: .ref (xa Y k i) :: st) := by
  obtain ⟨⟨p, l, e, R, s, m, args, below, meth, c⟩, G, dom, nL⟩ := Y
  intro H locs lsa hP hS hl
  obtain ⟨hx, hb, hml, hown, hts, hK, hJ, hlk, hrt⟩ := C
  have hap := va_apart (own := own) hts hin ty0 hty hnm hK hc
  have h0 := hP k i hi
  rw [he] at h0
  obtain ⟨r, h1, cell, q1, q2, q3, q4⟩ := h0
  have hr : r = (Cn, T, N) := Option.some.inj (h1.symm.trans hc)
  subst hr
  obtain ⟨hSl, hfc, kC, hkC, hkind⟩ := hK.1 ci _ hc
  obtain ⟨cf, kf, fi, f, hfi, hsl⟩ := hSl j hk
  have hlay := hts _ (hin _ (u_in_lay hk))
  unfold u_lay at hlay
  rw [if_neg (by rw [hfin]; decide)] at hlay
  have hst := (u_facts hfc hkC (u_lays hts hin hk) hfi).1
  have h6 := u_store hfc hkC hkind hlay hfi hd hn hfit
  subst hsame
  refine va_WputK hx hb (f := f) hown (hts _ hlink) hfi hst (by rw [q2]; exact h6) q1 q3 (by rw [hsl]; exact k2_hasslot (q4 j hk)) rfl rfl d fun H' e1 e2 e3 => ?_
  rw [hsl] at e1 ⊢
  exact kk H' _ lsa (hP.set hJ hi ⟨_, hc, t_OB.to (V := updV (vp_V fs) j v) ⟨_, e1, q2, q3, t_set q4 hap hk v⟩ (fun q _ => vp_updV_set hl0 v q)⟩ e3) (hS.put e2 e3 ⟨k, i, hi, rfl⟩) hl
-- arrays
def inB (x : Int32) (n : Nat) : Bool := decide (0 ≤ x) && decide (x.toNatClampNeg < n)
theorem inB_in {x : Int32} {n : Nat} (h : inB x n = true) : vp_in x n := by
  simp only [inB, Bool.and_eq_true, decide_eq_true_eq] at h
  intro q
  rcases q with q | q
  · exact absurd q (Int32.not_lt.mpr h.1)
  · omega
theorem x_iald (C : xC Y own cc ret) {k i n : Nat} {f : Nat → Int32} {x : Int32} (d : decode cc pc = .ok (.iaload, 1)) (hi : xd Y k i = true) (he : E k i = .inl ((xg Y).2.2 0, n, .inl f)) (hx : inB x n = true) (kk : X Y rv E' E (pc + 1) ls (.int (f x.toNatClampNeg) :: st)) : X Y rv E' E pc ls (.int x :: .ref (xa Y k i) :: st) := by
  obtain ⟨⟨p, l, e, R, s, m, args, below, meth, c⟩, G, dom, nL⟩ := Y
  intro H locs lsa hP hS hl
  have h1 : va_P G.1 vwCl [(G.2.1 k i, E k i)] H := fun q x hx => by
    cases q with
    | zero => cases hx; exact hP k i hi
    | succ q => cases hx
  exact va_iald (D := G.1) C.1 C.2.1 C.2.2.2.2.2.1 h1 0 0 (by rw [he]; rfl) rfl (inB_in hx) d (kk H locs lsa hP hS hl)
theorem x_zald (C : xC Y own cc ret) {k i n : Nat} {f : Nat → Int32} {x : Int32} (d : decode cc pc = .ok (.baload, 1)) (hi : xd Y k i = true) (he : E k i = .inl ((xg Y).2.2 2, n, .inl f)) (hx : inB x n = true) (kk : X Y rv E' E (pc + 1) ls (.int (f x.toNatClampNeg) :: st)) : X Y rv E' E pc ls (.int x :: .ref (xa Y k i) :: st) := by
  obtain ⟨⟨p, l, e, R, s, m, args, below, meth, c⟩, G, dom, nL⟩ := Y
  intro H locs lsa hP hS hl
  have h1 : va_P G.1 vwCl [(G.2.1 k i, E k i)] H := fun q x hx => by
    cases q with
    | zero => cases hx; exact hP k i hi
    | succ q => cases hx
  exact va_zald (D := G.1) C.1 C.2.1 C.2.2.2.2.2.1 h1 0 2 (by rw [he]; rfl) rfl (inB_in hx) d (kk H locs lsa hP hS hl)
theorem x_lald (C : xC Y own cc ret) {k i n : Nat} {f : Nat → Int64} {x : Int32} (d : decode cc pc = .ok (.laload, 1)) (hi : xd Y k i = true) (he : E k i = .inl ((xg Y).2.2 1, n, .inr (.inl f))) (hx : inB x n = true) (kk : X Y rv E' E (pc + 1) ls (.long (f x.toNatClampNeg) :: st)) : X Y rv E' E pc ls (.int x :: .ref (xa Y k i) :: st) := by
  obtain ⟨⟨p, l, e, R, s, m, args, below, meth, c⟩, G, dom, nL⟩ := Y
  intro H locs lsa hP hS hl
  have h1 : va_P G.1 vwCl [(G.2.1 k i, E k i)] H := fun q x hx => by
    cases q with
    | zero => cases hx; exact hP k i hi
    | succ q => cases hx
  exact va_lald (D := G.1) C.1 C.2.1 C.2.2.2.2.2.1 h1 0 1 (by rw [he]; rfl) rfl (inB_in hx) d (kk H locs lsa hP hS hl)
theorem x_aald (C : xC Y own cc ret) {k i n t : Nat} {Cn : String} {f : Nat → Option Nat} {x : Int32} (d : decode cc pc = .ok (.aaload, 1)) (hi : xd Y k i = true) (he : E k i = .inl ((xg Y).2.2 t, n, .inr (.inr (.inr (.inr f))))) (ht : (x_tys (xg Y))[t]? = some ((xg Y).2.2 t, .object Cn)) (hx : inB x n = true) (kk : X Y rv E' E (pc + 1) ls (va_rf (f x.toNatClampNeg) :: st)) : X Y rv E' E pc ls (.int x :: .ref (xa Y k i) :: st) := by
  obtain ⟨⟨p, l, e, R, s, m, args, below, meth, c⟩, G, dom, nL⟩ := Y
  intro H locs lsa hP hS hl
  have h1 : va_P G.1 vwCl [(G.2.1 k i, E k i)] H := fun q x hx => by
    cases q with
    | zero => cases hx; exact hP k i hi
    | succ q => cases hx
  exact va_aldq (D := G.1) C.1 C.2.1 C.2.2.2.2.2.1 h1 0 t (by rw [he]; rfl) ht (inB_in hx) d (kk H locs lsa hP hS hl)
theorem x_alen (C : xC Y own cc ret) {k i t : Nat} {x : vp_A} {ty : FieldType} {v : Int32} (d : decode cc pc = .ok (.arraylength, 1)) (hi : xd Y k i = true) (he : E k i = .inl ((xg Y).2.2 t, x)) (ht : (x_tys (xg Y))[t]? = some ((xg Y).2.2 t, ty)) (hv : Int32.ofNat x.1 = v) (kk : X Y rv E' E (pc + 1) ls (.int v :: st)) : X Y rv E' E pc ls (.ref (xa Y k i) :: st) := by
  obtain ⟨⟨p, l, e, R, s, m, args, below, meth, c⟩, G, dom, nL⟩ := Y
  intro H locs lsa hP hS hl
  have h1 : va_P G.1 vwCl [(G.2.1 k i, E k i)] H := fun q x hx => by
    cases q with
    | zero => cases hx; exact hP k i hi
    | succ q => cases hx
  exact va_alen (D := G.1) C.1 C.2.1 C.2.2.2.2.2.1 h1 0 t (by rw [he]; rfl) ht hv d (kk H locs lsa hP hS hl)
theorem x_iast (C : xC Y own cc ret) {k i n : Nat} {f : Nat → Int32} {x v : Int32} (d : decode cc pc = .ok (.iastore, 1)) (hi : xd Y k i = true) (he : E k i = .inl ((xg Y).2.2 0, n, .inl f)) (hx : inB x n = true) (kk : X Y rv E' (xup E k i (.inl ((xg Y).2.2 0, n, .inl (upd f x.toNatClampNeg v)))) (pc + 1) ls st) : X Y rv E' E pc ls (.int v :: .int x :: .ref (xa Y k i) :: st) := by
  obtain ⟨⟨p, l, e, R, s, m, args, below, meth, c⟩, G, dom, nL⟩ := Y
  intro H locs lsa hP hS hl
  have h0 := hP k i hi
  rw [he] at h0
  refine W.iast C.1 C.2.1 h0 ((C.2.2.2.2.2.1.2 0 _ rfl).1 n (fun j => .int (f j))) (fun q => by cases q) (by show ¬ (x < 0 ∨ (arrV _ _ _).slots.size ≤ _); rw [arrV_size]; exact inB_in hx) rfl rfl d fun H1 e z oq => ?_
  refine kk H1 _ lsa (hP.set C.2.2.2.2.2.2.1 hi ?_ oq) (hS.put z oq ⟨k, i, hi, rfl⟩) hl
  show H1[_]? = some (vp_cell _ _)
  rw [e]
  rw [vp_cell_i, vp_cell_i, arrV_store]
  congr 2
  funext q
  by_cases hq : q = x.toNatClampNeg
  · subst hq
    simp [updV, upd]
  · simp [updV, upd, hq]
theorem x_zast (C : xC Y own cc ret) {k i n : Nat} {f : Nat → Int32} {x v : Int32} (d : decode cc pc = .ok (.bastore, 1)) (hi : xd Y k i = true) (he : E k i = .inl ((xg Y).2.2 2, n, .inl f)) (hx : inB x n = true) (hv : vp_nar .boolean v = v) (kk : X Y rv E' (xup E k i (.inl ((xg Y).2.2 2, n, .inl (upd f x.toNatClampNeg v)))) (pc + 1) ls st) : X Y rv E' E pc ls (.int v :: .int x :: .ref (xa Y k i) :: st) := by
  obtain ⟨⟨p, l, e, R, s, m, args, below, meth, c⟩, G, dom, nL⟩ := Y
  intro H locs lsa hP hS hl
  have h0 := hP k i hi
  rw [he] at h0
  refine W.zast C.1 C.2.1 h0 ((C.2.2.2.2.2.1.2 2 _ rfl).1 n (fun j => .int (f j))) (fun q => by cases q) (by show ¬ (x < 0 ∨ (arrV _ _ _).slots.size ≤ _); rw [arrV_size]; exact inB_in hx) rfl rfl d fun H1 e z oq => ?_
  refine kk H1 _ lsa (hP.set C.2.2.2.2.2.2.1 hi ?_ oq) (hS.put z oq ⟨k, i, hi, rfl⟩) hl
  show H1[_]? = some (vp_cell _ _)
  rw [← hv]
  rw [e]
  rw [vp_cell_i, vp_cell_i, arrV_store]
  congr 2
  funext q
  by_cases hq : q = x.toNatClampNeg
  · subst hq
    simp [updV, upd, vp_nar]
    try rfl
  · simp [updV, upd, hq]
theorem x_last (C : xC Y own cc ret) {k i n : Nat} {f : Nat → Int64} {x : Int32} {v : Int64} (d : decode cc pc = .ok (.lastore, 1)) (hi : xd Y k i = true) (he : E k i = .inl ((xg Y).2.2 1, n, .inr (.inl f))) (hx : inB x n = true) (kk : X Y rv E' (xup E k i (.inl ((xg Y).2.2 1, n, .inr (.inl (vp_updL f x.toNatClampNeg v))))) (pc + 1) ls st) : X Y rv E' E pc ls (.long v :: .int x :: .ref (xa Y k i) :: st) := by
  obtain ⟨⟨p, l, e, R, s, m, args, below, meth, c⟩, G, dom, nL⟩ := Y
  intro H locs lsa hP hS hl
  have h0 := hP k i hi
  rw [he] at h0
  refine W.last C.1 C.2.1 h0 ((C.2.2.2.2.2.1.2 1 _ rfl).1 n (fun j => .long (f j))) (fun q => by cases q) (by show ¬ (x < 0 ∨ (arrV _ _ _).slots.size ≤ _); rw [arrV_size]; exact inB_in hx) rfl rfl d fun H1 e z oq => ?_
  refine kk H1 _ lsa (hP.set C.2.2.2.2.2.2.1 hi ?_ oq) (hS.put z oq ⟨k, i, hi, rfl⟩) hl
  show H1[_]? = some (vp_cell _ _)
  rw [e]
  rw [vp_cell_l, vp_cell_l, arrV_store]
  congr 2
  funext q
  by_cases hq : q = x.toNatClampNeg
  · subst hq
    simp [updV, vp_updL]
  · simp [updV, vp_updL, hq]
-- Math
def jmax (x y : Int32) : Int32 := if x < y then y else x
def jmin (x y : Int32) : Int32 := if y < x then y else x
def jabs (x : Int32) : Int32 := if 0 ≤ x then x else 0 - x
theorem x_max (C : xC Y own cc ret) {index : Nat} {x y : Int32} (d : decode cc pc = .ok (.invokestatic index, 3)) (hl1 : Cond.methodLink own index Lib.Math.max.name ∈ gt_ws) (h2 : Cond.static Lib.Math.max.name ∈ gt_ws) (h3 : Cond.initialized "java/lang/Math" ∈ gt_ws) (h4 : Cond.code Lib.Math.max.name Lib.Math.max.code 2 (some .int) ∈ gt_ws) (hf : 1 ≤ (xR Y).frames) (hlo : (st.map fun v => v.category).sum + 13 ≤ (xR Y).locals) (kk : X Y rv E' E (pc + 3) ls (.int (jmax x y) :: st)) : X Y rv E' E pc ls (.int y :: .int x :: st) := by
  obtain ⟨⟨p, l, e, R, s, m, args, below, meth, c⟩, G, dom, nL⟩ := Y
  exact fun H locs lsa hP hS hl => va_mmax C.1 C.2.1 (C.2.2.1.trans hl.1.symm) C.2.2.2.1 (C.2.2.2.2.1 _ hl1) (C.2.2.2.2.1 _ h2) (C.2.2.2.2.1 _ h3) (C.2.2.2.2.1 _ h4) hf hlo (Nat.zero_le _) (Nat.zero_le _) d (kk H locs lsa hP hS hl)
theorem x_min (C : xC Y own cc ret) {index : Nat} {x y : Int32} (d : decode cc pc = .ok (.invokestatic index, 3)) (hl1 : Cond.methodLink own index Lib.Math.min.name ∈ gt_ws) (h2 : Cond.static Lib.Math.min.name ∈ gt_ws) (h3 : Cond.initialized "java/lang/Math" ∈ gt_ws) (h4 : Cond.code Lib.Math.min.name Lib.Math.min.code 2 (some .int) ∈ gt_ws) (hf : 1 ≤ (xR Y).frames) (hlo : (st.map fun v => v.category).sum + 13 ≤ (xR Y).locals) (kk : X Y rv E' E (pc + 3) ls (.int (jmin x y) :: st)) : X Y rv E' E pc ls (.int y :: .int x :: st) := by
  obtain ⟨⟨p, l, e, R, s, m, args, below, meth, c⟩, G, dom, nL⟩ := Y
  exact fun H locs lsa hP hS hl => va_mmin C.1 C.2.1 (C.2.2.1.trans hl.1.symm) C.2.2.2.1 (C.2.2.2.2.1 _ hl1) (C.2.2.2.2.1 _ h2) (C.2.2.2.2.1 _ h3) (C.2.2.2.2.1 _ h4) hf hlo (Nat.zero_le _) (Nat.zero_le _) d (kk H locs lsa hP hS hl)
theorem x_abs (C : xC Y own cc ret) {index : Nat} {x : Int32} (d : decode cc pc = .ok (.invokestatic index, 3)) (hl1 : Cond.methodLink own index Lib.Math.abs.name ∈ gt_ws) (h2 : Cond.static Lib.Math.abs.name ∈ gt_ws) (h3 : Cond.initialized "java/lang/Math" ∈ gt_ws) (h4 : Cond.code Lib.Math.abs.name Lib.Math.abs.code 1 (some .int) ∈ gt_ws) (hf : 1 ≤ (xR Y).frames) (hlo : (st.map fun v => v.category).sum + 13 ≤ (xR Y).locals) (kk : X Y rv E' E (pc + 3) ls (.int (jabs x) :: st)) : X Y rv E' E pc ls (.int x :: st) := by
  obtain ⟨⟨p, l, e, R, s, m, args, below, meth, c⟩, G, dom, nL⟩ := Y
  exact fun H locs lsa hP hS hl => va_mabs C.1 C.2.1 (C.2.2.1.trans hl.1.symm) C.2.2.2.1 (C.2.2.2.2.1 _ hl1) (C.2.2.2.2.1 _ h2) (C.2.2.2.2.1 _ h3) (C.2.2.2.2.1 _ h4) hf hlo (Nat.zero_le _) (Nat.zero_le _) d (kk H locs lsa hP hS hl)
-- ends
theorem x_iret (C : xC Y own cc (some .int)) {v : Int32} (d : decode cc pc = .ok (.ireturn, 1)) : X Y (some (.int v)) E E pc ls [.int v] := by
  obtain ⟨⟨p, l, e, R, s, m, args, below, meth, c⟩, G, dom, nL⟩ := Y
  exact fun H locs lsa hP hS hl => W.iret C.1 C.2.1 C.2.2.2.2.2.2.2.2 (fun t ht hW => ⟨rfl, by rw [ht]; exact hP, hS.F ht⟩) hS.2.2 d C.2.2.2.2.2.2.2.1
theorem x_zret (C : xC Y own cc (some .boolean)) {v : Int32} (d : decode cc pc = .ok (.ireturn, 1)) (hn : narrow .boolean (.int v) = .int v) : X Y (some (.int v)) E E pc ls [.int v] := by
  obtain ⟨⟨p, l, e, R, s, m, args, below, meth, c⟩, G, dom, nL⟩ := Y
  exact fun H locs lsa hP hS hl => W.zret C.1 C.2.1 C.2.2.2.2.2.2.2.2 hn (fun t ht hW => ⟨rfl, by rw [ht]; exact hP, hS.F ht⟩) hS.2.2 d C.2.2.2.2.2.2.2.1
theorem x_vret (C : xC Y own cc none) (d : decode cc pc = .ok (.return_, 1)) : X Y none E E pc ls [] := by
  obtain ⟨⟨p, l, e, R, s, m, args, below, meth, c⟩, G, dom, nL⟩ := Y
  exact fun H locs lsa hP hS hl => W.vret C.1 C.2.1 C.2.2.2.2.2.2.2.2 (fun t ht hW => ⟨rfl, by rw [ht]; exact hP, hS.F ht⟩) hS.2.2 d C.2.2.2.2.2.2.2.1
theorem x_aret {Cn : String} (C : xC Y own cc (some (.object Cn))) (q : Option Nat) (d : decode cc pc = .ok (.areturn, 1)) : X Y (some (va_rf q)) E E pc ls [va_rf q] := by
  obtain ⟨⟨p, l, e, R, s, m, args, below, meth, c⟩, G, dom, nL⟩ := Y
  exact fun H locs lsa hP hS hl => W.aret C.1 C.2.1 C.2.2.2.2.2.2.2.2 (Or.inl ⟨_, rfl⟩) (by cases q with | none => exact Or.inl rfl | some a => exact Or.inr ⟨a, rfl⟩) (fun t ht hW => ⟨rfl, by rw [ht]; exact hP, hS.F ht⟩) hS.2.2 d C.2.2.2.2.2.2.2.1
end XR
/-- a method's contract out of its walk -/
theorem xMet.of {l : Launch} {y : MethodName} {cc : ByteArray} {n : Nat} {ret : Option FieldType} {rm : Room} {G : xG} {dom : xD} {av : List Value} {E E' : xE} {rv : Option Value} (hy : plainName y.cls = true) (hn : (lg_sl av).length ≤ n)
    (body : ∀ Y : xY, xl Y = l → xR Y = rm → xg Y = G → xd Y = dom → xn Y = n → xC Y y.cls cc ret → X Y rv E' E 0 (lv_args 0 av) []) : xMet l y (x_ws y cc n ret) rm G dom av E rv E' := by
  refine Met.ofW (cc := cc) (maxL := n) (ret := ret) hy rfl ?_
  intro p e s m args below meth c s₁ B hml hv
  obtain ⟨rfl, hP, hK, hJ⟩ := hv
  have hts := atoms_spec (ws := x_ws y cc n ret) B.pre
  have hown : s.vm.findClass y.cls = some m.cls := findClass_of_methodNamed B.named
  rw [lg_entry_eq]
  exact body (xY.mk p l e (headSpec (x_ws y cc n ret) rm).room s m av.toArray below meth c G dom n) rfl rfl rfl rfl rfl ⟨B.exec, B.bytes, hml, hown, fun w h => hts w (List.mem_cons_of_mem _ h), hK, hJ, B.notSynchronized, B.returns⟩ s.heap [] _ hP va_S.rf (lv_entry av hn)
section XK
variable {Y : xY} {rv : Option Value} {E' E E1 : xE} {own : String} {cc : ByteArray} {ret : Option FieldType} {pc : Nat} {ls : List (Nat × Value)} {st rest : List Value} {index : Nat} {y : MethodName} {bytes : ByteArray} {maxL : Nat} {rt : Option FieldType} {rm : Room} {As : List Value} {r1 : Option Value}
/-- behind a call: the world is the callee's -/
theorem x_run {p : Program} {l : Launch} {e : Env} {R : Room} {s : State} {m : MethodId} {args : Array Value} {below : List Frame} {meth : Method} {c : Code} {G : xG} {dom : xD} {nL : Nat} {H : Heap} {locs : List Loc} {lsa : Array Slot} {av : Array Value} (hS : va_S (xA G dom) s.heap H locs) (hl : lv_has lsa nL ls)
    (hr : va_Run p l e R s m args below meth c H locs 0 0 0 0 (F0 m pc lsa st) rest (xQ G dom r1 E1 av) (xA G dom)) (kk : X ((p, l, e, R, s, m, args, below, meth, c), G, dom, nL) rv E' E1 (pc + 3) ls (r1.toList ++ rest)) : W p l e R s m args below meth c H locs 0 0 (MQ below (xQ G dom rv E') args s 0 0 (xA G dom)) (F0 m pc lsa st) := by
  intro T hT XT
  obtain ⟨v, st₀, t, T', L, h0, X', hL, e1, e2, ⟨hv, hP1, hz, hk⟩, stp⟩ := hr T hT XT
  cases hv
  rw [h0] at hz hk
  obtain ⟨t2, a1, b1⟩ := kk T'.heap (locs ++ L) lsa (by rw [e1]; exact hP1)
    ⟨Nat.le_trans hS.1 (by rw [e1]; exact hz), fun q h1 h2 => by rw [e1, hk q (Nat.lt_of_lt_of_le h1 hS.1) h2]; exact hS.2.1 q h1 h2, fun q hq => by
      rcases List.mem_append.mp hq with h | h
      · exact hS.2.2 q h
      · exact hL q h⟩ hl T' rfl X'
  exact ⟨t2, stp t2 a1, b1⟩
theorem x_callV (C : xC Y own cc ret) (d : decode cc pc = .ok (.invokevirtual index, 3)) {k i ci n : Nat} {T : u_T} {N : Nat} {fs : List Value} (hM : xMet (xl Y) y (x_ws y bytes maxL rt) rm (xg Y) (xd Y) (.ref (xa Y k i) :: As) E r1 E1)
    (h1 : Cond.methodLink own index y ∈ gt_ws) (h2 : Cond.instanceMethod y ∈ gt_ws) (h3 : Cond.selects y.cls y y ∈ gt_ws) (h4 : Cond.initialized y.cls ∈ gt_ws) (h5 : Cond.code y bytes maxL rt ∈ gt_ws) (hc0 : rm.cells = 0 ∧ rm.slots = 0) (hd : y.cls ≠ "java/lang/invoke/MethodHandle" ∧ y.cls ≠ "java/lang/invoke/VarHandle" ∧ (parseMethodDescriptor y.desc).map (fun d => d.parameters.length) = some n)
    (hn : As.length = n) (hR : rm.frames + 1 ≤ (xR Y).frames ∧ 8 + (maxL + 11) + rm.locals ≤ (xR Y).locals) (hi : xd Y k i = true) (he : E k i = .inr (ci, fs)) (hc : vwCl[ci]? = some (y.cls, T, N)) (hst : st = As.reverse ++ .ref (xa Y k i) :: rest) (hw : (rest.map fun v => v.category).sum ≤ 8) (kk : X Y rv E' E1 (pc + 3) ls (r1.toList ++ rest)) : X Y rv E' E pc ls st := by
  obtain ⟨⟨p, l, e, R, s, m, args, below, meth, c⟩, G, dom, nL⟩ := Y
  obtain ⟨hx, hb, hml, hown, hts, hK, hJ, hlk, hrt⟩ := C
  intro H locs lsa hP hS hl
  refine x_run hS hl (va_runV (As := As) (rest := rest) (n := n) (mc := 0) (ms := 0) ⟨hx, hb, hml, hown, hts⟩ hM ⟨callB_of n hts (x_goodin h5) rfl hc0.1 hc0.2 (hts _ h4) (hts _ h1) hd hR, hts _ h2, hts _ h3⟩ ⟨xPre.blind, ?_, fun U hU hW => ⟨rfl, by rw [hU]; exact hP, va_K.moved hW.alike hK, hJ⟩⟩ rfl hn hl.1 hst (lv_room hw) d ⟨Nat.zero_le _, Nat.zero_le _⟩) kk
  have h0 : va_P G.1 vwCl [(G.2.1 k i, E k i)] H := fun q x hx => by
    cases q with
    | zero => cases hx; exact hP k i hi
    | succ q => cases hx
  exact va_recv hK h0 (ci := ci) (q0 := 0) hc (by rw [he]; rfl)
theorem x_callVN (C : xC Y own cc ret) {host : String} (d : decode cc pc = .ok (.invokevirtual index, 3)) {k i ci n : Nat} {T : u_T} {N : Nat} {fs : List Value} (hM : xMet (xl Y) y (x_ws y bytes maxL rt) rm (xg Y) (xd Y) (.ref (xa Y k i) :: As) E r1 E1)
    (h1 : Cond.methodLinkNest own index y host ∈ gt_ws) (h2 : Cond.instanceMethod y ∈ gt_ws) (h3 : Cond.selects y.cls y y ∈ gt_ws) (h4 : Cond.initialized y.cls ∈ gt_ws) (h5 : Cond.code y bytes maxL rt ∈ gt_ws) (hc0 : rm.cells = 0 ∧ rm.slots = 0) (hd : y.cls ≠ "java/lang/invoke/MethodHandle" ∧ y.cls ≠ "java/lang/invoke/VarHandle" ∧ (parseMethodDescriptor y.desc).map (fun d => d.parameters.length) = some n)
    (hn : As.length = n) (hR : rm.frames + 1 ≤ (xR Y).frames ∧ 8 + (maxL + 11) + rm.locals ≤ (xR Y).locals) (hi : xd Y k i = true) (he : E k i = .inr (ci, fs)) (hc : vwCl[ci]? = some (y.cls, T, N)) (hst : st = As.reverse ++ .ref (xa Y k i) :: rest) (hw : (rest.map fun v => v.category).sum ≤ 8) (kk : X Y rv E' E1 (pc + 3) ls (r1.toList ++ rest)) : X Y rv E' E pc ls st := by
  obtain ⟨⟨p, l, e, R, s, m, args, below, meth, c⟩, G, dom, nL⟩ := Y
  obtain ⟨hx, hb, hml, hown, hts, hK, hJ, hlk, hrt⟩ := C
  intro H locs lsa hP hS hl
  refine x_run hS hl (va_runVN (As := As) (rest := rest) (n := n) (mc := 0) (ms := 0) (host := host) (C := y.cls) ⟨hx, hb, hml, hown, hts⟩ hM ⟨va_cnB n hts (x_goodin h5) rfl hc0.1 hc0.2 (va_Nw.of rfl (hts _ h1)) (hts _ h4) hd hR, hts _ h2, hts _ h3⟩ ⟨xPre.blind, ?_, fun U hU hW => ⟨rfl, by rw [hU]; exact hP, va_K.moved hW.alike hK, hJ⟩⟩ rfl hn hl.1 hst (lv_room hw) d ⟨Nat.zero_le _, Nat.zero_le _⟩) kk
  have h0 : va_P G.1 vwCl [(G.2.1 k i, E k i)] H := fun q x hx => by
    cases q with
    | zero => cases hx; exact hP k i hi
    | succ q => cases hx
  exact va_recv hK h0 (ci := ci) (q0 := 0) hc (by rw [he]; rfl)
theorem x_callS (C : xC Y own cc ret) (d : decode cc pc = .ok (.invokestatic index, 3)) {n : Nat} (hM : xMet (xl Y) y (x_ws y bytes maxL rt) rm (xg Y) (xd Y) As E r1 E1)
    (h1 : Cond.methodLink own index y ∈ gt_ws) (h2 : Cond.static y ∈ gt_ws) (h4 : Cond.initialized y.cls ∈ gt_ws) (h5 : Cond.code y bytes maxL rt ∈ gt_ws) (hc0 : rm.cells = 0 ∧ rm.slots = 0) (hd : y.cls ≠ "java/lang/invoke/MethodHandle" ∧ y.cls ≠ "java/lang/invoke/VarHandle" ∧ (parseMethodDescriptor y.desc).map (fun d => d.parameters.length) = some n)
    (hn : As.length = n) (hR : rm.frames + 1 ≤ (xR Y).frames ∧ 8 + (maxL + 11) + rm.locals ≤ (xR Y).locals) (hst : st = As.reverse ++ rest) (hw : (rest.map fun v => v.category).sum ≤ 8) (kk : X Y rv E' E1 (pc + 3) ls (r1.toList ++ rest)) : X Y rv E' E pc ls st := by
  obtain ⟨⟨p, l, e, R, s, m, args, below, meth, c⟩, G, dom, nL⟩ := Y
  obtain ⟨hx, hb, hml, hown, hts, hK, hJ, hlk, hrt⟩ := C
  intro H locs lsa hP hS hl
  exact x_run hS hl (va_runS (As := As) (rest := rest) (n := n) (mc := 0) (ms := 0) ⟨hx, hb, hml, hown, hts⟩ hM ⟨callB_of n hts (x_goodin h5) rfl hc0.1 hc0.2 (hts _ h4) (hts _ h1) hd hR, hts _ h2⟩ ⟨xPre.blind, fun U hU hW => ⟨rfl, by rw [hU]; exact hP, va_K.moved hW.alike hK, hJ⟩⟩ rfl hn hl.1 hst (lv_room hw) d ⟨Nat.zero_le _, Nat.zero_le _⟩) kk
end XK
end
section
theorem zz_look : True := trivial
end
