section
/-- a private method of a class that the tables say can be made, by its rows of tables_1 -/
def lw_okq (q : MethodName × Nat) : Prop := (q.1.cls ≠ "java/lang/invoke/MethodHandle" ∧ q.1.cls ≠ "java/lang/invoke/VarHandle") ∧ Cond.instantiable q.1.cls q.2 ∈ tables_1 ∧ Cond.privateMethod q.1 ∈ tables_1 ∧ Cond.instanceMethod q.1 ∈ tables_1
theorem lw_p0 : lw_okq (⟨"LevelMachine", "keepAll", "()V"⟩, 13) := ⟨⟨by decide +kernel, by decide +kernel⟩, List.mem_of_getElem? (i := 8) (by decide +kernel), List.mem_of_getElem? (i := 195) (by decide +kernel), List.mem_of_getElem? (i := 196) (by decide +kernel)⟩
theorem lw_p1 : lw_okq (⟨"LevelMachine", "perform", "()Z"⟩, 13) := ⟨⟨by decide +kernel, by decide +kernel⟩, List.mem_of_getElem? (i := 8) (by decide +kernel), List.mem_of_getElem? (i := 211) (by decide +kernel), List.mem_of_getElem? (i := 212) (by decide +kernel)⟩
theorem lw_p2 : lw_okq (⟨"LevelMachine", "decode", "()Z"⟩, 13) := ⟨⟨by decide +kernel, by decide +kernel⟩, List.mem_of_getElem? (i := 8) (by decide +kernel), List.mem_of_getElem? (i := 215) (by decide +kernel), List.mem_of_getElem? (i := 216) (by decide +kernel)⟩
theorem lw_p3 : lw_okq (⟨"LevelMachine", "fetch", "()I"⟩, 13) := ⟨⟨by decide +kernel, by decide +kernel⟩, List.mem_of_getElem? (i := 8) (by decide +kernel), List.mem_of_getElem? (i := 219) (by decide +kernel), List.mem_of_getElem? (i := 220) (by decide +kernel)⟩
theorem lw_p4 : lw_okq (⟨"LevelMachine", "fault", "(II)Z"⟩, 13) := ⟨⟨by decide +kernel, by decide +kernel⟩, List.mem_of_getElem? (i := 8) (by decide +kernel), List.mem_of_getElem? (i := 223) (by decide +kernel), List.mem_of_getElem? (i := 224) (by decide +kernel)⟩
theorem lw_p5 : lw_okq (⟨"LevelMachine", "stop", "()Z"⟩, 13) := ⟨⟨by decide +kernel, by decide +kernel⟩, List.mem_of_getElem? (i := 8) (by decide +kernel), List.mem_of_getElem? (i := 247) (by decide +kernel), List.mem_of_getElem? (i := 248) (by decide +kernel)⟩
theorem lw_p6 : lw_okq (⟨"LevelMachine", "level", "()I"⟩, 13) := ⟨⟨by decide +kernel, by decide +kernel⟩, List.mem_of_getElem? (i := 8) (by decide +kernel), List.mem_of_getElem? (i := 251) (by decide +kernel), List.mem_of_getElem? (i := 252) (by decide +kernel)⟩
theorem lw_p7 : lw_okq (⟨"LevelMachine", "give", "(II)Z"⟩, 13) := ⟨⟨by decide +kernel, by decide +kernel⟩, List.mem_of_getElem? (i := 8) (by decide +kernel), List.mem_of_getElem? (i := 255) (by decide +kernel), List.mem_of_getElem? (i := 256) (by decide +kernel)⟩
theorem lw_p8 : lw_okq (⟨"LevelMachine", "judge", "(I)I"⟩, 13) := ⟨⟨by decide +kernel, by decide +kernel⟩, List.mem_of_getElem? (i := 8) (by decide +kernel), List.mem_of_getElem? (i := 259) (by decide +kernel), List.mem_of_getElem? (i := 260) (by decide +kernel)⟩
theorem lw_p9 : lw_okq (⟨"LevelMachine", "compare", "(II)Z"⟩, 13) := ⟨⟨by decide +kernel, by decide +kernel⟩, List.mem_of_getElem? (i := 8) (by decide +kernel), List.mem_of_getElem? (i := 264) (by decide +kernel), List.mem_of_getElem? (i := 265) (by decide +kernel)⟩
theorem lw_p10 : lw_okq (⟨"LevelMachine", "read", "(LLevelMachine$Segment;I)I"⟩, 13) := ⟨⟨by decide +kernel, by decide +kernel⟩, List.mem_of_getElem? (i := 8) (by decide +kernel), List.mem_of_getElem? (i := 268) (by decide +kernel), List.mem_of_getElem? (i := 269) (by decide +kernel)⟩
theorem lw_p11 : lw_okq (⟨"LevelMachine", "write", "(LLevelMachine$Segment;II)Z"⟩, 13) := ⟨⟨by decide +kernel, by decide +kernel⟩, List.mem_of_getElem? (i := 8) (by decide +kernel), List.mem_of_getElem? (i := 272) (by decide +kernel), List.mem_of_getElem? (i := 273) (by decide +kernel)⟩
theorem lw_p12 : lw_okq (⟨"LevelMachine", "go", "(IZ)Z"⟩, 13) := ⟨⟨by decide +kernel, by decide +kernel⟩, List.mem_of_getElem? (i := 8) (by decide +kernel), List.mem_of_getElem? (i := 276) (by decide +kernel), List.mem_of_getElem? (i := 277) (by decide +kernel)⟩
theorem lw_p13 : lw_okq (⟨"LevelMachine", "isZero", "()Z"⟩, 13) := ⟨⟨by decide +kernel, by decide +kernel⟩, List.mem_of_getElem? (i := 8) (by decide +kernel), List.mem_of_getElem? (i := 280) (by decide +kernel), List.mem_of_getElem? (i := 281) (by decide +kernel)⟩
theorem lw_p14 : lw_okq (⟨"LevelMachine", "push", "(I)Z"⟩, 13) := ⟨⟨by decide +kernel, by decide +kernel⟩, List.mem_of_getElem? (i := 8) (by decide +kernel), List.mem_of_getElem? (i := 284) (by decide +kernel), List.mem_of_getElem? (i := 285) (by decide +kernel)⟩
theorem lw_p15 : lw_okq (⟨"LevelMachine", "pop", "()I"⟩, 13) := ⟨⟨by decide +kernel, by decide +kernel⟩, List.mem_of_getElem? (i := 8) (by decide +kernel), List.mem_of_getElem? (i := 288) (by decide +kernel), List.mem_of_getElem? (i := 289) (by decide +kernel)⟩
def lw_privs_1 : List (MethodName × Nat) := [(⟨"LevelMachine", "keepAll", "()V"⟩, 13), (⟨"LevelMachine", "perform", "()Z"⟩, 13), (⟨"LevelMachine", "decode", "()Z"⟩, 13), (⟨"LevelMachine", "fetch", "()I"⟩, 13), (⟨"LevelMachine", "fault", "(II)Z"⟩, 13), (⟨"LevelMachine", "stop", "()Z"⟩, 13), (⟨"LevelMachine", "level", "()I"⟩, 13), (⟨"LevelMachine", "give", "(II)Z"⟩, 13), (⟨"LevelMachine", "judge", "(I)I"⟩, 13), (⟨"LevelMachine", "compare", "(II)Z"⟩, 13), (⟨"LevelMachine", "read", "(LLevelMachine$Segment;I)I"⟩, 13), (⟨"LevelMachine", "write", "(LLevelMachine$Segment;II)Z"⟩, 13), (⟨"LevelMachine", "go", "(IZ)Z"⟩, 13), (⟨"LevelMachine", "isZero", "()Z"⟩, 13), (⟨"LevelMachine", "push", "(I)Z"⟩, 13), (⟨"LevelMachine", "pop", "()I"⟩, 13)]
theorem lw_r1 : ∀ q ∈ lw_privs_1, lw_okq q := List.forall_mem_cons.mpr ⟨lw_p0, List.forall_mem_cons.mpr ⟨lw_p1, List.forall_mem_cons.mpr ⟨lw_p2, List.forall_mem_cons.mpr ⟨lw_p3, List.forall_mem_cons.mpr ⟨lw_p4, List.forall_mem_cons.mpr ⟨lw_p5, List.forall_mem_cons.mpr ⟨lw_p6, List.forall_mem_cons.mpr ⟨lw_p7, List.forall_mem_cons.mpr ⟨lw_p8, List.forall_mem_cons.mpr ⟨lw_p9, List.forall_mem_cons.mpr ⟨lw_p10, List.forall_mem_cons.mpr ⟨lw_p11, List.forall_mem_cons.mpr ⟨lw_p12, List.forall_mem_cons.mpr ⟨lw_p13, List.forall_mem_cons.mpr ⟨lw_p14, List.forall_mem_cons.mpr ⟨lw_p15, fun _ h => absurd h List.not_mem_nil⟩⟩⟩⟩⟩⟩⟩⟩⟩⟩⟩⟩⟩⟩⟩⟩
theorem lw_p16 : lw_okq (⟨"LevelMachine", "loadStack", "(I)Z"⟩, 13) := ⟨⟨by decide +kernel, by decide +kernel⟩, List.mem_of_getElem? (i := 8) (by decide +kernel), List.mem_of_getElem? (i := 292) (by decide +kernel), List.mem_of_getElem? (i := 293) (by decide +kernel)⟩
theorem lw_p17 : lw_okq (⟨"LevelMachine", "loadData", "(LLevelMachine$Segment;I)Z"⟩, 13) := ⟨⟨by decide +kernel, by decide +kernel⟩, List.mem_of_getElem? (i := 8) (by decide +kernel), List.mem_of_getElem? (i := 301) (by decide +kernel), List.mem_of_getElem? (i := 302) (by decide +kernel)⟩
theorem lw_p18 : lw_okq (⟨"LevelMachine", "toCode", "(IIZ)Z"⟩, 13) := ⟨⟨by decide +kernel, by decide +kernel⟩, List.mem_of_getElem? (i := 8) (by decide +kernel), List.mem_of_getElem? (i := 308) (by decide +kernel), List.mem_of_getElem? (i := 309) (by decide +kernel)⟩
theorem lw_p19 : lw_okq (⟨"LevelMachine", "enter", "(III)Z"⟩, 13) := ⟨⟨by decide +kernel, by decide +kernel⟩, List.mem_of_getElem? (i := 8) (by decide +kernel), List.mem_of_getElem? (i := 312) (by decide +kernel), List.mem_of_getElem? (i := 313) (by decide +kernel)⟩
theorem lw_p20 : lw_okq (⟨"LevelMachine", "mayEnter", "(III)Z"⟩, 13) := ⟨⟨by decide +kernel, by decide +kernel⟩, List.mem_of_getElem? (i := 8) (by decide +kernel), List.mem_of_getElem? (i := 316) (by decide +kernel), List.mem_of_getElem? (i := 317) (by decide +kernel)⟩
theorem lw_p21 : lw_okq (⟨"LevelMachine", "throughGate", "(IZ)Z"⟩, 13) := ⟨⟨by decide +kernel, by decide +kernel⟩, List.mem_of_getElem? (i := 8) (by decide +kernel), List.mem_of_getElem? (i := 321) (by decide +kernel), List.mem_of_getElem? (i := 322) (by decide +kernel)⟩
theorem lw_p22 : lw_okq (⟨"LevelMachine", "switchTo", "(II)Z"⟩, 13) := ⟨⟨by decide +kernel, by decide +kernel⟩, List.mem_of_getElem? (i := 8) (by decide +kernel), List.mem_of_getElem? (i := 326) (by decide +kernel), List.mem_of_getElem? (i := 327) (by decide +kernel)⟩
theorem lw_p23 : lw_okq (⟨"LevelMachine", "saveTask", "(I)V"⟩, 13) := ⟨⟨by decide +kernel, by decide +kernel⟩, List.mem_of_getElem? (i := 8) (by decide +kernel), List.mem_of_getElem? (i := 330) (by decide +kernel), List.mem_of_getElem? (i := 331) (by decide +kernel)⟩
theorem lw_p24 : lw_okq (⟨"LevelMachine", "saveWord", "(II)V"⟩, 13) := ⟨⟨by decide +kernel, by decide +kernel⟩, List.mem_of_getElem? (i := 8) (by decide +kernel), List.mem_of_getElem? (i := 334) (by decide +kernel), List.mem_of_getElem? (i := 335) (by decide +kernel)⟩
theorem lw_p25 : lw_okq (⟨"LevelMachine", "resumeTask", "(I)Z"⟩, 13) := ⟨⟨by decide +kernel, by decide +kernel⟩, List.mem_of_getElem? (i := 8) (by decide +kernel), List.mem_of_getElem? (i := 342) (by decide +kernel), List.mem_of_getElem? (i := 343) (by decide +kernel)⟩
theorem lw_p26 : lw_okq (⟨"LevelMachine", "enterDeep", "(IIIZ)Z"⟩, 13) := ⟨⟨by decide +kernel, by decide +kernel⟩, List.mem_of_getElem? (i := 8) (by decide +kernel), List.mem_of_getElem? (i := 350) (by decide +kernel), List.mem_of_getElem? (i := 351) (by decide +kernel)⟩
theorem lw_p27 : lw_okq (⟨"LevelMachine", "takeInnerStack", "(I)Z"⟩, 13) := ⟨⟨by decide +kernel, by decide +kernel⟩, List.mem_of_getElem? (i := 8) (by decide +kernel), List.mem_of_getElem? (i := 354) (by decide +kernel), List.mem_of_getElem? (i := 355) (by decide +kernel)⟩
theorem lw_p28 : lw_okq (⟨"LevelMachine", "carryOver", "(II)Z"⟩, 13) := ⟨⟨by decide +kernel, by decide +kernel⟩, List.mem_of_getElem? (i := 8) (by decide +kernel), List.mem_of_getElem? (i := 358) (by decide +kernel), List.mem_of_getElem? (i := 359) (by decide +kernel)⟩
theorem lw_p29 : lw_okq (⟨"LevelMachine", "comeBack", "(IZ)Z"⟩, 13) := ⟨⟨by decide +kernel, by decide +kernel⟩, List.mem_of_getElem? (i := 8) (by decide +kernel), List.mem_of_getElem? (i := 362) (by decide +kernel), List.mem_of_getElem? (i := 363) (by decide +kernel)⟩
theorem lw_p30 : lw_okq (⟨"LevelMachine", "comeOut", "(III)Z"⟩, 13) := ⟨⟨by decide +kernel, by decide +kernel⟩, List.mem_of_getElem? (i := 8) (by decide +kernel), List.mem_of_getElem? (i := 366) (by decide +kernel), List.mem_of_getElem? (i := 367) (by decide +kernel)⟩
theorem lw_p31 : lw_okq (⟨"LevelMachine", "hide", "(LLevelMachine$Segment;)V"⟩, 13) := ⟨⟨by decide +kernel, by decide +kernel⟩, List.mem_of_getElem? (i := 8) (by decide +kernel), List.mem_of_getElem? (i := 370) (by decide +kernel), List.mem_of_getElem? (i := 371) (by decide +kernel)⟩
def lw_privs_2 : List (MethodName × Nat) := [(⟨"LevelMachine", "loadStack", "(I)Z"⟩, 13), (⟨"LevelMachine", "loadData", "(LLevelMachine$Segment;I)Z"⟩, 13), (⟨"LevelMachine", "toCode", "(IIZ)Z"⟩, 13), (⟨"LevelMachine", "enter", "(III)Z"⟩, 13), (⟨"LevelMachine", "mayEnter", "(III)Z"⟩, 13), (⟨"LevelMachine", "throughGate", "(IZ)Z"⟩, 13), (⟨"LevelMachine", "switchTo", "(II)Z"⟩, 13), (⟨"LevelMachine", "saveTask", "(I)V"⟩, 13), (⟨"LevelMachine", "saveWord", "(II)V"⟩, 13), (⟨"LevelMachine", "resumeTask", "(I)Z"⟩, 13), (⟨"LevelMachine", "enterDeep", "(IIIZ)Z"⟩, 13), (⟨"LevelMachine", "takeInnerStack", "(I)Z"⟩, 13), (⟨"LevelMachine", "carryOver", "(II)Z"⟩, 13), (⟨"LevelMachine", "comeBack", "(IZ)Z"⟩, 13), (⟨"LevelMachine", "comeOut", "(III)Z"⟩, 13), (⟨"LevelMachine", "hide", "(LLevelMachine$Segment;)V"⟩, 13)]
theorem lw_r2 : ∀ q ∈ lw_privs_2, lw_okq q := List.forall_mem_cons.mpr ⟨lw_p16, List.forall_mem_cons.mpr ⟨lw_p17, List.forall_mem_cons.mpr ⟨lw_p18, List.forall_mem_cons.mpr ⟨lw_p19, List.forall_mem_cons.mpr ⟨lw_p20, List.forall_mem_cons.mpr ⟨lw_p21, List.forall_mem_cons.mpr ⟨lw_p22, List.forall_mem_cons.mpr ⟨lw_p23, List.forall_mem_cons.mpr ⟨lw_p24, List.forall_mem_cons.mpr ⟨lw_p25, List.forall_mem_cons.mpr ⟨lw_p26, List.forall_mem_cons.mpr ⟨lw_p27, List.forall_mem_cons.mpr ⟨lw_p28, List.forall_mem_cons.mpr ⟨lw_p29, List.forall_mem_cons.mpr ⟨lw_p30, List.forall_mem_cons.mpr ⟨lw_p31, fun _ h => absurd h List.not_mem_nil⟩⟩⟩⟩⟩⟩⟩⟩⟩⟩⟩⟩⟩⟩⟩⟩
theorem lw_p32 : lw_okq (⟨"LevelMachine", "trap", "(IZ)Z"⟩, 13) := ⟨⟨by decide +kernel, by decide +kernel⟩, List.mem_of_getElem? (i := 8) (by decide +kernel), List.mem_of_getElem? (i := 374) (by decide +kernel), List.mem_of_getElem? (i := 375) (by decide +kernel)⟩
theorem lw_p33 : lw_okq (⟨"LevelMachine", "back", "()Z"⟩, 13) := ⟨⟨by decide +kernel, by decide +kernel⟩, List.mem_of_getElem? (i := 8) (by decide +kernel), List.mem_of_getElem? (i := 379) (by decide +kernel), List.mem_of_getElem? (i := 380) (by decide +kernel)⟩
theorem lw_p34 : lw_okq (⟨"LevelMachine", "beginTask", "(I)Z"⟩, 13) := ⟨⟨by decide +kernel, by decide +kernel⟩, List.mem_of_getElem? (i := 8) (by decide +kernel), List.mem_of_getElem? (i := 383) (by decide +kernel), List.mem_of_getElem? (i := 384) (by decide +kernel)⟩
theorem lw_p35 : lw_okq (⟨"LevelMachine", "adjust", "(II)Z"⟩, 13) := ⟨⟨by decide +kernel, by decide +kernel⟩, List.mem_of_getElem? (i := 8) (by decide +kernel), List.mem_of_getElem? (i := 387) (by decide +kernel), List.mem_of_getElem? (i := 388) (by decide +kernel)⟩
theorem lw_p36 : lw_okq (⟨"LevelMachine", "deliver", "()Z"⟩, 13) := ⟨⟨by decide +kernel, by decide +kernel⟩, List.mem_of_getElem? (i := 8) (by decide +kernel), List.mem_of_getElem? (i := 391) (by decide +kernel), List.mem_of_getElem? (i := 392) (by decide +kernel)⟩
theorem lw_p37 : lw_okq (⟨"LevelMachine", "takeAllBack", "()V"⟩, 13) := ⟨⟨by decide +kernel, by decide +kernel⟩, List.mem_of_getElem? (i := 8) (by decide +kernel), List.mem_of_getElem? (i := 395) (by decide +kernel), List.mem_of_getElem? (i := 396) (by decide +kernel)⟩
theorem lw_p38 : lw_okq (⟨"LevelMachine", "note", "(II)V"⟩, 13) := ⟨⟨by decide +kernel, by decide +kernel⟩, List.mem_of_getElem? (i := 8) (by decide +kernel), List.mem_of_getElem? (i := 403) (by decide +kernel), List.mem_of_getElem? (i := 404) (by decide +kernel)⟩
theorem lw_p39 : lw_okq (⟨"LevelMachineModel", "goesOn", "()Z"⟩, 17) := ⟨⟨by decide +kernel, by decide +kernel⟩, List.mem_of_getElem? (i := 419) (by decide +kernel), List.mem_of_getElem? (i := 484) (by decide +kernel), List.mem_of_getElem? (i := 485) (by decide +kernel)⟩
theorem lw_p40 : lw_okq (⟨"LevelMachineModel", "remember", "()V"⟩, 17) := ⟨⟨by decide +kernel, by decide +kernel⟩, List.mem_of_getElem? (i := 419) (by decide +kernel), List.mem_of_getElem? (i := 488) (by decide +kernel), List.mem_of_getElem? (i := 489) (by decide +kernel)⟩
theorem lw_p41 : lw_okq (⟨"LevelMachineModel", "execute", "()V"⟩, 17) := ⟨⟨by decide +kernel, by decide +kernel⟩, List.mem_of_getElem? (i := 419) (by decide +kernel), List.mem_of_getElem? (i := 495) (by decide +kernel), List.mem_of_getElem? (i := 496) (by decide +kernel)⟩
theorem lw_p42 : lw_okq (⟨"LevelMachineModel", "fetch", "()I"⟩, 17) := ⟨⟨by decide +kernel, by decide +kernel⟩, List.mem_of_getElem? (i := 419) (by decide +kernel), List.mem_of_getElem? (i := 499) (by decide +kernel), List.mem_of_getElem? (i := 500) (by decide +kernel)⟩
theorem lw_p43 : lw_okq (⟨"LevelMachineModel", "wrong", "(II)V"⟩, 17) := ⟨⟨by decide +kernel, by decide +kernel⟩, List.mem_of_getElem? (i := 419) (by decide +kernel), List.mem_of_getElem? (i := 503) (by decide +kernel), List.mem_of_getElem? (i := 504) (by decide +kernel)⟩
theorem lw_p44 : lw_okq (⟨"LevelMachineModel", "word", "(I)I"⟩, 17) := ⟨⟨by decide +kernel, by decide +kernel⟩, List.mem_of_getElem? (i := 419) (by decide +kernel), List.mem_of_getElem? (i := 507) (by decide +kernel), List.mem_of_getElem? (i := 508) (by decide +kernel)⟩
theorem lw_p45 : lw_okq (⟨"LevelMachineModel", "simple", "(III)V"⟩, 17) := ⟨⟨by decide +kernel, by decide +kernel⟩, List.mem_of_getElem? (i := 419) (by decide +kernel), List.mem_of_getElem? (i := 515) (by decide +kernel), List.mem_of_getElem? (i := 516) (by decide +kernel)⟩
theorem lw_p46 : lw_okq (⟨"LevelMachineModel", "level", "()I"⟩, 17) := ⟨⟨by decide +kernel, by decide +kernel⟩, List.mem_of_getElem? (i := 419) (by decide +kernel), List.mem_of_getElem? (i := 519) (by decide +kernel), List.mem_of_getElem? (i := 520) (by decide +kernel)⟩
theorem lw_p47 : lw_okq (⟨"LevelMachineModel", "reckon", "(IIZ)V"⟩, 17) := ⟨⟨by decide +kernel, by decide +kernel⟩, List.mem_of_getElem? (i := 419) (by decide +kernel), List.mem_of_getElem? (i := 523) (by decide +kernel), List.mem_of_getElem? (i := 524) (by decide +kernel)⟩
def lw_privs_3 : List (MethodName × Nat) := [(⟨"LevelMachine", "trap", "(IZ)Z"⟩, 13), (⟨"LevelMachine", "back", "()Z"⟩, 13), (⟨"LevelMachine", "beginTask", "(I)Z"⟩, 13), (⟨"LevelMachine", "adjust", "(II)Z"⟩, 13), (⟨"LevelMachine", "deliver", "()Z"⟩, 13), (⟨"LevelMachine", "takeAllBack", "()V"⟩, 13), (⟨"LevelMachine", "note", "(II)V"⟩, 13), (⟨"LevelMachineModel", "goesOn", "()Z"⟩, 17), (⟨"LevelMachineModel", "remember", "()V"⟩, 17), (⟨"LevelMachineModel", "execute", "()V"⟩, 17), (⟨"LevelMachineModel", "fetch", "()I"⟩, 17), (⟨"LevelMachineModel", "wrong", "(II)V"⟩, 17), (⟨"LevelMachineModel", "word", "(I)I"⟩, 17), (⟨"LevelMachineModel", "simple", "(III)V"⟩, 17), (⟨"LevelMachineModel", "level", "()I"⟩, 17), (⟨"LevelMachineModel", "reckon", "(IIZ)V"⟩, 17)]
theorem lw_r3 : ∀ q ∈ lw_privs_3, lw_okq q := List.forall_mem_cons.mpr ⟨lw_p32, List.forall_mem_cons.mpr ⟨lw_p33, List.forall_mem_cons.mpr ⟨lw_p34, List.forall_mem_cons.mpr ⟨lw_p35, List.forall_mem_cons.mpr ⟨lw_p36, List.forall_mem_cons.mpr ⟨lw_p37, List.forall_mem_cons.mpr ⟨lw_p38, List.forall_mem_cons.mpr ⟨lw_p39, List.forall_mem_cons.mpr ⟨lw_p40, List.forall_mem_cons.mpr ⟨lw_p41, List.forall_mem_cons.mpr ⟨lw_p42, List.forall_mem_cons.mpr ⟨lw_p43, List.forall_mem_cons.mpr ⟨lw_p44, List.forall_mem_cons.mpr ⟨lw_p45, List.forall_mem_cons.mpr ⟨lw_p46, List.forall_mem_cons.mpr ⟨lw_p47, fun _ h => absurd h List.not_mem_nil⟩⟩⟩⟩⟩⟩⟩⟩⟩⟩⟩⟩⟩⟩⟩⟩
theorem lw_p48 : lw_okq (⟨"LevelMachineModel", "move", "(III)V"⟩, 17) := ⟨⟨by decide +kernel, by decide +kernel⟩, List.mem_of_getElem? (i := 419) (by decide +kernel), List.mem_of_getElem? (i := 528) (by decide +kernel), List.mem_of_getElem? (i := 529) (by decide +kernel)⟩
theorem lw_p49 : lw_okq (⟨"LevelMachineModel", "read", "(II)I"⟩, 17) := ⟨⟨by decide +kernel, by decide +kernel⟩, List.mem_of_getElem? (i := 419) (by decide +kernel), List.mem_of_getElem? (i := 532) (by decide +kernel), List.mem_of_getElem? (i := 533) (by decide +kernel)⟩
theorem lw_p50 : lw_okq (⟨"LevelMachineModel", "reaches", "(IIZ)Z"⟩, 17) := ⟨⟨by decide +kernel, by decide +kernel⟩, List.mem_of_getElem? (i := 419) (by decide +kernel), List.mem_of_getElem? (i := 536) (by decide +kernel), List.mem_of_getElem? (i := 537) (by decide +kernel)⟩
theorem lw_p51 : lw_okq (⟨"LevelMachineModel", "write", "(III)V"⟩, 17) := ⟨⟨by decide +kernel, by decide +kernel⟩, List.mem_of_getElem? (i := 419) (by decide +kernel), List.mem_of_getElem? (i := 540) (by decide +kernel), List.mem_of_getElem? (i := 541) (by decide +kernel)⟩
theorem lw_p52 : lw_okq (⟨"LevelMachineModel", "store", "(II)V"⟩, 17) := ⟨⟨by decide +kernel, by decide +kernel⟩, List.mem_of_getElem? (i := 419) (by decide +kernel), List.mem_of_getElem? (i := 544) (by decide +kernel), List.mem_of_getElem? (i := 545) (by decide +kernel)⟩
theorem lw_p53 : lw_okq (⟨"LevelMachineModel", "push", "(I)V"⟩, 17) := ⟨⟨by decide +kernel, by decide +kernel⟩, List.mem_of_getElem? (i := 419) (by decide +kernel), List.mem_of_getElem? (i := 548) (by decide +kernel), List.mem_of_getElem? (i := 549) (by decide +kernel)⟩
theorem lw_p54 : lw_okq (⟨"LevelMachineModel", "pop", "()I"⟩, 17) := ⟨⟨by decide +kernel, by decide +kernel⟩, List.mem_of_getElem? (i := 419) (by decide +kernel), List.mem_of_getElem? (i := 552) (by decide +kernel), List.mem_of_getElem? (i := 553) (by decide +kernel)⟩
theorem lw_p55 : lw_okq (⟨"LevelMachineModel", "loadStack", "(I)V"⟩, 17) := ⟨⟨by decide +kernel, by decide +kernel⟩, List.mem_of_getElem? (i := 419) (by decide +kernel), List.mem_of_getElem? (i := 556) (by decide +kernel), List.mem_of_getElem? (i := 557) (by decide +kernel)⟩
theorem lw_p56 : lw_okq (⟨"LevelMachineModel", "need", "(ZII)V"⟩, 17) := ⟨⟨by decide +kernel, by decide +kernel⟩, List.mem_of_getElem? (i := 419) (by decide +kernel), List.mem_of_getElem? (i := 566) (by decide +kernel), List.mem_of_getElem? (i := 567) (by decide +kernel)⟩
theorem lw_p57 : lw_okq (⟨"LevelMachineModel", "kindOf", "(I)I"⟩, 17) := ⟨⟨by decide +kernel, by decide +kernel⟩, List.mem_of_getElem? (i := 419) (by decide +kernel), List.mem_of_getElem? (i := 570) (by decide +kernel), List.mem_of_getElem? (i := 571) (by decide +kernel)⟩
theorem lw_p58 : lw_okq (⟨"LevelMachineModel", "part", "(II)I"⟩, 17) := ⟨⟨by decide +kernel, by decide +kernel⟩, List.mem_of_getElem? (i := 419) (by decide +kernel), List.mem_of_getElem? (i := 574) (by decide +kernel), List.mem_of_getElem? (i := 575) (by decide +kernel)⟩
theorem lw_p59 : lw_okq (⟨"LevelMachineModel", "rankOf", "(I)I"⟩, 17) := ⟨⟨by decide +kernel, by decide +kernel⟩, List.mem_of_getElem? (i := 419) (by decide +kernel), List.mem_of_getElem? (i := 578) (by decide +kernel), List.mem_of_getElem? (i := 579) (by decide +kernel)⟩
theorem lw_p60 : lw_okq (⟨"LevelMachineModel", "isThere", "(I)Z"⟩, 17) := ⟨⟨by decide +kernel, by decide +kernel⟩, List.mem_of_getElem? (i := 419) (by decide +kernel), List.mem_of_getElem? (i := 582) (by decide +kernel), List.mem_of_getElem? (i := 583) (by decide +kernel)⟩
theorem lw_p61 : lw_okq (⟨"LevelMachineModel", "load", "(II)V"⟩, 17) := ⟨⟨by decide +kernel, by decide +kernel⟩, List.mem_of_getElem? (i := 419) (by decide +kernel), List.mem_of_getElem? (i := 586) (by decide +kernel), List.mem_of_getElem? (i := 587) (by decide +kernel)⟩
theorem lw_p62 : lw_okq (⟨"LevelMachineModel", "loadData", "(II)V"⟩, 17) := ⟨⟨by decide +kernel, by decide +kernel⟩, List.mem_of_getElem? (i := 419) (by decide +kernel), List.mem_of_getElem? (i := 590) (by decide +kernel), List.mem_of_getElem? (i := 591) (by decide +kernel)⟩
theorem lw_p63 : lw_okq (⟨"LevelMachineModel", "unload", "(I)V"⟩, 17) := ⟨⟨by decide +kernel, by decide +kernel⟩, List.mem_of_getElem? (i := 419) (by decide +kernel), List.mem_of_getElem? (i := 594) (by decide +kernel), List.mem_of_getElem? (i := 595) (by decide +kernel)⟩
def lw_privs_4 : List (MethodName × Nat) := [(⟨"LevelMachineModel", "move", "(III)V"⟩, 17), (⟨"LevelMachineModel", "read", "(II)I"⟩, 17), (⟨"LevelMachineModel", "reaches", "(IIZ)Z"⟩, 17), (⟨"LevelMachineModel", "write", "(III)V"⟩, 17), (⟨"LevelMachineModel", "store", "(II)V"⟩, 17), (⟨"LevelMachineModel", "push", "(I)V"⟩, 17), (⟨"LevelMachineModel", "pop", "()I"⟩, 17), (⟨"LevelMachineModel", "loadStack", "(I)V"⟩, 17), (⟨"LevelMachineModel", "need", "(ZII)V"⟩, 17), (⟨"LevelMachineModel", "kindOf", "(I)I"⟩, 17), (⟨"LevelMachineModel", "part", "(II)I"⟩, 17), (⟨"LevelMachineModel", "rankOf", "(I)I"⟩, 17), (⟨"LevelMachineModel", "isThere", "(I)Z"⟩, 17), (⟨"LevelMachineModel", "load", "(II)V"⟩, 17), (⟨"LevelMachineModel", "loadData", "(II)V"⟩, 17), (⟨"LevelMachineModel", "unload", "(I)V"⟩, 17)]
theorem lw_r4 : ∀ q ∈ lw_privs_4, lw_okq q := List.forall_mem_cons.mpr ⟨lw_p48, List.forall_mem_cons.mpr ⟨lw_p49, List.forall_mem_cons.mpr ⟨lw_p50, List.forall_mem_cons.mpr ⟨lw_p51, List.forall_mem_cons.mpr ⟨lw_p52, List.forall_mem_cons.mpr ⟨lw_p53, List.forall_mem_cons.mpr ⟨lw_p54, List.forall_mem_cons.mpr ⟨lw_p55, List.forall_mem_cons.mpr ⟨lw_p56, List.forall_mem_cons.mpr ⟨lw_p57, List.forall_mem_cons.mpr ⟨lw_p58, List.forall_mem_cons.mpr ⟨lw_p59, List.forall_mem_cons.mpr ⟨lw_p60, List.forall_mem_cons.mpr ⟨lw_p61, List.forall_mem_cons.mpr ⟨lw_p62, List.forall_mem_cons.mpr ⟨lw_p63, fun _ h => absurd h List.not_mem_nil⟩⟩⟩⟩⟩⟩⟩⟩⟩⟩⟩⟩⟩⟩⟩⟩
theorem lw_p64 : lw_okq (⟨"LevelMachineModel", "protect", "(III)V"⟩, 17) := ⟨⟨by decide +kernel, by decide +kernel⟩, List.mem_of_getElem? (i := 419) (by decide +kernel), List.mem_of_getElem? (i := 598) (by decide +kernel), List.mem_of_getElem? (i := 599) (by decide +kernel)⟩
theorem lw_p65 : lw_okq (⟨"LevelMachineModel", "transfer", "(IIZ)V"⟩, 17) := ⟨⟨by decide +kernel, by decide +kernel⟩, List.mem_of_getElem? (i := 419) (by decide +kernel), List.mem_of_getElem? (i := 602) (by decide +kernel), List.mem_of_getElem? (i := 603) (by decide +kernel)⟩
theorem lw_p66 : lw_okq (⟨"LevelMachineModel", "pushPlace", "(Z)V"⟩, 17) := ⟨⟨by decide +kernel, by decide +kernel⟩, List.mem_of_getElem? (i := 419) (by decide +kernel), List.mem_of_getElem? (i := 606) (by decide +kernel), List.mem_of_getElem? (i := 607) (by decide +kernel)⟩
theorem lw_p67 : lw_okq (⟨"LevelMachineModel", "enter", "(III)V"⟩, 17) := ⟨⟨by decide +kernel, by decide +kernel⟩, List.mem_of_getElem? (i := 419) (by decide +kernel), List.mem_of_getElem? (i := 610) (by decide +kernel), List.mem_of_getElem? (i := 611) (by decide +kernel)⟩
theorem lw_p68 : lw_okq (⟨"LevelMachineModel", "canEnter", "(III)Z"⟩, 17) := ⟨⟨by decide +kernel, by decide +kernel⟩, List.mem_of_getElem? (i := 419) (by decide +kernel), List.mem_of_getElem? (i := 614) (by decide +kernel), List.mem_of_getElem? (i := 615) (by decide +kernel)⟩
theorem lw_p69 : lw_okq (⟨"LevelMachineModel", "isCode", "(I)Z"⟩, 17) := ⟨⟨by decide +kernel, by decide +kernel⟩, List.mem_of_getElem? (i := 419) (by decide +kernel), List.mem_of_getElem? (i := 618) (by decide +kernel), List.mem_of_getElem? (i := 619) (by decide +kernel)⟩
theorem lw_p70 : lw_okq (⟨"LevelMachineModel", "switchTo", "(II)V"⟩, 17) := ⟨⟨by decide +kernel, by decide +kernel⟩, List.mem_of_getElem? (i := 419) (by decide +kernel), List.mem_of_getElem? (i := 622) (by decide +kernel), List.mem_of_getElem? (i := 623) (by decide +kernel)⟩
theorem lw_p71 : lw_okq (⟨"LevelMachineModel", "setKind", "(II)V"⟩, 17) := ⟨⟨by decide +kernel, by decide +kernel⟩, List.mem_of_getElem? (i := 419) (by decide +kernel), List.mem_of_getElem? (i := 626) (by decide +kernel), List.mem_of_getElem? (i := 627) (by decide +kernel)⟩
theorem lw_p72 : lw_okq (⟨"LevelMachineModel", "begin", "(II)V"⟩, 17) := ⟨⟨by decide +kernel, by decide +kernel⟩, List.mem_of_getElem? (i := 419) (by decide +kernel), List.mem_of_getElem? (i := 630) (by decide +kernel), List.mem_of_getElem? (i := 631) (by decide +kernel)⟩
theorem lw_p73 : lw_okq (⟨"LevelMachineModel", "deepEntry", "(IIIZ)V"⟩, 17) := ⟨⟨by decide +kernel, by decide +kernel⟩, List.mem_of_getElem? (i := 419) (by decide +kernel), List.mem_of_getElem? (i := 634) (by decide +kernel), List.mem_of_getElem? (i := 635) (by decide +kernel)⟩
theorem lw_p74 : lw_okq (⟨"LevelMachineModel", "changeStack", "(I)V"⟩, 17) := ⟨⟨by decide +kernel, by decide +kernel⟩, List.mem_of_getElem? (i := 419) (by decide +kernel), List.mem_of_getElem? (i := 638) (by decide +kernel), List.mem_of_getElem? (i := 639) (by decide +kernel)⟩
theorem lw_p75 : lw_okq (⟨"LevelMachineModel", "ofOldStack", "(I)I"⟩, 17) := ⟨⟨by decide +kernel, by decide +kernel⟩, List.mem_of_getElem? (i := 419) (by decide +kernel), List.mem_of_getElem? (i := 642) (by decide +kernel), List.mem_of_getElem? (i := 643) (by decide +kernel)⟩
theorem lw_p76 : lw_okq (⟨"LevelMachineModel", "comeBack", "(III)V"⟩, 17) := ⟨⟨by decide +kernel, by decide +kernel⟩, List.mem_of_getElem? (i := 419) (by decide +kernel), List.mem_of_getElem? (i := 646) (by decide +kernel), List.mem_of_getElem? (i := 647) (by decide +kernel)⟩
theorem lw_p77 : lw_okq (⟨"LevelMachineModel", "trap", "(IZ)V"⟩, 17) := ⟨⟨by decide +kernel, by decide +kernel⟩, List.mem_of_getElem? (i := 419) (by decide +kernel), List.mem_of_getElem? (i := 650) (by decide +kernel), List.mem_of_getElem? (i := 651) (by decide +kernel)⟩
theorem lw_p78 : lw_okq (⟨"LevelMachineModel", "back", "()V"⟩, 17) := ⟨⟨by decide +kernel, by decide +kernel⟩, List.mem_of_getElem? (i := 419) (by decide +kernel), List.mem_of_getElem? (i := 654) (by decide +kernel), List.mem_of_getElem? (i := 655) (by decide +kernel)⟩
theorem lw_p79 : lw_okq (⟨"LevelMachineModel", "take", "(I)V"⟩, 17) := ⟨⟨by decide +kernel, by decide +kernel⟩, List.mem_of_getElem? (i := 419) (by decide +kernel), List.mem_of_getElem? (i := 658) (by decide +kernel), List.mem_of_getElem? (i := 659) (by decide +kernel)⟩
def lw_privs_5 : List (MethodName × Nat) := [(⟨"LevelMachineModel", "protect", "(III)V"⟩, 17), (⟨"LevelMachineModel", "transfer", "(IIZ)V"⟩, 17), (⟨"LevelMachineModel", "pushPlace", "(Z)V"⟩, 17), (⟨"LevelMachineModel", "enter", "(III)V"⟩, 17), (⟨"LevelMachineModel", "canEnter", "(III)Z"⟩, 17), (⟨"LevelMachineModel", "isCode", "(I)Z"⟩, 17), (⟨"LevelMachineModel", "switchTo", "(II)V"⟩, 17), (⟨"LevelMachineModel", "setKind", "(II)V"⟩, 17), (⟨"LevelMachineModel", "begin", "(II)V"⟩, 17), (⟨"LevelMachineModel", "deepEntry", "(IIIZ)V"⟩, 17), (⟨"LevelMachineModel", "changeStack", "(I)V"⟩, 17), (⟨"LevelMachineModel", "ofOldStack", "(I)I"⟩, 17), (⟨"LevelMachineModel", "comeBack", "(III)V"⟩, 17), (⟨"LevelMachineModel", "trap", "(IZ)V"⟩, 17), (⟨"LevelMachineModel", "back", "()V"⟩, 17), (⟨"LevelMachineModel", "take", "(I)V"⟩, 17)]
theorem lw_r5 : ∀ q ∈ lw_privs_5, lw_okq q := List.forall_mem_cons.mpr ⟨lw_p64, List.forall_mem_cons.mpr ⟨lw_p65, List.forall_mem_cons.mpr ⟨lw_p66, List.forall_mem_cons.mpr ⟨lw_p67, List.forall_mem_cons.mpr ⟨lw_p68, List.forall_mem_cons.mpr ⟨lw_p69, List.forall_mem_cons.mpr ⟨lw_p70, List.forall_mem_cons.mpr ⟨lw_p71, List.forall_mem_cons.mpr ⟨lw_p72, List.forall_mem_cons.mpr ⟨lw_p73, List.forall_mem_cons.mpr ⟨lw_p74, List.forall_mem_cons.mpr ⟨lw_p75, List.forall_mem_cons.mpr ⟨lw_p76, List.forall_mem_cons.mpr ⟨lw_p77, List.forall_mem_cons.mpr ⟨lw_p78, List.forall_mem_cons.mpr ⟨lw_p79, fun _ h => absurd h List.not_mem_nil⟩⟩⟩⟩⟩⟩⟩⟩⟩⟩⟩⟩⟩⟩⟩⟩
theorem lw_p80 : lw_okq (⟨"LevelMachineModel", "note", "(II)V"⟩, 17) := ⟨⟨by decide +kernel, by decide +kernel⟩, List.mem_of_getElem? (i := 419) (by decide +kernel), List.mem_of_getElem? (i := 662) (by decide +kernel), List.mem_of_getElem? (i := 663) (by decide +kernel)⟩
theorem lw_p81 : lw_okq (⟨"LevelMachineModel", "putBack", "()V"⟩, 17) := ⟨⟨by decide +kernel, by decide +kernel⟩, List.mem_of_getElem? (i := 419) (by decide +kernel), List.mem_of_getElem? (i := 666) (by decide +kernel), List.mem_of_getElem? (i := 667) (by decide +kernel)⟩
theorem lw_p82 : lw_okq (⟨"LevelMachineModel", "delivers", "(II)Z"⟩, 17) := ⟨⟨by decide +kernel, by decide +kernel⟩, List.mem_of_getElem? (i := 419) (by decide +kernel), List.mem_of_getElem? (i := 670) (by decide +kernel), List.mem_of_getElem? (i := 671) (by decide +kernel)⟩
def lw_privs_6 : List (MethodName × Nat) := [(⟨"LevelMachineModel", "note", "(II)V"⟩, 17), (⟨"LevelMachineModel", "putBack", "()V"⟩, 17), (⟨"LevelMachineModel", "delivers", "(II)Z"⟩, 17)]
theorem lw_r6 : ∀ q ∈ lw_privs_6, lw_okq q := List.forall_mem_cons.mpr ⟨lw_p80, List.forall_mem_cons.mpr ⟨lw_p81, List.forall_mem_cons.mpr ⟨lw_p82, fun _ h => absurd h List.not_mem_nil⟩⟩⟩
def lw_privs : List (MethodName × Nat) := lw_privs_1 ++ (lw_privs_2 ++ (lw_privs_3 ++ (lw_privs_4 ++ (lw_privs_5 ++ (lw_privs_6)))))
def lw_tbl : List Cond := k2_sels lw_privs ++ tables_1
theorem lw_privs_ok : ∀ q ∈ lw_privs, lw_okq q := by
  show ∀ q ∈ lw_privs_1 ++ (lw_privs_2 ++ (lw_privs_3 ++ (lw_privs_4 ++ (lw_privs_5 ++ (lw_privs_6))))), lw_okq q
  exact List.forall_mem_append.mpr ⟨lw_r1, List.forall_mem_append.mpr ⟨lw_r2, List.forall_mem_append.mpr ⟨lw_r3, List.forall_mem_append.mpr ⟨lw_r4, List.forall_mem_append.mpr ⟨lw_r5, lw_r6⟩⟩⟩⟩⟩
end
section
abbrev ab_I : Type := Int × Int
def ab_in (i : ab_I) (x : Int32) : Prop := i.1 ≤ x.toInt ∧ x.toInt ≤ i.2
def ab_cl (r : ab_I) : ab_I := if -2147483648 ≤ r.1 ∧ r.2 ≤ 2147483647 then r else (-2147483648, 2147483647)
theorem ab_full (x : Int32) : ab_in (-2147483648, 2147483647) x := by
  have h1 := x.le_toInt
  have h2 := x.toInt_lt
  exact ⟨by simpa using h1, by simp at h2; show x.toInt ≤ 2147483647; omega⟩
theorem ab_bm {x : Int} (h1 : -2147483648 ≤ x) (h2 : x ≤ 2147483647) : x.bmod (2 ^ 32) = x := by
  have e : ((2 ^ 32 : Nat) : Int) = 4294967296 := by decide
  unfold Int.bmod
  simp only [e]
  split <;> omega
theorem ab_add {a b : ab_I} {x y : Int32} (hx : ab_in a x) (hy : ab_in b y) : ab_in (ab_cl (a.1 + b.1, a.2 + b.2)) (x + y) := by
  unfold ab_cl
  obtain ⟨h1, h2⟩ := hx
  obtain ⟨h3, h4⟩ := hy
  split
  · rename_i h
    obtain ⟨h5, h6⟩ := h
    dsimp only at h5 h6
    have e : (x + y).toInt = x.toInt + y.toInt := by
      rw [Int32.toInt_add]
      exact ab_bm (by omega) (by omega)
    exact ⟨by rw [e]; dsimp only; omega, by rw [e]; dsimp only; omega⟩
  · exact ab_full _
theorem ab_sub {a b : ab_I} {x y : Int32} (hx : ab_in a x) (hy : ab_in b y) : ab_in (ab_cl (a.1 - b.2, a.2 - b.1)) (x - y) := by
  unfold ab_cl
  obtain ⟨h1, h2⟩ := hx
  obtain ⟨h3, h4⟩ := hy
  split
  · rename_i h
    obtain ⟨h5, h6⟩ := h
    dsimp only at h5 h6
    have e : (x - y).toInt = x.toInt - y.toInt := by
      rw [Int32.toInt_sub]
      exact ab_bm (by omega) (by omega)
    exact ⟨by rw [e]; dsimp only; omega, by rw [e]; dsimp only; omega⟩
  · exact ab_full _
def ab_mulI (a b : ab_I) : ab_I := if 0 ≤ a.1 ∧ 0 ≤ b.1 then ab_cl (a.1 * b.1, a.2 * b.2) else (-2147483648, 2147483647)
theorem ab_mul {a b : ab_I} {x y : Int32} (hx : ab_in a x) (hy : ab_in b y) : ab_in (ab_mulI a b) (x * y) := by
  unfold ab_mulI
  split
  · rename_i h0
    unfold ab_cl
    obtain ⟨h1, h2⟩ := hx
    obtain ⟨h3, h4⟩ := hy
    split
    · rename_i h
      obtain ⟨h5, h6⟩ := h
      dsimp only at h5 h6
      have g1 : a.1 * b.1 ≤ x.toInt * y.toInt := Int.mul_le_mul h1 h3 h0.2 (Int.le_trans h0.1 h1)
      have g2 : x.toInt * y.toInt ≤ a.2 * b.2 := Int.mul_le_mul h2 h4 (Int.le_trans h0.2 h3) (Int.le_trans (Int.le_trans h0.1 h1) h2)
      have e : (x * y).toInt = x.toInt * y.toInt := by
        rw [Int32.toInt_mul]
        exact ab_bm (by omega) (by omega)
      exact ⟨by rw [e]; exact g1, by rw [e]; exact g2⟩
    · exact ab_full _
  · exact ab_full _
theorem ab_nn {x : Int32} (h : 0 ≤ x.toInt) : x.toInt = (x.toBitVec.toNat : Int) := by
  have h1 : x.toInt = x.toBitVec.toInt := rfl
  rw [h1] at h ⊢
  rw [BitVec.toInt_eq_toNat_cond] at h ⊢
  have := x.toBitVec.isLt
  split at h
  · rename_i hc
    rw [if_pos hc]
  · omega
theorem ab_nni {x : Int32} (h : x.toBitVec.toNat < 2147483648) : x.toInt = (x.toBitVec.toNat : Int) := by
  have h1 : x.toInt = x.toBitVec.toInt := rfl
  rw [h1, BitVec.toInt_eq_toNat_cond, if_pos (by omega)]
theorem ab_small {x : Int32} (h : 0 ≤ x.toInt) : x.toBitVec.toNat < 2147483648 := by
  have h1 := ab_nn h
  have h2 := (ab_full x).2
  dsimp only at h2
  omega
theorem ab_andL {x y : Int32} (h : 0 ≤ y.toInt) : 0 ≤ (x &&& y).toInt ∧ (x &&& y).toInt ≤ y.toInt := by
  have e : (x &&& y).toBitVec.toNat = x.toBitVec.toNat &&& y.toBitVec.toNat := by rw [Int32.toBitVec_and, BitVec.toNat_and]
  have h1 : x.toBitVec.toNat &&& y.toBitVec.toNat ≤ y.toBitVec.toNat := Nat.and_le_right
  have h2 := ab_small h
  have h3 := ab_nni (x := x &&& y) (by omega)
  have h4 := ab_nn h
  omega
theorem ab_andC (x y : Int32) : x &&& y = y &&& x := Int32.toBitVec_inj.mp (by rw [Int32.toBitVec_and, Int32.toBitVec_and, BitVec.and_comm])
def ab_andI (a b : ab_I) : ab_I := if 0 ≤ b.1 then (if 0 ≤ a.1 then (0, min a.2 b.2) else (0, b.2)) else (if 0 ≤ a.1 then (0, a.2) else (-2147483648, 2147483647))
theorem ab_and {a b : ab_I} {x y : Int32} (hx : ab_in a x) (hy : ab_in b y) : ab_in (ab_andI a b) (x &&& y) := by
  unfold ab_andI
  obtain ⟨h1, h2⟩ := hx
  obtain ⟨h3, h4⟩ := hy
  split
  · rename_i h
    have g := ab_andL (x := x) (y := y) (by omega)
    split
    · rename_i h9
      have g2 := ab_andL (x := y) (y := x) (by omega)
      rw [ab_andC y x] at g2
      exact ⟨g.1, by dsimp only; omega⟩
    · exact ⟨g.1, by dsimp only; omega⟩
  · split
    · rename_i h9
      have g2 := ab_andL (x := y) (y := x) (by omega)
      rw [ab_andC y x] at g2
      exact ⟨g2.1, by dsimp only; omega⟩
    · exact ab_full _
def ab_up (n : Nat) : Nat := 2 ^ (n.log2 + 1)
theorem ab_up_lt (n : Nat) : n < ab_up n := Nat.lt_log2_self
def ab_orI (a b : ab_I) : ab_I := if 0 ≤ a.1 ∧ 0 ≤ b.1 ∧ a.2 < 1073741824 ∧ b.2 < 1073741824 then (0, ((ab_up (max a.2 b.2).toNat : Nat) : Int) - 1) else (-2147483648, 2147483647)
theorem ab_up_le {n : Nat} (h : n < 1073741824) : ab_up n ≤ 1073741824 := by
  unfold ab_up
  by_cases hn : n = 0
  · subst hn; decide
  · have h1 : n.log2 < 30 := (Nat.log2_lt hn).mpr (by simpa using h)
    have h2 : 2 ^ (n.log2 + 1) ≤ 2 ^ 30 := Nat.pow_le_pow_right (by decide) (by omega)
    simpa using h2
theorem ab_or {a b : ab_I} {x y : Int32} (hx : ab_in a x) (hy : ab_in b y) : ab_in (ab_orI a b) (x ||| y) := by
  unfold ab_orI
  obtain ⟨h1, h2⟩ := hx
  obtain ⟨h3, h4⟩ := hy
  split
  · rename_i h
    obtain ⟨g1, g2, g3, g4⟩ := h
    have e : (x ||| y).toBitVec.toNat = x.toBitVec.toNat ||| y.toBitVec.toNat := by rw [Int32.toBitVec_or, BitVec.toNat_or]
    have n1 := ab_nn (x := x) (by omega)
    have n2 := ab_nn (x := y) (by omega)
    have k1 := ab_up_lt (max a.2 b.2).toNat
    have k2 := ab_up_le (n := (max a.2 b.2).toNat) (by omega)
    have k3 : x.toBitVec.toNat ||| y.toBitVec.toNat < 2 ^ ((max a.2 b.2).toNat.log2 + 1) := Nat.or_lt_two_pow (by show _ < ab_up _; omega) (by show _ < ab_up _; omega)
    have k4 : x.toBitVec.toNat ||| y.toBitVec.toNat < ab_up (max a.2 b.2).toNat := k3
    have n3 := ab_nni (x := x ||| y) (by omega)
    exact ⟨by dsimp only; omega, by dsimp only; omega⟩
  · exact ab_full _
theorem ab_xor {a b : ab_I} {x y : Int32} (hx : ab_in a x) (hy : ab_in b y) : ab_in (ab_orI a b) (x ^^^ y) := by
  unfold ab_orI
  obtain ⟨h1, h2⟩ := hx
  obtain ⟨h3, h4⟩ := hy
  split
  · rename_i h
    obtain ⟨g1, g2, g3, g4⟩ := h
    have e : (x ^^^ y).toBitVec.toNat = x.toBitVec.toNat ^^^ y.toBitVec.toNat := by rw [Int32.toBitVec_xor, BitVec.toNat_xor]
    have n1 := ab_nn (x := x) (by omega)
    have n2 := ab_nn (x := y) (by omega)
    have k1 := ab_up_lt (max a.2 b.2).toNat
    have k2 := ab_up_le (n := (max a.2 b.2).toNat) (by omega)
    have k3 : x.toBitVec.toNat ^^^ y.toBitVec.toNat < 2 ^ ((max a.2 b.2).toNat.log2 + 1) := Nat.xor_lt_two_pow (by show _ < ab_up _; omega) (by show _ < ab_up _; omega)
    have k4 : x.toBitVec.toNat ^^^ y.toBitVec.toNat < ab_up (max a.2 b.2).toNat := k3
    have n3 := ab_nni (x := x ^^^ y) (by omega)
    exact ⟨by dsimp only; omega, by dsimp only; omega⟩
  · exact ab_full _
theorem ab_divV {x y : Int32} (h1 : 0 ≤ x.toInt) (h2 : 0 < y.toInt) : (x / y).toInt = x.toInt / y.toInt := by
  have e : x.toInt.tdiv y.toInt = x.toInt / y.toInt := Int.tdiv_eq_ediv_of_nonneg h1
  have g1 : 0 ≤ x.toInt / y.toInt := Int.ediv_nonneg h1 (by omega)
  have g2 : x.toInt / y.toInt ≤ x.toInt := Int.ediv_le_self _ h1
  have g3 := (ab_full x).2
  dsimp only at g3
  rw [Int32.toInt_div, e]
  exact ab_bm (by omega) (by omega)
def ab_divI (a b : ab_I) : Option ab_I := if 0 ≤ a.1 ∧ 0 < b.1 ∧ b.1 = b.2 then some (a.1 / b.1, a.2 / b.1) else none
theorem ab_div {a b r : ab_I} {x y : Int32} (hx : ab_in a x) (hy : ab_in b y) (hr : ab_divI a b = some r) : ¬ y = 0 ∧ ab_in r (x / y) := by
  unfold ab_divI at hr
  obtain ⟨h1, h2⟩ := hx
  obtain ⟨h3, h4⟩ := hy
  split at hr
  · rename_i h
    obtain ⟨g1, g2, g3⟩ := h
    cases hr
    have e : y.toInt = b.1 := by omega
    refine ⟨fun q => ?_, ?_⟩
    · subst q
      simp at e
      omega
    · have k := ab_divV (x := x) (y := y) (by omega) (by omega)
      exact ⟨by rw [k, e]; exact Int.ediv_le_ediv g2 h1, by rw [k, e]; exact Int.ediv_le_ediv g2 h2⟩
  · cases hr
theorem ab_remV {x y : Int32} (h1 : 0 ≤ x.toInt) (h2 : 0 < y.toInt) : (x - x / y * y).toInt = x.toInt % y.toInt := by
  have k := ab_divV h1 h2
  have g1 : 0 ≤ x.toInt / y.toInt := Int.ediv_nonneg h1 (by omega)
  have g3 := (ab_full x).2
  dsimp only at g3
  have q := Int.mul_ediv_add_emod x.toInt y.toInt
  have q2 := Int.emod_nonneg x.toInt (show y.toInt ≠ 0 by omega)
  have q3 : x.toInt / y.toInt * y.toInt = y.toInt * (x.toInt / y.toInt) := Int.mul_comm _ _
  have q4 : 0 ≤ x.toInt / y.toInt * y.toInt := Int.mul_nonneg g1 (by omega)
  have e1 : (x / y * y).toInt = x.toInt / y.toInt * y.toInt := by
    rw [Int32.toInt_mul, k]
    exact ab_bm (by omega) (by omega)
  rw [Int32.toInt_sub, e1]
  rw [ab_bm (by omega) (by omega)]
  omega
def ab_remI (a b : ab_I) : Option ab_I := if 0 ≤ a.1 ∧ 0 < b.1 ∧ b.1 = b.2 then some (if a.2 < b.1 then a else (0, b.1 - 1)) else none
theorem ab_rem {a b r : ab_I} {x y : Int32} (hx : ab_in a x) (hy : ab_in b y) (hr : ab_remI a b = some r) : ¬ y = 0 ∧ ab_in r (x - x / y * y) := by
  unfold ab_remI at hr
  obtain ⟨h1, h2⟩ := hx
  obtain ⟨h3, h4⟩ := hy
  split at hr
  · rename_i h
    obtain ⟨g1, g2, g3⟩ := h
    have e : y.toInt = b.1 := by omega
    have k := ab_remV (x := x) (y := y) (by omega) (by omega)
    rw [e] at k
    refine ⟨fun q => ?_, ?_⟩
    · subst q
      simp at e
      omega
    · cases hr
      unfold ab_in
      rw [k]
      split
      · rw [Int.emod_eq_of_lt (by omega) (by omega)]
        exact ⟨h1, h2⟩
      · have m1 := Int.emod_nonneg x.toInt (show b.1 ≠ 0 by omega)
        have m2 := Int.emod_lt_of_pos x.toInt g2
        exact ⟨m1, by dsimp only; omega⟩
  · cases hr
theorem ab_const {n : Int} (h1 : -2147483648 ≤ n) (h2 : n ≤ 2147483647) : ab_in (n, n) (Int32.ofInt n) := by
  have e : (Int32.ofInt n).toInt = n := by rw [Int32.toInt_ofInt]; exact ab_bm h1 h2
  exact ⟨by rw [e]; exact Int.le_refl _, by rw [e]; exact Int.le_refl _⟩
theorem ab_push8 {n : Int} (h1 : -128 ≤ n) (h2 : n ≤ 127) : (Int8.ofInt n).toInt32 = Int32.ofInt n := by
  apply Int32.toInt_inj.mp
  rw [Int8.toInt_toInt32, Int8.toInt_ofInt, Int32.toInt_ofInt, ab_bm (by omega) (by omega)]
  have e : ((2 ^ 8 : Nat) : Int) = 256 := by decide
  unfold Int.bmod
  simp only [e]
  split <;> omega
theorem ab_push16 {n : Int} (h1 : -32768 ≤ n) (h2 : n ≤ 32767) : (Int16.ofInt n).toInt32 = Int32.ofInt n := by
  apply Int32.toInt_inj.mp
  rw [Int16.toInt_toInt32, Int16.toInt_ofInt, Int32.toInt_ofInt, ab_bm (by omega) (by omega)]
  have e : ((2 ^ 16 : Nat) : Int) = 65536 := by decide
  unfold Int.bmod
  simp only [e]
  split <;> omega
def ab_ne (a b : ab_I) : ab_I := if b.1 = b.2 then (if a.1 = b.1 then (a.1 + 1, a.2) else if a.2 = b.1 then (a.1, a.2 - 1) else a) else a
def ab_rf (c : ClassFile.Cond) (a b : ab_I) : ab_I × ab_I := match c with
  | .lt => ((a.1, min a.2 (b.2 - 1)), (max b.1 (a.1 + 1), b.2))
  | .ge => ((max a.1 b.1, a.2), (b.1, min b.2 a.2))
  | .gt => ((max a.1 (b.1 + 1), a.2), (b.1, min b.2 (a.2 - 1)))
  | .le => ((a.1, min a.2 b.2), (max b.1 a.1, b.2))
  | .eq => ((max a.1 b.1, min a.2 b.2), (max a.1 b.1, min a.2 b.2))
  | .ne => (ab_ne a b, ab_ne b a)
def ab_ng (c : ClassFile.Cond) : ClassFile.Cond := match c with
  | .lt => .ge
  | .ge => .lt
  | .gt => .le
  | .le => .gt
  | .eq => .ne
  | .ne => .eq
def ab_cc (c : ClassFile.Cond) (x y : Int) : Prop := match c with
  | .lt => x < y
  | .ge => y ≤ x
  | .gt => y < x
  | .le => x ≤ y
  | .eq => x = y
  | .ne => ¬ x = y
theorem ab_cc_ng {c : ClassFile.Cond} {x y : Int} (h : ¬ ab_cc c x y) : ab_cc (ab_ng c) x y := by
  cases c <;> simp only [ab_cc, ab_ng] at h ⊢ <;> omega
theorem ab_ne_ok {a b : ab_I} {x y : Int} (h1 : a.1 ≤ x ∧ x ≤ a.2) (h2 : b.1 ≤ y ∧ y ≤ b.2) (h : ¬ x = y) : (ab_ne a b).1 ≤ x ∧ x ≤ (ab_ne a b).2 := by
  unfold ab_ne
  split
  · split
    · dsimp only; omega
    · split
      · dsimp only; omega
      · exact h1
  · exact h1
theorem ab_rf_ok {c : ClassFile.Cond} {a b : ab_I} {x y : Int} (h1 : a.1 ≤ x ∧ x ≤ a.2) (h2 : b.1 ≤ y ∧ y ≤ b.2) (h : ab_cc c x y) : ((ab_rf c a b).1.1 ≤ x ∧ x ≤ (ab_rf c a b).1.2) ∧ ((ab_rf c a b).2.1 ≤ y ∧ y ≤ (ab_rf c a b).2.2) := by
  cases c <;> simp only [ab_cc, ab_rf] at h ⊢
  case ne => exact ⟨ab_ne_ok h1 h2 h, ab_ne_ok h2 h1 (fun q => h q.symm)⟩
  all_goals omega
end
section
abbrev ab_V : Type := Nat × Nat
abbrev ab_C : Type := (Nat × List ab_V) ⊕ ((Nat × Int × Int × Int × Int) ⊕ (Nat × List ab_V))
def ab_b5 (lo hi lo0 hi0 : Int) (i : Nat) : ab_I := if i % 5 = 0 then (lo0, hi0) else (lo, hi)
abbrev ab_H : Type := List (Nat × ab_C)
def ab_cv (sa : Nat → Nat) (vs : List Int32) (hs : List Nat) (a : ab_V) : Option Value :=
  match a.1 with
  | 0 => (vs[a.2]?).map Value.int
  | 1 => (hs[a.2]?).map Value.ref
  | 2 => some .null
  | 3 => some (.ref (sa a.2))
  | _ => none
theorem ab_app {α : Type} {l : List α} {k : Nat} {x : α} (r : List α) (h : l[k]? = some x) : (l ++ r)[k]? = some x := by
  rw [List.getElem?_append_left (List.getElem?_eq_some_iff.mp h).1]
  exact h
theorem ab_end {α : Type} (l : List α) (x : α) : (l ++ [x])[l.length]? = some x := by
  rw [List.getElem?_append_right (Nat.le_refl _), Nat.sub_self]
  rfl
theorem ab_cv0 {sa : Nat → Nat} {vs : List Int32} {hs : List Nat} {k : Nat} {w : Value} (h : ab_cv sa vs hs (0, k) = some w) : ∃ x, vs[k]? = some x ∧ w = .int x := by
  have h : (vs[k]?).map Value.int = some w := h
  cases hv : vs[k]? with
  | none => rw [hv] at h; cases h
  | some x => rw [hv] at h; cases h; exact ⟨x, rfl, rfl⟩
theorem ab_cv1 {sa : Nat → Nat} {vs : List Int32} {hs : List Nat} {k : Nat} {w : Value} (h : ab_cv sa vs hs (1, k) = some w) : ∃ x, hs[k]? = some x ∧ w = .ref x := by
  have h : (hs[k]?).map Value.ref = some w := h
  cases hv : hs[k]? with
  | none => rw [hv] at h; cases h
  | some x => rw [hv] at h; cases h; exact ⟨x, rfl, rfl⟩
theorem ab_cv0' {sa : Nat → Nat} {vs : List Int32} {hs : List Nat} {k : Nat} {x : Int32} (h : vs[k]? = some x) : ab_cv sa vs hs (0, k) = some (.int x) := by
  show (vs[k]?).map Value.int = _
  rw [h]
  rfl
theorem ab_cv1' {sa : Nat → Nat} {vs : List Int32} {hs : List Nat} {k : Nat} {x : Nat} (h : hs[k]? = some x) : ab_cv sa vs hs (1, k) = some (.ref x) := by
  show (hs[k]?).map Value.ref = _
  rw [h]
  rfl
theorem ab_tag {sa : Nat → Nat} {vs : List Int32} {hs : List Nat} {a : ab_V} {w : Value} (h : ab_cv sa vs hs a = some w) : a.1 = 0 ∨ a.1 = 1 ∨ a.1 = 2 ∨ a.1 = 3 := by
  obtain ⟨t, k⟩ := a
  rcases t with _ | _ | _ | _ | t
  · exact Or.inl rfl
  · exact Or.inr (Or.inl rfl)
  · exact Or.inr (Or.inr (Or.inl rfl))
  · exact Or.inr (Or.inr (Or.inr rfl))
  · cases h
theorem ab_mono {sa : Nat → Nat} {vs : List Int32} {hs : List Nat} (v2 : List Int32) (h2 : List Nat) {a : ab_V} {w : Value} (h : ab_cv sa vs hs a = some w) : ab_cv sa (vs ++ v2) (hs ++ h2) a = some w := by
  obtain ⟨t, k⟩ := a
  rcases ab_tag h with e | e | e | e <;> dsimp only at e <;> subst e
  · obtain ⟨x, h1, rfl⟩ := ab_cv0 h
    exact ab_cv0' (ab_app v2 h1)
  · obtain ⟨x, h1, rfl⟩ := ab_cv1 h
    exact ab_cv1' (ab_app h2 h1)
  · exact h
  · exact h
theorem ab_cat {sa : Nat → Nat} {vs : List Int32} {hs : List Nat} {a : ab_V} {w : Value} (h : ab_cv sa vs hs a = some w) : w.category = 1 := by
  obtain ⟨t, k⟩ := a
  rcases ab_tag h with e | e | e | e <;> dsimp only at e <;> subst e
  · obtain ⟨x, h1, rfl⟩ := ab_cv0 h
    rfl
  · obtain ⟨x, h1, rfl⟩ := ab_cv1 h
    rfl
  · cases h
    rfl
  · cases h
    rfl
theorem ab_monoL {sa : Nat → Nat} {vs : List Int32} {hs : List Nat} (v2 : List Int32) (h2 : List Nat) {as : List ab_V} {ws : List Value} (h : as.map (ab_cv sa vs hs) = ws.map some) : as.map (ab_cv sa (vs ++ v2) (hs ++ h2)) = ws.map some := by
  induction as generalizing ws with
  | nil => exact h
  | cons a r ih =>
    cases ws with
    | nil => cases h
    | cons w ws =>
      simp only [List.map_cons, List.cons.injEq] at h ⊢
      exact ⟨ab_mono v2 h2 h.1, ih h.2⟩
theorem ab_cat_sum {sa : Nat → Nat} {vs : List Int32} {hs : List Nat} {as : List ab_V} {ws : List Value} (h : as.map (ab_cv sa vs hs) = ws.map some) : (ws.map fun v => v.category).sum = as.length := by
  induction as generalizing ws with
  | nil =>
    cases ws with
    | nil => rfl
    | cons w ws => cases h
  | cons a r ih =>
    cases ws with
    | nil => cases h
    | cons w ws =>
      simp only [List.map_cons, List.cons.injEq] at h
      have h1 := ab_cat h.1
      have h2 := ih h.2
      simp only [List.map_cons, List.sum_cons, List.length_cons]
      omega
theorem ab_at {sa : Nat → Nat} {vs : List Int32} {hs : List Nat} {as : List ab_V} {ws : List Value} (h : as.map (ab_cv sa vs hs) = ws.map some) {k : Nat} {a : ab_V} (hk : as[k]? = some a) : ∃ w, ws[k]? = some w ∧ ab_cv sa vs hs a = some w := by
  have h1 : (as.map (ab_cv sa vs hs))[k]? = some (ab_cv sa vs hs a) := by rw [List.getElem?_map, hk]; rfl
  rw [h, List.getElem?_map] at h1
  cases hw : ws[k]? with
  | none => rw [hw] at h1; cases h1
  | some w => rw [hw] at h1; exact ⟨w, rfl, (Option.some.inj h1).symm⟩
theorem ab_setL {sa : Nat → Nat} {vs : List Int32} {hs : List Nat} {as : List ab_V} {ws : List Value} (h : as.map (ab_cv sa vs hs) = ws.map some) {a : ab_V} {w : Value} (k : Nat) (ha : ab_cv sa vs hs a = some w) : (as.set k a).map (ab_cv sa vs hs) = (ws.set k w).map some := by
  rw [List.map_set, List.map_set, h, ha]
theorem ab_lenL {sa : Nat → Nat} {vs : List Int32} {hs : List Nat} {as : List ab_V} {ws : List Value} (h : as.map (ab_cv sa vs hs) = ws.map some) : as.length = ws.length := by
  have := congrArg List.length h
  simpa using this
def ab_e (E : List ab_I) (vs : List Int32) : Prop := vs.length = E.length ∧ ∀ (k : Nat) (i : ab_I) (x : Int32), E[k]? = some i → vs[k]? = some x → ab_in i x
theorem ab_e_app {E F : List ab_I} {vs ws : List Int32} (h : ab_e E vs) (h2 : ab_e F ws) : ab_e (E ++ F) (vs ++ ws) := by
  refine ⟨by simp [h.1, h2.1], fun k i x h3 h4 => ?_⟩
  by_cases hk : k < E.length
  · rw [List.getElem?_append_left hk] at h3
    rw [List.getElem?_append_left (by rw [h.1]; exact hk)] at h4
    exact h.2 k i x h3 h4
  · rw [List.getElem?_append_right (by omega)] at h3
    rw [List.getElem?_append_right (by rw [h.1]; omega), h.1] at h4
    exact h2.2 _ i x h3 h4
theorem ab_e_one {i : ab_I} {x : Int32} (h : ab_in i x) : ab_e [i] [x] := by
  refine ⟨rfl, fun k j y h1 h2 => ?_⟩
  cases k with
  | zero => cases h1; cases h2; exact h
  | succ k => cases h1
theorem ab_e_set {E : List ab_I} {vs : List Int32} (h : ab_e E vs) (k : Nat) {i : ab_I} (hi : ∀ x, vs[k]? = some x → ab_in i x) : ab_e (E.set k i) vs := by
  refine ⟨by rw [h.1, List.length_set], fun j i' x h3 h4 => ?_⟩
  by_cases hj : k = j
  · subst hj
    have hl : k < E.length := by rw [← h.1]; exact (List.getElem?_eq_some_iff.mp h4).1
    rw [List.getElem?_set_self hl] at h3
    cases h3
    exact hi x h4
  · rw [List.getElem?_set_ne hj] at h3
    exact h.2 j i' x h3 h4
theorem ab_e_at {E : List ab_I} {vs : List Int32} (h : ab_e E vs) {k : Nat} {i : ab_I} (hk : E[k]? = some i) : ∃ x, vs[k]? = some x ∧ ab_in i x := by
  have hl : k < vs.length := by rw [h.1]; exact (List.getElem?_eq_some_iff.mp hk).1
  exact ⟨vs[k], List.getElem?_eq_getElem hl, h.2 k i _ hk (List.getElem?_eq_getElem hl)⟩
theorem ab_e_has {E : List ab_I} {vs : List Int32} (h : ab_e E vs) {k : Nat} {x : Int32} (hk : vs[k]? = some x) : ∃ i, E[k]? = some i ∧ ab_in i x := by
  have hl : k < E.length := by rw [← h.1]; exact (List.getElem?_eq_some_iff.mp hk).1
  exact ⟨E[k], List.getElem?_eq_getElem hl, h.2 k _ x (List.getElem?_eq_getElem hl) hk⟩
def ab_ce (sa : Nat → Nat) (dT : Nat → ClassId) (vs : List Int32) (hs : List Nat) (x : ab_C) (e : va_E) : Prop := match x with
  | .inl (ci, fs) => ∃ ws : List Value, e = .inr (ci, ws) ∧ fs.map (ab_cv sa vs hs) = ws.map some
  | .inr (.inl (n, lo, hi, lo0, hi0)) => ∃ f : Nat → Int32, e = .inl (dT 0, n, .inl f) ∧ ∀ i, i < n → ab_in (ab_b5 lo hi lo0 hi0 i) (f i)
  | .inr (.inr (t, js)) => ∃ f : Nat → Option Nat, e = .inl (dT (t + 1), js.length, .inr (.inr (.inr (.inr f)))) ∧ ∀ (i : Nat) (a : ab_V), js[i]? = some a → ab_cv sa vs hs a = some (va_rf (f i))
theorem ab_ce_mono {sa : Nat → Nat} {dT : Nat → ClassId} {vs : List Int32} {hs : List Nat} (v2 : List Int32) (h2 : List Nat) {x : ab_C} {e : va_E} (h : ab_ce sa dT vs hs x e) : ab_ce sa dT (vs ++ v2) (hs ++ h2) x e := by
  rcases x with ⟨ci, fs⟩ | ⟨n, lo, hi, lo0, hi0⟩ | ⟨t, js⟩
  · obtain ⟨ws, h1, h3⟩ := h
    exact ⟨ws, h1, ab_monoL v2 h2 h3⟩
  · exact h
  · obtain ⟨f, h1, h3⟩ := h
    exact ⟨f, h1, fun i a hi => ab_mono v2 h2 (h3 i a hi)⟩
def ab_w (sa : Nat → Nat) (dT : Nat → ClassId) (vs : List Int32) (hs : List Nat) (hp : ab_H) (ws : va_W) : Prop := ws.length = hp.length ∧ ∀ (j a : Nat) (x : ab_C), hp[j]? = some (a, x) → ∃ (q : Nat) (e : va_E), hs[a]? = some q ∧ ws[j]? = some (q, e) ∧ ab_ce sa dT vs hs x e
theorem ab_w_mono {sa : Nat → Nat} {dT : Nat → ClassId} {vs : List Int32} {hs : List Nat} (v2 : List Int32) (h2 : List Nat) {hp : ab_H} {ws : va_W} (h : ab_w sa dT vs hs hp ws) : ab_w sa dT (vs ++ v2) (hs ++ h2) hp ws := by
  refine ⟨h.1, fun j a x hj => ?_⟩
  obtain ⟨q, e, h1, h3, h4⟩ := h.2 j a x hj
  exact ⟨q, e, ab_app h2 h1, h3, ab_ce_mono v2 h2 h4⟩
theorem ab_w_set {sa : Nat → Nat} {dT : Nat → ClassId} {vs : List Int32} {hs : List Nat} {hp : ab_H} {ws : va_W} (h : ab_w sa dT vs hs hp ws) {j a q : Nat} {x y : ab_C} {e0 e : va_E} (hj : hp[j]? = some (a, x)) (hw : ws[j]? = some (q, e0)) (hq : hs[a]? = some q) (hc : ab_ce sa dT vs hs y e) : ab_w sa dT vs hs (hp.set j (a, y)) (ws.set j (q, e)) := by
  refine ⟨by rw [List.length_set, List.length_set]; exact h.1, fun i b z hi => ?_⟩
  by_cases hij : j = i
  · subst hij
    rw [List.getElem?_set_self (List.getElem?_eq_some_iff.mp hj).1] at hi
    cases hi
    exact ⟨q, e, hq, List.getElem?_set_self (List.getElem?_eq_some_iff.mp hw).1, hc⟩
  · rw [List.getElem?_set_ne hij] at hi
    rw [List.getElem?_set_ne hij]
    exact h.2 i b z hi
theorem ab_w_app {sa : Nat → Nat} {dT : Nat → ClassId} {vs : List Int32} {hs : List Nat} {hp h2 : ab_H} {ws w2 : va_W} (h : ab_w sa dT vs hs hp ws) (g : ab_w sa dT vs hs h2 w2) : ab_w sa dT vs hs (hp ++ h2) (ws ++ w2) := by
  refine ⟨by rw [List.length_append, List.length_append, h.1, g.1], fun i b z hi => ?_⟩
  by_cases hk : i < hp.length
  · rw [List.getElem?_append_left hk] at hi
    obtain ⟨q, e, h1, h3, h4⟩ := h.2 i b z hi
    exact ⟨q, e, h1, ab_app _ h3, h4⟩
  · rw [List.getElem?_append_right (by omega)] at hi
    obtain ⟨q, e, h1, h3, h4⟩ := g.2 _ b z hi
    refine ⟨q, e, h1, ?_, h4⟩
    rw [List.getElem?_append_right (by rw [h.1]; omega), h.1]
    exact h3
def ab_fi : ab_H → Nat → Nat → Option (Nat × ab_C)
  | [], _, _ => none
  | (b, x) :: r, a, j => if b = a then some (j, x) else ab_fi r a (j + 1)
theorem ab_fi_ok : ∀ (hp : ab_H) (a j i : Nat) (x : ab_C), ab_fi hp a j = some (i, x) → ∃ d, i = j + d ∧ hp[d]? = some (a, x)
  | [], _, _, _, _, h => by cases h
  | (b, y) :: r, a, j, i, x, h => by
    unfold ab_fi at h
    split at h
    · rename_i hb
      cases h
      exact ⟨0, rfl, by rw [hb]; rfl⟩
    · obtain ⟨d, h1, h2⟩ := ab_fi_ok r a (j + 1) i x h
      exact ⟨d + 1, by omega, h2⟩
theorem ab_fi0 {hp : ab_H} {a i : Nat} {x : ab_C} (h : ab_fi hp a 0 = some (i, x)) : hp[i]? = some (a, x) := by
  obtain ⟨d, h1, h2⟩ := ab_fi_ok hp a 0 i x h
  rw [Nat.zero_add] at h1
  rw [h1]
  exact h2
theorem ab_w_at {sa : Nat → Nat} {dT : Nat → ClassId} {vs : List Int32} {hs : List Nat} {hp : ab_H} {ws : va_W} (h : ab_w sa dT vs hs hp ws) {a i q : Nat} {x : ab_C} (hf : ab_fi hp a 0 = some (i, x)) (hq : hs[a]? = some q) : ∃ e, ws[i]? = some (q, e) ∧ ab_ce sa dT vs hs x e := by
  obtain ⟨q2, e, h1, h2, h3⟩ := h.2 i a x (ab_fi0 hf)
  rw [hq] at h1
  cases h1
  exact ⟨e, h2, h3⟩
def ab_lk : List (Nat × ab_V) → Nat → Option ab_V
  | [], _ => none
  | (j, a) :: r, i => if j = i then some a else ab_lk r i
theorem ab_lk_ok : ∀ (l : List (Nat × ab_V)) (i : Nat) (a : ab_V), ab_lk l i = some a → (i, a) ∈ l
  | [], _, _, h => by cases h
  | (j, b) :: r, i, a, h => by
    unfold ab_lk at h
    split at h
    · rename_i hb
      cases h
      rw [hb]
      exact List.mem_cons_self
    · exact List.mem_cons_of_mem _ (ab_lk_ok r i a h)
def ab_l (sa : Nat → Nat) (vs : List Int32) (hs : List Nat) (nL : Nat) (loc : List (Nat × ab_V)) (ls : Array Slot) : Prop := lv_has ls nL (loc.map fun q => (q.1, (ab_cv sa vs hs q.2).getD .null)) ∧ ∀ q ∈ loc, ∃ v, ab_cv sa vs hs q.2 = some v
theorem ab_l_get {sa : Nat → Nat} {vs : List Int32} {hs : List Nat} {nL : Nat} {loc : List (Nat × ab_V)} {ls : Array Slot} (h : ab_l sa vs hs nL loc ls) {i : Nat} {a : ab_V} (hk : ab_lk loc i = some a) : ∃ v, ab_cv sa vs hs a = some v ∧ ls[i]? = some (.val v) := by
  have hm := ab_lk_ok loc i a hk
  obtain ⟨v, hv⟩ := h.2 _ hm
  refine ⟨v, hv, ?_⟩
  have := h.1.2.2 (i, (ab_cv sa vs hs a).getD .null) (List.mem_map.mpr ⟨(i, a), hm, rfl⟩)
  rw [hv] at this
  exact this
theorem ab_l_mono {sa : Nat → Nat} {vs : List Int32} {hs : List Nat} (v2 : List Int32) (h2 : List Nat) {nL : Nat} {loc : List (Nat × ab_V)} {ls : Array Slot} (h : ab_l sa vs hs nL loc ls) : ab_l sa (vs ++ v2) (hs ++ h2) nL loc ls := by
  refine ⟨⟨h.1.1, h.1.2.1, fun q hq => ?_⟩, fun q hq => ?_⟩
  · obtain ⟨r, hr, rfl⟩ := List.mem_map.mp hq
    obtain ⟨v, hv⟩ := h.2 r hr
    have := h.1.2.2 (r.1, (ab_cv sa vs hs r.2).getD .null) (List.mem_map.mpr ⟨r, hr, rfl⟩)
    rw [hv] at this
    rw [ab_mono v2 h2 hv]
    exact this
  · obtain ⟨v, hv⟩ := h.2 q hq
    exact ⟨v, ab_mono v2 h2 hv⟩
def ab_ls (loc : List (Nat × ab_V)) (i : Nat) (a : ab_V) : List (Nat × ab_V) := (i, a) :: loc.filter (fun q => !(q.1 == i))
theorem ab_l_set {sa : Nat → Nat} {vs : List Int32} {hs : List Nat} {nL : Nat} {loc : List (Nat × ab_V)} {ls ls' : Array Slot} (h : ab_l sa vs hs nL loc ls) {i : Nat} {a : ab_V} {v : Value} (hv : ab_cv sa vs hs a = some v)
    (h' : lv_has ls' nL ((i, v) :: (loc.map fun q => (q.1, (ab_cv sa vs hs q.2).getD .null)).filter (fun q => !(q.1 == i) && !(q.1 + 1 == i && q.2.category == 2)))) : ab_l sa vs hs nL (ab_ls loc i a) ls' := by
  refine ⟨⟨h'.1, h'.2.1, fun q hq => ?_⟩, fun q hq => ?_⟩
  · obtain ⟨r, hr, rfl⟩ := List.mem_map.mp hq
    rcases List.mem_cons.mp hr with rfl | hr
    · have := h'.2.2 (i, v) List.mem_cons_self
      rw [hv]
      exact this
    · obtain ⟨h1, h2⟩ := List.mem_filter.mp hr
      obtain ⟨w, hw⟩ := h.2 r h1
      apply h'.2.2
      refine List.mem_cons_of_mem _ (List.mem_filter.mpr ⟨List.mem_map.mpr ⟨r, h1, rfl⟩, ?_⟩)
      have hc := ab_cat hw
      rw [hw]
      simp only [Option.getD_some, hc]
      simpa using h2
  · rcases List.mem_cons.mp hq with rfl | hr
    · exact ⟨v, hv⟩
    · exact h.2 q (List.mem_filter.mp hr).1
end
section
def ab_tys (dT : Nat → ClassId) (rn : List String) : List (ClassId × FieldType) := (dT 0, .int) :: (List.range rn.length).map (fun t => (dT (t + 1), .object (rn.getD t "")))
theorem ab_tys_at {dT : Nat → ClassId} {rn : List String} {t : Nat} {C : String} (h : rn[t]? = some C) : (ab_tys dT rn)[t + 1]? = some (dT (t + 1), .object C) := by
  show ((List.range rn.length).map (fun t => (dT (t + 1), FieldType.object (rn.getD t ""))))[t]? = _
  rw [List.getElem?_map, List.getElem?_range (List.getElem?_eq_some_iff.mp h).1]
  simp [List.getD_eq_getElem?_getD, h]
def ab_is (D : va_G) (cl : List vw_C) (A : Nat → Prop) (H0 : Heap) (sa : Nat → Nat) (dT : Nat → ClassId) (nL : Nat) (vs : List Int32) (hs : List Nat) (E : List ab_I) (nh : Nat) (hp : ab_H) (loc : List (Nat × ab_V)) (st : List ab_V) (ls : Array Slot) (sv : List Value) (H : Heap) (locs : List Loc) : Prop :=
  ab_e E vs ∧ hs.length = nh ∧ ab_l sa vs hs nL loc ls ∧ st.map (ab_cv sa vs hs) = sv.map some ∧ ∃ ws : va_W, ab_w sa dT vs hs hp ws ∧ va_P D cl ws H ∧ va_D A ws ∧ va_S A H0 H locs
def ab_X (p : Program) (s : State) (m : MethodId) (args : Array Value) (c : Code) (cc : ByteArray) (own : String) (nL : Nat) (D : va_G) (cl : List vw_C) (tys : List (ClassId × FieldType)) (A : Nat → Prop) (Ts : List Cond) : Prop :=
  p.tables.exec = Jvm.exec ∧ c.code = cc ∧ c.maxLocals = nL ∧ s.vm.findClass own = some m.cls ∧ (∀ w ∈ Ts, w.before args s = true) ∧ va_K D cl tys s ∧ (∀ q, s.heap.size ≤ q → A q)
def ab_G (p : Program) (l : Launch) (e : Env) (R : Room) (s : State) (m : MethodId) (args : Array Value) (below : List Frame) (meth : Method) (c : Code) (Q : State → Prop) (D : va_G) (cl : List vw_C) (A : Nat → Prop) (sa : Nat → Nat) (dT : Nat → ClassId) (nL : Nat) (vs0 : List Int32) (hs0 : List Nat) (pc : Nat) (E : List ab_I) (nh : Nat) (hp : ab_H) (loc : List (Nat × ab_V)) (st : List ab_V) (nc ns : Nat) : Prop :=
  ∀ (vs : List Int32) (hs : List Nat) (ls : Array Slot) (sv : List Value) (H : Heap) (locs : List Loc), (∃ v, vs = vs0 ++ v) → (∃ h, hs = hs0 ++ h) → ab_is D cl A s.heap sa dT nL vs hs E nh hp loc st ls sv H locs → W p l e R s m args below meth c H locs nc ns Q (F0 m pc ls sv)
theorem ab_x1 {α : Type} {vs vs0 : List α} (x : List α) (h : ∃ v, vs = vs0 ++ v) : ∃ v, vs ++ x = vs0 ++ v := by
  obtain ⟨v, rfl⟩ := h
  exact ⟨v ++ x, by rw [List.append_assoc]⟩
section
variable {p : Program} {l : Launch} {e : Env} {R : Room} {s : State} {m : MethodId} {args : Array Value} {below : List Frame} {meth : Method} {c : Code} {Q : State → Prop} {cc : ByteArray} {own : String} {nL : Nat} {D : va_G} {cl : List vw_C} {rn : List String} {A : Nat → Prop} {Ts : List Cond} {sa : Nat → Nat} {dT : Nat → ClassId} {vs0 : List Int32} {hs0 : List Nat} {pc : Nat} {E : List ab_I} {nh nc ns : Nat} {hp : ab_H} {loc : List (Nat × ab_V)} {st : List ab_V}
variable {H0 : Heap} {vs : List Int32} {hs : List Nat} {ls : Array Slot} {sv : List Value} {H : Heap} {locs : List Loc}
theorem ab_pop {a : ab_V} (h : ab_is D cl A H0 sa dT nL vs hs E nh hp loc (a :: st) ls sv H locs) : ∃ (v : Value) (sv' : List Value), sv = v :: sv' ∧ ab_cv sa vs hs a = some v ∧ ab_is D cl A H0 sa dT nL vs hs E nh hp loc st ls sv' H locs := by
  obtain ⟨h1, h2, h3, h4, h5⟩ := h
  cases sv with
  | nil => cases h4
  | cons v sv' =>
    simp only [List.map_cons, List.cons.injEq] at h4
    exact ⟨v, sv', rfl, h4.1, h1, h2, h3, h4.2, h5⟩
theorem ab_pv {a : ab_V} {v : Value} (h : ab_is D cl A H0 sa dT nL vs hs E nh hp loc st ls sv H locs) (hv : ab_cv sa vs hs a = some v) : ab_is D cl A H0 sa dT nL vs hs E nh hp loc (a :: st) ls (v :: sv) H locs := by
  obtain ⟨h1, h2, h3, h4, h5⟩ := h
  exact ⟨h1, h2, h3, by rw [List.map_cons, List.map_cons, h4, hv], h5⟩
theorem ab_grow {i : ab_I} {x : Int32} (h : ab_is D cl A H0 sa dT nL vs hs E nh hp loc st ls sv H locs) (hi : ab_in i x) : ab_is D cl A H0 sa dT nL (vs ++ [x]) hs (E ++ [i]) nh hp loc st ls sv H locs := by
  obtain ⟨h1, h2, h3, h4, ws, h5, h6⟩ := h
  have g3 := ab_l_mono [x] [] h3
  have g4 := ab_monoL [x] [] h4
  have g5 := ab_w_mono [x] [] h5
  rw [List.append_nil] at g3 g4 g5
  exact ⟨ab_e_app h1 (ab_e_one hi), h2, g3, g4, ws, g5, h6⟩
theorem ab_push {i : ab_I} {x : Int32} (h : ab_is D cl A H0 sa dT nL vs hs E nh hp loc st ls sv H locs) (hi : ab_in i x) : ab_is D cl A H0 sa dT nL (vs ++ [x]) hs (E ++ [i]) nh hp loc ((0, E.length) :: st) ls (.int x :: sv) H locs :=
  ab_pv (ab_grow h hi) (ab_cv0' (by rw [← h.1.1]; exact ab_end vs x))
theorem ab_env {E' : List ab_I} (h : ab_is D cl A H0 sa dT nL vs hs E nh hp loc st ls sv H locs) (he : ab_e E' vs) : ab_is D cl A H0 sa dT nL vs hs E' nh hp loc st ls sv H locs := ⟨he, h.2⟩
end
def ab_ic (cn : ClassFile.Cond) (x y : Int32) : Prop := match cn with
  | .eq => x = y
  | .ne => ¬ x = y
  | .lt => x < y
  | .ge => y ≤ x
  | .gt => y < x
  | .le => x ≤ y
theorem ab_ic_iff {cn : ClassFile.Cond} {x y : Int32} : ab_ic cn x y ↔ ab_cc cn x.toInt y.toInt := by
  cases cn <;> simp only [ab_ic, ab_cc, Int32.lt_iff_toInt_lt, Int32.le_iff_toInt_le, Int32.toInt_inj]
def ab_br (cn : ClassFile.Cond) (E : List ab_I) (kx ky : Nat) (ix iy : ab_I) : List (List ab_I) :=
  if (ab_rf cn ix iy).1.1 ≤ (ab_rf cn ix iy).1.2 ∧ (ab_rf cn ix iy).2.1 ≤ (ab_rf cn ix iy).2.2 then [(E.set kx (ab_rf cn ix iy).1).set ky (ab_rf cn ix iy).2] else []
def ab_br1 (cn : ClassFile.Cond) (E : List ab_I) (kx : Nat) (ix : ab_I) : List (List ab_I) :=
  if (ab_rf cn ix (0, 0)).1.1 ≤ (ab_rf cn ix (0, 0)).1.2 ∧ (ab_rf cn ix (0, 0)).2.1 ≤ (ab_rf cn ix (0, 0)).2.2 then [E.set kx (ab_rf cn ix (0, 0)).1] else []
theorem ab_br_ok {cn : ClassFile.Cond} {E : List ab_I} {kx ky : Nat} {ix iy : ab_I} {vs : List Int32} {x y : Int32} (he : ab_e E vs) (h1 : E[kx]? = some ix) (h2 : E[ky]? = some iy) (h3 : vs[kx]? = some x) (h4 : vs[ky]? = some y) (h : ab_ic cn x y) : ∃ E' ∈ ab_br cn E kx ky ix iy, ab_e E' vs := by
  obtain ⟨g1, g2⟩ := ab_rf_ok (he.2 kx ix x h1 h3) (he.2 ky iy y h2 h4) (ab_ic_iff.mp h)
  unfold ab_br
  rw [if_pos ⟨by omega, by omega⟩]
  refine ⟨_, List.mem_singleton.mpr rfl, ab_e_set (ab_e_set he kx (fun z hz => ?_)) ky (fun z hz => ?_)⟩
  · rw [h3] at hz; cases hz; exact g1
  · rw [h4] at hz; cases hz; exact g2
theorem ab_br1_ok {cn : ClassFile.Cond} {E : List ab_I} {kx : Nat} {ix : ab_I} {vs : List Int32} {x : Int32} (he : ab_e E vs) (h1 : E[kx]? = some ix) (h3 : vs[kx]? = some x) (h : ab_ic cn x 0) : ∃ E' ∈ ab_br1 cn E kx ix, ab_e E' vs := by
  have h := ab_ic_iff.mp h
  rw [Int32.toInt_zero] at h
  obtain ⟨g1, g2⟩ := ab_rf_ok (b := (0, 0)) (he.2 kx ix x h1 h3) ⟨Int.le_refl _, Int.le_refl _⟩ h
  unfold ab_br1
  rw [if_pos ⟨by omega, by omega⟩]
  refine ⟨_, List.mem_singleton.mpr rfl, ab_e_set he kx (fun z hz => ?_)⟩
  rw [h3] at hz; cases hz; exact g1
section
variable {p : Program} {l : Launch} {e : Env} {R : Room} {s : State} {m : MethodId} {args : Array Value} {below : List Frame} {meth : Method} {c : Code} {Q : State → Prop} {cc : ByteArray} {own : String} {nL : Nat} {D : va_G} {cl : List vw_C} {rn : List String} {A : Nat → Prop} {Ts : List Cond} {sa : Nat → Nat} {dT : Nat → ClassId} {vs0 : List Int32} {hs0 : List Nat} {pc : Nat} {E : List ab_I} {nh nc ns : Nat} {hp : ab_H} {loc : List (Nat × ab_V)} {st : List ab_V}
theorem ab_cmpR {H : Heap} {locs : List Loc} {ls : Array Slot} {rest : List Value} (hx : p.tables.exec = Jvm.exec) (hb : c.code = cc) {cn : ClassFile.Cond} {x y : Int32} {off : Int} {tgt : Nat} (hd : decode cc pc = .ok (.if_icmp cn off, 3)) (ht : (pc : Int) + off = (tgt : Int))
    (kt : ab_ic cn x y → W p l e R s m args below meth c H locs nc ns Q (F0 m tgt ls rest)) (kf : ¬ ab_ic cn x y → W p l e R s m args below meth c H locs nc ns Q (F0 m (pc + 3) ls rest)) : W p l e R s m args below meth c H locs nc ns Q (F0 m pc ls (.int y :: .int x :: rest)) := by
  cases cn
  · exact lv_icmp_eq hx hb hd ht kt kf
  · exact lv_icmp_ne hx hb hd ht kt (fun h => kf (fun q => q h))
  · exact lv_icmp_lt hx hb hd ht kt kf
  · exact lv_icmp_ge hx hb hd ht kt kf
  · exact lv_icmp_gt hx hb hd ht kt kf
  · exact lv_icmp_le hx hb hd ht kt kf
theorem ab_cmp0 {H : Heap} {locs : List Loc} {ls : Array Slot} {rest : List Value} (hx : p.tables.exec = Jvm.exec) (hb : c.code = cc) {cn : ClassFile.Cond} {x : Int32} {off : Int} {tgt : Nat} (hd : decode cc pc = .ok (.ifCond cn off, 3)) (ht : (pc : Int) + off = (tgt : Int))
    (kt : ab_ic cn x 0 → W p l e R s m args below meth c H locs nc ns Q (F0 m tgt ls rest)) (kf : ¬ ab_ic cn x 0 → W p l e R s m args below meth c H locs nc ns Q (F0 m (pc + 3) ls rest)) : W p l e R s m args below meth c H locs nc ns Q (F0 m pc ls (.int x :: rest)) := by
  cases cn
  · exact lv_if_eq hx hb hd ht kt kf
  · exact lv_if_ne hx hb hd ht kt (fun h => kf (fun q => q h))
  · exact lv_if_lt hx hb hd ht kt kf
  · exact lv_if_ge hx hb hd ht kt kf
  · exact lv_if_gt hx hb hd ht kt kf
  · exact lv_if_le hx hb hd ht kt kf
theorem ab_ic_ng {cn : ClassFile.Cond} {x y : Int32} (h : ¬ ab_ic cn x y) : ab_ic (ab_ng cn) x y := ab_ic_iff.mpr (ab_cc_ng (fun q => h (ab_ic_iff.mpr q)))
theorem ab_icmp (X : ab_X p s m args c cc own nL D cl (ab_tys dT rn) A Ts) {cn : ClassFile.Cond} {off : Int} {tgt kx ky : Nat} {ix iy : ab_I} (hd : decode cc pc = .ok (.if_icmp cn off, 3)) (ht : (pc : Int) + off = (tgt : Int)) (h1 : E[kx]? = some ix) (h2 : E[ky]? = some iy)
    (gt : ∀ E' ∈ ab_br cn E kx ky ix iy, ab_G p l e R s m args below meth c Q D cl A sa dT nL vs0 hs0 tgt E' nh hp loc st nc ns) (gf : ∀ E' ∈ ab_br (ab_ng cn) E kx ky ix iy, ab_G p l e R s m args below meth c Q D cl A sa dT nL vs0 hs0 (pc + 3) E' nh hp loc st nc ns) : ab_G p l e R s m args below meth c Q D cl A sa dT nL vs0 hs0 pc E nh hp loc ((0, ky) :: (0, kx) :: st) nc ns := by
  intro vs hs ls sv H locs hv hh his
  obtain ⟨vy, sv, rfl, hy, his1⟩ := ab_pop his
  obtain ⟨vx, sv, rfl, hx, his2⟩ := ab_pop his1
  obtain ⟨y, hyq, rfl⟩ := ab_cv0 hy
  obtain ⟨x, hxq, rfl⟩ := ab_cv0 hx
  refine ab_cmpR X.1 X.2.1 hd ht (fun h => ?_) (fun h => ?_)
  · obtain ⟨E', h3, h4⟩ := ab_br_ok his2.1 h1 h2 hxq hyq h
    exact gt E' h3 _ _ _ _ _ _ hv hh (ab_env his2 h4)
  · obtain ⟨E', h3, h4⟩ := ab_br_ok his2.1 h1 h2 hxq hyq (ab_ic_ng h)
    exact gf E' h3 _ _ _ _ _ _ hv hh (ab_env his2 h4)
theorem ab_ifc (X : ab_X p s m args c cc own nL D cl (ab_tys dT rn) A Ts) {cn : ClassFile.Cond} {off : Int} {tgt kx : Nat} {ix : ab_I} (hd : decode cc pc = .ok (.ifCond cn off, 3)) (ht : (pc : Int) + off = (tgt : Int)) (h1 : E[kx]? = some ix)
    (gt : ∀ E' ∈ ab_br1 cn E kx ix, ab_G p l e R s m args below meth c Q D cl A sa dT nL vs0 hs0 tgt E' nh hp loc st nc ns) (gf : ∀ E' ∈ ab_br1 (ab_ng cn) E kx ix, ab_G p l e R s m args below meth c Q D cl A sa dT nL vs0 hs0 (pc + 3) E' nh hp loc st nc ns) : ab_G p l e R s m args below meth c Q D cl A sa dT nL vs0 hs0 pc E nh hp loc ((0, kx) :: st) nc ns := by
  intro vs hs ls sv H locs hv hh his
  obtain ⟨vx, sv, rfl, hx, his1⟩ := ab_pop his
  obtain ⟨x, hxq, rfl⟩ := ab_cv0 hx
  refine ab_cmp0 X.1 X.2.1 hd ht (fun h => ?_) (fun h => ?_)
  · obtain ⟨E', h3, h4⟩ := ab_br1_ok his1.1 h1 hxq h
    exact gt E' h3 _ _ _ _ _ _ hv hh (ab_env his1 h4)
  · obtain ⟨E', h3, h4⟩ := ab_br1_ok his1.1 h1 hxq (ab_ic_ng h)
    exact gf E' h3 _ _ _ _ _ _ hv hh (ab_env his1 h4)
theorem ab_goto (X : ab_X p s m args c cc own nL D cl (ab_tys dT rn) A Ts) {off : Int} {tgt : Nat} (hd : decode cc pc = .ok (.goto off, 3)) (ht : (pc : Int) + off = (tgt : Int)) (g : ab_G p l e R s m args below meth c Q D cl A sa dT nL vs0 hs0 tgt E nh hp loc st nc ns) : ab_G p l e R s m args below meth c Q D cl A sa dT nL vs0 hs0 pc E nh hp loc st nc ns :=
  fun _ _ _ _ _ _ hv hh his => lv_goto X.1 X.2.1 hd ht (g _ _ _ _ _ _ hv hh his)
theorem ab_iconst (X : ab_X p s m args c cc own nL D cl (ab_tys dT rn) A Ts) {n : Int} (hd : decode cc pc = .ok (.iconst n, 1)) (hn : -2147483648 ≤ n ∧ n ≤ 2147483647) (g : ab_G p l e R s m args below meth c Q D cl A sa dT nL vs0 hs0 (pc + 1) (E ++ [(n, n)]) nh hp loc ((0, E.length) :: st) nc ns) : ab_G p l e R s m args below meth c Q D cl A sa dT nL vs0 hs0 pc E nh hp loc st nc ns :=
  fun _ _ _ _ _ _ hv hh his => lv_iconst X.1 X.2.1 hd rfl (g _ _ _ _ _ _ (ab_x1 _ hv) hh (ab_push his (ab_const hn.1 hn.2)))
theorem ab_bipush (X : ab_X p s m args c cc own nL D cl (ab_tys dT rn) A Ts) {n : Int} (hd : decode cc pc = .ok (.bipush n, 2)) (hn : -128 ≤ n ∧ n ≤ 127) (g : ab_G p l e R s m args below meth c Q D cl A sa dT nL vs0 hs0 (pc + 2) (E ++ [(n, n)]) nh hp loc ((0, E.length) :: st) nc ns) : ab_G p l e R s m args below meth c Q D cl A sa dT nL vs0 hs0 pc E nh hp loc st nc ns :=
  fun _ _ _ _ _ _ hv hh his => lv_bipush X.1 X.2.1 hd (ab_push8 hn.1 hn.2) (g _ _ _ _ _ _ (ab_x1 _ hv) hh (ab_push his (ab_const (by omega) (by omega))))
theorem ab_sipush (X : ab_X p s m args c cc own nL D cl (ab_tys dT rn) A Ts) {n : Int} (hd : decode cc pc = .ok (.sipush n, 3)) (hn : -32768 ≤ n ∧ n ≤ 32767) (g : ab_G p l e R s m args below meth c Q D cl A sa dT nL vs0 hs0 (pc + 3) (E ++ [(n, n)]) nh hp loc ((0, E.length) :: st) nc ns) : ab_G p l e R s m args below meth c Q D cl A sa dT nL vs0 hs0 pc E nh hp loc st nc ns :=
  fun _ _ _ _ _ _ hv hh his => lv_sipush X.1 X.2.1 hd (ab_push16 hn.1 hn.2) (g _ _ _ _ _ _ (ab_x1 _ hv) hh (ab_push his (ab_const (by omega) (by omega))))
theorem ab_ldc (X : ab_X p s m args c cc own nL D cl (ab_tys dT rn) A Ts) {ix : Nat} {n : Int} (hd : decode cc pc = .ok (.ldc ix, 2)) (hn : -2147483648 ≤ n ∧ n ≤ 2147483647) (hc : (Jvm.Cond.constant own ix (Int32.ofInt n)).before args s = true) (g : ab_G p l e R s m args below meth c Q D cl A sa dT nL vs0 hs0 (pc + 2) (E ++ [(n, n)]) nh hp loc ((0, E.length) :: st) nc ns) : ab_G p l e R s m args below meth c Q D cl A sa dT nL vs0 hs0 pc E nh hp loc st nc ns :=
  fun _ _ _ _ _ _ hv hh his => lv_ldc X.1 X.2.1 X.2.2.2.1 hc hd (g _ _ _ _ _ _ (ab_x1 _ hv) hh (ab_push his (ab_const hn.1 hn.2)))
theorem ab_ldcw (X : ab_X p s m args c cc own nL D cl (ab_tys dT rn) A Ts) {ix : Nat} {n : Int} (hd : decode cc pc = .ok (.ldc_w ix, 3)) (hn : -2147483648 ≤ n ∧ n ≤ 2147483647) (hc : (Jvm.Cond.constant own ix (Int32.ofInt n)).before args s = true) (g : ab_G p l e R s m args below meth c Q D cl A sa dT nL vs0 hs0 (pc + 3) (E ++ [(n, n)]) nh hp loc ((0, E.length) :: st) nc ns) : ab_G p l e R s m args below meth c Q D cl A sa dT nL vs0 hs0 pc E nh hp loc st nc ns :=
  fun _ _ _ _ _ _ hv hh his => lv_ldcw X.1 X.2.1 X.2.2.2.1 hc hd (g _ _ _ _ _ _ (ab_x1 _ hv) hh (ab_push his (ab_const hn.1 hn.2)))
theorem ab_iload_n (X : ab_X p s m args c cc own nL D cl (ab_tys dT rn) A Ts) {i : Fin 4} {k : Nat} (hd : decode cc pc = .ok (.iload_n i, 1)) (hl : ab_lk loc (i : Nat) = some (0, k)) (g : ab_G p l e R s m args below meth c Q D cl A sa dT nL vs0 hs0 (pc + 1) E nh hp loc ((0, k) :: st) nc ns) : ab_G p l e R s m args below meth c Q D cl A sa dT nL vs0 hs0 pc E nh hp loc st nc ns := by
  intro vs hs ls sv H locs hv hh his
  obtain ⟨w, h1, h2⟩ := ab_l_get his.2.2.1 hl
  obtain ⟨x, h3, rfl⟩ := ab_cv0 h1
  exact lv_iload_n X.1 X.2.1 hd rfl h2 (g _ _ _ _ _ _ hv hh (ab_pv his h1))
theorem ab_iload (X : ab_X p s m args c cc own nL D cl (ab_tys dT rn) A Ts) {i k : Nat} (hd : decode cc pc = .ok (.iload i, 2)) (hl : ab_lk loc i = some (0, k)) (g : ab_G p l e R s m args below meth c Q D cl A sa dT nL vs0 hs0 (pc + 2) E nh hp loc ((0, k) :: st) nc ns) : ab_G p l e R s m args below meth c Q D cl A sa dT nL vs0 hs0 pc E nh hp loc st nc ns := by
  intro vs hs ls sv H locs hv hh his
  obtain ⟨w, h1, h2⟩ := ab_l_get his.2.2.1 hl
  obtain ⟨x, h3, rfl⟩ := ab_cv0 h1
  exact lv_iload X.1 X.2.1 hd h2 (g _ _ _ _ _ _ hv hh (ab_pv his h1))
theorem ab_aload_n (X : ab_X p s m args c cc own nL D cl (ab_tys dT rn) A Ts) {i : Fin 4} {k : Nat} (hd : decode cc pc = .ok (.aload_n i, 1)) (hl : ab_lk loc (i : Nat) = some (1, k)) (g : ab_G p l e R s m args below meth c Q D cl A sa dT nL vs0 hs0 (pc + 1) E nh hp loc ((1, k) :: st) nc ns) : ab_G p l e R s m args below meth c Q D cl A sa dT nL vs0 hs0 pc E nh hp loc st nc ns := by
  intro vs hs ls sv H locs hv hh his
  obtain ⟨w, h1, h2⟩ := ab_l_get his.2.2.1 hl
  obtain ⟨x, h3, rfl⟩ := ab_cv1 h1
  exact lv_aload_n X.1 X.2.1 hd rfl h2 (g _ _ _ _ _ _ hv hh (ab_pv his h1))
theorem ab_aload (X : ab_X p s m args c cc own nL D cl (ab_tys dT rn) A Ts) {i k : Nat} (hd : decode cc pc = .ok (.aload i, 2)) (hl : ab_lk loc i = some (1, k)) (g : ab_G p l e R s m args below meth c Q D cl A sa dT nL vs0 hs0 (pc + 2) E nh hp loc ((1, k) :: st) nc ns) : ab_G p l e R s m args below meth c Q D cl A sa dT nL vs0 hs0 pc E nh hp loc st nc ns := by
  intro vs hs ls sv H locs hv hh his
  obtain ⟨w, h1, h2⟩ := ab_l_get his.2.2.1 hl
  obtain ⟨x, h3, rfl⟩ := ab_cv1 h1
  exact lv_aload X.1 X.2.1 hd h2 (g _ _ _ _ _ _ hv hh (ab_pv his h1))
theorem ab_istore_n (X : ab_X p s m args c cc own nL D cl (ab_tys dT rn) A Ts) {i : Fin 4} {k : Nat} (hd : decode cc pc = .ok (.istore_n i, 1)) (hi : (i : Nat) < nL) (g : ab_G p l e R s m args below meth c Q D cl A sa dT nL vs0 hs0 (pc + 1) E nh hp (ab_ls loc i (0, k)) st nc ns) : ab_G p l e R s m args below meth c Q D cl A sa dT nL vs0 hs0 pc E nh hp loc ((0, k) :: st) nc ns := by
  intro vs hs ls sv H locs hv hh his
  obtain ⟨vx, sv, rfl, hx, his1⟩ := ab_pop his
  obtain ⟨x, h3, rfl⟩ := ab_cv0 hx
  exact lv_istore_n X.1 X.2.1 hd rfl his1.2.2.1.1 hi rfl (fun ls' h' => g _ _ _ _ _ _ hv hh ⟨his1.1, his1.2.1, ab_l_set his1.2.2.1 hx h', his1.2.2.2⟩)
theorem ab_istore (X : ab_X p s m args c cc own nL D cl (ab_tys dT rn) A Ts) {i k : Nat} (hd : decode cc pc = .ok (.istore i, 2)) (hi : i < nL) (g : ab_G p l e R s m args below meth c Q D cl A sa dT nL vs0 hs0 (pc + 2) E nh hp (ab_ls loc i (0, k)) st nc ns) : ab_G p l e R s m args below meth c Q D cl A sa dT nL vs0 hs0 pc E nh hp loc ((0, k) :: st) nc ns := by
  intro vs hs ls sv H locs hv hh his
  obtain ⟨vx, sv, rfl, hx, his1⟩ := ab_pop his
  obtain ⟨x, h3, rfl⟩ := ab_cv0 hx
  exact lv_istore X.1 X.2.1 hd his1.2.2.1.1 hi rfl (fun ls' h' => g _ _ _ _ _ _ hv hh ⟨his1.1, his1.2.1, ab_l_set his1.2.2.1 hx h', his1.2.2.2⟩)
theorem ab_astore_n (X : ab_X p s m args c cc own nL D cl (ab_tys dT rn) A Ts) {i : Fin 4} {k : Nat} (hd : decode cc pc = .ok (.astore_n i, 1)) (hi : (i : Nat) < nL) (g : ab_G p l e R s m args below meth c Q D cl A sa dT nL vs0 hs0 (pc + 1) E nh hp (ab_ls loc i (1, k)) st nc ns) : ab_G p l e R s m args below meth c Q D cl A sa dT nL vs0 hs0 pc E nh hp loc ((1, k) :: st) nc ns := by
  intro vs hs ls sv H locs hv hh his
  obtain ⟨vx, sv, rfl, hx, his1⟩ := ab_pop his
  obtain ⟨x, h3, rfl⟩ := ab_cv1 hx
  exact lv_astore_n X.1 X.2.1 hd rfl his1.2.2.1.1 hi rfl (fun ls' h' => g _ _ _ _ _ _ hv hh ⟨his1.1, his1.2.1, ab_l_set his1.2.2.1 hx h', his1.2.2.2⟩)
theorem ab_astore (X : ab_X p s m args c cc own nL D cl (ab_tys dT rn) A Ts) {i k : Nat} (hd : decode cc pc = .ok (.astore i, 2)) (hi : i < nL) (g : ab_G p l e R s m args below meth c Q D cl A sa dT nL vs0 hs0 (pc + 2) E nh hp (ab_ls loc i (1, k)) st nc ns) : ab_G p l e R s m args below meth c Q D cl A sa dT nL vs0 hs0 pc E nh hp loc ((1, k) :: st) nc ns := by
  intro vs hs ls sv H locs hv hh his
  obtain ⟨vx, sv, rfl, hx, his1⟩ := ab_pop his
  obtain ⟨x, h3, rfl⟩ := ab_cv1 hx
  exact lv_astore X.1 X.2.1 hd his1.2.2.1.1 hi rfl (fun ls' h' => g _ _ _ _ _ _ hv hh ⟨his1.1, his1.2.1, ab_l_set his1.2.2.1 hx h', his1.2.2.2⟩)
theorem ab_iinc (X : ab_X p s m args c cc own nL D cl (ab_tys dT rn) A Ts) {i k : Nat} {n : Int} {j : ab_I} (hd : decode cc pc = .ok (.iinc i n, 3)) (hn : -2147483648 ≤ n ∧ n ≤ 2147483647) (hi : i < nL) (hl : ab_lk loc i = some (0, k)) (hk : E[k]? = some j) (g : ab_G p l e R s m args below meth c Q D cl A sa dT nL vs0 hs0 (pc + 3) (E ++ [ab_cl (j.1 + n, j.2 + n)]) nh hp (ab_ls loc i (0, E.length)) st nc ns) : ab_G p l e R s m args below meth c Q D cl A sa dT nL vs0 hs0 pc E nh hp loc st nc ns := by
  intro vs hs ls sv H locs hv hh his
  obtain ⟨w, h1, h2⟩ := ab_l_get his.2.2.1 hl
  obtain ⟨x, h3, rfl⟩ := ab_cv0 h1
  have his2 := ab_push his (ab_add (his.1.2 k j x hk h3) (ab_const hn.1 hn.2))
  obtain ⟨v2, sv2, e2, h4, his2⟩ := ab_pop his2
  cases e2
  have hm := List.mem_map_of_mem (f := fun q : Nat × ab_V => (q.1, (ab_cv sa (vs ++ [x + Int32.ofInt n]) hs q.2).getD .null)) (ab_lk_ok loc i (0, k) hl)
  have h5 := ab_mono [x + Int32.ofInt n] [] h1
  rw [List.append_nil] at h5
  dsimp only at hm
  rw [h5] at hm
  obtain ⟨kk, hkk⟩ := List.getElem?_of_mem hm
  exact lv_iinc X.1 X.2.1 hd his2.2.2.1.1 hkk rfl hi rfl (fun ls' h' => g _ _ _ _ _ _ (ab_x1 _ hv) hh ⟨his2.1, his2.2.1, ab_l_set his2.2.2.1 h4 h', his2.2.2.2⟩)
theorem ab_iadd (X : ab_X p s m args c cc own nL D cl (ab_tys dT rn) A Ts) {kx ky : Nat} {ix iy : ab_I} (hd : decode cc pc = .ok (.iadd, 1)) (h1 : E[kx]? = some ix) (h2 : E[ky]? = some iy) (g : ab_G p l e R s m args below meth c Q D cl A sa dT nL vs0 hs0 (pc + 1) (E ++ [ab_cl (ix.1 + iy.1, ix.2 + iy.2)]) nh hp loc ((0, E.length) :: st) nc ns) : ab_G p l e R s m args below meth c Q D cl A sa dT nL vs0 hs0 pc E nh hp loc ((0, ky) :: (0, kx) :: st) nc ns := by
  intro vs hs ls sv H locs hv hh his
  obtain ⟨vy, sv, rfl, hy, his1⟩ := ab_pop his
  obtain ⟨vx, sv, rfl, hx, his2⟩ := ab_pop his1
  obtain ⟨y, hyq, rfl⟩ := ab_cv0 hy
  obtain ⟨x, hxq, rfl⟩ := ab_cv0 hx
  exact lv_iadd X.1 X.2.1 hd (g _ _ _ _ _ _ (ab_x1 _ hv) hh (ab_push his2 (ab_add (his2.1.2 kx ix x h1 hxq) (his2.1.2 ky iy y h2 hyq))))
theorem ab_isub (X : ab_X p s m args c cc own nL D cl (ab_tys dT rn) A Ts) {kx ky : Nat} {ix iy : ab_I} (hd : decode cc pc = .ok (.isub, 1)) (h1 : E[kx]? = some ix) (h2 : E[ky]? = some iy) (g : ab_G p l e R s m args below meth c Q D cl A sa dT nL vs0 hs0 (pc + 1) (E ++ [ab_cl (ix.1 - iy.2, ix.2 - iy.1)]) nh hp loc ((0, E.length) :: st) nc ns) : ab_G p l e R s m args below meth c Q D cl A sa dT nL vs0 hs0 pc E nh hp loc ((0, ky) :: (0, kx) :: st) nc ns := by
  intro vs hs ls sv H locs hv hh his
  obtain ⟨vy, sv, rfl, hy, his1⟩ := ab_pop his
  obtain ⟨vx, sv, rfl, hx, his2⟩ := ab_pop his1
  obtain ⟨y, hyq, rfl⟩ := ab_cv0 hy
  obtain ⟨x, hxq, rfl⟩ := ab_cv0 hx
  exact lv_isub X.1 X.2.1 hd (g _ _ _ _ _ _ (ab_x1 _ hv) hh (ab_push his2 (ab_sub (his2.1.2 kx ix x h1 hxq) (his2.1.2 ky iy y h2 hyq))))
theorem ab_imul (X : ab_X p s m args c cc own nL D cl (ab_tys dT rn) A Ts) {kx ky : Nat} {ix iy : ab_I} (hd : decode cc pc = .ok (.imul, 1)) (h1 : E[kx]? = some ix) (h2 : E[ky]? = some iy) (g : ab_G p l e R s m args below meth c Q D cl A sa dT nL vs0 hs0 (pc + 1) (E ++ [ab_mulI ix iy]) nh hp loc ((0, E.length) :: st) nc ns) : ab_G p l e R s m args below meth c Q D cl A sa dT nL vs0 hs0 pc E nh hp loc ((0, ky) :: (0, kx) :: st) nc ns := by
  intro vs hs ls sv H locs hv hh his
  obtain ⟨vy, sv, rfl, hy, his1⟩ := ab_pop his
  obtain ⟨vx, sv, rfl, hx, his2⟩ := ab_pop his1
  obtain ⟨y, hyq, rfl⟩ := ab_cv0 hy
  obtain ⟨x, hxq, rfl⟩ := ab_cv0 hx
  exact lv_imul X.1 X.2.1 hd (g _ _ _ _ _ _ (ab_x1 _ hv) hh (ab_push his2 (ab_mul (his2.1.2 kx ix x h1 hxq) (his2.1.2 ky iy y h2 hyq))))
theorem ab_iand (X : ab_X p s m args c cc own nL D cl (ab_tys dT rn) A Ts) {kx ky : Nat} {ix iy : ab_I} (hd : decode cc pc = .ok (.iand, 1)) (h1 : E[kx]? = some ix) (h2 : E[ky]? = some iy) (g : ab_G p l e R s m args below meth c Q D cl A sa dT nL vs0 hs0 (pc + 1) (E ++ [ab_andI ix iy]) nh hp loc ((0, E.length) :: st) nc ns) : ab_G p l e R s m args below meth c Q D cl A sa dT nL vs0 hs0 pc E nh hp loc ((0, ky) :: (0, kx) :: st) nc ns := by
  intro vs hs ls sv H locs hv hh his
  obtain ⟨vy, sv, rfl, hy, his1⟩ := ab_pop his
  obtain ⟨vx, sv, rfl, hx, his2⟩ := ab_pop his1
  obtain ⟨y, hyq, rfl⟩ := ab_cv0 hy
  obtain ⟨x, hxq, rfl⟩ := ab_cv0 hx
  exact lv_iand X.1 X.2.1 hd (g _ _ _ _ _ _ (ab_x1 _ hv) hh (ab_push his2 (ab_and (his2.1.2 kx ix x h1 hxq) (his2.1.2 ky iy y h2 hyq))))
theorem ab_ior (X : ab_X p s m args c cc own nL D cl (ab_tys dT rn) A Ts) {kx ky : Nat} {ix iy : ab_I} (hd : decode cc pc = .ok (.ior, 1)) (h1 : E[kx]? = some ix) (h2 : E[ky]? = some iy) (g : ab_G p l e R s m args below meth c Q D cl A sa dT nL vs0 hs0 (pc + 1) (E ++ [ab_orI ix iy]) nh hp loc ((0, E.length) :: st) nc ns) : ab_G p l e R s m args below meth c Q D cl A sa dT nL vs0 hs0 pc E nh hp loc ((0, ky) :: (0, kx) :: st) nc ns := by
  intro vs hs ls sv H locs hv hh his
  obtain ⟨vy, sv, rfl, hy, his1⟩ := ab_pop his
  obtain ⟨vx, sv, rfl, hx, his2⟩ := ab_pop his1
  obtain ⟨y, hyq, rfl⟩ := ab_cv0 hy
  obtain ⟨x, hxq, rfl⟩ := ab_cv0 hx
  exact lv_ior X.1 X.2.1 hd (g _ _ _ _ _ _ (ab_x1 _ hv) hh (ab_push his2 (ab_or (his2.1.2 kx ix x h1 hxq) (his2.1.2 ky iy y h2 hyq))))
theorem ab_ixor (X : ab_X p s m args c cc own nL D cl (ab_tys dT rn) A Ts) {kx ky : Nat} {ix iy : ab_I} (hd : decode cc pc = .ok (.ixor, 1)) (h1 : E[kx]? = some ix) (h2 : E[ky]? = some iy) (g : ab_G p l e R s m args below meth c Q D cl A sa dT nL vs0 hs0 (pc + 1) (E ++ [ab_orI ix iy]) nh hp loc ((0, E.length) :: st) nc ns) : ab_G p l e R s m args below meth c Q D cl A sa dT nL vs0 hs0 pc E nh hp loc ((0, ky) :: (0, kx) :: st) nc ns := by
  intro vs hs ls sv H locs hv hh his
  obtain ⟨vy, sv, rfl, hy, his1⟩ := ab_pop his
  obtain ⟨vx, sv, rfl, hx, his2⟩ := ab_pop his1
  obtain ⟨y, hyq, rfl⟩ := ab_cv0 hy
  obtain ⟨x, hxq, rfl⟩ := ab_cv0 hx
  exact lv_ixor X.1 X.2.1 hd (g _ _ _ _ _ _ (ab_x1 _ hv) hh (ab_push his2 (ab_xor (his2.1.2 kx ix x h1 hxq) (his2.1.2 ky iy y h2 hyq))))
theorem ab_idiv (X : ab_X p s m args c cc own nL D cl (ab_tys dT rn) A Ts) {kx ky : Nat} {ix iy r : ab_I} (hd : decode cc pc = .ok (.idiv, 1)) (h1 : E[kx]? = some ix) (h2 : E[ky]? = some iy) (h3 : ab_divI ix iy = some r) (g : ab_G p l e R s m args below meth c Q D cl A sa dT nL vs0 hs0 (pc + 1) (E ++ [r]) nh hp loc ((0, E.length) :: st) nc ns) : ab_G p l e R s m args below meth c Q D cl A sa dT nL vs0 hs0 pc E nh hp loc ((0, ky) :: (0, kx) :: st) nc ns := by
  intro vs hs ls sv H locs hv hh his
  obtain ⟨vy, sv, rfl, hy, his1⟩ := ab_pop his
  obtain ⟨vx, sv, rfl, hx, his2⟩ := ab_pop his1
  obtain ⟨y, hyq, rfl⟩ := ab_cv0 hy
  obtain ⟨x, hxq, rfl⟩ := ab_cv0 hx
  obtain ⟨k1, k2⟩ := ab_div (his2.1.2 kx ix x h1 hxq) (his2.1.2 ky iy y h2 hyq) h3
  exact lv_idiv X.1 X.2.1 hd k1 (g _ _ _ _ _ _ (ab_x1 _ hv) hh (ab_push his2 k2))
theorem ab_irem (X : ab_X p s m args c cc own nL D cl (ab_tys dT rn) A Ts) {kx ky : Nat} {ix iy r : ab_I} (hd : decode cc pc = .ok (.irem, 1)) (h1 : E[kx]? = some ix) (h2 : E[ky]? = some iy) (h3 : ab_remI ix iy = some r) (g : ab_G p l e R s m args below meth c Q D cl A sa dT nL vs0 hs0 (pc + 1) (E ++ [r]) nh hp loc ((0, E.length) :: st) nc ns) : ab_G p l e R s m args below meth c Q D cl A sa dT nL vs0 hs0 pc E nh hp loc ((0, ky) :: (0, kx) :: st) nc ns := by
  intro vs hs ls sv H locs hv hh his
  obtain ⟨vy, sv, rfl, hy, his1⟩ := ab_pop his
  obtain ⟨vx, sv, rfl, hx, his2⟩ := ab_pop his1
  obtain ⟨y, hyq, rfl⟩ := ab_cv0 hy
  obtain ⟨x, hxq, rfl⟩ := ab_cv0 hx
  obtain ⟨k1, k2⟩ := ab_rem (his2.1.2 kx ix x h1 hxq) (his2.1.2 ky iy y h2 hyq) h3
  exact lv_irem X.1 X.2.1 hd k1 (g _ _ _ _ _ _ (ab_x1 _ hv) hh (ab_push his2 k2))

theorem ab_dup (X : ab_X p s m args c cc own nL D cl (ab_tys dT rn) A Ts) {a : ab_V} (hd : decode cc pc = .ok (.dup, 1)) (g : ab_G p l e R s m args below meth c Q D cl A sa dT nL vs0 hs0 (pc + 1) E nh hp loc (a :: a :: st) nc ns) : ab_G p l e R s m args below meth c Q D cl A sa dT nL vs0 hs0 pc E nh hp loc (a :: st) nc ns := by
  intro vs hs ls sv H locs hv hh his
  obtain ⟨vx, sv, rfl, hx, his1⟩ := ab_pop his
  exact lv_dup X.1 X.2.1 hd (ab_cat hx) (g _ _ _ _ _ _ hv hh (ab_pv (ab_pv his1 hx) hx))
theorem ab_popi (X : ab_X p s m args c cc own nL D cl (ab_tys dT rn) A Ts) {a : ab_V} (hd : decode cc pc = .ok (.pop, 1)) (g : ab_G p l e R s m args below meth c Q D cl A sa dT nL vs0 hs0 (pc + 1) E nh hp loc st nc ns) : ab_G p l e R s m args below meth c Q D cl A sa dT nL vs0 hs0 pc E nh hp loc (a :: st) nc ns := by
  intro vs hs ls sv H locs hv hh his
  obtain ⟨vx, sv, rfl, hx, his1⟩ := ab_pop his
  exact lv_pop X.1 X.2.1 hd (ab_cat hx) (g _ _ _ _ _ _ hv hh his1)
theorem ab_dupx1 (X : ab_X p s m args c cc own nL D cl (ab_tys dT rn) A Ts) {a b : ab_V} (hd : decode cc pc = .ok (.dup_x1, 1)) (g : ab_G p l e R s m args below meth c Q D cl A sa dT nL vs0 hs0 (pc + 1) E nh hp loc (a :: b :: a :: st) nc ns) : ab_G p l e R s m args below meth c Q D cl A sa dT nL vs0 hs0 pc E nh hp loc (a :: b :: st) nc ns := by
  intro vs hs ls sv H locs hv hh his
  obtain ⟨vx, sv, rfl, hx, his1⟩ := ab_pop his
  obtain ⟨vy, sv, rfl, hy, his2⟩ := ab_pop his1
  exact lv_dup_x1 X.1 X.2.1 hd (ab_cat hx) (ab_cat hy) (g _ _ _ _ _ _ hv hh (ab_pv (ab_pv (ab_pv his2 hx) hy) hx))
theorem ab_dupx2 (X : ab_X p s m args c cc own nL D cl (ab_tys dT rn) A Ts) {a b d : ab_V} (hd : decode cc pc = .ok (.dup_x2, 1)) (g : ab_G p l e R s m args below meth c Q D cl A sa dT nL vs0 hs0 (pc + 1) E nh hp loc (a :: b :: d :: a :: st) nc ns) : ab_G p l e R s m args below meth c Q D cl A sa dT nL vs0 hs0 pc E nh hp loc (a :: b :: d :: st) nc ns := by
  intro vs hs ls sv H locs hv hh his
  obtain ⟨vx, sv, rfl, hx, his1⟩ := ab_pop his
  obtain ⟨vy, sv, rfl, hy, his2⟩ := ab_pop his1
  obtain ⟨vz, sv, rfl, hz, his3⟩ := ab_pop his2
  exact lv_dup_x2 X.1 X.2.1 hd (ab_cat hx) (ab_cat hy) (ab_cat hz) (g _ _ _ _ _ _ hv hh (ab_pv (ab_pv (ab_pv (ab_pv his3 hx) hz) hy) hx))
theorem ab_dup2 (X : ab_X p s m args c cc own nL D cl (ab_tys dT rn) A Ts) {a b : ab_V} (hd : decode cc pc = .ok (.dup2, 1)) (g : ab_G p l e R s m args below meth c Q D cl A sa dT nL vs0 hs0 (pc + 1) E nh hp loc (a :: b :: a :: b :: st) nc ns) : ab_G p l e R s m args below meth c Q D cl A sa dT nL vs0 hs0 pc E nh hp loc (a :: b :: st) nc ns := by
  intro vs hs ls sv H locs hv hh his
  obtain ⟨vx, sv, rfl, hx, his1⟩ := ab_pop his
  obtain ⟨vy, sv, rfl, hy, his2⟩ := ab_pop his1
  exact lv_dup2_11 X.1 X.2.1 hd (ab_cat hx) (ab_cat hy) (g _ _ _ _ _ _ hv hh (ab_pv (ab_pv (ab_pv (ab_pv his2 hy) hx) hy) hx))
theorem ab_tab (X : ab_X p s m args c cc own nL D cl (ab_tys dT rn) A Ts) {df lo hi : Int} {offs : Array Int} {len kx td : Nat} {ix : ab_I} (hd : decode cc pc = .ok (.tableswitch df lo hi offs, len)) (h1 : E[kx]? = some ix)
    (gi : ∀ z : Int, ix.1 ≤ z → z ≤ ix.2 → lo ≤ z → z ≤ hi → ∃ (off : Int) (t : Nat), offs[(z - lo).toNat]? = some off ∧ (pc : Int) + off = (t : Int) ∧ ab_G p l e R s m args below meth c Q D cl A sa dT nL vs0 hs0 t (E.set kx (z, z)) nh hp loc st nc ns)
    (hdt : (pc : Int) + df = (td : Int)) (go : ix.1 < lo ∨ hi < ix.2 → ab_G p l e R s m args below meth c Q D cl A sa dT nL vs0 hs0 td E nh hp loc st nc ns) : ab_G p l e R s m args below meth c Q D cl A sa dT nL vs0 hs0 pc E nh hp loc ((0, kx) :: st) nc ns := by
  intro vs hs ls sv H locs hv hh his
  obtain ⟨vx, sv, rfl, hx, his1⟩ := ab_pop his
  obtain ⟨x, hxq, rfl⟩ := ab_cv0 hx
  have hi2 := his1.1.2 kx ix x h1 hxq
  by_cases hin : x.toInt < lo ∨ hi < x.toInt
  · exact lv_tableOut X.1 X.2.1 hd hin hdt (go (by have := hi2.1; have := hi2.2; omega) _ _ _ _ _ _ hv hh his1)
  · obtain ⟨off, t, g1, g2, g3⟩ := gi x.toInt hi2.1 hi2.2 (by omega) (by omega)
    exact lv_tableIn X.1 X.2.1 hd (by omega) (by omega) g1 g2 (g3 _ _ _ _ _ _ hv hh (ab_env his1 (ab_e_set his1.1 kx (fun z hz => by rw [hxq] at hz; cases hz; exact ⟨Int.le_refl _, Int.le_refl _⟩))))
theorem ab_lksw (X : ab_X p s m args c cc own nL D cl (ab_tys dT rn) A Ts) {df : Int} {ps : Array (Int × Int)} {len kx : Nat} {ix : ab_I} (hd : decode cc pc = .ok (.lookupswitch df ps, len)) (hp0 : (ps.toList.zip (ps.toList.drop 1)).all (fun (a, next) => a.1 < next.1) = true) (h1 : E[kx]? = some ix)
    (gi : ∀ x : Int32, ab_in ix x → ∃ (t : Nat) (E' : List ab_I), (pc : Int) + Op.lookupswitch.offset ps.toList df x.toInt = (t : Int) ∧ (∀ vs : List Int32, ab_e E vs → vs[kx]? = some x → ab_e E' vs) ∧ ab_G p l e R s m args below meth c Q D cl A sa dT nL vs0 hs0 t E' nh hp loc st nc ns) : ab_G p l e R s m args below meth c Q D cl A sa dT nL vs0 hs0 pc E nh hp loc ((0, kx) :: st) nc ns := by
  intro vs hs ls sv H locs hv hh his
  obtain ⟨vx, sv, rfl, hx, his1⟩ := ab_pop his
  obtain ⟨x, hxq, rfl⟩ := ab_cv0 hx
  obtain ⟨t, E', g1, g2, g3⟩ := gi x (his1.1.2 kx ix x h1 hxq)
  exact lv_lookup X.1 X.2.1 hd hp0 rfl g1 (g3 _ _ _ _ _ _ hv hh (ab_env his1 (g2 vs his1.1 hxq)))
def ab_FL (s : State) (args : Array Value) (own : String) (cl : List vw_C) (Ts : List Cond) (ix ci k fl : Nat) : Prop :=
  ∃ (C : String) (T : u_T) (N : Nat) (ty0 : Nat → FieldType) (ref : String), cl[ci]? = some (C, T, N) ∧ k < N ∧ (∀ w ∈ u_ws C T N, w ∈ Ts) ∧ (∀ k, k < N → parseFieldDescriptor (T k).2.2.1 = some (ty0 k)) ∧ (∀ a, a < N → ∀ b, b < N → a ≠ b → (T a).2.1 ≠ (T b).2.1) ∧
    (∀ x, s.fieldFound? (T k).1 (T k).2.1 (T k).2.2.1 = some x → s.fieldFound? ref (T k).2.1 (T k).2.2.1 = some x) ∧ ((Cond.fieldLink own ix ref (T k).2.1 (T k).2.2.1).before args s = true ∨ ∃ host, (Cond.fieldLinkNest own ix ref (T k).2.1 (T k).2.2.1 host).before args s = true) ∧
    (fl % 2 = 0 → ty0 k = .int) ∧ (fl % 2 = 1 → (∃ n, ty0 k = .object n) ∨ ∃ t, ty0 k = .array t) ∧ (fl < 2 → (T k).2.2.2 = false) ∧ (2 ≤ fl → fl < 4 → (T k).2.2.2 = true ∧ (T k).1 = own ∧ (Cond.fieldLink own ix ref (T k).2.1 (T k).2.2.1).before args s = true)
theorem ab_getf (X : ab_X p s m args c cc own nL D cl (ab_tys dT rn) A Ts) {ix ci k fl a j : Nat} {fs : List ab_V} {v : ab_V} (hF : ab_FL s args own cl Ts ix ci k fl) (hd : decode cc pc = .ok (.getfield ix, 3)) (hf : ab_fi hp a 0 = some (j, .inl (ci, fs))) (hv : fs[k]? = some v) (g : ab_G p l e R s m args below meth c Q D cl A sa dT nL vs0 hs0 (pc + 3) E nh hp loc (v :: st) nc ns) : ab_G p l e R s m args below meth c Q D cl A sa dT nL vs0 hs0 pc E nh hp loc ((1, a) :: st) nc ns := by
  intro vs hs ls sv H locs hv0 hh his
  obtain ⟨w, sv, rfl, hw, his1⟩ := ab_pop his
  obtain ⟨q, hq, rfl⟩ := ab_cv1 hw
  obtain ⟨h1, h2, h3, h4, ws, h5, h6, h7, h8⟩ := id his1
  obtain ⟨ce, g1, g2⟩ := ab_w_at h5 hf hq
  obtain ⟨fw, rfl, g3⟩ := g2
  obtain ⟨x, g4, g5⟩ := ab_at g3 hv
  obtain ⟨C, T, N, ty0, ref, f1, f2, f3, f4, f5, f6, f7, -⟩ := hF
  rcases f7 with f7 | ⟨host, f7⟩
  · exact va_get X.1 X.2.1 X.2.2.2.2.1 f3 X.2.2.2.1 X.2.2.2.2.2.1 h6 j g1 f1 k f2 f7 f6 g4 hd (g _ _ _ _ _ _ hv0 hh (ab_pv his1 g5))
  · exact va_getN X.1 X.2.1 X.2.2.2.2.1 f3 X.2.2.2.1 X.2.2.2.2.2.1 h6 j g1 f1 k f2 f7 f6 g4 hd (g _ _ _ _ _ _ hv0 hh (ab_pv his1 g5))
theorem ab_nar {ty : FieldType} {v : ab_V} {sa : Nat → Nat} {vs : List Int32} {hs : List Nat} {w : Value} {fl : Nat} (hv : ab_cv sa vs hs v = some w) (h0 : fl % 2 = 0 → ty = .int) (h1 : fl % 2 = 1 → (∃ n, ty = .object n) ∨ ∃ t, ty = .array t) (ht : (fl % 2 = 0 ∧ v.1 = 0) ∨ (fl % 2 = 1 ∧ v.1 ≠ 0)) : narrow ty w = w ∧ fits ty w = true := by
  obtain ⟨t, k⟩ := v
  rcases ht with ⟨a, b⟩ | ⟨a, b⟩
  · dsimp only at b
    subst b
    obtain ⟨x, -, rfl⟩ := ab_cv0 hv
    rw [h0 a]
    exact ⟨rfl, rfl⟩
  · rcases ab_tag hv with e | e | e | e <;> dsimp only at e b <;> subst e
    · exact absurd rfl b
    · obtain ⟨x, -, rfl⟩ := ab_cv1 hv
      rcases h1 a with ⟨n, rfl⟩ | ⟨n, rfl⟩ <;> exact ⟨rfl, rfl⟩
    · cases hv
      rcases h1 a with ⟨n, rfl⟩ | ⟨n, rfl⟩ <;> exact ⟨rfl, rfl⟩
    · cases hv
      rcases h1 a with ⟨n, rfl⟩ | ⟨n, rfl⟩ <;> exact ⟨rfl, rfl⟩
theorem ab_putf (X : ab_X p s m args c cc own nL D cl (ab_tys dT rn) A Ts) {ix ci k fl a j : Nat} {fs : List ab_V} {v : ab_V} (hF : ab_FL s args own cl Ts ix ci k fl) (hini : 2 ≤ fl → meth.name = "<init>") (hf4 : fl < 4) (hd : decode cc pc = .ok (.putfield ix, 3)) (hf : ab_fi hp a 0 = some (j, .inl (ci, fs))) (hk : k < fs.length) (ht : (fl % 2 = 0 ∧ v.1 = 0) ∨ (fl % 2 = 1 ∧ v.1 ≠ 0)) (g : ab_G p l e R s m args below meth c Q D cl A sa dT nL vs0 hs0 (pc + 3) E nh (hp.set j (a, .inl (ci, fs.set k v))) loc st nc ns) : ab_G p l e R s m args below meth c Q D cl A sa dT nL vs0 hs0 pc E nh hp loc (v :: (1, a) :: st) nc ns := by
  intro vs hs ls sv H locs hv0 hh his
  obtain ⟨w2, sv, rfl, hw2, his1⟩ := ab_pop his
  obtain ⟨w, sv, rfl, hw, his2⟩ := ab_pop his1
  obtain ⟨q, hq, rfl⟩ := ab_cv1 hw
  obtain ⟨h1, h2, h3, h4, ws, h5, h6, h7, h8⟩ := id his2
  obtain ⟨ce, g1, g2⟩ := ab_w_at h5 hf hq
  obtain ⟨fw, rfl, g3⟩ := g2
  obtain ⟨C, T, N, ty0, ref, f1, f2, f3, f4, f5, f6, f7, f8, f9, f10, f11⟩ := hF
  obtain ⟨n1, n2⟩ := ab_nar hw2 f8 f9 ht
  have hl : k < fw.length := by rw [← ab_lenL g3]; exact hk
  have kk : ∀ (H1 : Heap) (locs1 : List Loc), va_P D cl (ws.set j (q, .inr (ci, fw.set k w2))) H1 → va_D A (ws.set j (q, .inr (ci, fw.set k w2))) → va_S A s.heap H1 locs1 → W p l e R s m args below meth c H1 locs1 nc ns Q (F0 m (pc + 3) ls sv) := by
    intro H1 locs1 k1 k2 k3
    exact g _ _ _ _ _ _ hv0 hh ⟨h1, h2, h3, h4, _, ab_w_set h5 (ab_fi0 hf) g1 hq ⟨_, rfl, ab_setL g3 k hw2⟩, k1, k2, k3⟩
  by_cases hfl : fl < 2
  · rcases f7 with f7 | ⟨host, f7⟩
    · exact va_put X.1 X.2.1 X.2.2.2.2.1 f3 ty0 f4 f5 X.2.2.2.1 X.2.2.2.2.2.1 h6 h7 h8 j g1 f1 k f2 f7 f6 (f10 hfl) (f4 k f2) n1 n2 hl hd kk
    · exact va_putN X.1 X.2.1 X.2.2.2.2.1 f3 ty0 f4 f5 X.2.2.2.1 X.2.2.2.2.2.1 h6 h7 h8 j g1 f1 k f2 f7 f6 (f10 hfl) (f4 k f2) n1 n2 hl hd kk
  · obtain ⟨f12, f13, f14⟩ := f11 (by omega) hf4
    exact va_putF X.1 X.2.1 X.2.2.2.2.1 f3 ty0 f4 f5 X.2.2.2.1 X.2.2.2.2.2.1 h6 h7 h8 j g1 f1 k f2 f14 f6 f12 (hini (by omega)) f13 (f4 k f2) n1 n2 hl hd kk
theorem ab_inN {lo hi : Int} {n : Nat} {x : Int32} (h : ab_in (lo, hi) x) (h1 : 0 ≤ lo) (h2 : hi < (n : Int)) : vp_in x n ∧ x.toNatClampNeg < n ∧ ((x.toNatClampNeg : Nat) : Int) = x.toInt := by
  have g1 := h.1
  have g2 := h.2
  dsimp only at g1 g2
  have e : x.toNatClampNeg = x.toInt.toNat := rfl
  have g3 : x.toNatClampNeg < n := by rw [e]; omega
  refine ⟨fun q => ?_, g3, by rw [e]; omega⟩
  rcases q with q | q
  · have := Int32.lt_iff_toInt_lt.mp q
    rw [Int32.toInt_zero] at this
    omega
  · omega
def ab_ixI (i : ab_I) (lo hi lo0 hi0 : Int) : ab_I := if i.1 = i.2 then (if i.1 % 5 = 0 then (lo0, hi0) else (lo, hi)) else (min lo lo0, max hi hi0)
theorem ab_ixI_ok {i : ab_I} {lo hi lo0 hi0 : Int} {z : Nat} {x : Int32} (h1 : i.1 ≤ (z : Int)) (h2 : (z : Int) ≤ i.2) (h : ab_in (ab_b5 lo hi lo0 hi0 z) x) : ab_in (ab_ixI i lo hi lo0 hi0) x := by
  unfold ab_ixI
  unfold ab_b5 at h
  split
  · split
    · rw [if_pos (by omega)] at h
      exact h
    · rw [if_neg (by omega)] at h
      exact h
  · unfold ab_in at *
    split at h <;> dsimp only at * <;> omega
def ab_stI (i v : ab_I) (lo hi lo0 hi0 : Int) : Int × Int × Int × Int :=
  ((if i.1 = i.2 ∧ i.1 % 5 = 0 then lo else min lo v.1), (if i.1 = i.2 ∧ i.1 % 5 = 0 then hi else max hi v.2), (if i.1 = i.2 ∧ ¬ i.1 % 5 = 0 then lo0 else min lo0 v.1), (if i.1 = i.2 ∧ ¬ i.1 % 5 = 0 then hi0 else max hi0 v.2))
theorem ab_stI_old {i v : ab_I} {lo hi lo0 hi0 : Int} {z : Nat} {x : Int32} (h : ab_in (ab_b5 lo hi lo0 hi0 z) x) : ab_in (ab_b5 (ab_stI i v lo hi lo0 hi0).1 (ab_stI i v lo hi lo0 hi0).2.1 (ab_stI i v lo hi lo0 hi0).2.2.1 (ab_stI i v lo hi lo0 hi0).2.2.2 z) x := by
  unfold ab_stI
  unfold ab_b5 at *
  unfold ab_in at *
  dsimp only
  split at h
  · rename_i hz
    rw [if_pos hz]
    dsimp only at *
    split <;> omega
  · rename_i hz
    rw [if_neg hz]
    dsimp only at *
    split <;> omega
theorem ab_stI_new {i v : ab_I} {lo hi lo0 hi0 : Int} {z : Nat} {x : Int32} (h1 : i.1 ≤ (z : Int)) (h2 : (z : Int) ≤ i.2) (h : ab_in v x) : ab_in (ab_b5 (ab_stI i v lo hi lo0 hi0).1 (ab_stI i v lo hi lo0 hi0).2.1 (ab_stI i v lo hi lo0 hi0).2.2.1 (ab_stI i v lo hi lo0 hi0).2.2.2 z) x := by
  unfold ab_stI ab_b5
  unfold ab_in at *
  dsimp only
  split
  · rename_i hz
    dsimp only at *
    rw [if_neg (by omega), if_neg (by omega)]
    omega
  · rename_i hz
    dsimp only at *
    rw [if_neg (by omega), if_neg (by omega)]
    omega
theorem ab_iald (X : ab_X p s m args c cc own nL D cl (ab_tys dT rn) A Ts) {a j n ki : Nat} {lo hi lo0 hi0 : Int} {i : ab_I} (hd : decode cc pc = .ok (.iaload, 1)) (hf : ab_fi hp a 0 = some (j, .inr (.inl (n, lo, hi, lo0, hi0)))) (hi1 : E[ki]? = some i) (h1 : 0 ≤ i.1) (h2 : i.2 < (n : Int)) (g : ab_G p l e R s m args below meth c Q D cl A sa dT nL vs0 hs0 (pc + 1) (E ++ [ab_ixI i lo hi lo0 hi0]) nh hp loc ((0, E.length) :: st) nc ns) : ab_G p l e R s m args below meth c Q D cl A sa dT nL vs0 hs0 pc E nh hp loc ((0, ki) :: (1, a) :: st) nc ns := by
  intro vs hs ls sv H locs hv0 hh his
  obtain ⟨w2, sv, rfl, hw2, his1⟩ := ab_pop his
  obtain ⟨w, sv, rfl, hw, his2⟩ := ab_pop his1
  obtain ⟨x, hx, rfl⟩ := ab_cv0 hw2
  obtain ⟨q, hq, rfl⟩ := ab_cv1 hw
  obtain ⟨k1, k2, k3, k4, ws, k5, k6, k7, k8⟩ := id his2
  obtain ⟨ce, g1, g2⟩ := ab_w_at k5 hf hq
  obtain ⟨f, rfl, g3⟩ := g2
  have hin := k1.2 ki i x hi1 hx
  obtain ⟨m1, m2, m3⟩ := ab_inN hin h1 h2
  exact va_iald X.1 X.2.1 X.2.2.2.2.2.1 k6 j 0 g1 rfl m1 hd (g _ _ _ _ _ _ (ab_x1 _ hv0) hh (ab_push his2 (ab_ixI_ok (by rw [m3]; exact hin.1) (by rw [m3]; exact hin.2) (g3 _ m2))))
theorem ab_iast (X : ab_X p s m args c cc own nL D cl (ab_tys dT rn) A Ts) {a j n ki kx : Nat} {lo hi lo0 hi0 : Int} {i ix : ab_I} (hd : decode cc pc = .ok (.iastore, 1)) (hf : ab_fi hp a 0 = some (j, .inr (.inl (n, lo, hi, lo0, hi0)))) (hi1 : E[ki]? = some i) (hx1 : E[kx]? = some ix) (h1 : 0 ≤ i.1) (h2 : i.2 < (n : Int)) (g : ab_G p l e R s m args below meth c Q D cl A sa dT nL vs0 hs0 (pc + 1) E nh (hp.set j (a, .inr (.inl (n, ab_stI i ix lo hi lo0 hi0)))) loc st nc ns) : ab_G p l e R s m args below meth c Q D cl A sa dT nL vs0 hs0 pc E nh hp loc ((0, kx) :: (0, ki) :: (1, a) :: st) nc ns := by
  intro vs hs ls sv H locs hv0 hh his
  obtain ⟨w3, sv, rfl, hw3, his1⟩ := ab_pop his
  obtain ⟨w2, sv, rfl, hw2, his2⟩ := ab_pop his1
  obtain ⟨w, sv, rfl, hw, his3⟩ := ab_pop his2
  obtain ⟨y, hy, rfl⟩ := ab_cv0 hw3
  obtain ⟨x, hx, rfl⟩ := ab_cv0 hw2
  obtain ⟨q, hq, rfl⟩ := ab_cv1 hw
  obtain ⟨k1, k2, k3, k4, ws, k5, k6, k7, k8⟩ := id his3
  obtain ⟨ce, g1, g2⟩ := ab_w_at k5 hf hq
  obtain ⟨f, rfl, g3⟩ := g2
  have hin := k1.2 ki i x hi1 hx
  obtain ⟨m1, m2, m3⟩ := ab_inN hin h1 h2
  have my := k1.2 kx ix y hx1 hy
  refine va_iast X.1 X.2.1 X.2.2.2.2.2.1 k6 k7 k8 j 0 g1 rfl m1 hd (fun H1 locs1 r1 r2 r3 => g _ _ _ _ _ _ hv0 hh ⟨k1, k2, k3, k4, _, ab_w_set k5 (ab_fi0 hf) g1 hq ⟨_, rfl, fun t ht => ?_⟩, r1, r2, r3⟩)
  show ab_in (ab_b5 (ab_stI i ix lo hi lo0 hi0).1 (ab_stI i ix lo hi lo0 hi0).2.1 (ab_stI i ix lo hi lo0 hi0).2.2.1 (ab_stI i ix lo hi lo0 hi0).2.2.2 t) (if t = x.toNatClampNeg then y else f t)
  by_cases ht2 : t = x.toNatClampNeg
  · rw [if_pos ht2, ht2]
    exact ab_stI_new (by rw [m3]; exact hin.1) (by rw [m3]; exact hin.2) my
  · rw [if_neg ht2]
    exact ab_stI_old (g3 t ht)
theorem ab_aald (X : ab_X p s m args c cc own nL D cl (ab_tys dT rn) A Ts) {a j t ki : Nat} {js : List ab_V} {C : String} {i : ab_I} (hd : decode cc pc = .ok (.aaload, 1)) (hC : rn[t]? = some C) (hf : ab_fi hp a 0 = some (j, .inr (.inr (t, js)))) (hi1 : E[ki]? = some i) (h1 : 0 ≤ i.1) (h2 : i.2 < (js.length : Int)) (g : ∀ (z : Nat) (v : ab_V), i.1 ≤ (z : Int) → (z : Int) ≤ i.2 → js[z]? = some v → ab_G p l e R s m args below meth c Q D cl A sa dT nL vs0 hs0 (pc + 1) (E.set ki ((z : Int), (z : Int))) nh hp loc (v :: st) nc ns) : ab_G p l e R s m args below meth c Q D cl A sa dT nL vs0 hs0 pc E nh hp loc ((0, ki) :: (1, a) :: st) nc ns := by
  intro vs hs ls sv H locs hv0 hh his
  obtain ⟨w2, sv, rfl, hw2, his1⟩ := ab_pop his
  obtain ⟨w, sv, rfl, hw, his2⟩ := ab_pop his1
  obtain ⟨x, hx, rfl⟩ := ab_cv0 hw2
  obtain ⟨q, hq, rfl⟩ := ab_cv1 hw
  obtain ⟨k1, k2, k3, k4, ws, k5, k6, k7, k8⟩ := id his2
  obtain ⟨ce, g1, g2⟩ := ab_w_at k5 hf hq
  obtain ⟨f, rfl, g3⟩ := g2
  have hin := k1.2 ki i x hi1 hx
  obtain ⟨m1, m2, m3⟩ := ab_inN hin h1 h2
  have m4 : js[x.toNatClampNeg]? = some js[x.toNatClampNeg] := List.getElem?_eq_getElem m2
  refine va_aldq X.1 X.2.1 X.2.2.2.2.2.1 k6 j (t + 1) g1 (ab_tys_at hC) m1 hd (g _ _ (by rw [m3]; exact hin.1) (by rw [m3]; exact hin.2) m4 _ _ _ _ _ _ hv0 hh (ab_pv (ab_env his2 (ab_e_set k1 ki (fun z hz => ?_))) (g3 _ _ m4)))
  rw [hx] at hz
  cases hz
  rw [m3]
  exact ⟨Int.le_refl _, Int.le_refl _⟩
theorem ab_alen (X : ab_X p s m args c cc own nL D cl (ab_tys dT rn) A Ts) {a j n : Nat} {lo hi lo0 hi0 : Int} (hn : n < 2147483648) (hd : decode cc pc = .ok (.arraylength, 1)) (hf : ab_fi hp a 0 = some (j, .inr (.inl (n, lo, hi, lo0, hi0)))) (g : ab_G p l e R s m args below meth c Q D cl A sa dT nL vs0 hs0 (pc + 1) (E ++ [((n : Int), (n : Int))]) nh hp loc ((0, E.length) :: st) nc ns) : ab_G p l e R s m args below meth c Q D cl A sa dT nL vs0 hs0 pc E nh hp loc ((1, a) :: st) nc ns := by
  intro vs hs ls sv H locs hv0 hh his
  obtain ⟨w, sv, rfl, hw, his1⟩ := ab_pop his
  obtain ⟨q, hq, rfl⟩ := ab_cv1 hw
  obtain ⟨k1, k2, k3, k4, ws, k5, k6, k7, k8⟩ := id his1
  obtain ⟨ce, g1, g2⟩ := ab_w_at k5 hf hq
  obtain ⟨f, rfl, g3⟩ := g2
  have e : Int32.ofNat n = Int32.ofInt (n : Int) := rfl
  exact va_alen X.1 X.2.1 X.2.2.2.2.2.1 k6 j 0 g1 rfl e hd (g _ _ _ _ _ _ (ab_x1 _ hv0) hh (ab_push his1 (ab_const (by omega) (by omega))))
end
end
section
def ab_su (σ π : List Nat) (v : ab_V) : ab_V := match v.1 with
  | 0 => (match σ[v.2]? with
    | some k => (0, k)
    | none => (9, 0))
  | 1 => (match π[v.2]? with
    | some k => (1, k)
    | none => (9, 0))
  | _ => v
def ab_sc (σ π : List Nat) (x : ab_C) : ab_C := match x with
  | .inl (ci, fs) => .inl (ci, fs.map (ab_su σ π))
  | .inr (.inl y) => .inr (.inl y)
  | .inr (.inr (t, js)) => .inr (.inr (t, js.map (ab_su σ π)))
def ab_leC (σ π : List Nat) (x x' : ab_C) : Bool := match x, x' with
  | .inl (ci, fs), .inl (ci', fs') => decide (ci = ci') && decide (fs.map (ab_su σ π) = fs')
  | .inr (.inl (n, lo, hi, lo0, hi0)), .inr (.inl (n', lo', hi', lo0', hi0')) => decide (n = n') && (decide (lo ≤ lo') && (decide (hi' ≤ hi) && (decide (lo0 ≤ lo0') && decide (hi0' ≤ hi0))))
  | .inr (.inr (t, js)), .inr (.inr (t', js')) => decide (t = t') && decide (js.map (ab_su σ π) = js')
  | _, _ => false
def ab_pk {α : Type} (d : α) (vs : List α) (σ : List Nat) : List α := σ.map (fun k => vs.getD k d)
theorem ab_pk_at {α : Type} {d : α} {vs : List α} {σ : List Nat} {j k : Nat} {x : α} (h1 : σ[j]? = some k) (h2 : vs[k]? = some x) : (ab_pk d vs σ)[j]? = some x := by
  unfold ab_pk
  rw [List.getElem?_map, h1]
  simp [List.getD_eq_getElem?_getD, h2]
theorem ab_pk_inv {α : Type} {d : α} {vs : List α} {σ : List Nat} {j : Nat} {x : α} (hl : ∀ k ∈ σ, k < vs.length) (h : (ab_pk d vs σ)[j]? = some x) : ∃ k, σ[j]? = some k ∧ vs[k]? = some x := by
  unfold ab_pk at h
  rw [List.getElem?_map] at h
  cases hs : σ[j]? with
  | none => rw [hs] at h; cases h
  | some k =>
    rw [hs] at h
    have hk := hl k (List.mem_of_getElem? hs)
    refine ⟨k, rfl, ?_⟩
    simp [List.getD_eq_getElem?_getD, List.getElem?_eq_getElem hk] at h
    rw [List.getElem?_eq_getElem hk, h]
theorem ab_su_dn {sa : Nat → Nat} {vs : List Int32} {hs : List Nat} {σ π : List Nat} {v : ab_V} {w : Value} (h : ab_cv sa vs hs (ab_su σ π v) = some w) : ab_cv sa (ab_pk 0 vs σ) (ab_pk 0 hs π) v = some w := by
  obtain ⟨t, k⟩ := v
  rcases t with _ | _ | t
  · cases hs2 : σ[k]? with
    | none => simp [ab_su, hs2, ab_cv] at h
    | some j =>
      have e : ab_su σ π (0, k) = (0, j) := by simp [ab_su, hs2]
      rw [e] at h
      obtain ⟨x, h1, rfl⟩ := ab_cv0 h
      exact ab_cv0' (ab_pk_at hs2 h1)
  · cases hs2 : π[k]? with
    | none => simp [ab_su, hs2, ab_cv] at h
    | some j =>
      have e : ab_su σ π (1, k) = (1, j) := by simp [ab_su, hs2]
      rw [e] at h
      obtain ⟨x, h1, rfl⟩ := ab_cv1 h
      exact ab_cv1' (ab_pk_at hs2 h1)
  · have e : ab_su σ π (t + 2, k) = (t + 2, k) := rfl
    rw [e] at h
    rcases t with _ | _ | t
    · exact h
    · exact h
    · cases h
theorem ab_su_dnL {sa : Nat → Nat} {vs : List Int32} {hs : List Nat} {σ π : List Nat} {as : List ab_V} {ws : List Value} (h : (as.map (ab_su σ π)).map (ab_cv sa vs hs) = ws.map some) : as.map (ab_cv sa (ab_pk 0 vs σ) (ab_pk 0 hs π)) = ws.map some := by
  induction as generalizing ws with
  | nil => exact h
  | cons a r ih =>
    cases ws with
    | nil => cases h
    | cons w ws =>
      simp only [List.map_cons, List.cons.injEq] at h ⊢
      exact ⟨ab_su_dn h.1, ih h.2⟩
theorem ab_le_dn {sa : Nat → Nat} {dT : Nat → ClassId} {vs : List Int32} {hs : List Nat} {σ π : List Nat} {x x' : ab_C} {e : va_E} (hl : ab_leC σ π x x' = true) (h : ab_ce sa dT vs hs x' e) : ab_ce sa dT (ab_pk 0 vs σ) (ab_pk 0 hs π) x e := by
  rcases x with ⟨ci, fs⟩ | ⟨n, lo, hi, lo0, hi0⟩ | ⟨t, js⟩ <;> rcases x' with ⟨ci', fs'⟩ | ⟨n', lo', hi', lo0', hi0'⟩ | ⟨t', js'⟩ <;> simp only [ab_leC, Bool.and_eq_true, decide_eq_true_eq] at hl <;> try (exact absurd hl (by decide))
  · obtain ⟨rfl, rfl⟩ := hl
    obtain ⟨ws, h1, h2⟩ := h
    exact ⟨ws, h1, ab_su_dnL h2⟩
  · obtain ⟨rfl, h3, h4, h5, h6⟩ := hl
    obtain ⟨f, h1, h2⟩ := h
    refine ⟨f, h1, fun i hi => ?_⟩
    have h7 := h2 i hi
    unfold ab_b5 ab_in at *
    split at h7 <;> rename_i hz
    · rw [if_pos hz]; exact ⟨Int.le_trans h5 h7.1, Int.le_trans h7.2 h6⟩
    · rw [if_neg hz]; exact ⟨Int.le_trans h3 h7.1, Int.le_trans h7.2 h4⟩
  · obtain ⟨rfl, rfl⟩ := hl
    obtain ⟨f, h1, h2⟩ := h
    refine ⟨f, by rw [h1, List.length_map], fun i a hi => ab_su_dn (h2 i _ ?_)⟩
    rw [List.getElem?_map, hi]
    rfl
def ab_po (hp : ab_H) (π : List Nat) (q : Nat × ab_C) : Nat := match π[q.1]? with
  | some b => (match ab_fi hp b 0 with
    | some r => r.1
    | none => hp.length)
  | none => hp.length
def ab_ps (hp : ab_H) (π : List Nat) (hp0 : ab_H) : List Nat := hp0.map (ab_po hp π)
def ab_ck1 (σ π : List Nat) (hp : ab_H) (q : Nat × ab_C) : Bool := match π[q.1]? with
  | some b => (match ab_fi hp b 0 with
    | some r => ab_leC σ π q.2 r.2
    | none => false)
  | none => false
def ab_ck (σ π : List Nat) (hp0 hp : ab_H) : Bool := hp0.all (ab_ck1 σ π hp) && va_nd (ab_ps hp π hp0)
def ab_pw (ws : va_W) (is : List Nat) : va_W := is.map (fun i => ws.getD i (0, .inr (0, [])))
theorem ab_ck1_ok {sa : Nat → Nat} {dT : Nat → ClassId} {vs : List Int32} {hs : List Nat} {σ π : List Nat} {hp : ab_H} {ws : va_W} {q : Nat × ab_C} (hw : ab_w sa dT vs hs hp ws) (h : ab_ck1 σ π hp q = true) : ∃ (a : Nat) (e : va_E), (ab_pk 0 hs π)[q.1]? = some a ∧ ws[ab_po hp π q]? = some (a, e) ∧ ab_ce sa dT (ab_pk 0 vs σ) (ab_pk 0 hs π) q.2 e := by
  unfold ab_ck1 at h
  cases h1 : π[q.1]? with
  | none => rw [h1] at h; cases h
  | some b =>
    rw [h1] at h
    dsimp only at h
    cases h2 : ab_fi hp b 0 with
    | none => rw [h2] at h; cases h
    | some r =>
      rw [h2] at h
      obtain ⟨i, x⟩ := r
      obtain ⟨a, e, g1, g2, g3⟩ := hw.2 i b x (ab_fi0 h2)
      refine ⟨a, e, ab_pk_at h1 g1, ?_, ab_le_dn h g3⟩
      have : ab_po hp π q = i := by unfold ab_po; rw [h1]; dsimp only; rw [h2]
      rw [this]
      exact g2
theorem ab_ck_ok {sa : Nat → Nat} {dT : Nat → ClassId} {vs : List Int32} {hs : List Nat} {σ π : List Nat} {hp0 hp : ab_H} {ws : va_W} (hw : ab_w sa dT vs hs hp ws) (h : ab_ck σ π hp0 hp = true) : va_nd (ab_ps hp π hp0) = true ∧ (ab_ps hp π hp0).map (fun i => ws[i]?) = (ab_pw ws (ab_ps hp π hp0)).map some ∧ ab_w sa dT (ab_pk 0 vs σ) (ab_pk 0 hs π) hp0 (ab_pw ws (ab_ps hp π hp0)) := by
  unfold ab_ck at h
  rw [Bool.and_eq_true] at h
  obtain ⟨h1, h2⟩ := h
  rw [List.all_eq_true] at h1
  have key : ∀ (j : Nat) (q : Nat × ab_C), hp0[j]? = some q → ∃ (a : Nat) (e : va_E), (ab_pk 0 hs π)[q.1]? = some a ∧ ws[ab_po hp π q]? = some (a, e) ∧ (ab_pw ws (ab_ps hp π hp0))[j]? = some (a, e) ∧ ab_ce sa dT (ab_pk 0 vs σ) (ab_pk 0 hs π) q.2 e := by
    intro j q hj
    obtain ⟨a, e, g1, g2, g3⟩ := ab_ck1_ok hw (h1 q (List.mem_of_getElem? hj))
    refine ⟨a, e, g1, g2, ?_, g3⟩
    unfold ab_pw ab_ps
    rw [List.getElem?_map, List.getElem?_map, hj]
    simp [List.getD_eq_getElem?_getD, g2]
  refine ⟨h2, ?_, ?_, ?_⟩
  · apply List.ext_getElem?
    intro j
    cases hj : hp0[j]? with
    | none =>
      have hl : hp0.length ≤ j := List.getElem?_eq_none_iff.mp hj
      rw [List.getElem?_eq_none (by simp [ab_ps]; exact hl), List.getElem?_eq_none (by simp [ab_pw, ab_ps]; exact hl)]
    | some q =>
      obtain ⟨a, e, g1, g2, g3, g4⟩ := key j q hj
      rw [List.getElem?_map, List.getElem?_map, g3]
      unfold ab_ps
      rw [List.getElem?_map, hj]
      simp [g2]
  · simp [ab_pw, ab_ps]
  · intro j a x hj
    obtain ⟨b, e, g1, g2, g3, g4⟩ := key j (a, x) hj
    exact ⟨b, e, g1, g3, g4⟩
def ab_ek (σ : List Nat) (E0 E : List ab_I) : Bool := decide (σ.length = E0.length) && (σ.zip E0).all (fun q => match E[q.1]? with
  | some j => decide (q.2.1 ≤ j.1) && decide (j.2 ≤ q.2.2)
  | none => false)
theorem ab_zip_at {α β : Type} {l : List α} {r : List β} {k : Nat} {x : α} {y : β} (h1 : l[k]? = some x) (h2 : r[k]? = some y) : (x, y) ∈ l.zip r := by
  apply List.mem_of_getElem? (i := k)
  rw [List.getElem?_zip_eq_some]
  exact ⟨h1, h2⟩
theorem ab_ek_ok {σ : List Nat} {E0 E : List ab_I} {vs : List Int32} (he : ab_e E vs) (h : ab_ek σ E0 E = true) : ab_e E0 (ab_pk 0 vs σ) ∧ ∀ k ∈ σ, k < vs.length := by
  unfold ab_ek at h
  rw [Bool.and_eq_true, decide_eq_true_eq, List.all_eq_true] at h
  obtain ⟨h1, h2⟩ := h
  have key : ∀ (j k : Nat), σ[j]? = some k → ∃ (i0 i : ab_I), E0[j]? = some i0 ∧ E[k]? = some i ∧ i0.1 ≤ i.1 ∧ i.2 ≤ i0.2 := by
    intro j k hj
    have hl : j < E0.length := by rw [← h1]; exact (List.getElem?_eq_some_iff.mp hj).1
    have h3 := h2 (k, E0[j]) (ab_zip_at hj (List.getElem?_eq_getElem hl))
    dsimp only at h3
    cases h4 : E[k]? with
    | none => rw [h4] at h3; cases h3
    | some i =>
      rw [h4] at h3
      simp only [Bool.and_eq_true, decide_eq_true_eq] at h3
      exact ⟨E0[j], i, List.getElem?_eq_getElem hl, rfl, h3.1, h3.2⟩
  have hlt : ∀ k ∈ σ, k < vs.length := by
    intro k hk
    obtain ⟨j, hj⟩ := List.getElem?_of_mem hk
    obtain ⟨i0, i, -, g2, -⟩ := key j k hj
    rw [he.1]
    exact (List.getElem?_eq_some_iff.mp g2).1
  refine ⟨⟨by simp [ab_pk, h1], fun j i0 x g1 g2 => ?_⟩, hlt⟩
  obtain ⟨k, g3, g4⟩ := ab_pk_inv hlt g2
  obtain ⟨i1, i, g5, g6, g7, g8⟩ := key j k g3
  rw [g1] at g5
  cases g5
  have := he.2 k i x g6 g4
  exact ⟨Int.le_trans g7 this.1, Int.le_trans this.2 g8⟩
def ab_me : List (Nat × ab_I) → List ab_I → List ab_I
  | [], E => E
  | q :: r, E => ab_me r (match E[q.1]? with
    | some j => E.set q.1 (max q.2.1 j.1, min q.2.2 j.2)
    | none => E)
theorem ab_me_ok : ∀ (l : List (Nat × ab_I)) (E : List ab_I) (vs : List Int32), ab_e E vs → (∀ q ∈ l, ∀ x, vs[q.1]? = some x → ab_in q.2 x) → ab_e (ab_me l E) vs
  | [], _, _, h, _ => h
  | q :: r, E, vs, h, hq => by
    unfold ab_me
    refine ab_me_ok r _ vs ?_ (fun q' h' => hq q' (List.mem_cons_of_mem _ h'))
    split
    · rename_i j hj
      refine ab_e_set h q.1 (fun x hx => ?_)
      have h1 := hq q List.mem_cons_self x hx
      have h2 := h.2 q.1 j x hj hx
      unfold ab_in at *
      dsimp only
      omega
    · exact h
def ab_gr (σ : List Nat) (N k : Nat) : List Nat := σ ++ (List.range k).map (N + ·)
theorem ab_gr_at {α : Type} {σ : List Nat} {d : α} {vs nv : List α} {j : Nat} {x : α} (hl : ∀ k ∈ σ, k < vs.length) (h : (ab_pk d vs σ ++ nv)[j]? = some x) {N k : Nat} (hN : vs.length = N) (hk : nv.length ≤ k) : ∃ i, (ab_gr σ N k)[j]? = some i ∧ (vs ++ nv)[i]? = some x := by
  have hlen : (ab_pk d vs σ).length = σ.length := by simp [ab_pk]
  by_cases hj : j < σ.length
  · rw [List.getElem?_append_left (by rw [hlen]; exact hj)] at h
    obtain ⟨i, g1, g2⟩ := ab_pk_inv hl h
    exact ⟨i, ab_app _ g1, ab_app _ g2⟩
  · rw [List.getElem?_append_right (by rw [hlen]; omega), hlen] at h
    have hjl := (List.getElem?_eq_some_iff.mp h).1
    refine ⟨N + (j - σ.length), ?_, ?_⟩
    · unfold ab_gr
      rw [List.getElem?_append_right (by omega), List.getElem?_map, List.getElem?_range (by omega)]
      rfl
    · rw [List.getElem?_append_right (by omega)]
      have : N + (j - σ.length) - vs.length = j - σ.length := by omega
      rw [this]
      exact h
theorem ab_su_up {sa : Nat → Nat} {vs nv : List Int32} {hs nhs : List Nat} {σ π : List Nat} {N k M kk : Nat} (hl : ∀ k ∈ σ, k < vs.length) (hl2 : ∀ k ∈ π, k < hs.length) (hN : vs.length = N) (hk : nv.length ≤ k) (hM : hs.length = M) (hkk : nhs.length ≤ kk) {v : ab_V} {w : Value} (h : ab_cv sa (ab_pk 0 vs σ ++ nv) (ab_pk 0 hs π ++ nhs) v = some w) : ab_cv sa (vs ++ nv) (hs ++ nhs) (ab_su (ab_gr σ N k) (ab_gr π M kk) v) = some w := by
  obtain ⟨t, j⟩ := v
  rcases ab_tag h with e | e | e | e <;> dsimp only at e <;> subst e
  · obtain ⟨x, h1, rfl⟩ := ab_cv0 h
    obtain ⟨i, g1, g2⟩ := ab_gr_at hl h1 hN hk
    have e : ab_su (ab_gr σ N k) (ab_gr π M kk) (0, j) = (0, i) := by simp [ab_su, g1]
    rw [e]
    exact ab_cv0' g2
  · obtain ⟨x, h1, rfl⟩ := ab_cv1 h
    obtain ⟨i, g1, g2⟩ := ab_gr_at hl2 h1 hM hkk
    have e : ab_su (ab_gr σ N k) (ab_gr π M kk) (1, j) = (1, i) := by simp [ab_su, g1]
    rw [e]
    exact ab_cv1' g2
  · exact h
  · exact h
theorem ab_su_upL {sa : Nat → Nat} {vs vs' : List Int32} {hs hs' : List Nat} {σ π : List Nat} (hu : ∀ (v : ab_V) (w : Value), ab_cv sa vs hs v = some w → ab_cv sa vs' hs' (ab_su σ π v) = some w) {as : List ab_V} {ws : List Value} (h : as.map (ab_cv sa vs hs) = ws.map some) : (as.map (ab_su σ π)).map (ab_cv sa vs' hs') = ws.map some := by
  induction as generalizing ws with
  | nil => exact h
  | cons a r ih =>
    cases ws with
    | nil => cases h
    | cons w ws =>
      simp only [List.map_cons, List.cons.injEq] at h ⊢
      exact ⟨hu _ _ h.1, ih h.2⟩
theorem ab_sc_up {sa : Nat → Nat} {dT : Nat → ClassId} {vs vs' : List Int32} {hs hs' : List Nat} {σ π : List Nat} (hu : ∀ (v : ab_V) (w : Value), ab_cv sa vs hs v = some w → ab_cv sa vs' hs' (ab_su σ π v) = some w) {x : ab_C} {e : va_E} (h : ab_ce sa dT vs hs x e) : ab_ce sa dT vs' hs' (ab_sc σ π x) e := by
  rcases x with ⟨ci, fs⟩ | ⟨n, lo, hi, lo0, hi0⟩ | ⟨t, js⟩
  · obtain ⟨ws, h1, h3⟩ := h
    exact ⟨ws, h1, ab_su_upL hu h3⟩
  · exact h
  · obtain ⟨f, h1, h3⟩ := h
    refine ⟨f, by rw [h1, List.length_map], fun i a hi => ?_⟩
    rw [List.getElem?_map] at hi
    cases hj : js[i]? with
    | none => rw [hj] at hi; cases hi
    | some b =>
      rw [hj] at hi
      cases hi
      exact hu _ _ (h3 i b hj)
def ab_sq (σ π : List Nat) (q : Nat × ab_C) : Nat × ab_C := ((π[q.1]?).getD 0, ab_sc σ π q.2)
theorem ab_sq_up {sa : Nat → Nat} {dT : Nat → ClassId} {vs vs' : List Int32} {hs hs' : List Nat} {σ π : List Nat} (hu : ∀ (v : ab_V) (w : Value), ab_cv sa vs hs v = some w → ab_cv sa vs' hs' (ab_su σ π v) = some w) {hp : ab_H} {ws : va_W} (h : ab_w sa dT vs hs hp ws) : ab_w sa dT vs' hs' (hp.map (ab_sq σ π)) ws := by
  refine ⟨by rw [List.length_map]; exact h.1, fun j a x hj => ?_⟩
  rw [List.getElem?_map] at hj
  cases h0 : hp[j]? with
  | none => rw [h0] at hj; cases hj
  | some q =>
    rw [h0] at hj
    obtain ⟨b, y⟩ := q
    cases hj
    obtain ⟨q, e, g1, g2, g3⟩ := h.2 j b y h0
    refine ⟨q, e, ?_, g2, ab_sc_up hu g3⟩
    have g4 := hu (1, b) _ (ab_cv1' g1)
    cases hb : π[b]? with
    | none => simp [ab_su, hb, ab_cv] at g4
    | some i =>
      have e : ab_su σ π (1, b) = (1, i) := by simp [ab_su, hb]
      rw [e] at g4
      obtain ⟨x, g5, g6⟩ := ab_cv1 g4
      cases g6
      simpa [hb] using g5
def ab_rs (n : Nat) (is : List Nat) : List Nat := (List.range n).filter (fun i => !(is.contains i))
theorem ab_nd_filter (f : Nat → Bool) : ∀ l : List Nat, va_nd l = true → va_nd (l.filter f) = true
  | [], _ => rfl
  | a :: l, h => by
    simp only [va_nd, Bool.and_eq_true, decide_eq_true_eq] at h
    rw [List.filter_cons]
    split
    · simp only [va_nd, Bool.and_eq_true, decide_eq_true_eq]
      exact ⟨fun q => h.1 (List.mem_filter.mp q).1, ab_nd_filter f l h.2⟩
    · exact ab_nd_filter f l h.2
theorem ab_nd_of : ∀ l : List Nat, l.Nodup → va_nd l = true
  | [], _ => rfl
  | a :: l, h => by
    simp only [va_nd, Bool.and_eq_true, decide_eq_true_eq]
    exact ⟨(List.nodup_cons.mp h).1, ab_nd_of l (List.nodup_cons.mp h).2⟩
theorem ab_rs_nd (n : Nat) (is : List Nat) : va_nd (ab_rs n is) = true := ab_nd_filter _ _ (ab_nd_of _ List.nodup_range)
theorem ab_rs_dis {n : Nat} {is : List Nat} : ∀ i ∈ ab_rs n is, i ∉ is := by
  intro i hi h
  have := (List.mem_filter.mp hi).2
  simp [h] at this
theorem ab_rs_w {sa : Nat → Nat} {dT : Nat → ClassId} {vs : List Int32} {hs : List Nat} {hp : ab_H} {ws : va_W} (h : ab_w sa dT vs hs hp ws) (is : List Nat) (hb : ∀ i ∈ is, i < hp.length) : is.map (fun i => ws[i]?) = (ab_pw ws is).map some ∧ ab_w sa dT vs hs (is.map (fun i => hp.getD i (0, .inl (0, [])))) (ab_pw ws is) := by
  refine ⟨?_, by simp [ab_pw], fun j a x hj => ?_⟩
  · unfold ab_pw
    rw [List.map_map]
    apply List.map_congr_left
    intro i hi
    have hl : i < ws.length := by rw [h.1]; exact hb i hi
    simp [List.getD_eq_getElem?_getD, List.getElem?_eq_getElem hl]
  · rw [List.getElem?_map] at hj
    cases hi : is[j]? with
    | none => rw [hi] at hj; cases hj
    | some i =>
      rw [hi] at hj
      have hl : i < hp.length := hb i (List.mem_of_getElem? hi)
      have h0 : hp[i]? = some (a, x) := by
        simp [List.getD_eq_getElem?_getD, List.getElem?_eq_getElem hl] at hj
        rw [List.getElem?_eq_getElem hl, hj]
      obtain ⟨q, e, g1, g2, g3⟩ := h.2 i a x h0
      refine ⟨q, e, g1, ?_, g3⟩
      unfold ab_pw
      rw [List.getElem?_map, hi]
      simp [List.getD_eq_getElem?_getD, g2]
abbrev ab_P : Type := List ab_I × Nat × ab_H × Option ab_V
abbrev ab_SL : Type := List (String × String × String × List Int)
abbrev ab_NF : Type := List (String × Nat × String × String × String × String)
abbrev ab_NM : Type := List (String × Nat × MethodName × String)
def ab_SX (rn : List String) (SL : ab_SL) (NF : ab_NF) (NM : ab_NM) (sa : Nat → Nat) (A : Nat → Prop) (U : State) (H : Heap) : Prop :=
  (∀ C ∈ rn, va_AO C U) ∧ (∀ r ∈ NF, va_Nw (.fieldLinkNest r.1 r.2.1 r.2.2.1 r.2.2.2.1 r.2.2.2.2.1 r.2.2.2.2.2) U) ∧ (∀ r ∈ NM, va_Nw (.methodLinkNest r.1 r.2.1 r.2.2.1 r.2.2.2) U) ∧
    ∀ (t : Nat) (r : String × String × String × List Int), SL[t]? = some r → va_Z r.1 r.2.1 r.2.2.1 (.ref (sa t)) A U H ∧ va_T .int (sa t) r.2.2.2.length (fun j => .int (Int32.ofInt (r.2.2.2.getD j 0))) A U H
def ab_B (cl : List vw_C) (rn : List String) (SL : ab_SL) (NF : ab_NF) (NM : ab_NM) (D : va_G) (sa : Nat → Nat) (dT : Nat → ClassId) (ws : va_W) (sz : Nat) (U : State) : Prop :=
  U.heap.size = sz ∧ va_P D cl ws U.heap ∧ va_K D cl (ab_tys dT rn) U ∧ va_D (fun _ => True) ws ∧ ab_SX rn SL NF NM sa (va_A ws sz) U U.heap
def ab_Q (cl : List vw_C) (D : va_G) (sa : Nat → Nat) (dT : Nat → ClassId) (vs0 : List Int32) (hs0 : List Nat) (ws : va_W) (sz : Nat) (posts : List ab_P) : Array Value → State → Outcome → State → Prop := fun _ st oc t =>
  (∃ P ∈ posts, ∃ (nv : List Int32) (nhs : List Nat) (w1 : va_W) (rv : Option Value), ab_e P.1 (vs0 ++ nv) ∧ (hs0 ++ nhs).length = P.2.1 ∧ P.2.2.2.map (ab_cv sa (vs0 ++ nv) (hs0 ++ nhs)) = rv.map some ∧ oc = .returned rv ∧ ab_w sa dT (vs0 ++ nv) (hs0 ++ nhs) P.2.2.1 w1 ∧ va_P D cl w1 t.heap ∧ va_D (va_A ws sz) w1) ∧ va_F (va_A ws sz) st t
def ab_met (l : Launch) (cl : List vw_C) (rn : List String) (SL : ab_SL) (NF : ab_NF) (NM : ab_NM) (Ts : List Cond) (y : MethodName) (bytes : ByteArray) (maxL : Nat) (ret : Option FieldType) (E0 : List ab_I) (nh0 : Nat) (hp0 : ab_H) (as0 : List ab_V) (posts : List ab_P) (rm : Room) : Prop :=
  ∀ (D : va_G) (sa : Nat → Nat) (dT : Nat → ClassId) (vs0 : List Int32) (hs0 : List Nat) (ws : va_W) (vals : List Value) (sz : Nat), ab_e E0 vs0 → hs0.length = nh0 → ab_w sa dT vs0 hs0 hp0 ws → as0.map (ab_cv sa vs0 hs0) = vals.map some →
    Met l y (.code y bytes maxL ret :: Ts) rm (va_Pc vals (ab_B cl rn SL NF NM D sa dT ws sz)) (ab_Q cl D sa dT vs0 hs0 ws sz posts) rm.cells rm.slots (va_A ws sz)
theorem ab_SX_same {rn : List String} {SL : ab_SL} {NF : ab_NF} {NM : ab_NM} {sa : Nat → Nat} {A : Nat → Prop} {U U' : State} {H : Heap} (hvm : U.vm = U'.vm) (h : ab_SX rn SL NF NM sa A U H) : ab_SX rn SL NF NM sa A U' H :=
  have ha : U.vm.Alike U'.vm := by rw [hvm]; exact Vm.Alike.refl _
  ⟨fun r hr => (h.1 r hr).moved ha, fun r hr => va_Nw.same rfl hvm (h.2.1 r hr), fun r hr => va_Nw.same rfl hvm (h.2.2.1 r hr), fun t r ht => ⟨(h.2.2.2 t r ht).1.moved ha, (h.2.2.2 t r ht).2.moved ha⟩⟩
theorem ab_SX_warm {rn : List String} {SL : ab_SL} {NF : ab_NF} {NM : ab_NM} {sa : Nat → Nat} {A B : Nat → Prop} {s U : State} {H H1 : Heap} (hW : s.WarmedH U.vm) (hq : ∀ a : Nat, a < H.size → ¬ A a → H1[a]? = H[a]?) (hAB : ∀ q, B q → A q) (h : ab_SX rn SL NF NM sa A s H) : ab_SX rn SL NF NM sa B U H1 :=
  ⟨fun r hr => (h.1 r hr).moved hW.alike, fun r hr => va_Nw.warmF hW (h.2.1 r hr), fun r hr => va_Nw.warmM hW (h.2.2.1 r hr), fun t r ht => ⟨(((h.2.2.2 t r ht).1.kept hq).narrow hAB).moved hW.alike, (((h.2.2.2 t r ht).2.kept hq).narrow hAB).moved hW.alike⟩⟩
theorem ab_B_blind {cl : List vw_C} {rn : List String} {SL : ab_SL} {NF : ab_NF} {NM : ab_NM} {D : va_G} {sa : Nat → Nat} {dT : Nat → ClassId} {ws : va_W} {sz : Nat} {vals : List Value} : FrameBlind (va_Pc vals (ab_B cl rn SL NF NM D sa dT ws sz)) := by
  intro a U g mk q
  obtain ⟨q0, q1, qP, qK, qD, qS⟩ := q
  exact ⟨q0, q1, qP, va_K.moved (u := U) (U := U.calling g mk a) (Vm.Alike.refl U.vm) qK, qD, ab_SX_same (U := U) (U' := U.calling g mk a) rfl qS⟩
def ab_ML (s : State) (args : Array Value) (own : String) (cl : List vw_C) (kd ix : Nat) (y : MethodName) (ret : Option FieldType) (n rci : Nat) : Prop :=
  ((Cond.methodLink own ix y).before args s = true ∨ ∃ host, (Cond.methodLinkNest own ix y host).before args s = true) ∧ (Cond.initialized y.cls).before args s = true ∧ (y.cls ≠ "java/lang/invoke/MethodHandle" ∧ y.cls ≠ "java/lang/invoke/VarHandle" ∧ (parseMethodDescriptor y.desc).map (fun d => d.parameters.length) = some n) ∧
    (kd = 0 → (Cond.instanceMethod y).before args s = true ∧ ∃ q : vw_C, cl[rci]? = some q ∧ (Cond.selects q.1 y y).before args s = true) ∧ (kd = 1 → (Cond.static y).before args s = true) ∧ (kd = 2 → y.name = "<init>" ∧ (Cond.instanceMethod y).before args s = true ∧ ret = none)
section
variable {p : Program} {l : Launch} {e : Env} {R : Room} {s : State} {m : MethodId} {args : Array Value} {below : List Frame} {meth : Method} {c : Code} {Q : State → Prop} {cc : ByteArray} {own : String} {nL : Nat} {D : va_G} {cl : List vw_C} {rn : List String} {A : Nat → Prop} {Ts : List Cond} {sa : Nat → Nat} {dT : Nat → ClassId} {vs0 : List Int32} {hs0 : List Nat} {pc : Nat} {E : List ab_I} {nh nc ns : Nat} {hp : ab_H} {loc : List (Nat × ab_V)} {st : List ab_V}
variable {y : MethodName} {bytes : ByteArray} {maxL n ix rci mc ms cells slots : Nat} {ret : Option FieldType} {Tc : List Cond} {rm : Room} {Pc : Array Value → State → Prop} {Qc : Array Value → State → Outcome → State → Prop} {free : Addr → Prop} {H : Heap} {locs : List Loc} {ls : Array Slot} {As rest : List Value}
theorem ab_runS (X : ab_X p s m args c cc own nL D cl (ab_tys dT rn) A Ts) (hM : Met l y (.code y bytes maxL ret :: Tc) rm Pc Qc rm.cells rm.slots free) (hG : GoodIn Ts (.code y bytes maxL ret :: Tc)) (hL : ab_ML s args own cl 1 ix y ret n rci) (hR : rm.frames + 1 ≤ R.frames ∧ 8 + (maxL + 11) + rm.locals ≤ R.locals) (hp : PreS s H Pc As) (hn : As.length = n) (hsz : ls.size = nL) (hr : (rest.map fun v => v.category).sum ≤ 8) (hd : decode cc pc = .ok (.invokestatic ix, 3)) (hf : cells + rm.cells ≤ R.cells ∧ slots + rm.slots ≤ R.slots) :
    va_Run p l e R s m args below meth c H locs cells slots rm.cells rm.slots (F0 m pc ls (As.reverse ++ rest)) rest (Qc As.toArray) free := by
  obtain ⟨L1, L2, L3, -, L4, -⟩ := hL
  have S : CallFix p m c cc nL s args Ts own := ⟨X.1, X.2.1, X.2.2.1, X.2.2.2.1, X.2.2.2.2.1⟩
  rcases L1 with L1 | ⟨host, L1⟩
  · exact va_runS S hM ⟨callB_of n X.2.2.2.2.1 hG rfl rfl rfl L2 L1 L3 hR, L4 rfl⟩ hp rfl hn hsz rfl (lv_room hr) hd hf
  · exact va_runSN (host := host) S hM ⟨va_cnB n X.2.2.2.2.1 hG rfl rfl rfl (va_Nw.of rfl L1) L2 L3 hR, L4 rfl, trivial⟩ hp rfl hn hsz rfl (lv_room hr) hd hf
theorem ab_runI {b : Addr} {As : List Value} (X : ab_X p s m args c cc own nL D cl (ab_tys dT rn) A Ts) (hM : Met l y (.code y bytes maxL none :: Tc) rm Pc Qc rm.cells rm.slots free) (hG : GoodIn Ts (.code y bytes maxL none :: Tc)) (hL : ab_ML s args own cl 2 ix y ret n rci) (hR : rm.frames + 1 ≤ R.frames ∧ 8 + (maxL + 11) + rm.locals ≤ R.locals) (hp : PreS s H Pc (.ref b :: As)) (hn : As.length = n) (hsz : ls.size = nL) (hr : (rest.map fun v => v.category).sum ≤ 8) (hd : decode cc pc = .ok (.invokespecial ix, 3)) (hf : cells + rm.cells ≤ R.cells ∧ slots + rm.slots ≤ R.slots) :
    va_Run p l e R s m args below meth c H locs cells slots rm.cells rm.slots (F0 m pc ls (As.reverse ++ .ref b :: rest)) rest (Qc (Value.ref b :: As).toArray) free := by
  obtain ⟨L1, L2, L3, -, -, L4⟩ := hL
  have S : CallFix p m c cc nL s args Ts own := ⟨X.1, X.2.1, X.2.2.1, X.2.2.2.1, X.2.2.2.2.1⟩
  rcases L1 with L1 | ⟨host, L1⟩
  · exact va_runI S hM ⟨callB_of n X.2.2.2.2.1 hG rfl rfl rfl L2 L1 L3 hR, (L4 rfl).1, (L4 rfl).2.1⟩ hp rfl hn hsz rfl (lv_room hr) hd hf
  · exact va_runIN (host := host) S hM ⟨va_cnB n X.2.2.2.2.1 hG rfl rfl rfl (va_Nw.of rfl L1) L2 L3 hR, (L4 rfl).1, (L4 rfl).2.1⟩ hp rfl hn hsz rfl (lv_room hr) hd hf
theorem ab_runV {b : Addr} {As : List Value} (X : ab_X p s m args c cc own nL D cl (ab_tys dT rn) A Ts) (hM : Met l y (.code y bytes maxL ret :: Tc) rm Pc Qc rm.cells rm.slots free) (hG : GoodIn Ts (.code y bytes maxL ret :: Tc)) (hL : ab_ML s args own cl 0 ix y ret n rci) (hR : rm.frames + 1 ≤ R.frames ∧ 8 + (maxL + 11) + rm.locals ≤ R.locals) (hp : PreS s H Pc (.ref b :: As)) (hb : ∀ q : vw_C, cl[rci]? = some q → ∃ cellB : Cell, H[b]? = some cellB ∧ cellB.vm.isStatics = false ∧ s.vm.findClass q.1 = some cellB.cls) (hn : As.length = n) (hsz : ls.size = nL) (hr : (rest.map fun v => v.category).sum ≤ 8) (hd : decode cc pc = .ok (.invokevirtual ix, 3)) (hf : cells + rm.cells ≤ R.cells ∧ slots + rm.slots ≤ R.slots) :
    va_Run p l e R s m args below meth c H locs cells slots rm.cells rm.slots (F0 m pc ls (As.reverse ++ .ref b :: rest)) rest (Qc (Value.ref b :: As).toArray) free := by
  obtain ⟨L1, L2, L3, L4, -⟩ := hL
  obtain ⟨L5, q, L6, L7⟩ := L4 rfl
  have S : CallFix p m c cc nL s args Ts own := ⟨X.1, X.2.1, X.2.2.1, X.2.2.2.1, X.2.2.2.2.1⟩
  have hpv : PreV s H q.1 b Pc As := ⟨hp.1, hb q L6, hp.2⟩
  rcases L1 with L1 | ⟨host, L1⟩
  · exact va_runV S hM ⟨callB_of n X.2.2.2.2.1 hG rfl rfl rfl L2 L1 L3 hR, L5, L7⟩ hpv rfl hn hsz rfl (lv_room hr) hd hf
  · exact va_runVN (host := host) S hM ⟨va_cnB n X.2.2.2.2.1 hG rfl rfl rfl (va_Nw.of rfl L1) L2 L3 hR, L5, L7⟩ hpv rfl hn hsz rfl (lv_room hr) hd hf
theorem ab_cont {A1 : Nat → Prop} {Qa : State → Outcome → State → Prop} {st0 : List Value} (hr : va_Run p l e R s m args below meth c H locs cells slots mc ms (F0 m pc ls st0) rest Qa free) (hS : va_S A s.heap H locs) (hA : ∀ q, A1 q → A q) (hf : ∀ q, free q → A q) (hF : ∀ (st₀ t : State) (v : Option Value), Qa st₀ (.returned v) t → va_F A1 st₀ t)
    (kk : ∀ (v : Option Value) (st₀ t : State) (locs1 : List Loc), st₀.heap = H → Qa st₀ (.returned v) t → (∀ q : Nat, q < H.size → ¬ A1 q → t.heap[q]? = H[q]?) → va_S A s.heap t.heap locs1 → W p l e R s m args below meth c t.heap locs1 (cells + mc) (slots + ms) Q (F0 m (pc + 3) ls (v.toList ++ rest))) : W p l e R s m args below meth c H locs cells slots Q (F0 m pc ls st0) := by
  intro T hT X
  obtain ⟨v, st₀, t, T', L, h0, X', hL, e1, e2, hq, st⟩ := hr T hT X
  obtain ⟨hz, hk⟩ := hF st₀ t v hq
  rw [h0] at hz hk
  obtain ⟨t2, a1, b1⟩ := kk v st₀ t (locs ++ L) h0 hq hk
    ⟨Nat.le_trans hS.1 hz, fun q h1 h2 => by rw [hk q (Nat.lt_of_lt_of_le h1 hS.1) (fun z => h2 (hA q z))]; exact hS.2.1 q h1 h2, fun q hq => by
      rcases List.mem_append.mp hq with h | h
      · exact hS.2.2 q h
      · exact hf _ (hL q h)⟩ T' e1 X'
  exact ⟨t2, st t2 a1, b1⟩
end
end
section
def ab_s1 (σ : List Nat) (E0 E : List ab_I) (P : ab_P) : List Nat := ab_gr σ E.length (P.1.length - E0.length)
def ab_p1 (π : List Nat) (nh0 nh : Nat) (P : ab_P) : List Nat := ab_gr π nh (P.2.1 - nh0)
def ab_nE (σ : List Nat) (E0 E : List ab_I) (P : ab_P) : List ab_I := ab_me (σ.zip P.1) E ++ P.1.drop E0.length
def ab_nH (σ π : List Nat) (E0 E : List ab_I) (nh0 nh : Nat) (hp0 hp : ab_H) (P : ab_P) : ab_H := (ab_rs hp.length (ab_ps hp π hp0)).map (fun i => hp.getD i (0, .inl (0, []))) ++ P.2.2.1.map (ab_sq (ab_s1 σ E0 E P) (ab_p1 π nh0 nh P))
def ab_nr (σ π : List Nat) (E0 E : List ab_I) (nh0 nh : Nat) (P : ab_P) : List ab_V := (P.2.2.2.map (ab_su (ab_s1 σ E0 E P) (ab_p1 π nh0 nh P))).toList
def ab_em (E : List ab_I) : Bool := E.all (fun i => decide (i.1 ≤ i.2))
theorem ab_em_ok {E : List ab_I} {vs : List Int32} (h : ab_e E vs) : ab_em E = true := by
  unfold ab_em
  rw [List.all_eq_true]
  intro i hi
  obtain ⟨k, hk⟩ := List.getElem?_of_mem hi
  obtain ⟨x, -, h1, h2⟩ := ab_e_at h hk
  exact decide_eq_true (Int.le_trans h1 h2)
theorem ab_drop_e {F : List ab_I} {v1 nv : List Int32} (h : ab_e F (v1 ++ nv)) {k : Nat} (hk : v1.length = k) : ab_e (F.drop k) nv := by
  subst hk
  refine ⟨?_, fun j i x h1 h2 => h.2 (v1.length + j) i x ?_ ?_⟩
  · have := h.1
    simp at this ⊢
    omega
  · rw [List.getElem?_drop] at h1
    exact h1
  · rw [List.getElem?_append_right (by omega), Nat.add_sub_cancel_left]
    exact h2
theorem ab_fst_e {F : List ab_I} {v1 nv : List Int32} (h : ab_e F (v1 ++ nv)) {j : Nat} {i : ab_I} {x : Int32} (h1 : F[j]? = some i) (h2 : v1[j]? = some x) : ab_in i x := h.2 j i x h1 (ab_app nv h2)
theorem ab_zip_inv {α β : Type} {l : List α} {r : List β} {q : α × β} (h : q ∈ l.zip r) : ∃ k : Nat, l[k]? = some q.1 ∧ r[k]? = some q.2 := by
  obtain ⟨k, hk⟩ := List.getElem?_of_mem h
  have h2 := List.getElem?_zip_eq_some.mp hk
  exact ⟨k, h2.1, h2.2⟩
theorem ab_aft {D : va_G} {cl : List vw_C} {A : Nat → Prop} {H0 : Heap} {sa : Nat → Nat} {dT : Nat → ClassId} {nL : Nat} {vs : List Int32} {hs : List Nat} {E E0 : List ab_I} {nh nh0 : Nat} {hp hp0 : ab_H} {loc : List (Nat × ab_V)} {rest : List ab_V} {ls : Array Slot} {rvs : List Value} {H H1 : Heap} {locs1 : List Loc} {ws w1 : va_W} {σ π : List Nat} {P : ab_P} {nv : List Int32} {nhs : List Nat} {rv : Option Value}
    (h1 : ab_e E vs) (h2 : hs.length = nh) (h3 : ab_l sa vs hs nL loc ls) (h4 : rest.map (ab_cv sa vs hs) = rvs.map some) (h5 : ab_w sa dT vs hs hp ws) (h6 : va_P D cl ws H) (h7 : va_D A ws) (c1 : ab_ek σ E0 E = true) (c0 : π.length = nh0) (c2 : ∀ k ∈ π, k < nh) (c3 : ab_ck σ π hp0 hp = true)
    (q1 : ab_e P.1 (ab_pk 0 vs σ ++ nv)) (q2 : (ab_pk 0 hs π ++ nhs).length = P.2.1) (q3 : P.2.2.2.map (ab_cv sa (ab_pk 0 vs σ ++ nv) (ab_pk 0 hs π ++ nhs)) = rv.map some) (q5 : ab_w sa dT (ab_pk 0 vs σ ++ nv) (ab_pk 0 hs π ++ nhs) P.2.2.1 w1) (q6 : va_P D cl w1 H1) (q7 : va_D (va_A (ab_pw ws (ab_ps hp π hp0)) H.size) w1)
    (hk : ∀ q : Nat, q < H.size → ¬ va_A (ab_pw ws (ab_ps hp π hp0)) H.size q → H1[q]? = H[q]?) (hF : ∀ q, va_A (ab_pw ws (ab_ps hp π hp0)) H.size q → A q) (hS1 : va_S A H0 H1 locs1) :
    ab_is D cl A H0 sa dT nL (vs ++ nv) (hs ++ nhs) (ab_nE σ E0 E P) (nh + (P.2.1 - nh0)) (ab_nH σ π E0 E nh0 nh hp0 hp P) loc (ab_nr σ π E0 E nh0 nh P ++ rest) ls (rv.toList ++ rvs) H1 locs1 := by
  obtain ⟨e1, l1⟩ := ab_ek_ok h1 c1
  obtain ⟨d1, d2, d3⟩ := ab_ck_ok h5 c3
  have l2 : ∀ k ∈ π, k < hs.length := fun k h => by rw [h2]; exact c2 k h
  have n1 : (ab_pk 0 vs σ).length = E0.length := e1.1
  have n2 : (ab_pk 0 hs π).length = nh0 := by simp [ab_pk, c0]
  have n3 : nv.length = P.1.length - E0.length := by
    have := q1.1
    rw [List.length_append] at this
    omega
  have n4 : nhs.length = P.2.1 - nh0 := by
    rw [List.length_append] at q2
    omega
  have hu : ∀ (v : ab_V) (w : Value), ab_cv sa (ab_pk 0 vs σ ++ nv) (ab_pk 0 hs π ++ nhs) v = some w → ab_cv sa (vs ++ nv) (hs ++ nhs) (ab_su (ab_s1 σ E0 E P) (ab_p1 π nh0 nh P) v) = some w := fun v w h => ab_su_up l1 l2 h1.1 (by omega) h2 (by omega) h
  refine ⟨ab_e_app (ab_me_ok _ _ _ h1 (fun q hq x hx => ?_)) (ab_drop_e q1 n1), by rw [List.length_append]; omega, ab_l_mono nv nhs h3, ?_, ab_pw ws (ab_rs hp.length (ab_ps hp π hp0)) ++ w1, ?_, ?_⟩
  · obtain ⟨k, g1, g2⟩ := ab_zip_inv hq
    exact ab_fst_e q1 g2 (ab_pk_at g1 hx)
  · rw [List.map_append, List.map_append, ab_monoL nv nhs h4]
    congr 1
    unfold ab_nr
    cases hr : P.2.2.2 with
    | none =>
      rw [hr] at q3
      cases rv with
      | none => rfl
      | some w => cases q3
    | some v =>
      rw [hr] at q3
      cases rv with
      | none => cases q3
      | some w =>
        have q4 : ab_cv sa (ab_pk 0 vs σ ++ nv) (ab_pk 0 hs π ++ nhs) v = some w := by simpa using q3
        show [ab_cv sa (vs ++ nv) (hs ++ nhs) (ab_su (ab_s1 σ E0 E P) (ab_p1 π nh0 nh P) v)] = [some w]
        rw [hu v w q4]
  · have r1 := (ab_rs_w h5 (ab_rs hp.length (ab_ps hp π hp0)) (fun i hi => List.mem_range.mp (List.mem_filter.mp hi).1)).2
    exact ab_w_app (ab_w_mono nv nhs r1) (ab_sq_up hu q5)
  · have r1 := (ab_rs_w h5 (ab_rs hp.length (ab_ps hp π hp0)) (fun i hi => List.mem_range.mp (List.mem_filter.mp hi).1)).1
    obtain ⟨j1, j2⟩ := va_join (A0 := A) (wr := ab_pw ws (ab_rs hp.length (ab_ps hp π hp0))) (w1 := w1) h6 h7 (ab_ps hp π hp0) (ab_rs hp.length (ab_ps hp π hp0)) d2 r1 (ab_rs_nd _ _) (fun i hi => ab_rs_dis i hi) hk hF q6 q7
    exact ⟨j1, j2, hS1⟩
theorem ab_P_pw {D : va_G} {cl : List vw_C} {ws : va_W} {H : Heap} {is : List Nat} (h : va_P D cl ws H) (hi : is.map (fun i => ws[i]?) = (ab_pw ws is).map some) : va_P D cl (ab_pw ws is) H := by
  intro k q hk
  have h1 : (is.map (fun i => ws[i]?))[k]? = some (some q) := by rw [hi, List.getElem?_map, hk]; rfl
  rw [List.getElem?_map] at h1
  cases h2 : is[k]? with
  | none => rw [h2] at h1; cases h1
  | some i =>
    rw [h2] at h1
    exact h i q (Option.some.inj h1)
theorem ab_split {sa : Nat → Nat} {vs : List Int32} {hs : List Nat} {a b : List ab_V} {sv : List Value} (h : (a.reverse ++ b).map (ab_cv sa vs hs) = sv.map some) : ∃ va vb : List Value, sv = va.reverse ++ vb ∧ a.map (ab_cv sa vs hs) = va.map some ∧ b.map (ab_cv sa vs hs) = vb.map some := by
  have hl := ab_lenL h
  rw [List.length_append, List.length_reverse] at hl
  refine ⟨(sv.take a.length).reverse, sv.drop a.length, by rw [List.reverse_reverse, List.take_append_drop], ?_, ?_⟩
  · have h1 := congrArg (List.take a.length) h
    rw [List.map_append, List.take_append_of_le_length (by simp), List.take_of_length_le (by simp), ← List.map_take] at h1
    have h2 := congrArg List.reverse h1
    rw [← List.map_reverse, List.reverse_reverse, ← List.map_reverse] at h2
    exact h2
  · have h1 := congrArg (List.drop a.length) h
    rw [List.map_append, List.drop_append_of_le_length (by simp), List.drop_of_length_le (by simp), ← List.map_drop, List.nil_append] at h1
    exact h1
section
variable {p : Program} {l : Launch} {e : Env} {R : Room} {s : State} {m : MethodId} {args : Array Value} {below : List Frame} {meth : Method} {c : Code} {Q : State → Prop} {cc : ByteArray} {own : String} {nL : Nat} {D : va_G} {cl : List vw_C} {rn : List String} {A : Nat → Prop} {Ts : List Cond} {sa : Nat → Nat} {dT : Nat → ClassId} {vs0 : List Int32} {hs0 : List Nat} {pc : Nat} {E : List ab_I} {nh nc ns : Nat} {hp : ab_H} {loc : List (Nat × ab_V)} {st : List ab_V}
variable {SL : ab_SL} {NF : ab_NF} {NM : ab_NM} {Tc : List Cond} {y : MethodName} {bytes : ByteArray} {maxL n ix rci : Nat} {ret : Option FieldType} {E0 : List ab_I} {nh0 : Nat} {hp0 : ab_H} {as0 : List ab_V} {posts : List ab_P} {rm : Room} {σ π : List Nat} {rest : List ab_V}
theorem ab_invV (X : ab_X p s m args c cc own nL D cl (ab_tys dT rn) A Ts) (SX : ab_SX rn SL NF NM sa A s s.heap) (hM : ab_met l cl rn SL NF NM Tc y bytes maxL ret E0 nh0 hp0 as0 posts rm) (hG : GoodIn Ts (.code y bytes maxL ret :: Tc)) (hL : ab_ML s args own cl 0 ix y ret n rci) (hd : decode cc pc = .ok (.invokevirtual ix, 3)) {a0 : Nat} {fs0 : List ab_V} {j0 : Nat} (hrc : (as0.map (ab_su σ π)).head? = some (1, a0)) (hrf : ab_fi hp a0 0 = some (j0, .inl (rci, fs0))) (hn : as0.length = n + 1) (c1 : ab_ek σ E0 E = true) (c0 : π.length = nh0) (c2 : ∀ k ∈ π, k < nh) (c3 : ab_ck σ π hp0 hp = true) (hr : rest.length ≤ 8) (hR : rm.frames + 1 ≤ R.frames ∧ 8 + (maxL + 11) + rm.locals ≤ R.locals) (hcap : nc + rm.cells ≤ R.cells ∧ ns + rm.slots ≤ R.slots)
    (g : ∀ P ∈ posts, ab_em (ab_nE σ E0 E P) = true → ab_G p l e R s m args below meth c Q D cl A sa dT nL vs0 hs0 (pc + 3) (ab_nE σ E0 E P) (nh + (P.2.1 - nh0)) (ab_nH σ π E0 E nh0 nh hp0 hp P) loc (ab_nr σ π E0 E nh0 nh P ++ rest) (nc + rm.cells) (ns + rm.slots)) : ab_G p l e R s m args below meth c Q D cl A sa dT nL vs0 hs0 pc E nh hp loc ((as0.map (ab_su σ π)).reverse ++ rest) nc ns := by
  intro vs hs ls sv H locs hv hh his
  obtain ⟨h1, h2, h3, h4, ws, h5, h6, h7, h8⟩ := his
  obtain ⟨vals, rvs, rfl, ha, h4r⟩ := ab_split h4
  obtain ⟨e1, l1⟩ := ab_ek_ok h1 c1
  obtain ⟨d1, d2, d3⟩ := ab_ck_ok h5 c3
  have hP1 := ab_P_pw h6 d2
  have hD1 := h7.sub (ab_ps hp π hp0) d1 d2
  have hFc := va_free (wc := ab_pw ws (ab_ps hp π hp0)) h7 h8 X.2.2.2.2.2.2 (ab_ps hp π hp0) d2
  have M := hM D sa dT (ab_pk 0 vs σ) (ab_pk 0 hs π) (ab_pw ws (ab_ps hp π hp0)) vals H.size e1 (by simp [ab_pk, c0]) d3 (ab_su_dnL ha)
  obtain ⟨b, vals', rfl, hb⟩ : ∃ (b : Nat) (vals' : List Value), vals = .ref b :: vals' ∧ hs[a0]? = some b := by
    cases has : as0.map (ab_su σ π) with
    | nil => rw [has] at hrc; cases hrc
    | cons x r =>
      rw [has] at hrc ha
      cases hrc
      cases vals with
      | nil => cases ha
      | cons w ws2 =>
        simp only [List.map_cons, List.cons.injEq] at ha
        obtain ⟨q, g1, rfl⟩ := ab_cv1 ha.1
        exact ⟨q, ws2, rfl, g1⟩
  have hnv : vals'.length = n := by
    have := ab_lenL ha
    simp at this
    omega
  have est : (Value.ref b :: vals').reverse ++ rvs = vals'.reverse ++ .ref b :: rvs := by simp
  rw [est]
  refine ab_cont (ab_runV X M hG hL hR ⟨ab_B_blind, fun U hU hW => ⟨rfl, by rw [hU], by rw [hU]; exact hP1, va_K.moved hW.alike X.2.2.2.2.2.1, hD1.weaken (fun _ _ _ _ => trivial), by rw [hU]; exact ab_SX_warm hW h8.2.1 hFc SX⟩⟩ (fun q hq2 => by
    obtain ⟨ce, g1, g2⟩ := ab_w_at h5 hrf hb
    obtain ⟨fw, rfl, g3⟩ := g2
    exact va_recv X.2.2.2.2.2.1 h6 hq2 g1) hnv h3.1.1 (by rw [ab_cat_sum h4r]; exact hr) hd hcap) h8 hFc hFc (fun _ _ _ q => q.2) (fun v st₀ t locs1 h0 hq hk hS1 => ?_)
  obtain ⟨⟨P, hP, nv, nhs, w1, rv, q1, q2, q3, q4, q5, q6, q7⟩, -⟩ := hq
  cases q4
  have af := ab_aft h1 h2 h3 h4r h5 h6 h7 c1 c0 c2 c3 q1 q2 q3 q5 q6 q7 hk hFc hS1
  exact g P hP (ab_em_ok af.1) _ _ _ _ _ _ (ab_x1 _ hv) (ab_x1 _ hh) af
theorem ab_invS (X : ab_X p s m args c cc own nL D cl (ab_tys dT rn) A Ts) (SX : ab_SX rn SL NF NM sa A s s.heap) (hM : ab_met l cl rn SL NF NM Tc y bytes maxL ret E0 nh0 hp0 as0 posts rm) (hG : GoodIn Ts (.code y bytes maxL ret :: Tc)) (hL : ab_ML s args own cl 1 ix y ret n rci) (hd : decode cc pc = .ok (.invokestatic ix, 3)) (hn : as0.length = n) (c1 : ab_ek σ E0 E = true) (c0 : π.length = nh0) (c2 : ∀ k ∈ π, k < nh) (c3 : ab_ck σ π hp0 hp = true) (hr : rest.length ≤ 8) (hR : rm.frames + 1 ≤ R.frames ∧ 8 + (maxL + 11) + rm.locals ≤ R.locals) (hcap : nc + rm.cells ≤ R.cells ∧ ns + rm.slots ≤ R.slots)
    (g : ∀ P ∈ posts, ab_em (ab_nE σ E0 E P) = true → ab_G p l e R s m args below meth c Q D cl A sa dT nL vs0 hs0 (pc + 3) (ab_nE σ E0 E P) (nh + (P.2.1 - nh0)) (ab_nH σ π E0 E nh0 nh hp0 hp P) loc (ab_nr σ π E0 E nh0 nh P ++ rest) (nc + rm.cells) (ns + rm.slots)) : ab_G p l e R s m args below meth c Q D cl A sa dT nL vs0 hs0 pc E nh hp loc ((as0.map (ab_su σ π)).reverse ++ rest) nc ns := by
  intro vs hs ls sv H locs hv hh his
  obtain ⟨h1, h2, h3, h4, ws, h5, h6, h7, h8⟩ := his
  obtain ⟨vals, rvs, rfl, ha, h4r⟩ := ab_split h4
  obtain ⟨e1, l1⟩ := ab_ek_ok h1 c1
  obtain ⟨d1, d2, d3⟩ := ab_ck_ok h5 c3
  have hP1 := ab_P_pw h6 d2
  have hD1 := h7.sub (ab_ps hp π hp0) d1 d2
  have hFc := va_free (wc := ab_pw ws (ab_ps hp π hp0)) h7 h8 X.2.2.2.2.2.2 (ab_ps hp π hp0) d2
  have M := hM D sa dT (ab_pk 0 vs σ) (ab_pk 0 hs π) (ab_pw ws (ab_ps hp π hp0)) vals H.size e1 (by simp [ab_pk, c0]) d3 (ab_su_dnL ha)
  have hnv : vals.length = n := by
    have := ab_lenL ha
    simp at this
    omega
  refine ab_cont (ab_runS X M hG hL hR ⟨ab_B_blind, fun U hU hW => ⟨rfl, by rw [hU], by rw [hU]; exact hP1, va_K.moved hW.alike X.2.2.2.2.2.1, hD1.weaken (fun _ _ _ _ => trivial), by rw [hU]; exact ab_SX_warm hW h8.2.1 hFc SX⟩⟩ hnv h3.1.1 (by rw [ab_cat_sum h4r]; exact hr) hd hcap) h8 hFc hFc (fun _ _ _ q => q.2) (fun v st₀ t locs1 h0 hq hk hS1 => ?_)
  obtain ⟨⟨P, hP, nv, nhs, w1, rv, q1, q2, q3, q4, q5, q6, q7⟩, -⟩ := hq
  cases q4
  have af := ab_aft h1 h2 h3 h4r h5 h6 h7 c1 c0 c2 c3 q1 q2 q3 q5 q6 q7 hk hFc hS1
  exact g P hP (ab_em_ok af.1) _ _ _ _ _ _ (ab_x1 _ hv) (ab_x1 _ hh) af
theorem ab_invI (X : ab_X p s m args c cc own nL D cl (ab_tys dT rn) A Ts) (SX : ab_SX rn SL NF NM sa A s s.heap) (hM : ab_met l cl rn SL NF NM Tc y bytes maxL ret E0 nh0 hp0 as0 posts rm) (hG : GoodIn Ts (.code y bytes maxL ret :: Tc)) (hL : ab_ML s args own cl 2 ix y ret n rci) (hd : decode cc pc = .ok (.invokespecial ix, 3)) {a0 : Nat} (hrc : (as0.map (ab_su σ π)).head? = some (1, a0)) (hret : ret = none) (hn : as0.length = n + 1) (c1 : ab_ek σ E0 E = true) (c0 : π.length = nh0) (c2 : ∀ k ∈ π, k < nh) (c3 : ab_ck σ π hp0 hp = true) (hr : rest.length ≤ 8) (hR : rm.frames + 1 ≤ R.frames ∧ 8 + (maxL + 11) + rm.locals ≤ R.locals) (hcap : nc + rm.cells ≤ R.cells ∧ ns + rm.slots ≤ R.slots)
    (g : ∀ P ∈ posts, ab_em (ab_nE σ E0 E P) = true → ab_G p l e R s m args below meth c Q D cl A sa dT nL vs0 hs0 (pc + 3) (ab_nE σ E0 E P) (nh + (P.2.1 - nh0)) (ab_nH σ π E0 E nh0 nh hp0 hp P) loc (ab_nr σ π E0 E nh0 nh P ++ rest) (nc + rm.cells) (ns + rm.slots)) : ab_G p l e R s m args below meth c Q D cl A sa dT nL vs0 hs0 pc E nh hp loc ((as0.map (ab_su σ π)).reverse ++ rest) nc ns := by
  intro vs hs ls sv H locs hv hh his
  obtain ⟨h1, h2, h3, h4, ws, h5, h6, h7, h8⟩ := his
  obtain ⟨vals, rvs, rfl, ha, h4r⟩ := ab_split h4
  obtain ⟨e1, l1⟩ := ab_ek_ok h1 c1
  obtain ⟨d1, d2, d3⟩ := ab_ck_ok h5 c3
  have hP1 := ab_P_pw h6 d2
  have hD1 := h7.sub (ab_ps hp π hp0) d1 d2
  have hFc := va_free (wc := ab_pw ws (ab_ps hp π hp0)) h7 h8 X.2.2.2.2.2.2 (ab_ps hp π hp0) d2
  have M := hM D sa dT (ab_pk 0 vs σ) (ab_pk 0 hs π) (ab_pw ws (ab_ps hp π hp0)) vals H.size e1 (by simp [ab_pk, c0]) d3 (ab_su_dnL ha)
  obtain ⟨b, vals', rfl, hb⟩ : ∃ (b : Nat) (vals' : List Value), vals = .ref b :: vals' ∧ hs[a0]? = some b := by
    cases has : as0.map (ab_su σ π) with
    | nil => rw [has] at hrc; cases hrc
    | cons x r =>
      rw [has] at hrc ha
      cases hrc
      cases vals with
      | nil => cases ha
      | cons w ws2 =>
        simp only [List.map_cons, List.cons.injEq] at ha
        obtain ⟨q, g1, rfl⟩ := ab_cv1 ha.1
        exact ⟨q, ws2, rfl, g1⟩
  have hnv : vals'.length = n := by
    have := ab_lenL ha
    simp at this
    omega
  have est : (Value.ref b :: vals').reverse ++ rvs = vals'.reverse ++ .ref b :: rvs := by simp
  rw [est]
  subst hret
  refine ab_cont (ab_runI X M hG hL hR ⟨ab_B_blind, fun U hU hW => ⟨rfl, by rw [hU], by rw [hU]; exact hP1, va_K.moved hW.alike X.2.2.2.2.2.1, hD1.weaken (fun _ _ _ _ => trivial), by rw [hU]; exact ab_SX_warm hW h8.2.1 hFc SX⟩⟩ hnv h3.1.1 (by rw [ab_cat_sum h4r]; exact hr) hd hcap) h8 hFc hFc (fun _ _ _ q => q.2) (fun v st₀ t locs1 h0 hq hk hS1 => ?_)
  obtain ⟨⟨P, hP, nv, nhs, w1, rv, q1, q2, q3, q4, q5, q6, q7⟩, -⟩ := hq
  cases q4
  have af := ab_aft h1 h2 h3 h4r h5 h6 h7 c1 c0 c2 c3 q1 q2 q3 q5 q6 q7 hk hFc hS1
  exact g P hP (ab_em_ok af.1) _ _ _ _ _ _ (ab_x1 _ hv) (ab_x1 _ hh) af

theorem ab_retQ {ws0 : va_W} {sz : Nat} {vs : List Int32} {hs : List Nat} {ls : Array Slot} {sv : List Value} {H : Heap} {locs : List Loc} {P : ab_P} {rv : Option Value} (hv : ∃ v, vs = vs0 ++ v) (hh : ∃ h, hs = hs0 ++ h) (his : ab_is D cl (va_A ws0 sz) s.heap sa dT nL vs hs E nh hp loc st ls sv H locs) (hP : P ∈ posts) (c1 : ab_ek σ P.1 E = true) (c0 : π.length = P.2.1) (c2 : ∀ k ∈ π, k < nh) (c3 : ab_ck σ π P.2.2.1 hp = true) (c4 : σ.take vs0.length = List.range vs0.length) (c5 : π.take hs0.length = List.range hs0.length) (c6 : (P.2.2.2.map (ab_su σ π)).map (ab_cv sa vs hs) = rv.map some) {t : State} (ht : t.heap = H) : ab_Q cl D sa dT vs0 hs0 ws0 sz posts args s (.returned rv) t := by
  obtain ⟨h1, h2, h3, h4, ws, h5, h6, h7, h8⟩ := his
  obtain ⟨e1, l1⟩ := ab_ek_ok h1 c1
  obtain ⟨d1, d2, d3⟩ := ab_ck_ok h5 c3
  have k1 : ab_pk 0 vs σ = vs0 ++ (ab_pk 0 vs σ).drop vs0.length := by
    have : (ab_pk 0 vs σ).take vs0.length = vs0 := by
      obtain ⟨v, rfl⟩ := hv
      unfold ab_pk
      rw [← List.map_take, c4]
      apply List.ext_getElem?
      intro j
      rw [List.getElem?_map]
      by_cases hj : j < vs0.length
      · rw [List.getElem?_range hj]
        simp [List.getD_eq_getElem?_getD, List.getElem?_append_left hj, List.getElem?_eq_getElem hj]
      · rw [List.getElem?_eq_none (by simp; omega), List.getElem?_eq_none (by omega)]
        rfl
    conv => lhs; rw [← List.take_append_drop vs0.length (ab_pk 0 vs σ), this]
  have k2 : ab_pk 0 hs π = hs0 ++ (ab_pk 0 hs π).drop hs0.length := by
    have : (ab_pk 0 hs π).take hs0.length = hs0 := by
      obtain ⟨v, rfl⟩ := hh
      unfold ab_pk
      rw [← List.map_take, c5]
      apply List.ext_getElem?
      intro j
      rw [List.getElem?_map]
      by_cases hj : j < hs0.length
      · rw [List.getElem?_range hj]
        simp [List.getD_eq_getElem?_getD, List.getElem?_append_left hj, List.getElem?_eq_getElem hj]
      · rw [List.getElem?_eq_none (by simp; omega), List.getElem?_eq_none (by omega)]
        rfl
    conv => lhs; rw [← List.take_append_drop hs0.length (ab_pk 0 hs π), this]
  refine ⟨⟨P, hP, (ab_pk 0 vs σ).drop vs0.length, (ab_pk 0 hs π).drop hs0.length, ab_pw ws (ab_ps hp π P.2.2.1), rv, ?_, ?_, ?_, rfl, ?_, ?_, ?_⟩, h8.F ht⟩
  · rw [← k1]; exact e1
  · rw [← k2]; simp [ab_pk, c0]
  · rw [← k1, ← k2]
    cases hr : P.2.2.2 with
    | none => rw [hr] at c6; exact c6
    | some v =>
      rw [hr] at c6
      cases rv with
      | none => cases c6
      | some w =>
        have q4 : ab_cv sa vs hs (ab_su σ π v) = some w := by simpa using c6
        show some (ab_cv sa (ab_pk 0 vs σ) (ab_pk 0 hs π) v) = some (some w)
        rw [ab_su_dn q4]
  · rw [← k1, ← k2]; exact d3
  · rw [ht]; exact ab_P_pw h6 d2
  · exact h7.sub _ d1 d2
theorem ab_vret {ws0 : va_W} {sz : Nat} {P : ab_P} (X : ab_X p s m args c cc own nL D cl (ab_tys dT rn) (va_A ws0 sz) Ts) (hl : meth.locks = false) (hr : meth.sig.returnType = none) (hd : decode cc pc = .ok (.return_, 1)) (hcap : nc ≤ rm.cells ∧ ns ≤ rm.slots) (hP : P ∈ posts) (c1 : ab_ek σ P.1 E = true) (c0 : π.length = P.2.1) (c2 : ∀ k ∈ π, k < nh) (c3 : ab_ck σ π P.2.2.1 hp = true) (c4 : σ.take vs0.length = List.range vs0.length) (c5 : π.take hs0.length = List.range hs0.length) (c6 : P.2.2.2 = none) :
    ab_G p l e R s m args below meth c (MQ below (ab_Q cl D sa dT vs0 hs0 ws0 sz posts) args s rm.cells rm.slots (va_A ws0 sz)) D cl (va_A ws0 sz) sa dT nL vs0 hs0 pc E nh hp loc [] nc ns := by
  intro vs hs ls sv H locs hv hh his
  have e : sv = [] := by
    have := ab_lenL his.2.2.2.1
    cases sv with
    | nil => rfl
    | cons a r => cases this
  subst e
  refine W.widen (k := rm.cells) (n := rm.slots) hcap.1 hcap.2 ?_
  have hS := his.2.2.2.2
  obtain ⟨ws, -, -, -, hS⟩ := hS
  exact W.vret X.1 X.2.1 hr (fun t ht hW => ab_retQ hv hh his hP c1 c0 c2 c3 c4 c5 (by rw [c6]; rfl) ht) hS.2.2 hd hl
theorem ab_iret {ws0 : va_W} {sz kx : Nat} {P : ab_P} {ty : FieldType} {i : ab_I} (X : ab_X p s m args c cc own nL D cl (ab_tys dT rn) (va_A ws0 sz) Ts) (hl : meth.locks = false) (hr : meth.sig.returnType = some ty) (hi : E[kx]? = some i) (hty : ty = .int ∨ (ty = .boolean ∧ 0 ≤ i.1 ∧ i.2 ≤ 1)) (hd : decode cc pc = .ok (.ireturn, 1)) (hcap : nc ≤ rm.cells ∧ ns ≤ rm.slots) (hP : P ∈ posts) (c1 : ab_ek σ P.1 E = true) (c0 : π.length = P.2.1) (c2 : ∀ k ∈ π, k < nh) (c3 : ab_ck σ π P.2.2.1 hp = true) (c4 : σ.take vs0.length = List.range vs0.length) (c5 : π.take hs0.length = List.range hs0.length) (c6 : P.2.2.2.map (ab_su σ π) = some (0, kx)) :
    ab_G p l e R s m args below meth c (MQ below (ab_Q cl D sa dT vs0 hs0 ws0 sz posts) args s rm.cells rm.slots (va_A ws0 sz)) D cl (va_A ws0 sz) sa dT nL vs0 hs0 pc E nh hp loc [(0, kx)] nc ns := by
  intro vs hs ls sv H locs hv hh his
  obtain ⟨w, sv, rfl, hw, his2⟩ := ab_pop his
  obtain ⟨x, hx, rfl⟩ := ab_cv0 hw
  have e : sv = [] := by
    have := ab_lenL his2.2.2.2.1
    cases sv with
    | nil => rfl
    | cons a r => cases this
  subst e
  refine W.widen (k := rm.cells) (n := rm.slots) hcap.1 hcap.2 ?_
  have hS := his.2.2.2.2
  obtain ⟨ws, -, -, -, hS⟩ := hS
  have hn : narrow ty (.int x) = .int x := by
    rcases hty with rfl | ⟨rfl, g1, g2⟩
    · rfl
    · have g3 := his.1.2 kx i x hi hx
      have g4 : x.toInt = 0 ∨ x.toInt = 1 := by have := g3.1; have := g3.2; omega
      rcases g4 with g4 | g4
      · have : x = 0 := Int32.toInt_inj.mp (by rw [g4, Int32.toInt_zero])
        subst this
        rfl
      · have : x = 1 := Int32.toInt_inj.mp (by rw [g4]; rfl)
        subst this
        rfl
  exact W.zret X.1 X.2.1 hr hn (fun t ht hW => ab_retQ hv hh his hP c1 c0 c2 c3 c4 c5 (by rw [c6]; show some (ab_cv sa vs hs (0, kx)) = some (some (Value.int x)); rw [hw]) ht) hS.2.2 hd hl
end
end
section
section
variable {p : Program} {l : Launch} {e : Env} {R : Room} {s : State} {m : MethodId} {args : Array Value} {below : List Frame} {meth : Method} {c : Code} {Q : State → Prop} {cc : ByteArray} {own : String} {nL : Nat} {D : va_G} {cl : List vw_C} {rn : List String} {A : Nat → Prop} {Ts : List Cond} {sa : Nat → Nat} {dT : Nat → ClassId} {vs0 : List Int32} {hs0 : List Nat} {pc : Nat} {E : List ab_I} {nh nc ns : Nat} {hp : ab_H} {loc : List (Nat × ab_V)} {st : List ab_V}
variable {SL : ab_SL} {NF : ab_NF} {NM : ab_NM}
theorem ab_gets (X : ab_X p s m args c cc own nL D cl (ab_tys dT rn) A Ts) (SX : ab_SX rn SL NF NM sa A s s.heap) {ix t : Nat} {r : String × String × String × List Int} (ht : SL[t]? = some r) (hl : (Cond.fieldLink own ix r.1 r.2.1 r.2.2.1).before args s = true) (hd : decode cc pc = .ok (.getstatic ix, 3)) (g : ab_G p l e R s m args below meth c Q D cl A sa dT nL vs0 hs0 (pc + 3) E nh hp loc ((3, t) :: st) nc ns) : ab_G p l e R s m args below meth c Q D cl A sa dT nL vs0 hs0 pc E nh hp loc st nc ns := by
  intro vs hs ls sv H locs hv hh his
  obtain ⟨ws, -, -, -, hS⟩ := his.2.2.2.2
  exact va_gets X.1 X.2.1 (SX.2.2.2 t r ht).1 hS X.2.2.2.1 hl (fun _ h => h) hd (g _ _ _ _ _ _ hv hh (ab_pv his rfl))
theorem ab_tald (X : ab_X p s m args c cc own nL D cl (ab_tys dT rn) A Ts) (SX : ab_SX rn SL NF NM sa A s s.heap) {t ki : Nat} {i : ab_I} {r : String × String × String × List Int} (ht : SL[t]? = some r) (hd : decode cc pc = .ok (.iaload, 1)) (hi1 : E[ki]? = some i) (h1 : 0 ≤ i.1) (h2 : i.2 < (r.2.2.2.length : Int)) (hr : ∀ x ∈ r.2.2.2, -2147483648 ≤ x ∧ x ≤ 2147483647) (g : ∀ (z : Nat) (x : Int), i.1 ≤ (z : Int) → (z : Int) ≤ i.2 → r.2.2.2[z]? = some x → ab_G p l e R s m args below meth c Q D cl A sa dT nL vs0 hs0 (pc + 1) (E.set ki ((z : Int), (z : Int)) ++ [(x, x)]) nh hp loc ((0, E.length) :: st) nc ns) : ab_G p l e R s m args below meth c Q D cl A sa dT nL vs0 hs0 pc E nh hp loc ((0, ki) :: (3, t) :: st) nc ns := by
  intro vs hs ls sv H locs hv0 hh his
  obtain ⟨w2, sv, rfl, hw2, his1⟩ := ab_pop his
  obtain ⟨w, sv, rfl, hw, his2⟩ := ab_pop his1
  obtain ⟨x, hx, rfl⟩ := ab_cv0 hw2
  cases hw
  obtain ⟨ws, -, -, -, hS⟩ := his2.2.2.2.2
  have hin := his2.1.2 ki i x hi1 hx
  obtain ⟨m1, m2, m3⟩ := ab_inN hin h1 h2
  have m4 : r.2.2.2[x.toNatClampNeg]? = some r.2.2.2[x.toNatClampNeg] := List.getElem?_eq_getElem m2
  have m5 : r.2.2.2.getD x.toNatClampNeg 0 = r.2.2.2[x.toNatClampNeg] := by simp [List.getD_eq_getElem?_getD, m4]
  obtain ⟨k1, k2⟩ := hr _ (List.mem_of_getElem? m4)
  have q := ab_push (ab_env his2 (ab_e_set his2.1 ki (i := ((x.toNatClampNeg : Int), (x.toNatClampNeg : Int))) (fun z hz => by
    rw [hx] at hz
    cases hz
    rw [m3]
    exact ⟨Int.le_refl _, Int.le_refl _⟩))) (ab_const k1 k2)
  rw [List.length_set] at q
  exact va_ti X.1 X.2.1 (SX.2.2.2 t r ht).2 hS m1 (by rw [m5]) hd (g _ _ (by rw [m3]; exact hin.1) (by rw [m3]; exact hin.2) m4 _ _ _ _ _ _ (ab_x1 _ hv0) hh q)
theorem ab_b5_l {lo hi lo0 hi0 lo1 hi1 lo2 hi2 : Int} {t : Nat} {x : Int32} (h : ab_in (ab_b5 lo hi lo0 hi0 t) x) : ab_in (ab_b5 (min lo lo1) (max hi hi1) (min lo0 lo2) (max hi0 hi2) t) x := by
  unfold ab_b5 ab_in at *
  by_cases hz : t % 5 = 0
  · rw [if_pos hz] at h ⊢
    dsimp only at *
    omega
  · rw [if_neg hz] at h ⊢
    dsimp only at *
    omega
theorem ab_b5_r {lo hi lo0 hi0 lo1 hi1 lo2 hi2 : Int} {t : Nat} {x : Int32} (h : ab_in (ab_b5 lo1 hi1 lo2 hi2 t) x) : ab_in (ab_b5 (min lo lo1) (max hi hi1) (min lo0 lo2) (max hi0 hi2) t) x := by
  unfold ab_b5 ab_in at *
  by_cases hz : t % 5 = 0
  · rw [if_pos hz] at h ⊢
    dsimp only at *
    omega
  · rw [if_neg hz] at h ⊢
    dsimp only at *
    omega
theorem ab_oinit (X : ab_X p s m args c cc own nL D cl (ab_tys dT rn) A Ts) {ix a : Nat} (hl : (Cond.methodLink own ix Lib.objectInit).before args s = true) (hi : (Cond.instanceMethod Lib.objectInit).before args s = true) (hc : (Cond.code Lib.objectInit ⟨#[0xb1]⟩ 1 none).before args s = true) (hd : decode cc pc = .ok (.invokespecial ix, 3)) (hf : 1 ≤ R.frames) (hr : st.length + 12 ≤ R.locals) (g : ab_G p l e R s m args below meth c Q D cl A sa dT nL vs0 hs0 (pc + 3) E nh hp loc st nc ns) : ab_G p l e R s m args below meth c Q D cl A sa dT nL vs0 hs0 pc E nh hp loc ((1, a) :: st) nc ns := by
  intro vs hs ls sv H locs hv0 hh his
  obtain ⟨w, sv, rfl, hw, his1⟩ := ab_pop his
  obtain ⟨q, hq, rfl⟩ := ab_cv1 hw
  refine W.objInit X.1 X.2.1 X.2.2.2.1 hl hi hc rfl (by rw [X.2.2.1]; exact his1.2.2.1.1.1) rfl hd hf ?_ (g _ _ _ _ _ _ hv0 hh his1)
  show 2 * 0 + (sv.map fun v => v.category).sum + 12 ≤ R.locals
  rw [ab_cat_sum his1.2.2.2.1]
  omega
theorem ab_acopy (X : ab_X p s m args c cc own nL D cl (ab_tys dT rn) A Ts) {ix a b ja jb n0 n1 kn kd ks : Nat} {lo hi lo0 hi0 lo1 hi1 lo2 hi2 : Int} {i1 : ab_I} (hl : (Cond.methodLink own ix arraycopyName).before args s = true) (hnat : (Cond.native arraycopyName).before args s = true) (hsta : (Cond.static arraycopyName).before args s = true) (hini : (Cond.initialized "java/lang/System").before args s = true) (hd : decode cc pc = .ok (.invokestatic ix, 3))
    (hfa : ab_fi hp a 0 = some (ja, .inr (.inl (n0, lo, hi, lo0, hi0)))) (hfb : ab_fi hp b 0 = some (jb, .inr (.inl (n1, lo1, hi1, lo2, hi2)))) (e1 : E[kn]? = some i1) (e2 : E[kd]? = some (0, 0)) (e3 : E[ks]? = some (0, 0)) (g1 : 0 ≤ i1.1) (g4 : i1.2 ≤ (n0 : Int)) (g5 : i1.2 ≤ (n1 : Int)) (hf : 1 ≤ R.frames) (hr : st.length + (nativeFrameWords "java/lang/System" "arraycopy" 5 + 11) ≤ R.locals)
    (g : ab_G p l e R s m args below meth c Q D cl A sa dT nL vs0 hs0 (pc + 3) E nh (hp.set jb (b, .inr (.inl (n1, min lo lo1, max hi hi1, min lo0 lo2, max hi0 hi2)))) loc st nc ns) : ab_G p l e R s m args below meth c Q D cl A sa dT nL vs0 hs0 pc E nh hp loc ((0, kn) :: (0, kd) :: (1, b) :: (0, ks) :: (1, a) :: st) nc ns := by
  intro vs hs ls sv H locs hv0 hh his
  obtain ⟨w1, sv, rfl, hw1, his1⟩ := ab_pop his
  obtain ⟨w2, sv, rfl, hw2, his2⟩ := ab_pop his1
  obtain ⟨w3, sv, rfl, hw3, his3⟩ := ab_pop his2
  obtain ⟨w4, sv, rfl, hw4, his4⟩ := ab_pop his3
  obtain ⟨w5, sv, rfl, hw5, his5⟩ := ab_pop his4
  obtain ⟨xn, hxn, rfl⟩ := ab_cv0 hw1
  obtain ⟨xd, hxd, rfl⟩ := ab_cv0 hw2
  obtain ⟨qb, hqb, rfl⟩ := ab_cv1 hw3
  obtain ⟨xs, hxs, rfl⟩ := ab_cv0 hw4
  obtain ⟨qa, hqa, rfl⟩ := ab_cv1 hw5
  obtain ⟨k1, k2, k3, k4, ws, k5, k6, k7, k8⟩ := id his5
  obtain ⟨ca, ga, ga2⟩ := ab_w_at k5 hfa hqa
  obtain ⟨f, rfl, ga3⟩ := ga2
  obtain ⟨cb, gb, gb2⟩ := ab_w_at k5 hfb hqb
  obtain ⟨f2, rfl, gb3⟩ := gb2
  have nn : ∀ (x : Int32), 0 ≤ x.toInt → ¬ x < 0 ∧ ((x.toNatClampNeg : Nat) : Int) = x.toInt := by
    intro x h
    refine ⟨fun q => ?_, ?_⟩
    · have := Int32.lt_iff_toInt_lt.mp q
      rw [Int32.toInt_zero] at this
      omega
    · show ((x.toInt.toNat : Nat) : Int) = x.toInt
      omega
  have r1 := k1.2 kn i1 xn e1 hxn
  have r2 := k1.2 kd (0, 0) xd e2 hxd
  have r3 := k1.2 ks (0, 0) xs e3 hxs
  unfold ab_in at r1 r2 r3
  dsimp only at r2 r3
  obtain ⟨a1, b1⟩ := nn xn (by omega)
  obtain ⟨a2, b2⟩ := nn xd (by omega)
  obtain ⟨a3, b3⟩ := nn xs (by omega)
  have z2 : xd.toNatClampNeg = 0 := by omega
  have z3 : xs.toNatClampNeg = 0 := by omega
  refine va_copyi X.1 X.2.1 (by rw [X.2.2.1, k3.1.1]) X.2.2.2.1 hl hnat hsta hini X.2.2.2.2.2.1 k6 k7 k8 ja jb 0 0 ga gb rfl rfl rfl a3 a2 a1 (by omega) (by omega) (fun _ _ => rfl) hf (by rw [ab_cat_sum k4]; exact hr) hd (fun H1 locs1 r1 r2 r3 => g _ _ _ _ _ _ hv0 hh ⟨k1, k2, k3, k4, _, ab_w_set k5 (ab_fi0 hfb) gb hqb ⟨_, rfl, fun t ht => ?_⟩, r1, r2, r3⟩)
  rw [z2, z3]
  by_cases hc : 0 ≤ t ∧ t < 0 + xn.toNatClampNeg
  · have e : va_cpy f f2 0 0 xn.toNatClampNeg t = f t := by
      unfold va_cpy
      rw [if_pos hc, Nat.zero_add, Nat.sub_zero]
    rw [e]
    exact ab_b5_l (ga3 t (by omega))
  · have e : va_cpy f f2 0 0 xn.toNatClampNeg t = f2 t := by
      unfold va_cpy
      rw [if_neg hc]
    rw [e]
    exact ab_b5_r (gb3 t ht)
def ab_NL (s : State) (args : Array Value) (own : String) (cl : List vw_C) (Ts : List Cond) (ix ci : Nat) (tl : List Bool) : Prop :=
  ∃ (C : String) (T : u_T) (N : Nat) (ty : Nat → FieldType), cl[ci]? = some (C, T, N) ∧ (∀ w ∈ u_ws C T N, w ∈ Ts) ∧ (∀ k, k < N → parseFieldDescriptor (T k).2.2.1 = some (ty k)) ∧ (Cond.classLink own ix C).before args s = true ∧ (Cond.instantiable C N).before args s = true ∧ (Cond.initialized C).before args s = true ∧ tl.length = N ∧ ∀ (k : Nat) (b : Bool), tl[k]? = some b → defaultValue (ty k) = if b then .int 0 else .null
theorem ab_hgrow {H0 : Heap} {vs : List Int32} {hs : List Nat} {ls : Array Slot} {sv : List Value} {H1 : Heap} {locs1 : List Loc} {q : Nat} (h1 : ab_e E vs) (h2 : hs.length = nh) (h3 : ab_l sa vs hs nL loc ls) (h4 : st.map (ab_cv sa vs hs) = sv.map some) {ws : va_W} (h5 : ab_w sa dT vs hs hp ws) {x : ab_C} {ce : va_E} (hx : ab_ce sa dT vs (hs ++ [q]) x ce) (r1 : va_P D cl (ws ++ [(q, ce)]) H1) (r2 : va_D A (ws ++ [(q, ce)])) (r3 : va_S A H0 H1 locs1) : ab_is D cl A H0 sa dT nL vs (hs ++ [q]) E (nh + 1) (hp ++ [(nh, x)]) loc ((1, nh) :: st) ls (.ref q :: sv) H1 locs1 := by
  have g3 := ab_l_mono [] [q] h3
  have g4 := ab_monoL [] [q] h4
  have g5 := ab_w_mono [] [q] h5
  rw [List.append_nil] at g3 g4 g5
  have hq : (hs ++ [q])[nh]? = some q := by rw [← h2]; exact ab_end hs q
  refine ⟨h1, by rw [List.length_append, h2]; rfl, g3, by rw [List.map_cons, List.map_cons, g4, ab_cv1' hq], ws ++ [(q, ce)], ab_w_app g5 ⟨rfl, fun j a y hj => ?_⟩, r1, r2, r3⟩
  cases j with
  | zero => cases hj; exact ⟨q, ce, hq, rfl, hx⟩
  | succ j => cases hj
theorem ab_newo (X : ab_X p s m args c cc own nL D cl (ab_tys dT rn) A Ts) {ix ci : Nat} {tl : List Bool} (hN : ab_NL s args own cl Ts ix ci tl) (hd : decode cc pc = .ok (.new ix, 3)) (hcap : nc + 1 ≤ R.cells ∧ ns + tl.length ≤ R.slots) (g : ab_G p l e R s m args below meth c Q D cl A sa dT nL vs0 hs0 (pc + 3) (E ++ [(0, 0)]) (nh + 1) (hp ++ [(nh, .inl (ci, tl.map (fun b => if b then (0, E.length) else (2, 0))))]) loc ((1, nh) :: st) (nc + 1) (ns + tl.length)) : ab_G p l e R s m args below meth c Q D cl A sa dT nL vs0 hs0 pc E nh hp loc st nc ns := by
  intro vs hs ls sv H locs hv0 hh his
  obtain ⟨C, T, N, ty, f1, f2, f3, f4, f5, f6, rfl, f8⟩ := hN
  obtain ⟨k1, k2, k3, k4, ws, k5, k6, k7, k8⟩ := ab_grow (i := (0, 0)) (x := 0) his ⟨by rw [Int32.toInt_zero]; exact Int.le_refl _, by rw [Int32.toInt_zero]; exact Int.le_refl _⟩
  have hz0 : (vs ++ [(0 : Int32)])[E.length]? = some 0 := by rw [← his.1.1]; exact ab_end vs 0
  have hcv : ∀ hs2 : List Nat, (tl.map (fun b => if b then ((0, E.length) : ab_V) else (2, 0))).map (ab_cv sa (vs ++ [0]) hs2) = (tl.map (fun b => if b then Value.int 0 else Value.null)).map some := by
    intro hs2
    rw [List.map_map, List.map_map]
    apply List.map_congr_left
    intro b _
    cases b
    · rfl
    · exact ab_cv0' hz0
  refine va_new (fs := tl.map (fun b => if b then Value.int 0 else Value.null)) X.1 X.2.1 X.2.2.2.2.1 f2 ty f3 X.2.2.2.1 f4 f5 f6 X.2.2.2.2.2.1 k6 k7 k8 X.2.2.2.2.2.2 f1 (fun j hj => ?_) hcap.1 hcap.2 hd (fun q H1 r1 r2 r3 => g _ _ _ _ _ _ (ab_x1 _ hv0) (ab_x1 _ hh) (ab_hgrow (x := .inl (ci, tl.map (fun b => if b then ((0, E.length) : ab_V) else (2, 0)))) k1 k2 k3 k4 k5 ⟨_, rfl, hcv _⟩ r1 r2 r3))
  have hb : tl[j]? = some tl[j] := List.getElem?_eq_getElem hj
  rw [f8 j _ hb]
  unfold vp_V
  rw [List.getD_eq_getElem?_getD, List.getElem?_map, hb]
  rfl
theorem ab_newai (X : ab_X p s m args c cc own nL D cl (ab_tys dT rn) A Ts) {k : Nat} {i : ab_I} (hw : (Cond.arrayClass (newarray.typeOf .int)).before args s = true) (hd : decode cc pc = .ok (.newarray .int, 2)) (hi : E[k]? = some i) (hii : i.1 = i.2) (h0 : 0 ≤ i.1) (hb : i.1.toNat * 4 ≤ 536870912) (hcap : nc + 1 ≤ R.cells ∧ ns + i.1.toNat ≤ R.slots) (g : ab_G p l e R s m args below meth c Q D cl A sa dT nL vs0 hs0 (pc + 2) E (nh + 1) (hp ++ [(nh, .inr (.inl (i.1.toNat, 0, 0, 0, 0)))]) loc ((1, nh) :: st) (nc + 1) (ns + i.1.toNat)) : ab_G p l e R s m args below meth c Q D cl A sa dT nL vs0 hs0 pc E nh hp loc ((0, k) :: st) nc ns := by
  intro vs hs ls sv H locs hv0 hh his
  obtain ⟨w, sv, rfl, hw2, his1⟩ := ab_pop his
  obtain ⟨x, hx, rfl⟩ := ab_cv0 hw2
  obtain ⟨k1, k2, k3, k4, ws, k5, k6, k7, k8⟩ := his1
  have hin := k1.2 k i x hi hx
  unfold ab_in at hin
  refine va_newa (a0 := (i.1.toNat, .inl (fun _ => 0))) X.1 X.2.1 hw rfl X.2.2.2.2.2.1 k6 k7 k8 X.2.2.2.2.2.2 (fun cA => rfl) (fun q => ?_) (N' := i.1.toNat) ?_ hb hcap.1 hcap.2 hd (fun q cA H1 r0 r1 r2 r3 => ?_)
  · have := Int32.lt_iff_toInt_lt.mp q
    rw [Int32.toInt_zero] at this
    omega
  · show x.toInt.toNat = i.1.toNat
    omega
  · have e1 := (X.2.2.2.2.2.1.2 0 (dT 0, .int) rfl).2
    have e2 := (r0.2 (ab_tys dT rn).length (cA, newarray.typeOf .int) (ab_end _ _)).2
    have e3 : cA = dT 0 := Option.some.inj ((show s.vm.findClass _ = some cA from e2).symm.trans (show s.vm.findClass _ = some (dT 0) from e1))
    subst e3
    exact g _ _ _ _ _ _ hv0 (ab_x1 _ hh) (ab_hgrow k1 k2 k3 k4 k5 ⟨_, rfl, fun _ _ => by unfold ab_b5 ab_in; split <;> exact ⟨by rw [Int32.toInt_zero]; exact Int.le_refl _, by rw [Int32.toInt_zero]; exact Int.le_refl _⟩⟩ r1 r2 r3)
theorem ab_newaq (X : ab_X p s m args c cc own nL D cl (ab_tys dT rn) A Ts) (SX : ab_SX rn SL NF NM sa A s s.heap) {ix k t : Nat} {C : String} {i : ab_I} (hC : rn[t]? = some C) (hl : (Cond.classLink own ix C).before args s = true) (hd : decode cc pc = .ok (.anewarray ix, 3)) (hi : E[k]? = some i) (hii : i.1 = i.2) (h0 : 0 ≤ i.1) (hb : i.1.toNat * 4 ≤ 536870912) (hcap : nc + 1 ≤ R.cells ∧ ns + i.1.toNat ≤ R.slots) (g : ab_G p l e R s m args below meth c Q D cl A sa dT nL vs0 hs0 (pc + 3) E (nh + 1) (hp ++ [(nh, .inr (.inr (t, List.replicate i.1.toNat (2, 0))))]) loc ((1, nh) :: st) (nc + 1) (ns + i.1.toNat)) : ab_G p l e R s m args below meth c Q D cl A sa dT nL vs0 hs0 pc E nh hp loc ((0, k) :: st) nc ns := by
  intro vs hs ls sv H locs hv0 hh his
  obtain ⟨w, sv, rfl, hw2, his1⟩ := ab_pop his
  obtain ⟨x, hx, rfl⟩ := ab_cv0 hw2
  obtain ⟨k1, k2, k3, k4, ws, k5, k6, k7, k8⟩ := his1
  have hin := k1.2 k i x hi hx
  unfold ab_in at hin
  refine va_newq X.1 X.2.1 X.2.2.2.1 hl (SX.1 C (List.mem_of_getElem? hC)) X.2.2.2.2.2.1 k6 k7 k8 X.2.2.2.2.2.2 (fun q => ?_) (N' := i.1.toNat) ?_ hb hcap.1 hcap.2 hd (fun q cA H1 r0 r1 r2 r3 => ?_)
  · have := Int32.lt_iff_toInt_lt.mp q
    rw [Int32.toInt_zero] at this
    omega
  · show x.toInt.toNat = i.1.toNat
    omega
  · obtain ⟨_, _, _, _, _, e1⟩ := (X.2.2.2.2.2.1.2 (t + 1) _ (ab_tys_at hC)).2
    obtain ⟨_, _, _, _, _, e2⟩ := (r0.2 (ab_tys dT rn).length (cA, .object C) (ab_end _ _)).2
    have e3 : cA = dT (t + 1) := Option.some.inj (e2.symm.trans e1)
    subst e3
    refine g _ _ _ _ _ _ hv0 (ab_x1 _ hh) (ab_hgrow k1 k2 k3 k4 k5 ⟨_, by rw [List.length_replicate], fun j a hj => ?_⟩ r1 r2 r3)
    have := List.mem_of_getElem? hj
    rw [(List.mem_replicate.mp this).2]
    rfl
theorem ab_aast (X : ab_X p s m args c cc own nL D cl (ab_tys dT rn) A Ts) {a b j jb t ki ci : Nat} {js fs : List ab_V} {r : vw_C} {i : ab_I} (hd : decode cc pc = .ok (.aastore, 1)) (hc : cl[ci]? = some r) (hC : rn[t]? = some r.1) (hf : ab_fi hp a 0 = some (j, .inr (.inr (t, js)))) (hfb : ab_fi hp b 0 = some (jb, .inl (ci, fs))) (hi1 : E[ki]? = some i) (hii : i.1 = i.2) (h1 : 0 ≤ i.1) (h2 : i.2 < (js.length : Int)) (g : ab_G p l e R s m args below meth c Q D cl A sa dT nL vs0 hs0 (pc + 1) E nh (hp.set j (a, .inr (.inr (t, js.set i.1.toNat (1, b))))) loc st nc ns) : ab_G p l e R s m args below meth c Q D cl A sa dT nL vs0 hs0 pc E nh hp loc ((1, b) :: (0, ki) :: (1, a) :: st) nc ns := by
  intro vs hs ls sv H locs hv0 hh his
  obtain ⟨w3, sv, rfl, hw3, his1⟩ := ab_pop his
  obtain ⟨w2, sv, rfl, hw2, his2⟩ := ab_pop his1
  obtain ⟨w, sv, rfl, hw, his3⟩ := ab_pop his2
  obtain ⟨qb, hqb, rfl⟩ := ab_cv1 hw3
  obtain ⟨x, hx, rfl⟩ := ab_cv0 hw2
  obtain ⟨q, hq, rfl⟩ := ab_cv1 hw
  obtain ⟨k1, k2, k3, k4, ws, k5, k6, k7, k8⟩ := id his3
  obtain ⟨ce, g1, g2⟩ := ab_w_at k5 hf hq
  obtain ⟨f, rfl, g3⟩ := g2
  obtain ⟨cb, gb1, gb2⟩ := ab_w_at k5 hfb hqb
  obtain ⟨fw, rfl, gb3⟩ := gb2
  have hin := k1.2 ki i x hi1 hx
  obtain ⟨m1, m2, m3⟩ := ab_inN hin h1 h2
  have m4 : x.toNatClampNeg = i.1.toNat := by unfold ab_in at hin; omega
  refine va_astq X.1 X.2.1 X.2.2.2.2.2.1 k6 k7 k8 j (t + 1) jb ci g1 (ab_tys_at hC) gb1 hc m1 hd (fun H1 locs1 r1 r2 r3 => g _ _ _ _ _ _ hv0 hh ⟨k1, k2, k3, k4, _, ab_w_set k5 (ab_fi0 hf) g1 hq ⟨_, by rw [List.length_set], fun z v hz => ?_⟩, r1, r2, r3⟩)
  unfold va_up
  rw [m4]
  by_cases hzz : z = i.1.toNat
  · subst hzz
    rw [List.getElem?_set_self (by omega)] at hz
    cases hz
    rw [if_pos rfl]
    exact hw3
  · rw [List.getElem?_set_ne (fun e => hzz e.symm)] at hz
    rw [if_neg hzz]
    exact g3 z v hz
end
end
section
abbrev ab_S : Type := List ab_I × Nat × ab_H × List (Nat × ab_V) × List ab_V × Nat × Nat
def ab_as {α : Type} : List (Nat × α) → Nat → Option α
  | [], _ => none
  | (j, a) :: r, i => if j = i then some a else ab_as r i
theorem ab_as_ok {α : Type} : ∀ (l : List (Nat × α)) (i : Nat) (a : α), ab_as l i = some a → (i, a) ∈ l
  | [], _, _, h => by cases h
  | (j, b) :: r, i, a, h => by
    unfold ab_as at h
    split at h
    · rename_i hb
      cases h
      rw [hb]
      exact List.mem_cons_self
    · exact List.mem_cons_of_mem _ (ab_as_ok r i a h)
def ab_tg (pc : Nat) (off : Int) : Option Nat := if 0 ≤ (pc : Int) + off then some ((pc : Int) + off).toNat else none
theorem ab_tg_ok {pc t : Nat} {off : Int} (h : ab_tg pc off = some t) : (pc : Int) + off = (t : Int) := by
  unfold ab_tg at h
  split at h
  · cases h
    omega
  · cases h
def ab_1a (nL : Nat) (KT : List (Nat × Int)) (i : ClassFile.Instr) (len pc : Nat) (E : List ab_I) (nh : Nat) (hp : ab_H) (loc : List (Nat × ab_V)) (st : List ab_V) (nc ns : Nat) : Option (List (Nat × ab_S)) := match i with
  | .iconst n => if len = 1 ∧ -2147483648 ≤ n ∧ n ≤ 2147483647 then some [(pc + 1, E ++ [(n, n)], nh, hp, loc, (0, E.length) :: st, nc, ns)] else none
  | .bipush n => if len = 2 ∧ -128 ≤ n ∧ n ≤ 127 then some [(pc + 2, E ++ [(n, n)], nh, hp, loc, (0, E.length) :: st, nc, ns)] else none
  | .sipush n => if len = 3 ∧ -32768 ≤ n ∧ n ≤ 32767 then some [(pc + 3, E ++ [(n, n)], nh, hp, loc, (0, E.length) :: st, nc, ns)] else none
  | .ldc ix => (match ab_as KT ix with
    | none => none
    | some n => if len = 2 ∧ -2147483648 ≤ n ∧ n ≤ 2147483647 then some [(pc + 2, E ++ [(n, n)], nh, hp, loc, (0, E.length) :: st, nc, ns)] else none)
  | .ldc_w ix => (match ab_as KT ix with
    | none => none
    | some n => if len = 3 ∧ -2147483648 ≤ n ∧ n ≤ 2147483647 then some [(pc + 3, E ++ [(n, n)], nh, hp, loc, (0, E.length) :: st, nc, ns)] else none)
  | .iload_n k => (match ab_lk loc k with
    | none => none
    | some a => if len = 1 ∧ a.1 = 0 then some [(pc + 1, E, nh, hp, loc, a :: st, nc, ns)] else none)
  | .iload k => (match ab_lk loc k with
    | none => none
    | some a => if len = 2 ∧ a.1 = 0 then some [(pc + 2, E, nh, hp, loc, a :: st, nc, ns)] else none)
  | .aload_n k => (match ab_lk loc k with
    | none => none
    | some a => if len = 1 ∧ a.1 = 1 then some [(pc + 1, E, nh, hp, loc, a :: st, nc, ns)] else none)
  | .aload k => (match ab_lk loc k with
    | none => none
    | some a => if len = 2 ∧ a.1 = 1 then some [(pc + 2, E, nh, hp, loc, a :: st, nc, ns)] else none)
  | .istore_n k => (match st with
    | a :: rr => if len = 1 ∧ a.1 = 0 ∧ (k : Nat) < nL then some [(pc + 1, E, nh, hp, ab_ls loc k a, rr, nc, ns)] else none
    | _ => none)
  | .istore k => (match st with
    | a :: rr => if len = 2 ∧ a.1 = 0 ∧ k < nL then some [(pc + 2, E, nh, hp, ab_ls loc k a, rr, nc, ns)] else none
    | _ => none)
  | .astore_n k => (match st with
    | a :: rr => if len = 1 ∧ a.1 = 1 ∧ (k : Nat) < nL then some [(pc + 1, E, nh, hp, ab_ls loc k a, rr, nc, ns)] else none
    | _ => none)
  | .astore k => (match st with
    | a :: rr => if len = 2 ∧ a.1 = 1 ∧ k < nL then some [(pc + 2, E, nh, hp, ab_ls loc k a, rr, nc, ns)] else none
    | _ => none)
  | .iinc k n => (match ab_lk loc k with
    | none => none
    | some a => (match E[a.2]? with
    | none => none
    | some j => if len = 3 ∧ a.1 = 0 ∧ k < nL ∧ -2147483648 ≤ n ∧ n ≤ 2147483647 then some [(pc + 3, E ++ [ab_cl (j.1 + n, j.2 + n)], nh, hp, ab_ls loc k (0, E.length), st, nc, ns)] else none))
  | .dup => (match st with
    | a :: rr => if len = 1 then some [(pc + 1, E, nh, hp, loc, a :: a :: rr, nc, ns)] else none
    | _ => none)
  | .pop => (match st with
    | a :: rr => if len = 1 then some [(pc + 1, E, nh, hp, loc, rr, nc, ns)] else none
    | _ => none)
  | .dup_x1 => (match st with
    | a :: b :: rr => if len = 1 then some [(pc + 1, E, nh, hp, loc, a :: b :: a :: rr, nc, ns)] else none
    | _ => none)
  | .dup_x2 => (match st with
    | a :: b :: d :: rr => if len = 1 then some [(pc + 1, E, nh, hp, loc, a :: b :: d :: a :: rr, nc, ns)] else none
    | _ => none)
  | .dup2 => (match st with
    | a :: b :: rr => if len = 1 then some [(pc + 1, E, nh, hp, loc, a :: b :: a :: b :: rr, nc, ns)] else none
    | _ => none)
  | .goto off => (match ab_tg pc off with
    | none => none
    | some tg => if len = 3 then some [(tg, E, nh, hp, loc, st, nc, ns)] else none)
  | _ => none
def ab_1b  (i : ClassFile.Instr) (len pc : Nat) (E : List ab_I) (nh : Nat) (hp : ab_H) (loc : List (Nat × ab_V)) (st : List ab_V) (nc ns : Nat) : Option (List (Nat × ab_S)) := match i with
  | .iadd => (match st with
    | y :: x :: rr => (match E[x.2]? with
    | none => none
    | some ix => (match E[y.2]? with
    | none => none
    | some iy => if len = 1 ∧ x.1 = 0 ∧ y.1 = 0 then some [(pc + 1, E ++ [ab_cl (ix.1 + iy.1, ix.2 + iy.2)], nh, hp, loc, (0, E.length) :: rr, nc, ns)] else none))
    | _ => none)
  | .isub => (match st with
    | y :: x :: rr => (match E[x.2]? with
    | none => none
    | some ix => (match E[y.2]? with
    | none => none
    | some iy => if len = 1 ∧ x.1 = 0 ∧ y.1 = 0 then some [(pc + 1, E ++ [ab_cl (ix.1 - iy.2, ix.2 - iy.1)], nh, hp, loc, (0, E.length) :: rr, nc, ns)] else none))
    | _ => none)
  | .imul => (match st with
    | y :: x :: rr => (match E[x.2]? with
    | none => none
    | some ix => (match E[y.2]? with
    | none => none
    | some iy => if len = 1 ∧ x.1 = 0 ∧ y.1 = 0 then some [(pc + 1, E ++ [ab_mulI ix iy], nh, hp, loc, (0, E.length) :: rr, nc, ns)] else none))
    | _ => none)
  | .iand => (match st with
    | y :: x :: rr => (match E[x.2]? with
    | none => none
    | some ix => (match E[y.2]? with
    | none => none
    | some iy => if len = 1 ∧ x.1 = 0 ∧ y.1 = 0 then some [(pc + 1, E ++ [ab_andI ix iy], nh, hp, loc, (0, E.length) :: rr, nc, ns)] else none))
    | _ => none)
  | .ior => (match st with
    | y :: x :: rr => (match E[x.2]? with
    | none => none
    | some ix => (match E[y.2]? with
    | none => none
    | some iy => if len = 1 ∧ x.1 = 0 ∧ y.1 = 0 then some [(pc + 1, E ++ [ab_orI ix iy], nh, hp, loc, (0, E.length) :: rr, nc, ns)] else none))
    | _ => none)
  | .ixor => (match st with
    | y :: x :: rr => (match E[x.2]? with
    | none => none
    | some ix => (match E[y.2]? with
    | none => none
    | some iy => if len = 1 ∧ x.1 = 0 ∧ y.1 = 0 then some [(pc + 1, E ++ [ab_orI ix iy], nh, hp, loc, (0, E.length) :: rr, nc, ns)] else none))
    | _ => none)
  | .idiv => (match st with
    | y :: x :: rr => (match E[x.2]? with
    | none => none
    | some ix => (match E[y.2]? with
    | none => none
    | some iy => (match ab_divI ix iy with
    | none => none
    | some w => if len = 1 ∧ x.1 = 0 ∧ y.1 = 0 then some [(pc + 1, E ++ [w], nh, hp, loc, (0, E.length) :: rr, nc, ns)] else none)))
    | _ => none)
  | .irem => (match st with
    | y :: x :: rr => (match E[x.2]? with
    | none => none
    | some ix => (match E[y.2]? with
    | none => none
    | some iy => (match ab_remI ix iy with
    | none => none
    | some w => if len = 1 ∧ x.1 = 0 ∧ y.1 = 0 then some [(pc + 1, E ++ [w], nh, hp, loc, (0, E.length) :: rr, nc, ns)] else none)))
    | _ => none)
  | _ => none
section
variable {p : Program} {l : Launch} {e : Env} {R : Room} {s : State} {m : MethodId} {args : Array Value} {below : List Frame} {meth : Method} {c : Code} {Q : State → Prop} {cc : ByteArray} {own : String} {nL : Nat} {D : va_G} {cl : List vw_C} {rn : List String} {A : Nat → Prop} {Ts : List Cond} {sa : Nat → Nat} {dT : Nat → ClassId} {vs0 : List Int32} {hs0 : List Nat} {pc : Nat} {E : List ab_I} {nh nc ns : Nat} {hp : ab_H} {loc : List (Nat × ab_V)} {st : List ab_V}
set_option maxHeartbeats 4000000 in
theorem ab_1a_ok (X : ab_X p s m args c cc own nL D cl (ab_tys dT rn) A Ts) {KT : List (Nat × Int)} (hK : ∀ q ∈ KT, (Jvm.Cond.constant own q.1 (Int32.ofInt q.2)).before args s = true) {i : ClassFile.Instr} {len : Nat} {r : List (Nat × ab_S)} (hd : decode cc pc = .ok (i, len)) (h : ab_1a nL KT i len pc E nh hp loc st nc ns = some r) (hg : ∀ q ∈ r, ab_G p l e R s m args below meth c Q D cl A sa dT nL vs0 hs0 q.1 q.2.1 q.2.2.1 q.2.2.2.1 q.2.2.2.2.1 q.2.2.2.2.2.1 q.2.2.2.2.2.2.1 q.2.2.2.2.2.2.2) : ab_G p l e R s m args below meth c Q D cl A sa dT nL vs0 hs0 pc E nh hp loc st nc ns := by
  unfold ab_1a at h
  split at h
  · rename_i n
    by_cases hc : len = 1 ∧ -2147483648 ≤ n ∧ n ≤ 2147483647
    · rw [if_pos hc] at h
      obtain ⟨rfl, h1, h2⟩ := hc
      cases h
      exact ab_iconst X hd ⟨h1, h2⟩ (hg _ List.mem_cons_self)
    · rw [if_neg hc] at h; cases h
  · rename_i n
    by_cases hc : len = 2 ∧ -128 ≤ n ∧ n ≤ 127
    · rw [if_pos hc] at h
      obtain ⟨rfl, h1, h2⟩ := hc
      cases h
      exact ab_bipush X hd ⟨h1, h2⟩ (hg _ List.mem_cons_self)
    · rw [if_neg hc] at h; cases h
  · rename_i n
    by_cases hc : len = 3 ∧ -32768 ≤ n ∧ n ≤ 32767
    · rw [if_pos hc] at h
      obtain ⟨rfl, h1, h2⟩ := hc
      cases h
      exact ab_sipush X hd ⟨h1, h2⟩ (hg _ List.mem_cons_self)
    · rw [if_neg hc] at h; cases h
  · rename_i ix
    cases hm1 : ab_as KT ix with
    | none => rw [hm1] at h; cases h
    | some n =>
      rw [hm1] at h
      dsimp only at h
      by_cases hc : len = 2 ∧ -2147483648 ≤ n ∧ n ≤ 2147483647
      · rw [if_pos hc] at h
        obtain ⟨rfl, h1, h2⟩ := hc
        cases h
        exact ab_ldc X hd ⟨h1, h2⟩ (hK _ (ab_as_ok _ _ _ hm1)) (hg _ List.mem_cons_self)
      · rw [if_neg hc] at h; cases h
  · rename_i ix
    cases hm1 : ab_as KT ix with
    | none => rw [hm1] at h; cases h
    | some n =>
      rw [hm1] at h
      dsimp only at h
      by_cases hc : len = 3 ∧ -2147483648 ≤ n ∧ n ≤ 2147483647
      · rw [if_pos hc] at h
        obtain ⟨rfl, h1, h2⟩ := hc
        cases h
        exact ab_ldcw X hd ⟨h1, h2⟩ (hK _ (ab_as_ok _ _ _ hm1)) (hg _ List.mem_cons_self)
      · rw [if_neg hc] at h; cases h
  · rename_i k
    cases hm1 : ab_lk loc k with
    | none => rw [hm1] at h; cases h
    | some a =>
      rw [hm1] at h
      dsimp only at h
      by_cases hc : len = 1 ∧ a.1 = 0
      · rw [if_pos hc] at h
        obtain ⟨rfl, h1⟩ := hc
        obtain ⟨ta, ka⟩ := a
        dsimp only at *
        have eta : ta = 0 := by assumption
        subst eta
        cases h
        exact ab_iload_n X hd hm1 (hg _ List.mem_cons_self)
      · rw [if_neg hc] at h; cases h
  · rename_i k
    cases hm1 : ab_lk loc k with
    | none => rw [hm1] at h; cases h
    | some a =>
      rw [hm1] at h
      dsimp only at h
      by_cases hc : len = 2 ∧ a.1 = 0
      · rw [if_pos hc] at h
        obtain ⟨rfl, h1⟩ := hc
        obtain ⟨ta, ka⟩ := a
        dsimp only at *
        have eta : ta = 0 := by assumption
        subst eta
        cases h
        exact ab_iload X hd hm1 (hg _ List.mem_cons_self)
      · rw [if_neg hc] at h; cases h
  · rename_i k
    cases hm1 : ab_lk loc k with
    | none => rw [hm1] at h; cases h
    | some a =>
      rw [hm1] at h
      dsimp only at h
      by_cases hc : len = 1 ∧ a.1 = 1
      · rw [if_pos hc] at h
        obtain ⟨rfl, h1⟩ := hc
        obtain ⟨ta, ka⟩ := a
        dsimp only at *
        have eta : ta = 1 := by assumption
        subst eta
        cases h
        exact ab_aload_n X hd hm1 (hg _ List.mem_cons_self)
      · rw [if_neg hc] at h; cases h
  · rename_i k
    cases hm1 : ab_lk loc k with
    | none => rw [hm1] at h; cases h
    | some a =>
      rw [hm1] at h
      dsimp only at h
      by_cases hc : len = 2 ∧ a.1 = 1
      · rw [if_pos hc] at h
        obtain ⟨rfl, h1⟩ := hc
        obtain ⟨ta, ka⟩ := a
        dsimp only at *
        have eta : ta = 1 := by assumption
        subst eta
        cases h
        exact ab_aload X hd hm1 (hg _ List.mem_cons_self)
      · rw [if_neg hc] at h; cases h
  · rename_i k
    cases st with
    | nil => cases h
    | cons a rr =>
      dsimp only at h
      by_cases hc : len = 1 ∧ a.1 = 0 ∧ (k : Nat) < nL
      · rw [if_pos hc] at h
        obtain ⟨rfl, h1, h2⟩ := hc
        obtain ⟨ta, ka⟩ := a
        dsimp only at *
        have eta : ta = 0 := by assumption
        subst eta
        cases h
        exact ab_istore_n X hd h2 (hg _ List.mem_cons_self)
      · rw [if_neg hc] at h; cases h
  · rename_i k
    cases st with
    | nil => cases h
    | cons a rr =>
      dsimp only at h
      by_cases hc : len = 2 ∧ a.1 = 0 ∧ k < nL
      · rw [if_pos hc] at h
        obtain ⟨rfl, h1, h2⟩ := hc
        obtain ⟨ta, ka⟩ := a
        dsimp only at *
        have eta : ta = 0 := by assumption
        subst eta
        cases h
        exact ab_istore X hd h2 (hg _ List.mem_cons_self)
      · rw [if_neg hc] at h; cases h
  · rename_i k
    cases st with
    | nil => cases h
    | cons a rr =>
      dsimp only at h
      by_cases hc : len = 1 ∧ a.1 = 1 ∧ (k : Nat) < nL
      · rw [if_pos hc] at h
        obtain ⟨rfl, h1, h2⟩ := hc
        obtain ⟨ta, ka⟩ := a
        dsimp only at *
        have eta : ta = 1 := by assumption
        subst eta
        cases h
        exact ab_astore_n X hd h2 (hg _ List.mem_cons_self)
      · rw [if_neg hc] at h; cases h
  · rename_i k
    cases st with
    | nil => cases h
    | cons a rr =>
      dsimp only at h
      by_cases hc : len = 2 ∧ a.1 = 1 ∧ k < nL
      · rw [if_pos hc] at h
        obtain ⟨rfl, h1, h2⟩ := hc
        obtain ⟨ta, ka⟩ := a
        dsimp only at *
        have eta : ta = 1 := by assumption
        subst eta
        cases h
        exact ab_astore X hd h2 (hg _ List.mem_cons_self)
      · rw [if_neg hc] at h; cases h
  · rename_i k n
    cases hm1 : ab_lk loc k with
    | none => rw [hm1] at h; cases h
    | some a =>
      rw [hm1] at h
      dsimp only at h
      cases hm2 : E[a.2]? with
      | none => rw [hm2] at h; cases h
      | some j =>
        rw [hm2] at h
        dsimp only at h
        by_cases hc : len = 3 ∧ a.1 = 0 ∧ k < nL ∧ -2147483648 ≤ n ∧ n ≤ 2147483647
        · rw [if_pos hc] at h
          obtain ⟨rfl, h1, h2, h3, h4⟩ := hc
          obtain ⟨ta, ka⟩ := a
          dsimp only at *
          have eta : ta = 0 := by assumption
          subst eta
          cases h
          exact ab_iinc X hd ⟨h3, h4⟩ h2 hm1 hm2 (hg _ List.mem_cons_self)
        · rw [if_neg hc] at h; cases h
  · cases st with
    | nil => cases h
    | cons a rr =>
      dsimp only at h
      by_cases hc : len = 1
      · rw [if_pos hc] at h
        subst hc
        cases h
        exact ab_dup X hd (hg _ List.mem_cons_self)
      · rw [if_neg hc] at h; cases h
  · cases st with
    | nil => cases h
    | cons a rr =>
      dsimp only at h
      by_cases hc : len = 1
      · rw [if_pos hc] at h
        subst hc
        cases h
        exact ab_popi X hd (hg _ List.mem_cons_self)
      · rw [if_neg hc] at h; cases h
  · cases st with
    | nil => cases h
    | cons a r0 =>
      cases r0 with
      | nil => cases h
      | cons b rr =>
        dsimp only at h
        by_cases hc : len = 1
        · rw [if_pos hc] at h
          subst hc
          cases h
          exact ab_dupx1 X hd (hg _ List.mem_cons_self)
        · rw [if_neg hc] at h; cases h
  · cases st with
    | nil => cases h
    | cons a r0 =>
      cases r0 with
      | nil => cases h
      | cons b r1 =>
        cases r1 with
        | nil => cases h
        | cons d rr =>
          dsimp only at h
          by_cases hc : len = 1
          · rw [if_pos hc] at h
            subst hc
            cases h
            exact ab_dupx2 X hd (hg _ List.mem_cons_self)
          · rw [if_neg hc] at h; cases h
  · cases st with
    | nil => cases h
    | cons a r0 =>
      cases r0 with
      | nil => cases h
      | cons b rr =>
        dsimp only at h
        by_cases hc : len = 1
        · rw [if_pos hc] at h
          subst hc
          cases h
          exact ab_dup2 X hd (hg _ List.mem_cons_self)
        · rw [if_neg hc] at h; cases h
  · rename_i off
    cases hm1 : ab_tg pc off with
    | none => rw [hm1] at h; cases h
    | some tg =>
      rw [hm1] at h
      dsimp only at h
      by_cases hc : len = 3
      · rw [if_pos hc] at h
        subst hc
        cases h
        exact ab_goto X hd (ab_tg_ok hm1) (hg _ List.mem_cons_self)
      · rw [if_neg hc] at h; cases h
  · cases h
set_option maxHeartbeats 4000000 in
theorem ab_1b_ok (X : ab_X p s m args c cc own nL D cl (ab_tys dT rn) A Ts)  {i : ClassFile.Instr} {len : Nat} {r : List (Nat × ab_S)} (hd : decode cc pc = .ok (i, len)) (h : ab_1b  i len pc E nh hp loc st nc ns = some r) (hg : ∀ q ∈ r, ab_G p l e R s m args below meth c Q D cl A sa dT nL vs0 hs0 q.1 q.2.1 q.2.2.1 q.2.2.2.1 q.2.2.2.2.1 q.2.2.2.2.2.1 q.2.2.2.2.2.2.1 q.2.2.2.2.2.2.2) : ab_G p l e R s m args below meth c Q D cl A sa dT nL vs0 hs0 pc E nh hp loc st nc ns := by
  unfold ab_1b at h
  split at h
  · cases st with
    | nil => cases h
    | cons y r0 =>
      cases r0 with
      | nil => cases h
      | cons x rr =>
        dsimp only at h
        cases hm1 : E[x.2]? with
        | none => rw [hm1] at h; cases h
        | some ix =>
          rw [hm1] at h
          dsimp only at h
          cases hm2 : E[y.2]? with
          | none => rw [hm2] at h; cases h
          | some iy =>
            rw [hm2] at h
            dsimp only at h
            by_cases hc : len = 1 ∧ x.1 = 0 ∧ y.1 = 0
            · rw [if_pos hc] at h
              obtain ⟨rfl, h1, h2⟩ := hc
              obtain ⟨tx, kx⟩ := x
              dsimp only at *
              have etx : tx = 0 := by assumption
              subst etx
              obtain ⟨ty, ky⟩ := y
              dsimp only at *
              have ety : ty = 0 := by assumption
              subst ety
              cases h
              exact ab_iadd X hd hm1 hm2 (hg _ List.mem_cons_self)
            · rw [if_neg hc] at h; cases h
  · cases st with
    | nil => cases h
    | cons y r0 =>
      cases r0 with
      | nil => cases h
      | cons x rr =>
        dsimp only at h
        cases hm1 : E[x.2]? with
        | none => rw [hm1] at h; cases h
        | some ix =>
          rw [hm1] at h
          dsimp only at h
          cases hm2 : E[y.2]? with
          | none => rw [hm2] at h; cases h
          | some iy =>
            rw [hm2] at h
            dsimp only at h
            by_cases hc : len = 1 ∧ x.1 = 0 ∧ y.1 = 0
            · rw [if_pos hc] at h
              obtain ⟨rfl, h1, h2⟩ := hc
              obtain ⟨tx, kx⟩ := x
              dsimp only at *
              have etx : tx = 0 := by assumption
              subst etx
              obtain ⟨ty, ky⟩ := y
              dsimp only at *
              have ety : ty = 0 := by assumption
              subst ety
              cases h
              exact ab_isub X hd hm1 hm2 (hg _ List.mem_cons_self)
            · rw [if_neg hc] at h; cases h
  · cases st with
    | nil => cases h
    | cons y r0 =>
      cases r0 with
      | nil => cases h
      | cons x rr =>
        dsimp only at h
        cases hm1 : E[x.2]? with
        | none => rw [hm1] at h; cases h
        | some ix =>
          rw [hm1] at h
          dsimp only at h
          cases hm2 : E[y.2]? with
          | none => rw [hm2] at h; cases h
          | some iy =>
            rw [hm2] at h
            dsimp only at h
            by_cases hc : len = 1 ∧ x.1 = 0 ∧ y.1 = 0
            · rw [if_pos hc] at h
              obtain ⟨rfl, h1, h2⟩ := hc
              obtain ⟨tx, kx⟩ := x
              dsimp only at *
              have etx : tx = 0 := by assumption
              subst etx
              obtain ⟨ty, ky⟩ := y
              dsimp only at *
              have ety : ty = 0 := by assumption
              subst ety
              cases h
              exact ab_imul X hd hm1 hm2 (hg _ List.mem_cons_self)
            · rw [if_neg hc] at h; cases h
  · cases st with
    | nil => cases h
    | cons y r0 =>
      cases r0 with
      | nil => cases h
      | cons x rr =>
        dsimp only at h
        cases hm1 : E[x.2]? with
        | none => rw [hm1] at h; cases h
        | some ix =>
          rw [hm1] at h
          dsimp only at h
          cases hm2 : E[y.2]? with
          | none => rw [hm2] at h; cases h
          | some iy =>
            rw [hm2] at h
            dsimp only at h
            by_cases hc : len = 1 ∧ x.1 = 0 ∧ y.1 = 0
            · rw [if_pos hc] at h
              obtain ⟨rfl, h1, h2⟩ := hc
              obtain ⟨tx, kx⟩ := x
              dsimp only at *
              have etx : tx = 0 := by assumption
              subst etx
              obtain ⟨ty, ky⟩ := y
              dsimp only at *
              have ety : ty = 0 := by assumption
              subst ety
              cases h
              exact ab_iand X hd hm1 hm2 (hg _ List.mem_cons_self)
            · rw [if_neg hc] at h; cases h
  · cases st with
    | nil => cases h
    | cons y r0 =>
      cases r0 with
      | nil => cases h
      | cons x rr =>
        dsimp only at h
        cases hm1 : E[x.2]? with
        | none => rw [hm1] at h; cases h
        | some ix =>
          rw [hm1] at h
          dsimp only at h
          cases hm2 : E[y.2]? with
          | none => rw [hm2] at h; cases h
          | some iy =>
            rw [hm2] at h
            dsimp only at h
            by_cases hc : len = 1 ∧ x.1 = 0 ∧ y.1 = 0
            · rw [if_pos hc] at h
              obtain ⟨rfl, h1, h2⟩ := hc
              obtain ⟨tx, kx⟩ := x
              dsimp only at *
              have etx : tx = 0 := by assumption
              subst etx
              obtain ⟨ty, ky⟩ := y
              dsimp only at *
              have ety : ty = 0 := by assumption
              subst ety
              cases h
              exact ab_ior X hd hm1 hm2 (hg _ List.mem_cons_self)
            · rw [if_neg hc] at h; cases h
  · cases st with
    | nil => cases h
    | cons y r0 =>
      cases r0 with
      | nil => cases h
      | cons x rr =>
        dsimp only at h
        cases hm1 : E[x.2]? with
        | none => rw [hm1] at h; cases h
        | some ix =>
          rw [hm1] at h
          dsimp only at h
          cases hm2 : E[y.2]? with
          | none => rw [hm2] at h; cases h
          | some iy =>
            rw [hm2] at h
            dsimp only at h
            by_cases hc : len = 1 ∧ x.1 = 0 ∧ y.1 = 0
            · rw [if_pos hc] at h
              obtain ⟨rfl, h1, h2⟩ := hc
              obtain ⟨tx, kx⟩ := x
              dsimp only at *
              have etx : tx = 0 := by assumption
              subst etx
              obtain ⟨ty, ky⟩ := y
              dsimp only at *
              have ety : ty = 0 := by assumption
              subst ety
              cases h
              exact ab_ixor X hd hm1 hm2 (hg _ List.mem_cons_self)
            · rw [if_neg hc] at h; cases h
  · cases st with
    | nil => cases h
    | cons y r0 =>
      cases r0 with
      | nil => cases h
      | cons x rr =>
        dsimp only at h
        cases hm1 : E[x.2]? with
        | none => rw [hm1] at h; cases h
        | some ix =>
          rw [hm1] at h
          dsimp only at h
          cases hm2 : E[y.2]? with
          | none => rw [hm2] at h; cases h
          | some iy =>
            rw [hm2] at h
            dsimp only at h
            cases hm3 : ab_divI ix iy with
            | none => rw [hm3] at h; cases h
            | some w =>
              rw [hm3] at h
              dsimp only at h
              by_cases hc : len = 1 ∧ x.1 = 0 ∧ y.1 = 0
              · rw [if_pos hc] at h
                obtain ⟨rfl, h1, h2⟩ := hc
                obtain ⟨tx, kx⟩ := x
                dsimp only at *
                have etx : tx = 0 := by assumption
                subst etx
                obtain ⟨ty, ky⟩ := y
                dsimp only at *
                have ety : ty = 0 := by assumption
                subst ety
                cases h
                exact ab_idiv X hd hm1 hm2 hm3 (hg _ List.mem_cons_self)
              · rw [if_neg hc] at h; cases h
  · cases st with
    | nil => cases h
    | cons y r0 =>
      cases r0 with
      | nil => cases h
      | cons x rr =>
        dsimp only at h
        cases hm1 : E[x.2]? with
        | none => rw [hm1] at h; cases h
        | some ix =>
          rw [hm1] at h
          dsimp only at h
          cases hm2 : E[y.2]? with
          | none => rw [hm2] at h; cases h
          | some iy =>
            rw [hm2] at h
            dsimp only at h
            cases hm3 : ab_remI ix iy with
            | none => rw [hm3] at h; cases h
            | some w =>
              rw [hm3] at h
              dsimp only at h
              by_cases hc : len = 1 ∧ x.1 = 0 ∧ y.1 = 0
              · rw [if_pos hc] at h
                obtain ⟨rfl, h1, h2⟩ := hc
                obtain ⟨tx, kx⟩ := x
                dsimp only at *
                have etx : tx = 0 := by assumption
                subst etx
                obtain ⟨ty, ky⟩ := y
                dsimp only at *
                have ety : ty = 0 := by assumption
                subst ety
                cases h
                exact ab_irem X hd hm1 hm2 hm3 (hg _ List.mem_cons_self)
              · rw [if_neg hc] at h; cases h
  · cases h
end
end
section
def ab_ob (hp : ab_H) (a : Nat) : Option (Nat × Nat × List ab_V) := match ab_fi hp a 0 with
  | some (j, .inl (ci, fs)) => some (j, ci, fs)
  | _ => none
theorem ab_ob_ok {hp : ab_H} {a : Nat} {o : Nat × Nat × List ab_V} (h : ab_ob hp a = some o) : ab_fi hp a 0 = some (o.1, .inl (o.2.1, o.2.2)) := by
  unfold ab_ob at h
  split at h
  · rename_i j ci fs he
    cases h
    exact he
  · cases h
def ab_ia (hp : ab_H) (a : Nat) : Option (Nat × Nat × Int × Int × Int × Int) := match ab_fi hp a 0 with
  | some (j, .inr (.inl (n, lo, hi, lo0, hi0))) => some (j, n, lo, hi, lo0, hi0)
  | _ => none
theorem ab_ia_ok {hp : ab_H} {a : Nat} {o : Nat × Nat × Int × Int × Int × Int} (h : ab_ia hp a = some o) : ab_fi hp a 0 = some (o.1, .inr (.inl (o.2.1, o.2.2.1, o.2.2.2.1, o.2.2.2.2.1, o.2.2.2.2.2))) := by
  unfold ab_ia at h
  split at h
  · rename_i j n lo hi lo0 hi0 he
    cases h
    exact he
  · cases h
def ab_qa (hp : ab_H) (a : Nat) : Option (Nat × Nat × List ab_V) := match ab_fi hp a 0 with
  | some (j, .inr (.inr (t, js))) => some (j, t, js)
  | _ => none
theorem ab_qa_ok {hp : ab_H} {a : Nat} {o : Nat × Nat × List ab_V} (h : ab_qa hp a = some o) : ab_fi hp a 0 = some (o.1, .inr (.inr (o.2.1, o.2.2))) := by
  unfold ab_qa at h
  split at h
  · rename_i j t js he
    cases h
    exact he
  · cases h
def ab_all {α β : Type} (f : α → Option β) : List α → Option (List β)
  | [] => some []
  | x :: r => match f x with
    | none => none
    | some y => (match ab_all f r with
      | none => none
      | some ys => some (y :: ys))
theorem ab_all_ok {α β : Type} {f : α → Option β} : ∀ {l : List α} {ys : List β}, ab_all f l = some ys → ∀ x ∈ l, ∃ y ∈ ys, f x = some y
  | [], _, _, x, hx => by cases hx
  | z :: r, ys, h, x, hx => by
    unfold ab_all at h
    cases hz : f z with
    | none => rw [hz] at h; cases h
    | some y =>
      rw [hz] at h
      dsimp only at h
      cases hr : ab_all f r with
      | none => rw [hr] at h; cases h
      | some ys' =>
        rw [hr] at h
        cases h
        rcases List.mem_cons.mp hx with rfl | hx
        · exact ⟨y, List.mem_cons_self, hz⟩
        · obtain ⟨y', h1, h2⟩ := ab_all_ok hr x hx
          exact ⟨y', List.mem_cons_of_mem _ h1, h2⟩
def ab_zs (a b : Int) : List Int := (List.range (b - a + 1).toNat).map (fun k : Nat => a + (k : Int))
theorem ab_zs_ok {a b z : Int} (h1 : a ≤ z) (h2 : z ≤ b) : z ∈ ab_zs a b := List.mem_map.mpr ⟨(z - a).toNat, List.mem_range.mpr (by omega), by omega⟩
def ab_tz (lo : Int) (offs : Array Int) (pc kx : Nat) (E : List ab_I) (nh : Nat) (hp : ab_H) (loc : List (Nat × ab_V)) (st : List ab_V) (nc ns : Nat) (z : Int) : Option (Nat × ab_S) := match offs[(z - lo).toNat]? with
  | none => none
  | some off => (match ab_tg pc off with
    | none => none
    | some t => some (t, E.set kx (z, z), nh, hp, loc, st, nc, ns))
def ab_qz (js : List ab_V) (pc ki : Nat) (E : List ab_I) (nh : Nat) (hp : ab_H) (loc : List (Nat × ab_V)) (st : List ab_V) (nc ns : Nat) (z : Int) : Option (Nat × ab_S) := match js[z.toNat]? with
  | none => none
  | some v => some (pc + 1, E.set ki (z, z), nh, hp, loc, v :: st, nc, ns)
def ab_sz (xs : List Int) (pc ki : Nat) (E : List ab_I) (nh : Nat) (hp : ab_H) (loc : List (Nat × ab_V)) (st : List ab_V) (nc ns : Nat) (z : Int) : Option (Nat × ab_S) := match xs[z.toNat]? with
  | none => none
  | some x => some (pc + 1, E.set ki (z, z) ++ [(x, x)], nh, hp, loc, (0, E.length) :: st, nc, ns)
def ab_1c (rn : List String) (SL : ab_SL) (i : ClassFile.Instr) (len pc : Nat) (E : List ab_I) (nh : Nat) (hp : ab_H) (loc : List (Nat × ab_V)) (st : List ab_V) (nc ns : Nat) : Option (List (Nat × ab_S)) := match i with
  | .if_icmp cn off => (match st with
    | y :: x :: rr => (match E[x.2]? with
      | none => none
      | some ix => (match E[y.2]? with
        | none => none
        | some iy => (match ab_tg pc off with
          | none => none
          | some tg => if len = 3 ∧ x.1 = 0 ∧ y.1 = 0 then some ((ab_br cn E x.2 y.2 ix iy).map (fun E' => (tg, E', nh, hp, loc, rr, nc, ns)) ++ (ab_br (ab_ng cn) E x.2 y.2 ix iy).map (fun E' => (pc + 3, E', nh, hp, loc, rr, nc, ns))) else none)))
    | _ => none)
  | .ifCond cn off => (match st with
    | x :: rr => (match E[x.2]? with
      | none => none
      | some ix => (match ab_tg pc off with
          | none => none
          | some tg => if len = 3 ∧ x.1 = 0 then some ((ab_br1 cn E x.2 ix).map (fun E' => (tg, E', nh, hp, loc, rr, nc, ns)) ++ (ab_br1 (ab_ng cn) E x.2 ix).map (fun E' => (pc + 3, E', nh, hp, loc, rr, nc, ns))) else none))
    | _ => none)
  | .tableswitch df lo hi offs => (match st with
    | x :: rr => (match E[x.2]? with
      | none => none
      | some ix => (match ab_tg pc df with
        | none => none
        | some td => if x.1 = 0 then (match ab_all (ab_tz lo offs pc x.2 E nh hp loc rr nc ns) (ab_zs (max ix.1 lo) (min ix.2 hi)) with
          | none => none
          | some ys => some (ys ++ (if ix.1 < lo ∨ hi < ix.2 then [(td, E, nh, hp, loc, rr, nc, ns)] else []))) else none))
    | _ => none)
  | .aaload => (match st with
    | i :: a :: rr => (match E[i.2]? with
      | none => none
      | some iv => (match ab_qa hp a.2 with
        | none => none
        | some o => if len = 1 ∧ i.1 = 0 ∧ a.1 = 1 ∧ 0 ≤ iv.1 ∧ iv.2 < (o.2.2.length : Int) ∧ o.2.1 < rn.length then ab_all (ab_qz o.2.2 pc i.2 E nh hp loc rr nc ns) (ab_zs iv.1 iv.2) else none))
    | _ => none)
  | .iaload => (match st with
    | i :: a :: rr => (match E[i.2]? with
      | none => none
      | some iv => (match SL[a.2]? with
        | none => none
        | some w => if len = 1 ∧ i.1 = 0 ∧ a.1 = 3 ∧ 0 ≤ iv.1 ∧ iv.2 < (w.2.2.2.length : Int) ∧ (∀ x ∈ w.2.2.2, -2147483648 ≤ x ∧ x ≤ 2147483647) then ab_all (ab_sz w.2.2.2 pc i.2 E nh hp loc rr nc ns) (ab_zs iv.1 iv.2) else none))
    | _ => none)
  | _ => none
def ab_1d (R : Room) (cl : List vw_C) (rn : List String) (ini : Bool) (FT : List (Nat × Nat × Nat × Nat)) (SL : ab_SL) (ST : List (Nat × Nat)) (NT : List (Nat × Nat × List Bool)) (RT : List (Nat × Nat)) (OI : List Nat) (AC : List Nat) (i : ClassFile.Instr) (len pc : Nat) (E : List ab_I) (nh : Nat) (hp : ab_H) (loc : List (Nat × ab_V)) (st : List ab_V) (nc ns : Nat) : Option (List (Nat × ab_S)) := match i with
  | .getfield ix => (match st with
    | a :: rr => (match ab_as FT ix with
    | none => none
    | some q => (match ab_ob hp a.2 with
    | none => none
    | some o => (match o.2.2[q.2.1]? with
    | none => none
    | some v => if len = 3 ∧ a.1 = 1 ∧ q.1 = o.2.1 then some [(pc + 3, E, nh, hp, loc, v :: rr, nc, ns)] else none)))
    | _ => none)
  | .putfield ix => (match st with
    | v :: a :: rr => (match ab_as FT ix with
    | none => none
    | some q => (match ab_ob hp a.2 with
    | none => none
    | some o => if len = 3 ∧ a.1 = 1 ∧ q.1 = o.2.1 ∧ q.2.1 < o.2.2.length ∧ q.2.2 < 4 ∧ (q.2.2 < 2 ∨ ini = true) ∧ ((q.2.2 % 2 = 0 ∧ v.1 = 0) ∨ (q.2.2 % 2 = 1 ∧ v.1 ≠ 0)) then some [(pc + 3, E, nh, hp.set o.1 (a.2, .inl (o.2.1, o.2.2.set q.2.1 v)), loc, rr, nc, ns)] else none))
    | _ => none)
  | .iaload => (match st with
    | i :: a :: rr => (match E[i.2]? with
    | none => none
    | some iv => (match ab_ia hp a.2 with
    | none => none
    | some o => if len = 1 ∧ i.1 = 0 ∧ a.1 = 1 ∧ 0 ≤ iv.1 ∧ iv.2 < (o.2.1 : Int) then some [(pc + 1, E ++ [ab_ixI iv o.2.2.1 o.2.2.2.1 o.2.2.2.2.1 o.2.2.2.2.2], nh, hp, loc, (0, E.length) :: rr, nc, ns)] else none))
    | _ => none)
  | .iastore => (match st with
    | x :: i :: a :: rr => (match E[i.2]? with
    | none => none
    | some iv => (match E[x.2]? with
    | none => none
    | some xv => (match ab_ia hp a.2 with
    | none => none
    | some o => if len = 1 ∧ x.1 = 0 ∧ i.1 = 0 ∧ a.1 = 1 ∧ 0 ≤ iv.1 ∧ iv.2 < (o.2.1 : Int) then some [(pc + 1, E, nh, hp.set o.1 (a.2, .inr (.inl (o.2.1, ab_stI iv xv o.2.2.1 o.2.2.2.1 o.2.2.2.2.1 o.2.2.2.2.2))), loc, rr, nc, ns)] else none)))
    | _ => none)
  | .arraylength => (match st with
    | a :: rr => (match ab_ia hp a.2 with
    | none => none
    | some o => if len = 1 ∧ a.1 = 1 ∧ o.2.1 < 2147483648 then some [(pc + 1, E ++ [((o.2.1 : Int), (o.2.1 : Int))], nh, hp, loc, (0, E.length) :: rr, nc, ns)] else none)
    | _ => none)
  | .getstatic ix => (match ab_as ST ix with
    | none => none
    | some t => (match SL[t]? with
    | none => none
    | some w => if len = 3 then some [(pc + 3, E, nh, hp, loc, (3, t) :: st, nc, ns)] else none))
  | .new ix => (match ab_as NT ix with
    | none => none
    | some q => if len = 3 ∧ nc + 1 ≤ R.cells ∧ ns + q.2.length ≤ R.slots then some [(pc + 3, E ++ [(0, 0)], nh + 1, hp ++ [(nh, .inl (q.1, q.2.map (fun b => if b then (0, E.length) else (2, 0))))], loc, (1, nh) :: st, nc + 1, ns + q.2.length)] else none)
  | .newarray .int => (match st with
    | k :: rr => (match E[k.2]? with
    | none => none
    | some iv => if len = 2 ∧ k.1 = 0 ∧ iv.1 = iv.2 ∧ 0 ≤ iv.1 ∧ iv.1.toNat * 4 ≤ 536870912 ∧ nc + 1 ≤ R.cells ∧ ns + iv.1.toNat ≤ R.slots then some [(pc + 2, E, nh + 1, hp ++ [(nh, .inr (.inl (iv.1.toNat, 0, 0, 0, 0)))], loc, (1, nh) :: rr, nc + 1, ns + iv.1.toNat)] else none)
    | _ => none)
  | .anewarray ix => (match st with
    | k :: rr => (match E[k.2]? with
    | none => none
    | some iv => (match ab_as RT ix with
    | none => none
    | some t => (match rn[t]? with
    | none => none
    | some C => if len = 3 ∧ k.1 = 0 ∧ iv.1 = iv.2 ∧ 0 ≤ iv.1 ∧ iv.1.toNat * 4 ≤ 536870912 ∧ nc + 1 ≤ R.cells ∧ ns + iv.1.toNat ≤ R.slots then some [(pc + 3, E, nh + 1, hp ++ [(nh, .inr (.inr (t, List.replicate iv.1.toNat (2, 0))))], loc, (1, nh) :: rr, nc + 1, ns + iv.1.toNat)] else none)))
    | _ => none)
  | .aastore => (match st with
    | b :: i :: a :: rr => (match E[i.2]? with
    | none => none
    | some iv => (match ab_qa hp a.2 with
    | none => none
    | some o => (match ab_ob hp b.2 with
    | none => none
    | some ob => (match cl[ob.2.1]? with
    | none => none
    | some w => if len = 1 ∧ b.1 = 1 ∧ i.1 = 0 ∧ a.1 = 1 ∧ iv.1 = iv.2 ∧ 0 ≤ iv.1 ∧ iv.2 < (o.2.2.length : Int) ∧ rn[o.2.1]? = some w.1 then some [(pc + 1, E, nh, hp.set o.1 (a.2, .inr (.inr (o.2.1, o.2.2.set iv.1.toNat (1, b.2)))), loc, rr, nc, ns)] else none))))
    | _ => none)
  | .invokespecial ix => (match st with
    | a :: rr => if len = 3 ∧ a.1 = 1 ∧ ix ∈ OI ∧ 1 ≤ R.frames ∧ rr.length + 12 ≤ R.locals then some [(pc + 3, E, nh, hp, loc, rr, nc, ns)] else none
    | _ => none)
  | .invokestatic ix => (match st with
    | n :: dd :: b :: sp :: a :: rr => (match E[n.2]? with
    | none => none
    | some i1 => (match E[dd.2]? with
    | none => none
    | some i2 => (match E[sp.2]? with
    | none => none
    | some i3 => (match ab_ia hp a.2 with
    | none => none
    | some oa => (match ab_ia hp b.2 with
    | none => none
    | some ob => if len = 3 ∧ n.1 = 0 ∧ dd.1 = 0 ∧ b.1 = 1 ∧ sp.1 = 0 ∧ a.1 = 1 ∧ ix ∈ AC ∧ 0 ≤ i1.1 ∧ i2 = (0, 0) ∧ i3 = (0, 0) ∧ i1.2 ≤ (oa.2.1 : Int) ∧ i1.2 ≤ (ob.2.1 : Int) ∧ 1 ≤ R.frames ∧ rr.length + (nativeFrameWords "java/lang/System" "arraycopy" 5 + 11) ≤ R.locals then some [(pc + 3, E, nh, hp.set ob.1 (b.2, .inr (.inl (ob.2.1, min oa.2.2.1 ob.2.2.1, max oa.2.2.2.1 ob.2.2.2.1, min oa.2.2.2.2.1 ob.2.2.2.2.1, max oa.2.2.2.2.2 ob.2.2.2.2.2))), loc, rr, nc, ns)] else none)))))
    | _ => none)
  | _ => none
section
variable {p : Program} {l : Launch} {e : Env} {R : Room} {s : State} {m : MethodId} {args : Array Value} {below : List Frame} {meth : Method} {c : Code} {Q : State → Prop} {cc : ByteArray} {own : String} {nL : Nat} {D : va_G} {cl : List vw_C} {rn : List String} {A : Nat → Prop} {Ts : List Cond} {sa : Nat → Nat} {dT : Nat → ClassId} {vs0 : List Int32} {hs0 : List Nat} {pc : Nat} {E : List ab_I} {nh nc ns : Nat} {hp : ab_H} {loc : List (Nat × ab_V)} {st : List ab_V}
variable {SL : ab_SL} {NF : ab_NF} {NM : ab_NM}
set_option maxHeartbeats 4000000 in
theorem ab_1d_ok (X : ab_X p s m args c cc own nL D cl (ab_tys dT rn) A Ts) (SX : ab_SX rn SL NF NM sa A s s.heap) {ini : Bool} {FT : List (Nat × Nat × Nat × Nat)} {ST : List (Nat × Nat)} {NT : List (Nat × Nat × List Bool)} {RT : List (Nat × Nat)} {OI AC : List Nat} (hini : ini = true → meth.name = "<init>") (hF : ∀ q ∈ FT, ab_FL s args own cl Ts q.1 q.2.1 q.2.2.1 q.2.2.2) (hST : ∀ q ∈ ST, ∀ r, SL[q.2]? = some r → (Cond.fieldLink own q.1 r.1 r.2.1 r.2.2.1).before args s = true) (hNT : ∀ q ∈ NT, ab_NL s args own cl Ts q.1 q.2.1 q.2.2) (hAI : (Cond.arrayClass (newarray.typeOf .int)).before args s = true) (hRT : ∀ q ∈ RT, ∀ C, rn[q.2]? = some C → (Cond.classLink own q.1 C).before args s = true) (hOI : ∀ ix ∈ OI, (Cond.methodLink own ix Lib.objectInit).before args s = true ∧ (Cond.instanceMethod Lib.objectInit).before args s = true ∧ (Cond.code Lib.objectInit ⟨#[0xb1]⟩ 1 none).before args s = true) (hAC : ∀ ix ∈ AC, (Cond.methodLink own ix arraycopyName).before args s = true ∧ (Cond.native arraycopyName).before args s = true ∧ (Cond.static arraycopyName).before args s = true ∧ (Cond.initialized "java/lang/System").before args s = true) {i : ClassFile.Instr} {len : Nat} {r : List (Nat × ab_S)} (hd : decode cc pc = .ok (i, len)) (h : ab_1d R cl rn ini FT SL ST NT RT OI AC i len pc E nh hp loc st nc ns = some r) (hg : ∀ q ∈ r, ab_G p l e R s m args below meth c Q D cl A sa dT nL vs0 hs0 q.1 q.2.1 q.2.2.1 q.2.2.2.1 q.2.2.2.2.1 q.2.2.2.2.2.1 q.2.2.2.2.2.2.1 q.2.2.2.2.2.2.2) : ab_G p l e R s m args below meth c Q D cl A sa dT nL vs0 hs0 pc E nh hp loc st nc ns := by
  unfold ab_1d at h
  split at h
  · rename_i ix
    cases st with
    | nil => cases h
    | cons a rr =>
      dsimp only at h
      cases hm1 : ab_as FT ix with
      | none => rw [hm1] at h; cases h
      | some q =>
        rw [hm1] at h
        dsimp only at h
        cases hm2 : ab_ob hp a.2 with
        | none => rw [hm2] at h; cases h
        | some o =>
          rw [hm2] at h
          dsimp only at h
          cases hm3 : o.2.2[q.2.1]? with
          | none => rw [hm3] at h; cases h
          | some v =>
            rw [hm3] at h
            dsimp only at h
            by_cases hc : len = 3 ∧ a.1 = 1 ∧ q.1 = o.2.1
            · rw [if_pos hc] at h
              obtain ⟨rfl, h1, h2⟩ := hc
              obtain ⟨ta, ka⟩ := a
              dsimp only at *
              have eta : ta = 1 := by assumption
              subst eta
              have hF1 := hF _ (ab_as_ok _ _ _ hm1)
              rw [h2] at hF1
              cases h
              exact ab_getf X hF1 hd (ab_ob_ok hm2) hm3 (hg _ List.mem_cons_self)
            · rw [if_neg hc] at h; cases h
  · rename_i ix
    cases st with
    | nil => cases h
    | cons v r0 =>
      cases r0 with
      | nil => cases h
      | cons a rr =>
        dsimp only at h
        cases hm1 : ab_as FT ix with
        | none => rw [hm1] at h; cases h
        | some q =>
          rw [hm1] at h
          dsimp only at h
          cases hm2 : ab_ob hp a.2 with
          | none => rw [hm2] at h; cases h
          | some o =>
            rw [hm2] at h
            dsimp only at h
            by_cases hc : len = 3 ∧ a.1 = 1 ∧ q.1 = o.2.1 ∧ q.2.1 < o.2.2.length ∧ q.2.2 < 4 ∧ (q.2.2 < 2 ∨ ini = true) ∧ ((q.2.2 % 2 = 0 ∧ v.1 = 0) ∨ (q.2.2 % 2 = 1 ∧ v.1 ≠ 0))
            · rw [if_pos hc] at h
              obtain ⟨rfl, h1, h2, h3, h4, h5, h6⟩ := hc
              obtain ⟨ta, ka⟩ := a
              dsimp only at *
              have eta : ta = 1 := by assumption
              subst eta
              have hF1 := hF _ (ab_as_ok _ _ _ hm1)
              rw [h2] at hF1
              cases h
              exact ab_putf X hF1 (fun h7 => hini (h5.resolve_left (by dsimp only at h7; omega))) h4 hd (ab_ob_ok hm2) h3 h6 (hg _ List.mem_cons_self)
            · rw [if_neg hc] at h; cases h
  · cases st with
    | nil => cases h
    | cons i r0 =>
      cases r0 with
      | nil => cases h
      | cons a rr =>
        dsimp only at h
        cases hm1 : E[i.2]? with
        | none => rw [hm1] at h; cases h
        | some iv =>
          rw [hm1] at h
          dsimp only at h
          cases hm2 : ab_ia hp a.2 with
          | none => rw [hm2] at h; cases h
          | some o =>
            rw [hm2] at h
            dsimp only at h
            by_cases hc : len = 1 ∧ i.1 = 0 ∧ a.1 = 1 ∧ 0 ≤ iv.1 ∧ iv.2 < (o.2.1 : Int)
            · rw [if_pos hc] at h
              obtain ⟨rfl, h1, h2, h3, h4⟩ := hc
              obtain ⟨ti, ki⟩ := i
              dsimp only at *
              have eti : ti = 0 := by assumption
              subst eti
              obtain ⟨ta, ka⟩ := a
              dsimp only at *
              have eta : ta = 1 := by assumption
              subst eta
              cases h
              exact ab_iald X hd (ab_ia_ok hm2) hm1 h3 h4 (hg _ List.mem_cons_self)
            · rw [if_neg hc] at h; cases h
  · cases st with
    | nil => cases h
    | cons x r0 =>
      cases r0 with
      | nil => cases h
      | cons i r1 =>
        cases r1 with
        | nil => cases h
        | cons a rr =>
          dsimp only at h
          cases hm1 : E[i.2]? with
          | none => rw [hm1] at h; cases h
          | some iv =>
            rw [hm1] at h
            dsimp only at h
            cases hm2 : E[x.2]? with
            | none => rw [hm2] at h; cases h
            | some xv =>
              rw [hm2] at h
              dsimp only at h
              cases hm3 : ab_ia hp a.2 with
              | none => rw [hm3] at h; cases h
              | some o =>
                rw [hm3] at h
                dsimp only at h
                by_cases hc : len = 1 ∧ x.1 = 0 ∧ i.1 = 0 ∧ a.1 = 1 ∧ 0 ≤ iv.1 ∧ iv.2 < (o.2.1 : Int)
                · rw [if_pos hc] at h
                  obtain ⟨rfl, h0, h1, h2, h3, h4⟩ := hc
                  obtain ⟨tx, kx⟩ := x
                  dsimp only at *
                  have etx : tx = 0 := by assumption
                  subst etx
                  obtain ⟨ti, ki⟩ := i
                  dsimp only at *
                  have eti : ti = 0 := by assumption
                  subst eti
                  obtain ⟨ta, ka⟩ := a
                  dsimp only at *
                  have eta : ta = 1 := by assumption
                  subst eta
                  cases h
                  exact ab_iast X hd (ab_ia_ok hm3) hm1 hm2 h3 h4 (hg _ List.mem_cons_self)
                · rw [if_neg hc] at h; cases h
  · cases st with
    | nil => cases h
    | cons a rr =>
      dsimp only at h
      cases hm1 : ab_ia hp a.2 with
      | none => rw [hm1] at h; cases h
      | some o =>
        rw [hm1] at h
        dsimp only at h
        by_cases hc : len = 1 ∧ a.1 = 1 ∧ o.2.1 < 2147483648
        · rw [if_pos hc] at h
          obtain ⟨rfl, h1, h2⟩ := hc
          obtain ⟨ta, ka⟩ := a
          dsimp only at *
          have eta : ta = 1 := by assumption
          subst eta
          cases h
          exact ab_alen X h2 hd (ab_ia_ok hm1) (hg _ List.mem_cons_self)
        · rw [if_neg hc] at h; cases h
  · rename_i ix
    cases hm1 : ab_as ST ix with
    | none => rw [hm1] at h; cases h
    | some t =>
      rw [hm1] at h
      dsimp only at h
      cases hm2 : SL[t]? with
      | none => rw [hm2] at h; cases h
      | some w =>
        rw [hm2] at h
        dsimp only at h
        by_cases hc : len = 3
        · rw [if_pos hc] at h
          subst hc
          cases h
          exact ab_gets X SX hm2 (hST _ (ab_as_ok _ _ _ hm1) w hm2) hd (hg _ List.mem_cons_self)
        · rw [if_neg hc] at h; cases h
  · rename_i ix
    cases hm1 : ab_as NT ix with
    | none => rw [hm1] at h; cases h
    | some q =>
      rw [hm1] at h
      dsimp only at h
      by_cases hc : len = 3 ∧ nc + 1 ≤ R.cells ∧ ns + q.2.length ≤ R.slots
      · rw [if_pos hc] at h
        obtain ⟨rfl, h1, h2⟩ := hc
        cases h
        exact ab_newo X (hNT _ (ab_as_ok _ _ _ hm1)) hd ⟨h1, h2⟩ (hg _ List.mem_cons_self)
      · rw [if_neg hc] at h; cases h
  · cases st with
    | nil => cases h
    | cons k rr =>
      dsimp only at h
      cases hm1 : E[k.2]? with
      | none => rw [hm1] at h; cases h
      | some iv =>
        rw [hm1] at h
        dsimp only at h
        by_cases hc : len = 2 ∧ k.1 = 0 ∧ iv.1 = iv.2 ∧ 0 ≤ iv.1 ∧ iv.1.toNat * 4 ≤ 536870912 ∧ nc + 1 ≤ R.cells ∧ ns + iv.1.toNat ≤ R.slots
        · rw [if_pos hc] at h
          obtain ⟨rfl, h0, h1, h2, h3, h4, h5⟩ := hc
          obtain ⟨tk, kk⟩ := k
          dsimp only at *
          have etk : tk = 0 := by assumption
          subst etk
          cases h
          exact ab_newai X hAI hd hm1 h1 h2 h3 ⟨h4, h5⟩ (hg _ List.mem_cons_self)
        · rw [if_neg hc] at h; cases h
  · rename_i ix
    cases st with
    | nil => cases h
    | cons k rr =>
      dsimp only at h
      cases hm1 : E[k.2]? with
      | none => rw [hm1] at h; cases h
      | some iv =>
        rw [hm1] at h
        dsimp only at h
        cases hm2 : ab_as RT ix with
        | none => rw [hm2] at h; cases h
        | some t =>
          rw [hm2] at h
          dsimp only at h
          cases hm3 : rn[t]? with
          | none => rw [hm3] at h; cases h
          | some C =>
            rw [hm3] at h
            dsimp only at h
            by_cases hc : len = 3 ∧ k.1 = 0 ∧ iv.1 = iv.2 ∧ 0 ≤ iv.1 ∧ iv.1.toNat * 4 ≤ 536870912 ∧ nc + 1 ≤ R.cells ∧ ns + iv.1.toNat ≤ R.slots
            · rw [if_pos hc] at h
              obtain ⟨rfl, h0, h1, h2, h3, h4, h5⟩ := hc
              obtain ⟨tk, kk⟩ := k
              dsimp only at *
              have etk : tk = 0 := by assumption
              subst etk
              cases h
              exact ab_newaq X SX hm3 (hRT _ (ab_as_ok _ _ _ hm2) C hm3) hd hm1 h1 h2 h3 ⟨h4, h5⟩ (hg _ List.mem_cons_self)
            · rw [if_neg hc] at h; cases h
  · cases st with
    | nil => cases h
    | cons b r0 =>
      cases r0 with
      | nil => cases h
      | cons i r1 =>
        cases r1 with
        | nil => cases h
        | cons a rr =>
          dsimp only at h
          cases hm1 : E[i.2]? with
          | none => rw [hm1] at h; cases h
          | some iv =>
            rw [hm1] at h
            dsimp only at h
            cases hm2 : ab_qa hp a.2 with
            | none => rw [hm2] at h; cases h
            | some o =>
              rw [hm2] at h
              dsimp only at h
              cases hm3 : ab_ob hp b.2 with
              | none => rw [hm3] at h; cases h
              | some ob =>
                rw [hm3] at h
                dsimp only at h
                cases hm4 : cl[ob.2.1]? with
                | none => rw [hm4] at h; cases h
                | some w =>
                  rw [hm4] at h
                  dsimp only at h
                  by_cases hc : len = 1 ∧ b.1 = 1 ∧ i.1 = 0 ∧ a.1 = 1 ∧ iv.1 = iv.2 ∧ 0 ≤ iv.1 ∧ iv.2 < (o.2.2.length : Int) ∧ rn[o.2.1]? = some w.1
                  · rw [if_pos hc] at h
                    obtain ⟨rfl, h0, h1, h2, h3, h4, h5, h6⟩ := hc
                    obtain ⟨tb, kb⟩ := b
                    dsimp only at *
                    have etb : tb = 1 := by assumption
                    subst etb
                    obtain ⟨ti, ki⟩ := i
                    dsimp only at *
                    have eti : ti = 0 := by assumption
                    subst eti
                    obtain ⟨ta, ka⟩ := a
                    dsimp only at *
                    have eta : ta = 1 := by assumption
                    subst eta
                    cases h
                    exact ab_aast X hd hm4 h6 (ab_qa_ok hm2) (ab_ob_ok hm3) hm1 h3 h4 h5 (hg _ List.mem_cons_self)
                  · rw [if_neg hc] at h; cases h
  · rename_i ix
    cases st with
    | nil => cases h
    | cons a rr =>
      dsimp only at h
      by_cases hc : len = 3 ∧ a.1 = 1 ∧ ix ∈ OI ∧ 1 ≤ R.frames ∧ rr.length + 12 ≤ R.locals
      · rw [if_pos hc] at h
        obtain ⟨rfl, h1, h2, h3, h4⟩ := hc
        obtain ⟨ta, ka⟩ := a
        dsimp only at *
        have eta : ta = 1 := by assumption
        subst eta
        cases h
        exact ab_oinit X (hOI ix h2).1 (hOI ix h2).2.1 (hOI ix h2).2.2 hd h3 h4 (hg _ List.mem_cons_self)
      · rw [if_neg hc] at h; cases h
  · rename_i ix
    cases st with
    | nil => cases h
    | cons n r0 =>
      cases r0 with
      | nil => cases h
      | cons dd r1 =>
        cases r1 with
        | nil => cases h
        | cons b r2 =>
          cases r2 with
          | nil => cases h
          | cons sp r3 =>
            cases r3 with
            | nil => cases h
            | cons a rr =>
              dsimp only at h
              cases hm1 : E[n.2]? with
              | none => rw [hm1] at h; cases h
              | some i1 =>
                rw [hm1] at h
                dsimp only at h
                cases hm2 : E[dd.2]? with
                | none => rw [hm2] at h; cases h
                | some i2 =>
                  rw [hm2] at h
                  dsimp only at h
                  cases hm3 : E[sp.2]? with
                  | none => rw [hm3] at h; cases h
                  | some i3 =>
                    rw [hm3] at h
                    dsimp only at h
                    cases hm4 : ab_ia hp a.2 with
                    | none => rw [hm4] at h; cases h
                    | some oa =>
                      rw [hm4] at h
                      dsimp only at h
                      cases hm5 : ab_ia hp b.2 with
                      | none => rw [hm5] at h; cases h
                      | some ob =>
                        rw [hm5] at h
                        dsimp only at h
                        by_cases hc : len = 3 ∧ n.1 = 0 ∧ dd.1 = 0 ∧ b.1 = 1 ∧ sp.1 = 0 ∧ a.1 = 1 ∧ ix ∈ AC ∧ 0 ≤ i1.1 ∧ i2 = (0, 0) ∧ i3 = (0, 0) ∧ i1.2 ≤ (oa.2.1 : Int) ∧ i1.2 ≤ (ob.2.1 : Int) ∧ 1 ≤ R.frames ∧ rr.length + (nativeFrameWords "java/lang/System" "arraycopy" 5 + 11) ≤ R.locals
                        · rw [if_pos hc] at h
                          obtain ⟨rfl, t1, t2, t3, t4, t5, h1, h2, h3, h4, h5, h6, h7, h8⟩ := hc
                          obtain ⟨tn, kn⟩ := n
                          dsimp only at *
                          have etn : tn = 0 := by assumption
                          subst etn
                          obtain ⟨tdd, kdd⟩ := dd
                          dsimp only at *
                          have etdd : tdd = 0 := by assumption
                          subst etdd
                          obtain ⟨tb, kb⟩ := b
                          dsimp only at *
                          have etb : tb = 1 := by assumption
                          subst etb
                          obtain ⟨tsp, ksp⟩ := sp
                          dsimp only at *
                          have etsp : tsp = 0 := by assumption
                          subst etsp
                          obtain ⟨ta, ka⟩ := a
                          dsimp only at *
                          have eta : ta = 1 := by assumption
                          subst eta
                          cases h
                          exact ab_acopy X (hAC ix h1).1 (hAC ix h1).2.1 (hAC ix h1).2.2.1 (hAC ix h1).2.2.2 hd (ab_ia_ok hm4) (ab_ia_ok hm5) hm1 (h3 ▸ hm2) (h4 ▸ hm3) h2 h5 h6 h7 h8 (hg _ List.mem_cons_self)
                        · rw [if_neg hc] at h; cases h
  · cases h

set_option maxHeartbeats 4000000 in
theorem ab_1c_ok (X : ab_X p s m args c cc own nL D cl (ab_tys dT rn) A Ts) (SX : ab_SX rn SL NF NM sa A s s.heap) {i : ClassFile.Instr} {len : Nat} {r : List (Nat × ab_S)} (hd : decode cc pc = .ok (i, len)) (h : ab_1c rn SL i len pc E nh hp loc st nc ns = some r) (hg : ∀ q ∈ r, ab_G p l e R s m args below meth c Q D cl A sa dT nL vs0 hs0 q.1 q.2.1 q.2.2.1 q.2.2.2.1 q.2.2.2.2.1 q.2.2.2.2.2.1 q.2.2.2.2.2.2.1 q.2.2.2.2.2.2.2) : ab_G p l e R s m args below meth c Q D cl A sa dT nL vs0 hs0 pc E nh hp loc st nc ns := by
  unfold ab_1c at h
  split at h
  · rename_i cn off
    cases st with
    | nil => cases h
    | cons y r0 =>
    cases r0 with
    | nil => cases h
    | cons x rr =>
    dsimp only at h
    cases hm1 : E[x.2]? with
    | none => rw [hm1] at h; cases h
    | some ix =>
    rw [hm1] at h
    dsimp only at h
    cases hm2 : E[y.2]? with
    | none => rw [hm2] at h; cases h
    | some iy =>
    rw [hm2] at h
    dsimp only at h
    cases hm3 : ab_tg pc off with
    | none => rw [hm3] at h; cases h
    | some tg =>
    rw [hm3] at h
    dsimp only at h
    by_cases hc : len = 3 ∧ x.1 = 0 ∧ y.1 = 0
    · rw [if_pos hc] at h
      obtain ⟨rfl, h1, h2⟩ := hc
      obtain ⟨tx, kx⟩ := x
      obtain ⟨ty, ky⟩ := y
      dsimp only at *
      subst h1
      subst h2
      cases h
      exact ab_icmp X hd (ab_tg_ok hm3) hm1 hm2 (fun E' hE => hg (tg, E', nh, hp, loc, rr, nc, ns) (List.mem_append_left _ (List.mem_map.mpr ⟨E', hE, rfl⟩))) (fun E' hE => hg (pc + 3, E', nh, hp, loc, rr, nc, ns) (List.mem_append_right _ (List.mem_map.mpr ⟨E', hE, rfl⟩)))
    · rw [if_neg hc] at h; cases h
  · rename_i cn off
    cases st with
    | nil => cases h
    | cons x rr =>
    dsimp only at h
    cases hm1 : E[x.2]? with
    | none => rw [hm1] at h; cases h
    | some ix =>
    rw [hm1] at h
    dsimp only at h
    cases hm3 : ab_tg pc off with
    | none => rw [hm3] at h; cases h
    | some tg =>
    rw [hm3] at h
    dsimp only at h
    by_cases hc : len = 3 ∧ x.1 = 0
    · rw [if_pos hc] at h
      obtain ⟨rfl, h1⟩ := hc
      obtain ⟨tx, kx⟩ := x
      dsimp only at *
      subst h1
      cases h
      exact ab_ifc X hd (ab_tg_ok hm3) hm1 (fun E' hE => hg (tg, E', nh, hp, loc, rr, nc, ns) (List.mem_append_left _ (List.mem_map.mpr ⟨E', hE, rfl⟩))) (fun E' hE => hg (pc + 3, E', nh, hp, loc, rr, nc, ns) (List.mem_append_right _ (List.mem_map.mpr ⟨E', hE, rfl⟩)))
    · rw [if_neg hc] at h; cases h
  · rename_i df lo hi offs
    cases st with
    | nil => cases h
    | cons x rr =>
    dsimp only at h
    cases hm1 : E[x.2]? with
    | none => rw [hm1] at h; cases h
    | some ix =>
    rw [hm1] at h
    dsimp only at h
    cases hm3 : ab_tg pc df with
    | none => rw [hm3] at h; cases h
    | some td =>
    rw [hm3] at h
    dsimp only at h
    by_cases hc : x.1 = 0
    · rw [if_pos hc] at h
      obtain ⟨tx, kx⟩ := x
      dsimp only at *
      subst hc
      cases hm4 : ab_all (ab_tz lo offs pc kx E nh hp loc rr nc ns) (ab_zs (max ix.1 lo) (min ix.2 hi)) with
      | none => rw [hm4] at h; cases h
      | some ys =>
      rw [hm4] at h
      cases h
      refine ab_tab X hd hm1 (fun z a1 a2 a3 a4 => ?_) (ab_tg_ok hm3) (fun ho => hg (td, E, nh, hp, loc, rr, nc, ns) (List.mem_append_right _ (by rw [if_pos ho]; exact List.mem_cons_self)))
      obtain ⟨yy, b1, b2⟩ := ab_all_ok hm4 z (ab_zs_ok (by omega) (by omega))
      unfold ab_tz at b2
      cases hm5 : offs[(z - lo).toNat]? with
      | none => rw [hm5] at b2; cases b2
      | some off =>
      rw [hm5] at b2
      dsimp only at b2
      cases hm6 : ab_tg pc off with
      | none => rw [hm6] at b2; cases b2
      | some t =>
      rw [hm6] at b2
      cases b2
      exact ⟨off, t, rfl, ab_tg_ok hm6, hg _ (List.mem_append_left _ b1)⟩
    · rw [if_neg hc] at h; cases h
  · cases st with
    | nil => cases h
    | cons i r0 =>
    cases r0 with
    | nil => cases h
    | cons a rr =>
    dsimp only at h
    cases hm1 : E[i.2]? with
    | none => rw [hm1] at h; cases h
    | some iv =>
    rw [hm1] at h
    dsimp only at h
    cases hm2 : ab_qa hp a.2 with
    | none => rw [hm2] at h; cases h
    | some o =>
    rw [hm2] at h
    dsimp only at h
    split at h
    · rename_i hc
      obtain ⟨rfl, h1, h2, h3, h4, h5⟩ := hc
      obtain ⟨tx, kx⟩ := i
      obtain ⟨ty, ky⟩ := a
      dsimp only at *
      subst h1
      subst h2
      refine ab_aald X hd (List.getElem?_eq_getElem h5) (ab_qa_ok hm2) hm1 h3 h4 (fun z v a1 a2 a3 => ?_)
      obtain ⟨yy, b1, b2⟩ := ab_all_ok h (z : Int) (ab_zs_ok a1 a2)
      unfold ab_qz at b2
      rw [Int.toNat_natCast, a3] at b2
      cases b2
      exact hg _ b1
    · cases h
  · cases st with
    | nil => cases h
    | cons i r0 =>
    cases r0 with
    | nil => cases h
    | cons a rr =>
    dsimp only at h
    cases hm1 : E[i.2]? with
    | none => rw [hm1] at h; cases h
    | some iv =>
    rw [hm1] at h
    dsimp only at h
    cases hm2 : SL[a.2]? with
    | none => rw [hm2] at h; cases h
    | some w =>
    rw [hm2] at h
    dsimp only at h
    split at h
    · rename_i hc
      obtain ⟨rfl, h1, h2, h3, h4, h5⟩ := hc
      obtain ⟨tx, kx⟩ := i
      obtain ⟨ty, ky⟩ := a
      dsimp only at *
      subst h1
      subst h2
      refine ab_tald X SX hm2 hd hm1 h3 h4 h5 (fun z v a1 a2 a3 => ?_)
      obtain ⟨yy, b1, b2⟩ := ab_all_ok h (z : Int) (ab_zs_ok a1 a2)
      unfold ab_sz at b2
      rw [Int.toNat_natCast, a3] at b2
      cases b2
      exact hg _ b1
    · cases h
  · cases h
end
end
section
abbrev ab_M : Type := MethodName × ByteArray × Nat × Option FieldType
abbrev ab_N : Type := Nat × (List ab_I × Nat × ab_H × List ab_V) × List ab_P × Room
abbrev ab_Bd : Type := List (Nat × Nat) × List (Nat × Nat)
def ab_u1 (b : ab_Bd) (u v : ab_V) : ab_Bd := match u.1 with
  | 0 => ((u.2, v.2) :: b.1, b.2)
  | 1 => (b.1, (u.2, v.2) :: b.2)
  | _ => b
def ab_uL : ab_Bd → List ab_V → List ab_V → ab_Bd
  | b, u :: us, v :: vs => ab_uL (ab_u1 b u v) us vs
  | b, _, _ => b
def ab_uC (b : ab_Bd) (x x' : ab_C) : ab_Bd := match x, x' with
  | .inl (_, f), .inl (_, f') => ab_uL b f f'
  | .inr (.inr (_, f)), .inr (.inr (_, f')) => ab_uL b f f'
  | _, _ => b
def ab_uH (hp : ab_H) : ab_H → ab_Bd → ab_Bd
  | [], b => b
  | (a, x) :: r, b => ab_uH hp r (match ab_as b.2 a with
    | none => b
    | some c => (match ab_fi hp c 0 with
      | none => b
      | some q => ab_uC b x q.2))
def ab_sg (n : Nat) (b : List (Nat × Nat)) : List Nat := (List.range n).map (fun k => (ab_as b k).getD 0)
def ab_un (b0 : ab_Bd) (n0 nh0 : Nat) (hp0 : ab_H) (as0 : List ab_V) (hp : ab_H) (av : List ab_V) : List Nat × List Nat := (fun b => (ab_sg n0 b.1, ab_sg nh0 b.2)) (ab_uH hp hp0 (ab_uL b0 as0 av))
def ab_rc (kd rci : Nat) (hp : ab_H) (av : List ab_V) : Bool := match av with
  | [] => decide (kd = 1)
  | a :: _ => decide (kd = 1) || (decide (a.1 = 1) && (decide (kd = 2) || (match ab_ob hp a.2 with
    | none => false
    | some o => decide (o.2.1 = rci))))
def ab_na (kd : Nat) : Nat := match kd with
  | 1 => 0
  | _ => 1
def ab_ty2 (R : Room) (maxL kd np rci pc : Nat) (E : List ab_I) (nh : Nat) (hp : ab_H) (loc : List (Nat × ab_V)) (av rest : List ab_V) (nc ns : Nat) (E0 : List ab_I) (nh0 : Nat) (hp0 : ab_H) (as0 : List ab_V) (posts : List ab_P) (rm : Room) (σ π : List Nat) : Option (List (Nat × ab_S)) :=
  if ab_ek σ E0 E = true ∧ π.length = nh0 ∧ (∀ k ∈ π, k < nh) ∧ ab_ck σ π hp0 hp = true ∧ as0.map (ab_su σ π) = av ∧ as0.length = np + ab_na kd ∧ rest.length ≤ 8 ∧ (rm.frames + 1 ≤ R.frames ∧ 8 + (maxL + 11) + rm.locals ≤ R.locals) ∧ (nc + rm.cells ≤ R.cells ∧ ns + rm.slots ≤ R.slots) ∧ ab_rc kd rci hp av = true
  then some ((posts.filter (fun P => ab_em (ab_nE σ E0 E P))).map (fun P => (pc + 3, ab_nE σ E0 E P, nh + (P.2.1 - nh0), ab_nH σ π E0 E nh0 nh hp0 hp P, loc, ab_nr σ π E0 E nh0 nh P ++ rest, nc + rm.cells, ns + rm.slots))) else none
def ab_ty (R : Room) (mm : Nat → ab_M) (kd mno np rci pc : Nat) (E : List ab_I) (nh : Nat) (hp : ab_H) (loc : List (Nat × ab_V)) (av rest : List ab_V) (nc ns : Nat) (en : ab_N) : Option (List (Nat × ab_S)) :=
  if en.1 = mno then (fun q : List Nat × List Nat => ab_ty2 R (mm mno).2.2.1 kd np rci pc E nh hp loc av rest nc ns en.2.1.1 en.2.1.2.1 en.2.1.2.2.1 en.2.1.2.2.2 en.2.2.1 en.2.2.2 q.1 q.2) (ab_un ([], []) en.2.1.1.length en.2.1.2.1 en.2.1.2.2.1 en.2.1.2.2.2 hp av) else none
def ab_cs (R : Room) (mm : Nat → ab_M) (EN : List ab_N) (kd mno np rci pc : Nat) (E : List ab_I) (nh : Nat) (hp : ab_H) (loc : List (Nat × ab_V)) (st : List ab_V) (nc ns : Nat) : Option (List (Nat × ab_S)) :=
  EN.findSome? (ab_ty R mm kd mno np rci pc E nh hp loc (st.take (np + ab_na kd)).reverse (st.drop (np + ab_na kd)) nc ns)
def ab_1e (R : Room) (mm : Nat → ab_M) (MT : List (Nat × Nat × Nat × Nat × Nat)) (EN : List ab_N) (i : ClassFile.Instr) (len pc : Nat) (E : List ab_I) (nh : Nat) (hp : ab_H) (loc : List (Nat × ab_V)) (st : List ab_V) (nc ns : Nat) : Option (List (Nat × ab_S)) := match i with
  | .invokevirtual ix => (match ab_as MT ix with
    | none => none
    | some q => if len = 3 ∧ q.1 = 0 then ab_cs R mm EN q.1 q.2.1 q.2.2.1 q.2.2.2 pc E nh hp loc st nc ns else none)
  | .invokestatic ix => (match ab_as MT ix with
    | none => none
    | some q => if len = 3 ∧ q.1 = 1 then ab_cs R mm EN q.1 q.2.1 q.2.2.1 q.2.2.2 pc E nh hp loc st nc ns else none)
  | .invokespecial ix => (match ab_as MT ix with
    | none => none
    | some q => if len = 3 ∧ q.1 = 2 then ab_cs R mm EN q.1 q.2.1 q.2.2.1 q.2.2.2 pc E nh hp loc st nc ns else none)
  | _ => none
def ab_idL (n : Nat) : List (Nat × Nat) := (List.range n).map (fun k => (k, k))
def ab_rk2 (n0 nh0 : Nat) (E : List ab_I) (nh : Nat) (hp : ab_H) (rv : Option ab_V) (P : ab_P) (σ π : List Nat) : Bool :=
  ab_ek σ P.1 E && (decide (π.length = P.2.1) && (decide (∀ k ∈ π, k < nh) && (ab_ck σ π P.2.2.1 hp && (decide (σ.take n0 = List.range n0) && (decide (π.take nh0 = List.range nh0) && decide (P.2.2.2.map (ab_su σ π) = rv))))))
def ab_rk (n0 nh0 : Nat) (E : List ab_I) (nh : Nat) (hp : ab_H) (rv : Option ab_V) (P : ab_P) : Bool :=
  (fun q : List Nat × List Nat => ab_rk2 n0 nh0 E nh hp rv P q.1 q.2) (ab_un (ab_idL n0, ab_idL nh0) P.1.length P.2.1 P.2.2.1 P.2.2.2.toList hp rv.toList)
def ab_rt (rm : Room) (n0 nh0 : Nat) (posts : List ab_P) (ret : Option FieldType) (i : ClassFile.Instr) (len : Nat) (E : List ab_I) (nh : Nat) (hp : ab_H) (st : List ab_V) (nc ns : Nat) : Bool := match i with
  | .return_ => decide (len = 1 ∧ ret = none ∧ st = [] ∧ nc ≤ rm.cells ∧ ns ≤ rm.slots) && posts.any (ab_rk n0 nh0 E nh hp none)
  | .ireturn => (match st with
    | [x] => (match E[x.2]? with
      | none => false
      | some iv => decide (len = 1 ∧ x.1 = 0 ∧ (ret = some .int ∨ (ret = some .boolean ∧ 0 ≤ iv.1 ∧ iv.2 ≤ 1)) ∧ nc ≤ rm.cells ∧ ns ≤ rm.slots) && posts.any (ab_rk n0 nh0 E nh hp (some x)))
    | _ => false)
  | _ => false
def ab_or2 {α : Type} (a b : Option α) : Option α := match a with
  | some x => some x
  | none => b
def ab_1 (R : Room) (cl : List vw_C) (rn : List String) (ini : Bool) (FT : List (Nat × Nat × Nat × Nat)) (SL : ab_SL) (ST : List (Nat × Nat)) (NT : List (Nat × Nat × List Bool)) (RT : List (Nat × Nat)) (OI : List Nat) (AC : List Nat) (nL : Nat) (KT : List (Nat × Int)) (mm : Nat → ab_M) (MT : List (Nat × Nat × Nat × Nat × Nat)) (EN : List ab_N) (i : ClassFile.Instr) (len pc : Nat) (E : List ab_I) (nh : Nat) (hp : ab_H) (loc : List (Nat × ab_V)) (st : List ab_V) (nc ns : Nat) : Option (List (Nat × ab_S)) :=
  ab_or2 (ab_1a nL KT i len pc E nh hp loc st nc ns) (ab_or2 (ab_1d R cl rn ini FT SL ST NT RT OI AC i len pc E nh hp loc st nc ns) (ab_or2 (ab_1c rn SL i len pc E nh hp loc st nc ns) (ab_or2 (ab_1b i len pc E nh hp loc st nc ns) (ab_1e R mm MT EN i len pc E nh hp loc st nc ns))))
def ab_ai (R : Room) (cl : List vw_C) (rn : List String) (ini : Bool) (FT : List (Nat × Nat × Nat × Nat)) (SL : ab_SL) (ST : List (Nat × Nat)) (NT : List (Nat × Nat × List Bool)) (RT : List (Nat × Nat)) (OI : List Nat) (AC : List Nat) (nL : Nat) (KT : List (Nat × Int)) (mm : Nat → ab_M) (MT : List (Nat × Nat × Nat × Nat × Nat)) (EN : List ab_N) (ex : Nat → ab_S → Option (List (Nat × ab_S))) (fin : Nat → ab_S → Bool) (pg : List (Nat × ClassFile.Instr × Nat)) : Nat → Nat → ab_S → Bool
  | 0, _, _ => false
  | n + 1, pc, S => fin pc S || (match ab_or2 (ex pc S) (match ab_as pg pc with
    | none => none
    | some q => ab_1 R cl rn ini FT SL ST NT RT OI AC nL KT mm MT EN q.1 q.2 pc S.1 S.2.1 S.2.2.1 S.2.2.2.1 S.2.2.2.2.1 S.2.2.2.2.2.1 S.2.2.2.2.2.2) with
    | none => false
    | some r => r.all (fun z => ab_ai R cl rn ini FT SL ST NT RT OI AC nL KT mm MT EN ex fin pg n z.1 z.2))
def ab_fin (rm : Room) (n0 nh0 : Nat) (posts : List ab_P) (ret : Option FieldType) (pg : List (Nat × ClassFile.Instr × Nat)) (pc : Nat) (S : ab_S) : Bool := match ab_as pg pc with
  | none => false
  | some q => ab_rt rm n0 nh0 posts ret q.1 q.2 S.1 S.2.1 S.2.2.1 S.2.2.2.2.1 S.2.2.2.2.2.1 S.2.2.2.2.2.2
theorem ab_or2_ok {α : Type} {a b : Option α} {x : α} (h : ab_or2 a b = some x) : a = some x ∨ b = some x := by
  cases a with
  | none => exact Or.inr h
  | some y => exact Or.inl h
section
variable {p : Program} {l : Launch} {e : Env} {R : Room} {s : State} {m : MethodId} {args : Array Value} {below : List Frame} {meth : Method} {c : Code} {Q : State → Prop} {cc : ByteArray} {own : String} {nL : Nat} {D : va_G} {cl : List vw_C} {rn : List String} {A : Nat → Prop} {Ts : List Cond} {sa : Nat → Nat} {dT : Nat → ClassId} {vs0 : List Int32} {hs0 : List Nat} {pc : Nat} {E : List ab_I} {nh nc ns : Nat} {hp : ab_H} {loc : List (Nat × ab_V)} {st : List ab_V}
variable {SL : ab_SL} {NF : ab_NF} {NM : ab_NM} {Tc : List Cond}
def ab_enOk (l : Launch) (cl : List vw_C) (rn : List String) (SL : ab_SL) (NF : ab_NF) (NM : ab_NM) (Tc : List Cond) (mm : Nat → ab_M) (en : ab_N) : Prop := ab_met l cl rn SL NF NM Tc (mm en.1).1 (mm en.1).2.1 (mm en.1).2.2.1 (mm en.1).2.2.2 en.2.1.1 en.2.1.2.1 en.2.1.2.2.1 en.2.1.2.2.2 en.2.2.1 en.2.2.2
theorem ab_ty_ok (X : ab_X p s m args c cc own nL D cl (ab_tys dT rn) A Ts) (SX : ab_SX rn SL NF NM sa A s s.heap) {mm : Nat → ab_M} {kd mno np rci ix : Nat} {en : ab_N} (hen : ab_enOk l cl rn SL NF NM Tc mm en) (hG : GoodIn Ts (.code (mm mno).1 (mm mno).2.1 (mm mno).2.2.1 (mm mno).2.2.2 :: Tc)) (hL : ab_ML s args own cl kd ix (mm mno).1 (mm mno).2.2.2 np rci)
    (hd : (kd = 0 ∧ decode cc pc = .ok (.invokevirtual ix, 3)) ∨ (kd = 1 ∧ decode cc pc = .ok (.invokestatic ix, 3)) ∨ (kd = 2 ∧ decode cc pc = .ok (.invokespecial ix, 3))) {av rest : List ab_V} {r : List (Nat × ab_S)} (h : ab_ty R mm kd mno np rci pc E nh hp loc av rest nc ns en = some r) (hg : ∀ q ∈ r, ab_G p l e R s m args below meth c Q D cl A sa dT nL vs0 hs0 q.1 q.2.1 q.2.2.1 q.2.2.2.1 q.2.2.2.2.1 q.2.2.2.2.2.1 q.2.2.2.2.2.2.1 q.2.2.2.2.2.2.2) : ab_G p l e R s m args below meth c Q D cl A sa dT nL vs0 hs0 pc E nh hp loc (av.reverse ++ rest) nc ns := by
  unfold ab_ty at h
  split at h
  · rename_i he
    subst he
    generalize ab_un ([], []) en.2.1.1.length en.2.1.2.1 en.2.1.2.2.1 en.2.1.2.2.2 hp av = q at h
    obtain ⟨σ, π⟩ := q
    dsimp only at h
    unfold ab_ty2 at h
    split at h
    · rename_i hc
      obtain ⟨c1, c0, c2, c3, rfl, hn, hr, hR, hcap, hrc⟩ := hc
      cases h
      have g : ∀ P ∈ en.2.2.1, ab_em (ab_nE σ en.2.1.1 E P) = true → ab_G p l e R s m args below meth c Q D cl A sa dT nL vs0 hs0 (pc + 3) (ab_nE σ en.2.1.1 E P) (nh + (P.2.1 - en.2.1.2.1)) (ab_nH σ π en.2.1.1 E en.2.1.2.1 nh en.2.1.2.2.1 hp P) loc (ab_nr σ π en.2.1.1 E en.2.1.2.1 nh P ++ rest) (nc + en.2.2.2.cells) (ns + en.2.2.2.slots) := fun P hP hem => hg _ (List.mem_map.mpr ⟨P, List.mem_filter.mpr ⟨hP, hem⟩, rfl⟩)
      rcases hd with ⟨rfl, hd⟩ | ⟨rfl, hd⟩ | ⟨rfl, hd⟩
      · cases has : en.2.1.2.2.2.map (ab_su σ π) with
        | nil => rw [has] at hrc; cases hrc
        | cons a r2 =>
          rw [has] at hrc
          simp only [ab_rc, Bool.or_eq_true, Bool.and_eq_true, decide_eq_true_eq] at hrc
          rcases hrc with hrc | ⟨h1, hrc | hrc⟩
          · exact absurd hrc (by decide)
          · exact absurd hrc (by decide)
          · cases hob : ab_ob hp a.2 with
            | none => rw [hob] at hrc; cases hrc
            | some o =>
              rw [hob] at hrc
              have hrc := of_decide_eq_true hrc
              have hf := ab_ob_ok hob
              rw [hrc] at hf
              rw [← has]
              exact ab_invV X SX hen hG hL hd (a0 := a.2) (by rw [has, List.head?_cons, ← h1]) hf hn c1 c0 c2 c3 hr hR hcap g
      · exact ab_invS X SX hen hG hL hd hn c1 c0 c2 c3 hr hR hcap g
      · cases has : en.2.1.2.2.2.map (ab_su σ π) with
        | nil => rw [has] at hrc; cases hrc
        | cons a r2 =>
          rw [has] at hrc
          simp only [ab_rc, Bool.or_eq_true, Bool.and_eq_true, decide_eq_true_eq] at hrc
          rcases hrc with hrc | ⟨h1, hrc⟩
          · exact absurd hrc (by decide)
          · rw [← has]
            exact ab_invI X SX hen hG hL hd (a0 := a.2) (by rw [has, List.head?_cons, ← h1]) ((hL.2.2.2.2.2 rfl).2.2) hn c1 c0 c2 c3 hr hR hcap g
    · cases h
  · cases h
theorem ab_1e_ok (X : ab_X p s m args c cc own nL D cl (ab_tys dT rn) A Ts) (SX : ab_SX rn SL NF NM sa A s s.heap) {mm : Nat → ab_M} {MT : List (Nat × Nat × Nat × Nat × Nat)} {EN : List ab_N} (hEN : ∀ en ∈ EN, ab_enOk l cl rn SL NF NM Tc mm en) (hMT : ∀ q ∈ MT, GoodIn Ts (.code (mm q.2.2.1).1 (mm q.2.2.1).2.1 (mm q.2.2.1).2.2.1 (mm q.2.2.1).2.2.2 :: Tc) ∧ ab_ML s args own cl q.2.1 q.1 (mm q.2.2.1).1 (mm q.2.2.1).2.2.2 q.2.2.2.1 q.2.2.2.2) {i : ClassFile.Instr} {len : Nat} {r : List (Nat × ab_S)} (hd : decode cc pc = .ok (i, len)) (h : ab_1e R mm MT EN i len pc E nh hp loc st nc ns = some r) (hg : ∀ q ∈ r, ab_G p l e R s m args below meth c Q D cl A sa dT nL vs0 hs0 q.1 q.2.1 q.2.2.1 q.2.2.2.1 q.2.2.2.2.1 q.2.2.2.2.2.1 q.2.2.2.2.2.2.1 q.2.2.2.2.2.2.2) : ab_G p l e R s m args below meth c Q D cl A sa dT nL vs0 hs0 pc E nh hp loc st nc ns := by
  have key : ∀ (ix : Nat) (q : Nat × Nat × Nat × Nat), ab_as MT ix = some q → ((q.1 = 0 ∧ decode cc pc = .ok (.invokevirtual ix, 3)) ∨ (q.1 = 1 ∧ decode cc pc = .ok (.invokestatic ix, 3)) ∨ (q.1 = 2 ∧ decode cc pc = .ok (.invokespecial ix, 3))) → ab_cs R mm EN q.1 q.2.1 q.2.2.1 q.2.2.2 pc E nh hp loc st nc ns = some r → ab_G p l e R s m args below meth c Q D cl A sa dT nL vs0 hs0 pc E nh hp loc st nc ns := by
    intro ix q hq hdd hcs
    obtain ⟨en, hen, hty⟩ := List.exists_of_findSome?_eq_some hcs
    obtain ⟨m1, m2⟩ := hMT _ (ab_as_ok _ _ _ hq)
    have := ab_ty_ok X SX (hEN en hen) m1 m2 hdd hty hg
    rw [List.reverse_reverse, List.take_append_drop] at this
    exact this
  unfold ab_1e at h
  split at h
  · rename_i ix
    cases hm : ab_as MT ix with
    | none => rw [hm] at h; cases h
    | some q =>
      rw [hm] at h
      dsimp only at h
      split at h
      · rename_i hc
        obtain ⟨rfl, hc⟩ := hc
        exact key ix q hm (Or.inl ⟨hc, hd⟩) h
      · cases h
  · rename_i ix
    cases hm : ab_as MT ix with
    | none => rw [hm] at h; cases h
    | some q =>
      rw [hm] at h
      dsimp only at h
      split at h
      · rename_i hc
        obtain ⟨rfl, hc⟩ := hc
        exact key ix q hm (Or.inr (Or.inl ⟨hc, hd⟩)) h
      · cases h
  · rename_i ix
    cases hm : ab_as MT ix with
    | none => rw [hm] at h; cases h
    | some q =>
      rw [hm] at h
      dsimp only at h
      split at h
      · rename_i hc
        obtain ⟨rfl, hc⟩ := hc
        exact key ix q hm (Or.inr (Or.inr ⟨hc, hd⟩)) h
      · cases h
  · cases h
theorem ab_rk_ok {n0 nh0 : Nat} {rv : Option ab_V} {P : ab_P} (h : ab_rk n0 nh0 E nh hp rv P = true) : ∃ σ π : List Nat, ab_ek σ P.1 E = true ∧ π.length = P.2.1 ∧ (∀ k ∈ π, k < nh) ∧ ab_ck σ π P.2.2.1 hp = true ∧ σ.take n0 = List.range n0 ∧ π.take nh0 = List.range nh0 ∧ P.2.2.2.map (ab_su σ π) = rv := by
  unfold ab_rk at h
  generalize ab_un (ab_idL n0, ab_idL nh0) P.1.length P.2.1 P.2.2.1 P.2.2.2.toList hp rv.toList = q at h
  dsimp only at h
  unfold ab_rk2 at h
  simp only [Bool.and_eq_true, decide_eq_true_eq] at h
  exact ⟨q.1, q.2, h⟩
theorem ab_rt_ok {ws0 : va_W} {sz : Nat} {rm : Room} {posts : List ab_P} {ret : Option FieldType} {i : ClassFile.Instr} {len : Nat} (X : ab_X p s m args c cc own nL D cl (ab_tys dT rn) (va_A ws0 sz) Ts) (hl : meth.locks = false) (hr : meth.sig.returnType = ret) (hd : decode cc pc = .ok (i, len)) (h : ab_rt rm vs0.length hs0.length posts ret i len E nh hp st nc ns = true) :
    ab_G p l e R s m args below meth c (MQ below (ab_Q cl D sa dT vs0 hs0 ws0 sz posts) args s rm.cells rm.slots (va_A ws0 sz)) D cl (va_A ws0 sz) sa dT nL vs0 hs0 pc E nh hp loc st nc ns := by
  unfold ab_rt at h
  split at h
  · simp only [Bool.and_eq_true, decide_eq_true_eq] at h
    obtain ⟨⟨rfl, rfl, rfl, h1, h2⟩, h3⟩ := h
    obtain ⟨P, hP, hk⟩ := List.any_eq_true.mp h3
    obtain ⟨σ, π, c1, c0, c2, c3, c4, c5, c6⟩ := ab_rk_ok hk
    have c7 : P.2.2.2 = none := by
      cases hx : P.2.2.2 with
      | none => rfl
      | some v => rw [hx] at c6; cases c6
    exact ab_vret X hl hr hd ⟨h1, h2⟩ hP c1 c0 c2 c3 c4 c5 c7
  · split at h
    · rename_i x
      cases hm : E[x.2]? with
      | none => rw [hm] at h; cases h
      | some iv =>
        rw [hm] at h
        simp only [Bool.and_eq_true, decide_eq_true_eq] at h
        obtain ⟨⟨rfl, hx, ht, h1, h2⟩, h3⟩ := h
        obtain ⟨P, hP, hk⟩ := List.any_eq_true.mp h3
        obtain ⟨σ, π, c1, c0, c2, c3, c4, c5, c6⟩ := ab_rk_ok hk
        obtain ⟨tx, kx⟩ := x
        dsimp only at *
        subst hx
        rcases ht with ht | ⟨ht, h4, h5⟩
        · exact ab_iret X hl (hr.trans ht) hm (Or.inl rfl) hd ⟨h1, h2⟩ hP c1 c0 c2 c3 c4 c5 c6
        · exact ab_iret X hl (hr.trans ht) hm (Or.inr ⟨rfl, h4, h5⟩) hd ⟨h1, h2⟩ hP c1 c0 c2 c3 c4 c5 c6
    · cases h
  · cases h
theorem ab_ai_ok {KT : List (Nat × Int)} {mm : Nat → ab_M} {MT : List (Nat × Nat × Nat × Nat × Nat)} {EN : List ab_N} {pg : List (Nat × ClassFile.Instr × Nat)} {ex : Nat → ab_S → Option (List (Nat × ab_S))} {fin : Nat → ab_S → Bool} (X : ab_X p s m args c cc own nL D cl (ab_tys dT rn) A Ts) (SX : ab_SX rn SL NF NM sa A s s.heap) {ini : Bool} {FT : List (Nat × Nat × Nat × Nat)} {ST : List (Nat × Nat)} {NT : List (Nat × Nat × List Bool)} {RT : List (Nat × Nat)} {OI AC : List Nat} (hini : ini = true → meth.name = "<init>") (hF : ∀ q ∈ FT, ab_FL s args own cl Ts q.1 q.2.1 q.2.2.1 q.2.2.2) (hST : ∀ q ∈ ST, ∀ r, SL[q.2]? = some r → (Cond.fieldLink own q.1 r.1 r.2.1 r.2.2.1).before args s = true) (hNT : ∀ q ∈ NT, ab_NL s args own cl Ts q.1 q.2.1 q.2.2) (hAI : (Cond.arrayClass (newarray.typeOf .int)).before args s = true) (hRT : ∀ q ∈ RT, ∀ C, rn[q.2]? = some C → (Cond.classLink own q.1 C).before args s = true) (hOI : ∀ ix ∈ OI, (Cond.methodLink own ix Lib.objectInit).before args s = true ∧ (Cond.instanceMethod Lib.objectInit).before args s = true ∧ (Cond.code Lib.objectInit ⟨#[0xb1]⟩ 1 none).before args s = true) (hAC : ∀ ix ∈ AC, (Cond.methodLink own ix arraycopyName).before args s = true ∧ (Cond.native arraycopyName).before args s = true ∧ (Cond.static arraycopyName).before args s = true ∧ (Cond.initialized "java/lang/System").before args s = true) (hK : ∀ q ∈ KT, (Jvm.Cond.constant own q.1 (Int32.ofInt q.2)).before args s = true) (hEN : ∀ en ∈ EN, ab_enOk l cl rn SL NF NM Tc mm en) (hMT : ∀ q ∈ MT, GoodIn Ts (.code (mm q.2.2.1).1 (mm q.2.2.1).2.1 (mm q.2.2.1).2.2.1 (mm q.2.2.1).2.2.2 :: Tc) ∧ ab_ML s args own cl q.2.1 q.1 (mm q.2.2.1).1 (mm q.2.2.1).2.2.2 q.2.2.2.1 q.2.2.2.2) (hpg : ∀ q ∈ pg, decode cc q.1 = .ok (q.2.1, q.2.2))
    (hex : ∀ (pc : Nat) (S : ab_S) (r : List (Nat × ab_S)), ex pc S = some r → (∀ q ∈ r, ab_G p l e R s m args below meth c Q D cl A sa dT nL vs0 hs0 q.1 q.2.1 q.2.2.1 q.2.2.2.1 q.2.2.2.2.1 q.2.2.2.2.2.1 q.2.2.2.2.2.2.1 q.2.2.2.2.2.2.2) → ab_G p l e R s m args below meth c Q D cl A sa dT nL vs0 hs0 pc S.1 S.2.1 S.2.2.1 S.2.2.2.1 S.2.2.2.2.1 S.2.2.2.2.2.1 S.2.2.2.2.2.2) (hfin : ∀ (pc : Nat) (S : ab_S), fin pc S = true → ab_G p l e R s m args below meth c Q D cl A sa dT nL vs0 hs0 pc S.1 S.2.1 S.2.2.1 S.2.2.2.1 S.2.2.2.2.1 S.2.2.2.2.2.1 S.2.2.2.2.2.2) :
    ∀ (n pc : Nat) (S : ab_S), ab_ai R cl rn ini FT SL ST NT RT OI AC nL KT mm MT EN ex fin pg n pc S = true → ab_G p l e R s m args below meth c Q D cl A sa dT nL vs0 hs0 pc S.1 S.2.1 S.2.2.1 S.2.2.2.1 S.2.2.2.2.1 S.2.2.2.2.2.1 S.2.2.2.2.2.2
  | 0, _, _, h => by cases h
  | n + 1, pc, S, h => by
    unfold ab_ai at h
    rw [Bool.or_eq_true] at h
    rcases h with h | h
    · exact hfin pc S h
    · cases h1 : ab_or2 (ex pc S) (match ab_as pg pc with
        | none => none
        | some q => ab_1 R cl rn ini FT SL ST NT RT OI AC nL KT mm MT EN q.1 q.2 pc S.1 S.2.1 S.2.2.1 S.2.2.2.1 S.2.2.2.2.1 S.2.2.2.2.2.1 S.2.2.2.2.2.2) with
      | none => rw [h1] at h; cases h
      | some r =>
        rw [h1] at h
        dsimp only at h
        rw [List.all_eq_true] at h
        have hg := fun z hz => ab_ai_ok X SX hini hF hST hNT hAI hRT hOI hAC hK hEN hMT hpg hex hfin n z.1 z.2 (h z hz)
        rcases ab_or2_ok h1 with h1 | h1
        · exact hex pc S r h1 hg
        cases hq : ab_as pg pc with
        | none => rw [hq] at h1; cases h1
        | some q =>
          rw [hq] at h1
          dsimp only at h1
          have hd := hpg _ (ab_as_ok _ _ _ hq)
          dsimp only at hd
          unfold ab_1 at h1
          rcases ab_or2_ok h1 with h1 | h1
          · exact ab_1a_ok X hK hd h1 hg
          rcases ab_or2_ok h1 with h1 | h1
          · exact ab_1d_ok X SX hini hF hST hNT hAI hRT hOI hAC hd h1 hg
          rcases ab_or2_ok h1 with h1 | h1
          · exact ab_1c_ok X SX hd h1 hg
          rcases ab_or2_ok h1 with h1 | h1
          · exact ab_1b_ok X hd h1 hg
          exact ab_1e_ok X SX hEN hMT hd h1 hg
end
def ab_lo : Nat → List ab_V → List (Nat × ab_V)
  | _, [] => []
  | k, a :: r => (k, a) :: ab_lo (k + 1) r
theorem ab_lo_ok {sa : Nat → Nat} {vs : List Int32} {hs : List Nat} : ∀ (as : List ab_V) (vals : List Value) (k : Nat), as.map (ab_cv sa vs hs) = vals.map some → (ab_lo k as).map (fun q => (q.1, (ab_cv sa vs hs q.2).getD .null)) = lv_args k vals ∧ (∀ q ∈ ab_lo k as, ∃ v, ab_cv sa vs hs q.2 = some v) ∧ (lg_sl vals).length = vals.length
  | [], [], _, _ => ⟨rfl, (fun q hq => by cases hq), rfl⟩
  | [], _ :: _, _, h => by cases h
  | _ :: _, [], _, h => by cases h
  | a :: r, v :: vals, k, h => by
    simp only [List.map_cons, List.cons.injEq] at h
    obtain ⟨h1, h2, h3⟩ := ab_lo_ok r vals (k + 1) h.2
    have hc := ab_cat h.1
    refine ⟨?_, fun q hq => ?_, ?_⟩
    · simp only [ab_lo, List.map_cons, lv_args, h.1, hc]
      rw [h1]
      simp
    · rcases List.mem_cons.mp hq with rfl | hq
      · exact ⟨v, h.1⟩
      · exact h2 q hq
    · simp only [lg_sl, List.flatMap_cons, hc] at h3 ⊢
      simp
      simpa [lg_sl] using h3
end
section
def ab_ld (i : ClassFile.Instr) (n : Nat) : Option Nat := match i with
  | .iload_n k => if n = 1 then some k.val else none
  | .iload k => if n = 2 then some k else none
  | _ => none
def ab_kc (i : ClassFile.Instr) (n : Nat) : Option Int := match i with
  | .iconst v => if n = 1 ∧ 0 < v ∧ v ≤ 5 then some v else none
  | .bipush v => if n = 2 ∧ 0 < v ∧ v ≤ 127 then some v else none
  | _ => none
def ab_a0 (q : Option (ClassFile.Instr × Nat)) : Bool := decide (q = some (.aload_n 0, 1))
def ab_gf (q : Option (ClassFile.Instr × Nat)) : Option Nat := match q with
  | some (.getfield ix, 3) => some ix
  | _ => none
def ab_ldq (q : Option (ClassFile.Instr × Nat)) : Option (Nat × Nat) := match q with
  | none => none
  | some r => (match ab_ld r.1 r.2 with
    | none => none
    | some k => some (k, r.2))
def ab_kcq (q : Option (ClassFile.Instr × Nat)) : Option (Int × Nat) := match q with
  | none => none
  | some r => (match ab_kc r.1 r.2 with
    | none => none
    | some k => some (k, r.2))
section
variable {p : Program} {l : Launch} {e : Env} {R : Room} {s : State} {m : MethodId} {args : Array Value} {below : List Frame} {meth : Method} {c : Code} {H : Heap} {locs : List Loc} {nc ns : Nat} {Q : State → Prop} {cc : ByteArray} {pc : Nat} {ls : Array Slot} {rest : List Value}
theorem ab_ldW (hx : p.tables.exec = Jvm.exec) (hb : c.code = cc) {i : ClassFile.Instr} {n k : Nat} {x : Int32} (h : ab_ld i n = some k) (hd : decode cc pc = .ok (i, n)) (hl : ls[k]? = some (.val (.int x))) (g : W p l e R s m args below meth c H locs nc ns Q (F0 m (pc + n) ls (.int x :: rest))) : W p l e R s m args below meth c H locs nc ns Q (F0 m pc ls rest) := by
  unfold ab_ld at h
  split at h
  · split at h
    · rename_i hn
      subst hn
      cases h
      exact lv_iload_n hx hb hd rfl hl g
    · cases h
  · split at h
    · rename_i hn
      subst hn
      cases h
      exact lv_iload hx hb hd hl g
    · cases h
  · cases h
theorem ab_kcW (hx : p.tables.exec = Jvm.exec) (hb : c.code = cc) {i : ClassFile.Instr} {n : Nat} {v : Int} (h : ab_kc i n = some v) (hd : decode cc pc = .ok (i, n)) (g : W p l e R s m args below meth c H locs nc ns Q (F0 m (pc + n) ls (.int (Int32.ofInt v) :: rest))) : W p l e R s m args below meth c H locs nc ns Q (F0 m pc ls rest) := by
  unfold ab_kc at h
  split at h
  · split at h
    · rename_i hn
      obtain ⟨rfl, h1, h2⟩ := hn
      cases h
      exact lv_iconst hx hb hd rfl g
    · cases h
  · split at h
    · rename_i hn
      obtain ⟨rfl, h1, h2⟩ := hn
      cases h
      exact lv_bipush hx hb hd (ab_push8 (by omega) (by omega)) g
    · cases h
  · cases h
end
theorem ab_kc_r {i : ClassFile.Instr} {n : Nat} {v : Int} (h : ab_kc i n = some v) : 0 < v ∧ v ≤ 127 := by
  unfold ab_kc at h
  split at h
  · split at h
    · rename_i hn
      cases h
      omega
    · cases h
  · split at h
    · rename_i hn
      cases h
      omega
    · cases h
  · cases h
theorem ab_rdn {lo hi : Int} {v : Int} {x : Int32} (hv : 0 < v ∧ v ≤ 127) (h0 : 0 ≤ lo) (h : ab_in (lo, hi) x) : ¬ Int32.ofInt v = 0 ∧ ab_in (lo / v * v, hi / v * v) (x - (x - x / Int32.ofInt v * Int32.ofInt v)) := by
  have ev : (Int32.ofInt v).toInt = v := by rw [Int32.toInt_ofInt]; exact ab_bm (by omega) (by omega)
  obtain ⟨h1, h2⟩ := h
  dsimp only at h1 h2
  have er := ab_remV (x := x) (y := Int32.ofInt v) (by omega) (by omega)
  rw [ev] at er
  have q1 := Int.emod_nonneg x.toInt (show v ≠ 0 by omega)
  have q2 := Int.emod_lt_of_pos x.toInt hv.1
  have q3 := Int.mul_ediv_add_emod x.toInt v
  have q4 := (ab_full x).2
  dsimp only at q4
  have q5 : 0 ≤ x.toInt / v := Int.ediv_nonneg (by omega) (by omega)
  have q6 : 0 ≤ v * (x.toInt / v) := Int.mul_nonneg (by omega) q5
  have e2 : (x - (x - x / Int32.ofInt v * Int32.ofInt v)).toInt = v * (x.toInt / v) := by
    rw [Int32.toInt_sub, er]
    rw [ab_bm (by omega) (by omega)]
    omega
  refine ⟨fun hq => ?_, ?_⟩
  · rw [hq, Int32.toInt_zero] at ev
    omega
  · unfold ab_in
    rw [e2]
    have q7 : lo / v ≤ x.toInt / v := Int.ediv_le_ediv hv.1 h1
    have q8 : x.toInt / v ≤ hi / v := Int.ediv_le_ediv hv.1 h2
    have q9 : lo / v * v ≤ x.toInt / v * v := Int.mul_le_mul_of_nonneg_right q7 (by omega)
    have q10 : x.toInt / v * v ≤ hi / v * v := Int.mul_le_mul_of_nonneg_right q8 (by omega)
    rw [Int.mul_comm v]
    exact ⟨q9, q10⟩
abbrev ab_PG : Type := List (Nat × ClassFile.Instr × Nat)
def ab_sp (sp : List (Nat × Nat × Int)) (pc : Nat) (E : List ab_I) (nh : Nat) (hp : ab_H) (loc : List (Nat × ab_V)) (st : List ab_V) (nc ns : Nat) : Option (List (Nat × ab_S)) :=
  sp.findSome? (fun h => if h.1 = pc then (match ab_lk loc h.2.1 with
    | none => none
    | some v => (match E[v.2]? with
      | none => none
      | some iv => if v.1 = 0 ∧ iv.1 ≤ h.2.2 ∧ h.2.2 < iv.2 then some [(pc, E.set v.2 (iv.1, h.2.2), nh, hp, loc, st, nc, ns), (pc, E.set v.2 (h.2.2 + 1, iv.2), nh, hp, loc, st, nc, ns)] else none)) else none)
def ab_m1 (pg : ab_PG) (pc : Nat) (E : List ab_I) (nh : Nat) (hp : ab_H) (loc : List (Nat × ab_V)) (st : List ab_V) (nc ns : Nat) : Option (List (Nat × ab_S)) := match ab_ldq (ab_as pg pc) with
  | none => none
  | some a => (match ab_kcq (ab_as pg (pc + a.2 + a.2)) with
    | none => none
    | some k => (match ab_lk loc a.1 with
      | none => none
      | some v => (match E[v.2]? with
        | none => none
        | some iv => if ab_ldq (ab_as pg (pc + a.2)) = some a ∧ ab_as pg (pc + a.2 + a.2 + k.2) = some (.irem, 1) ∧ ab_as pg (pc + a.2 + a.2 + k.2 + 1) = some (.isub, 1) ∧ v.1 = 0 ∧ 0 ≤ iv.1 then some [(pc + a.2 + a.2 + k.2 + 1 + 1, E ++ [(iv.1 / k.1 * k.1, iv.2 / k.1 * k.1)], nh, hp, loc, (0, E.length) :: st, nc, ns)] else none)))
def ab_m2 (FT : List (Nat × Nat × Nat × Nat)) (pg : ab_PG) (pc : Nat) (E : List ab_I) (nh : Nat) (hp : ab_H) (loc : List (Nat × ab_V)) (st : List ab_V) (nc ns : Nat) : Option (List (Nat × ab_S)) := if ab_a0 (ab_as pg pc) = true then (match ab_gf (ab_as pg (pc + 1)) with
  | none => none
  | some ix => (match ab_ldq (ab_as pg (pc + 4)) with
    | none => none
    | some a => (match ab_kcq (ab_as pg (pc + 4 + a.2 + 1 + 4 + a.2 + 1)) with
      | none => none
      | some k => (match ab_as FT ix with
        | none => none
        | some q => (match ab_lk loc 0 with
          | none => none
          | some o => (match ab_ob hp o.2 with
            | none => none
            | some ob => (match ob.2.2[q.2.1]? with
              | none => none
              | some ar => (match ab_ia hp ar.2 with
                | none => none
                | some ia => (match ab_lk loc a.1 with
                  | none => none
                  | some v => (match E[v.2]? with
                    | none => none
                    | some iv => if ab_as pg (pc + 4 + a.2) = some (.iaload, 1) ∧ ab_a0 (ab_as pg (pc + 4 + a.2 + 1)) = true ∧ ab_gf (ab_as pg (pc + 4 + a.2 + 1 + 1)) = some ix ∧ ab_ldq (ab_as pg (pc + 4 + a.2 + 1 + 4)) = some a ∧ ab_as pg (pc + 4 + a.2 + 1 + 4 + a.2) = some (.iaload, 1) ∧ ab_as pg (pc + 4 + a.2 + 1 + 4 + a.2 + 1 + k.2) = some (.irem, 1) ∧ ab_as pg (pc + 4 + a.2 + 1 + 4 + a.2 + 1 + k.2 + 1) = some (.isub, 1) ∧ o.1 = 1 ∧ q.1 = ob.2.1 ∧ ar.1 = 1 ∧ v.1 = 0 ∧ 0 ≤ iv.1 ∧ iv.2 < (ia.2.1 : Int) ∧ 0 ≤ (ab_ixI iv ia.2.2.1 ia.2.2.2.1 ia.2.2.2.2.1 ia.2.2.2.2.2).1 then some [(pc + 4 + a.2 + 1 + 4 + a.2 + 1 + k.2 + 1 + 1, E ++ [((ab_ixI iv ia.2.2.1 ia.2.2.2.1 ia.2.2.2.2.1 ia.2.2.2.2.2).1 / k.1 * k.1, (ab_ixI iv ia.2.2.1 ia.2.2.2.1 ia.2.2.2.2.1 ia.2.2.2.2.2).2 / k.1 * k.1)], nh, hp, loc, (0, E.length) :: st, nc, ns)] else none)))))))))) else none
def ab_m5 (FT : List (Nat × Nat × Nat × Nat)) (KT : List (Nat × Int)) (pg : ab_PG) (pc : Nat) (E : List ab_I) (nh : Nat) (hp : ab_H) (loc : List (Nat × ab_V)) (st : List ab_V) (nc ns : Nat) : Option (List (Nat × ab_S)) := match ab_ldq (ab_as pg pc) with
  | none => none
  | some a => (match ab_as pg (pc + a.2) with
    | some (.ldc ik, 2) => (match ab_as pg (pc + a.2 + 3) with
      | some (.sipush n, 3) => (match ab_as pg (pc + a.2 + 6) with
        | some (.if_icmp .ge off, 3) => (match ab_tg (pc + a.2 + 6) off with
          | none => none
          | some tg => (match ab_as KT ik with
            | none => none
            | some kk => (match ab_gf (ab_as pg (pc + a.2 + 10)) with
              | none => none
              | some ix => (match ab_as FT ix with
                | none => none
                | some q => (match ab_lk loc 0 with
                  | none => none
                  | some o => (match ab_ob hp o.2 with
                    | none => none
                    | some ob => (match ob.2.2[q.2.1]? with
                      | none => none
                      | some ar => (match ab_lk loc a.1 with
                        | none => none
                        | some v => if ab_as pg (pc + a.2 + 2) = some (.iand, 1) ∧ ab_a0 (ab_as pg (pc + a.2 + 9)) = true ∧ ab_ldq (ab_as pg (pc + a.2 + 13)) = some a ∧ ab_as pg (pc + a.2 + 13 + a.2) = some (.ldc ik, 2) ∧ ab_as pg (pc + a.2 + 13 + a.2 + 2) = some (.iand, 1) ∧ o.1 = 1 ∧ q.1 = ob.2.1 ∧ v.1 = 0 ∧ 0 ≤ kk ∧ kk ≤ 2147483647 ∧ 0 < n ∧ n ≤ 32767 then some [(tg, E, nh, hp, loc, st, nc, ns), (pc + a.2 + 13 + a.2 + 3, E ++ [(0, min kk (n - 1))], nh, hp, loc, (0, E.length) :: ar :: st, nc, ns)] else none))))))))
        | _ => none)
      | _ => none)
    | _ => none)
def ab_ex (sp : List (Nat × Nat × Int)) (FT : List (Nat × Nat × Nat × Nat)) (KT : List (Nat × Int)) (pg : ab_PG) (pc : Nat) (S : ab_S) : Option (List (Nat × ab_S)) :=
  ab_or2 (ab_sp sp pc S.1 S.2.1 S.2.2.1 S.2.2.2.1 S.2.2.2.2.1 S.2.2.2.2.2.1 S.2.2.2.2.2.2) (ab_or2 (ab_m1 pg pc S.1 S.2.1 S.2.2.1 S.2.2.2.1 S.2.2.2.2.1 S.2.2.2.2.2.1 S.2.2.2.2.2.2) (ab_or2 (ab_m2 FT pg pc S.1 S.2.1 S.2.2.1 S.2.2.2.1 S.2.2.2.2.1 S.2.2.2.2.2.1 S.2.2.2.2.2.2) (ab_m5 FT KT pg pc S.1 S.2.1 S.2.2.1 S.2.2.2.1 S.2.2.2.2.1 S.2.2.2.2.2.1 S.2.2.2.2.2.2)))
theorem ab_pgd {pg : ab_PG} {cc : ByteArray} (hpg : ∀ q ∈ pg, decode cc q.1 = .ok (q.2.1, q.2.2)) {pc n : Nat} {i : ClassFile.Instr} (h : ab_as pg pc = some (i, n)) : decode cc pc = .ok (i, n) := hpg (pc, i, n) (ab_as_ok pg pc (i, n) h)
theorem ab_ldq_ok {pg : ab_PG} {cc : ByteArray} (hpg : ∀ q ∈ pg, decode cc q.1 = .ok (q.2.1, q.2.2)) {pc : Nat} {a : Nat × Nat} (h : ab_ldq (ab_as pg pc) = some a) : ∃ i, decode cc pc = .ok (i, a.2) ∧ ab_ld i a.2 = some a.1 := by
  unfold ab_ldq at h
  cases hq : ab_as pg pc with
  | none => rw [hq] at h; cases h
  | some r =>
    obtain ⟨i, n⟩ := r
    rw [hq] at h
    dsimp only at h
    cases hl : ab_ld i n with
    | none => rw [hl] at h; cases h
    | some k =>
      rw [hl] at h
      cases h
      exact ⟨i, ab_pgd hpg hq, hl⟩
theorem ab_kcq_ok {pg : ab_PG} {cc : ByteArray} (hpg : ∀ q ∈ pg, decode cc q.1 = .ok (q.2.1, q.2.2)) {pc : Nat} {a : Int × Nat} (h : ab_kcq (ab_as pg pc) = some a) : ∃ i, decode cc pc = .ok (i, a.2) ∧ ab_kc i a.2 = some a.1 := by
  unfold ab_kcq at h
  cases hq : ab_as pg pc with
  | none => rw [hq] at h; cases h
  | some r =>
    obtain ⟨i, n⟩ := r
    rw [hq] at h
    dsimp only at h
    cases hl : ab_kc i n with
    | none => rw [hl] at h; cases h
    | some k =>
      rw [hl] at h
      cases h
      exact ⟨i, ab_pgd hpg hq, hl⟩
theorem ab_a0_ok {pg : ab_PG} {cc : ByteArray} (hpg : ∀ q ∈ pg, decode cc q.1 = .ok (q.2.1, q.2.2)) {pc : Nat} (h : ab_a0 (ab_as pg pc) = true) : decode cc pc = .ok (.aload_n 0, 1) := ab_pgd hpg (of_decide_eq_true h)
theorem ab_gf_ok {pg : ab_PG} {cc : ByteArray} (hpg : ∀ q ∈ pg, decode cc q.1 = .ok (q.2.1, q.2.2)) {pc ix : Nat} (h : ab_gf (ab_as pg pc) = some ix) : decode cc pc = .ok (.getfield ix, 3) := by
  unfold ab_gf at h
  split at h
  · rename_i ix2 hq
    cases h
    exact ab_pgd hpg hq
  · cases h
section
variable {p : Program} {l : Launch} {e : Env} {R : Room} {s : State} {m : MethodId} {args : Array Value} {below : List Frame} {meth : Method} {c : Code} {Q : State → Prop} {cc : ByteArray} {own : String} {nL : Nat} {D : va_G} {cl : List vw_C} {rn : List String} {A : Nat → Prop} {Ts : List Cond} {sa : Nat → Nat} {dT : Nat → ClassId} {vs0 : List Int32} {hs0 : List Nat} {pc : Nat} {E : List ab_I} {nh nc ns : Nat} {hp : ab_H} {loc : List (Nat × ab_V)} {st : List ab_V}
theorem ab_sp_ok {sp : List (Nat × Nat × Int)} {r : List (Nat × ab_S)} (h : ab_sp sp pc E nh hp loc st nc ns = some r) (hg : ∀ q ∈ r, ab_G p l e R s m args below meth c Q D cl A sa dT nL vs0 hs0 q.1 q.2.1 q.2.2.1 q.2.2.2.1 q.2.2.2.2.1 q.2.2.2.2.2.1 q.2.2.2.2.2.2.1 q.2.2.2.2.2.2.2) : ab_G p l e R s m args below meth c Q D cl A sa dT nL vs0 hs0 pc E nh hp loc st nc ns := by
  obtain ⟨a, -, h⟩ := List.exists_of_findSome?_eq_some h
  split at h
  · cases hm1 : ab_lk loc a.2.1 with
    | none => rw [hm1] at h; cases h
    | some v =>
      rw [hm1] at h
      dsimp only at h
      cases hm2 : E[v.2]? with
      | none => rw [hm2] at h; cases h
      | some iv =>
        rw [hm2] at h
        dsimp only at h
        split at h
        · rename_i hc
          obtain ⟨h0, h1, h2⟩ := hc
          cases h
          intro vs hs ls sv H locs hv hh his
          obtain ⟨x, hx, hin⟩ := ab_e_at his.1 hm2
          by_cases hle : x.toInt ≤ a.2.2
          · exact hg (pc, E.set v.2 (iv.1, a.2.2), nh, hp, loc, st, nc, ns) List.mem_cons_self _ _ _ _ _ _ hv hh (ab_env his (ab_e_set his.1 v.2 (fun z hz => by rw [hx] at hz; cases hz; exact ⟨hin.1, hle⟩)))
          · exact hg (pc, E.set v.2 (a.2.2 + 1, iv.2), nh, hp, loc, st, nc, ns) (List.mem_cons_of_mem _ List.mem_cons_self) _ _ _ _ _ _ hv hh (ab_env his (ab_e_set his.1 v.2 (fun z hz => by rw [hx] at hz; cases hz; exact ⟨by dsimp only; omega, hin.2⟩)))
        · cases h
  · cases h
theorem ab_m1_ok (X : ab_X p s m args c cc own nL D cl (ab_tys dT rn) A Ts) {pg : ab_PG} (hpg : ∀ q ∈ pg, decode cc q.1 = .ok (q.2.1, q.2.2)) {r : List (Nat × ab_S)} (h : ab_m1 pg pc E nh hp loc st nc ns = some r) (hg : ∀ q ∈ r, ab_G p l e R s m args below meth c Q D cl A sa dT nL vs0 hs0 q.1 q.2.1 q.2.2.1 q.2.2.2.1 q.2.2.2.2.1 q.2.2.2.2.2.1 q.2.2.2.2.2.2.1 q.2.2.2.2.2.2.2) : ab_G p l e R s m args below meth c Q D cl A sa dT nL vs0 hs0 pc E nh hp loc st nc ns := by
  unfold ab_m1 at h
  cases ha : ab_ldq (ab_as pg pc) with
  | none => rw [ha] at h; cases h
  | some a =>
  rw [ha] at h
  dsimp only at h
  cases hk : ab_kcq (ab_as pg (pc + a.2 + a.2)) with
  | none => rw [hk] at h; cases h
  | some k =>
  rw [hk] at h
  dsimp only at h
  cases hl : ab_lk loc a.1 with
  | none => rw [hl] at h; cases h
  | some v =>
  rw [hl] at h
  dsimp only at h
  cases hE : E[v.2]? with
  | none => rw [hE] at h; cases h
  | some iv =>
  rw [hE] at h
  dsimp only at h
  split at h
  · rename_i hc
    obtain ⟨c1, c2, c3, c4, c5⟩ := hc
    cases h
    obtain ⟨i1, d1, e1⟩ := ab_ldq_ok hpg ha
    obtain ⟨i2, d2, e2⟩ := ab_ldq_ok hpg c1
    obtain ⟨i3, d3, e3⟩ := ab_kcq_ok hpg hk
    have d4 := ab_pgd hpg c2
    have d5 := ab_pgd hpg c3
    intro vs hs ls sv H locs hv hh his
    obtain ⟨w, h1, h2⟩ := ab_l_get his.2.2.1 hl
    obtain ⟨tv, kv⟩ := v
    dsimp only at *
    subst c4
    obtain ⟨x, h3, rfl⟩ := ab_cv0 h1
    obtain ⟨z1, z2⟩ := ab_rdn (ab_kc_r e3) c5 (his.1.2 kv iv x hE h3)
    refine ab_ldW X.1 X.2.1 e1 d1 h2 (ab_ldW X.1 X.2.1 e2 d2 h2 (ab_kcW X.1 X.2.1 e3 d3 (lv_irem X.1 X.2.1 d4 z1 (lv_isub X.1 X.2.1 d5 ?_))))
    exact hg _ List.mem_cons_self _ _ _ _ _ _ (ab_x1 _ hv) hh (ab_push his z2)
  · cases h
theorem ab_m2_ok (X : ab_X p s m args c cc own nL D cl (ab_tys dT rn) A Ts) {FT : List (Nat × Nat × Nat × Nat)} {pg : ab_PG} (hF : ∀ q ∈ FT, ab_FL s args own cl Ts q.1 q.2.1 q.2.2.1 q.2.2.2) (hpg : ∀ q ∈ pg, decode cc q.1 = .ok (q.2.1, q.2.2)) {r : List (Nat × ab_S)} (h : ab_m2 FT pg pc E nh hp loc st nc ns = some r) (hg : ∀ q ∈ r, ab_G p l e R s m args below meth c Q D cl A sa dT nL vs0 hs0 q.1 q.2.1 q.2.2.1 q.2.2.2.1 q.2.2.2.2.1 q.2.2.2.2.2.1 q.2.2.2.2.2.2.1 q.2.2.2.2.2.2.2) : ab_G p l e R s m args below meth c Q D cl A sa dT nL vs0 hs0 pc E nh hp loc st nc ns := by
  unfold ab_m2 at h
  split at h
  · rename_i ha0
    cases hix : ab_gf (ab_as pg (pc + 1)) with
    | none => rw [hix] at h; cases h
    | some ix =>
    rw [hix] at h
    dsimp only at h
    cases ha : ab_ldq (ab_as pg (pc + 4)) with
    | none => rw [ha] at h; cases h
    | some a =>
    rw [ha] at h
    dsimp only at h
    cases hk : ab_kcq (ab_as pg (pc + 4 + a.2 + 1 + 4 + a.2 + 1)) with
    | none => rw [hk] at h; cases h
    | some k =>
    rw [hk] at h
    dsimp only at h
    cases hq : ab_as FT ix with
    | none => rw [hq] at h; cases h
    | some q =>
    rw [hq] at h
    dsimp only at h
    cases ho : ab_lk loc 0 with
    | none => rw [ho] at h; cases h
    | some o =>
    rw [ho] at h
    dsimp only at h
    cases hob : ab_ob hp o.2 with
    | none => rw [hob] at h; cases h
    | some ob =>
    rw [hob] at h
    dsimp only at h
    cases har : ob.2.2[q.2.1]? with
    | none => rw [har] at h; cases h
    | some ar =>
    rw [har] at h
    dsimp only at h
    cases hia : ab_ia hp ar.2 with
    | none => rw [hia] at h; cases h
    | some ia =>
    rw [hia] at h
    dsimp only at h
    cases hl : ab_lk loc a.1 with
    | none => rw [hl] at h; cases h
    | some v =>
    rw [hl] at h
    dsimp only at h
    cases hE : E[v.2]? with
    | none => rw [hE] at h; cases h
    | some iv =>
    rw [hE] at h
    dsimp only at h
    split at h
    · rename_i hc
      obtain ⟨c1, c2, c3, c4, c5, c6, c7, c8, c9, c10, c11, c12, c13, c14⟩ := hc
      cases h
      have d0 := ab_a0_ok hpg ha0
      have d1 := ab_gf_ok hpg hix
      obtain ⟨i1, d2, e1⟩ := ab_ldq_ok hpg ha
      have d3 := ab_pgd hpg c1
      have d4 := ab_a0_ok hpg c2
      have d5 := ab_gf_ok hpg c3
      obtain ⟨i2, d6, e2⟩ := ab_ldq_ok hpg c4
      have d7 := ab_pgd hpg c5
      obtain ⟨i3, d8, e3⟩ := ab_kcq_ok hpg hk
      have d9 := ab_pgd hpg c6
      have d10 := ab_pgd hpg c7
      have hF1 := hF _ (ab_as_ok _ _ _ hq)
      rw [c9] at hF1
      have hfo := ab_ob_ok hob
      have hfa := ab_ia_ok hia
      intro vs hs ls sv H locs hv hh his
      obtain ⟨w, h1, h2⟩ := ab_l_get his.2.2.1 hl
      obtain ⟨w0, h10, h20⟩ := ab_l_get his.2.2.1 ho
      obtain ⟨tv, kv⟩ := v
      obtain ⟨to, ko⟩ := o
      obtain ⟨ta, ka⟩ := ar
      dsimp only at *
      subst c8
      subst c10
      subst c11
      obtain ⟨x, h3, rfl⟩ := ab_cv0 h1
      obtain ⟨qo, h30, rfl⟩ := ab_cv1 h10
      obtain ⟨k1, k2, k3, k4, ws, k5, k6, k7, k8⟩ := id his
      obtain ⟨ce, g1, g2⟩ := ab_w_at k5 hfo h30
      obtain ⟨fw, rfl, g3⟩ := g2
      obtain ⟨wa, g4, g5⟩ := ab_at g3 har
      obtain ⟨qa, g6, rfl⟩ := ab_cv1 g5
      obtain ⟨ca, ga1, ga2⟩ := ab_w_at k5 hfa g6
      obtain ⟨f, rfl, ga3⟩ := ga2
      have hin := k1.2 kv iv x hE h3
      obtain ⟨m1, m2, m3⟩ := ab_inN hin c12 c13
      obtain ⟨C, T, N, ty0, ref, f1, f2, f3, f4, f5, f6, f7, -⟩ := hF1
      have hget : ∀ {pc : Nat} {rest : List Value}, decode cc pc = .ok (.getfield ix, 3) → W p l e R s m args below meth c H locs nc ns Q (F0 m (pc + 3) ls (.ref qa :: rest)) → W p l e R s m args below meth c H locs nc ns Q (F0 m pc ls (.ref qo :: rest)) := by
        intro pc rest hd kk
        rcases f7 with f7 | ⟨host, f7⟩
        · exact va_get X.1 X.2.1 X.2.2.2.2.1 f3 X.2.2.2.1 X.2.2.2.2.2.1 k6 ob.1 g1 f1 q.2.1 f2 f7 f6 g4 hd kk
        · exact va_getN X.1 X.2.1 X.2.2.2.2.1 f3 X.2.2.2.1 X.2.2.2.2.2.1 k6 ob.1 g1 f1 q.2.1 f2 f7 f6 g4 hd kk
      have hix2 := ab_ixI_ok (lo := ia.2.2.1) (hi := ia.2.2.2.1) (lo0 := ia.2.2.2.2.1) (hi0 := ia.2.2.2.2.2) (by rw [m3]; exact hin.1) (by rw [m3]; exact hin.2) (ga3 _ m2)
      obtain ⟨z1, z2⟩ := ab_rdn (ab_kc_r e3) c14 hix2
      refine lv_aload_n X.1 X.2.1 d0 rfl h20 (hget d1 (ab_ldW X.1 X.2.1 e1 d2 h2 (va_iald X.1 X.2.1 X.2.2.2.2.2.1 k6 ia.1 0 ga1 rfl m1 d3 (lv_aload_n X.1 X.2.1 d4 rfl h20 (hget d5 (ab_ldW X.1 X.2.1 e2 d6 h2 (va_iald X.1 X.2.1 X.2.2.2.2.2.1 k6 ia.1 0 ga1 rfl m1 d7 (ab_kcW X.1 X.2.1 e3 d8 (lv_irem X.1 X.2.1 d9 z1 (lv_isub X.1 X.2.1 d10 ?_))))))))))
      exact hg _ List.mem_cons_self _ _ _ _ _ _ (ab_x1 _ hv) hh (ab_push his z2)
    · cases h
  · cases h
theorem ab_m5_ok (X : ab_X p s m args c cc own nL D cl (ab_tys dT rn) A Ts) {FT : List (Nat × Nat × Nat × Nat)} {KT : List (Nat × Int)} {pg : ab_PG} (hF : ∀ q ∈ FT, ab_FL s args own cl Ts q.1 q.2.1 q.2.2.1 q.2.2.2) (hK : ∀ q ∈ KT, (Jvm.Cond.constant own q.1 (Int32.ofInt q.2)).before args s = true) (hpg : ∀ q ∈ pg, decode cc q.1 = .ok (q.2.1, q.2.2)) {r : List (Nat × ab_S)} (h : ab_m5 FT KT pg pc E nh hp loc st nc ns = some r) (hg : ∀ q ∈ r, ab_G p l e R s m args below meth c Q D cl A sa dT nL vs0 hs0 q.1 q.2.1 q.2.2.1 q.2.2.2.1 q.2.2.2.2.1 q.2.2.2.2.2.1 q.2.2.2.2.2.2.1 q.2.2.2.2.2.2.2) : ab_G p l e R s m args below meth c Q D cl A sa dT nL vs0 hs0 pc E nh hp loc st nc ns := by
  unfold ab_m5 at h
  cases ha : ab_ldq (ab_as pg pc) with
  | none => rw [ha] at h; cases h
  | some a =>
  rw [ha] at h
  dsimp only at h
  split at h
  · rename_i ik hs1
    split at h
    · rename_i n hs2
      split at h
      · rename_i off hs3
        cases htg : ab_tg (pc + a.2 + 6) off with
        | none => rw [htg] at h; cases h
        | some tg =>
        rw [htg] at h
        dsimp only at h
        cases hkk : ab_as KT ik with
        | none => rw [hkk] at h; cases h
        | some kk =>
        rw [hkk] at h
        dsimp only at h
        cases hix : ab_gf (ab_as pg (pc + a.2 + 10)) with
        | none => rw [hix] at h; cases h
        | some ix =>
        rw [hix] at h
        dsimp only at h
        cases hq : ab_as FT ix with
        | none => rw [hq] at h; cases h
        | some q =>
        rw [hq] at h
        dsimp only at h
        cases ho : ab_lk loc 0 with
        | none => rw [ho] at h; cases h
        | some o =>
        rw [ho] at h
        dsimp only at h
        cases hob : ab_ob hp o.2 with
        | none => rw [hob] at h; cases h
        | some ob =>
        rw [hob] at h
        dsimp only at h
        cases har : ob.2.2[q.2.1]? with
        | none => rw [har] at h; cases h
        | some ar =>
        rw [har] at h
        dsimp only at h
        cases hl : ab_lk loc a.1 with
        | none => rw [hl] at h; cases h
        | some v =>
        rw [hl] at h
        dsimp only at h
        split at h
        · rename_i hc
          obtain ⟨c1, c2, c3, c4, c5, c6, c7, c8, c9, c10, c11, c12⟩ := hc
          cases h
          obtain ⟨i1, d1, e1⟩ := ab_ldq_ok hpg ha
          have d2 := ab_pgd hpg hs1
          have d3 := ab_pgd hpg c1
          have d4 := ab_pgd hpg hs2
          have d5 := ab_pgd hpg hs3
          have d6 := ab_a0_ok hpg c2
          have d7 := ab_gf_ok hpg hix
          obtain ⟨i2, d8, e2⟩ := ab_ldq_ok hpg c3
          have d9 := ab_pgd hpg c4
          have d10 := ab_pgd hpg c5
          have hF1 := hF _ (ab_as_ok _ _ _ hq)
          have hK1 := hK _ (ab_as_ok _ _ _ hkk)
          rw [c7] at hF1
          have hfo := ab_ob_ok hob
          intro vs hs ls sv H locs hv hh his
          obtain ⟨w, h1, h2⟩ := ab_l_get his.2.2.1 hl
          obtain ⟨w0, h10, h20⟩ := ab_l_get his.2.2.1 ho
          obtain ⟨tv, kv⟩ := v
          obtain ⟨to, ko⟩ := o
          dsimp only at *
          subst c6
          subst c8
          obtain ⟨x, h3, rfl⟩ := ab_cv0 h1
          obtain ⟨qo, h30, rfl⟩ := ab_cv1 h10
          obtain ⟨k1, k2, k3, k4, ws, k5, k6, k7, k8⟩ := id his
          obtain ⟨ce, g1, g2⟩ := ab_w_at k5 hfo h30
          obtain ⟨fw, rfl, g3⟩ := g2
          obtain ⟨wa, g4, g5⟩ := ab_at g3 har
          obtain ⟨C, T, N, ty0, ref, f1, f2, f3, f4, f5, f6, f7, -⟩ := hF1
          have hget : ∀ {pc : Nat} {rest : List Value}, decode cc pc = .ok (.getfield ix, 3) → W p l e R s m args below meth c H locs nc ns Q (F0 m (pc + 3) ls (wa :: rest)) → W p l e R s m args below meth c H locs nc ns Q (F0 m pc ls (.ref qo :: rest)) := by
            intro pc rest hd kk
            rcases f7 with f7 | ⟨host, f7⟩
            · exact va_get X.1 X.2.1 X.2.2.2.2.1 f3 X.2.2.2.1 X.2.2.2.2.2.1 k6 ob.1 g1 f1 q.2.1 f2 f7 f6 g4 hd kk
            · exact va_getN X.1 X.2.1 X.2.2.2.2.1 f3 X.2.2.2.1 X.2.2.2.2.2.1 k6 ob.1 g1 f1 q.2.1 f2 f7 f6 g4 hd kk
          have ek : (Int32.ofInt kk).toInt = kk := by rw [Int32.toInt_ofInt]; exact ab_bm (by omega) (by omega)
          have en : (Int32.ofInt n).toInt = n := by rw [Int32.toInt_ofInt]; exact ab_bm (by omega) (by omega)
          have hand := ab_andL (x := x) (y := Int32.ofInt kk) (by omega)
          refine ab_ldW X.1 X.2.1 e1 d1 h2 (lv_ldc X.1 X.2.1 X.2.2.2.1 hK1 d2 (lv_iand X.1 X.2.1 d3 (lv_sipush X.1 X.2.1 d4 (ab_push16 (by omega) (by omega)) (lv_icmp_ge X.1 X.2.1 d5 (ab_tg_ok htg) (fun _ => hg (tg, E, nh, hp, loc, st, nc, ns) List.mem_cons_self _ _ _ _ _ _ hv hh his) (fun hlt => ?_)))))
          refine lv_aload_n X.1 X.2.1 d6 rfl h20 (hget d7 (ab_ldW X.1 X.2.1 e2 d8 h2 (lv_ldc X.1 X.2.1 X.2.2.2.1 hK1 d9 (lv_iand X.1 X.2.1 d10 ?_))))
          refine hg (pc + a.2 + 13 + a.2 + 3, E ++ [(0, min kk (n - 1))], nh, hp, loc, (0, E.length) :: ar :: st, nc, ns) (List.mem_cons_of_mem _ List.mem_cons_self) _ _ _ _ _ _ (ab_x1 _ hv) hh (ab_push (ab_pv his g5) ?_)
          have hlt2 := Int32.not_le.mp hlt
          rw [Int32.lt_iff_toInt_lt, en] at hlt2
          unfold ab_in
          dsimp only
          omega
        · cases h
      · cases h
    · cases h
  · cases h
theorem ab_ex_ok (X : ab_X p s m args c cc own nL D cl (ab_tys dT rn) A Ts) {sp : List (Nat × Nat × Int)} {FT : List (Nat × Nat × Nat × Nat)} {KT : List (Nat × Int)} {pg : ab_PG} (hF : ∀ q ∈ FT, ab_FL s args own cl Ts q.1 q.2.1 q.2.2.1 q.2.2.2) (hK : ∀ q ∈ KT, (Jvm.Cond.constant own q.1 (Int32.ofInt q.2)).before args s = true) (hpg : ∀ q ∈ pg, decode cc q.1 = .ok (q.2.1, q.2.2)) (S : ab_S) (r : List (Nat × ab_S)) (h : ab_ex sp FT KT pg pc S = some r) (hg : ∀ q ∈ r, ab_G p l e R s m args below meth c Q D cl A sa dT nL vs0 hs0 q.1 q.2.1 q.2.2.1 q.2.2.2.1 q.2.2.2.2.1 q.2.2.2.2.2.1 q.2.2.2.2.2.2.1 q.2.2.2.2.2.2.2) : ab_G p l e R s m args below meth c Q D cl A sa dT nL vs0 hs0 pc S.1 S.2.1 S.2.2.1 S.2.2.2.1 S.2.2.2.2.1 S.2.2.2.2.2.1 S.2.2.2.2.2.2 := by
  unfold ab_ex at h
  rcases ab_or2_ok h with h | h
  · exact ab_sp_ok h hg
  rcases ab_or2_ok h with h | h
  · exact ab_m1_ok X hpg h hg
  rcases ab_or2_ok h with h | h
  · exact ab_m2_ok X hF hpg h hg
  exact ab_m5_ok X hF hK hpg h hg
end
end
section
def ab_mt2 (n0 nh0 : Nat) (C S : ab_S) (σ π : List Nat) : Bool :=
  ab_ek σ C.1 S.1 && (decide (π.length = C.2.1) && (decide (∀ k ∈ π, k < S.2.1) && (ab_ck σ π C.2.2.1 S.2.2.1 && (decide (σ.take n0 = List.range n0) && (decide (π.take nh0 = List.range nh0) && (decide (C.2.2.2.2.1.map (ab_su σ π) = S.2.2.2.2.1) && (C.2.2.2.1.all (fun q => decide (ab_lk S.2.2.2.1 q.1 = some (ab_su σ π q.2))) && (decide (S.2.2.2.2.2.1 ≤ C.2.2.2.2.2.1) && decide (S.2.2.2.2.2.2 ≤ C.2.2.2.2.2.2)))))))))
def ab_mtS (n0 nh0 : Nat) (C S : ab_S) : Bool :=
  (fun q : List Nat × List Nat => ab_mt2 n0 nh0 C S q.1 q.2) (ab_un (ab_idL n0, ab_idL nh0) C.1.length C.2.1 C.2.2.1 (C.2.2.2.1.map (fun q => q.2) ++ C.2.2.2.2.1) S.2.2.1 (C.2.2.2.1.map (fun q => (ab_lk S.2.2.2.1 q.1).getD (9, 0)) ++ S.2.2.2.2.1))
theorem ab_pk_px {α : Type} {d : α} {vs vs0 : List α} {σ : List Nat} (hv : ∃ v, vs = vs0 ++ v) (c4 : σ.take vs0.length = List.range vs0.length) : ∃ v, ab_pk d vs σ = vs0 ++ v := by
  refine ⟨(ab_pk d vs σ).drop vs0.length, ?_⟩
  have : (ab_pk d vs σ).take vs0.length = vs0 := by
    obtain ⟨v, rfl⟩ := hv
    unfold ab_pk
    rw [← List.map_take, c4]
    apply List.ext_getElem?
    intro j
    rw [List.getElem?_map]
    by_cases hj : j < vs0.length
    · rw [List.getElem?_range hj]
      simp [List.getD_eq_getElem?_getD, List.getElem?_append_left hj, List.getElem?_eq_getElem hj]
    · rw [List.getElem?_eq_none (by simp; omega), List.getElem?_eq_none (by omega)]
      rfl
  conv => lhs; rw [← List.take_append_drop vs0.length (ab_pk d vs σ), this]
section
variable {p : Program} {l : Launch} {e : Env} {R : Room} {s : State} {m : MethodId} {args : Array Value} {below : List Frame} {meth : Method} {c : Code} {Q : State → Prop} {cc : ByteArray} {own : String} {nL : Nat} {D : va_G} {cl : List vw_C} {rn : List String} {A : Nat → Prop} {Ts : List Cond} {sa : Nat → Nat} {dT : Nat → ClassId} {vs0 : List Int32} {hs0 : List Nat} {pc : Nat} {E : List ab_I} {nh nc ns : Nat} {hp : ab_H} {loc : List (Nat × ab_V)} {st : List ab_V}
variable {SL : ab_SL} {NF : ab_NF} {NM : ab_NM} {Tc : List Cond}
theorem ab_cutG {C S : ab_S} (h : ab_mtS vs0.length hs0.length C S = true) (g : ab_G p l e R s m args below meth c Q D cl A sa dT nL vs0 hs0 pc C.1 C.2.1 C.2.2.1 C.2.2.2.1 C.2.2.2.2.1 C.2.2.2.2.2.1 C.2.2.2.2.2.2) : ab_G p l e R s m args below meth c Q D cl A sa dT nL vs0 hs0 pc S.1 S.2.1 S.2.2.1 S.2.2.2.1 S.2.2.2.2.1 S.2.2.2.2.2.1 S.2.2.2.2.2.2 := by
  unfold ab_mtS at h
  generalize ab_un (ab_idL vs0.length, ab_idL hs0.length) C.1.length C.2.1 C.2.2.1 (C.2.2.2.1.map (fun q => q.2) ++ C.2.2.2.2.1) S.2.2.1 (C.2.2.2.1.map (fun q => (ab_lk S.2.2.2.1 q.1).getD (9, 0)) ++ S.2.2.2.2.1) = q at h
  obtain ⟨σ, π⟩ := q
  dsimp only at h
  unfold ab_mt2 at h
  simp only [Bool.and_eq_true, decide_eq_true_eq, List.all_eq_true] at h
  obtain ⟨c1, c0, c2, c3, c4, c5, c6, c7, c8, c9⟩ := h
  intro vs hs ls sv H locs hv hh his
  obtain ⟨h1, h2, h3, h4, ws, h5, h6, h7, h8⟩ := his
  obtain ⟨e1, l1⟩ := ab_ek_ok h1 c1
  obtain ⟨d1, d2, d3⟩ := ab_ck_ok h5 c3
  refine W.widen (k := C.2.2.2.2.2.1) (n := C.2.2.2.2.2.2) c8 c9 ?_
  refine g (ab_pk 0 vs σ) (ab_pk 0 hs π) ls sv H locs (ab_pk_px hv c4) (ab_pk_px hh c5) ⟨e1, by simp [ab_pk, c0], ⟨⟨h3.1.1, h3.1.2.1, fun q hq => ?_⟩, fun q hq => ?_⟩, ab_su_dnL (by rw [c6]; exact h4), _, d3, ab_P_pw h6 d2, h7.sub _ d1 d2, h8⟩
  · obtain ⟨r, hr, rfl⟩ := List.mem_map.mp hq
    obtain ⟨v, hv1, hv2⟩ := ab_l_get h3 (c7 r hr)
    rw [ab_su_dn hv1]
    exact hv2
  · obtain ⟨v, hv1, hv2⟩ := ab_l_get h3 (c7 q hq)
    exact ⟨v, ab_su_dn hv1⟩
def ab_cuts (R : Room) (cl : List vw_C) (rn : List String) (ini : Bool) (FT : List (Nat × Nat × Nat × Nat)) (SL : ab_SL) (ST : List (Nat × Nat)) (NT : List (Nat × Nat × List Bool)) (RT : List (Nat × Nat)) (OI : List Nat) (AC : List Nat) (nL : Nat) (KT : List (Nat × Int)) (mm : Nat → ab_M) (MT : List (Nat × Nat × Nat × Nat × Nat)) (EN : List ab_N) (ex : Nat → ab_S → Option (List (Nat × ab_S))) (fin : Nat → ab_S → Bool) (n0 nh0 : Nat) (pg : List (Nat × ClassFile.Instr × Nat)) (fuel : Nat) : List (Nat × ab_S) → Bool
  | [] => true
  | c :: r => ab_ai R cl rn ini FT SL ST NT RT OI AC nL KT mm MT EN ex (fun pc S => fin pc S || r.any (fun d => decide (d.1 = pc) && ab_mtS n0 nh0 d.2 S)) pg fuel c.1 c.2 && ab_cuts R cl rn ini FT SL ST NT RT OI AC nL KT mm MT EN ex fin n0 nh0 pg fuel r
theorem ab_cuts_ok {KT : List (Nat × Int)} {mm : Nat → ab_M} {MT : List (Nat × Nat × Nat × Nat × Nat)} {EN : List ab_N} {pg : List (Nat × ClassFile.Instr × Nat)} {ex : Nat → ab_S → Option (List (Nat × ab_S))} {fin : Nat → ab_S → Bool} {fuel : Nat} (X : ab_X p s m args c cc own nL D cl (ab_tys dT rn) A Ts) (SX : ab_SX rn SL NF NM sa A s s.heap) {ini : Bool} {FT : List (Nat × Nat × Nat × Nat)} {ST : List (Nat × Nat)} {NT : List (Nat × Nat × List Bool)} {RT : List (Nat × Nat)} {OI AC : List Nat} (hini : ini = true → meth.name = "<init>") (hF : ∀ q ∈ FT, ab_FL s args own cl Ts q.1 q.2.1 q.2.2.1 q.2.2.2) (hST : ∀ q ∈ ST, ∀ r, SL[q.2]? = some r → (Cond.fieldLink own q.1 r.1 r.2.1 r.2.2.1).before args s = true) (hNT : ∀ q ∈ NT, ab_NL s args own cl Ts q.1 q.2.1 q.2.2) (hAI : (Cond.arrayClass (newarray.typeOf .int)).before args s = true) (hRT : ∀ q ∈ RT, ∀ C, rn[q.2]? = some C → (Cond.classLink own q.1 C).before args s = true) (hOI : ∀ ix ∈ OI, (Cond.methodLink own ix Lib.objectInit).before args s = true ∧ (Cond.instanceMethod Lib.objectInit).before args s = true ∧ (Cond.code Lib.objectInit ⟨#[0xb1]⟩ 1 none).before args s = true) (hAC : ∀ ix ∈ AC, (Cond.methodLink own ix arraycopyName).before args s = true ∧ (Cond.native arraycopyName).before args s = true ∧ (Cond.static arraycopyName).before args s = true ∧ (Cond.initialized "java/lang/System").before args s = true) (hK : ∀ q ∈ KT, (Jvm.Cond.constant own q.1 (Int32.ofInt q.2)).before args s = true) (hEN : ∀ en ∈ EN, ab_enOk l cl rn SL NF NM Tc mm en) (hMT : ∀ q ∈ MT, GoodIn Ts (.code (mm q.2.2.1).1 (mm q.2.2.1).2.1 (mm q.2.2.1).2.2.1 (mm q.2.2.1).2.2.2 :: Tc) ∧ ab_ML s args own cl q.2.1 q.1 (mm q.2.2.1).1 (mm q.2.2.1).2.2.2 q.2.2.2.1 q.2.2.2.2) (hpg : ∀ q ∈ pg, decode cc q.1 = .ok (q.2.1, q.2.2))
    (hex : ∀ (pc : Nat) (S : ab_S) (r : List (Nat × ab_S)), ex pc S = some r → (∀ q ∈ r, ab_G p l e R s m args below meth c Q D cl A sa dT nL vs0 hs0 q.1 q.2.1 q.2.2.1 q.2.2.2.1 q.2.2.2.2.1 q.2.2.2.2.2.1 q.2.2.2.2.2.2.1 q.2.2.2.2.2.2.2) → ab_G p l e R s m args below meth c Q D cl A sa dT nL vs0 hs0 pc S.1 S.2.1 S.2.2.1 S.2.2.2.1 S.2.2.2.2.1 S.2.2.2.2.2.1 S.2.2.2.2.2.2) (hfin : ∀ (pc : Nat) (S : ab_S), fin pc S = true → ab_G p l e R s m args below meth c Q D cl A sa dT nL vs0 hs0 pc S.1 S.2.1 S.2.2.1 S.2.2.2.1 S.2.2.2.2.1 S.2.2.2.2.2.1 S.2.2.2.2.2.2) :
    ∀ cuts : List (Nat × ab_S), ab_cuts R cl rn ini FT SL ST NT RT OI AC nL KT mm MT EN ex fin vs0.length hs0.length pg fuel cuts = true → ∀ d ∈ cuts, ab_G p l e R s m args below meth c Q D cl A sa dT nL vs0 hs0 d.1 d.2.1 d.2.2.1 d.2.2.2.1 d.2.2.2.2.1 d.2.2.2.2.2.1 d.2.2.2.2.2.2.1 d.2.2.2.2.2.2.2
  | [], _, d, hd => by cases hd
  | c0 :: r, h, d, hd => by
    unfold ab_cuts at h
    rw [Bool.and_eq_true] at h
    have ih := ab_cuts_ok X SX hini hF hST hNT hAI hRT hOI hAC hK hEN hMT hpg hex hfin r h.2
    rcases List.mem_cons.mp hd with rfl | hd
    · refine ab_ai_ok X SX hini hF hST hNT hAI hRT hOI hAC hK hEN hMT hpg hex (fun pc S hf => ?_) fuel d.1 d.2 h.1
      rw [Bool.or_eq_true] at hf
      rcases hf with hf | hf
      · exact hfin pc S hf
      · obtain ⟨c1, hc1, hc2⟩ := List.any_eq_true.mp hf
        rw [Bool.and_eq_true, decide_eq_true_eq] at hc2
        obtain ⟨hc2, hc3⟩ := hc2
        have g := ih c1 hc1
        rw [hc2] at g
        exact ab_cutG hc3 g
    · exact ih d hd
end
def ab_TB (own : String) (cl : List vw_C) (rn : List String) (SL : ab_SL) (NF : ab_NF) (NM : ab_NM) (Tc : List Cond) (mm : Nat → ab_M) (FT : List (Nat × Nat × Nat × Nat)) (ST : List (Nat × Nat)) (NT : List (Nat × Nat × List Bool)) (RT : List (Nat × Nat)) (OI AC : List Nat) (KT : List (Nat × Int)) (MT : List (Nat × Nat × Nat × Nat × Nat)) : Prop :=
  ∀ (s : State) (args : Array Value), (∀ w ∈ Tc, w.before args s = true) → (∀ r ∈ NF, va_Nw (.fieldLinkNest r.1 r.2.1 r.2.2.1 r.2.2.2.1 r.2.2.2.2.1 r.2.2.2.2.2) s) → (∀ r ∈ NM, va_Nw (.methodLinkNest r.1 r.2.1 r.2.2.1 r.2.2.2) s) →
    (∀ q ∈ FT, ab_FL s args own cl Tc q.1 q.2.1 q.2.2.1 q.2.2.2) ∧ (∀ q ∈ ST, ∀ r, SL[q.2]? = some r → (Cond.fieldLink own q.1 r.1 r.2.1 r.2.2.1).before args s = true) ∧ (∀ q ∈ NT, ab_NL s args own cl Tc q.1 q.2.1 q.2.2) ∧ (Cond.arrayClass (newarray.typeOf .int)).before args s = true ∧ (∀ q ∈ RT, ∀ C, rn[q.2]? = some C → (Cond.classLink own q.1 C).before args s = true) ∧ (∀ ix ∈ OI, (Cond.methodLink own ix Lib.objectInit).before args s = true ∧ (Cond.instanceMethod Lib.objectInit).before args s = true ∧ (Cond.code Lib.objectInit ⟨#[0xb1]⟩ 1 none).before args s = true) ∧ (∀ ix ∈ AC, (Cond.methodLink own ix arraycopyName).before args s = true ∧ (Cond.native arraycopyName).before args s = true ∧ (Cond.static arraycopyName).before args s = true ∧ (Cond.initialized "java/lang/System").before args s = true) ∧
    (∀ q ∈ KT, (Jvm.Cond.constant own q.1 (Int32.ofInt q.2)).before args s = true) ∧ (∀ q ∈ MT, GoodIn Tc (.code (mm q.2.2.1).1 (mm q.2.2.1).2.1 (mm q.2.2.1).2.2.1 (mm q.2.2.1).2.2.2 :: Tc) ∧ ab_ML s args own cl q.2.1 q.1 (mm q.2.2.1).1 (mm q.2.2.1).2.2.2 q.2.2.2.1 q.2.2.2.2)
theorem ab_meth0 {l : Launch} {cl : List vw_C} {rn : List String} {SL : ab_SL} {NF : ab_NF} {NM : ab_NM} {Tc : List Cond} {mm : Nat → ab_M} {FT : List (Nat × Nat × Nat × Nat)} {ST : List (Nat × Nat)} {NT : List (Nat × Nat × List Bool)} {RT : List (Nat × Nat)} {OI AC : List Nat} {KT : List (Nat × Int)} {MT : List (Nat × Nat × Nat × Nat × Nat)} {EN : List ab_N} {pg : List (Nat × ClassFile.Instr × Nat)} {ini : Bool} {fuel : Nat} {sp : List (Nat × Nat × Int)} {cuts : List (Nat × ab_S)} {y : MethodName} {cc : ByteArray} {maxL : Nat} {ret : Option FieldType} {E0 : List ab_I} {nh0 : Nat} {hp0 : ab_H} {as0 : List ab_V} {posts : List ab_P} {rm : Room}
    (TB : ab_TB y.cls cl rn SL NF NM Tc mm FT ST NT RT OI AC KT MT) (hpl : plainName y.cls = true) (hpg : ∀ q ∈ pg, decode cc q.1 = .ok (q.2.1, q.2.2)) (hini : ini = true → y.name = "<init>") (hEN : ∀ en ∈ EN, ab_enOk l cl rn SL NF NM Tc mm en) (hnl : as0.length ≤ maxL)
    (run : ab_cuts rm cl rn ini FT SL ST NT RT OI AC maxL KT mm MT EN (ab_ex sp FT KT pg) (ab_fin rm E0.length nh0 posts ret pg) E0.length nh0 pg fuel ((0, (E0, nh0, hp0, ab_lo 0 as0, [], 0, 0)) :: cuts) = true) : ab_met l cl rn SL NF NM Tc y cc maxL ret E0 nh0 hp0 as0 posts rm := by
  intro D sa dT vs0 hs0 ws vals sz he hn hw ha
  refine Met.ofW (cc := cc) (maxL := maxL) (ret := ret) hpl rfl ?_
  intro p e s m args below meth c s₁ B hml hv
  obtain ⟨rfl, hsz, hP, hK, hD0, hSX⟩ := hv
  have hts := atoms_spec (ws := .code y cc maxL ret :: Tc) B.pre
  have hts2 : ∀ w ∈ Tc, w.before vals.toArray s = true := fun w h => hts w (List.mem_cons_of_mem _ h)
  have hown : s.vm.findClass y.cls = some m.cls := findClass_of_methodNamed B.named
  have hnm : meth.name = y.name := (name_of_methodNamed B.named B.method).1
  obtain ⟨t1, t2, t3, t4, t5, t6, t7, t8, t9⟩ := TB s vals.toArray hts2 hSX.2.1 hSX.2.2.1
  subst hsz
  have hD := hD0.self (sz := s.heap.size)
  obtain ⟨l1, l2, l3⟩ := ab_lo_ok _ _ 0 ha
  have hlen := ab_lenL ha
  have hl := lv_entry vals (n := maxL) (by rw [l3]; omega)
  rw [lg_entry_eq]
  have X : ab_X p s m vals.toArray c cc y.cls maxL D cl (ab_tys dT rn) (va_A ws s.heap.size) Tc := ⟨B.exec, B.bytes, hml, hown, hts2, hK, fun q h => Or.inr h⟩
  have hlk := B.notSynchronized
  have hrt := B.returns
  rw [← he.1, ← hn] at run
  have hfin : ∀ (pc : Nat) (S : ab_S), ab_fin rm vs0.length hs0.length posts ret pg pc S = true → ab_G p l e rm s m vals.toArray below meth c (MQ below (ab_Q cl D sa dT vs0 hs0 ws s.heap.size posts) vals.toArray s rm.cells rm.slots (va_A ws s.heap.size)) D cl (va_A ws s.heap.size) sa dT maxL vs0 hs0 pc S.1 S.2.1 S.2.2.1 S.2.2.2.1 S.2.2.2.2.1 S.2.2.2.2.2.1 S.2.2.2.2.2.2 := by
    intro pc S hS
    unfold ab_fin at hS
    cases hq : ab_as pg pc with
    | none => rw [hq] at hS; cases hS
    | some q =>
      obtain ⟨i, n⟩ := q
      rw [hq] at hS
      exact ab_rt_ok X hlk hrt (ab_pgd hpg hq) hS
  have key := ab_cuts_ok (R := rm) (below := below) (meth := meth) (e := e) (l := l) (Q := MQ below (ab_Q cl D sa dT vs0 hs0 ws s.heap.size posts) vals.toArray s rm.cells rm.slots (va_A ws s.heap.size)) X hSX (fun h => hnm.trans (hini h)) t1 t2 t3 t4 t5 t6 t7 t8 hEN t9 hpg (fun pc S r h hg => ab_ex_ok X t1 t8 hpg S r h hg) hfin _ run _ List.mem_cons_self
  exact key vs0 hs0 _ [] s.heap [] ⟨[], (List.append_nil _).symm⟩ ⟨[], (List.append_nil _).symm⟩ ⟨he, rfl, ⟨by rw [l1]; exact hl, l2⟩, rfl, ws, hw, hP, hD, va_S.rf⟩
theorem ab_mc {α : Type} {P : α → Prop} {a : α} {r : List α} (h : P a) (t : ∀ x ∈ r, P x) : ∀ x ∈ a :: r, P x := List.forall_mem_cons.mpr ⟨h, t⟩
theorem ab_mn {α : Type} {P : α → Prop} : ∀ x ∈ ([] : List α), P x := fun _ h => absurd h List.not_mem_nil
end
section
def nT0 : u_T := fun k => match k with
  | 0 => ("LevelMachine$Instruction", "operation", "I", false)
  | 1 => ("LevelMachine$Instruction", "\x72", "I", false)
  | 2 => ("LevelMachine$Instruction", "q", "I", false)
  | 3 => ("LevelMachine$Instruction", "n", "I", false)
  | _ => ("LevelMachine$Instruction", "m", "I", false)
def nY0 : Nat → FieldType := fun k => match k with
  | 0 => .int
  | 1 => .int
  | 2 => .int
  | 3 => .int
  | _ => .int
theorem nN0 : ∀ a, a < 5 → ∀ b, b < 5 → a ≠ b → (nT0 a).2.1 ≠ (nT0 b).2.1 := by decide +kernel
theorem nP0 : ∀ k, k < 5 → parseFieldDescriptor (nT0 k).2.2.1 = some (nY0 k) := by decide +kernel
def nT1 : u_T := fun k => match k with
  | 0 => ("LevelMachine$Memory", "words", "[I", true)
  | _ => ("LevelMachine$Memory", "before", "[I", true)
def nY1 : Nat → FieldType := fun k => match k with
  | 0 => .array .int
  | _ => .array .int
theorem nN1 : ∀ a, a < 2 → ∀ b, b < 2 → a ≠ b → (nT1 a).2.1 ≠ (nT1 b).2.1 := by decide +kernel
theorem nP1 : ∀ k, k < 2 → parseFieldDescriptor (nT1 k).2.2.1 = some (nY1 k) := by decide +kernel
def nT2 : u_T := fun k => match k with
  | 0 => ("LevelMachine$Segment", "beyond", "I", true)
  | 1 => ("LevelMachine$Segment", "selector", "I", false)
  | 2 => ("LevelMachine$Segment", "base", "I", false)
  | 3 => ("LevelMachine$Segment", "limit", "I", false)
  | 4 => ("LevelMachine$Segment", "kind", "I", false)
  | _ => ("LevelMachine$Segment", "rank", "I", false)
def nY2 : Nat → FieldType := fun k => match k with
  | 0 => .int
  | 1 => .int
  | 2 => .int
  | 3 => .int
  | 4 => .int
  | _ => .int
theorem nN2 : ∀ a, a < 6 → ∀ b, b < 6 → a ≠ b → (nT2 a).2.1 ≠ (nT2 b).2.1 := by decide +kernel
theorem nP2 : ∀ k, k < 6 → parseFieldDescriptor (nT2 k).2.2.1 = some (nY2 k) := by decide +kernel
def nT3 : u_T := fun k => match k with
  | 0 => ("LevelMachine", "memory", "LLevelMachine$Memory;", true)
  | 1 => ("LevelMachine", "registers", "[I", true)
  | 2 => ("LevelMachine", "registersBefore", "[I", true)
  | 3 => ("LevelMachine", "segments", "[LLevelMachine$Segment;", true)
  | 4 => ("LevelMachine", "segmentsBefore", "[LLevelMachine$Segment;", true)
  | 5 => ("LevelMachine", "outerStack", "LLevelMachine$Segment;", true)
  | 6 => ("LevelMachine", "now", "LLevelMachine$Instruction;", true)
  | 7 => ("LevelMachine", "halt", "I", false)
  | 8 => ("LevelMachine", "raisedNumber", "I", false)
  | 9 => ("LevelMachine", "raisedCode", "I", false)
  | 10 => ("LevelMachine", "latestNumber", "I", false)
  | 11 => ("LevelMachine", "latestCode", "I", false)
  | _ => ("LevelMachine", "faults", "I", false)
def nY3 : Nat → FieldType := fun k => match k with
  | 0 => .object "LevelMachine$Memory"
  | 1 => .array .int
  | 2 => .array .int
  | 3 => .array (.object "LevelMachine$Segment")
  | 4 => .array (.object "LevelMachine$Segment")
  | 5 => .object "LevelMachine$Segment"
  | 6 => .object "LevelMachine$Instruction"
  | 7 => .int
  | 8 => .int
  | 9 => .int
  | 10 => .int
  | 11 => .int
  | _ => .int
theorem nN3 : ∀ a, a < 13 → ∀ b, b < 13 → a ≠ b → (nT3 a).2.1 ≠ (nT3 b).2.1 := by decide +kernel
theorem nP3 : ∀ k, k < 13 → parseFieldDescriptor (nT3 k).2.2.1 = some (nY3 k) := by decide +kernel
def nT4 : u_T := fun k => match k with
  | 0 => ("LevelMachineModel", "memory", "[I", true)
  | 1 => ("LevelMachineModel", "registers", "[I", true)
  | 2 => ("LevelMachineModel", "segments", "[I", true)
  | 3 => ("LevelMachineModel", "memoryBefore", "[I", true)
  | 4 => ("LevelMachineModel", "registersBefore", "[I", true)
  | 5 => ("LevelMachineModel", "segmentsBefore", "[I", true)
  | 6 => ("LevelMachineModel", "mode", "I", false)
  | 7 => ("LevelMachineModel", "fault", "I", false)
  | 8 => ("LevelMachineModel", "code", "I", false)
  | 9 => ("LevelMachineModel", "latest", "I", false)
  | 10 => ("LevelMachineModel", "latestCode", "I", false)
  | 11 => ("LevelMachineModel", "faults", "I", false)
  | 12 => ("LevelMachineModel", "oldSelector", "I", false)
  | 13 => ("LevelMachineModel", "oldBase", "I", false)
  | 14 => ("LevelMachineModel", "oldLimit", "I", false)
  | 15 => ("LevelMachineModel", "oldKind", "I", false)
  | _ => ("LevelMachineModel", "oldPlace", "I", false)
def nY4 : Nat → FieldType := fun k => match k with
  | 0 => .array .int
  | 1 => .array .int
  | 2 => .array .int
  | 3 => .array .int
  | 4 => .array .int
  | 5 => .array .int
  | 6 => .int
  | 7 => .int
  | 8 => .int
  | 9 => .int
  | 10 => .int
  | 11 => .int
  | 12 => .int
  | 13 => .int
  | 14 => .int
  | 15 => .int
  | _ => .int
theorem nN4 : ∀ a, a < 17 → ∀ b, b < 17 → a ≠ b → (nT4 a).2.1 ≠ (nT4 b).2.1 := by decide +kernel
theorem nP4 : ∀ k, k < 17 → parseFieldDescriptor (nT4 k).2.2.1 = some (nY4 k) := by decide +kernel
def nCl : List vw_C := [("LevelMachine$Instruction", nT0, 5), ("LevelMachine$Memory", nT1, 2), ("LevelMachine$Segment", nT2, 6), ("LevelMachine", nT3, 13), ("LevelMachineModel", nT4, 17)]
def nRn : List String := ["LevelMachine$Segment"]
def nSL : ab_SL := [("LevelMachine$Instruction", "MOST_Q", "[I", [7, 7, 4, 4, 4, 4, 3, 3, 7, 7, 7, 7, 7, 3, 4, 7, 7, 7, 7, 7, 7, 4]), ("LevelMachine$Instruction", "TAILS", "[I", [0, 1, 0, 0, 0, 0, 1, 1, 1, 1, 1, 0, 0, 0, 0, 2, 2, 1, 1, 0, 0, 0])]
def nNF : ab_NF := [("LevelMachine", 157, "LevelMachine$Segment", "beyond", "I", "LevelMachine"), ("LevelMachine", 98, "LevelMachine$Segment", "selector", "I", "LevelMachine"), ("LevelMachine", 101, "LevelMachine$Segment", "base", "I", "LevelMachine"), ("LevelMachine", 104, "LevelMachine$Segment", "limit", "I", "LevelMachine"), ("LevelMachine", 107, "LevelMachine$Segment", "kind", "I", "LevelMachine"), ("LevelMachine", 110, "LevelMachine$Segment", "rank", "I", "LevelMachine"), ("LevelMachine", 195, "LevelMachine$Instruction", "operation", "I", "LevelMachine"), ("LevelMachine", 189, "LevelMachine$Instruction", "\x72", "I", "LevelMachine"), ("LevelMachine", 192, "LevelMachine$Instruction", "q", "I", "LevelMachine"), ("LevelMachine", 180, "LevelMachine$Instruction", "n", "I", "LevelMachine"), ("LevelMachine", 183, "LevelMachine$Instruction", "m", "I", "LevelMachine")]
def nNM : ab_NM := [("LevelMachine", 41, ⟨"LevelMachine$Instruction", "<init>", "()V"⟩, "LevelMachine")]
def nTc : List Cond := lw_tbl.filter goodWord
theorem nT (k : Nat) {w : Cond} (h : tables_1[k]? = some w) (hg : goodWord w = true) : w ∈ nTc := List.mem_filter.mpr ⟨List.mem_append_right _ (List.mem_of_getElem? h), hg⟩
theorem nS (k : Nat) {q : MethodName × Nat} (h : lw_privs[k]? = some q) : Cond.selects q.1.cls q.1 q.1 ∈ nTc := List.mem_filter.mpr ⟨List.mem_append_left _ (List.mem_map.mpr ⟨q, List.mem_of_getElem? h, rfl⟩), rfl⟩
theorem nG {w0 : Cond} (h : w0 ∈ nTc) : GoodIn nTc (w0 :: nTc) := by
  intro w hw
  rcases List.mem_cons.mp hw with rfl | hw
  · exact ⟨h, good_of_word (List.mem_filter.mp h).2⟩
  · exact ⟨hw, good_of_word (List.mem_filter.mp hw).2⟩
theorem nU0 : ∀ w ∈ u_ws "LevelMachine$Instruction" nT0 5, w ∈ nTc := by
  intro w hw
  obtain ⟨k, hk, rfl⟩ := List.mem_map.mp hw
  have hk := List.mem_range.mp hk
  rcases (show k = 0 ∨ k = 1 ∨ k = 2 ∨ k = 3 ∨ k = 4 by omega) with rfl | rfl | rfl | rfl | rfl
  · exact nT 75 (by decide +kernel) rfl
  · exact nT 77 (by decide +kernel) rfl
  · exact nT 79 (by decide +kernel) rfl
  · exact nT 81 (by decide +kernel) rfl
  · exact nT 83 (by decide +kernel) rfl
theorem nU1 : ∀ w ∈ u_ws "LevelMachine$Memory" nT1 2, w ∈ nTc := by
  intro w hw
  obtain ⟨k, hk, rfl⟩ := List.mem_map.mp hw
  have hk := List.mem_range.mp hk
  rcases (show k = 0 ∨ k = 1 by omega) with rfl | rfl
  · exact nT 23 (by decide +kernel) rfl
  · exact nT 25 (by decide +kernel) rfl
theorem nU2 : ∀ w ∈ u_ws "LevelMachine$Segment" nT2 6, w ∈ nTc := by
  intro w hw
  obtain ⟨k, hk, rfl⟩ := List.mem_map.mp hw
  have hk := List.mem_range.mp hk
  rcases (show k = 0 ∨ k = 1 ∨ k = 2 ∨ k = 3 ∨ k = 4 ∨ k = 5 by omega) with rfl | rfl | rfl | rfl | rfl | rfl
  · exact nT 48 (by decide +kernel) rfl
  · exact nT 50 (by decide +kernel) rfl
  · exact nT 52 (by decide +kernel) rfl
  · exact nT 54 (by decide +kernel) rfl
  · exact nT 56 (by decide +kernel) rfl
  · exact nT 58 (by decide +kernel) rfl
theorem nU3 : ∀ w ∈ u_ws "LevelMachine" nT3 13, w ∈ nTc := by
  intro w hw
  obtain ⟨k, hk, rfl⟩ := List.mem_map.mp hw
  have hk := List.mem_range.mp hk
  rcases (show k = 0 ∨ k = 1 ∨ k = 2 ∨ k = 3 ∨ k = 4 ∨ k = 5 ∨ k = 6 ∨ k = 7 ∨ k = 8 ∨ k = 9 ∨ k = 10 ∨ k = 11 ∨ k = 12 by omega) with rfl | rfl | rfl | rfl | rfl | rfl | rfl | rfl | rfl | rfl | rfl | rfl | rfl
  · exact nT 99 (by decide +kernel) rfl
  · exact nT 101 (by decide +kernel) rfl
  · exact nT 103 (by decide +kernel) rfl
  · exact nT 105 (by decide +kernel) rfl
  · exact nT 107 (by decide +kernel) rfl
  · exact nT 109 (by decide +kernel) rfl
  · exact nT 111 (by decide +kernel) rfl
  · exact nT 113 (by decide +kernel) rfl
  · exact nT 115 (by decide +kernel) rfl
  · exact nT 117 (by decide +kernel) rfl
  · exact nT 119 (by decide +kernel) rfl
  · exact nT 121 (by decide +kernel) rfl
  · exact nT 123 (by decide +kernel) rfl
theorem nU4 : ∀ w ∈ u_ws "LevelMachineModel" nT4 17, w ∈ nTc := by
  intro w hw
  obtain ⟨k, hk, rfl⟩ := List.mem_map.mp hw
  have hk := List.mem_range.mp hk
  rcases (show k = 0 ∨ k = 1 ∨ k = 2 ∨ k = 3 ∨ k = 4 ∨ k = 5 ∨ k = 6 ∨ k = 7 ∨ k = 8 ∨ k = 9 ∨ k = 10 ∨ k = 11 ∨ k = 12 ∨ k = 13 ∨ k = 14 ∨ k = 15 ∨ k = 16 by omega) with rfl | rfl | rfl | rfl | rfl | rfl | rfl | rfl | rfl | rfl | rfl | rfl | rfl | rfl | rfl | rfl | rfl
  · exact nT 441 (by decide +kernel) rfl
  · exact nT 443 (by decide +kernel) rfl
  · exact nT 445 (by decide +kernel) rfl
  · exact nT 447 (by decide +kernel) rfl
  · exact nT 449 (by decide +kernel) rfl
  · exact nT 451 (by decide +kernel) rfl
  · exact nT 453 (by decide +kernel) rfl
  · exact nT 455 (by decide +kernel) rfl
  · exact nT 457 (by decide +kernel) rfl
  · exact nT 459 (by decide +kernel) rfl
  · exact nT 461 (by decide +kernel) rfl
  · exact nT 463 (by decide +kernel) rfl
  · exact nT 465 (by decide +kernel) rfl
  · exact nT 467 (by decide +kernel) rfl
  · exact nT 469 (by decide +kernel) rfl
  · exact nT 471 (by decide +kernel) rfl
  · exact nT 473 (by decide +kernel) rfl
def nMM : List ab_M := [(⟨"LevelMachine", "<init>", "()V"⟩, prog_1_method_1_code, 3, none),
  (⟨"LevelMachine", "poke", "(II)Z"⟩, prog_1_method_2_code, 3, some .boolean),
  (⟨"LevelMachine", "peek", "(I)I"⟩, prog_1_method_3_code, 2, some .int),
  (⟨"LevelMachine", "describe", "(IIIIIZ)Z"⟩, prog_1_method_4_code, 7, some .boolean),
  (⟨"LevelMachine", "set", "(II)Z"⟩, prog_1_method_5_code, 3, some .boolean),
  (⟨"LevelMachine", "force", "(II)Z"⟩, prog_1_method_6_code, 3, some .boolean),
  (⟨"LevelMachine", "step", "(I)I"⟩, prog_1_method_7_code, 4, some .int),
  (⟨"LevelMachine", "wake", "()Z"⟩, prog_1_method_8_code, 2, some .boolean),
  (⟨"LevelMachine", "state", "(I)I"⟩, prog_1_method_9_code, 2, some .int),
  (⟨"LevelMachine", "segment", "(II)I"⟩, prog_1_method_10_code, 3, some .int),
  (⟨"LevelMachine", "isWord", "(I)Z"⟩, prog_1_method_11_code, 1, some .boolean),
  (⟨"LevelMachine", "isCode", "(I)Z"⟩, prog_1_method_12_code, 1, some .boolean),
  (⟨"LevelMachine", "level", "()I"⟩, prog_1_method_13_code, 1, some .int),
  (⟨"LevelMachine", "keepAll", "()V"⟩, prog_1_method_14_code, 2, none),
  (⟨"LevelMachine", "takeAllBack", "()V"⟩, prog_1_method_15_code, 2, none),
  (⟨"LevelMachine", "fault", "(II)Z"⟩, prog_1_method_16_code, 3, some .boolean),
  (⟨"LevelMachine", "note", "(II)V"⟩, prog_1_method_17_code, 3, none),
  (⟨"LevelMachine", "deliver", "()Z"⟩, prog_1_method_18_code, 3, some .boolean),
  (⟨"LevelMachine", "read", "(LLevelMachine$Segment;I)I"⟩, prog_1_method_19_code, 4, some .int),
  (⟨"LevelMachine", "write", "(LLevelMachine$Segment;II)Z"⟩, prog_1_method_20_code, 5, some .boolean),
  (⟨"LevelMachine", "push", "(I)Z"⟩, prog_1_method_21_code, 2, some .boolean),
  (⟨"LevelMachine", "pop", "()I"⟩, prog_1_method_22_code, 2, some .int),
  (⟨"LevelMachine", "fetch", "()I"⟩, prog_1_method_23_code, 3, some .int),
  (⟨"LevelMachine", "decode", "()Z"⟩, prog_1_method_24_code, 3, some .boolean),
  (⟨"LevelMachine", "perform", "()Z"⟩, prog_1_method_25_code, 5, some .boolean),
  (⟨"LevelMachine", "stop", "()Z"⟩, prog_1_method_26_code, 1, some .boolean),
  (⟨"LevelMachine", "give", "(II)Z"⟩, prog_1_method_27_code, 3, some .boolean),
  (⟨"LevelMachine", "judge", "(I)I"⟩, prog_1_method_28_code, 4, some .int),
  (⟨"LevelMachine", "compare", "(II)Z"⟩, prog_1_method_29_code, 3, some .boolean),
  (⟨"LevelMachine", "isZero", "()Z"⟩, prog_1_method_30_code, 1, some .boolean),
  (⟨"LevelMachine", "go", "(IZ)Z"⟩, prog_1_method_31_code, 3, some .boolean),
  (⟨"LevelMachine", "adjust", "(II)Z"⟩, prog_1_method_32_code, 5, some .boolean),
  (⟨"LevelMachine", "loadData", "(LLevelMachine$Segment;I)Z"⟩, prog_1_method_33_code, 5, some .boolean),
  (⟨"LevelMachine", "loadStack", "(I)Z"⟩, prog_1_method_34_code, 3, some .boolean),
  (⟨"LevelMachine", "beginTask", "(I)Z"⟩, prog_1_method_35_code, 2, some .boolean),
  (⟨"LevelMachine", "mayEnter", "(III)Z"⟩, prog_1_method_36_code, 6, some .boolean),
  (⟨"LevelMachine", "enter", "(III)Z"⟩, prog_1_method_37_code, 4, some .boolean),
  (⟨"LevelMachine", "toCode", "(IIZ)Z"⟩, prog_1_method_38_code, 5, some .boolean),
  (⟨"LevelMachine", "throughGate", "(IZ)Z"⟩, prog_1_method_39_code, 6, some .boolean),
  (⟨"LevelMachine", "trap", "(IZ)Z"⟩, prog_1_method_40_code, 5, some .boolean),
  (⟨"LevelMachine", "enterDeep", "(IIIZ)Z"⟩, prog_1_method_41_code, 9, some .boolean),
  (⟨"LevelMachine", "takeInnerStack", "(I)Z"⟩, prog_1_method_42_code, 6, some .boolean),
  (⟨"LevelMachine", "carryOver", "(II)Z"⟩, prog_1_method_43_code, 5, some .boolean),
  (⟨"LevelMachine", "back", "()Z"⟩, prog_1_method_44_code, 2, some .boolean),
  (⟨"LevelMachine", "comeBack", "(IZ)Z"⟩, prog_1_method_45_code, 7, some .boolean),
  (⟨"LevelMachine", "comeOut", "(III)Z"⟩, prog_1_method_46_code, 6, some .boolean),
  (⟨"LevelMachine", "hide", "(LLevelMachine$Segment;)V"⟩, prog_1_method_47_code, 2, none),
  (⟨"LevelMachine", "switchTo", "(II)Z"⟩, prog_1_method_48_code, 5, some .boolean),
  (⟨"LevelMachine", "saveTask", "(I)V"⟩, prog_1_method_49_code, 4, none),
  (⟨"LevelMachine", "saveWord", "(II)V"⟩, prog_1_method_50_code, 4, none),
  (⟨"LevelMachine", "resumeTask", "(I)Z"⟩, prog_1_method_51_code, 5, some .boolean),
  (⟨"LevelMachineModel", "<init>", "()V"⟩, prog_6_method_1_code, 1, none),
  (⟨"LevelMachineModel", "in", "(III)Z"⟩, prog_6_method_2_code, 3, some .boolean),
  (⟨"LevelMachineModel", "copy", "([I[I)V"⟩, prog_6_method_3_code, 3, none),
  (⟨"LevelMachineModel", "remember", "()V"⟩, prog_6_method_4_code, 1, none),
  (⟨"LevelMachineModel", "putBack", "()V"⟩, prog_6_method_5_code, 1, none),
  (⟨"LevelMachineModel", "wrong", "(II)V"⟩, prog_6_method_6_code, 3, none),
  (⟨"LevelMachineModel", "need", "(ZII)V"⟩, prog_6_method_7_code, 4, none),
  (⟨"LevelMachineModel", "word", "(I)I"⟩, prog_6_method_8_code, 2, some .int),
  (⟨"LevelMachineModel", "store", "(II)V"⟩, prog_6_method_9_code, 3, none),
  (⟨"LevelMachineModel", "level", "()I"⟩, prog_6_method_10_code, 1, some .int),
  (⟨"LevelMachineModel", "isNone", "(I)Z"⟩, prog_6_method_11_code, 1, some .boolean),
  (⟨"LevelMachineModel", "isWrong", "(I)Z"⟩, prog_6_method_12_code, 1, some .boolean),
  (⟨"LevelMachineModel", "part", "(II)I"⟩, prog_6_method_13_code, 3, some .int),
  (⟨"LevelMachineModel", "kindOf", "(I)I"⟩, prog_6_method_14_code, 2, some .int),
  (⟨"LevelMachineModel", "rankOf", "(I)I"⟩, prog_6_method_15_code, 2, some .int),
  (⟨"LevelMachineModel", "isThere", "(I)Z"⟩, prog_6_method_16_code, 2, some .boolean),
  (⟨"LevelMachineModel", "isCode", "(I)Z"⟩, prog_6_method_17_code, 2, some .boolean),
  (⟨"LevelMachineModel", "setKind", "(II)V"⟩, prog_6_method_18_code, 4, none),
  (⟨"LevelMachineModel", "load", "(II)V"⟩, prog_6_method_19_code, 3, none),
  (⟨"LevelMachineModel", "unload", "(I)V"⟩, prog_6_method_20_code, 3, none),
  (⟨"LevelMachineModel", "reaches", "(IIZ)Z"⟩, prog_6_method_21_code, 6, some .boolean),
  (⟨"LevelMachineModel", "read", "(II)I"⟩, prog_6_method_22_code, 3, some .int),
  (⟨"LevelMachineModel", "write", "(III)V"⟩, prog_6_method_23_code, 4, none),
  (⟨"LevelMachineModel", "push", "(I)V"⟩, prog_6_method_24_code, 2, none),
  (⟨"LevelMachineModel", "pop", "()I"⟩, prog_6_method_25_code, 2, some .int),
  (⟨"LevelMachineModel", "fetch", "()I"⟩, prog_6_method_26_code, 2, some .int),
  (⟨"LevelMachineModel", "loadData", "(II)V"⟩, prog_6_method_27_code, 4, none),
  (⟨"LevelMachineModel", "loadStack", "(I)V"⟩, prog_6_method_28_code, 2, none),
  (⟨"LevelMachineModel", "canEnter", "(III)Z"⟩, prog_6_method_29_code, 4, some .boolean),
  (⟨"LevelMachineModel", "enter", "(III)V"⟩, prog_6_method_30_code, 4, none),
  (⟨"LevelMachineModel", "pushPlace", "(Z)V"⟩, prog_6_method_31_code, 2, none),
  (⟨"LevelMachineModel", "deepEntry", "(IIIZ)V"⟩, prog_6_method_32_code, 9, none),
  (⟨"LevelMachineModel", "changeStack", "(I)V"⟩, prog_6_method_33_code, 4, none),
  (⟨"LevelMachineModel", "ofOldStack", "(I)I"⟩, prog_6_method_34_code, 2, some .int),
  (⟨"LevelMachineModel", "transfer", "(IIZ)V"⟩, prog_6_method_35_code, 5, none),
  (⟨"LevelMachineModel", "comeBack", "(III)V"⟩, prog_6_method_36_code, 8, none),
  (⟨"LevelMachineModel", "trap", "(IZ)V"⟩, prog_6_method_37_code, 5, none),
  (⟨"LevelMachineModel", "switchTo", "(II)V"⟩, prog_6_method_38_code, 7, none),
  (⟨"LevelMachineModel", "begin", "(II)V"⟩, prog_6_method_39_code, 8, none),
  (⟨"LevelMachineModel", "reckon", "(IIZ)V"⟩, prog_6_method_40_code, 5, none),
  (⟨"LevelMachineModel", "isRight", "(III)Z"⟩, prog_6_method_41_code, 5, some .boolean),
  (⟨"LevelMachineModel", "execute", "()V"⟩, prog_6_method_42_code, 5, none),
  (⟨"LevelMachineModel", "simple", "(III)V"⟩, prog_6_method_43_code, 4, none),
  (⟨"LevelMachineModel", "move", "(III)V"⟩, prog_6_method_44_code, 8, none),
  (⟨"LevelMachineModel", "protect", "(III)V"⟩, prog_6_method_45_code, 8, none),
  (⟨"LevelMachineModel", "back", "()V"⟩, prog_6_method_46_code, 3, none),
  (⟨"LevelMachineModel", "take", "(I)V"⟩, prog_6_method_47_code, 2, none),
  (⟨"LevelMachineModel", "delivers", "(II)Z"⟩, prog_6_method_48_code, 4, some .boolean),
  (⟨"LevelMachineModel", "note", "(II)V"⟩, prog_6_method_49_code, 3, none),
  (⟨"LevelMachineModel", "goesOn", "()Z"⟩, prog_6_method_50_code, 1, some .boolean),
  (⟨"LevelMachineModel", "step", "(I)I"⟩, prog_6_method_51_code, 4, some .int),
  (⟨"LevelMachineModel", "wake", "()Z"⟩, prog_6_method_52_code, 2, some .boolean),
  (⟨"LevelMachineModel", "poke", "(II)Z"⟩, prog_6_method_53_code, 3, some .boolean),
  (⟨"LevelMachineModel", "peek", "(I)I"⟩, prog_6_method_54_code, 2, some .int),
  (⟨"LevelMachineModel", "describe", "(IIIIIZ)Z"⟩, prog_6_method_55_code, 7, some .boolean),
  (⟨"LevelMachineModel", "set", "(II)Z"⟩, prog_6_method_56_code, 3, some .boolean),
  (⟨"LevelMachineModel", "force", "(II)Z"⟩, prog_6_method_57_code, 3, some .boolean),
  (⟨"LevelMachineModel", "state", "(I)I"⟩, prog_6_method_58_code, 2, some .int),
  (⟨"LevelMachineModel", "segment", "(II)I"⟩, prog_6_method_59_code, 3, some .int),
  (⟨"LevelMachine$Instruction", "<init>", "()V"⟩, prog_2_method_1_code, 1, none),
  (⟨"LevelMachine$Instruction", "split", "(I)V"⟩, prog_2_method_2_code, 2, none),
  (⟨"LevelMachine$Instruction", "isProper", "()Z"⟩, prog_2_method_3_code, 1, some .boolean),
  (⟨"LevelMachine$Instruction", "tail", "()I"⟩, prog_2_method_4_code, 1, some .int),
  (⟨"LevelMachine$Memory", "<init>", "()V"⟩, prog_3_method_1_code, 1, none),
  (⟨"LevelMachine$Memory", "round", "(I)I"⟩, prog_3_method_2_code, 1, some .int),
  (⟨"LevelMachine$Memory", "holds", "(I)Z"⟩, prog_3_method_3_code, 1, some .boolean),
  (⟨"LevelMachine$Memory", "at", "(I)I"⟩, prog_3_method_4_code, 3, some .int),
  (⟨"LevelMachine$Memory", "put", "(II)V"⟩, prog_3_method_5_code, 4, none),
  (⟨"LevelMachine$Memory", "keep", "()V"⟩, prog_3_method_6_code, 1, none),
  (⟨"LevelMachine$Memory", "takeBack", "()V"⟩, prog_3_method_7_code, 1, none),
  (⟨"LevelMachine$Memory", "kindOf", "(I)I"⟩, prog_3_method_8_code, 2, some .int),
  (⟨"LevelMachine$Memory", "first", "(I)I"⟩, prog_3_method_9_code, 2, some .int),
  (⟨"LevelMachine$Memory", "second", "(I)I"⟩, prog_3_method_10_code, 2, some .int),
  (⟨"LevelMachine$Memory", "kind", "(I)I"⟩, prog_3_method_11_code, 2, some .int),
  (⟨"LevelMachine$Memory", "rank", "(I)I"⟩, prog_3_method_12_code, 2, some .int),
  (⟨"LevelMachine$Memory", "isThere", "(I)Z"⟩, prog_3_method_13_code, 2, some .boolean),
  (⟨"LevelMachine$Memory", "count", "(I)I"⟩, prog_3_method_14_code, 2, some .int),
  (⟨"LevelMachine$Memory", "turn", "(II)V"⟩, prog_3_method_15_code, 4, none),
  (⟨"LevelMachine$Segment", "<init>", "(I)V"⟩, prog_4_method_1_code, 2, none),
  (⟨"LevelMachine$Segment", "clear", "()V"⟩, prog_4_method_2_code, 1, none),
  (⟨"LevelMachine$Segment", "load", "(LLevelMachine$Memory;I)V"⟩, prog_4_method_3_code, 3, none),
  (⟨"LevelMachine$Segment", "copy", "(LLevelMachine$Segment;)V"⟩, prog_4_method_4_code, 2, none)]
def nmm (k : Nat) : ab_M := nMM.getD k (⟨"", "", ""⟩, ⟨#[]⟩, 0, none)
end
section
theorem tw1 : (Jvm.Cond.initialized "LevelMachine") ∈ nTc := nT 1 (by decide +kernel) rfl
theorem tw2 : (Jvm.Cond.initialized "LevelMachine$Memory") ∈ nTc := nT 2 (by decide +kernel) rfl
theorem tw3 : (Jvm.Cond.initialized "LevelMachine$Segment") ∈ nTc := nT 3 (by decide +kernel) rfl
theorem tw4 : (Jvm.Cond.initialized "LevelMachine$Instruction") ∈ nTc := nT 4 (by decide +kernel) rfl
theorem tw5 : (Jvm.Cond.initialized "LevelMachineModel") ∈ nTc := nT 5 (by decide +kernel) rfl
theorem tw6 : (Jvm.Cond.initialized "java/lang/System") ∈ nTc := nT 6 (by decide +kernel) rfl
theorem tw7 : (Jvm.Cond.classLink "LevelMachineLaw" (7 : Nat) "LevelMachine") ∈ nTc := nT 7 (by decide +kernel) rfl
theorem tw8 : (Jvm.Cond.instantiable "LevelMachine" (13 : Nat)) ∈ nTc := nT 8 (by decide +kernel) rfl
theorem tw9 : (Jvm.Cond.methodLink "LevelMachineLaw" (9 : Nat) ({ cls := "LevelMachine", name := "<init>", desc := "()V" } : Jvm.MethodName)) ∈ nTc := nT 9 (by decide +kernel) rfl
theorem tw10 : (Jvm.Cond.instanceMethod ({ cls := "LevelMachine", name := "<init>", desc := "()V" } : Jvm.MethodName)) ∈ nTc := nT 10 (by decide +kernel) rfl
theorem tw11 : (Jvm.Cond.code ({ cls := "LevelMachine", name := "<init>", desc := "()V" } : Jvm.MethodName) prog_1_method_1_code (3 : Nat) (Option.none : Option Jvm.ClassFile.FieldType)) ∈ nTc := nT 11 (by decide +kernel) rfl
theorem tw12 : (Jvm.Cond.methodLink "LevelMachine" (1 : Nat) ({ cls := "java/lang/Object", name := "<init>", desc := "()V" } : Jvm.MethodName)) ∈ nTc := nT 12 (by decide +kernel) rfl
theorem tw13 : (Jvm.Cond.instanceMethod ({ cls := "java/lang/Object", name := "<init>", desc := "()V" } : Jvm.MethodName)) ∈ nTc := nT 13 (by decide +kernel) rfl
theorem tw14 : (Jvm.Cond.code ({ cls := "java/lang/Object", name := "<init>", desc := "()V" } : Jvm.MethodName) object_method_1_code (1 : Nat) (Option.none : Option Jvm.ClassFile.FieldType)) ∈ nTc := nT 14 (by decide +kernel) rfl
theorem tw15 : (Jvm.Cond.classLink "LevelMachine" (7 : Nat) "LevelMachine$Memory") ∈ nTc := nT 15 (by decide +kernel) rfl
theorem tw16 : (Jvm.Cond.instantiable "LevelMachine$Memory" (2 : Nat)) ∈ nTc := nT 16 (by decide +kernel) rfl
theorem tw17 : (Jvm.Cond.methodLink "LevelMachine" (9 : Nat) ({ cls := "LevelMachine$Memory", name := "<init>", desc := "()V" } : Jvm.MethodName)) ∈ nTc := nT 17 (by decide +kernel) rfl
theorem tw18 : (Jvm.Cond.instanceMethod ({ cls := "LevelMachine$Memory", name := "<init>", desc := "()V" } : Jvm.MethodName)) ∈ nTc := nT 18 (by decide +kernel) rfl
theorem tw19 : (Jvm.Cond.code ({ cls := "LevelMachine$Memory", name := "<init>", desc := "()V" } : Jvm.MethodName) prog_3_method_1_code (1 : Nat) (Option.none : Option Jvm.ClassFile.FieldType)) ∈ nTc := nT 19 (by decide +kernel) rfl
theorem tw20 : (Jvm.Cond.methodLink "LevelMachine$Memory" (3 : Nat) ({ cls := "java/lang/Object", name := "<init>", desc := "()V" } : Jvm.MethodName)) ∈ nTc := nT 20 (by decide +kernel) rfl
theorem tw21 : (Jvm.Cond.fieldLink "LevelMachine$Memory" (11 : Nat) "LevelMachine$Memory" "words" "[I") ∈ nTc := nT 21 (by decide +kernel) rfl
theorem tw22 : (Jvm.Cond.fieldLink "LevelMachine$Memory" (15 : Nat) "LevelMachine$Memory" "before" "[I") ∈ nTc := nT 22 (by decide +kernel) rfl
theorem tw28 : (Jvm.Cond.arrayClass Jvm.ClassFile.FieldType.int) ∈ nTc := nT 28 (by decide +kernel) rfl
theorem tw29 : (Jvm.Cond.classLink "LevelMachine" (23 : Nat) "LevelMachine$Segment") ∈ nTc := nT 29 (by decide +kernel) rfl
theorem tw31 : (Jvm.Cond.instantiable "LevelMachine$Segment" (6 : Nat)) ∈ nTc := nT 31 (by decide +kernel) rfl
theorem tw32 : (Jvm.Cond.methodLink "LevelMachine" (32 : Nat) ({ cls := "LevelMachine$Segment", name := "<init>", desc := "(I)V" } : Jvm.MethodName)) ∈ nTc := nT 32 (by decide +kernel) rfl
theorem tw33 : (Jvm.Cond.instanceMethod ({ cls := "LevelMachine$Segment", name := "<init>", desc := "(I)V" } : Jvm.MethodName)) ∈ nTc := nT 33 (by decide +kernel) rfl
theorem tw34 : (Jvm.Cond.code ({ cls := "LevelMachine$Segment", name := "<init>", desc := "(I)V" } : Jvm.MethodName) prog_4_method_1_code (2 : Nat) (Option.none : Option Jvm.ClassFile.FieldType)) ∈ nTc := nT 34 (by decide +kernel) rfl
theorem tw35 : (Jvm.Cond.methodLink "LevelMachine$Segment" (3 : Nat) ({ cls := "java/lang/Object", name := "<init>", desc := "()V" } : Jvm.MethodName)) ∈ nTc := nT 35 (by decide +kernel) rfl
theorem tw36 : (Jvm.Cond.fieldLink "LevelMachine$Segment" (9 : Nat) "LevelMachine$Segment" "beyond" "I") ∈ nTc := nT 36 (by decide +kernel) rfl
theorem tw38 : (Jvm.Cond.fieldLink "LevelMachine$Segment" (15 : Nat) "LevelMachine$Segment" "selector" "I") ∈ nTc := nT 38 (by decide +kernel) rfl
theorem tw40 : (Jvm.Cond.fieldLink "LevelMachine$Segment" (18 : Nat) "LevelMachine$Segment" "base" "I") ∈ nTc := nT 40 (by decide +kernel) rfl
theorem tw42 : (Jvm.Cond.fieldLink "LevelMachine$Segment" (21 : Nat) "LevelMachine$Segment" "limit" "I") ∈ nTc := nT 42 (by decide +kernel) rfl
theorem tw44 : (Jvm.Cond.fieldLink "LevelMachine$Segment" (24 : Nat) "LevelMachine$Segment" "kind" "I") ∈ nTc := nT 44 (by decide +kernel) rfl
theorem tw46 : (Jvm.Cond.fieldLink "LevelMachine$Segment" (27 : Nat) "LevelMachine$Segment" "rank" "I") ∈ nTc := nT 46 (by decide +kernel) rfl
theorem tw61 : (Jvm.Cond.classLink "LevelMachine" (39 : Nat) "LevelMachine$Instruction") ∈ nTc := nT 61 (by decide +kernel) rfl
theorem tw62 : (Jvm.Cond.instantiable "LevelMachine$Instruction" (5 : Nat)) ∈ nTc := nT 62 (by decide +kernel) rfl
theorem tw64 : (Jvm.Cond.instanceMethod ({ cls := "LevelMachine$Instruction", name := "<init>", desc := "()V" } : Jvm.MethodName)) ∈ nTc := nT 64 (by decide +kernel) rfl
theorem tw65 : (Jvm.Cond.code ({ cls := "LevelMachine$Instruction", name := "<init>", desc := "()V" } : Jvm.MethodName) prog_2_method_1_code (1 : Nat) (Option.none : Option Jvm.ClassFile.FieldType)) ∈ nTc := nT 65 (by decide +kernel) rfl
theorem tw66 : (Jvm.Cond.methodLink "LevelMachine$Instruction" (3 : Nat) ({ cls := "java/lang/Object", name := "<init>", desc := "()V" } : Jvm.MethodName)) ∈ nTc := nT 66 (by decide +kernel) rfl
theorem tw67 : (Jvm.Cond.fieldLink "LevelMachine$Instruction" (9 : Nat) "LevelMachine$Instruction" "operation" "I") ∈ nTc := nT 67 (by decide +kernel) rfl
theorem tw69 : (Jvm.Cond.fieldLink "LevelMachine$Instruction" (15 : Nat) "LevelMachine$Instruction" "\x72" "I") ∈ nTc := nT 69 (by decide +kernel) rfl
theorem tw71 : (Jvm.Cond.fieldLink "LevelMachine$Instruction" (18 : Nat) "LevelMachine$Instruction" "q" "I") ∈ nTc := nT 71 (by decide +kernel) rfl
theorem tw86 : (Jvm.Cond.fieldLink "LevelMachine" (10 : Nat) "LevelMachine" "memory" "LLevelMachine$Memory;") ∈ nTc := nT 86 (by decide +kernel) rfl
theorem tw87 : (Jvm.Cond.fieldLink "LevelMachine" (16 : Nat) "LevelMachine" "registers" "[I") ∈ nTc := nT 87 (by decide +kernel) rfl
theorem tw88 : (Jvm.Cond.fieldLink "LevelMachine" (20 : Nat) "LevelMachine" "registersBefore" "[I") ∈ nTc := nT 88 (by decide +kernel) rfl
theorem tw89 : (Jvm.Cond.fieldLink "LevelMachine" (25 : Nat) "LevelMachine" "segments" "[LLevelMachine$Segment;") ∈ nTc := nT 89 (by decide +kernel) rfl
theorem tw90 : (Jvm.Cond.fieldLink "LevelMachine" (29 : Nat) "LevelMachine" "segmentsBefore" "[LLevelMachine$Segment;") ∈ nTc := nT 90 (by decide +kernel) rfl
theorem tw91 : (Jvm.Cond.fieldLink "LevelMachine" (35 : Nat) "LevelMachine" "outerStack" "LLevelMachine$Segment;") ∈ nTc := nT 91 (by decide +kernel) rfl
theorem tw92 : (Jvm.Cond.fieldLink "LevelMachine" (42 : Nat) "LevelMachine" "now" "LLevelMachine$Instruction;") ∈ nTc := nT 92 (by decide +kernel) rfl
theorem tw93 : (Jvm.Cond.fieldLink "LevelMachine" (71 : Nat) "LevelMachine" "halt" "I") ∈ nTc := nT 93 (by decide +kernel) rfl
theorem tw94 : (Jvm.Cond.fieldLink "LevelMachine" (130 : Nat) "LevelMachine" "raisedNumber" "I") ∈ nTc := nT 94 (by decide +kernel) rfl
theorem tw95 : (Jvm.Cond.fieldLink "LevelMachine" (134 : Nat) "LevelMachine" "raisedCode" "I") ∈ nTc := nT 95 (by decide +kernel) rfl
theorem tw96 : (Jvm.Cond.fieldLink "LevelMachine" (89 : Nat) "LevelMachine" "latestNumber" "I") ∈ nTc := nT 96 (by decide +kernel) rfl
theorem tw97 : (Jvm.Cond.fieldLink "LevelMachine" (92 : Nat) "LevelMachine" "latestCode" "I") ∈ nTc := nT 97 (by decide +kernel) rfl
theorem tw98 : (Jvm.Cond.fieldLink "LevelMachine" (95 : Nat) "LevelMachine" "faults" "I") ∈ nTc := nT 98 (by decide +kernel) rfl
theorem tw126 : (Jvm.Cond.methodLink "LevelMachineLaw" (13 : Nat) ({ cls := "LevelMachine", name := "poke", desc := "(II)Z" } : Jvm.MethodName)) ∈ nTc := nT 126 (by decide +kernel) rfl
theorem tw127 : (Jvm.Cond.instanceMethod ({ cls := "LevelMachine", name := "poke", desc := "(II)Z" } : Jvm.MethodName)) ∈ nTc := nT 127 (by decide +kernel) rfl
theorem tw128 : (Jvm.Cond.selects "LevelMachine" ({ cls := "LevelMachine", name := "poke", desc := "(II)Z" } : Jvm.MethodName) ({ cls := "LevelMachine", name := "poke", desc := "(II)Z" } : Jvm.MethodName)) ∈ nTc := nT 128 (by decide +kernel) rfl
theorem tw129 : (Jvm.Cond.code ({ cls := "LevelMachine", name := "poke", desc := "(II)Z" } : Jvm.MethodName) prog_1_method_2_code (3 : Nat) (Option.some Jvm.ClassFile.FieldType.boolean)) ∈ nTc := nT 129 (by decide +kernel) rfl
theorem tw130 : (Jvm.Cond.methodLink "LevelMachine" (46 : Nat) ({ cls := "LevelMachine$Memory", name := "holds", desc := "(I)Z" } : Jvm.MethodName)) ∈ nTc := nT 130 (by decide +kernel) rfl
theorem tw131 : (Jvm.Cond.static ({ cls := "LevelMachine$Memory", name := "holds", desc := "(I)Z" } : Jvm.MethodName)) ∈ nTc := nT 131 (by decide +kernel) rfl
theorem tw132 : (Jvm.Cond.code ({ cls := "LevelMachine$Memory", name := "holds", desc := "(I)Z" } : Jvm.MethodName) prog_3_method_3_code (1 : Nat) (Option.some Jvm.ClassFile.FieldType.boolean)) ∈ nTc := nT 132 (by decide +kernel) rfl
theorem tw133 : (Jvm.Cond.methodLink "LevelMachine" (50 : Nat) ({ cls := "LevelMachine", name := "isWord", desc := "(I)Z" } : Jvm.MethodName)) ∈ nTc := nT 133 (by decide +kernel) rfl
theorem tw134 : (Jvm.Cond.static ({ cls := "LevelMachine", name := "isWord", desc := "(I)Z" } : Jvm.MethodName)) ∈ nTc := nT 134 (by decide +kernel) rfl
theorem tw135 : (Jvm.Cond.code ({ cls := "LevelMachine", name := "isWord", desc := "(I)Z" } : Jvm.MethodName) prog_1_method_11_code (1 : Nat) (Option.some Jvm.ClassFile.FieldType.boolean)) ∈ nTc := nT 135 (by decide +kernel) rfl
theorem tw136 : (Jvm.Cond.constant "LevelMachine" (113 : Nat) (65535 : Int32)) ∈ nTc := nT 136 (by decide +kernel) rfl
theorem tw137 : (Jvm.Cond.methodLink "LevelMachine" (53 : Nat) ({ cls := "LevelMachine$Memory", name := "put", desc := "(II)V" } : Jvm.MethodName)) ∈ nTc := nT 137 (by decide +kernel) rfl
theorem tw138 : (Jvm.Cond.instanceMethod ({ cls := "LevelMachine$Memory", name := "put", desc := "(II)V" } : Jvm.MethodName)) ∈ nTc := nT 138 (by decide +kernel) rfl
theorem tw139 : (Jvm.Cond.selects "LevelMachine$Memory" ({ cls := "LevelMachine$Memory", name := "put", desc := "(II)V" } : Jvm.MethodName) ({ cls := "LevelMachine$Memory", name := "put", desc := "(II)V" } : Jvm.MethodName)) ∈ nTc := nT 139 (by decide +kernel) rfl
theorem tw140 : (Jvm.Cond.code ({ cls := "LevelMachine$Memory", name := "put", desc := "(II)V" } : Jvm.MethodName) prog_3_method_5_code (4 : Nat) (Option.none : Option Jvm.ClassFile.FieldType)) ∈ nTc := nT 140 (by decide +kernel) rfl
theorem tw141 : (Jvm.Cond.constant "LevelMachine$Memory" (18 : Nat) (65535 : Int32)) ∈ nTc := nT 141 (by decide +kernel) rfl
theorem tw142 : (Jvm.Cond.methodLink "LevelMachineLaw" (18 : Nat) ({ cls := "LevelMachine", name := "peek", desc := "(I)I" } : Jvm.MethodName)) ∈ nTc := nT 142 (by decide +kernel) rfl
theorem tw143 : (Jvm.Cond.instanceMethod ({ cls := "LevelMachine", name := "peek", desc := "(I)I" } : Jvm.MethodName)) ∈ nTc := nT 143 (by decide +kernel) rfl
theorem tw144 : (Jvm.Cond.selects "LevelMachine" ({ cls := "LevelMachine", name := "peek", desc := "(I)I" } : Jvm.MethodName) ({ cls := "LevelMachine", name := "peek", desc := "(I)I" } : Jvm.MethodName)) ∈ nTc := nT 144 (by decide +kernel) rfl
theorem tw145 : (Jvm.Cond.code ({ cls := "LevelMachine", name := "peek", desc := "(I)I" } : Jvm.MethodName) prog_1_method_3_code (2 : Nat) (Option.some Jvm.ClassFile.FieldType.int)) ∈ nTc := nT 145 (by decide +kernel) rfl
theorem tw146 : (Jvm.Cond.methodLink "LevelMachine" (57 : Nat) ({ cls := "LevelMachine$Memory", name := "at", desc := "(I)I" } : Jvm.MethodName)) ∈ nTc := nT 146 (by decide +kernel) rfl
theorem tw147 : (Jvm.Cond.instanceMethod ({ cls := "LevelMachine$Memory", name := "at", desc := "(I)I" } : Jvm.MethodName)) ∈ nTc := nT 147 (by decide +kernel) rfl
theorem tw148 : (Jvm.Cond.selects "LevelMachine$Memory" ({ cls := "LevelMachine$Memory", name := "at", desc := "(I)I" } : Jvm.MethodName) ({ cls := "LevelMachine$Memory", name := "at", desc := "(I)I" } : Jvm.MethodName)) ∈ nTc := nT 148 (by decide +kernel) rfl
theorem tw149 : (Jvm.Cond.code ({ cls := "LevelMachine$Memory", name := "at", desc := "(I)I" } : Jvm.MethodName) prog_3_method_4_code (3 : Nat) (Option.some Jvm.ClassFile.FieldType.int)) ∈ nTc := nT 149 (by decide +kernel) rfl
theorem tw150 : (Jvm.Cond.methodLink "LevelMachineLaw" (23 : Nat) ({ cls := "LevelMachine", name := "describe", desc := "(IIIIIZ)Z" } : Jvm.MethodName)) ∈ nTc := nT 150 (by decide +kernel) rfl
theorem tw151 : (Jvm.Cond.instanceMethod ({ cls := "LevelMachine", name := "describe", desc := "(IIIIIZ)Z" } : Jvm.MethodName)) ∈ nTc := nT 151 (by decide +kernel) rfl
theorem tw152 : (Jvm.Cond.selects "LevelMachine" ({ cls := "LevelMachine", name := "describe", desc := "(IIIIIZ)Z" } : Jvm.MethodName) ({ cls := "LevelMachine", name := "describe", desc := "(IIIIIZ)Z" } : Jvm.MethodName)) ∈ nTc := nT 152 (by decide +kernel) rfl
theorem tw153 : (Jvm.Cond.code ({ cls := "LevelMachine", name := "describe", desc := "(IIIIIZ)Z" } : Jvm.MethodName) prog_1_method_4_code (7 : Nat) (Option.some Jvm.ClassFile.FieldType.boolean)) ∈ nTc := nT 153 (by decide +kernel) rfl
theorem tw154 : (Jvm.Cond.methodLink "LevelMachineLaw" (28 : Nat) ({ cls := "LevelMachine", name := "set", desc := "(II)Z" } : Jvm.MethodName)) ∈ nTc := nT 154 (by decide +kernel) rfl
theorem tw155 : (Jvm.Cond.instanceMethod ({ cls := "LevelMachine", name := "set", desc := "(II)Z" } : Jvm.MethodName)) ∈ nTc := nT 155 (by decide +kernel) rfl
theorem tw156 : (Jvm.Cond.selects "LevelMachine" ({ cls := "LevelMachine", name := "set", desc := "(II)Z" } : Jvm.MethodName) ({ cls := "LevelMachine", name := "set", desc := "(II)Z" } : Jvm.MethodName)) ∈ nTc := nT 156 (by decide +kernel) rfl
theorem tw157 : (Jvm.Cond.code ({ cls := "LevelMachine", name := "set", desc := "(II)Z" } : Jvm.MethodName) prog_1_method_5_code (3 : Nat) (Option.some Jvm.ClassFile.FieldType.boolean)) ∈ nTc := nT 157 (by decide +kernel) rfl
theorem tw158 : (Jvm.Cond.methodLink "LevelMachineLaw" (32 : Nat) ({ cls := "LevelMachine", name := "force", desc := "(II)Z" } : Jvm.MethodName)) ∈ nTc := nT 158 (by decide +kernel) rfl
theorem tw159 : (Jvm.Cond.instanceMethod ({ cls := "LevelMachine", name := "force", desc := "(II)Z" } : Jvm.MethodName)) ∈ nTc := nT 159 (by decide +kernel) rfl
theorem tw160 : (Jvm.Cond.selects "LevelMachine" ({ cls := "LevelMachine", name := "force", desc := "(II)Z" } : Jvm.MethodName) ({ cls := "LevelMachine", name := "force", desc := "(II)Z" } : Jvm.MethodName)) ∈ nTc := nT 160 (by decide +kernel) rfl
theorem tw161 : (Jvm.Cond.code ({ cls := "LevelMachine", name := "force", desc := "(II)Z" } : Jvm.MethodName) prog_1_method_6_code (3 : Nat) (Option.some Jvm.ClassFile.FieldType.boolean)) ∈ nTc := nT 161 (by decide +kernel) rfl
theorem tw162 : (Jvm.Cond.methodLink "LevelMachine" (61 : Nat) ({ cls := "LevelMachine$Memory", name := "kindOf", desc := "(I)I" } : Jvm.MethodName)) ∈ nTc := nT 162 (by decide +kernel) rfl
theorem tw163 : (Jvm.Cond.instanceMethod ({ cls := "LevelMachine$Memory", name := "kindOf", desc := "(I)I" } : Jvm.MethodName)) ∈ nTc := nT 163 (by decide +kernel) rfl
theorem tw164 : (Jvm.Cond.selects "LevelMachine$Memory" ({ cls := "LevelMachine$Memory", name := "kindOf", desc := "(I)I" } : Jvm.MethodName) ({ cls := "LevelMachine$Memory", name := "kindOf", desc := "(I)I" } : Jvm.MethodName)) ∈ nTc := nT 164 (by decide +kernel) rfl
theorem tw165 : (Jvm.Cond.code ({ cls := "LevelMachine$Memory", name := "kindOf", desc := "(I)I" } : Jvm.MethodName) prog_3_method_8_code (2 : Nat) (Option.some Jvm.ClassFile.FieldType.int)) ∈ nTc := nT 165 (by decide +kernel) rfl
theorem tw166 : (Jvm.Cond.methodLink "LevelMachine" (64 : Nat) ({ cls := "LevelMachine$Segment", name := "clear", desc := "()V" } : Jvm.MethodName)) ∈ nTc := nT 166 (by decide +kernel) rfl
theorem tw167 : (Jvm.Cond.instanceMethod ({ cls := "LevelMachine$Segment", name := "clear", desc := "()V" } : Jvm.MethodName)) ∈ nTc := nT 167 (by decide +kernel) rfl
theorem tw168 : (Jvm.Cond.selects "LevelMachine$Segment" ({ cls := "LevelMachine$Segment", name := "clear", desc := "()V" } : Jvm.MethodName) ({ cls := "LevelMachine$Segment", name := "clear", desc := "()V" } : Jvm.MethodName)) ∈ nTc := nT 168 (by decide +kernel) rfl
theorem tw169 : (Jvm.Cond.code ({ cls := "LevelMachine$Segment", name := "clear", desc := "()V" } : Jvm.MethodName) prog_4_method_2_code (1 : Nat) (Option.none : Option Jvm.ClassFile.FieldType)) ∈ nTc := nT 169 (by decide +kernel) rfl
theorem tw170 : (Jvm.Cond.methodLink "LevelMachine" (67 : Nat) ({ cls := "LevelMachine$Segment", name := "load", desc := "(LLevelMachine$Memory;I)V" } : Jvm.MethodName)) ∈ nTc := nT 170 (by decide +kernel) rfl
theorem tw171 : (Jvm.Cond.instanceMethod ({ cls := "LevelMachine$Segment", name := "load", desc := "(LLevelMachine$Memory;I)V" } : Jvm.MethodName)) ∈ nTc := nT 171 (by decide +kernel) rfl
theorem tw172 : (Jvm.Cond.selects "LevelMachine$Segment" ({ cls := "LevelMachine$Segment", name := "load", desc := "(LLevelMachine$Memory;I)V" } : Jvm.MethodName) ({ cls := "LevelMachine$Segment", name := "load", desc := "(LLevelMachine$Memory;I)V" } : Jvm.MethodName)) ∈ nTc := nT 172 (by decide +kernel) rfl
theorem tw173 : (Jvm.Cond.code ({ cls := "LevelMachine$Segment", name := "load", desc := "(LLevelMachine$Memory;I)V" } : Jvm.MethodName) prog_4_method_3_code (3 : Nat) (Option.none : Option Jvm.ClassFile.FieldType)) ∈ nTc := nT 173 (by decide +kernel) rfl
theorem tw174 : (Jvm.Cond.methodLink "LevelMachine$Segment" (30 : Nat) ({ cls := "LevelMachine$Memory", name := "first", desc := "(I)I" } : Jvm.MethodName)) ∈ nTc := nT 174 (by decide +kernel) rfl
theorem tw175 : (Jvm.Cond.instanceMethod ({ cls := "LevelMachine$Memory", name := "first", desc := "(I)I" } : Jvm.MethodName)) ∈ nTc := nT 175 (by decide +kernel) rfl
theorem tw176 : (Jvm.Cond.selects "LevelMachine$Memory" ({ cls := "LevelMachine$Memory", name := "first", desc := "(I)I" } : Jvm.MethodName) ({ cls := "LevelMachine$Memory", name := "first", desc := "(I)I" } : Jvm.MethodName)) ∈ nTc := nT 176 (by decide +kernel) rfl
theorem tw177 : (Jvm.Cond.code ({ cls := "LevelMachine$Memory", name := "first", desc := "(I)I" } : Jvm.MethodName) prog_3_method_9_code (2 : Nat) (Option.some Jvm.ClassFile.FieldType.int)) ∈ nTc := nT 177 (by decide +kernel) rfl
theorem tw178 : (Jvm.Cond.methodLink "LevelMachine$Segment" (36 : Nat) ({ cls := "LevelMachine$Memory", name := "second", desc := "(I)I" } : Jvm.MethodName)) ∈ nTc := nT 178 (by decide +kernel) rfl
theorem tw179 : (Jvm.Cond.instanceMethod ({ cls := "LevelMachine$Memory", name := "second", desc := "(I)I" } : Jvm.MethodName)) ∈ nTc := nT 179 (by decide +kernel) rfl
theorem tw180 : (Jvm.Cond.selects "LevelMachine$Memory" ({ cls := "LevelMachine$Memory", name := "second", desc := "(I)I" } : Jvm.MethodName) ({ cls := "LevelMachine$Memory", name := "second", desc := "(I)I" } : Jvm.MethodName)) ∈ nTc := nT 180 (by decide +kernel) rfl
theorem tw181 : (Jvm.Cond.code ({ cls := "LevelMachine$Memory", name := "second", desc := "(I)I" } : Jvm.MethodName) prog_3_method_10_code (2 : Nat) (Option.some Jvm.ClassFile.FieldType.int)) ∈ nTc := nT 181 (by decide +kernel) rfl
theorem tw182 : (Jvm.Cond.methodLink "LevelMachine$Segment" (39 : Nat) ({ cls := "LevelMachine$Memory", name := "kind", desc := "(I)I" } : Jvm.MethodName)) ∈ nTc := nT 182 (by decide +kernel) rfl
theorem tw183 : (Jvm.Cond.instanceMethod ({ cls := "LevelMachine$Memory", name := "kind", desc := "(I)I" } : Jvm.MethodName)) ∈ nTc := nT 183 (by decide +kernel) rfl
theorem tw184 : (Jvm.Cond.selects "LevelMachine$Memory" ({ cls := "LevelMachine$Memory", name := "kind", desc := "(I)I" } : Jvm.MethodName) ({ cls := "LevelMachine$Memory", name := "kind", desc := "(I)I" } : Jvm.MethodName)) ∈ nTc := nT 184 (by decide +kernel) rfl
theorem tw185 : (Jvm.Cond.code ({ cls := "LevelMachine$Memory", name := "kind", desc := "(I)I" } : Jvm.MethodName) prog_3_method_11_code (2 : Nat) (Option.some Jvm.ClassFile.FieldType.int)) ∈ nTc := nT 185 (by decide +kernel) rfl
theorem tw186 : (Jvm.Cond.methodLink "LevelMachine$Segment" (41 : Nat) ({ cls := "LevelMachine$Memory", name := "rank", desc := "(I)I" } : Jvm.MethodName)) ∈ nTc := nT 186 (by decide +kernel) rfl
theorem tw187 : (Jvm.Cond.instanceMethod ({ cls := "LevelMachine$Memory", name := "rank", desc := "(I)I" } : Jvm.MethodName)) ∈ nTc := nT 187 (by decide +kernel) rfl
theorem tw188 : (Jvm.Cond.selects "LevelMachine$Memory" ({ cls := "LevelMachine$Memory", name := "rank", desc := "(I)I" } : Jvm.MethodName) ({ cls := "LevelMachine$Memory", name := "rank", desc := "(I)I" } : Jvm.MethodName)) ∈ nTc := nT 188 (by decide +kernel) rfl
theorem tw189 : (Jvm.Cond.code ({ cls := "LevelMachine$Memory", name := "rank", desc := "(I)I" } : Jvm.MethodName) prog_3_method_12_code (2 : Nat) (Option.some Jvm.ClassFile.FieldType.int)) ∈ nTc := nT 189 (by decide +kernel) rfl
theorem tw190 : (Jvm.Cond.methodLink "LevelMachineLaw" (36 : Nat) ({ cls := "LevelMachine", name := "step", desc := "(I)I" } : Jvm.MethodName)) ∈ nTc := nT 190 (by decide +kernel) rfl
theorem tw191 : (Jvm.Cond.instanceMethod ({ cls := "LevelMachine", name := "step", desc := "(I)I" } : Jvm.MethodName)) ∈ nTc := nT 191 (by decide +kernel) rfl
theorem tw192 : (Jvm.Cond.selects "LevelMachine" ({ cls := "LevelMachine", name := "step", desc := "(I)I" } : Jvm.MethodName) ({ cls := "LevelMachine", name := "step", desc := "(I)I" } : Jvm.MethodName)) ∈ nTc := nT 192 (by decide +kernel) rfl
theorem tw193 : (Jvm.Cond.code ({ cls := "LevelMachine", name := "step", desc := "(I)I" } : Jvm.MethodName) prog_1_method_7_code (4 : Nat) (Option.some Jvm.ClassFile.FieldType.int)) ∈ nTc := nT 193 (by decide +kernel) rfl
theorem tw194 : (Jvm.Cond.methodLink "LevelMachine" (75 : Nat) ({ cls := "LevelMachine", name := "keepAll", desc := "()V" } : Jvm.MethodName)) ∈ nTc := nT 194 (by decide +kernel) rfl
theorem tw196 : (Jvm.Cond.instanceMethod ({ cls := "LevelMachine", name := "keepAll", desc := "()V" } : Jvm.MethodName)) ∈ nTc := nT 196 (by decide +kernel) rfl
theorem tw197 : (Jvm.Cond.code ({ cls := "LevelMachine", name := "keepAll", desc := "()V" } : Jvm.MethodName) prog_1_method_14_code (2 : Nat) (Option.none : Option Jvm.ClassFile.FieldType)) ∈ nTc := nT 197 (by decide +kernel) rfl
theorem tw198 : (Jvm.Cond.methodLink "LevelMachine" (114 : Nat) ({ cls := "LevelMachine$Memory", name := "keep", desc := "()V" } : Jvm.MethodName)) ∈ nTc := nT 198 (by decide +kernel) rfl
theorem tw199 : (Jvm.Cond.instanceMethod ({ cls := "LevelMachine$Memory", name := "keep", desc := "()V" } : Jvm.MethodName)) ∈ nTc := nT 199 (by decide +kernel) rfl
theorem tw200 : (Jvm.Cond.selects "LevelMachine$Memory" ({ cls := "LevelMachine$Memory", name := "keep", desc := "()V" } : Jvm.MethodName) ({ cls := "LevelMachine$Memory", name := "keep", desc := "()V" } : Jvm.MethodName)) ∈ nTc := nT 200 (by decide +kernel) rfl
theorem tw201 : (Jvm.Cond.code ({ cls := "LevelMachine$Memory", name := "keep", desc := "()V" } : Jvm.MethodName) prog_3_method_6_code (1 : Nat) (Option.none : Option Jvm.ClassFile.FieldType)) ∈ nTc := nT 201 (by decide +kernel) rfl
theorem tw202 : (Jvm.Cond.methodLink "LevelMachine$Memory" (19 : Nat) ({ cls := "java/lang/System", name := "arraycopy", desc := "(Ljava/lang/Object;ILjava/lang/Object;II)V" } : Jvm.MethodName)) ∈ nTc := nT 202 (by decide +kernel) rfl
theorem tw203 : (Jvm.Cond.static ({ cls := "java/lang/System", name := "arraycopy", desc := "(Ljava/lang/Object;ILjava/lang/Object;II)V" } : Jvm.MethodName)) ∈ nTc := nT 203 (by decide +kernel) rfl
theorem tw204 : (Jvm.Cond.native ({ cls := "java/lang/System", name := "arraycopy", desc := "(Ljava/lang/Object;ILjava/lang/Object;II)V" } : Jvm.MethodName)) ∈ nTc := nT 204 (by decide +kernel) rfl
theorem tw205 : (Jvm.Cond.methodLink "LevelMachine" (117 : Nat) ({ cls := "java/lang/System", name := "arraycopy", desc := "(Ljava/lang/Object;ILjava/lang/Object;II)V" } : Jvm.MethodName)) ∈ nTc := nT 205 (by decide +kernel) rfl
theorem tw206 : (Jvm.Cond.methodLink "LevelMachine" (123 : Nat) ({ cls := "LevelMachine$Segment", name := "copy", desc := "(LLevelMachine$Segment;)V" } : Jvm.MethodName)) ∈ nTc := nT 206 (by decide +kernel) rfl
theorem tw207 : (Jvm.Cond.instanceMethod ({ cls := "LevelMachine$Segment", name := "copy", desc := "(LLevelMachine$Segment;)V" } : Jvm.MethodName)) ∈ nTc := nT 207 (by decide +kernel) rfl
theorem tw208 : (Jvm.Cond.selects "LevelMachine$Segment" ({ cls := "LevelMachine$Segment", name := "copy", desc := "(LLevelMachine$Segment;)V" } : Jvm.MethodName) ({ cls := "LevelMachine$Segment", name := "copy", desc := "(LLevelMachine$Segment;)V" } : Jvm.MethodName)) ∈ nTc := nT 208 (by decide +kernel) rfl
theorem tw209 : (Jvm.Cond.code ({ cls := "LevelMachine$Segment", name := "copy", desc := "(LLevelMachine$Segment;)V" } : Jvm.MethodName) prog_4_method_4_code (2 : Nat) (Option.none : Option Jvm.ClassFile.FieldType)) ∈ nTc := nT 209 (by decide +kernel) rfl
theorem tw210 : (Jvm.Cond.methodLink "LevelMachine" (78 : Nat) ({ cls := "LevelMachine", name := "perform", desc := "()Z" } : Jvm.MethodName)) ∈ nTc := nT 210 (by decide +kernel) rfl
theorem tw212 : (Jvm.Cond.instanceMethod ({ cls := "LevelMachine", name := "perform", desc := "()Z" } : Jvm.MethodName)) ∈ nTc := nT 212 (by decide +kernel) rfl
theorem tw213 : (Jvm.Cond.code ({ cls := "LevelMachine", name := "perform", desc := "()Z" } : Jvm.MethodName) prog_1_method_25_code (5 : Nat) (Option.some Jvm.ClassFile.FieldType.boolean)) ∈ nTc := nT 213 (by decide +kernel) rfl
theorem tw214 : (Jvm.Cond.methodLink "LevelMachine" (186 : Nat) ({ cls := "LevelMachine", name := "decode", desc := "()Z" } : Jvm.MethodName)) ∈ nTc := nT 214 (by decide +kernel) rfl
theorem tw216 : (Jvm.Cond.instanceMethod ({ cls := "LevelMachine", name := "decode", desc := "()Z" } : Jvm.MethodName)) ∈ nTc := nT 216 (by decide +kernel) rfl
theorem tw217 : (Jvm.Cond.code ({ cls := "LevelMachine", name := "decode", desc := "()Z" } : Jvm.MethodName) prog_1_method_24_code (3 : Nat) (Option.some Jvm.ClassFile.FieldType.boolean)) ∈ nTc := nT 217 (by decide +kernel) rfl
theorem tw218 : (Jvm.Cond.methodLink "LevelMachine" (168 : Nat) ({ cls := "LevelMachine", name := "fetch", desc := "()I" } : Jvm.MethodName)) ∈ nTc := nT 218 (by decide +kernel) rfl
theorem tw220 : (Jvm.Cond.instanceMethod ({ cls := "LevelMachine", name := "fetch", desc := "()I" } : Jvm.MethodName)) ∈ nTc := nT 220 (by decide +kernel) rfl
theorem tw221 : (Jvm.Cond.code ({ cls := "LevelMachine", name := "fetch", desc := "()I" } : Jvm.MethodName) prog_1_method_23_code (3 : Nat) (Option.some Jvm.ClassFile.FieldType.int)) ∈ nTc := nT 221 (by decide +kernel) rfl
theorem tw222 : (Jvm.Cond.methodLink "LevelMachine" (153 : Nat) ({ cls := "LevelMachine", name := "fault", desc := "(II)Z" } : Jvm.MethodName)) ∈ nTc := nT 222 (by decide +kernel) rfl
theorem tw224 : (Jvm.Cond.instanceMethod ({ cls := "LevelMachine", name := "fault", desc := "(II)Z" } : Jvm.MethodName)) ∈ nTc := nT 224 (by decide +kernel) rfl
theorem tw225 : (Jvm.Cond.code ({ cls := "LevelMachine", name := "fault", desc := "(II)Z" } : Jvm.MethodName) prog_1_method_16_code (3 : Nat) (Option.some Jvm.ClassFile.FieldType.boolean)) ∈ nTc := nT 225 (by decide +kernel) rfl
theorem tw226 : (Jvm.Cond.constant "LevelMachine" (133 : Nat) (65532 : Int32)) ∈ nTc := nT 226 (by decide +kernel) rfl
theorem tw227 : (Jvm.Cond.methodLink "LevelMachine" (150 : Nat) ({ cls := "LevelMachine$Memory", name := "round", desc := "(I)I" } : Jvm.MethodName)) ∈ nTc := nT 227 (by decide +kernel) rfl
theorem tw228 : (Jvm.Cond.static ({ cls := "LevelMachine$Memory", name := "round", desc := "(I)I" } : Jvm.MethodName)) ∈ nTc := nT 228 (by decide +kernel) rfl
theorem tw229 : (Jvm.Cond.code ({ cls := "LevelMachine$Memory", name := "round", desc := "(I)I" } : Jvm.MethodName) prog_3_method_2_code (1 : Nat) (Option.some Jvm.ClassFile.FieldType.int)) ∈ nTc := nT 229 (by decide +kernel) rfl
theorem tw230 : (Jvm.Cond.methodLink "LevelMachine" (171 : Nat) ({ cls := "LevelMachine$Instruction", name := "split", desc := "(I)V" } : Jvm.MethodName)) ∈ nTc := nT 230 (by decide +kernel) rfl
theorem tw231 : (Jvm.Cond.instanceMethod ({ cls := "LevelMachine$Instruction", name := "split", desc := "(I)V" } : Jvm.MethodName)) ∈ nTc := nT 231 (by decide +kernel) rfl
theorem tw232 : (Jvm.Cond.selects "LevelMachine$Instruction" ({ cls := "LevelMachine$Instruction", name := "split", desc := "(I)V" } : Jvm.MethodName) ({ cls := "LevelMachine$Instruction", name := "split", desc := "(I)V" } : Jvm.MethodName)) ∈ nTc := nT 232 (by decide +kernel) rfl
theorem tw233 : (Jvm.Cond.code ({ cls := "LevelMachine$Instruction", name := "split", desc := "(I)V" } : Jvm.MethodName) prog_2_method_2_code (2 : Nat) (Option.none : Option Jvm.ClassFile.FieldType)) ∈ nTc := nT 233 (by decide +kernel) rfl
theorem tw234 : (Jvm.Cond.methodLink "LevelMachine" (174 : Nat) ({ cls := "LevelMachine$Instruction", name := "isProper", desc := "()Z" } : Jvm.MethodName)) ∈ nTc := nT 234 (by decide +kernel) rfl
theorem tw235 : (Jvm.Cond.instanceMethod ({ cls := "LevelMachine$Instruction", name := "isProper", desc := "()Z" } : Jvm.MethodName)) ∈ nTc := nT 235 (by decide +kernel) rfl
theorem tw236 : (Jvm.Cond.selects "LevelMachine$Instruction" ({ cls := "LevelMachine$Instruction", name := "isProper", desc := "()Z" } : Jvm.MethodName) ({ cls := "LevelMachine$Instruction", name := "isProper", desc := "()Z" } : Jvm.MethodName)) ∈ nTc := nT 236 (by decide +kernel) rfl
theorem tw237 : (Jvm.Cond.code ({ cls := "LevelMachine$Instruction", name := "isProper", desc := "()Z" } : Jvm.MethodName) prog_2_method_3_code (1 : Nat) (Option.some Jvm.ClassFile.FieldType.boolean)) ∈ nTc := nT 237 (by decide +kernel) rfl
theorem tw238 : (Jvm.Cond.fieldLink "LevelMachine$Instruction" (21 : Nat) "LevelMachine$Instruction" "MOST_Q" "[I") ∈ nTc := nT 238 (by decide +kernel) rfl
theorem tw240 : (Jvm.Cond.methodLink "LevelMachine" (177 : Nat) ({ cls := "LevelMachine$Instruction", name := "tail", desc := "()I" } : Jvm.MethodName)) ∈ nTc := nT 240 (by decide +kernel) rfl
theorem tw241 : (Jvm.Cond.instanceMethod ({ cls := "LevelMachine$Instruction", name := "tail", desc := "()I" } : Jvm.MethodName)) ∈ nTc := nT 241 (by decide +kernel) rfl
theorem tw242 : (Jvm.Cond.selects "LevelMachine$Instruction" ({ cls := "LevelMachine$Instruction", name := "tail", desc := "()I" } : Jvm.MethodName) ({ cls := "LevelMachine$Instruction", name := "tail", desc := "()I" } : Jvm.MethodName)) ∈ nTc := nT 242 (by decide +kernel) rfl
theorem tw243 : (Jvm.Cond.code ({ cls := "LevelMachine$Instruction", name := "tail", desc := "()I" } : Jvm.MethodName) prog_2_method_4_code (1 : Nat) (Option.some Jvm.ClassFile.FieldType.int)) ∈ nTc := nT 243 (by decide +kernel) rfl
theorem tw244 : (Jvm.Cond.fieldLink "LevelMachine$Instruction" (25 : Nat) "LevelMachine$Instruction" "TAILS" "[I") ∈ nTc := nT 244 (by decide +kernel) rfl
theorem tw246 : (Jvm.Cond.methodLink "LevelMachine" (198 : Nat) ({ cls := "LevelMachine", name := "stop", desc := "()Z" } : Jvm.MethodName)) ∈ nTc := nT 246 (by decide +kernel) rfl
theorem tw248 : (Jvm.Cond.instanceMethod ({ cls := "LevelMachine", name := "stop", desc := "()Z" } : Jvm.MethodName)) ∈ nTc := nT 248 (by decide +kernel) rfl
theorem tw249 : (Jvm.Cond.code ({ cls := "LevelMachine", name := "stop", desc := "()Z" } : Jvm.MethodName) prog_1_method_26_code (1 : Nat) (Option.some Jvm.ClassFile.FieldType.boolean)) ∈ nTc := nT 249 (by decide +kernel) rfl
theorem tw250 : (Jvm.Cond.methodLink "LevelMachine" (85 : Nat) ({ cls := "LevelMachine", name := "level", desc := "()I" } : Jvm.MethodName)) ∈ nTc := nT 250 (by decide +kernel) rfl
theorem tw252 : (Jvm.Cond.instanceMethod ({ cls := "LevelMachine", name := "level", desc := "()I" } : Jvm.MethodName)) ∈ nTc := nT 252 (by decide +kernel) rfl
theorem tw253 : (Jvm.Cond.code ({ cls := "LevelMachine", name := "level", desc := "()I" } : Jvm.MethodName) prog_1_method_13_code (1 : Nat) (Option.some Jvm.ClassFile.FieldType.int)) ∈ nTc := nT 253 (by decide +kernel) rfl
theorem tw254 : (Jvm.Cond.methodLink "LevelMachine" (201 : Nat) ({ cls := "LevelMachine", name := "give", desc := "(II)Z" } : Jvm.MethodName)) ∈ nTc := nT 254 (by decide +kernel) rfl
theorem tw256 : (Jvm.Cond.instanceMethod ({ cls := "LevelMachine", name := "give", desc := "(II)Z" } : Jvm.MethodName)) ∈ nTc := nT 256 (by decide +kernel) rfl
theorem tw257 : (Jvm.Cond.code ({ cls := "LevelMachine", name := "give", desc := "(II)Z" } : Jvm.MethodName) prog_1_method_27_code (3 : Nat) (Option.some Jvm.ClassFile.FieldType.boolean)) ∈ nTc := nT 257 (by decide +kernel) rfl
theorem tw258 : (Jvm.Cond.methodLink "LevelMachine" (204 : Nat) ({ cls := "LevelMachine", name := "judge", desc := "(I)I" } : Jvm.MethodName)) ∈ nTc := nT 258 (by decide +kernel) rfl
theorem tw260 : (Jvm.Cond.instanceMethod ({ cls := "LevelMachine", name := "judge", desc := "(I)I" } : Jvm.MethodName)) ∈ nTc := nT 260 (by decide +kernel) rfl
theorem tw261 : (Jvm.Cond.code ({ cls := "LevelMachine", name := "judge", desc := "(I)I" } : Jvm.MethodName) prog_1_method_28_code (4 : Nat) (Option.some Jvm.ClassFile.FieldType.int)) ∈ nTc := nT 261 (by decide +kernel) rfl
theorem tw262 : (Jvm.Cond.constant "LevelMachine" (248 : Nat) (32768 : Int32)) ∈ nTc := nT 262 (by decide +kernel) rfl
theorem tw263 : (Jvm.Cond.methodLink "LevelMachine" (207 : Nat) ({ cls := "LevelMachine", name := "compare", desc := "(II)Z" } : Jvm.MethodName)) ∈ nTc := nT 263 (by decide +kernel) rfl
theorem tw265 : (Jvm.Cond.instanceMethod ({ cls := "LevelMachine", name := "compare", desc := "(II)Z" } : Jvm.MethodName)) ∈ nTc := nT 265 (by decide +kernel) rfl
theorem tw266 : (Jvm.Cond.code ({ cls := "LevelMachine", name := "compare", desc := "(II)Z" } : Jvm.MethodName) prog_1_method_29_code (3 : Nat) (Option.some Jvm.ClassFile.FieldType.boolean)) ∈ nTc := nT 266 (by decide +kernel) rfl
theorem tw267 : (Jvm.Cond.methodLink "LevelMachine" (164 : Nat) ({ cls := "LevelMachine", name := "read", desc := "(LLevelMachine$Segment;I)I" } : Jvm.MethodName)) ∈ nTc := nT 267 (by decide +kernel) rfl
theorem tw269 : (Jvm.Cond.instanceMethod ({ cls := "LevelMachine", name := "read", desc := "(LLevelMachine$Segment;I)I" } : Jvm.MethodName)) ∈ nTc := nT 269 (by decide +kernel) rfl
theorem tw270 : (Jvm.Cond.code ({ cls := "LevelMachine", name := "read", desc := "(LLevelMachine$Segment;I)I" } : Jvm.MethodName) prog_1_method_19_code (4 : Nat) (Option.some Jvm.ClassFile.FieldType.int)) ∈ nTc := nT 270 (by decide +kernel) rfl
theorem tw271 : (Jvm.Cond.methodLink "LevelMachine" (160 : Nat) ({ cls := "LevelMachine", name := "write", desc := "(LLevelMachine$Segment;II)Z" } : Jvm.MethodName)) ∈ nTc := nT 271 (by decide +kernel) rfl
theorem tw273 : (Jvm.Cond.instanceMethod ({ cls := "LevelMachine", name := "write", desc := "(LLevelMachine$Segment;II)Z" } : Jvm.MethodName)) ∈ nTc := nT 273 (by decide +kernel) rfl
theorem tw274 : (Jvm.Cond.code ({ cls := "LevelMachine", name := "write", desc := "(LLevelMachine$Segment;II)Z" } : Jvm.MethodName) prog_1_method_20_code (5 : Nat) (Option.some Jvm.ClassFile.FieldType.boolean)) ∈ nTc := nT 274 (by decide +kernel) rfl
theorem tw275 : (Jvm.Cond.methodLink "LevelMachine" (210 : Nat) ({ cls := "LevelMachine", name := "go", desc := "(IZ)Z" } : Jvm.MethodName)) ∈ nTc := nT 275 (by decide +kernel) rfl
theorem tw277 : (Jvm.Cond.instanceMethod ({ cls := "LevelMachine", name := "go", desc := "(IZ)Z" } : Jvm.MethodName)) ∈ nTc := nT 277 (by decide +kernel) rfl
theorem tw278 : (Jvm.Cond.code ({ cls := "LevelMachine", name := "go", desc := "(IZ)Z" } : Jvm.MethodName) prog_1_method_31_code (3 : Nat) (Option.some Jvm.ClassFile.FieldType.boolean)) ∈ nTc := nT 278 (by decide +kernel) rfl
theorem tw279 : (Jvm.Cond.methodLink "LevelMachine" (213 : Nat) ({ cls := "LevelMachine", name := "isZero", desc := "()Z" } : Jvm.MethodName)) ∈ nTc := nT 279 (by decide +kernel) rfl
theorem tw281 : (Jvm.Cond.instanceMethod ({ cls := "LevelMachine", name := "isZero", desc := "()Z" } : Jvm.MethodName)) ∈ nTc := nT 281 (by decide +kernel) rfl
theorem tw282 : (Jvm.Cond.code ({ cls := "LevelMachine", name := "isZero", desc := "()Z" } : Jvm.MethodName) prog_1_method_30_code (1 : Nat) (Option.some Jvm.ClassFile.FieldType.boolean)) ∈ nTc := nT 282 (by decide +kernel) rfl
theorem tw283 : (Jvm.Cond.methodLink "LevelMachine" (147 : Nat) ({ cls := "LevelMachine", name := "push", desc := "(I)Z" } : Jvm.MethodName)) ∈ nTc := nT 283 (by decide +kernel) rfl
theorem tw285 : (Jvm.Cond.instanceMethod ({ cls := "LevelMachine", name := "push", desc := "(I)Z" } : Jvm.MethodName)) ∈ nTc := nT 285 (by decide +kernel) rfl
theorem tw286 : (Jvm.Cond.code ({ cls := "LevelMachine", name := "push", desc := "(I)Z" } : Jvm.MethodName) prog_1_method_21_code (2 : Nat) (Option.some Jvm.ClassFile.FieldType.boolean)) ∈ nTc := nT 286 (by decide +kernel) rfl
theorem tw287 : (Jvm.Cond.methodLink "LevelMachine" (216 : Nat) ({ cls := "LevelMachine", name := "pop", desc := "()I" } : Jvm.MethodName)) ∈ nTc := nT 287 (by decide +kernel) rfl
theorem tw289 : (Jvm.Cond.instanceMethod ({ cls := "LevelMachine", name := "pop", desc := "()I" } : Jvm.MethodName)) ∈ nTc := nT 289 (by decide +kernel) rfl
theorem tw290 : (Jvm.Cond.code ({ cls := "LevelMachine", name := "pop", desc := "()I" } : Jvm.MethodName) prog_1_method_22_code (2 : Nat) (Option.some Jvm.ClassFile.FieldType.int)) ∈ nTc := nT 290 (by decide +kernel) rfl
theorem tw291 : (Jvm.Cond.methodLink "LevelMachine" (219 : Nat) ({ cls := "LevelMachine", name := "loadStack", desc := "(I)Z" } : Jvm.MethodName)) ∈ nTc := nT 291 (by decide +kernel) rfl
theorem tw293 : (Jvm.Cond.instanceMethod ({ cls := "LevelMachine", name := "loadStack", desc := "(I)Z" } : Jvm.MethodName)) ∈ nTc := nT 293 (by decide +kernel) rfl
theorem tw294 : (Jvm.Cond.code ({ cls := "LevelMachine", name := "loadStack", desc := "(I)Z" } : Jvm.MethodName) prog_1_method_34_code (3 : Nat) (Option.some Jvm.ClassFile.FieldType.boolean)) ∈ nTc := nT 294 (by decide +kernel) rfl
theorem tw295 : (Jvm.Cond.methodLink "LevelMachine" (249 : Nat) ({ cls := "LevelMachine$Memory", name := "rank", desc := "(I)I" } : Jvm.MethodName)) ∈ nTc := nT 295 (by decide +kernel) rfl
theorem tw296 : (Jvm.Cond.methodLink "LevelMachine" (251 : Nat) ({ cls := "LevelMachine$Memory", name := "isThere", desc := "(I)Z" } : Jvm.MethodName)) ∈ nTc := nT 296 (by decide +kernel) rfl
theorem tw297 : (Jvm.Cond.instanceMethod ({ cls := "LevelMachine$Memory", name := "isThere", desc := "(I)Z" } : Jvm.MethodName)) ∈ nTc := nT 297 (by decide +kernel) rfl
theorem tw298 : (Jvm.Cond.selects "LevelMachine$Memory" ({ cls := "LevelMachine$Memory", name := "isThere", desc := "(I)Z" } : Jvm.MethodName) ({ cls := "LevelMachine$Memory", name := "isThere", desc := "(I)Z" } : Jvm.MethodName)) ∈ nTc := nT 298 (by decide +kernel) rfl
theorem tw299 : (Jvm.Cond.code ({ cls := "LevelMachine$Memory", name := "isThere", desc := "(I)Z" } : Jvm.MethodName) prog_3_method_13_code (2 : Nat) (Option.some Jvm.ClassFile.FieldType.boolean)) ∈ nTc := nT 299 (by decide +kernel) rfl
theorem tw300 : (Jvm.Cond.methodLink "LevelMachine" (222 : Nat) ({ cls := "LevelMachine", name := "loadData", desc := "(LLevelMachine$Segment;I)Z" } : Jvm.MethodName)) ∈ nTc := nT 300 (by decide +kernel) rfl
theorem tw302 : (Jvm.Cond.instanceMethod ({ cls := "LevelMachine", name := "loadData", desc := "(LLevelMachine$Segment;I)Z" } : Jvm.MethodName)) ∈ nTc := nT 302 (by decide +kernel) rfl
theorem tw303 : (Jvm.Cond.code ({ cls := "LevelMachine", name := "loadData", desc := "(LLevelMachine$Segment;I)Z" } : Jvm.MethodName) prog_1_method_33_code (5 : Nat) (Option.some Jvm.ClassFile.FieldType.boolean)) ∈ nTc := nT 303 (by decide +kernel) rfl
theorem tw304 : (Jvm.Cond.methodLink "LevelMachine" (226 : Nat) ({ cls := "LevelMachine", name := "isCode", desc := "(I)Z" } : Jvm.MethodName)) ∈ nTc := nT 304 (by decide +kernel) rfl
theorem tw305 : (Jvm.Cond.static ({ cls := "LevelMachine", name := "isCode", desc := "(I)Z" } : Jvm.MethodName)) ∈ nTc := nT 305 (by decide +kernel) rfl
theorem tw306 : (Jvm.Cond.code ({ cls := "LevelMachine", name := "isCode", desc := "(I)Z" } : Jvm.MethodName) prog_1_method_12_code (1 : Nat) (Option.some Jvm.ClassFile.FieldType.boolean)) ∈ nTc := nT 306 (by decide +kernel) rfl
theorem tw307 : (Jvm.Cond.methodLink "LevelMachine" (229 : Nat) ({ cls := "LevelMachine", name := "toCode", desc := "(IIZ)Z" } : Jvm.MethodName)) ∈ nTc := nT 307 (by decide +kernel) rfl
theorem tw309 : (Jvm.Cond.instanceMethod ({ cls := "LevelMachine", name := "toCode", desc := "(IIZ)Z" } : Jvm.MethodName)) ∈ nTc := nT 309 (by decide +kernel) rfl
theorem tw310 : (Jvm.Cond.code ({ cls := "LevelMachine", name := "toCode", desc := "(IIZ)Z" } : Jvm.MethodName) prog_1_method_38_code (5 : Nat) (Option.some Jvm.ClassFile.FieldType.boolean)) ∈ nTc := nT 310 (by decide +kernel) rfl
theorem tw311 : (Jvm.Cond.methodLink "LevelMachine" (264 : Nat) ({ cls := "LevelMachine", name := "enter", desc := "(III)Z" } : Jvm.MethodName)) ∈ nTc := nT 311 (by decide +kernel) rfl
theorem tw313 : (Jvm.Cond.instanceMethod ({ cls := "LevelMachine", name := "enter", desc := "(III)Z" } : Jvm.MethodName)) ∈ nTc := nT 313 (by decide +kernel) rfl
theorem tw314 : (Jvm.Cond.code ({ cls := "LevelMachine", name := "enter", desc := "(III)Z" } : Jvm.MethodName) prog_1_method_37_code (4 : Nat) (Option.some Jvm.ClassFile.FieldType.boolean)) ∈ nTc := nT 314 (by decide +kernel) rfl
theorem tw315 : (Jvm.Cond.methodLink "LevelMachine" (260 : Nat) ({ cls := "LevelMachine", name := "mayEnter", desc := "(III)Z" } : Jvm.MethodName)) ∈ nTc := nT 315 (by decide +kernel) rfl
theorem tw317 : (Jvm.Cond.instanceMethod ({ cls := "LevelMachine", name := "mayEnter", desc := "(III)Z" } : Jvm.MethodName)) ∈ nTc := nT 317 (by decide +kernel) rfl
theorem tw318 : (Jvm.Cond.code ({ cls := "LevelMachine", name := "mayEnter", desc := "(III)Z" } : Jvm.MethodName) prog_1_method_36_code (6 : Nat) (Option.some Jvm.ClassFile.FieldType.boolean)) ∈ nTc := nT 318 (by decide +kernel) rfl
theorem tw319 : (Jvm.Cond.methodLink "LevelMachine" (257 : Nat) ({ cls := "LevelMachine$Memory", name := "second", desc := "(I)I" } : Jvm.MethodName)) ∈ nTc := nT 319 (by decide +kernel) rfl
theorem tw320 : (Jvm.Cond.methodLink "LevelMachine" (233 : Nat) ({ cls := "LevelMachine", name := "throughGate", desc := "(IZ)Z" } : Jvm.MethodName)) ∈ nTc := nT 320 (by decide +kernel) rfl
theorem tw322 : (Jvm.Cond.instanceMethod ({ cls := "LevelMachine", name := "throughGate", desc := "(IZ)Z" } : Jvm.MethodName)) ∈ nTc := nT 322 (by decide +kernel) rfl
theorem tw323 : (Jvm.Cond.code ({ cls := "LevelMachine", name := "throughGate", desc := "(IZ)Z" } : Jvm.MethodName) prog_1_method_39_code (6 : Nat) (Option.some Jvm.ClassFile.FieldType.boolean)) ∈ nTc := nT 323 (by decide +kernel) rfl
theorem tw324 : (Jvm.Cond.methodLink "LevelMachine" (267 : Nat) ({ cls := "LevelMachine$Memory", name := "first", desc := "(I)I" } : Jvm.MethodName)) ∈ nTc := nT 324 (by decide +kernel) rfl
theorem tw325 : (Jvm.Cond.methodLink "LevelMachine" (270 : Nat) ({ cls := "LevelMachine", name := "switchTo", desc := "(II)Z" } : Jvm.MethodName)) ∈ nTc := nT 325 (by decide +kernel) rfl
theorem tw327 : (Jvm.Cond.instanceMethod ({ cls := "LevelMachine", name := "switchTo", desc := "(II)Z" } : Jvm.MethodName)) ∈ nTc := nT 327 (by decide +kernel) rfl
theorem tw328 : (Jvm.Cond.code ({ cls := "LevelMachine", name := "switchTo", desc := "(II)Z" } : Jvm.MethodName) prog_1_method_48_code (5 : Nat) (Option.some Jvm.ClassFile.FieldType.boolean)) ∈ nTc := nT 328 (by decide +kernel) rfl
theorem tw329 : (Jvm.Cond.methodLink "LevelMachine" (294 : Nat) ({ cls := "LevelMachine", name := "saveTask", desc := "(I)V" } : Jvm.MethodName)) ∈ nTc := nT 329 (by decide +kernel) rfl
theorem tw331 : (Jvm.Cond.instanceMethod ({ cls := "LevelMachine", name := "saveTask", desc := "(I)V" } : Jvm.MethodName)) ∈ nTc := nT 331 (by decide +kernel) rfl
theorem tw332 : (Jvm.Cond.code ({ cls := "LevelMachine", name := "saveTask", desc := "(I)V" } : Jvm.MethodName) prog_1_method_49_code (4 : Nat) (Option.none : Option Jvm.ClassFile.FieldType)) ∈ nTc := nT 332 (by decide +kernel) rfl
theorem tw333 : (Jvm.Cond.methodLink "LevelMachine" (300 : Nat) ({ cls := "LevelMachine", name := "saveWord", desc := "(II)V" } : Jvm.MethodName)) ∈ nTc := nT 333 (by decide +kernel) rfl
theorem tw335 : (Jvm.Cond.instanceMethod ({ cls := "LevelMachine", name := "saveWord", desc := "(II)V" } : Jvm.MethodName)) ∈ nTc := nT 335 (by decide +kernel) rfl
theorem tw336 : (Jvm.Cond.code ({ cls := "LevelMachine", name := "saveWord", desc := "(II)V" } : Jvm.MethodName) prog_1_method_50_code (4 : Nat) (Option.none : Option Jvm.ClassFile.FieldType)) ∈ nTc := nT 336 (by decide +kernel) rfl
theorem tw337 : (Jvm.Cond.methodLink "LevelMachine" (254 : Nat) ({ cls := "LevelMachine$Memory", name := "turn", desc := "(II)V" } : Jvm.MethodName)) ∈ nTc := nT 337 (by decide +kernel) rfl
theorem tw338 : (Jvm.Cond.instanceMethod ({ cls := "LevelMachine$Memory", name := "turn", desc := "(II)V" } : Jvm.MethodName)) ∈ nTc := nT 338 (by decide +kernel) rfl
theorem tw339 : (Jvm.Cond.selects "LevelMachine$Memory" ({ cls := "LevelMachine$Memory", name := "turn", desc := "(II)V" } : Jvm.MethodName) ({ cls := "LevelMachine$Memory", name := "turn", desc := "(II)V" } : Jvm.MethodName)) ∈ nTc := nT 339 (by decide +kernel) rfl
theorem tw340 : (Jvm.Cond.code ({ cls := "LevelMachine$Memory", name := "turn", desc := "(II)V" } : Jvm.MethodName) prog_3_method_15_code (4 : Nat) (Option.none : Option Jvm.ClassFile.FieldType)) ∈ nTc := nT 340 (by decide +kernel) rfl
theorem tw341 : (Jvm.Cond.methodLink "LevelMachine" (297 : Nat) ({ cls := "LevelMachine", name := "resumeTask", desc := "(I)Z" } : Jvm.MethodName)) ∈ nTc := nT 341 (by decide +kernel) rfl
theorem tw343 : (Jvm.Cond.instanceMethod ({ cls := "LevelMachine", name := "resumeTask", desc := "(I)Z" } : Jvm.MethodName)) ∈ nTc := nT 343 (by decide +kernel) rfl
theorem tw344 : (Jvm.Cond.code ({ cls := "LevelMachine", name := "resumeTask", desc := "(I)Z" } : Jvm.MethodName) prog_1_method_51_code (5 : Nat) (Option.some Jvm.ClassFile.FieldType.boolean)) ∈ nTc := nT 344 (by decide +kernel) rfl
theorem tw345 : (Jvm.Cond.methodLink "LevelMachine" (273 : Nat) ({ cls := "LevelMachine$Memory", name := "count", desc := "(I)I" } : Jvm.MethodName)) ∈ nTc := nT 345 (by decide +kernel) rfl
theorem tw346 : (Jvm.Cond.instanceMethod ({ cls := "LevelMachine$Memory", name := "count", desc := "(I)I" } : Jvm.MethodName)) ∈ nTc := nT 346 (by decide +kernel) rfl
theorem tw347 : (Jvm.Cond.selects "LevelMachine$Memory" ({ cls := "LevelMachine$Memory", name := "count", desc := "(I)I" } : Jvm.MethodName) ({ cls := "LevelMachine$Memory", name := "count", desc := "(I)I" } : Jvm.MethodName)) ∈ nTc := nT 347 (by decide +kernel) rfl
theorem tw348 : (Jvm.Cond.code ({ cls := "LevelMachine$Memory", name := "count", desc := "(I)I" } : Jvm.MethodName) prog_3_method_14_code (2 : Nat) (Option.some Jvm.ClassFile.FieldType.int)) ∈ nTc := nT 348 (by decide +kernel) rfl
theorem tw349 : (Jvm.Cond.methodLink "LevelMachine" (276 : Nat) ({ cls := "LevelMachine", name := "enterDeep", desc := "(IIIZ)Z" } : Jvm.MethodName)) ∈ nTc := nT 349 (by decide +kernel) rfl
theorem tw351 : (Jvm.Cond.instanceMethod ({ cls := "LevelMachine", name := "enterDeep", desc := "(IIIZ)Z" } : Jvm.MethodName)) ∈ nTc := nT 351 (by decide +kernel) rfl
theorem tw352 : (Jvm.Cond.code ({ cls := "LevelMachine", name := "enterDeep", desc := "(IIIZ)Z" } : Jvm.MethodName) prog_1_method_41_code (9 : Nat) (Option.some Jvm.ClassFile.FieldType.boolean)) ∈ nTc := nT 352 (by decide +kernel) rfl
theorem tw353 : (Jvm.Cond.methodLink "LevelMachine" (282 : Nat) ({ cls := "LevelMachine", name := "takeInnerStack", desc := "(I)Z" } : Jvm.MethodName)) ∈ nTc := nT 353 (by decide +kernel) rfl
theorem tw355 : (Jvm.Cond.instanceMethod ({ cls := "LevelMachine", name := "takeInnerStack", desc := "(I)Z" } : Jvm.MethodName)) ∈ nTc := nT 355 (by decide +kernel) rfl
theorem tw356 : (Jvm.Cond.code ({ cls := "LevelMachine", name := "takeInnerStack", desc := "(I)Z" } : Jvm.MethodName) prog_1_method_42_code (6 : Nat) (Option.some Jvm.ClassFile.FieldType.boolean)) ∈ nTc := nT 356 (by decide +kernel) rfl
theorem tw357 : (Jvm.Cond.methodLink "LevelMachine" (285 : Nat) ({ cls := "LevelMachine", name := "carryOver", desc := "(II)Z" } : Jvm.MethodName)) ∈ nTc := nT 357 (by decide +kernel) rfl
theorem tw359 : (Jvm.Cond.instanceMethod ({ cls := "LevelMachine", name := "carryOver", desc := "(II)Z" } : Jvm.MethodName)) ∈ nTc := nT 359 (by decide +kernel) rfl
theorem tw360 : (Jvm.Cond.code ({ cls := "LevelMachine", name := "carryOver", desc := "(II)Z" } : Jvm.MethodName) prog_1_method_43_code (5 : Nat) (Option.some Jvm.ClassFile.FieldType.boolean)) ∈ nTc := nT 360 (by decide +kernel) rfl
theorem tw361 : (Jvm.Cond.methodLink "LevelMachine" (236 : Nat) ({ cls := "LevelMachine", name := "comeBack", desc := "(IZ)Z" } : Jvm.MethodName)) ∈ nTc := nT 361 (by decide +kernel) rfl
theorem tw363 : (Jvm.Cond.instanceMethod ({ cls := "LevelMachine", name := "comeBack", desc := "(IZ)Z" } : Jvm.MethodName)) ∈ nTc := nT 363 (by decide +kernel) rfl
theorem tw364 : (Jvm.Cond.code ({ cls := "LevelMachine", name := "comeBack", desc := "(IZ)Z" } : Jvm.MethodName) prog_1_method_45_code (7 : Nat) (Option.some Jvm.ClassFile.FieldType.boolean)) ∈ nTc := nT 364 (by decide +kernel) rfl
theorem tw365 : (Jvm.Cond.methodLink "LevelMachine" (288 : Nat) ({ cls := "LevelMachine", name := "comeOut", desc := "(III)Z" } : Jvm.MethodName)) ∈ nTc := nT 365 (by decide +kernel) rfl
theorem tw367 : (Jvm.Cond.instanceMethod ({ cls := "LevelMachine", name := "comeOut", desc := "(III)Z" } : Jvm.MethodName)) ∈ nTc := nT 367 (by decide +kernel) rfl
theorem tw368 : (Jvm.Cond.code ({ cls := "LevelMachine", name := "comeOut", desc := "(III)Z" } : Jvm.MethodName) prog_1_method_46_code (6 : Nat) (Option.some Jvm.ClassFile.FieldType.boolean)) ∈ nTc := nT 368 (by decide +kernel) rfl
theorem tw369 : (Jvm.Cond.methodLink "LevelMachine" (291 : Nat) ({ cls := "LevelMachine", name := "hide", desc := "(LLevelMachine$Segment;)V" } : Jvm.MethodName)) ∈ nTc := nT 369 (by decide +kernel) rfl
theorem tw371 : (Jvm.Cond.instanceMethod ({ cls := "LevelMachine", name := "hide", desc := "(LLevelMachine$Segment;)V" } : Jvm.MethodName)) ∈ nTc := nT 371 (by decide +kernel) rfl
theorem tw372 : (Jvm.Cond.code ({ cls := "LevelMachine", name := "hide", desc := "(LLevelMachine$Segment;)V" } : Jvm.MethodName) prog_1_method_47_code (2 : Nat) (Option.none : Option Jvm.ClassFile.FieldType)) ∈ nTc := nT 372 (by decide +kernel) rfl
theorem tw373 : (Jvm.Cond.methodLink "LevelMachine" (143 : Nat) ({ cls := "LevelMachine", name := "trap", desc := "(IZ)Z" } : Jvm.MethodName)) ∈ nTc := nT 373 (by decide +kernel) rfl
theorem tw375 : (Jvm.Cond.instanceMethod ({ cls := "LevelMachine", name := "trap", desc := "(IZ)Z" } : Jvm.MethodName)) ∈ nTc := nT 375 (by decide +kernel) rfl
theorem tw376 : (Jvm.Cond.code ({ cls := "LevelMachine", name := "trap", desc := "(IZ)Z" } : Jvm.MethodName) prog_1_method_40_code (5 : Nat) (Option.some Jvm.ClassFile.FieldType.boolean)) ∈ nTc := nT 376 (by decide +kernel) rfl
theorem tw377 : (Jvm.Cond.methodLink "LevelMachine" (280 : Nat) ({ cls := "LevelMachine$Memory", name := "kind", desc := "(I)I" } : Jvm.MethodName)) ∈ nTc := nT 377 (by decide +kernel) rfl
theorem tw378 : (Jvm.Cond.methodLink "LevelMachine" (239 : Nat) ({ cls := "LevelMachine", name := "back", desc := "()Z" } : Jvm.MethodName)) ∈ nTc := nT 378 (by decide +kernel) rfl
theorem tw380 : (Jvm.Cond.instanceMethod ({ cls := "LevelMachine", name := "back", desc := "()Z" } : Jvm.MethodName)) ∈ nTc := nT 380 (by decide +kernel) rfl
theorem tw381 : (Jvm.Cond.code ({ cls := "LevelMachine", name := "back", desc := "()Z" } : Jvm.MethodName) prog_1_method_44_code (2 : Nat) (Option.some Jvm.ClassFile.FieldType.boolean)) ∈ nTc := nT 381 (by decide +kernel) rfl
theorem tw382 : (Jvm.Cond.methodLink "LevelMachine" (242 : Nat) ({ cls := "LevelMachine", name := "beginTask", desc := "(I)Z" } : Jvm.MethodName)) ∈ nTc := nT 382 (by decide +kernel) rfl
theorem tw384 : (Jvm.Cond.instanceMethod ({ cls := "LevelMachine", name := "beginTask", desc := "(I)Z" } : Jvm.MethodName)) ∈ nTc := nT 384 (by decide +kernel) rfl
theorem tw385 : (Jvm.Cond.code ({ cls := "LevelMachine", name := "beginTask", desc := "(I)Z" } : Jvm.MethodName) prog_1_method_35_code (2 : Nat) (Option.some Jvm.ClassFile.FieldType.boolean)) ∈ nTc := nT 385 (by decide +kernel) rfl
theorem tw386 : (Jvm.Cond.methodLink "LevelMachine" (245 : Nat) ({ cls := "LevelMachine", name := "adjust", desc := "(II)Z" } : Jvm.MethodName)) ∈ nTc := nT 386 (by decide +kernel) rfl
theorem tw388 : (Jvm.Cond.instanceMethod ({ cls := "LevelMachine", name := "adjust", desc := "(II)Z" } : Jvm.MethodName)) ∈ nTc := nT 388 (by decide +kernel) rfl
theorem tw389 : (Jvm.Cond.code ({ cls := "LevelMachine", name := "adjust", desc := "(II)Z" } : Jvm.MethodName) prog_1_method_32_code (5 : Nat) (Option.some Jvm.ClassFile.FieldType.boolean)) ∈ nTc := nT 389 (by decide +kernel) rfl
theorem tw390 : (Jvm.Cond.methodLink "LevelMachine" (82 : Nat) ({ cls := "LevelMachine", name := "deliver", desc := "()Z" } : Jvm.MethodName)) ∈ nTc := nT 390 (by decide +kernel) rfl
theorem tw392 : (Jvm.Cond.instanceMethod ({ cls := "LevelMachine", name := "deliver", desc := "()Z" } : Jvm.MethodName)) ∈ nTc := nT 392 (by decide +kernel) rfl
theorem tw393 : (Jvm.Cond.code ({ cls := "LevelMachine", name := "deliver", desc := "()Z" } : Jvm.MethodName) prog_1_method_18_code (3 : Nat) (Option.some Jvm.ClassFile.FieldType.boolean)) ∈ nTc := nT 393 (by decide +kernel) rfl
theorem tw394 : (Jvm.Cond.methodLink "LevelMachine" (137 : Nat) ({ cls := "LevelMachine", name := "takeAllBack", desc := "()V" } : Jvm.MethodName)) ∈ nTc := nT 394 (by decide +kernel) rfl
theorem tw396 : (Jvm.Cond.instanceMethod ({ cls := "LevelMachine", name := "takeAllBack", desc := "()V" } : Jvm.MethodName)) ∈ nTc := nT 396 (by decide +kernel) rfl
theorem tw397 : (Jvm.Cond.code ({ cls := "LevelMachine", name := "takeAllBack", desc := "()V" } : Jvm.MethodName) prog_1_method_15_code (2 : Nat) (Option.none : Option Jvm.ClassFile.FieldType)) ∈ nTc := nT 397 (by decide +kernel) rfl
theorem tw398 : (Jvm.Cond.methodLink "LevelMachine" (127 : Nat) ({ cls := "LevelMachine$Memory", name := "takeBack", desc := "()V" } : Jvm.MethodName)) ∈ nTc := nT 398 (by decide +kernel) rfl
theorem tw399 : (Jvm.Cond.instanceMethod ({ cls := "LevelMachine$Memory", name := "takeBack", desc := "()V" } : Jvm.MethodName)) ∈ nTc := nT 399 (by decide +kernel) rfl
theorem tw400 : (Jvm.Cond.selects "LevelMachine$Memory" ({ cls := "LevelMachine$Memory", name := "takeBack", desc := "()V" } : Jvm.MethodName) ({ cls := "LevelMachine$Memory", name := "takeBack", desc := "()V" } : Jvm.MethodName)) ∈ nTc := nT 400 (by decide +kernel) rfl
theorem tw401 : (Jvm.Cond.code ({ cls := "LevelMachine$Memory", name := "takeBack", desc := "()V" } : Jvm.MethodName) prog_3_method_7_code (1 : Nat) (Option.none : Option Jvm.ClassFile.FieldType)) ∈ nTc := nT 401 (by decide +kernel) rfl
theorem tw402 : (Jvm.Cond.methodLink "LevelMachine" (140 : Nat) ({ cls := "LevelMachine", name := "note", desc := "(II)V" } : Jvm.MethodName)) ∈ nTc := nT 402 (by decide +kernel) rfl
theorem tw404 : (Jvm.Cond.instanceMethod ({ cls := "LevelMachine", name := "note", desc := "(II)V" } : Jvm.MethodName)) ∈ nTc := nT 404 (by decide +kernel) rfl
theorem tw405 : (Jvm.Cond.code ({ cls := "LevelMachine", name := "note", desc := "(II)V" } : Jvm.MethodName) prog_1_method_17_code (3 : Nat) (Option.none : Option Jvm.ClassFile.FieldType)) ∈ nTc := nT 405 (by decide +kernel) rfl
theorem tw406 : (Jvm.Cond.methodLink "LevelMachineLaw" (40 : Nat) ({ cls := "LevelMachine", name := "wake", desc := "()Z" } : Jvm.MethodName)) ∈ nTc := nT 406 (by decide +kernel) rfl
theorem tw407 : (Jvm.Cond.instanceMethod ({ cls := "LevelMachine", name := "wake", desc := "()Z" } : Jvm.MethodName)) ∈ nTc := nT 407 (by decide +kernel) rfl
theorem tw408 : (Jvm.Cond.selects "LevelMachine" ({ cls := "LevelMachine", name := "wake", desc := "()Z" } : Jvm.MethodName) ({ cls := "LevelMachine", name := "wake", desc := "()Z" } : Jvm.MethodName)) ∈ nTc := nT 408 (by decide +kernel) rfl
theorem tw409 : (Jvm.Cond.code ({ cls := "LevelMachine", name := "wake", desc := "()Z" } : Jvm.MethodName) prog_1_method_8_code (2 : Nat) (Option.some Jvm.ClassFile.FieldType.boolean)) ∈ nTc := nT 409 (by decide +kernel) rfl
theorem tw410 : (Jvm.Cond.methodLink "LevelMachineLaw" (45 : Nat) ({ cls := "LevelMachine", name := "state", desc := "(I)I" } : Jvm.MethodName)) ∈ nTc := nT 410 (by decide +kernel) rfl
theorem tw411 : (Jvm.Cond.instanceMethod ({ cls := "LevelMachine", name := "state", desc := "(I)I" } : Jvm.MethodName)) ∈ nTc := nT 411 (by decide +kernel) rfl
theorem tw412 : (Jvm.Cond.selects "LevelMachine" ({ cls := "LevelMachine", name := "state", desc := "(I)I" } : Jvm.MethodName) ({ cls := "LevelMachine", name := "state", desc := "(I)I" } : Jvm.MethodName)) ∈ nTc := nT 412 (by decide +kernel) rfl
theorem tw413 : (Jvm.Cond.code ({ cls := "LevelMachine", name := "state", desc := "(I)I" } : Jvm.MethodName) prog_1_method_9_code (2 : Nat) (Option.some Jvm.ClassFile.FieldType.int)) ∈ nTc := nT 413 (by decide +kernel) rfl
theorem tw414 : (Jvm.Cond.methodLink "LevelMachineLaw" (49 : Nat) ({ cls := "LevelMachine", name := "segment", desc := "(II)I" } : Jvm.MethodName)) ∈ nTc := nT 414 (by decide +kernel) rfl
theorem tw415 : (Jvm.Cond.instanceMethod ({ cls := "LevelMachine", name := "segment", desc := "(II)I" } : Jvm.MethodName)) ∈ nTc := nT 415 (by decide +kernel) rfl
theorem tw416 : (Jvm.Cond.selects "LevelMachine" ({ cls := "LevelMachine", name := "segment", desc := "(II)I" } : Jvm.MethodName) ({ cls := "LevelMachine", name := "segment", desc := "(II)I" } : Jvm.MethodName)) ∈ nTc := nT 416 (by decide +kernel) rfl
theorem tw417 : (Jvm.Cond.code ({ cls := "LevelMachine", name := "segment", desc := "(II)I" } : Jvm.MethodName) prog_1_method_10_code (3 : Nat) (Option.some Jvm.ClassFile.FieldType.int)) ∈ nTc := nT 417 (by decide +kernel) rfl
theorem tw418 : (Jvm.Cond.classLink "LevelMachineLaw" (10 : Nat) "LevelMachineModel") ∈ nTc := nT 418 (by decide +kernel) rfl
theorem tw419 : (Jvm.Cond.instantiable "LevelMachineModel" (17 : Nat)) ∈ nTc := nT 419 (by decide +kernel) rfl
theorem tw420 : (Jvm.Cond.methodLink "LevelMachineLaw" (12 : Nat) ({ cls := "LevelMachineModel", name := "<init>", desc := "()V" } : Jvm.MethodName)) ∈ nTc := nT 420 (by decide +kernel) rfl
theorem tw421 : (Jvm.Cond.instanceMethod ({ cls := "LevelMachineModel", name := "<init>", desc := "()V" } : Jvm.MethodName)) ∈ nTc := nT 421 (by decide +kernel) rfl
theorem tw422 : (Jvm.Cond.code ({ cls := "LevelMachineModel", name := "<init>", desc := "()V" } : Jvm.MethodName) prog_6_method_1_code (1 : Nat) (Option.none : Option Jvm.ClassFile.FieldType)) ∈ nTc := nT 422 (by decide +kernel) rfl
theorem tw423 : (Jvm.Cond.methodLink "LevelMachineModel" (1 : Nat) ({ cls := "java/lang/Object", name := "<init>", desc := "()V" } : Jvm.MethodName)) ∈ nTc := nT 423 (by decide +kernel) rfl
theorem tw424 : (Jvm.Cond.fieldLink "LevelMachineModel" (7 : Nat) "LevelMachineModel" "memory" "[I") ∈ nTc := nT 424 (by decide +kernel) rfl
theorem tw425 : (Jvm.Cond.fieldLink "LevelMachineModel" (13 : Nat) "LevelMachineModel" "registers" "[I") ∈ nTc := nT 425 (by decide +kernel) rfl
theorem tw426 : (Jvm.Cond.fieldLink "LevelMachineModel" (16 : Nat) "LevelMachineModel" "segments" "[I") ∈ nTc := nT 426 (by decide +kernel) rfl
theorem tw427 : (Jvm.Cond.fieldLink "LevelMachineModel" (19 : Nat) "LevelMachineModel" "memoryBefore" "[I") ∈ nTc := nT 427 (by decide +kernel) rfl
theorem tw428 : (Jvm.Cond.fieldLink "LevelMachineModel" (22 : Nat) "LevelMachineModel" "registersBefore" "[I") ∈ nTc := nT 428 (by decide +kernel) rfl
theorem tw429 : (Jvm.Cond.fieldLink "LevelMachineModel" (25 : Nat) "LevelMachineModel" "segmentsBefore" "[I") ∈ nTc := nT 429 (by decide +kernel) rfl
theorem tw430 : (Jvm.Cond.fieldLink "LevelMachineModel" (176 : Nat) "LevelMachineModel" "mode" "I") ∈ nTc := nT 430 (by decide +kernel) rfl
theorem tw431 : (Jvm.Cond.fieldLink "LevelMachineModel" (32 : Nat) "LevelMachineModel" "fault" "I") ∈ nTc := nT 431 (by decide +kernel) rfl
theorem tw432 : (Jvm.Cond.fieldLink "LevelMachineModel" (36 : Nat) "LevelMachineModel" "code" "I") ∈ nTc := nT 432 (by decide +kernel) rfl
theorem tw433 : (Jvm.Cond.fieldLink "LevelMachineModel" (205 : Nat) "LevelMachineModel" "latest" "I") ∈ nTc := nT 433 (by decide +kernel) rfl
theorem tw434 : (Jvm.Cond.fieldLink "LevelMachineModel" (208 : Nat) "LevelMachineModel" "latestCode" "I") ∈ nTc := nT 434 (by decide +kernel) rfl
theorem tw435 : (Jvm.Cond.fieldLink "LevelMachineModel" (211 : Nat) "LevelMachineModel" "faults" "I") ∈ nTc := nT 435 (by decide +kernel) rfl
theorem tw436 : (Jvm.Cond.fieldLink "LevelMachineModel" (120 : Nat) "LevelMachineModel" "oldSelector" "I") ∈ nTc := nT 436 (by decide +kernel) rfl
theorem tw437 : (Jvm.Cond.fieldLink "LevelMachineModel" (129 : Nat) "LevelMachineModel" "oldBase" "I") ∈ nTc := nT 437 (by decide +kernel) rfl
theorem tw438 : (Jvm.Cond.fieldLink "LevelMachineModel" (132 : Nat) "LevelMachineModel" "oldLimit" "I") ∈ nTc := nT 438 (by decide +kernel) rfl
theorem tw439 : (Jvm.Cond.fieldLink "LevelMachineModel" (135 : Nat) "LevelMachineModel" "oldKind" "I") ∈ nTc := nT 439 (by decide +kernel) rfl
theorem tw440 : (Jvm.Cond.fieldLink "LevelMachineModel" (123 : Nat) "LevelMachineModel" "oldPlace" "I") ∈ nTc := nT 440 (by decide +kernel) rfl
theorem tw476 : (Jvm.Cond.methodLink "LevelMachineLaw" (39 : Nat) ({ cls := "LevelMachineModel", name := "step", desc := "(I)I" } : Jvm.MethodName)) ∈ nTc := nT 476 (by decide +kernel) rfl
theorem tw477 : (Jvm.Cond.instanceMethod ({ cls := "LevelMachineModel", name := "step", desc := "(I)I" } : Jvm.MethodName)) ∈ nTc := nT 477 (by decide +kernel) rfl
theorem tw478 : (Jvm.Cond.selects "LevelMachineModel" ({ cls := "LevelMachineModel", name := "step", desc := "(I)I" } : Jvm.MethodName) ({ cls := "LevelMachineModel", name := "step", desc := "(I)I" } : Jvm.MethodName)) ∈ nTc := nT 478 (by decide +kernel) rfl
theorem tw479 : (Jvm.Cond.code ({ cls := "LevelMachineModel", name := "step", desc := "(I)I" } : Jvm.MethodName) prog_6_method_51_code (4 : Nat) (Option.some Jvm.ClassFile.FieldType.int)) ∈ nTc := nT 479 (by decide +kernel) rfl
theorem tw480 : (Jvm.Cond.methodLink "LevelMachineModel" (52 : Nat) ({ cls := "LevelMachineModel", name := "in", desc := "(III)Z" } : Jvm.MethodName)) ∈ nTc := nT 480 (by decide +kernel) rfl
theorem tw481 : (Jvm.Cond.static ({ cls := "LevelMachineModel", name := "in", desc := "(III)Z" } : Jvm.MethodName)) ∈ nTc := nT 481 (by decide +kernel) rfl
theorem tw482 : (Jvm.Cond.code ({ cls := "LevelMachineModel", name := "in", desc := "(III)Z" } : Jvm.MethodName) prog_6_method_2_code (3 : Nat) (Option.some Jvm.ClassFile.FieldType.boolean)) ∈ nTc := nT 482 (by decide +kernel) rfl
theorem tw483 : (Jvm.Cond.methodLink "LevelMachineModel" (224 : Nat) ({ cls := "LevelMachineModel", name := "goesOn", desc := "()Z" } : Jvm.MethodName)) ∈ nTc := nT 483 (by decide +kernel) rfl
theorem tw485 : (Jvm.Cond.instanceMethod ({ cls := "LevelMachineModel", name := "goesOn", desc := "()Z" } : Jvm.MethodName)) ∈ nTc := nT 485 (by decide +kernel) rfl
theorem tw486 : (Jvm.Cond.code ({ cls := "LevelMachineModel", name := "goesOn", desc := "()Z" } : Jvm.MethodName) prog_6_method_50_code (1 : Nat) (Option.some Jvm.ClassFile.FieldType.boolean)) ∈ nTc := nT 486 (by decide +kernel) rfl
theorem tw487 : (Jvm.Cond.methodLink "LevelMachineModel" (199 : Nat) ({ cls := "LevelMachineModel", name := "remember", desc := "()V" } : Jvm.MethodName)) ∈ nTc := nT 487 (by decide +kernel) rfl
theorem tw489 : (Jvm.Cond.instanceMethod ({ cls := "LevelMachineModel", name := "remember", desc := "()V" } : Jvm.MethodName)) ∈ nTc := nT 489 (by decide +kernel) rfl
theorem tw490 : (Jvm.Cond.code ({ cls := "LevelMachineModel", name := "remember", desc := "()V" } : Jvm.MethodName) prog_6_method_4_code (1 : Nat) (Option.none : Option Jvm.ClassFile.FieldType)) ∈ nTc := nT 490 (by decide +kernel) rfl
theorem tw491 : (Jvm.Cond.methodLink "LevelMachineModel" (28 : Nat) ({ cls := "LevelMachineModel", name := "copy", desc := "([I[I)V" } : Jvm.MethodName)) ∈ nTc := nT 491 (by decide +kernel) rfl
theorem tw492 : (Jvm.Cond.static ({ cls := "LevelMachineModel", name := "copy", desc := "([I[I)V" } : Jvm.MethodName)) ∈ nTc := nT 492 (by decide +kernel) rfl
theorem tw493 : (Jvm.Cond.code ({ cls := "LevelMachineModel", name := "copy", desc := "([I[I)V" } : Jvm.MethodName) prog_6_method_3_code (3 : Nat) (Option.none : Option Jvm.ClassFile.FieldType)) ∈ nTc := nT 493 (by decide +kernel) rfl
theorem tw494 : (Jvm.Cond.methodLink "LevelMachineModel" (214 : Nat) ({ cls := "LevelMachineModel", name := "execute", desc := "()V" } : Jvm.MethodName)) ∈ nTc := nT 494 (by decide +kernel) rfl
theorem tw496 : (Jvm.Cond.instanceMethod ({ cls := "LevelMachineModel", name := "execute", desc := "()V" } : Jvm.MethodName)) ∈ nTc := nT 496 (by decide +kernel) rfl
theorem tw497 : (Jvm.Cond.code ({ cls := "LevelMachineModel", name := "execute", desc := "()V" } : Jvm.MethodName) prog_6_method_42_code (5 : Nat) (Option.none : Option Jvm.ClassFile.FieldType)) ∈ nTc := nT 497 (by decide +kernel) rfl
theorem tw498 : (Jvm.Cond.methodLink "LevelMachineModel" (161 : Nat) ({ cls := "LevelMachineModel", name := "fetch", desc := "()I" } : Jvm.MethodName)) ∈ nTc := nT 498 (by decide +kernel) rfl
theorem tw500 : (Jvm.Cond.instanceMethod ({ cls := "LevelMachineModel", name := "fetch", desc := "()I" } : Jvm.MethodName)) ∈ nTc := nT 500 (by decide +kernel) rfl
theorem tw501 : (Jvm.Cond.code ({ cls := "LevelMachineModel", name := "fetch", desc := "()I" } : Jvm.MethodName) prog_6_method_26_code (2 : Nat) (Option.some Jvm.ClassFile.FieldType.int)) ∈ nTc := nT 501 (by decide +kernel) rfl
theorem tw502 : (Jvm.Cond.methodLink "LevelMachineModel" (39 : Nat) ({ cls := "LevelMachineModel", name := "wrong", desc := "(II)V" } : Jvm.MethodName)) ∈ nTc := nT 502 (by decide +kernel) rfl
theorem tw504 : (Jvm.Cond.instanceMethod ({ cls := "LevelMachineModel", name := "wrong", desc := "(II)V" } : Jvm.MethodName)) ∈ nTc := nT 504 (by decide +kernel) rfl
theorem tw505 : (Jvm.Cond.code ({ cls := "LevelMachineModel", name := "wrong", desc := "(II)V" } : Jvm.MethodName) prog_6_method_6_code (3 : Nat) (Option.none : Option Jvm.ClassFile.FieldType)) ∈ nTc := nT 505 (by decide +kernel) rfl
theorem tw506 : (Jvm.Cond.methodLink "LevelMachineModel" (63 : Nat) ({ cls := "LevelMachineModel", name := "word", desc := "(I)I" } : Jvm.MethodName)) ∈ nTc := nT 506 (by decide +kernel) rfl
theorem tw508 : (Jvm.Cond.instanceMethod ({ cls := "LevelMachineModel", name := "word", desc := "(I)I" } : Jvm.MethodName)) ∈ nTc := nT 508 (by decide +kernel) rfl
theorem tw509 : (Jvm.Cond.code ({ cls := "LevelMachineModel", name := "word", desc := "(I)I" } : Jvm.MethodName) prog_6_method_8_code (2 : Nat) (Option.some Jvm.ClassFile.FieldType.int)) ∈ nTc := nT 509 (by decide +kernel) rfl
theorem tw510 : (Jvm.Cond.constant "LevelMachineModel" (43 : Nat) (65535 : Int32)) ∈ nTc := nT 510 (by decide +kernel) rfl
theorem tw511 : (Jvm.Cond.methodLink "LevelMachineModel" (164 : Nat) ({ cls := "LevelMachineModel", name := "isRight", desc := "(III)Z" } : Jvm.MethodName)) ∈ nTc := nT 511 (by decide +kernel) rfl
theorem tw512 : (Jvm.Cond.static ({ cls := "LevelMachineModel", name := "isRight", desc := "(III)Z" } : Jvm.MethodName)) ∈ nTc := nT 512 (by decide +kernel) rfl
theorem tw513 : (Jvm.Cond.code ({ cls := "LevelMachineModel", name := "isRight", desc := "(III)Z" } : Jvm.MethodName) prog_6_method_41_code (5 : Nat) (Option.some Jvm.ClassFile.FieldType.boolean)) ∈ nTc := nT 513 (by decide +kernel) rfl
theorem tw514 : (Jvm.Cond.methodLink "LevelMachineModel" (167 : Nat) ({ cls := "LevelMachineModel", name := "simple", desc := "(III)V" } : Jvm.MethodName)) ∈ nTc := nT 514 (by decide +kernel) rfl
theorem tw516 : (Jvm.Cond.instanceMethod ({ cls := "LevelMachineModel", name := "simple", desc := "(III)V" } : Jvm.MethodName)) ∈ nTc := nT 516 (by decide +kernel) rfl
theorem tw517 : (Jvm.Cond.code ({ cls := "LevelMachineModel", name := "simple", desc := "(III)V" } : Jvm.MethodName) prog_6_method_43_code (4 : Nat) (Option.none : Option Jvm.ClassFile.FieldType)) ∈ nTc := nT 517 (by decide +kernel) rfl
theorem tw518 : (Jvm.Cond.methodLink "LevelMachineModel" (91 : Nat) ({ cls := "LevelMachineModel", name := "level", desc := "()I" } : Jvm.MethodName)) ∈ nTc := nT 518 (by decide +kernel) rfl
theorem tw520 : (Jvm.Cond.instanceMethod ({ cls := "LevelMachineModel", name := "level", desc := "()I" } : Jvm.MethodName)) ∈ nTc := nT 520 (by decide +kernel) rfl
theorem tw521 : (Jvm.Cond.code ({ cls := "LevelMachineModel", name := "level", desc := "()I" } : Jvm.MethodName) prog_6_method_10_code (1 : Nat) (Option.some Jvm.ClassFile.FieldType.int)) ∈ nTc := nT 521 (by decide +kernel) rfl
theorem tw522 : (Jvm.Cond.methodLink "LevelMachineModel" (179 : Nat) ({ cls := "LevelMachineModel", name := "reckon", desc := "(IIZ)V" } : Jvm.MethodName)) ∈ nTc := nT 522 (by decide +kernel) rfl
theorem tw524 : (Jvm.Cond.instanceMethod ({ cls := "LevelMachineModel", name := "reckon", desc := "(IIZ)V" } : Jvm.MethodName)) ∈ nTc := nT 524 (by decide +kernel) rfl
theorem tw525 : (Jvm.Cond.code ({ cls := "LevelMachineModel", name := "reckon", desc := "(IIZ)V" } : Jvm.MethodName) prog_6_method_40_code (5 : Nat) (Option.none : Option Jvm.ClassFile.FieldType)) ∈ nTc := nT 525 (by decide +kernel) rfl
theorem tw526 : (Jvm.Cond.constant "LevelMachineModel" (160 : Nat) (32768 : Int32)) ∈ nTc := nT 526 (by decide +kernel) rfl
theorem tw527 : (Jvm.Cond.methodLink "LevelMachineModel" (170 : Nat) ({ cls := "LevelMachineModel", name := "move", desc := "(III)V" } : Jvm.MethodName)) ∈ nTc := nT 527 (by decide +kernel) rfl
theorem tw529 : (Jvm.Cond.instanceMethod ({ cls := "LevelMachineModel", name := "move", desc := "(III)V" } : Jvm.MethodName)) ∈ nTc := nT 529 (by decide +kernel) rfl
theorem tw530 : (Jvm.Cond.code ({ cls := "LevelMachineModel", name := "move", desc := "(III)V" } : Jvm.MethodName) prog_6_method_44_code (8 : Nat) (Option.none : Option Jvm.ClassFile.FieldType)) ∈ nTc := nT 530 (by decide +kernel) rfl
theorem tw531 : (Jvm.Cond.methodLink "LevelMachineModel" (73 : Nat) ({ cls := "LevelMachineModel", name := "read", desc := "(II)I" } : Jvm.MethodName)) ∈ nTc := nT 531 (by decide +kernel) rfl
theorem tw533 : (Jvm.Cond.instanceMethod ({ cls := "LevelMachineModel", name := "read", desc := "(II)I" } : Jvm.MethodName)) ∈ nTc := nT 533 (by decide +kernel) rfl
theorem tw534 : (Jvm.Cond.code ({ cls := "LevelMachineModel", name := "read", desc := "(II)I" } : Jvm.MethodName) prog_6_method_22_code (3 : Nat) (Option.some Jvm.ClassFile.FieldType.int)) ∈ nTc := nT 534 (by decide +kernel) rfl
theorem tw535 : (Jvm.Cond.methodLink "LevelMachineModel" (59 : Nat) ({ cls := "LevelMachineModel", name := "reaches", desc := "(IIZ)Z" } : Jvm.MethodName)) ∈ nTc := nT 535 (by decide +kernel) rfl
theorem tw537 : (Jvm.Cond.instanceMethod ({ cls := "LevelMachineModel", name := "reaches", desc := "(IIZ)Z" } : Jvm.MethodName)) ∈ nTc := nT 537 (by decide +kernel) rfl
theorem tw538 : (Jvm.Cond.code ({ cls := "LevelMachineModel", name := "reaches", desc := "(IIZ)Z" } : Jvm.MethodName) prog_6_method_21_code (6 : Nat) (Option.some Jvm.ClassFile.FieldType.boolean)) ∈ nTc := nT 538 (by decide +kernel) rfl
theorem tw539 : (Jvm.Cond.methodLink "LevelMachineModel" (69 : Nat) ({ cls := "LevelMachineModel", name := "write", desc := "(III)V" } : Jvm.MethodName)) ∈ nTc := nT 539 (by decide +kernel) rfl
theorem tw541 : (Jvm.Cond.instanceMethod ({ cls := "LevelMachineModel", name := "write", desc := "(III)V" } : Jvm.MethodName)) ∈ nTc := nT 541 (by decide +kernel) rfl
theorem tw542 : (Jvm.Cond.code ({ cls := "LevelMachineModel", name := "write", desc := "(III)V" } : Jvm.MethodName) prog_6_method_23_code (4 : Nat) (Option.none : Option Jvm.ClassFile.FieldType)) ∈ nTc := nT 542 (by decide +kernel) rfl
theorem tw543 : (Jvm.Cond.methodLink "LevelMachineModel" (66 : Nat) ({ cls := "LevelMachineModel", name := "store", desc := "(II)V" } : Jvm.MethodName)) ∈ nTc := nT 543 (by decide +kernel) rfl
theorem tw545 : (Jvm.Cond.instanceMethod ({ cls := "LevelMachineModel", name := "store", desc := "(II)V" } : Jvm.MethodName)) ∈ nTc := nT 545 (by decide +kernel) rfl
theorem tw546 : (Jvm.Cond.code ({ cls := "LevelMachineModel", name := "store", desc := "(II)V" } : Jvm.MethodName) prog_6_method_9_code (3 : Nat) (Option.none : Option Jvm.ClassFile.FieldType)) ∈ nTc := nT 546 (by decide +kernel) rfl
theorem tw547 : (Jvm.Cond.methodLink "LevelMachineModel" (107 : Nat) ({ cls := "LevelMachineModel", name := "push", desc := "(I)V" } : Jvm.MethodName)) ∈ nTc := nT 547 (by decide +kernel) rfl
theorem tw549 : (Jvm.Cond.instanceMethod ({ cls := "LevelMachineModel", name := "push", desc := "(I)V" } : Jvm.MethodName)) ∈ nTc := nT 549 (by decide +kernel) rfl
theorem tw550 : (Jvm.Cond.code ({ cls := "LevelMachineModel", name := "push", desc := "(I)V" } : Jvm.MethodName) prog_6_method_24_code (2 : Nat) (Option.none : Option Jvm.ClassFile.FieldType)) ∈ nTc := nT 550 (by decide +kernel) rfl
theorem tw551 : (Jvm.Cond.methodLink "LevelMachineModel" (145 : Nat) ({ cls := "LevelMachineModel", name := "pop", desc := "()I" } : Jvm.MethodName)) ∈ nTc := nT 551 (by decide +kernel) rfl
theorem tw553 : (Jvm.Cond.instanceMethod ({ cls := "LevelMachineModel", name := "pop", desc := "()I" } : Jvm.MethodName)) ∈ nTc := nT 553 (by decide +kernel) rfl
theorem tw554 : (Jvm.Cond.code ({ cls := "LevelMachineModel", name := "pop", desc := "()I" } : Jvm.MethodName) prog_6_method_25_code (2 : Nat) (Option.some Jvm.ClassFile.FieldType.int)) ∈ nTc := nT 554 (by decide +kernel) rfl
theorem tw555 : (Jvm.Cond.methodLink "LevelMachineModel" (148 : Nat) ({ cls := "LevelMachineModel", name := "loadStack", desc := "(I)V" } : Jvm.MethodName)) ∈ nTc := nT 555 (by decide +kernel) rfl
theorem tw557 : (Jvm.Cond.instanceMethod ({ cls := "LevelMachineModel", name := "loadStack", desc := "(I)V" } : Jvm.MethodName)) ∈ nTc := nT 557 (by decide +kernel) rfl
theorem tw558 : (Jvm.Cond.code ({ cls := "LevelMachineModel", name := "loadStack", desc := "(I)V" } : Jvm.MethodName) prog_6_method_28_code (2 : Nat) (Option.none : Option Jvm.ClassFile.FieldType)) ∈ nTc := nT 558 (by decide +kernel) rfl
theorem tw559 : (Jvm.Cond.methodLink "LevelMachineModel" (76 : Nat) ({ cls := "LevelMachineModel", name := "isNone", desc := "(I)Z" } : Jvm.MethodName)) ∈ nTc := nT 559 (by decide +kernel) rfl
theorem tw560 : (Jvm.Cond.static ({ cls := "LevelMachineModel", name := "isNone", desc := "(I)Z" } : Jvm.MethodName)) ∈ nTc := nT 560 (by decide +kernel) rfl
theorem tw561 : (Jvm.Cond.code ({ cls := "LevelMachineModel", name := "isNone", desc := "(I)Z" } : Jvm.MethodName) prog_6_method_11_code (1 : Nat) (Option.some Jvm.ClassFile.FieldType.boolean)) ∈ nTc := nT 561 (by decide +kernel) rfl
theorem tw562 : (Jvm.Cond.methodLink "LevelMachineModel" (84 : Nat) ({ cls := "LevelMachineModel", name := "isWrong", desc := "(I)Z" } : Jvm.MethodName)) ∈ nTc := nT 562 (by decide +kernel) rfl
theorem tw563 : (Jvm.Cond.static ({ cls := "LevelMachineModel", name := "isWrong", desc := "(I)Z" } : Jvm.MethodName)) ∈ nTc := nT 563 (by decide +kernel) rfl
theorem tw564 : (Jvm.Cond.code ({ cls := "LevelMachineModel", name := "isWrong", desc := "(I)Z" } : Jvm.MethodName) prog_6_method_12_code (1 : Nat) (Option.some Jvm.ClassFile.FieldType.boolean)) ∈ nTc := nT 564 (by decide +kernel) rfl
theorem tw565 : (Jvm.Cond.methodLink "LevelMachineModel" (87 : Nat) ({ cls := "LevelMachineModel", name := "need", desc := "(ZII)V" } : Jvm.MethodName)) ∈ nTc := nT 565 (by decide +kernel) rfl
theorem tw567 : (Jvm.Cond.instanceMethod ({ cls := "LevelMachineModel", name := "need", desc := "(ZII)V" } : Jvm.MethodName)) ∈ nTc := nT 567 (by decide +kernel) rfl
theorem tw568 : (Jvm.Cond.code ({ cls := "LevelMachineModel", name := "need", desc := "(ZII)V" } : Jvm.MethodName) prog_6_method_7_code (4 : Nat) (Option.none : Option Jvm.ClassFile.FieldType)) ∈ nTc := nT 568 (by decide +kernel) rfl
theorem tw569 : (Jvm.Cond.methodLink "LevelMachineModel" (48 : Nat) ({ cls := "LevelMachineModel", name := "kindOf", desc := "(I)I" } : Jvm.MethodName)) ∈ nTc := nT 569 (by decide +kernel) rfl
theorem tw571 : (Jvm.Cond.instanceMethod ({ cls := "LevelMachineModel", name := "kindOf", desc := "(I)I" } : Jvm.MethodName)) ∈ nTc := nT 571 (by decide +kernel) rfl
theorem tw572 : (Jvm.Cond.code ({ cls := "LevelMachineModel", name := "kindOf", desc := "(I)I" } : Jvm.MethodName) prog_6_method_14_code (2 : Nat) (Option.some Jvm.ClassFile.FieldType.int)) ∈ nTc := nT 572 (by decide +kernel) rfl
theorem tw573 : (Jvm.Cond.methodLink "LevelMachineModel" (44 : Nat) ({ cls := "LevelMachineModel", name := "part", desc := "(II)I" } : Jvm.MethodName)) ∈ nTc := nT 573 (by decide +kernel) rfl
theorem tw575 : (Jvm.Cond.instanceMethod ({ cls := "LevelMachineModel", name := "part", desc := "(II)I" } : Jvm.MethodName)) ∈ nTc := nT 575 (by decide +kernel) rfl
theorem tw576 : (Jvm.Cond.code ({ cls := "LevelMachineModel", name := "part", desc := "(II)I" } : Jvm.MethodName) prog_6_method_13_code (3 : Nat) (Option.some Jvm.ClassFile.FieldType.int)) ∈ nTc := nT 576 (by decide +kernel) rfl
theorem tw577 : (Jvm.Cond.methodLink "LevelMachineModel" (56 : Nat) ({ cls := "LevelMachineModel", name := "rankOf", desc := "(I)I" } : Jvm.MethodName)) ∈ nTc := nT 577 (by decide +kernel) rfl
theorem tw579 : (Jvm.Cond.instanceMethod ({ cls := "LevelMachineModel", name := "rankOf", desc := "(I)I" } : Jvm.MethodName)) ∈ nTc := nT 579 (by decide +kernel) rfl
theorem tw580 : (Jvm.Cond.code ({ cls := "LevelMachineModel", name := "rankOf", desc := "(I)I" } : Jvm.MethodName) prog_6_method_15_code (2 : Nat) (Option.some Jvm.ClassFile.FieldType.int)) ∈ nTc := nT 580 (by decide +kernel) rfl
theorem tw581 : (Jvm.Cond.methodLink "LevelMachineModel" (95 : Nat) ({ cls := "LevelMachineModel", name := "isThere", desc := "(I)Z" } : Jvm.MethodName)) ∈ nTc := nT 581 (by decide +kernel) rfl
theorem tw583 : (Jvm.Cond.instanceMethod ({ cls := "LevelMachineModel", name := "isThere", desc := "(I)Z" } : Jvm.MethodName)) ∈ nTc := nT 583 (by decide +kernel) rfl
theorem tw584 : (Jvm.Cond.code ({ cls := "LevelMachineModel", name := "isThere", desc := "(I)Z" } : Jvm.MethodName) prog_6_method_16_code (2 : Nat) (Option.some Jvm.ClassFile.FieldType.boolean)) ∈ nTc := nT 584 (by decide +kernel) rfl
theorem tw585 : (Jvm.Cond.methodLink "LevelMachineModel" (98 : Nat) ({ cls := "LevelMachineModel", name := "load", desc := "(II)V" } : Jvm.MethodName)) ∈ nTc := nT 585 (by decide +kernel) rfl
theorem tw587 : (Jvm.Cond.instanceMethod ({ cls := "LevelMachineModel", name := "load", desc := "(II)V" } : Jvm.MethodName)) ∈ nTc := nT 587 (by decide +kernel) rfl
theorem tw588 : (Jvm.Cond.code ({ cls := "LevelMachineModel", name := "load", desc := "(II)V" } : Jvm.MethodName) prog_6_method_19_code (3 : Nat) (Option.none : Option Jvm.ClassFile.FieldType)) ∈ nTc := nT 588 (by decide +kernel) rfl
theorem tw589 : (Jvm.Cond.methodLink "LevelMachineModel" (157 : Nat) ({ cls := "LevelMachineModel", name := "loadData", desc := "(II)V" } : Jvm.MethodName)) ∈ nTc := nT 589 (by decide +kernel) rfl
theorem tw591 : (Jvm.Cond.instanceMethod ({ cls := "LevelMachineModel", name := "loadData", desc := "(II)V" } : Jvm.MethodName)) ∈ nTc := nT 591 (by decide +kernel) rfl
theorem tw592 : (Jvm.Cond.code ({ cls := "LevelMachineModel", name := "loadData", desc := "(II)V" } : Jvm.MethodName) prog_6_method_27_code (4 : Nat) (Option.none : Option Jvm.ClassFile.FieldType)) ∈ nTc := nT 592 (by decide +kernel) rfl
theorem tw593 : (Jvm.Cond.methodLink "LevelMachineModel" (80 : Nat) ({ cls := "LevelMachineModel", name := "unload", desc := "(I)V" } : Jvm.MethodName)) ∈ nTc := nT 593 (by decide +kernel) rfl
theorem tw595 : (Jvm.Cond.instanceMethod ({ cls := "LevelMachineModel", name := "unload", desc := "(I)V" } : Jvm.MethodName)) ∈ nTc := nT 595 (by decide +kernel) rfl
theorem tw596 : (Jvm.Cond.code ({ cls := "LevelMachineModel", name := "unload", desc := "(I)V" } : Jvm.MethodName) prog_6_method_20_code (3 : Nat) (Option.none : Option Jvm.ClassFile.FieldType)) ∈ nTc := nT 596 (by decide +kernel) rfl
theorem tw597 : (Jvm.Cond.methodLink "LevelMachineModel" (173 : Nat) ({ cls := "LevelMachineModel", name := "protect", desc := "(III)V" } : Jvm.MethodName)) ∈ nTc := nT 597 (by decide +kernel) rfl
theorem tw599 : (Jvm.Cond.instanceMethod ({ cls := "LevelMachineModel", name := "protect", desc := "(III)V" } : Jvm.MethodName)) ∈ nTc := nT 599 (by decide +kernel) rfl
theorem tw600 : (Jvm.Cond.code ({ cls := "LevelMachineModel", name := "protect", desc := "(III)V" } : Jvm.MethodName) prog_6_method_45_code (8 : Nat) (Option.none : Option Jvm.ClassFile.FieldType)) ∈ nTc := nT 600 (by decide +kernel) rfl
theorem tw601 : (Jvm.Cond.methodLink "LevelMachineModel" (183 : Nat) ({ cls := "LevelMachineModel", name := "transfer", desc := "(IIZ)V" } : Jvm.MethodName)) ∈ nTc := nT 601 (by decide +kernel) rfl
theorem tw603 : (Jvm.Cond.instanceMethod ({ cls := "LevelMachineModel", name := "transfer", desc := "(IIZ)V" } : Jvm.MethodName)) ∈ nTc := nT 603 (by decide +kernel) rfl
theorem tw604 : (Jvm.Cond.code ({ cls := "LevelMachineModel", name := "transfer", desc := "(IIZ)V" } : Jvm.MethodName) prog_6_method_35_code (5 : Nat) (Option.none : Option Jvm.ClassFile.FieldType)) ∈ nTc := nT 604 (by decide +kernel) rfl
theorem tw605 : (Jvm.Cond.methodLink "LevelMachineModel" (110 : Nat) ({ cls := "LevelMachineModel", name := "pushPlace", desc := "(Z)V" } : Jvm.MethodName)) ∈ nTc := nT 605 (by decide +kernel) rfl
theorem tw607 : (Jvm.Cond.instanceMethod ({ cls := "LevelMachineModel", name := "pushPlace", desc := "(Z)V" } : Jvm.MethodName)) ∈ nTc := nT 607 (by decide +kernel) rfl
theorem tw608 : (Jvm.Cond.code ({ cls := "LevelMachineModel", name := "pushPlace", desc := "(Z)V" } : Jvm.MethodName) prog_6_method_31_code (2 : Nat) (Option.none : Option Jvm.ClassFile.FieldType)) ∈ nTc := nT 608 (by decide +kernel) rfl
theorem tw609 : (Jvm.Cond.methodLink "LevelMachineModel" (114 : Nat) ({ cls := "LevelMachineModel", name := "enter", desc := "(III)V" } : Jvm.MethodName)) ∈ nTc := nT 609 (by decide +kernel) rfl
theorem tw611 : (Jvm.Cond.instanceMethod ({ cls := "LevelMachineModel", name := "enter", desc := "(III)V" } : Jvm.MethodName)) ∈ nTc := nT 611 (by decide +kernel) rfl
theorem tw612 : (Jvm.Cond.code ({ cls := "LevelMachineModel", name := "enter", desc := "(III)V" } : Jvm.MethodName) prog_6_method_30_code (4 : Nat) (Option.none : Option Jvm.ClassFile.FieldType)) ∈ nTc := nT 612 (by decide +kernel) rfl
theorem tw613 : (Jvm.Cond.methodLink "LevelMachineModel" (104 : Nat) ({ cls := "LevelMachineModel", name := "canEnter", desc := "(III)Z" } : Jvm.MethodName)) ∈ nTc := nT 613 (by decide +kernel) rfl
theorem tw615 : (Jvm.Cond.instanceMethod ({ cls := "LevelMachineModel", name := "canEnter", desc := "(III)Z" } : Jvm.MethodName)) ∈ nTc := nT 615 (by decide +kernel) rfl
theorem tw616 : (Jvm.Cond.code ({ cls := "LevelMachineModel", name := "canEnter", desc := "(III)Z" } : Jvm.MethodName) prog_6_method_29_code (4 : Nat) (Option.some Jvm.ClassFile.FieldType.boolean)) ∈ nTc := nT 616 (by decide +kernel) rfl
theorem tw617 : (Jvm.Cond.methodLink "LevelMachineModel" (101 : Nat) ({ cls := "LevelMachineModel", name := "isCode", desc := "(I)Z" } : Jvm.MethodName)) ∈ nTc := nT 617 (by decide +kernel) rfl
theorem tw619 : (Jvm.Cond.instanceMethod ({ cls := "LevelMachineModel", name := "isCode", desc := "(I)Z" } : Jvm.MethodName)) ∈ nTc := nT 619 (by decide +kernel) rfl
theorem tw620 : (Jvm.Cond.code ({ cls := "LevelMachineModel", name := "isCode", desc := "(I)Z" } : Jvm.MethodName) prog_6_method_17_code (2 : Nat) (Option.some Jvm.ClassFile.FieldType.boolean)) ∈ nTc := nT 620 (by decide +kernel) rfl
theorem tw621 : (Jvm.Cond.methodLink "LevelMachineModel" (138 : Nat) ({ cls := "LevelMachineModel", name := "switchTo", desc := "(II)V" } : Jvm.MethodName)) ∈ nTc := nT 621 (by decide +kernel) rfl
theorem tw623 : (Jvm.Cond.instanceMethod ({ cls := "LevelMachineModel", name := "switchTo", desc := "(II)V" } : Jvm.MethodName)) ∈ nTc := nT 623 (by decide +kernel) rfl
theorem tw624 : (Jvm.Cond.code ({ cls := "LevelMachineModel", name := "switchTo", desc := "(II)V" } : Jvm.MethodName) prog_6_method_38_code (7 : Nat) (Option.none : Option Jvm.ClassFile.FieldType)) ∈ nTc := nT 624 (by decide +kernel) rfl
theorem tw625 : (Jvm.Cond.methodLink "LevelMachineModel" (151 : Nat) ({ cls := "LevelMachineModel", name := "setKind", desc := "(II)V" } : Jvm.MethodName)) ∈ nTc := nT 625 (by decide +kernel) rfl
theorem tw627 : (Jvm.Cond.instanceMethod ({ cls := "LevelMachineModel", name := "setKind", desc := "(II)V" } : Jvm.MethodName)) ∈ nTc := nT 627 (by decide +kernel) rfl
theorem tw628 : (Jvm.Cond.code ({ cls := "LevelMachineModel", name := "setKind", desc := "(II)V" } : Jvm.MethodName) prog_6_method_18_code (4 : Nat) (Option.none : Option Jvm.ClassFile.FieldType)) ∈ nTc := nT 628 (by decide +kernel) rfl
theorem tw629 : (Jvm.Cond.methodLink "LevelMachineModel" (154 : Nat) ({ cls := "LevelMachineModel", name := "begin", desc := "(II)V" } : Jvm.MethodName)) ∈ nTc := nT 629 (by decide +kernel) rfl
theorem tw631 : (Jvm.Cond.instanceMethod ({ cls := "LevelMachineModel", name := "begin", desc := "(II)V" } : Jvm.MethodName)) ∈ nTc := nT 631 (by decide +kernel) rfl
theorem tw632 : (Jvm.Cond.code ({ cls := "LevelMachineModel", name := "begin", desc := "(II)V" } : Jvm.MethodName) prog_6_method_39_code (8 : Nat) (Option.none : Option Jvm.ClassFile.FieldType)) ∈ nTc := nT 632 (by decide +kernel) rfl
theorem tw633 : (Jvm.Cond.methodLink "LevelMachineModel" (141 : Nat) ({ cls := "LevelMachineModel", name := "deepEntry", desc := "(IIIZ)V" } : Jvm.MethodName)) ∈ nTc := nT 633 (by decide +kernel) rfl
theorem tw635 : (Jvm.Cond.instanceMethod ({ cls := "LevelMachineModel", name := "deepEntry", desc := "(IIIZ)V" } : Jvm.MethodName)) ∈ nTc := nT 635 (by decide +kernel) rfl
theorem tw636 : (Jvm.Cond.code ({ cls := "LevelMachineModel", name := "deepEntry", desc := "(IIIZ)V" } : Jvm.MethodName) prog_6_method_32_code (9 : Nat) (Option.none : Option Jvm.ClassFile.FieldType)) ∈ nTc := nT 636 (by decide +kernel) rfl
theorem tw637 : (Jvm.Cond.methodLink "LevelMachineModel" (117 : Nat) ({ cls := "LevelMachineModel", name := "changeStack", desc := "(I)V" } : Jvm.MethodName)) ∈ nTc := nT 637 (by decide +kernel) rfl
theorem tw639 : (Jvm.Cond.instanceMethod ({ cls := "LevelMachineModel", name := "changeStack", desc := "(I)V" } : Jvm.MethodName)) ∈ nTc := nT 639 (by decide +kernel) rfl
theorem tw640 : (Jvm.Cond.code ({ cls := "LevelMachineModel", name := "changeStack", desc := "(I)V" } : Jvm.MethodName) prog_6_method_33_code (4 : Nat) (Option.none : Option Jvm.ClassFile.FieldType)) ∈ nTc := nT 640 (by decide +kernel) rfl
theorem tw641 : (Jvm.Cond.methodLink "LevelMachineModel" (126 : Nat) ({ cls := "LevelMachineModel", name := "ofOldStack", desc := "(I)I" } : Jvm.MethodName)) ∈ nTc := nT 641 (by decide +kernel) rfl
theorem tw643 : (Jvm.Cond.instanceMethod ({ cls := "LevelMachineModel", name := "ofOldStack", desc := "(I)I" } : Jvm.MethodName)) ∈ nTc := nT 643 (by decide +kernel) rfl
theorem tw644 : (Jvm.Cond.code ({ cls := "LevelMachineModel", name := "ofOldStack", desc := "(I)I" } : Jvm.MethodName) prog_6_method_34_code (2 : Nat) (Option.some Jvm.ClassFile.FieldType.int)) ∈ nTc := nT 644 (by decide +kernel) rfl
theorem tw645 : (Jvm.Cond.methodLink "LevelMachineModel" (186 : Nat) ({ cls := "LevelMachineModel", name := "comeBack", desc := "(III)V" } : Jvm.MethodName)) ∈ nTc := nT 645 (by decide +kernel) rfl
theorem tw647 : (Jvm.Cond.instanceMethod ({ cls := "LevelMachineModel", name := "comeBack", desc := "(III)V" } : Jvm.MethodName)) ∈ nTc := nT 647 (by decide +kernel) rfl
theorem tw648 : (Jvm.Cond.code ({ cls := "LevelMachineModel", name := "comeBack", desc := "(III)V" } : Jvm.MethodName) prog_6_method_36_code (8 : Nat) (Option.none : Option Jvm.ClassFile.FieldType)) ∈ nTc := nT 648 (by decide +kernel) rfl
theorem tw649 : (Jvm.Cond.methodLink "LevelMachineModel" (189 : Nat) ({ cls := "LevelMachineModel", name := "trap", desc := "(IZ)V" } : Jvm.MethodName)) ∈ nTc := nT 649 (by decide +kernel) rfl
theorem tw651 : (Jvm.Cond.instanceMethod ({ cls := "LevelMachineModel", name := "trap", desc := "(IZ)V" } : Jvm.MethodName)) ∈ nTc := nT 651 (by decide +kernel) rfl
theorem tw652 : (Jvm.Cond.code ({ cls := "LevelMachineModel", name := "trap", desc := "(IZ)V" } : Jvm.MethodName) prog_6_method_37_code (5 : Nat) (Option.none : Option Jvm.ClassFile.FieldType)) ∈ nTc := nT 652 (by decide +kernel) rfl
theorem tw653 : (Jvm.Cond.methodLink "LevelMachineModel" (193 : Nat) ({ cls := "LevelMachineModel", name := "back", desc := "()V" } : Jvm.MethodName)) ∈ nTc := nT 653 (by decide +kernel) rfl
theorem tw655 : (Jvm.Cond.instanceMethod ({ cls := "LevelMachineModel", name := "back", desc := "()V" } : Jvm.MethodName)) ∈ nTc := nT 655 (by decide +kernel) rfl
theorem tw656 : (Jvm.Cond.code ({ cls := "LevelMachineModel", name := "back", desc := "()V" } : Jvm.MethodName) prog_6_method_46_code (3 : Nat) (Option.none : Option Jvm.ClassFile.FieldType)) ∈ nTc := nT 656 (by decide +kernel) rfl
theorem tw657 : (Jvm.Cond.methodLink "LevelMachineModel" (196 : Nat) ({ cls := "LevelMachineModel", name := "take", desc := "(I)V" } : Jvm.MethodName)) ∈ nTc := nT 657 (by decide +kernel) rfl
theorem tw659 : (Jvm.Cond.instanceMethod ({ cls := "LevelMachineModel", name := "take", desc := "(I)V" } : Jvm.MethodName)) ∈ nTc := nT 659 (by decide +kernel) rfl
theorem tw660 : (Jvm.Cond.code ({ cls := "LevelMachineModel", name := "take", desc := "(I)V" } : Jvm.MethodName) prog_6_method_47_code (2 : Nat) (Option.none : Option Jvm.ClassFile.FieldType)) ∈ nTc := nT 660 (by decide +kernel) rfl
theorem tw661 : (Jvm.Cond.methodLink "LevelMachineModel" (217 : Nat) ({ cls := "LevelMachineModel", name := "note", desc := "(II)V" } : Jvm.MethodName)) ∈ nTc := nT 661 (by decide +kernel) rfl
theorem tw663 : (Jvm.Cond.instanceMethod ({ cls := "LevelMachineModel", name := "note", desc := "(II)V" } : Jvm.MethodName)) ∈ nTc := nT 663 (by decide +kernel) rfl
theorem tw664 : (Jvm.Cond.code ({ cls := "LevelMachineModel", name := "note", desc := "(II)V" } : Jvm.MethodName) prog_6_method_49_code (3 : Nat) (Option.none : Option Jvm.ClassFile.FieldType)) ∈ nTc := nT 664 (by decide +kernel) rfl
theorem tw665 : (Jvm.Cond.methodLink "LevelMachineModel" (202 : Nat) ({ cls := "LevelMachineModel", name := "putBack", desc := "()V" } : Jvm.MethodName)) ∈ nTc := nT 665 (by decide +kernel) rfl
theorem tw667 : (Jvm.Cond.instanceMethod ({ cls := "LevelMachineModel", name := "putBack", desc := "()V" } : Jvm.MethodName)) ∈ nTc := nT 667 (by decide +kernel) rfl
theorem tw668 : (Jvm.Cond.code ({ cls := "LevelMachineModel", name := "putBack", desc := "()V" } : Jvm.MethodName) prog_6_method_5_code (1 : Nat) (Option.none : Option Jvm.ClassFile.FieldType)) ∈ nTc := nT 668 (by decide +kernel) rfl
theorem tw669 : (Jvm.Cond.methodLink "LevelMachineModel" (220 : Nat) ({ cls := "LevelMachineModel", name := "delivers", desc := "(II)Z" } : Jvm.MethodName)) ∈ nTc := nT 669 (by decide +kernel) rfl
theorem tw671 : (Jvm.Cond.instanceMethod ({ cls := "LevelMachineModel", name := "delivers", desc := "(II)Z" } : Jvm.MethodName)) ∈ nTc := nT 671 (by decide +kernel) rfl
theorem tw672 : (Jvm.Cond.code ({ cls := "LevelMachineModel", name := "delivers", desc := "(II)Z" } : Jvm.MethodName) prog_6_method_48_code (4 : Nat) (Option.some Jvm.ClassFile.FieldType.boolean)) ∈ nTc := nT 672 (by decide +kernel) rfl
theorem tw673 : (Jvm.Cond.methodLink "LevelMachineLaw" (44 : Nat) ({ cls := "LevelMachineModel", name := "wake", desc := "()Z" } : Jvm.MethodName)) ∈ nTc := nT 673 (by decide +kernel) rfl
theorem tw674 : (Jvm.Cond.instanceMethod ({ cls := "LevelMachineModel", name := "wake", desc := "()Z" } : Jvm.MethodName)) ∈ nTc := nT 674 (by decide +kernel) rfl
theorem tw675 : (Jvm.Cond.selects "LevelMachineModel" ({ cls := "LevelMachineModel", name := "wake", desc := "()Z" } : Jvm.MethodName) ({ cls := "LevelMachineModel", name := "wake", desc := "()Z" } : Jvm.MethodName)) ∈ nTc := nT 675 (by decide +kernel) rfl
theorem tw676 : (Jvm.Cond.code ({ cls := "LevelMachineModel", name := "wake", desc := "()Z" } : Jvm.MethodName) prog_6_method_52_code (2 : Nat) (Option.some Jvm.ClassFile.FieldType.boolean)) ∈ nTc := nT 676 (by decide +kernel) rfl
theorem tw677 : (Jvm.Cond.methodLink "LevelMachineLaw" (17 : Nat) ({ cls := "LevelMachineModel", name := "poke", desc := "(II)Z" } : Jvm.MethodName)) ∈ nTc := nT 677 (by decide +kernel) rfl
theorem tw678 : (Jvm.Cond.instanceMethod ({ cls := "LevelMachineModel", name := "poke", desc := "(II)Z" } : Jvm.MethodName)) ∈ nTc := nT 678 (by decide +kernel) rfl
theorem tw679 : (Jvm.Cond.selects "LevelMachineModel" ({ cls := "LevelMachineModel", name := "poke", desc := "(II)Z" } : Jvm.MethodName) ({ cls := "LevelMachineModel", name := "poke", desc := "(II)Z" } : Jvm.MethodName)) ∈ nTc := nT 679 (by decide +kernel) rfl
theorem tw680 : (Jvm.Cond.code ({ cls := "LevelMachineModel", name := "poke", desc := "(II)Z" } : Jvm.MethodName) prog_6_method_53_code (3 : Nat) (Option.some Jvm.ClassFile.FieldType.boolean)) ∈ nTc := nT 680 (by decide +kernel) rfl
theorem tw681 : (Jvm.Cond.methodLink "LevelMachineLaw" (22 : Nat) ({ cls := "LevelMachineModel", name := "peek", desc := "(I)I" } : Jvm.MethodName)) ∈ nTc := nT 681 (by decide +kernel) rfl
theorem tw682 : (Jvm.Cond.instanceMethod ({ cls := "LevelMachineModel", name := "peek", desc := "(I)I" } : Jvm.MethodName)) ∈ nTc := nT 682 (by decide +kernel) rfl
theorem tw683 : (Jvm.Cond.selects "LevelMachineModel" ({ cls := "LevelMachineModel", name := "peek", desc := "(I)I" } : Jvm.MethodName) ({ cls := "LevelMachineModel", name := "peek", desc := "(I)I" } : Jvm.MethodName)) ∈ nTc := nT 683 (by decide +kernel) rfl
theorem tw684 : (Jvm.Cond.code ({ cls := "LevelMachineModel", name := "peek", desc := "(I)I" } : Jvm.MethodName) prog_6_method_54_code (2 : Nat) (Option.some Jvm.ClassFile.FieldType.int)) ∈ nTc := nT 684 (by decide +kernel) rfl
theorem tw685 : (Jvm.Cond.methodLink "LevelMachineLaw" (27 : Nat) ({ cls := "LevelMachineModel", name := "describe", desc := "(IIIIIZ)Z" } : Jvm.MethodName)) ∈ nTc := nT 685 (by decide +kernel) rfl
theorem tw686 : (Jvm.Cond.instanceMethod ({ cls := "LevelMachineModel", name := "describe", desc := "(IIIIIZ)Z" } : Jvm.MethodName)) ∈ nTc := nT 686 (by decide +kernel) rfl
theorem tw687 : (Jvm.Cond.selects "LevelMachineModel" ({ cls := "LevelMachineModel", name := "describe", desc := "(IIIIIZ)Z" } : Jvm.MethodName) ({ cls := "LevelMachineModel", name := "describe", desc := "(IIIIIZ)Z" } : Jvm.MethodName)) ∈ nTc := nT 687 (by decide +kernel) rfl
theorem tw688 : (Jvm.Cond.code ({ cls := "LevelMachineModel", name := "describe", desc := "(IIIIIZ)Z" } : Jvm.MethodName) prog_6_method_55_code (7 : Nat) (Option.some Jvm.ClassFile.FieldType.boolean)) ∈ nTc := nT 688 (by decide +kernel) rfl
theorem tw689 : (Jvm.Cond.methodLink "LevelMachineLaw" (31 : Nat) ({ cls := "LevelMachineModel", name := "set", desc := "(II)Z" } : Jvm.MethodName)) ∈ nTc := nT 689 (by decide +kernel) rfl
theorem tw690 : (Jvm.Cond.instanceMethod ({ cls := "LevelMachineModel", name := "set", desc := "(II)Z" } : Jvm.MethodName)) ∈ nTc := nT 690 (by decide +kernel) rfl
theorem tw691 : (Jvm.Cond.selects "LevelMachineModel" ({ cls := "LevelMachineModel", name := "set", desc := "(II)Z" } : Jvm.MethodName) ({ cls := "LevelMachineModel", name := "set", desc := "(II)Z" } : Jvm.MethodName)) ∈ nTc := nT 691 (by decide +kernel) rfl
theorem tw692 : (Jvm.Cond.code ({ cls := "LevelMachineModel", name := "set", desc := "(II)Z" } : Jvm.MethodName) prog_6_method_56_code (3 : Nat) (Option.some Jvm.ClassFile.FieldType.boolean)) ∈ nTc := nT 692 (by decide +kernel) rfl
theorem tw693 : (Jvm.Cond.methodLink "LevelMachineLaw" (35 : Nat) ({ cls := "LevelMachineModel", name := "force", desc := "(II)Z" } : Jvm.MethodName)) ∈ nTc := nT 693 (by decide +kernel) rfl
theorem tw694 : (Jvm.Cond.instanceMethod ({ cls := "LevelMachineModel", name := "force", desc := "(II)Z" } : Jvm.MethodName)) ∈ nTc := nT 694 (by decide +kernel) rfl
theorem tw695 : (Jvm.Cond.selects "LevelMachineModel" ({ cls := "LevelMachineModel", name := "force", desc := "(II)Z" } : Jvm.MethodName) ({ cls := "LevelMachineModel", name := "force", desc := "(II)Z" } : Jvm.MethodName)) ∈ nTc := nT 695 (by decide +kernel) rfl
theorem tw696 : (Jvm.Cond.code ({ cls := "LevelMachineModel", name := "force", desc := "(II)Z" } : Jvm.MethodName) prog_6_method_57_code (3 : Nat) (Option.some Jvm.ClassFile.FieldType.boolean)) ∈ nTc := nT 696 (by decide +kernel) rfl
theorem tw697 : (Jvm.Cond.methodLink "LevelMachineLaw" (48 : Nat) ({ cls := "LevelMachineModel", name := "state", desc := "(I)I" } : Jvm.MethodName)) ∈ nTc := nT 697 (by decide +kernel) rfl
theorem tw698 : (Jvm.Cond.instanceMethod ({ cls := "LevelMachineModel", name := "state", desc := "(I)I" } : Jvm.MethodName)) ∈ nTc := nT 698 (by decide +kernel) rfl
theorem tw699 : (Jvm.Cond.selects "LevelMachineModel" ({ cls := "LevelMachineModel", name := "state", desc := "(I)I" } : Jvm.MethodName) ({ cls := "LevelMachineModel", name := "state", desc := "(I)I" } : Jvm.MethodName)) ∈ nTc := nT 699 (by decide +kernel) rfl
theorem tw700 : (Jvm.Cond.code ({ cls := "LevelMachineModel", name := "state", desc := "(I)I" } : Jvm.MethodName) prog_6_method_58_code (2 : Nat) (Option.some Jvm.ClassFile.FieldType.int)) ∈ nTc := nT 700 (by decide +kernel) rfl
theorem tw701 : (Jvm.Cond.methodLink "LevelMachineLaw" (53 : Nat) ({ cls := "LevelMachineModel", name := "segment", desc := "(II)I" } : Jvm.MethodName)) ∈ nTc := nT 701 (by decide +kernel) rfl
theorem tw702 : (Jvm.Cond.instanceMethod ({ cls := "LevelMachineModel", name := "segment", desc := "(II)I" } : Jvm.MethodName)) ∈ nTc := nT 702 (by decide +kernel) rfl
theorem tw703 : (Jvm.Cond.selects "LevelMachineModel" ({ cls := "LevelMachineModel", name := "segment", desc := "(II)I" } : Jvm.MethodName) ({ cls := "LevelMachineModel", name := "segment", desc := "(II)I" } : Jvm.MethodName)) ∈ nTc := nT 703 (by decide +kernel) rfl
theorem tw704 : (Jvm.Cond.code ({ cls := "LevelMachineModel", name := "segment", desc := "(II)I" } : Jvm.MethodName) prog_6_method_59_code (3 : Nat) (Option.some Jvm.ClassFile.FieldType.int)) ∈ nTc := nT 704 (by decide +kernel) rfl
theorem sl0 : Cond.selects "LevelMachine" ⟨"LevelMachine", "keepAll", "()V"⟩ ⟨"LevelMachine", "keepAll", "()V"⟩ ∈ nTc := nS (q := (⟨"LevelMachine", "keepAll", "()V"⟩, 13)) 0 (by decide +kernel)
theorem sl1 : Cond.selects "LevelMachine" ⟨"LevelMachine", "perform", "()Z"⟩ ⟨"LevelMachine", "perform", "()Z"⟩ ∈ nTc := nS (q := (⟨"LevelMachine", "perform", "()Z"⟩, 13)) 1 (by decide +kernel)
theorem sl2 : Cond.selects "LevelMachine" ⟨"LevelMachine", "decode", "()Z"⟩ ⟨"LevelMachine", "decode", "()Z"⟩ ∈ nTc := nS (q := (⟨"LevelMachine", "decode", "()Z"⟩, 13)) 2 (by decide +kernel)
theorem sl3 : Cond.selects "LevelMachine" ⟨"LevelMachine", "fetch", "()I"⟩ ⟨"LevelMachine", "fetch", "()I"⟩ ∈ nTc := nS (q := (⟨"LevelMachine", "fetch", "()I"⟩, 13)) 3 (by decide +kernel)
theorem sl4 : Cond.selects "LevelMachine" ⟨"LevelMachine", "fault", "(II)Z"⟩ ⟨"LevelMachine", "fault", "(II)Z"⟩ ∈ nTc := nS (q := (⟨"LevelMachine", "fault", "(II)Z"⟩, 13)) 4 (by decide +kernel)
theorem sl5 : Cond.selects "LevelMachine" ⟨"LevelMachine", "stop", "()Z"⟩ ⟨"LevelMachine", "stop", "()Z"⟩ ∈ nTc := nS (q := (⟨"LevelMachine", "stop", "()Z"⟩, 13)) 5 (by decide +kernel)
theorem sl6 : Cond.selects "LevelMachine" ⟨"LevelMachine", "level", "()I"⟩ ⟨"LevelMachine", "level", "()I"⟩ ∈ nTc := nS (q := (⟨"LevelMachine", "level", "()I"⟩, 13)) 6 (by decide +kernel)
theorem sl7 : Cond.selects "LevelMachine" ⟨"LevelMachine", "give", "(II)Z"⟩ ⟨"LevelMachine", "give", "(II)Z"⟩ ∈ nTc := nS (q := (⟨"LevelMachine", "give", "(II)Z"⟩, 13)) 7 (by decide +kernel)
theorem sl8 : Cond.selects "LevelMachine" ⟨"LevelMachine", "judge", "(I)I"⟩ ⟨"LevelMachine", "judge", "(I)I"⟩ ∈ nTc := nS (q := (⟨"LevelMachine", "judge", "(I)I"⟩, 13)) 8 (by decide +kernel)
theorem sl9 : Cond.selects "LevelMachine" ⟨"LevelMachine", "compare", "(II)Z"⟩ ⟨"LevelMachine", "compare", "(II)Z"⟩ ∈ nTc := nS (q := (⟨"LevelMachine", "compare", "(II)Z"⟩, 13)) 9 (by decide +kernel)
theorem sl10 : Cond.selects "LevelMachine" ⟨"LevelMachine", "read", "(LLevelMachine$Segment;I)I"⟩ ⟨"LevelMachine", "read", "(LLevelMachine$Segment;I)I"⟩ ∈ nTc := nS (q := (⟨"LevelMachine", "read", "(LLevelMachine$Segment;I)I"⟩, 13)) 10 (by decide +kernel)
theorem sl11 : Cond.selects "LevelMachine" ⟨"LevelMachine", "write", "(LLevelMachine$Segment;II)Z"⟩ ⟨"LevelMachine", "write", "(LLevelMachine$Segment;II)Z"⟩ ∈ nTc := nS (q := (⟨"LevelMachine", "write", "(LLevelMachine$Segment;II)Z"⟩, 13)) 11 (by decide +kernel)
theorem sl12 : Cond.selects "LevelMachine" ⟨"LevelMachine", "go", "(IZ)Z"⟩ ⟨"LevelMachine", "go", "(IZ)Z"⟩ ∈ nTc := nS (q := (⟨"LevelMachine", "go", "(IZ)Z"⟩, 13)) 12 (by decide +kernel)
theorem sl13 : Cond.selects "LevelMachine" ⟨"LevelMachine", "isZero", "()Z"⟩ ⟨"LevelMachine", "isZero", "()Z"⟩ ∈ nTc := nS (q := (⟨"LevelMachine", "isZero", "()Z"⟩, 13)) 13 (by decide +kernel)
theorem sl14 : Cond.selects "LevelMachine" ⟨"LevelMachine", "push", "(I)Z"⟩ ⟨"LevelMachine", "push", "(I)Z"⟩ ∈ nTc := nS (q := (⟨"LevelMachine", "push", "(I)Z"⟩, 13)) 14 (by decide +kernel)
theorem sl15 : Cond.selects "LevelMachine" ⟨"LevelMachine", "pop", "()I"⟩ ⟨"LevelMachine", "pop", "()I"⟩ ∈ nTc := nS (q := (⟨"LevelMachine", "pop", "()I"⟩, 13)) 15 (by decide +kernel)
theorem sl16 : Cond.selects "LevelMachine" ⟨"LevelMachine", "loadStack", "(I)Z"⟩ ⟨"LevelMachine", "loadStack", "(I)Z"⟩ ∈ nTc := nS (q := (⟨"LevelMachine", "loadStack", "(I)Z"⟩, 13)) 16 (by decide +kernel)
theorem sl17 : Cond.selects "LevelMachine" ⟨"LevelMachine", "loadData", "(LLevelMachine$Segment;I)Z"⟩ ⟨"LevelMachine", "loadData", "(LLevelMachine$Segment;I)Z"⟩ ∈ nTc := nS (q := (⟨"LevelMachine", "loadData", "(LLevelMachine$Segment;I)Z"⟩, 13)) 17 (by decide +kernel)
theorem sl18 : Cond.selects "LevelMachine" ⟨"LevelMachine", "toCode", "(IIZ)Z"⟩ ⟨"LevelMachine", "toCode", "(IIZ)Z"⟩ ∈ nTc := nS (q := (⟨"LevelMachine", "toCode", "(IIZ)Z"⟩, 13)) 18 (by decide +kernel)
theorem sl19 : Cond.selects "LevelMachine" ⟨"LevelMachine", "enter", "(III)Z"⟩ ⟨"LevelMachine", "enter", "(III)Z"⟩ ∈ nTc := nS (q := (⟨"LevelMachine", "enter", "(III)Z"⟩, 13)) 19 (by decide +kernel)
theorem sl20 : Cond.selects "LevelMachine" ⟨"LevelMachine", "mayEnter", "(III)Z"⟩ ⟨"LevelMachine", "mayEnter", "(III)Z"⟩ ∈ nTc := nS (q := (⟨"LevelMachine", "mayEnter", "(III)Z"⟩, 13)) 20 (by decide +kernel)
theorem sl21 : Cond.selects "LevelMachine" ⟨"LevelMachine", "throughGate", "(IZ)Z"⟩ ⟨"LevelMachine", "throughGate", "(IZ)Z"⟩ ∈ nTc := nS (q := (⟨"LevelMachine", "throughGate", "(IZ)Z"⟩, 13)) 21 (by decide +kernel)
theorem sl22 : Cond.selects "LevelMachine" ⟨"LevelMachine", "switchTo", "(II)Z"⟩ ⟨"LevelMachine", "switchTo", "(II)Z"⟩ ∈ nTc := nS (q := (⟨"LevelMachine", "switchTo", "(II)Z"⟩, 13)) 22 (by decide +kernel)
theorem sl23 : Cond.selects "LevelMachine" ⟨"LevelMachine", "saveTask", "(I)V"⟩ ⟨"LevelMachine", "saveTask", "(I)V"⟩ ∈ nTc := nS (q := (⟨"LevelMachine", "saveTask", "(I)V"⟩, 13)) 23 (by decide +kernel)
theorem sl24 : Cond.selects "LevelMachine" ⟨"LevelMachine", "saveWord", "(II)V"⟩ ⟨"LevelMachine", "saveWord", "(II)V"⟩ ∈ nTc := nS (q := (⟨"LevelMachine", "saveWord", "(II)V"⟩, 13)) 24 (by decide +kernel)
theorem sl25 : Cond.selects "LevelMachine" ⟨"LevelMachine", "resumeTask", "(I)Z"⟩ ⟨"LevelMachine", "resumeTask", "(I)Z"⟩ ∈ nTc := nS (q := (⟨"LevelMachine", "resumeTask", "(I)Z"⟩, 13)) 25 (by decide +kernel)
theorem sl26 : Cond.selects "LevelMachine" ⟨"LevelMachine", "enterDeep", "(IIIZ)Z"⟩ ⟨"LevelMachine", "enterDeep", "(IIIZ)Z"⟩ ∈ nTc := nS (q := (⟨"LevelMachine", "enterDeep", "(IIIZ)Z"⟩, 13)) 26 (by decide +kernel)
theorem sl27 : Cond.selects "LevelMachine" ⟨"LevelMachine", "takeInnerStack", "(I)Z"⟩ ⟨"LevelMachine", "takeInnerStack", "(I)Z"⟩ ∈ nTc := nS (q := (⟨"LevelMachine", "takeInnerStack", "(I)Z"⟩, 13)) 27 (by decide +kernel)
theorem sl28 : Cond.selects "LevelMachine" ⟨"LevelMachine", "carryOver", "(II)Z"⟩ ⟨"LevelMachine", "carryOver", "(II)Z"⟩ ∈ nTc := nS (q := (⟨"LevelMachine", "carryOver", "(II)Z"⟩, 13)) 28 (by decide +kernel)
theorem sl29 : Cond.selects "LevelMachine" ⟨"LevelMachine", "comeBack", "(IZ)Z"⟩ ⟨"LevelMachine", "comeBack", "(IZ)Z"⟩ ∈ nTc := nS (q := (⟨"LevelMachine", "comeBack", "(IZ)Z"⟩, 13)) 29 (by decide +kernel)
theorem sl30 : Cond.selects "LevelMachine" ⟨"LevelMachine", "comeOut", "(III)Z"⟩ ⟨"LevelMachine", "comeOut", "(III)Z"⟩ ∈ nTc := nS (q := (⟨"LevelMachine", "comeOut", "(III)Z"⟩, 13)) 30 (by decide +kernel)
theorem sl31 : Cond.selects "LevelMachine" ⟨"LevelMachine", "hide", "(LLevelMachine$Segment;)V"⟩ ⟨"LevelMachine", "hide", "(LLevelMachine$Segment;)V"⟩ ∈ nTc := nS (q := (⟨"LevelMachine", "hide", "(LLevelMachine$Segment;)V"⟩, 13)) 31 (by decide +kernel)
theorem sl32 : Cond.selects "LevelMachine" ⟨"LevelMachine", "trap", "(IZ)Z"⟩ ⟨"LevelMachine", "trap", "(IZ)Z"⟩ ∈ nTc := nS (q := (⟨"LevelMachine", "trap", "(IZ)Z"⟩, 13)) 32 (by decide +kernel)
theorem sl33 : Cond.selects "LevelMachine" ⟨"LevelMachine", "back", "()Z"⟩ ⟨"LevelMachine", "back", "()Z"⟩ ∈ nTc := nS (q := (⟨"LevelMachine", "back", "()Z"⟩, 13)) 33 (by decide +kernel)
theorem sl34 : Cond.selects "LevelMachine" ⟨"LevelMachine", "beginTask", "(I)Z"⟩ ⟨"LevelMachine", "beginTask", "(I)Z"⟩ ∈ nTc := nS (q := (⟨"LevelMachine", "beginTask", "(I)Z"⟩, 13)) 34 (by decide +kernel)
theorem sl35 : Cond.selects "LevelMachine" ⟨"LevelMachine", "adjust", "(II)Z"⟩ ⟨"LevelMachine", "adjust", "(II)Z"⟩ ∈ nTc := nS (q := (⟨"LevelMachine", "adjust", "(II)Z"⟩, 13)) 35 (by decide +kernel)
theorem sl36 : Cond.selects "LevelMachine" ⟨"LevelMachine", "deliver", "()Z"⟩ ⟨"LevelMachine", "deliver", "()Z"⟩ ∈ nTc := nS (q := (⟨"LevelMachine", "deliver", "()Z"⟩, 13)) 36 (by decide +kernel)
theorem sl37 : Cond.selects "LevelMachine" ⟨"LevelMachine", "takeAllBack", "()V"⟩ ⟨"LevelMachine", "takeAllBack", "()V"⟩ ∈ nTc := nS (q := (⟨"LevelMachine", "takeAllBack", "()V"⟩, 13)) 37 (by decide +kernel)
theorem sl38 : Cond.selects "LevelMachine" ⟨"LevelMachine", "note", "(II)V"⟩ ⟨"LevelMachine", "note", "(II)V"⟩ ∈ nTc := nS (q := (⟨"LevelMachine", "note", "(II)V"⟩, 13)) 38 (by decide +kernel)
theorem sl39 : Cond.selects "LevelMachineModel" ⟨"LevelMachineModel", "goesOn", "()Z"⟩ ⟨"LevelMachineModel", "goesOn", "()Z"⟩ ∈ nTc := nS (q := (⟨"LevelMachineModel", "goesOn", "()Z"⟩, 17)) 39 (by decide +kernel)
theorem sl40 : Cond.selects "LevelMachineModel" ⟨"LevelMachineModel", "remember", "()V"⟩ ⟨"LevelMachineModel", "remember", "()V"⟩ ∈ nTc := nS (q := (⟨"LevelMachineModel", "remember", "()V"⟩, 17)) 40 (by decide +kernel)
theorem sl41 : Cond.selects "LevelMachineModel" ⟨"LevelMachineModel", "execute", "()V"⟩ ⟨"LevelMachineModel", "execute", "()V"⟩ ∈ nTc := nS (q := (⟨"LevelMachineModel", "execute", "()V"⟩, 17)) 41 (by decide +kernel)
theorem sl42 : Cond.selects "LevelMachineModel" ⟨"LevelMachineModel", "fetch", "()I"⟩ ⟨"LevelMachineModel", "fetch", "()I"⟩ ∈ nTc := nS (q := (⟨"LevelMachineModel", "fetch", "()I"⟩, 17)) 42 (by decide +kernel)
theorem sl43 : Cond.selects "LevelMachineModel" ⟨"LevelMachineModel", "wrong", "(II)V"⟩ ⟨"LevelMachineModel", "wrong", "(II)V"⟩ ∈ nTc := nS (q := (⟨"LevelMachineModel", "wrong", "(II)V"⟩, 17)) 43 (by decide +kernel)
theorem sl44 : Cond.selects "LevelMachineModel" ⟨"LevelMachineModel", "word", "(I)I"⟩ ⟨"LevelMachineModel", "word", "(I)I"⟩ ∈ nTc := nS (q := (⟨"LevelMachineModel", "word", "(I)I"⟩, 17)) 44 (by decide +kernel)
theorem sl45 : Cond.selects "LevelMachineModel" ⟨"LevelMachineModel", "simple", "(III)V"⟩ ⟨"LevelMachineModel", "simple", "(III)V"⟩ ∈ nTc := nS (q := (⟨"LevelMachineModel", "simple", "(III)V"⟩, 17)) 45 (by decide +kernel)
theorem sl46 : Cond.selects "LevelMachineModel" ⟨"LevelMachineModel", "level", "()I"⟩ ⟨"LevelMachineModel", "level", "()I"⟩ ∈ nTc := nS (q := (⟨"LevelMachineModel", "level", "()I"⟩, 17)) 46 (by decide +kernel)
theorem sl47 : Cond.selects "LevelMachineModel" ⟨"LevelMachineModel", "reckon", "(IIZ)V"⟩ ⟨"LevelMachineModel", "reckon", "(IIZ)V"⟩ ∈ nTc := nS (q := (⟨"LevelMachineModel", "reckon", "(IIZ)V"⟩, 17)) 47 (by decide +kernel)
theorem sl48 : Cond.selects "LevelMachineModel" ⟨"LevelMachineModel", "move", "(III)V"⟩ ⟨"LevelMachineModel", "move", "(III)V"⟩ ∈ nTc := nS (q := (⟨"LevelMachineModel", "move", "(III)V"⟩, 17)) 48 (by decide +kernel)
theorem sl49 : Cond.selects "LevelMachineModel" ⟨"LevelMachineModel", "read", "(II)I"⟩ ⟨"LevelMachineModel", "read", "(II)I"⟩ ∈ nTc := nS (q := (⟨"LevelMachineModel", "read", "(II)I"⟩, 17)) 49 (by decide +kernel)
theorem sl50 : Cond.selects "LevelMachineModel" ⟨"LevelMachineModel", "reaches", "(IIZ)Z"⟩ ⟨"LevelMachineModel", "reaches", "(IIZ)Z"⟩ ∈ nTc := nS (q := (⟨"LevelMachineModel", "reaches", "(IIZ)Z"⟩, 17)) 50 (by decide +kernel)
theorem sl51 : Cond.selects "LevelMachineModel" ⟨"LevelMachineModel", "write", "(III)V"⟩ ⟨"LevelMachineModel", "write", "(III)V"⟩ ∈ nTc := nS (q := (⟨"LevelMachineModel", "write", "(III)V"⟩, 17)) 51 (by decide +kernel)
theorem sl52 : Cond.selects "LevelMachineModel" ⟨"LevelMachineModel", "store", "(II)V"⟩ ⟨"LevelMachineModel", "store", "(II)V"⟩ ∈ nTc := nS (q := (⟨"LevelMachineModel", "store", "(II)V"⟩, 17)) 52 (by decide +kernel)
theorem sl53 : Cond.selects "LevelMachineModel" ⟨"LevelMachineModel", "push", "(I)V"⟩ ⟨"LevelMachineModel", "push", "(I)V"⟩ ∈ nTc := nS (q := (⟨"LevelMachineModel", "push", "(I)V"⟩, 17)) 53 (by decide +kernel)
theorem sl54 : Cond.selects "LevelMachineModel" ⟨"LevelMachineModel", "pop", "()I"⟩ ⟨"LevelMachineModel", "pop", "()I"⟩ ∈ nTc := nS (q := (⟨"LevelMachineModel", "pop", "()I"⟩, 17)) 54 (by decide +kernel)
theorem sl55 : Cond.selects "LevelMachineModel" ⟨"LevelMachineModel", "loadStack", "(I)V"⟩ ⟨"LevelMachineModel", "loadStack", "(I)V"⟩ ∈ nTc := nS (q := (⟨"LevelMachineModel", "loadStack", "(I)V"⟩, 17)) 55 (by decide +kernel)
theorem sl56 : Cond.selects "LevelMachineModel" ⟨"LevelMachineModel", "need", "(ZII)V"⟩ ⟨"LevelMachineModel", "need", "(ZII)V"⟩ ∈ nTc := nS (q := (⟨"LevelMachineModel", "need", "(ZII)V"⟩, 17)) 56 (by decide +kernel)
theorem sl57 : Cond.selects "LevelMachineModel" ⟨"LevelMachineModel", "kindOf", "(I)I"⟩ ⟨"LevelMachineModel", "kindOf", "(I)I"⟩ ∈ nTc := nS (q := (⟨"LevelMachineModel", "kindOf", "(I)I"⟩, 17)) 57 (by decide +kernel)
theorem sl58 : Cond.selects "LevelMachineModel" ⟨"LevelMachineModel", "part", "(II)I"⟩ ⟨"LevelMachineModel", "part", "(II)I"⟩ ∈ nTc := nS (q := (⟨"LevelMachineModel", "part", "(II)I"⟩, 17)) 58 (by decide +kernel)
theorem sl59 : Cond.selects "LevelMachineModel" ⟨"LevelMachineModel", "rankOf", "(I)I"⟩ ⟨"LevelMachineModel", "rankOf", "(I)I"⟩ ∈ nTc := nS (q := (⟨"LevelMachineModel", "rankOf", "(I)I"⟩, 17)) 59 (by decide +kernel)
theorem sl60 : Cond.selects "LevelMachineModel" ⟨"LevelMachineModel", "isThere", "(I)Z"⟩ ⟨"LevelMachineModel", "isThere", "(I)Z"⟩ ∈ nTc := nS (q := (⟨"LevelMachineModel", "isThere", "(I)Z"⟩, 17)) 60 (by decide +kernel)
theorem sl61 : Cond.selects "LevelMachineModel" ⟨"LevelMachineModel", "load", "(II)V"⟩ ⟨"LevelMachineModel", "load", "(II)V"⟩ ∈ nTc := nS (q := (⟨"LevelMachineModel", "load", "(II)V"⟩, 17)) 61 (by decide +kernel)
theorem sl62 : Cond.selects "LevelMachineModel" ⟨"LevelMachineModel", "loadData", "(II)V"⟩ ⟨"LevelMachineModel", "loadData", "(II)V"⟩ ∈ nTc := nS (q := (⟨"LevelMachineModel", "loadData", "(II)V"⟩, 17)) 62 (by decide +kernel)
theorem sl63 : Cond.selects "LevelMachineModel" ⟨"LevelMachineModel", "unload", "(I)V"⟩ ⟨"LevelMachineModel", "unload", "(I)V"⟩ ∈ nTc := nS (q := (⟨"LevelMachineModel", "unload", "(I)V"⟩, 17)) 63 (by decide +kernel)
theorem sl64 : Cond.selects "LevelMachineModel" ⟨"LevelMachineModel", "protect", "(III)V"⟩ ⟨"LevelMachineModel", "protect", "(III)V"⟩ ∈ nTc := nS (q := (⟨"LevelMachineModel", "protect", "(III)V"⟩, 17)) 64 (by decide +kernel)
theorem sl65 : Cond.selects "LevelMachineModel" ⟨"LevelMachineModel", "transfer", "(IIZ)V"⟩ ⟨"LevelMachineModel", "transfer", "(IIZ)V"⟩ ∈ nTc := nS (q := (⟨"LevelMachineModel", "transfer", "(IIZ)V"⟩, 17)) 65 (by decide +kernel)
theorem sl66 : Cond.selects "LevelMachineModel" ⟨"LevelMachineModel", "pushPlace", "(Z)V"⟩ ⟨"LevelMachineModel", "pushPlace", "(Z)V"⟩ ∈ nTc := nS (q := (⟨"LevelMachineModel", "pushPlace", "(Z)V"⟩, 17)) 66 (by decide +kernel)
theorem sl67 : Cond.selects "LevelMachineModel" ⟨"LevelMachineModel", "enter", "(III)V"⟩ ⟨"LevelMachineModel", "enter", "(III)V"⟩ ∈ nTc := nS (q := (⟨"LevelMachineModel", "enter", "(III)V"⟩, 17)) 67 (by decide +kernel)
theorem sl68 : Cond.selects "LevelMachineModel" ⟨"LevelMachineModel", "canEnter", "(III)Z"⟩ ⟨"LevelMachineModel", "canEnter", "(III)Z"⟩ ∈ nTc := nS (q := (⟨"LevelMachineModel", "canEnter", "(III)Z"⟩, 17)) 68 (by decide +kernel)
theorem sl69 : Cond.selects "LevelMachineModel" ⟨"LevelMachineModel", "isCode", "(I)Z"⟩ ⟨"LevelMachineModel", "isCode", "(I)Z"⟩ ∈ nTc := nS (q := (⟨"LevelMachineModel", "isCode", "(I)Z"⟩, 17)) 69 (by decide +kernel)
theorem sl70 : Cond.selects "LevelMachineModel" ⟨"LevelMachineModel", "switchTo", "(II)V"⟩ ⟨"LevelMachineModel", "switchTo", "(II)V"⟩ ∈ nTc := nS (q := (⟨"LevelMachineModel", "switchTo", "(II)V"⟩, 17)) 70 (by decide +kernel)
theorem sl71 : Cond.selects "LevelMachineModel" ⟨"LevelMachineModel", "setKind", "(II)V"⟩ ⟨"LevelMachineModel", "setKind", "(II)V"⟩ ∈ nTc := nS (q := (⟨"LevelMachineModel", "setKind", "(II)V"⟩, 17)) 71 (by decide +kernel)
theorem sl72 : Cond.selects "LevelMachineModel" ⟨"LevelMachineModel", "begin", "(II)V"⟩ ⟨"LevelMachineModel", "begin", "(II)V"⟩ ∈ nTc := nS (q := (⟨"LevelMachineModel", "begin", "(II)V"⟩, 17)) 72 (by decide +kernel)
theorem sl73 : Cond.selects "LevelMachineModel" ⟨"LevelMachineModel", "deepEntry", "(IIIZ)V"⟩ ⟨"LevelMachineModel", "deepEntry", "(IIIZ)V"⟩ ∈ nTc := nS (q := (⟨"LevelMachineModel", "deepEntry", "(IIIZ)V"⟩, 17)) 73 (by decide +kernel)
theorem sl74 : Cond.selects "LevelMachineModel" ⟨"LevelMachineModel", "changeStack", "(I)V"⟩ ⟨"LevelMachineModel", "changeStack", "(I)V"⟩ ∈ nTc := nS (q := (⟨"LevelMachineModel", "changeStack", "(I)V"⟩, 17)) 74 (by decide +kernel)
theorem sl75 : Cond.selects "LevelMachineModel" ⟨"LevelMachineModel", "ofOldStack", "(I)I"⟩ ⟨"LevelMachineModel", "ofOldStack", "(I)I"⟩ ∈ nTc := nS (q := (⟨"LevelMachineModel", "ofOldStack", "(I)I"⟩, 17)) 75 (by decide +kernel)
theorem sl76 : Cond.selects "LevelMachineModel" ⟨"LevelMachineModel", "comeBack", "(III)V"⟩ ⟨"LevelMachineModel", "comeBack", "(III)V"⟩ ∈ nTc := nS (q := (⟨"LevelMachineModel", "comeBack", "(III)V"⟩, 17)) 76 (by decide +kernel)
theorem sl77 : Cond.selects "LevelMachineModel" ⟨"LevelMachineModel", "trap", "(IZ)V"⟩ ⟨"LevelMachineModel", "trap", "(IZ)V"⟩ ∈ nTc := nS (q := (⟨"LevelMachineModel", "trap", "(IZ)V"⟩, 17)) 77 (by decide +kernel)
theorem sl78 : Cond.selects "LevelMachineModel" ⟨"LevelMachineModel", "back", "()V"⟩ ⟨"LevelMachineModel", "back", "()V"⟩ ∈ nTc := nS (q := (⟨"LevelMachineModel", "back", "()V"⟩, 17)) 78 (by decide +kernel)
theorem sl79 : Cond.selects "LevelMachineModel" ⟨"LevelMachineModel", "take", "(I)V"⟩ ⟨"LevelMachineModel", "take", "(I)V"⟩ ∈ nTc := nS (q := (⟨"LevelMachineModel", "take", "(I)V"⟩, 17)) 79 (by decide +kernel)
theorem sl80 : Cond.selects "LevelMachineModel" ⟨"LevelMachineModel", "note", "(II)V"⟩ ⟨"LevelMachineModel", "note", "(II)V"⟩ ∈ nTc := nS (q := (⟨"LevelMachineModel", "note", "(II)V"⟩, 17)) 80 (by decide +kernel)
theorem sl81 : Cond.selects "LevelMachineModel" ⟨"LevelMachineModel", "putBack", "()V"⟩ ⟨"LevelMachineModel", "putBack", "()V"⟩ ∈ nTc := nS (q := (⟨"LevelMachineModel", "putBack", "()V"⟩, 17)) 81 (by decide +kernel)
theorem sl82 : Cond.selects "LevelMachineModel" ⟨"LevelMachineModel", "delivers", "(II)Z"⟩ ⟨"LevelMachineModel", "delivers", "(II)Z"⟩ ∈ nTc := nS (q := (⟨"LevelMachineModel", "delivers", "(II)Z"⟩, 17)) 82 (by decide +kernel)
end
section
def tF0 : List (Nat × Nat × Nat × Nat) := [(9, 0, 0, 0), (15, 0, 1, 0), (18, 0, 2, 0)]
def tK0 : List (Nat × Int) := []
def tS0 : List (Nat × Nat) := [(21, 0), (25, 1)]
def tN0 : List (Nat × Nat × List Bool) := []
def tR0 : List (Nat × Nat) := []
def tO0 : List Nat := [3]
def tA0 : List Nat := []
def tM0 : List (Nat × Nat × Nat × Nat × Nat) := []
theorem tF0_ok_9 {s : State} {args : Array Value} (hT : ∀ w ∈ nTc, w.before args s = true) (hF : ∀ r ∈ nNF, va_Nw (.fieldLinkNest r.1 r.2.1 r.2.2.1 r.2.2.2.1 r.2.2.2.2.1 r.2.2.2.2.2) s) (hM : ∀ r ∈ nNM, va_Nw (.methodLinkNest r.1 r.2.1 r.2.2.1 r.2.2.2) s) : ab_FL s args "LevelMachine$Instruction" nCl nTc 9 0 0 0 := ⟨"LevelMachine$Instruction", nT0, 5, nY0, "LevelMachine$Instruction", rfl, by decide, nU0, nP0, nN0, fun _ h => h, Or.inl (hT _ tw67), fun _ => rfl, fun h => absurd h (by decide), fun _ => rfl, fun h => absurd h (by decide)⟩
theorem tF0_ok_15 {s : State} {args : Array Value} (hT : ∀ w ∈ nTc, w.before args s = true) (hF : ∀ r ∈ nNF, va_Nw (.fieldLinkNest r.1 r.2.1 r.2.2.1 r.2.2.2.1 r.2.2.2.2.1 r.2.2.2.2.2) s) (hM : ∀ r ∈ nNM, va_Nw (.methodLinkNest r.1 r.2.1 r.2.2.1 r.2.2.2) s) : ab_FL s args "LevelMachine$Instruction" nCl nTc 15 0 1 0 := ⟨"LevelMachine$Instruction", nT0, 5, nY0, "LevelMachine$Instruction", rfl, by decide, nU0, nP0, nN0, fun _ h => h, Or.inl (hT _ tw69), fun _ => rfl, fun h => absurd h (by decide), fun _ => rfl, fun h => absurd h (by decide)⟩
theorem tF0_ok_18 {s : State} {args : Array Value} (hT : ∀ w ∈ nTc, w.before args s = true) (hF : ∀ r ∈ nNF, va_Nw (.fieldLinkNest r.1 r.2.1 r.2.2.1 r.2.2.2.1 r.2.2.2.2.1 r.2.2.2.2.2) s) (hM : ∀ r ∈ nNM, va_Nw (.methodLinkNest r.1 r.2.1 r.2.2.1 r.2.2.2) s) : ab_FL s args "LevelMachine$Instruction" nCl nTc 18 0 2 0 := ⟨"LevelMachine$Instruction", nT0, 5, nY0, "LevelMachine$Instruction", rfl, by decide, nU0, nP0, nN0, fun _ h => h, Or.inl (hT _ tw71), fun _ => rfl, fun h => absurd h (by decide), fun _ => rfl, fun h => absurd h (by decide)⟩
theorem tF0_ok {s : State} {args : Array Value} (hT : ∀ w ∈ nTc, w.before args s = true) (hF : ∀ r ∈ nNF, va_Nw (.fieldLinkNest r.1 r.2.1 r.2.2.1 r.2.2.2.1 r.2.2.2.2.1 r.2.2.2.2.2) s) (hM : ∀ r ∈ nNM, va_Nw (.methodLinkNest r.1 r.2.1 r.2.2.1 r.2.2.2) s) : ∀ q ∈ tF0, ab_FL s args "LevelMachine$Instruction" nCl nTc q.1 q.2.1 q.2.2.1 q.2.2.2 := ab_mc (tF0_ok_9 hT hF hM) (ab_mc (tF0_ok_15 hT hF hM) (ab_mc (tF0_ok_18 hT hF hM) ab_mn))
theorem tM0_ok {s : State} {args : Array Value} (hT : ∀ w ∈ nTc, w.before args s = true) (hF : ∀ r ∈ nNF, va_Nw (.fieldLinkNest r.1 r.2.1 r.2.2.1 r.2.2.2.1 r.2.2.2.2.1 r.2.2.2.2.2) s) (hM : ∀ r ∈ nNM, va_Nw (.methodLinkNest r.1 r.2.1 r.2.2.1 r.2.2.2) s) : ∀ q ∈ tM0, GoodIn nTc (.code (nmm q.2.2.1).1 (nmm q.2.2.1).2.1 (nmm q.2.2.1).2.2.1 (nmm q.2.2.1).2.2.2 :: nTc) ∧ ab_ML s args "LevelMachine$Instruction" nCl q.2.1 q.1 (nmm q.2.2.1).1 (nmm q.2.2.1).2.2.2 q.2.2.2.1 q.2.2.2.2 := ab_mn
theorem tN0_ok {s : State} {args : Array Value} (hT : ∀ w ∈ nTc, w.before args s = true) (hF : ∀ r ∈ nNF, va_Nw (.fieldLinkNest r.1 r.2.1 r.2.2.1 r.2.2.2.1 r.2.2.2.2.1 r.2.2.2.2.2) s) (hM : ∀ r ∈ nNM, va_Nw (.methodLinkNest r.1 r.2.1 r.2.2.1 r.2.2.2) s) : ∀ q ∈ tN0, ab_NL s args "LevelMachine$Instruction" nCl nTc q.1 q.2.1 q.2.2 := ab_mn
set_option maxRecDepth 100000 in
theorem tB0 : ab_TB "LevelMachine$Instruction" nCl nRn nSL nNF nNM nTc nmm tF0 tS0 tN0 tR0 tO0 tA0 tK0 tM0 := fun s args hT hF hM => ⟨tF0_ok hT hF hM, ab_mc (fun r h => by cases (show some ("LevelMachine$Instruction", "MOST_Q", "[I", [7, 7, 4, 4, 4, 4, 3, 3, 7, 7, 7, 7, 7, 3, 4, 7, 7, 7, 7, 7, 7, 4]) = some r from h); exact hT _ tw238) (ab_mc (fun r h => by cases (show some ("LevelMachine$Instruction", "TAILS", "[I", [0, 1, 0, 0, 0, 0, 1, 1, 1, 1, 1, 0, 0, 0, 0, 2, 2, 1, 1, 0, 0, 0]) = some r from h); exact hT _ tw244) ab_mn), tN0_ok hT hF hM, hT _ tw28, ab_mn, ab_mc (⟨hT _ tw66, hT _ tw13, hT _ tw14⟩) ab_mn, ab_mn, ab_mn, tM0_ok hT hF hM⟩
def tF1 : List (Nat × Nat × Nat × Nat) := [(11, 1, 0, 3), (15, 1, 1, 3)]
def tK1 : List (Nat × Int) := [(18, 65535)]
def tS1 : List (Nat × Nat) := []
def tN1 : List (Nat × Nat × List Bool) := []
def tR1 : List (Nat × Nat) := []
def tO1 : List Nat := [3]
def tA1 : List Nat := [19]
def tM1 : List (Nat × Nat × Nat × Nat × Nat) := []
theorem tF1_ok_11 {s : State} {args : Array Value} (hT : ∀ w ∈ nTc, w.before args s = true) (hF : ∀ r ∈ nNF, va_Nw (.fieldLinkNest r.1 r.2.1 r.2.2.1 r.2.2.2.1 r.2.2.2.2.1 r.2.2.2.2.2) s) (hM : ∀ r ∈ nNM, va_Nw (.methodLinkNest r.1 r.2.1 r.2.2.1 r.2.2.2) s) : ab_FL s args "LevelMachine$Memory" nCl nTc 11 1 0 3 := ⟨"LevelMachine$Memory", nT1, 2, nY1, "LevelMachine$Memory", rfl, by decide, nU1, nP1, nN1, fun _ h => h, Or.inl (hT _ tw21), fun h => absurd h (by decide), fun _ => Or.inr ⟨_, rfl⟩, fun h => absurd h (by decide), fun _ _ => ⟨rfl, rfl, hT _ tw21⟩⟩
theorem tF1_ok_15 {s : State} {args : Array Value} (hT : ∀ w ∈ nTc, w.before args s = true) (hF : ∀ r ∈ nNF, va_Nw (.fieldLinkNest r.1 r.2.1 r.2.2.1 r.2.2.2.1 r.2.2.2.2.1 r.2.2.2.2.2) s) (hM : ∀ r ∈ nNM, va_Nw (.methodLinkNest r.1 r.2.1 r.2.2.1 r.2.2.2) s) : ab_FL s args "LevelMachine$Memory" nCl nTc 15 1 1 3 := ⟨"LevelMachine$Memory", nT1, 2, nY1, "LevelMachine$Memory", rfl, by decide, nU1, nP1, nN1, fun _ h => h, Or.inl (hT _ tw22), fun h => absurd h (by decide), fun _ => Or.inr ⟨_, rfl⟩, fun h => absurd h (by decide), fun _ _ => ⟨rfl, rfl, hT _ tw22⟩⟩
theorem tF1_ok {s : State} {args : Array Value} (hT : ∀ w ∈ nTc, w.before args s = true) (hF : ∀ r ∈ nNF, va_Nw (.fieldLinkNest r.1 r.2.1 r.2.2.1 r.2.2.2.1 r.2.2.2.2.1 r.2.2.2.2.2) s) (hM : ∀ r ∈ nNM, va_Nw (.methodLinkNest r.1 r.2.1 r.2.2.1 r.2.2.2) s) : ∀ q ∈ tF1, ab_FL s args "LevelMachine$Memory" nCl nTc q.1 q.2.1 q.2.2.1 q.2.2.2 := ab_mc (tF1_ok_11 hT hF hM) (ab_mc (tF1_ok_15 hT hF hM) ab_mn)
theorem tM1_ok {s : State} {args : Array Value} (hT : ∀ w ∈ nTc, w.before args s = true) (hF : ∀ r ∈ nNF, va_Nw (.fieldLinkNest r.1 r.2.1 r.2.2.1 r.2.2.2.1 r.2.2.2.2.1 r.2.2.2.2.2) s) (hM : ∀ r ∈ nNM, va_Nw (.methodLinkNest r.1 r.2.1 r.2.2.1 r.2.2.2) s) : ∀ q ∈ tM1, GoodIn nTc (.code (nmm q.2.2.1).1 (nmm q.2.2.1).2.1 (nmm q.2.2.1).2.2.1 (nmm q.2.2.1).2.2.2 :: nTc) ∧ ab_ML s args "LevelMachine$Memory" nCl q.2.1 q.1 (nmm q.2.2.1).1 (nmm q.2.2.1).2.2.2 q.2.2.2.1 q.2.2.2.2 := ab_mn
theorem tN1_ok {s : State} {args : Array Value} (hT : ∀ w ∈ nTc, w.before args s = true) (hF : ∀ r ∈ nNF, va_Nw (.fieldLinkNest r.1 r.2.1 r.2.2.1 r.2.2.2.1 r.2.2.2.2.1 r.2.2.2.2.2) s) (hM : ∀ r ∈ nNM, va_Nw (.methodLinkNest r.1 r.2.1 r.2.2.1 r.2.2.2) s) : ∀ q ∈ tN1, ab_NL s args "LevelMachine$Memory" nCl nTc q.1 q.2.1 q.2.2 := ab_mn
set_option maxRecDepth 100000 in
theorem tB1 : ab_TB "LevelMachine$Memory" nCl nRn nSL nNF nNM nTc nmm tF1 tS1 tN1 tR1 tO1 tA1 tK1 tM1 := fun s args hT hF hM => ⟨tF1_ok hT hF hM, ab_mn, tN1_ok hT hF hM, hT _ tw28, ab_mn, ab_mc (⟨hT _ tw20, hT _ tw13, hT _ tw14⟩) ab_mn, ab_mc (⟨hT _ tw202, hT _ tw204, hT _ tw203, hT _ tw6⟩) ab_mn, ab_mc (hT _ tw141) ab_mn, tM1_ok hT hF hM⟩
def tF2 : List (Nat × Nat × Nat × Nat) := [(9, 2, 0, 2), (15, 2, 1, 0), (18, 2, 2, 0), (21, 2, 3, 0), (24, 2, 4, 0), (27, 2, 5, 0)]
def tK2 : List (Nat × Int) := []
def tS2 : List (Nat × Nat) := []
def tN2 : List (Nat × Nat × List Bool) := []
def tR2 : List (Nat × Nat) := []
def tO2 : List Nat := [3]
def tA2 : List Nat := []
def tM2 : List (Nat × Nat × Nat × Nat × Nat) := [(30, 0, 122, 1, 1), (36, 0, 123, 1, 1), (39, 0, 124, 1, 1), (41, 0, 125, 1, 1)]
theorem tF2_ok_9 {s : State} {args : Array Value} (hT : ∀ w ∈ nTc, w.before args s = true) (hF : ∀ r ∈ nNF, va_Nw (.fieldLinkNest r.1 r.2.1 r.2.2.1 r.2.2.2.1 r.2.2.2.2.1 r.2.2.2.2.2) s) (hM : ∀ r ∈ nNM, va_Nw (.methodLinkNest r.1 r.2.1 r.2.2.1 r.2.2.2) s) : ab_FL s args "LevelMachine$Segment" nCl nTc 9 2 0 2 := ⟨"LevelMachine$Segment", nT2, 6, nY2, "LevelMachine$Segment", rfl, by decide, nU2, nP2, nN2, fun _ h => h, Or.inl (hT _ tw36), fun _ => rfl, fun h => absurd h (by decide), fun h => absurd h (by decide), fun _ _ => ⟨rfl, rfl, hT _ tw36⟩⟩
theorem tF2_ok_15 {s : State} {args : Array Value} (hT : ∀ w ∈ nTc, w.before args s = true) (hF : ∀ r ∈ nNF, va_Nw (.fieldLinkNest r.1 r.2.1 r.2.2.1 r.2.2.2.1 r.2.2.2.2.1 r.2.2.2.2.2) s) (hM : ∀ r ∈ nNM, va_Nw (.methodLinkNest r.1 r.2.1 r.2.2.1 r.2.2.2) s) : ab_FL s args "LevelMachine$Segment" nCl nTc 15 2 1 0 := ⟨"LevelMachine$Segment", nT2, 6, nY2, "LevelMachine$Segment", rfl, by decide, nU2, nP2, nN2, fun _ h => h, Or.inl (hT _ tw38), fun _ => rfl, fun h => absurd h (by decide), fun _ => rfl, fun h => absurd h (by decide)⟩
theorem tF2_ok_18 {s : State} {args : Array Value} (hT : ∀ w ∈ nTc, w.before args s = true) (hF : ∀ r ∈ nNF, va_Nw (.fieldLinkNest r.1 r.2.1 r.2.2.1 r.2.2.2.1 r.2.2.2.2.1 r.2.2.2.2.2) s) (hM : ∀ r ∈ nNM, va_Nw (.methodLinkNest r.1 r.2.1 r.2.2.1 r.2.2.2) s) : ab_FL s args "LevelMachine$Segment" nCl nTc 18 2 2 0 := ⟨"LevelMachine$Segment", nT2, 6, nY2, "LevelMachine$Segment", rfl, by decide, nU2, nP2, nN2, fun _ h => h, Or.inl (hT _ tw40), fun _ => rfl, fun h => absurd h (by decide), fun _ => rfl, fun h => absurd h (by decide)⟩
theorem tF2_ok_21 {s : State} {args : Array Value} (hT : ∀ w ∈ nTc, w.before args s = true) (hF : ∀ r ∈ nNF, va_Nw (.fieldLinkNest r.1 r.2.1 r.2.2.1 r.2.2.2.1 r.2.2.2.2.1 r.2.2.2.2.2) s) (hM : ∀ r ∈ nNM, va_Nw (.methodLinkNest r.1 r.2.1 r.2.2.1 r.2.2.2) s) : ab_FL s args "LevelMachine$Segment" nCl nTc 21 2 3 0 := ⟨"LevelMachine$Segment", nT2, 6, nY2, "LevelMachine$Segment", rfl, by decide, nU2, nP2, nN2, fun _ h => h, Or.inl (hT _ tw42), fun _ => rfl, fun h => absurd h (by decide), fun _ => rfl, fun h => absurd h (by decide)⟩
theorem tF2_ok_24 {s : State} {args : Array Value} (hT : ∀ w ∈ nTc, w.before args s = true) (hF : ∀ r ∈ nNF, va_Nw (.fieldLinkNest r.1 r.2.1 r.2.2.1 r.2.2.2.1 r.2.2.2.2.1 r.2.2.2.2.2) s) (hM : ∀ r ∈ nNM, va_Nw (.methodLinkNest r.1 r.2.1 r.2.2.1 r.2.2.2) s) : ab_FL s args "LevelMachine$Segment" nCl nTc 24 2 4 0 := ⟨"LevelMachine$Segment", nT2, 6, nY2, "LevelMachine$Segment", rfl, by decide, nU2, nP2, nN2, fun _ h => h, Or.inl (hT _ tw44), fun _ => rfl, fun h => absurd h (by decide), fun _ => rfl, fun h => absurd h (by decide)⟩
theorem tF2_ok_27 {s : State} {args : Array Value} (hT : ∀ w ∈ nTc, w.before args s = true) (hF : ∀ r ∈ nNF, va_Nw (.fieldLinkNest r.1 r.2.1 r.2.2.1 r.2.2.2.1 r.2.2.2.2.1 r.2.2.2.2.2) s) (hM : ∀ r ∈ nNM, va_Nw (.methodLinkNest r.1 r.2.1 r.2.2.1 r.2.2.2) s) : ab_FL s args "LevelMachine$Segment" nCl nTc 27 2 5 0 := ⟨"LevelMachine$Segment", nT2, 6, nY2, "LevelMachine$Segment", rfl, by decide, nU2, nP2, nN2, fun _ h => h, Or.inl (hT _ tw46), fun _ => rfl, fun h => absurd h (by decide), fun _ => rfl, fun h => absurd h (by decide)⟩
theorem tF2_ok {s : State} {args : Array Value} (hT : ∀ w ∈ nTc, w.before args s = true) (hF : ∀ r ∈ nNF, va_Nw (.fieldLinkNest r.1 r.2.1 r.2.2.1 r.2.2.2.1 r.2.2.2.2.1 r.2.2.2.2.2) s) (hM : ∀ r ∈ nNM, va_Nw (.methodLinkNest r.1 r.2.1 r.2.2.1 r.2.2.2) s) : ∀ q ∈ tF2, ab_FL s args "LevelMachine$Segment" nCl nTc q.1 q.2.1 q.2.2.1 q.2.2.2 := ab_mc (tF2_ok_9 hT hF hM) (ab_mc (tF2_ok_15 hT hF hM) (ab_mc (tF2_ok_18 hT hF hM) (ab_mc (tF2_ok_21 hT hF hM) (ab_mc (tF2_ok_24 hT hF hM) (ab_mc (tF2_ok_27 hT hF hM) ab_mn)))))
theorem tM2_ok_30 {s : State} {args : Array Value} (hT : ∀ w ∈ nTc, w.before args s = true) (hF : ∀ r ∈ nNF, va_Nw (.fieldLinkNest r.1 r.2.1 r.2.2.1 r.2.2.2.1 r.2.2.2.2.1 r.2.2.2.2.2) s) (hM : ∀ r ∈ nNM, va_Nw (.methodLinkNest r.1 r.2.1 r.2.2.1 r.2.2.2) s) : GoodIn nTc (.code (nmm 122).1 (nmm 122).2.1 (nmm 122).2.2.1 (nmm 122).2.2.2 :: nTc) ∧ ab_ML s args "LevelMachine$Segment" nCl 0 30 (nmm 122).1 (nmm 122).2.2.2 1 1 := ⟨nG tw177, Or.inl (hT _ tw174), hT _ tw2, ⟨by decide, by decide, by decide +kernel⟩, fun _ => ⟨hT _ tw175, _, rfl, hT _ tw176⟩, fun h => absurd h (by decide), fun h => absurd h (by decide)⟩
theorem tM2_ok_36 {s : State} {args : Array Value} (hT : ∀ w ∈ nTc, w.before args s = true) (hF : ∀ r ∈ nNF, va_Nw (.fieldLinkNest r.1 r.2.1 r.2.2.1 r.2.2.2.1 r.2.2.2.2.1 r.2.2.2.2.2) s) (hM : ∀ r ∈ nNM, va_Nw (.methodLinkNest r.1 r.2.1 r.2.2.1 r.2.2.2) s) : GoodIn nTc (.code (nmm 123).1 (nmm 123).2.1 (nmm 123).2.2.1 (nmm 123).2.2.2 :: nTc) ∧ ab_ML s args "LevelMachine$Segment" nCl 0 36 (nmm 123).1 (nmm 123).2.2.2 1 1 := ⟨nG tw181, Or.inl (hT _ tw178), hT _ tw2, ⟨by decide, by decide, by decide +kernel⟩, fun _ => ⟨hT _ tw179, _, rfl, hT _ tw180⟩, fun h => absurd h (by decide), fun h => absurd h (by decide)⟩
theorem tM2_ok_39 {s : State} {args : Array Value} (hT : ∀ w ∈ nTc, w.before args s = true) (hF : ∀ r ∈ nNF, va_Nw (.fieldLinkNest r.1 r.2.1 r.2.2.1 r.2.2.2.1 r.2.2.2.2.1 r.2.2.2.2.2) s) (hM : ∀ r ∈ nNM, va_Nw (.methodLinkNest r.1 r.2.1 r.2.2.1 r.2.2.2) s) : GoodIn nTc (.code (nmm 124).1 (nmm 124).2.1 (nmm 124).2.2.1 (nmm 124).2.2.2 :: nTc) ∧ ab_ML s args "LevelMachine$Segment" nCl 0 39 (nmm 124).1 (nmm 124).2.2.2 1 1 := ⟨nG tw185, Or.inl (hT _ tw182), hT _ tw2, ⟨by decide, by decide, by decide +kernel⟩, fun _ => ⟨hT _ tw183, _, rfl, hT _ tw184⟩, fun h => absurd h (by decide), fun h => absurd h (by decide)⟩
theorem tM2_ok_41 {s : State} {args : Array Value} (hT : ∀ w ∈ nTc, w.before args s = true) (hF : ∀ r ∈ nNF, va_Nw (.fieldLinkNest r.1 r.2.1 r.2.2.1 r.2.2.2.1 r.2.2.2.2.1 r.2.2.2.2.2) s) (hM : ∀ r ∈ nNM, va_Nw (.methodLinkNest r.1 r.2.1 r.2.2.1 r.2.2.2) s) : GoodIn nTc (.code (nmm 125).1 (nmm 125).2.1 (nmm 125).2.2.1 (nmm 125).2.2.2 :: nTc) ∧ ab_ML s args "LevelMachine$Segment" nCl 0 41 (nmm 125).1 (nmm 125).2.2.2 1 1 := ⟨nG tw189, Or.inl (hT _ tw186), hT _ tw2, ⟨by decide, by decide, by decide +kernel⟩, fun _ => ⟨hT _ tw187, _, rfl, hT _ tw188⟩, fun h => absurd h (by decide), fun h => absurd h (by decide)⟩
theorem tM2_ok {s : State} {args : Array Value} (hT : ∀ w ∈ nTc, w.before args s = true) (hF : ∀ r ∈ nNF, va_Nw (.fieldLinkNest r.1 r.2.1 r.2.2.1 r.2.2.2.1 r.2.2.2.2.1 r.2.2.2.2.2) s) (hM : ∀ r ∈ nNM, va_Nw (.methodLinkNest r.1 r.2.1 r.2.2.1 r.2.2.2) s) : ∀ q ∈ tM2, GoodIn nTc (.code (nmm q.2.2.1).1 (nmm q.2.2.1).2.1 (nmm q.2.2.1).2.2.1 (nmm q.2.2.1).2.2.2 :: nTc) ∧ ab_ML s args "LevelMachine$Segment" nCl q.2.1 q.1 (nmm q.2.2.1).1 (nmm q.2.2.1).2.2.2 q.2.2.2.1 q.2.2.2.2 := ab_mc (tM2_ok_30 hT hF hM) (ab_mc (tM2_ok_36 hT hF hM) (ab_mc (tM2_ok_39 hT hF hM) (ab_mc (tM2_ok_41 hT hF hM) ab_mn)))
theorem tN2_ok {s : State} {args : Array Value} (hT : ∀ w ∈ nTc, w.before args s = true) (hF : ∀ r ∈ nNF, va_Nw (.fieldLinkNest r.1 r.2.1 r.2.2.1 r.2.2.2.1 r.2.2.2.2.1 r.2.2.2.2.2) s) (hM : ∀ r ∈ nNM, va_Nw (.methodLinkNest r.1 r.2.1 r.2.2.1 r.2.2.2) s) : ∀ q ∈ tN2, ab_NL s args "LevelMachine$Segment" nCl nTc q.1 q.2.1 q.2.2 := ab_mn
set_option maxRecDepth 100000 in
theorem tB2 : ab_TB "LevelMachine$Segment" nCl nRn nSL nNF nNM nTc nmm tF2 tS2 tN2 tR2 tO2 tA2 tK2 tM2 := fun s args hT hF hM => ⟨tF2_ok hT hF hM, ab_mn, tN2_ok hT hF hM, hT _ tw28, ab_mn, ab_mc (⟨hT _ tw35, hT _ tw13, hT _ tw14⟩) ab_mn, ab_mn, ab_mn, tM2_ok hT hF hM⟩
def tF3 : List (Nat × Nat × Nat × Nat) := [(10, 3, 0, 3), (16, 3, 1, 3), (20, 3, 2, 3), (25, 3, 3, 3), (29, 3, 4, 3), (35, 3, 5, 3), (42, 3, 6, 3), (71, 3, 7, 0), (89, 3, 10, 0), (92, 3, 11, 0), (95, 3, 12, 0), (98, 2, 1, 0), (101, 2, 2, 0), (104, 2, 3, 0), (107, 2, 4, 0), (110, 2, 5, 0), (130, 3, 8, 0), (134, 3, 9, 0), (157, 2, 0, 4), (180, 0, 3, 0), (183, 0, 4, 0), (189, 0, 1, 0), (192, 0, 2, 0), (195, 0, 0, 0)]
def tK3 : List (Nat × Int) := [(113, 65535), (133, 65532), (248, 32768)]
def tS3 : List (Nat × Nat) := []
def tN3 : List (Nat × Nat × List Bool) := [(7, 1, [false, false]), (23, 2, [true, true, true, true, true, true]), (39, 0, [true, true, true, true, true])]
def tR3 : List (Nat × Nat) := [(23, 0)]
def tO3 : List Nat := [1]
def tA3 : List Nat := [117]
def tM3 : List (Nat × Nat × Nat × Nat × Nat) := [(9, 2, 114, 0, 1), (32, 2, 129, 1, 2), (41, 2, 110, 0, 0), (46, 1, 116, 1, 1), (50, 1, 10, 1, 3), (53, 0, 118, 2, 1), (57, 0, 117, 1, 1), (61, 0, 121, 1, 1), (64, 0, 130, 0, 2), (67, 0, 131, 2, 2), (75, 0, 13, 0, 3), (78, 0, 24, 0, 3), (82, 0, 17, 0, 3), (85, 0, 12, 0, 3), (114, 0, 119, 0, 1), (123, 0, 132, 1, 2), (127, 0, 120, 0, 1), (137, 0, 14, 0, 3), (140, 0, 16, 2, 3), (143, 0, 39, 2, 3), (147, 0, 20, 1, 3), (150, 1, 115, 1, 1), (153, 0, 15, 2, 3), (160, 0, 19, 3, 3), (164, 0, 18, 2, 3), (168, 0, 22, 0, 3), (171, 0, 111, 1, 0), (174, 0, 112, 0, 0), (177, 0, 113, 0, 0), (186, 0, 23, 0, 3), (198, 0, 25, 0, 3), (201, 0, 26, 2, 3), (204, 0, 27, 1, 3), (207, 0, 28, 2, 3), (210, 0, 30, 2, 3), (213, 0, 29, 0, 3), (216, 0, 21, 0, 3), (219, 0, 33, 1, 3), (222, 0, 32, 2, 3), (226, 1, 11, 1, 3), (229, 0, 37, 3, 3), (233, 0, 38, 2, 3), (236, 0, 44, 2, 3), (239, 0, 43, 0, 3), (242, 0, 34, 1, 3), (245, 0, 31, 2, 3), (249, 0, 125, 1, 1), (251, 0, 126, 1, 1), (254, 0, 128, 2, 1), (257, 0, 123, 1, 1), (260, 0, 35, 3, 3), (264, 0, 36, 3, 3), (267, 0, 122, 1, 1), (270, 0, 47, 2, 3), (273, 0, 127, 1, 1), (276, 0, 40, 4, 3), (280, 0, 124, 1, 1), (282, 0, 41, 1, 3), (285, 0, 42, 2, 3), (288, 0, 45, 3, 3), (291, 0, 46, 1, 3), (294, 0, 48, 1, 3), (297, 0, 50, 1, 3), (300, 0, 49, 2, 3)]
theorem tF3_ok_10 {s : State} {args : Array Value} (hT : ∀ w ∈ nTc, w.before args s = true) (hF : ∀ r ∈ nNF, va_Nw (.fieldLinkNest r.1 r.2.1 r.2.2.1 r.2.2.2.1 r.2.2.2.2.1 r.2.2.2.2.2) s) (hM : ∀ r ∈ nNM, va_Nw (.methodLinkNest r.1 r.2.1 r.2.2.1 r.2.2.2) s) : ab_FL s args "LevelMachine" nCl nTc 10 3 0 3 := ⟨"LevelMachine", nT3, 13, nY3, "LevelMachine", rfl, by decide, nU3, nP3, nN3, fun _ h => h, Or.inl (hT _ tw86), fun h => absurd h (by decide), fun _ => Or.inl ⟨_, rfl⟩, fun h => absurd h (by decide), fun _ _ => ⟨rfl, rfl, hT _ tw86⟩⟩
theorem tF3_ok_16 {s : State} {args : Array Value} (hT : ∀ w ∈ nTc, w.before args s = true) (hF : ∀ r ∈ nNF, va_Nw (.fieldLinkNest r.1 r.2.1 r.2.2.1 r.2.2.2.1 r.2.2.2.2.1 r.2.2.2.2.2) s) (hM : ∀ r ∈ nNM, va_Nw (.methodLinkNest r.1 r.2.1 r.2.2.1 r.2.2.2) s) : ab_FL s args "LevelMachine" nCl nTc 16 3 1 3 := ⟨"LevelMachine", nT3, 13, nY3, "LevelMachine", rfl, by decide, nU3, nP3, nN3, fun _ h => h, Or.inl (hT _ tw87), fun h => absurd h (by decide), fun _ => Or.inr ⟨_, rfl⟩, fun h => absurd h (by decide), fun _ _ => ⟨rfl, rfl, hT _ tw87⟩⟩
theorem tF3_ok_20 {s : State} {args : Array Value} (hT : ∀ w ∈ nTc, w.before args s = true) (hF : ∀ r ∈ nNF, va_Nw (.fieldLinkNest r.1 r.2.1 r.2.2.1 r.2.2.2.1 r.2.2.2.2.1 r.2.2.2.2.2) s) (hM : ∀ r ∈ nNM, va_Nw (.methodLinkNest r.1 r.2.1 r.2.2.1 r.2.2.2) s) : ab_FL s args "LevelMachine" nCl nTc 20 3 2 3 := ⟨"LevelMachine", nT3, 13, nY3, "LevelMachine", rfl, by decide, nU3, nP3, nN3, fun _ h => h, Or.inl (hT _ tw88), fun h => absurd h (by decide), fun _ => Or.inr ⟨_, rfl⟩, fun h => absurd h (by decide), fun _ _ => ⟨rfl, rfl, hT _ tw88⟩⟩
theorem tF3_ok_25 {s : State} {args : Array Value} (hT : ∀ w ∈ nTc, w.before args s = true) (hF : ∀ r ∈ nNF, va_Nw (.fieldLinkNest r.1 r.2.1 r.2.2.1 r.2.2.2.1 r.2.2.2.2.1 r.2.2.2.2.2) s) (hM : ∀ r ∈ nNM, va_Nw (.methodLinkNest r.1 r.2.1 r.2.2.1 r.2.2.2) s) : ab_FL s args "LevelMachine" nCl nTc 25 3 3 3 := ⟨"LevelMachine", nT3, 13, nY3, "LevelMachine", rfl, by decide, nU3, nP3, nN3, fun _ h => h, Or.inl (hT _ tw89), fun h => absurd h (by decide), fun _ => Or.inr ⟨_, rfl⟩, fun h => absurd h (by decide), fun _ _ => ⟨rfl, rfl, hT _ tw89⟩⟩
theorem tF3_ok_29 {s : State} {args : Array Value} (hT : ∀ w ∈ nTc, w.before args s = true) (hF : ∀ r ∈ nNF, va_Nw (.fieldLinkNest r.1 r.2.1 r.2.2.1 r.2.2.2.1 r.2.2.2.2.1 r.2.2.2.2.2) s) (hM : ∀ r ∈ nNM, va_Nw (.methodLinkNest r.1 r.2.1 r.2.2.1 r.2.2.2) s) : ab_FL s args "LevelMachine" nCl nTc 29 3 4 3 := ⟨"LevelMachine", nT3, 13, nY3, "LevelMachine", rfl, by decide, nU3, nP3, nN3, fun _ h => h, Or.inl (hT _ tw90), fun h => absurd h (by decide), fun _ => Or.inr ⟨_, rfl⟩, fun h => absurd h (by decide), fun _ _ => ⟨rfl, rfl, hT _ tw90⟩⟩
theorem tF3_ok_35 {s : State} {args : Array Value} (hT : ∀ w ∈ nTc, w.before args s = true) (hF : ∀ r ∈ nNF, va_Nw (.fieldLinkNest r.1 r.2.1 r.2.2.1 r.2.2.2.1 r.2.2.2.2.1 r.2.2.2.2.2) s) (hM : ∀ r ∈ nNM, va_Nw (.methodLinkNest r.1 r.2.1 r.2.2.1 r.2.2.2) s) : ab_FL s args "LevelMachine" nCl nTc 35 3 5 3 := ⟨"LevelMachine", nT3, 13, nY3, "LevelMachine", rfl, by decide, nU3, nP3, nN3, fun _ h => h, Or.inl (hT _ tw91), fun h => absurd h (by decide), fun _ => Or.inl ⟨_, rfl⟩, fun h => absurd h (by decide), fun _ _ => ⟨rfl, rfl, hT _ tw91⟩⟩
theorem tF3_ok_42 {s : State} {args : Array Value} (hT : ∀ w ∈ nTc, w.before args s = true) (hF : ∀ r ∈ nNF, va_Nw (.fieldLinkNest r.1 r.2.1 r.2.2.1 r.2.2.2.1 r.2.2.2.2.1 r.2.2.2.2.2) s) (hM : ∀ r ∈ nNM, va_Nw (.methodLinkNest r.1 r.2.1 r.2.2.1 r.2.2.2) s) : ab_FL s args "LevelMachine" nCl nTc 42 3 6 3 := ⟨"LevelMachine", nT3, 13, nY3, "LevelMachine", rfl, by decide, nU3, nP3, nN3, fun _ h => h, Or.inl (hT _ tw92), fun h => absurd h (by decide), fun _ => Or.inl ⟨_, rfl⟩, fun h => absurd h (by decide), fun _ _ => ⟨rfl, rfl, hT _ tw92⟩⟩
theorem tF3_ok_71 {s : State} {args : Array Value} (hT : ∀ w ∈ nTc, w.before args s = true) (hF : ∀ r ∈ nNF, va_Nw (.fieldLinkNest r.1 r.2.1 r.2.2.1 r.2.2.2.1 r.2.2.2.2.1 r.2.2.2.2.2) s) (hM : ∀ r ∈ nNM, va_Nw (.methodLinkNest r.1 r.2.1 r.2.2.1 r.2.2.2) s) : ab_FL s args "LevelMachine" nCl nTc 71 3 7 0 := ⟨"LevelMachine", nT3, 13, nY3, "LevelMachine", rfl, by decide, nU3, nP3, nN3, fun _ h => h, Or.inl (hT _ tw93), fun _ => rfl, fun h => absurd h (by decide), fun _ => rfl, fun h => absurd h (by decide)⟩
theorem tF3_ok_89 {s : State} {args : Array Value} (hT : ∀ w ∈ nTc, w.before args s = true) (hF : ∀ r ∈ nNF, va_Nw (.fieldLinkNest r.1 r.2.1 r.2.2.1 r.2.2.2.1 r.2.2.2.2.1 r.2.2.2.2.2) s) (hM : ∀ r ∈ nNM, va_Nw (.methodLinkNest r.1 r.2.1 r.2.2.1 r.2.2.2) s) : ab_FL s args "LevelMachine" nCl nTc 89 3 10 0 := ⟨"LevelMachine", nT3, 13, nY3, "LevelMachine", rfl, by decide, nU3, nP3, nN3, fun _ h => h, Or.inl (hT _ tw96), fun _ => rfl, fun h => absurd h (by decide), fun _ => rfl, fun h => absurd h (by decide)⟩
theorem tF3_ok_92 {s : State} {args : Array Value} (hT : ∀ w ∈ nTc, w.before args s = true) (hF : ∀ r ∈ nNF, va_Nw (.fieldLinkNest r.1 r.2.1 r.2.2.1 r.2.2.2.1 r.2.2.2.2.1 r.2.2.2.2.2) s) (hM : ∀ r ∈ nNM, va_Nw (.methodLinkNest r.1 r.2.1 r.2.2.1 r.2.2.2) s) : ab_FL s args "LevelMachine" nCl nTc 92 3 11 0 := ⟨"LevelMachine", nT3, 13, nY3, "LevelMachine", rfl, by decide, nU3, nP3, nN3, fun _ h => h, Or.inl (hT _ tw97), fun _ => rfl, fun h => absurd h (by decide), fun _ => rfl, fun h => absurd h (by decide)⟩
theorem tF3_ok_95 {s : State} {args : Array Value} (hT : ∀ w ∈ nTc, w.before args s = true) (hF : ∀ r ∈ nNF, va_Nw (.fieldLinkNest r.1 r.2.1 r.2.2.1 r.2.2.2.1 r.2.2.2.2.1 r.2.2.2.2.2) s) (hM : ∀ r ∈ nNM, va_Nw (.methodLinkNest r.1 r.2.1 r.2.2.1 r.2.2.2) s) : ab_FL s args "LevelMachine" nCl nTc 95 3 12 0 := ⟨"LevelMachine", nT3, 13, nY3, "LevelMachine", rfl, by decide, nU3, nP3, nN3, fun _ h => h, Or.inl (hT _ tw98), fun _ => rfl, fun h => absurd h (by decide), fun _ => rfl, fun h => absurd h (by decide)⟩
theorem tF3_ok_98 {s : State} {args : Array Value} (hT : ∀ w ∈ nTc, w.before args s = true) (hF : ∀ r ∈ nNF, va_Nw (.fieldLinkNest r.1 r.2.1 r.2.2.1 r.2.2.2.1 r.2.2.2.2.1 r.2.2.2.2.2) s) (hM : ∀ r ∈ nNM, va_Nw (.methodLinkNest r.1 r.2.1 r.2.2.1 r.2.2.2) s) : ab_FL s args "LevelMachine" nCl nTc 98 2 1 0 := ⟨"LevelMachine$Segment", nT2, 6, nY2, "LevelMachine$Segment", rfl, by decide, nU2, nP2, nN2, fun _ h => h, Or.inr ⟨"LevelMachine", va_Nw.use rfl (hF _ (List.mem_of_getElem? (i := 1) rfl))⟩, fun _ => rfl, fun h => absurd h (by decide), fun _ => rfl, fun h => absurd h (by decide)⟩
theorem tF3_ok_101 {s : State} {args : Array Value} (hT : ∀ w ∈ nTc, w.before args s = true) (hF : ∀ r ∈ nNF, va_Nw (.fieldLinkNest r.1 r.2.1 r.2.2.1 r.2.2.2.1 r.2.2.2.2.1 r.2.2.2.2.2) s) (hM : ∀ r ∈ nNM, va_Nw (.methodLinkNest r.1 r.2.1 r.2.2.1 r.2.2.2) s) : ab_FL s args "LevelMachine" nCl nTc 101 2 2 0 := ⟨"LevelMachine$Segment", nT2, 6, nY2, "LevelMachine$Segment", rfl, by decide, nU2, nP2, nN2, fun _ h => h, Or.inr ⟨"LevelMachine", va_Nw.use rfl (hF _ (List.mem_of_getElem? (i := 2) rfl))⟩, fun _ => rfl, fun h => absurd h (by decide), fun _ => rfl, fun h => absurd h (by decide)⟩
theorem tF3_ok_104 {s : State} {args : Array Value} (hT : ∀ w ∈ nTc, w.before args s = true) (hF : ∀ r ∈ nNF, va_Nw (.fieldLinkNest r.1 r.2.1 r.2.2.1 r.2.2.2.1 r.2.2.2.2.1 r.2.2.2.2.2) s) (hM : ∀ r ∈ nNM, va_Nw (.methodLinkNest r.1 r.2.1 r.2.2.1 r.2.2.2) s) : ab_FL s args "LevelMachine" nCl nTc 104 2 3 0 := ⟨"LevelMachine$Segment", nT2, 6, nY2, "LevelMachine$Segment", rfl, by decide, nU2, nP2, nN2, fun _ h => h, Or.inr ⟨"LevelMachine", va_Nw.use rfl (hF _ (List.mem_of_getElem? (i := 3) rfl))⟩, fun _ => rfl, fun h => absurd h (by decide), fun _ => rfl, fun h => absurd h (by decide)⟩
theorem tF3_ok_107 {s : State} {args : Array Value} (hT : ∀ w ∈ nTc, w.before args s = true) (hF : ∀ r ∈ nNF, va_Nw (.fieldLinkNest r.1 r.2.1 r.2.2.1 r.2.2.2.1 r.2.2.2.2.1 r.2.2.2.2.2) s) (hM : ∀ r ∈ nNM, va_Nw (.methodLinkNest r.1 r.2.1 r.2.2.1 r.2.2.2) s) : ab_FL s args "LevelMachine" nCl nTc 107 2 4 0 := ⟨"LevelMachine$Segment", nT2, 6, nY2, "LevelMachine$Segment", rfl, by decide, nU2, nP2, nN2, fun _ h => h, Or.inr ⟨"LevelMachine", va_Nw.use rfl (hF _ (List.mem_of_getElem? (i := 4) rfl))⟩, fun _ => rfl, fun h => absurd h (by decide), fun _ => rfl, fun h => absurd h (by decide)⟩
theorem tF3_ok_110 {s : State} {args : Array Value} (hT : ∀ w ∈ nTc, w.before args s = true) (hF : ∀ r ∈ nNF, va_Nw (.fieldLinkNest r.1 r.2.1 r.2.2.1 r.2.2.2.1 r.2.2.2.2.1 r.2.2.2.2.2) s) (hM : ∀ r ∈ nNM, va_Nw (.methodLinkNest r.1 r.2.1 r.2.2.1 r.2.2.2) s) : ab_FL s args "LevelMachine" nCl nTc 110 2 5 0 := ⟨"LevelMachine$Segment", nT2, 6, nY2, "LevelMachine$Segment", rfl, by decide, nU2, nP2, nN2, fun _ h => h, Or.inr ⟨"LevelMachine", va_Nw.use rfl (hF _ (List.mem_of_getElem? (i := 5) rfl))⟩, fun _ => rfl, fun h => absurd h (by decide), fun _ => rfl, fun h => absurd h (by decide)⟩
theorem tF3_ok_130 {s : State} {args : Array Value} (hT : ∀ w ∈ nTc, w.before args s = true) (hF : ∀ r ∈ nNF, va_Nw (.fieldLinkNest r.1 r.2.1 r.2.2.1 r.2.2.2.1 r.2.2.2.2.1 r.2.2.2.2.2) s) (hM : ∀ r ∈ nNM, va_Nw (.methodLinkNest r.1 r.2.1 r.2.2.1 r.2.2.2) s) : ab_FL s args "LevelMachine" nCl nTc 130 3 8 0 := ⟨"LevelMachine", nT3, 13, nY3, "LevelMachine", rfl, by decide, nU3, nP3, nN3, fun _ h => h, Or.inl (hT _ tw94), fun _ => rfl, fun h => absurd h (by decide), fun _ => rfl, fun h => absurd h (by decide)⟩
theorem tF3_ok_134 {s : State} {args : Array Value} (hT : ∀ w ∈ nTc, w.before args s = true) (hF : ∀ r ∈ nNF, va_Nw (.fieldLinkNest r.1 r.2.1 r.2.2.1 r.2.2.2.1 r.2.2.2.2.1 r.2.2.2.2.2) s) (hM : ∀ r ∈ nNM, va_Nw (.methodLinkNest r.1 r.2.1 r.2.2.1 r.2.2.2) s) : ab_FL s args "LevelMachine" nCl nTc 134 3 9 0 := ⟨"LevelMachine", nT3, 13, nY3, "LevelMachine", rfl, by decide, nU3, nP3, nN3, fun _ h => h, Or.inl (hT _ tw95), fun _ => rfl, fun h => absurd h (by decide), fun _ => rfl, fun h => absurd h (by decide)⟩
theorem tF3_ok_157 {s : State} {args : Array Value} (hT : ∀ w ∈ nTc, w.before args s = true) (hF : ∀ r ∈ nNF, va_Nw (.fieldLinkNest r.1 r.2.1 r.2.2.1 r.2.2.2.1 r.2.2.2.2.1 r.2.2.2.2.2) s) (hM : ∀ r ∈ nNM, va_Nw (.methodLinkNest r.1 r.2.1 r.2.2.1 r.2.2.2) s) : ab_FL s args "LevelMachine" nCl nTc 157 2 0 4 := ⟨"LevelMachine$Segment", nT2, 6, nY2, "LevelMachine$Segment", rfl, by decide, nU2, nP2, nN2, fun _ h => h, Or.inr ⟨"LevelMachine", va_Nw.use rfl (hF _ (List.mem_of_getElem? (i := 0) rfl))⟩, fun _ => rfl, fun h => absurd h (by decide), fun h => absurd h (by decide), fun _ h => absurd h (by decide)⟩
theorem tF3_ok_180 {s : State} {args : Array Value} (hT : ∀ w ∈ nTc, w.before args s = true) (hF : ∀ r ∈ nNF, va_Nw (.fieldLinkNest r.1 r.2.1 r.2.2.1 r.2.2.2.1 r.2.2.2.2.1 r.2.2.2.2.2) s) (hM : ∀ r ∈ nNM, va_Nw (.methodLinkNest r.1 r.2.1 r.2.2.1 r.2.2.2) s) : ab_FL s args "LevelMachine" nCl nTc 180 0 3 0 := ⟨"LevelMachine$Instruction", nT0, 5, nY0, "LevelMachine$Instruction", rfl, by decide, nU0, nP0, nN0, fun _ h => h, Or.inr ⟨"LevelMachine", va_Nw.use rfl (hF _ (List.mem_of_getElem? (i := 9) rfl))⟩, fun _ => rfl, fun h => absurd h (by decide), fun _ => rfl, fun h => absurd h (by decide)⟩
theorem tF3_ok_183 {s : State} {args : Array Value} (hT : ∀ w ∈ nTc, w.before args s = true) (hF : ∀ r ∈ nNF, va_Nw (.fieldLinkNest r.1 r.2.1 r.2.2.1 r.2.2.2.1 r.2.2.2.2.1 r.2.2.2.2.2) s) (hM : ∀ r ∈ nNM, va_Nw (.methodLinkNest r.1 r.2.1 r.2.2.1 r.2.2.2) s) : ab_FL s args "LevelMachine" nCl nTc 183 0 4 0 := ⟨"LevelMachine$Instruction", nT0, 5, nY0, "LevelMachine$Instruction", rfl, by decide, nU0, nP0, nN0, fun _ h => h, Or.inr ⟨"LevelMachine", va_Nw.use rfl (hF _ (List.mem_of_getElem? (i := 10) rfl))⟩, fun _ => rfl, fun h => absurd h (by decide), fun _ => rfl, fun h => absurd h (by decide)⟩
theorem tF3_ok_189 {s : State} {args : Array Value} (hT : ∀ w ∈ nTc, w.before args s = true) (hF : ∀ r ∈ nNF, va_Nw (.fieldLinkNest r.1 r.2.1 r.2.2.1 r.2.2.2.1 r.2.2.2.2.1 r.2.2.2.2.2) s) (hM : ∀ r ∈ nNM, va_Nw (.methodLinkNest r.1 r.2.1 r.2.2.1 r.2.2.2) s) : ab_FL s args "LevelMachine" nCl nTc 189 0 1 0 := ⟨"LevelMachine$Instruction", nT0, 5, nY0, "LevelMachine$Instruction", rfl, by decide, nU0, nP0, nN0, fun _ h => h, Or.inr ⟨"LevelMachine", va_Nw.use rfl (hF _ (List.mem_of_getElem? (i := 7) rfl))⟩, fun _ => rfl, fun h => absurd h (by decide), fun _ => rfl, fun h => absurd h (by decide)⟩
theorem tF3_ok_192 {s : State} {args : Array Value} (hT : ∀ w ∈ nTc, w.before args s = true) (hF : ∀ r ∈ nNF, va_Nw (.fieldLinkNest r.1 r.2.1 r.2.2.1 r.2.2.2.1 r.2.2.2.2.1 r.2.2.2.2.2) s) (hM : ∀ r ∈ nNM, va_Nw (.methodLinkNest r.1 r.2.1 r.2.2.1 r.2.2.2) s) : ab_FL s args "LevelMachine" nCl nTc 192 0 2 0 := ⟨"LevelMachine$Instruction", nT0, 5, nY0, "LevelMachine$Instruction", rfl, by decide, nU0, nP0, nN0, fun _ h => h, Or.inr ⟨"LevelMachine", va_Nw.use rfl (hF _ (List.mem_of_getElem? (i := 8) rfl))⟩, fun _ => rfl, fun h => absurd h (by decide), fun _ => rfl, fun h => absurd h (by decide)⟩
theorem tF3_ok_195 {s : State} {args : Array Value} (hT : ∀ w ∈ nTc, w.before args s = true) (hF : ∀ r ∈ nNF, va_Nw (.fieldLinkNest r.1 r.2.1 r.2.2.1 r.2.2.2.1 r.2.2.2.2.1 r.2.2.2.2.2) s) (hM : ∀ r ∈ nNM, va_Nw (.methodLinkNest r.1 r.2.1 r.2.2.1 r.2.2.2) s) : ab_FL s args "LevelMachine" nCl nTc 195 0 0 0 := ⟨"LevelMachine$Instruction", nT0, 5, nY0, "LevelMachine$Instruction", rfl, by decide, nU0, nP0, nN0, fun _ h => h, Or.inr ⟨"LevelMachine", va_Nw.use rfl (hF _ (List.mem_of_getElem? (i := 6) rfl))⟩, fun _ => rfl, fun h => absurd h (by decide), fun _ => rfl, fun h => absurd h (by decide)⟩
theorem tF3_ok {s : State} {args : Array Value} (hT : ∀ w ∈ nTc, w.before args s = true) (hF : ∀ r ∈ nNF, va_Nw (.fieldLinkNest r.1 r.2.1 r.2.2.1 r.2.2.2.1 r.2.2.2.2.1 r.2.2.2.2.2) s) (hM : ∀ r ∈ nNM, va_Nw (.methodLinkNest r.1 r.2.1 r.2.2.1 r.2.2.2) s) : ∀ q ∈ tF3, ab_FL s args "LevelMachine" nCl nTc q.1 q.2.1 q.2.2.1 q.2.2.2 := ab_mc (tF3_ok_10 hT hF hM) (ab_mc (tF3_ok_16 hT hF hM) (ab_mc (tF3_ok_20 hT hF hM) (ab_mc (tF3_ok_25 hT hF hM) (ab_mc (tF3_ok_29 hT hF hM) (ab_mc (tF3_ok_35 hT hF hM) (ab_mc (tF3_ok_42 hT hF hM) (ab_mc (tF3_ok_71 hT hF hM) (ab_mc (tF3_ok_89 hT hF hM) (ab_mc (tF3_ok_92 hT hF hM) (ab_mc (tF3_ok_95 hT hF hM) (ab_mc (tF3_ok_98 hT hF hM) (ab_mc (tF3_ok_101 hT hF hM) (ab_mc (tF3_ok_104 hT hF hM) (ab_mc (tF3_ok_107 hT hF hM) (ab_mc (tF3_ok_110 hT hF hM) (ab_mc (tF3_ok_130 hT hF hM) (ab_mc (tF3_ok_134 hT hF hM) (ab_mc (tF3_ok_157 hT hF hM) (ab_mc (tF3_ok_180 hT hF hM) (ab_mc (tF3_ok_183 hT hF hM) (ab_mc (tF3_ok_189 hT hF hM) (ab_mc (tF3_ok_192 hT hF hM) (ab_mc (tF3_ok_195 hT hF hM) ab_mn)))))))))))))))))))))))
theorem tM3_ok_9 {s : State} {args : Array Value} (hT : ∀ w ∈ nTc, w.before args s = true) (hF : ∀ r ∈ nNF, va_Nw (.fieldLinkNest r.1 r.2.1 r.2.2.1 r.2.2.2.1 r.2.2.2.2.1 r.2.2.2.2.2) s) (hM : ∀ r ∈ nNM, va_Nw (.methodLinkNest r.1 r.2.1 r.2.2.1 r.2.2.2) s) : GoodIn nTc (.code (nmm 114).1 (nmm 114).2.1 (nmm 114).2.2.1 (nmm 114).2.2.2 :: nTc) ∧ ab_ML s args "LevelMachine" nCl 2 9 (nmm 114).1 (nmm 114).2.2.2 0 1 := ⟨nG tw19, Or.inl (hT _ tw17), hT _ tw2, ⟨by decide, by decide, by decide +kernel⟩, fun h => absurd h (by decide), fun h => absurd h (by decide), fun _ => ⟨rfl, hT _ tw18, rfl⟩⟩
theorem tM3_ok_32 {s : State} {args : Array Value} (hT : ∀ w ∈ nTc, w.before args s = true) (hF : ∀ r ∈ nNF, va_Nw (.fieldLinkNest r.1 r.2.1 r.2.2.1 r.2.2.2.1 r.2.2.2.2.1 r.2.2.2.2.2) s) (hM : ∀ r ∈ nNM, va_Nw (.methodLinkNest r.1 r.2.1 r.2.2.1 r.2.2.2) s) : GoodIn nTc (.code (nmm 129).1 (nmm 129).2.1 (nmm 129).2.2.1 (nmm 129).2.2.2 :: nTc) ∧ ab_ML s args "LevelMachine" nCl 2 32 (nmm 129).1 (nmm 129).2.2.2 1 2 := ⟨nG tw34, Or.inl (hT _ tw32), hT _ tw3, ⟨by decide, by decide, by decide +kernel⟩, fun h => absurd h (by decide), fun h => absurd h (by decide), fun _ => ⟨rfl, hT _ tw33, rfl⟩⟩
theorem tM3_ok_41 {s : State} {args : Array Value} (hT : ∀ w ∈ nTc, w.before args s = true) (hF : ∀ r ∈ nNF, va_Nw (.fieldLinkNest r.1 r.2.1 r.2.2.1 r.2.2.2.1 r.2.2.2.2.1 r.2.2.2.2.2) s) (hM : ∀ r ∈ nNM, va_Nw (.methodLinkNest r.1 r.2.1 r.2.2.1 r.2.2.2) s) : GoodIn nTc (.code (nmm 110).1 (nmm 110).2.1 (nmm 110).2.2.1 (nmm 110).2.2.2 :: nTc) ∧ ab_ML s args "LevelMachine" nCl 2 41 (nmm 110).1 (nmm 110).2.2.2 0 0 := ⟨nG tw65, Or.inr ⟨"LevelMachine", va_Nw.use rfl (hM _ (List.mem_of_getElem? (i := 0) rfl))⟩, hT _ tw4, ⟨by decide, by decide, by decide +kernel⟩, fun h => absurd h (by decide), fun h => absurd h (by decide), fun _ => ⟨rfl, hT _ tw64, rfl⟩⟩
theorem tM3_ok_46 {s : State} {args : Array Value} (hT : ∀ w ∈ nTc, w.before args s = true) (hF : ∀ r ∈ nNF, va_Nw (.fieldLinkNest r.1 r.2.1 r.2.2.1 r.2.2.2.1 r.2.2.2.2.1 r.2.2.2.2.2) s) (hM : ∀ r ∈ nNM, va_Nw (.methodLinkNest r.1 r.2.1 r.2.2.1 r.2.2.2) s) : GoodIn nTc (.code (nmm 116).1 (nmm 116).2.1 (nmm 116).2.2.1 (nmm 116).2.2.2 :: nTc) ∧ ab_ML s args "LevelMachine" nCl 1 46 (nmm 116).1 (nmm 116).2.2.2 1 1 := ⟨nG tw132, Or.inl (hT _ tw130), hT _ tw2, ⟨by decide, by decide, by decide +kernel⟩, fun h => absurd h (by decide), fun _ => hT _ tw131, fun h => absurd h (by decide)⟩
theorem tM3_ok_50 {s : State} {args : Array Value} (hT : ∀ w ∈ nTc, w.before args s = true) (hF : ∀ r ∈ nNF, va_Nw (.fieldLinkNest r.1 r.2.1 r.2.2.1 r.2.2.2.1 r.2.2.2.2.1 r.2.2.2.2.2) s) (hM : ∀ r ∈ nNM, va_Nw (.methodLinkNest r.1 r.2.1 r.2.2.1 r.2.2.2) s) : GoodIn nTc (.code (nmm 10).1 (nmm 10).2.1 (nmm 10).2.2.1 (nmm 10).2.2.2 :: nTc) ∧ ab_ML s args "LevelMachine" nCl 1 50 (nmm 10).1 (nmm 10).2.2.2 1 3 := ⟨nG tw135, Or.inl (hT _ tw133), hT _ tw1, ⟨by decide, by decide, by decide +kernel⟩, fun h => absurd h (by decide), fun _ => hT _ tw134, fun h => absurd h (by decide)⟩
theorem tM3_ok_53 {s : State} {args : Array Value} (hT : ∀ w ∈ nTc, w.before args s = true) (hF : ∀ r ∈ nNF, va_Nw (.fieldLinkNest r.1 r.2.1 r.2.2.1 r.2.2.2.1 r.2.2.2.2.1 r.2.2.2.2.2) s) (hM : ∀ r ∈ nNM, va_Nw (.methodLinkNest r.1 r.2.1 r.2.2.1 r.2.2.2) s) : GoodIn nTc (.code (nmm 118).1 (nmm 118).2.1 (nmm 118).2.2.1 (nmm 118).2.2.2 :: nTc) ∧ ab_ML s args "LevelMachine" nCl 0 53 (nmm 118).1 (nmm 118).2.2.2 2 1 := ⟨nG tw140, Or.inl (hT _ tw137), hT _ tw2, ⟨by decide, by decide, by decide +kernel⟩, fun _ => ⟨hT _ tw138, _, rfl, hT _ tw139⟩, fun h => absurd h (by decide), fun h => absurd h (by decide)⟩
theorem tM3_ok_57 {s : State} {args : Array Value} (hT : ∀ w ∈ nTc, w.before args s = true) (hF : ∀ r ∈ nNF, va_Nw (.fieldLinkNest r.1 r.2.1 r.2.2.1 r.2.2.2.1 r.2.2.2.2.1 r.2.2.2.2.2) s) (hM : ∀ r ∈ nNM, va_Nw (.methodLinkNest r.1 r.2.1 r.2.2.1 r.2.2.2) s) : GoodIn nTc (.code (nmm 117).1 (nmm 117).2.1 (nmm 117).2.2.1 (nmm 117).2.2.2 :: nTc) ∧ ab_ML s args "LevelMachine" nCl 0 57 (nmm 117).1 (nmm 117).2.2.2 1 1 := ⟨nG tw149, Or.inl (hT _ tw146), hT _ tw2, ⟨by decide, by decide, by decide +kernel⟩, fun _ => ⟨hT _ tw147, _, rfl, hT _ tw148⟩, fun h => absurd h (by decide), fun h => absurd h (by decide)⟩
theorem tM3_ok_61 {s : State} {args : Array Value} (hT : ∀ w ∈ nTc, w.before args s = true) (hF : ∀ r ∈ nNF, va_Nw (.fieldLinkNest r.1 r.2.1 r.2.2.1 r.2.2.2.1 r.2.2.2.2.1 r.2.2.2.2.2) s) (hM : ∀ r ∈ nNM, va_Nw (.methodLinkNest r.1 r.2.1 r.2.2.1 r.2.2.2) s) : GoodIn nTc (.code (nmm 121).1 (nmm 121).2.1 (nmm 121).2.2.1 (nmm 121).2.2.2 :: nTc) ∧ ab_ML s args "LevelMachine" nCl 0 61 (nmm 121).1 (nmm 121).2.2.2 1 1 := ⟨nG tw165, Or.inl (hT _ tw162), hT _ tw2, ⟨by decide, by decide, by decide +kernel⟩, fun _ => ⟨hT _ tw163, _, rfl, hT _ tw164⟩, fun h => absurd h (by decide), fun h => absurd h (by decide)⟩
theorem tM3_ok_64 {s : State} {args : Array Value} (hT : ∀ w ∈ nTc, w.before args s = true) (hF : ∀ r ∈ nNF, va_Nw (.fieldLinkNest r.1 r.2.1 r.2.2.1 r.2.2.2.1 r.2.2.2.2.1 r.2.2.2.2.2) s) (hM : ∀ r ∈ nNM, va_Nw (.methodLinkNest r.1 r.2.1 r.2.2.1 r.2.2.2) s) : GoodIn nTc (.code (nmm 130).1 (nmm 130).2.1 (nmm 130).2.2.1 (nmm 130).2.2.2 :: nTc) ∧ ab_ML s args "LevelMachine" nCl 0 64 (nmm 130).1 (nmm 130).2.2.2 0 2 := ⟨nG tw169, Or.inl (hT _ tw166), hT _ tw3, ⟨by decide, by decide, by decide +kernel⟩, fun _ => ⟨hT _ tw167, _, rfl, hT _ tw168⟩, fun h => absurd h (by decide), fun h => absurd h (by decide)⟩
theorem tM3_ok_67 {s : State} {args : Array Value} (hT : ∀ w ∈ nTc, w.before args s = true) (hF : ∀ r ∈ nNF, va_Nw (.fieldLinkNest r.1 r.2.1 r.2.2.1 r.2.2.2.1 r.2.2.2.2.1 r.2.2.2.2.2) s) (hM : ∀ r ∈ nNM, va_Nw (.methodLinkNest r.1 r.2.1 r.2.2.1 r.2.2.2) s) : GoodIn nTc (.code (nmm 131).1 (nmm 131).2.1 (nmm 131).2.2.1 (nmm 131).2.2.2 :: nTc) ∧ ab_ML s args "LevelMachine" nCl 0 67 (nmm 131).1 (nmm 131).2.2.2 2 2 := ⟨nG tw173, Or.inl (hT _ tw170), hT _ tw3, ⟨by decide, by decide, by decide +kernel⟩, fun _ => ⟨hT _ tw171, _, rfl, hT _ tw172⟩, fun h => absurd h (by decide), fun h => absurd h (by decide)⟩
theorem tM3_ok_75 {s : State} {args : Array Value} (hT : ∀ w ∈ nTc, w.before args s = true) (hF : ∀ r ∈ nNF, va_Nw (.fieldLinkNest r.1 r.2.1 r.2.2.1 r.2.2.2.1 r.2.2.2.2.1 r.2.2.2.2.2) s) (hM : ∀ r ∈ nNM, va_Nw (.methodLinkNest r.1 r.2.1 r.2.2.1 r.2.2.2) s) : GoodIn nTc (.code (nmm 13).1 (nmm 13).2.1 (nmm 13).2.2.1 (nmm 13).2.2.2 :: nTc) ∧ ab_ML s args "LevelMachine" nCl 0 75 (nmm 13).1 (nmm 13).2.2.2 0 3 := ⟨nG tw197, Or.inl (hT _ tw194), hT _ tw1, ⟨by decide, by decide, by decide +kernel⟩, fun _ => ⟨hT _ tw196, _, rfl, hT _ sl0⟩, fun h => absurd h (by decide), fun h => absurd h (by decide)⟩
theorem tM3_ok_78 {s : State} {args : Array Value} (hT : ∀ w ∈ nTc, w.before args s = true) (hF : ∀ r ∈ nNF, va_Nw (.fieldLinkNest r.1 r.2.1 r.2.2.1 r.2.2.2.1 r.2.2.2.2.1 r.2.2.2.2.2) s) (hM : ∀ r ∈ nNM, va_Nw (.methodLinkNest r.1 r.2.1 r.2.2.1 r.2.2.2) s) : GoodIn nTc (.code (nmm 24).1 (nmm 24).2.1 (nmm 24).2.2.1 (nmm 24).2.2.2 :: nTc) ∧ ab_ML s args "LevelMachine" nCl 0 78 (nmm 24).1 (nmm 24).2.2.2 0 3 := ⟨nG tw213, Or.inl (hT _ tw210), hT _ tw1, ⟨by decide, by decide, by decide +kernel⟩, fun _ => ⟨hT _ tw212, _, rfl, hT _ sl1⟩, fun h => absurd h (by decide), fun h => absurd h (by decide)⟩
theorem tM3_ok_82 {s : State} {args : Array Value} (hT : ∀ w ∈ nTc, w.before args s = true) (hF : ∀ r ∈ nNF, va_Nw (.fieldLinkNest r.1 r.2.1 r.2.2.1 r.2.2.2.1 r.2.2.2.2.1 r.2.2.2.2.2) s) (hM : ∀ r ∈ nNM, va_Nw (.methodLinkNest r.1 r.2.1 r.2.2.1 r.2.2.2) s) : GoodIn nTc (.code (nmm 17).1 (nmm 17).2.1 (nmm 17).2.2.1 (nmm 17).2.2.2 :: nTc) ∧ ab_ML s args "LevelMachine" nCl 0 82 (nmm 17).1 (nmm 17).2.2.2 0 3 := ⟨nG tw393, Or.inl (hT _ tw390), hT _ tw1, ⟨by decide, by decide, by decide +kernel⟩, fun _ => ⟨hT _ tw392, _, rfl, hT _ sl36⟩, fun h => absurd h (by decide), fun h => absurd h (by decide)⟩
theorem tM3_ok_85 {s : State} {args : Array Value} (hT : ∀ w ∈ nTc, w.before args s = true) (hF : ∀ r ∈ nNF, va_Nw (.fieldLinkNest r.1 r.2.1 r.2.2.1 r.2.2.2.1 r.2.2.2.2.1 r.2.2.2.2.2) s) (hM : ∀ r ∈ nNM, va_Nw (.methodLinkNest r.1 r.2.1 r.2.2.1 r.2.2.2) s) : GoodIn nTc (.code (nmm 12).1 (nmm 12).2.1 (nmm 12).2.2.1 (nmm 12).2.2.2 :: nTc) ∧ ab_ML s args "LevelMachine" nCl 0 85 (nmm 12).1 (nmm 12).2.2.2 0 3 := ⟨nG tw253, Or.inl (hT _ tw250), hT _ tw1, ⟨by decide, by decide, by decide +kernel⟩, fun _ => ⟨hT _ tw252, _, rfl, hT _ sl6⟩, fun h => absurd h (by decide), fun h => absurd h (by decide)⟩
theorem tM3_ok_114 {s : State} {args : Array Value} (hT : ∀ w ∈ nTc, w.before args s = true) (hF : ∀ r ∈ nNF, va_Nw (.fieldLinkNest r.1 r.2.1 r.2.2.1 r.2.2.2.1 r.2.2.2.2.1 r.2.2.2.2.2) s) (hM : ∀ r ∈ nNM, va_Nw (.methodLinkNest r.1 r.2.1 r.2.2.1 r.2.2.2) s) : GoodIn nTc (.code (nmm 119).1 (nmm 119).2.1 (nmm 119).2.2.1 (nmm 119).2.2.2 :: nTc) ∧ ab_ML s args "LevelMachine" nCl 0 114 (nmm 119).1 (nmm 119).2.2.2 0 1 := ⟨nG tw201, Or.inl (hT _ tw198), hT _ tw2, ⟨by decide, by decide, by decide +kernel⟩, fun _ => ⟨hT _ tw199, _, rfl, hT _ tw200⟩, fun h => absurd h (by decide), fun h => absurd h (by decide)⟩
theorem tM3_ok_123 {s : State} {args : Array Value} (hT : ∀ w ∈ nTc, w.before args s = true) (hF : ∀ r ∈ nNF, va_Nw (.fieldLinkNest r.1 r.2.1 r.2.2.1 r.2.2.2.1 r.2.2.2.2.1 r.2.2.2.2.2) s) (hM : ∀ r ∈ nNM, va_Nw (.methodLinkNest r.1 r.2.1 r.2.2.1 r.2.2.2) s) : GoodIn nTc (.code (nmm 132).1 (nmm 132).2.1 (nmm 132).2.2.1 (nmm 132).2.2.2 :: nTc) ∧ ab_ML s args "LevelMachine" nCl 0 123 (nmm 132).1 (nmm 132).2.2.2 1 2 := ⟨nG tw209, Or.inl (hT _ tw206), hT _ tw3, ⟨by decide, by decide, by decide +kernel⟩, fun _ => ⟨hT _ tw207, _, rfl, hT _ tw208⟩, fun h => absurd h (by decide), fun h => absurd h (by decide)⟩
theorem tM3_ok_127 {s : State} {args : Array Value} (hT : ∀ w ∈ nTc, w.before args s = true) (hF : ∀ r ∈ nNF, va_Nw (.fieldLinkNest r.1 r.2.1 r.2.2.1 r.2.2.2.1 r.2.2.2.2.1 r.2.2.2.2.2) s) (hM : ∀ r ∈ nNM, va_Nw (.methodLinkNest r.1 r.2.1 r.2.2.1 r.2.2.2) s) : GoodIn nTc (.code (nmm 120).1 (nmm 120).2.1 (nmm 120).2.2.1 (nmm 120).2.2.2 :: nTc) ∧ ab_ML s args "LevelMachine" nCl 0 127 (nmm 120).1 (nmm 120).2.2.2 0 1 := ⟨nG tw401, Or.inl (hT _ tw398), hT _ tw2, ⟨by decide, by decide, by decide +kernel⟩, fun _ => ⟨hT _ tw399, _, rfl, hT _ tw400⟩, fun h => absurd h (by decide), fun h => absurd h (by decide)⟩
theorem tM3_ok_137 {s : State} {args : Array Value} (hT : ∀ w ∈ nTc, w.before args s = true) (hF : ∀ r ∈ nNF, va_Nw (.fieldLinkNest r.1 r.2.1 r.2.2.1 r.2.2.2.1 r.2.2.2.2.1 r.2.2.2.2.2) s) (hM : ∀ r ∈ nNM, va_Nw (.methodLinkNest r.1 r.2.1 r.2.2.1 r.2.2.2) s) : GoodIn nTc (.code (nmm 14).1 (nmm 14).2.1 (nmm 14).2.2.1 (nmm 14).2.2.2 :: nTc) ∧ ab_ML s args "LevelMachine" nCl 0 137 (nmm 14).1 (nmm 14).2.2.2 0 3 := ⟨nG tw397, Or.inl (hT _ tw394), hT _ tw1, ⟨by decide, by decide, by decide +kernel⟩, fun _ => ⟨hT _ tw396, _, rfl, hT _ sl37⟩, fun h => absurd h (by decide), fun h => absurd h (by decide)⟩
theorem tM3_ok_140 {s : State} {args : Array Value} (hT : ∀ w ∈ nTc, w.before args s = true) (hF : ∀ r ∈ nNF, va_Nw (.fieldLinkNest r.1 r.2.1 r.2.2.1 r.2.2.2.1 r.2.2.2.2.1 r.2.2.2.2.2) s) (hM : ∀ r ∈ nNM, va_Nw (.methodLinkNest r.1 r.2.1 r.2.2.1 r.2.2.2) s) : GoodIn nTc (.code (nmm 16).1 (nmm 16).2.1 (nmm 16).2.2.1 (nmm 16).2.2.2 :: nTc) ∧ ab_ML s args "LevelMachine" nCl 0 140 (nmm 16).1 (nmm 16).2.2.2 2 3 := ⟨nG tw405, Or.inl (hT _ tw402), hT _ tw1, ⟨by decide, by decide, by decide +kernel⟩, fun _ => ⟨hT _ tw404, _, rfl, hT _ sl38⟩, fun h => absurd h (by decide), fun h => absurd h (by decide)⟩
theorem tM3_ok_143 {s : State} {args : Array Value} (hT : ∀ w ∈ nTc, w.before args s = true) (hF : ∀ r ∈ nNF, va_Nw (.fieldLinkNest r.1 r.2.1 r.2.2.1 r.2.2.2.1 r.2.2.2.2.1 r.2.2.2.2.2) s) (hM : ∀ r ∈ nNM, va_Nw (.methodLinkNest r.1 r.2.1 r.2.2.1 r.2.2.2) s) : GoodIn nTc (.code (nmm 39).1 (nmm 39).2.1 (nmm 39).2.2.1 (nmm 39).2.2.2 :: nTc) ∧ ab_ML s args "LevelMachine" nCl 0 143 (nmm 39).1 (nmm 39).2.2.2 2 3 := ⟨nG tw376, Or.inl (hT _ tw373), hT _ tw1, ⟨by decide, by decide, by decide +kernel⟩, fun _ => ⟨hT _ tw375, _, rfl, hT _ sl32⟩, fun h => absurd h (by decide), fun h => absurd h (by decide)⟩
theorem tM3_ok_147 {s : State} {args : Array Value} (hT : ∀ w ∈ nTc, w.before args s = true) (hF : ∀ r ∈ nNF, va_Nw (.fieldLinkNest r.1 r.2.1 r.2.2.1 r.2.2.2.1 r.2.2.2.2.1 r.2.2.2.2.2) s) (hM : ∀ r ∈ nNM, va_Nw (.methodLinkNest r.1 r.2.1 r.2.2.1 r.2.2.2) s) : GoodIn nTc (.code (nmm 20).1 (nmm 20).2.1 (nmm 20).2.2.1 (nmm 20).2.2.2 :: nTc) ∧ ab_ML s args "LevelMachine" nCl 0 147 (nmm 20).1 (nmm 20).2.2.2 1 3 := ⟨nG tw286, Or.inl (hT _ tw283), hT _ tw1, ⟨by decide, by decide, by decide +kernel⟩, fun _ => ⟨hT _ tw285, _, rfl, hT _ sl14⟩, fun h => absurd h (by decide), fun h => absurd h (by decide)⟩
theorem tM3_ok_150 {s : State} {args : Array Value} (hT : ∀ w ∈ nTc, w.before args s = true) (hF : ∀ r ∈ nNF, va_Nw (.fieldLinkNest r.1 r.2.1 r.2.2.1 r.2.2.2.1 r.2.2.2.2.1 r.2.2.2.2.2) s) (hM : ∀ r ∈ nNM, va_Nw (.methodLinkNest r.1 r.2.1 r.2.2.1 r.2.2.2) s) : GoodIn nTc (.code (nmm 115).1 (nmm 115).2.1 (nmm 115).2.2.1 (nmm 115).2.2.2 :: nTc) ∧ ab_ML s args "LevelMachine" nCl 1 150 (nmm 115).1 (nmm 115).2.2.2 1 1 := ⟨nG tw229, Or.inl (hT _ tw227), hT _ tw2, ⟨by decide, by decide, by decide +kernel⟩, fun h => absurd h (by decide), fun _ => hT _ tw228, fun h => absurd h (by decide)⟩
theorem tM3_ok_153 {s : State} {args : Array Value} (hT : ∀ w ∈ nTc, w.before args s = true) (hF : ∀ r ∈ nNF, va_Nw (.fieldLinkNest r.1 r.2.1 r.2.2.1 r.2.2.2.1 r.2.2.2.2.1 r.2.2.2.2.2) s) (hM : ∀ r ∈ nNM, va_Nw (.methodLinkNest r.1 r.2.1 r.2.2.1 r.2.2.2) s) : GoodIn nTc (.code (nmm 15).1 (nmm 15).2.1 (nmm 15).2.2.1 (nmm 15).2.2.2 :: nTc) ∧ ab_ML s args "LevelMachine" nCl 0 153 (nmm 15).1 (nmm 15).2.2.2 2 3 := ⟨nG tw225, Or.inl (hT _ tw222), hT _ tw1, ⟨by decide, by decide, by decide +kernel⟩, fun _ => ⟨hT _ tw224, _, rfl, hT _ sl4⟩, fun h => absurd h (by decide), fun h => absurd h (by decide)⟩
theorem tM3_ok_160 {s : State} {args : Array Value} (hT : ∀ w ∈ nTc, w.before args s = true) (hF : ∀ r ∈ nNF, va_Nw (.fieldLinkNest r.1 r.2.1 r.2.2.1 r.2.2.2.1 r.2.2.2.2.1 r.2.2.2.2.2) s) (hM : ∀ r ∈ nNM, va_Nw (.methodLinkNest r.1 r.2.1 r.2.2.1 r.2.2.2) s) : GoodIn nTc (.code (nmm 19).1 (nmm 19).2.1 (nmm 19).2.2.1 (nmm 19).2.2.2 :: nTc) ∧ ab_ML s args "LevelMachine" nCl 0 160 (nmm 19).1 (nmm 19).2.2.2 3 3 := ⟨nG tw274, Or.inl (hT _ tw271), hT _ tw1, ⟨by decide, by decide, by decide +kernel⟩, fun _ => ⟨hT _ tw273, _, rfl, hT _ sl11⟩, fun h => absurd h (by decide), fun h => absurd h (by decide)⟩
theorem tM3_ok_164 {s : State} {args : Array Value} (hT : ∀ w ∈ nTc, w.before args s = true) (hF : ∀ r ∈ nNF, va_Nw (.fieldLinkNest r.1 r.2.1 r.2.2.1 r.2.2.2.1 r.2.2.2.2.1 r.2.2.2.2.2) s) (hM : ∀ r ∈ nNM, va_Nw (.methodLinkNest r.1 r.2.1 r.2.2.1 r.2.2.2) s) : GoodIn nTc (.code (nmm 18).1 (nmm 18).2.1 (nmm 18).2.2.1 (nmm 18).2.2.2 :: nTc) ∧ ab_ML s args "LevelMachine" nCl 0 164 (nmm 18).1 (nmm 18).2.2.2 2 3 := ⟨nG tw270, Or.inl (hT _ tw267), hT _ tw1, ⟨by decide, by decide, by decide +kernel⟩, fun _ => ⟨hT _ tw269, _, rfl, hT _ sl10⟩, fun h => absurd h (by decide), fun h => absurd h (by decide)⟩
theorem tM3_ok_168 {s : State} {args : Array Value} (hT : ∀ w ∈ nTc, w.before args s = true) (hF : ∀ r ∈ nNF, va_Nw (.fieldLinkNest r.1 r.2.1 r.2.2.1 r.2.2.2.1 r.2.2.2.2.1 r.2.2.2.2.2) s) (hM : ∀ r ∈ nNM, va_Nw (.methodLinkNest r.1 r.2.1 r.2.2.1 r.2.2.2) s) : GoodIn nTc (.code (nmm 22).1 (nmm 22).2.1 (nmm 22).2.2.1 (nmm 22).2.2.2 :: nTc) ∧ ab_ML s args "LevelMachine" nCl 0 168 (nmm 22).1 (nmm 22).2.2.2 0 3 := ⟨nG tw221, Or.inl (hT _ tw218), hT _ tw1, ⟨by decide, by decide, by decide +kernel⟩, fun _ => ⟨hT _ tw220, _, rfl, hT _ sl3⟩, fun h => absurd h (by decide), fun h => absurd h (by decide)⟩
theorem tM3_ok_171 {s : State} {args : Array Value} (hT : ∀ w ∈ nTc, w.before args s = true) (hF : ∀ r ∈ nNF, va_Nw (.fieldLinkNest r.1 r.2.1 r.2.2.1 r.2.2.2.1 r.2.2.2.2.1 r.2.2.2.2.2) s) (hM : ∀ r ∈ nNM, va_Nw (.methodLinkNest r.1 r.2.1 r.2.2.1 r.2.2.2) s) : GoodIn nTc (.code (nmm 111).1 (nmm 111).2.1 (nmm 111).2.2.1 (nmm 111).2.2.2 :: nTc) ∧ ab_ML s args "LevelMachine" nCl 0 171 (nmm 111).1 (nmm 111).2.2.2 1 0 := ⟨nG tw233, Or.inl (hT _ tw230), hT _ tw4, ⟨by decide, by decide, by decide +kernel⟩, fun _ => ⟨hT _ tw231, _, rfl, hT _ tw232⟩, fun h => absurd h (by decide), fun h => absurd h (by decide)⟩
theorem tM3_ok_174 {s : State} {args : Array Value} (hT : ∀ w ∈ nTc, w.before args s = true) (hF : ∀ r ∈ nNF, va_Nw (.fieldLinkNest r.1 r.2.1 r.2.2.1 r.2.2.2.1 r.2.2.2.2.1 r.2.2.2.2.2) s) (hM : ∀ r ∈ nNM, va_Nw (.methodLinkNest r.1 r.2.1 r.2.2.1 r.2.2.2) s) : GoodIn nTc (.code (nmm 112).1 (nmm 112).2.1 (nmm 112).2.2.1 (nmm 112).2.2.2 :: nTc) ∧ ab_ML s args "LevelMachine" nCl 0 174 (nmm 112).1 (nmm 112).2.2.2 0 0 := ⟨nG tw237, Or.inl (hT _ tw234), hT _ tw4, ⟨by decide, by decide, by decide +kernel⟩, fun _ => ⟨hT _ tw235, _, rfl, hT _ tw236⟩, fun h => absurd h (by decide), fun h => absurd h (by decide)⟩
theorem tM3_ok_177 {s : State} {args : Array Value} (hT : ∀ w ∈ nTc, w.before args s = true) (hF : ∀ r ∈ nNF, va_Nw (.fieldLinkNest r.1 r.2.1 r.2.2.1 r.2.2.2.1 r.2.2.2.2.1 r.2.2.2.2.2) s) (hM : ∀ r ∈ nNM, va_Nw (.methodLinkNest r.1 r.2.1 r.2.2.1 r.2.2.2) s) : GoodIn nTc (.code (nmm 113).1 (nmm 113).2.1 (nmm 113).2.2.1 (nmm 113).2.2.2 :: nTc) ∧ ab_ML s args "LevelMachine" nCl 0 177 (nmm 113).1 (nmm 113).2.2.2 0 0 := ⟨nG tw243, Or.inl (hT _ tw240), hT _ tw4, ⟨by decide, by decide, by decide +kernel⟩, fun _ => ⟨hT _ tw241, _, rfl, hT _ tw242⟩, fun h => absurd h (by decide), fun h => absurd h (by decide)⟩
theorem tM3_ok_186 {s : State} {args : Array Value} (hT : ∀ w ∈ nTc, w.before args s = true) (hF : ∀ r ∈ nNF, va_Nw (.fieldLinkNest r.1 r.2.1 r.2.2.1 r.2.2.2.1 r.2.2.2.2.1 r.2.2.2.2.2) s) (hM : ∀ r ∈ nNM, va_Nw (.methodLinkNest r.1 r.2.1 r.2.2.1 r.2.2.2) s) : GoodIn nTc (.code (nmm 23).1 (nmm 23).2.1 (nmm 23).2.2.1 (nmm 23).2.2.2 :: nTc) ∧ ab_ML s args "LevelMachine" nCl 0 186 (nmm 23).1 (nmm 23).2.2.2 0 3 := ⟨nG tw217, Or.inl (hT _ tw214), hT _ tw1, ⟨by decide, by decide, by decide +kernel⟩, fun _ => ⟨hT _ tw216, _, rfl, hT _ sl2⟩, fun h => absurd h (by decide), fun h => absurd h (by decide)⟩
theorem tM3_ok_198 {s : State} {args : Array Value} (hT : ∀ w ∈ nTc, w.before args s = true) (hF : ∀ r ∈ nNF, va_Nw (.fieldLinkNest r.1 r.2.1 r.2.2.1 r.2.2.2.1 r.2.2.2.2.1 r.2.2.2.2.2) s) (hM : ∀ r ∈ nNM, va_Nw (.methodLinkNest r.1 r.2.1 r.2.2.1 r.2.2.2) s) : GoodIn nTc (.code (nmm 25).1 (nmm 25).2.1 (nmm 25).2.2.1 (nmm 25).2.2.2 :: nTc) ∧ ab_ML s args "LevelMachine" nCl 0 198 (nmm 25).1 (nmm 25).2.2.2 0 3 := ⟨nG tw249, Or.inl (hT _ tw246), hT _ tw1, ⟨by decide, by decide, by decide +kernel⟩, fun _ => ⟨hT _ tw248, _, rfl, hT _ sl5⟩, fun h => absurd h (by decide), fun h => absurd h (by decide)⟩
theorem tM3_ok_201 {s : State} {args : Array Value} (hT : ∀ w ∈ nTc, w.before args s = true) (hF : ∀ r ∈ nNF, va_Nw (.fieldLinkNest r.1 r.2.1 r.2.2.1 r.2.2.2.1 r.2.2.2.2.1 r.2.2.2.2.2) s) (hM : ∀ r ∈ nNM, va_Nw (.methodLinkNest r.1 r.2.1 r.2.2.1 r.2.2.2) s) : GoodIn nTc (.code (nmm 26).1 (nmm 26).2.1 (nmm 26).2.2.1 (nmm 26).2.2.2 :: nTc) ∧ ab_ML s args "LevelMachine" nCl 0 201 (nmm 26).1 (nmm 26).2.2.2 2 3 := ⟨nG tw257, Or.inl (hT _ tw254), hT _ tw1, ⟨by decide, by decide, by decide +kernel⟩, fun _ => ⟨hT _ tw256, _, rfl, hT _ sl7⟩, fun h => absurd h (by decide), fun h => absurd h (by decide)⟩
theorem tM3_ok_204 {s : State} {args : Array Value} (hT : ∀ w ∈ nTc, w.before args s = true) (hF : ∀ r ∈ nNF, va_Nw (.fieldLinkNest r.1 r.2.1 r.2.2.1 r.2.2.2.1 r.2.2.2.2.1 r.2.2.2.2.2) s) (hM : ∀ r ∈ nNM, va_Nw (.methodLinkNest r.1 r.2.1 r.2.2.1 r.2.2.2) s) : GoodIn nTc (.code (nmm 27).1 (nmm 27).2.1 (nmm 27).2.2.1 (nmm 27).2.2.2 :: nTc) ∧ ab_ML s args "LevelMachine" nCl 0 204 (nmm 27).1 (nmm 27).2.2.2 1 3 := ⟨nG tw261, Or.inl (hT _ tw258), hT _ tw1, ⟨by decide, by decide, by decide +kernel⟩, fun _ => ⟨hT _ tw260, _, rfl, hT _ sl8⟩, fun h => absurd h (by decide), fun h => absurd h (by decide)⟩
theorem tM3_ok_207 {s : State} {args : Array Value} (hT : ∀ w ∈ nTc, w.before args s = true) (hF : ∀ r ∈ nNF, va_Nw (.fieldLinkNest r.1 r.2.1 r.2.2.1 r.2.2.2.1 r.2.2.2.2.1 r.2.2.2.2.2) s) (hM : ∀ r ∈ nNM, va_Nw (.methodLinkNest r.1 r.2.1 r.2.2.1 r.2.2.2) s) : GoodIn nTc (.code (nmm 28).1 (nmm 28).2.1 (nmm 28).2.2.1 (nmm 28).2.2.2 :: nTc) ∧ ab_ML s args "LevelMachine" nCl 0 207 (nmm 28).1 (nmm 28).2.2.2 2 3 := ⟨nG tw266, Or.inl (hT _ tw263), hT _ tw1, ⟨by decide, by decide, by decide +kernel⟩, fun _ => ⟨hT _ tw265, _, rfl, hT _ sl9⟩, fun h => absurd h (by decide), fun h => absurd h (by decide)⟩
theorem tM3_ok_210 {s : State} {args : Array Value} (hT : ∀ w ∈ nTc, w.before args s = true) (hF : ∀ r ∈ nNF, va_Nw (.fieldLinkNest r.1 r.2.1 r.2.2.1 r.2.2.2.1 r.2.2.2.2.1 r.2.2.2.2.2) s) (hM : ∀ r ∈ nNM, va_Nw (.methodLinkNest r.1 r.2.1 r.2.2.1 r.2.2.2) s) : GoodIn nTc (.code (nmm 30).1 (nmm 30).2.1 (nmm 30).2.2.1 (nmm 30).2.2.2 :: nTc) ∧ ab_ML s args "LevelMachine" nCl 0 210 (nmm 30).1 (nmm 30).2.2.2 2 3 := ⟨nG tw278, Or.inl (hT _ tw275), hT _ tw1, ⟨by decide, by decide, by decide +kernel⟩, fun _ => ⟨hT _ tw277, _, rfl, hT _ sl12⟩, fun h => absurd h (by decide), fun h => absurd h (by decide)⟩
theorem tM3_ok_213 {s : State} {args : Array Value} (hT : ∀ w ∈ nTc, w.before args s = true) (hF : ∀ r ∈ nNF, va_Nw (.fieldLinkNest r.1 r.2.1 r.2.2.1 r.2.2.2.1 r.2.2.2.2.1 r.2.2.2.2.2) s) (hM : ∀ r ∈ nNM, va_Nw (.methodLinkNest r.1 r.2.1 r.2.2.1 r.2.2.2) s) : GoodIn nTc (.code (nmm 29).1 (nmm 29).2.1 (nmm 29).2.2.1 (nmm 29).2.2.2 :: nTc) ∧ ab_ML s args "LevelMachine" nCl 0 213 (nmm 29).1 (nmm 29).2.2.2 0 3 := ⟨nG tw282, Or.inl (hT _ tw279), hT _ tw1, ⟨by decide, by decide, by decide +kernel⟩, fun _ => ⟨hT _ tw281, _, rfl, hT _ sl13⟩, fun h => absurd h (by decide), fun h => absurd h (by decide)⟩
theorem tM3_ok_216 {s : State} {args : Array Value} (hT : ∀ w ∈ nTc, w.before args s = true) (hF : ∀ r ∈ nNF, va_Nw (.fieldLinkNest r.1 r.2.1 r.2.2.1 r.2.2.2.1 r.2.2.2.2.1 r.2.2.2.2.2) s) (hM : ∀ r ∈ nNM, va_Nw (.methodLinkNest r.1 r.2.1 r.2.2.1 r.2.2.2) s) : GoodIn nTc (.code (nmm 21).1 (nmm 21).2.1 (nmm 21).2.2.1 (nmm 21).2.2.2 :: nTc) ∧ ab_ML s args "LevelMachine" nCl 0 216 (nmm 21).1 (nmm 21).2.2.2 0 3 := ⟨nG tw290, Or.inl (hT _ tw287), hT _ tw1, ⟨by decide, by decide, by decide +kernel⟩, fun _ => ⟨hT _ tw289, _, rfl, hT _ sl15⟩, fun h => absurd h (by decide), fun h => absurd h (by decide)⟩
theorem tM3_ok_219 {s : State} {args : Array Value} (hT : ∀ w ∈ nTc, w.before args s = true) (hF : ∀ r ∈ nNF, va_Nw (.fieldLinkNest r.1 r.2.1 r.2.2.1 r.2.2.2.1 r.2.2.2.2.1 r.2.2.2.2.2) s) (hM : ∀ r ∈ nNM, va_Nw (.methodLinkNest r.1 r.2.1 r.2.2.1 r.2.2.2) s) : GoodIn nTc (.code (nmm 33).1 (nmm 33).2.1 (nmm 33).2.2.1 (nmm 33).2.2.2 :: nTc) ∧ ab_ML s args "LevelMachine" nCl 0 219 (nmm 33).1 (nmm 33).2.2.2 1 3 := ⟨nG tw294, Or.inl (hT _ tw291), hT _ tw1, ⟨by decide, by decide, by decide +kernel⟩, fun _ => ⟨hT _ tw293, _, rfl, hT _ sl16⟩, fun h => absurd h (by decide), fun h => absurd h (by decide)⟩
theorem tM3_ok_222 {s : State} {args : Array Value} (hT : ∀ w ∈ nTc, w.before args s = true) (hF : ∀ r ∈ nNF, va_Nw (.fieldLinkNest r.1 r.2.1 r.2.2.1 r.2.2.2.1 r.2.2.2.2.1 r.2.2.2.2.2) s) (hM : ∀ r ∈ nNM, va_Nw (.methodLinkNest r.1 r.2.1 r.2.2.1 r.2.2.2) s) : GoodIn nTc (.code (nmm 32).1 (nmm 32).2.1 (nmm 32).2.2.1 (nmm 32).2.2.2 :: nTc) ∧ ab_ML s args "LevelMachine" nCl 0 222 (nmm 32).1 (nmm 32).2.2.2 2 3 := ⟨nG tw303, Or.inl (hT _ tw300), hT _ tw1, ⟨by decide, by decide, by decide +kernel⟩, fun _ => ⟨hT _ tw302, _, rfl, hT _ sl17⟩, fun h => absurd h (by decide), fun h => absurd h (by decide)⟩
theorem tM3_ok_226 {s : State} {args : Array Value} (hT : ∀ w ∈ nTc, w.before args s = true) (hF : ∀ r ∈ nNF, va_Nw (.fieldLinkNest r.1 r.2.1 r.2.2.1 r.2.2.2.1 r.2.2.2.2.1 r.2.2.2.2.2) s) (hM : ∀ r ∈ nNM, va_Nw (.methodLinkNest r.1 r.2.1 r.2.2.1 r.2.2.2) s) : GoodIn nTc (.code (nmm 11).1 (nmm 11).2.1 (nmm 11).2.2.1 (nmm 11).2.2.2 :: nTc) ∧ ab_ML s args "LevelMachine" nCl 1 226 (nmm 11).1 (nmm 11).2.2.2 1 3 := ⟨nG tw306, Or.inl (hT _ tw304), hT _ tw1, ⟨by decide, by decide, by decide +kernel⟩, fun h => absurd h (by decide), fun _ => hT _ tw305, fun h => absurd h (by decide)⟩
theorem tM3_ok_229 {s : State} {args : Array Value} (hT : ∀ w ∈ nTc, w.before args s = true) (hF : ∀ r ∈ nNF, va_Nw (.fieldLinkNest r.1 r.2.1 r.2.2.1 r.2.2.2.1 r.2.2.2.2.1 r.2.2.2.2.2) s) (hM : ∀ r ∈ nNM, va_Nw (.methodLinkNest r.1 r.2.1 r.2.2.1 r.2.2.2) s) : GoodIn nTc (.code (nmm 37).1 (nmm 37).2.1 (nmm 37).2.2.1 (nmm 37).2.2.2 :: nTc) ∧ ab_ML s args "LevelMachine" nCl 0 229 (nmm 37).1 (nmm 37).2.2.2 3 3 := ⟨nG tw310, Or.inl (hT _ tw307), hT _ tw1, ⟨by decide, by decide, by decide +kernel⟩, fun _ => ⟨hT _ tw309, _, rfl, hT _ sl18⟩, fun h => absurd h (by decide), fun h => absurd h (by decide)⟩
theorem tM3_ok_233 {s : State} {args : Array Value} (hT : ∀ w ∈ nTc, w.before args s = true) (hF : ∀ r ∈ nNF, va_Nw (.fieldLinkNest r.1 r.2.1 r.2.2.1 r.2.2.2.1 r.2.2.2.2.1 r.2.2.2.2.2) s) (hM : ∀ r ∈ nNM, va_Nw (.methodLinkNest r.1 r.2.1 r.2.2.1 r.2.2.2) s) : GoodIn nTc (.code (nmm 38).1 (nmm 38).2.1 (nmm 38).2.2.1 (nmm 38).2.2.2 :: nTc) ∧ ab_ML s args "LevelMachine" nCl 0 233 (nmm 38).1 (nmm 38).2.2.2 2 3 := ⟨nG tw323, Or.inl (hT _ tw320), hT _ tw1, ⟨by decide, by decide, by decide +kernel⟩, fun _ => ⟨hT _ tw322, _, rfl, hT _ sl21⟩, fun h => absurd h (by decide), fun h => absurd h (by decide)⟩
theorem tM3_ok_236 {s : State} {args : Array Value} (hT : ∀ w ∈ nTc, w.before args s = true) (hF : ∀ r ∈ nNF, va_Nw (.fieldLinkNest r.1 r.2.1 r.2.2.1 r.2.2.2.1 r.2.2.2.2.1 r.2.2.2.2.2) s) (hM : ∀ r ∈ nNM, va_Nw (.methodLinkNest r.1 r.2.1 r.2.2.1 r.2.2.2) s) : GoodIn nTc (.code (nmm 44).1 (nmm 44).2.1 (nmm 44).2.2.1 (nmm 44).2.2.2 :: nTc) ∧ ab_ML s args "LevelMachine" nCl 0 236 (nmm 44).1 (nmm 44).2.2.2 2 3 := ⟨nG tw364, Or.inl (hT _ tw361), hT _ tw1, ⟨by decide, by decide, by decide +kernel⟩, fun _ => ⟨hT _ tw363, _, rfl, hT _ sl29⟩, fun h => absurd h (by decide), fun h => absurd h (by decide)⟩
theorem tM3_ok_239 {s : State} {args : Array Value} (hT : ∀ w ∈ nTc, w.before args s = true) (hF : ∀ r ∈ nNF, va_Nw (.fieldLinkNest r.1 r.2.1 r.2.2.1 r.2.2.2.1 r.2.2.2.2.1 r.2.2.2.2.2) s) (hM : ∀ r ∈ nNM, va_Nw (.methodLinkNest r.1 r.2.1 r.2.2.1 r.2.2.2) s) : GoodIn nTc (.code (nmm 43).1 (nmm 43).2.1 (nmm 43).2.2.1 (nmm 43).2.2.2 :: nTc) ∧ ab_ML s args "LevelMachine" nCl 0 239 (nmm 43).1 (nmm 43).2.2.2 0 3 := ⟨nG tw381, Or.inl (hT _ tw378), hT _ tw1, ⟨by decide, by decide, by decide +kernel⟩, fun _ => ⟨hT _ tw380, _, rfl, hT _ sl33⟩, fun h => absurd h (by decide), fun h => absurd h (by decide)⟩
theorem tM3_ok_242 {s : State} {args : Array Value} (hT : ∀ w ∈ nTc, w.before args s = true) (hF : ∀ r ∈ nNF, va_Nw (.fieldLinkNest r.1 r.2.1 r.2.2.1 r.2.2.2.1 r.2.2.2.2.1 r.2.2.2.2.2) s) (hM : ∀ r ∈ nNM, va_Nw (.methodLinkNest r.1 r.2.1 r.2.2.1 r.2.2.2) s) : GoodIn nTc (.code (nmm 34).1 (nmm 34).2.1 (nmm 34).2.2.1 (nmm 34).2.2.2 :: nTc) ∧ ab_ML s args "LevelMachine" nCl 0 242 (nmm 34).1 (nmm 34).2.2.2 1 3 := ⟨nG tw385, Or.inl (hT _ tw382), hT _ tw1, ⟨by decide, by decide, by decide +kernel⟩, fun _ => ⟨hT _ tw384, _, rfl, hT _ sl34⟩, fun h => absurd h (by decide), fun h => absurd h (by decide)⟩
theorem tM3_ok_245 {s : State} {args : Array Value} (hT : ∀ w ∈ nTc, w.before args s = true) (hF : ∀ r ∈ nNF, va_Nw (.fieldLinkNest r.1 r.2.1 r.2.2.1 r.2.2.2.1 r.2.2.2.2.1 r.2.2.2.2.2) s) (hM : ∀ r ∈ nNM, va_Nw (.methodLinkNest r.1 r.2.1 r.2.2.1 r.2.2.2) s) : GoodIn nTc (.code (nmm 31).1 (nmm 31).2.1 (nmm 31).2.2.1 (nmm 31).2.2.2 :: nTc) ∧ ab_ML s args "LevelMachine" nCl 0 245 (nmm 31).1 (nmm 31).2.2.2 2 3 := ⟨nG tw389, Or.inl (hT _ tw386), hT _ tw1, ⟨by decide, by decide, by decide +kernel⟩, fun _ => ⟨hT _ tw388, _, rfl, hT _ sl35⟩, fun h => absurd h (by decide), fun h => absurd h (by decide)⟩
theorem tM3_ok_249 {s : State} {args : Array Value} (hT : ∀ w ∈ nTc, w.before args s = true) (hF : ∀ r ∈ nNF, va_Nw (.fieldLinkNest r.1 r.2.1 r.2.2.1 r.2.2.2.1 r.2.2.2.2.1 r.2.2.2.2.2) s) (hM : ∀ r ∈ nNM, va_Nw (.methodLinkNest r.1 r.2.1 r.2.2.1 r.2.2.2) s) : GoodIn nTc (.code (nmm 125).1 (nmm 125).2.1 (nmm 125).2.2.1 (nmm 125).2.2.2 :: nTc) ∧ ab_ML s args "LevelMachine" nCl 0 249 (nmm 125).1 (nmm 125).2.2.2 1 1 := ⟨nG tw189, Or.inl (hT _ tw295), hT _ tw2, ⟨by decide, by decide, by decide +kernel⟩, fun _ => ⟨hT _ tw187, _, rfl, hT _ tw188⟩, fun h => absurd h (by decide), fun h => absurd h (by decide)⟩
theorem tM3_ok_251 {s : State} {args : Array Value} (hT : ∀ w ∈ nTc, w.before args s = true) (hF : ∀ r ∈ nNF, va_Nw (.fieldLinkNest r.1 r.2.1 r.2.2.1 r.2.2.2.1 r.2.2.2.2.1 r.2.2.2.2.2) s) (hM : ∀ r ∈ nNM, va_Nw (.methodLinkNest r.1 r.2.1 r.2.2.1 r.2.2.2) s) : GoodIn nTc (.code (nmm 126).1 (nmm 126).2.1 (nmm 126).2.2.1 (nmm 126).2.2.2 :: nTc) ∧ ab_ML s args "LevelMachine" nCl 0 251 (nmm 126).1 (nmm 126).2.2.2 1 1 := ⟨nG tw299, Or.inl (hT _ tw296), hT _ tw2, ⟨by decide, by decide, by decide +kernel⟩, fun _ => ⟨hT _ tw297, _, rfl, hT _ tw298⟩, fun h => absurd h (by decide), fun h => absurd h (by decide)⟩
theorem tM3_ok_254 {s : State} {args : Array Value} (hT : ∀ w ∈ nTc, w.before args s = true) (hF : ∀ r ∈ nNF, va_Nw (.fieldLinkNest r.1 r.2.1 r.2.2.1 r.2.2.2.1 r.2.2.2.2.1 r.2.2.2.2.2) s) (hM : ∀ r ∈ nNM, va_Nw (.methodLinkNest r.1 r.2.1 r.2.2.1 r.2.2.2) s) : GoodIn nTc (.code (nmm 128).1 (nmm 128).2.1 (nmm 128).2.2.1 (nmm 128).2.2.2 :: nTc) ∧ ab_ML s args "LevelMachine" nCl 0 254 (nmm 128).1 (nmm 128).2.2.2 2 1 := ⟨nG tw340, Or.inl (hT _ tw337), hT _ tw2, ⟨by decide, by decide, by decide +kernel⟩, fun _ => ⟨hT _ tw338, _, rfl, hT _ tw339⟩, fun h => absurd h (by decide), fun h => absurd h (by decide)⟩
theorem tM3_ok_257 {s : State} {args : Array Value} (hT : ∀ w ∈ nTc, w.before args s = true) (hF : ∀ r ∈ nNF, va_Nw (.fieldLinkNest r.1 r.2.1 r.2.2.1 r.2.2.2.1 r.2.2.2.2.1 r.2.2.2.2.2) s) (hM : ∀ r ∈ nNM, va_Nw (.methodLinkNest r.1 r.2.1 r.2.2.1 r.2.2.2) s) : GoodIn nTc (.code (nmm 123).1 (nmm 123).2.1 (nmm 123).2.2.1 (nmm 123).2.2.2 :: nTc) ∧ ab_ML s args "LevelMachine" nCl 0 257 (nmm 123).1 (nmm 123).2.2.2 1 1 := ⟨nG tw181, Or.inl (hT _ tw319), hT _ tw2, ⟨by decide, by decide, by decide +kernel⟩, fun _ => ⟨hT _ tw179, _, rfl, hT _ tw180⟩, fun h => absurd h (by decide), fun h => absurd h (by decide)⟩
theorem tM3_ok_260 {s : State} {args : Array Value} (hT : ∀ w ∈ nTc, w.before args s = true) (hF : ∀ r ∈ nNF, va_Nw (.fieldLinkNest r.1 r.2.1 r.2.2.1 r.2.2.2.1 r.2.2.2.2.1 r.2.2.2.2.2) s) (hM : ∀ r ∈ nNM, va_Nw (.methodLinkNest r.1 r.2.1 r.2.2.1 r.2.2.2) s) : GoodIn nTc (.code (nmm 35).1 (nmm 35).2.1 (nmm 35).2.2.1 (nmm 35).2.2.2 :: nTc) ∧ ab_ML s args "LevelMachine" nCl 0 260 (nmm 35).1 (nmm 35).2.2.2 3 3 := ⟨nG tw318, Or.inl (hT _ tw315), hT _ tw1, ⟨by decide, by decide, by decide +kernel⟩, fun _ => ⟨hT _ tw317, _, rfl, hT _ sl20⟩, fun h => absurd h (by decide), fun h => absurd h (by decide)⟩
theorem tM3_ok_264 {s : State} {args : Array Value} (hT : ∀ w ∈ nTc, w.before args s = true) (hF : ∀ r ∈ nNF, va_Nw (.fieldLinkNest r.1 r.2.1 r.2.2.1 r.2.2.2.1 r.2.2.2.2.1 r.2.2.2.2.2) s) (hM : ∀ r ∈ nNM, va_Nw (.methodLinkNest r.1 r.2.1 r.2.2.1 r.2.2.2) s) : GoodIn nTc (.code (nmm 36).1 (nmm 36).2.1 (nmm 36).2.2.1 (nmm 36).2.2.2 :: nTc) ∧ ab_ML s args "LevelMachine" nCl 0 264 (nmm 36).1 (nmm 36).2.2.2 3 3 := ⟨nG tw314, Or.inl (hT _ tw311), hT _ tw1, ⟨by decide, by decide, by decide +kernel⟩, fun _ => ⟨hT _ tw313, _, rfl, hT _ sl19⟩, fun h => absurd h (by decide), fun h => absurd h (by decide)⟩
theorem tM3_ok_267 {s : State} {args : Array Value} (hT : ∀ w ∈ nTc, w.before args s = true) (hF : ∀ r ∈ nNF, va_Nw (.fieldLinkNest r.1 r.2.1 r.2.2.1 r.2.2.2.1 r.2.2.2.2.1 r.2.2.2.2.2) s) (hM : ∀ r ∈ nNM, va_Nw (.methodLinkNest r.1 r.2.1 r.2.2.1 r.2.2.2) s) : GoodIn nTc (.code (nmm 122).1 (nmm 122).2.1 (nmm 122).2.2.1 (nmm 122).2.2.2 :: nTc) ∧ ab_ML s args "LevelMachine" nCl 0 267 (nmm 122).1 (nmm 122).2.2.2 1 1 := ⟨nG tw177, Or.inl (hT _ tw324), hT _ tw2, ⟨by decide, by decide, by decide +kernel⟩, fun _ => ⟨hT _ tw175, _, rfl, hT _ tw176⟩, fun h => absurd h (by decide), fun h => absurd h (by decide)⟩
theorem tM3_ok_270 {s : State} {args : Array Value} (hT : ∀ w ∈ nTc, w.before args s = true) (hF : ∀ r ∈ nNF, va_Nw (.fieldLinkNest r.1 r.2.1 r.2.2.1 r.2.2.2.1 r.2.2.2.2.1 r.2.2.2.2.2) s) (hM : ∀ r ∈ nNM, va_Nw (.methodLinkNest r.1 r.2.1 r.2.2.1 r.2.2.2) s) : GoodIn nTc (.code (nmm 47).1 (nmm 47).2.1 (nmm 47).2.2.1 (nmm 47).2.2.2 :: nTc) ∧ ab_ML s args "LevelMachine" nCl 0 270 (nmm 47).1 (nmm 47).2.2.2 2 3 := ⟨nG tw328, Or.inl (hT _ tw325), hT _ tw1, ⟨by decide, by decide, by decide +kernel⟩, fun _ => ⟨hT _ tw327, _, rfl, hT _ sl22⟩, fun h => absurd h (by decide), fun h => absurd h (by decide)⟩
theorem tM3_ok_273 {s : State} {args : Array Value} (hT : ∀ w ∈ nTc, w.before args s = true) (hF : ∀ r ∈ nNF, va_Nw (.fieldLinkNest r.1 r.2.1 r.2.2.1 r.2.2.2.1 r.2.2.2.2.1 r.2.2.2.2.2) s) (hM : ∀ r ∈ nNM, va_Nw (.methodLinkNest r.1 r.2.1 r.2.2.1 r.2.2.2) s) : GoodIn nTc (.code (nmm 127).1 (nmm 127).2.1 (nmm 127).2.2.1 (nmm 127).2.2.2 :: nTc) ∧ ab_ML s args "LevelMachine" nCl 0 273 (nmm 127).1 (nmm 127).2.2.2 1 1 := ⟨nG tw348, Or.inl (hT _ tw345), hT _ tw2, ⟨by decide, by decide, by decide +kernel⟩, fun _ => ⟨hT _ tw346, _, rfl, hT _ tw347⟩, fun h => absurd h (by decide), fun h => absurd h (by decide)⟩
theorem tM3_ok_276 {s : State} {args : Array Value} (hT : ∀ w ∈ nTc, w.before args s = true) (hF : ∀ r ∈ nNF, va_Nw (.fieldLinkNest r.1 r.2.1 r.2.2.1 r.2.2.2.1 r.2.2.2.2.1 r.2.2.2.2.2) s) (hM : ∀ r ∈ nNM, va_Nw (.methodLinkNest r.1 r.2.1 r.2.2.1 r.2.2.2) s) : GoodIn nTc (.code (nmm 40).1 (nmm 40).2.1 (nmm 40).2.2.1 (nmm 40).2.2.2 :: nTc) ∧ ab_ML s args "LevelMachine" nCl 0 276 (nmm 40).1 (nmm 40).2.2.2 4 3 := ⟨nG tw352, Or.inl (hT _ tw349), hT _ tw1, ⟨by decide, by decide, by decide +kernel⟩, fun _ => ⟨hT _ tw351, _, rfl, hT _ sl26⟩, fun h => absurd h (by decide), fun h => absurd h (by decide)⟩
theorem tM3_ok_280 {s : State} {args : Array Value} (hT : ∀ w ∈ nTc, w.before args s = true) (hF : ∀ r ∈ nNF, va_Nw (.fieldLinkNest r.1 r.2.1 r.2.2.1 r.2.2.2.1 r.2.2.2.2.1 r.2.2.2.2.2) s) (hM : ∀ r ∈ nNM, va_Nw (.methodLinkNest r.1 r.2.1 r.2.2.1 r.2.2.2) s) : GoodIn nTc (.code (nmm 124).1 (nmm 124).2.1 (nmm 124).2.2.1 (nmm 124).2.2.2 :: nTc) ∧ ab_ML s args "LevelMachine" nCl 0 280 (nmm 124).1 (nmm 124).2.2.2 1 1 := ⟨nG tw185, Or.inl (hT _ tw377), hT _ tw2, ⟨by decide, by decide, by decide +kernel⟩, fun _ => ⟨hT _ tw183, _, rfl, hT _ tw184⟩, fun h => absurd h (by decide), fun h => absurd h (by decide)⟩
theorem tM3_ok_282 {s : State} {args : Array Value} (hT : ∀ w ∈ nTc, w.before args s = true) (hF : ∀ r ∈ nNF, va_Nw (.fieldLinkNest r.1 r.2.1 r.2.2.1 r.2.2.2.1 r.2.2.2.2.1 r.2.2.2.2.2) s) (hM : ∀ r ∈ nNM, va_Nw (.methodLinkNest r.1 r.2.1 r.2.2.1 r.2.2.2) s) : GoodIn nTc (.code (nmm 41).1 (nmm 41).2.1 (nmm 41).2.2.1 (nmm 41).2.2.2 :: nTc) ∧ ab_ML s args "LevelMachine" nCl 0 282 (nmm 41).1 (nmm 41).2.2.2 1 3 := ⟨nG tw356, Or.inl (hT _ tw353), hT _ tw1, ⟨by decide, by decide, by decide +kernel⟩, fun _ => ⟨hT _ tw355, _, rfl, hT _ sl27⟩, fun h => absurd h (by decide), fun h => absurd h (by decide)⟩
theorem tM3_ok_285 {s : State} {args : Array Value} (hT : ∀ w ∈ nTc, w.before args s = true) (hF : ∀ r ∈ nNF, va_Nw (.fieldLinkNest r.1 r.2.1 r.2.2.1 r.2.2.2.1 r.2.2.2.2.1 r.2.2.2.2.2) s) (hM : ∀ r ∈ nNM, va_Nw (.methodLinkNest r.1 r.2.1 r.2.2.1 r.2.2.2) s) : GoodIn nTc (.code (nmm 42).1 (nmm 42).2.1 (nmm 42).2.2.1 (nmm 42).2.2.2 :: nTc) ∧ ab_ML s args "LevelMachine" nCl 0 285 (nmm 42).1 (nmm 42).2.2.2 2 3 := ⟨nG tw360, Or.inl (hT _ tw357), hT _ tw1, ⟨by decide, by decide, by decide +kernel⟩, fun _ => ⟨hT _ tw359, _, rfl, hT _ sl28⟩, fun h => absurd h (by decide), fun h => absurd h (by decide)⟩
theorem tM3_ok_288 {s : State} {args : Array Value} (hT : ∀ w ∈ nTc, w.before args s = true) (hF : ∀ r ∈ nNF, va_Nw (.fieldLinkNest r.1 r.2.1 r.2.2.1 r.2.2.2.1 r.2.2.2.2.1 r.2.2.2.2.2) s) (hM : ∀ r ∈ nNM, va_Nw (.methodLinkNest r.1 r.2.1 r.2.2.1 r.2.2.2) s) : GoodIn nTc (.code (nmm 45).1 (nmm 45).2.1 (nmm 45).2.2.1 (nmm 45).2.2.2 :: nTc) ∧ ab_ML s args "LevelMachine" nCl 0 288 (nmm 45).1 (nmm 45).2.2.2 3 3 := ⟨nG tw368, Or.inl (hT _ tw365), hT _ tw1, ⟨by decide, by decide, by decide +kernel⟩, fun _ => ⟨hT _ tw367, _, rfl, hT _ sl30⟩, fun h => absurd h (by decide), fun h => absurd h (by decide)⟩
theorem tM3_ok_291 {s : State} {args : Array Value} (hT : ∀ w ∈ nTc, w.before args s = true) (hF : ∀ r ∈ nNF, va_Nw (.fieldLinkNest r.1 r.2.1 r.2.2.1 r.2.2.2.1 r.2.2.2.2.1 r.2.2.2.2.2) s) (hM : ∀ r ∈ nNM, va_Nw (.methodLinkNest r.1 r.2.1 r.2.2.1 r.2.2.2) s) : GoodIn nTc (.code (nmm 46).1 (nmm 46).2.1 (nmm 46).2.2.1 (nmm 46).2.2.2 :: nTc) ∧ ab_ML s args "LevelMachine" nCl 0 291 (nmm 46).1 (nmm 46).2.2.2 1 3 := ⟨nG tw372, Or.inl (hT _ tw369), hT _ tw1, ⟨by decide, by decide, by decide +kernel⟩, fun _ => ⟨hT _ tw371, _, rfl, hT _ sl31⟩, fun h => absurd h (by decide), fun h => absurd h (by decide)⟩
theorem tM3_ok_294 {s : State} {args : Array Value} (hT : ∀ w ∈ nTc, w.before args s = true) (hF : ∀ r ∈ nNF, va_Nw (.fieldLinkNest r.1 r.2.1 r.2.2.1 r.2.2.2.1 r.2.2.2.2.1 r.2.2.2.2.2) s) (hM : ∀ r ∈ nNM, va_Nw (.methodLinkNest r.1 r.2.1 r.2.2.1 r.2.2.2) s) : GoodIn nTc (.code (nmm 48).1 (nmm 48).2.1 (nmm 48).2.2.1 (nmm 48).2.2.2 :: nTc) ∧ ab_ML s args "LevelMachine" nCl 0 294 (nmm 48).1 (nmm 48).2.2.2 1 3 := ⟨nG tw332, Or.inl (hT _ tw329), hT _ tw1, ⟨by decide, by decide, by decide +kernel⟩, fun _ => ⟨hT _ tw331, _, rfl, hT _ sl23⟩, fun h => absurd h (by decide), fun h => absurd h (by decide)⟩
theorem tM3_ok_297 {s : State} {args : Array Value} (hT : ∀ w ∈ nTc, w.before args s = true) (hF : ∀ r ∈ nNF, va_Nw (.fieldLinkNest r.1 r.2.1 r.2.2.1 r.2.2.2.1 r.2.2.2.2.1 r.2.2.2.2.2) s) (hM : ∀ r ∈ nNM, va_Nw (.methodLinkNest r.1 r.2.1 r.2.2.1 r.2.2.2) s) : GoodIn nTc (.code (nmm 50).1 (nmm 50).2.1 (nmm 50).2.2.1 (nmm 50).2.2.2 :: nTc) ∧ ab_ML s args "LevelMachine" nCl 0 297 (nmm 50).1 (nmm 50).2.2.2 1 3 := ⟨nG tw344, Or.inl (hT _ tw341), hT _ tw1, ⟨by decide, by decide, by decide +kernel⟩, fun _ => ⟨hT _ tw343, _, rfl, hT _ sl25⟩, fun h => absurd h (by decide), fun h => absurd h (by decide)⟩
theorem tM3_ok_300 {s : State} {args : Array Value} (hT : ∀ w ∈ nTc, w.before args s = true) (hF : ∀ r ∈ nNF, va_Nw (.fieldLinkNest r.1 r.2.1 r.2.2.1 r.2.2.2.1 r.2.2.2.2.1 r.2.2.2.2.2) s) (hM : ∀ r ∈ nNM, va_Nw (.methodLinkNest r.1 r.2.1 r.2.2.1 r.2.2.2) s) : GoodIn nTc (.code (nmm 49).1 (nmm 49).2.1 (nmm 49).2.2.1 (nmm 49).2.2.2 :: nTc) ∧ ab_ML s args "LevelMachine" nCl 0 300 (nmm 49).1 (nmm 49).2.2.2 2 3 := ⟨nG tw336, Or.inl (hT _ tw333), hT _ tw1, ⟨by decide, by decide, by decide +kernel⟩, fun _ => ⟨hT _ tw335, _, rfl, hT _ sl24⟩, fun h => absurd h (by decide), fun h => absurd h (by decide)⟩
theorem tM3_ok {s : State} {args : Array Value} (hT : ∀ w ∈ nTc, w.before args s = true) (hF : ∀ r ∈ nNF, va_Nw (.fieldLinkNest r.1 r.2.1 r.2.2.1 r.2.2.2.1 r.2.2.2.2.1 r.2.2.2.2.2) s) (hM : ∀ r ∈ nNM, va_Nw (.methodLinkNest r.1 r.2.1 r.2.2.1 r.2.2.2) s) : ∀ q ∈ tM3, GoodIn nTc (.code (nmm q.2.2.1).1 (nmm q.2.2.1).2.1 (nmm q.2.2.1).2.2.1 (nmm q.2.2.1).2.2.2 :: nTc) ∧ ab_ML s args "LevelMachine" nCl q.2.1 q.1 (nmm q.2.2.1).1 (nmm q.2.2.1).2.2.2 q.2.2.2.1 q.2.2.2.2 := ab_mc (tM3_ok_9 hT hF hM) (ab_mc (tM3_ok_32 hT hF hM) (ab_mc (tM3_ok_41 hT hF hM) (ab_mc (tM3_ok_46 hT hF hM) (ab_mc (tM3_ok_50 hT hF hM) (ab_mc (tM3_ok_53 hT hF hM) (ab_mc (tM3_ok_57 hT hF hM) (ab_mc (tM3_ok_61 hT hF hM) (ab_mc (tM3_ok_64 hT hF hM) (ab_mc (tM3_ok_67 hT hF hM) (ab_mc (tM3_ok_75 hT hF hM) (ab_mc (tM3_ok_78 hT hF hM) (ab_mc (tM3_ok_82 hT hF hM) (ab_mc (tM3_ok_85 hT hF hM) (ab_mc (tM3_ok_114 hT hF hM) (ab_mc (tM3_ok_123 hT hF hM) (ab_mc (tM3_ok_127 hT hF hM) (ab_mc (tM3_ok_137 hT hF hM) (ab_mc (tM3_ok_140 hT hF hM) (ab_mc (tM3_ok_143 hT hF hM) (ab_mc (tM3_ok_147 hT hF hM) (ab_mc (tM3_ok_150 hT hF hM) (ab_mc (tM3_ok_153 hT hF hM) (ab_mc (tM3_ok_160 hT hF hM) (ab_mc (tM3_ok_164 hT hF hM) (ab_mc (tM3_ok_168 hT hF hM) (ab_mc (tM3_ok_171 hT hF hM) (ab_mc (tM3_ok_174 hT hF hM) (ab_mc (tM3_ok_177 hT hF hM) (ab_mc (tM3_ok_186 hT hF hM) (ab_mc (tM3_ok_198 hT hF hM) (ab_mc (tM3_ok_201 hT hF hM) (ab_mc (tM3_ok_204 hT hF hM) (ab_mc (tM3_ok_207 hT hF hM) (ab_mc (tM3_ok_210 hT hF hM) (ab_mc (tM3_ok_213 hT hF hM) (ab_mc (tM3_ok_216 hT hF hM) (ab_mc (tM3_ok_219 hT hF hM) (ab_mc (tM3_ok_222 hT hF hM) (ab_mc (tM3_ok_226 hT hF hM) (ab_mc (tM3_ok_229 hT hF hM) (ab_mc (tM3_ok_233 hT hF hM) (ab_mc (tM3_ok_236 hT hF hM) (ab_mc (tM3_ok_239 hT hF hM) (ab_mc (tM3_ok_242 hT hF hM) (ab_mc (tM3_ok_245 hT hF hM) (ab_mc (tM3_ok_249 hT hF hM) (ab_mc (tM3_ok_251 hT hF hM) (ab_mc (tM3_ok_254 hT hF hM) (ab_mc (tM3_ok_257 hT hF hM) (ab_mc (tM3_ok_260 hT hF hM) (ab_mc (tM3_ok_264 hT hF hM) (ab_mc (tM3_ok_267 hT hF hM) (ab_mc (tM3_ok_270 hT hF hM) (ab_mc (tM3_ok_273 hT hF hM) (ab_mc (tM3_ok_276 hT hF hM) (ab_mc (tM3_ok_280 hT hF hM) (ab_mc (tM3_ok_282 hT hF hM) (ab_mc (tM3_ok_285 hT hF hM) (ab_mc (tM3_ok_288 hT hF hM) (ab_mc (tM3_ok_291 hT hF hM) (ab_mc (tM3_ok_294 hT hF hM) (ab_mc (tM3_ok_297 hT hF hM) (ab_mc (tM3_ok_300 hT hF hM) ab_mn)))))))))))))))))))))))))))))))))))))))))))))))))))))))))))))))
theorem tN3_ok_7 {s : State} {args : Array Value} (hT : ∀ w ∈ nTc, w.before args s = true) (hF : ∀ r ∈ nNF, va_Nw (.fieldLinkNest r.1 r.2.1 r.2.2.1 r.2.2.2.1 r.2.2.2.2.1 r.2.2.2.2.2) s) (hM : ∀ r ∈ nNM, va_Nw (.methodLinkNest r.1 r.2.1 r.2.2.1 r.2.2.2) s) : ab_NL s args "LevelMachine" nCl nTc 7 1 [false, false] := ⟨"LevelMachine$Memory", nT1, 2, nY1, rfl, nU1, nP1, hT _ tw15, hT _ tw16, hT _ tw2, rfl, by
    intro k b hk
    have hl := (List.getElem?_eq_some_iff.mp hk).1
    rcases (show k = 0 ∨ k = 1 by simp at hl; omega) with rfl | rfl <;> cases hk <;> rfl⟩
theorem tN3_ok_23 {s : State} {args : Array Value} (hT : ∀ w ∈ nTc, w.before args s = true) (hF : ∀ r ∈ nNF, va_Nw (.fieldLinkNest r.1 r.2.1 r.2.2.1 r.2.2.2.1 r.2.2.2.2.1 r.2.2.2.2.2) s) (hM : ∀ r ∈ nNM, va_Nw (.methodLinkNest r.1 r.2.1 r.2.2.1 r.2.2.2) s) : ab_NL s args "LevelMachine" nCl nTc 23 2 [true, true, true, true, true, true] := ⟨"LevelMachine$Segment", nT2, 6, nY2, rfl, nU2, nP2, hT _ tw29, hT _ tw31, hT _ tw3, rfl, by
    intro k b hk
    have hl := (List.getElem?_eq_some_iff.mp hk).1
    rcases (show k = 0 ∨ k = 1 ∨ k = 2 ∨ k = 3 ∨ k = 4 ∨ k = 5 by simp at hl; omega) with rfl | rfl | rfl | rfl | rfl | rfl <;> cases hk <;> rfl⟩
theorem tN3_ok_39 {s : State} {args : Array Value} (hT : ∀ w ∈ nTc, w.before args s = true) (hF : ∀ r ∈ nNF, va_Nw (.fieldLinkNest r.1 r.2.1 r.2.2.1 r.2.2.2.1 r.2.2.2.2.1 r.2.2.2.2.2) s) (hM : ∀ r ∈ nNM, va_Nw (.methodLinkNest r.1 r.2.1 r.2.2.1 r.2.2.2) s) : ab_NL s args "LevelMachine" nCl nTc 39 0 [true, true, true, true, true] := ⟨"LevelMachine$Instruction", nT0, 5, nY0, rfl, nU0, nP0, hT _ tw61, hT _ tw62, hT _ tw4, rfl, by
    intro k b hk
    have hl := (List.getElem?_eq_some_iff.mp hk).1
    rcases (show k = 0 ∨ k = 1 ∨ k = 2 ∨ k = 3 ∨ k = 4 by simp at hl; omega) with rfl | rfl | rfl | rfl | rfl <;> cases hk <;> rfl⟩
theorem tN3_ok {s : State} {args : Array Value} (hT : ∀ w ∈ nTc, w.before args s = true) (hF : ∀ r ∈ nNF, va_Nw (.fieldLinkNest r.1 r.2.1 r.2.2.1 r.2.2.2.1 r.2.2.2.2.1 r.2.2.2.2.2) s) (hM : ∀ r ∈ nNM, va_Nw (.methodLinkNest r.1 r.2.1 r.2.2.1 r.2.2.2) s) : ∀ q ∈ tN3, ab_NL s args "LevelMachine" nCl nTc q.1 q.2.1 q.2.2 := ab_mc (tN3_ok_7 hT hF hM) (ab_mc (tN3_ok_23 hT hF hM) (ab_mc (tN3_ok_39 hT hF hM) ab_mn))
set_option maxRecDepth 100000 in
theorem tB3 : ab_TB "LevelMachine" nCl nRn nSL nNF nNM nTc nmm tF3 tS3 tN3 tR3 tO3 tA3 tK3 tM3 := fun s args hT hF hM => ⟨tF3_ok hT hF hM, ab_mn, tN3_ok hT hF hM, hT _ tw28, ab_mc (fun C h => by cases h; exact hT _ tw29) ab_mn, ab_mc (⟨hT _ tw12, hT _ tw13, hT _ tw14⟩) ab_mn, ab_mc (⟨hT _ tw205, hT _ tw204, hT _ tw203, hT _ tw6⟩) ab_mn, ab_mc (hT _ tw136) (ab_mc (hT _ tw226) (ab_mc (hT _ tw262) ab_mn)), tM3_ok hT hF hM⟩
def tF4 : List (Nat × Nat × Nat × Nat) := [(7, 4, 0, 3), (13, 4, 1, 3), (16, 4, 2, 3), (19, 4, 3, 3), (22, 4, 4, 3), (25, 4, 5, 3), (32, 4, 7, 0), (36, 4, 8, 0), (120, 4, 12, 0), (123, 4, 16, 0), (129, 4, 13, 0), (132, 4, 14, 0), (135, 4, 15, 0), (176, 4, 6, 0), (205, 4, 9, 0), (208, 4, 10, 0), (211, 4, 11, 0)]
def tK4 : List (Nat × Int) := [(43, 65535), (160, 32768)]
def tS4 : List (Nat × Nat) := []
def tN4 : List (Nat × Nat × List Bool) := []
def tR4 : List (Nat × Nat) := []
def tO4 : List Nat := [1]
def tA4 : List Nat := []
def tM4 : List (Nat × Nat × Nat × Nat × Nat) := [(28, 1, 53, 2, 4), (39, 0, 56, 2, 4), (44, 0, 63, 2, 4), (48, 0, 64, 1, 4), (52, 1, 52, 3, 4), (56, 0, 65, 1, 4), (59, 0, 71, 3, 4), (63, 0, 58, 1, 4), (66, 0, 59, 2, 4), (69, 0, 73, 3, 4), (73, 0, 72, 2, 4), (76, 1, 61, 1, 4), (80, 0, 70, 1, 4), (84, 1, 62, 1, 4), (87, 0, 57, 3, 4), (91, 0, 60, 0, 4), (95, 0, 66, 1, 4), (98, 0, 69, 2, 4), (101, 0, 67, 1, 4), (104, 0, 79, 3, 4), (107, 0, 74, 1, 4), (110, 0, 81, 1, 4), (114, 0, 80, 3, 4), (117, 0, 83, 1, 4), (126, 0, 84, 1, 4), (138, 0, 88, 2, 4), (141, 0, 82, 4, 4), (145, 0, 75, 0, 4), (148, 0, 78, 1, 4), (151, 0, 68, 2, 4), (154, 0, 89, 2, 4), (157, 0, 77, 2, 4), (161, 0, 76, 0, 4), (164, 1, 91, 3, 4), (167, 0, 93, 3, 4), (170, 0, 94, 3, 4), (173, 0, 95, 3, 4), (179, 0, 90, 3, 4), (183, 0, 85, 3, 4), (186, 0, 86, 3, 4), (189, 0, 87, 2, 4), (193, 0, 96, 0, 4), (196, 0, 97, 1, 4), (199, 0, 54, 0, 4), (202, 0, 55, 0, 4), (214, 0, 92, 0, 4), (217, 0, 99, 2, 4), (220, 0, 98, 2, 4), (224, 0, 100, 0, 4)]
theorem tF4_ok_7 {s : State} {args : Array Value} (hT : ∀ w ∈ nTc, w.before args s = true) (hF : ∀ r ∈ nNF, va_Nw (.fieldLinkNest r.1 r.2.1 r.2.2.1 r.2.2.2.1 r.2.2.2.2.1 r.2.2.2.2.2) s) (hM : ∀ r ∈ nNM, va_Nw (.methodLinkNest r.1 r.2.1 r.2.2.1 r.2.2.2) s) : ab_FL s args "LevelMachineModel" nCl nTc 7 4 0 3 := ⟨"LevelMachineModel", nT4, 17, nY4, "LevelMachineModel", rfl, by decide, nU4, nP4, nN4, fun _ h => h, Or.inl (hT _ tw424), fun h => absurd h (by decide), fun _ => Or.inr ⟨_, rfl⟩, fun h => absurd h (by decide), fun _ _ => ⟨rfl, rfl, hT _ tw424⟩⟩
theorem tF4_ok_13 {s : State} {args : Array Value} (hT : ∀ w ∈ nTc, w.before args s = true) (hF : ∀ r ∈ nNF, va_Nw (.fieldLinkNest r.1 r.2.1 r.2.2.1 r.2.2.2.1 r.2.2.2.2.1 r.2.2.2.2.2) s) (hM : ∀ r ∈ nNM, va_Nw (.methodLinkNest r.1 r.2.1 r.2.2.1 r.2.2.2) s) : ab_FL s args "LevelMachineModel" nCl nTc 13 4 1 3 := ⟨"LevelMachineModel", nT4, 17, nY4, "LevelMachineModel", rfl, by decide, nU4, nP4, nN4, fun _ h => h, Or.inl (hT _ tw425), fun h => absurd h (by decide), fun _ => Or.inr ⟨_, rfl⟩, fun h => absurd h (by decide), fun _ _ => ⟨rfl, rfl, hT _ tw425⟩⟩
theorem tF4_ok_16 {s : State} {args : Array Value} (hT : ∀ w ∈ nTc, w.before args s = true) (hF : ∀ r ∈ nNF, va_Nw (.fieldLinkNest r.1 r.2.1 r.2.2.1 r.2.2.2.1 r.2.2.2.2.1 r.2.2.2.2.2) s) (hM : ∀ r ∈ nNM, va_Nw (.methodLinkNest r.1 r.2.1 r.2.2.1 r.2.2.2) s) : ab_FL s args "LevelMachineModel" nCl nTc 16 4 2 3 := ⟨"LevelMachineModel", nT4, 17, nY4, "LevelMachineModel", rfl, by decide, nU4, nP4, nN4, fun _ h => h, Or.inl (hT _ tw426), fun h => absurd h (by decide), fun _ => Or.inr ⟨_, rfl⟩, fun h => absurd h (by decide), fun _ _ => ⟨rfl, rfl, hT _ tw426⟩⟩
theorem tF4_ok_19 {s : State} {args : Array Value} (hT : ∀ w ∈ nTc, w.before args s = true) (hF : ∀ r ∈ nNF, va_Nw (.fieldLinkNest r.1 r.2.1 r.2.2.1 r.2.2.2.1 r.2.2.2.2.1 r.2.2.2.2.2) s) (hM : ∀ r ∈ nNM, va_Nw (.methodLinkNest r.1 r.2.1 r.2.2.1 r.2.2.2) s) : ab_FL s args "LevelMachineModel" nCl nTc 19 4 3 3 := ⟨"LevelMachineModel", nT4, 17, nY4, "LevelMachineModel", rfl, by decide, nU4, nP4, nN4, fun _ h => h, Or.inl (hT _ tw427), fun h => absurd h (by decide), fun _ => Or.inr ⟨_, rfl⟩, fun h => absurd h (by decide), fun _ _ => ⟨rfl, rfl, hT _ tw427⟩⟩
theorem tF4_ok_22 {s : State} {args : Array Value} (hT : ∀ w ∈ nTc, w.before args s = true) (hF : ∀ r ∈ nNF, va_Nw (.fieldLinkNest r.1 r.2.1 r.2.2.1 r.2.2.2.1 r.2.2.2.2.1 r.2.2.2.2.2) s) (hM : ∀ r ∈ nNM, va_Nw (.methodLinkNest r.1 r.2.1 r.2.2.1 r.2.2.2) s) : ab_FL s args "LevelMachineModel" nCl nTc 22 4 4 3 := ⟨"LevelMachineModel", nT4, 17, nY4, "LevelMachineModel", rfl, by decide, nU4, nP4, nN4, fun _ h => h, Or.inl (hT _ tw428), fun h => absurd h (by decide), fun _ => Or.inr ⟨_, rfl⟩, fun h => absurd h (by decide), fun _ _ => ⟨rfl, rfl, hT _ tw428⟩⟩
theorem tF4_ok_25 {s : State} {args : Array Value} (hT : ∀ w ∈ nTc, w.before args s = true) (hF : ∀ r ∈ nNF, va_Nw (.fieldLinkNest r.1 r.2.1 r.2.2.1 r.2.2.2.1 r.2.2.2.2.1 r.2.2.2.2.2) s) (hM : ∀ r ∈ nNM, va_Nw (.methodLinkNest r.1 r.2.1 r.2.2.1 r.2.2.2) s) : ab_FL s args "LevelMachineModel" nCl nTc 25 4 5 3 := ⟨"LevelMachineModel", nT4, 17, nY4, "LevelMachineModel", rfl, by decide, nU4, nP4, nN4, fun _ h => h, Or.inl (hT _ tw429), fun h => absurd h (by decide), fun _ => Or.inr ⟨_, rfl⟩, fun h => absurd h (by decide), fun _ _ => ⟨rfl, rfl, hT _ tw429⟩⟩
theorem tF4_ok_32 {s : State} {args : Array Value} (hT : ∀ w ∈ nTc, w.before args s = true) (hF : ∀ r ∈ nNF, va_Nw (.fieldLinkNest r.1 r.2.1 r.2.2.1 r.2.2.2.1 r.2.2.2.2.1 r.2.2.2.2.2) s) (hM : ∀ r ∈ nNM, va_Nw (.methodLinkNest r.1 r.2.1 r.2.2.1 r.2.2.2) s) : ab_FL s args "LevelMachineModel" nCl nTc 32 4 7 0 := ⟨"LevelMachineModel", nT4, 17, nY4, "LevelMachineModel", rfl, by decide, nU4, nP4, nN4, fun _ h => h, Or.inl (hT _ tw431), fun _ => rfl, fun h => absurd h (by decide), fun _ => rfl, fun h => absurd h (by decide)⟩
theorem tF4_ok_36 {s : State} {args : Array Value} (hT : ∀ w ∈ nTc, w.before args s = true) (hF : ∀ r ∈ nNF, va_Nw (.fieldLinkNest r.1 r.2.1 r.2.2.1 r.2.2.2.1 r.2.2.2.2.1 r.2.2.2.2.2) s) (hM : ∀ r ∈ nNM, va_Nw (.methodLinkNest r.1 r.2.1 r.2.2.1 r.2.2.2) s) : ab_FL s args "LevelMachineModel" nCl nTc 36 4 8 0 := ⟨"LevelMachineModel", nT4, 17, nY4, "LevelMachineModel", rfl, by decide, nU4, nP4, nN4, fun _ h => h, Or.inl (hT _ tw432), fun _ => rfl, fun h => absurd h (by decide), fun _ => rfl, fun h => absurd h (by decide)⟩
theorem tF4_ok_120 {s : State} {args : Array Value} (hT : ∀ w ∈ nTc, w.before args s = true) (hF : ∀ r ∈ nNF, va_Nw (.fieldLinkNest r.1 r.2.1 r.2.2.1 r.2.2.2.1 r.2.2.2.2.1 r.2.2.2.2.2) s) (hM : ∀ r ∈ nNM, va_Nw (.methodLinkNest r.1 r.2.1 r.2.2.1 r.2.2.2) s) : ab_FL s args "LevelMachineModel" nCl nTc 120 4 12 0 := ⟨"LevelMachineModel", nT4, 17, nY4, "LevelMachineModel", rfl, by decide, nU4, nP4, nN4, fun _ h => h, Or.inl (hT _ tw436), fun _ => rfl, fun h => absurd h (by decide), fun _ => rfl, fun h => absurd h (by decide)⟩
theorem tF4_ok_123 {s : State} {args : Array Value} (hT : ∀ w ∈ nTc, w.before args s = true) (hF : ∀ r ∈ nNF, va_Nw (.fieldLinkNest r.1 r.2.1 r.2.2.1 r.2.2.2.1 r.2.2.2.2.1 r.2.2.2.2.2) s) (hM : ∀ r ∈ nNM, va_Nw (.methodLinkNest r.1 r.2.1 r.2.2.1 r.2.2.2) s) : ab_FL s args "LevelMachineModel" nCl nTc 123 4 16 0 := ⟨"LevelMachineModel", nT4, 17, nY4, "LevelMachineModel", rfl, by decide, nU4, nP4, nN4, fun _ h => h, Or.inl (hT _ tw440), fun _ => rfl, fun h => absurd h (by decide), fun _ => rfl, fun h => absurd h (by decide)⟩
theorem tF4_ok_129 {s : State} {args : Array Value} (hT : ∀ w ∈ nTc, w.before args s = true) (hF : ∀ r ∈ nNF, va_Nw (.fieldLinkNest r.1 r.2.1 r.2.2.1 r.2.2.2.1 r.2.2.2.2.1 r.2.2.2.2.2) s) (hM : ∀ r ∈ nNM, va_Nw (.methodLinkNest r.1 r.2.1 r.2.2.1 r.2.2.2) s) : ab_FL s args "LevelMachineModel" nCl nTc 129 4 13 0 := ⟨"LevelMachineModel", nT4, 17, nY4, "LevelMachineModel", rfl, by decide, nU4, nP4, nN4, fun _ h => h, Or.inl (hT _ tw437), fun _ => rfl, fun h => absurd h (by decide), fun _ => rfl, fun h => absurd h (by decide)⟩
theorem tF4_ok_132 {s : State} {args : Array Value} (hT : ∀ w ∈ nTc, w.before args s = true) (hF : ∀ r ∈ nNF, va_Nw (.fieldLinkNest r.1 r.2.1 r.2.2.1 r.2.2.2.1 r.2.2.2.2.1 r.2.2.2.2.2) s) (hM : ∀ r ∈ nNM, va_Nw (.methodLinkNest r.1 r.2.1 r.2.2.1 r.2.2.2) s) : ab_FL s args "LevelMachineModel" nCl nTc 132 4 14 0 := ⟨"LevelMachineModel", nT4, 17, nY4, "LevelMachineModel", rfl, by decide, nU4, nP4, nN4, fun _ h => h, Or.inl (hT _ tw438), fun _ => rfl, fun h => absurd h (by decide), fun _ => rfl, fun h => absurd h (by decide)⟩
theorem tF4_ok_135 {s : State} {args : Array Value} (hT : ∀ w ∈ nTc, w.before args s = true) (hF : ∀ r ∈ nNF, va_Nw (.fieldLinkNest r.1 r.2.1 r.2.2.1 r.2.2.2.1 r.2.2.2.2.1 r.2.2.2.2.2) s) (hM : ∀ r ∈ nNM, va_Nw (.methodLinkNest r.1 r.2.1 r.2.2.1 r.2.2.2) s) : ab_FL s args "LevelMachineModel" nCl nTc 135 4 15 0 := ⟨"LevelMachineModel", nT4, 17, nY4, "LevelMachineModel", rfl, by decide, nU4, nP4, nN4, fun _ h => h, Or.inl (hT _ tw439), fun _ => rfl, fun h => absurd h (by decide), fun _ => rfl, fun h => absurd h (by decide)⟩
theorem tF4_ok_176 {s : State} {args : Array Value} (hT : ∀ w ∈ nTc, w.before args s = true) (hF : ∀ r ∈ nNF, va_Nw (.fieldLinkNest r.1 r.2.1 r.2.2.1 r.2.2.2.1 r.2.2.2.2.1 r.2.2.2.2.2) s) (hM : ∀ r ∈ nNM, va_Nw (.methodLinkNest r.1 r.2.1 r.2.2.1 r.2.2.2) s) : ab_FL s args "LevelMachineModel" nCl nTc 176 4 6 0 := ⟨"LevelMachineModel", nT4, 17, nY4, "LevelMachineModel", rfl, by decide, nU4, nP4, nN4, fun _ h => h, Or.inl (hT _ tw430), fun _ => rfl, fun h => absurd h (by decide), fun _ => rfl, fun h => absurd h (by decide)⟩
theorem tF4_ok_205 {s : State} {args : Array Value} (hT : ∀ w ∈ nTc, w.before args s = true) (hF : ∀ r ∈ nNF, va_Nw (.fieldLinkNest r.1 r.2.1 r.2.2.1 r.2.2.2.1 r.2.2.2.2.1 r.2.2.2.2.2) s) (hM : ∀ r ∈ nNM, va_Nw (.methodLinkNest r.1 r.2.1 r.2.2.1 r.2.2.2) s) : ab_FL s args "LevelMachineModel" nCl nTc 205 4 9 0 := ⟨"LevelMachineModel", nT4, 17, nY4, "LevelMachineModel", rfl, by decide, nU4, nP4, nN4, fun _ h => h, Or.inl (hT _ tw433), fun _ => rfl, fun h => absurd h (by decide), fun _ => rfl, fun h => absurd h (by decide)⟩
theorem tF4_ok_208 {s : State} {args : Array Value} (hT : ∀ w ∈ nTc, w.before args s = true) (hF : ∀ r ∈ nNF, va_Nw (.fieldLinkNest r.1 r.2.1 r.2.2.1 r.2.2.2.1 r.2.2.2.2.1 r.2.2.2.2.2) s) (hM : ∀ r ∈ nNM, va_Nw (.methodLinkNest r.1 r.2.1 r.2.2.1 r.2.2.2) s) : ab_FL s args "LevelMachineModel" nCl nTc 208 4 10 0 := ⟨"LevelMachineModel", nT4, 17, nY4, "LevelMachineModel", rfl, by decide, nU4, nP4, nN4, fun _ h => h, Or.inl (hT _ tw434), fun _ => rfl, fun h => absurd h (by decide), fun _ => rfl, fun h => absurd h (by decide)⟩
theorem tF4_ok_211 {s : State} {args : Array Value} (hT : ∀ w ∈ nTc, w.before args s = true) (hF : ∀ r ∈ nNF, va_Nw (.fieldLinkNest r.1 r.2.1 r.2.2.1 r.2.2.2.1 r.2.2.2.2.1 r.2.2.2.2.2) s) (hM : ∀ r ∈ nNM, va_Nw (.methodLinkNest r.1 r.2.1 r.2.2.1 r.2.2.2) s) : ab_FL s args "LevelMachineModel" nCl nTc 211 4 11 0 := ⟨"LevelMachineModel", nT4, 17, nY4, "LevelMachineModel", rfl, by decide, nU4, nP4, nN4, fun _ h => h, Or.inl (hT _ tw435), fun _ => rfl, fun h => absurd h (by decide), fun _ => rfl, fun h => absurd h (by decide)⟩
theorem tF4_ok {s : State} {args : Array Value} (hT : ∀ w ∈ nTc, w.before args s = true) (hF : ∀ r ∈ nNF, va_Nw (.fieldLinkNest r.1 r.2.1 r.2.2.1 r.2.2.2.1 r.2.2.2.2.1 r.2.2.2.2.2) s) (hM : ∀ r ∈ nNM, va_Nw (.methodLinkNest r.1 r.2.1 r.2.2.1 r.2.2.2) s) : ∀ q ∈ tF4, ab_FL s args "LevelMachineModel" nCl nTc q.1 q.2.1 q.2.2.1 q.2.2.2 := ab_mc (tF4_ok_7 hT hF hM) (ab_mc (tF4_ok_13 hT hF hM) (ab_mc (tF4_ok_16 hT hF hM) (ab_mc (tF4_ok_19 hT hF hM) (ab_mc (tF4_ok_22 hT hF hM) (ab_mc (tF4_ok_25 hT hF hM) (ab_mc (tF4_ok_32 hT hF hM) (ab_mc (tF4_ok_36 hT hF hM) (ab_mc (tF4_ok_120 hT hF hM) (ab_mc (tF4_ok_123 hT hF hM) (ab_mc (tF4_ok_129 hT hF hM) (ab_mc (tF4_ok_132 hT hF hM) (ab_mc (tF4_ok_135 hT hF hM) (ab_mc (tF4_ok_176 hT hF hM) (ab_mc (tF4_ok_205 hT hF hM) (ab_mc (tF4_ok_208 hT hF hM) (ab_mc (tF4_ok_211 hT hF hM) ab_mn))))))))))))))))
theorem tM4_ok_28 {s : State} {args : Array Value} (hT : ∀ w ∈ nTc, w.before args s = true) (hF : ∀ r ∈ nNF, va_Nw (.fieldLinkNest r.1 r.2.1 r.2.2.1 r.2.2.2.1 r.2.2.2.2.1 r.2.2.2.2.2) s) (hM : ∀ r ∈ nNM, va_Nw (.methodLinkNest r.1 r.2.1 r.2.2.1 r.2.2.2) s) : GoodIn nTc (.code (nmm 53).1 (nmm 53).2.1 (nmm 53).2.2.1 (nmm 53).2.2.2 :: nTc) ∧ ab_ML s args "LevelMachineModel" nCl 1 28 (nmm 53).1 (nmm 53).2.2.2 2 4 := ⟨nG tw493, Or.inl (hT _ tw491), hT _ tw5, ⟨by decide, by decide, by decide +kernel⟩, fun h => absurd h (by decide), fun _ => hT _ tw492, fun h => absurd h (by decide)⟩
theorem tM4_ok_39 {s : State} {args : Array Value} (hT : ∀ w ∈ nTc, w.before args s = true) (hF : ∀ r ∈ nNF, va_Nw (.fieldLinkNest r.1 r.2.1 r.2.2.1 r.2.2.2.1 r.2.2.2.2.1 r.2.2.2.2.2) s) (hM : ∀ r ∈ nNM, va_Nw (.methodLinkNest r.1 r.2.1 r.2.2.1 r.2.2.2) s) : GoodIn nTc (.code (nmm 56).1 (nmm 56).2.1 (nmm 56).2.2.1 (nmm 56).2.2.2 :: nTc) ∧ ab_ML s args "LevelMachineModel" nCl 0 39 (nmm 56).1 (nmm 56).2.2.2 2 4 := ⟨nG tw505, Or.inl (hT _ tw502), hT _ tw5, ⟨by decide, by decide, by decide +kernel⟩, fun _ => ⟨hT _ tw504, _, rfl, hT _ sl43⟩, fun h => absurd h (by decide), fun h => absurd h (by decide)⟩
theorem tM4_ok_44 {s : State} {args : Array Value} (hT : ∀ w ∈ nTc, w.before args s = true) (hF : ∀ r ∈ nNF, va_Nw (.fieldLinkNest r.1 r.2.1 r.2.2.1 r.2.2.2.1 r.2.2.2.2.1 r.2.2.2.2.2) s) (hM : ∀ r ∈ nNM, va_Nw (.methodLinkNest r.1 r.2.1 r.2.2.1 r.2.2.2) s) : GoodIn nTc (.code (nmm 63).1 (nmm 63).2.1 (nmm 63).2.2.1 (nmm 63).2.2.2 :: nTc) ∧ ab_ML s args "LevelMachineModel" nCl 0 44 (nmm 63).1 (nmm 63).2.2.2 2 4 := ⟨nG tw576, Or.inl (hT _ tw573), hT _ tw5, ⟨by decide, by decide, by decide +kernel⟩, fun _ => ⟨hT _ tw575, _, rfl, hT _ sl58⟩, fun h => absurd h (by decide), fun h => absurd h (by decide)⟩
theorem tM4_ok_48 {s : State} {args : Array Value} (hT : ∀ w ∈ nTc, w.before args s = true) (hF : ∀ r ∈ nNF, va_Nw (.fieldLinkNest r.1 r.2.1 r.2.2.1 r.2.2.2.1 r.2.2.2.2.1 r.2.2.2.2.2) s) (hM : ∀ r ∈ nNM, va_Nw (.methodLinkNest r.1 r.2.1 r.2.2.1 r.2.2.2) s) : GoodIn nTc (.code (nmm 64).1 (nmm 64).2.1 (nmm 64).2.2.1 (nmm 64).2.2.2 :: nTc) ∧ ab_ML s args "LevelMachineModel" nCl 0 48 (nmm 64).1 (nmm 64).2.2.2 1 4 := ⟨nG tw572, Or.inl (hT _ tw569), hT _ tw5, ⟨by decide, by decide, by decide +kernel⟩, fun _ => ⟨hT _ tw571, _, rfl, hT _ sl57⟩, fun h => absurd h (by decide), fun h => absurd h (by decide)⟩
theorem tM4_ok_52 {s : State} {args : Array Value} (hT : ∀ w ∈ nTc, w.before args s = true) (hF : ∀ r ∈ nNF, va_Nw (.fieldLinkNest r.1 r.2.1 r.2.2.1 r.2.2.2.1 r.2.2.2.2.1 r.2.2.2.2.2) s) (hM : ∀ r ∈ nNM, va_Nw (.methodLinkNest r.1 r.2.1 r.2.2.1 r.2.2.2) s) : GoodIn nTc (.code (nmm 52).1 (nmm 52).2.1 (nmm 52).2.2.1 (nmm 52).2.2.2 :: nTc) ∧ ab_ML s args "LevelMachineModel" nCl 1 52 (nmm 52).1 (nmm 52).2.2.2 3 4 := ⟨nG tw482, Or.inl (hT _ tw480), hT _ tw5, ⟨by decide, by decide, by decide +kernel⟩, fun h => absurd h (by decide), fun _ => hT _ tw481, fun h => absurd h (by decide)⟩
theorem tM4_ok_56 {s : State} {args : Array Value} (hT : ∀ w ∈ nTc, w.before args s = true) (hF : ∀ r ∈ nNF, va_Nw (.fieldLinkNest r.1 r.2.1 r.2.2.1 r.2.2.2.1 r.2.2.2.2.1 r.2.2.2.2.2) s) (hM : ∀ r ∈ nNM, va_Nw (.methodLinkNest r.1 r.2.1 r.2.2.1 r.2.2.2) s) : GoodIn nTc (.code (nmm 65).1 (nmm 65).2.1 (nmm 65).2.2.1 (nmm 65).2.2.2 :: nTc) ∧ ab_ML s args "LevelMachineModel" nCl 0 56 (nmm 65).1 (nmm 65).2.2.2 1 4 := ⟨nG tw580, Or.inl (hT _ tw577), hT _ tw5, ⟨by decide, by decide, by decide +kernel⟩, fun _ => ⟨hT _ tw579, _, rfl, hT _ sl59⟩, fun h => absurd h (by decide), fun h => absurd h (by decide)⟩
theorem tM4_ok_59 {s : State} {args : Array Value} (hT : ∀ w ∈ nTc, w.before args s = true) (hF : ∀ r ∈ nNF, va_Nw (.fieldLinkNest r.1 r.2.1 r.2.2.1 r.2.2.2.1 r.2.2.2.2.1 r.2.2.2.2.2) s) (hM : ∀ r ∈ nNM, va_Nw (.methodLinkNest r.1 r.2.1 r.2.2.1 r.2.2.2) s) : GoodIn nTc (.code (nmm 71).1 (nmm 71).2.1 (nmm 71).2.2.1 (nmm 71).2.2.2 :: nTc) ∧ ab_ML s args "LevelMachineModel" nCl 0 59 (nmm 71).1 (nmm 71).2.2.2 3 4 := ⟨nG tw538, Or.inl (hT _ tw535), hT _ tw5, ⟨by decide, by decide, by decide +kernel⟩, fun _ => ⟨hT _ tw537, _, rfl, hT _ sl50⟩, fun h => absurd h (by decide), fun h => absurd h (by decide)⟩
theorem tM4_ok_63 {s : State} {args : Array Value} (hT : ∀ w ∈ nTc, w.before args s = true) (hF : ∀ r ∈ nNF, va_Nw (.fieldLinkNest r.1 r.2.1 r.2.2.1 r.2.2.2.1 r.2.2.2.2.1 r.2.2.2.2.2) s) (hM : ∀ r ∈ nNM, va_Nw (.methodLinkNest r.1 r.2.1 r.2.2.1 r.2.2.2) s) : GoodIn nTc (.code (nmm 58).1 (nmm 58).2.1 (nmm 58).2.2.1 (nmm 58).2.2.2 :: nTc) ∧ ab_ML s args "LevelMachineModel" nCl 0 63 (nmm 58).1 (nmm 58).2.2.2 1 4 := ⟨nG tw509, Or.inl (hT _ tw506), hT _ tw5, ⟨by decide, by decide, by decide +kernel⟩, fun _ => ⟨hT _ tw508, _, rfl, hT _ sl44⟩, fun h => absurd h (by decide), fun h => absurd h (by decide)⟩
theorem tM4_ok_66 {s : State} {args : Array Value} (hT : ∀ w ∈ nTc, w.before args s = true) (hF : ∀ r ∈ nNF, va_Nw (.fieldLinkNest r.1 r.2.1 r.2.2.1 r.2.2.2.1 r.2.2.2.2.1 r.2.2.2.2.2) s) (hM : ∀ r ∈ nNM, va_Nw (.methodLinkNest r.1 r.2.1 r.2.2.1 r.2.2.2) s) : GoodIn nTc (.code (nmm 59).1 (nmm 59).2.1 (nmm 59).2.2.1 (nmm 59).2.2.2 :: nTc) ∧ ab_ML s args "LevelMachineModel" nCl 0 66 (nmm 59).1 (nmm 59).2.2.2 2 4 := ⟨nG tw546, Or.inl (hT _ tw543), hT _ tw5, ⟨by decide, by decide, by decide +kernel⟩, fun _ => ⟨hT _ tw545, _, rfl, hT _ sl52⟩, fun h => absurd h (by decide), fun h => absurd h (by decide)⟩
theorem tM4_ok_69 {s : State} {args : Array Value} (hT : ∀ w ∈ nTc, w.before args s = true) (hF : ∀ r ∈ nNF, va_Nw (.fieldLinkNest r.1 r.2.1 r.2.2.1 r.2.2.2.1 r.2.2.2.2.1 r.2.2.2.2.2) s) (hM : ∀ r ∈ nNM, va_Nw (.methodLinkNest r.1 r.2.1 r.2.2.1 r.2.2.2) s) : GoodIn nTc (.code (nmm 73).1 (nmm 73).2.1 (nmm 73).2.2.1 (nmm 73).2.2.2 :: nTc) ∧ ab_ML s args "LevelMachineModel" nCl 0 69 (nmm 73).1 (nmm 73).2.2.2 3 4 := ⟨nG tw542, Or.inl (hT _ tw539), hT _ tw5, ⟨by decide, by decide, by decide +kernel⟩, fun _ => ⟨hT _ tw541, _, rfl, hT _ sl51⟩, fun h => absurd h (by decide), fun h => absurd h (by decide)⟩
theorem tM4_ok_73 {s : State} {args : Array Value} (hT : ∀ w ∈ nTc, w.before args s = true) (hF : ∀ r ∈ nNF, va_Nw (.fieldLinkNest r.1 r.2.1 r.2.2.1 r.2.2.2.1 r.2.2.2.2.1 r.2.2.2.2.2) s) (hM : ∀ r ∈ nNM, va_Nw (.methodLinkNest r.1 r.2.1 r.2.2.1 r.2.2.2) s) : GoodIn nTc (.code (nmm 72).1 (nmm 72).2.1 (nmm 72).2.2.1 (nmm 72).2.2.2 :: nTc) ∧ ab_ML s args "LevelMachineModel" nCl 0 73 (nmm 72).1 (nmm 72).2.2.2 2 4 := ⟨nG tw534, Or.inl (hT _ tw531), hT _ tw5, ⟨by decide, by decide, by decide +kernel⟩, fun _ => ⟨hT _ tw533, _, rfl, hT _ sl49⟩, fun h => absurd h (by decide), fun h => absurd h (by decide)⟩
theorem tM4_ok_76 {s : State} {args : Array Value} (hT : ∀ w ∈ nTc, w.before args s = true) (hF : ∀ r ∈ nNF, va_Nw (.fieldLinkNest r.1 r.2.1 r.2.2.1 r.2.2.2.1 r.2.2.2.2.1 r.2.2.2.2.2) s) (hM : ∀ r ∈ nNM, va_Nw (.methodLinkNest r.1 r.2.1 r.2.2.1 r.2.2.2) s) : GoodIn nTc (.code (nmm 61).1 (nmm 61).2.1 (nmm 61).2.2.1 (nmm 61).2.2.2 :: nTc) ∧ ab_ML s args "LevelMachineModel" nCl 1 76 (nmm 61).1 (nmm 61).2.2.2 1 4 := ⟨nG tw561, Or.inl (hT _ tw559), hT _ tw5, ⟨by decide, by decide, by decide +kernel⟩, fun h => absurd h (by decide), fun _ => hT _ tw560, fun h => absurd h (by decide)⟩
theorem tM4_ok_80 {s : State} {args : Array Value} (hT : ∀ w ∈ nTc, w.before args s = true) (hF : ∀ r ∈ nNF, va_Nw (.fieldLinkNest r.1 r.2.1 r.2.2.1 r.2.2.2.1 r.2.2.2.2.1 r.2.2.2.2.2) s) (hM : ∀ r ∈ nNM, va_Nw (.methodLinkNest r.1 r.2.1 r.2.2.1 r.2.2.2) s) : GoodIn nTc (.code (nmm 70).1 (nmm 70).2.1 (nmm 70).2.2.1 (nmm 70).2.2.2 :: nTc) ∧ ab_ML s args "LevelMachineModel" nCl 0 80 (nmm 70).1 (nmm 70).2.2.2 1 4 := ⟨nG tw596, Or.inl (hT _ tw593), hT _ tw5, ⟨by decide, by decide, by decide +kernel⟩, fun _ => ⟨hT _ tw595, _, rfl, hT _ sl63⟩, fun h => absurd h (by decide), fun h => absurd h (by decide)⟩
theorem tM4_ok_84 {s : State} {args : Array Value} (hT : ∀ w ∈ nTc, w.before args s = true) (hF : ∀ r ∈ nNF, va_Nw (.fieldLinkNest r.1 r.2.1 r.2.2.1 r.2.2.2.1 r.2.2.2.2.1 r.2.2.2.2.2) s) (hM : ∀ r ∈ nNM, va_Nw (.methodLinkNest r.1 r.2.1 r.2.2.1 r.2.2.2) s) : GoodIn nTc (.code (nmm 62).1 (nmm 62).2.1 (nmm 62).2.2.1 (nmm 62).2.2.2 :: nTc) ∧ ab_ML s args "LevelMachineModel" nCl 1 84 (nmm 62).1 (nmm 62).2.2.2 1 4 := ⟨nG tw564, Or.inl (hT _ tw562), hT _ tw5, ⟨by decide, by decide, by decide +kernel⟩, fun h => absurd h (by decide), fun _ => hT _ tw563, fun h => absurd h (by decide)⟩
theorem tM4_ok_87 {s : State} {args : Array Value} (hT : ∀ w ∈ nTc, w.before args s = true) (hF : ∀ r ∈ nNF, va_Nw (.fieldLinkNest r.1 r.2.1 r.2.2.1 r.2.2.2.1 r.2.2.2.2.1 r.2.2.2.2.2) s) (hM : ∀ r ∈ nNM, va_Nw (.methodLinkNest r.1 r.2.1 r.2.2.1 r.2.2.2) s) : GoodIn nTc (.code (nmm 57).1 (nmm 57).2.1 (nmm 57).2.2.1 (nmm 57).2.2.2 :: nTc) ∧ ab_ML s args "LevelMachineModel" nCl 0 87 (nmm 57).1 (nmm 57).2.2.2 3 4 := ⟨nG tw568, Or.inl (hT _ tw565), hT _ tw5, ⟨by decide, by decide, by decide +kernel⟩, fun _ => ⟨hT _ tw567, _, rfl, hT _ sl56⟩, fun h => absurd h (by decide), fun h => absurd h (by decide)⟩
theorem tM4_ok_91 {s : State} {args : Array Value} (hT : ∀ w ∈ nTc, w.before args s = true) (hF : ∀ r ∈ nNF, va_Nw (.fieldLinkNest r.1 r.2.1 r.2.2.1 r.2.2.2.1 r.2.2.2.2.1 r.2.2.2.2.2) s) (hM : ∀ r ∈ nNM, va_Nw (.methodLinkNest r.1 r.2.1 r.2.2.1 r.2.2.2) s) : GoodIn nTc (.code (nmm 60).1 (nmm 60).2.1 (nmm 60).2.2.1 (nmm 60).2.2.2 :: nTc) ∧ ab_ML s args "LevelMachineModel" nCl 0 91 (nmm 60).1 (nmm 60).2.2.2 0 4 := ⟨nG tw521, Or.inl (hT _ tw518), hT _ tw5, ⟨by decide, by decide, by decide +kernel⟩, fun _ => ⟨hT _ tw520, _, rfl, hT _ sl46⟩, fun h => absurd h (by decide), fun h => absurd h (by decide)⟩
theorem tM4_ok_95 {s : State} {args : Array Value} (hT : ∀ w ∈ nTc, w.before args s = true) (hF : ∀ r ∈ nNF, va_Nw (.fieldLinkNest r.1 r.2.1 r.2.2.1 r.2.2.2.1 r.2.2.2.2.1 r.2.2.2.2.2) s) (hM : ∀ r ∈ nNM, va_Nw (.methodLinkNest r.1 r.2.1 r.2.2.1 r.2.2.2) s) : GoodIn nTc (.code (nmm 66).1 (nmm 66).2.1 (nmm 66).2.2.1 (nmm 66).2.2.2 :: nTc) ∧ ab_ML s args "LevelMachineModel" nCl 0 95 (nmm 66).1 (nmm 66).2.2.2 1 4 := ⟨nG tw584, Or.inl (hT _ tw581), hT _ tw5, ⟨by decide, by decide, by decide +kernel⟩, fun _ => ⟨hT _ tw583, _, rfl, hT _ sl60⟩, fun h => absurd h (by decide), fun h => absurd h (by decide)⟩
theorem tM4_ok_98 {s : State} {args : Array Value} (hT : ∀ w ∈ nTc, w.before args s = true) (hF : ∀ r ∈ nNF, va_Nw (.fieldLinkNest r.1 r.2.1 r.2.2.1 r.2.2.2.1 r.2.2.2.2.1 r.2.2.2.2.2) s) (hM : ∀ r ∈ nNM, va_Nw (.methodLinkNest r.1 r.2.1 r.2.2.1 r.2.2.2) s) : GoodIn nTc (.code (nmm 69).1 (nmm 69).2.1 (nmm 69).2.2.1 (nmm 69).2.2.2 :: nTc) ∧ ab_ML s args "LevelMachineModel" nCl 0 98 (nmm 69).1 (nmm 69).2.2.2 2 4 := ⟨nG tw588, Or.inl (hT _ tw585), hT _ tw5, ⟨by decide, by decide, by decide +kernel⟩, fun _ => ⟨hT _ tw587, _, rfl, hT _ sl61⟩, fun h => absurd h (by decide), fun h => absurd h (by decide)⟩
theorem tM4_ok_101 {s : State} {args : Array Value} (hT : ∀ w ∈ nTc, w.before args s = true) (hF : ∀ r ∈ nNF, va_Nw (.fieldLinkNest r.1 r.2.1 r.2.2.1 r.2.2.2.1 r.2.2.2.2.1 r.2.2.2.2.2) s) (hM : ∀ r ∈ nNM, va_Nw (.methodLinkNest r.1 r.2.1 r.2.2.1 r.2.2.2) s) : GoodIn nTc (.code (nmm 67).1 (nmm 67).2.1 (nmm 67).2.2.1 (nmm 67).2.2.2 :: nTc) ∧ ab_ML s args "LevelMachineModel" nCl 0 101 (nmm 67).1 (nmm 67).2.2.2 1 4 := ⟨nG tw620, Or.inl (hT _ tw617), hT _ tw5, ⟨by decide, by decide, by decide +kernel⟩, fun _ => ⟨hT _ tw619, _, rfl, hT _ sl69⟩, fun h => absurd h (by decide), fun h => absurd h (by decide)⟩
theorem tM4_ok_104 {s : State} {args : Array Value} (hT : ∀ w ∈ nTc, w.before args s = true) (hF : ∀ r ∈ nNF, va_Nw (.fieldLinkNest r.1 r.2.1 r.2.2.1 r.2.2.2.1 r.2.2.2.2.1 r.2.2.2.2.2) s) (hM : ∀ r ∈ nNM, va_Nw (.methodLinkNest r.1 r.2.1 r.2.2.1 r.2.2.2) s) : GoodIn nTc (.code (nmm 79).1 (nmm 79).2.1 (nmm 79).2.2.1 (nmm 79).2.2.2 :: nTc) ∧ ab_ML s args "LevelMachineModel" nCl 0 104 (nmm 79).1 (nmm 79).2.2.2 3 4 := ⟨nG tw616, Or.inl (hT _ tw613), hT _ tw5, ⟨by decide, by decide, by decide +kernel⟩, fun _ => ⟨hT _ tw615, _, rfl, hT _ sl68⟩, fun h => absurd h (by decide), fun h => absurd h (by decide)⟩
theorem tM4_ok_107 {s : State} {args : Array Value} (hT : ∀ w ∈ nTc, w.before args s = true) (hF : ∀ r ∈ nNF, va_Nw (.fieldLinkNest r.1 r.2.1 r.2.2.1 r.2.2.2.1 r.2.2.2.2.1 r.2.2.2.2.2) s) (hM : ∀ r ∈ nNM, va_Nw (.methodLinkNest r.1 r.2.1 r.2.2.1 r.2.2.2) s) : GoodIn nTc (.code (nmm 74).1 (nmm 74).2.1 (nmm 74).2.2.1 (nmm 74).2.2.2 :: nTc) ∧ ab_ML s args "LevelMachineModel" nCl 0 107 (nmm 74).1 (nmm 74).2.2.2 1 4 := ⟨nG tw550, Or.inl (hT _ tw547), hT _ tw5, ⟨by decide, by decide, by decide +kernel⟩, fun _ => ⟨hT _ tw549, _, rfl, hT _ sl53⟩, fun h => absurd h (by decide), fun h => absurd h (by decide)⟩
theorem tM4_ok_110 {s : State} {args : Array Value} (hT : ∀ w ∈ nTc, w.before args s = true) (hF : ∀ r ∈ nNF, va_Nw (.fieldLinkNest r.1 r.2.1 r.2.2.1 r.2.2.2.1 r.2.2.2.2.1 r.2.2.2.2.2) s) (hM : ∀ r ∈ nNM, va_Nw (.methodLinkNest r.1 r.2.1 r.2.2.1 r.2.2.2) s) : GoodIn nTc (.code (nmm 81).1 (nmm 81).2.1 (nmm 81).2.2.1 (nmm 81).2.2.2 :: nTc) ∧ ab_ML s args "LevelMachineModel" nCl 0 110 (nmm 81).1 (nmm 81).2.2.2 1 4 := ⟨nG tw608, Or.inl (hT _ tw605), hT _ tw5, ⟨by decide, by decide, by decide +kernel⟩, fun _ => ⟨hT _ tw607, _, rfl, hT _ sl66⟩, fun h => absurd h (by decide), fun h => absurd h (by decide)⟩
theorem tM4_ok_114 {s : State} {args : Array Value} (hT : ∀ w ∈ nTc, w.before args s = true) (hF : ∀ r ∈ nNF, va_Nw (.fieldLinkNest r.1 r.2.1 r.2.2.1 r.2.2.2.1 r.2.2.2.2.1 r.2.2.2.2.2) s) (hM : ∀ r ∈ nNM, va_Nw (.methodLinkNest r.1 r.2.1 r.2.2.1 r.2.2.2) s) : GoodIn nTc (.code (nmm 80).1 (nmm 80).2.1 (nmm 80).2.2.1 (nmm 80).2.2.2 :: nTc) ∧ ab_ML s args "LevelMachineModel" nCl 0 114 (nmm 80).1 (nmm 80).2.2.2 3 4 := ⟨nG tw612, Or.inl (hT _ tw609), hT _ tw5, ⟨by decide, by decide, by decide +kernel⟩, fun _ => ⟨hT _ tw611, _, rfl, hT _ sl67⟩, fun h => absurd h (by decide), fun h => absurd h (by decide)⟩
theorem tM4_ok_117 {s : State} {args : Array Value} (hT : ∀ w ∈ nTc, w.before args s = true) (hF : ∀ r ∈ nNF, va_Nw (.fieldLinkNest r.1 r.2.1 r.2.2.1 r.2.2.2.1 r.2.2.2.2.1 r.2.2.2.2.2) s) (hM : ∀ r ∈ nNM, va_Nw (.methodLinkNest r.1 r.2.1 r.2.2.1 r.2.2.2) s) : GoodIn nTc (.code (nmm 83).1 (nmm 83).2.1 (nmm 83).2.2.1 (nmm 83).2.2.2 :: nTc) ∧ ab_ML s args "LevelMachineModel" nCl 0 117 (nmm 83).1 (nmm 83).2.2.2 1 4 := ⟨nG tw640, Or.inl (hT _ tw637), hT _ tw5, ⟨by decide, by decide, by decide +kernel⟩, fun _ => ⟨hT _ tw639, _, rfl, hT _ sl74⟩, fun h => absurd h (by decide), fun h => absurd h (by decide)⟩
theorem tM4_ok_126 {s : State} {args : Array Value} (hT : ∀ w ∈ nTc, w.before args s = true) (hF : ∀ r ∈ nNF, va_Nw (.fieldLinkNest r.1 r.2.1 r.2.2.1 r.2.2.2.1 r.2.2.2.2.1 r.2.2.2.2.2) s) (hM : ∀ r ∈ nNM, va_Nw (.methodLinkNest r.1 r.2.1 r.2.2.1 r.2.2.2) s) : GoodIn nTc (.code (nmm 84).1 (nmm 84).2.1 (nmm 84).2.2.1 (nmm 84).2.2.2 :: nTc) ∧ ab_ML s args "LevelMachineModel" nCl 0 126 (nmm 84).1 (nmm 84).2.2.2 1 4 := ⟨nG tw644, Or.inl (hT _ tw641), hT _ tw5, ⟨by decide, by decide, by decide +kernel⟩, fun _ => ⟨hT _ tw643, _, rfl, hT _ sl75⟩, fun h => absurd h (by decide), fun h => absurd h (by decide)⟩
theorem tM4_ok_138 {s : State} {args : Array Value} (hT : ∀ w ∈ nTc, w.before args s = true) (hF : ∀ r ∈ nNF, va_Nw (.fieldLinkNest r.1 r.2.1 r.2.2.1 r.2.2.2.1 r.2.2.2.2.1 r.2.2.2.2.2) s) (hM : ∀ r ∈ nNM, va_Nw (.methodLinkNest r.1 r.2.1 r.2.2.1 r.2.2.2) s) : GoodIn nTc (.code (nmm 88).1 (nmm 88).2.1 (nmm 88).2.2.1 (nmm 88).2.2.2 :: nTc) ∧ ab_ML s args "LevelMachineModel" nCl 0 138 (nmm 88).1 (nmm 88).2.2.2 2 4 := ⟨nG tw624, Or.inl (hT _ tw621), hT _ tw5, ⟨by decide, by decide, by decide +kernel⟩, fun _ => ⟨hT _ tw623, _, rfl, hT _ sl70⟩, fun h => absurd h (by decide), fun h => absurd h (by decide)⟩
theorem tM4_ok_141 {s : State} {args : Array Value} (hT : ∀ w ∈ nTc, w.before args s = true) (hF : ∀ r ∈ nNF, va_Nw (.fieldLinkNest r.1 r.2.1 r.2.2.1 r.2.2.2.1 r.2.2.2.2.1 r.2.2.2.2.2) s) (hM : ∀ r ∈ nNM, va_Nw (.methodLinkNest r.1 r.2.1 r.2.2.1 r.2.2.2) s) : GoodIn nTc (.code (nmm 82).1 (nmm 82).2.1 (nmm 82).2.2.1 (nmm 82).2.2.2 :: nTc) ∧ ab_ML s args "LevelMachineModel" nCl 0 141 (nmm 82).1 (nmm 82).2.2.2 4 4 := ⟨nG tw636, Or.inl (hT _ tw633), hT _ tw5, ⟨by decide, by decide, by decide +kernel⟩, fun _ => ⟨hT _ tw635, _, rfl, hT _ sl73⟩, fun h => absurd h (by decide), fun h => absurd h (by decide)⟩
theorem tM4_ok_145 {s : State} {args : Array Value} (hT : ∀ w ∈ nTc, w.before args s = true) (hF : ∀ r ∈ nNF, va_Nw (.fieldLinkNest r.1 r.2.1 r.2.2.1 r.2.2.2.1 r.2.2.2.2.1 r.2.2.2.2.2) s) (hM : ∀ r ∈ nNM, va_Nw (.methodLinkNest r.1 r.2.1 r.2.2.1 r.2.2.2) s) : GoodIn nTc (.code (nmm 75).1 (nmm 75).2.1 (nmm 75).2.2.1 (nmm 75).2.2.2 :: nTc) ∧ ab_ML s args "LevelMachineModel" nCl 0 145 (nmm 75).1 (nmm 75).2.2.2 0 4 := ⟨nG tw554, Or.inl (hT _ tw551), hT _ tw5, ⟨by decide, by decide, by decide +kernel⟩, fun _ => ⟨hT _ tw553, _, rfl, hT _ sl54⟩, fun h => absurd h (by decide), fun h => absurd h (by decide)⟩
theorem tM4_ok_148 {s : State} {args : Array Value} (hT : ∀ w ∈ nTc, w.before args s = true) (hF : ∀ r ∈ nNF, va_Nw (.fieldLinkNest r.1 r.2.1 r.2.2.1 r.2.2.2.1 r.2.2.2.2.1 r.2.2.2.2.2) s) (hM : ∀ r ∈ nNM, va_Nw (.methodLinkNest r.1 r.2.1 r.2.2.1 r.2.2.2) s) : GoodIn nTc (.code (nmm 78).1 (nmm 78).2.1 (nmm 78).2.2.1 (nmm 78).2.2.2 :: nTc) ∧ ab_ML s args "LevelMachineModel" nCl 0 148 (nmm 78).1 (nmm 78).2.2.2 1 4 := ⟨nG tw558, Or.inl (hT _ tw555), hT _ tw5, ⟨by decide, by decide, by decide +kernel⟩, fun _ => ⟨hT _ tw557, _, rfl, hT _ sl55⟩, fun h => absurd h (by decide), fun h => absurd h (by decide)⟩
theorem tM4_ok_151 {s : State} {args : Array Value} (hT : ∀ w ∈ nTc, w.before args s = true) (hF : ∀ r ∈ nNF, va_Nw (.fieldLinkNest r.1 r.2.1 r.2.2.1 r.2.2.2.1 r.2.2.2.2.1 r.2.2.2.2.2) s) (hM : ∀ r ∈ nNM, va_Nw (.methodLinkNest r.1 r.2.1 r.2.2.1 r.2.2.2) s) : GoodIn nTc (.code (nmm 68).1 (nmm 68).2.1 (nmm 68).2.2.1 (nmm 68).2.2.2 :: nTc) ∧ ab_ML s args "LevelMachineModel" nCl 0 151 (nmm 68).1 (nmm 68).2.2.2 2 4 := ⟨nG tw628, Or.inl (hT _ tw625), hT _ tw5, ⟨by decide, by decide, by decide +kernel⟩, fun _ => ⟨hT _ tw627, _, rfl, hT _ sl71⟩, fun h => absurd h (by decide), fun h => absurd h (by decide)⟩
theorem tM4_ok_154 {s : State} {args : Array Value} (hT : ∀ w ∈ nTc, w.before args s = true) (hF : ∀ r ∈ nNF, va_Nw (.fieldLinkNest r.1 r.2.1 r.2.2.1 r.2.2.2.1 r.2.2.2.2.1 r.2.2.2.2.2) s) (hM : ∀ r ∈ nNM, va_Nw (.methodLinkNest r.1 r.2.1 r.2.2.1 r.2.2.2) s) : GoodIn nTc (.code (nmm 89).1 (nmm 89).2.1 (nmm 89).2.2.1 (nmm 89).2.2.2 :: nTc) ∧ ab_ML s args "LevelMachineModel" nCl 0 154 (nmm 89).1 (nmm 89).2.2.2 2 4 := ⟨nG tw632, Or.inl (hT _ tw629), hT _ tw5, ⟨by decide, by decide, by decide +kernel⟩, fun _ => ⟨hT _ tw631, _, rfl, hT _ sl72⟩, fun h => absurd h (by decide), fun h => absurd h (by decide)⟩
theorem tM4_ok_157 {s : State} {args : Array Value} (hT : ∀ w ∈ nTc, w.before args s = true) (hF : ∀ r ∈ nNF, va_Nw (.fieldLinkNest r.1 r.2.1 r.2.2.1 r.2.2.2.1 r.2.2.2.2.1 r.2.2.2.2.2) s) (hM : ∀ r ∈ nNM, va_Nw (.methodLinkNest r.1 r.2.1 r.2.2.1 r.2.2.2) s) : GoodIn nTc (.code (nmm 77).1 (nmm 77).2.1 (nmm 77).2.2.1 (nmm 77).2.2.2 :: nTc) ∧ ab_ML s args "LevelMachineModel" nCl 0 157 (nmm 77).1 (nmm 77).2.2.2 2 4 := ⟨nG tw592, Or.inl (hT _ tw589), hT _ tw5, ⟨by decide, by decide, by decide +kernel⟩, fun _ => ⟨hT _ tw591, _, rfl, hT _ sl62⟩, fun h => absurd h (by decide), fun h => absurd h (by decide)⟩
theorem tM4_ok_161 {s : State} {args : Array Value} (hT : ∀ w ∈ nTc, w.before args s = true) (hF : ∀ r ∈ nNF, va_Nw (.fieldLinkNest r.1 r.2.1 r.2.2.1 r.2.2.2.1 r.2.2.2.2.1 r.2.2.2.2.2) s) (hM : ∀ r ∈ nNM, va_Nw (.methodLinkNest r.1 r.2.1 r.2.2.1 r.2.2.2) s) : GoodIn nTc (.code (nmm 76).1 (nmm 76).2.1 (nmm 76).2.2.1 (nmm 76).2.2.2 :: nTc) ∧ ab_ML s args "LevelMachineModel" nCl 0 161 (nmm 76).1 (nmm 76).2.2.2 0 4 := ⟨nG tw501, Or.inl (hT _ tw498), hT _ tw5, ⟨by decide, by decide, by decide +kernel⟩, fun _ => ⟨hT _ tw500, _, rfl, hT _ sl42⟩, fun h => absurd h (by decide), fun h => absurd h (by decide)⟩
theorem tM4_ok_164 {s : State} {args : Array Value} (hT : ∀ w ∈ nTc, w.before args s = true) (hF : ∀ r ∈ nNF, va_Nw (.fieldLinkNest r.1 r.2.1 r.2.2.1 r.2.2.2.1 r.2.2.2.2.1 r.2.2.2.2.2) s) (hM : ∀ r ∈ nNM, va_Nw (.methodLinkNest r.1 r.2.1 r.2.2.1 r.2.2.2) s) : GoodIn nTc (.code (nmm 91).1 (nmm 91).2.1 (nmm 91).2.2.1 (nmm 91).2.2.2 :: nTc) ∧ ab_ML s args "LevelMachineModel" nCl 1 164 (nmm 91).1 (nmm 91).2.2.2 3 4 := ⟨nG tw513, Or.inl (hT _ tw511), hT _ tw5, ⟨by decide, by decide, by decide +kernel⟩, fun h => absurd h (by decide), fun _ => hT _ tw512, fun h => absurd h (by decide)⟩
theorem tM4_ok_167 {s : State} {args : Array Value} (hT : ∀ w ∈ nTc, w.before args s = true) (hF : ∀ r ∈ nNF, va_Nw (.fieldLinkNest r.1 r.2.1 r.2.2.1 r.2.2.2.1 r.2.2.2.2.1 r.2.2.2.2.2) s) (hM : ∀ r ∈ nNM, va_Nw (.methodLinkNest r.1 r.2.1 r.2.2.1 r.2.2.2) s) : GoodIn nTc (.code (nmm 93).1 (nmm 93).2.1 (nmm 93).2.2.1 (nmm 93).2.2.2 :: nTc) ∧ ab_ML s args "LevelMachineModel" nCl 0 167 (nmm 93).1 (nmm 93).2.2.2 3 4 := ⟨nG tw517, Or.inl (hT _ tw514), hT _ tw5, ⟨by decide, by decide, by decide +kernel⟩, fun _ => ⟨hT _ tw516, _, rfl, hT _ sl45⟩, fun h => absurd h (by decide), fun h => absurd h (by decide)⟩
theorem tM4_ok_170 {s : State} {args : Array Value} (hT : ∀ w ∈ nTc, w.before args s = true) (hF : ∀ r ∈ nNF, va_Nw (.fieldLinkNest r.1 r.2.1 r.2.2.1 r.2.2.2.1 r.2.2.2.2.1 r.2.2.2.2.2) s) (hM : ∀ r ∈ nNM, va_Nw (.methodLinkNest r.1 r.2.1 r.2.2.1 r.2.2.2) s) : GoodIn nTc (.code (nmm 94).1 (nmm 94).2.1 (nmm 94).2.2.1 (nmm 94).2.2.2 :: nTc) ∧ ab_ML s args "LevelMachineModel" nCl 0 170 (nmm 94).1 (nmm 94).2.2.2 3 4 := ⟨nG tw530, Or.inl (hT _ tw527), hT _ tw5, ⟨by decide, by decide, by decide +kernel⟩, fun _ => ⟨hT _ tw529, _, rfl, hT _ sl48⟩, fun h => absurd h (by decide), fun h => absurd h (by decide)⟩
theorem tM4_ok_173 {s : State} {args : Array Value} (hT : ∀ w ∈ nTc, w.before args s = true) (hF : ∀ r ∈ nNF, va_Nw (.fieldLinkNest r.1 r.2.1 r.2.2.1 r.2.2.2.1 r.2.2.2.2.1 r.2.2.2.2.2) s) (hM : ∀ r ∈ nNM, va_Nw (.methodLinkNest r.1 r.2.1 r.2.2.1 r.2.2.2) s) : GoodIn nTc (.code (nmm 95).1 (nmm 95).2.1 (nmm 95).2.2.1 (nmm 95).2.2.2 :: nTc) ∧ ab_ML s args "LevelMachineModel" nCl 0 173 (nmm 95).1 (nmm 95).2.2.2 3 4 := ⟨nG tw600, Or.inl (hT _ tw597), hT _ tw5, ⟨by decide, by decide, by decide +kernel⟩, fun _ => ⟨hT _ tw599, _, rfl, hT _ sl64⟩, fun h => absurd h (by decide), fun h => absurd h (by decide)⟩
theorem tM4_ok_179 {s : State} {args : Array Value} (hT : ∀ w ∈ nTc, w.before args s = true) (hF : ∀ r ∈ nNF, va_Nw (.fieldLinkNest r.1 r.2.1 r.2.2.1 r.2.2.2.1 r.2.2.2.2.1 r.2.2.2.2.2) s) (hM : ∀ r ∈ nNM, va_Nw (.methodLinkNest r.1 r.2.1 r.2.2.1 r.2.2.2) s) : GoodIn nTc (.code (nmm 90).1 (nmm 90).2.1 (nmm 90).2.2.1 (nmm 90).2.2.2 :: nTc) ∧ ab_ML s args "LevelMachineModel" nCl 0 179 (nmm 90).1 (nmm 90).2.2.2 3 4 := ⟨nG tw525, Or.inl (hT _ tw522), hT _ tw5, ⟨by decide, by decide, by decide +kernel⟩, fun _ => ⟨hT _ tw524, _, rfl, hT _ sl47⟩, fun h => absurd h (by decide), fun h => absurd h (by decide)⟩
theorem tM4_ok_183 {s : State} {args : Array Value} (hT : ∀ w ∈ nTc, w.before args s = true) (hF : ∀ r ∈ nNF, va_Nw (.fieldLinkNest r.1 r.2.1 r.2.2.1 r.2.2.2.1 r.2.2.2.2.1 r.2.2.2.2.2) s) (hM : ∀ r ∈ nNM, va_Nw (.methodLinkNest r.1 r.2.1 r.2.2.1 r.2.2.2) s) : GoodIn nTc (.code (nmm 85).1 (nmm 85).2.1 (nmm 85).2.2.1 (nmm 85).2.2.2 :: nTc) ∧ ab_ML s args "LevelMachineModel" nCl 0 183 (nmm 85).1 (nmm 85).2.2.2 3 4 := ⟨nG tw604, Or.inl (hT _ tw601), hT _ tw5, ⟨by decide, by decide, by decide +kernel⟩, fun _ => ⟨hT _ tw603, _, rfl, hT _ sl65⟩, fun h => absurd h (by decide), fun h => absurd h (by decide)⟩
theorem tM4_ok_186 {s : State} {args : Array Value} (hT : ∀ w ∈ nTc, w.before args s = true) (hF : ∀ r ∈ nNF, va_Nw (.fieldLinkNest r.1 r.2.1 r.2.2.1 r.2.2.2.1 r.2.2.2.2.1 r.2.2.2.2.2) s) (hM : ∀ r ∈ nNM, va_Nw (.methodLinkNest r.1 r.2.1 r.2.2.1 r.2.2.2) s) : GoodIn nTc (.code (nmm 86).1 (nmm 86).2.1 (nmm 86).2.2.1 (nmm 86).2.2.2 :: nTc) ∧ ab_ML s args "LevelMachineModel" nCl 0 186 (nmm 86).1 (nmm 86).2.2.2 3 4 := ⟨nG tw648, Or.inl (hT _ tw645), hT _ tw5, ⟨by decide, by decide, by decide +kernel⟩, fun _ => ⟨hT _ tw647, _, rfl, hT _ sl76⟩, fun h => absurd h (by decide), fun h => absurd h (by decide)⟩
theorem tM4_ok_189 {s : State} {args : Array Value} (hT : ∀ w ∈ nTc, w.before args s = true) (hF : ∀ r ∈ nNF, va_Nw (.fieldLinkNest r.1 r.2.1 r.2.2.1 r.2.2.2.1 r.2.2.2.2.1 r.2.2.2.2.2) s) (hM : ∀ r ∈ nNM, va_Nw (.methodLinkNest r.1 r.2.1 r.2.2.1 r.2.2.2) s) : GoodIn nTc (.code (nmm 87).1 (nmm 87).2.1 (nmm 87).2.2.1 (nmm 87).2.2.2 :: nTc) ∧ ab_ML s args "LevelMachineModel" nCl 0 189 (nmm 87).1 (nmm 87).2.2.2 2 4 := ⟨nG tw652, Or.inl (hT _ tw649), hT _ tw5, ⟨by decide, by decide, by decide +kernel⟩, fun _ => ⟨hT _ tw651, _, rfl, hT _ sl77⟩, fun h => absurd h (by decide), fun h => absurd h (by decide)⟩
theorem tM4_ok_193 {s : State} {args : Array Value} (hT : ∀ w ∈ nTc, w.before args s = true) (hF : ∀ r ∈ nNF, va_Nw (.fieldLinkNest r.1 r.2.1 r.2.2.1 r.2.2.2.1 r.2.2.2.2.1 r.2.2.2.2.2) s) (hM : ∀ r ∈ nNM, va_Nw (.methodLinkNest r.1 r.2.1 r.2.2.1 r.2.2.2) s) : GoodIn nTc (.code (nmm 96).1 (nmm 96).2.1 (nmm 96).2.2.1 (nmm 96).2.2.2 :: nTc) ∧ ab_ML s args "LevelMachineModel" nCl 0 193 (nmm 96).1 (nmm 96).2.2.2 0 4 := ⟨nG tw656, Or.inl (hT _ tw653), hT _ tw5, ⟨by decide, by decide, by decide +kernel⟩, fun _ => ⟨hT _ tw655, _, rfl, hT _ sl78⟩, fun h => absurd h (by decide), fun h => absurd h (by decide)⟩
theorem tM4_ok_196 {s : State} {args : Array Value} (hT : ∀ w ∈ nTc, w.before args s = true) (hF : ∀ r ∈ nNF, va_Nw (.fieldLinkNest r.1 r.2.1 r.2.2.1 r.2.2.2.1 r.2.2.2.2.1 r.2.2.2.2.2) s) (hM : ∀ r ∈ nNM, va_Nw (.methodLinkNest r.1 r.2.1 r.2.2.1 r.2.2.2) s) : GoodIn nTc (.code (nmm 97).1 (nmm 97).2.1 (nmm 97).2.2.1 (nmm 97).2.2.2 :: nTc) ∧ ab_ML s args "LevelMachineModel" nCl 0 196 (nmm 97).1 (nmm 97).2.2.2 1 4 := ⟨nG tw660, Or.inl (hT _ tw657), hT _ tw5, ⟨by decide, by decide, by decide +kernel⟩, fun _ => ⟨hT _ tw659, _, rfl, hT _ sl79⟩, fun h => absurd h (by decide), fun h => absurd h (by decide)⟩
theorem tM4_ok_199 {s : State} {args : Array Value} (hT : ∀ w ∈ nTc, w.before args s = true) (hF : ∀ r ∈ nNF, va_Nw (.fieldLinkNest r.1 r.2.1 r.2.2.1 r.2.2.2.1 r.2.2.2.2.1 r.2.2.2.2.2) s) (hM : ∀ r ∈ nNM, va_Nw (.methodLinkNest r.1 r.2.1 r.2.2.1 r.2.2.2) s) : GoodIn nTc (.code (nmm 54).1 (nmm 54).2.1 (nmm 54).2.2.1 (nmm 54).2.2.2 :: nTc) ∧ ab_ML s args "LevelMachineModel" nCl 0 199 (nmm 54).1 (nmm 54).2.2.2 0 4 := ⟨nG tw490, Or.inl (hT _ tw487), hT _ tw5, ⟨by decide, by decide, by decide +kernel⟩, fun _ => ⟨hT _ tw489, _, rfl, hT _ sl40⟩, fun h => absurd h (by decide), fun h => absurd h (by decide)⟩
theorem tM4_ok_202 {s : State} {args : Array Value} (hT : ∀ w ∈ nTc, w.before args s = true) (hF : ∀ r ∈ nNF, va_Nw (.fieldLinkNest r.1 r.2.1 r.2.2.1 r.2.2.2.1 r.2.2.2.2.1 r.2.2.2.2.2) s) (hM : ∀ r ∈ nNM, va_Nw (.methodLinkNest r.1 r.2.1 r.2.2.1 r.2.2.2) s) : GoodIn nTc (.code (nmm 55).1 (nmm 55).2.1 (nmm 55).2.2.1 (nmm 55).2.2.2 :: nTc) ∧ ab_ML s args "LevelMachineModel" nCl 0 202 (nmm 55).1 (nmm 55).2.2.2 0 4 := ⟨nG tw668, Or.inl (hT _ tw665), hT _ tw5, ⟨by decide, by decide, by decide +kernel⟩, fun _ => ⟨hT _ tw667, _, rfl, hT _ sl81⟩, fun h => absurd h (by decide), fun h => absurd h (by decide)⟩
theorem tM4_ok_214 {s : State} {args : Array Value} (hT : ∀ w ∈ nTc, w.before args s = true) (hF : ∀ r ∈ nNF, va_Nw (.fieldLinkNest r.1 r.2.1 r.2.2.1 r.2.2.2.1 r.2.2.2.2.1 r.2.2.2.2.2) s) (hM : ∀ r ∈ nNM, va_Nw (.methodLinkNest r.1 r.2.1 r.2.2.1 r.2.2.2) s) : GoodIn nTc (.code (nmm 92).1 (nmm 92).2.1 (nmm 92).2.2.1 (nmm 92).2.2.2 :: nTc) ∧ ab_ML s args "LevelMachineModel" nCl 0 214 (nmm 92).1 (nmm 92).2.2.2 0 4 := ⟨nG tw497, Or.inl (hT _ tw494), hT _ tw5, ⟨by decide, by decide, by decide +kernel⟩, fun _ => ⟨hT _ tw496, _, rfl, hT _ sl41⟩, fun h => absurd h (by decide), fun h => absurd h (by decide)⟩
theorem tM4_ok_217 {s : State} {args : Array Value} (hT : ∀ w ∈ nTc, w.before args s = true) (hF : ∀ r ∈ nNF, va_Nw (.fieldLinkNest r.1 r.2.1 r.2.2.1 r.2.2.2.1 r.2.2.2.2.1 r.2.2.2.2.2) s) (hM : ∀ r ∈ nNM, va_Nw (.methodLinkNest r.1 r.2.1 r.2.2.1 r.2.2.2) s) : GoodIn nTc (.code (nmm 99).1 (nmm 99).2.1 (nmm 99).2.2.1 (nmm 99).2.2.2 :: nTc) ∧ ab_ML s args "LevelMachineModel" nCl 0 217 (nmm 99).1 (nmm 99).2.2.2 2 4 := ⟨nG tw664, Or.inl (hT _ tw661), hT _ tw5, ⟨by decide, by decide, by decide +kernel⟩, fun _ => ⟨hT _ tw663, _, rfl, hT _ sl80⟩, fun h => absurd h (by decide), fun h => absurd h (by decide)⟩
theorem tM4_ok_220 {s : State} {args : Array Value} (hT : ∀ w ∈ nTc, w.before args s = true) (hF : ∀ r ∈ nNF, va_Nw (.fieldLinkNest r.1 r.2.1 r.2.2.1 r.2.2.2.1 r.2.2.2.2.1 r.2.2.2.2.2) s) (hM : ∀ r ∈ nNM, va_Nw (.methodLinkNest r.1 r.2.1 r.2.2.1 r.2.2.2) s) : GoodIn nTc (.code (nmm 98).1 (nmm 98).2.1 (nmm 98).2.2.1 (nmm 98).2.2.2 :: nTc) ∧ ab_ML s args "LevelMachineModel" nCl 0 220 (nmm 98).1 (nmm 98).2.2.2 2 4 := ⟨nG tw672, Or.inl (hT _ tw669), hT _ tw5, ⟨by decide, by decide, by decide +kernel⟩, fun _ => ⟨hT _ tw671, _, rfl, hT _ sl82⟩, fun h => absurd h (by decide), fun h => absurd h (by decide)⟩
theorem tM4_ok_224 {s : State} {args : Array Value} (hT : ∀ w ∈ nTc, w.before args s = true) (hF : ∀ r ∈ nNF, va_Nw (.fieldLinkNest r.1 r.2.1 r.2.2.1 r.2.2.2.1 r.2.2.2.2.1 r.2.2.2.2.2) s) (hM : ∀ r ∈ nNM, va_Nw (.methodLinkNest r.1 r.2.1 r.2.2.1 r.2.2.2) s) : GoodIn nTc (.code (nmm 100).1 (nmm 100).2.1 (nmm 100).2.2.1 (nmm 100).2.2.2 :: nTc) ∧ ab_ML s args "LevelMachineModel" nCl 0 224 (nmm 100).1 (nmm 100).2.2.2 0 4 := ⟨nG tw486, Or.inl (hT _ tw483), hT _ tw5, ⟨by decide, by decide, by decide +kernel⟩, fun _ => ⟨hT _ tw485, _, rfl, hT _ sl39⟩, fun h => absurd h (by decide), fun h => absurd h (by decide)⟩
theorem tM4_ok {s : State} {args : Array Value} (hT : ∀ w ∈ nTc, w.before args s = true) (hF : ∀ r ∈ nNF, va_Nw (.fieldLinkNest r.1 r.2.1 r.2.2.1 r.2.2.2.1 r.2.2.2.2.1 r.2.2.2.2.2) s) (hM : ∀ r ∈ nNM, va_Nw (.methodLinkNest r.1 r.2.1 r.2.2.1 r.2.2.2) s) : ∀ q ∈ tM4, GoodIn nTc (.code (nmm q.2.2.1).1 (nmm q.2.2.1).2.1 (nmm q.2.2.1).2.2.1 (nmm q.2.2.1).2.2.2 :: nTc) ∧ ab_ML s args "LevelMachineModel" nCl q.2.1 q.1 (nmm q.2.2.1).1 (nmm q.2.2.1).2.2.2 q.2.2.2.1 q.2.2.2.2 := ab_mc (tM4_ok_28 hT hF hM) (ab_mc (tM4_ok_39 hT hF hM) (ab_mc (tM4_ok_44 hT hF hM) (ab_mc (tM4_ok_48 hT hF hM) (ab_mc (tM4_ok_52 hT hF hM) (ab_mc (tM4_ok_56 hT hF hM) (ab_mc (tM4_ok_59 hT hF hM) (ab_mc (tM4_ok_63 hT hF hM) (ab_mc (tM4_ok_66 hT hF hM) (ab_mc (tM4_ok_69 hT hF hM) (ab_mc (tM4_ok_73 hT hF hM) (ab_mc (tM4_ok_76 hT hF hM) (ab_mc (tM4_ok_80 hT hF hM) (ab_mc (tM4_ok_84 hT hF hM) (ab_mc (tM4_ok_87 hT hF hM) (ab_mc (tM4_ok_91 hT hF hM) (ab_mc (tM4_ok_95 hT hF hM) (ab_mc (tM4_ok_98 hT hF hM) (ab_mc (tM4_ok_101 hT hF hM) (ab_mc (tM4_ok_104 hT hF hM) (ab_mc (tM4_ok_107 hT hF hM) (ab_mc (tM4_ok_110 hT hF hM) (ab_mc (tM4_ok_114 hT hF hM) (ab_mc (tM4_ok_117 hT hF hM) (ab_mc (tM4_ok_126 hT hF hM) (ab_mc (tM4_ok_138 hT hF hM) (ab_mc (tM4_ok_141 hT hF hM) (ab_mc (tM4_ok_145 hT hF hM) (ab_mc (tM4_ok_148 hT hF hM) (ab_mc (tM4_ok_151 hT hF hM) (ab_mc (tM4_ok_154 hT hF hM) (ab_mc (tM4_ok_157 hT hF hM) (ab_mc (tM4_ok_161 hT hF hM) (ab_mc (tM4_ok_164 hT hF hM) (ab_mc (tM4_ok_167 hT hF hM) (ab_mc (tM4_ok_170 hT hF hM) (ab_mc (tM4_ok_173 hT hF hM) (ab_mc (tM4_ok_179 hT hF hM) (ab_mc (tM4_ok_183 hT hF hM) (ab_mc (tM4_ok_186 hT hF hM) (ab_mc (tM4_ok_189 hT hF hM) (ab_mc (tM4_ok_193 hT hF hM) (ab_mc (tM4_ok_196 hT hF hM) (ab_mc (tM4_ok_199 hT hF hM) (ab_mc (tM4_ok_202 hT hF hM) (ab_mc (tM4_ok_214 hT hF hM) (ab_mc (tM4_ok_217 hT hF hM) (ab_mc (tM4_ok_220 hT hF hM) (ab_mc (tM4_ok_224 hT hF hM) ab_mn))))))))))))))))))))))))))))))))))))))))))))))))
theorem tN4_ok {s : State} {args : Array Value} (hT : ∀ w ∈ nTc, w.before args s = true) (hF : ∀ r ∈ nNF, va_Nw (.fieldLinkNest r.1 r.2.1 r.2.2.1 r.2.2.2.1 r.2.2.2.2.1 r.2.2.2.2.2) s) (hM : ∀ r ∈ nNM, va_Nw (.methodLinkNest r.1 r.2.1 r.2.2.1 r.2.2.2) s) : ∀ q ∈ tN4, ab_NL s args "LevelMachineModel" nCl nTc q.1 q.2.1 q.2.2 := ab_mn
set_option maxRecDepth 100000 in
theorem tB4 : ab_TB "LevelMachineModel" nCl nRn nSL nNF nNM nTc nmm tF4 tS4 tN4 tR4 tO4 tA4 tK4 tM4 := fun s args hT hF hM => ⟨tF4_ok hT hF hM, ab_mn, tN4_ok hT hF hM, hT _ tw28, ab_mn, ab_mc (⟨hT _ tw423, hT _ tw13, hT _ tw14⟩) ab_mn, ab_mn, ab_mc (hT _ tw510) (ab_mc (hT _ tw526) ab_mn), tM4_ok hT hF hM⟩
def tF5 : List (Nat × Nat × Nat × Nat) := []
def tK5 : List (Nat × Int) := []
def tS5 : List (Nat × Nat) := []
def tN5 : List (Nat × Nat × List Bool) := [(7, 3, [false, false, false, false, false, false, false, true, true, true, true, true, true]), (10, 4, [false, false, false, false, false, false, true, true, true, true, true, true, true, true, true, true, true])]
def tR5 : List (Nat × Nat) := []
def tO5 : List Nat := []
def tA5 : List Nat := []
def tM5 : List (Nat × Nat × Nat × Nat × Nat) := [(9, 2, 0, 0, 3), (12, 2, 51, 0, 4), (13, 0, 1, 2, 3), (17, 0, 103, 2, 4), (18, 0, 2, 1, 3), (22, 0, 104, 1, 4), (23, 0, 3, 6, 3), (27, 0, 105, 6, 4), (28, 0, 4, 2, 3), (31, 0, 106, 2, 4), (32, 0, 5, 2, 3), (35, 0, 107, 2, 4), (36, 0, 6, 1, 3), (39, 0, 101, 1, 4), (40, 0, 7, 0, 3), (44, 0, 102, 0, 4), (45, 0, 8, 1, 3), (48, 0, 108, 1, 4), (49, 0, 9, 2, 3), (53, 0, 109, 2, 4)]
theorem tF5_ok {s : State} {args : Array Value} (hT : ∀ w ∈ nTc, w.before args s = true) (hF : ∀ r ∈ nNF, va_Nw (.fieldLinkNest r.1 r.2.1 r.2.2.1 r.2.2.2.1 r.2.2.2.2.1 r.2.2.2.2.2) s) (hM : ∀ r ∈ nNM, va_Nw (.methodLinkNest r.1 r.2.1 r.2.2.1 r.2.2.2) s) : ∀ q ∈ tF5, ab_FL s args "LevelMachineLaw" nCl nTc q.1 q.2.1 q.2.2.1 q.2.2.2 := ab_mn
theorem tM5_ok_9 {s : State} {args : Array Value} (hT : ∀ w ∈ nTc, w.before args s = true) (hF : ∀ r ∈ nNF, va_Nw (.fieldLinkNest r.1 r.2.1 r.2.2.1 r.2.2.2.1 r.2.2.2.2.1 r.2.2.2.2.2) s) (hM : ∀ r ∈ nNM, va_Nw (.methodLinkNest r.1 r.2.1 r.2.2.1 r.2.2.2) s) : GoodIn nTc (.code (nmm 0).1 (nmm 0).2.1 (nmm 0).2.2.1 (nmm 0).2.2.2 :: nTc) ∧ ab_ML s args "LevelMachineLaw" nCl 2 9 (nmm 0).1 (nmm 0).2.2.2 0 3 := ⟨nG tw11, Or.inl (hT _ tw9), hT _ tw1, ⟨by decide, by decide, by decide +kernel⟩, fun h => absurd h (by decide), fun h => absurd h (by decide), fun _ => ⟨rfl, hT _ tw10, rfl⟩⟩
theorem tM5_ok_12 {s : State} {args : Array Value} (hT : ∀ w ∈ nTc, w.before args s = true) (hF : ∀ r ∈ nNF, va_Nw (.fieldLinkNest r.1 r.2.1 r.2.2.1 r.2.2.2.1 r.2.2.2.2.1 r.2.2.2.2.2) s) (hM : ∀ r ∈ nNM, va_Nw (.methodLinkNest r.1 r.2.1 r.2.2.1 r.2.2.2) s) : GoodIn nTc (.code (nmm 51).1 (nmm 51).2.1 (nmm 51).2.2.1 (nmm 51).2.2.2 :: nTc) ∧ ab_ML s args "LevelMachineLaw" nCl 2 12 (nmm 51).1 (nmm 51).2.2.2 0 4 := ⟨nG tw422, Or.inl (hT _ tw420), hT _ tw5, ⟨by decide, by decide, by decide +kernel⟩, fun h => absurd h (by decide), fun h => absurd h (by decide), fun _ => ⟨rfl, hT _ tw421, rfl⟩⟩
theorem tM5_ok_13 {s : State} {args : Array Value} (hT : ∀ w ∈ nTc, w.before args s = true) (hF : ∀ r ∈ nNF, va_Nw (.fieldLinkNest r.1 r.2.1 r.2.2.1 r.2.2.2.1 r.2.2.2.2.1 r.2.2.2.2.2) s) (hM : ∀ r ∈ nNM, va_Nw (.methodLinkNest r.1 r.2.1 r.2.2.1 r.2.2.2) s) : GoodIn nTc (.code (nmm 1).1 (nmm 1).2.1 (nmm 1).2.2.1 (nmm 1).2.2.2 :: nTc) ∧ ab_ML s args "LevelMachineLaw" nCl 0 13 (nmm 1).1 (nmm 1).2.2.2 2 3 := ⟨nG tw129, Or.inl (hT _ tw126), hT _ tw1, ⟨by decide, by decide, by decide +kernel⟩, fun _ => ⟨hT _ tw127, _, rfl, hT _ tw128⟩, fun h => absurd h (by decide), fun h => absurd h (by decide)⟩
theorem tM5_ok_17 {s : State} {args : Array Value} (hT : ∀ w ∈ nTc, w.before args s = true) (hF : ∀ r ∈ nNF, va_Nw (.fieldLinkNest r.1 r.2.1 r.2.2.1 r.2.2.2.1 r.2.2.2.2.1 r.2.2.2.2.2) s) (hM : ∀ r ∈ nNM, va_Nw (.methodLinkNest r.1 r.2.1 r.2.2.1 r.2.2.2) s) : GoodIn nTc (.code (nmm 103).1 (nmm 103).2.1 (nmm 103).2.2.1 (nmm 103).2.2.2 :: nTc) ∧ ab_ML s args "LevelMachineLaw" nCl 0 17 (nmm 103).1 (nmm 103).2.2.2 2 4 := ⟨nG tw680, Or.inl (hT _ tw677), hT _ tw5, ⟨by decide, by decide, by decide +kernel⟩, fun _ => ⟨hT _ tw678, _, rfl, hT _ tw679⟩, fun h => absurd h (by decide), fun h => absurd h (by decide)⟩
theorem tM5_ok_18 {s : State} {args : Array Value} (hT : ∀ w ∈ nTc, w.before args s = true) (hF : ∀ r ∈ nNF, va_Nw (.fieldLinkNest r.1 r.2.1 r.2.2.1 r.2.2.2.1 r.2.2.2.2.1 r.2.2.2.2.2) s) (hM : ∀ r ∈ nNM, va_Nw (.methodLinkNest r.1 r.2.1 r.2.2.1 r.2.2.2) s) : GoodIn nTc (.code (nmm 2).1 (nmm 2).2.1 (nmm 2).2.2.1 (nmm 2).2.2.2 :: nTc) ∧ ab_ML s args "LevelMachineLaw" nCl 0 18 (nmm 2).1 (nmm 2).2.2.2 1 3 := ⟨nG tw145, Or.inl (hT _ tw142), hT _ tw1, ⟨by decide, by decide, by decide +kernel⟩, fun _ => ⟨hT _ tw143, _, rfl, hT _ tw144⟩, fun h => absurd h (by decide), fun h => absurd h (by decide)⟩
theorem tM5_ok_22 {s : State} {args : Array Value} (hT : ∀ w ∈ nTc, w.before args s = true) (hF : ∀ r ∈ nNF, va_Nw (.fieldLinkNest r.1 r.2.1 r.2.2.1 r.2.2.2.1 r.2.2.2.2.1 r.2.2.2.2.2) s) (hM : ∀ r ∈ nNM, va_Nw (.methodLinkNest r.1 r.2.1 r.2.2.1 r.2.2.2) s) : GoodIn nTc (.code (nmm 104).1 (nmm 104).2.1 (nmm 104).2.2.1 (nmm 104).2.2.2 :: nTc) ∧ ab_ML s args "LevelMachineLaw" nCl 0 22 (nmm 104).1 (nmm 104).2.2.2 1 4 := ⟨nG tw684, Or.inl (hT _ tw681), hT _ tw5, ⟨by decide, by decide, by decide +kernel⟩, fun _ => ⟨hT _ tw682, _, rfl, hT _ tw683⟩, fun h => absurd h (by decide), fun h => absurd h (by decide)⟩
theorem tM5_ok_23 {s : State} {args : Array Value} (hT : ∀ w ∈ nTc, w.before args s = true) (hF : ∀ r ∈ nNF, va_Nw (.fieldLinkNest r.1 r.2.1 r.2.2.1 r.2.2.2.1 r.2.2.2.2.1 r.2.2.2.2.2) s) (hM : ∀ r ∈ nNM, va_Nw (.methodLinkNest r.1 r.2.1 r.2.2.1 r.2.2.2) s) : GoodIn nTc (.code (nmm 3).1 (nmm 3).2.1 (nmm 3).2.2.1 (nmm 3).2.2.2 :: nTc) ∧ ab_ML s args "LevelMachineLaw" nCl 0 23 (nmm 3).1 (nmm 3).2.2.2 6 3 := ⟨nG tw153, Or.inl (hT _ tw150), hT _ tw1, ⟨by decide, by decide, by decide +kernel⟩, fun _ => ⟨hT _ tw151, _, rfl, hT _ tw152⟩, fun h => absurd h (by decide), fun h => absurd h (by decide)⟩
theorem tM5_ok_27 {s : State} {args : Array Value} (hT : ∀ w ∈ nTc, w.before args s = true) (hF : ∀ r ∈ nNF, va_Nw (.fieldLinkNest r.1 r.2.1 r.2.2.1 r.2.2.2.1 r.2.2.2.2.1 r.2.2.2.2.2) s) (hM : ∀ r ∈ nNM, va_Nw (.methodLinkNest r.1 r.2.1 r.2.2.1 r.2.2.2) s) : GoodIn nTc (.code (nmm 105).1 (nmm 105).2.1 (nmm 105).2.2.1 (nmm 105).2.2.2 :: nTc) ∧ ab_ML s args "LevelMachineLaw" nCl 0 27 (nmm 105).1 (nmm 105).2.2.2 6 4 := ⟨nG tw688, Or.inl (hT _ tw685), hT _ tw5, ⟨by decide, by decide, by decide +kernel⟩, fun _ => ⟨hT _ tw686, _, rfl, hT _ tw687⟩, fun h => absurd h (by decide), fun h => absurd h (by decide)⟩
theorem tM5_ok_28 {s : State} {args : Array Value} (hT : ∀ w ∈ nTc, w.before args s = true) (hF : ∀ r ∈ nNF, va_Nw (.fieldLinkNest r.1 r.2.1 r.2.2.1 r.2.2.2.1 r.2.2.2.2.1 r.2.2.2.2.2) s) (hM : ∀ r ∈ nNM, va_Nw (.methodLinkNest r.1 r.2.1 r.2.2.1 r.2.2.2) s) : GoodIn nTc (.code (nmm 4).1 (nmm 4).2.1 (nmm 4).2.2.1 (nmm 4).2.2.2 :: nTc) ∧ ab_ML s args "LevelMachineLaw" nCl 0 28 (nmm 4).1 (nmm 4).2.2.2 2 3 := ⟨nG tw157, Or.inl (hT _ tw154), hT _ tw1, ⟨by decide, by decide, by decide +kernel⟩, fun _ => ⟨hT _ tw155, _, rfl, hT _ tw156⟩, fun h => absurd h (by decide), fun h => absurd h (by decide)⟩
theorem tM5_ok_31 {s : State} {args : Array Value} (hT : ∀ w ∈ nTc, w.before args s = true) (hF : ∀ r ∈ nNF, va_Nw (.fieldLinkNest r.1 r.2.1 r.2.2.1 r.2.2.2.1 r.2.2.2.2.1 r.2.2.2.2.2) s) (hM : ∀ r ∈ nNM, va_Nw (.methodLinkNest r.1 r.2.1 r.2.2.1 r.2.2.2) s) : GoodIn nTc (.code (nmm 106).1 (nmm 106).2.1 (nmm 106).2.2.1 (nmm 106).2.2.2 :: nTc) ∧ ab_ML s args "LevelMachineLaw" nCl 0 31 (nmm 106).1 (nmm 106).2.2.2 2 4 := ⟨nG tw692, Or.inl (hT _ tw689), hT _ tw5, ⟨by decide, by decide, by decide +kernel⟩, fun _ => ⟨hT _ tw690, _, rfl, hT _ tw691⟩, fun h => absurd h (by decide), fun h => absurd h (by decide)⟩
theorem tM5_ok_32 {s : State} {args : Array Value} (hT : ∀ w ∈ nTc, w.before args s = true) (hF : ∀ r ∈ nNF, va_Nw (.fieldLinkNest r.1 r.2.1 r.2.2.1 r.2.2.2.1 r.2.2.2.2.1 r.2.2.2.2.2) s) (hM : ∀ r ∈ nNM, va_Nw (.methodLinkNest r.1 r.2.1 r.2.2.1 r.2.2.2) s) : GoodIn nTc (.code (nmm 5).1 (nmm 5).2.1 (nmm 5).2.2.1 (nmm 5).2.2.2 :: nTc) ∧ ab_ML s args "LevelMachineLaw" nCl 0 32 (nmm 5).1 (nmm 5).2.2.2 2 3 := ⟨nG tw161, Or.inl (hT _ tw158), hT _ tw1, ⟨by decide, by decide, by decide +kernel⟩, fun _ => ⟨hT _ tw159, _, rfl, hT _ tw160⟩, fun h => absurd h (by decide), fun h => absurd h (by decide)⟩
theorem tM5_ok_35 {s : State} {args : Array Value} (hT : ∀ w ∈ nTc, w.before args s = true) (hF : ∀ r ∈ nNF, va_Nw (.fieldLinkNest r.1 r.2.1 r.2.2.1 r.2.2.2.1 r.2.2.2.2.1 r.2.2.2.2.2) s) (hM : ∀ r ∈ nNM, va_Nw (.methodLinkNest r.1 r.2.1 r.2.2.1 r.2.2.2) s) : GoodIn nTc (.code (nmm 107).1 (nmm 107).2.1 (nmm 107).2.2.1 (nmm 107).2.2.2 :: nTc) ∧ ab_ML s args "LevelMachineLaw" nCl 0 35 (nmm 107).1 (nmm 107).2.2.2 2 4 := ⟨nG tw696, Or.inl (hT _ tw693), hT _ tw5, ⟨by decide, by decide, by decide +kernel⟩, fun _ => ⟨hT _ tw694, _, rfl, hT _ tw695⟩, fun h => absurd h (by decide), fun h => absurd h (by decide)⟩
theorem tM5_ok_36 {s : State} {args : Array Value} (hT : ∀ w ∈ nTc, w.before args s = true) (hF : ∀ r ∈ nNF, va_Nw (.fieldLinkNest r.1 r.2.1 r.2.2.1 r.2.2.2.1 r.2.2.2.2.1 r.2.2.2.2.2) s) (hM : ∀ r ∈ nNM, va_Nw (.methodLinkNest r.1 r.2.1 r.2.2.1 r.2.2.2) s) : GoodIn nTc (.code (nmm 6).1 (nmm 6).2.1 (nmm 6).2.2.1 (nmm 6).2.2.2 :: nTc) ∧ ab_ML s args "LevelMachineLaw" nCl 0 36 (nmm 6).1 (nmm 6).2.2.2 1 3 := ⟨nG tw193, Or.inl (hT _ tw190), hT _ tw1, ⟨by decide, by decide, by decide +kernel⟩, fun _ => ⟨hT _ tw191, _, rfl, hT _ tw192⟩, fun h => absurd h (by decide), fun h => absurd h (by decide)⟩
theorem tM5_ok_39 {s : State} {args : Array Value} (hT : ∀ w ∈ nTc, w.before args s = true) (hF : ∀ r ∈ nNF, va_Nw (.fieldLinkNest r.1 r.2.1 r.2.2.1 r.2.2.2.1 r.2.2.2.2.1 r.2.2.2.2.2) s) (hM : ∀ r ∈ nNM, va_Nw (.methodLinkNest r.1 r.2.1 r.2.2.1 r.2.2.2) s) : GoodIn nTc (.code (nmm 101).1 (nmm 101).2.1 (nmm 101).2.2.1 (nmm 101).2.2.2 :: nTc) ∧ ab_ML s args "LevelMachineLaw" nCl 0 39 (nmm 101).1 (nmm 101).2.2.2 1 4 := ⟨nG tw479, Or.inl (hT _ tw476), hT _ tw5, ⟨by decide, by decide, by decide +kernel⟩, fun _ => ⟨hT _ tw477, _, rfl, hT _ tw478⟩, fun h => absurd h (by decide), fun h => absurd h (by decide)⟩
theorem tM5_ok_40 {s : State} {args : Array Value} (hT : ∀ w ∈ nTc, w.before args s = true) (hF : ∀ r ∈ nNF, va_Nw (.fieldLinkNest r.1 r.2.1 r.2.2.1 r.2.2.2.1 r.2.2.2.2.1 r.2.2.2.2.2) s) (hM : ∀ r ∈ nNM, va_Nw (.methodLinkNest r.1 r.2.1 r.2.2.1 r.2.2.2) s) : GoodIn nTc (.code (nmm 7).1 (nmm 7).2.1 (nmm 7).2.2.1 (nmm 7).2.2.2 :: nTc) ∧ ab_ML s args "LevelMachineLaw" nCl 0 40 (nmm 7).1 (nmm 7).2.2.2 0 3 := ⟨nG tw409, Or.inl (hT _ tw406), hT _ tw1, ⟨by decide, by decide, by decide +kernel⟩, fun _ => ⟨hT _ tw407, _, rfl, hT _ tw408⟩, fun h => absurd h (by decide), fun h => absurd h (by decide)⟩
theorem tM5_ok_44 {s : State} {args : Array Value} (hT : ∀ w ∈ nTc, w.before args s = true) (hF : ∀ r ∈ nNF, va_Nw (.fieldLinkNest r.1 r.2.1 r.2.2.1 r.2.2.2.1 r.2.2.2.2.1 r.2.2.2.2.2) s) (hM : ∀ r ∈ nNM, va_Nw (.methodLinkNest r.1 r.2.1 r.2.2.1 r.2.2.2) s) : GoodIn nTc (.code (nmm 102).1 (nmm 102).2.1 (nmm 102).2.2.1 (nmm 102).2.2.2 :: nTc) ∧ ab_ML s args "LevelMachineLaw" nCl 0 44 (nmm 102).1 (nmm 102).2.2.2 0 4 := ⟨nG tw676, Or.inl (hT _ tw673), hT _ tw5, ⟨by decide, by decide, by decide +kernel⟩, fun _ => ⟨hT _ tw674, _, rfl, hT _ tw675⟩, fun h => absurd h (by decide), fun h => absurd h (by decide)⟩
theorem tM5_ok_45 {s : State} {args : Array Value} (hT : ∀ w ∈ nTc, w.before args s = true) (hF : ∀ r ∈ nNF, va_Nw (.fieldLinkNest r.1 r.2.1 r.2.2.1 r.2.2.2.1 r.2.2.2.2.1 r.2.2.2.2.2) s) (hM : ∀ r ∈ nNM, va_Nw (.methodLinkNest r.1 r.2.1 r.2.2.1 r.2.2.2) s) : GoodIn nTc (.code (nmm 8).1 (nmm 8).2.1 (nmm 8).2.2.1 (nmm 8).2.2.2 :: nTc) ∧ ab_ML s args "LevelMachineLaw" nCl 0 45 (nmm 8).1 (nmm 8).2.2.2 1 3 := ⟨nG tw413, Or.inl (hT _ tw410), hT _ tw1, ⟨by decide, by decide, by decide +kernel⟩, fun _ => ⟨hT _ tw411, _, rfl, hT _ tw412⟩, fun h => absurd h (by decide), fun h => absurd h (by decide)⟩
theorem tM5_ok_48 {s : State} {args : Array Value} (hT : ∀ w ∈ nTc, w.before args s = true) (hF : ∀ r ∈ nNF, va_Nw (.fieldLinkNest r.1 r.2.1 r.2.2.1 r.2.2.2.1 r.2.2.2.2.1 r.2.2.2.2.2) s) (hM : ∀ r ∈ nNM, va_Nw (.methodLinkNest r.1 r.2.1 r.2.2.1 r.2.2.2) s) : GoodIn nTc (.code (nmm 108).1 (nmm 108).2.1 (nmm 108).2.2.1 (nmm 108).2.2.2 :: nTc) ∧ ab_ML s args "LevelMachineLaw" nCl 0 48 (nmm 108).1 (nmm 108).2.2.2 1 4 := ⟨nG tw700, Or.inl (hT _ tw697), hT _ tw5, ⟨by decide, by decide, by decide +kernel⟩, fun _ => ⟨hT _ tw698, _, rfl, hT _ tw699⟩, fun h => absurd h (by decide), fun h => absurd h (by decide)⟩
theorem tM5_ok_49 {s : State} {args : Array Value} (hT : ∀ w ∈ nTc, w.before args s = true) (hF : ∀ r ∈ nNF, va_Nw (.fieldLinkNest r.1 r.2.1 r.2.2.1 r.2.2.2.1 r.2.2.2.2.1 r.2.2.2.2.2) s) (hM : ∀ r ∈ nNM, va_Nw (.methodLinkNest r.1 r.2.1 r.2.2.1 r.2.2.2) s) : GoodIn nTc (.code (nmm 9).1 (nmm 9).2.1 (nmm 9).2.2.1 (nmm 9).2.2.2 :: nTc) ∧ ab_ML s args "LevelMachineLaw" nCl 0 49 (nmm 9).1 (nmm 9).2.2.2 2 3 := ⟨nG tw417, Or.inl (hT _ tw414), hT _ tw1, ⟨by decide, by decide, by decide +kernel⟩, fun _ => ⟨hT _ tw415, _, rfl, hT _ tw416⟩, fun h => absurd h (by decide), fun h => absurd h (by decide)⟩
theorem tM5_ok_53 {s : State} {args : Array Value} (hT : ∀ w ∈ nTc, w.before args s = true) (hF : ∀ r ∈ nNF, va_Nw (.fieldLinkNest r.1 r.2.1 r.2.2.1 r.2.2.2.1 r.2.2.2.2.1 r.2.2.2.2.2) s) (hM : ∀ r ∈ nNM, va_Nw (.methodLinkNest r.1 r.2.1 r.2.2.1 r.2.2.2) s) : GoodIn nTc (.code (nmm 109).1 (nmm 109).2.1 (nmm 109).2.2.1 (nmm 109).2.2.2 :: nTc) ∧ ab_ML s args "LevelMachineLaw" nCl 0 53 (nmm 109).1 (nmm 109).2.2.2 2 4 := ⟨nG tw704, Or.inl (hT _ tw701), hT _ tw5, ⟨by decide, by decide, by decide +kernel⟩, fun _ => ⟨hT _ tw702, _, rfl, hT _ tw703⟩, fun h => absurd h (by decide), fun h => absurd h (by decide)⟩
theorem tM5_ok {s : State} {args : Array Value} (hT : ∀ w ∈ nTc, w.before args s = true) (hF : ∀ r ∈ nNF, va_Nw (.fieldLinkNest r.1 r.2.1 r.2.2.1 r.2.2.2.1 r.2.2.2.2.1 r.2.2.2.2.2) s) (hM : ∀ r ∈ nNM, va_Nw (.methodLinkNest r.1 r.2.1 r.2.2.1 r.2.2.2) s) : ∀ q ∈ tM5, GoodIn nTc (.code (nmm q.2.2.1).1 (nmm q.2.2.1).2.1 (nmm q.2.2.1).2.2.1 (nmm q.2.2.1).2.2.2 :: nTc) ∧ ab_ML s args "LevelMachineLaw" nCl q.2.1 q.1 (nmm q.2.2.1).1 (nmm q.2.2.1).2.2.2 q.2.2.2.1 q.2.2.2.2 := ab_mc (tM5_ok_9 hT hF hM) (ab_mc (tM5_ok_12 hT hF hM) (ab_mc (tM5_ok_13 hT hF hM) (ab_mc (tM5_ok_17 hT hF hM) (ab_mc (tM5_ok_18 hT hF hM) (ab_mc (tM5_ok_22 hT hF hM) (ab_mc (tM5_ok_23 hT hF hM) (ab_mc (tM5_ok_27 hT hF hM) (ab_mc (tM5_ok_28 hT hF hM) (ab_mc (tM5_ok_31 hT hF hM) (ab_mc (tM5_ok_32 hT hF hM) (ab_mc (tM5_ok_35 hT hF hM) (ab_mc (tM5_ok_36 hT hF hM) (ab_mc (tM5_ok_39 hT hF hM) (ab_mc (tM5_ok_40 hT hF hM) (ab_mc (tM5_ok_44 hT hF hM) (ab_mc (tM5_ok_45 hT hF hM) (ab_mc (tM5_ok_48 hT hF hM) (ab_mc (tM5_ok_49 hT hF hM) (ab_mc (tM5_ok_53 hT hF hM) ab_mn)))))))))))))))))))
theorem tN5_ok_7 {s : State} {args : Array Value} (hT : ∀ w ∈ nTc, w.before args s = true) (hF : ∀ r ∈ nNF, va_Nw (.fieldLinkNest r.1 r.2.1 r.2.2.1 r.2.2.2.1 r.2.2.2.2.1 r.2.2.2.2.2) s) (hM : ∀ r ∈ nNM, va_Nw (.methodLinkNest r.1 r.2.1 r.2.2.1 r.2.2.2) s) : ab_NL s args "LevelMachineLaw" nCl nTc 7 3 [false, false, false, false, false, false, false, true, true, true, true, true, true] := ⟨"LevelMachine", nT3, 13, nY3, rfl, nU3, nP3, hT _ tw7, hT _ tw8, hT _ tw1, rfl, by
    intro k b hk
    have hl := (List.getElem?_eq_some_iff.mp hk).1
    rcases (show k = 0 ∨ k = 1 ∨ k = 2 ∨ k = 3 ∨ k = 4 ∨ k = 5 ∨ k = 6 ∨ k = 7 ∨ k = 8 ∨ k = 9 ∨ k = 10 ∨ k = 11 ∨ k = 12 by simp at hl; omega) with rfl | rfl | rfl | rfl | rfl | rfl | rfl | rfl | rfl | rfl | rfl | rfl | rfl <;> cases hk <;> rfl⟩
theorem tN5_ok_10 {s : State} {args : Array Value} (hT : ∀ w ∈ nTc, w.before args s = true) (hF : ∀ r ∈ nNF, va_Nw (.fieldLinkNest r.1 r.2.1 r.2.2.1 r.2.2.2.1 r.2.2.2.2.1 r.2.2.2.2.2) s) (hM : ∀ r ∈ nNM, va_Nw (.methodLinkNest r.1 r.2.1 r.2.2.1 r.2.2.2) s) : ab_NL s args "LevelMachineLaw" nCl nTc 10 4 [false, false, false, false, false, false, true, true, true, true, true, true, true, true, true, true, true] := ⟨"LevelMachineModel", nT4, 17, nY4, rfl, nU4, nP4, hT _ tw418, hT _ tw419, hT _ tw5, rfl, by
    intro k b hk
    have hl := (List.getElem?_eq_some_iff.mp hk).1
    rcases (show k = 0 ∨ k = 1 ∨ k = 2 ∨ k = 3 ∨ k = 4 ∨ k = 5 ∨ k = 6 ∨ k = 7 ∨ k = 8 ∨ k = 9 ∨ k = 10 ∨ k = 11 ∨ k = 12 ∨ k = 13 ∨ k = 14 ∨ k = 15 ∨ k = 16 by simp at hl; omega) with rfl | rfl | rfl | rfl | rfl | rfl | rfl | rfl | rfl | rfl | rfl | rfl | rfl | rfl | rfl | rfl | rfl <;> cases hk <;> rfl⟩
theorem tN5_ok {s : State} {args : Array Value} (hT : ∀ w ∈ nTc, w.before args s = true) (hF : ∀ r ∈ nNF, va_Nw (.fieldLinkNest r.1 r.2.1 r.2.2.1 r.2.2.2.1 r.2.2.2.2.1 r.2.2.2.2.2) s) (hM : ∀ r ∈ nNM, va_Nw (.methodLinkNest r.1 r.2.1 r.2.2.1 r.2.2.2) s) : ∀ q ∈ tN5, ab_NL s args "LevelMachineLaw" nCl nTc q.1 q.2.1 q.2.2 := ab_mc (tN5_ok_7 hT hF hM) (ab_mc (tN5_ok_10 hT hF hM) ab_mn)
set_option maxRecDepth 100000 in
theorem tB5 : ab_TB "LevelMachineLaw" nCl nRn nSL nNF nNM nTc nmm tF5 tS5 tN5 tR5 tO5 tA5 tK5 tM5 := fun s args hT hF hM => ⟨tF5_ok hT hF hM, ab_mn, tN5_ok hT hF hM, hT _ tw28, ab_mn, ab_mn, ab_mn, ab_mn, tM5_ok hT hF hM⟩
end
section
def pg114 : ab_PG := [(0, .aload_n 0, 1), (1, .invokespecial 3, 3), (4, .aload_n 0, 1), (5, .sipush 640, 3), (8, .newarray .int, 2), (10, .putfield 11, 3), (13, .aload_n 0, 1), (14, .sipush 640, 3), (17, .newarray .int, 2), (19, .putfield 15, 3), (22, .return_, 1)]
set_option maxRecDepth 100000 in
theorem pg114_ok : ∀ q ∈ pg114, decode prog_3_method_1_code q.1 = .ok (q.2.1, q.2.2) := by decide +kernel
def pg129 : ab_PG := [(0, .aload_n 0, 1), (1, .invokespecial 3, 3), (4, .aload_n 0, 1), (5, .iload_n 1, 1), (6, .putfield 9, 3), (9, .return_, 1)]
set_option maxRecDepth 100000 in
theorem pg129_ok : ∀ q ∈ pg129, decode prog_4_method_1_code q.1 = .ok (q.2.1, q.2.2) := by decide +kernel
def pg110 : ab_PG := [(0, .aload_n 0, 1), (1, .invokespecial 3, 3), (4, .return_, 1)]
set_option maxRecDepth 100000 in
theorem pg110_ok : ∀ q ∈ pg110, decode prog_2_method_1_code q.1 = .ok (q.2.1, q.2.2) := by decide +kernel
def pg0 : ab_PG := [(0, .aload_n 0, 1), (1, .invokespecial 1, 3), (4, .aload_n 0, 1), (5, .new 7, 3), (8, .dup, 1), (9, .invokespecial 9, 3), (12, .putfield 10, 3), (15, .aload_n 0, 1), (16, .bipush 7, 2), (18, .newarray .int, 2), (20, .putfield 16, 3), (23, .aload_n 0, 1), (24, .bipush 7, 2), (26, .newarray .int, 2), (28, .putfield 20, 3), (31, .aload_n 0, 1), (32, .iconst 5, 1), (33, .anewarray 23, 3), (36, .putfield 25, 3), (39, .aload_n 0, 1), (40, .iconst 5, 1), (41, .anewarray 23, 3), (44, .putfield 29, 3), (47, .iconst 0, 1), (48, .istore_n 1, 1), (49, .iload_n 1, 1), (50, .iconst 5, 1), (51, .if_icmp .ge 50, 3), (54, .iload_n 1, 1), (55, .iconst 3, 1), (56, .if_icmp .ne 8, 3), (59, .bipush 12, 2), (61, .goto 5, 3), (64, .bipush 13, 2), (66, .istore_n 2, 1), (67, .aload_n 0, 1), (68, .getfield 25, 3), (71, .iload_n 1, 1), (72, .new 23, 3), (75, .dup, 1), (76, .iload_n 2, 1), (77, .invokespecial 32, 3), (80, .aastore, 1), (81, .aload_n 0, 1), (82, .getfield 29, 3), (85, .iload_n 1, 1), (86, .new 23, 3), (89, .dup, 1), (90, .iload_n 2, 1), (91, .invokespecial 32, 3), (94, .aastore, 1), (95, .iinc 1 1, 3), (98, .goto (-49), 3), (101, .aload_n 0, 1), (102, .new 23, 3), (105, .dup, 1), (106, .bipush 12, 2), (108, .invokespecial 32, 3), (111, .putfield 35, 3), (114, .aload_n 0, 1), (115, .new 39, 3), (118, .dup, 1), (119, .invokespecial 41, 3), (122, .putfield 42, 3), (125, .return_, 1)]
set_option maxRecDepth 100000 in
theorem pg0_ok : ∀ q ∈ pg0, decode prog_1_method_1_code q.1 = .ok (q.2.1, q.2.2) := by decide +kernel
def pg51 : ab_PG := [(0, .aload_n 0, 1), (1, .invokespecial 1, 3), (4, .aload_n 0, 1), (5, .sipush 640, 3), (8, .newarray .int, 2), (10, .putfield 7, 3), (13, .aload_n 0, 1), (14, .bipush 7, 2), (16, .newarray .int, 2), (18, .putfield 13, 3), (21, .aload_n 0, 1), (22, .bipush 25, 2), (24, .newarray .int, 2), (26, .putfield 16, 3), (29, .aload_n 0, 1), (30, .sipush 640, 3), (33, .newarray .int, 2), (35, .putfield 19, 3), (38, .aload_n 0, 1), (39, .bipush 7, 2), (41, .newarray .int, 2), (43, .putfield 22, 3), (46, .aload_n 0, 1), (47, .bipush 25, 2), (49, .newarray .int, 2), (51, .putfield 25, 3), (54, .return_, 1)]
set_option maxRecDepth 100000 in
theorem pg51_ok : ∀ q ∈ pg51, decode prog_6_method_1_code q.1 = .ok (q.2.1, q.2.2) := by decide +kernel
def pg116 : ab_PG := [(0, .iload_n 0, 1), (1, .ifCond .lt 14, 3), (4, .iload_n 0, 1), (5, .sipush 640, 3), (8, .if_icmp .ge 7, 3), (11, .iconst 1, 1), (12, .goto 4, 3), (15, .iconst 0, 1), (16, .ireturn, 1)]
set_option maxRecDepth 100000 in
theorem pg116_ok : ∀ q ∈ pg116, decode prog_3_method_3_code q.1 = .ok (q.2.1, q.2.2) := by decide +kernel
def pg10 : ab_PG := [(0, .iload_n 0, 1), (1, .ifCond .lt 13, 3), (4, .iload_n 0, 1), (5, .ldc 113, 2), (7, .if_icmp .gt 7, 3), (10, .iconst 1, 1), (11, .goto 4, 3), (14, .iconst 0, 1), (15, .ireturn, 1)]
set_option maxRecDepth 100000 in
theorem pg10_ok : ∀ q ∈ pg10, decode prog_1_method_11_code q.1 = .ok (q.2.1, q.2.2) := by decide +kernel
def pg118 : ab_PG := [(0, .iload_n 1, 1), (1, .ldc 18, 2), (3, .iand, 1), (4, .istore_n 3, 1), (5, .iload_n 3, 1), (6, .sipush 640, 3), (9, .if_icmp .ge 10, 3), (12, .aload_n 0, 1), (13, .getfield 11, 3), (16, .iload_n 3, 1), (17, .iload_n 2, 1), (18, .iastore, 1), (19, .return_, 1)]
set_option maxRecDepth 100000 in
theorem pg118_ok : ∀ q ∈ pg118, decode prog_3_method_5_code q.1 = .ok (q.2.1, q.2.2) := by decide +kernel
def pg1 : ab_PG := [(0, .iload_n 1, 1), (1, .invokestatic 46, 3), (4, .ifCond .eq 10, 3), (7, .iload_n 2, 1), (8, .invokestatic 50, 3), (11, .ifCond .ne 5, 3), (14, .iconst 0, 1), (15, .ireturn, 1), (16, .aload_n 0, 1), (17, .getfield 10, 3), (20, .iload_n 1, 1), (21, .iload_n 2, 1), (22, .invokevirtual 53, 3), (25, .iconst 1, 1), (26, .ireturn, 1)]
set_option maxRecDepth 100000 in
theorem pg1_ok : ∀ q ∈ pg1, decode prog_1_method_2_code q.1 = .ok (q.2.1, q.2.2) := by decide +kernel
def pg52 : ab_PG := [(0, .iload_n 0, 1), (1, .iload_n 1, 1), (2, .if_icmp .lt 12, 3), (5, .iload_n 0, 1), (6, .iload_n 2, 1), (7, .if_icmp .gt 7, 3), (10, .iconst 1, 1), (11, .goto 4, 3), (14, .iconst 0, 1), (15, .ireturn, 1)]
set_option maxRecDepth 100000 in
theorem pg52_ok : ∀ q ∈ pg52, decode prog_6_method_2_code q.1 = .ok (q.2.1, q.2.2) := by decide +kernel
def pg103 : ab_PG := [(0, .iload_n 1, 1), (1, .iconst 0, 1), (2, .sipush 639, 3), (5, .invokestatic 52, 3), (8, .ifCond .eq 13, 3), (11, .iload_n 2, 1), (12, .iconst 0, 1), (13, .ldc 43, 2), (15, .invokestatic 52, 3), (18, .ifCond .ne 5, 3), (21, .iconst 0, 1), (22, .ireturn, 1), (23, .aload_n 0, 1), (24, .getfield 7, 3), (27, .iload_n 1, 1), (28, .iload_n 2, 1), (29, .iastore, 1), (30, .iconst 1, 1), (31, .ireturn, 1)]
set_option maxRecDepth 100000 in
theorem pg103_ok : ∀ q ∈ pg103, decode prog_6_method_53_code q.1 = .ok (q.2.1, q.2.2) := by decide +kernel
def pg117 : ab_PG := [(0, .iload_n 1, 1), (1, .ldc 18, 2), (3, .iand, 1), (4, .istore_n 2, 1), (5, .iload_n 2, 1), (6, .sipush 640, 3), (9, .if_icmp .ge 12, 3), (12, .aload_n 0, 1), (13, .getfield 11, 3), (16, .iload_n 2, 1), (17, .iaload, 1), (18, .goto 5, 3), (21, .ldc 18, 2), (23, .ireturn, 1)]
set_option maxRecDepth 100000 in
theorem pg117_ok : ∀ q ∈ pg117, decode prog_3_method_4_code q.1 = .ok (q.2.1, q.2.2) := by decide +kernel
def pg2 : ab_PG := [(0, .iload_n 1, 1), (1, .invokestatic 46, 3), (4, .ifCond .eq 14, 3), (7, .aload_n 0, 1), (8, .getfield 10, 3), (11, .iload_n 1, 1), (12, .invokevirtual 57, 3), (15, .goto 4, 3), (18, .iconst (-1), 1), (19, .ireturn, 1)]
set_option maxRecDepth 100000 in
theorem pg2_ok : ∀ q ∈ pg2, decode prog_1_method_3_code q.1 = .ok (q.2.1, q.2.2) := by decide +kernel
def pg104 : ab_PG := [(0, .iload_n 1, 1), (1, .iconst 0, 1), (2, .sipush 639, 3), (5, .invokestatic 52, 3), (8, .ifCond .eq 12, 3), (11, .aload_n 0, 1), (12, .getfield 7, 3), (15, .iload_n 1, 1), (16, .iaload, 1), (17, .goto 4, 3), (20, .iconst (-1), 1), (21, .ireturn, 1)]
set_option maxRecDepth 100000 in
theorem pg104_ok : ∀ q ∈ pg104, decode prog_6_method_54_code q.1 = .ok (q.2.1, q.2.2) := by decide +kernel
def pg3 : ab_PG := [(0, .iload_n 1, 1), (1, .ifCond .lt 23, 3), (4, .iload_n 1, 1), (5, .bipush 48, 2), (7, .if_icmp .ge 17, 3), (10, .iload_n 2, 1), (11, .invokestatic 50, 3), (14, .ifCond .eq 10, 3), (17, .iload_n 3, 1), (18, .invokestatic 50, 3), (21, .ifCond .ne 5, 3), (24, .iconst 0, 1), (25, .ireturn, 1), (26, .iload 4, 2), (28, .ifCond .lt 21, 3), (31, .iload 4, 2), (33, .bipush 15, 2), (35, .if_icmp .gt 14, 3), (38, .iload 5, 2), (40, .ifCond .lt 9, 3), (43, .iload 5, 2), (45, .iconst 3, 1), (46, .if_icmp .le 5, 3), (49, .iconst 0, 1), (50, .ireturn, 1), (51, .aload_n 0, 1), (52, .getfield 10, 3), (55, .iconst 4, 1), (56, .iload_n 1, 1), (57, .imul, 1), (58, .iload_n 2, 1), (59, .invokevirtual 53, 3), (62, .aload_n 0, 1), (63, .getfield 10, 3), (66, .iconst 4, 1), (67, .iload_n 1, 1), (68, .imul, 1), (69, .iconst 1, 1), (70, .iadd, 1), (71, .iload_n 3, 1), (72, .invokevirtual 53, 3), (75, .aload_n 0, 1), (76, .getfield 10, 3), (79, .iconst 4, 1), (80, .iload_n 1, 1), (81, .imul, 1), (82, .iconst 2, 1), (83, .iadd, 1), (84, .iload 4, 2), (86, .bipush 16, 2), (88, .iload 5, 2), (90, .imul, 1), (91, .iadd, 1), (92, .iload 6, 2), (94, .ifCond .eq 8, 3), (97, .bipush 64, 2), (99, .goto 4, 3), (102, .iconst 0, 1), (103, .iadd, 1), (104, .invokevirtual 53, 3), (107, .iconst 1, 1), (108, .ireturn, 1)]
set_option maxRecDepth 100000 in
theorem pg3_ok : ∀ q ∈ pg3, decode prog_1_method_4_code q.1 = .ok (q.2.1, q.2.2) := by decide +kernel
def pg105 : ab_PG := [(0, .iload_n 1, 1), (1, .iconst 0, 1), (2, .bipush 47, 2), (4, .invokestatic 52, 3), (7, .ifCond .eq 44, 3), (10, .iload_n 2, 1), (11, .iconst 0, 1), (12, .ldc 43, 2), (14, .invokestatic 52, 3), (17, .ifCond .eq 34, 3), (20, .iload_n 3, 1), (21, .iconst 0, 1), (22, .ldc 43, 2), (24, .invokestatic 52, 3), (27, .ifCond .eq 24, 3), (30, .iload 4, 2), (32, .iconst 0, 1), (33, .bipush 15, 2), (35, .invokestatic 52, 3), (38, .ifCond .eq 13, 3), (41, .iload 5, 2), (43, .iconst 0, 1), (44, .iconst 3, 1), (45, .invokestatic 52, 3), (48, .ifCond .ne 5, 3), (51, .iconst 0, 1), (52, .ireturn, 1), (53, .aload_n 0, 1), (54, .getfield 7, 3), (57, .iconst 4, 1), (58, .iload_n 1, 1), (59, .imul, 1), (60, .iload_n 2, 1), (61, .iastore, 1), (62, .aload_n 0, 1), (63, .getfield 7, 3), (66, .iconst 4, 1), (67, .iload_n 1, 1), (68, .imul, 1), (69, .iconst 1, 1), (70, .iadd, 1), (71, .iload_n 3, 1), (72, .iastore, 1), (73, .aload_n 0, 1), (74, .getfield 7, 3), (77, .iconst 4, 1), (78, .iload_n 1, 1), (79, .imul, 1), (80, .iconst 2, 1), (81, .iadd, 1), (82, .iload 4, 2), (84, .bipush 16, 2), (86, .iload 5, 2), (88, .imul, 1), (89, .iadd, 1), (90, .iload 6, 2), (92, .ifCond .eq 8, 3), (95, .bipush 64, 2), (97, .goto 4, 3), (100, .iconst 0, 1), (101, .iadd, 1), (102, .iastore, 1), (103, .iconst 1, 1), (104, .ireturn, 1)]
set_option maxRecDepth 100000 in
theorem pg105_ok : ∀ q ∈ pg105, decode prog_6_method_55_code q.1 = .ok (q.2.1, q.2.2) := by decide +kernel
def pg4 : ab_PG := [(0, .iload_n 1, 1), (1, .ifCond .lt 28, 3), (4, .iload_n 1, 1), (5, .bipush 7, 2), (7, .if_icmp .ge 22, 3), (10, .iload_n 2, 1), (11, .invokestatic 50, 3), (14, .ifCond .eq 15, 3), (17, .iload_n 1, 1), (18, .bipush 6, 2), (20, .if_icmp .ne 11, 3), (23, .iload_n 2, 1), (24, .bipush 7, 2), (26, .if_icmp .le 5, 3), (29, .iconst 0, 1), (30, .ireturn, 1), (31, .aload_n 0, 1), (32, .getfield 16, 3), (35, .iload_n 1, 1), (36, .iload_n 2, 1), (37, .iastore, 1), (38, .iconst 1, 1), (39, .ireturn, 1)]
set_option maxRecDepth 100000 in
theorem pg4_ok : ∀ q ∈ pg4, decode prog_1_method_5_code q.1 = .ok (q.2.1, q.2.2) := by decide +kernel
def pg106 : ab_PG := [(0, .iload_n 1, 1), (1, .iconst 0, 1), (2, .bipush 6, 2), (4, .invokestatic 52, 3), (7, .ifCond .eq 24, 3), (10, .iload_n 2, 1), (11, .iconst 0, 1), (12, .iload_n 1, 1), (13, .bipush 6, 2), (15, .if_icmp .ne 8, 3), (18, .bipush 7, 2), (20, .goto 5, 3), (23, .ldc 43, 2), (25, .invokestatic 52, 3), (28, .ifCond .ne 5, 3), (31, .iconst 0, 1), (32, .ireturn, 1), (33, .aload_n 0, 1), (34, .getfield 13, 3), (37, .iload_n 1, 1), (38, .iload_n 2, 1), (39, .iastore, 1), (40, .iconst 1, 1), (41, .ireturn, 1)]
set_option maxRecDepth 100000 in
theorem pg106_ok : ∀ q ∈ pg106, decode prog_6_method_56_code q.1 = .ok (q.2.1, q.2.2) := by decide +kernel
def pg121 : ab_PG := [(0, .iload_n 1, 1), (1, .iconst 4, 1), (2, .if_icmp .lt 28, 3), (5, .iload_n 1, 1), (6, .sipush 128, 3), (9, .if_icmp .ge 21, 3), (12, .aload_n 0, 1), (13, .getfield 11, 3), (16, .iload_n 1, 1), (17, .sipush 252, 3), (20, .iand, 1), (21, .iconst 2, 1), (22, .iadd, 1), (23, .iaload, 1), (24, .bipush 16, 2), (26, .irem, 1), (27, .goto 4, 3), (30, .iconst 0, 1), (31, .ireturn, 1)]
set_option maxRecDepth 100000 in
theorem pg121_ok : ∀ q ∈ pg121, decode prog_3_method_8_code q.1 = .ok (q.2.1, q.2.2) := by decide +kernel
def pg130 : ab_PG := [(0, .aload_n 0, 1), (1, .iconst 0, 1), (2, .putfield 15, 3), (5, .aload_n 0, 1), (6, .iconst 0, 1), (7, .putfield 18, 3), (10, .aload_n 0, 1), (11, .iconst 0, 1), (12, .putfield 21, 3), (15, .aload_n 0, 1), (16, .iconst 0, 1), (17, .putfield 24, 3), (20, .aload_n 0, 1), (21, .iconst 0, 1), (22, .putfield 27, 3), (25, .return_, 1)]
set_option maxRecDepth 100000 in
theorem pg130_ok : ∀ q ∈ pg130, decode prog_4_method_2_code q.1 = .ok (q.2.1, q.2.2) := by decide +kernel
def pg122 : ab_PG := [(0, .aload_n 0, 1), (1, .getfield 11, 3), (4, .iload_n 1, 1), (5, .sipush 252, 3), (8, .iand, 1), (9, .iaload, 1), (10, .ireturn, 1)]
set_option maxRecDepth 100000 in
theorem pg122_ok : ∀ q ∈ pg122, decode prog_3_method_9_code q.1 = .ok (q.2.1, q.2.2) := by decide +kernel
def pg123 : ab_PG := [(0, .aload_n 0, 1), (1, .getfield 11, 3), (4, .iload_n 1, 1), (5, .sipush 252, 3), (8, .iand, 1), (9, .iconst 1, 1), (10, .iadd, 1), (11, .iaload, 1), (12, .ireturn, 1)]
set_option maxRecDepth 100000 in
theorem pg123_ok : ∀ q ∈ pg123, decode prog_3_method_10_code q.1 = .ok (q.2.1, q.2.2) := by decide +kernel
def pg124 : ab_PG := [(0, .aload_n 0, 1), (1, .getfield 11, 3), (4, .iload_n 1, 1), (5, .sipush 252, 3), (8, .iand, 1), (9, .iconst 2, 1), (10, .iadd, 1), (11, .iaload, 1), (12, .bipush 16, 2), (14, .irem, 1), (15, .ireturn, 1)]
set_option maxRecDepth 100000 in
theorem pg124_ok : ∀ q ∈ pg124, decode prog_3_method_11_code q.1 = .ok (q.2.1, q.2.2) := by decide +kernel
def pg125 : ab_PG := [(0, .aload_n 0, 1), (1, .getfield 11, 3), (4, .iload_n 1, 1), (5, .sipush 252, 3), (8, .iand, 1), (9, .iconst 2, 1), (10, .iadd, 1), (11, .iaload, 1), (12, .bipush 16, 2), (14, .idiv, 1), (15, .iconst 4, 1), (16, .irem, 1), (17, .ireturn, 1)]
set_option maxRecDepth 100000 in
theorem pg125_ok : ∀ q ∈ pg125, decode prog_3_method_12_code q.1 = .ok (q.2.1, q.2.2) := by decide +kernel
def pg131 : ab_PG := [(0, .aload_n 0, 1), (1, .iload_n 2, 1), (2, .putfield 15, 3), (5, .aload_n 0, 1), (6, .aload_n 1, 1), (7, .iload_n 2, 1), (8, .invokevirtual 30, 3), (11, .putfield 18, 3), (14, .aload_n 0, 1), (15, .aload_n 1, 1), (16, .iload_n 2, 1), (17, .invokevirtual 36, 3), (20, .putfield 21, 3), (23, .aload_n 0, 1), (24, .aload_n 1, 1), (25, .iload_n 2, 1), (26, .invokevirtual 39, 3), (29, .putfield 24, 3), (32, .aload_n 0, 1), (33, .aload_n 1, 1), (34, .iload_n 2, 1), (35, .invokevirtual 41, 3), (38, .putfield 27, 3), (41, .return_, 1)]
set_option maxRecDepth 100000 in
theorem pg131_ok : ∀ q ∈ pg131, decode prog_4_method_3_code q.1 = .ok (q.2.1, q.2.2) := by decide +kernel
def pg5 : ab_PG := [(0, .iload_n 1, 1), (1, .ifCond .lt 19, 3), (4, .iload_n 1, 1), (5, .iconst 5, 1), (6, .if_icmp .ge 14, 3), (9, .iload_n 2, 1), (10, .ifCond .lt 10, 3), (13, .iload_n 2, 1), (14, .sipush 128, 3), (17, .if_icmp .lt 5, 3), (20, .iconst 0, 1), (21, .ireturn, 1), (22, .aload_n 0, 1), (23, .getfield 10, 3), (26, .iload_n 2, 1), (27, .invokevirtual 61, 3), (30, .ifCond .ne 15, 3), (33, .aload_n 0, 1), (34, .getfield 25, 3), (37, .iload_n 1, 1), (38, .aaload, 1), (39, .invokevirtual 64, 3), (42, .goto 17, 3), (45, .aload_n 0, 1), (46, .getfield 25, 3), (49, .iload_n 1, 1), (50, .aaload, 1), (51, .aload_n 0, 1), (52, .getfield 10, 3), (55, .iload_n 2, 1), (56, .invokevirtual 67, 3), (59, .iconst 1, 1), (60, .ireturn, 1)]
set_option maxRecDepth 100000 in
theorem pg5_ok : ∀ q ∈ pg5, decode prog_1_method_6_code q.1 = .ok (q.2.1, q.2.2) := by decide +kernel
def pg61 : ab_PG := [(0, .iload_n 0, 1), (1, .iconst 4, 1), (2, .idiv, 1), (3, .ifCond .ne 7, 3), (6, .iconst 1, 1), (7, .goto 4, 3), (10, .iconst 0, 1), (11, .ireturn, 1)]
set_option maxRecDepth 100000 in
theorem pg61_ok : ∀ q ∈ pg61, decode prog_6_method_11_code q.1 = .ok (q.2.1, q.2.2) := by decide +kernel
def pg70 : ab_PG := [(0, .iconst 0, 1), (1, .istore_n 2, 1), (2, .iload_n 2, 1), (3, .iconst 5, 1), (4, .if_icmp .ge 18, 3), (7, .aload_n 0, 1), (8, .getfield 16, 3), (11, .iload_n 1, 1), (12, .iload_n 2, 1), (13, .iadd, 1), (14, .iconst 0, 1), (15, .iastore, 1), (16, .iinc 2 1, 3), (19, .goto (-17), 3), (22, .return_, 1)]
set_option maxRecDepth 100000 in
theorem pg70_ok : ∀ q ∈ pg70, decode prog_6_method_20_code q.1 = .ok (q.2.1, q.2.2) := by decide +kernel
def pg63 : ab_PG := [(0, .aload_n 0, 1), (1, .getfield 7, 3), (4, .iload_n 1, 1), (5, .iconst 4, 1), (6, .idiv, 1), (7, .iconst 4, 1), (8, .imul, 1), (9, .iload_n 2, 1), (10, .iadd, 1), (11, .iaload, 1), (12, .ireturn, 1)]
set_option maxRecDepth 100000 in
theorem pg63_ok : ∀ q ∈ pg63, decode prog_6_method_13_code q.1 = .ok (q.2.1, q.2.2) := by decide +kernel
def pg64 : ab_PG := [(0, .aload_n 0, 1), (1, .iload_n 1, 1), (2, .iconst 2, 1), (3, .invokevirtual 44, 3), (6, .bipush 16, 2), (8, .irem, 1), (9, .ireturn, 1)]
set_option maxRecDepth 100000 in
theorem pg64_ok : ∀ q ∈ pg64, decode prog_6_method_14_code q.1 = .ok (q.2.1, q.2.2) := by decide +kernel
def pg65 : ab_PG := [(0, .aload_n 0, 1), (1, .iload_n 1, 1), (2, .iconst 2, 1), (3, .invokevirtual 44, 3), (6, .bipush 16, 2), (8, .idiv, 1), (9, .iconst 4, 1), (10, .irem, 1), (11, .ireturn, 1)]
set_option maxRecDepth 100000 in
theorem pg65_ok : ∀ q ∈ pg65, decode prog_6_method_15_code q.1 = .ok (q.2.1, q.2.2) := by decide +kernel
def pg69 : ab_PG := [(0, .aload_n 0, 1), (1, .getfield 16, 3), (4, .iload_n 1, 1), (5, .iload_n 2, 1), (6, .iastore, 1), (7, .aload_n 0, 1), (8, .getfield 16, 3), (11, .iload_n 1, 1), (12, .iconst 1, 1), (13, .iadd, 1), (14, .aload_n 0, 1), (15, .iload_n 2, 1), (16, .iconst 0, 1), (17, .invokevirtual 44, 3), (20, .iastore, 1), (21, .aload_n 0, 1), (22, .getfield 16, 3), (25, .iload_n 1, 1), (26, .iconst 2, 1), (27, .iadd, 1), (28, .aload_n 0, 1), (29, .iload_n 2, 1), (30, .iconst 1, 1), (31, .invokevirtual 44, 3), (34, .iastore, 1), (35, .aload_n 0, 1), (36, .getfield 16, 3), (39, .iload_n 1, 1), (40, .iconst 3, 1), (41, .iadd, 1), (42, .aload_n 0, 1), (43, .iload_n 2, 1), (44, .invokevirtual 48, 3), (47, .iastore, 1), (48, .aload_n 0, 1), (49, .getfield 16, 3), (52, .iload_n 1, 1), (53, .iconst 4, 1), (54, .iadd, 1), (55, .aload_n 0, 1), (56, .iload_n 2, 1), (57, .invokevirtual 56, 3), (60, .iastore, 1), (61, .return_, 1)]
set_option maxRecDepth 100000 in
theorem pg69_ok : ∀ q ∈ pg69, decode prog_6_method_19_code q.1 = .ok (q.2.1, q.2.2) := by decide +kernel
def pg107 : ab_PG := [(0, .iload_n 1, 1), (1, .iconst 0, 1), (2, .iconst 4, 1), (3, .invokestatic 52, 3), (6, .ifCond .eq 13, 3), (9, .iload_n 2, 1), (10, .iconst 0, 1), (11, .bipush 127, 2), (13, .invokestatic 52, 3), (16, .ifCond .ne 5, 3), (19, .iconst 0, 1), (20, .ireturn, 1), (21, .iload_n 2, 1), (22, .invokestatic 76, 3), (25, .ifCond .ne 11, 3), (28, .aload_n 0, 1), (29, .iload_n 2, 1), (30, .invokevirtual 48, 3), (33, .ifCond .ne 13, 3), (36, .aload_n 0, 1), (37, .iconst 5, 1), (38, .iload_n 1, 1), (39, .imul, 1), (40, .invokevirtual 80, 3), (43, .goto 11, 3), (46, .aload_n 0, 1), (47, .iconst 5, 1), (48, .iload_n 1, 1), (49, .imul, 1), (50, .iload_n 2, 1), (51, .invokevirtual 98, 3), (54, .iconst 1, 1), (55, .ireturn, 1)]
set_option maxRecDepth 100000 in
theorem pg107_ok : ∀ q ∈ pg107, decode prog_6_method_57_code q.1 = .ok (q.2.1, q.2.2) := by decide +kernel
def pg119 : ab_PG := [(0, .aload_n 0, 1), (1, .getfield 11, 3), (4, .iconst 0, 1), (5, .aload_n 0, 1), (6, .getfield 15, 3), (9, .iconst 0, 1), (10, .sipush 640, 3), (13, .invokestatic 19, 3), (16, .return_, 1)]
set_option maxRecDepth 100000 in
theorem pg119_ok : ∀ q ∈ pg119, decode prog_3_method_6_code q.1 = .ok (q.2.1, q.2.2) := by decide +kernel
def pg132 : ab_PG := [(0, .aload_n 0, 1), (1, .aload_n 1, 1), (2, .getfield 15, 3), (5, .putfield 15, 3), (8, .aload_n 0, 1), (9, .aload_n 1, 1), (10, .getfield 18, 3), (13, .putfield 18, 3), (16, .aload_n 0, 1), (17, .aload_n 1, 1), (18, .getfield 21, 3), (21, .putfield 21, 3), (24, .aload_n 0, 1), (25, .aload_n 1, 1), (26, .getfield 24, 3), (29, .putfield 24, 3), (32, .aload_n 0, 1), (33, .aload_n 1, 1), (34, .getfield 27, 3), (37, .putfield 27, 3), (40, .return_, 1)]
set_option maxRecDepth 100000 in
theorem pg132_ok : ∀ q ∈ pg132, decode prog_4_method_4_code q.1 = .ok (q.2.1, q.2.2) := by decide +kernel
def pg13 : ab_PG := [(0, .aload_n 0, 1), (1, .getfield 10, 3), (4, .invokevirtual 114, 3), (7, .aload_n 0, 1), (8, .getfield 16, 3), (11, .iconst 0, 1), (12, .aload_n 0, 1), (13, .getfield 20, 3), (16, .iconst 0, 1), (17, .bipush 7, 2), (19, .invokestatic 117, 3), (22, .iconst 0, 1), (23, .istore_n 1, 1), (24, .iload_n 1, 1), (25, .iconst 5, 1), (26, .if_icmp .ge 24, 3), (29, .aload_n 0, 1), (30, .getfield 29, 3), (33, .iload_n 1, 1), (34, .aaload, 1), (35, .aload_n 0, 1), (36, .getfield 25, 3), (39, .iload_n 1, 1), (40, .aaload, 1), (41, .invokevirtual 123, 3), (44, .iinc 1 1, 3), (47, .goto (-23), 3), (50, .return_, 1)]
set_option maxRecDepth 100000 in
theorem pg13_ok : ∀ q ∈ pg13, decode prog_1_method_14_code q.1 = .ok (q.2.1, q.2.2) := by decide +kernel
def pg15 : ab_PG := [(0, .aload_n 0, 1), (1, .iload_n 1, 1), (2, .putfield 130, 3), (5, .aload_n 0, 1), (6, .iload_n 2, 1), (7, .ldc 133, 2), (9, .iand, 1), (10, .putfield 134, 3), (13, .iconst 0, 1), (14, .ireturn, 1)]
set_option maxRecDepth 100000 in
theorem pg15_ok : ∀ q ∈ pg15, decode prog_1_method_16_code q.1 = .ok (q.2.1, q.2.2) := by decide +kernel
def pg115 : ab_PG := [(0, .iload_n 0, 1), (1, .ldc 18, 2), (3, .iand, 1), (4, .ireturn, 1)]
set_option maxRecDepth 100000 in
theorem pg115_ok : ∀ q ∈ pg115, decode prog_3_method_2_code q.1 = .ok (q.2.1, q.2.2) := by decide +kernel
def pg22 : ab_PG := [(0, .aload_n 0, 1), (1, .getfield 25, 3), (4, .iconst 0, 1), (5, .aaload, 1), (6, .astore_n 1, 1), (7, .aload_n 0, 1), (8, .getfield 16, 3), (11, .iconst 5, 1), (12, .iaload, 1), (13, .istore_n 2, 1), (14, .aload_n 1, 1), (15, .getfield 107, 3), (18, .ifCond .eq 11, 3), (21, .iload_n 2, 1), (22, .aload_n 1, 1), (23, .getfield 104, 3), (26, .if_icmp .le 13, 3), (29, .aload_n 0, 1), (30, .bipush 13, 2), (32, .iconst 0, 1), (33, .invokevirtual 153, 3), (36, .pop, 1), (37, .iconst (-1), 1), (38, .ireturn, 1), (39, .aload_n 0, 1), (40, .getfield 16, 3), (43, .iconst 5, 1), (44, .iload_n 2, 1), (45, .iconst 1, 1), (46, .iadd, 1), (47, .invokestatic 150, 3), (50, .iastore, 1), (51, .aload_n 0, 1), (52, .getfield 10, 3), (55, .aload_n 1, 1), (56, .getfield 101, 3), (59, .iload_n 2, 1), (60, .iadd, 1), (61, .invokevirtual 57, 3), (64, .ireturn, 1)]
set_option maxRecDepth 100000 in
theorem pg22_ok : ∀ q ∈ pg22, decode prog_1_method_23_code q.1 = .ok (q.2.1, q.2.2) := by decide +kernel
def pg111 : ab_PG := [(0, .aload_n 0, 1), (1, .iload_n 1, 1), (2, .bipush 64, 2), (4, .idiv, 1), (5, .putfield 9, 3), (8, .aload_n 0, 1), (9, .iload_n 1, 1), (10, .bipush 8, 2), (12, .idiv, 1), (13, .bipush 8, 2), (15, .irem, 1), (16, .putfield 15, 3), (19, .aload_n 0, 1), (20, .iload_n 1, 1), (21, .bipush 8, 2), (23, .irem, 1), (24, .putfield 18, 3), (27, .return_, 1)]
set_option maxRecDepth 100000 in
theorem pg111_ok : ∀ q ∈ pg111, decode prog_2_method_2_code q.1 = .ok (q.2.1, q.2.2) := by decide +kernel
def pg112 : ab_PG := [(0, .aload_n 0, 1), (1, .getfield 9, 3), (4, .bipush 22, 2), (6, .if_icmp .ge 46, 3), (9, .aload_n 0, 1), (10, .getfield 15, 3), (13, .iconst 4, 1), (14, .if_icmp .gt 38, 3), (17, .aload_n 0, 1), (18, .getfield 18, 3), (21, .getstatic 21, 3), (24, .aload_n 0, 1), (25, .getfield 9, 3), (28, .iaload, 1), (29, .if_icmp .gt 23, 3), (32, .aload_n 0, 1), (33, .getfield 9, 3), (36, .bipush 13, 2), (38, .if_icmp .ne 10, 3), (41, .aload_n 0, 1), (42, .getfield 18, 3), (45, .ifCond .eq 7, 3), (48, .iconst 1, 1), (49, .goto 4, 3), (52, .iconst 0, 1), (53, .ireturn, 1)]
set_option maxRecDepth 100000 in
theorem pg112_ok : ∀ q ∈ pg112, decode prog_2_method_3_code q.1 = .ok (q.2.1, q.2.2) := by decide +kernel
def pg113 : ab_PG := [(0, .aload_n 0, 1), (1, .getfield 9, 3), (4, .bipush 22, 2), (6, .if_icmp .ge 14, 3), (9, .getstatic 25, 3), (12, .aload_n 0, 1), (13, .getfield 9, 3), (16, .iaload, 1), (17, .goto 4, 3), (20, .iconst 0, 1), (21, .ireturn, 1)]
set_option maxRecDepth 100000 in
theorem pg113_ok : ∀ q ∈ pg113, decode prog_2_method_4_code q.1 = .ok (q.2.1, q.2.2) := by decide +kernel
def pg23 : ab_PG := [(0, .aload_n 0, 1), (1, .invokevirtual 168, 3), (4, .istore_n 1, 1), (5, .iload_n 1, 1), (6, .iconst (-1), 1), (7, .if_icmp .ne 5, 3), (10, .iconst 0, 1), (11, .ireturn, 1), (12, .aload_n 0, 1), (13, .getfield 42, 3), (16, .iload_n 1, 1), (17, .invokevirtual 171, 3), (20, .aload_n 0, 1), (21, .getfield 42, 3), (24, .invokevirtual 174, 3), (27, .ifCond .ne 11, 3), (30, .aload_n 0, 1), (31, .bipush 6, 2), (33, .iconst 0, 1), (34, .invokevirtual 153, 3), (37, .ireturn, 1), (38, .aload_n 0, 1), (39, .getfield 42, 3), (42, .invokevirtual 177, 3), (45, .istore_n 2, 1), (46, .aload_n 0, 1), (47, .getfield 42, 3), (50, .iload_n 2, 1), (51, .iconst 1, 1), (52, .if_icmp .lt 10, 3), (55, .aload_n 0, 1), (56, .invokevirtual 168, 3), (59, .goto 4, 3), (62, .iconst 0, 1), (63, .putfield 180, 3), (66, .aload_n 0, 1), (67, .getfield 42, 3), (70, .getfield 180, 3), (73, .iconst (-1), 1), (74, .if_icmp .ne 5, 3), (77, .iconst 0, 1), (78, .ireturn, 1), (79, .aload_n 0, 1), (80, .getfield 42, 3), (83, .iload_n 2, 1), (84, .iconst 2, 1), (85, .if_icmp .lt 10, 3), (88, .aload_n 0, 1), (89, .invokevirtual 168, 3), (92, .goto 4, 3), (95, .iconst 0, 1), (96, .putfield 183, 3), (99, .aload_n 0, 1), (100, .getfield 42, 3), (103, .getfield 183, 3), (106, .iconst (-1), 1), (107, .if_icmp .eq 7, 3), (110, .iconst 1, 1), (111, .goto 4, 3), (114, .iconst 0, 1), (115, .ireturn, 1)]
set_option maxRecDepth 100000 in
theorem pg23_ok : ∀ q ∈ pg23, decode prog_1_method_24_code q.1 = .ok (q.2.1, q.2.2) := by decide +kernel
def pg31 : ab_PG := [(0, .aload_n 0, 1), (1, .getfield 16, 3), (4, .iload_n 1, 1), (5, .iaload, 1), (6, .iconst 4, 1), (7, .irem, 1), (8, .istore_n 3, 1), (9, .aload_n 0, 1), (10, .getfield 16, 3), (13, .bipush 6, 2), (15, .iaload, 1), (16, .bipush 6, 2), (18, .iand, 1), (19, .istore 4, 2), (21, .aload_n 0, 1), (22, .getfield 16, 3), (25, .bipush 6, 2), (27, .iload 4, 2), (29, .iload_n 3, 1), (30, .iload_n 2, 1), (31, .if_icmp .ge 7, 3), (34, .iconst 1, 1), (35, .goto 4, 3), (38, .iconst 0, 1), (39, .iadd, 1), (40, .iastore, 1), (41, .iload_n 3, 1), (42, .iload_n 2, 1), (43, .if_icmp .ge 15, 3), (46, .aload_n 0, 1), (47, .getfield 16, 3), (50, .iload_n 1, 1), (51, .dup2, 1), (52, .iaload, 1), (53, .iload_n 2, 1), (54, .iload_n 3, 1), (55, .isub, 1), (56, .iadd, 1), (57, .iastore, 1), (58, .iconst 1, 1), (59, .ireturn, 1)]
set_option maxRecDepth 100000 in
theorem pg31_ok : ∀ q ∈ pg31, decode prog_1_method_32_code q.1 = .ok (q.2.1, q.2.2) := by decide +kernel
def pg12 : ab_PG := [(0, .aload_n 0, 1), (1, .getfield 25, 3), (4, .iconst 0, 1), (5, .aaload, 1), (6, .getfield 98, 3), (9, .iconst 4, 1), (10, .irem, 1), (11, .ireturn, 1)]
set_option maxRecDepth 100000 in
theorem pg12_ok : ∀ q ∈ pg12, decode prog_1_method_13_code q.1 = .ok (q.2.1, q.2.2) := by decide +kernel
def pg126 : ab_PG := [(0, .aload_n 0, 1), (1, .getfield 11, 3), (4, .iload_n 1, 1), (5, .sipush 252, 3), (8, .iand, 1), (9, .iconst 2, 1), (10, .iadd, 1), (11, .iaload, 1), (12, .bipush 64, 2), (14, .idiv, 1), (15, .iconst 2, 1), (16, .irem, 1), (17, .iconst 1, 1), (18, .if_icmp .ne 7, 3), (21, .iconst 1, 1), (22, .goto 4, 3), (25, .iconst 0, 1), (26, .ireturn, 1)]
set_option maxRecDepth 100000 in
theorem pg126_ok : ∀ q ∈ pg126, decode prog_3_method_13_code q.1 = .ok (q.2.1, q.2.2) := by decide +kernel
def pg128 : ab_PG := [(0, .iload_n 1, 1), (1, .sipush 252, 3), (4, .iand, 1), (5, .iconst 2, 1), (6, .iadd, 1), (7, .istore_n 3, 1), (8, .aload_n 0, 1), (9, .getfield 11, 3), (12, .iload_n 3, 1), (13, .aload_n 0, 1), (14, .getfield 11, 3), (17, .iload_n 3, 1), (18, .iaload, 1), (19, .aload_n 0, 1), (20, .getfield 11, 3), (23, .iload_n 3, 1), (24, .iaload, 1), (25, .bipush 16, 2), (27, .irem, 1), (28, .isub, 1), (29, .iload_n 2, 1), (30, .iadd, 1), (31, .iastore, 1), (32, .return_, 1)]
set_option maxRecDepth 100000 in
theorem pg128_ok : ∀ q ∈ pg128, decode prog_3_method_15_code q.1 = .ok (q.2.1, q.2.2) := by decide +kernel
def pg34 : ab_PG := [(0, .aload_n 0, 1), (1, .invokevirtual 85, 3), (4, .ifCond .eq 11, 3), (7, .aload_n 0, 1), (8, .bipush 13, 2), (10, .iconst 0, 1), (11, .invokevirtual 153, 3), (14, .ireturn, 1), (15, .aload_n 0, 1), (16, .getfield 10, 3), (19, .iload_n 1, 1), (20, .invokevirtual 61, 3), (23, .bipush 7, 2), (25, .if_icmp .eq 11, 3), (28, .aload_n 0, 1), (29, .bipush 13, 2), (31, .iload_n 1, 1), (32, .invokevirtual 153, 3), (35, .ireturn, 1), (36, .aload_n 0, 1), (37, .getfield 10, 3), (40, .iload_n 1, 1), (41, .invokevirtual 251, 3), (44, .ifCond .ne 11, 3), (47, .aload_n 0, 1), (48, .bipush 11, 2), (50, .iload_n 1, 1), (51, .invokevirtual 153, 3), (54, .ireturn, 1), (55, .aload_n 0, 1), (56, .getfield 10, 3), (59, .iload_n 1, 1), (60, .bipush 8, 2), (62, .invokevirtual 254, 3), (65, .aload_n 0, 1), (66, .getfield 25, 3), (69, .iconst 4, 1), (70, .aaload, 1), (71, .aload_n 0, 1), (72, .getfield 10, 3), (75, .iload_n 1, 1), (76, .invokevirtual 67, 3), (79, .iconst 1, 1), (80, .ireturn, 1)]
set_option maxRecDepth 100000 in
theorem pg34_ok : ∀ q ∈ pg34, decode prog_1_method_35_code q.1 = .ok (q.2.1, q.2.2) := by decide +kernel
def pg18 : ab_PG := [(0, .iload_n 2, 1), (1, .invokestatic 150, 3), (4, .istore_n 3, 1), (5, .aload_n 1, 1), (6, .getfield 107, 3), (9, .ifCond .eq 11, 3), (12, .aload_n 1, 1), (13, .getfield 107, 3), (16, .iconst 3, 1), (17, .if_icmp .ne 13, 3), (20, .aload_n 0, 1), (21, .bipush 13, 2), (23, .iconst 0, 1), (24, .invokevirtual 153, 3), (27, .pop, 1), (28, .iconst (-1), 1), (29, .ireturn, 1), (30, .iload_n 3, 1), (31, .aload_n 1, 1), (32, .getfield 104, 3), (35, .if_icmp .le 15, 3), (38, .aload_n 0, 1), (39, .aload_n 1, 1), (40, .getfield 157, 3), (43, .iconst 0, 1), (44, .invokevirtual 153, 3), (47, .pop, 1), (48, .iconst (-1), 1), (49, .ireturn, 1), (50, .aload_n 0, 1), (51, .getfield 10, 3), (54, .aload_n 1, 1), (55, .getfield 101, 3), (58, .iload_n 3, 1), (59, .iadd, 1), (60, .invokevirtual 57, 3), (63, .ireturn, 1)]
set_option maxRecDepth 100000 in
theorem pg18_ok : ∀ q ∈ pg18, decode prog_1_method_19_code q.1 = .ok (q.2.1, q.2.2) := by decide +kernel
def pg21 : ab_PG := [(0, .aload_n 0, 1), (1, .aload_n 0, 1), (2, .getfield 25, 3), (5, .iconst 3, 1), (6, .aaload, 1), (7, .aload_n 0, 1), (8, .getfield 16, 3), (11, .iconst 4, 1), (12, .iaload, 1), (13, .invokevirtual 164, 3), (16, .istore_n 1, 1), (17, .iload_n 1, 1), (18, .iconst (-1), 1), (19, .if_icmp .eq 20, 3), (22, .aload_n 0, 1), (23, .getfield 16, 3), (26, .iconst 4, 1), (27, .aload_n 0, 1), (28, .getfield 16, 3), (31, .iconst 4, 1), (32, .iaload, 1), (33, .iconst 1, 1), (34, .iadd, 1), (35, .invokestatic 150, 3), (38, .iastore, 1), (39, .iload_n 1, 1), (40, .ireturn, 1)]
set_option maxRecDepth 100000 in
theorem pg21_ok : ∀ q ∈ pg21, decode prog_1_method_22_code q.1 = .ok (q.2.1, q.2.2) := by decide +kernel
def pg11 : ab_PG := [(0, .iload_n 0, 1), (1, .iconst 3, 1), (2, .if_icmp .lt 12, 3), (5, .iload_n 0, 1), (6, .iconst 5, 1), (7, .if_icmp .gt 7, 3), (10, .iconst 1, 1), (11, .goto 4, 3), (14, .iconst 0, 1), (15, .ireturn, 1)]
set_option maxRecDepth 100000 in
theorem pg11_ok : ∀ q ∈ pg11, decode prog_1_method_12_code q.1 = .ok (q.2.1, q.2.2) := by decide +kernel
def pg35 : ab_PG := [(0, .aload_n 0, 1), (1, .getfield 10, 3), (4, .iload_n 1, 1), (5, .invokevirtual 61, 3), (8, .istore 4, 2), (10, .iload 4, 2), (12, .invokestatic 226, 3), (15, .ifCond .ne 11, 3), (18, .aload_n 0, 1), (19, .bipush 13, 2), (21, .iload_n 1, 1), (22, .invokevirtual 153, 3), (25, .ireturn, 1), (26, .aload_n 0, 1), (27, .getfield 10, 3), (30, .iload_n 1, 1), (31, .invokevirtual 249, 3), (34, .istore 5, 2), (36, .iload 4, 2), (38, .iconst 5, 1), (39, .if_icmp .ne 12, 3), (42, .iload 5, 2), (44, .iload_n 3, 1), (45, .if_icmp .le 20, 3), (48, .goto 9, 3), (51, .iload 5, 2), (53, .iload_n 3, 1), (54, .if_icmp .eq 11, 3), (57, .aload_n 0, 1), (58, .bipush 13, 2), (60, .iload_n 1, 1), (61, .invokevirtual 153, 3), (64, .ireturn, 1), (65, .aload_n 0, 1), (66, .getfield 10, 3), (69, .iload_n 1, 1), (70, .invokevirtual 251, 3), (73, .ifCond .ne 11, 3), (76, .aload_n 0, 1), (77, .bipush 11, 2), (79, .iload_n 1, 1), (80, .invokevirtual 153, 3), (83, .ireturn, 1), (84, .iload_n 2, 1), (85, .aload_n 0, 1), (86, .getfield 10, 3), (89, .iload_n 1, 1), (90, .invokevirtual 257, 3), (93, .if_icmp .le 13, 3), (96, .aload_n 0, 1), (97, .bipush 13, 2), (99, .iconst 0, 1), (100, .invokevirtual 153, 3), (103, .ifCond .eq 7, 3), (106, .iconst 1, 1), (107, .goto 4, 3), (110, .iconst 0, 1), (111, .ireturn, 1)]
set_option maxRecDepth 100000 in
theorem pg35_ok : ∀ q ∈ pg35, decode prog_1_method_36_code q.1 = .ok (q.2.1, q.2.2) := by decide +kernel
def pg36 : ab_PG := [(0, .aload_n 0, 1), (1, .iload_n 1, 1), (2, .iload_n 2, 1), (3, .iload_n 3, 1), (4, .invokevirtual 260, 3), (7, .ifCond .ne 5, 3), (10, .iconst 0, 1), (11, .ireturn, 1), (12, .aload_n 0, 1), (13, .getfield 25, 3), (16, .iconst 0, 1), (17, .aaload, 1), (18, .aload_n 0, 1), (19, .getfield 10, 3), (22, .iload_n 1, 1), (23, .iload_n 1, 1), (24, .iconst 4, 1), (25, .irem, 1), (26, .isub, 1), (27, .iload_n 3, 1), (28, .iadd, 1), (29, .invokevirtual 67, 3), (32, .aload_n 0, 1), (33, .getfield 16, 3), (36, .iconst 5, 1), (37, .iload_n 2, 1), (38, .iastore, 1), (39, .iconst 1, 1), (40, .ireturn, 1)]
set_option maxRecDepth 100000 in
theorem pg36_ok : ∀ q ∈ pg36, decode prog_1_method_37_code q.1 = .ok (q.2.1, q.2.2) := by decide +kernel
def pg33 : ab_PG := [(0, .aload_n 0, 1), (1, .invokevirtual 85, 3), (4, .istore_n 2, 1), (5, .aload_n 0, 1), (6, .getfield 10, 3), (9, .iload_n 1, 1), (10, .invokevirtual 61, 3), (13, .iconst 2, 1), (14, .if_icmp .ne 22, 3), (17, .iload_n 1, 1), (18, .iconst 4, 1), (19, .irem, 1), (20, .iload_n 2, 1), (21, .if_icmp .ne 15, 3), (24, .aload_n 0, 1), (25, .getfield 10, 3), (28, .iload_n 1, 1), (29, .invokevirtual 249, 3), (32, .iload_n 2, 1), (33, .if_icmp .eq 11, 3), (36, .aload_n 0, 1), (37, .bipush 13, 2), (39, .iload_n 1, 1), (40, .invokevirtual 153, 3), (43, .ireturn, 1), (44, .aload_n 0, 1), (45, .getfield 10, 3), (48, .iload_n 1, 1), (49, .invokevirtual 251, 3), (52, .ifCond .ne 11, 3), (55, .aload_n 0, 1), (56, .bipush 12, 2), (58, .iload_n 1, 1), (59, .invokevirtual 153, 3), (62, .ireturn, 1), (63, .aload_n 0, 1), (64, .getfield 25, 3), (67, .iconst 3, 1), (68, .aaload, 1), (69, .aload_n 0, 1), (70, .getfield 10, 3), (73, .iload_n 1, 1), (74, .invokevirtual 67, 3), (77, .iconst 1, 1), (78, .ireturn, 1)]
set_option maxRecDepth 100000 in
theorem pg33_ok : ∀ q ∈ pg33, decode prog_1_method_34_code q.1 = .ok (q.2.1, q.2.2) := by decide +kernel
def pg46 : ab_PG := [(0, .aload_n 1, 1), (1, .getfield 110, 3), (4, .aload_n 0, 1), (5, .invokevirtual 85, 3), (8, .if_icmp .ge 15, 3), (11, .aload_n 1, 1), (12, .getfield 107, 3), (15, .iconst 5, 1), (16, .if_icmp .eq 7, 3), (19, .aload_n 1, 1), (20, .invokevirtual 64, 3), (23, .return_, 1)]
set_option maxRecDepth 100000 in
theorem pg46_ok : ∀ q ∈ pg46, decode prog_1_method_47_code q.1 = .ok (q.2.1, q.2.2) := by decide +kernel
def pg45 : ab_PG := [(0, .aload_n 0, 1), (1, .invokevirtual 216, 3), (4, .istore 4, 2), (6, .aload_n 0, 1), (7, .invokevirtual 216, 3), (10, .istore 5, 2), (12, .iload 4, 2), (14, .iconst (-1), 1), (15, .if_icmp .eq 9, 3), (18, .iload 5, 2), (20, .iconst (-1), 1), (21, .if_icmp .ne 5, 3), (24, .iconst 0, 1), (25, .ireturn, 1), (26, .aload_n 0, 1), (27, .iload_n 1, 1), (28, .iload_n 2, 1), (29, .iload_n 1, 1), (30, .iconst 4, 1), (31, .irem, 1), (32, .invokevirtual 264, 3), (35, .ifCond .eq 12, 3), (38, .aload_n 0, 1), (39, .iload 5, 2), (41, .invokevirtual 219, 3), (44, .ifCond .ne 5, 3), (47, .iconst 0, 1), (48, .ireturn, 1), (49, .aload_n 0, 1), (50, .getfield 16, 3), (53, .iconst 4, 1), (54, .iload 4, 2), (56, .iload_n 3, 1), (57, .iadd, 1), (58, .invokestatic 150, 3), (61, .iastore, 1), (62, .aload_n 0, 1), (63, .aload_n 0, 1), (64, .getfield 25, 3), (67, .iconst 1, 1), (68, .aaload, 1), (69, .invokevirtual 291, 3), (72, .aload_n 0, 1), (73, .aload_n 0, 1), (74, .getfield 25, 3), (77, .iconst 2, 1), (78, .aaload, 1), (79, .invokevirtual 291, 3), (82, .iconst 1, 1), (83, .ireturn, 1)]
set_option maxRecDepth 100000 in
theorem pg45_ok : ∀ q ∈ pg45, decode prog_1_method_46_code q.1 = .ok (q.2.1, q.2.2) := by decide +kernel
def pg44 : ab_PG := [(0, .aload_n 0, 1), (1, .invokevirtual 216, 3), (4, .istore_n 3, 1), (5, .aload_n 0, 1), (6, .invokevirtual 216, 3), (9, .istore 4, 2), (11, .iload_n 2, 1), (12, .ifCond .eq 10, 3), (15, .aload_n 0, 1), (16, .invokevirtual 216, 3), (19, .goto 10, 3), (22, .aload_n 0, 1), (23, .getfield 16, 3), (26, .bipush 6, 2), (28, .iaload, 1), (29, .istore 5, 2), (31, .iload_n 3, 1), (32, .iconst (-1), 1), (33, .if_icmp .eq 15, 3), (36, .iload 4, 2), (38, .iconst (-1), 1), (39, .if_icmp .eq 9, 3), (42, .iload 5, 2), (44, .iconst (-1), 1), (45, .if_icmp .ne 5, 3), (48, .iconst 0, 1), (49, .ireturn, 1), (50, .aload_n 0, 1), (51, .getfield 16, 3), (54, .bipush 6, 2), (56, .iload 5, 2), (58, .bipush 7, 2), (60, .iand, 1), (61, .iastore, 1), (62, .iload 4, 2), (64, .iconst 4, 1), (65, .irem, 1), (66, .istore 6, 2), (68, .iload 6, 2), (70, .aload_n 0, 1), (71, .invokevirtual 85, 3), (74, .if_icmp .ge 12, 3), (77, .aload_n 0, 1), (78, .bipush 13, 2), (80, .iload 4, 2), (82, .invokevirtual 153, 3), (85, .ireturn, 1), (86, .aload_n 0, 1), (87, .getfield 16, 3), (90, .iconst 4, 1), (91, .aload_n 0, 1), (92, .getfield 16, 3), (95, .iconst 4, 1), (96, .iaload, 1), (97, .iload_n 1, 1), (98, .iadd, 1), (99, .invokestatic 150, 3), (102, .iastore, 1), (103, .iload 6, 2), (105, .aload_n 0, 1), (106, .invokevirtual 85, 3), (109, .if_icmp .ne 15, 3), (112, .aload_n 0, 1), (113, .iload 4, 2), (115, .iload_n 3, 1), (116, .iload 6, 2), (118, .invokevirtual 264, 3), (121, .goto 11, 3), (124, .aload_n 0, 1), (125, .iload 4, 2), (127, .iload_n 3, 1), (128, .iload_n 1, 1), (129, .invokevirtual 288, 3), (132, .ireturn, 1)]
set_option maxRecDepth 100000 in
theorem pg44_ok : ∀ q ∈ pg44, decode prog_1_method_45_code q.1 = .ok (q.2.1, q.2.2) := by decide +kernel
def pg49 : ab_PG := [(0, .aload_n 0, 1), (1, .getfield 25, 3), (4, .iconst 4, 1), (5, .aaload, 1), (6, .astore_n 3, 1), (7, .iload_n 1, 1), (8, .aload_n 3, 1), (9, .getfield 104, 3), (12, .if_icmp .gt 17, 3), (15, .aload_n 0, 1), (16, .getfield 10, 3), (19, .aload_n 3, 1), (20, .getfield 101, 3), (23, .iload_n 1, 1), (24, .iadd, 1), (25, .iload_n 2, 1), (26, .invokevirtual 53, 3), (29, .return_, 1)]
set_option maxRecDepth 100000 in
theorem pg49_ok : ∀ q ∈ pg49, decode prog_1_method_50_code q.1 = .ok (q.2.1, q.2.2) := by decide +kernel
def pg48 : ab_PG := [(0, .iload_n 1, 1), (1, .iconst 2, 1), (2, .if_icmp .ne 7, 3), (5, .iconst 4, 1), (6, .goto 4, 3), (9, .iconst 0, 1), (10, .istore_n 2, 1), (11, .aload_n 0, 1), (12, .bipush 7, 2), (14, .aload_n 0, 1), (15, .getfield 16, 3), (18, .iconst 5, 1), (19, .iaload, 1), (20, .invokevirtual 300, 3), (23, .aload_n 0, 1), (24, .bipush 8, 2), (26, .aload_n 0, 1), (27, .getfield 16, 3), (30, .bipush 6, 2), (32, .iaload, 1), (33, .iload_n 2, 1), (34, .iconst (-1), 1), (35, .ixor, 1), (36, .iand, 1), (37, .invokevirtual 300, 3), (40, .iconst 0, 1), (41, .istore_n 3, 1), (42, .iload_n 3, 1), (43, .iconst 4, 1), (44, .if_icmp .gt 23, 3), (47, .aload_n 0, 1), (48, .bipush 9, 2), (50, .iload_n 3, 1), (51, .iadd, 1), (52, .aload_n 0, 1), (53, .getfield 16, 3), (56, .iload_n 3, 1), (57, .iaload, 1), (58, .invokevirtual 300, 3), (61, .iinc 3 1, 3), (64, .goto (-22), 3), (67, .iconst 0, 1), (68, .istore_n 3, 1), (69, .iload_n 3, 1), (70, .iconst 3, 1), (71, .if_icmp .gt 26, 3), (74, .aload_n 0, 1), (75, .bipush 14, 2), (77, .iload_n 3, 1), (78, .iadd, 1), (79, .aload_n 0, 1), (80, .getfield 25, 3), (83, .iload_n 3, 1), (84, .aaload, 1), (85, .getfield 98, 3), (88, .invokevirtual 300, 3), (91, .iinc 3 1, 3), (94, .goto (-25), 3), (97, .return_, 1)]
set_option maxRecDepth 100000 in
theorem pg48_ok : ∀ q ∈ pg48, decode prog_1_method_49_code q.1 = .ok (q.2.1, q.2.2) := by decide +kernel
def pg32 : ab_PG := [(0, .iload_n 2, 1), (1, .iconst 4, 1), (2, .if_icmp .ge 9, 3), (5, .aload_n 1, 1), (6, .invokevirtual 64, 3), (9, .iconst 1, 1), (10, .ireturn, 1), (11, .aload_n 0, 1), (12, .getfield 10, 3), (15, .iload_n 2, 1), (16, .invokevirtual 61, 3), (19, .istore_n 3, 1), (20, .iload_n 3, 1), (21, .iconst 1, 1), (22, .if_icmp .eq 26, 3), (25, .iload_n 3, 1), (26, .iconst 2, 1), (27, .if_icmp .eq 21, 3), (30, .iload_n 3, 1), (31, .iconst 4, 1), (32, .if_icmp .eq 16, 3), (35, .iload_n 3, 1), (36, .iconst 5, 1), (37, .if_icmp .eq 11, 3), (40, .aload_n 0, 1), (41, .bipush 13, 2), (43, .iload_n 2, 1), (44, .invokevirtual 153, 3), (47, .ireturn, 1), (48, .aload_n 0, 1), (49, .getfield 10, 3), (52, .iload_n 2, 1), (53, .invokevirtual 249, 3), (56, .istore 4, 2), (58, .iload_n 3, 1), (59, .iconst 5, 1), (60, .if_icmp .eq 28, 3), (63, .iload 4, 2), (65, .aload_n 0, 1), (66, .invokevirtual 85, 3), (69, .if_icmp .lt 11, 3), (72, .iload 4, 2), (74, .iload_n 2, 1), (75, .iconst 4, 1), (76, .irem, 1), (77, .if_icmp .ge 11, 3), (80, .aload_n 0, 1), (81, .bipush 13, 2), (83, .iload_n 2, 1), (84, .invokevirtual 153, 3), (87, .ireturn, 1), (88, .aload_n 0, 1), (89, .getfield 10, 3), (92, .iload_n 2, 1), (93, .invokevirtual 251, 3), (96, .ifCond .ne 11, 3), (99, .aload_n 0, 1), (100, .bipush 11, 2), (102, .iload_n 2, 1), (103, .invokevirtual 153, 3), (106, .ireturn, 1), (107, .aload_n 1, 1), (108, .aload_n 0, 1), (109, .getfield 10, 3), (112, .iload_n 2, 1), (113, .invokevirtual 67, 3), (116, .iconst 1, 1), (117, .ireturn, 1)]
set_option maxRecDepth 100000 in
theorem pg32_ok : ∀ q ∈ pg32, decode prog_1_method_33_code q.1 = .ok (q.2.1, q.2.2) := by decide +kernel
def pg50 : ab_PG := [(0, .aload_n 0, 1), (1, .getfield 25, 3), (4, .iconst 4, 1), (5, .aaload, 1), (6, .getfield 101, 3), (9, .istore_n 2, 1), (10, .iload_n 1, 1), (11, .iconst 1, 1), (12, .if_icmp .ne 7, 3), (15, .iconst 4, 1), (16, .goto 4, 3), (19, .iconst 0, 1), (20, .istore_n 3, 1), (21, .aload_n 0, 1), (22, .getfield 16, 3), (25, .bipush 6, 2), (27, .aload_n 0, 1), (28, .getfield 10, 3), (31, .iload_n 2, 1), (32, .bipush 8, 2), (34, .iadd, 1), (35, .invokevirtual 57, 3), (38, .bipush 7, 2), (40, .iand, 1), (41, .iload_n 3, 1), (42, .ior, 1), (43, .iastore, 1), (44, .iconst 0, 1), (45, .istore 4, 2), (47, .iload 4, 2), (49, .iconst 4, 1), (50, .if_icmp .gt 30, 3), (53, .aload_n 0, 1), (54, .getfield 16, 3), (57, .iload 4, 2), (59, .aload_n 0, 1), (60, .getfield 10, 3), (63, .iload_n 2, 1), (64, .bipush 9, 2), (66, .iadd, 1), (67, .iload 4, 2), (69, .iadd, 1), (70, .invokevirtual 57, 3), (73, .iastore, 1), (74, .iinc 4 1, 3), (77, .goto (-30), 3), (80, .aload_n 0, 1), (81, .getfield 10, 3), (84, .iload_n 2, 1), (85, .bipush 14, 2), (87, .iadd, 1), (88, .invokevirtual 57, 3), (91, .istore 4, 2), (93, .aload_n 0, 1), (94, .iload 4, 2), (96, .aload_n 0, 1), (97, .getfield 10, 3), (100, .iload_n 2, 1), (101, .bipush 7, 2), (103, .iadd, 1), (104, .invokevirtual 57, 3), (107, .iload 4, 2), (109, .iconst 4, 1), (110, .irem, 1), (111, .invokevirtual 264, 3), (114, .ifCond .eq 73, 3), (117, .aload_n 0, 1), (118, .aload_n 0, 1), (119, .getfield 10, 3), (122, .iload_n 2, 1), (123, .bipush 17, 2), (125, .iadd, 1), (126, .invokevirtual 57, 3), (129, .invokevirtual 219, 3), (132, .ifCond .eq 55, 3), (135, .aload_n 0, 1), (136, .aload_n 0, 1), (137, .getfield 25, 3), (140, .iconst 1, 1), (141, .aaload, 1), (142, .aload_n 0, 1), (143, .getfield 10, 3), (146, .iload_n 2, 1), (147, .bipush 15, 2), (149, .iadd, 1), (150, .invokevirtual 57, 3), (153, .invokevirtual 222, 3), (156, .ifCond .eq 31, 3), (159, .aload_n 0, 1), (160, .aload_n 0, 1), (161, .getfield 25, 3), (164, .iconst 2, 1), (165, .aaload, 1), (166, .aload_n 0, 1), (167, .getfield 10, 3), (170, .iload_n 2, 1), (171, .bipush 16, 2), (173, .iadd, 1), (174, .invokevirtual 57, 3), (177, .invokevirtual 222, 3), (180, .ifCond .eq 7, 3), (183, .iconst 1, 1), (184, .goto 4, 3), (187, .iconst 0, 1), (188, .ireturn, 1)]
set_option maxRecDepth 100000 in
theorem pg50_ok : ∀ q ∈ pg50, decode prog_1_method_51_code q.1 = .ok (q.2.1, q.2.2) := by decide +kernel
def pg47 : ab_PG := [(0, .aload_n 0, 1), (1, .getfield 10, 3), (4, .iload_n 1, 1), (5, .invokevirtual 61, 3), (8, .iload_n 2, 1), (9, .iconst 2, 1), (10, .if_icmp .ne 8, 3), (13, .bipush 8, 2), (15, .goto 5, 3), (18, .bipush 7, 2), (20, .if_icmp .eq 11, 3), (23, .aload_n 0, 1), (24, .bipush 13, 2), (26, .iload_n 1, 1), (27, .invokevirtual 153, 3), (30, .ireturn, 1), (31, .aload_n 0, 1), (32, .getfield 10, 3), (35, .iload_n 1, 1), (36, .invokevirtual 251, 3), (39, .ifCond .ne 11, 3), (42, .aload_n 0, 1), (43, .bipush 11, 2), (45, .iload_n 1, 1), (46, .invokevirtual 153, 3), (49, .ireturn, 1), (50, .aload_n 0, 1), (51, .getfield 10, 3), (54, .iload_n 1, 1), (55, .invokevirtual 257, 3), (58, .bipush 17, 2), (60, .if_icmp .ge 11, 3), (63, .aload_n 0, 1), (64, .bipush 10, 2), (66, .iload_n 1, 1), (67, .invokevirtual 153, 3), (70, .ireturn, 1), (71, .aload_n 0, 1), (72, .getfield 25, 3), (75, .iconst 4, 1), (76, .aaload, 1), (77, .astore_n 3, 1), (78, .aload_n 3, 1), (79, .getfield 107, 3), (82, .ifCond .ne 11, 3), (85, .aload_n 0, 1), (86, .bipush 10, 2), (88, .iconst 0, 1), (89, .invokevirtual 153, 3), (92, .ireturn, 1), (93, .aload_n 0, 1), (94, .iload_n 2, 1), (95, .invokevirtual 294, 3), (98, .aload_n 3, 1), (99, .getfield 98, 3), (102, .istore 4, 2), (104, .iload_n 2, 1), (105, .iconst 1, 1), (106, .if_icmp .eq 14, 3), (109, .aload_n 0, 1), (110, .getfield 10, 3), (113, .iload 4, 2), (115, .bipush 7, 2), (117, .invokevirtual 254, 3), (120, .aload_n 0, 1), (121, .getfield 10, 3), (124, .iload_n 1, 1), (125, .bipush 8, 2), (127, .invokevirtual 254, 3), (130, .aload_n 3, 1), (131, .aload_n 0, 1), (132, .getfield 10, 3), (135, .iload_n 1, 1), (136, .invokevirtual 67, 3), (139, .iload_n 2, 1), (140, .iconst 1, 1), (141, .if_icmp .ne 16, 3), (144, .aload_n 0, 1), (145, .getfield 10, 3), (148, .aload_n 3, 1), (149, .getfield 101, 3), (152, .iload 4, 2), (154, .invokevirtual 53, 3), (157, .aload_n 0, 1), (158, .iload_n 2, 1), (159, .invokevirtual 297, 3), (162, .ireturn, 1)]
set_option maxRecDepth 100000 in
theorem pg47_ok : ∀ q ∈ pg47, decode prog_1_method_48_code q.1 = .ok (q.2.1, q.2.2) := by decide +kernel
def pg43 : ab_PG := [(0, .aload_n 0, 1), (1, .getfield 16, 3), (4, .bipush 6, 2), (6, .iaload, 1), (7, .iconst 4, 1), (8, .iand, 1), (9, .ifCond .ne 10, 3), (12, .aload_n 0, 1), (13, .iconst 0, 1), (14, .iconst 1, 1), (15, .invokevirtual 236, 3), (18, .ireturn, 1), (19, .aload_n 0, 1), (20, .getfield 25, 3), (23, .iconst 4, 1), (24, .aaload, 1), (25, .astore_n 1, 1), (26, .aload_n 1, 1), (27, .getfield 107, 3), (30, .ifCond .ne 11, 3), (33, .aload_n 0, 1), (34, .bipush 10, 2), (36, .iconst 0, 1), (37, .invokevirtual 153, 3), (40, .ireturn, 1), (41, .aload_n 0, 1), (42, .aload_n 0, 1), (43, .getfield 10, 3), (46, .aload_n 1, 1), (47, .getfield 101, 3), (50, .invokevirtual 57, 3), (53, .iconst 2, 1), (54, .invokevirtual 270, 3), (57, .ireturn, 1)]
set_option maxRecDepth 100000 in
theorem pg43_ok : ∀ q ∈ pg43, decode prog_1_method_44_code q.1 = .ok (q.2.1, q.2.2) := by decide +kernel
def pg19 : ab_PG := [(0, .iload_n 2, 1), (1, .invokestatic 150, 3), (4, .istore 4, 2), (6, .aload_n 1, 1), (7, .getfield 107, 3), (10, .iconst 2, 1), (11, .if_icmp .eq 11, 3), (14, .aload_n 0, 1), (15, .bipush 13, 2), (17, .iconst 0, 1), (18, .invokevirtual 153, 3), (21, .ireturn, 1), (22, .iload 4, 2), (24, .aload_n 1, 1), (25, .getfield 104, 3), (28, .if_icmp .le 13, 3), (31, .aload_n 0, 1), (32, .aload_n 1, 1), (33, .getfield 157, 3), (36, .iconst 0, 1), (37, .invokevirtual 153, 3), (40, .ireturn, 1), (41, .aload_n 0, 1), (42, .getfield 10, 3), (45, .aload_n 1, 1), (46, .getfield 101, 3), (49, .iload 4, 2), (51, .iadd, 1), (52, .iload_n 3, 1), (53, .invokevirtual 53, 3), (56, .iconst 1, 1), (57, .ireturn, 1)]
set_option maxRecDepth 100000 in
theorem pg19_ok : ∀ q ∈ pg19, decode prog_1_method_20_code q.1 = .ok (q.2.1, q.2.2) := by decide +kernel
def pg20 : ab_PG := [(0, .aload_n 0, 1), (1, .getfield 16, 3), (4, .iconst 4, 1), (5, .aload_n 0, 1), (6, .getfield 16, 3), (9, .iconst 4, 1), (10, .iaload, 1), (11, .iconst 1, 1), (12, .isub, 1), (13, .invokestatic 150, 3), (16, .iastore, 1), (17, .aload_n 0, 1), (18, .aload_n 0, 1), (19, .getfield 25, 3), (22, .iconst 3, 1), (23, .aaload, 1), (24, .aload_n 0, 1), (25, .getfield 16, 3), (28, .iconst 4, 1), (29, .iaload, 1), (30, .iload_n 1, 1), (31, .invokevirtual 160, 3), (34, .ireturn, 1)]
set_option maxRecDepth 100000 in
theorem pg20_ok : ∀ q ∈ pg20, decode prog_1_method_21_code q.1 = .ok (q.2.1, q.2.2) := by decide +kernel
def pg41 : ab_PG := [(0, .aload_n 0, 1), (1, .getfield 25, 3), (4, .iconst 4, 1), (5, .aaload, 1), (6, .astore_n 2, 1), (7, .aload_n 2, 1), (8, .getfield 107, 3), (11, .ifCond .ne 11, 3), (14, .aload_n 0, 1), (15, .bipush 10, 2), (17, .iconst 0, 1), (18, .invokevirtual 153, 3), (21, .ireturn, 1), (22, .aload_n 0, 1), (23, .aload_n 2, 1), (24, .iconst 2, 1), (25, .iload_n 1, 1), (26, .imul, 1), (27, .iconst 1, 1), (28, .iadd, 1), (29, .invokevirtual 164, 3), (32, .istore_n 3, 1), (33, .iload_n 3, 1), (34, .iconst (-1), 1), (35, .if_icmp .ne 7, 3), (38, .iconst (-1), 1), (39, .goto 13, 3), (42, .aload_n 0, 1), (43, .aload_n 2, 1), (44, .iconst 2, 1), (45, .iload_n 1, 1), (46, .imul, 1), (47, .iconst 2, 1), (48, .iadd, 1), (49, .invokevirtual 164, 3), (52, .istore 4, 2), (54, .iload 4, 2), (56, .iconst (-1), 1), (57, .if_icmp .ne 5, 3), (60, .iconst 0, 1), (61, .ireturn, 1), (62, .aload_n 0, 1), (63, .getfield 10, 3), (66, .iload 4, 2), (68, .invokevirtual 61, 3), (71, .iconst 2, 1), (72, .if_icmp .ne 24, 3), (75, .iload 4, 2), (77, .iconst 4, 1), (78, .irem, 1), (79, .iload_n 1, 1), (80, .if_icmp .ne 16, 3), (83, .aload_n 0, 1), (84, .getfield 10, 3), (87, .iload 4, 2), (89, .invokevirtual 249, 3), (92, .iload_n 1, 1), (93, .if_icmp .eq 12, 3), (96, .aload_n 0, 1), (97, .bipush 10, 2), (99, .iload 4, 2), (101, .invokevirtual 153, 3), (104, .ireturn, 1), (105, .aload_n 0, 1), (106, .getfield 10, 3), (109, .iload 4, 2), (111, .invokevirtual 251, 3), (114, .ifCond .ne 12, 3), (117, .aload_n 0, 1), (118, .bipush 12, 2), (120, .iload 4, 2), (122, .invokevirtual 153, 3), (125, .ireturn, 1), (126, .aload_n 0, 1), (127, .getfield 16, 3), (130, .iconst 4, 1), (131, .iaload, 1), (132, .istore 5, 2), (134, .aload_n 0, 1), (135, .getfield 35, 3), (138, .aload_n 0, 1), (139, .getfield 25, 3), (142, .iconst 3, 1), (143, .aaload, 1), (144, .invokevirtual 123, 3), (147, .aload_n 0, 1), (148, .getfield 25, 3), (151, .iconst 3, 1), (152, .aaload, 1), (153, .aload_n 0, 1), (154, .getfield 10, 3), (157, .iload 4, 2), (159, .invokevirtual 67, 3), (162, .aload_n 0, 1), (163, .getfield 16, 3), (166, .iconst 4, 1), (167, .iload_n 3, 1), (168, .iastore, 1), (169, .aload_n 0, 1), (170, .aload_n 0, 1), (171, .getfield 35, 3), (174, .getfield 98, 3), (177, .invokevirtual 147, 3), (180, .ifCond .eq 16, 3), (183, .aload_n 0, 1), (184, .iload 5, 2), (186, .invokevirtual 147, 3), (189, .ifCond .eq 7, 3), (192, .iconst 1, 1), (193, .goto 4, 3), (196, .iconst 0, 1), (197, .ireturn, 1)]
set_option maxRecDepth 100000 in
theorem pg41_ok : ∀ q ∈ pg41, decode prog_1_method_42_code q.1 = .ok (q.2.1, q.2.2) := by decide +kernel
def pg42 : ab_PG := [(0, .iload_n 2, 1), (1, .iconst 1, 1), (2, .isub, 1), (3, .istore_n 3, 1), (4, .iload_n 3, 1), (5, .ifCond .lt 39, 3), (8, .aload_n 0, 1), (9, .aload_n 0, 1), (10, .getfield 35, 3), (13, .iload_n 1, 1), (14, .iload_n 3, 1), (15, .iadd, 1), (16, .invokevirtual 164, 3), (19, .istore 4, 2), (21, .iload 4, 2), (23, .iconst (-1), 1), (24, .if_icmp .eq 12, 3), (27, .aload_n 0, 1), (28, .iload 4, 2), (30, .invokevirtual 147, 3), (33, .ifCond .ne 5, 3), (36, .iconst 0, 1), (37, .ireturn, 1), (38, .iinc 3 (-1), 3), (41, .goto (-37), 3), (44, .iconst 1, 1), (45, .ireturn, 1)]
set_option maxRecDepth 100000 in
theorem pg42_ok : ∀ q ∈ pg42, decode prog_1_method_43_code q.1 = .ok (q.2.1, q.2.2) := by decide +kernel
def pg40 : ab_PG := [(0, .aload_n 0, 1), (1, .getfield 10, 3), (4, .iload_n 1, 1), (5, .invokevirtual 61, 3), (8, .istore 5, 2), (10, .iload 5, 2), (12, .invokestatic 226, 3), (15, .ifCond .ne 11, 3), (18, .aload_n 0, 1), (19, .bipush 13, 2), (21, .iload_n 1, 1), (22, .invokevirtual 153, 3), (25, .ireturn, 1), (26, .aload_n 0, 1), (27, .invokevirtual 85, 3), (30, .istore 6, 2), (32, .aload_n 0, 1), (33, .getfield 10, 3), (36, .iload_n 1, 1), (37, .invokevirtual 249, 3), (40, .istore 7, 2), (42, .iload 5, 2), (44, .iconst 5, 1), (45, .if_icmp .eq 54, 3), (48, .iload 7, 2), (50, .iload 6, 2), (52, .if_icmp .ge 47, 3), (55, .iload 7, 2), (57, .istore 6, 2), (59, .aload_n 0, 1), (60, .getfield 16, 3), (63, .iconst 4, 1), (64, .iaload, 1), (65, .istore 8, 2), (67, .aload_n 0, 1), (68, .iload_n 1, 1), (69, .iload_n 2, 1), (70, .iload 6, 2), (72, .invokevirtual 260, 3), (75, .ifCond .eq 22, 3), (78, .aload_n 0, 1), (79, .iload 6, 2), (81, .invokevirtual 282, 3), (84, .ifCond .eq 13, 3), (87, .aload_n 0, 1), (88, .iload 8, 2), (90, .iload_n 3, 1), (91, .invokevirtual 285, 3), (94, .ifCond .ne 5, 3), (97, .iconst 0, 1), (98, .ireturn, 1), (99, .iload 4, 2), (101, .ifCond .eq 19, 3), (104, .aload_n 0, 1), (105, .aload_n 0, 1), (106, .getfield 16, 3), (109, .bipush 6, 2), (111, .iaload, 1), (112, .invokevirtual 147, 3), (115, .ifCond .ne 5, 3), (118, .iconst 0, 1), (119, .ireturn, 1), (120, .aload_n 0, 1), (121, .aload_n 0, 1), (122, .getfield 25, 3), (125, .iconst 0, 1), (126, .aaload, 1), (127, .getfield 98, 3), (130, .invokevirtual 147, 3), (133, .ifCond .eq 31, 3), (136, .aload_n 0, 1), (137, .aload_n 0, 1), (138, .getfield 16, 3), (141, .iconst 5, 1), (142, .iaload, 1), (143, .invokevirtual 147, 3), (146, .ifCond .eq 18, 3), (149, .aload_n 0, 1), (150, .iload_n 1, 1), (151, .iload_n 2, 1), (152, .iload 6, 2), (154, .invokevirtual 264, 3), (157, .ifCond .eq 7, 3), (160, .iconst 1, 1), (161, .goto 4, 3), (164, .iconst 0, 1), (165, .ireturn, 1)]
set_option maxRecDepth 100000 in
theorem pg40_ok : ∀ q ∈ pg40, decode prog_1_method_41_code q.1 = .ok (q.2.1, q.2.2) := by decide +kernel
def pg39 : ab_PG := [(0, .iconst 4, 1), (1, .bipush 32, 2), (3, .iload_n 1, 1), (4, .iadd, 1), (5, .imul, 1), (6, .istore_n 3, 1), (7, .iload_n 1, 1), (8, .bipush 16, 2), (10, .if_icmp .lt 11, 3), (13, .aload_n 0, 1), (14, .bipush 13, 2), (16, .iload_n 3, 1), (17, .invokevirtual 153, 3), (20, .ireturn, 1), (21, .aload_n 0, 1), (22, .getfield 10, 3), (25, .iload_n 3, 1), (26, .invokevirtual 280, 3), (29, .istore 4, 2), (31, .iload 4, 2), (33, .bipush 9, 2), (35, .if_icmp .eq 18, 3), (38, .iload 4, 2), (40, .bipush 10, 2), (42, .if_icmp .eq 11, 3), (45, .aload_n 0, 1), (46, .bipush 13, 2), (48, .iload_n 3, 1), (49, .invokevirtual 153, 3), (52, .ireturn, 1), (53, .iload_n 2, 1), (54, .ifCond .eq 26, 3), (57, .aload_n 0, 1), (58, .getfield 10, 3), (61, .iload_n 3, 1), (62, .invokevirtual 249, 3), (65, .aload_n 0, 1), (66, .invokevirtual 85, 3), (69, .if_icmp .ge 11, 3), (72, .aload_n 0, 1), (73, .bipush 13, 2), (75, .iload_n 3, 1), (76, .invokevirtual 153, 3), (79, .ireturn, 1), (80, .aload_n 0, 1), (81, .getfield 10, 3), (84, .iload_n 3, 1), (85, .invokevirtual 251, 3), (88, .ifCond .ne 11, 3), (91, .aload_n 0, 1), (92, .bipush 11, 2), (94, .iload_n 3, 1), (95, .invokevirtual 153, 3), (98, .ireturn, 1), (99, .iload 4, 2), (101, .bipush 9, 2), (103, .if_icmp .ne 17, 3), (106, .aload_n 0, 1), (107, .aload_n 0, 1), (108, .getfield 10, 3), (111, .iload_n 3, 1), (112, .invokevirtual 267, 3), (115, .iconst 1, 1), (116, .invokevirtual 270, 3), (119, .ireturn, 1), (120, .aload_n 0, 1), (121, .aload_n 0, 1), (122, .getfield 10, 3), (125, .iload_n 3, 1), (126, .invokevirtual 267, 3), (129, .aload_n 0, 1), (130, .getfield 10, 3), (133, .iload_n 3, 1), (134, .invokevirtual 257, 3), (137, .iconst 0, 1), (138, .iconst 1, 1), (139, .invokevirtual 276, 3), (142, .ifCond .ne 5, 3), (145, .iconst 0, 1), (146, .ireturn, 1), (147, .aload_n 0, 1), (148, .getfield 16, 3), (151, .bipush 6, 2), (153, .dup2, 1), (154, .iaload, 1), (155, .bipush (-5), 2), (157, .iand, 1), (158, .iastore, 1), (159, .iconst 1, 1), (160, .ireturn, 1)]
set_option maxRecDepth 100000 in
theorem pg39_ok : ∀ q ∈ pg39, decode prog_1_method_40_code q.1 = .ok (q.2.1, q.2.2) := by decide +kernel
def pg127 : ab_PG := [(0, .aload_n 0, 1), (1, .getfield 11, 3), (4, .iload_n 1, 1), (5, .sipush 252, 3), (8, .iand, 1), (9, .iconst 3, 1), (10, .iadd, 1), (11, .iaload, 1), (12, .bipush 8, 2), (14, .irem, 1), (15, .ireturn, 1)]
set_option maxRecDepth 100000 in
theorem pg127_ok : ∀ q ∈ pg127, decode prog_3_method_14_code q.1 = .ok (q.2.1, q.2.2) := by decide +kernel
def pg38 : ab_PG := [(0, .aload_n 0, 1), (1, .getfield 10, 3), (4, .iload_n 1, 1), (5, .invokevirtual 61, 3), (8, .istore_n 3, 1), (9, .iload_n 3, 1), (10, .bipush 6, 2), (12, .if_icmp .eq 23, 3), (15, .iload_n 3, 1), (16, .bipush 7, 2), (18, .if_icmp .eq 17, 3), (21, .iload_n 3, 1), (22, .bipush 9, 2), (24, .if_icmp .eq 11, 3), (27, .aload_n 0, 1), (28, .bipush 13, 2), (30, .iload_n 1, 1), (31, .invokevirtual 153, 3), (34, .ireturn, 1), (35, .aload_n 0, 1), (36, .getfield 10, 3), (39, .iload_n 1, 1), (40, .invokevirtual 249, 3), (43, .istore 4, 2), (45, .iload 4, 2), (47, .aload_n 0, 1), (48, .invokevirtual 85, 3), (51, .if_icmp .lt 11, 3), (54, .iload 4, 2), (56, .iload_n 1, 1), (57, .iconst 4, 1), (58, .irem, 1), (59, .if_icmp .ge 11, 3), (62, .aload_n 0, 1), (63, .bipush 13, 2), (65, .iload_n 1, 1), (66, .invokevirtual 153, 3), (69, .ireturn, 1), (70, .aload_n 0, 1), (71, .getfield 10, 3), (74, .iload_n 1, 1), (75, .invokevirtual 251, 3), (78, .ifCond .ne 11, 3), (81, .aload_n 0, 1), (82, .bipush 11, 2), (84, .iload_n 1, 1), (85, .invokevirtual 153, 3), (88, .ireturn, 1), (89, .iload_n 3, 1), (90, .bipush 7, 2), (92, .if_icmp .ne 7, 3), (95, .iload_n 1, 1), (96, .goto 11, 3), (99, .aload_n 0, 1), (100, .getfield 10, 3), (103, .iload_n 1, 1), (104, .invokevirtual 267, 3), (107, .istore 5, 2), (109, .iload_n 3, 1), (110, .bipush 6, 2), (112, .if_icmp .eq 19, 3), (115, .aload_n 0, 1), (116, .iload 5, 2), (118, .iload_n 2, 1), (119, .ifCond .eq 7, 3), (122, .iconst 1, 1), (123, .goto 4, 3), (126, .iconst 0, 1), (127, .invokevirtual 270, 3), (130, .ireturn, 1), (131, .iload_n 2, 1), (132, .ifCond .eq 27, 3), (135, .aload_n 0, 1), (136, .iload 5, 2), (138, .aload_n 0, 1), (139, .getfield 10, 3), (142, .iload_n 1, 1), (143, .invokevirtual 257, 3), (146, .aload_n 0, 1), (147, .getfield 10, 3), (150, .iload_n 1, 1), (151, .invokevirtual 273, 3), (154, .iconst 0, 1), (155, .invokevirtual 276, 3), (158, .ireturn, 1), (159, .aload_n 0, 1), (160, .iload 5, 2), (162, .aload_n 0, 1), (163, .getfield 10, 3), (166, .iload_n 1, 1), (167, .invokevirtual 257, 3), (170, .aload_n 0, 1), (171, .invokevirtual 85, 3), (174, .invokevirtual 264, 3), (177, .ireturn, 1)]
set_option maxRecDepth 100000 in
theorem pg38_ok : ∀ q ∈ pg38, decode prog_1_method_39_code q.1 = .ok (q.2.1, q.2.2) := by decide +kernel
def pg37 : ab_PG := [(0, .aload_n 0, 1), (1, .invokevirtual 85, 3), (4, .istore 4, 2), (6, .aload_n 0, 1), (7, .getfield 10, 3), (10, .iload_n 1, 1), (11, .invokevirtual 61, 3), (14, .iconst 5, 1), (15, .if_icmp .eq 19, 3), (18, .iload_n 1, 1), (19, .iconst 4, 1), (20, .irem, 1), (21, .iload 4, 2), (23, .if_icmp .le 11, 3), (26, .aload_n 0, 1), (27, .bipush 13, 2), (29, .iload_n 1, 1), (30, .invokevirtual 153, 3), (33, .ireturn, 1), (34, .iload_n 3, 1), (35, .ifCond .eq 34, 3), (38, .aload_n 0, 1), (39, .aload_n 0, 1), (40, .getfield 25, 3), (43, .iconst 0, 1), (44, .aaload, 1), (45, .getfield 98, 3), (48, .invokevirtual 147, 3), (51, .ifCond .eq 16, 3), (54, .aload_n 0, 1), (55, .aload_n 0, 1), (56, .getfield 16, 3), (59, .iconst 5, 1), (60, .iaload, 1), (61, .invokevirtual 147, 3), (64, .ifCond .ne 5, 3), (67, .iconst 0, 1), (68, .ireturn, 1), (69, .aload_n 0, 1), (70, .iload_n 1, 1), (71, .iload_n 2, 1), (72, .iload 4, 2), (74, .invokevirtual 264, 3), (77, .ireturn, 1)]
set_option maxRecDepth 100000 in
theorem pg37_ok : ∀ q ∈ pg37, decode prog_1_method_38_code q.1 = .ok (q.2.1, q.2.2) := by decide +kernel
def pg26 : ab_PG := [(0, .iload_n 2, 1), (1, .iconst (-1), 1), (2, .if_icmp .ne 5, 3), (5, .iconst 0, 1), (6, .ireturn, 1), (7, .aload_n 0, 1), (8, .getfield 16, 3), (11, .iload_n 1, 1), (12, .iload_n 2, 1), (13, .iastore, 1), (14, .iconst 1, 1), (15, .ireturn, 1)]
set_option maxRecDepth 100000 in
theorem pg26_ok : ∀ q ∈ pg26, decode prog_1_method_27_code q.1 = .ok (q.2.1, q.2.2) := by decide +kernel
def pg29 : ab_PG := [(0, .aload_n 0, 1), (1, .getfield 16, 3), (4, .bipush 6, 2), (6, .iaload, 1), (7, .iconst 1, 1), (8, .iand, 1), (9, .ifCond .eq 7, 3), (12, .iconst 1, 1), (13, .goto 4, 3), (16, .iconst 0, 1), (17, .ireturn, 1)]
set_option maxRecDepth 100000 in
theorem pg29_ok : ∀ q ∈ pg29, decode prog_1_method_30_code q.1 = .ok (q.2.1, q.2.2) := by decide +kernel
def pg30 : ab_PG := [(0, .iload_n 2, 1), (1, .ifCond .eq 10, 3), (4, .aload_n 0, 1), (5, .getfield 16, 3), (8, .iconst 5, 1), (9, .iload_n 1, 1), (10, .iastore, 1), (11, .iconst 1, 1), (12, .ireturn, 1)]
set_option maxRecDepth 100000 in
theorem pg30_ok : ∀ q ∈ pg30, decode prog_1_method_31_code q.1 = .ok (q.2.1, q.2.2) := by decide +kernel
def pg27 : ab_PG := [(0, .iload_n 1, 1), (1, .invokestatic 150, 3), (4, .istore_n 2, 1), (5, .aload_n 0, 1), (6, .getfield 16, 3), (9, .bipush 6, 2), (11, .iaload, 1), (12, .iconst 4, 1), (13, .iand, 1), (14, .istore_n 3, 1), (15, .aload_n 0, 1), (16, .getfield 16, 3), (19, .bipush 6, 2), (21, .iload_n 3, 1), (22, .iload_n 2, 1), (23, .ifCond .ne 7, 3), (26, .iconst 1, 1), (27, .goto 4, 3), (30, .iconst 0, 1), (31, .iadd, 1), (32, .iload_n 2, 1), (33, .ldc 248, 2), (35, .if_icmp .lt 7, 3), (38, .iconst 2, 1), (39, .goto 4, 3), (42, .iconst 0, 1), (43, .iadd, 1), (44, .iastore, 1), (45, .iload_n 2, 1), (46, .ireturn, 1)]
set_option maxRecDepth 100000 in
theorem pg27_ok : ∀ q ∈ pg27, decode prog_1_method_28_code q.1 = .ok (q.2.1, q.2.2) := by decide +kernel
def pg28 : ab_PG := [(0, .aload_n 0, 1), (1, .iload_n 1, 1), (2, .iload_n 2, 1), (3, .isub, 1), (4, .invokevirtual 204, 3), (7, .pop, 1), (8, .iconst 1, 1), (9, .ireturn, 1)]
set_option maxRecDepth 100000 in
theorem pg28_ok : ∀ q ∈ pg28, decode prog_1_method_29_code q.1 = .ok (q.2.1, q.2.2) := by decide +kernel
def pg25 : ab_PG := [(0, .aload_n 0, 1), (1, .invokevirtual 85, 3), (4, .ifCond .eq 11, 3), (7, .aload_n 0, 1), (8, .bipush 13, 2), (10, .iconst 0, 1), (11, .invokevirtual 153, 3), (14, .ireturn, 1), (15, .aload_n 0, 1), (16, .iconst 1, 1), (17, .putfield 71, 3), (20, .iconst 1, 1), (21, .ireturn, 1)]
set_option maxRecDepth 100000 in
theorem pg25_ok : ∀ q ∈ pg25, decode prog_1_method_26_code q.1 = .ok (q.2.1, q.2.2) := by decide +kernel
def pg24 : ab_PG := [(0, .aload_n 0, 1), (1, .invokevirtual 186, 3), (4, .ifCond .ne 5, 3), (7, .iconst 0, 1), (8, .ireturn, 1), (9, .aload_n 0, 1), (10, .getfield 42, 3), (13, .getfield 189, 3), (16, .istore_n 1, 1), (17, .aload_n 0, 1), (18, .getfield 42, 3), (21, .getfield 192, 3), (24, .istore_n 2, 1), (25, .aload_n 0, 1), (26, .getfield 42, 3), (29, .getfield 180, 3), (32, .istore_n 3, 1), (33, .aload_n 0, 1), (34, .getfield 42, 3), (37, .getfield 183, 3), (40, .istore 4, 2), (42, .aload_n 0, 1), (43, .getfield 42, 3), (46, .getfield 195, 3), (49, .tableswitch 457 0 21 #[103, 108, 115, 127, 150, 173, 190, 214, 239, 246, 256, 274, 285, 295, 330, 345, 379, 413, 420, 427, 432, 443], 103), (152, .aload_n 0, 1), (153, .invokevirtual 198, 3), (156, .ireturn, 1), (157, .aload_n 0, 1), (158, .iload_n 1, 1), (159, .iload_n 3, 1), (160, .invokevirtual 201, 3), (163, .ireturn, 1), (164, .aload_n 0, 1), (165, .iload_n 1, 1), (166, .aload_n 0, 1), (167, .getfield 16, 3), (170, .iload_n 2, 1), (171, .iaload, 1), (172, .invokevirtual 201, 3), (175, .ireturn, 1), (176, .aload_n 0, 1), (177, .iload_n 1, 1), (178, .aload_n 0, 1), (179, .aload_n 0, 1), (180, .getfield 16, 3), (183, .iload_n 1, 1), (184, .iaload, 1), (185, .aload_n 0, 1), (186, .getfield 16, 3), (189, .iload_n 2, 1), (190, .iaload, 1), (191, .iadd, 1), (192, .invokevirtual 204, 3), (195, .invokevirtual 201, 3), (198, .ireturn, 1), (199, .aload_n 0, 1), (200, .iload_n 1, 1), (201, .aload_n 0, 1), (202, .aload_n 0, 1), (203, .getfield 16, 3), (206, .iload_n 1, 1), (207, .iaload, 1), (208, .aload_n 0, 1), (209, .getfield 16, 3), (212, .iload_n 2, 1), (213, .iaload, 1), (214, .isub, 1), (215, .invokevirtual 204, 3), (218, .invokevirtual 201, 3), (221, .ireturn, 1), (222, .aload_n 0, 1), (223, .aload_n 0, 1), (224, .getfield 16, 3), (227, .iload_n 1, 1), (228, .iaload, 1), (229, .aload_n 0, 1), (230, .getfield 16, 3), (233, .iload_n 2, 1), (234, .iaload, 1), (235, .invokevirtual 207, 3), (238, .ireturn, 1), (239, .aload_n 0, 1), (240, .iload_n 1, 1), (241, .aload_n 0, 1), (242, .aload_n 0, 1), (243, .getfield 25, 3), (246, .iload_n 2, 1), (247, .aaload, 1), (248, .iload_n 3, 1), (249, .aload_n 0, 1), (250, .getfield 16, 3), (253, .iconst 3, 1), (254, .iaload, 1), (255, .iadd, 1), (256, .invokevirtual 164, 3), (259, .invokevirtual 201, 3), (262, .ireturn, 1), (263, .aload_n 0, 1), (264, .aload_n 0, 1), (265, .getfield 25, 3), (268, .iload_n 2, 1), (269, .aaload, 1), (270, .iload_n 3, 1), (271, .aload_n 0, 1), (272, .getfield 16, 3), (275, .iconst 3, 1), (276, .iaload, 1), (277, .iadd, 1), (278, .aload_n 0, 1), (279, .getfield 16, 3), (282, .iload_n 1, 1), (283, .iaload, 1), (284, .invokevirtual 160, 3), (287, .ireturn, 1), (288, .aload_n 0, 1), (289, .iload_n 3, 1), (290, .iconst 1, 1), (291, .invokevirtual 210, 3), (294, .ireturn, 1), (295, .aload_n 0, 1), (296, .iload_n 3, 1), (297, .aload_n 0, 1), (298, .invokevirtual 213, 3), (301, .invokevirtual 210, 3), (304, .ireturn, 1), (305, .aload_n 0, 1), (306, .iload_n 3, 1), (307, .aload_n 0, 1), (308, .invokevirtual 213, 3), (311, .ifCond .ne 7, 3), (314, .iconst 1, 1), (315, .goto 4, 3), (318, .iconst 0, 1), (319, .invokevirtual 210, 3), (322, .ireturn, 1), (323, .aload_n 0, 1), (324, .aload_n 0, 1), (325, .getfield 16, 3), (328, .iload_n 1, 1), (329, .iaload, 1), (330, .invokevirtual 147, 3), (333, .ireturn, 1), (334, .aload_n 0, 1), (335, .iload_n 1, 1), (336, .aload_n 0, 1), (337, .invokevirtual 216, 3), (340, .invokevirtual 201, 3), (343, .ireturn, 1), (344, .iload_n 2, 1), (345, .iconst 3, 1), (346, .if_icmp .ne 16, 3), (349, .aload_n 0, 1), (350, .aload_n 0, 1), (351, .getfield 16, 3), (354, .iload_n 1, 1), (355, .iaload, 1), (356, .invokevirtual 219, 3), (359, .goto 19, 3), (362, .aload_n 0, 1), (363, .aload_n 0, 1), (364, .getfield 25, 3), (367, .iload_n 2, 1), (368, .aaload, 1), (369, .aload_n 0, 1), (370, .getfield 16, 3), (373, .iload_n 1, 1), (374, .iaload, 1), (375, .invokevirtual 222, 3), (378, .ireturn, 1), (379, .aload_n 0, 1), (380, .iload_n 1, 1), (381, .aload_n 0, 1), (382, .getfield 25, 3), (385, .iload_n 2, 1), (386, .aaload, 1), (387, .getfield 98, 3), (390, .invokevirtual 201, 3), (393, .ireturn, 1), (394, .aload_n 0, 1), (395, .getfield 10, 3), (398, .iload 4, 2), (400, .invokevirtual 61, 3), (403, .invokestatic 226, 3), (406, .ifCond .eq 14, 3), (409, .aload_n 0, 1), (410, .iload 4, 2), (412, .iload_n 3, 1), (413, .iconst 0, 1), (414, .invokevirtual 229, 3), (417, .goto 10, 3), (420, .aload_n 0, 1), (421, .iload 4, 2), (423, .iconst 0, 1), (424, .invokevirtual 233, 3), (427, .ireturn, 1), (428, .aload_n 0, 1), (429, .getfield 10, 3), (432, .iload 4, 2), (434, .invokevirtual 61, 3), (437, .invokestatic 226, 3), (440, .ifCond .eq 14, 3), (443, .aload_n 0, 1), (444, .iload 4, 2), (446, .iload_n 3, 1), (447, .iconst 1, 1), (448, .invokevirtual 229, 3), (451, .goto 10, 3), (454, .aload_n 0, 1), (455, .iload 4, 2), (457, .iconst 1, 1), (458, .invokevirtual 233, 3), (461, .ireturn, 1), (462, .aload_n 0, 1), (463, .iload_n 3, 1), (464, .iconst 0, 1), (465, .invokevirtual 236, 3), (468, .ireturn, 1), (469, .aload_n 0, 1), (470, .iload_n 3, 1), (471, .iconst 1, 1), (472, .invokevirtual 143, 3), (475, .ireturn, 1), (476, .aload_n 0, 1), (477, .invokevirtual 239, 3), (480, .ireturn, 1), (481, .aload_n 0, 1), (482, .aload_n 0, 1), (483, .getfield 16, 3), (486, .iload_n 1, 1), (487, .iaload, 1), (488, .invokevirtual 242, 3), (491, .ireturn, 1), (492, .aload_n 0, 1), (493, .iload_n 1, 1), (494, .aload_n 0, 1), (495, .getfield 16, 3), (498, .iload_n 2, 1), (499, .iaload, 1), (500, .iconst 4, 1), (501, .irem, 1), (502, .invokevirtual 245, 3), (505, .ireturn, 1), (506, .aload_n 0, 1), (507, .bipush 6, 2), (509, .iconst 0, 1), (510, .invokevirtual 153, 3), (513, .ireturn, 1)]
set_option maxRecDepth 100000 in
theorem pg24_ok : ∀ q ∈ pg24, decode prog_1_method_25_code q.1 = .ok (q.2.1, q.2.2) := by decide +kernel
def pg120 : ab_PG := [(0, .aload_n 0, 1), (1, .getfield 15, 3), (4, .iconst 0, 1), (5, .aload_n 0, 1), (6, .getfield 11, 3), (9, .iconst 0, 1), (10, .sipush 640, 3), (13, .invokestatic 19, 3), (16, .return_, 1)]
set_option maxRecDepth 100000 in
theorem pg120_ok : ∀ q ∈ pg120, decode prog_3_method_7_code q.1 = .ok (q.2.1, q.2.2) := by decide +kernel
def pg14 : ab_PG := [(0, .aload_n 0, 1), (1, .getfield 10, 3), (4, .invokevirtual 127, 3), (7, .aload_n 0, 1), (8, .getfield 20, 3), (11, .iconst 0, 1), (12, .aload_n 0, 1), (13, .getfield 16, 3), (16, .iconst 0, 1), (17, .bipush 7, 2), (19, .invokestatic 117, 3), (22, .iconst 0, 1), (23, .istore_n 1, 1), (24, .iload_n 1, 1), (25, .iconst 5, 1), (26, .if_icmp .ge 24, 3), (29, .aload_n 0, 1), (30, .getfield 25, 3), (33, .iload_n 1, 1), (34, .aaload, 1), (35, .aload_n 0, 1), (36, .getfield 29, 3), (39, .iload_n 1, 1), (40, .aaload, 1), (41, .invokevirtual 123, 3), (44, .iinc 1 1, 3), (47, .goto (-23), 3), (50, .return_, 1)]
set_option maxRecDepth 100000 in
theorem pg14_ok : ∀ q ∈ pg14, decode prog_1_method_15_code q.1 = .ok (q.2.1, q.2.2) := by decide +kernel
def pg16 : ab_PG := [(0, .aload_n 0, 1), (1, .iload_n 1, 1), (2, .putfield 89, 3), (5, .aload_n 0, 1), (6, .iload_n 2, 1), (7, .putfield 92, 3), (10, .aload_n 0, 1), (11, .dup, 1), (12, .getfield 95, 3), (15, .iconst 1, 1), (16, .iadd, 1), (17, .putfield 95, 3), (20, .return_, 1)]
set_option maxRecDepth 100000 in
theorem pg16_ok : ∀ q ∈ pg16, decode prog_1_method_17_code q.1 = .ok (q.2.1, q.2.2) := by decide +kernel
def pg17 : ab_PG := [(0, .aload_n 0, 1), (1, .getfield 130, 3), (4, .istore_n 1, 1), (5, .aload_n 0, 1), (6, .getfield 134, 3), (9, .istore_n 2, 1), (10, .aload_n 0, 1), (11, .invokevirtual 137, 3), (14, .aload_n 0, 1), (15, .iload_n 1, 1), (16, .iload_n 2, 1), (17, .invokevirtual 140, 3), (20, .aload_n 0, 1), (21, .iload_n 1, 1), (22, .iconst 0, 1), (23, .invokevirtual 143, 3), (26, .ifCond .eq 13, 3), (29, .aload_n 0, 1), (30, .iload_n 2, 1), (31, .invokevirtual 147, 3), (34, .ifCond .eq 5, 3), (37, .iconst 1, 1), (38, .ireturn, 1), (39, .aload_n 0, 1), (40, .invokevirtual 137, 3), (43, .aload_n 0, 1), (44, .bipush 8, 2), (46, .iconst 0, 1), (47, .invokevirtual 140, 3), (50, .aload_n 0, 1), (51, .bipush 8, 2), (53, .iconst 0, 1), (54, .invokevirtual 143, 3), (57, .ifCond .eq 13, 3), (60, .aload_n 0, 1), (61, .iconst 0, 1), (62, .invokevirtual 147, 3), (65, .ifCond .eq 5, 3), (68, .iconst 1, 1), (69, .ireturn, 1), (70, .aload_n 0, 1), (71, .invokevirtual 137, 3), (74, .aload_n 0, 1), (75, .iconst 2, 1), (76, .putfield 71, 3), (79, .iconst 0, 1), (80, .ireturn, 1)]
set_option maxRecDepth 100000 in
theorem pg17_ok : ∀ q ∈ pg17, decode prog_1_method_18_code q.1 = .ok (q.2.1, q.2.2) := by decide +kernel
def pg6 : ab_PG := [(0, .iload_n 1, 1), (1, .ifCond .lt 8, 3), (4, .iload_n 1, 1), (5, .iconst 4, 1), (6, .if_icmp .le 5, 3), (9, .iconst (-1), 1), (10, .ireturn, 1), (11, .iconst 0, 1), (12, .istore_n 2, 1), (13, .iconst 0, 1), (14, .istore_n 3, 1), (15, .iload_n 3, 1), (16, .iload_n 1, 1), (17, .if_icmp .ge 37, 3), (20, .aload_n 0, 1), (21, .getfield 71, 3), (24, .ifCond .ne 30, 3), (27, .aload_n 0, 1), (28, .invokevirtual 75, 3), (31, .aload_n 0, 1), (32, .invokevirtual 78, 3), (35, .ifCond .ne 10, 3), (38, .aload_n 0, 1), (39, .invokevirtual 82, 3), (42, .ifCond .eq 6, 3), (45, .iinc 2 1, 3), (48, .iinc 3 1, 3), (51, .goto (-36), 3), (54, .iload_n 2, 1), (55, .ireturn, 1)]
set_option maxRecDepth 100000 in
theorem pg6_ok : ∀ q ∈ pg6, decode prog_1_method_7_code q.1 = .ok (q.2.1, q.2.2) := by decide +kernel
def pg53 : ab_PG := [(0, .iconst 0, 1), (1, .istore_n 2, 1), (2, .iload_n 2, 1), (3, .aload_n 0, 1), (4, .arraylength, 1), (5, .if_icmp .ge 15, 3), (8, .aload_n 1, 1), (9, .iload_n 2, 1), (10, .aload_n 0, 1), (11, .iload_n 2, 1), (12, .iaload, 1), (13, .iastore, 1), (14, .iinc 2 1, 3), (17, .goto (-15), 3), (20, .return_, 1)]
set_option maxRecDepth 100000 in
theorem pg53_ok : ∀ q ∈ pg53, decode prog_6_method_3_code q.1 = .ok (q.2.1, q.2.2) := by decide +kernel
def pg54 : ab_PG := [(0, .aload_n 0, 1), (1, .getfield 7, 3), (4, .aload_n 0, 1), (5, .getfield 19, 3), (8, .invokestatic 28, 3), (11, .aload_n 0, 1), (12, .getfield 13, 3), (15, .aload_n 0, 1), (16, .getfield 22, 3), (19, .invokestatic 28, 3), (22, .aload_n 0, 1), (23, .getfield 16, 3), (26, .aload_n 0, 1), (27, .getfield 25, 3), (30, .invokestatic 28, 3), (33, .aload_n 0, 1), (34, .iconst 0, 1), (35, .putfield 32, 3), (38, .aload_n 0, 1), (39, .iconst 0, 1), (40, .putfield 36, 3), (43, .return_, 1)]
set_option maxRecDepth 100000 in
theorem pg54_ok : ∀ q ∈ pg54, decode prog_6_method_4_code q.1 = .ok (q.2.1, q.2.2) := by decide +kernel
def pg56 : ab_PG := [(0, .aload_n 0, 1), (1, .getfield 32, 3), (4, .ifCond .le 4, 3), (7, .return_, 1), (8, .aload_n 0, 1), (9, .iload_n 1, 1), (10, .putfield 32, 3), (13, .aload_n 0, 1), (14, .iload_n 2, 1), (15, .putfield 36, 3), (18, .return_, 1)]
set_option maxRecDepth 100000 in
theorem pg56_ok : ∀ q ∈ pg56, decode prog_6_method_6_code q.1 = .ok (q.2.1, q.2.2) := by decide +kernel
def pg58 : ab_PG := [(0, .iload_n 1, 1), (1, .ldc 43, 2), (3, .iand, 1), (4, .sipush 640, 3), (7, .if_icmp .ge 15, 3), (10, .aload_n 0, 1), (11, .getfield 7, 3), (14, .iload_n 1, 1), (15, .ldc 43, 2), (17, .iand, 1), (18, .iaload, 1), (19, .goto 5, 3), (22, .ldc 43, 2), (24, .ireturn, 1)]
set_option maxRecDepth 100000 in
theorem pg58_ok : ∀ q ∈ pg58, decode prog_6_method_8_code q.1 = .ok (q.2.1, q.2.2) := by decide +kernel
def pg76 : ab_PG := [(0, .aload_n 0, 1), (1, .getfield 16, 3), (4, .iconst 3, 1), (5, .iaload, 1), (6, .ifCond .eq 18, 3), (9, .aload_n 0, 1), (10, .getfield 13, 3), (13, .iconst 5, 1), (14, .iaload, 1), (15, .aload_n 0, 1), (16, .getfield 16, 3), (19, .iconst 2, 1), (20, .iaload, 1), (21, .if_icmp .le 10, 3), (24, .aload_n 0, 1), (25, .bipush 13, 2), (27, .iconst 0, 1), (28, .invokevirtual 39, 3), (31, .aload_n 0, 1), (32, .getfield 32, 3), (35, .ifCond .ne 23, 3), (38, .aload_n 0, 1), (39, .aload_n 0, 1), (40, .getfield 16, 3), (43, .iconst 1, 1), (44, .iaload, 1), (45, .aload_n 0, 1), (46, .getfield 13, 3), (49, .iconst 5, 1), (50, .iaload, 1), (51, .iadd, 1), (52, .invokevirtual 63, 3), (55, .goto 4, 3), (58, .iconst 0, 1), (59, .istore_n 1, 1), (60, .aload_n 0, 1), (61, .getfield 13, 3), (64, .iconst 5, 1), (65, .aload_n 0, 1), (66, .getfield 13, 3), (69, .iconst 5, 1), (70, .iaload, 1), (71, .iconst 1, 1), (72, .iadd, 1), (73, .ldc 43, 2), (75, .iand, 1), (76, .iastore, 1), (77, .iload_n 1, 1), (78, .ireturn, 1)]
set_option maxRecDepth 100000 in
theorem pg76_ok : ∀ q ∈ pg76, decode prog_6_method_26_code q.1 = .ok (q.2.1, q.2.2) := by decide +kernel
def pg91 : ab_PG := [(0, .iload_n 0, 1), (1, .bipush 21, 2), (3, .if_icmp .gt 8, 3), (6, .iload_n 1, 1), (7, .iconst 4, 1), (8, .if_icmp .le 5, 3), (11, .iconst 0, 1), (12, .ireturn, 1), (13, .iload_n 0, 1), (14, .iconst 2, 1), (15, .iconst 5, 1), (16, .invokestatic 52, 3), (19, .ifCond .ne 15, 3), (22, .iload_n 0, 1), (23, .bipush 21, 2), (25, .if_icmp .eq 9, 3), (28, .iload_n 0, 1), (29, .bipush 14, 2), (31, .if_icmp .ne 7, 3), (34, .iconst 1, 1), (35, .goto 4, 3), (38, .iconst 0, 1), (39, .istore_n 3, 1), (40, .iload_n 0, 1), (41, .bipush 6, 2), (43, .if_icmp .eq 9, 3), (46, .iload_n 0, 1), (47, .bipush 7, 2), (49, .if_icmp .ne 7, 3), (52, .iconst 1, 1), (53, .goto 4, 3), (56, .iconst 0, 1), (57, .istore 4, 2), (59, .iload_n 3, 1), (60, .ifCond .eq 8, 3), (63, .iload_n 2, 1), (64, .iconst 4, 1), (65, .if_icmp .gt 32, 3), (68, .iload 4, 2), (70, .ifCond .eq 8, 3), (73, .iload_n 2, 1), (74, .iconst 3, 1), (75, .if_icmp .gt 22, 3), (78, .iload_n 0, 1), (79, .bipush 13, 2), (81, .if_icmp .ne 12, 3), (84, .iload_n 2, 1), (85, .iconst 1, 1), (86, .iconst 3, 1), (87, .invokestatic 52, 3), (90, .ifCond .eq 7, 3), (93, .iconst 1, 1), (94, .goto 4, 3), (97, .iconst 0, 1), (98, .ireturn, 1)]
set_option maxRecDepth 100000 in
theorem pg91_ok : ∀ q ∈ pg91, decode prog_6_method_41_code q.1 = .ok (q.2.1, q.2.2) := by decide +kernel
def pg60 : ab_PG := [(0, .aload_n 0, 1), (1, .getfield 16, 3), (4, .iconst 0, 1), (5, .iaload, 1), (6, .iconst 4, 1), (7, .irem, 1), (8, .ireturn, 1)]
set_option maxRecDepth 100000 in
theorem pg60_ok : ∀ q ∈ pg60, decode prog_6_method_10_code q.1 = .ok (q.2.1, q.2.2) := by decide +kernel
def pg93 : ab_PG := [(0, .iload_n 1, 1), (1, .tableswitch 114 0 3 #[31, 64, 77, 92], 31), (32, .aload_n 0, 1), (33, .invokevirtual 91, 3), (36, .ifCond .eq 10, 3), (39, .aload_n 0, 1), (40, .bipush 13, 2), (42, .iconst 0, 1), (43, .invokevirtual 39, 3), (46, .aload_n 0, 1), (47, .aload_n 0, 1), (48, .getfield 32, 3), (51, .ifCond .ne 7, 3), (54, .iconst 1, 1), (55, .goto 4, 3), (58, .iconst 0, 1), (59, .putfield 176, 3), (62, .goto 81, 3), (65, .aload_n 0, 1), (66, .getfield 13, 3), (69, .iload_n 2, 1), (70, .aload_n 0, 1), (71, .invokevirtual 161, 3), (74, .iastore, 1), (75, .goto 68, 3), (78, .aload_n 0, 1), (79, .getfield 13, 3), (82, .iload_n 2, 1), (83, .aload_n 0, 1), (84, .getfield 13, 3), (87, .iload_n 3, 1), (88, .iaload, 1), (89, .iastore, 1), (90, .goto 53, 3), (93, .aload_n 0, 1), (94, .iload_n 2, 1), (95, .aload_n 0, 1), (96, .getfield 13, 3), (99, .iload_n 2, 1), (100, .iaload, 1), (101, .aload_n 0, 1), (102, .getfield 13, 3), (105, .iload_n 3, 1), (106, .iaload, 1), (107, .iadd, 1), (108, .iconst 1, 1), (109, .invokevirtual 179, 3), (112, .goto 31, 3), (115, .aload_n 0, 1), (116, .iload_n 2, 1), (117, .aload_n 0, 1), (118, .getfield 13, 3), (121, .iload_n 2, 1), (122, .iaload, 1), (123, .aload_n 0, 1), (124, .getfield 13, 3), (127, .iload_n 3, 1), (128, .iaload, 1), (129, .isub, 1), (130, .iload_n 1, 1), (131, .iconst 4, 1), (132, .if_icmp .ne 7, 3), (135, .iconst 1, 1), (136, .goto 4, 3), (139, .iconst 0, 1), (140, .invokevirtual 179, 3), (143, .return_, 1)]
set_option maxRecDepth 100000 in
theorem pg93_ok : ∀ q ∈ pg93, decode prog_6_method_43_code q.1 = .ok (q.2.1, q.2.2) := by decide +kernel
def pg90 : ab_PG := [(0, .iload_n 2, 1), (1, .ldc 43, 2), (3, .iand, 1), (4, .istore 4, 2), (6, .iload_n 3, 1), (7, .ifCond .eq 11, 3), (10, .aload_n 0, 1), (11, .getfield 13, 3), (14, .iload_n 1, 1), (15, .iload 4, 2), (17, .iastore, 1), (18, .aload_n 0, 1), (19, .getfield 13, 3), (22, .bipush 6, 2), (24, .aload_n 0, 1), (25, .getfield 13, 3), (28, .bipush 6, 2), (30, .iaload, 1), (31, .iconst 4, 1), (32, .idiv, 1), (33, .iconst 4, 1), (34, .imul, 1), (35, .iload 4, 2), (37, .ifCond .ne 7, 3), (40, .iconst 1, 1), (41, .goto 4, 3), (44, .iconst 0, 1), (45, .iadd, 1), (46, .iload 4, 2), (48, .ldc 160, 2), (50, .if_icmp .lt 7, 3), (53, .iconst 2, 1), (54, .goto 4, 3), (57, .iconst 0, 1), (58, .iadd, 1), (59, .iastore, 1), (60, .return_, 1)]
set_option maxRecDepth 100000 in
theorem pg90_ok : ∀ q ∈ pg90, decode prog_6_method_40_code q.1 = .ok (q.2.1, q.2.2) := by decide +kernel
def pg71 : ab_PG := [(0, .aload_n 0, 1), (1, .getfield 16, 3), (4, .iload_n 1, 1), (5, .iconst 3, 1), (6, .iadd, 1), (7, .iaload, 1), (8, .istore 4, 2), (10, .iload 4, 2), (12, .ifCond .eq 26, 3), (15, .iload_n 3, 1), (16, .ifCond .eq 12, 3), (19, .iload 4, 2), (21, .iconst 2, 1), (22, .if_icmp .ne 16, 3), (25, .goto 9, 3), (28, .iload 4, 2), (30, .iconst 3, 1), (31, .if_icmp .eq 7, 3), (34, .iconst 1, 1), (35, .goto 4, 3), (38, .iconst 0, 1), (39, .istore 5, 2), (41, .iload 5, 2), (43, .ifCond .ne 13, 3), (46, .aload_n 0, 1), (47, .bipush 13, 2), (49, .iconst 0, 1), (50, .invokevirtual 39, 3), (53, .goto 33, 3), (56, .iload_n 2, 1), (57, .aload_n 0, 1), (58, .getfield 16, 3), (61, .iload_n 1, 1), (62, .iconst 2, 1), (63, .iadd, 1), (64, .iaload, 1), (65, .if_icmp .le 21, 3), (68, .aload_n 0, 1), (69, .iload_n 1, 1), (70, .bipush 15, 2), (72, .if_icmp .ne 8, 3), (75, .bipush 12, 2), (77, .goto 5, 3), (80, .bipush 13, 2), (82, .iconst 0, 1), (83, .invokevirtual 39, 3), (86, .aload_n 0, 1), (87, .getfield 32, 3), (90, .ifCond .ne 7, 3), (93, .iconst 1, 1), (94, .goto 4, 3), (97, .iconst 0, 1), (98, .ireturn, 1)]
set_option maxRecDepth 100000 in
theorem pg71_ok : ∀ q ∈ pg71, decode prog_6_method_21_code q.1 = .ok (q.2.1, q.2.2) := by decide +kernel
def pg72 : ab_PG := [(0, .aload_n 0, 1), (1, .getfield 32, 3), (4, .ifCond .ne 30, 3), (7, .aload_n 0, 1), (8, .iload_n 1, 1), (9, .iload_n 2, 1), (10, .iconst 0, 1), (11, .invokevirtual 59, 3), (14, .ifCond .eq 20, 3), (17, .aload_n 0, 1), (18, .aload_n 0, 1), (19, .getfield 16, 3), (22, .iload_n 1, 1), (23, .iconst 1, 1), (24, .iadd, 1), (25, .iaload, 1), (26, .iload_n 2, 1), (27, .iadd, 1), (28, .invokevirtual 63, 3), (31, .goto 4, 3), (34, .iconst 0, 1), (35, .ireturn, 1)]
set_option maxRecDepth 100000 in
theorem pg72_ok : ∀ q ∈ pg72, decode prog_6_method_22_code q.1 = .ok (q.2.1, q.2.2) := by decide +kernel
def pg94 : ab_PG := [(0, .aload_n 0, 1), (1, .getfield 13, 3), (4, .bipush 6, 2), (6, .iaload, 1), (7, .iconst 2, 1), (8, .irem, 1), (9, .iconst 1, 1), (10, .if_icmp .ne 7, 3), (13, .iconst 1, 1), (14, .goto 4, 3), (17, .iconst 0, 1), (18, .istore 4, 2), (20, .iload_n 1, 1), (21, .bipush 11, 2), (23, .if_icmp .ge 10, 3), (26, .aload_n 0, 1), (27, .invokevirtual 161, 3), (30, .goto 4, 3), (33, .iconst 0, 1), (34, .istore 5, 2), (36, .iload 5, 2), (38, .aload_n 0, 1), (39, .getfield 13, 3), (42, .iconst 3, 1), (43, .iaload, 1), (44, .iadd, 1), (45, .ldc 43, 2), (47, .iand, 1), (48, .istore 6, 2), (50, .iload_n 1, 1), (51, .tableswitch 178 6 13 #[45, 63, 81, 81, 81, 114, 127, 144], 45), (96, .aload_n 0, 1), (97, .getfield 13, 3), (100, .iload_n 2, 1), (101, .aload_n 0, 1), (102, .iconst 5, 1), (103, .iload_n 3, 1), (104, .imul, 1), (105, .iload 6, 2), (107, .invokevirtual 73, 3), (110, .iastore, 1), (111, .goto 132, 3), (114, .aload_n 0, 1), (115, .iconst 5, 1), (116, .iload_n 3, 1), (117, .imul, 1), (118, .iload 6, 2), (120, .aload_n 0, 1), (121, .getfield 13, 3), (124, .iload_n 2, 1), (125, .iaload, 1), (126, .invokevirtual 69, 3), (129, .goto 114, 3), (132, .iload_n 1, 1), (133, .bipush 8, 2), (135, .if_icmp .eq 19, 3), (138, .iload_n 1, 1), (139, .bipush 9, 2), (141, .if_icmp .ne 7, 3), (144, .iconst 1, 1), (145, .goto 4, 3), (148, .iconst 0, 1), (149, .iload 4, 2), (151, .if_icmp .ne 92, 3), (154, .aload_n 0, 1), (155, .getfield 13, 3), (158, .iconst 5, 1), (159, .iload 5, 2), (161, .iastore, 1), (162, .goto 81, 3), (165, .aload_n 0, 1), (166, .aload_n 0, 1), (167, .getfield 13, 3), (170, .iload_n 2, 1), (171, .iaload, 1), (172, .invokevirtual 107, 3), (175, .goto 68, 3), (178, .aload_n 0, 1), (179, .invokevirtual 145, 3), (182, .istore 7, 2), (184, .aload_n 0, 1), (185, .getfield 13, 3), (188, .iload_n 2, 1), (189, .iload 7, 2), (191, .iastore, 1), (192, .goto 51, 3), (195, .iload_n 3, 1), (196, .iconst 3, 1), (197, .if_icmp .ne 16, 3), (200, .aload_n 0, 1), (201, .aload_n 0, 1), (202, .getfield 13, 3), (205, .iload_n 2, 1), (206, .iaload, 1), (207, .invokevirtual 148, 3), (210, .goto 33, 3), (213, .aload_n 0, 1), (214, .iconst 5, 1), (215, .iload_n 3, 1), (216, .imul, 1), (217, .aload_n 0, 1), (218, .getfield 13, 3), (221, .iload_n 2, 1), (222, .iaload, 1), (223, .invokevirtual 157, 3), (226, .goto 17, 3), (229, .aload_n 0, 1), (230, .getfield 13, 3), (233, .iload_n 2, 1), (234, .aload_n 0, 1), (235, .getfield 16, 3), (238, .iconst 5, 1), (239, .iload_n 3, 1), (240, .imul, 1), (241, .iaload, 1), (242, .iastore, 1), (243, .return_, 1)]
set_option maxRecDepth 100000 in
theorem pg94_ok : ∀ q ∈ pg94, decode prog_6_method_44_code q.1 = .ok (q.2.1, q.2.2) := by decide +kernel
def pg59 : ab_PG := [(0, .iload_n 1, 1), (1, .ldc 43, 2), (3, .iand, 1), (4, .sipush 640, 3), (7, .if_icmp .ge 13, 3), (10, .aload_n 0, 1), (11, .getfield 7, 3), (14, .iload_n 1, 1), (15, .ldc 43, 2), (17, .iand, 1), (18, .iload_n 2, 1), (19, .iastore, 1), (20, .return_, 1)]
set_option maxRecDepth 100000 in
theorem pg59_ok : ∀ q ∈ pg59, decode prog_6_method_9_code q.1 = .ok (q.2.1, q.2.2) := by decide +kernel
def pg73 : ab_PG := [(0, .aload_n 0, 1), (1, .getfield 32, 3), (4, .ifCond .ne 28, 3), (7, .aload_n 0, 1), (8, .iload_n 1, 1), (9, .iload_n 2, 1), (10, .iconst 1, 1), (11, .invokevirtual 59, 3), (14, .ifCond .eq 18, 3), (17, .aload_n 0, 1), (18, .aload_n 0, 1), (19, .getfield 16, 3), (22, .iload_n 1, 1), (23, .iconst 1, 1), (24, .iadd, 1), (25, .iaload, 1), (26, .iload_n 2, 1), (27, .iadd, 1), (28, .iload_n 3, 1), (29, .invokevirtual 66, 3), (32, .return_, 1)]
set_option maxRecDepth 100000 in
theorem pg73_ok : ∀ q ∈ pg73, decode prog_6_method_23_code q.1 = .ok (q.2.1, q.2.2) := by decide +kernel
def pg74 : ab_PG := [(0, .aload_n 0, 1), (1, .getfield 13, 3), (4, .iconst 4, 1), (5, .aload_n 0, 1), (6, .getfield 13, 3), (9, .iconst 4, 1), (10, .iaload, 1), (11, .iconst 1, 1), (12, .isub, 1), (13, .ldc 43, 2), (15, .iand, 1), (16, .iastore, 1), (17, .aload_n 0, 1), (18, .bipush 15, 2), (20, .aload_n 0, 1), (21, .getfield 13, 3), (24, .iconst 4, 1), (25, .iaload, 1), (26, .iload_n 1, 1), (27, .invokevirtual 69, 3), (30, .return_, 1)]
set_option maxRecDepth 100000 in
theorem pg74_ok : ∀ q ∈ pg74, decode prog_6_method_24_code q.1 = .ok (q.2.1, q.2.2) := by decide +kernel
def pg75 : ab_PG := [(0, .aload_n 0, 1), (1, .bipush 15, 2), (3, .aload_n 0, 1), (4, .getfield 13, 3), (7, .iconst 4, 1), (8, .iaload, 1), (9, .invokevirtual 73, 3), (12, .istore_n 1, 1), (13, .aload_n 0, 1), (14, .getfield 13, 3), (17, .iconst 4, 1), (18, .aload_n 0, 1), (19, .getfield 13, 3), (22, .iconst 4, 1), (23, .iaload, 1), (24, .iconst 1, 1), (25, .iadd, 1), (26, .ldc 43, 2), (28, .iand, 1), (29, .iastore, 1), (30, .iload_n 1, 1), (31, .ireturn, 1)]
set_option maxRecDepth 100000 in
theorem pg75_ok : ∀ q ∈ pg75, decode prog_6_method_25_code q.1 = .ok (q.2.1, q.2.2) := by decide +kernel
def pg62 : ab_PG := [(0, .iload_n 0, 1), (1, .iconst 4, 1), (2, .idiv, 1), (3, .bipush 31, 2), (5, .if_icmp .le 7, 3), (8, .iconst 1, 1), (9, .goto 4, 3), (12, .iconst 0, 1), (13, .ireturn, 1)]
set_option maxRecDepth 100000 in
theorem pg62_ok : ∀ q ∈ pg62, decode prog_6_method_12_code q.1 = .ok (q.2.1, q.2.2) := by decide +kernel
def pg57 : ab_PG := [(0, .iload_n 1, 1), (1, .ifCond .ne 13, 3), (4, .aload_n 0, 1), (5, .iload_n 2, 1), (6, .iload_n 3, 1), (7, .iload_n 3, 1), (8, .iconst 4, 1), (9, .irem, 1), (10, .isub, 1), (11, .invokevirtual 39, 3), (14, .return_, 1)]
set_option maxRecDepth 100000 in
theorem pg57_ok : ∀ q ∈ pg57, decode prog_6_method_7_code q.1 = .ok (q.2.1, q.2.2) := by decide +kernel
def pg66 : ab_PG := [(0, .aload_n 0, 1), (1, .iload_n 1, 1), (2, .iconst 2, 1), (3, .invokevirtual 44, 3), (6, .bipush 64, 2), (8, .idiv, 1), (9, .iconst 2, 1), (10, .irem, 1), (11, .iconst 1, 1), (12, .if_icmp .ne 7, 3), (15, .iconst 1, 1), (16, .goto 4, 3), (19, .iconst 0, 1), (20, .ireturn, 1)]
set_option maxRecDepth 100000 in
theorem pg66_ok : ∀ q ∈ pg66, decode prog_6_method_16_code q.1 = .ok (q.2.1, q.2.2) := by decide +kernel
def pg78 : ab_PG := [(0, .aload_n 0, 1), (1, .getfield 32, 3), (4, .ifCond .le 4, 3), (7, .return_, 1), (8, .iload_n 1, 1), (9, .invokestatic 76, 3), (12, .ifCond .eq 10, 3), (15, .aload_n 0, 1), (16, .bipush 13, 2), (18, .iconst 0, 1), (19, .invokevirtual 39, 3), (22, .aload_n 0, 1), (23, .iload_n 1, 1), (24, .invokestatic 84, 3), (27, .ifCond .ne 7, 3), (30, .iconst 1, 1), (31, .goto 4, 3), (34, .iconst 0, 1), (35, .bipush 13, 2), (37, .iload_n 1, 1), (38, .invokevirtual 87, 3), (41, .aload_n 0, 1), (42, .getfield 32, 3), (45, .ifCond .le 4, 3), (48, .return_, 1), (49, .aload_n 0, 1), (50, .iload_n 1, 1), (51, .iconst 4, 1), (52, .irem, 1), (53, .aload_n 0, 1), (54, .invokevirtual 91, 3), (57, .if_icmp .ne 28, 3), (60, .aload_n 0, 1), (61, .iload_n 1, 1), (62, .invokevirtual 48, 3), (65, .iconst 2, 1), (66, .if_icmp .ne 19, 3), (69, .aload_n 0, 1), (70, .iload_n 1, 1), (71, .invokevirtual 56, 3), (74, .aload_n 0, 1), (75, .invokevirtual 91, 3), (78, .if_icmp .ne 7, 3), (81, .iconst 1, 1), (82, .goto 4, 3), (85, .iconst 0, 1), (86, .bipush 13, 2), (88, .iload_n 1, 1), (89, .invokevirtual 87, 3), (92, .aload_n 0, 1), (93, .aload_n 0, 1), (94, .iload_n 1, 1), (95, .invokevirtual 95, 3), (98, .bipush 12, 2), (100, .iload_n 1, 1), (101, .invokevirtual 87, 3), (104, .aload_n 0, 1), (105, .getfield 32, 3), (108, .ifCond .ne 10, 3), (111, .aload_n 0, 1), (112, .bipush 15, 2), (114, .iload_n 1, 1), (115, .invokevirtual 98, 3), (118, .return_, 1)]
set_option maxRecDepth 100000 in
theorem pg78_ok : ∀ q ∈ pg78, decode prog_6_method_28_code q.1 = .ok (q.2.1, q.2.2) := by decide +kernel
def pg77 : ab_PG := [(0, .aload_n 0, 1), (1, .getfield 32, 3), (4, .ifCond .le 4, 3), (7, .return_, 1), (8, .iload_n 2, 1), (9, .invokestatic 76, 3), (12, .ifCond .eq 9, 3), (15, .aload_n 0, 1), (16, .iload_n 1, 1), (17, .invokevirtual 80, 3), (20, .return_, 1), (21, .aload_n 0, 1), (22, .iload_n 2, 1), (23, .invokestatic 84, 3), (26, .ifCond .ne 7, 3), (29, .iconst 1, 1), (30, .goto 4, 3), (33, .iconst 0, 1), (34, .bipush 13, 2), (36, .iload_n 2, 1), (37, .invokevirtual 87, 3), (40, .aload_n 0, 1), (41, .getfield 32, 3), (44, .ifCond .le 4, 3), (47, .return_, 1), (48, .aload_n 0, 1), (49, .iload_n 2, 1), (50, .invokevirtual 48, 3), (53, .istore_n 3, 1), (54, .aload_n 0, 1), (55, .iload_n 3, 1), (56, .iconst 1, 1), (57, .if_icmp .eq 18, 3), (60, .iload_n 3, 1), (61, .iconst 2, 1), (62, .if_icmp .eq 13, 3), (65, .iload_n 3, 1), (66, .iconst 4, 1), (67, .if_icmp .eq 8, 3), (70, .iload_n 3, 1), (71, .iconst 5, 1), (72, .if_icmp .ne 7, 3), (75, .iconst 1, 1), (76, .goto 4, 3), (79, .iconst 0, 1), (80, .bipush 13, 2), (82, .iload_n 2, 1), (83, .invokevirtual 87, 3), (86, .aload_n 0, 1), (87, .iload_n 3, 1), (88, .iconst 5, 1), (89, .if_icmp .eq 26, 3), (92, .aload_n 0, 1), (93, .iload_n 2, 1), (94, .invokevirtual 56, 3), (97, .aload_n 0, 1), (98, .invokevirtual 91, 3), (101, .if_icmp .lt 18, 3), (104, .aload_n 0, 1), (105, .iload_n 2, 1), (106, .invokevirtual 56, 3), (109, .iload_n 2, 1), (110, .iconst 4, 1), (111, .irem, 1), (112, .if_icmp .lt 7, 3), (115, .iconst 1, 1), (116, .goto 4, 3), (119, .iconst 0, 1), (120, .bipush 13, 2), (122, .iload_n 2, 1), (123, .invokevirtual 87, 3), (126, .aload_n 0, 1), (127, .aload_n 0, 1), (128, .iload_n 2, 1), (129, .invokevirtual 95, 3), (132, .bipush 11, 2), (134, .iload_n 2, 1), (135, .invokevirtual 87, 3), (138, .aload_n 0, 1), (139, .getfield 32, 3), (142, .ifCond .ne 9, 3), (145, .aload_n 0, 1), (146, .iload_n 1, 1), (147, .iload_n 2, 1), (148, .invokevirtual 98, 3), (151, .return_, 1)]
set_option maxRecDepth 100000 in
theorem pg77_ok : ∀ q ∈ pg77, decode prog_6_method_27_code q.1 = .ok (q.2.1, q.2.2) := by decide +kernel
def pg68 : ab_PG := [(0, .iload_n 1, 1), (1, .iconst 4, 1), (2, .idiv, 1), (3, .iconst 4, 1), (4, .imul, 1), (5, .iconst 2, 1), (6, .iadd, 1), (7, .istore_n 3, 1), (8, .aload_n 0, 1), (9, .getfield 7, 3), (12, .iload_n 3, 1), (13, .aload_n 0, 1), (14, .getfield 7, 3), (17, .iload_n 3, 1), (18, .iaload, 1), (19, .aload_n 0, 1), (20, .getfield 7, 3), (23, .iload_n 3, 1), (24, .iaload, 1), (25, .bipush 16, 2), (27, .irem, 1), (28, .isub, 1), (29, .iload_n 2, 1), (30, .iadd, 1), (31, .iastore, 1), (32, .return_, 1)]
set_option maxRecDepth 100000 in
theorem pg68_ok : ∀ q ∈ pg68, decode prog_6_method_18_code q.1 = .ok (q.2.1, q.2.2) := by decide +kernel
def pg67 : ab_PG := [(0, .aload_n 0, 1), (1, .iload_n 1, 1), (2, .invokevirtual 48, 3), (5, .iconst 3, 1), (6, .iconst 5, 1), (7, .invokestatic 52, 3), (10, .ireturn, 1)]
set_option maxRecDepth 100000 in
theorem pg67_ok : ∀ q ∈ pg67, decode prog_6_method_17_code q.1 = .ok (q.2.1, q.2.2) := by decide +kernel
def pg79 : ab_PG := [(0, .aload_n 0, 1), (1, .getfield 32, 3), (4, .ifCond .le 5, 3), (7, .iconst 0, 1), (8, .ireturn, 1), (9, .iload_n 1, 1), (10, .invokestatic 76, 3), (13, .ifCond .eq 10, 3), (16, .aload_n 0, 1), (17, .bipush 13, 2), (19, .iconst 0, 1), (20, .invokevirtual 39, 3), (23, .aload_n 0, 1), (24, .iload_n 1, 1), (25, .invokestatic 84, 3), (28, .ifCond .ne 7, 3), (31, .iconst 1, 1), (32, .goto 4, 3), (35, .iconst 0, 1), (36, .bipush 13, 2), (38, .iload_n 1, 1), (39, .invokevirtual 87, 3), (42, .aload_n 0, 1), (43, .getfield 32, 3), (46, .ifCond .le 5, 3), (49, .iconst 0, 1), (50, .ireturn, 1), (51, .aload_n 0, 1), (52, .aload_n 0, 1), (53, .iload_n 1, 1), (54, .invokevirtual 101, 3), (57, .bipush 13, 2), (59, .iload_n 1, 1), (60, .invokevirtual 87, 3), (63, .aload_n 0, 1), (64, .aload_n 0, 1), (65, .iload_n 1, 1), (66, .invokevirtual 48, 3), (69, .iconst 5, 1), (70, .if_icmp .ne 20, 3), (73, .aload_n 0, 1), (74, .iload_n 1, 1), (75, .invokevirtual 56, 3), (78, .iload_n 3, 1), (79, .if_icmp .gt 7, 3), (82, .iconst 1, 1), (83, .goto 21, 3), (86, .iconst 0, 1), (87, .goto 17, 3), (90, .aload_n 0, 1), (91, .iload_n 1, 1), (92, .invokevirtual 56, 3), (95, .iload_n 3, 1), (96, .if_icmp .ne 7, 3), (99, .iconst 1, 1), (100, .goto 4, 3), (103, .iconst 0, 1), (104, .bipush 13, 2), (106, .iload_n 1, 1), (107, .invokevirtual 87, 3), (110, .aload_n 0, 1), (111, .aload_n 0, 1), (112, .iload_n 1, 1), (113, .invokevirtual 95, 3), (116, .bipush 11, 2), (118, .iload_n 1, 1), (119, .invokevirtual 87, 3), (122, .iload_n 2, 1), (123, .aload_n 0, 1), (124, .iload_n 1, 1), (125, .iconst 1, 1), (126, .invokevirtual 44, 3), (129, .if_icmp .le 10, 3), (132, .aload_n 0, 1), (133, .bipush 13, 2), (135, .iconst 0, 1), (136, .invokevirtual 39, 3), (139, .aload_n 0, 1), (140, .getfield 32, 3), (143, .ifCond .ne 7, 3), (146, .iconst 1, 1), (147, .goto 4, 3), (150, .iconst 0, 1), (151, .ireturn, 1)]
set_option maxRecDepth 100000 in
theorem pg79_ok : ∀ q ∈ pg79, decode prog_6_method_29_code q.1 = .ok (q.2.1, q.2.2) := by decide +kernel
def pg80 : ab_PG := [(0, .aload_n 0, 1), (1, .iload_n 1, 1), (2, .iload_n 2, 1), (3, .iload_n 3, 1), (4, .invokevirtual 104, 3), (7, .ifCond .ne 4, 3), (10, .return_, 1), (11, .aload_n 0, 1), (12, .iconst 0, 1), (13, .iload_n 1, 1), (14, .invokevirtual 98, 3), (17, .aload_n 0, 1), (18, .getfield 16, 3), (21, .iconst 0, 1), (22, .iload_n 1, 1), (23, .iload_n 1, 1), (24, .iconst 4, 1), (25, .irem, 1), (26, .isub, 1), (27, .iload_n 3, 1), (28, .iadd, 1), (29, .iastore, 1), (30, .aload_n 0, 1), (31, .getfield 13, 3), (34, .iconst 5, 1), (35, .iload_n 2, 1), (36, .iastore, 1), (37, .return_, 1)]
set_option maxRecDepth 100000 in
theorem pg80_ok : ∀ q ∈ pg80, decode prog_6_method_30_code q.1 = .ok (q.2.1, q.2.2) := by decide +kernel
def pg89 : ab_PG := [(0, .aload_n 0, 1), (1, .iload_n 1, 1), (2, .bipush 7, 2), (4, .iadd, 1), (5, .invokevirtual 63, 3), (8, .istore_n 3, 1), (9, .aload_n 0, 1), (10, .getfield 13, 3), (13, .bipush 6, 2), (15, .aload_n 0, 1), (16, .iload_n 1, 1), (17, .bipush 8, 2), (19, .iadd, 1), (20, .invokevirtual 63, 3), (23, .bipush 8, 2), (25, .irem, 1), (26, .iastore, 1), (27, .iload_n 2, 1), (28, .iconst 1, 1), (29, .if_icmp .ne 21, 3), (32, .aload_n 0, 1), (33, .getfield 13, 3), (36, .bipush 6, 2), (38, .aload_n 0, 1), (39, .getfield 13, 3), (42, .bipush 6, 2), (44, .iaload, 1), (45, .iconst 4, 1), (46, .irem, 1), (47, .iconst 4, 1), (48, .iadd, 1), (49, .iastore, 1), (50, .iconst 0, 1), (51, .istore 4, 2), (53, .iload 4, 2), (55, .iconst 5, 1), (56, .if_icmp .ge 27, 3), (59, .aload_n 0, 1), (60, .getfield 13, 3), (63, .iload 4, 2), (65, .aload_n 0, 1), (66, .iload_n 1, 1), (67, .bipush 9, 2), (69, .iadd, 1), (70, .iload 4, 2), (72, .iadd, 1), (73, .invokevirtual 63, 3), (76, .iastore, 1), (77, .iinc 4 1, 3), (80, .goto (-27), 3), (83, .aload_n 0, 1), (84, .iload_n 1, 1), (85, .bipush 14, 2), (87, .iadd, 1), (88, .invokevirtual 63, 3), (91, .istore 4, 2), (93, .aload_n 0, 1), (94, .iload_n 1, 1), (95, .bipush 15, 2), (97, .iadd, 1), (98, .invokevirtual 63, 3), (101, .istore 5, 2), (103, .aload_n 0, 1), (104, .iload_n 1, 1), (105, .bipush 16, 2), (107, .iadd, 1), (108, .invokevirtual 63, 3), (111, .istore 6, 2), (113, .aload_n 0, 1), (114, .iload_n 1, 1), (115, .bipush 17, 2), (117, .iadd, 1), (118, .invokevirtual 63, 3), (121, .istore 7, 2), (123, .aload_n 0, 1), (124, .iload 4, 2), (126, .iload_n 3, 1), (127, .iload 4, 2), (129, .iconst 4, 1), (130, .irem, 1), (131, .invokevirtual 114, 3), (134, .aload_n 0, 1), (135, .iload 7, 2), (137, .invokevirtual 148, 3), (140, .aload_n 0, 1), (141, .iconst 5, 1), (142, .iload 5, 2), (144, .invokevirtual 157, 3), (147, .aload_n 0, 1), (148, .bipush 10, 2), (150, .iload 6, 2), (152, .invokevirtual 157, 3), (155, .return_, 1)]
set_option maxRecDepth 100000 in
theorem pg89_ok : ∀ q ∈ pg89, decode prog_6_method_39_code q.1 = .ok (q.2.1, q.2.2) := by decide +kernel
def pg88 : ab_PG := [(0, .aload_n 0, 1), (1, .getfield 32, 3), (4, .ifCond .le 4, 3), (7, .return_, 1), (8, .iload_n 1, 1), (9, .invokestatic 76, 3), (12, .ifCond .eq 10, 3), (15, .aload_n 0, 1), (16, .bipush 13, 2), (18, .iconst 0, 1), (19, .invokevirtual 39, 3), (22, .aload_n 0, 1), (23, .iload_n 1, 1), (24, .invokestatic 84, 3), (27, .ifCond .ne 7, 3), (30, .iconst 1, 1), (31, .goto 4, 3), (34, .iconst 0, 1), (35, .bipush 13, 2), (37, .iload_n 1, 1), (38, .invokevirtual 87, 3), (41, .aload_n 0, 1), (42, .getfield 32, 3), (45, .ifCond .le 4, 3), (48, .return_, 1), (49, .aload_n 0, 1), (50, .aload_n 0, 1), (51, .iload_n 1, 1), (52, .invokevirtual 48, 3), (55, .iload_n 2, 1), (56, .iconst 2, 1), (57, .if_icmp .ne 8, 3), (60, .bipush 8, 2), (62, .goto 5, 3), (65, .bipush 7, 2), (67, .if_icmp .ne 7, 3), (70, .iconst 1, 1), (71, .goto 4, 3), (74, .iconst 0, 1), (75, .bipush 13, 2), (77, .iload_n 1, 1), (78, .invokevirtual 87, 3), (81, .aload_n 0, 1), (82, .aload_n 0, 1), (83, .iload_n 1, 1), (84, .invokevirtual 95, 3), (87, .bipush 11, 2), (89, .iload_n 1, 1), (90, .invokevirtual 87, 3), (93, .aload_n 0, 1), (94, .aload_n 0, 1), (95, .iload_n 1, 1), (96, .iconst 1, 1), (97, .invokevirtual 44, 3), (100, .bipush 17, 2), (102, .if_icmp .lt 7, 3), (105, .iconst 1, 1), (106, .goto 4, 3), (109, .iconst 0, 1), (110, .bipush 10, 2), (112, .iload_n 1, 1), (113, .invokevirtual 87, 3), (116, .aload_n 0, 1), (117, .getfield 16, 3), (120, .bipush 23, 2), (122, .iaload, 1), (123, .ifCond .ne 10, 3), (126, .aload_n 0, 1), (127, .bipush 10, 2), (129, .iconst 0, 1), (130, .invokevirtual 39, 3), (133, .aload_n 0, 1), (134, .getfield 32, 3), (137, .ifCond .le 4, 3), (140, .return_, 1), (141, .aload_n 0, 1), (142, .getfield 16, 3), (145, .bipush 20, 2), (147, .iaload, 1), (148, .istore_n 3, 1), (149, .iconst 0, 1), (150, .istore 4, 2), (152, .iload 4, 2), (154, .bipush 11, 2), (156, .if_icmp .ge 124, 3), (159, .bipush 7, 2), (161, .iload 4, 2), (163, .iadd, 1), (164, .istore 5, 2), (166, .iload 4, 2), (168, .ifCond .ne 12, 3), (171, .aload_n 0, 1), (172, .getfield 13, 3), (175, .iconst 5, 1), (176, .iaload, 1), (177, .goto 67, 3), (180, .iload 4, 2), (182, .iconst 1, 1), (183, .if_icmp .ne 30, 3), (186, .iload_n 2, 1), (187, .iconst 2, 1), (188, .if_icmp .ne 15, 3), (191, .aload_n 0, 1), (192, .getfield 13, 3), (195, .bipush 6, 2), (197, .iaload, 1), (198, .iconst 4, 1), (199, .irem, 1), (200, .goto 44, 3), (203, .aload_n 0, 1), (204, .getfield 13, 3), (207, .bipush 6, 2), (209, .iaload, 1), (210, .goto 34, 3), (213, .iload 4, 2), (215, .bipush 7, 2), (217, .if_icmp .ge 15, 3), (220, .aload_n 0, 1), (221, .getfield 13, 3), (224, .iload 4, 2), (226, .iconst 2, 1), (227, .isub, 1), (228, .iaload, 1), (229, .goto 15, 3), (232, .aload_n 0, 1), (233, .getfield 16, 3), (236, .iconst 5, 1), (237, .iload 4, 2), (239, .bipush 7, 2), (241, .isub, 1), (242, .imul, 1), (243, .iaload, 1), (244, .istore 6, 2), (246, .iload 5, 2), (248, .aload_n 0, 1), (249, .getfield 16, 3), (252, .bipush 22, 2), (254, .iaload, 1), (255, .if_icmp .gt 19, 3), (258, .aload_n 0, 1), (259, .aload_n 0, 1), (260, .getfield 16, 3), (263, .bipush 21, 2), (265, .iaload, 1), (266, .iload 5, 2), (268, .iadd, 1), (269, .iload 6, 2), (271, .invokevirtual 66, 3), (274, .iinc 4 1, 3), (277, .goto (-125), 3), (280, .iload_n 2, 1), (281, .iconst 1, 1), (282, .if_icmp .eq 10, 3), (285, .aload_n 0, 1), (286, .iload_n 3, 1), (287, .bipush 7, 2), (289, .invokevirtual 151, 3), (292, .aload_n 0, 1), (293, .iload_n 1, 1), (294, .bipush 8, 2), (296, .invokevirtual 151, 3), (299, .aload_n 0, 1), (300, .bipush 20, 2), (302, .iload_n 1, 1), (303, .invokevirtual 98, 3), (306, .iload_n 2, 1), (307, .iconst 1, 1), (308, .if_icmp .ne 15, 3), (311, .aload_n 0, 1), (312, .aload_n 0, 1), (313, .getfield 16, 3), (316, .bipush 21, 2), (318, .iaload, 1), (319, .iload_n 3, 1), (320, .invokevirtual 66, 3), (323, .aload_n 0, 1), (324, .aload_n 0, 1), (325, .getfield 16, 3), (328, .bipush 21, 2), (330, .iaload, 1), (331, .iload_n 2, 1), (332, .invokevirtual 154, 3), (335, .return_, 1)]
set_option maxRecDepth 100000 in
theorem pg88_ok : ∀ q ∈ pg88, decode prog_6_method_38_code q.1 = .ok (q.2.1, q.2.2) := by decide +kernel
def pg81 : ab_PG := [(0, .iload_n 1, 1), (1, .ifCond .eq 14, 3), (4, .aload_n 0, 1), (5, .aload_n 0, 1), (6, .getfield 13, 3), (9, .bipush 6, 2), (11, .iaload, 1), (12, .invokevirtual 107, 3), (15, .aload_n 0, 1), (16, .aload_n 0, 1), (17, .getfield 16, 3), (20, .iconst 0, 1), (21, .iaload, 1), (22, .invokevirtual 107, 3), (25, .aload_n 0, 1), (26, .aload_n 0, 1), (27, .getfield 13, 3), (30, .iconst 5, 1), (31, .iaload, 1), (32, .invokevirtual 107, 3), (35, .return_, 1)]
set_option maxRecDepth 100000 in
theorem pg81_ok : ∀ q ∈ pg81, decode prog_6_method_31_code q.1 = .ok (q.2.1, q.2.2) := by decide +kernel
def pg83 : ab_PG := [(0, .aload_n 0, 1), (1, .getfield 16, 3), (4, .bipush 23, 2), (6, .iaload, 1), (7, .ifCond .ne 10, 3), (10, .aload_n 0, 1), (11, .bipush 10, 2), (13, .iconst 0, 1), (14, .invokevirtual 39, 3), (17, .aload_n 0, 1), (18, .getfield 32, 3), (21, .ifCond .le 4, 3), (24, .return_, 1), (25, .aload_n 0, 1), (26, .aload_n 0, 1), (27, .getfield 16, 3), (30, .bipush 21, 2), (32, .iaload, 1), (33, .iconst 2, 1), (34, .iload_n 1, 1), (35, .imul, 1), (36, .iadd, 1), (37, .iconst 1, 1), (38, .iadd, 1), (39, .invokevirtual 63, 3), (42, .istore_n 2, 1), (43, .aload_n 0, 1), (44, .aload_n 0, 1), (45, .getfield 16, 3), (48, .bipush 21, 2), (50, .iaload, 1), (51, .iconst 2, 1), (52, .iload_n 1, 1), (53, .imul, 1), (54, .iadd, 1), (55, .iconst 2, 1), (56, .iadd, 1), (57, .invokevirtual 63, 3), (60, .istore_n 3, 1), (61, .iload_n 3, 1), (62, .invokestatic 76, 3), (65, .ifCond .eq 10, 3), (68, .aload_n 0, 1), (69, .bipush 10, 2), (71, .iconst 0, 1), (72, .invokevirtual 39, 3), (75, .aload_n 0, 1), (76, .iload_n 3, 1), (77, .invokestatic 84, 3), (80, .ifCond .ne 7, 3), (83, .iconst 1, 1), (84, .goto 4, 3), (87, .iconst 0, 1), (88, .bipush 10, 2), (90, .iload_n 3, 1), (91, .invokevirtual 87, 3), (94, .aload_n 0, 1), (95, .getfield 32, 3), (98, .ifCond .le 4, 3), (101, .return_, 1), (102, .aload_n 0, 1), (103, .iload_n 3, 1), (104, .iconst 4, 1), (105, .irem, 1), (106, .iload_n 1, 1), (107, .if_icmp .ne 25, 3), (110, .aload_n 0, 1), (111, .iload_n 3, 1), (112, .invokevirtual 56, 3), (115, .iload_n 1, 1), (116, .if_icmp .ne 16, 3), (119, .aload_n 0, 1), (120, .iload_n 3, 1), (121, .invokevirtual 48, 3), (124, .iconst 2, 1), (125, .if_icmp .ne 7, 3), (128, .iconst 1, 1), (129, .goto 4, 3), (132, .iconst 0, 1), (133, .bipush 10, 2), (135, .iload_n 3, 1), (136, .invokevirtual 87, 3), (139, .aload_n 0, 1), (140, .aload_n 0, 1), (141, .iload_n 3, 1), (142, .invokevirtual 95, 3), (145, .bipush 12, 2), (147, .iload_n 3, 1), (148, .invokevirtual 87, 3), (151, .aload_n 0, 1), (152, .aload_n 0, 1), (153, .getfield 16, 3), (156, .bipush 15, 2), (158, .iaload, 1), (159, .putfield 120, 3), (162, .aload_n 0, 1), (163, .aload_n 0, 1), (164, .getfield 16, 3), (167, .bipush 16, 2), (169, .iaload, 1), (170, .putfield 129, 3), (173, .aload_n 0, 1), (174, .aload_n 0, 1), (175, .getfield 16, 3), (178, .bipush 17, 2), (180, .iaload, 1), (181, .putfield 132, 3), (184, .aload_n 0, 1), (185, .aload_n 0, 1), (186, .getfield 16, 3), (189, .bipush 18, 2), (191, .iaload, 1), (192, .putfield 135, 3), (195, .aload_n 0, 1), (196, .aload_n 0, 1), (197, .getfield 13, 3), (200, .iconst 4, 1), (201, .iaload, 1), (202, .putfield 123, 3), (205, .aload_n 0, 1), (206, .getfield 32, 3), (209, .ifCond .le 4, 3), (212, .return_, 1), (213, .aload_n 0, 1), (214, .bipush 15, 2), (216, .iload_n 3, 1), (217, .invokevirtual 98, 3), (220, .aload_n 0, 1), (221, .getfield 13, 3), (224, .iconst 4, 1), (225, .iload_n 2, 1), (226, .iastore, 1), (227, .return_, 1)]
set_option maxRecDepth 100000 in
theorem pg83_ok : ∀ q ∈ pg83, decode prog_6_method_33_code q.1 = .ok (q.2.1, q.2.2) := by decide +kernel
def pg84 : ab_PG := [(0, .aload_n 0, 1), (1, .getfield 135, 3), (4, .ifCond .eq 11, 3), (7, .aload_n 0, 1), (8, .getfield 135, 3), (11, .iconst 3, 1), (12, .if_icmp .ne 13, 3), (15, .aload_n 0, 1), (16, .bipush 13, 2), (18, .iconst 0, 1), (19, .invokevirtual 39, 3), (22, .goto 18, 3), (25, .iload_n 1, 1), (26, .aload_n 0, 1), (27, .getfield 132, 3), (30, .if_icmp .le 10, 3), (33, .aload_n 0, 1), (34, .bipush 12, 2), (36, .iconst 0, 1), (37, .invokevirtual 39, 3), (40, .aload_n 0, 1), (41, .getfield 32, 3), (44, .ifCond .ne 16, 3), (47, .aload_n 0, 1), (48, .aload_n 0, 1), (49, .getfield 129, 3), (52, .iload_n 1, 1), (53, .iadd, 1), (54, .invokevirtual 63, 3), (57, .goto 4, 3), (60, .iconst 0, 1), (61, .ireturn, 1)]
set_option maxRecDepth 100000 in
theorem pg84_ok : ∀ q ∈ pg84, decode prog_6_method_34_code q.1 = .ok (q.2.1, q.2.2) := by decide +kernel
def pg82 : ab_PG := [(0, .aload_n 0, 1), (1, .getfield 32, 3), (4, .ifCond .le 4, 3), (7, .return_, 1), (8, .iload_n 1, 1), (9, .invokestatic 76, 3), (12, .ifCond .eq 10, 3), (15, .aload_n 0, 1), (16, .bipush 13, 2), (18, .iconst 0, 1), (19, .invokevirtual 39, 3), (22, .aload_n 0, 1), (23, .iload_n 1, 1), (24, .invokestatic 84, 3), (27, .ifCond .ne 7, 3), (30, .iconst 1, 1), (31, .goto 4, 3), (34, .iconst 0, 1), (35, .bipush 13, 2), (37, .iload_n 1, 1), (38, .invokevirtual 87, 3), (41, .aload_n 0, 1), (42, .getfield 32, 3), (45, .ifCond .ne 15, 3), (48, .aload_n 0, 1), (49, .aload_n 0, 1), (50, .iload_n 1, 1), (51, .invokevirtual 101, 3), (54, .bipush 13, 2), (56, .iload_n 1, 1), (57, .invokevirtual 87, 3), (60, .aload_n 0, 1), (61, .getfield 32, 3), (64, .ifCond .le 4, 3), (67, .return_, 1), (68, .aload_n 0, 1), (69, .iload_n 1, 1), (70, .invokevirtual 56, 3), (73, .istore 5, 2), (75, .aload_n 0, 1), (76, .iload_n 1, 1), (77, .invokevirtual 48, 3), (80, .iconst 5, 1), (81, .if_icmp .eq 12, 3), (84, .iload 5, 2), (86, .aload_n 0, 1), (87, .invokevirtual 91, 3), (90, .if_icmp .lt 20, 3), (93, .aload_n 0, 1), (94, .iload 4, 2), (96, .invokevirtual 110, 3), (99, .aload_n 0, 1), (100, .iload_n 1, 1), (101, .iload_n 2, 1), (102, .aload_n 0, 1), (103, .invokevirtual 91, 3), (106, .invokevirtual 114, 3), (109, .return_, 1), (110, .aload_n 0, 1), (111, .iload_n 1, 1), (112, .iload_n 2, 1), (113, .iload 5, 2), (115, .invokevirtual 104, 3), (118, .ifCond .eq 9, 3), (121, .aload_n 0, 1), (122, .iload 5, 2), (124, .invokevirtual 117, 3), (127, .aload_n 0, 1), (128, .getfield 120, 3), (131, .istore 6, 2), (133, .aload_n 0, 1), (134, .getfield 123, 3), (137, .istore 7, 2), (139, .aload_n 0, 1), (140, .iload 6, 2), (142, .invokevirtual 107, 3), (145, .aload_n 0, 1), (146, .iload 7, 2), (148, .invokevirtual 107, 3), (151, .iload_n 3, 1), (152, .iconst 1, 1), (153, .isub, 1), (154, .istore 8, 2), (156, .iload 8, 2), (158, .ifCond .lt 25, 3), (161, .aload_n 0, 1), (162, .aload_n 0, 1), (163, .iload 7, 2), (165, .iload 8, 2), (167, .iadd, 1), (168, .ldc 43, 2), (170, .iand, 1), (171, .invokevirtual 126, 3), (174, .invokevirtual 107, 3), (177, .iinc 8 (-1), 3), (180, .goto (-24), 3), (183, .aload_n 0, 1), (184, .iload 4, 2), (186, .invokevirtual 110, 3), (189, .aload_n 0, 1), (190, .iload_n 1, 1), (191, .iload_n 2, 1), (192, .iload 5, 2), (194, .invokevirtual 114, 3), (197, .return_, 1)]
set_option maxRecDepth 100000 in
theorem pg82_ok : ∀ q ∈ pg82, decode prog_6_method_32_code q.1 = .ok (q.2.1, q.2.2) := by decide +kernel
def pg85 : ab_PG := [(0, .aload_n 0, 1), (1, .getfield 32, 3), (4, .ifCond .le 4, 3), (7, .return_, 1), (8, .iload_n 2, 1), (9, .invokestatic 76, 3), (12, .ifCond .eq 10, 3), (15, .aload_n 0, 1), (16, .bipush 13, 2), (18, .iconst 0, 1), (19, .invokevirtual 39, 3), (22, .aload_n 0, 1), (23, .iload_n 2, 1), (24, .invokestatic 84, 3), (27, .ifCond .ne 7, 3), (30, .iconst 1, 1), (31, .goto 4, 3), (34, .iconst 0, 1), (35, .bipush 13, 2), (37, .iload_n 2, 1), (38, .invokevirtual 87, 3), (41, .aload_n 0, 1), (42, .getfield 32, 3), (45, .ifCond .le 4, 3), (48, .return_, 1), (49, .aload_n 0, 1), (50, .iload_n 2, 1), (51, .invokevirtual 48, 3), (54, .istore 4, 2), (56, .iload 4, 2), (58, .iconst 3, 1), (59, .iconst 5, 1), (60, .invokestatic 52, 3), (63, .ifCond .eq 51, 3), (66, .aload_n 0, 1), (67, .iload 4, 2), (69, .iconst 5, 1), (70, .if_icmp .eq 13, 3), (73, .iload_n 2, 1), (74, .iconst 4, 1), (75, .irem, 1), (76, .aload_n 0, 1), (77, .invokevirtual 91, 3), (80, .if_icmp .gt 7, 3), (83, .iconst 1, 1), (84, .goto 4, 3), (87, .iconst 0, 1), (88, .bipush 13, 2), (90, .iload_n 2, 1), (91, .invokevirtual 87, 3), (94, .iload_n 3, 1), (95, .ifCond .eq 8, 3), (98, .aload_n 0, 1), (99, .iconst 0, 1), (100, .invokevirtual 110, 3), (103, .aload_n 0, 1), (104, .iload_n 2, 1), (105, .iload_n 1, 1), (106, .aload_n 0, 1), (107, .invokevirtual 91, 3), (110, .invokevirtual 114, 3), (113, .return_, 1), (114, .aload_n 0, 1), (115, .iload 4, 2), (117, .bipush 6, 2), (119, .if_icmp .eq 17, 3), (122, .iload 4, 2), (124, .bipush 7, 2), (126, .if_icmp .eq 10, 3), (129, .iload 4, 2), (131, .bipush 9, 2), (133, .if_icmp .ne 7, 3), (136, .iconst 1, 1), (137, .goto 4, 3), (140, .iconst 0, 1), (141, .bipush 13, 2), (143, .iload_n 2, 1), (144, .invokevirtual 87, 3), (147, .aload_n 0, 1), (148, .aload_n 0, 1), (149, .iload_n 2, 1), (150, .invokevirtual 56, 3), (153, .aload_n 0, 1), (154, .invokevirtual 91, 3), (157, .if_icmp .lt 18, 3), (160, .aload_n 0, 1), (161, .iload_n 2, 1), (162, .invokevirtual 56, 3), (165, .iload_n 2, 1), (166, .iconst 4, 1), (167, .irem, 1), (168, .if_icmp .lt 7, 3), (171, .iconst 1, 1), (172, .goto 4, 3), (175, .iconst 0, 1), (176, .bipush 13, 2), (178, .iload_n 2, 1), (179, .invokevirtual 87, 3), (182, .aload_n 0, 1), (183, .aload_n 0, 1), (184, .iload_n 2, 1), (185, .invokevirtual 95, 3), (188, .bipush 11, 2), (190, .iload_n 2, 1), (191, .invokevirtual 87, 3), (194, .aload_n 0, 1), (195, .getfield 32, 3), (198, .ifCond .le 4, 3), (201, .return_, 1), (202, .iload 4, 2), (204, .bipush 6, 2), (206, .if_icmp .eq 36, 3), (209, .aload_n 0, 1), (210, .iload 4, 2), (212, .bipush 7, 2), (214, .if_icmp .ne 7, 3), (217, .iload_n 2, 1), (218, .goto 9, 3), (221, .aload_n 0, 1), (222, .iload_n 2, 1), (223, .iconst 0, 1), (224, .invokevirtual 44, 3), (227, .iload_n 3, 1), (228, .ifCond .eq 7, 3), (231, .iconst 1, 1), (232, .goto 4, 3), (235, .iconst 0, 1), (236, .invokevirtual 138, 3), (239, .goto 56, 3), (242, .iload_n 3, 1), (243, .ifCond .eq 32, 3), (246, .aload_n 0, 1), (247, .aload_n 0, 1), (248, .iload_n 2, 1), (249, .iconst 0, 1), (250, .invokevirtual 44, 3), (253, .aload_n 0, 1), (254, .iload_n 2, 1), (255, .iconst 1, 1), (256, .invokevirtual 44, 3), (259, .aload_n 0, 1), (260, .iload_n 2, 1), (261, .iconst 3, 1), (262, .invokevirtual 44, 3), (265, .bipush 8, 2), (267, .irem, 1), (268, .iconst 0, 1), (269, .invokevirtual 141, 3), (272, .goto 23, 3), (275, .aload_n 0, 1), (276, .aload_n 0, 1), (277, .iload_n 2, 1), (278, .iconst 0, 1), (279, .invokevirtual 44, 3), (282, .aload_n 0, 1), (283, .iload_n 2, 1), (284, .iconst 1, 1), (285, .invokevirtual 44, 3), (288, .aload_n 0, 1), (289, .invokevirtual 91, 3), (292, .invokevirtual 114, 3), (295, .return_, 1)]
set_option maxRecDepth 100000 in
theorem pg85_ok : ∀ q ∈ pg85, decode prog_6_method_35_code q.1 = .ok (q.2.1, q.2.2) := by decide +kernel
def pg95 : ab_PG := [(0, .iload_n 1, 1), (1, .bipush 18, 2), (3, .if_icmp .gt 10, 3), (6, .aload_n 0, 1), (7, .invokevirtual 161, 3), (10, .goto 4, 3), (13, .iconst 0, 1), (14, .istore 4, 2), (16, .iload_n 1, 1), (17, .bipush 16, 2), (19, .if_icmp .gt 10, 3), (22, .aload_n 0, 1), (23, .invokevirtual 161, 3), (26, .goto 4, 3), (29, .iconst 0, 1), (30, .istore 5, 2), (32, .aload_n 0, 1), (33, .getfield 32, 3), (36, .ifCond .le 4, 3), (39, .return_, 1), (40, .iload_n 1, 1), (41, .tableswitch 112 15 20 #[39, 39, 61, 82, 92, 99], 39), (80, .aload_n 0, 1), (81, .iload 4, 2), (83, .iload 5, 2), (85, .iload_n 1, 1), (86, .bipush 16, 2), (88, .if_icmp .ne 7, 3), (91, .iconst 1, 1), (92, .goto 4, 3), (95, .iconst 0, 1), (96, .invokevirtual 183, 3), (99, .goto 144, 3), (102, .aload_n 0, 1), (103, .invokevirtual 145, 3), (106, .istore 6, 2), (108, .aload_n 0, 1), (109, .iload 6, 2), (111, .aload_n 0, 1), (112, .invokevirtual 145, 3), (115, .iload 4, 2), (117, .invokevirtual 186, 3), (120, .goto 123, 3), (123, .aload_n 0, 1), (124, .iload 4, 2), (126, .iconst 1, 1), (127, .invokevirtual 189, 3), (130, .goto 113, 3), (133, .aload_n 0, 1), (134, .invokevirtual 193, 3), (137, .goto 106, 3), (140, .aload_n 0, 1), (141, .aload_n 0, 1), (142, .getfield 13, 3), (145, .iload_n 2, 1), (146, .iaload, 1), (147, .invokevirtual 196, 3), (150, .goto 93, 3), (153, .aload_n 0, 1), (154, .getfield 13, 3), (157, .iload_n 2, 1), (158, .iaload, 1), (159, .iconst 4, 1), (160, .irem, 1), (161, .aload_n 0, 1), (162, .getfield 13, 3), (165, .iload_n 3, 1), (166, .iaload, 1), (167, .iconst 4, 1), (168, .irem, 1), (169, .if_icmp .ge 7, 3), (172, .iconst 1, 1), (173, .goto 4, 3), (176, .iconst 0, 1), (177, .istore 7, 2), (179, .aload_n 0, 1), (180, .getfield 13, 3), (183, .bipush 6, 2), (185, .aload_n 0, 1), (186, .getfield 13, 3), (189, .bipush 6, 2), (191, .iaload, 1), (192, .iconst 2, 1), (193, .idiv, 1), (194, .iconst 2, 1), (195, .imul, 1), (196, .iload 7, 2), (198, .ifCond .eq 7, 3), (201, .iconst 1, 1), (202, .goto 4, 3), (205, .iconst 0, 1), (206, .iadd, 1), (207, .iastore, 1), (208, .iload 7, 2), (210, .ifCond .eq 33, 3), (213, .aload_n 0, 1), (214, .getfield 13, 3), (217, .iload_n 2, 1), (218, .aload_n 0, 1), (219, .getfield 13, 3), (222, .iload_n 2, 1), (223, .iaload, 1), (224, .aload_n 0, 1), (225, .getfield 13, 3), (228, .iload_n 2, 1), (229, .iaload, 1), (230, .iconst 4, 1), (231, .irem, 1), (232, .isub, 1), (233, .aload_n 0, 1), (234, .getfield 13, 3), (237, .iload_n 3, 1), (238, .iaload, 1), (239, .iconst 4, 1), (240, .irem, 1), (241, .iadd, 1), (242, .iastore, 1), (243, .return_, 1)]
set_option maxRecDepth 100000 in
theorem pg95_ok : ∀ q ∈ pg95, decode prog_6_method_45_code q.1 = .ok (q.2.1, q.2.2) := by decide +kernel
def pg86 : ab_PG := [(0, .aload_n 0, 1), (1, .getfield 32, 3), (4, .ifCond .le 4, 3), (7, .return_, 1), (8, .aload_n 0, 1), (9, .invokevirtual 91, 3), (12, .istore 4, 2), (14, .aload_n 0, 1), (15, .iload_n 2, 1), (16, .iconst 4, 1), (17, .irem, 1), (18, .iload 4, 2), (20, .if_icmp .lt 7, 3), (23, .iconst 1, 1), (24, .goto 4, 3), (27, .iconst 0, 1), (28, .bipush 13, 2), (30, .iload_n 2, 1), (31, .invokevirtual 87, 3), (34, .aload_n 0, 1), (35, .getfield 13, 3), (38, .iconst 4, 1), (39, .aload_n 0, 1), (40, .getfield 13, 3), (43, .iconst 4, 1), (44, .iaload, 1), (45, .iload_n 3, 1), (46, .iadd, 1), (47, .ldc 43, 2), (49, .iand, 1), (50, .iastore, 1), (51, .iload_n 2, 1), (52, .iconst 4, 1), (53, .irem, 1), (54, .iload 4, 2), (56, .if_icmp .ne 12, 3), (59, .aload_n 0, 1), (60, .iload_n 2, 1), (61, .iload_n 1, 1), (62, .iload 4, 2), (64, .invokevirtual 114, 3), (67, .return_, 1), (68, .aload_n 0, 1), (69, .invokevirtual 145, 3), (72, .istore 5, 2), (74, .aload_n 0, 1), (75, .invokevirtual 145, 3), (78, .istore 6, 2), (80, .aload_n 0, 1), (81, .iload_n 2, 1), (82, .iload_n 1, 1), (83, .iload_n 2, 1), (84, .iconst 4, 1), (85, .irem, 1), (86, .invokevirtual 114, 3), (89, .aload_n 0, 1), (90, .iload 6, 2), (92, .invokevirtual 148, 3), (95, .aload_n 0, 1), (96, .getfield 13, 3), (99, .iconst 4, 1), (100, .iload 5, 2), (102, .iload_n 3, 1), (103, .iadd, 1), (104, .ldc 43, 2), (106, .iand, 1), (107, .iastore, 1), (108, .iconst 5, 1), (109, .istore 7, 2), (111, .iload 7, 2), (113, .bipush 10, 2), (115, .if_icmp .gt 51, 3), (118, .aload_n 0, 1), (119, .getfield 32, 3), (122, .ifCond .ne 44, 3), (125, .aload_n 0, 1), (126, .getfield 16, 3), (129, .iload 7, 2), (131, .iconst 4, 1), (132, .iadd, 1), (133, .iaload, 1), (134, .aload_n 0, 1), (135, .invokevirtual 91, 3), (138, .if_icmp .ge 22, 3), (141, .aload_n 0, 1), (142, .getfield 16, 3), (145, .iload 7, 2), (147, .iconst 3, 1), (148, .iadd, 1), (149, .iaload, 1), (150, .iconst 5, 1), (151, .if_icmp .eq 9, 3), (154, .aload_n 0, 1), (155, .iload 7, 2), (157, .invokevirtual 80, 3), (160, .iinc 7 5, 3), (163, .goto (-52), 3), (166, .return_, 1)]
set_option maxRecDepth 100000 in
theorem pg86_ok : ∀ q ∈ pg86, decode prog_6_method_36_code q.1 = .ok (q.2.1, q.2.2) := by decide +kernel
def pg87 : ab_PG := [(0, .aload_n 0, 1), (1, .getfield 32, 3), (4, .ifCond .le 4, 3), (7, .return_, 1), (8, .iconst 4, 1), (9, .bipush 32, 2), (11, .iload_n 1, 1), (12, .iadd, 1), (13, .imul, 1), (14, .istore_n 3, 1), (15, .iload_n 1, 1), (16, .bipush 15, 2), (18, .if_icmp .le 14, 3), (21, .aload_n 0, 1), (22, .bipush 13, 2), (24, .iload_n 3, 1), (25, .ldc 43, 2), (27, .iand, 1), (28, .invokevirtual 39, 3), (31, .return_, 1), (32, .aload_n 0, 1), (33, .iload_n 3, 1), (34, .invokevirtual 48, 3), (37, .istore 4, 2), (39, .aload_n 0, 1), (40, .iload 4, 2), (42, .bipush 9, 2), (44, .if_icmp .eq 10, 3), (47, .iload 4, 2), (49, .bipush 10, 2), (51, .if_icmp .ne 7, 3), (54, .iconst 1, 1), (55, .goto 4, 3), (58, .iconst 0, 1), (59, .bipush 13, 2), (61, .iload_n 3, 1), (62, .invokevirtual 87, 3), (65, .aload_n 0, 1), (66, .iload_n 2, 1), (67, .ifCond .eq 15, 3), (70, .aload_n 0, 1), (71, .iload_n 3, 1), (72, .invokevirtual 56, 3), (75, .aload_n 0, 1), (76, .invokevirtual 91, 3), (79, .if_icmp .lt 7, 3), (82, .iconst 1, 1), (83, .goto 4, 3), (86, .iconst 0, 1), (87, .bipush 13, 2), (89, .iload_n 3, 1), (90, .invokevirtual 87, 3), (93, .aload_n 0, 1), (94, .aload_n 0, 1), (95, .iload_n 3, 1), (96, .invokevirtual 95, 3), (99, .bipush 11, 2), (101, .iload_n 3, 1), (102, .invokevirtual 87, 3), (105, .aload_n 0, 1), (106, .getfield 32, 3), (109, .ifCond .le 4, 3), (112, .return_, 1), (113, .iload 4, 2), (115, .bipush 9, 2), (117, .if_icmp .ne 15, 3), (120, .aload_n 0, 1), (121, .aload_n 0, 1), (122, .iload_n 3, 1), (123, .iconst 0, 1), (124, .invokevirtual 44, 3), (127, .iconst 1, 1), (128, .invokevirtual 138, 3), (131, .return_, 1), (132, .aload_n 0, 1), (133, .aload_n 0, 1), (134, .iload_n 3, 1), (135, .iconst 0, 1), (136, .invokevirtual 44, 3), (139, .aload_n 0, 1), (140, .iload_n 3, 1), (141, .iconst 1, 1), (142, .invokevirtual 44, 3), (145, .iconst 0, 1), (146, .iconst 1, 1), (147, .invokevirtual 141, 3), (150, .aload_n 0, 1), (151, .getfield 13, 3), (154, .bipush 6, 2), (156, .aload_n 0, 1), (157, .getfield 13, 3), (160, .bipush 6, 2), (162, .iaload, 1), (163, .iconst 4, 1), (164, .irem, 1), (165, .iastore, 1), (166, .return_, 1)]
set_option maxRecDepth 100000 in
theorem pg87_ok : ∀ q ∈ pg87, decode prog_6_method_37_code q.1 = .ok (q.2.1, q.2.2) := by decide +kernel
def pg96 : ab_PG := [(0, .aload_n 0, 1), (1, .getfield 13, 3), (4, .bipush 6, 2), (6, .iaload, 1), (7, .iconst 4, 1), (8, .if_icmp .lt 40, 3), (11, .aload_n 0, 1), (12, .getfield 16, 3), (15, .bipush 23, 2), (17, .iaload, 1), (18, .ifCond .ne 13, 3), (21, .aload_n 0, 1), (22, .bipush 10, 2), (24, .iconst 0, 1), (25, .invokevirtual 39, 3), (28, .goto 19, 3), (31, .aload_n 0, 1), (32, .aload_n 0, 1), (33, .aload_n 0, 1), (34, .getfield 16, 3), (37, .bipush 21, 2), (39, .iaload, 1), (40, .invokevirtual 63, 3), (43, .iconst 2, 1), (44, .invokevirtual 138, 3), (47, .return_, 1), (48, .aload_n 0, 1), (49, .invokevirtual 145, 3), (52, .istore_n 1, 1), (53, .aload_n 0, 1), (54, .invokevirtual 145, 3), (57, .istore_n 2, 1), (58, .aload_n 0, 1), (59, .getfield 13, 3), (62, .bipush 6, 2), (64, .aload_n 0, 1), (65, .invokevirtual 145, 3), (68, .bipush 8, 2), (70, .irem, 1), (71, .iastore, 1), (72, .aload_n 0, 1), (73, .iload_n 1, 1), (74, .iload_n 2, 1), (75, .iconst 0, 1), (76, .invokevirtual 186, 3), (79, .return_, 1)]
set_option maxRecDepth 100000 in
theorem pg96_ok : ∀ q ∈ pg96, decode prog_6_method_46_code q.1 = .ok (q.2.1, q.2.2) := by decide +kernel
def pg97 : ab_PG := [(0, .aload_n 0, 1), (1, .invokevirtual 91, 3), (4, .ifCond .ne 10, 3), (7, .iload_n 1, 1), (8, .invokestatic 76, 3), (11, .ifCond .eq 10, 3), (14, .aload_n 0, 1), (15, .bipush 13, 2), (17, .iconst 0, 1), (18, .invokevirtual 39, 3), (21, .aload_n 0, 1), (22, .iload_n 1, 1), (23, .invokestatic 84, 3), (26, .ifCond .ne 7, 3), (29, .iconst 1, 1), (30, .goto 4, 3), (33, .iconst 0, 1), (34, .bipush 13, 2), (36, .iload_n 1, 1), (37, .invokevirtual 87, 3), (40, .aload_n 0, 1), (41, .getfield 32, 3), (44, .ifCond .le 4, 3), (47, .return_, 1), (48, .aload_n 0, 1), (49, .aload_n 0, 1), (50, .iload_n 1, 1), (51, .invokevirtual 48, 3), (54, .bipush 7, 2), (56, .if_icmp .ne 7, 3), (59, .iconst 1, 1), (60, .goto 4, 3), (63, .iconst 0, 1), (64, .bipush 13, 2), (66, .iload_n 1, 1), (67, .invokevirtual 87, 3), (70, .aload_n 0, 1), (71, .aload_n 0, 1), (72, .iload_n 1, 1), (73, .invokevirtual 95, 3), (76, .bipush 11, 2), (78, .iload_n 1, 1), (79, .invokevirtual 87, 3), (82, .aload_n 0, 1), (83, .getfield 32, 3), (86, .ifCond .le 4, 3), (89, .return_, 1), (90, .aload_n 0, 1), (91, .iload_n 1, 1), (92, .bipush 8, 2), (94, .invokevirtual 151, 3), (97, .aload_n 0, 1), (98, .bipush 20, 2), (100, .iload_n 1, 1), (101, .invokevirtual 98, 3), (104, .return_, 1)]
set_option maxRecDepth 100000 in
theorem pg97_ok : ∀ q ∈ pg97, decode prog_6_method_47_code q.1 = .ok (q.2.1, q.2.2) := by decide +kernel
def pg92 : ab_PG := [(0, .aload_n 0, 1), (1, .invokevirtual 161, 3), (4, .istore_n 1, 1), (5, .aload_n 0, 1), (6, .getfield 32, 3), (9, .ifCond .le 4, 3), (12, .return_, 1), (13, .iload_n 1, 1), (14, .bipush 64, 2), (16, .idiv, 1), (17, .istore_n 2, 1), (18, .iload_n 1, 1), (19, .bipush 8, 2), (21, .idiv, 1), (22, .bipush 8, 2), (24, .irem, 1), (25, .istore_n 3, 1), (26, .iload_n 1, 1), (27, .bipush 8, 2), (29, .irem, 1), (30, .istore 4, 2), (32, .iload_n 2, 1), (33, .iload_n 3, 1), (34, .iload 4, 2), (36, .invokestatic 164, 3), (39, .ifCond .ne 11, 3), (42, .aload_n 0, 1), (43, .bipush 6, 2), (45, .iconst 0, 1), (46, .invokevirtual 39, 3), (49, .return_, 1), (50, .iload_n 2, 1), (51, .iconst 5, 1), (52, .if_icmp .gt 14, 3), (55, .aload_n 0, 1), (56, .iload_n 2, 1), (57, .iload_n 3, 1), (58, .iload 4, 2), (60, .invokevirtual 167, 3), (63, .goto 28, 3), (66, .iload_n 2, 1), (67, .bipush 14, 2), (69, .if_icmp .gt 14, 3), (72, .aload_n 0, 1), (73, .iload_n 2, 1), (74, .iload_n 3, 1), (75, .iload 4, 2), (77, .invokevirtual 170, 3), (80, .goto 11, 3), (83, .aload_n 0, 1), (84, .iload_n 2, 1), (85, .iload_n 3, 1), (86, .iload 4, 2), (88, .invokevirtual 173, 3), (91, .return_, 1)]
set_option maxRecDepth 100000 in
theorem pg92_ok : ∀ q ∈ pg92, decode prog_6_method_42_code q.1 = .ok (q.2.1, q.2.2) := by decide +kernel
def pg99 : ab_PG := [(0, .aload_n 0, 1), (1, .iload_n 1, 1), (2, .putfield 205, 3), (5, .aload_n 0, 1), (6, .iload_n 2, 1), (7, .putfield 208, 3), (10, .aload_n 0, 1), (11, .dup, 1), (12, .getfield 211, 3), (15, .iconst 1, 1), (16, .iadd, 1), (17, .putfield 211, 3), (20, .return_, 1)]
set_option maxRecDepth 100000 in
theorem pg99_ok : ∀ q ∈ pg99, decode prog_6_method_49_code q.1 = .ok (q.2.1, q.2.2) := by decide +kernel
def pg55 : ab_PG := [(0, .aload_n 0, 1), (1, .getfield 19, 3), (4, .aload_n 0, 1), (5, .getfield 7, 3), (8, .invokestatic 28, 3), (11, .aload_n 0, 1), (12, .getfield 22, 3), (15, .aload_n 0, 1), (16, .getfield 13, 3), (19, .invokestatic 28, 3), (22, .aload_n 0, 1), (23, .getfield 25, 3), (26, .aload_n 0, 1), (27, .getfield 16, 3), (30, .invokestatic 28, 3), (33, .aload_n 0, 1), (34, .iconst 0, 1), (35, .putfield 32, 3), (38, .aload_n 0, 1), (39, .iconst 0, 1), (40, .putfield 36, 3), (43, .return_, 1)]
set_option maxRecDepth 100000 in
theorem pg55_ok : ∀ q ∈ pg55, decode prog_6_method_5_code q.1 = .ok (q.2.1, q.2.2) := by decide +kernel
def pg98 : ab_PG := [(0, .aload_n 0, 1), (1, .invokevirtual 199, 3), (4, .aload_n 0, 1), (5, .iload_n 1, 1), (6, .iconst 0, 1), (7, .invokevirtual 189, 3), (10, .aload_n 0, 1), (11, .getfield 32, 3), (14, .ifCond .ne 8, 3), (17, .aload_n 0, 1), (18, .iload_n 2, 1), (19, .invokevirtual 107, 3), (22, .aload_n 0, 1), (23, .getfield 32, 3), (26, .ifCond .ne 7, 3), (29, .iconst 1, 1), (30, .goto 4, 3), (33, .iconst 0, 1), (34, .istore_n 3, 1), (35, .iload_n 3, 1), (36, .ifCond .ne 7, 3), (39, .aload_n 0, 1), (40, .invokevirtual 202, 3), (43, .iload_n 3, 1), (44, .ireturn, 1)]
set_option maxRecDepth 100000 in
theorem pg98_ok : ∀ q ∈ pg98, decode prog_6_method_48_code q.1 = .ok (q.2.1, q.2.2) := by decide +kernel
def pg100 : ab_PG := [(0, .aload_n 0, 1), (1, .invokevirtual 199, 3), (4, .aload_n 0, 1), (5, .invokevirtual 214, 3), (8, .aload_n 0, 1), (9, .getfield 32, 3), (12, .ifCond .ne 5, 3), (15, .iconst 1, 1), (16, .ireturn, 1), (17, .aload_n 0, 1), (18, .aload_n 0, 1), (19, .getfield 32, 3), (22, .aload_n 0, 1), (23, .getfield 36, 3), (26, .invokevirtual 217, 3), (29, .aload_n 0, 1), (30, .invokevirtual 202, 3), (33, .aload_n 0, 1), (34, .aload_n 0, 1), (35, .getfield 205, 3), (38, .aload_n 0, 1), (39, .getfield 208, 3), (42, .invokevirtual 220, 3), (45, .ifCond .eq 5, 3), (48, .iconst 1, 1), (49, .ireturn, 1), (50, .aload_n 0, 1), (51, .bipush 8, 2), (53, .iconst 0, 1), (54, .invokevirtual 217, 3), (57, .aload_n 0, 1), (58, .bipush 8, 2), (60, .iconst 0, 1), (61, .invokevirtual 220, 3), (64, .ifCond .eq 5, 3), (67, .iconst 1, 1), (68, .ireturn, 1), (69, .aload_n 0, 1), (70, .iconst 2, 1), (71, .putfield 176, 3), (74, .iconst 0, 1), (75, .ireturn, 1)]
set_option maxRecDepth 100000 in
theorem pg100_ok : ∀ q ∈ pg100, decode prog_6_method_50_code q.1 = .ok (q.2.1, q.2.2) := by decide +kernel
def pg101 : ab_PG := [(0, .iload_n 1, 1), (1, .iconst 0, 1), (2, .iconst 4, 1), (3, .invokestatic 52, 3), (6, .ifCond .ne 5, 3), (9, .iconst (-1), 1), (10, .ireturn, 1), (11, .iconst 0, 1), (12, .istore_n 2, 1), (13, .iconst 0, 1), (14, .istore_n 3, 1), (15, .iload_n 3, 1), (16, .iload_n 1, 1), (17, .if_icmp .ge 31, 3), (20, .aload_n 0, 1), (21, .getfield 176, 3), (24, .ifCond .ne 24, 3), (27, .iload_n 2, 1), (28, .aload_n 0, 1), (29, .invokevirtual 224, 3), (32, .ifCond .eq 7, 3), (35, .iconst 1, 1), (36, .goto 4, 3), (39, .iconst 0, 1), (40, .iadd, 1), (41, .istore_n 2, 1), (42, .iinc 3 1, 3), (45, .goto (-30), 3), (48, .iload_n 2, 1), (49, .ireturn, 1)]
set_option maxRecDepth 100000 in
theorem pg101_ok : ∀ q ∈ pg101, decode prog_6_method_51_code q.1 = .ok (q.2.1, q.2.2) := by decide +kernel
def pg7 : ab_PG := [(0, .aload_n 0, 1), (1, .getfield 71, 3), (4, .ifCond .eq 7, 3), (7, .iconst 1, 1), (8, .goto 4, 3), (11, .iconst 0, 1), (12, .istore_n 1, 1), (13, .aload_n 0, 1), (14, .iconst 0, 1), (15, .putfield 71, 3), (18, .iload_n 1, 1), (19, .ireturn, 1)]
set_option maxRecDepth 100000 in
theorem pg7_ok : ∀ q ∈ pg7, decode prog_1_method_8_code q.1 = .ok (q.2.1, q.2.2) := by decide +kernel
def pg102 : ab_PG := [(0, .aload_n 0, 1), (1, .getfield 176, 3), (4, .ifCond .le 7, 3), (7, .iconst 1, 1), (8, .goto 4, 3), (11, .iconst 0, 1), (12, .istore_n 1, 1), (13, .aload_n 0, 1), (14, .iconst 0, 1), (15, .putfield 176, 3), (18, .iload_n 1, 1), (19, .ireturn, 1)]
set_option maxRecDepth 100000 in
theorem pg102_ok : ∀ q ∈ pg102, decode prog_6_method_52_code q.1 = .ok (q.2.1, q.2.2) := by decide +kernel
def pg8 : ab_PG := [(0, .iload_n 1, 1), (1, .ifCond .lt 16, 3), (4, .iload_n 1, 1), (5, .bipush 7, 2), (7, .if_icmp .ge 10, 3), (10, .aload_n 0, 1), (11, .getfield 16, 3), (14, .iload_n 1, 1), (15, .iaload, 1), (16, .ireturn, 1), (17, .iload_n 1, 1), (18, .tableswitch 59 7 11 #[34, 39, 44, 49, 54], 34), (52, .aload_n 0, 1), (53, .invokevirtual 85, 3), (56, .ireturn, 1), (57, .aload_n 0, 1), (58, .getfield 71, 3), (61, .ireturn, 1), (62, .aload_n 0, 1), (63, .getfield 89, 3), (66, .ireturn, 1), (67, .aload_n 0, 1), (68, .getfield 92, 3), (71, .ireturn, 1), (72, .aload_n 0, 1), (73, .getfield 95, 3), (76, .ireturn, 1), (77, .iconst (-1), 1), (78, .ireturn, 1)]
set_option maxRecDepth 100000 in
theorem pg8_ok : ∀ q ∈ pg8, decode prog_1_method_9_code q.1 = .ok (q.2.1, q.2.2) := by decide +kernel
def pg108 : ab_PG := [(0, .iload_n 1, 1), (1, .iconst 0, 1), (2, .bipush 11, 2), (4, .invokestatic 52, 3), (7, .ifCond .ne 5, 3), (10, .iconst (-1), 1), (11, .ireturn, 1), (12, .iload_n 1, 1), (13, .bipush 7, 2), (15, .if_icmp .ge 10, 3), (18, .aload_n 0, 1), (19, .getfield 13, 3), (22, .iload_n 1, 1), (23, .iaload, 1), (24, .ireturn, 1), (25, .iload_n 1, 1), (26, .bipush 7, 2), (28, .if_icmp .ne 10, 3), (31, .aload_n 0, 1), (32, .invokevirtual 91, 3), (35, .goto 46, 3), (38, .iload_n 1, 1), (39, .bipush 8, 2), (41, .if_icmp .ne 10, 3), (44, .aload_n 0, 1), (45, .getfield 176, 3), (48, .goto 33, 3), (51, .iload_n 1, 1), (52, .bipush 9, 2), (54, .if_icmp .ne 10, 3), (57, .aload_n 0, 1), (58, .getfield 205, 3), (61, .goto 20, 3), (64, .iload_n 1, 1), (65, .bipush 10, 2), (67, .if_icmp .ne 10, 3), (70, .aload_n 0, 1), (71, .getfield 208, 3), (74, .goto 7, 3), (77, .aload_n 0, 1), (78, .getfield 211, 3), (81, .ireturn, 1)]
set_option maxRecDepth 100000 in
theorem pg108_ok : ∀ q ∈ pg108, decode prog_6_method_58_code q.1 = .ok (q.2.1, q.2.2) := by decide +kernel
def pg9 : ab_PG := [(0, .iload_n 1, 1), (1, .ifCond .lt 8, 3), (4, .iload_n 1, 1), (5, .iconst 5, 1), (6, .if_icmp .lt 5, 3), (9, .iconst (-1), 1), (10, .ireturn, 1), (11, .iload_n 2, 1), (12, .tableswitch 86 0 4 #[36, 46, 56, 66, 76], 36), (48, .aload_n 0, 1), (49, .getfield 25, 3), (52, .iload_n 1, 1), (53, .aaload, 1), (54, .getfield 98, 3), (57, .ireturn, 1), (58, .aload_n 0, 1), (59, .getfield 25, 3), (62, .iload_n 1, 1), (63, .aaload, 1), (64, .getfield 101, 3), (67, .ireturn, 1), (68, .aload_n 0, 1), (69, .getfield 25, 3), (72, .iload_n 1, 1), (73, .aaload, 1), (74, .getfield 104, 3), (77, .ireturn, 1), (78, .aload_n 0, 1), (79, .getfield 25, 3), (82, .iload_n 1, 1), (83, .aaload, 1), (84, .getfield 107, 3), (87, .ireturn, 1), (88, .aload_n 0, 1), (89, .getfield 25, 3), (92, .iload_n 1, 1), (93, .aaload, 1), (94, .getfield 110, 3), (97, .ireturn, 1), (98, .iconst (-1), 1), (99, .ireturn, 1)]
set_option maxRecDepth 100000 in
theorem pg9_ok : ∀ q ∈ pg9, decode prog_1_method_10_code q.1 = .ok (q.2.1, q.2.2) := by decide +kernel
def pg109 : ab_PG := [(0, .iload_n 1, 1), (1, .iconst 0, 1), (2, .iconst 4, 1), (3, .invokestatic 52, 3), (6, .ifCond .eq 25, 3), (9, .iload_n 2, 1), (10, .iconst 0, 1), (11, .iconst 4, 1), (12, .invokestatic 52, 3), (15, .ifCond .eq 16, 3), (18, .aload_n 0, 1), (19, .getfield 16, 3), (22, .iconst 5, 1), (23, .iload_n 1, 1), (24, .imul, 1), (25, .iload_n 2, 1), (26, .iadd, 1), (27, .iaload, 1), (28, .goto 4, 3), (31, .iconst (-1), 1), (32, .ireturn, 1)]
set_option maxRecDepth 100000 in
theorem pg109_ok : ∀ q ∈ pg109, decode prog_6_method_59_code q.1 = .ok (q.2.1, q.2.2) := by decide +kernel
def pgL : ab_PG := [(0, .new 7, 3), (3, .dup, 1), (4, .invokespecial 9, 3), (7, .astore_n 1, 1), (8, .new 10, 3), (11, .dup, 1), (12, .invokespecial 12, 3), (15, .astore_n 2, 1), (16, .iconst 0, 1), (17, .istore_n 3, 1), (18, .iload_n 3, 1), (19, .aload_n 0, 1), (20, .arraylength, 1), (21, .bipush 7, 2), (23, .isub, 1), (24, .if_icmp .gt 371, 3), (27, .aload_n 0, 1), (28, .iload_n 3, 1), (29, .iaload, 1), (30, .bipush 15, 2), (32, .iand, 1), (33, .tableswitch 356 0 8 #[51, 84, 107, 198, 231, 264, 287, 300, 323], 51), (84, .aload_n 1, 1), (85, .aload_n 0, 1), (86, .iload_n 3, 1), (87, .iconst 1, 1), (88, .iadd, 1), (89, .iaload, 1), (90, .aload_n 0, 1), (91, .iload_n 3, 1), (92, .iconst 2, 1), (93, .iadd, 1), (94, .iaload, 1), (95, .invokevirtual 13, 3), (98, .aload_n 2, 1), (99, .aload_n 0, 1), (100, .iload_n 3, 1), (101, .iconst 1, 1), (102, .iadd, 1), (103, .iaload, 1), (104, .aload_n 0, 1), (105, .iload_n 3, 1), (106, .iconst 2, 1), (107, .iadd, 1), (108, .iaload, 1), (109, .invokevirtual 17, 3), (112, .if_icmp .eq 277, 3), (115, .iconst 0, 1), (116, .ireturn, 1), (117, .aload_n 1, 1), (118, .aload_n 0, 1), (119, .iload_n 3, 1), (120, .iconst 1, 1), (121, .iadd, 1), (122, .iaload, 1), (123, .invokevirtual 18, 3), (126, .pop, 1), (127, .aload_n 2, 1), (128, .aload_n 0, 1), (129, .iload_n 3, 1), (130, .iconst 1, 1), (131, .iadd, 1), (132, .iaload, 1), (133, .invokevirtual 22, 3), (136, .pop, 1), (137, .goto 252, 3), (140, .aload_n 1, 1), (141, .aload_n 0, 1), (142, .iload_n 3, 1), (143, .iconst 1, 1), (144, .iadd, 1), (145, .iaload, 1), (146, .aload_n 0, 1), (147, .iload_n 3, 1), (148, .iconst 2, 1), (149, .iadd, 1), (150, .iaload, 1), (151, .aload_n 0, 1), (152, .iload_n 3, 1), (153, .iconst 3, 1), (154, .iadd, 1), (155, .iaload, 1), (156, .aload_n 0, 1), (157, .iload_n 3, 1), (158, .iconst 4, 1), (159, .iadd, 1), (160, .iaload, 1), (161, .aload_n 0, 1), (162, .iload_n 3, 1), (163, .iconst 5, 1), (164, .iadd, 1), (165, .iaload, 1), (166, .aload_n 0, 1), (167, .iload_n 3, 1), (168, .bipush 6, 2), (170, .iadd, 1), (171, .iaload, 1), (172, .ifCond .eq 7, 3), (175, .iconst 1, 1), (176, .goto 4, 3), (179, .iconst 0, 1), (180, .invokevirtual 23, 3), (183, .pop, 1), (184, .aload_n 2, 1), (185, .aload_n 0, 1), (186, .iload_n 3, 1), (187, .iconst 1, 1), (188, .iadd, 1), (189, .iaload, 1), (190, .aload_n 0, 1), (191, .iload_n 3, 1), (192, .iconst 2, 1), (193, .iadd, 1), (194, .iaload, 1), (195, .aload_n 0, 1), (196, .iload_n 3, 1), (197, .iconst 3, 1), (198, .iadd, 1), (199, .iaload, 1), (200, .aload_n 0, 1), (201, .iload_n 3, 1), (202, .iconst 4, 1), (203, .iadd, 1), (204, .iaload, 1), (205, .aload_n 0, 1), (206, .iload_n 3, 1), (207, .iconst 5, 1), (208, .iadd, 1), (209, .iaload, 1), (210, .aload_n 0, 1), (211, .iload_n 3, 1), (212, .bipush 6, 2), (214, .iadd, 1), (215, .iaload, 1), (216, .ifCond .eq 7, 3), (219, .iconst 1, 1), (220, .goto 4, 3), (223, .iconst 0, 1), (224, .invokevirtual 27, 3), (227, .pop, 1), (228, .goto 161, 3), (231, .aload_n 1, 1), (232, .aload_n 0, 1), (233, .iload_n 3, 1), (234, .iconst 1, 1), (235, .iadd, 1), (236, .iaload, 1), (237, .aload_n 0, 1), (238, .iload_n 3, 1), (239, .iconst 2, 1), (240, .iadd, 1), (241, .iaload, 1), (242, .invokevirtual 28, 3), (245, .pop, 1), (246, .aload_n 2, 1), (247, .aload_n 0, 1), (248, .iload_n 3, 1), (249, .iconst 1, 1), (250, .iadd, 1), (251, .iaload, 1), (252, .aload_n 0, 1), (253, .iload_n 3, 1), (254, .iconst 2, 1), (255, .iadd, 1), (256, .iaload, 1), (257, .invokevirtual 31, 3), (260, .pop, 1), (261, .goto 128, 3), (264, .aload_n 1, 1), (265, .aload_n 0, 1), (266, .iload_n 3, 1), (267, .iconst 1, 1), (268, .iadd, 1), (269, .iaload, 1), (270, .aload_n 0, 1), (271, .iload_n 3, 1), (272, .iconst 2, 1), (273, .iadd, 1), (274, .iaload, 1), (275, .invokevirtual 32, 3), (278, .pop, 1), (279, .aload_n 2, 1), (280, .aload_n 0, 1), (281, .iload_n 3, 1), (282, .iconst 1, 1), (283, .iadd, 1), (284, .iaload, 1), (285, .aload_n 0, 1), (286, .iload_n 3, 1), (287, .iconst 2, 1), (288, .iadd, 1), (289, .iaload, 1), (290, .invokevirtual 35, 3), (293, .pop, 1), (294, .goto 95, 3), (297, .aload_n 1, 1), (298, .aload_n 0, 1), (299, .iload_n 3, 1), (300, .iconst 1, 1), (301, .iadd, 1), (302, .iaload, 1), (303, .invokevirtual 36, 3), (306, .pop, 1), (307, .aload_n 2, 1), (308, .aload_n 0, 1), (309, .iload_n 3, 1), (310, .iconst 1, 1), (311, .iadd, 1), (312, .iaload, 1), (313, .invokevirtual 39, 3), (316, .pop, 1), (317, .goto 72, 3), (320, .aload_n 1, 1), (321, .invokevirtual 40, 3), (324, .pop, 1), (325, .aload_n 2, 1), (326, .invokevirtual 44, 3), (329, .pop, 1), (330, .goto 59, 3), (333, .aload_n 1, 1), (334, .aload_n 0, 1), (335, .iload_n 3, 1), (336, .iconst 1, 1), (337, .iadd, 1), (338, .iaload, 1), (339, .invokevirtual 45, 3), (342, .pop, 1), (343, .aload_n 2, 1), (344, .aload_n 0, 1), (345, .iload_n 3, 1), (346, .iconst 1, 1), (347, .iadd, 1), (348, .iaload, 1), (349, .invokevirtual 48, 3), (352, .pop, 1), (353, .goto 36, 3), (356, .aload_n 1, 1), (357, .aload_n 0, 1), (358, .iload_n 3, 1), (359, .iconst 1, 1), (360, .iadd, 1), (361, .iaload, 1), (362, .aload_n 0, 1), (363, .iload_n 3, 1), (364, .iconst 2, 1), (365, .iadd, 1), (366, .iaload, 1), (367, .invokevirtual 49, 3), (370, .pop, 1), (371, .aload_n 2, 1), (372, .aload_n 0, 1), (373, .iload_n 3, 1), (374, .iconst 1, 1), (375, .iadd, 1), (376, .iaload, 1), (377, .aload_n 0, 1), (378, .iload_n 3, 1), (379, .iconst 2, 1), (380, .iadd, 1), (381, .iaload, 1), (382, .invokevirtual 53, 3), (385, .pop, 1), (386, .goto 3, 3), (389, .iinc 3 7, 3), (392, .goto (-374), 3), (395, .iconst 1, 1), (396, .ireturn, 1)]
set_option maxRecDepth 100000 in
theorem pgL_ok : ∀ q ∈ pgL, decode code q.1 = .ok (q.2.1, q.2.2) := by decide +kernel
end
section
theorem cp_nat {k : Nat} (h : k < 2147483648) : (Int32.ofNat k).toInt = (k : Int) ∧ (Int32.ofNat k).toNatClampNeg = k := by
  have e : (Int32.ofNat k).toInt = (k : Int) := by
    have : Int32.ofNat k = Int32.ofInt (k : Int) := rfl
    rw [this, Int32.toInt_ofInt]
    exact ab_bm (by omega) (by omega)
  refine ⟨e, ?_⟩
  show (Int32.ofNat k).toInt.toNat = k
  rw [e]
  omega
def cp_D (cc : ByteArray) : Prop := decode cc 0 = .ok (.iconst 0, 1) ∧ decode cc 1 = .ok (.istore_n 2, 1) ∧ decode cc 2 = .ok (.iload_n 2, 1) ∧ decode cc 3 = .ok (.aload_n 0, 1) ∧ decode cc 4 = .ok (.arraylength, 1) ∧ decode cc 5 = .ok (.if_icmp .ge 15, 3) ∧ decode cc 8 = .ok (.aload_n 1, 1) ∧ decode cc 9 = .ok (.iload_n 2, 1) ∧ decode cc 10 = .ok (.aload_n 0, 1) ∧ decode cc 11 = .ok (.iload_n 2, 1) ∧ decode cc 12 = .ok (.iaload, 1) ∧ decode cc 13 = .ok (.iastore, 1) ∧ decode cc 14 = .ok (.iinc 2 1, 3) ∧ decode cc 17 = .ok (.goto (-15), 3) ∧ decode cc 20 = .ok (.return_, 1)
section
variable {p : Program} {l : Launch} {e : Env} {R : Room} {s : State} {m : MethodId} {args : Array Value} {below : List Frame} {meth : Method} {c : Code} {Q : State → Prop} {cc : ByteArray} {own : String} {D : va_G} {cl : List vw_C} {rn : List String} {A : Nat → Prop} {Ts : List Cond} {dT : Nat → ClassId}
theorem cp_loop (X : ab_X p s m args c cc own 3 D cl (ab_tys dT rn) A Ts) (hd : cp_D cc) {n q0 q1 : Nat} (hn : n < 2147483648) {f : Nat → Int32} {B : Nat → Int32 → Prop} (hB : ∀ i, i < n → B i (f i))
    (fin : ∀ (g : Nat → Int32) (H : Heap) (locs : List Loc) (ls : Array Slot), va_P D cl [(q0, .inl (dT 0, n, .inl f)), (q1, .inl (dT 0, n, .inl g))] H → va_D A [(q0, .inl (dT 0, n, .inl f)), (q1, .inl (dT 0, n, .inl g))] → va_S A s.heap H locs → (∀ i, i < n → B i (g i)) → W p l e R s m args below meth c H locs 0 0 Q (F0 m 20 ls [])) :
    ∀ (d k : Nat) (g : Nat → Int32) (H : Heap) (locs : List Loc) (ls : Array Slot), k + d = n → va_P D cl [(q0, .inl (dT 0, n, .inl f)), (q1, .inl (dT 0, n, .inl g))] H → va_D A [(q0, .inl (dT 0, n, .inl f)), (q1, .inl (dT 0, n, .inl g))] → va_S A s.heap H locs → (∀ i, i < n → B i (g i)) → lv_has ls 3 [(2, .int (Int32.ofNat k)), (0, .ref q0), (1, .ref q1)] → W p l e R s m args below meth c H locs 0 0 Q (F0 m 2 ls []) := by
  obtain ⟨-, -, d2, d3, d4, d5, d8, d9, d10, d11, d12, d13, d14, d17, -⟩ := hd
  intro d
  induction d with
  | zero =>
    intro k g H locs ls hk hP hD hS hg hl
    refine lv_iload_n X.1 X.2.1 d2 rfl (lv_at hl 0 rfl) ?_
    refine lv_aload_n X.1 X.2.1 d3 rfl (lv_at hl 1 rfl) ?_
    refine va_alen X.1 X.2.1 X.2.2.2.2.2.1 hP 0 0 rfl rfl rfl d4 ?_
    refine lv_icmp_ge X.1 X.2.1 d5 (tgt := 20) (by decide) (fun _ => fin g H locs ls hP hD hS hg) (fun h => ?_)
    exact absurd (by rw [Int32.le_iff_toInt_le, (cp_nat hn).1, (cp_nat (k := k) (by omega)).1]; omega) h
  | succ d ih =>
    intro k g H locs ls hk hP hD hS hg hl
    refine lv_iload_n X.1 X.2.1 d2 rfl (lv_at hl 0 rfl) ?_
    refine lv_aload_n X.1 X.2.1 d3 rfl (lv_at hl 1 rfl) ?_
    refine va_alen X.1 X.2.1 X.2.2.2.2.2.1 hP 0 0 rfl rfl rfl d4 ?_
    refine lv_icmp_ge X.1 X.2.1 d5 (tgt := 20) (by decide) (fun h => ?_) (fun _ => ?_)
    · rw [Int32.le_iff_toInt_le, (cp_nat hn).1, (cp_nat (k := k) (by omega)).1] at h
      omega
    · have hkn : k < n := by omega
      have hck := (cp_nat (k := k) (by omega))
      have hin : vp_in (Int32.ofNat k) n := by
        intro q
        rcases q with q | q
        · have := Int32.lt_iff_toInt_lt.mp q
          rw [Int32.toInt_zero, hck.1] at this
          omega
        · rw [hck.2] at q
          omega
      refine lv_aload_n X.1 X.2.1 d8 rfl (lv_at hl 2 rfl) ?_
      refine lv_iload_n X.1 X.2.1 d9 rfl (lv_at hl 0 rfl) ?_
      refine lv_aload_n X.1 X.2.1 d10 rfl (lv_at hl 1 rfl) ?_
      refine lv_iload_n X.1 X.2.1 d11 rfl (lv_at hl 0 rfl) ?_
      refine va_iald X.1 X.2.1 X.2.2.2.2.2.1 hP 0 0 rfl rfl hin d12 ?_
      refine va_iast X.1 X.2.1 X.2.2.2.2.2.1 hP hD hS 1 0 rfl rfl hin d13 (fun H1 locs1 r1 r2 r3 => ?_)
      refine lv_iinc (k := 0) (v := Int32.ofNat (k + 1)) X.1 X.2.1 d14 hl rfl (Int32.ofNat_add k 1).symm (by decide) rfl (fun ls' h' => ?_)
      refine lv_goto X.1 X.2.1 d17 (tgt := 2) (by decide) ?_
      refine ih (k + 1) (upd g (Int32.ofNat k).toNatClampNeg (f (Int32.ofNat k).toNatClampNeg)) H1 locs1 ls' (by omega) r1 r2 r3 (fun i hi => ?_) h'
      unfold upd
      split
      · rename_i hz
        rw [hck.2] at hz ⊢
        rw [hz]
        exact hB k hkn
      · exact hg i hi
end
theorem cp_met (l : Launch) {cl : List vw_C} {rn : List String} {SL : ab_SL} {NF : ab_NF} {NM : ab_NM} {Tc : List Cond} {y : MethodName} {cc : ByteArray} (hpl : plainName y.cls = true) (hd : cp_D cc) (n : Nat) (hn : n < 2147483648) (lo hi lo0 hi0 lo1 hi1 lo2 hi2 lo3 hi3 lo4 hi4 : Int) (h3 : min lo lo1 = lo3) (h4 : max hi hi1 = hi3) (h5 : min lo0 lo2 = lo4) (h6 : max hi0 hi2 = hi4) :
    ab_met l cl rn SL NF NM Tc y cc 3 none [] 2 [(0, .inr (.inl (n, lo, hi, lo0, hi0))), (1, .inr (.inl (n, lo1, hi1, lo2, hi2)))] [(1, 0), (1, 1)] [([], 2, [(0, .inr (.inl (n, lo, hi, lo0, hi0))), (1, .inr (.inl (n, lo3, hi3, lo4, hi4)))], none)] { frames := 0, cells := 0, slots := 0, locals := 0 } := by
  intro D sa dT vs0 hs0 ws vals sz he hnh hw ha
  subst h3
  subst h4
  subst h5
  subst h6
  refine Met.ofW (cc := cc) (maxL := 3) (ret := none) hpl rfl ?_
  intro p e s m args below meth c s₁ B hml hv
  obtain ⟨rfl, hsz, hP, hK, hD0, hSX⟩ := hv
  have hts := atoms_spec (ws := .code y cc 3 none :: Tc) B.pre
  have hts2 : ∀ w ∈ Tc, w.before vals.toArray s = true := fun w h => hts w (List.mem_cons_of_mem _ h)
  have hown : s.vm.findClass y.cls = some m.cls := findClass_of_methodNamed B.named
  subst hsz
  have hD := hD0.self (sz := s.heap.size)
  have X : ab_X p s m vals.toArray c cc y.cls 3 D cl (ab_tys dT rn) (va_A ws s.heap.size) Tc := ⟨B.exec, B.bytes, hml, hown, hts2, hK, fun q h => Or.inr h⟩
  have hlk := B.notSynchronized
  have hrt := B.returns
  obtain ⟨q0, e0, g01, g02, g03⟩ := hw.2 0 0 _ rfl
  obtain ⟨q1, e1, g11, g12, g13⟩ := hw.2 1 1 _ rfl
  obtain ⟨f, rfl, hf⟩ := g03
  obtain ⟨g, rfl, hg⟩ := g13
  have hws : ws = [(q0, .inl (dT 0, n, .inl f)), (q1, .inl (dT 0, n, .inl g))] := by
    have hl := hw.1
    match ws, hl, g02, g12 with
    | [a, b], _, h1, h2 =>
      cases h1
      cases h2
      rfl
  have hva : vals = [.ref q0, .ref q1] := by
    have hl := ab_lenL ha
    match vals, hl, ha with
    | [a, b], _, h =>
      simp only [List.map_cons, List.map_nil, List.cons.injEq] at h
      obtain ⟨x, k1, k2⟩ := ab_cv1 h.1
      obtain ⟨x2, k3, k4⟩ := ab_cv1 h.2.1
      rw [g01] at k1
      rw [g11] at k3
      cases k1
      cases k3
      rw [k2, k4]
  have hl := lv_entry vals (n := 3) (by rw [(ab_lo_ok _ _ 0 ha).2.2, ← ab_lenL ha]; decide)
  rw [lg_entry_eq]
  generalize (lg_sl vals ++ List.replicate (3 - (lg_sl vals).length) Slot.unset).toArray = ls at hl ⊢
  rw [hva] at hl
  have hl : lv_has ls 3 [(0, .ref q0), (1, .ref q1)] := hl
  obtain ⟨d0, d1, -⟩ := id hd
  have d20 : decode cc 20 = .ok (.return_, 1) := hd.2.2.2.2.2.2.2.2.2.2.2.2.2.2
  refine lv_iconst (v := 0) B.exec B.bytes d0 rfl ?_
  refine lv_istore_n B.exec B.bytes d1 rfl hl (by decide) rfl (fun ls' h' => ?_)
  have h' : lv_has ls' 3 [(2, .int (Int32.ofNat 0)), (0, .ref q0), (1, .ref q1)] := h'
  rw [hws] at hP
  have hD2 : va_D (va_A ws s.heap.size) [(q0, .inl (dT 0, n, .inl f)), (q1, .inl (dT 0, n, .inl g))] := by rw [← hws]; exact hD
  refine cp_loop (B := fun i x => ab_in (ab_b5 (min lo lo1) (max hi hi1) (min lo0 lo2) (max hi0 hi2) i) x) X hd hn (fun i hi => ab_b5_l (hf i hi)) (fun g2 H locs ls2 k1 k2 k3 k4 => ?_) n 0 g s.heap [] ls' (by omega) hP hD2 va_S.rf (fun i hi => ab_b5_r (hg i hi)) h'
  refine W.vret B.exec B.bytes hrt (fun t ht hW => ⟨⟨_, List.mem_cons_self, [], [], [(q0, .inl (dT 0, n, .inl f)), (q1, .inl (dT 0, n, .inl g2))], none, ?_, ?_, rfl, rfl, ?_, ?_, k2⟩, k3.F ht⟩) k3.2.2 d20 hlk
  · rw [List.append_nil]
    exact he
  · rw [List.append_nil]
    exact hnh
  · rw [List.append_nil, List.append_nil]
    refine ⟨rfl, fun j a x hj => ?_⟩
    match j, hj with
    | 0, hj =>
      cases hj
      exact ⟨q0, _, g01, rfl, f, rfl, hf⟩
    | 1, hj =>
      cases hj
      exact ⟨q1, _, g11, rfl, g2, rfl, k4⟩
    | j + 2, hj => cases hj
  · rw [ht]
    exact k1
theorem copy_D : cp_D prog_6_method_3_code := ⟨by decide +kernel, by decide +kernel, by decide +kernel, by decide +kernel, by decide +kernel, by decide +kernel, by decide +kernel, by decide +kernel, by decide +kernel, by decide +kernel, by decide +kernel, by decide +kernel, by decide +kernel, by decide +kernel, by decide +kernel⟩
end
