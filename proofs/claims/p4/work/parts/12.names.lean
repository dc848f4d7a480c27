def nT0 : u_T := fun k => match k with
  | 0 => ("LevelMachine$Instruction", "operation", "I", false)
  | 1 => ("LevelMachine$Instruction", "\x72", "I", false)
  | 2 => ("LevelMachine$Instruction", "q", "I", false)
  | 3 => ("LevelMachine$Instruction", "n", "I", false)
  | _ => ("LevelMachine$Instruction", "m", "I", false)
def nY0 : Nat → FieldType := fun k => match k with
  | 0 => .int
  | 1 => .int
  | 2 => .int
  | 3 => .int
  | _ => .int
theorem nN0 : ∀ a, a < 5 → ∀ b, b < 5 → a ≠ b → (nT0 a).2.1 ≠ (nT0 b).2.1 := by decide +kernel
theorem nP0 : ∀ k, k < 5 → parseFieldDescriptor (nT0 k).2.2.1 = some (nY0 k) := by decide +kernel
def nT1 : u_T := fun k => match k with
  | 0 => ("LevelMachine$Memory", "words", "[I", true)
  | _ => ("LevelMachine$Memory", "before", "[I", true)
def nY1 : Nat → FieldType := fun k => match k with
  | 0 => .array .int
  | _ => .array .int
theorem nN1 : ∀ a, a < 2 → ∀ b, b < 2 → a ≠ b → (nT1 a).2.1 ≠ (nT1 b).2.1 := by decide +kernel
theorem nP1 : ∀ k, k < 2 → parseFieldDescriptor (nT1 k).2.2.1 = some (nY1 k) := by decide +kernel
def nT2 : u_T := fun k => match k with
  | 0 => ("LevelMachine$Segment", "beyond", "I", true)
  | 1 => ("LevelMachine$Segment", "selector", "I", false)
  | 2 => ("LevelMachine$Segment", "base", "I", false)
  | 3 => ("LevelMachine$Segment", "limit", "I", false)
  | 4 => ("LevelMachine$Segment", "kind", "I", false)
  | _ => ("LevelMachine$Segment", "rank", "I", false)
def nY2 : Nat → FieldType := fun k => match k with
  | 0 => .int
  | 1 => .int
  | 2 => .int
  | 3 => .int
  | 4 => .int
  | _ => .int
theorem nN2 : ∀ a, a < 6 → ∀ b, b < 6 → a ≠ b → (nT2 a).2.1 ≠ (nT2 b).2.1 := by decide +kernel
theorem nP2 : ∀ k, k < 6 → parseFieldDescriptor (nT2 k).2.2.1 = some (nY2 k) := by decide +kernel
def nT3 : u_T := fun k => match k with
  | 0 => ("LevelMachine", "memory", "LLevelMachine$Memory;", true)
  | 1 => ("LevelMachine", "registers", "[I", true)
  | 2 => ("LevelMachine", "registersBefore", "[I", true)
  | 3 => ("LevelMachine", "segments", "[LLevelMachine$Segment;", true)
  | 4 => ("LevelMachine", "segmentsBefore", "[LLevelMachine$Segment;", true)
  | 5 => ("LevelMachine", "outerStack", "LLevelMachine$Segment;", true)
  | 6 => ("LevelMachine", "now", "LLevelMachine$Instruction;", true)
  | 7 => ("LevelMachine", "halt", "I", false)
  | 8 => ("LevelMachine", "raisedNumber", "I", false)
  | 9 => ("LevelMachine", "raisedCode", "I", false)
  | 10 => ("LevelMachine", "latestNumber", "I", false)
  | 11 => ("LevelMachine", "latestCode", "I", false)
  | _ => ("LevelMachine", "faults", "I", false)
def nY3 : Nat → FieldType := fun k => match k with
  | 0 => .object "LevelMachine$Memory"
  | 1 => .array .int
  | 2 => .array .int
  | 3 => .array (.object "LevelMachine$Segment")
  | 4 => .array (.object "LevelMachine$Segment")
  | 5 => .object "LevelMachine$Segment"
  | 6 => .object "LevelMachine$Instruction"
  | 7 => .int
  | 8 => .int
  | 9 => .int
  | 10 => .int
  | 11 => .int
  | _ => .int
theorem nN3 : ∀ a, a < 13 → ∀ b, b < 13 → a ≠ b → (nT3 a).2.1 ≠ (nT3 b).2.1 := by decide +kernel
theorem nP3 : ∀ k, k < 13 → parseFieldDescriptor (nT3 k).2.2.1 = some (nY3 k) := by decide +kernel
def nT4 : u_T := fun k => match k with
  | 0 => ("LevelMachineModel", "memory", "[I", true)
  | 1 => ("LevelMachineModel", "registers", "[I", true)
  | 2 => ("LevelMachineModel", "segments", "[I", true)
  | 3 => ("LevelMachineModel", "memoryBefore", "[I", true)
  | 4 => ("LevelMachineModel", "registersBefore", "[I", true)
  | 5 => ("LevelMachineModel", "segmentsBefore", "[I", true)
  | 6 => ("LevelMachineModel", "mode", "I", false)
  | 7 => ("LevelMachineModel", "fault", "I", false)
  | 8 => ("LevelMachineModel", "code", "I", false)
  | 9 => ("LevelMachineModel", "latest", "I", false)
  | 10 => ("LevelMachineModel", "latestCode", "I", false)
  | 11 => ("LevelMachineModel", "faults", "I", false)
  | 12 => ("LevelMachineModel", "oldSelector", "I", false)
  | 13 => ("LevelMachineModel", "oldBase", "I", false)
  | 14 => ("LevelMachineModel", "oldLimit", "I", false)
  | 15 => ("LevelMachineModel", "oldKind", "I", false)
  | _ => ("LevelMachineModel", "oldPlace", "I", false)
def nY4 : Nat → FieldType := fun k => match k with
  | 0 => .array .int
  | 1 => .array .int
  | 2 => .array .int
  | 3 => .array .int
  | 4 => .array .int
  | 5 => .array .int
  | 6 => .int
  | 7 => .int
  | 8 => .int
  | 9 => .int
  | 10 => .int
  | 11 => .int
  | 12 => .int
  | 13 => .int
  | 14 => .int
  | 15 => .int
  | _ => .int
theorem nN4 : ∀ a, a < 17 → ∀ b, b < 17 → a ≠ b → (nT4 a).2.1 ≠ (nT4 b).2.1 := by decide +kernel
theorem nP4 : ∀ k, k < 17 → parseFieldDescriptor (nT4 k).2.2.1 = some (nY4 k) := by decide +kernel
def nCl : List vw_C := [("LevelMachine$Instruction", nT0, 5), ("LevelMachine$Memory", nT1, 2), ("LevelMachine$Segment", nT2, 6), ("LevelMachine", nT3, 13), ("LevelMachineModel", nT4, 17)]
def nRn : List String := ["LevelMachine$Segment"]
def nSL : ab_SL := [("LevelMachine$Instruction", "MOST_Q", "[I", [7, 7, 4, 4, 4, 4, 3, 3, 7, 7, 7, 7, 7, 3, 4, 7, 7, 7, 7, 7, 7, 4]), ("LevelMachine$Instruction", "TAILS", "[I", [0, 1, 0, 0, 0, 0, 1, 1, 1, 1, 1, 0, 0, 0, 0, 2, 2, 1, 1, 0, 0, 0])]
def nNF : ab_NF := [("LevelMachine", 157, "LevelMachine$Segment", "beyond", "I", "LevelMachine"), ("LevelMachine", 98, "LevelMachine$Segment", "selector", "I", "LevelMachine"), ("LevelMachine", 101, "LevelMachine$Segment", "base", "I", "LevelMachine"), ("LevelMachine", 104, "LevelMachine$Segment", "limit", "I", "LevelMachine"), ("LevelMachine", 107, "LevelMachine$Segment", "kind", "I", "LevelMachine"), ("LevelMachine", 110, "LevelMachine$Segment", "rank", "I", "LevelMachine"), ("LevelMachine", 195, "LevelMachine$Instruction", "operation", "I", "LevelMachine"), ("LevelMachine", 189, "LevelMachine$Instruction", "\x72", "I", "LevelMachine"), ("LevelMachine", 192, "LevelMachine$Instruction", "q", "I", "LevelMachine"), ("LevelMachine", 180, "LevelMachine$Instruction", "n", "I", "LevelMachine"), ("LevelMachine", 183, "LevelMachine$Instruction", "m", "I", "LevelMachine")]
def nNM : ab_NM := [("LevelMachine", 41, ⟨"LevelMachine$Instruction", "<init>", "()V"⟩, "LevelMachine")]
def nTc : List Cond := lw_tbl.filter goodWord
theorem nT (k : Nat) {w : Cond} (h : tables_1[k]? = some w) (hg : goodWord w = true) : w ∈ nTc := List.mem_filter.mpr ⟨List.mem_append_right _ (List.mem_of_getElem? h), hg⟩
theorem nS (k : Nat) {q : MethodName × Nat} (h : lw_privs[k]? = some q) : Cond.selects q.1.cls q.1 q.1 ∈ nTc := List.mem_filter.mpr ⟨List.mem_append_left _ (List.mem_map.mpr ⟨q, List.mem_of_getElem? h, rfl⟩), rfl⟩
theorem nG {w0 : Cond} (h : w0 ∈ nTc) : GoodIn nTc (w0 :: nTc) := by
  intro w hw
  rcases List.mem_cons.mp hw with rfl | hw
  · exact ⟨h, good_of_word (List.mem_filter.mp h).2⟩
  · exact ⟨hw, good_of_word (List.mem_filter.mp hw).2⟩
theorem nU0 : ∀ w ∈ u_ws "LevelMachine$Instruction" nT0 5, w ∈ nTc := by
  intro w hw
  obtain ⟨k, hk, rfl⟩ := List.mem_map.mp hw
  have hk := List.mem_range.mp hk
  rcases (show k = 0 ∨ k = 1 ∨ k = 2 ∨ k = 3 ∨ k = 4 by omega) with rfl | rfl | rfl | rfl | rfl
  · exact nT 75 (by decide +kernel) rfl
  · exact nT 77 (by decide +kernel) rfl
  · exact nT 79 (by decide +kernel) rfl
  · exact nT 81 (by decide +kernel) rfl
  · exact nT 83 (by decide +kernel) rfl
theorem nU1 : ∀ w ∈ u_ws "LevelMachine$Memory" nT1 2, w ∈ nTc := by
  intro w hw
  obtain ⟨k, hk, rfl⟩ := List.mem_map.mp hw
  have hk := List.mem_range.mp hk
  rcases (show k = 0 ∨ k = 1 by omega) with rfl | rfl
  · exact nT 23 (by decide +kernel) rfl
  · exact nT 25 (by decide +kernel) rfl
theorem nU2 : ∀ w ∈ u_ws "LevelMachine$Segment" nT2 6, w ∈ nTc := by
  intro w hw
  obtain ⟨k, hk, rfl⟩ := List.mem_map.mp hw
  have hk := List.mem_range.mp hk
  rcases (show k = 0 ∨ k = 1 ∨ k = 2 ∨ k = 3 ∨ k = 4 ∨ k = 5 by omega) with rfl | rfl | rfl | rfl | rfl | rfl
  · exact nT 48 (by decide +kernel) rfl
  · exact nT 50 (by decide +kernel) rfl
  · exact nT 52 (by decide +kernel) rfl
  · exact nT 54 (by decide +kernel) rfl
  · exact nT 56 (by decide +kernel) rfl
  · exact nT 58 (by decide +kernel) rfl
theorem nU3 : ∀ w ∈ u_ws "LevelMachine" nT3 13, w ∈ nTc := by
  intro w hw
  obtain ⟨k, hk, rfl⟩ := List.mem_map.mp hw
  have hk := List.mem_range.mp hk
  rcases (show k = 0 ∨ k = 1 ∨ k = 2 ∨ k = 3 ∨ k = 4 ∨ k = 5 ∨ k = 6 ∨ k = 7 ∨ k = 8 ∨ k = 9 ∨ k = 10 ∨ k = 11 ∨ k = 12 by omega) with rfl | rfl | rfl | rfl | rfl | rfl | rfl | rfl | rfl | rfl | rfl | rfl | rfl
  · exact nT 99 (by decide +kernel) rfl
  · exact nT 101 (by decide +kernel) rfl
  · exact nT 103 (by decide +kernel) rfl
  · exact nT 105 (by decide +kernel) rfl
  · exact nT 107 (by decide +kernel) rfl
  · exact nT 109 (by decide +kernel) rfl
  · exact nT 111 (by decide +kernel) rfl
  · exact nT 113 (by decide +kernel) rfl
  · exact nT 115 (by decide +kernel) rfl
  · exact nT 117 (by decide +kernel) rfl
  · exact nT 119 (by decide +kernel) rfl
  · exact nT 121 (by decide +kernel) rfl
  · exact nT 123 (by decide +kernel) rfl
theorem nU4 : ∀ w ∈ u_ws "LevelMachineModel" nT4 17, w ∈ nTc := by
  intro w hw
  obtain ⟨k, hk, rfl⟩ := List.mem_map.mp hw
  have hk := List.mem_range.mp hk
  rcases (show k = 0 ∨ k = 1 ∨ k = 2 ∨ k = 3 ∨ k = 4 ∨ k = 5 ∨ k = 6 ∨ k = 7 ∨ k = 8 ∨ k = 9 ∨ k = 10 ∨ k = 11 ∨ k = 12 ∨ k = 13 ∨ k = 14 ∨ k = 15 ∨ k = 16 by omega) with rfl | rfl | rfl | rfl | rfl | rfl | rfl | rfl | rfl | rfl | rfl | rfl | rfl | rfl | rfl | rfl | rfl
  · exact nT 441 (by decide +kernel) rfl
  · exact nT 443 (by decide +kernel) rfl
  · exact nT 445 (by decide +kernel) rfl
  · exact nT 447 (by decide +kernel) rfl
  · exact nT 449 (by decide +kernel) rfl
  · exact nT 451 (by decide +kernel) rfl
  · exact nT 453 (by decide +kernel) rfl
  · exact nT 455 (by decide +kernel) rfl
  · exact nT 457 (by decide +kernel) rfl
  · exact nT 459 (by decide +kernel) rfl
  · exact nT 461 (by decide +kernel) rfl
  · exact nT 463 (by decide +kernel) rfl
  · exact nT 465 (by decide +kernel) rfl
  · exact nT 467 (by decide +kernel) rfl
  · exact nT 469 (by decide +kernel) rfl
  · exact nT 471 (by decide +kernel) rfl
  · exact nT 473 (by decide +kernel) rfl
def nMM : List ab_M := [(⟨"LevelMachine", "<init>", "()V"⟩, prog_1_method_1_code, 3, none),
  (⟨"LevelMachine", "poke", "(II)Z"⟩, prog_1_method_2_code, 3, some .boolean),
  (⟨"LevelMachine", "peek", "(I)I"⟩, prog_1_method_3_code, 2, some .int),
  (⟨"LevelMachine", "describe", "(IIIIIZ)Z"⟩, prog_1_method_4_code, 7, some .boolean),
  (⟨"LevelMachine", "set", "(II)Z"⟩, prog_1_method_5_code, 3, some .boolean),
  (⟨"LevelMachine", "force", "(II)Z"⟩, prog_1_method_6_code, 3, some .boolean),
  (⟨"LevelMachine", "step", "(I)I"⟩, prog_1_method_7_code, 4, some .int),
  (⟨"LevelMachine", "wake", "()Z"⟩, prog_1_method_8_code, 2, some .boolean),
  (⟨"LevelMachine", "state", "(I)I"⟩, prog_1_method_9_code, 2, some .int),
  (⟨"LevelMachine", "segment", "(II)I"⟩, prog_1_method_10_code, 3, some .int),
  (⟨"LevelMachine", "isWord", "(I)Z"⟩, prog_1_method_11_code, 1, some .boolean),
  (⟨"LevelMachine", "isCode", "(I)Z"⟩, prog_1_method_12_code, 1, some .boolean),
  (⟨"LevelMachine", "level", "()I"⟩, prog_1_method_13_code, 1, some .int),
  (⟨"LevelMachine", "keepAll", "()V"⟩, prog_1_method_14_code, 2, none),
  (⟨"LevelMachine", "takeAllBack", "()V"⟩, prog_1_method_15_code, 2, none),
  (⟨"LevelMachine", "fault", "(II)Z"⟩, prog_1_method_16_code, 3, some .boolean),
  (⟨"LevelMachine", "note", "(II)V"⟩, prog_1_method_17_code, 3, none),
  (⟨"LevelMachine", "deliver", "()Z"⟩, prog_1_method_18_code, 3, some .boolean),
  (⟨"LevelMachine", "read", "(LLevelMachine$Segment;I)I"⟩, prog_1_method_19_code, 4, some .int),
  (⟨"LevelMachine", "write", "(LLevelMachine$Segment;II)Z"⟩, prog_1_method_20_code, 5, some .boolean),
  (⟨"LevelMachine", "push", "(I)Z"⟩, prog_1_method_21_code, 2, some .boolean),
  (⟨"LevelMachine", "pop", "()I"⟩, prog_1_method_22_code, 2, some .int),
  (⟨"LevelMachine", "fetch", "()I"⟩, prog_1_method_23_code, 3, some .int),
  (⟨"LevelMachine", "decode", "()Z"⟩, prog_1_method_24_code, 3, some .boolean),
  (⟨"LevelMachine", "perform", "()Z"⟩, prog_1_method_25_code, 5, some .boolean),
  (⟨"LevelMachine", "stop", "()Z"⟩, prog_1_method_26_code, 1, some .boolean),
  (⟨"LevelMachine", "give", "(II)Z"⟩, prog_1_method_27_code, 3, some .boolean),
  (⟨"LevelMachine", "judge", "(I)I"⟩, prog_1_method_28_code, 4, some .int),
  (⟨"LevelMachine", "compare", "(II)Z"⟩, prog_1_method_29_code, 3, some .boolean),
  (⟨"LevelMachine", "isZero", "()Z"⟩, prog_1_method_30_code, 1, some .boolean),
  (⟨"LevelMachine", "go", "(IZ)Z"⟩, prog_1_method_31_code, 3, some .boolean),
  (⟨"LevelMachine", "adjust", "(II)Z"⟩, prog_1_method_32_code, 5, some .boolean),
  (⟨"LevelMachine", "loadData", "(LLevelMachine$Segment;I)Z"⟩, prog_1_method_33_code, 5, some .boolean),
  (⟨"LevelMachine", "loadStack", "(I)Z"⟩, prog_1_method_34_code, 3, some .boolean),
  (⟨"LevelMachine", "beginTask", "(I)Z"⟩, prog_1_method_35_code, 2, some .boolean),
  (⟨"LevelMachine", "mayEnter", "(III)Z"⟩, prog_1_method_36_code, 6, some .boolean),
  (⟨"LevelMachine", "enter", "(III)Z"⟩, prog_1_method_37_code, 4, some .boolean),
  (⟨"LevelMachine", "toCode", "(IIZ)Z"⟩, prog_1_method_38_code, 5, some .boolean),
  (⟨"LevelMachine", "throughGate", "(IZ)Z"⟩, prog_1_method_39_code, 6, some .boolean),
  (⟨"LevelMachine", "trap", "(IZ)Z"⟩, prog_1_method_40_code, 5, some .boolean),
  (⟨"LevelMachine", "enterDeep", "(IIIZ)Z"⟩, prog_1_method_41_code, 9, some .boolean),
  (⟨"LevelMachine", "takeInnerStack", "(I)Z"⟩, prog_1_method_42_code, 6, some .boolean),
  (⟨"LevelMachine", "carryOver", "(II)Z"⟩, prog_1_method_43_code, 5, some .boolean),
  (⟨"LevelMachine", "back", "()Z"⟩, prog_1_method_44_code, 2, some .boolean),
  (⟨"LevelMachine", "comeBack", "(IZ)Z"⟩, prog_1_method_45_code, 7, some .boolean),
  (⟨"LevelMachine", "comeOut", "(III)Z"⟩, prog_1_method_46_code, 6, some .boolean),
  (⟨"LevelMachine", "hide", "(LLevelMachine$Segment;)V"⟩, prog_1_method_47_code, 2, none),
  (⟨"LevelMachine", "switchTo", "(II)Z"⟩, prog_1_method_48_code, 5, some .boolean),
  (⟨"LevelMachine", "saveTask", "(I)V"⟩, prog_1_method_49_code, 4, none),
  (⟨"LevelMachine", "saveWord", "(II)V"⟩, prog_1_method_50_code, 4, none),
  (⟨"LevelMachine", "resumeTask", "(I)Z"⟩, prog_1_method_51_code, 5, some .boolean),
  (⟨"LevelMachineModel", "<init>", "()V"⟩, prog_6_method_1_code, 1, none),
  (⟨"LevelMachineModel", "in", "(III)Z"⟩, prog_6_method_2_code, 3, some .boolean),
  (⟨"LevelMachineModel", "copy", "([I[I)V"⟩, prog_6_method_3_code, 3, none),
  (⟨"LevelMachineModel", "remember", "()V"⟩, prog_6_method_4_code, 1, none),
  (⟨"LevelMachineModel", "putBack", "()V"⟩, prog_6_method_5_code, 1, none),
  (⟨"LevelMachineModel", "wrong", "(II)V"⟩, prog_6_method_6_code, 3, none),
  (⟨"LevelMachineModel", "need", "(ZII)V"⟩, prog_6_method_7_code, 4, none),
  (⟨"LevelMachineModel", "word", "(I)I"⟩, prog_6_method_8_code, 2, some .int),
  (⟨"LevelMachineModel", "store", "(II)V"⟩, prog_6_method_9_code, 3, none),
  (⟨"LevelMachineModel", "level", "()I"⟩, prog_6_method_10_code, 1, some .int),
  (⟨"LevelMachineModel", "isNone", "(I)Z"⟩, prog_6_method_11_code, 1, some .boolean),
  (⟨"LevelMachineModel", "isWrong", "(I)Z"⟩, prog_6_method_12_code, 1, some .boolean),
  (⟨"LevelMachineModel", "part", "(II)I"⟩, prog_6_method_13_code, 3, some .int),
  (⟨"LevelMachineModel", "kindOf", "(I)I"⟩, prog_6_method_14_code, 2, some .int),
  (⟨"LevelMachineModel", "rankOf", "(I)I"⟩, prog_6_method_15_code, 2, some .int),
  (⟨"LevelMachineModel", "isThere", "(I)Z"⟩, prog_6_method_16_code, 2, some .boolean),
  (⟨"LevelMachineModel", "isCode", "(I)Z"⟩, prog_6_method_17_code, 2, some .boolean),
  (⟨"LevelMachineModel", "setKind", "(II)V"⟩, prog_6_method_18_code, 4, none),
  (⟨"LevelMachineModel", "load", "(II)V"⟩, prog_6_method_19_code, 3, none),
  (⟨"LevelMachineModel", "unload", "(I)V"⟩, prog_6_method_20_code, 3, none),
  (⟨"LevelMachineModel", "reaches", "(IIZ)Z"⟩, prog_6_method_21_code, 6, some .boolean),
  (⟨"LevelMachineModel", "read", "(II)I"⟩, prog_6_method_22_code, 3, some .int),
  (⟨"LevelMachineModel", "write", "(III)V"⟩, prog_6_method_23_code, 4, none),
  (⟨"LevelMachineModel", "push", "(I)V"⟩, prog_6_method_24_code, 2, none),
  (⟨"LevelMachineModel", "pop", "()I"⟩, prog_6_method_25_code, 2, some .int),
  (⟨"LevelMachineModel", "fetch", "()I"⟩, prog_6_method_26_code, 2, some .int),
  (⟨"LevelMachineModel", "loadData", "(II)V"⟩, prog_6_method_27_code, 4, none),
  (⟨"LevelMachineModel", "loadStack", "(I)V"⟩, prog_6_method_28_code, 2, none),
  (⟨"LevelMachineModel", "canEnter", "(III)Z"⟩, prog_6_method_29_code, 4, some .boolean),
  (⟨"LevelMachineModel", "enter", "(III)V"⟩, prog_6_method_30_code, 4, none),
  (⟨"LevelMachineModel", "pushPlace", "(Z)V"⟩, prog_6_method_31_code, 2, none),
  (⟨"LevelMachineModel", "deepEntry", "(IIIZ)V"⟩, prog_6_method_32_code, 9, none),
  (⟨"LevelMachineModel", "changeStack", "(I)V"⟩, prog_6_method_33_code, 4, none),
  (⟨"LevelMachineModel", "ofOldStack", "(I)I"⟩, prog_6_method_34_code, 2, some .int),
  (⟨"LevelMachineModel", "transfer", "(IIZ)V"⟩, prog_6_method_35_code, 5, none),
  (⟨"LevelMachineModel", "comeBack", "(III)V"⟩, prog_6_method_36_code, 8, none),
  (⟨"LevelMachineModel", "trap", "(IZ)V"⟩, prog_6_method_37_code, 5, none),
  (⟨"LevelMachineModel", "switchTo", "(II)V"⟩, prog_6_method_38_code, 7, none),
  (⟨"LevelMachineModel", "begin", "(II)V"⟩, prog_6_method_39_code, 8, none),
  (⟨"LevelMachineModel", "reckon", "(IIZ)V"⟩, prog_6_method_40_code, 5, none),
  (⟨"LevelMachineModel", "isRight", "(III)Z"⟩, prog_6_method_41_code, 5, some .boolean),
  (⟨"LevelMachineModel", "execute", "()V"⟩, prog_6_method_42_code, 5, none),
  (⟨"LevelMachineModel", "simple", "(III)V"⟩, prog_6_method_43_code, 4, none),
  (⟨"LevelMachineModel", "move", "(III)V"⟩, prog_6_method_44_code, 8, none),
  (⟨"LevelMachineModel", "protect", "(III)V"⟩, prog_6_method_45_code, 8, none),
  (⟨"LevelMachineModel", "back", "()V"⟩, prog_6_method_46_code, 3, none),
  (⟨"LevelMachineModel", "take", "(I)V"⟩, prog_6_method_47_code, 2, none),
  (⟨"LevelMachineModel", "delivers", "(II)Z"⟩, prog_6_method_48_code, 4, some .boolean),
  (⟨"LevelMachineModel", "note", "(II)V"⟩, prog_6_method_49_code, 3, none),
  (⟨"LevelMachineModel", "goesOn", "()Z"⟩, prog_6_method_50_code, 1, some .boolean),
  (⟨"LevelMachineModel", "step", "(I)I"⟩, prog_6_method_51_code, 4, some .int),
  (⟨"LevelMachineModel", "wake", "()Z"⟩, prog_6_method_52_code, 2, some .boolean),
  (⟨"LevelMachineModel", "poke", "(II)Z"⟩, prog_6_method_53_code, 3, some .boolean),
  (⟨"LevelMachineModel", "peek", "(I)I"⟩, prog_6_method_54_code, 2, some .int),
  (⟨"LevelMachineModel", "describe", "(IIIIIZ)Z"⟩, prog_6_method_55_code, 7, some .boolean),
  (⟨"LevelMachineModel", "set", "(II)Z"⟩, prog_6_method_56_code, 3, some .boolean),
  (⟨"LevelMachineModel", "force", "(II)Z"⟩, prog_6_method_57_code, 3, some .boolean),
  (⟨"LevelMachineModel", "state", "(I)I"⟩, prog_6_method_58_code, 2, some .int),
  (⟨"LevelMachineModel", "segment", "(II)I"⟩, prog_6_method_59_code, 3, some .int),
  (⟨"LevelMachine$Instruction", "<init>", "()V"⟩, prog_2_method_1_code, 1, none),
  (⟨"LevelMachine$Instruction", "split", "(I)V"⟩, prog_2_method_2_code, 2, none),
  (⟨"LevelMachine$Instruction", "isProper", "()Z"⟩, prog_2_method_3_code, 1, some .boolean),
  (⟨"LevelMachine$Instruction", "tail", "()I"⟩, prog_2_method_4_code, 1, some .int),
  (⟨"LevelMachine$Memory", "<init>", "()V"⟩, prog_3_method_1_code, 1, none),
  (⟨"LevelMachine$Memory", "round", "(I)I"⟩, prog_3_method_2_code, 1, some .int),
  (⟨"LevelMachine$Memory", "holds", "(I)Z"⟩, prog_3_method_3_code, 1, some .boolean),
  (⟨"LevelMachine$Memory", "at", "(I)I"⟩, prog_3_method_4_code, 3, some .int),
  (⟨"LevelMachine$Memory", "put", "(II)V"⟩, prog_3_method_5_code, 4, none),
  (⟨"LevelMachine$Memory", "keep", "()V"⟩, prog_3_method_6_code, 1, none),
  (⟨"LevelMachine$Memory", "takeBack", "()V"⟩, prog_3_method_7_code, 1, none),
  (⟨"LevelMachine$Memory", "kindOf", "(I)I"⟩, prog_3_method_8_code, 2, some .int),
  (⟨"LevelMachine$Memory", "first", "(I)I"⟩, prog_3_method_9_code, 2, some .int),
  (⟨"LevelMachine$Memory", "second", "(I)I"⟩, prog_3_method_10_code, 2, some .int),
  (⟨"LevelMachine$Memory", "kind", "(I)I"⟩, prog_3_method_11_code, 2, some .int),
  (⟨"LevelMachine$Memory", "rank", "(I)I"⟩, prog_3_method_12_code, 2, some .int),
  (⟨"LevelMachine$Memory", "isThere", "(I)Z"⟩, prog_3_method_13_code, 2, some .boolean),
  (⟨"LevelMachine$Memory", "count", "(I)I"⟩, prog_3_method_14_code, 2, some .int),
  (⟨"LevelMachine$Memory", "turn", "(II)V"⟩, prog_3_method_15_code, 4, none),
  (⟨"LevelMachine$Segment", "<init>", "(I)V"⟩, prog_4_method_1_code, 2, none),
  (⟨"LevelMachine$Segment", "clear", "()V"⟩, prog_4_method_2_code, 1, none),
  (⟨"LevelMachine$Segment", "load", "(LLevelMachine$Memory;I)V"⟩, prog_4_method_3_code, 3, none),
  (⟨"LevelMachine$Segment", "copy", "(LLevelMachine$Segment;)V"⟩, prog_4_method_4_code, 2, none)]
def nmm (k : Nat) : ab_M := nMM.getD k (⟨"", "", ""⟩, ⟨#[]⟩, 0, none)
