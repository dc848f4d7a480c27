set_option maxRecDepth 100000 in
theorem tw1 : (Jvm.Cond.initialized "LevelMachine") ∈ nTc := nT 1 (by first | rfl | decide +kernel) rfl
set_option maxRecDepth 100000 in
theorem tw2 : (Jvm.Cond.initialized "LevelMachine$Memory") ∈ nTc := nT 2 (by first | rfl | decide +kernel) rfl
set_option maxRecDepth 100000 in
theorem tw3 : (Jvm.Cond.initialized "LevelMachine$Segment") ∈ nTc := nT 3 (by first | rfl | decide +kernel) rfl
set_option maxRecDepth 100000 in
theorem tw4 : (Jvm.Cond.initialized "LevelMachine$Instruction") ∈ nTc := nT 4 (by first | rfl | decide +kernel) rfl
set_option maxRecDepth 100000 in
theorem tw5 : (Jvm.Cond.initialized "LevelMachineModel") ∈ nTc := nT 5 (by first | rfl | decide +kernel) rfl
set_option maxRecDepth 100000 in
theorem tw6 : (Jvm.Cond.initialized "java/lang/System") ∈ nTc := nT 6 (by first | rfl | decide +kernel) rfl
set_option maxRecDepth 100000 in
theorem tw7 : (Jvm.Cond.classLink "LevelMachineLaw" (7 : Nat) "LevelMachine") ∈ nTc := nT 7 (by first | rfl | decide +kernel) rfl
set_option maxRecDepth 100000 in
theorem tw8 : (Jvm.Cond.instantiable "LevelMachine" (13 : Nat)) ∈ nTc := nT 8 (by first | rfl | decide +kernel) rfl
set_option maxRecDepth 100000 in
theorem tw9 : (Jvm.Cond.methodLink "LevelMachineLaw" (9 : Nat) ({ cls := "LevelMachine", name := "<init>", desc := "()V" } : Jvm.MethodName)) ∈ nTc := nT 9 (by first | rfl | decide +kernel) rfl
set_option maxRecDepth 100000 in
theorem tw10 : (Jvm.Cond.instanceMethod ({ cls := "LevelMachine", name := "<init>", desc := "()V" } : Jvm.MethodName)) ∈ nTc := nT 10 (by first | rfl | decide +kernel) rfl
set_option maxRecDepth 100000 in
theorem tw11 : (Jvm.Cond.code ({ cls := "LevelMachine", name := "<init>", desc := "()V" } : Jvm.MethodName) prog_1_method_1_code (3 : Nat) (Option.none : Option Jvm.ClassFile.FieldType)) ∈ nTc := nT 11 (by first | rfl | decide +kernel) rfl
set_option maxRecDepth 100000 in
theorem tw12 : (Jvm.Cond.methodLink "LevelMachine" (1 : Nat) ({ cls := "java/lang/Object", name := "<init>", desc := "()V" } : Jvm.MethodName)) ∈ nTc := nT 12 (by first | rfl | decide +kernel) rfl
set_option maxRecDepth 100000 in
theorem tw13 : (Jvm.Cond.instanceMethod ({ cls := "java/lang/Object", name := "<init>", desc := "()V" } : Jvm.MethodName)) ∈ nTc := nT 13 (by first | rfl | decide +kernel) rfl
set_option maxRecDepth 100000 in
theorem tw14 : (Jvm.Cond.code ({ cls := "java/lang/Object", name := "<init>", desc := "()V" } : Jvm.MethodName) object_method_1_code (1 : Nat) (Option.none : Option Jvm.ClassFile.FieldType)) ∈ nTc := nT 14 (by first | rfl | decide +kernel) rfl
set_option maxRecDepth 100000 in
theorem tw15 : (Jvm.Cond.classLink "LevelMachine" (7 : Nat) "LevelMachine$Memory") ∈ nTc := nT 15 (by first | rfl | decide +kernel) rfl
set_option maxRecDepth 100000 in
theorem tw16 : (Jvm.Cond.instantiable "LevelMachine$Memory" (2 : Nat)) ∈ nTc := nT 16 (by first | rfl | decide +kernel) rfl
set_option maxRecDepth 100000 in
theorem tw17 : (Jvm.Cond.methodLink "LevelMachine" (9 : Nat) ({ cls := "LevelMachine$Memory", name := "<init>", desc := "()V" } : Jvm.MethodName)) ∈ nTc := nT 17 (by first | rfl | decide +kernel) rfl
set_option maxRecDepth 100000 in
theorem tw18 : (Jvm.Cond.instanceMethod ({ cls := "LevelMachine$Memory", name := "<init>", desc := "()V" } : Jvm.MethodName)) ∈ nTc := nT 18 (by first | rfl | decide +kernel) rfl
set_option maxRecDepth 100000 in
theorem tw19 : (Jvm.Cond.code ({ cls := "LevelMachine$Memory", name := "<init>", desc := "()V" } : Jvm.MethodName) prog_3_method_1_code (1 : Nat) (Option.none : Option Jvm.ClassFile.FieldType)) ∈ nTc := nT 19 (by first | rfl | decide +kernel) rfl
set_option maxRecDepth 100000 in
theorem tw20 : (Jvm.Cond.methodLink "LevelMachine$Memory" (3 : Nat) ({ cls := "java/lang/Object", name := "<init>", desc := "()V" } : Jvm.MethodName)) ∈ nTc := nT 20 (by first | rfl | decide +kernel) rfl
set_option maxRecDepth 100000 in
theorem tw21 : (Jvm.Cond.fieldLink "LevelMachine$Memory" (11 : Nat) "LevelMachine$Memory" "words" "[I") ∈ nTc := nT 21 (by first | rfl | decide +kernel) rfl
set_option maxRecDepth 100000 in
theorem tw22 : (Jvm.Cond.fieldLink "LevelMachine$Memory" (15 : Nat) "LevelMachine$Memory" "before" "[I") ∈ nTc := nT 22 (by first | rfl | decide +kernel) rfl
set_option maxRecDepth 100000 in
theorem tw28 : (Jvm.Cond.arrayClass Jvm.ClassFile.FieldType.int) ∈ nTc := nT 28 (by first | rfl | decide +kernel) rfl
set_option maxRecDepth 100000 in
theorem tw29 : (Jvm.Cond.classLink "LevelMachine" (23 : Nat) "LevelMachine$Segment") ∈ nTc := nT 29 (by first | rfl | decide +kernel) rfl
set_option maxRecDepth 100000 in
theorem tw31 : (Jvm.Cond.instantiable "LevelMachine$Segment" (6 : Nat)) ∈ nTc := nT 31 (by first | rfl | decide +kernel) rfl
set_option maxRecDepth 100000 in
theorem tw32 : (Jvm.Cond.methodLink "LevelMachine" (32 : Nat) ({ cls := "LevelMachine$Segment", name := "<init>", desc := "(I)V" } : Jvm.MethodName)) ∈ nTc := nT 32 (by first | rfl | decide +kernel) rfl
set_option maxRecDepth 100000 in
theorem tw33 : (Jvm.Cond.instanceMethod ({ cls := "LevelMachine$Segment", name := "<init>", desc := "(I)V" } : Jvm.MethodName)) ∈ nTc := nT 33 (by first | rfl | decide +kernel) rfl
set_option maxRecDepth 100000 in
theorem tw34 : (Jvm.Cond.code ({ cls := "LevelMachine$Segment", name := "<init>", desc := "(I)V" } : Jvm.MethodName) prog_4_method_1_code (2 : Nat) (Option.none : Option Jvm.ClassFile.FieldType)) ∈ nTc := nT 34 (by first | rfl | decide +kernel) rfl
set_option maxRecDepth 100000 in
theorem tw35 : (Jvm.Cond.methodLink "LevelMachine$Segment" (3 : Nat) ({ cls := "java/lang/Object", name := "<init>", desc := "()V" } : Jvm.MethodName)) ∈ nTc := nT 35 (by first | rfl | decide +kernel) rfl
set_option maxRecDepth 100000 in
theorem tw36 : (Jvm.Cond.fieldLink "LevelMachine$Segment" (9 : Nat) "LevelMachine$Segment" "beyond" "I") ∈ nTc := nT 36 (by first | rfl | decide +kernel) rfl
set_option maxRecDepth 100000 in
theorem tw38 : (Jvm.Cond.fieldLink "LevelMachine$Segment" (15 : Nat) "LevelMachine$Segment" "selector" "I") ∈ nTc := nT 38 (by first | rfl | decide +kernel) rfl
set_option maxRecDepth 100000 in
theorem tw40 : (Jvm.Cond.fieldLink "LevelMachine$Segment" (18 : Nat) "LevelMachine$Segment" "base" "I") ∈ nTc := nT 40 (by first | rfl | decide +kernel) rfl
set_option maxRecDepth 100000 in
theorem tw42 : (Jvm.Cond.fieldLink "LevelMachine$Segment" (21 : Nat) "LevelMachine$Segment" "limit" "I") ∈ nTc := nT 42 (by first | rfl | decide +kernel) rfl
set_option maxRecDepth 100000 in
theorem tw44 : (Jvm.Cond.fieldLink "LevelMachine$Segment" (24 : Nat) "LevelMachine$Segment" "kind" "I") ∈ nTc := nT 44 (by first | rfl | decide +kernel) rfl
set_option maxRecDepth 100000 in
theorem tw46 : (Jvm.Cond.fieldLink "LevelMachine$Segment" (27 : Nat) "LevelMachine$Segment" "rank" "I") ∈ nTc := nT 46 (by first | rfl | decide +kernel) rfl
set_option maxRecDepth 100000 in
theorem tw61 : (Jvm.Cond.classLink "LevelMachine" (39 : Nat) "LevelMachine$Instruction") ∈ nTc := nT 61 (by first | rfl | decide +kernel) rfl
set_option maxRecDepth 100000 in
theorem tw62 : (Jvm.Cond.instantiable "LevelMachine$Instruction" (5 : Nat)) ∈ nTc := nT 62 (by first | rfl | decide +kernel) rfl
set_option maxRecDepth 100000 in
theorem tw64 : (Jvm.Cond.instanceMethod ({ cls := "LevelMachine$Instruction", name := "<init>", desc := "()V" } : Jvm.MethodName)) ∈ nTc := nT 64 (by first | rfl | decide +kernel) rfl
set_option maxRecDepth 100000 in
theorem tw65 : (Jvm.Cond.code ({ cls := "LevelMachine$Instruction", name := "<init>", desc := "()V" } : Jvm.MethodName) prog_2_method_1_code (1 : Nat) (Option.none : Option Jvm.ClassFile.FieldType)) ∈ nTc := nT 65 (by first | rfl | decide +kernel) rfl
set_option maxRecDepth 100000 in
theorem tw66 : (Jvm.Cond.methodLink "LevelMachine$Instruction" (3 : Nat) ({ cls := "java/lang/Object", name := "<init>", desc := "()V" } : Jvm.MethodName)) ∈ nTc := nT 66 (by first | rfl | decide +kernel) rfl
set_option maxRecDepth 100000 in
theorem tw67 : (Jvm.Cond.fieldLink "LevelMachine$Instruction" (9 : Nat) "LevelMachine$Instruction" "operation" "I") ∈ nTc := nT 67 (by first | rfl | decide +kernel) rfl
set_option maxRecDepth 100000 in
theorem tw69 : (Jvm.Cond.fieldLink "LevelMachine$Instruction" (15 : Nat) "LevelMachine$Instruction" "\x72" "I") ∈ nTc := nT 69 (by first | rfl | decide +kernel) rfl
set_option maxRecDepth 100000 in
theorem tw71 : (Jvm.Cond.fieldLink "LevelMachine$Instruction" (18 : Nat) "LevelMachine$Instruction" "q" "I") ∈ nTc := nT 71 (by first | rfl | decide +kernel) rfl
set_option maxRecDepth 100000 in
theorem tw86 : (Jvm.Cond.fieldLink "LevelMachine" (10 : Nat) "LevelMachine" "memory" "LLevelMachine$Memory;") ∈ nTc := nT 86 (by first | rfl | decide +kernel) rfl
set_option maxRecDepth 100000 in
theorem tw87 : (Jvm.Cond.fieldLink "LevelMachine" (16 : Nat) "LevelMachine" "registers" "[I") ∈ nTc := nT 87 (by first | rfl | decide +kernel) rfl
set_option maxRecDepth 100000 in
theorem tw88 : (Jvm.Cond.fieldLink "LevelMachine" (20 : Nat) "LevelMachine" "registersBefore" "[I") ∈ nTc := nT 88 (by first | rfl | decide +kernel) rfl
set_option maxRecDepth 100000 in
theorem tw89 : (Jvm.Cond.fieldLink "LevelMachine" (25 : Nat) "LevelMachine" "segments" "[LLevelMachine$Segment;") ∈ nTc := nT 89 (by first | rfl | decide +kernel) rfl
set_option maxRecDepth 100000 in
theorem tw90 : (Jvm.Cond.fieldLink "LevelMachine" (29 : Nat) "LevelMachine" "segmentsBefore" "[LLevelMachine$Segment;") ∈ nTc := nT 90 (by first | rfl | decide +kernel) rfl
set_option maxRecDepth 100000 in
theorem tw91 : (Jvm.Cond.fieldLink "LevelMachine" (35 : Nat) "LevelMachine" "outerStack" "LLevelMachine$Segment;") ∈ nTc := nT 91 (by first | rfl | decide +kernel) rfl
set_option maxRecDepth 100000 in
theorem tw92 : (Jvm.Cond.fieldLink "LevelMachine" (42 : Nat) "LevelMachine" "now" "LLevelMachine$Instruction;") ∈ nTc := nT 92 (by first | rfl | decide +kernel) rfl
set_option maxRecDepth 100000 in
theorem tw93 : (Jvm.Cond.fieldLink "LevelMachine" (71 : Nat) "LevelMachine" "halt" "I") ∈ nTc := nT 93 (by first | rfl | decide +kernel) rfl
set_option maxRecDepth 100000 in
theorem tw94 : (Jvm.Cond.fieldLink "LevelMachine" (130 : Nat) "LevelMachine" "raisedNumber" "I") ∈ nTc := nT 94 (by first | rfl | decide +kernel) rfl
set_option maxRecDepth 100000 in
theorem tw95 : (Jvm.Cond.fieldLink "LevelMachine" (134 : Nat) "LevelMachine" "raisedCode" "I") ∈ nTc := nT 95 (by first | rfl | decide +kernel) rfl
set_option maxRecDepth 100000 in
theorem tw96 : (Jvm.Cond.fieldLink "LevelMachine" (89 : Nat) "LevelMachine" "latestNumber" "I") ∈ nTc := nT 96 (by first | rfl | decide +kernel) rfl
set_option maxRecDepth 100000 in
theorem tw97 : (Jvm.Cond.fieldLink "LevelMachine" (92 : Nat) "LevelMachine" "latestCode" "I") ∈ nTc := nT 97 (by first | rfl | decide +kernel) rfl
set_option maxRecDepth 100000 in
theorem tw98 : (Jvm.Cond.fieldLink "LevelMachine" (95 : Nat) "LevelMachine" "faults" "I") ∈ nTc := nT 98 (by first | rfl | decide +kernel) rfl
set_option maxRecDepth 100000 in
theorem tw126 : (Jvm.Cond.methodLink "LevelMachineLaw" (13 : Nat) ({ cls := "LevelMachine", name := "poke", desc := "(II)Z" } : Jvm.MethodName)) ∈ nTc := nT 126 (by first | rfl | decide +kernel) rfl
set_option maxRecDepth 100000 in
theorem tw127 : (Jvm.Cond.instanceMethod ({ cls := "LevelMachine", name := "poke", desc := "(II)Z" } : Jvm.MethodName)) ∈ nTc := nT 127 (by first | rfl | decide +kernel) rfl
set_option maxRecDepth 100000 in
theorem tw128 : (Jvm.Cond.selects "LevelMachine" ({ cls := "LevelMachine", name := "poke", desc := "(II)Z" } : Jvm.MethodName) ({ cls := "LevelMachine", name := "poke", desc := "(II)Z" } : Jvm.MethodName)) ∈ nTc := nT 128 (by first | rfl | decide +kernel) rfl
set_option maxRecDepth 100000 in
theorem tw129 : (Jvm.Cond.code ({ cls := "LevelMachine", name := "poke", desc := "(II)Z" } : Jvm.MethodName) prog_1_method_2_code (3 : Nat) (Option.some Jvm.ClassFile.FieldType.boolean)) ∈ nTc := nT 129 (by first | rfl | decide +kernel) rfl
set_option maxRecDepth 100000 in
theorem tw130 : (Jvm.Cond.methodLink "LevelMachine" (46 : Nat) ({ cls := "LevelMachine$Memory", name := "holds", desc := "(I)Z" } : Jvm.MethodName)) ∈ nTc := nT 130 (by first | rfl | decide +kernel) rfl
set_option maxRecDepth 100000 in
theorem tw131 : (Jvm.Cond.static ({ cls := "LevelMachine$Memory", name := "holds", desc := "(I)Z" } : Jvm.MethodName)) ∈ nTc := nT 131 (by first | rfl | decide +kernel) rfl
set_option maxRecDepth 100000 in
theorem tw132 : (Jvm.Cond.code ({ cls := "LevelMachine$Memory", name := "holds", desc := "(I)Z" } : Jvm.MethodName) prog_3_method_3_code (1 : Nat) (Option.some Jvm.ClassFile.FieldType.boolean)) ∈ nTc := nT 132 (by first | rfl | decide +kernel) rfl
set_option maxRecDepth 100000 in
theorem tw133 : (Jvm.Cond.methodLink "LevelMachine" (50 : Nat) ({ cls := "LevelMachine", name := "isWord", desc := "(I)Z" } : Jvm.MethodName)) ∈ nTc := nT 133 (by first | rfl | decide +kernel) rfl
set_option maxRecDepth 100000 in
theorem tw134 : (Jvm.Cond.static ({ cls := "LevelMachine", name := "isWord", desc := "(I)Z" } : Jvm.MethodName)) ∈ nTc := nT 134 (by first | rfl | decide +kernel) rfl
set_option maxRecDepth 100000 in
theorem tw135 : (Jvm.Cond.code ({ cls := "LevelMachine", name := "isWord", desc := "(I)Z" } : Jvm.MethodName) prog_1_method_11_code (1 : Nat) (Option.some Jvm.ClassFile.FieldType.boolean)) ∈ nTc := nT 135 (by first | rfl | decide +kernel) rfl
set_option maxRecDepth 100000 in
theorem tw136 : (Jvm.Cond.constant "LevelMachine" (113 : Nat) (65535 : Int32)) ∈ nTc := nT 136 (by first | rfl | decide +kernel) rfl
set_option maxRecDepth 100000 in
theorem tw137 : (Jvm.Cond.methodLink "LevelMachine" (53 : Nat) ({ cls := "LevelMachine$Memory", name := "put", desc := "(II)V" } : Jvm.MethodName)) ∈ nTc := nT 137 (by first | rfl | decide +kernel) rfl
set_option maxRecDepth 100000 in
theorem tw138 : (Jvm.Cond.instanceMethod ({ cls := "LevelMachine$Memory", name := "put", desc := "(II)V" } : Jvm.MethodName)) ∈ nTc := nT 138 (by first | rfl | decide +kernel) rfl
set_option maxRecDepth 100000 in
theorem tw139 : (Jvm.Cond.selects "LevelMachine$Memory" ({ cls := "LevelMachine$Memory", name := "put", desc := "(II)V" } : Jvm.MethodName) ({ cls := "LevelMachine$Memory", name := "put", desc := "(II)V" } : Jvm.MethodName)) ∈ nTc := nT 139 (by first | rfl | decide +kernel) rfl
set_option maxRecDepth 100000 in
theorem tw140 : (Jvm.Cond.code ({ cls := "LevelMachine$Memory", name := "put", desc := "(II)V" } : Jvm.MethodName) prog_3_method_5_code (4 : Nat) (Option.none : Option Jvm.ClassFile.FieldType)) ∈ nTc := nT 140 (by first | rfl | decide +kernel) rfl
set_option maxRecDepth 100000 in
theorem tw141 : (Jvm.Cond.constant "LevelMachine$Memory" (18 : Nat) (65535 : Int32)) ∈ nTc := nT 141 (by first | rfl | decide +kernel) rfl
set_option maxRecDepth 100000 in
theorem tw142 : (Jvm.Cond.methodLink "LevelMachineLaw" (18 : Nat) ({ cls := "LevelMachine", name := "peek", desc := "(I)I" } : Jvm.MethodName)) ∈ nTc := nT 142 (by first | rfl | decide +kernel) rfl
set_option maxRecDepth 100000 in
theorem tw143 : (Jvm.Cond.instanceMethod ({ cls := "LevelMachine", name := "peek", desc := "(I)I" } : Jvm.MethodName)) ∈ nTc := nT 143 (by first | rfl | decide +kernel) rfl
set_option maxRecDepth 100000 in
theorem tw144 : (Jvm.Cond.selects "LevelMachine" ({ cls := "LevelMachine", name := "peek", desc := "(I)I" } : Jvm.MethodName) ({ cls := "LevelMachine", name := "peek", desc := "(I)I" } : Jvm.MethodName)) ∈ nTc := nT 144 (by first | rfl | decide +kernel) rfl
set_option maxRecDepth 100000 in
theorem tw145 : (Jvm.Cond.code ({ cls := "LevelMachine", name := "peek", desc := "(I)I" } : Jvm.MethodName) prog_1_method_3_code (2 : Nat) (Option.some Jvm.ClassFile.FieldType.int)) ∈ nTc := nT 145 (by first | rfl | decide +kernel) rfl
set_option maxRecDepth 100000 in
theorem tw146 : (Jvm.Cond.methodLink "LevelMachine" (57 : Nat) ({ cls := "LevelMachine$Memory", name := "at", desc := "(I)I" } : Jvm.MethodName)) ∈ nTc := nT 146 (by first | rfl | decide +kernel) rfl
set_option maxRecDepth 100000 in
theorem tw147 : (Jvm.Cond.instanceMethod ({ cls := "LevelMachine$Memory", name := "at", desc := "(I)I" } : Jvm.MethodName)) ∈ nTc := nT 147 (by first | rfl | decide +kernel) rfl
set_option maxRecDepth 100000 in
theorem tw148 : (Jvm.Cond.selects "LevelMachine$Memory" ({ cls := "LevelMachine$Memory", name := "at", desc := "(I)I" } : Jvm.MethodName) ({ cls := "LevelMachine$Memory", name := "at", desc := "(I)I" } : Jvm.MethodName)) ∈ nTc := nT 148 (by first | rfl | decide +kernel) rfl
set_option maxRecDepth 100000 in
theorem tw149 : (Jvm.Cond.code ({ cls := "LevelMachine$Memory", name := "at", desc := "(I)I" } : Jvm.MethodName) prog_3_method_4_code (3 : Nat) (Option.some Jvm.ClassFile.FieldType.int)) ∈ nTc := nT 149 (by first | rfl | decide +kernel) rfl
set_option maxRecDepth 100000 in
theorem tw150 : (Jvm.Cond.methodLink "LevelMachineLaw" (23 : Nat) ({ cls := "LevelMachine", name := "describe", desc := "(IIIIIZ)Z" } : Jvm.MethodName)) ∈ nTc := nT 150 (by first | rfl | decide +kernel) rfl
set_option maxRecDepth 100000 in
theorem tw151 : (Jvm.Cond.instanceMethod ({ cls := "LevelMachine", name := "describe", desc := "(IIIIIZ)Z" } : Jvm.MethodName)) ∈ nTc := nT 151 (by first | rfl | decide +kernel) rfl
set_option maxRecDepth 100000 in
theorem tw152 : (Jvm.Cond.selects "LevelMachine" ({ cls := "LevelMachine", name := "describe", desc := "(IIIIIZ)Z" } : Jvm.MethodName) ({ cls := "LevelMachine", name := "describe", desc := "(IIIIIZ)Z" } : Jvm.MethodName)) ∈ nTc := nT 152 (by first | rfl | decide +kernel) rfl
set_option maxRecDepth 100000 in
theorem tw153 : (Jvm.Cond.code ({ cls := "LevelMachine", name := "describe", desc := "(IIIIIZ)Z" } : Jvm.MethodName) prog_1_method_4_code (7 : Nat) (Option.some Jvm.ClassFile.FieldType.boolean)) ∈ nTc := nT 153 (by first | rfl | decide +kernel) rfl
set_option maxRecDepth 100000 in
theorem tw154 : (Jvm.Cond.methodLink "LevelMachineLaw" (28 : Nat) ({ cls := "LevelMachine", name := "set", desc := "(II)Z" } : Jvm.MethodName)) ∈ nTc := nT 154 (by first | rfl | decide +kernel) rfl
set_option maxRecDepth 100000 in
theorem tw155 : (Jvm.Cond.instanceMethod ({ cls := "LevelMachine", name := "set", desc := "(II)Z" } : Jvm.MethodName)) ∈ nTc := nT 155 (by first | rfl | decide +kernel) rfl
set_option maxRecDepth 100000 in
theorem tw156 : (Jvm.Cond.selects "LevelMachine" ({ cls := "LevelMachine", name := "set", desc := "(II)Z" } : Jvm.MethodName) ({ cls := "LevelMachine", name := "set", desc := "(II)Z" } : Jvm.MethodName)) ∈ nTc := nT 156 (by first | rfl | decide +kernel) rfl
set_option maxRecDepth 100000 in
theorem tw157 : (Jvm.Cond.code ({ cls := "LevelMachine", name := "set", desc := "(II)Z" } : Jvm.MethodName) prog_1_method_5_code (3 : Nat) (Option.some Jvm.ClassFile.FieldType.boolean)) ∈ nTc := nT 157 (by first | rfl | decide +kernel) rfl
set_option maxRecDepth 100000 in
theorem tw158 : (Jvm.Cond.methodLink "LevelMachineLaw" (32 : Nat) ({ cls := "LevelMachine", name := "force", desc := "(II)Z" } : Jvm.MethodName)) ∈ nTc := nT 158 (by first | rfl | decide +kernel) rfl
set_option maxRecDepth 100000 in
theorem tw159 : (Jvm.Cond.instanceMethod ({ cls := "LevelMachine", name := "force", desc := "(II)Z" } : Jvm.MethodName)) ∈ nTc := nT 159 (by first | rfl | decide +kernel) rfl
set_option maxRecDepth 100000 in
theorem tw160 : (Jvm.Cond.selects "LevelMachine" ({ cls := "LevelMachine", name := "force", desc := "(II)Z" } : Jvm.MethodName) ({ cls := "LevelMachine", name := "force", desc := "(II)Z" } : Jvm.MethodName)) ∈ nTc := nT 160 (by first | rfl | decide +kernel) rfl
set_option maxRecDepth 100000 in
theorem tw161 : (Jvm.Cond.code ({ cls := "LevelMachine", name := "force", desc := "(II)Z" } : Jvm.MethodName) prog_1_method_6_code (3 : Nat) (Option.some Jvm.ClassFile.FieldType.boolean)) ∈ nTc := nT 161 (by first | rfl | decide +kernel) rfl
set_option maxRecDepth 100000 in
theorem tw162 : (Jvm.Cond.methodLink "LevelMachine" (61 : Nat) ({ cls := "LevelMachine$Memory", name := "kindOf", desc := "(I)I" } : Jvm.MethodName)) ∈ nTc := nT 162 (by first | rfl | decide +kernel) rfl
set_option maxRecDepth 100000 in
theorem tw163 : (Jvm.Cond.instanceMethod ({ cls := "LevelMachine$Memory", name := "kindOf", desc := "(I)I" } : Jvm.MethodName)) ∈ nTc := nT 163 (by first | rfl | decide +kernel) rfl
set_option maxRecDepth 100000 in
theorem tw164 : (Jvm.Cond.selects "LevelMachine$Memory" ({ cls := "LevelMachine$Memory", name := "kindOf", desc := "(I)I" } : Jvm.MethodName) ({ cls := "LevelMachine$Memory", name := "kindOf", desc := "(I)I" } : Jvm.MethodName)) ∈ nTc := nT 164 (by first | rfl | decide +kernel) rfl
set_option maxRecDepth 100000 in
theorem tw165 : (Jvm.Cond.code ({ cls := "LevelMachine$Memory", name := "kindOf", desc := "(I)I" } : Jvm.MethodName) prog_3_method_8_code (2 : Nat) (Option.some Jvm.ClassFile.FieldType.int)) ∈ nTc := nT 165 (by first | rfl | decide +kernel) rfl
set_option maxRecDepth 100000 in
theorem tw166 : (Jvm.Cond.methodLink "LevelMachine" (64 : Nat) ({ cls := "LevelMachine$Segment", name := "clear", desc := "()V" } : Jvm.MethodName)) ∈ nTc := nT 166 (by first | rfl | decide +kernel) rfl
set_option maxRecDepth 100000 in
theorem tw167 : (Jvm.Cond.instanceMethod ({ cls := "LevelMachine$Segment", name := "clear", desc := "()V" } : Jvm.MethodName)) ∈ nTc := nT 167 (by first | rfl | decide +kernel) rfl
set_option maxRecDepth 100000 in
theorem tw168 : (Jvm.Cond.selects "LevelMachine$Segment" ({ cls := "LevelMachine$Segment", name := "clear", desc := "()V" } : Jvm.MethodName) ({ cls := "LevelMachine$Segment", name := "clear", desc := "()V" } : Jvm.MethodName)) ∈ nTc := nT 168 (by first | rfl | decide +kernel) rfl
set_option maxRecDepth 100000 in
theorem tw169 : (Jvm.Cond.code ({ cls := "LevelMachine$Segment", name := "clear", desc := "()V" } : Jvm.MethodName) prog_4_method_2_code (1 : Nat) (Option.none : Option Jvm.ClassFile.FieldType)) ∈ nTc := nT 169 (by first | rfl | decide +kernel) rfl
set_option maxRecDepth 100000 in
theorem tw170 : (Jvm.Cond.methodLink "LevelMachine" (67 : Nat) ({ cls := "LevelMachine$Segment", name := "load", desc := "(LLevelMachine$Memory;I)V" } : Jvm.MethodName)) ∈ nTc := nT 170 (by first | rfl | decide +kernel) rfl
set_option maxRecDepth 100000 in
theorem tw171 : (Jvm.Cond.instanceMethod ({ cls := "LevelMachine$Segment", name := "load", desc := "(LLevelMachine$Memory;I)V" } : Jvm.MethodName)) ∈ nTc := nT 171 (by first | rfl | decide +kernel) rfl
set_option maxRecDepth 100000 in
theorem tw172 : (Jvm.Cond.selects "LevelMachine$Segment" ({ cls := "LevelMachine$Segment", name := "load", desc := "(LLevelMachine$Memory;I)V" } : Jvm.MethodName) ({ cls := "LevelMachine$Segment", name := "load", desc := "(LLevelMachine$Memory;I)V" } : Jvm.MethodName)) ∈ nTc := nT 172 (by first | rfl | decide +kernel) rfl
set_option maxRecDepth 100000 in
theorem tw173 : (Jvm.Cond.code ({ cls := "LevelMachine$Segment", name := "load", desc := "(LLevelMachine$Memory;I)V" } : Jvm.MethodName) prog_4_method_3_code (3 : Nat) (Option.none : Option Jvm.ClassFile.FieldType)) ∈ nTc := nT 173 (by first | rfl | decide +kernel) rfl
set_option maxRecDepth 100000 in
theorem tw174 : (Jvm.Cond.methodLink "LevelMachine$Segment" (30 : Nat) ({ cls := "LevelMachine$Memory", name := "first", desc := "(I)I" } : Jvm.MethodName)) ∈ nTc := nT 174 (by first | rfl | decide +kernel) rfl
set_option maxRecDepth 100000 in
theorem tw175 : (Jvm.Cond.instanceMethod ({ cls := "LevelMachine$Memory", name := "first", desc := "(I)I" } : Jvm.MethodName)) ∈ nTc := nT 175 (by first | rfl | decide +kernel) rfl
set_option maxRecDepth 100000 in
theorem tw176 : (Jvm.Cond.selects "LevelMachine$Memory" ({ cls := "LevelMachine$Memory", name := "first", desc := "(I)I" } : Jvm.MethodName) ({ cls := "LevelMachine$Memory", name := "first", desc := "(I)I" } : Jvm.MethodName)) ∈ nTc := nT 176 (by first | rfl | decide +kernel) rfl
set_option maxRecDepth 100000 in
theorem tw177 : (Jvm.Cond.code ({ cls := "LevelMachine$Memory", name := "first", desc := "(I)I" } : Jvm.MethodName) prog_3_method_9_code (2 : Nat) (Option.some Jvm.ClassFile.FieldType.int)) ∈ nTc := nT 177 (by first | rfl | decide +kernel) rfl
set_option maxRecDepth 100000 in
theorem tw178 : (Jvm.Cond.methodLink "LevelMachine$Segment" (36 : Nat) ({ cls := "LevelMachine$Memory", name := "second", desc := "(I)I" } : Jvm.MethodName)) ∈ nTc := nT 178 (by first | rfl | decide +kernel) rfl
set_option maxRecDepth 100000 in
theorem tw179 : (Jvm.Cond.instanceMethod ({ cls := "LevelMachine$Memory", name := "second", desc := "(I)I" } : Jvm.MethodName)) ∈ nTc := nT 179 (by first | rfl | decide +kernel) rfl
set_option maxRecDepth 100000 in
theorem tw180 : (Jvm.Cond.selects "LevelMachine$Memory" ({ cls := "LevelMachine$Memory", name := "second", desc := "(I)I" } : Jvm.MethodName) ({ cls := "LevelMachine$Memory", name := "second", desc := "(I)I" } : Jvm.MethodName)) ∈ nTc := nT 180 (by first | rfl | decide +kernel) rfl
set_option maxRecDepth 100000 in
theorem tw181 : (Jvm.Cond.code ({ cls := "LevelMachine$Memory", name := "second", desc := "(I)I" } : Jvm.MethodName) prog_3_method_10_code (2 : Nat) (Option.some Jvm.ClassFile.FieldType.int)) ∈ nTc := nT 181 (by first | rfl | decide +kernel) rfl
set_option maxRecDepth 100000 in
theorem tw182 : (Jvm.Cond.methodLink "LevelMachine$Segment" (39 : Nat) ({ cls := "LevelMachine$Memory", name := "kind", desc := "(I)I" } : Jvm.MethodName)) ∈ nTc := nT 182 (by first | rfl | decide +kernel) rfl
set_option maxRecDepth 100000 in
theorem tw183 : (Jvm.Cond.instanceMethod ({ cls := "LevelMachine$Memory", name := "kind", desc := "(I)I" } : Jvm.MethodName)) ∈ nTc := nT 183 (by first | rfl | decide +kernel) rfl
set_option maxRecDepth 100000 in
theorem tw184 : (Jvm.Cond.selects "LevelMachine$Memory" ({ cls := "LevelMachine$Memory", name := "kind", desc := "(I)I" } : Jvm.MethodName) ({ cls := "LevelMachine$Memory", name := "kind", desc := "(I)I" } : Jvm.MethodName)) ∈ nTc := nT 184 (by first | rfl | decide +kernel) rfl
set_option maxRecDepth 100000 in
theorem tw185 : (Jvm.Cond.code ({ cls := "LevelMachine$Memory", name := "kind", desc := "(I)I" } : Jvm.MethodName) prog_3_method_11_code (2 : Nat) (Option.some Jvm.ClassFile.FieldType.int)) ∈ nTc := nT 185 (by first | rfl | decide +kernel) rfl
set_option maxRecDepth 100000 in
theorem tw186 : (Jvm.Cond.methodLink "LevelMachine$Segment" (41 : Nat) ({ cls := "LevelMachine$Memory", name := "rank", desc := "(I)I" } : Jvm.MethodName)) ∈ nTc := nT 186 (by first | rfl | decide +kernel) rfl
set_option maxRecDepth 100000 in
theorem tw187 : (Jvm.Cond.instanceMethod ({ cls := "LevelMachine$Memory", name := "rank", desc := "(I)I" } : Jvm.MethodName)) ∈ nTc := nT 187 (by first | rfl | decide +kernel) rfl
set_option maxRecDepth 100000 in
theorem tw188 : (Jvm.Cond.selects "LevelMachine$Memory" ({ cls := "LevelMachine$Memory", name := "rank", desc := "(I)I" } : Jvm.MethodName) ({ cls := "LevelMachine$Memory", name := "rank", desc := "(I)I" } : Jvm.MethodName)) ∈ nTc := nT 188 (by first | rfl | decide +kernel) rfl
set_option maxRecDepth 100000 in
theorem tw189 : (Jvm.Cond.code ({ cls := "LevelMachine$Memory", name := "rank", desc := "(I)I" } : Jvm.MethodName) prog_3_method_12_code (2 : Nat) (Option.some Jvm.ClassFile.FieldType.int)) ∈ nTc := nT 189 (by first | rfl | decide +kernel) rfl
set_option maxRecDepth 100000 in
theorem tw190 : (Jvm.Cond.methodLink "LevelMachineLaw" (36 : Nat) ({ cls := "LevelMachine", name := "step", desc := "(I)I" } : Jvm.MethodName)) ∈ nTc := nT 190 (by first | rfl | decide +kernel) rfl
set_option maxRecDepth 100000 in
theorem tw191 : (Jvm.Cond.instanceMethod ({ cls := "LevelMachine", name := "step", desc := "(I)I" } : Jvm.MethodName)) ∈ nTc := nT 191 (by first | rfl | decide +kernel) rfl
set_option maxRecDepth 100000 in
theorem tw192 : (Jvm.Cond.selects "LevelMachine" ({ cls := "LevelMachine", name := "step", desc := "(I)I" } : Jvm.MethodName) ({ cls := "LevelMachine", name := "step", desc := "(I)I" } : Jvm.MethodName)) ∈ nTc := nT 192 (by first | rfl | decide +kernel) rfl
set_option maxRecDepth 100000 in
theorem tw193 : (Jvm.Cond.code ({ cls := "LevelMachine", name := "step", desc := "(I)I" } : Jvm.MethodName) prog_1_method_7_code (4 : Nat) (Option.some Jvm.ClassFile.FieldType.int)) ∈ nTc := nT 193 (by first | rfl | decide +kernel) rfl
set_option maxRecDepth 100000 in
theorem tw194 : (Jvm.Cond.methodLink "LevelMachine" (75 : Nat) ({ cls := "LevelMachine", name := "keepAll", desc := "()V" } : Jvm.MethodName)) ∈ nTc := nT 194 (by first | rfl | decide +kernel) rfl
set_option maxRecDepth 100000 in
theorem tw196 : (Jvm.Cond.instanceMethod ({ cls := "LevelMachine", name := "keepAll", desc := "()V" } : Jvm.MethodName)) ∈ nTc := nT 196 (by first | rfl | decide +kernel) rfl
set_option maxRecDepth 100000 in
theorem tw197 : (Jvm.Cond.code ({ cls := "LevelMachine", name := "keepAll", desc := "()V" } : Jvm.MethodName) prog_1_method_14_code (2 : Nat) (Option.none : Option Jvm.ClassFile.FieldType)) ∈ nTc := nT 197 (by first | rfl | decide +kernel) rfl
set_option maxRecDepth 100000 in
theorem tw198 : (Jvm.Cond.methodLink "LevelMachine" (114 : Nat) ({ cls := "LevelMachine$Memory", name := "keep", desc := "()V" } : Jvm.MethodName)) ∈ nTc := nT 198 (by first | rfl | decide +kernel) rfl
set_option maxRecDepth 100000 in
theorem tw199 : (Jvm.Cond.instanceMethod ({ cls := "LevelMachine$Memory", name := "keep", desc := "()V" } : Jvm.MethodName)) ∈ nTc := nT 199 (by first | rfl | decide +kernel) rfl
set_option maxRecDepth 100000 in
theorem tw200 : (Jvm.Cond.selects "LevelMachine$Memory" ({ cls := "LevelMachine$Memory", name := "keep", desc := "()V" } : Jvm.MethodName) ({ cls := "LevelMachine$Memory", name := "keep", desc := "()V" } : Jvm.MethodName)) ∈ nTc := nT 200 (by first | rfl | decide +kernel) rfl
set_option maxRecDepth 100000 in
theorem tw201 : (Jvm.Cond.code ({ cls := "LevelMachine$Memory", name := "keep", desc := "()V" } : Jvm.MethodName) prog_3_method_6_code (1 : Nat) (Option.none : Option Jvm.ClassFile.FieldType)) ∈ nTc := nT 201 (by first | rfl | decide +kernel) rfl
set_option maxRecDepth 100000 in
theorem tw202 : (Jvm.Cond.methodLink "LevelMachine$Memory" (19 : Nat) ({ cls := "java/lang/System", name := "arraycopy", desc := "(Ljava/lang/Object;ILjava/lang/Object;II)V" } : Jvm.MethodName)) ∈ nTc := nT 202 (by first | rfl | decide +kernel) rfl
set_option maxRecDepth 100000 in
theorem tw203 : (Jvm.Cond.static ({ cls := "java/lang/System", name := "arraycopy", desc := "(Ljava/lang/Object;ILjava/lang/Object;II)V" } : Jvm.MethodName)) ∈ nTc := nT 203 (by first | rfl | decide +kernel) rfl
set_option maxRecDepth 100000 in
theorem tw204 : (Jvm.Cond.native ({ cls := "java/lang/System", name := "arraycopy", desc := "(Ljava/lang/Object;ILjava/lang/Object;II)V" } : Jvm.MethodName)) ∈ nTc := nT 204 (by first | rfl | decide +kernel) rfl
set_option maxRecDepth 100000 in
theorem tw205 : (Jvm.Cond.methodLink "LevelMachine" (117 : Nat) ({ cls := "java/lang/System", name := "arraycopy", desc := "(Ljava/lang/Object;ILjava/lang/Object;II)V" } : Jvm.MethodName)) ∈ nTc := nT 205 (by first | rfl | decide +kernel) rfl
set_option maxRecDepth 100000 in
theorem tw206 : (Jvm.Cond.methodLink "LevelMachine" (123 : Nat) ({ cls := "LevelMachine$Segment", name := "copy", desc := "(LLevelMachine$Segment;)V" } : Jvm.MethodName)) ∈ nTc := nT 206 (by first | rfl | decide +kernel) rfl
set_option maxRecDepth 100000 in
theorem tw207 : (Jvm.Cond.instanceMethod ({ cls := "LevelMachine$Segment", name := "copy", desc := "(LLevelMachine$Segment;)V" } : Jvm.MethodName)) ∈ nTc := nT 207 (by first | rfl | decide +kernel) rfl
set_option maxRecDepth 100000 in
theorem tw208 : (Jvm.Cond.selects "LevelMachine$Segment" ({ cls := "LevelMachine$Segment", name := "copy", desc := "(LLevelMachine$Segment;)V" } : Jvm.MethodName) ({ cls := "LevelMachine$Segment", name := "copy", desc := "(LLevelMachine$Segment;)V" } : Jvm.MethodName)) ∈ nTc := nT 208 (by first | rfl | decide +kernel) rfl
set_option maxRecDepth 100000 in
theorem tw209 : (Jvm.Cond.code ({ cls := "LevelMachine$Segment", name := "copy", desc := "(LLevelMachine$Segment;)V" } : Jvm.MethodName) prog_4_method_4_code (2 : Nat) (Option.none : Option Jvm.ClassFile.FieldType)) ∈ nTc := nT 209 (by first | rfl | decide +kernel) rfl
set_option maxRecDepth 100000 in
theorem tw210 : (Jvm.Cond.methodLink "LevelMachine" (78 : Nat) ({ cls := "LevelMachine", name := "perform", desc := "()Z" } : Jvm.MethodName)) ∈ nTc := nT 210 (by first | rfl | decide +kernel) rfl
set_option maxRecDepth 100000 in
theorem tw212 : (Jvm.Cond.instanceMethod ({ cls := "LevelMachine", name := "perform", desc := "()Z" } : Jvm.MethodName)) ∈ nTc := nT 212 (by first | rfl | decide +kernel) rfl
set_option maxRecDepth 100000 in
theorem tw213 : (Jvm.Cond.code ({ cls := "LevelMachine", name := "perform", desc := "()Z" } : Jvm.MethodName) prog_1_method_25_code (5 : Nat) (Option.some Jvm.ClassFile.FieldType.boolean)) ∈ nTc := nT 213 (by first | rfl | decide +kernel) rfl
set_option maxRecDepth 100000 in
theorem tw214 : (Jvm.Cond.methodLink "LevelMachine" (186 : Nat) ({ cls := "LevelMachine", name := "decode", desc := "()Z" } : Jvm.MethodName)) ∈ nTc := nT 214 (by first | rfl | decide +kernel) rfl
set_option maxRecDepth 100000 in
theorem tw216 : (Jvm.Cond.instanceMethod ({ cls := "LevelMachine", name := "decode", desc := "()Z" } : Jvm.MethodName)) ∈ nTc := nT 216 (by first | rfl | decide +kernel) rfl
set_option maxRecDepth 100000 in
theorem tw217 : (Jvm.Cond.code ({ cls := "LevelMachine", name := "decode", desc := "()Z" } : Jvm.MethodName) prog_1_method_24_code (3 : Nat) (Option.some Jvm.ClassFile.FieldType.boolean)) ∈ nTc := nT 217 (by first | rfl | decide +kernel) rfl
set_option maxRecDepth 100000 in
theorem tw218 : (Jvm.Cond.methodLink "LevelMachine" (168 : Nat) ({ cls := "LevelMachine", name := "fetch", desc := "()I" } : Jvm.MethodName)) ∈ nTc := nT 218 (by first | rfl | decide +kernel) rfl
set_option maxRecDepth 100000 in
theorem tw220 : (Jvm.Cond.instanceMethod ({ cls := "LevelMachine", name := "fetch", desc := "()I" } : Jvm.MethodName)) ∈ nTc := nT 220 (by first | rfl | decide +kernel) rfl
set_option maxRecDepth 100000 in
theorem tw221 : (Jvm.Cond.code ({ cls := "LevelMachine", name := "fetch", desc := "()I" } : Jvm.MethodName) prog_1_method_23_code (3 : Nat) (Option.some Jvm.ClassFile.FieldType.int)) ∈ nTc := nT 221 (by first | rfl | decide +kernel) rfl
set_option maxRecDepth 100000 in
theorem tw222 : (Jvm.Cond.methodLink "LevelMachine" (153 : Nat) ({ cls := "LevelMachine", name := "fault", desc := "(II)Z" } : Jvm.MethodName)) ∈ nTc := nT 222 (by first | rfl | decide +kernel) rfl
set_option maxRecDepth 100000 in
theorem tw224 : (Jvm.Cond.instanceMethod ({ cls := "LevelMachine", name := "fault", desc := "(II)Z" } : Jvm.MethodName)) ∈ nTc := nT 224 (by first | rfl | decide +kernel) rfl
set_option maxRecDepth 100000 in
theorem tw225 : (Jvm.Cond.code ({ cls := "LevelMachine", name := "fault", desc := "(II)Z" } : Jvm.MethodName) prog_1_method_16_code (3 : Nat) (Option.some Jvm.ClassFile.FieldType.boolean)) ∈ nTc := nT 225 (by first | rfl | decide +kernel) rfl
set_option maxRecDepth 100000 in
theorem tw226 : (Jvm.Cond.constant "LevelMachine" (133 : Nat) (65532 : Int32)) ∈ nTc := nT 226 (by first | rfl | decide +kernel) rfl
set_option maxRecDepth 100000 in
theorem tw227 : (Jvm.Cond.methodLink "LevelMachine" (150 : Nat) ({ cls := "LevelMachine$Memory", name := "round", desc := "(I)I" } : Jvm.MethodName)) ∈ nTc := nT 227 (by first | rfl | decide +kernel) rfl
set_option maxRecDepth 100000 in
theorem tw228 : (Jvm.Cond.static ({ cls := "LevelMachine$Memory", name := "round", desc := "(I)I" } : Jvm.MethodName)) ∈ nTc := nT 228 (by first | rfl | decide +kernel) rfl
set_option maxRecDepth 100000 in
theorem tw229 : (Jvm.Cond.code ({ cls := "LevelMachine$Memory", name := "round", desc := "(I)I" } : Jvm.MethodName) prog_3_method_2_code (1 : Nat) (Option.some Jvm.ClassFile.FieldType.int)) ∈ nTc := nT 229 (by first | rfl | decide +kernel) rfl
set_option maxRecDepth 100000 in
theorem tw230 : (Jvm.Cond.methodLink "LevelMachine" (171 : Nat) ({ cls := "LevelMachine$Instruction", name := "split", desc := "(I)V" } : Jvm.MethodName)) ∈ nTc := nT 230 (by first | rfl | decide +kernel) rfl
set_option maxRecDepth 100000 in
theorem tw231 : (Jvm.Cond.instanceMethod ({ cls := "LevelMachine$Instruction", name := "split", desc := "(I)V" } : Jvm.MethodName)) ∈ nTc := nT 231 (by first | rfl | decide +kernel) rfl
set_option maxRecDepth 100000 in
theorem tw232 : (Jvm.Cond.selects "LevelMachine$Instruction" ({ cls := "LevelMachine$Instruction", name := "split", desc := "(I)V" } : Jvm.MethodName) ({ cls := "LevelMachine$Instruction", name := "split", desc := "(I)V" } : Jvm.MethodName)) ∈ nTc := nT 232 (by first | rfl | decide +kernel) rfl
set_option maxRecDepth 100000 in
theorem tw233 : (Jvm.Cond.code ({ cls := "LevelMachine$Instruction", name := "split", desc := "(I)V" } : Jvm.MethodName) prog_2_method_2_code (2 : Nat) (Option.none : Option Jvm.ClassFile.FieldType)) ∈ nTc := nT 233 (by first | rfl | decide +kernel) rfl
set_option maxRecDepth 100000 in
theorem tw234 : (Jvm.Cond.methodLink "LevelMachine" (174 : Nat) ({ cls := "LevelMachine$Instruction", name := "isProper", desc := "()Z" } : Jvm.MethodName)) ∈ nTc := nT 234 (by first | rfl | decide +kernel) rfl
set_option maxRecDepth 100000 in
theorem tw235 : (Jvm.Cond.instanceMethod ({ cls := "LevelMachine$Instruction", name := "isProper", desc := "()Z" } : Jvm.MethodName)) ∈ nTc := nT 235 (by first | rfl | decide +kernel) rfl
set_option maxRecDepth 100000 in
theorem tw236 : (Jvm.Cond.selects "LevelMachine$Instruction" ({ cls := "LevelMachine$Instruction", name := "isProper", desc := "()Z" } : Jvm.MethodName) ({ cls := "LevelMachine$Instruction", name := "isProper", desc := "()Z" } : Jvm.MethodName)) ∈ nTc := nT 236 (by first | rfl | decide +kernel) rfl
set_option maxRecDepth 100000 in
theorem tw237 : (Jvm.Cond.code ({ cls := "LevelMachine$Instruction", name := "isProper", desc := "()Z" } : Jvm.MethodName) prog_2_method_3_code (1 : Nat) (Option.some Jvm.ClassFile.FieldType.boolean)) ∈ nTc := nT 237 (by first | rfl | decide +kernel) rfl
set_option maxRecDepth 100000 in
theorem tw238 : (Jvm.Cond.fieldLink "LevelMachine$Instruction" (21 : Nat) "LevelMachine$Instruction" "MOST_Q" "[I") ∈ nTc := nT 238 (by first | rfl | decide +kernel) rfl
set_option maxRecDepth 100000 in
theorem tw240 : (Jvm.Cond.methodLink "LevelMachine" (177 : Nat) ({ cls := "LevelMachine$Instruction", name := "tail", desc := "()I" } : Jvm.MethodName)) ∈ nTc := nT 240 (by first | rfl | decide +kernel) rfl
set_option maxRecDepth 100000 in
theorem tw241 : (Jvm.Cond.instanceMethod ({ cls := "LevelMachine$Instruction", name := "tail", desc := "()I" } : Jvm.MethodName)) ∈ nTc := nT 241 (by first | rfl | decide +kernel) rfl
set_option maxRecDepth 100000 in
theorem tw242 : (Jvm.Cond.selects "LevelMachine$Instruction" ({ cls := "LevelMachine$Instruction", name := "tail", desc := "()I" } : Jvm.MethodName) ({ cls := "LevelMachine$Instruction", name := "tail", desc := "()I" } : Jvm.MethodName)) ∈ nTc := nT 242 (by first | rfl | decide +kernel) rfl
set_option maxRecDepth 100000 in
theorem tw243 : (Jvm.Cond.code ({ cls := "LevelMachine$Instruction", name := "tail", desc := "()I" } : Jvm.MethodName) prog_2_method_4_code (1 : Nat) (Option.some Jvm.ClassFile.FieldType.int)) ∈ nTc := nT 243 (by first | rfl | decide +kernel) rfl
set_option maxRecDepth 100000 in
theorem tw244 : (Jvm.Cond.fieldLink "LevelMachine$Instruction" (25 : Nat) "LevelMachine$Instruction" "TAILS" "[I") ∈ nTc := nT 244 (by first | rfl | decide +kernel) rfl
set_option maxRecDepth 100000 in
theorem tw246 : (Jvm.Cond.methodLink "LevelMachine" (198 : Nat) ({ cls := "LevelMachine", name := "stop", desc := "()Z" } : Jvm.MethodName)) ∈ nTc := nT 246 (by first | rfl | decide +kernel) rfl
set_option maxRecDepth 100000 in
theorem tw248 : (Jvm.Cond.instanceMethod ({ cls := "LevelMachine", name := "stop", desc := "()Z" } : Jvm.MethodName)) ∈ nTc := nT 248 (by first | rfl | decide +kernel) rfl
set_option maxRecDepth 100000 in
theorem tw249 : (Jvm.Cond.code ({ cls := "LevelMachine", name := "stop", desc := "()Z" } : Jvm.MethodName) prog_1_method_26_code (1 : Nat) (Option.some Jvm.ClassFile.FieldType.boolean)) ∈ nTc := nT 249 (by first | rfl | decide +kernel) rfl
set_option maxRecDepth 100000 in
theorem tw250 : (Jvm.Cond.methodLink "LevelMachine" (85 : Nat) ({ cls := "LevelMachine", name := "level", desc := "()I" } : Jvm.MethodName)) ∈ nTc := nT 250 (by first | rfl | decide +kernel) rfl
set_option maxRecDepth 100000 in
theorem tw252 : (Jvm.Cond.instanceMethod ({ cls := "LevelMachine", name := "level", desc := "()I" } : Jvm.MethodName)) ∈ nTc := nT 252 (by first | rfl | decide +kernel) rfl
set_option maxRecDepth 100000 in
theorem tw253 : (Jvm.Cond.code ({ cls := "LevelMachine", name := "level", desc := "()I" } : Jvm.MethodName) prog_1_method_13_code (1 : Nat) (Option.some Jvm.ClassFile.FieldType.int)) ∈ nTc := nT 253 (by first | rfl | decide +kernel) rfl
set_option maxRecDepth 100000 in
theorem tw254 : (Jvm.Cond.methodLink "LevelMachine" (201 : Nat) ({ cls := "LevelMachine", name := "give", desc := "(II)Z" } : Jvm.MethodName)) ∈ nTc := nT 254 (by first | rfl | decide +kernel) rfl
set_option maxRecDepth 100000 in
theorem tw256 : (Jvm.Cond.instanceMethod ({ cls := "LevelMachine", name := "give", desc := "(II)Z" } : Jvm.MethodName)) ∈ nTc := nT 256 (by first | rfl | decide +kernel) rfl
set_option maxRecDepth 100000 in
theorem tw257 : (Jvm.Cond.code ({ cls := "LevelMachine", name := "give", desc := "(II)Z" } : Jvm.MethodName) prog_1_method_27_code (3 : Nat) (Option.some Jvm.ClassFile.FieldType.boolean)) ∈ nTc := nT 257 (by first | rfl | decide +kernel) rfl
set_option maxRecDepth 100000 in
theorem tw258 : (Jvm.Cond.methodLink "LevelMachine" (204 : Nat) ({ cls := "LevelMachine", name := "judge", desc := "(I)I" } : Jvm.MethodName)) ∈ nTc := nT 258 (by first | rfl | decide +kernel) rfl
set_option maxRecDepth 100000 in
theorem tw260 : (Jvm.Cond.instanceMethod ({ cls := "LevelMachine", name := "judge", desc := "(I)I" } : Jvm.MethodName)) ∈ nTc := nT 260 (by first | rfl | decide +kernel) rfl
set_option maxRecDepth 100000 in
theorem tw261 : (Jvm.Cond.code ({ cls := "LevelMachine", name := "judge", desc := "(I)I" } : Jvm.MethodName) prog_1_method_28_code (4 : Nat) (Option.some Jvm.ClassFile.FieldType.int)) ∈ nTc := nT 261 (by first | rfl | decide +kernel) rfl
set_option maxRecDepth 100000 in
theorem tw262 : (Jvm.Cond.constant "LevelMachine" (248 : Nat) (32768 : Int32)) ∈ nTc := nT 262 (by first | rfl | decide +kernel) rfl
set_option maxRecDepth 100000 in
theorem tw263 : (Jvm.Cond.methodLink "LevelMachine" (207 : Nat) ({ cls := "LevelMachine", name := "compare", desc := "(II)Z" } : Jvm.MethodName)) ∈ nTc := nT 263 (by first | rfl | decide +kernel) rfl
set_option maxRecDepth 100000 in
theorem tw265 : (Jvm.Cond.instanceMethod ({ cls := "LevelMachine", name := "compare", desc := "(II)Z" } : Jvm.MethodName)) ∈ nTc := nT 265 (by first | rfl | decide +kernel) rfl
set_option maxRecDepth 100000 in
theorem tw266 : (Jvm.Cond.code ({ cls := "LevelMachine", name := "compare", desc := "(II)Z" } : Jvm.MethodName) prog_1_method_29_code (3 : Nat) (Option.some Jvm.ClassFile.FieldType.boolean)) ∈ nTc := nT 266 (by first | rfl | decide +kernel) rfl
set_option maxRecDepth 100000 in
theorem tw267 : (Jvm.Cond.methodLink "LevelMachine" (164 : Nat) ({ cls := "LevelMachine", name := "read", desc := "(LLevelMachine$Segment;I)I" } : Jvm.MethodName)) ∈ nTc := nT 267 (by first | rfl | decide +kernel) rfl
set_option maxRecDepth 100000 in
theorem tw269 : (Jvm.Cond.instanceMethod ({ cls := "LevelMachine", name := "read", desc := "(LLevelMachine$Segment;I)I" } : Jvm.MethodName)) ∈ nTc := nT 269 (by first | rfl | decide +kernel) rfl
set_option maxRecDepth 100000 in
theorem tw270 : (Jvm.Cond.code ({ cls := "LevelMachine", name := "read", desc := "(LLevelMachine$Segment;I)I" } : Jvm.MethodName) prog_1_method_19_code (4 : Nat) (Option.some Jvm.ClassFile.FieldType.int)) ∈ nTc := nT 270 (by first | rfl | decide +kernel) rfl
set_option maxRecDepth 100000 in
theorem tw271 : (Jvm.Cond.methodLink "LevelMachine" (160 : Nat) ({ cls := "LevelMachine", name := "write", desc := "(LLevelMachine$Segment;II)Z" } : Jvm.MethodName)) ∈ nTc := nT 271 (by first | rfl | decide +kernel) rfl
set_option maxRecDepth 100000 in
theorem tw273 : (Jvm.Cond.instanceMethod ({ cls := "LevelMachine", name := "write", desc := "(LLevelMachine$Segment;II)Z" } : Jvm.MethodName)) ∈ nTc := nT 273 (by first | rfl | decide +kernel) rfl
set_option maxRecDepth 100000 in
theorem tw274 : (Jvm.Cond.code ({ cls := "LevelMachine", name := "write", desc := "(LLevelMachine$Segment;II)Z" } : Jvm.MethodName) prog_1_method_20_code (5 : Nat) (Option.some Jvm.ClassFile.FieldType.boolean)) ∈ nTc := nT 274 (by first | rfl | decide +kernel) rfl
set_option maxRecDepth 100000 in
theorem tw275 : (Jvm.Cond.methodLink "LevelMachine" (210 : Nat) ({ cls := "LevelMachine", name := "go", desc := "(IZ)Z" } : Jvm.MethodName)) ∈ nTc := nT 275 (by first | rfl | decide +kernel) rfl
set_option maxRecDepth 100000 in
theorem tw277 : (Jvm.Cond.instanceMethod ({ cls := "LevelMachine", name := "go", desc := "(IZ)Z" } : Jvm.MethodName)) ∈ nTc := nT 277 (by first | rfl | decide +kernel) rfl
set_option maxRecDepth 100000 in
theorem tw278 : (Jvm.Cond.code ({ cls := "LevelMachine", name := "go", desc := "(IZ)Z" } : Jvm.MethodName) prog_1_method_31_code (3 : Nat) (Option.some Jvm.ClassFile.FieldType.boolean)) ∈ nTc := nT 278 (by first | rfl | decide +kernel) rfl
set_option maxRecDepth 100000 in
theorem tw279 : (Jvm.Cond.methodLink "LevelMachine" (213 : Nat) ({ cls := "LevelMachine", name := "isZero", desc := "()Z" } : Jvm.MethodName)) ∈ nTc := nT 279 (by first | rfl | decide +kernel) rfl
set_option maxRecDepth 100000 in
theorem tw281 : (Jvm.Cond.instanceMethod ({ cls := "LevelMachine", name := "isZero", desc := "()Z" } : Jvm.MethodName)) ∈ nTc := nT 281 (by first | rfl | decide +kernel) rfl
set_option maxRecDepth 100000 in
theorem tw282 : (Jvm.Cond.code ({ cls := "LevelMachine", name := "isZero", desc := "()Z" } : Jvm.MethodName) prog_1_method_30_code (1 : Nat) (Option.some Jvm.ClassFile.FieldType.boolean)) ∈ nTc := nT 282 (by first | rfl | decide +kernel) rfl
set_option maxRecDepth 100000 in
theorem tw283 : (Jvm.Cond.methodLink "LevelMachine" (147 : Nat) ({ cls := "LevelMachine", name := "push", desc := "(I)Z" } : Jvm.MethodName)) ∈ nTc := nT 283 (by first | rfl | decide +kernel) rfl
set_option maxRecDepth 100000 in
theorem tw285 : (Jvm.Cond.instanceMethod ({ cls := "LevelMachine", name := "push", desc := "(I)Z" } : Jvm.MethodName)) ∈ nTc := nT 285 (by first | rfl | decide +kernel) rfl
set_option maxRecDepth 100000 in
theorem tw286 : (Jvm.Cond.code ({ cls := "LevelMachine", name := "push", desc := "(I)Z" } : Jvm.MethodName) prog_1_method_21_code (2 : Nat) (Option.some Jvm.ClassFile.FieldType.boolean)) ∈ nTc := nT 286 (by first | rfl | decide +kernel) rfl
set_option maxRecDepth 100000 in
theorem tw287 : (Jvm.Cond.methodLink "LevelMachine" (216 : Nat) ({ cls := "LevelMachine", name := "pop", desc := "()I" } : Jvm.MethodName)) ∈ nTc := nT 287 (by first | rfl | decide +kernel) rfl
set_option maxRecDepth 100000 in
theorem tw289 : (Jvm.Cond.instanceMethod ({ cls := "LevelMachine", name := "pop", desc := "()I" } : Jvm.MethodName)) ∈ nTc := nT 289 (by first | rfl | decide +kernel) rfl
set_option maxRecDepth 100000 in
theorem tw290 : (Jvm.Cond.code ({ cls := "LevelMachine", name := "pop", desc := "()I" } : Jvm.MethodName) prog_1_method_22_code (2 : Nat) (Option.some Jvm.ClassFile.FieldType.int)) ∈ nTc := nT 290 (by first | rfl | decide +kernel) rfl
set_option maxRecDepth 100000 in
theorem tw291 : (Jvm.Cond.methodLink "LevelMachine" (219 : Nat) ({ cls := "LevelMachine", name := "loadStack", desc := "(I)Z" } : Jvm.MethodName)) ∈ nTc := nT 291 (by first | rfl | decide +kernel) rfl
set_option maxRecDepth 100000 in
theorem tw293 : (Jvm.Cond.instanceMethod ({ cls := "LevelMachine", name := "loadStack", desc := "(I)Z" } : Jvm.MethodName)) ∈ nTc := nT 293 (by first | rfl | decide +kernel) rfl
set_option maxRecDepth 100000 in
theorem tw294 : (Jvm.Cond.code ({ cls := "LevelMachine", name := "loadStack", desc := "(I)Z" } : Jvm.MethodName) prog_1_method_34_code (3 : Nat) (Option.some Jvm.ClassFile.FieldType.boolean)) ∈ nTc := nT 294 (by first | rfl | decide +kernel) rfl
set_option maxRecDepth 100000 in
theorem tw295 : (Jvm.Cond.methodLink "LevelMachine" (249 : Nat) ({ cls := "LevelMachine$Memory", name := "rank", desc := "(I)I" } : Jvm.MethodName)) ∈ nTc := nT 295 (by first | rfl | decide +kernel) rfl
set_option maxRecDepth 100000 in
theorem tw296 : (Jvm.Cond.methodLink "LevelMachine" (251 : Nat) ({ cls := "LevelMachine$Memory", name := "isThere", desc := "(I)Z" } : Jvm.MethodName)) ∈ nTc := nT 296 (by first | rfl | decide +kernel) rfl
set_option maxRecDepth 100000 in
theorem tw297 : (Jvm.Cond.instanceMethod ({ cls := "LevelMachine$Memory", name := "isThere", desc := "(I)Z" } : Jvm.MethodName)) ∈ nTc := nT 297 (by first | rfl | decide +kernel) rfl
set_option maxRecDepth 100000 in
theorem tw298 : (Jvm.Cond.selects "LevelMachine$Memory" ({ cls := "LevelMachine$Memory", name := "isThere", desc := "(I)Z" } : Jvm.MethodName) ({ cls := "LevelMachine$Memory", name := "isThere", desc := "(I)Z" } : Jvm.MethodName)) ∈ nTc := nT 298 (by first | rfl | decide +kernel) rfl
set_option maxRecDepth 100000 in
theorem tw299 : (Jvm.Cond.code ({ cls := "LevelMachine$Memory", name := "isThere", desc := "(I)Z" } : Jvm.MethodName) prog_3_method_13_code (2 : Nat) (Option.some Jvm.ClassFile.FieldType.boolean)) ∈ nTc := nT 299 (by first | rfl | decide +kernel) rfl
set_option maxRecDepth 100000 in
theorem tw300 : (Jvm.Cond.methodLink "LevelMachine" (222 : Nat) ({ cls := "LevelMachine", name := "loadData", desc := "(LLevelMachine$Segment;I)Z" } : Jvm.MethodName)) ∈ nTc := nT 300 (by first | rfl | decide +kernel) rfl
set_option maxRecDepth 100000 in
theorem tw302 : (Jvm.Cond.instanceMethod ({ cls := "LevelMachine", name := "loadData", desc := "(LLevelMachine$Segment;I)Z" } : Jvm.MethodName)) ∈ nTc := nT 302 (by first | rfl | decide +kernel) rfl
set_option maxRecDepth 100000 in
theorem tw303 : (Jvm.Cond.code ({ cls := "LevelMachine", name := "loadData", desc := "(LLevelMachine$Segment;I)Z" } : Jvm.MethodName) prog_1_method_33_code (5 : Nat) (Option.some Jvm.ClassFile.FieldType.boolean)) ∈ nTc := nT 303 (by first | rfl | decide +kernel) rfl
set_option maxRecDepth 100000 in
theorem tw304 : (Jvm.Cond.methodLink "LevelMachine" (226 : Nat) ({ cls := "LevelMachine", name := "isCode", desc := "(I)Z" } : Jvm.MethodName)) ∈ nTc := nT 304 (by first | rfl | decide +kernel) rfl
set_option maxRecDepth 100000 in
theorem tw305 : (Jvm.Cond.static ({ cls := "LevelMachine", name := "isCode", desc := "(I)Z" } : Jvm.MethodName)) ∈ nTc := nT 305 (by first | rfl | decide +kernel) rfl
set_option maxRecDepth 100000 in
theorem tw306 : (Jvm.Cond.code ({ cls := "LevelMachine", name := "isCode", desc := "(I)Z" } : Jvm.MethodName) prog_1_method_12_code (1 : Nat) (Option.some Jvm.ClassFile.FieldType.boolean)) ∈ nTc := nT 306 (by first | rfl | decide +kernel) rfl
set_option maxRecDepth 100000 in
theorem tw307 : (Jvm.Cond.methodLink "LevelMachine" (229 : Nat) ({ cls := "LevelMachine", name := "toCode", desc := "(IIZ)Z" } : Jvm.MethodName)) ∈ nTc := nT 307 (by first | rfl | decide +kernel) rfl
set_option maxRecDepth 100000 in
theorem tw309 : (Jvm.Cond.instanceMethod ({ cls := "LevelMachine", name := "toCode", desc := "(IIZ)Z" } : Jvm.MethodName)) ∈ nTc := nT 309 (by first | rfl | decide +kernel) rfl
set_option maxRecDepth 100000 in
theorem tw310 : (Jvm.Cond.code ({ cls := "LevelMachine", name := "toCode", desc := "(IIZ)Z" } : Jvm.MethodName) prog_1_method_38_code (5 : Nat) (Option.some Jvm.ClassFile.FieldType.boolean)) ∈ nTc := nT 310 (by first | rfl | decide +kernel) rfl
set_option maxRecDepth 100000 in
theorem tw311 : (Jvm.Cond.methodLink "LevelMachine" (264 : Nat) ({ cls := "LevelMachine", name := "enter", desc := "(III)Z" } : Jvm.MethodName)) ∈ nTc := nT 311 (by first | rfl | decide +kernel) rfl
set_option maxRecDepth 100000 in
theorem tw313 : (Jvm.Cond.instanceMethod ({ cls := "LevelMachine", name := "enter", desc := "(III)Z" } : Jvm.MethodName)) ∈ nTc := nT 313 (by first | rfl | decide +kernel) rfl
set_option maxRecDepth 100000 in
theorem tw314 : (Jvm.Cond.code ({ cls := "LevelMachine", name := "enter", desc := "(III)Z" } : Jvm.MethodName) prog_1_method_37_code (4 : Nat) (Option.some Jvm.ClassFile.FieldType.boolean)) ∈ nTc := nT 314 (by first | rfl | decide +kernel) rfl
set_option maxRecDepth 100000 in
theorem tw315 : (Jvm.Cond.methodLink "LevelMachine" (260 : Nat) ({ cls := "LevelMachine", name := "mayEnter", desc := "(III)Z" } : Jvm.MethodName)) ∈ nTc := nT 315 (by first | rfl | decide +kernel) rfl
set_option maxRecDepth 100000 in
theorem tw317 : (Jvm.Cond.instanceMethod ({ cls := "LevelMachine", name := "mayEnter", desc := "(III)Z" } : Jvm.MethodName)) ∈ nTc := nT 317 (by first | rfl | decide +kernel) rfl
set_option maxRecDepth 100000 in
theorem tw318 : (Jvm.Cond.code ({ cls := "LevelMachine", name := "mayEnter", desc := "(III)Z" } : Jvm.MethodName) prog_1_method_36_code (6 : Nat) (Option.some Jvm.ClassFile.FieldType.boolean)) ∈ nTc := nT 318 (by first | rfl | decide +kernel) rfl
set_option maxRecDepth 100000 in
theorem tw319 : (Jvm.Cond.methodLink "LevelMachine" (257 : Nat) ({ cls := "LevelMachine$Memory", name := "second", desc := "(I)I" } : Jvm.MethodName)) ∈ nTc := nT 319 (by first | rfl | decide +kernel) rfl
set_option maxRecDepth 100000 in
theorem tw320 : (Jvm.Cond.methodLink "LevelMachine" (233 : Nat) ({ cls := "LevelMachine", name := "throughGate", desc := "(IZ)Z" } : Jvm.MethodName)) ∈ nTc := nT 320 (by first | rfl | decide +kernel) rfl
set_option maxRecDepth 100000 in
theorem tw322 : (Jvm.Cond.instanceMethod ({ cls := "LevelMachine", name := "throughGate", desc := "(IZ)Z" } : Jvm.MethodName)) ∈ nTc := nT 322 (by first | rfl | decide +kernel) rfl
set_option maxRecDepth 100000 in
theorem tw323 : (Jvm.Cond.code ({ cls := "LevelMachine", name := "throughGate", desc := "(IZ)Z" } : Jvm.MethodName) prog_1_method_39_code (6 : Nat) (Option.some Jvm.ClassFile.FieldType.boolean)) ∈ nTc := nT 323 (by first | rfl | decide +kernel) rfl
set_option maxRecDepth 100000 in
theorem tw324 : (Jvm.Cond.methodLink "LevelMachine" (267 : Nat) ({ cls := "LevelMachine$Memory", name := "first", desc := "(I)I" } : Jvm.MethodName)) ∈ nTc := nT 324 (by first | rfl | decide +kernel) rfl
set_option maxRecDepth 100000 in
theorem tw325 : (Jvm.Cond.methodLink "LevelMachine" (270 : Nat) ({ cls := "LevelMachine", name := "switchTo", desc := "(II)Z" } : Jvm.MethodName)) ∈ nTc := nT 325 (by first | rfl | decide +kernel) rfl
set_option maxRecDepth 100000 in
theorem tw327 : (Jvm.Cond.instanceMethod ({ cls := "LevelMachine", name := "switchTo", desc := "(II)Z" } : Jvm.MethodName)) ∈ nTc := nT 327 (by first | rfl | decide +kernel) rfl
set_option maxRecDepth 100000 in
theorem tw328 : (Jvm.Cond.code ({ cls := "LevelMachine", name := "switchTo", desc := "(II)Z" } : Jvm.MethodName) prog_1_method_48_code (5 : Nat) (Option.some Jvm.ClassFile.FieldType.boolean)) ∈ nTc := nT 328 (by first | rfl | decide +kernel) rfl
set_option maxRecDepth 100000 in
theorem tw329 : (Jvm.Cond.methodLink "LevelMachine" (294 : Nat) ({ cls := "LevelMachine", name := "saveTask", desc := "(I)V" } : Jvm.MethodName)) ∈ nTc := nT 329 (by first | rfl | decide +kernel) rfl
set_option maxRecDepth 100000 in
theorem tw331 : (Jvm.Cond.instanceMethod ({ cls := "LevelMachine", name := "saveTask", desc := "(I)V" } : Jvm.MethodName)) ∈ nTc := nT 331 (by first | rfl | decide +kernel) rfl
set_option maxRecDepth 100000 in
theorem tw332 : (Jvm.Cond.code ({ cls := "LevelMachine", name := "saveTask", desc := "(I)V" } : Jvm.MethodName) prog_1_method_49_code (4 : Nat) (Option.none : Option Jvm.ClassFile.FieldType)) ∈ nTc := nT 332 (by first | rfl | decide +kernel) rfl
set_option maxRecDepth 100000 in
theorem tw333 : (Jvm.Cond.methodLink "LevelMachine" (300 : Nat) ({ cls := "LevelMachine", name := "saveWord", desc := "(II)V" } : Jvm.MethodName)) ∈ nTc := nT 333 (by first | rfl | decide +kernel) rfl
set_option maxRecDepth 100000 in
theorem tw335 : (Jvm.Cond.instanceMethod ({ cls := "LevelMachine", name := "saveWord", desc := "(II)V" } : Jvm.MethodName)) ∈ nTc := nT 335 (by first | rfl | decide +kernel) rfl
set_option maxRecDepth 100000 in
theorem tw336 : (Jvm.Cond.code ({ cls := "LevelMachine", name := "saveWord", desc := "(II)V" } : Jvm.MethodName) prog_1_method_50_code (4 : Nat) (Option.none : Option Jvm.ClassFile.FieldType)) ∈ nTc := nT 336 (by first | rfl | decide +kernel) rfl
set_option maxRecDepth 100000 in
theorem tw337 : (Jvm.Cond.methodLink "LevelMachine" (254 : Nat) ({ cls := "LevelMachine$Memory", name := "turn", desc := "(II)V" } : Jvm.MethodName)) ∈ nTc := nT 337 (by first | rfl | decide +kernel) rfl
set_option maxRecDepth 100000 in
theorem tw338 : (Jvm.Cond.instanceMethod ({ cls := "LevelMachine$Memory", name := "turn", desc := "(II)V" } : Jvm.MethodName)) ∈ nTc := nT 338 (by first | rfl | decide +kernel) rfl
set_option maxRecDepth 100000 in
theorem tw339 : (Jvm.Cond.selects "LevelMachine$Memory" ({ cls := "LevelMachine$Memory", name := "turn", desc := "(II)V" } : Jvm.MethodName) ({ cls := "LevelMachine$Memory", name := "turn", desc := "(II)V" } : Jvm.MethodName)) ∈ nTc := nT 339 (by first | rfl | decide +kernel) rfl
set_option maxRecDepth 100000 in
theorem tw340 : (Jvm.Cond.code ({ cls := "LevelMachine$Memory", name := "turn", desc := "(II)V" } : Jvm.MethodName) prog_3_method_15_code (4 : Nat) (Option.none : Option Jvm.ClassFile.FieldType)) ∈ nTc := nT 340 (by first | rfl | decide +kernel) rfl
set_option maxRecDepth 100000 in
theorem tw341 : (Jvm.Cond.methodLink "LevelMachine" (297 : Nat) ({ cls := "LevelMachine", name := "resumeTask", desc := "(I)Z" } : Jvm.MethodName)) ∈ nTc := nT 341 (by first | rfl | decide +kernel) rfl
set_option maxRecDepth 100000 in
theorem tw343 : (Jvm.Cond.instanceMethod ({ cls := "LevelMachine", name := "resumeTask", desc := "(I)Z" } : Jvm.MethodName)) ∈ nTc := nT 343 (by first | rfl | decide +kernel) rfl
set_option maxRecDepth 100000 in
theorem tw344 : (Jvm.Cond.code ({ cls := "LevelMachine", name := "resumeTask", desc := "(I)Z" } : Jvm.MethodName) prog_1_method_51_code (5 : Nat) (Option.some Jvm.ClassFile.FieldType.boolean)) ∈ nTc := nT 344 (by first | rfl | decide +kernel) rfl
set_option maxRecDepth 100000 in
theorem tw345 : (Jvm.Cond.methodLink "LevelMachine" (273 : Nat) ({ cls := "LevelMachine$Memory", name := "count", desc := "(I)I" } : Jvm.MethodName)) ∈ nTc := nT 345 (by first | rfl | decide +kernel) rfl
set_option maxRecDepth 100000 in
theorem tw346 : (Jvm.Cond.instanceMethod ({ cls := "LevelMachine$Memory", name := "count", desc := "(I)I" } : Jvm.MethodName)) ∈ nTc := nT 346 (by first | rfl | decide +kernel) rfl
set_option maxRecDepth 100000 in
theorem tw347 : (Jvm.Cond.selects "LevelMachine$Memory" ({ cls := "LevelMachine$Memory", name := "count", desc := "(I)I" } : Jvm.MethodName) ({ cls := "LevelMachine$Memory", name := "count", desc := "(I)I" } : Jvm.MethodName)) ∈ nTc := nT 347 (by first | rfl | decide +kernel) rfl
set_option maxRecDepth 100000 in
theorem tw348 : (Jvm.Cond.code ({ cls := "LevelMachine$Memory", name := "count", desc := "(I)I" } : Jvm.MethodName) prog_3_method_14_code (2 : Nat) (Option.some Jvm.ClassFile.FieldType.int)) ∈ nTc := nT 348 (by first | rfl | decide +kernel) rfl
set_option maxRecDepth 100000 in
theorem tw349 : (Jvm.Cond.methodLink "LevelMachine" (276 : Nat) ({ cls := "LevelMachine", name := "enterDeep", desc := "(IIIZ)Z" } : Jvm.MethodName)) ∈ nTc := nT 349 (by first | rfl | decide +kernel) rfl
set_option maxRecDepth 100000 in
theorem tw351 : (Jvm.Cond.instanceMethod ({ cls := "LevelMachine", name := "enterDeep", desc := "(IIIZ)Z" } : Jvm.MethodName)) ∈ nTc := nT 351 (by first | rfl | decide +kernel) rfl
set_option maxRecDepth 100000 in
theorem tw352 : (Jvm.Cond.code ({ cls := "LevelMachine", name := "enterDeep", desc := "(IIIZ)Z" } : Jvm.MethodName) prog_1_method_41_code (9 : Nat) (Option.some Jvm.ClassFile.FieldType.boolean)) ∈ nTc := nT 352 (by first | rfl | decide +kernel) rfl
set_option maxRecDepth 100000 in
theorem tw353 : (Jvm.Cond.methodLink "LevelMachine" (282 : Nat) ({ cls := "LevelMachine", name := "takeInnerStack", desc := "(I)Z" } : Jvm.MethodName)) ∈ nTc := nT 353 (by first | rfl | decide +kernel) rfl
set_option maxRecDepth 100000 in
theorem tw355 : (Jvm.Cond.instanceMethod ({ cls := "LevelMachine", name := "takeInnerStack", desc := "(I)Z" } : Jvm.MethodName)) ∈ nTc := nT 355 (by first | rfl | decide +kernel) rfl
set_option maxRecDepth 100000 in
theorem tw356 : (Jvm.Cond.code ({ cls := "LevelMachine", name := "takeInnerStack", desc := "(I)Z" } : Jvm.MethodName) prog_1_method_42_code (6 : Nat) (Option.some Jvm.ClassFile.FieldType.boolean)) ∈ nTc := nT 356 (by first | rfl | decide +kernel) rfl
set_option maxRecDepth 100000 in
theorem tw357 : (Jvm.Cond.methodLink "LevelMachine" (285 : Nat) ({ cls := "LevelMachine", name := "carryOver", desc := "(II)Z" } : Jvm.MethodName)) ∈ nTc := nT 357 (by first | rfl | decide +kernel) rfl
set_option maxRecDepth 100000 in
theorem tw359 : (Jvm.Cond.instanceMethod ({ cls := "LevelMachine", name := "carryOver", desc := "(II)Z" } : Jvm.MethodName)) ∈ nTc := nT 359 (by first | rfl | decide +kernel) rfl
set_option maxRecDepth 100000 in
theorem tw360 : (Jvm.Cond.code ({ cls := "LevelMachine", name := "carryOver", desc := "(II)Z" } : Jvm.MethodName) prog_1_method_43_code (5 : Nat) (Option.some Jvm.ClassFile.FieldType.boolean)) ∈ nTc := nT 360 (by first | rfl | decide +kernel) rfl
set_option maxRecDepth 100000 in
theorem tw361 : (Jvm.Cond.methodLink "LevelMachine" (236 : Nat) ({ cls := "LevelMachine", name := "comeBack", desc := "(IZ)Z" } : Jvm.MethodName)) ∈ nTc := nT 361 (by first | rfl | decide +kernel) rfl
set_option maxRecDepth 100000 in
theorem tw363 : (Jvm.Cond.instanceMethod ({ cls := "LevelMachine", name := "comeBack", desc := "(IZ)Z" } : Jvm.MethodName)) ∈ nTc := nT 363 (by first | rfl | decide +kernel) rfl
set_option maxRecDepth 100000 in
theorem tw364 : (Jvm.Cond.code ({ cls := "LevelMachine", name := "comeBack", desc := "(IZ)Z" } : Jvm.MethodName) prog_1_method_45_code (7 : Nat) (Option.some Jvm.ClassFile.FieldType.boolean)) ∈ nTc := nT 364 (by first | rfl | decide +kernel) rfl
set_option maxRecDepth 100000 in
theorem tw365 : (Jvm.Cond.methodLink "LevelMachine" (288 : Nat) ({ cls := "LevelMachine", name := "comeOut", desc := "(III)Z" } : Jvm.MethodName)) ∈ nTc := nT 365 (by first | rfl | decide +kernel) rfl
set_option maxRecDepth 100000 in
theorem tw367 : (Jvm.Cond.instanceMethod ({ cls := "LevelMachine", name := "comeOut", desc := "(III)Z" } : Jvm.MethodName)) ∈ nTc := nT 367 (by first | rfl | decide +kernel) rfl
set_option maxRecDepth 100000 in
theorem tw368 : (Jvm.Cond.code ({ cls := "LevelMachine", name := "comeOut", desc := "(III)Z" } : Jvm.MethodName) prog_1_method_46_code (6 : Nat) (Option.some Jvm.ClassFile.FieldType.boolean)) ∈ nTc := nT 368 (by first | rfl | decide +kernel) rfl
set_option maxRecDepth 100000 in
theorem tw369 : (Jvm.Cond.methodLink "LevelMachine" (291 : Nat) ({ cls := "LevelMachine", name := "hide", desc := "(LLevelMachine$Segment;)V" } : Jvm.MethodName)) ∈ nTc := nT 369 (by first | rfl | decide +kernel) rfl
set_option maxRecDepth 100000 in
theorem tw371 : (Jvm.Cond.instanceMethod ({ cls := "LevelMachine", name := "hide", desc := "(LLevelMachine$Segment;)V" } : Jvm.MethodName)) ∈ nTc := nT 371 (by first | rfl | decide +kernel) rfl
set_option maxRecDepth 100000 in
theorem tw372 : (Jvm.Cond.code ({ cls := "LevelMachine", name := "hide", desc := "(LLevelMachine$Segment;)V" } : Jvm.MethodName) prog_1_method_47_code (2 : Nat) (Option.none : Option Jvm.ClassFile.FieldType)) ∈ nTc := nT 372 (by first | rfl | decide +kernel) rfl
set_option maxRecDepth 100000 in
theorem tw373 : (Jvm.Cond.methodLink "LevelMachine" (143 : Nat) ({ cls := "LevelMachine", name := "trap", desc := "(IZ)Z" } : Jvm.MethodName)) ∈ nTc := nT 373 (by first | rfl | decide +kernel) rfl
set_option maxRecDepth 100000 in
theorem tw375 : (Jvm.Cond.instanceMethod ({ cls := "LevelMachine", name := "trap", desc := "(IZ)Z" } : Jvm.MethodName)) ∈ nTc := nT 375 (by first | rfl | decide +kernel) rfl
set_option maxRecDepth 100000 in
theorem tw376 : (Jvm.Cond.code ({ cls := "LevelMachine", name := "trap", desc := "(IZ)Z" } : Jvm.MethodName) prog_1_method_40_code (5 : Nat) (Option.some Jvm.ClassFile.FieldType.boolean)) ∈ nTc := nT 376 (by first | rfl | decide +kernel) rfl
set_option maxRecDepth 100000 in
theorem tw377 : (Jvm.Cond.methodLink "LevelMachine" (280 : Nat) ({ cls := "LevelMachine$Memory", name := "kind", desc := "(I)I" } : Jvm.MethodName)) ∈ nTc := nT 377 (by first | rfl | decide +kernel) rfl
set_option maxRecDepth 100000 in
theorem tw378 : (Jvm.Cond.methodLink "LevelMachine" (239 : Nat) ({ cls := "LevelMachine", name := "back", desc := "()Z" } : Jvm.MethodName)) ∈ nTc := nT 378 (by first | rfl | decide +kernel) rfl
set_option maxRecDepth 100000 in
theorem tw380 : (Jvm.Cond.instanceMethod ({ cls := "LevelMachine", name := "back", desc := "()Z" } : Jvm.MethodName)) ∈ nTc := nT 380 (by first | rfl | decide +kernel) rfl
set_option maxRecDepth 100000 in
theorem tw381 : (Jvm.Cond.code ({ cls := "LevelMachine", name := "back", desc := "()Z" } : Jvm.MethodName) prog_1_method_44_code (2 : Nat) (Option.some Jvm.ClassFile.FieldType.boolean)) ∈ nTc := nT 381 (by first | rfl | decide +kernel) rfl
set_option maxRecDepth 100000 in
theorem tw382 : (Jvm.Cond.methodLink "LevelMachine" (242 : Nat) ({ cls := "LevelMachine", name := "beginTask", desc := "(I)Z" } : Jvm.MethodName)) ∈ nTc := nT 382 (by first | rfl | decide +kernel) rfl
set_option maxRecDepth 100000 in
theorem tw384 : (Jvm.Cond.instanceMethod ({ cls := "LevelMachine", name := "beginTask", desc := "(I)Z" } : Jvm.MethodName)) ∈ nTc := nT 384 (by first | rfl | decide +kernel) rfl
set_option maxRecDepth 100000 in
theorem tw385 : (Jvm.Cond.code ({ cls := "LevelMachine", name := "beginTask", desc := "(I)Z" } : Jvm.MethodName) prog_1_method_35_code (2 : Nat) (Option.some Jvm.ClassFile.FieldType.boolean)) ∈ nTc := nT 385 (by first | rfl | decide +kernel) rfl
set_option maxRecDepth 100000 in
theorem tw386 : (Jvm.Cond.methodLink "LevelMachine" (245 : Nat) ({ cls := "LevelMachine", name := "adjust", desc := "(II)Z" } : Jvm.MethodName)) ∈ nTc := nT 386 (by first | rfl | decide +kernel) rfl
set_option maxRecDepth 100000 in
theorem tw388 : (Jvm.Cond.instanceMethod ({ cls := "LevelMachine", name := "adjust", desc := "(II)Z" } : Jvm.MethodName)) ∈ nTc := nT 388 (by first | rfl | decide +kernel) rfl
set_option maxRecDepth 100000 in
theorem tw389 : (Jvm.Cond.code ({ cls := "LevelMachine", name := "adjust", desc := "(II)Z" } : Jvm.MethodName) prog_1_method_32_code (5 : Nat) (Option.some Jvm.ClassFile.FieldType.boolean)) ∈ nTc := nT 389 (by first | rfl | decide +kernel) rfl
set_option maxRecDepth 100000 in
theorem tw390 : (Jvm.Cond.methodLink "LevelMachine" (82 : Nat) ({ cls := "LevelMachine", name := "deliver", desc := "()Z" } : Jvm.MethodName)) ∈ nTc := nT 390 (by first | rfl | decide +kernel) rfl
set_option maxRecDepth 100000 in
theorem tw392 : (Jvm.Cond.instanceMethod ({ cls := "LevelMachine", name := "deliver", desc := "()Z" } : Jvm.MethodName)) ∈ nTc := nT 392 (by first | rfl | decide +kernel) rfl
set_option maxRecDepth 100000 in
theorem tw393 : (Jvm.Cond.code ({ cls := "LevelMachine", name := "deliver", desc := "()Z" } : Jvm.MethodName) prog_1_method_18_code (3 : Nat) (Option.some Jvm.ClassFile.FieldType.boolean)) ∈ nTc := nT 393 (by first | rfl | decide +kernel) rfl
set_option maxRecDepth 100000 in
theorem tw394 : (Jvm.Cond.methodLink "LevelMachine" (137 : Nat) ({ cls := "LevelMachine", name := "takeAllBack", desc := "()V" } : Jvm.MethodName)) ∈ nTc := nT 394 (by first | rfl | decide +kernel) rfl
set_option maxRecDepth 100000 in
theorem tw396 : (Jvm.Cond.instanceMethod ({ cls := "LevelMachine", name := "takeAllBack", desc := "()V" } : Jvm.MethodName)) ∈ nTc := nT 396 (by first | rfl | decide +kernel) rfl
set_option maxRecDepth 100000 in
theorem tw397 : (Jvm.Cond.code ({ cls := "LevelMachine", name := "takeAllBack", desc := "()V" } : Jvm.MethodName) prog_1_method_15_code (2 : Nat) (Option.none : Option Jvm.ClassFile.FieldType)) ∈ nTc := nT 397 (by first | rfl | decide +kernel) rfl
set_option maxRecDepth 100000 in
theorem tw398 : (Jvm.Cond.methodLink "LevelMachine" (127 : Nat) ({ cls := "LevelMachine$Memory", name := "takeBack", desc := "()V" } : Jvm.MethodName)) ∈ nTc := nT 398 (by first | rfl | decide +kernel) rfl
set_option maxRecDepth 100000 in
theorem tw399 : (Jvm.Cond.instanceMethod ({ cls := "LevelMachine$Memory", name := "takeBack", desc := "()V" } : Jvm.MethodName)) ∈ nTc := nT 399 (by first | rfl | decide +kernel) rfl
set_option maxRecDepth 100000 in
theorem tw400 : (Jvm.Cond.selects "LevelMachine$Memory" ({ cls := "LevelMachine$Memory", name := "takeBack", desc := "()V" } : Jvm.MethodName) ({ cls := "LevelMachine$Memory", name := "takeBack", desc := "()V" } : Jvm.MethodName)) ∈ nTc := nT 400 (by first | rfl | decide +kernel) rfl
set_option maxRecDepth 100000 in
theorem tw401 : (Jvm.Cond.code ({ cls := "LevelMachine$Memory", name := "takeBack", desc := "()V" } : Jvm.MethodName) prog_3_method_7_code (1 : Nat) (Option.none : Option Jvm.ClassFile.FieldType)) ∈ nTc := nT 401 (by first | rfl | decide +kernel) rfl
set_option maxRecDepth 100000 in
theorem tw402 : (Jvm.Cond.methodLink "LevelMachine" (140 : Nat) ({ cls := "LevelMachine", name := "note", desc := "(II)V" } : Jvm.MethodName)) ∈ nTc := nT 402 (by first | rfl | decide +kernel) rfl
set_option maxRecDepth 100000 in
theorem tw404 : (Jvm.Cond.instanceMethod ({ cls := "LevelMachine", name := "note", desc := "(II)V" } : Jvm.MethodName)) ∈ nTc := nT 404 (by first | rfl | decide +kernel) rfl
set_option maxRecDepth 100000 in
theorem tw405 : (Jvm.Cond.code ({ cls := "LevelMachine", name := "note", desc := "(II)V" } : Jvm.MethodName) prog_1_method_17_code (3 : Nat) (Option.none : Option Jvm.ClassFile.FieldType)) ∈ nTc := nT 405 (by first | rfl | decide +kernel) rfl
set_option maxRecDepth 100000 in
theorem tw406 : (Jvm.Cond.methodLink "LevelMachineLaw" (40 : Nat) ({ cls := "LevelMachine", name := "wake", desc := "()Z" } : Jvm.MethodName)) ∈ nTc := nT 406 (by first | rfl | decide +kernel) rfl
set_option maxRecDepth 100000 in
theorem tw407 : (Jvm.Cond.instanceMethod ({ cls := "LevelMachine", name := "wake", desc := "()Z" } : Jvm.MethodName)) ∈ nTc := nT 407 (by first | rfl | decide +kernel) rfl
set_option maxRecDepth 100000 in
theorem tw408 : (Jvm.Cond.selects "LevelMachine" ({ cls := "LevelMachine", name := "wake", desc := "()Z" } : Jvm.MethodName) ({ cls := "LevelMachine", name := "wake", desc := "()Z" } : Jvm.MethodName)) ∈ nTc := nT 408 (by first | rfl | decide +kernel) rfl
set_option maxRecDepth 100000 in
theorem tw409 : (Jvm.Cond.code ({ cls := "LevelMachine", name := "wake", desc := "()Z" } : Jvm.MethodName) prog_1_method_8_code (2 : Nat) (Option.some Jvm.ClassFile.FieldType.boolean)) ∈ nTc := nT 409 (by first | rfl | decide +kernel) rfl
set_option maxRecDepth 100000 in
theorem tw410 : (Jvm.Cond.methodLink "LevelMachineLaw" (45 : Nat) ({ cls := "LevelMachine", name := "state", desc := "(I)I" } : Jvm.MethodName)) ∈ nTc := nT 410 (by first | rfl | decide +kernel) rfl
set_option maxRecDepth 100000 in
theorem tw411 : (Jvm.Cond.instanceMethod ({ cls := "LevelMachine", name := "state", desc := "(I)I" } : Jvm.MethodName)) ∈ nTc := nT 411 (by first | rfl | decide +kernel) rfl
set_option maxRecDepth 100000 in
theorem tw412 : (Jvm.Cond.selects "LevelMachine" ({ cls := "LevelMachine", name := "state", desc := "(I)I" } : Jvm.MethodName) ({ cls := "LevelMachine", name := "state", desc := "(I)I" } : Jvm.MethodName)) ∈ nTc := nT 412 (by first | rfl | decide +kernel) rfl
set_option maxRecDepth 100000 in
theorem tw413 : (Jvm.Cond.code ({ cls := "LevelMachine", name := "state", desc := "(I)I" } : Jvm.MethodName) prog_1_method_9_code (2 : Nat) (Option.some Jvm.ClassFile.FieldType.int)) ∈ nTc := nT 413 (by first | rfl | decide +kernel) rfl
set_option maxRecDepth 100000 in
theorem tw414 : (Jvm.Cond.methodLink "LevelMachineLaw" (49 : Nat) ({ cls := "LevelMachine", name := "segment", desc := "(II)I" } : Jvm.MethodName)) ∈ nTc := nT 414 (by first | rfl | decide +kernel) rfl
set_option maxRecDepth 100000 in
theorem tw415 : (Jvm.Cond.instanceMethod ({ cls := "LevelMachine", name := "segment", desc := "(II)I" } : Jvm.MethodName)) ∈ nTc := nT 415 (by first | rfl | decide +kernel) rfl
set_option maxRecDepth 100000 in
theorem tw416 : (Jvm.Cond.selects "LevelMachine" ({ cls := "LevelMachine", name := "segment", desc := "(II)I" } : Jvm.MethodName) ({ cls := "LevelMachine", name := "segment", desc := "(II)I" } : Jvm.MethodName)) ∈ nTc := nT 416 (by first | rfl | decide +kernel) rfl
set_option maxRecDepth 100000 in
theorem tw417 : (Jvm.Cond.code ({ cls := "LevelMachine", name := "segment", desc := "(II)I" } : Jvm.MethodName) prog_1_method_10_code (3 : Nat) (Option.some Jvm.ClassFile.FieldType.int)) ∈ nTc := nT 417 (by first | rfl | decide +kernel) rfl
set_option maxRecDepth 100000 in
theorem tw418 : (Jvm.Cond.classLink "LevelMachineLaw" (10 : Nat) "LevelMachineModel") ∈ nTc := nT 418 (by first | rfl | decide +kernel) rfl
set_option maxRecDepth 100000 in
theorem tw419 : (Jvm.Cond.instantiable "LevelMachineModel" (17 : Nat)) ∈ nTc := nT 419 (by first | rfl | decide +kernel) rfl
set_option maxRecDepth 100000 in
theorem tw420 : (Jvm.Cond.methodLink "LevelMachineLaw" (12 : Nat) ({ cls := "LevelMachineModel", name := "<init>", desc := "()V" } : Jvm.MethodName)) ∈ nTc := nT 420 (by first | rfl | decide +kernel) rfl
set_option maxRecDepth 100000 in
theorem tw421 : (Jvm.Cond.instanceMethod ({ cls := "LevelMachineModel", name := "<init>", desc := "()V" } : Jvm.MethodName)) ∈ nTc := nT 421 (by first | rfl | decide +kernel) rfl
set_option maxRecDepth 100000 in
theorem tw422 : (Jvm.Cond.code ({ cls := "LevelMachineModel", name := "<init>", desc := "()V" } : Jvm.MethodName) prog_6_method_1_code (1 : Nat) (Option.none : Option Jvm.ClassFile.FieldType)) ∈ nTc := nT 422 (by first | rfl | decide +kernel) rfl
set_option maxRecDepth 100000 in
theorem tw423 : (Jvm.Cond.methodLink "LevelMachineModel" (1 : Nat) ({ cls := "java/lang/Object", name := "<init>", desc := "()V" } : Jvm.MethodName)) ∈ nTc := nT 423 (by first | rfl | decide +kernel) rfl
set_option maxRecDepth 100000 in
theorem tw424 : (Jvm.Cond.fieldLink "LevelMachineModel" (7 : Nat) "LevelMachineModel" "memory" "[I") ∈ nTc := nT 424 (by first | rfl | decide +kernel) rfl
set_option maxRecDepth 100000 in
theorem tw425 : (Jvm.Cond.fieldLink "LevelMachineModel" (13 : Nat) "LevelMachineModel" "registers" "[I") ∈ nTc := nT 425 (by first | rfl | decide +kernel) rfl
set_option maxRecDepth 100000 in
theorem tw426 : (Jvm.Cond.fieldLink "LevelMachineModel" (16 : Nat) "LevelMachineModel" "segments" "[I") ∈ nTc := nT 426 (by first | rfl | decide +kernel) rfl
set_option maxRecDepth 100000 in
theorem tw427 : (Jvm.Cond.fieldLink "LevelMachineModel" (19 : Nat) "LevelMachineModel" "memoryBefore" "[I") ∈ nTc := nT 427 (by first | rfl | decide +kernel) rfl
set_option maxRecDepth 100000 in
theorem tw428 : (Jvm.Cond.fieldLink "LevelMachineModel" (22 : Nat) "LevelMachineModel" "registersBefore" "[I") ∈ nTc := nT 428 (by first | rfl | decide +kernel) rfl
set_option maxRecDepth 100000 in
theorem tw429 : (Jvm.Cond.fieldLink "LevelMachineModel" (25 : Nat) "LevelMachineModel" "segmentsBefore" "[I") ∈ nTc := nT 429 (by first | rfl | decide +kernel) rfl
set_option maxRecDepth 100000 in
theorem tw430 : (Jvm.Cond.fieldLink "LevelMachineModel" (176 : Nat) "LevelMachineModel" "mode" "I") ∈ nTc := nT 430 (by first | rfl | decide +kernel) rfl
set_option maxRecDepth 100000 in
theorem tw431 : (Jvm.Cond.fieldLink "LevelMachineModel" (32 : Nat) "LevelMachineModel" "fault" "I") ∈ nTc := nT 431 (by first | rfl | decide +kernel) rfl
set_option maxRecDepth 100000 in
theorem tw432 : (Jvm.Cond.fieldLink "LevelMachineModel" (36 : Nat) "LevelMachineModel" "code" "I") ∈ nTc := nT 432 (by first | rfl | decide +kernel) rfl
set_option maxRecDepth 100000 in
theorem tw433 : (Jvm.Cond.fieldLink "LevelMachineModel" (205 : Nat) "LevelMachineModel" "latest" "I") ∈ nTc := nT 433 (by first | rfl | decide +kernel) rfl
set_option maxRecDepth 100000 in
theorem tw434 : (Jvm.Cond.fieldLink "LevelMachineModel" (208 : Nat) "LevelMachineModel" "latestCode" "I") ∈ nTc := nT 434 (by first | rfl | decide +kernel) rfl
set_option maxRecDepth 100000 in
theorem tw435 : (Jvm.Cond.fieldLink "LevelMachineModel" (211 : Nat) "LevelMachineModel" "faults" "I") ∈ nTc := nT 435 (by first | rfl | decide +kernel) rfl
set_option maxRecDepth 100000 in
theorem tw436 : (Jvm.Cond.fieldLink "LevelMachineModel" (120 : Nat) "LevelMachineModel" "oldSelector" "I") ∈ nTc := nT 436 (by first | rfl | decide +kernel) rfl
set_option maxRecDepth 100000 in
theorem tw437 : (Jvm.Cond.fieldLink "LevelMachineModel" (129 : Nat) "LevelMachineModel" "oldBase" "I") ∈ nTc := nT 437 (by first | rfl | decide +kernel) rfl
set_option maxRecDepth 100000 in
theorem tw438 : (Jvm.Cond.fieldLink "LevelMachineModel" (132 : Nat) "LevelMachineModel" "oldLimit" "I") ∈ nTc := nT 438 (by first | rfl | decide +kernel) rfl
set_option maxRecDepth 100000 in
theorem tw439 : (Jvm.Cond.fieldLink "LevelMachineModel" (135 : Nat) "LevelMachineModel" "oldKind" "I") ∈ nTc := nT 439 (by first | rfl | decide +kernel) rfl
set_option maxRecDepth 100000 in
theorem tw440 : (Jvm.Cond.fieldLink "LevelMachineModel" (123 : Nat) "LevelMachineModel" "oldPlace" "I") ∈ nTc := nT 440 (by first | rfl | decide +kernel) rfl
set_option maxRecDepth 100000 in
theorem tw476 : (Jvm.Cond.methodLink "LevelMachineLaw" (39 : Nat) ({ cls := "LevelMachineModel", name := "step", desc := "(I)I" } : Jvm.MethodName)) ∈ nTc := nT 476 (by first | rfl | decide +kernel) rfl
set_option maxRecDepth 100000 in
theorem tw477 : (Jvm.Cond.instanceMethod ({ cls := "LevelMachineModel", name := "step", desc := "(I)I" } : Jvm.MethodName)) ∈ nTc := nT 477 (by first | rfl | decide +kernel) rfl
set_option maxRecDepth 100000 in
theorem tw478 : (Jvm.Cond.selects "LevelMachineModel" ({ cls := "LevelMachineModel", name := "step", desc := "(I)I" } : Jvm.MethodName) ({ cls := "LevelMachineModel", name := "step", desc := "(I)I" } : Jvm.MethodName)) ∈ nTc := nT 478 (by first | rfl | decide +kernel) rfl
set_option maxRecDepth 100000 in
theorem tw479 : (Jvm.Cond.code ({ cls := "LevelMachineModel", name := "step", desc := "(I)I" } : Jvm.MethodName) prog_6_method_51_code (4 : Nat) (Option.some Jvm.ClassFile.FieldType.int)) ∈ nTc := nT 479 (by first | rfl | decide +kernel) rfl
set_option maxRecDepth 100000 in
theorem tw480 : (Jvm.Cond.methodLink "LevelMachineModel" (52 : Nat) ({ cls := "LevelMachineModel", name := "in", desc := "(III)Z" } : Jvm.MethodName)) ∈ nTc := nT 480 (by first | rfl | decide +kernel) rfl
set_option maxRecDepth 100000 in
theorem tw481 : (Jvm.Cond.static ({ cls := "LevelMachineModel", name := "in", desc := "(III)Z" } : Jvm.MethodName)) ∈ nTc := nT 481 (by first | rfl | decide +kernel) rfl
set_option maxRecDepth 100000 in
theorem tw482 : (Jvm.Cond.code ({ cls := "LevelMachineModel", name := "in", desc := "(III)Z" } : Jvm.MethodName) prog_6_method_2_code (3 : Nat) (Option.some Jvm.ClassFile.FieldType.boolean)) ∈ nTc := nT 482 (by first | rfl | decide +kernel) rfl
set_option maxRecDepth 100000 in
theorem tw483 : (Jvm.Cond.methodLink "LevelMachineModel" (224 : Nat) ({ cls := "LevelMachineModel", name := "goesOn", desc := "()Z" } : Jvm.MethodName)) ∈ nTc := nT 483 (by first | rfl | decide +kernel) rfl
set_option maxRecDepth 100000 in
theorem tw485 : (Jvm.Cond.instanceMethod ({ cls := "LevelMachineModel", name := "goesOn", desc := "()Z" } : Jvm.MethodName)) ∈ nTc := nT 485 (by first | rfl | decide +kernel) rfl
set_option maxRecDepth 100000 in
theorem tw486 : (Jvm.Cond.code ({ cls := "LevelMachineModel", name := "goesOn", desc := "()Z" } : Jvm.MethodName) prog_6_method_50_code (1 : Nat) (Option.some Jvm.ClassFile.FieldType.boolean)) ∈ nTc := nT 486 (by first | rfl | decide +kernel) rfl
set_option maxRecDepth 100000 in
theorem tw487 : (Jvm.Cond.methodLink "LevelMachineModel" (199 : Nat) ({ cls := "LevelMachineModel", name := "remember", desc := "()V" } : Jvm.MethodName)) ∈ nTc := nT 487 (by first | rfl | decide +kernel) rfl
set_option maxRecDepth 100000 in
theorem tw489 : (Jvm.Cond.instanceMethod ({ cls := "LevelMachineModel", name := "remember", desc := "()V" } : Jvm.MethodName)) ∈ nTc := nT 489 (by first | rfl | decide +kernel) rfl
set_option maxRecDepth 100000 in
theorem tw490 : (Jvm.Cond.code ({ cls := "LevelMachineModel", name := "remember", desc := "()V" } : Jvm.MethodName) prog_6_method_4_code (1 : Nat) (Option.none : Option Jvm.ClassFile.FieldType)) ∈ nTc := nT 490 (by first | rfl | decide +kernel) rfl
set_option maxRecDepth 100000 in
theorem tw491 : (Jvm.Cond.methodLink "LevelMachineModel" (28 : Nat) ({ cls := "LevelMachineModel", name := "copy", desc := "([I[I)V" } : Jvm.MethodName)) ∈ nTc := nT 491 (by first | rfl | decide +kernel) rfl
set_option maxRecDepth 100000 in
theorem tw492 : (Jvm.Cond.static ({ cls := "LevelMachineModel", name := "copy", desc := "([I[I)V" } : Jvm.MethodName)) ∈ nTc := nT 492 (by first | rfl | decide +kernel) rfl
set_option maxRecDepth 100000 in
theorem tw493 : (Jvm.Cond.code ({ cls := "LevelMachineModel", name := "copy", desc := "([I[I)V" } : Jvm.MethodName) prog_6_method_3_code (3 : Nat) (Option.none : Option Jvm.ClassFile.FieldType)) ∈ nTc := nT 493 (by first | rfl | decide +kernel) rfl
set_option maxRecDepth 100000 in
theorem tw494 : (Jvm.Cond.methodLink "LevelMachineModel" (214 : Nat) ({ cls := "LevelMachineModel", name := "execute", desc := "()V" } : Jvm.MethodName)) ∈ nTc := nT 494 (by first | rfl | decide +kernel) rfl
set_option maxRecDepth 100000 in
theorem tw496 : (Jvm.Cond.instanceMethod ({ cls := "LevelMachineModel", name := "execute", desc := "()V" } : Jvm.MethodName)) ∈ nTc := nT 496 (by first | rfl | decide +kernel) rfl
set_option maxRecDepth 100000 in
theorem tw497 : (Jvm.Cond.code ({ cls := "LevelMachineModel", name := "execute", desc := "()V" } : Jvm.MethodName) prog_6_method_42_code (5 : Nat) (Option.none : Option Jvm.ClassFile.FieldType)) ∈ nTc := nT 497 (by first | rfl | decide +kernel) rfl
set_option maxRecDepth 100000 in
theorem tw498 : (Jvm.Cond.methodLink "LevelMachineModel" (161 : Nat) ({ cls := "LevelMachineModel", name := "fetch", desc := "()I" } : Jvm.MethodName)) ∈ nTc := nT 498 (by first | rfl | decide +kernel) rfl
set_option maxRecDepth 100000 in
theorem tw500 : (Jvm.Cond.instanceMethod ({ cls := "LevelMachineModel", name := "fetch", desc := "()I" } : Jvm.MethodName)) ∈ nTc := nT 500 (by first | rfl | decide +kernel) rfl
set_option maxRecDepth 100000 in
theorem tw501 : (Jvm.Cond.code ({ cls := "LevelMachineModel", name := "fetch", desc := "()I" } : Jvm.MethodName) prog_6_method_26_code (2 : Nat) (Option.some Jvm.ClassFile.FieldType.int)) ∈ nTc := nT 501 (by first | rfl | decide +kernel) rfl
set_option maxRecDepth 100000 in
theorem tw502 : (Jvm.Cond.methodLink "LevelMachineModel" (39 : Nat) ({ cls := "LevelMachineModel", name := "wrong", desc := "(II)V" } : Jvm.MethodName)) ∈ nTc := nT 502 (by first | rfl | decide +kernel) rfl
set_option maxRecDepth 100000 in
theorem tw504 : (Jvm.Cond.instanceMethod ({ cls := "LevelMachineModel", name := "wrong", desc := "(II)V" } : Jvm.MethodName)) ∈ nTc := nT 504 (by first | rfl | decide +kernel) rfl
set_option maxRecDepth 100000 in
theorem tw505 : (Jvm.Cond.code ({ cls := "LevelMachineModel", name := "wrong", desc := "(II)V" } : Jvm.MethodName) prog_6_method_6_code (3 : Nat) (Option.none : Option Jvm.ClassFile.FieldType)) ∈ nTc := nT 505 (by first | rfl | decide +kernel) rfl
set_option maxRecDepth 100000 in
theorem tw506 : (Jvm.Cond.methodLink "LevelMachineModel" (63 : Nat) ({ cls := "LevelMachineModel", name := "word", desc := "(I)I" } : Jvm.MethodName)) ∈ nTc := nT 506 (by first | rfl | decide +kernel) rfl
set_option maxRecDepth 100000 in
theorem tw508 : (Jvm.Cond.instanceMethod ({ cls := "LevelMachineModel", name := "word", desc := "(I)I" } : Jvm.MethodName)) ∈ nTc := nT 508 (by first | rfl | decide +kernel) rfl
set_option maxRecDepth 100000 in
theorem tw509 : (Jvm.Cond.code ({ cls := "LevelMachineModel", name := "word", desc := "(I)I" } : Jvm.MethodName) prog_6_method_8_code (2 : Nat) (Option.some Jvm.ClassFile.FieldType.int)) ∈ nTc := nT 509 (by first | rfl | decide +kernel) rfl
set_option maxRecDepth 100000 in
theorem tw510 : (Jvm.Cond.constant "LevelMachineModel" (43 : Nat) (65535 : Int32)) ∈ nTc := nT 510 (by first | rfl | decide +kernel) rfl
set_option maxRecDepth 100000 in
theorem tw511 : (Jvm.Cond.methodLink "LevelMachineModel" (164 : Nat) ({ cls := "LevelMachineModel", name := "isRight", desc := "(III)Z" } : Jvm.MethodName)) ∈ nTc := nT 511 (by first | rfl | decide +kernel) rfl
set_option maxRecDepth 100000 in
theorem tw512 : (Jvm.Cond.static ({ cls := "LevelMachineModel", name := "isRight", desc := "(III)Z" } : Jvm.MethodName)) ∈ nTc := nT 512 (by first | rfl | decide +kernel) rfl
set_option maxRecDepth 100000 in
theorem tw513 : (Jvm.Cond.code ({ cls := "LevelMachineModel", name := "isRight", desc := "(III)Z" } : Jvm.MethodName) prog_6_method_41_code (5 : Nat) (Option.some Jvm.ClassFile.FieldType.boolean)) ∈ nTc := nT 513 (by first | rfl | decide +kernel) rfl
set_option maxRecDepth 100000 in
theorem tw514 : (Jvm.Cond.methodLink "LevelMachineModel" (167 : Nat) ({ cls := "LevelMachineModel", name := "simple", desc := "(III)V" } : Jvm.MethodName)) ∈ nTc := nT 514 (by first | rfl | decide +kernel) rfl
set_option maxRecDepth 100000 in
theorem tw516 : (Jvm.Cond.instanceMethod ({ cls := "LevelMachineModel", name := "simple", desc := "(III)V" } : Jvm.MethodName)) ∈ nTc := nT 516 (by first | rfl | decide +kernel) rfl
set_option maxRecDepth 100000 in
theorem tw517 : (Jvm.Cond.code ({ cls := "LevelMachineModel", name := "simple", desc := "(III)V" } : Jvm.MethodName) prog_6_method_43_code (4 : Nat) (Option.none : Option Jvm.ClassFile.FieldType)) ∈ nTc := nT 517 (by first | rfl | decide +kernel) rfl
set_option maxRecDepth 100000 in
theorem tw518 : (Jvm.Cond.methodLink "LevelMachineModel" (91 : Nat) ({ cls := "LevelMachineModel", name := "level", desc := "()I" } : Jvm.MethodName)) ∈ nTc := nT 518 (by first | rfl | decide +kernel) rfl
set_option maxRecDepth 100000 in
theorem tw520 : (Jvm.Cond.instanceMethod ({ cls := "LevelMachineModel", name := "level", desc := "()I" } : Jvm.MethodName)) ∈ nTc := nT 520 (by first | rfl | decide +kernel) rfl
set_option maxRecDepth 100000 in
theorem tw521 : (Jvm.Cond.code ({ cls := "LevelMachineModel", name := "level", desc := "()I" } : Jvm.MethodName) prog_6_method_10_code (1 : Nat) (Option.some Jvm.ClassFile.FieldType.int)) ∈ nTc := nT 521 (by first | rfl | decide +kernel) rfl
set_option maxRecDepth 100000 in
theorem tw522 : (Jvm.Cond.methodLink "LevelMachineModel" (179 : Nat) ({ cls := "LevelMachineModel", name := "reckon", desc := "(IIZ)V" } : Jvm.MethodName)) ∈ nTc := nT 522 (by first | rfl | decide +kernel) rfl
set_option maxRecDepth 100000 in
theorem tw524 : (Jvm.Cond.instanceMethod ({ cls := "LevelMachineModel", name := "reckon", desc := "(IIZ)V" } : Jvm.MethodName)) ∈ nTc := nT 524 (by first | rfl | decide +kernel) rfl
set_option maxRecDepth 100000 in
theorem tw525 : (Jvm.Cond.code ({ cls := "LevelMachineModel", name := "reckon", desc := "(IIZ)V" } : Jvm.MethodName) prog_6_method_40_code (5 : Nat) (Option.none : Option Jvm.ClassFile.FieldType)) ∈ nTc := nT 525 (by first | rfl | decide +kernel) rfl
set_option maxRecDepth 100000 in
theorem tw526 : (Jvm.Cond.constant "LevelMachineModel" (160 : Nat) (32768 : Int32)) ∈ nTc := nT 526 (by first | rfl | decide +kernel) rfl
set_option maxRecDepth 100000 in
theorem tw527 : (Jvm.Cond.methodLink "LevelMachineModel" (170 : Nat) ({ cls := "LevelMachineModel", name := "move", desc := "(III)V" } : Jvm.MethodName)) ∈ nTc := nT 527 (by first | rfl | decide +kernel) rfl
set_option maxRecDepth 100000 in
theorem tw529 : (Jvm.Cond.instanceMethod ({ cls := "LevelMachineModel", name := "move", desc := "(III)V" } : Jvm.MethodName)) ∈ nTc := nT 529 (by first | rfl | decide +kernel) rfl
set_option maxRecDepth 100000 in
theorem tw530 : (Jvm.Cond.code ({ cls := "LevelMachineModel", name := "move", desc := "(III)V" } : Jvm.MethodName) prog_6_method_44_code (8 : Nat) (Option.none : Option Jvm.ClassFile.FieldType)) ∈ nTc := nT 530 (by first | rfl | decide +kernel) rfl
set_option maxRecDepth 100000 in
theorem tw531 : (Jvm.Cond.methodLink "LevelMachineModel" (73 : Nat) ({ cls := "LevelMachineModel", name := "read", desc := "(II)I" } : Jvm.MethodName)) ∈ nTc := nT 531 (by first | rfl | decide +kernel) rfl
set_option maxRecDepth 100000 in
theorem tw533 : (Jvm.Cond.instanceMethod ({ cls := "LevelMachineModel", name := "read", desc := "(II)I" } : Jvm.MethodName)) ∈ nTc := nT 533 (by first | rfl | decide +kernel) rfl
set_option maxRecDepth 100000 in
theorem tw534 : (Jvm.Cond.code ({ cls := "LevelMachineModel", name := "read", desc := "(II)I" } : Jvm.MethodName) prog_6_method_22_code (3 : Nat) (Option.some Jvm.ClassFile.FieldType.int)) ∈ nTc := nT 534 (by first | rfl | decide +kernel) rfl
set_option maxRecDepth 100000 in
theorem tw535 : (Jvm.Cond.methodLink "LevelMachineModel" (59 : Nat) ({ cls := "LevelMachineModel", name := "reaches", desc := "(IIZ)Z" } : Jvm.MethodName)) ∈ nTc := nT 535 (by first | rfl | decide +kernel) rfl
set_option maxRecDepth 100000 in
theorem tw537 : (Jvm.Cond.instanceMethod ({ cls := "LevelMachineModel", name := "reaches", desc := "(IIZ)Z" } : Jvm.MethodName)) ∈ nTc := nT 537 (by first | rfl | decide +kernel) rfl
set_option maxRecDepth 100000 in
theorem tw538 : (Jvm.Cond.code ({ cls := "LevelMachineModel", name := "reaches", desc := "(IIZ)Z" } : Jvm.MethodName) prog_6_method_21_code (6 : Nat) (Option.some Jvm.ClassFile.FieldType.boolean)) ∈ nTc := nT 538 (by first | rfl | decide +kernel) rfl
set_option maxRecDepth 100000 in
theorem tw539 : (Jvm.Cond.methodLink "LevelMachineModel" (69 : Nat) ({ cls := "LevelMachineModel", name := "write", desc := "(III)V" } : Jvm.MethodName)) ∈ nTc := nT 539 (by first | rfl | decide +kernel) rfl
set_option maxRecDepth 100000 in
theorem tw541 : (Jvm.Cond.instanceMethod ({ cls := "LevelMachineModel", name := "write", desc := "(III)V" } : Jvm.MethodName)) ∈ nTc := nT 541 (by first | rfl | decide +kernel) rfl
set_option maxRecDepth 100000 in
theorem tw542 : (Jvm.Cond.code ({ cls := "LevelMachineModel", name := "write", desc := "(III)V" } : Jvm.MethodName) prog_6_method_23_code (4 : Nat) (Option.none : Option Jvm.ClassFile.FieldType)) ∈ nTc := nT 542 (by first | rfl | decide +kernel) rfl
set_option maxRecDepth 100000 in
theorem tw543 : (Jvm.Cond.methodLink "LevelMachineModel" (66 : Nat) ({ cls := "LevelMachineModel", name := "store", desc := "(II)V" } : Jvm.MethodName)) ∈ nTc := nT 543 (by first | rfl | decide +kernel) rfl
set_option maxRecDepth 100000 in
theorem tw545 : (Jvm.Cond.instanceMethod ({ cls := "LevelMachineModel", name := "store", desc := "(II)V" } : Jvm.MethodName)) ∈ nTc := nT 545 (by first | rfl | decide +kernel) rfl
set_option maxRecDepth 100000 in
theorem tw546 : (Jvm.Cond.code ({ cls := "LevelMachineModel", name := "store", desc := "(II)V" } : Jvm.MethodName) prog_6_method_9_code (3 : Nat) (Option.none : Option Jvm.ClassFile.FieldType)) ∈ nTc := nT 546 (by first | rfl | decide +kernel) rfl
set_option maxRecDepth 100000 in
theorem tw547 : (Jvm.Cond.methodLink "LevelMachineModel" (107 : Nat) ({ cls := "LevelMachineModel", name := "push", desc := "(I)V" } : Jvm.MethodName)) ∈ nTc := nT 547 (by first | rfl | decide +kernel) rfl
set_option maxRecDepth 100000 in
theorem tw549 : (Jvm.Cond.instanceMethod ({ cls := "LevelMachineModel", name := "push", desc := "(I)V" } : Jvm.MethodName)) ∈ nTc := nT 549 (by first | rfl | decide +kernel) rfl
set_option maxRecDepth 100000 in
theorem tw550 : (Jvm.Cond.code ({ cls := "LevelMachineModel", name := "push", desc := "(I)V" } : Jvm.MethodName) prog_6_method_24_code (2 : Nat) (Option.none : Option Jvm.ClassFile.FieldType)) ∈ nTc := nT 550 (by first | rfl | decide +kernel) rfl
set_option maxRecDepth 100000 in
theorem tw551 : (Jvm.Cond.methodLink "LevelMachineModel" (145 : Nat) ({ cls := "LevelMachineModel", name := "pop", desc := "()I" } : Jvm.MethodName)) ∈ nTc := nT 551 (by first | rfl | decide +kernel) rfl
set_option maxRecDepth 100000 in
theorem tw553 : (Jvm.Cond.instanceMethod ({ cls := "LevelMachineModel", name := "pop", desc := "()I" } : Jvm.MethodName)) ∈ nTc := nT 553 (by first | rfl | decide +kernel) rfl
set_option maxRecDepth 100000 in
theorem tw554 : (Jvm.Cond.code ({ cls := "LevelMachineModel", name := "pop", desc := "()I" } : Jvm.MethodName) prog_6_method_25_code (2 : Nat) (Option.some Jvm.ClassFile.FieldType.int)) ∈ nTc := nT 554 (by first | rfl | decide +kernel) rfl
set_option maxRecDepth 100000 in
theorem tw555 : (Jvm.Cond.methodLink "LevelMachineModel" (148 : Nat) ({ cls := "LevelMachineModel", name := "loadStack", desc := "(I)V" } : Jvm.MethodName)) ∈ nTc := nT 555 (by first | rfl | decide +kernel) rfl
set_option maxRecDepth 100000 in
theorem tw557 : (Jvm.Cond.instanceMethod ({ cls := "LevelMachineModel", name := "loadStack", desc := "(I)V" } : Jvm.MethodName)) ∈ nTc := nT 557 (by first | rfl | decide +kernel) rfl
set_option maxRecDepth 100000 in
theorem tw558 : (Jvm.Cond.code ({ cls := "LevelMachineModel", name := "loadStack", desc := "(I)V" } : Jvm.MethodName) prog_6_method_28_code (2 : Nat) (Option.none : Option Jvm.ClassFile.FieldType)) ∈ nTc := nT 558 (by first | rfl | decide +kernel) rfl
set_option maxRecDepth 100000 in
theorem tw559 : (Jvm.Cond.methodLink "LevelMachineModel" (76 : Nat) ({ cls := "LevelMachineModel", name := "isNone", desc := "(I)Z" } : Jvm.MethodName)) ∈ nTc := nT 559 (by first | rfl | decide +kernel) rfl
set_option maxRecDepth 100000 in
theorem tw560 : (Jvm.Cond.static ({ cls := "LevelMachineModel", name := "isNone", desc := "(I)Z" } : Jvm.MethodName)) ∈ nTc := nT 560 (by first | rfl | decide +kernel) rfl
set_option maxRecDepth 100000 in
theorem tw561 : (Jvm.Cond.code ({ cls := "LevelMachineModel", name := "isNone", desc := "(I)Z" } : Jvm.MethodName) prog_6_method_11_code (1 : Nat) (Option.some Jvm.ClassFile.FieldType.boolean)) ∈ nTc := nT 561 (by first | rfl | decide +kernel) rfl
set_option maxRecDepth 100000 in
theorem tw562 : (Jvm.Cond.methodLink "LevelMachineModel" (84 : Nat) ({ cls := "LevelMachineModel", name := "isWrong", desc := "(I)Z" } : Jvm.MethodName)) ∈ nTc := nT 562 (by first | rfl | decide +kernel) rfl
set_option maxRecDepth 100000 in
theorem tw563 : (Jvm.Cond.static ({ cls := "LevelMachineModel", name := "isWrong", desc := "(I)Z" } : Jvm.MethodName)) ∈ nTc := nT 563 (by first | rfl | decide +kernel) rfl
set_option maxRecDepth 100000 in
theorem tw564 : (Jvm.Cond.code ({ cls := "LevelMachineModel", name := "isWrong", desc := "(I)Z" } : Jvm.MethodName) prog_6_method_12_code (1 : Nat) (Option.some Jvm.ClassFile.FieldType.boolean)) ∈ nTc := nT 564 (by first | rfl | decide +kernel) rfl
set_option maxRecDepth 100000 in
theorem tw565 : (Jvm.Cond.methodLink "LevelMachineModel" (87 : Nat) ({ cls := "LevelMachineModel", name := "need", desc := "(ZII)V" } : Jvm.MethodName)) ∈ nTc := nT 565 (by first | rfl | decide +kernel) rfl
set_option maxRecDepth 100000 in
theorem tw567 : (Jvm.Cond.instanceMethod ({ cls := "LevelMachineModel", name := "need", desc := "(ZII)V" } : Jvm.MethodName)) ∈ nTc := nT 567 (by first | rfl | decide +kernel) rfl
set_option maxRecDepth 100000 in
theorem tw568 : (Jvm.Cond.code ({ cls := "LevelMachineModel", name := "need", desc := "(ZII)V" } : Jvm.MethodName) prog_6_method_7_code (4 : Nat) (Option.none : Option Jvm.ClassFile.FieldType)) ∈ nTc := nT 568 (by first | rfl | decide +kernel) rfl
set_option maxRecDepth 100000 in
theorem tw569 : (Jvm.Cond.methodLink "LevelMachineModel" (48 : Nat) ({ cls := "LevelMachineModel", name := "kindOf", desc := "(I)I" } : Jvm.MethodName)) ∈ nTc := nT 569 (by first | rfl | decide +kernel) rfl
set_option maxRecDepth 100000 in
theorem tw571 : (Jvm.Cond.instanceMethod ({ cls := "LevelMachineModel", name := "kindOf", desc := "(I)I" } : Jvm.MethodName)) ∈ nTc := nT 571 (by first | rfl | decide +kernel) rfl
set_option maxRecDepth 100000 in
theorem tw572 : (Jvm.Cond.code ({ cls := "LevelMachineModel", name := "kindOf", desc := "(I)I" } : Jvm.MethodName) prog_6_method_14_code (2 : Nat) (Option.some Jvm.ClassFile.FieldType.int)) ∈ nTc := nT 572 (by first | rfl | decide +kernel) rfl
set_option maxRecDepth 100000 in
theorem tw573 : (Jvm.Cond.methodLink "LevelMachineModel" (44 : Nat) ({ cls := "LevelMachineModel", name := "part", desc := "(II)I" } : Jvm.MethodName)) ∈ nTc := nT 573 (by first | rfl | decide +kernel) rfl
set_option maxRecDepth 100000 in
theorem tw575 : (Jvm.Cond.instanceMethod ({ cls := "LevelMachineModel", name := "part", desc := "(II)I" } : Jvm.MethodName)) ∈ nTc := nT 575 (by first | rfl | decide +kernel) rfl
set_option maxRecDepth 100000 in
theorem tw576 : (Jvm.Cond.code ({ cls := "LevelMachineModel", name := "part", desc := "(II)I" } : Jvm.MethodName) prog_6_method_13_code (3 : Nat) (Option.some Jvm.ClassFile.FieldType.int)) ∈ nTc := nT 576 (by first | rfl | decide +kernel) rfl
set_option maxRecDepth 100000 in
theorem tw577 : (Jvm.Cond.methodLink "LevelMachineModel" (56 : Nat) ({ cls := "LevelMachineModel", name := "rankOf", desc := "(I)I" } : Jvm.MethodName)) ∈ nTc := nT 577 (by first | rfl | decide +kernel) rfl
set_option maxRecDepth 100000 in
theorem tw579 : (Jvm.Cond.instanceMethod ({ cls := "LevelMachineModel", name := "rankOf", desc := "(I)I" } : Jvm.MethodName)) ∈ nTc := nT 579 (by first | rfl | decide +kernel) rfl
set_option maxRecDepth 100000 in
theorem tw580 : (Jvm.Cond.code ({ cls := "LevelMachineModel", name := "rankOf", desc := "(I)I" } : Jvm.MethodName) prog_6_method_15_code (2 : Nat) (Option.some Jvm.ClassFile.FieldType.int)) ∈ nTc := nT 580 (by first | rfl | decide +kernel) rfl
set_option maxRecDepth 100000 in
theorem tw581 : (Jvm.Cond.methodLink "LevelMachineModel" (95 : Nat) ({ cls := "LevelMachineModel", name := "isThere", desc := "(I)Z" } : Jvm.MethodName)) ∈ nTc := nT 581 (by first | rfl | decide +kernel) rfl
set_option maxRecDepth 100000 in
theorem tw583 : (Jvm.Cond.instanceMethod ({ cls := "LevelMachineModel", name := "isThere", desc := "(I)Z" } : Jvm.MethodName)) ∈ nTc := nT 583 (by first | rfl | decide +kernel) rfl
set_option maxRecDepth 100000 in
theorem tw584 : (Jvm.Cond.code ({ cls := "LevelMachineModel", name := "isThere", desc := "(I)Z" } : Jvm.MethodName) prog_6_method_16_code (2 : Nat) (Option.some Jvm.ClassFile.FieldType.boolean)) ∈ nTc := nT 584 (by first | rfl | decide +kernel) rfl
set_option maxRecDepth 100000 in
theorem tw585 : (Jvm.Cond.methodLink "LevelMachineModel" (98 : Nat) ({ cls := "LevelMachineModel", name := "load", desc := "(II)V" } : Jvm.MethodName)) ∈ nTc := nT 585 (by first | rfl | decide +kernel) rfl
set_option maxRecDepth 100000 in
theorem tw587 : (Jvm.Cond.instanceMethod ({ cls := "LevelMachineModel", name := "load", desc := "(II)V" } : Jvm.MethodName)) ∈ nTc := nT 587 (by first | rfl | decide +kernel) rfl
set_option maxRecDepth 100000 in
theorem tw588 : (Jvm.Cond.code ({ cls := "LevelMachineModel", name := "load", desc := "(II)V" } : Jvm.MethodName) prog_6_method_19_code (3 : Nat) (Option.none : Option Jvm.ClassFile.FieldType)) ∈ nTc := nT 588 (by first | rfl | decide +kernel) rfl
set_option maxRecDepth 100000 in
theorem tw589 : (Jvm.Cond.methodLink "LevelMachineModel" (157 : Nat) ({ cls := "LevelMachineModel", name := "loadData", desc := "(II)V" } : Jvm.MethodName)) ∈ nTc := nT 589 (by first | rfl | decide +kernel) rfl
set_option maxRecDepth 100000 in
theorem tw591 : (Jvm.Cond.instanceMethod ({ cls := "LevelMachineModel", name := "loadData", desc := "(II)V" } : Jvm.MethodName)) ∈ nTc := nT 591 (by first | rfl | decide +kernel) rfl
set_option maxRecDepth 100000 in
theorem tw592 : (Jvm.Cond.code ({ cls := "LevelMachineModel", name := "loadData", desc := "(II)V" } : Jvm.MethodName) prog_6_method_27_code (4 : Nat) (Option.none : Option Jvm.ClassFile.FieldType)) ∈ nTc := nT 592 (by first | rfl | decide +kernel) rfl
set_option maxRecDepth 100000 in
theorem tw593 : (Jvm.Cond.methodLink "LevelMachineModel" (80 : Nat) ({ cls := "LevelMachineModel", name := "unload", desc := "(I)V" } : Jvm.MethodName)) ∈ nTc := nT 593 (by first | rfl | decide +kernel) rfl
set_option maxRecDepth 100000 in
theorem tw595 : (Jvm.Cond.instanceMethod ({ cls := "LevelMachineModel", name := "unload", desc := "(I)V" } : Jvm.MethodName)) ∈ nTc := nT 595 (by first | rfl | decide +kernel) rfl
set_option maxRecDepth 100000 in
theorem tw596 : (Jvm.Cond.code ({ cls := "LevelMachineModel", name := "unload", desc := "(I)V" } : Jvm.MethodName) prog_6_method_20_code (3 : Nat) (Option.none : Option Jvm.ClassFile.FieldType)) ∈ nTc := nT 596 (by first | rfl | decide +kernel) rfl
set_option maxRecDepth 100000 in
theorem tw597 : (Jvm.Cond.methodLink "LevelMachineModel" (173 : Nat) ({ cls := "LevelMachineModel", name := "protect", desc := "(III)V" } : Jvm.MethodName)) ∈ nTc := nT 597 (by first | rfl | decide +kernel) rfl
set_option maxRecDepth 100000 in
theorem tw599 : (Jvm.Cond.instanceMethod ({ cls := "LevelMachineModel", name := "protect", desc := "(III)V" } : Jvm.MethodName)) ∈ nTc := nT 599 (by first | rfl | decide +kernel) rfl
set_option maxRecDepth 100000 in
theorem tw600 : (Jvm.Cond.code ({ cls := "LevelMachineModel", name := "protect", desc := "(III)V" } : Jvm.MethodName) prog_6_method_45_code (8 : Nat) (Option.none : Option Jvm.ClassFile.FieldType)) ∈ nTc := nT 600 (by first | rfl | decide +kernel) rfl
set_option maxRecDepth 100000 in
theorem tw601 : (Jvm.Cond.methodLink "LevelMachineModel" (183 : Nat) ({ cls := "LevelMachineModel", name := "transfer", desc := "(IIZ)V" } : Jvm.MethodName)) ∈ nTc := nT 601 (by first | rfl | decide +kernel) rfl
set_option maxRecDepth 100000 in
theorem tw603 : (Jvm.Cond.instanceMethod ({ cls := "LevelMachineModel", name := "transfer", desc := "(IIZ)V" } : Jvm.MethodName)) ∈ nTc := nT 603 (by first | rfl | decide +kernel) rfl
set_option maxRecDepth 100000 in
theorem tw604 : (Jvm.Cond.code ({ cls := "LevelMachineModel", name := "transfer", desc := "(IIZ)V" } : Jvm.MethodName) prog_6_method_35_code (5 : Nat) (Option.none : Option Jvm.ClassFile.FieldType)) ∈ nTc := nT 604 (by first | rfl | decide +kernel) rfl
set_option maxRecDepth 100000 in
theorem tw605 : (Jvm.Cond.methodLink "LevelMachineModel" (110 : Nat) ({ cls := "LevelMachineModel", name := "pushPlace", desc := "(Z)V" } : Jvm.MethodName)) ∈ nTc := nT 605 (by first | rfl | decide +kernel) rfl
set_option maxRecDepth 100000 in
theorem tw607 : (Jvm.Cond.instanceMethod ({ cls := "LevelMachineModel", name := "pushPlace", desc := "(Z)V" } : Jvm.MethodName)) ∈ nTc := nT 607 (by first | rfl | decide +kernel) rfl
set_option maxRecDepth 100000 in
theorem tw608 : (Jvm.Cond.code ({ cls := "LevelMachineModel", name := "pushPlace", desc := "(Z)V" } : Jvm.MethodName) prog_6_method_31_code (2 : Nat) (Option.none : Option Jvm.ClassFile.FieldType)) ∈ nTc := nT 608 (by first | rfl | decide +kernel) rfl
set_option maxRecDepth 100000 in
theorem tw609 : (Jvm.Cond.methodLink "LevelMachineModel" (114 : Nat) ({ cls := "LevelMachineModel", name := "enter", desc := "(III)V" } : Jvm.MethodName)) ∈ nTc := nT 609 (by first | rfl | decide +kernel) rfl
set_option maxRecDepth 100000 in
theorem tw611 : (Jvm.Cond.instanceMethod ({ cls := "LevelMachineModel", name := "enter", desc := "(III)V" } : Jvm.MethodName)) ∈ nTc := nT 611 (by first | rfl | decide +kernel) rfl
set_option maxRecDepth 100000 in
theorem tw612 : (Jvm.Cond.code ({ cls := "LevelMachineModel", name := "enter", desc := "(III)V" } : Jvm.MethodName) prog_6_method_30_code (4 : Nat) (Option.none : Option Jvm.ClassFile.FieldType)) ∈ nTc := nT 612 (by first | rfl | decide +kernel) rfl
set_option maxRecDepth 100000 in
theorem tw613 : (Jvm.Cond.methodLink "LevelMachineModel" (104 : Nat) ({ cls := "LevelMachineModel", name := "canEnter", desc := "(III)Z" } : Jvm.MethodName)) ∈ nTc := nT 613 (by first | rfl | decide +kernel) rfl
set_option maxRecDepth 100000 in
theorem tw615 : (Jvm.Cond.instanceMethod ({ cls := "LevelMachineModel", name := "canEnter", desc := "(III)Z" } : Jvm.MethodName)) ∈ nTc := nT 615 (by first | rfl | decide +kernel) rfl
set_option maxRecDepth 100000 in
theorem tw616 : (Jvm.Cond.code ({ cls := "LevelMachineModel", name := "canEnter", desc := "(III)Z" } : Jvm.MethodName) prog_6_method_29_code (4 : Nat) (Option.some Jvm.ClassFile.FieldType.boolean)) ∈ nTc := nT 616 (by first | rfl | decide +kernel) rfl
set_option maxRecDepth 100000 in
theorem tw617 : (Jvm.Cond.methodLink "LevelMachineModel" (101 : Nat) ({ cls := "LevelMachineModel", name := "isCode", desc := "(I)Z" } : Jvm.MethodName)) ∈ nTc := nT 617 (by first | rfl | decide +kernel) rfl
set_option maxRecDepth 100000 in
theorem tw619 : (Jvm.Cond.instanceMethod ({ cls := "LevelMachineModel", name := "isCode", desc := "(I)Z" } : Jvm.MethodName)) ∈ nTc := nT 619 (by first | rfl | decide +kernel) rfl
set_option maxRecDepth 100000 in
theorem tw620 : (Jvm.Cond.code ({ cls := "LevelMachineModel", name := "isCode", desc := "(I)Z" } : Jvm.MethodName) prog_6_method_17_code (2 : Nat) (Option.some Jvm.ClassFile.FieldType.boolean)) ∈ nTc := nT 620 (by first | rfl | decide +kernel) rfl
set_option maxRecDepth 100000 in
theorem tw621 : (Jvm.Cond.methodLink "LevelMachineModel" (138 : Nat) ({ cls := "LevelMachineModel", name := "switchTo", desc := "(II)V" } : Jvm.MethodName)) ∈ nTc := nT 621 (by first | rfl | decide +kernel) rfl
set_option maxRecDepth 100000 in
theorem tw623 : (Jvm.Cond.instanceMethod ({ cls := "LevelMachineModel", name := "switchTo", desc := "(II)V" } : Jvm.MethodName)) ∈ nTc := nT 623 (by first | rfl | decide +kernel) rfl
set_option maxRecDepth 100000 in
theorem tw624 : (Jvm.Cond.code ({ cls := "LevelMachineModel", name := "switchTo", desc := "(II)V" } : Jvm.MethodName) prog_6_method_38_code (7 : Nat) (Option.none : Option Jvm.ClassFile.FieldType)) ∈ nTc := nT 624 (by first | rfl | decide +kernel) rfl
set_option maxRecDepth 100000 in
theorem tw625 : (Jvm.Cond.methodLink "LevelMachineModel" (151 : Nat) ({ cls := "LevelMachineModel", name := "setKind", desc := "(II)V" } : Jvm.MethodName)) ∈ nTc := nT 625 (by first | rfl | decide +kernel) rfl
set_option maxRecDepth 100000 in
theorem tw627 : (Jvm.Cond.instanceMethod ({ cls := "LevelMachineModel", name := "setKind", desc := "(II)V" } : Jvm.MethodName)) ∈ nTc := nT 627 (by first | rfl | decide +kernel) rfl
set_option maxRecDepth 100000 in
theorem tw628 : (Jvm.Cond.code ({ cls := "LevelMachineModel", name := "setKind", desc := "(II)V" } : Jvm.MethodName) prog_6_method_18_code (4 : Nat) (Option.none : Option Jvm.ClassFile.FieldType)) ∈ nTc := nT 628 (by first | rfl | decide +kernel) rfl
set_option maxRecDepth 100000 in
theorem tw629 : (Jvm.Cond.methodLink "LevelMachineModel" (154 : Nat) ({ cls := "LevelMachineModel", name := "begin", desc := "(II)V" } : Jvm.MethodName)) ∈ nTc := nT 629 (by first | rfl | decide +kernel) rfl
set_option maxRecDepth 100000 in
theorem tw631 : (Jvm.Cond.instanceMethod ({ cls := "LevelMachineModel", name := "begin", desc := "(II)V" } : Jvm.MethodName)) ∈ nTc := nT 631 (by first | rfl | decide +kernel) rfl
set_option maxRecDepth 100000 in
theorem tw632 : (Jvm.Cond.code ({ cls := "LevelMachineModel", name := "begin", desc := "(II)V" } : Jvm.MethodName) prog_6_method_39_code (8 : Nat) (Option.none : Option Jvm.ClassFile.FieldType)) ∈ nTc := nT 632 (by first | rfl | decide +kernel) rfl
set_option maxRecDepth 100000 in
theorem tw633 : (Jvm.Cond.methodLink "LevelMachineModel" (141 : Nat) ({ cls := "LevelMachineModel", name := "deepEntry", desc := "(IIIZ)V" } : Jvm.MethodName)) ∈ nTc := nT 633 (by first | rfl | decide +kernel) rfl
set_option maxRecDepth 100000 in
theorem tw635 : (Jvm.Cond.instanceMethod ({ cls := "LevelMachineModel", name := "deepEntry", desc := "(IIIZ)V" } : Jvm.MethodName)) ∈ nTc := nT 635 (by first | rfl | decide +kernel) rfl
set_option maxRecDepth 100000 in
theorem tw636 : (Jvm.Cond.code ({ cls := "LevelMachineModel", name := "deepEntry", desc := "(IIIZ)V" } : Jvm.MethodName) prog_6_method_32_code (9 : Nat) (Option.none : Option Jvm.ClassFile.FieldType)) ∈ nTc := nT 636 (by first | rfl | decide +kernel) rfl
set_option maxRecDepth 100000 in
theorem tw637 : (Jvm.Cond.methodLink "LevelMachineModel" (117 : Nat) ({ cls := "LevelMachineModel", name := "changeStack", desc := "(I)V" } : Jvm.MethodName)) ∈ nTc := nT 637 (by first | rfl | decide +kernel) rfl
set_option maxRecDepth 100000 in
theorem tw639 : (Jvm.Cond.instanceMethod ({ cls := "LevelMachineModel", name := "changeStack", desc := "(I)V" } : Jvm.MethodName)) ∈ nTc := nT 639 (by first | rfl | decide +kernel) rfl
set_option maxRecDepth 100000 in
theorem tw640 : (Jvm.Cond.code ({ cls := "LevelMachineModel", name := "changeStack", desc := "(I)V" } : Jvm.MethodName) prog_6_method_33_code (4 : Nat) (Option.none : Option Jvm.ClassFile.FieldType)) ∈ nTc := nT 640 (by first | rfl | decide +kernel) rfl
set_option maxRecDepth 100000 in
theorem tw641 : (Jvm.Cond.methodLink "LevelMachineModel" (126 : Nat) ({ cls := "LevelMachineModel", name := "ofOldStack", desc := "(I)I" } : Jvm.MethodName)) ∈ nTc := nT 641 (by first | rfl | decide +kernel) rfl
set_option maxRecDepth 100000 in
theorem tw643 : (Jvm.Cond.instanceMethod ({ cls := "LevelMachineModel", name := "ofOldStack", desc := "(I)I" } : Jvm.MethodName)) ∈ nTc := nT 643 (by first | rfl | decide +kernel) rfl
set_option maxRecDepth 100000 in
theorem tw644 : (Jvm.Cond.code ({ cls := "LevelMachineModel", name := "ofOldStack", desc := "(I)I" } : Jvm.MethodName) prog_6_method_34_code (2 : Nat) (Option.some Jvm.ClassFile.FieldType.int)) ∈ nTc := nT 644 (by first | rfl | decide +kernel) rfl
set_option maxRecDepth 100000 in
theorem tw645 : (Jvm.Cond.methodLink "LevelMachineModel" (186 : Nat) ({ cls := "LevelMachineModel", name := "comeBack", desc := "(III)V" } : Jvm.MethodName)) ∈ nTc := nT 645 (by first | rfl | decide +kernel) rfl
set_option maxRecDepth 100000 in
theorem tw647 : (Jvm.Cond.instanceMethod ({ cls := "LevelMachineModel", name := "comeBack", desc := "(III)V" } : Jvm.MethodName)) ∈ nTc := nT 647 (by first | rfl | decide +kernel) rfl
set_option maxRecDepth 100000 in
theorem tw648 : (Jvm.Cond.code ({ cls := "LevelMachineModel", name := "comeBack", desc := "(III)V" } : Jvm.MethodName) prog_6_method_36_code (8 : Nat) (Option.none : Option Jvm.ClassFile.FieldType)) ∈ nTc := nT 648 (by first | rfl | decide +kernel) rfl
set_option maxRecDepth 100000 in
theorem tw649 : (Jvm.Cond.methodLink "LevelMachineModel" (189 : Nat) ({ cls := "LevelMachineModel", name := "trap", desc := "(IZ)V" } : Jvm.MethodName)) ∈ nTc := nT 649 (by first | rfl | decide +kernel) rfl
set_option maxRecDepth 100000 in
theorem tw651 : (Jvm.Cond.instanceMethod ({ cls := "LevelMachineModel", name := "trap", desc := "(IZ)V" } : Jvm.MethodName)) ∈ nTc := nT 651 (by first | rfl | decide +kernel) rfl
set_option maxRecDepth 100000 in
theorem tw652 : (Jvm.Cond.code ({ cls := "LevelMachineModel", name := "trap", desc := "(IZ)V" } : Jvm.MethodName) prog_6_method_37_code (5 : Nat) (Option.none : Option Jvm.ClassFile.FieldType)) ∈ nTc := nT 652 (by first | rfl | decide +kernel) rfl
set_option maxRecDepth 100000 in
theorem tw653 : (Jvm.Cond.methodLink "LevelMachineModel" (193 : Nat) ({ cls := "LevelMachineModel", name := "back", desc := "()V" } : Jvm.MethodName)) ∈ nTc := nT 653 (by first | rfl | decide +kernel) rfl
set_option maxRecDepth 100000 in
theorem tw655 : (Jvm.Cond.instanceMethod ({ cls := "LevelMachineModel", name := "back", desc := "()V" } : Jvm.MethodName)) ∈ nTc := nT 655 (by first | rfl | decide +kernel) rfl
set_option maxRecDepth 100000 in
theorem tw656 : (Jvm.Cond.code ({ cls := "LevelMachineModel", name := "back", desc := "()V" } : Jvm.MethodName) prog_6_method_46_code (3 : Nat) (Option.none : Option Jvm.ClassFile.FieldType)) ∈ nTc := nT 656 (by first | rfl | decide +kernel) rfl
set_option maxRecDepth 100000 in
theorem tw657 : (Jvm.Cond.methodLink "LevelMachineModel" (196 : Nat) ({ cls := "LevelMachineModel", name := "take", desc := "(I)V" } : Jvm.MethodName)) ∈ nTc := nT 657 (by first | rfl | decide +kernel) rfl
set_option maxRecDepth 100000 in
theorem tw659 : (Jvm.Cond.instanceMethod ({ cls := "LevelMachineModel", name := "take", desc := "(I)V" } : Jvm.MethodName)) ∈ nTc := nT 659 (by first | rfl | decide +kernel) rfl
set_option maxRecDepth 100000 in
theorem tw660 : (Jvm.Cond.code ({ cls := "LevelMachineModel", name := "take", desc := "(I)V" } : Jvm.MethodName) prog_6_method_47_code (2 : Nat) (Option.none : Option Jvm.ClassFile.FieldType)) ∈ nTc := nT 660 (by first | rfl | decide +kernel) rfl
set_option maxRecDepth 100000 in
theorem tw661 : (Jvm.Cond.methodLink "LevelMachineModel" (217 : Nat) ({ cls := "LevelMachineModel", name := "note", desc := "(II)V" } : Jvm.MethodName)) ∈ nTc := nT 661 (by first | rfl | decide +kernel) rfl
set_option maxRecDepth 100000 in
theorem tw663 : (Jvm.Cond.instanceMethod ({ cls := "LevelMachineModel", name := "note", desc := "(II)V" } : Jvm.MethodName)) ∈ nTc := nT 663 (by first | rfl | decide +kernel) rfl
set_option maxRecDepth 100000 in
theorem tw664 : (Jvm.Cond.code ({ cls := "LevelMachineModel", name := "note", desc := "(II)V" } : Jvm.MethodName) prog_6_method_49_code (3 : Nat) (Option.none : Option Jvm.ClassFile.FieldType)) ∈ nTc := nT 664 (by first | rfl | decide +kernel) rfl
set_option maxRecDepth 100000 in
theorem tw665 : (Jvm.Cond.methodLink "LevelMachineModel" (202 : Nat) ({ cls := "LevelMachineModel", name := "putBack", desc := "()V" } : Jvm.MethodName)) ∈ nTc := nT 665 (by first | rfl | decide +kernel) rfl
set_option maxRecDepth 100000 in
theorem tw667 : (Jvm.Cond.instanceMethod ({ cls := "LevelMachineModel", name := "putBack", desc := "()V" } : Jvm.MethodName)) ∈ nTc := nT 667 (by first | rfl | decide +kernel) rfl
set_option maxRecDepth 100000 in
theorem tw668 : (Jvm.Cond.code ({ cls := "LevelMachineModel", name := "putBack", desc := "()V" } : Jvm.MethodName) prog_6_method_5_code (1 : Nat) (Option.none : Option Jvm.ClassFile.FieldType)) ∈ nTc := nT 668 (by first | rfl | decide +kernel) rfl
set_option maxRecDepth 100000 in
theorem tw669 : (Jvm.Cond.methodLink "LevelMachineModel" (220 : Nat) ({ cls := "LevelMachineModel", name := "delivers", desc := "(II)Z" } : Jvm.MethodName)) ∈ nTc := nT 669 (by first | rfl | decide +kernel) rfl
set_option maxRecDepth 100000 in
theorem tw671 : (Jvm.Cond.instanceMethod ({ cls := "LevelMachineModel", name := "delivers", desc := "(II)Z" } : Jvm.MethodName)) ∈ nTc := nT 671 (by first | rfl | decide +kernel) rfl
set_option maxRecDepth 100000 in
theorem tw672 : (Jvm.Cond.code ({ cls := "LevelMachineModel", name := "delivers", desc := "(II)Z" } : Jvm.MethodName) prog_6_method_48_code (4 : Nat) (Option.some Jvm.ClassFile.FieldType.boolean)) ∈ nTc := nT 672 (by first | rfl | decide +kernel) rfl
set_option maxRecDepth 100000 in
theorem tw673 : (Jvm.Cond.methodLink "LevelMachineLaw" (44 : Nat) ({ cls := "LevelMachineModel", name := "wake", desc := "()Z" } : Jvm.MethodName)) ∈ nTc := nT 673 (by first | rfl | decide +kernel) rfl
set_option maxRecDepth 100000 in
theorem tw674 : (Jvm.Cond.instanceMethod ({ cls := "LevelMachineModel", name := "wake", desc := "()Z" } : Jvm.MethodName)) ∈ nTc := nT 674 (by first | rfl | decide +kernel) rfl
set_option maxRecDepth 100000 in
theorem tw675 : (Jvm.Cond.selects "LevelMachineModel" ({ cls := "LevelMachineModel", name := "wake", desc := "()Z" } : Jvm.MethodName) ({ cls := "LevelMachineModel", name := "wake", desc := "()Z" } : Jvm.MethodName)) ∈ nTc := nT 675 (by first | rfl | decide +kernel) rfl
set_option maxRecDepth 100000 in
theorem tw676 : (Jvm.Cond.code ({ cls := "LevelMachineModel", name := "wake", desc := "()Z" } : Jvm.MethodName) prog_6_method_52_code (2 : Nat) (Option.some Jvm.ClassFile.FieldType.boolean)) ∈ nTc := nT 676 (by first | rfl | decide +kernel) rfl
set_option maxRecDepth 100000 in
theorem tw677 : (Jvm.Cond.methodLink "LevelMachineLaw" (17 : Nat) ({ cls := "LevelMachineModel", name := "poke", desc := "(II)Z" } : Jvm.MethodName)) ∈ nTc := nT 677 (by first | rfl | decide +kernel) rfl
set_option maxRecDepth 100000 in
theorem tw678 : (Jvm.Cond.instanceMethod ({ cls := "LevelMachineModel", name := "poke", desc := "(II)Z" } : Jvm.MethodName)) ∈ nTc := nT 678 (by first | rfl | decide +kernel) rfl
set_option maxRecDepth 100000 in
theorem tw679 : (Jvm.Cond.selects "LevelMachineModel" ({ cls := "LevelMachineModel", name := "poke", desc := "(II)Z" } : Jvm.MethodName) ({ cls := "LevelMachineModel", name := "poke", desc := "(II)Z" } : Jvm.MethodName)) ∈ nTc := nT 679 (by first | rfl | decide +kernel) rfl
set_option maxRecDepth 100000 in
theorem tw680 : (Jvm.Cond.code ({ cls := "LevelMachineModel", name := "poke", desc := "(II)Z" } : Jvm.MethodName) prog_6_method_53_code (3 : Nat) (Option.some Jvm.ClassFile.FieldType.boolean)) ∈ nTc := nT 680 (by first | rfl | decide +kernel) rfl
set_option maxRecDepth 100000 in
theorem tw681 : (Jvm.Cond.methodLink "LevelMachineLaw" (22 : Nat) ({ cls := "LevelMachineModel", name := "peek", desc := "(I)I" } : Jvm.MethodName)) ∈ nTc := nT 681 (by first | rfl | decide +kernel) rfl
set_option maxRecDepth 100000 in
theorem tw682 : (Jvm.Cond.instanceMethod ({ cls := "LevelMachineModel", name := "peek", desc := "(I)I" } : Jvm.MethodName)) ∈ nTc := nT 682 (by first | rfl | decide +kernel) rfl
set_option maxRecDepth 100000 in
theorem tw683 : (Jvm.Cond.selects "LevelMachineModel" ({ cls := "LevelMachineModel", name := "peek", desc := "(I)I" } : Jvm.MethodName) ({ cls := "LevelMachineModel", name := "peek", desc := "(I)I" } : Jvm.MethodName)) ∈ nTc := nT 683 (by first | rfl | decide +kernel) rfl
set_option maxRecDepth 100000 in
theorem tw684 : (Jvm.Cond.code ({ cls := "LevelMachineModel", name := "peek", desc := "(I)I" } : Jvm.MethodName) prog_6_method_54_code (2 : Nat) (Option.some Jvm.ClassFile.FieldType.int)) ∈ nTc := nT 684 (by first | rfl | decide +kernel) rfl
set_option maxRecDepth 100000 in
theorem tw685 : (Jvm.Cond.methodLink "LevelMachineLaw" (27 : Nat) ({ cls := "LevelMachineModel", name := "describe", desc := "(IIIIIZ)Z" } : Jvm.MethodName)) ∈ nTc := nT 685 (by first | rfl | decide +kernel) rfl
set_option maxRecDepth 100000 in
theorem tw686 : (Jvm.Cond.instanceMethod ({ cls := "LevelMachineModel", name := "describe", desc := "(IIIIIZ)Z" } : Jvm.MethodName)) ∈ nTc := nT 686 (by first | rfl | decide +kernel) rfl
set_option maxRecDepth 100000 in
theorem tw687 : (Jvm.Cond.selects "LevelMachineModel" ({ cls := "LevelMachineModel", name := "describe", desc := "(IIIIIZ)Z" } : Jvm.MethodName) ({ cls := "LevelMachineModel", name := "describe", desc := "(IIIIIZ)Z" } : Jvm.MethodName)) ∈ nTc := nT 687 (by first | rfl | decide +kernel) rfl
set_option maxRecDepth 100000 in
theorem tw688 : (Jvm.Cond.code ({ cls := "LevelMachineModel", name := "describe", desc := "(IIIIIZ)Z" } : Jvm.MethodName) prog_6_method_55_code (7 : Nat) (Option.some Jvm.ClassFile.FieldType.boolean)) ∈ nTc := nT 688 (by first | rfl | decide +kernel) rfl
set_option maxRecDepth 100000 in
theorem tw689 : (Jvm.Cond.methodLink "LevelMachineLaw" (31 : Nat) ({ cls := "LevelMachineModel", name := "set", desc := "(II)Z" } : Jvm.MethodName)) ∈ nTc := nT 689 (by first | rfl | decide +kernel) rfl
set_option maxRecDepth 100000 in
theorem tw690 : (Jvm.Cond.instanceMethod ({ cls := "LevelMachineModel", name := "set", desc := "(II)Z" } : Jvm.MethodName)) ∈ nTc := nT 690 (by first | rfl | decide +kernel) rfl
set_option maxRecDepth 100000 in
theorem tw691 : (Jvm.Cond.selects "LevelMachineModel" ({ cls := "LevelMachineModel", name := "set", desc := "(II)Z" } : Jvm.MethodName) ({ cls := "LevelMachineModel", name := "set", desc := "(II)Z" } : Jvm.MethodName)) ∈ nTc := nT 691 (by first | rfl | decide +kernel) rfl
set_option maxRecDepth 100000 in
theorem tw692 : (Jvm.Cond.code ({ cls := "LevelMachineModel", name := "set", desc := "(II)Z" } : Jvm.MethodName) prog_6_method_56_code (3 : Nat) (Option.some Jvm.ClassFile.FieldType.boolean)) ∈ nTc := nT 692 (by first | rfl | decide +kernel) rfl
set_option maxRecDepth 100000 in
theorem tw693 : (Jvm.Cond.methodLink "LevelMachineLaw" (35 : Nat) ({ cls := "LevelMachineModel", name := "force", desc := "(II)Z" } : Jvm.MethodName)) ∈ nTc := nT 693 (by first | rfl | decide +kernel) rfl
set_option maxRecDepth 100000 in
theorem tw694 : (Jvm.Cond.instanceMethod ({ cls := "LevelMachineModel", name := "force", desc := "(II)Z" } : Jvm.MethodName)) ∈ nTc := nT 694 (by first | rfl | decide +kernel) rfl
set_option maxRecDepth 100000 in
theorem tw695 : (Jvm.Cond.selects "LevelMachineModel" ({ cls := "LevelMachineModel", name := "force", desc := "(II)Z" } : Jvm.MethodName) ({ cls := "LevelMachineModel", name := "force", desc := "(II)Z" } : Jvm.MethodName)) ∈ nTc := nT 695 (by first | rfl | decide +kernel) rfl
set_option maxRecDepth 100000 in
theorem tw696 : (Jvm.Cond.code ({ cls := "LevelMachineModel", name := "force", desc := "(II)Z" } : Jvm.MethodName) prog_6_method_57_code (3 : Nat) (Option.some Jvm.ClassFile.FieldType.boolean)) ∈ nTc := nT 696 (by first | rfl | decide +kernel) rfl
set_option maxRecDepth 100000 in
theorem tw697 : (Jvm.Cond.methodLink "LevelMachineLaw" (48 : Nat) ({ cls := "LevelMachineModel", name := "state", desc := "(I)I" } : Jvm.MethodName)) ∈ nTc := nT 697 (by first | rfl | decide +kernel) rfl
set_option maxRecDepth 100000 in
theorem tw698 : (Jvm.Cond.instanceMethod ({ cls := "LevelMachineModel", name := "state", desc := "(I)I" } : Jvm.MethodName)) ∈ nTc := nT 698 (by first | rfl | decide +kernel) rfl
set_option maxRecDepth 100000 in
theorem tw699 : (Jvm.Cond.selects "LevelMachineModel" ({ cls := "LevelMachineModel", name := "state", desc := "(I)I" } : Jvm.MethodName) ({ cls := "LevelMachineModel", name := "state", desc := "(I)I" } : Jvm.MethodName)) ∈ nTc := nT 699 (by first | rfl | decide +kernel) rfl
set_option maxRecDepth 100000 in
theorem tw700 : (Jvm.Cond.code ({ cls := "LevelMachineModel", name := "state", desc := "(I)I" } : Jvm.MethodName) prog_6_method_58_code (2 : Nat) (Option.some Jvm.ClassFile.FieldType.int)) ∈ nTc := nT 700 (by first | rfl | decide +kernel) rfl
set_option maxRecDepth 100000 in
theorem tw701 : (Jvm.Cond.methodLink "LevelMachineLaw" (53 : Nat) ({ cls := "LevelMachineModel", name := "segment", desc := "(II)I" } : Jvm.MethodName)) ∈ nTc := nT 701 (by first | rfl | decide +kernel) rfl
set_option maxRecDepth 100000 in
theorem tw702 : (Jvm.Cond.instanceMethod ({ cls := "LevelMachineModel", name := "segment", desc := "(II)I" } : Jvm.MethodName)) ∈ nTc := nT 702 (by first | rfl | decide +kernel) rfl
set_option maxRecDepth 100000 in
theorem tw703 : (Jvm.Cond.selects "LevelMachineModel" ({ cls := "LevelMachineModel", name := "segment", desc := "(II)I" } : Jvm.MethodName) ({ cls := "LevelMachineModel", name := "segment", desc := "(II)I" } : Jvm.MethodName)) ∈ nTc := nT 703 (by first | rfl | decide +kernel) rfl
set_option maxRecDepth 100000 in
theorem tw704 : (Jvm.Cond.code ({ cls := "LevelMachineModel", name := "segment", desc := "(II)I" } : Jvm.MethodName) prog_6_method_59_code (3 : Nat) (Option.some Jvm.ClassFile.FieldType.int)) ∈ nTc := nT 704 (by first | rfl | decide +kernel) rfl
theorem sl0 : Cond.selects "LevelMachine" ⟨"LevelMachine", "keepAll", "()V"⟩ ⟨"LevelMachine", "keepAll", "()V"⟩ ∈ nTc := nS (q := (⟨"LevelMachine", "keepAll", "()V"⟩, 13)) 0 (by decide +kernel)
theorem sl1 : Cond.selects "LevelMachine" ⟨"LevelMachine", "perform", "()Z"⟩ ⟨"LevelMachine", "perform", "()Z"⟩ ∈ nTc := nS (q := (⟨"LevelMachine", "perform", "()Z"⟩, 13)) 1 (by decide +kernel)
theorem sl2 : Cond.selects "LevelMachine" ⟨"LevelMachine", "decode", "()Z"⟩ ⟨"LevelMachine", "decode", "()Z"⟩ ∈ nTc := nS (q := (⟨"LevelMachine", "decode", "()Z"⟩, 13)) 2 (by decide +kernel)
theorem sl3 : Cond.selects "LevelMachine" ⟨"LevelMachine", "fetch", "()I"⟩ ⟨"LevelMachine", "fetch", "()I"⟩ ∈ nTc := nS (q := (⟨"LevelMachine", "fetch", "()I"⟩, 13)) 3 (by decide +kernel)
theorem sl4 : Cond.selects "LevelMachine" ⟨"LevelMachine", "fault", "(II)Z"⟩ ⟨"LevelMachine", "fault", "(II)Z"⟩ ∈ nTc := nS (q := (⟨"LevelMachine", "fault", "(II)Z"⟩, 13)) 4 (by decide +kernel)
theorem sl5 : Cond.selects "LevelMachine" ⟨"LevelMachine", "stop", "()Z"⟩ ⟨"LevelMachine", "stop", "()Z"⟩ ∈ nTc := nS (q := (⟨"LevelMachine", "stop", "()Z"⟩, 13)) 5 (by decide +kernel)
theorem sl6 : Cond.selects "LevelMachine" ⟨"LevelMachine", "level", "()I"⟩ ⟨"LevelMachine", "level", "()I"⟩ ∈ nTc := nS (q := (⟨"LevelMachine", "level", "()I"⟩, 13)) 6 (by decide +kernel)
theorem sl7 : Cond.selects "LevelMachine" ⟨"LevelMachine", "give", "(II)Z"⟩ ⟨"LevelMachine", "give", "(II)Z"⟩ ∈ nTc := nS (q := (⟨"LevelMachine", "give", "(II)Z"⟩, 13)) 7 (by decide +kernel)
theorem sl8 : Cond.selects "LevelMachine" ⟨"LevelMachine", "judge", "(I)I"⟩ ⟨"LevelMachine", "judge", "(I)I"⟩ ∈ nTc := nS (q := (⟨"LevelMachine", "judge", "(I)I"⟩, 13)) 8 (by decide +kernel)
theorem sl9 : Cond.selects "LevelMachine" ⟨"LevelMachine", "compare", "(II)Z"⟩ ⟨"LevelMachine", "compare", "(II)Z"⟩ ∈ nTc := nS (q := (⟨"LevelMachine", "compare", "(II)Z"⟩, 13)) 9 (by decide +kernel)
theorem sl10 : Cond.selects "LevelMachine" ⟨"LevelMachine", "read", "(LLevelMachine$Segment;I)I"⟩ ⟨"LevelMachine", "read", "(LLevelMachine$Segment;I)I"⟩ ∈ nTc := nS (q := (⟨"LevelMachine", "read", "(LLevelMachine$Segment;I)I"⟩, 13)) 10 (by decide +kernel)
theorem sl11 : Cond.selects "LevelMachine" ⟨"LevelMachine", "write", "(LLevelMachine$Segment;II)Z"⟩ ⟨"LevelMachine", "write", "(LLevelMachine$Segment;II)Z"⟩ ∈ nTc := nS (q := (⟨"LevelMachine", "write", "(LLevelMachine$Segment;II)Z"⟩, 13)) 11 (by decide +kernel)
theorem sl12 : Cond.selects "LevelMachine" ⟨"LevelMachine", "go", "(IZ)Z"⟩ ⟨"LevelMachine", "go", "(IZ)Z"⟩ ∈ nTc := nS (q := (⟨"LevelMachine", "go", "(IZ)Z"⟩, 13)) 12 (by decide +kernel)
theorem sl13 : Cond.selects "LevelMachine" ⟨"LevelMachine", "isZero", "()Z"⟩ ⟨"LevelMachine", "isZero", "()Z"⟩ ∈ nTc := nS (q := (⟨"LevelMachine", "isZero", "()Z"⟩, 13)) 13 (by decide +kernel)
theorem sl14 : Cond.selects "LevelMachine" ⟨"LevelMachine", "push", "(I)Z"⟩ ⟨"LevelMachine", "push", "(I)Z"⟩ ∈ nTc := nS (q := (⟨"LevelMachine", "push", "(I)Z"⟩, 13)) 14 (by decide +kernel)
theorem sl15 : Cond.selects "LevelMachine" ⟨"LevelMachine", "pop", "()I"⟩ ⟨"LevelMachine", "pop", "()I"⟩ ∈ nTc := nS (q := (⟨"LevelMachine", "pop", "()I"⟩, 13)) 15 (by decide +kernel)
theorem sl16 : Cond.selects "LevelMachine" ⟨"LevelMachine", "loadStack", "(I)Z"⟩ ⟨"LevelMachine", "loadStack", "(I)Z"⟩ ∈ nTc := nS (q := (⟨"LevelMachine", "loadStack", "(I)Z"⟩, 13)) 16 (by decide +kernel)
theorem sl17 : Cond.selects "LevelMachine" ⟨"LevelMachine", "loadData", "(LLevelMachine$Segment;I)Z"⟩ ⟨"LevelMachine", "loadData", "(LLevelMachine$Segment;I)Z"⟩ ∈ nTc := nS (q := (⟨"LevelMachine", "loadData", "(LLevelMachine$Segment;I)Z"⟩, 13)) 17 (by decide +kernel)
theorem sl18 : Cond.selects "LevelMachine" ⟨"LevelMachine", "toCode", "(IIZ)Z"⟩ ⟨"LevelMachine", "toCode", "(IIZ)Z"⟩ ∈ nTc := nS (q := (⟨"LevelMachine", "toCode", "(IIZ)Z"⟩, 13)) 18 (by decide +kernel)
theorem sl19 : Cond.selects "LevelMachine" ⟨"LevelMachine", "enter", "(III)Z"⟩ ⟨"LevelMachine", "enter", "(III)Z"⟩ ∈ nTc := nS (q := (⟨"LevelMachine", "enter", "(III)Z"⟩, 13)) 19 (by decide +kernel)
theorem sl20 : Cond.selects "LevelMachine" ⟨"LevelMachine", "mayEnter", "(III)Z"⟩ ⟨"LevelMachine", "mayEnter", "(III)Z"⟩ ∈ nTc := nS (q := (⟨"LevelMachine", "mayEnter", "(III)Z"⟩, 13)) 20 (by decide +kernel)
theorem sl21 : Cond.selects "LevelMachine" ⟨"LevelMachine", "throughGate", "(IZ)Z"⟩ ⟨"LevelMachine", "throughGate", "(IZ)Z"⟩ ∈ nTc := nS (q := (⟨"LevelMachine", "throughGate", "(IZ)Z"⟩, 13)) 21 (by decide +kernel)
theorem sl22 : Cond.selects "LevelMachine" ⟨"LevelMachine", "switchTo", "(II)Z"⟩ ⟨"LevelMachine", "switchTo", "(II)Z"⟩ ∈ nTc := nS (q := (⟨"LevelMachine", "switchTo", "(II)Z"⟩, 13)) 22 (by decide +kernel)
theorem sl23 : Cond.selects "LevelMachine" ⟨"LevelMachine", "saveTask", "(I)V"⟩ ⟨"LevelMachine", "saveTask", "(I)V"⟩ ∈ nTc := nS (q := (⟨"LevelMachine", "saveTask", "(I)V"⟩, 13)) 23 (by decide +kernel)
theorem sl24 : Cond.selects "LevelMachine" ⟨"LevelMachine", "saveWord", "(II)V"⟩ ⟨"LevelMachine", "saveWord", "(II)V"⟩ ∈ nTc := nS (q := (⟨"LevelMachine", "saveWord", "(II)V"⟩, 13)) 24 (by decide +kernel)
theorem sl25 : Cond.selects "LevelMachine" ⟨"LevelMachine", "resumeTask", "(I)Z"⟩ ⟨"LevelMachine", "resumeTask", "(I)Z"⟩ ∈ nTc := nS (q := (⟨"LevelMachine", "resumeTask", "(I)Z"⟩, 13)) 25 (by decide +kernel)
theorem sl26 : Cond.selects "LevelMachine" ⟨"LevelMachine", "enterDeep", "(IIIZ)Z"⟩ ⟨"LevelMachine", "enterDeep", "(IIIZ)Z"⟩ ∈ nTc := nS (q := (⟨"LevelMachine", "enterDeep", "(IIIZ)Z"⟩, 13)) 26 (by decide +kernel)
theorem sl27 : Cond.selects "LevelMachine" ⟨"LevelMachine", "takeInnerStack", "(I)Z"⟩ ⟨"LevelMachine", "takeInnerStack", "(I)Z"⟩ ∈ nTc := nS (q := (⟨"LevelMachine", "takeInnerStack", "(I)Z"⟩, 13)) 27 (by decide +kernel)
theorem sl28 : Cond.selects "LevelMachine" ⟨"LevelMachine", "carryOver", "(II)Z"⟩ ⟨"LevelMachine", "carryOver", "(II)Z"⟩ ∈ nTc := nS (q := (⟨"LevelMachine", "carryOver", "(II)Z"⟩, 13)) 28 (by decide +kernel)
theorem sl29 : Cond.selects "LevelMachine" ⟨"LevelMachine", "comeBack", "(IZ)Z"⟩ ⟨"LevelMachine", "comeBack", "(IZ)Z"⟩ ∈ nTc := nS (q := (⟨"LevelMachine", "comeBack", "(IZ)Z"⟩, 13)) 29 (by decide +kernel)
theorem sl30 : Cond.selects "LevelMachine" ⟨"LevelMachine", "comeOut", "(III)Z"⟩ ⟨"LevelMachine", "comeOut", "(III)Z"⟩ ∈ nTc := nS (q := (⟨"LevelMachine", "comeOut", "(III)Z"⟩, 13)) 30 (by decide +kernel)
theorem sl31 : Cond.selects "LevelMachine" ⟨"LevelMachine", "hide", "(LLevelMachine$Segment;)V"⟩ ⟨"LevelMachine", "hide", "(LLevelMachine$Segment;)V"⟩ ∈ nTc := nS (q := (⟨"LevelMachine", "hide", "(LLevelMachine$Segment;)V"⟩, 13)) 31 (by decide +kernel)
theorem sl32 : Cond.selects "LevelMachine" ⟨"LevelMachine", "trap", "(IZ)Z"⟩ ⟨"LevelMachine", "trap", "(IZ)Z"⟩ ∈ nTc := nS (q := (⟨"LevelMachine", "trap", "(IZ)Z"⟩, 13)) 32 (by decide +kernel)
theorem sl33 : Cond.selects "LevelMachine" ⟨"LevelMachine", "back", "()Z"⟩ ⟨"LevelMachine", "back", "()Z"⟩ ∈ nTc := nS (q := (⟨"LevelMachine", "back", "()Z"⟩, 13)) 33 (by decide +kernel)
theorem sl34 : Cond.selects "LevelMachine" ⟨"LevelMachine", "beginTask", "(I)Z"⟩ ⟨"LevelMachine", "beginTask", "(I)Z"⟩ ∈ nTc := nS (q := (⟨"LevelMachine", "beginTask", "(I)Z"⟩, 13)) 34 (by decide +kernel)
theorem sl35 : Cond.selects "LevelMachine" ⟨"LevelMachine", "adjust", "(II)Z"⟩ ⟨"LevelMachine", "adjust", "(II)Z"⟩ ∈ nTc := nS (q := (⟨"LevelMachine", "adjust", "(II)Z"⟩, 13)) 35 (by decide +kernel)
theorem sl36 : Cond.selects "LevelMachine" ⟨"LevelMachine", "deliver", "()Z"⟩ ⟨"LevelMachine", "deliver", "()Z"⟩ ∈ nTc := nS (q := (⟨"LevelMachine", "deliver", "()Z"⟩, 13)) 36 (by decide +kernel)
theorem sl37 : Cond.selects "LevelMachine" ⟨"LevelMachine", "takeAllBack", "()V"⟩ ⟨"LevelMachine", "takeAllBack", "()V"⟩ ∈ nTc := nS (q := (⟨"LevelMachine", "takeAllBack", "()V"⟩, 13)) 37 (by decide +kernel)
theorem sl38 : Cond.selects "LevelMachine" ⟨"LevelMachine", "note", "(II)V"⟩ ⟨"LevelMachine", "note", "(II)V"⟩ ∈ nTc := nS (q := (⟨"LevelMachine", "note", "(II)V"⟩, 13)) 38 (by decide +kernel)
theorem sl39 : Cond.selects "LevelMachineModel" ⟨"LevelMachineModel", "goesOn", "()Z"⟩ ⟨"LevelMachineModel", "goesOn", "()Z"⟩ ∈ nTc := nS (q := (⟨"LevelMachineModel", "goesOn", "()Z"⟩, 17)) 39 (by decide +kernel)
theorem sl40 : Cond.selects "LevelMachineModel" ⟨"LevelMachineModel", "remember", "()V"⟩ ⟨"LevelMachineModel", "remember", "()V"⟩ ∈ nTc := nS (q := (⟨"LevelMachineModel", "remember", "()V"⟩, 17)) 40 (by decide +kernel)
theorem sl41 : Cond.selects "LevelMachineModel" ⟨"LevelMachineModel", "execute", "()V"⟩ ⟨"LevelMachineModel", "execute", "()V"⟩ ∈ nTc := nS (q := (⟨"LevelMachineModel", "execute", "()V"⟩, 17)) 41 (by decide +kernel)
theorem sl42 : Cond.selects "LevelMachineModel" ⟨"LevelMachineModel", "fetch", "()I"⟩ ⟨"LevelMachineModel", "fetch", "()I"⟩ ∈ nTc := nS (q := (⟨"LevelMachineModel", "fetch", "()I"⟩, 17)) 42 (by decide +kernel)
theorem sl43 : Cond.selects "LevelMachineModel" ⟨"LevelMachineModel", "wrong", "(II)V"⟩ ⟨"LevelMachineModel", "wrong", "(II)V"⟩ ∈ nTc := nS (q := (⟨"LevelMachineModel", "wrong", "(II)V"⟩, 17)) 43 (by decide +kernel)
theorem sl44 : Cond.selects "LevelMachineModel" ⟨"LevelMachineModel", "word", "(I)I"⟩ ⟨"LevelMachineModel", "word", "(I)I"⟩ ∈ nTc := nS (q := (⟨"LevelMachineModel", "word", "(I)I"⟩, 17)) 44 (by decide +kernel)
theorem sl45 : Cond.selects "LevelMachineModel" ⟨"LevelMachineModel", "simple", "(III)V"⟩ ⟨"LevelMachineModel", "simple", "(III)V"⟩ ∈ nTc := nS (q := (⟨"LevelMachineModel", "simple", "(III)V"⟩, 17)) 45 (by decide +kernel)
theorem sl46 : Cond.selects "LevelMachineModel" ⟨"LevelMachineModel", "level", "()I"⟩ ⟨"LevelMachineModel", "level", "()I"⟩ ∈ nTc := nS (q := (⟨"LevelMachineModel", "level", "()I"⟩, 17)) 46 (by decide +kernel)
theorem sl47 : Cond.selects "LevelMachineModel" ⟨"LevelMachineModel", "reckon", "(IIZ)V"⟩ ⟨"LevelMachineModel", "reckon", "(IIZ)V"⟩ ∈ nTc := nS (q := (⟨"LevelMachineModel", "reckon", "(IIZ)V"⟩, 17)) 47 (by decide +kernel)
theorem sl48 : Cond.selects "LevelMachineModel" ⟨"LevelMachineModel", "move", "(III)V"⟩ ⟨"LevelMachineModel", "move", "(III)V"⟩ ∈ nTc := nS (q := (⟨"LevelMachineModel", "move", "(III)V"⟩, 17)) 48 (by decide +kernel)
theorem sl49 : Cond.selects "LevelMachineModel" ⟨"LevelMachineModel", "read", "(II)I"⟩ ⟨"LevelMachineModel", "read", "(II)I"⟩ ∈ nTc := nS (q := (⟨"LevelMachineModel", "read", "(II)I"⟩, 17)) 49 (by decide +kernel)
theorem sl50 : Cond.selects "LevelMachineModel" ⟨"LevelMachineModel", "reaches", "(IIZ)Z"⟩ ⟨"LevelMachineModel", "reaches", "(IIZ)Z"⟩ ∈ nTc := nS (q := (⟨"LevelMachineModel", "reaches", "(IIZ)Z"⟩, 17)) 50 (by decide +kernel)
theorem sl51 : Cond.selects "LevelMachineModel" ⟨"LevelMachineModel", "write", "(III)V"⟩ ⟨"LevelMachineModel", "write", "(III)V"⟩ ∈ nTc := nS (q := (⟨"LevelMachineModel", "write", "(III)V"⟩, 17)) 51 (by decide +kernel)
theorem sl52 : Cond.selects "LevelMachineModel" ⟨"LevelMachineModel", "store", "(II)V"⟩ ⟨"LevelMachineModel", "store", "(II)V"⟩ ∈ nTc := nS (q := (⟨"LevelMachineModel", "store", "(II)V"⟩, 17)) 52 (by decide +kernel)
theorem sl53 : Cond.selects "LevelMachineModel" ⟨"LevelMachineModel", "push", "(I)V"⟩ ⟨"LevelMachineModel", "push", "(I)V"⟩ ∈ nTc := nS (q := (⟨"LevelMachineModel", "push", "(I)V"⟩, 17)) 53 (by decide +kernel)
theorem sl54 : Cond.selects "LevelMachineModel" ⟨"LevelMachineModel", "pop", "()I"⟩ ⟨"LevelMachineModel", "pop", "()I"⟩ ∈ nTc := nS (q := (⟨"LevelMachineModel", "pop", "()I"⟩, 17)) 54 (by decide +kernel)
theorem sl55 : Cond.selects "LevelMachineModel" ⟨"LevelMachineModel", "loadStack", "(I)V"⟩ ⟨"LevelMachineModel", "loadStack", "(I)V"⟩ ∈ nTc := nS (q := (⟨"LevelMachineModel", "loadStack", "(I)V"⟩, 17)) 55 (by decide +kernel)
theorem sl56 : Cond.selects "LevelMachineModel" ⟨"LevelMachineModel", "need", "(ZII)V"⟩ ⟨"LevelMachineModel", "need", "(ZII)V"⟩ ∈ nTc := nS (q := (⟨"LevelMachineModel", "need", "(ZII)V"⟩, 17)) 56 (by decide +kernel)
theorem sl57 : Cond.selects "LevelMachineModel" ⟨"LevelMachineModel", "kindOf", "(I)I"⟩ ⟨"LevelMachineModel", "kindOf", "(I)I"⟩ ∈ nTc := nS (q := (⟨"LevelMachineModel", "kindOf", "(I)I"⟩, 17)) 57 (by decide +kernel)
theorem sl58 : Cond.selects "LevelMachineModel" ⟨"LevelMachineModel", "part", "(II)I"⟩ ⟨"LevelMachineModel", "part", "(II)I"⟩ ∈ nTc := nS (q := (⟨"LevelMachineModel", "part", "(II)I"⟩, 17)) 58 (by decide +kernel)
theorem sl59 : Cond.selects "LevelMachineModel" ⟨"LevelMachineModel", "rankOf", "(I)I"⟩ ⟨"LevelMachineModel", "rankOf", "(I)I"⟩ ∈ nTc := nS (q := (⟨"LevelMachineModel", "rankOf", "(I)I"⟩, 17)) 59 (by decide +kernel)
theorem sl60 : Cond.selects "LevelMachineModel" ⟨"LevelMachineModel", "isThere", "(I)Z"⟩ ⟨"LevelMachineModel", "isThere", "(I)Z"⟩ ∈ nTc := nS (q := (⟨"LevelMachineModel", "isThere", "(I)Z"⟩, 17)) 60 (by decide +kernel)
theorem sl61 : Cond.selects "LevelMachineModel" ⟨"LevelMachineModel", "load", "(II)V"⟩ ⟨"LevelMachineModel", "load", "(II)V"⟩ ∈ nTc := nS (q := (⟨"LevelMachineModel", "load", "(II)V"⟩, 17)) 61 (by decide +kernel)
theorem sl62 : Cond.selects "LevelMachineModel" ⟨"LevelMachineModel", "loadData", "(II)V"⟩ ⟨"LevelMachineModel", "loadData", "(II)V"⟩ ∈ nTc := nS (q := (⟨"LevelMachineModel", "loadData", "(II)V"⟩, 17)) 62 (by decide +kernel)
theorem sl63 : Cond.selects "LevelMachineModel" ⟨"LevelMachineModel", "unload", "(I)V"⟩ ⟨"LevelMachineModel", "unload", "(I)V"⟩ ∈ nTc := nS (q := (⟨"LevelMachineModel", "unload", "(I)V"⟩, 17)) 63 (by decide +kernel)
theorem sl64 : Cond.selects "LevelMachineModel" ⟨"LevelMachineModel", "protect", "(III)V"⟩ ⟨"LevelMachineModel", "protect", "(III)V"⟩ ∈ nTc := nS (q := (⟨"LevelMachineModel", "protect", "(III)V"⟩, 17)) 64 (by decide +kernel)
theorem sl65 : Cond.selects "LevelMachineModel" ⟨"LevelMachineModel", "transfer", "(IIZ)V"⟩ ⟨"LevelMachineModel", "transfer", "(IIZ)V"⟩ ∈ nTc := nS (q := (⟨"LevelMachineModel", "transfer", "(IIZ)V"⟩, 17)) 65 (by decide +kernel)
theorem sl66 : Cond.selects "LevelMachineModel" ⟨"LevelMachineModel", "pushPlace", "(Z)V"⟩ ⟨"LevelMachineModel", "pushPlace", "(Z)V"⟩ ∈ nTc := nS (q := (⟨"LevelMachineModel", "pushPlace", "(Z)V"⟩, 17)) 66 (by decide +kernel)
theorem sl67 : Cond.selects "LevelMachineModel" ⟨"LevelMachineModel", "enter", "(III)V"⟩ ⟨"LevelMachineModel", "enter", "(III)V"⟩ ∈ nTc := nS (q := (⟨"LevelMachineModel", "enter", "(III)V"⟩, 17)) 67 (by decide +kernel)
theorem sl68 : Cond.selects "LevelMachineModel" ⟨"LevelMachineModel", "canEnter", "(III)Z"⟩ ⟨"LevelMachineModel", "canEnter", "(III)Z"⟩ ∈ nTc := nS (q := (⟨"LevelMachineModel", "canEnter", "(III)Z"⟩, 17)) 68 (by decide +kernel)
theorem sl69 : Cond.selects "LevelMachineModel" ⟨"LevelMachineModel", "isCode", "(I)Z"⟩ ⟨"LevelMachineModel", "isCode", "(I)Z"⟩ ∈ nTc := nS (q := (⟨"LevelMachineModel", "isCode", "(I)Z"⟩, 17)) 69 (by decide +kernel)
theorem sl70 : Cond.selects "LevelMachineModel" ⟨"LevelMachineModel", "switchTo", "(II)V"⟩ ⟨"LevelMachineModel", "switchTo", "(II)V"⟩ ∈ nTc := nS (q := (⟨"LevelMachineModel", "switchTo", "(II)V"⟩, 17)) 70 (by decide +kernel)
theorem sl71 : Cond.selects "LevelMachineModel" ⟨"LevelMachineModel", "setKind", "(II)V"⟩ ⟨"LevelMachineModel", "setKind", "(II)V"⟩ ∈ nTc := nS (q := (⟨"LevelMachineModel", "setKind", "(II)V"⟩, 17)) 71 (by decide +kernel)
theorem sl72 : Cond.selects "LevelMachineModel" ⟨"LevelMachineModel", "begin", "(II)V"⟩ ⟨"LevelMachineModel", "begin", "(II)V"⟩ ∈ nTc := nS (q := (⟨"LevelMachineModel", "begin", "(II)V"⟩, 17)) 72 (by decide +kernel)
theorem sl73 : Cond.selects "LevelMachineModel" ⟨"LevelMachineModel", "deepEntry", "(IIIZ)V"⟩ ⟨"LevelMachineModel", "deepEntry", "(IIIZ)V"⟩ ∈ nTc := nS (q := (⟨"LevelMachineModel", "deepEntry", "(IIIZ)V"⟩, 17)) 73 (by decide +kernel)
theorem sl74 : Cond.selects "LevelMachineModel" ⟨"LevelMachineModel", "changeStack", "(I)V"⟩ ⟨"LevelMachineModel", "changeStack", "(I)V"⟩ ∈ nTc := nS (q := (⟨"LevelMachineModel", "changeStack", "(I)V"⟩, 17)) 74 (by decide +kernel)
theorem sl75 : Cond.selects "LevelMachineModel" ⟨"LevelMachineModel", "ofOldStack", "(I)I"⟩ ⟨"LevelMachineModel", "ofOldStack", "(I)I"⟩ ∈ nTc := nS (q := (⟨"LevelMachineModel", "ofOldStack", "(I)I"⟩, 17)) 75 (by decide +kernel)
theorem sl76 : Cond.selects "LevelMachineModel" ⟨"LevelMachineModel", "comeBack", "(III)V"⟩ ⟨"LevelMachineModel", "comeBack", "(III)V"⟩ ∈ nTc := nS (q := (⟨"LevelMachineModel", "comeBack", "(III)V"⟩, 17)) 76 (by decide +kernel)
theorem sl77 : Cond.selects "LevelMachineModel" ⟨"LevelMachineModel", "trap", "(IZ)V"⟩ ⟨"LevelMachineModel", "trap", "(IZ)V"⟩ ∈ nTc := nS (q := (⟨"LevelMachineModel", "trap", "(IZ)V"⟩, 17)) 77 (by decide +kernel)
theorem sl78 : Cond.selects "LevelMachineModel" ⟨"LevelMachineModel", "back", "()V"⟩ ⟨"LevelMachineModel", "back", "()V"⟩ ∈ nTc := nS (q := (⟨"LevelMachineModel", "back", "()V"⟩, 17)) 78 (by decide +kernel)
theorem sl79 : Cond.selects "LevelMachineModel" ⟨"LevelMachineModel", "take", "(I)V"⟩ ⟨"LevelMachineModel", "take", "(I)V"⟩ ∈ nTc := nS (q := (⟨"LevelMachineModel", "take", "(I)V"⟩, 17)) 79 (by decide +kernel)
theorem sl80 : Cond.selects "LevelMachineModel" ⟨"LevelMachineModel", "note", "(II)V"⟩ ⟨"LevelMachineModel", "note", "(II)V"⟩ ∈ nTc := nS (q := (⟨"LevelMachineModel", "note", "(II)V"⟩, 17)) 80 (by decide +kernel)
theorem sl81 : Cond.selects "LevelMachineModel" ⟨"LevelMachineModel", "putBack", "()V"⟩ ⟨"LevelMachineModel", "putBack", "()V"⟩ ∈ nTc := nS (q := (⟨"LevelMachineModel", "putBack", "()V"⟩, 17)) 81 (by decide +kernel)
theorem sl82 : Cond.selects "LevelMachineModel" ⟨"LevelMachineModel", "delivers", "(II)Z"⟩ ⟨"LevelMachineModel", "delivers", "(II)Z"⟩ ∈ nTc := nS (q := (⟨"LevelMachineModel", "delivers", "(II)Z"⟩, 17)) 82 (by decide +kernel)
