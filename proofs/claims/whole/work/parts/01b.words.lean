theorem q1_0 : (Cond.initialized "DikeWatchLaw") ∈ W0 := wm1 0 rfl rfl
theorem q1_1 : (Cond.initialized "DikeWatch") ∈ W0 := wm1 1 rfl rfl
theorem q1_2 : (Cond.initialized "DikeWatch$Text") ∈ W0 := wm1 2 rfl rfl
theorem q1_3 : (Cond.initialized "DikeWatch$Told") ∈ W0 := wm1 3 rfl rfl
theorem q1_4 : (Cond.initialized "DikeWatch$Night") ∈ W0 := wm1 4 rfl rfl
theorem q1_5 : (Cond.initialized "DikeWatch$Foretold") ∈ W0 := wm1 5 rfl rfl
theorem q1_6 : (Cond.initialized "DikeWatch$Reader") ∈ W0 := wm1 6 rfl rfl
theorem q1_7 : (Cond.initialized "DikeWatch$Men") ∈ W0 := wm1 7 rfl rfl
theorem q1_8 : (Cond.initialized "DikeWatch$Storms") ∈ W0 := wm1 8 rfl rfl
theorem q1_9 : (Cond.initialized "DikeWatch$Clues") ∈ W0 := wm1 9 rfl rfl
theorem q1_10 : (Cond.initialized "DikeWatchModel") ∈ W0 := wm1 10 rfl rfl
theorem q1_11 : (Cond.initialized "java/lang/System") ∈ W0 := wm1 11 rfl rfl
theorem q1_12 : (Cond.initialized "java/lang/String") ∈ W0 := wm1 12 rfl rfl
theorem q1_13 : (Cond.initialized "java/lang/StringLatin1") ∈ W0 := wm1 13 rfl rfl
theorem q1_14 : (Cond.initialized "jdk/internal/util/Preconditions") ∈ W0 := wm1 14 rfl rfl
theorem q1_15 : (Cond.initialized "java/lang/StringUTF16") ∈ W0 := wm1 15 rfl rfl
theorem q1_16 : (Cond.initialized "java/util/Arrays") ∈ W0 := wm1 16 rfl rfl
theorem q1_17 : (Cond.initialized "java/lang/Math") ∈ W0 := wm1 17 rfl rfl
theorem q1_18 : (Cond.initialized "java/lang/Integer") ∈ W0 := wm1 18 rfl rfl
theorem q1_19 : (Cond.classLink "DikeWatchLaw" (7 : Nat) "DikeWatch") ∈ W0 := wm1 19 rfl rfl
theorem q1_20 : (Cond.instantiable "DikeWatch" (12 : Nat)) ∈ W0 := wm1 20 rfl rfl
theorem q1_21 : (Cond.methodLink "DikeWatchLaw" (9 : Nat) ({ cls := "DikeWatch", name := "<init>", desc := "()V" } : MethodName)) ∈ W0 := wm1 21 rfl rfl
theorem q1_22 : (Cond.instanceMethod ({ cls := "DikeWatch", name := "<init>", desc := "()V" } : MethodName)) ∈ W0 := wm1 22 rfl rfl
theorem q1_23 : (Cond.code ({ cls := "DikeWatch", name := "<init>", desc := "()V" } : MethodName) prog_1_method_1_code (6 : Nat) (Option.none : Option ClassFile.FieldType)) ∈ W0 := wm1 23 rfl rfl
theorem q1_24 : (Cond.methodLink "DikeWatch" (1 : Nat) ({ cls := "java/lang/Object", name := "<init>", desc := "()V" } : MethodName)) ∈ W0 := wm1 24 rfl rfl
theorem q1_25 : (Cond.instanceMethod ({ cls := "java/lang/Object", name := "<init>", desc := "()V" } : MethodName)) ∈ W0 := wm1 25 rfl rfl
theorem q1_26 : (Cond.code ({ cls := "java/lang/Object", name := "<init>", desc := "()V" } : MethodName) object_method_1_code (1 : Nat) (Option.none : Option ClassFile.FieldType)) ∈ W0 := wm1 26 rfl rfl
theorem q1_27 : (Cond.classLink "DikeWatch" (7 : Nat) "DikeWatch$Text") ∈ W0 := wm1 27 rfl rfl
theorem q1_28 : (Cond.instantiable "DikeWatch$Text" (2 : Nat)) ∈ W0 := wm1 28 rfl rfl
theorem q1_30 : (Cond.instanceMethod ({ cls := "DikeWatch$Text", name := "<init>", desc := "()V" } : MethodName)) ∈ W0 := wm1 30 rfl rfl
theorem q1_31 : (Cond.code ({ cls := "DikeWatch$Text", name := "<init>", desc := "()V" } : MethodName) prog_8_method_1_code (1 : Nat) (Option.none : Option ClassFile.FieldType)) ∈ W0 := wm1 31 rfl rfl
theorem q1_32 : (Cond.methodLink "DikeWatch$Text" (3 : Nat) ({ cls := "java/lang/Object", name := "<init>", desc := "()V" } : MethodName)) ∈ W0 := wm1 32 rfl rfl
theorem q1_33 : (Cond.fieldLink "DikeWatch$Text" (9 : Nat) "DikeWatch$Text" "signs" "[B") ∈ W0 := wm1 33 rfl rfl
theorem q1_34 : (Cond.fieldLink "DikeWatch$Text" (15 : Nat) "DikeWatch$Text" "length" "I") ∈ W0 := wm1 34 rfl rfl
theorem q1_35 : (Cond.fieldLink "DikeWatch" (98 : Nat) "DikeWatch$Text" "length" "I") ∈ W0 := wm1 35 rfl rfl
theorem q1_36 : (Cond.fieldLink "DikeWatch$Reader" (133 : Nat) "DikeWatch$Text" "length" "I") ∈ W0 := wm1 36 rfl rfl
theorem q1_42 : (Cond.arrayClass ClassFile.FieldType.byte) ∈ W0 := wm1 42 rfl rfl
theorem q1_43 : (Cond.classLink "DikeWatch" (10 : Nat) "DikeWatch$Told") ∈ W0 := wm1 43 rfl rfl
theorem q1_44 : (Cond.instantiable "DikeWatch$Told" (12 : Nat)) ∈ W0 := wm1 44 rfl rfl
theorem q1_46 : (Cond.instanceMethod ({ cls := "DikeWatch$Told", name := "<init>", desc := "()V" } : MethodName)) ∈ W0 := wm1 46 rfl rfl
theorem q1_47 : (Cond.code ({ cls := "DikeWatch$Told", name := "<init>", desc := "()V" } : MethodName) prog_9_method_1_code (1 : Nat) (Option.none : Option ClassFile.FieldType)) ∈ W0 := wm1 47 rfl rfl
theorem q1_48 : (Cond.methodLink "DikeWatch$Told" (3 : Nat) ({ cls := "java/lang/Object", name := "<init>", desc := "()V" } : MethodName)) ∈ W0 := wm1 48 rfl rfl
theorem q1_49 : (Cond.fieldLink "DikeWatch$Told" (9 : Nat) "DikeWatch$Told" "yards" "I") ∈ W0 := wm1 49 rfl rfl
theorem q1_50 : (Cond.fieldLink "DikeWatch" (111 : Nat) "DikeWatch$Told" "yards" "I") ∈ W0 := wm1 50 rfl rfl
theorem q1_51 : (Cond.fieldLink "DikeWatch$Foretold" (73 : Nat) "DikeWatch$Told" "yards" "I") ∈ W0 := wm1 51 rfl rfl
theorem q1_52 : (Cond.fieldLink "DikeWatch$Night" (82 : Nat) "DikeWatch$Told" "yards" "I") ∈ W0 := wm1 52 rfl rfl
theorem q1_53 : (Cond.fieldLink "DikeWatch$Reader" (107 : Nat) "DikeWatch$Told" "yards" "I") ∈ W0 := wm1 53 rfl rfl
theorem q1_54 : (Cond.fieldLink "DikeWatch$Told" (15 : Nat) "DikeWatch$Told" "tides" "[I") ∈ W0 := wm1 54 rfl rfl
theorem q1_55 : (Cond.fieldLink "DikeWatch$Reader" (100 : Nat) "DikeWatch$Told" "tides" "[I") ∈ W0 := wm1 55 rfl rfl
theorem q1_56 : (Cond.fieldLink "DikeWatch$Told" (19 : Nat) "DikeWatch$Told" "seeps" "I") ∈ W0 := wm1 56 rfl rfl
theorem q1_57 : (Cond.fieldLink "DikeWatch$Reader" (66 : Nat) "DikeWatch$Told" "seeps" "I") ∈ W0 := wm1 57 rfl rfl
theorem q1_58 : (Cond.fieldLink "DikeWatch$Foretold" (52 : Nat) "DikeWatch$Told" "seeps" "I") ∈ W0 := wm1 58 rfl rfl
theorem q1_59 : (Cond.fieldLink "DikeWatch$Men" (54 : Nat) "DikeWatch$Told" "seeps" "I") ∈ W0 := wm1 59 rfl rfl
theorem q1_60 : (Cond.fieldLink "DikeWatch$Night" (65 : Nat) "DikeWatch$Told" "seeps" "I") ∈ W0 := wm1 60 rfl rfl
theorem q1_61 : (Cond.fieldLink "DikeWatch" (273 : Nat) "DikeWatch$Told" "seeps" "I") ∈ W0 := wm1 61 rfl rfl
theorem q1_62 : (Cond.fieldLink "DikeWatch$Told" (22 : Nat) "DikeWatch$Told" "seepYard" "[I") ∈ W0 := wm1 62 rfl rfl
theorem q1_63 : (Cond.fieldLink "DikeWatch$Men" (68 : Nat) "DikeWatch$Told" "seepYard" "[I") ∈ W0 := wm1 63 rfl rfl
theorem q1_64 : (Cond.fieldLink "DikeWatch" (127 : Nat) "DikeWatch$Told" "seepYard" "[I") ∈ W0 := wm1 64 rfl rfl
theorem q1_65 : (Cond.fieldLink "DikeWatch$Night" (89 : Nat) "DikeWatch$Told" "seepYard" "[I") ∈ W0 := wm1 65 rfl rfl
theorem q1_66 : (Cond.fieldLink "DikeWatch$Told" (25 : Nat) "DikeWatch$Told" "seepSize" "[I") ∈ W0 := wm1 66 rfl rfl
theorem q1_67 : (Cond.fieldLink "DikeWatch$Night" (35 : Nat) "DikeWatch$Told" "seepSize" "[I") ∈ W0 := wm1 67 rfl rfl
theorem q1_68 : (Cond.fieldLink "DikeWatch$Told" (28 : Nat) "DikeWatch$Told" "growth" "[I") ∈ W0 := wm1 68 rfl rfl
theorem q1_69 : (Cond.fieldLink "DikeWatch" (134 : Nat) "DikeWatch$Told" "growth" "[I") ∈ W0 := wm1 69 rfl rfl
theorem q1_70 : (Cond.fieldLink "DikeWatch$Told" (31 : Nat) "DikeWatch$Told" "level" "[I") ∈ W0 := wm1 70 rfl rfl
theorem q1_71 : (Cond.fieldLink "DikeWatch" (137 : Nat) "DikeWatch$Told" "level" "[I") ∈ W0 := wm1 71 rfl rfl
theorem q1_72 : (Cond.fieldLink "DikeWatch$Told" (34 : Nat) "DikeWatch$Told" "children" "I") ∈ W0 := wm1 72 rfl rfl
theorem q1_73 : (Cond.fieldLink "DikeWatch$Reader" (73 : Nat) "DikeWatch$Told" "children" "I") ∈ W0 := wm1 73 rfl rfl
theorem q1_74 : (Cond.fieldLink "DikeWatch$Night" (58 : Nat) "DikeWatch$Told" "children" "I") ∈ W0 := wm1 74 rfl rfl
theorem q1_75 : (Cond.fieldLink "DikeWatch$Foretold" (95 : Nat) "DikeWatch$Told" "children" "I") ∈ W0 := wm1 75 rfl rfl
theorem q1_76 : (Cond.fieldLink "DikeWatch" (276 : Nat) "DikeWatch$Told" "children" "I") ∈ W0 := wm1 76 rfl rfl
theorem q1_77 : (Cond.fieldLink "DikeWatch$Told" (37 : Nat) "DikeWatch$Told" "kind" "[I") ∈ W0 := wm1 77 rfl rfl
theorem q1_78 : (Cond.fieldLink "DikeWatch" (146 : Nat) "DikeWatch$Told" "kind" "[I") ∈ W0 := wm1 78 rfl rfl
theorem q1_79 : (Cond.fieldLink "DikeWatch$Night" (95 : Nat) "DikeWatch$Told" "kind" "[I") ∈ W0 := wm1 79 rfl rfl
theorem q1_80 : (Cond.fieldLink "DikeWatch$Told" (40 : Nat) "DikeWatch$Told" "childYard" "[I") ∈ W0 := wm1 80 rfl rfl
theorem q1_81 : (Cond.fieldLink "DikeWatch$Night" (46 : Nat) "DikeWatch$Told" "childYard" "[I") ∈ W0 := wm1 81 rfl rfl
theorem q1_82 : (Cond.fieldLink "DikeWatch$Told" (43 : Nat) "DikeWatch$Told" "pace" "[I") ∈ W0 := wm1 82 rfl rfl
theorem q1_83 : (Cond.fieldLink "DikeWatch$Night" (76 : Nat) "DikeWatch$Told" "pace" "[I") ∈ W0 := wm1 83 rfl rfl
theorem q1_84 : (Cond.fieldLink "DikeWatch" (152 : Nat) "DikeWatch$Told" "pace" "[I") ∈ W0 := wm1 84 rfl rfl
theorem q1_85 : (Cond.fieldLink "DikeWatch$Told" (46 : Nat) "DikeWatch$Told" "ear" "[I") ∈ W0 := wm1 85 rfl rfl
theorem q1_86 : (Cond.fieldLink "DikeWatch$Night" (92 : Nat) "DikeWatch$Told" "ear" "[I") ∈ W0 := wm1 86 rfl rfl
theorem q1_112 : (Cond.arrayClass ClassFile.FieldType.int) ∈ W0 := wm1 112 rfl rfl
theorem q1_113 : (Cond.classLink "DikeWatch" (13 : Nat) "DikeWatch$Night") ∈ W0 := wm1 113 rfl rfl
theorem q1_114 : (Cond.instantiable "DikeWatch$Night" (7 : Nat)) ∈ W0 := wm1 114 rfl rfl
theorem q1_115 : (Cond.methodLink "DikeWatch" (15 : Nat) ({ cls := "DikeWatch$Night", name := "<init>", desc := "(LDikeWatch$Told;)V" } : MethodName)) ∈ W0 := wm1 115 rfl rfl
theorem q1_116 : (Cond.instanceMethod ({ cls := "DikeWatch$Night", name := "<init>", desc := "(LDikeWatch$Told;)V" } : MethodName)) ∈ W0 := wm1 116 rfl rfl
theorem q1_117 : (Cond.code ({ cls := "DikeWatch$Night", name := "<init>", desc := "(LDikeWatch$Told;)V" } : MethodName) prog_5_method_1_code (2 : Nat) (Option.none : Option ClassFile.FieldType)) ∈ W0 := wm1 117 rfl rfl
theorem q1_118 : (Cond.methodLink "DikeWatch$Night" (3 : Nat) ({ cls := "java/lang/Object", name := "<init>", desc := "()V" } : MethodName)) ∈ W0 := wm1 118 rfl rfl
theorem q1_119 : (Cond.fieldLink "DikeWatch$Night" (31 : Nat) "DikeWatch$Night" "told" "LDikeWatch$Told;") ∈ W0 := wm1 119 rfl rfl
theorem q1_120 : (Cond.fieldLink "DikeWatch$Night" (9 : Nat) "DikeWatch$Night" "hours" "I") ∈ W0 := wm1 120 rfl rfl
theorem q1_121 : (Cond.fieldLink "DikeWatch$Foretold" (42 : Nat) "DikeWatch$Night" "hours" "I") ∈ W0 := wm1 121 rfl rfl
theorem q1_122 : (Cond.fieldLink "DikeWatch" (174 : Nat) "DikeWatch$Night" "hours" "I") ∈ W0 := wm1 122 rfl rfl
theorem q1_123 : (Cond.fieldLink "DikeWatch$Night" (15 : Nat) "DikeWatch$Night" "filled" "I") ∈ W0 := wm1 123 rfl rfl
theorem q1_124 : (Cond.fieldLink "DikeWatch" (219 : Nat) "DikeWatch$Night" "filled" "I") ∈ W0 := wm1 124 rfl rfl
theorem q1_125 : (Cond.fieldLink "DikeWatch$Night" (18 : Nat) "DikeWatch$Night" "size" "[I") ∈ W0 := wm1 125 rfl rfl
theorem q1_126 : (Cond.fieldLink "DikeWatch$Foretold" (39 : Nat) "DikeWatch$Night" "size" "[I") ∈ W0 := wm1 126 rfl rfl
theorem q1_127 : (Cond.fieldLink "DikeWatch" (131 : Nat) "DikeWatch$Night" "size" "[I") ∈ W0 := wm1 127 rfl rfl
theorem q1_128 : (Cond.fieldLink "DikeWatch$Night" (22 : Nat) "DikeWatch$Night" "yard" "[I") ∈ W0 := wm1 128 rfl rfl
theorem q1_129 : (Cond.fieldLink "DikeWatch" (149 : Nat) "DikeWatch$Night" "yard" "[I") ∈ W0 := wm1 129 rfl rfl
theorem q1_130 : (Cond.fieldLink "DikeWatch$Night" (25 : Nat) "DikeWatch$Night" "toLesser" "I") ∈ W0 := wm1 130 rfl rfl
theorem q1_131 : (Cond.fieldLink "DikeWatch$Night" (28 : Nat) "DikeWatch$Night" "oranges" "[I") ∈ W0 := wm1 131 rfl rfl
theorem q1_132 : (Cond.fieldLink "DikeWatch" (161 : Nat) "DikeWatch$Night" "oranges" "[I") ∈ W0 := wm1 132 rfl rfl
theorem q1_148 : (Cond.classLink "DikeWatch" (18 : Nat) "DikeWatch$Foretold") ∈ W0 := wm1 148 rfl rfl
theorem q1_149 : (Cond.instantiable "DikeWatch$Foretold" (5 : Nat)) ∈ W0 := wm1 149 rfl rfl
theorem q1_150 : (Cond.methodLink "DikeWatch" (20 : Nat) ({ cls := "DikeWatch$Foretold", name := "<init>", desc := "(LDikeWatch$Told;LDikeWatch$Night;LDikeWatch$Night;)V" } : MethodName)) ∈ W0 := wm1 150 rfl rfl
theorem q1_151 : (Cond.instanceMethod ({ cls := "DikeWatch$Foretold", name := "<init>", desc := "(LDikeWatch$Told;LDikeWatch$Night;LDikeWatch$Night;)V" } : MethodName)) ∈ W0 := wm1 151 rfl rfl
theorem q1_152 : (Cond.code ({ cls := "DikeWatch$Foretold", name := "<init>", desc := "(LDikeWatch$Told;LDikeWatch$Night;LDikeWatch$Night;)V" } : MethodName) prog_3_method_1_code (4 : Nat) (Option.none : Option ClassFile.FieldType)) ∈ W0 := wm1 152 rfl rfl
theorem q1_153 : (Cond.methodLink "DikeWatch$Foretold" (3 : Nat) ({ cls := "java/lang/Object", name := "<init>", desc := "()V" } : MethodName)) ∈ W0 := wm1 153 rfl rfl
theorem q1_154 : (Cond.fieldLink "DikeWatch$Foretold" (18 : Nat) "DikeWatch$Foretold" "told" "LDikeWatch$Told;") ∈ W0 := wm1 154 rfl rfl
theorem q1_155 : (Cond.fieldLink "DikeWatch$Foretold" (22 : Nat) "DikeWatch$Foretold" "now" "LDikeWatch$Night;") ∈ W0 := wm1 155 rfl rfl
theorem q1_156 : (Cond.fieldLink "DikeWatch$Foretold" (26 : Nat) "DikeWatch$Foretold" "ahead" "LDikeWatch$Night;") ∈ W0 := wm1 156 rfl rfl
theorem q1_157 : (Cond.fieldLink "DikeWatch$Foretold" (9 : Nat) "DikeWatch$Foretold" "breakHour" "[I") ∈ W0 := wm1 157 rfl rfl
theorem q1_158 : (Cond.fieldLink "DikeWatch$Foretold" (15 : Nat) "DikeWatch$Foretold" "heardInTime" "[I") ∈ W0 := wm1 158 rfl rfl
theorem q1_170 : (Cond.classLink "DikeWatch" (36 : Nat) "DikeWatch$Reader") ∈ W0 := wm1 170 rfl rfl
theorem q1_171 : (Cond.instantiable "DikeWatch$Reader" (6 : Nat)) ∈ W0 := wm1 171 rfl rfl
theorem q1_172 : (Cond.methodLink "DikeWatch" (38 : Nat) ({ cls := "DikeWatch$Reader", name := "<init>", desc := "(LDikeWatch$Text;LDikeWatch$Told;)V" } : MethodName)) ∈ W0 := wm1 172 rfl rfl
theorem q1_173 : (Cond.instanceMethod ({ cls := "DikeWatch$Reader", name := "<init>", desc := "(LDikeWatch$Text;LDikeWatch$Told;)V" } : MethodName)) ∈ W0 := wm1 173 rfl rfl
theorem q1_174 : (Cond.code ({ cls := "DikeWatch$Reader", name := "<init>", desc := "(LDikeWatch$Text;LDikeWatch$Told;)V" } : MethodName) prog_6_method_1_code (3 : Nat) (Option.none : Option ClassFile.FieldType)) ∈ W0 := wm1 174 rfl rfl
theorem q1_175 : (Cond.methodLink "DikeWatch$Reader" (3 : Nat) ({ cls := "java/lang/Object", name := "<init>", desc := "()V" } : MethodName)) ∈ W0 := wm1 175 rfl rfl
theorem q1_176 : (Cond.fieldLink "DikeWatch$Reader" (24 : Nat) "DikeWatch$Reader" "text" "LDikeWatch$Text;") ∈ W0 := wm1 176 rfl rfl
theorem q1_177 : (Cond.fieldLink "DikeWatch$Reader" (28 : Nat) "DikeWatch$Reader" "draft" "LDikeWatch$Told;") ∈ W0 := wm1 177 rfl rfl
theorem q1_178 : (Cond.fieldLink "DikeWatch$Reader" (11 : Nat) "DikeWatch$Reader" "sort" "I") ∈ W0 := wm1 178 rfl rfl
theorem q1_179 : (Cond.fieldLink "DikeWatch$Reader" (15 : Nat) "DikeWatch$Reader" "begin" "I") ∈ W0 := wm1 179 rfl rfl
theorem q1_180 : (Cond.fieldLink "DikeWatch$Reader" (18 : Nat) "DikeWatch$Reader" "end" "I") ∈ W0 := wm1 180 rfl rfl
theorem q1_181 : (Cond.fieldLink "DikeWatch$Reader" (21 : Nat) "DikeWatch$Reader" "lines" "I") ∈ W0 := wm1 181 rfl rfl
theorem q1_182 : (Cond.fieldLink "DikeWatch" (117 : Nat) "DikeWatch$Reader" "lines" "I") ∈ W0 := wm1 182 rfl rfl
theorem q1_196 : (Cond.classLink "DikeWatch" (63 : Nat) "DikeWatch$Men") ∈ W0 := wm1 196 rfl rfl
theorem q1_197 : (Cond.instantiable "DikeWatch$Men" (7 : Nat)) ∈ W0 := wm1 197 rfl rfl
theorem q1_198 : (Cond.methodLink "DikeWatch" (65 : Nat) ({ cls := "DikeWatch$Men", name := "<init>", desc := "(LDikeWatch$Told;LDikeWatch$Foretold;)V" } : MethodName)) ∈ W0 := wm1 198 rfl rfl
theorem q1_199 : (Cond.instanceMethod ({ cls := "DikeWatch$Men", name := "<init>", desc := "(LDikeWatch$Told;LDikeWatch$Foretold;)V" } : MethodName)) ∈ W0 := wm1 199 rfl rfl
theorem q1_200 : (Cond.code ({ cls := "DikeWatch$Men", name := "<init>", desc := "(LDikeWatch$Told;LDikeWatch$Foretold;)V" } : MethodName) prog_4_method_1_code (3 : Nat) (Option.none : Option ClassFile.FieldType)) ∈ W0 := wm1 200 rfl rfl
theorem q1_201 : (Cond.methodLink "DikeWatch$Men" (3 : Nat) ({ cls := "java/lang/Object", name := "<init>", desc := "()V" } : MethodName)) ∈ W0 := wm1 201 rfl rfl
theorem q1_202 : (Cond.fieldLink "DikeWatch$Men" (28 : Nat) "DikeWatch$Men" "told" "LDikeWatch$Told;") ∈ W0 := wm1 202 rfl rfl
theorem q1_203 : (Cond.fieldLink "DikeWatch$Men" (32 : Nat) "DikeWatch$Men" "foretold" "LDikeWatch$Foretold;") ∈ W0 := wm1 203 rfl rfl
theorem q1_204 : (Cond.fieldLink "DikeWatch$Men" (9 : Nat) "DikeWatch$Men" "breakHour" "[I") ∈ W0 := wm1 204 rfl rfl
theorem q1_205 : (Cond.fieldLink "DikeWatch$Men" (15 : Nat) "DikeWatch$Men" "row" "[I") ∈ W0 := wm1 205 rfl rfl
theorem q1_206 : (Cond.fieldLink "DikeWatch$Men" (18 : Nat) "DikeWatch$Men" "bestRow" "[I") ∈ W0 := wm1 206 rfl rfl
theorem q1_207 : (Cond.fieldLink "DikeWatch$Men" (21 : Nat) "DikeWatch$Men" "length" "I") ∈ W0 := wm1 207 rfl rfl
theorem q1_208 : (Cond.fieldLink "DikeWatch$Men" (25 : Nat) "DikeWatch$Men" "fewestLost" "I") ∈ W0 := wm1 208 rfl rfl
theorem q1_209 : (Cond.fieldLink "DikeWatch" (226 : Nat) "DikeWatch$Men" "fewestLost" "I") ∈ W0 := wm1 209 rfl rfl
theorem q1_225 : (Cond.classLink "DikeWatch" (72 : Nat) "DikeWatch$Storms") ∈ W0 := wm1 225 rfl rfl
theorem q1_226 : (Cond.instantiable "DikeWatch$Storms" (3 : Nat)) ∈ W0 := wm1 226 rfl rfl
theorem q1_228 : (Cond.instanceMethod ({ cls := "DikeWatch$Storms", name := "<init>", desc := "()V" } : MethodName)) ∈ W0 := wm1 228 rfl rfl
theorem q1_229 : (Cond.code ({ cls := "DikeWatch$Storms", name := "<init>", desc := "()V" } : MethodName) prog_7_method_1_code (1 : Nat) (Option.none : Option ClassFile.FieldType)) ∈ W0 := wm1 229 rfl rfl
theorem q1_230 : (Cond.methodLink "DikeWatch$Storms" (3 : Nat) ({ cls := "java/lang/Object", name := "<init>", desc := "()V" } : MethodName)) ∈ W0 := wm1 230 rfl rfl
theorem q1_231 : (Cond.fieldLink "DikeWatch$Storms" (9 : Nat) "DikeWatch$Storms" "ways" "[J") ∈ W0 := wm1 231 rfl rfl
theorem q1_232 : (Cond.fieldLink "DikeWatch$Storms" (15 : Nat) "DikeWatch$Storms" "above" "J") ∈ W0 := wm1 232 rfl rfl
theorem q1_233 : (Cond.fieldLink "DikeWatch" (246 : Nat) "DikeWatch$Storms" "above" "J") ∈ W0 := wm1 233 rfl rfl
theorem q1_234 : (Cond.fieldLink "DikeWatch$Storms" (19 : Nat) "DikeWatch$Storms" "below" "J") ∈ W0 := wm1 234 rfl rfl
theorem q1_235 : (Cond.fieldLink "DikeWatch" (250 : Nat) "DikeWatch$Storms" "below" "J") ∈ W0 := wm1 235 rfl rfl
theorem q2_3 : (Cond.arrayClass ClassFile.FieldType.long) ∈ W0 := wm2 3 rfl rfl
theorem q2_4 : (Cond.classLink "DikeWatch" (79 : Nat) "DikeWatch$Clues") ∈ W0 := wm2 4 rfl rfl
theorem q2_5 : (Cond.instantiable "DikeWatch$Clues" (3 : Nat)) ∈ W0 := wm2 5 rfl rfl
theorem q2_7 : (Cond.instanceMethod ({ cls := "DikeWatch$Clues", name := "<init>", desc := "()V" } : MethodName)) ∈ W0 := wm2 7 rfl rfl
theorem q2_8 : (Cond.code ({ cls := "DikeWatch$Clues", name := "<init>", desc := "()V" } : MethodName) prog_2_method_1_code (1 : Nat) (Option.none : Option ClassFile.FieldType)) ∈ W0 := wm2 8 rfl rfl
theorem q2_9 : (Cond.methodLink "DikeWatch$Clues" (3 : Nat) ({ cls := "java/lang/Object", name := "<init>", desc := "()V" } : MethodName)) ∈ W0 := wm2 9 rfl rfl
theorem q2_10 : (Cond.fieldLink "DikeWatch$Clues" (9 : Nat) "DikeWatch$Clues" "yards" "I") ∈ W0 := wm2 10 rfl rfl
theorem q2_11 : (Cond.fieldLink "DikeWatch$Clues" (15 : Nat) "DikeWatch$Clues" "count" "I") ∈ W0 := wm2 11 rfl rfl
theorem q2_12 : (Cond.fieldLink "DikeWatch" (264 : Nat) "DikeWatch$Clues" "count" "I") ∈ W0 := wm2 12 rfl rfl
theorem q2_13 : (Cond.fieldLink "DikeWatch$Clues" (18 : Nat) "DikeWatch$Clues" "possible" "I") ∈ W0 := wm2 13 rfl rfl
theorem q2_14 : (Cond.fieldLink "DikeWatch" (267 : Nat) "DikeWatch$Clues" "possible" "I") ∈ W0 := wm2 14 rfl rfl
theorem q2_22 : (Cond.fieldLink "DikeWatch" (23 : Nat) "DikeWatch" "text" "LDikeWatch$Text;") ∈ W0 := wm2 22 rfl rfl
theorem q2_23 : (Cond.fieldLink "DikeWatch" (29 : Nat) "DikeWatch" "told" "LDikeWatch$Told;") ∈ W0 := wm2 23 rfl rfl
theorem q2_24 : (Cond.fieldLink "DikeWatch" (33 : Nat) "DikeWatch" "draft" "LDikeWatch$Told;") ∈ W0 := wm2 24 rfl rfl
theorem q2_25 : (Cond.fieldLink "DikeWatch" (41 : Nat) "DikeWatch" "reader" "LDikeWatch$Reader;") ∈ W0 := wm2 25 rfl rfl
theorem q2_26 : (Cond.fieldLink "DikeWatch" (45 : Nat) "DikeWatch" "now" "LDikeWatch$Night;") ∈ W0 := wm2 26 rfl rfl
theorem q2_27 : (Cond.fieldLink "DikeWatch" (49 : Nat) "DikeWatch" "firstKept" "LDikeWatch$Night;") ∈ W0 := wm2 27 rfl rfl
theorem q2_28 : (Cond.fieldLink "DikeWatch" (52 : Nat) "DikeWatch" "secondKept" "LDikeWatch$Night;") ∈ W0 := wm2 28 rfl rfl
theorem q2_29 : (Cond.fieldLink "DikeWatch" (55 : Nat) "DikeWatch" "keptBits" "I") ∈ W0 := wm2 29 rfl rfl
theorem q2_30 : (Cond.fieldLink "DikeWatch" (59 : Nat) "DikeWatch" "foretold" "LDikeWatch$Foretold;") ∈ W0 := wm2 30 rfl rfl
theorem q2_31 : (Cond.fieldLink "DikeWatch" (68 : Nat) "DikeWatch" "men" "LDikeWatch$Men;") ∈ W0 := wm2 31 rfl rfl
theorem q2_32 : (Cond.fieldLink "DikeWatch" (75 : Nat) "DikeWatch" "stormOdds" "LDikeWatch$Storms;") ∈ W0 := wm2 32 rfl rfl
theorem q2_33 : (Cond.fieldLink "DikeWatch" (82 : Nat) "DikeWatch" "clues" "LDikeWatch$Clues;") ∈ W0 := wm2 33 rfl rfl
theorem q2_59 : (Cond.methodLink "DikeWatchLaw" (15 : Nat) ({ cls := "DikeWatch", name := "write", desc := "(JI)I" } : MethodName)) ∈ W0 := wm2 59 rfl rfl
theorem q2_60 : (Cond.instanceMethod ({ cls := "DikeWatch", name := "write", desc := "(JI)I" } : MethodName)) ∈ W0 := wm2 60 rfl rfl
theorem q2_61 : (Cond.selects "DikeWatch" ({ cls := "DikeWatch", name := "write", desc := "(JI)I" } : MethodName) ({ cls := "DikeWatch", name := "write", desc := "(JI)I" } : MethodName)) ∈ W0 := wm2 61 rfl rfl
theorem q2_62 : (Cond.code ({ cls := "DikeWatch", name := "write", desc := "(JI)I" } : MethodName) prog_1_method_2_code (4 : Nat) (Option.some ClassFile.FieldType.int)) ∈ W0 := wm2 62 rfl rfl
theorem q2_63 : (Cond.methodLink "DikeWatch" (86 : Nat) ({ cls := "DikeWatch", name := "isWithin", desc := "(III)Z" } : MethodName)) ∈ W0 := wm2 63 rfl rfl
theorem q2_64 : (Cond.static ({ cls := "DikeWatch", name := "isWithin", desc := "(III)Z" } : MethodName)) ∈ W0 := wm2 64 rfl rfl
theorem q2_65 : (Cond.code ({ cls := "DikeWatch", name := "isWithin", desc := "(III)Z" } : MethodName) prog_1_method_28_code (3 : Nat) (Option.some ClassFile.FieldType.boolean)) ∈ W0 := wm2 65 rfl rfl
theorem q2_66 : (Cond.methodLink "DikeWatch" (90 : Nat) ({ cls := "DikeWatch$Text", name := "hasRoomFor", desc := "(I)Z" } : MethodName)) ∈ W0 := wm2 66 rfl rfl
theorem q2_67 : (Cond.instanceMethod ({ cls := "DikeWatch$Text", name := "hasRoomFor", desc := "(I)Z" } : MethodName)) ∈ W0 := wm2 67 rfl rfl
theorem q2_68 : (Cond.selects "DikeWatch$Text" ({ cls := "DikeWatch$Text", name := "hasRoomFor", desc := "(I)Z" } : MethodName) ({ cls := "DikeWatch$Text", name := "hasRoomFor", desc := "(I)Z" } : MethodName)) ∈ W0 := wm2 68 rfl rfl
theorem q2_69 : (Cond.code ({ cls := "DikeWatch$Text", name := "hasRoomFor", desc := "(I)Z" } : MethodName) prog_8_method_2_code (2 : Nat) (Option.some ClassFile.FieldType.boolean)) ∈ W0 := wm2 69 rfl rfl
theorem q2_70 : (Cond.methodLink "DikeWatch" (94 : Nat) ({ cls := "DikeWatch$Text", name := "add", desc := "(JI)V" } : MethodName)) ∈ W0 := wm2 70 rfl rfl
theorem q2_71 : (Cond.instanceMethod ({ cls := "DikeWatch$Text", name := "add", desc := "(JI)V" } : MethodName)) ∈ W0 := wm2 71 rfl rfl
theorem q2_72 : (Cond.selects "DikeWatch$Text" ({ cls := "DikeWatch$Text", name := "add", desc := "(JI)V" } : MethodName) ({ cls := "DikeWatch$Text", name := "add", desc := "(JI)V" } : MethodName)) ∈ W0 := wm2 72 rfl rfl
theorem q2_73 : (Cond.code ({ cls := "DikeWatch$Text", name := "add", desc := "(JI)V" } : MethodName) prog_8_method_3_code (5 : Nat) (Option.none : Option ClassFile.FieldType)) ∈ W0 := wm2 73 rfl rfl
theorem q2_74 : (Cond.methodLink "DikeWatchLaw" (20 : Nat) ({ cls := "DikeWatch", name := "erase", desc := "()I" } : MethodName)) ∈ W0 := wm2 74 rfl rfl
theorem q2_75 : (Cond.instanceMethod ({ cls := "DikeWatch", name := "erase", desc := "()I" } : MethodName)) ∈ W0 := wm2 75 rfl rfl
theorem q2_76 : (Cond.selects "DikeWatch" ({ cls := "DikeWatch", name := "erase", desc := "()I" } : MethodName) ({ cls := "DikeWatch", name := "erase", desc := "()I" } : MethodName)) ∈ W0 := wm2 76 rfl rfl
theorem q2_77 : (Cond.code ({ cls := "DikeWatch", name := "erase", desc := "()I" } : MethodName) prog_1_method_3_code (2 : Nat) (Option.some ClassFile.FieldType.int)) ∈ W0 := wm2 77 rfl rfl
theorem q2_78 : (Cond.methodLink "DikeWatchLaw" (25 : Nat) ({ cls := "DikeWatch", name := "fault", desc := "()I" } : MethodName)) ∈ W0 := wm2 78 rfl rfl
theorem q2_79 : (Cond.instanceMethod ({ cls := "DikeWatch", name := "fault", desc := "()I" } : MethodName)) ∈ W0 := wm2 79 rfl rfl
theorem q2_80 : (Cond.selects "DikeWatch" ({ cls := "DikeWatch", name := "fault", desc := "()I" } : MethodName) ({ cls := "DikeWatch", name := "fault", desc := "()I" } : MethodName)) ∈ W0 := wm2 80 rfl rfl
theorem q2_81 : (Cond.code ({ cls := "DikeWatch", name := "fault", desc := "()I" } : MethodName) prog_1_method_4_code (1 : Nat) (Option.some ClassFile.FieldType.int)) ∈ W0 := wm2 81 rfl rfl
theorem q2_82 : (Cond.methodLink "DikeWatch" (101 : Nat) ({ cls := "DikeWatch$Told", name := "copyFrom", desc := "(LDikeWatch$Told;)V" } : MethodName)) ∈ W0 := wm2 82 rfl rfl
theorem q2_83 : (Cond.instanceMethod ({ cls := "DikeWatch$Told", name := "copyFrom", desc := "(LDikeWatch$Told;)V" } : MethodName)) ∈ W0 := wm2 83 rfl rfl
theorem q2_84 : (Cond.selects "DikeWatch$Told" ({ cls := "DikeWatch$Told", name := "copyFrom", desc := "(LDikeWatch$Told;)V" } : MethodName) ({ cls := "DikeWatch$Told", name := "copyFrom", desc := "(LDikeWatch$Told;)V" } : MethodName)) ∈ W0 := wm2 84 rfl rfl
theorem q2_85 : (Cond.code ({ cls := "DikeWatch$Told", name := "copyFrom", desc := "(LDikeWatch$Told;)V" } : MethodName) prog_9_method_2_code (2 : Nat) (Option.none : Option ClassFile.FieldType)) ∈ W0 := wm2 85 rfl rfl
theorem q2_86 : (Cond.methodLink "DikeWatch$Told" (49 : Nat) ({ cls := "java/lang/System", name := "arraycopy", desc := "(Ljava/lang/Object;ILjava/lang/Object;II)V" } : MethodName)) ∈ W0 := wm2 86 rfl rfl
theorem q2_87 : (Cond.static ({ cls := "java/lang/System", name := "arraycopy", desc := "(Ljava/lang/Object;ILjava/lang/Object;II)V" } : MethodName)) ∈ W0 := wm2 87 rfl rfl
theorem q2_88 : (Cond.native ({ cls := "java/lang/System", name := "arraycopy", desc := "(Ljava/lang/Object;ILjava/lang/Object;II)V" } : MethodName)) ∈ W0 := wm2 88 rfl rfl
theorem q2_89 : (Cond.methodLink "DikeWatch" (104 : Nat) ({ cls := "DikeWatch$Reader", name := "readToFault", desc := "()I" } : MethodName)) ∈ W0 := wm2 89 rfl rfl
theorem q2_90 : (Cond.instanceMethod ({ cls := "DikeWatch$Reader", name := "readToFault", desc := "()I" } : MethodName)) ∈ W0 := wm2 90 rfl rfl
theorem q2_91 : (Cond.selects "DikeWatch$Reader" ({ cls := "DikeWatch$Reader", name := "readToFault", desc := "()I" } : MethodName) ({ cls := "DikeWatch$Reader", name := "readToFault", desc := "()I" } : MethodName)) ∈ W0 := wm2 91 rfl rfl
theorem q2_92 : (Cond.code ({ cls := "DikeWatch$Reader", name := "readToFault", desc := "()I" } : MethodName) prog_6_method_2_code (2 : Nat) (Option.some ClassFile.FieldType.int)) ∈ W0 := wm2 92 rfl rfl
theorem q2_93 : (Cond.methodLink "DikeWatch$Reader" (32 : Nat) ({ cls := "DikeWatch$Reader", name := "readLine", desc := "()Z" } : MethodName)) ∈ W0 := wm2 93 rfl rfl
theorem q2_95 : (Cond.instanceMethod ({ cls := "DikeWatch$Reader", name := "readLine", desc := "()Z" } : MethodName)) ∈ W0 := wm2 95 rfl rfl
theorem q2_96 : (Cond.code ({ cls := "DikeWatch$Reader", name := "readLine", desc := "()Z" } : MethodName) prog_6_method_3_code (2 : Nat) (Option.some ClassFile.FieldType.boolean)) ∈ W0 := wm2 96 rfl rfl
theorem q2_97 : (Cond.methodLink "DikeWatch$Reader" (36 : Nat) ({ cls := "DikeWatch$Reader", name := "toNextToken", desc := "()V" } : MethodName)) ∈ W0 := wm2 97 rfl rfl
theorem q2_99 : (Cond.instanceMethod ({ cls := "DikeWatch$Reader", name := "toNextToken", desc := "()V" } : MethodName)) ∈ W0 := wm2 99 rfl rfl
theorem q2_100 : (Cond.code ({ cls := "DikeWatch$Reader", name := "toNextToken", desc := "()V" } : MethodName) prog_6_method_11_code (2 : Nat) (Option.none : Option ClassFile.FieldType)) ∈ W0 := wm2 100 rfl rfl
theorem q2_101 : (Cond.methodLink "DikeWatch$Reader" (39 : Nat) ({ cls := "DikeWatch$Text", name := "signAt", desc := "(I)I" } : MethodName)) ∈ W0 := wm2 101 rfl rfl
theorem q2_102 : (Cond.instanceMethod ({ cls := "DikeWatch$Text", name := "signAt", desc := "(I)I" } : MethodName)) ∈ W0 := wm2 102 rfl rfl
theorem q2_103 : (Cond.selects "DikeWatch$Text" ({ cls := "DikeWatch$Text", name := "signAt", desc := "(I)I" } : MethodName) ({ cls := "DikeWatch$Text", name := "signAt", desc := "(I)I" } : MethodName)) ∈ W0 := wm2 103 rfl rfl
theorem q2_104 : (Cond.code ({ cls := "DikeWatch$Text", name := "signAt", desc := "(I)I" } : MethodName) prog_8_method_4_code (2 : Nat) (Option.some ClassFile.FieldType.int)) ∈ W0 := wm2 104 rfl rfl
theorem q2_105 : (Cond.methodLink "DikeWatch$Reader" (135 : Nat) ({ cls := "DikeWatch$Reader", name := "sortOf", desc := "(I)I" } : MethodName)) ∈ W0 := wm2 105 rfl rfl
theorem q2_106 : (Cond.static ({ cls := "DikeWatch$Reader", name := "sortOf", desc := "(I)I" } : MethodName)) ∈ W0 := wm2 106 rfl rfl
theorem q2_107 : (Cond.code ({ cls := "DikeWatch$Reader", name := "sortOf", desc := "(I)I" } : MethodName) prog_6_method_12_code (1 : Nat) (Option.some ClassFile.FieldType.int)) ∈ W0 := wm2 107 rfl rfl
theorem q2_109 : (Cond.methodLink "DikeWatch$Reader" (47 : Nat) ({ cls := "DikeWatch$Reader", name := "isWord", desc := "(Ljava/lang/String;)Z" } : MethodName)) ∈ W0 := wm2 109 rfl rfl
theorem q2_111 : (Cond.instanceMethod ({ cls := "DikeWatch$Reader", name := "isWord", desc := "(Ljava/lang/String;)Z" } : MethodName)) ∈ W0 := wm2 111 rfl rfl
theorem q2_112 : (Cond.code ({ cls := "DikeWatch$Reader", name := "isWord", desc := "(Ljava/lang/String;)Z" } : MethodName) prog_6_method_10_code (3 : Nat) (Option.some ClassFile.FieldType.boolean)) ∈ W0 := wm2 112 rfl rfl
theorem q2_113 : (Cond.methodLink "DikeWatch$Reader" (124 : Nat) ({ cls := "java/lang/String", name := "length", desc := "()I" } : MethodName)) ∈ W0 := wm2 113 rfl rfl
theorem q2_114 : (Cond.instanceMethod ({ cls := "java/lang/String", name := "length", desc := "()I" } : MethodName)) ∈ W0 := wm2 114 rfl rfl
theorem q2_115 : (Cond.selects "java/lang/String" ({ cls := "java/lang/String", name := "length", desc := "()I" } : MethodName) ({ cls := "java/lang/String", name := "length", desc := "()I" } : MethodName)) ∈ W0 := wm2 115 rfl rfl
theorem q2_116 : (Cond.code ({ cls := "java/lang/String", name := "length", desc := "()I" } : MethodName) prog_14_method_54_code (1 : Nat) (Option.some ClassFile.FieldType.int)) ∈ W0 := wm2 116 rfl rfl
theorem q2_117 : (Cond.methodLink "java/lang/String" (335 : Nat) ({ cls := "java/lang/String", name := "coder", desc := "()B" } : MethodName)) ∈ W0 := wm2 117 rfl rfl
theorem q2_118 : (Cond.instanceMethod ({ cls := "java/lang/String", name := "coder", desc := "()B" } : MethodName)) ∈ W0 := wm2 118 rfl rfl
theorem q2_119 : (Cond.selects "java/lang/String" ({ cls := "java/lang/String", name := "coder", desc := "()B" } : MethodName) ({ cls := "java/lang/String", name := "coder", desc := "()B" } : MethodName)) ∈ W0 := wm2 119 rfl rfl
theorem q2_120 : (Cond.code ({ cls := "java/lang/String", name := "coder", desc := "()B" } : MethodName) prog_14_method_152_code (1 : Nat) (Option.some ClassFile.FieldType.byte)) ∈ W0 := wm2 120 rfl rfl
theorem q2_121 : (Cond.fieldLink "java/lang/String" (38 : Nat) "java/lang/String" "COMPACT_STRINGS" "Z") ∈ W0 := wm2 121 rfl rfl
theorem q2_123 : (Cond.methodLink "DikeWatch$Reader" (129 : Nat) ({ cls := "java/lang/String", name := "charAt", desc := "(I)C" } : MethodName)) ∈ W0 := wm2 123 rfl rfl
theorem q2_124 : (Cond.instanceMethod ({ cls := "java/lang/String", name := "charAt", desc := "(I)C" } : MethodName)) ∈ W0 := wm2 124 rfl rfl
theorem q2_125 : (Cond.selects "java/lang/String" ({ cls := "java/lang/String", name := "charAt", desc := "(I)C" } : MethodName) ({ cls := "java/lang/String", name := "charAt", desc := "(I)C" } : MethodName)) ∈ W0 := wm2 125 rfl rfl
theorem q2_126 : (Cond.code ({ cls := "java/lang/String", name := "charAt", desc := "(I)C" } : MethodName) prog_14_method_56_code (2 : Nat) (Option.some ClassFile.FieldType.char)) ∈ W0 := wm2 126 rfl rfl
theorem q2_127 : (Cond.methodLink "java/lang/String" (492 : Nat) ({ cls := "java/lang/String", name := "isLatin1", desc := "()Z" } : MethodName)) ∈ W0 := wm2 127 rfl rfl
theorem q2_128 : (Cond.instanceMethod ({ cls := "java/lang/String", name := "isLatin1", desc := "()Z" } : MethodName)) ∈ W0 := wm2 128 rfl rfl
theorem q2_129 : (Cond.selects "java/lang/String" ({ cls := "java/lang/String", name := "isLatin1", desc := "()Z" } : MethodName) ({ cls := "java/lang/String", name := "isLatin1", desc := "()Z" } : MethodName)) ∈ W0 := wm2 129 rfl rfl
theorem q2_130 : (Cond.code ({ cls := "java/lang/String", name := "isLatin1", desc := "()Z" } : MethodName) prog_14_method_154_code (1 : Nat) (Option.some ClassFile.FieldType.boolean)) ∈ W0 := wm2 130 rfl rfl
theorem q2_131 : (Cond.methodLink "java/lang/String" (495 : Nat) ({ cls := "java/lang/StringLatin1", name := "charAt", desc := "([BI)C" } : MethodName)) ∈ W0 := wm2 131 rfl rfl
theorem q2_132 : (Cond.static ({ cls := "java/lang/StringLatin1", name := "charAt", desc := "([BI)C" } : MethodName)) ∈ W0 := wm2 132 rfl rfl
theorem q2_133 : (Cond.code ({ cls := "java/lang/StringLatin1", name := "charAt", desc := "([BI)C" } : MethodName) prog_15_method_2_code (2 : Nat) (Option.some ClassFile.FieldType.char)) ∈ W0 := wm2 133 rfl rfl
theorem q2_134 : (Cond.methodLink "java/lang/StringLatin1" (9 : Nat) ({ cls := "java/lang/String", name := "checkIndex", desc := "(II)V" } : MethodName)) ∈ W0 := wm2 134 rfl rfl
theorem q2_135 : (Cond.static ({ cls := "java/lang/String", name := "checkIndex", desc := "(II)V" } : MethodName)) ∈ W0 := wm2 135 rfl rfl
theorem q2_136 : (Cond.code ({ cls := "java/lang/String", name := "checkIndex", desc := "(II)V" } : MethodName) prog_14_method_155_code (2 : Nat) (Option.none : Option ClassFile.FieldType)) ∈ W0 := wm2 136 rfl rfl
theorem q2_137 : (Cond.fieldLink "java/lang/String" (1053 : Nat) "jdk/internal/util/Preconditions" "SIOOBE_FORMATTER" "Ljava/util/function/BiFunction;") ∈ W0 := wm2 137 rfl rfl
theorem q2_139 : (Cond.methodLink "java/lang/String" (1059 : Nat) ({ cls := "jdk/internal/util/Preconditions", name := "checkIndex", desc := "(IILjava/util/function/BiFunction;)I" } : MethodName)) ∈ W0 := wm2 139 rfl rfl
theorem q2_140 : (Cond.static ({ cls := "jdk/internal/util/Preconditions", name := "checkIndex", desc := "(IILjava/util/function/BiFunction;)I" } : MethodName)) ∈ W0 := wm2 140 rfl rfl
theorem q2_141 : (Cond.code ({ cls := "jdk/internal/util/Preconditions", name := "checkIndex", desc := "(IILjava/util/function/BiFunction;)I" } : MethodName) prog_19_method_11_code (3 : Nat) (Option.some ClassFile.FieldType.int)) ∈ W0 := wm2 141 rfl rfl
theorem q2_142 : (Cond.methodLink "java/lang/String" (498 : Nat) ({ cls := "java/lang/StringUTF16", name := "charAt", desc := "([BI)C" } : MethodName)) ∈ W0 := wm2 142 rfl rfl
theorem q2_143 : (Cond.static ({ cls := "java/lang/StringUTF16", name := "charAt", desc := "([BI)C" } : MethodName)) ∈ W0 := wm2 143 rfl rfl
theorem q2_144 : (Cond.code ({ cls := "java/lang/StringUTF16", name := "charAt", desc := "([BI)C" } : MethodName) prog_16_method_83_code (2 : Nat) (Option.some ClassFile.FieldType.char)) ∈ W0 := wm2 144 rfl rfl
theorem q2_145 : (Cond.methodLink "java/lang/StringUTF16" (67 : Nat) ({ cls := "java/lang/StringUTF16", name := "checkIndex", desc := "(I[B)V" } : MethodName)) ∈ W0 := wm2 145 rfl rfl
theorem q2_146 : (Cond.static ({ cls := "java/lang/StringUTF16", name := "checkIndex", desc := "(I[B)V" } : MethodName)) ∈ W0 := wm2 146 rfl rfl
theorem q2_147 : (Cond.code ({ cls := "java/lang/StringUTF16", name := "checkIndex", desc := "(I[B)V" } : MethodName) prog_16_method_91_code (2 : Nat) (Option.none : Option ClassFile.FieldType)) ∈ W0 := wm2 147 rfl rfl
theorem q2_148 : (Cond.methodLink "java/lang/StringUTF16" (48 : Nat) ({ cls := "java/lang/StringUTF16", name := "length", desc := "([B)I" } : MethodName)) ∈ W0 := wm2 148 rfl rfl
theorem q2_149 : (Cond.static ({ cls := "java/lang/StringUTF16", name := "length", desc := "([B)I" } : MethodName)) ∈ W0 := wm2 149 rfl rfl
theorem q2_150 : (Cond.code ({ cls := "java/lang/StringUTF16", name := "length", desc := "([B)I" } : MethodName) prog_16_method_6_code (1 : Nat) (Option.some ClassFile.FieldType.int)) ∈ W0 := wm2 150 rfl rfl
theorem q2_151 : (Cond.methodLink "java/lang/StringUTF16" (414 : Nat) ({ cls := "java/lang/String", name := "checkIndex", desc := "(II)V" } : MethodName)) ∈ W0 := wm2 151 rfl rfl
theorem q2_152 : (Cond.methodLink "java/lang/StringUTF16" (71 : Nat) ({ cls := "java/lang/StringUTF16", name := "getChar", desc := "([BI)C" } : MethodName)) ∈ W0 := wm2 152 rfl rfl
theorem q2_153 : (Cond.static ({ cls := "java/lang/StringUTF16", name := "getChar", desc := "([BI)C" } : MethodName)) ∈ W0 := wm2 153 rfl rfl
theorem q2_154 : (Cond.code ({ cls := "java/lang/StringUTF16", name := "getChar", desc := "([BI)C" } : MethodName) prog_16_method_5_code (2 : Nat) (Option.some ClassFile.FieldType.char)) ∈ W0 := wm2 154 rfl rfl
theorem q2_155 : (Cond.fieldLink "java/lang/StringUTF16" (44 : Nat) "java/lang/StringUTF16" "$assertionsDisabled" "Z") ∈ W0 := wm2 155 rfl rfl
theorem q2_157 : (Cond.fieldLink "java/lang/StringUTF16" (59 : Nat) "java/lang/StringUTF16" "HI_BYTE_SHIFT" "I") ∈ W0 := wm2 157 rfl rfl
theorem q2_159 : (Cond.fieldLink "java/lang/StringUTF16" (63 : Nat) "java/lang/StringUTF16" "LO_BYTE_SHIFT" "I") ∈ W0 := wm2 159 rfl rfl
theorem q2_161 : (Cond.methodLink "DikeWatch$Reader" (51 : Nat) ({ cls := "DikeWatch$Reader", name := "readDike", desc := "()Z" } : MethodName)) ∈ W0 := wm2 161 rfl rfl
theorem q2_163 : (Cond.instanceMethod ({ cls := "DikeWatch$Reader", name := "readDike", desc := "()Z" } : MethodName)) ∈ W0 := wm2 163 rfl rfl
theorem q2_164 : (Cond.code ({ cls := "DikeWatch$Reader", name := "readDike", desc := "()Z" } : MethodName) prog_6_method_5_code (2 : Nat) (Option.some ClassFile.FieldType.boolean)) ∈ W0 := wm2 164 rfl rfl
theorem q2_165 : (Cond.methodLink "DikeWatch$Reader" (92 : Nat) ({ cls := "DikeWatch$Reader", name := "readNumber", desc := "(II)I" } : MethodName)) ∈ W0 := wm2 165 rfl rfl
theorem q2_167 : (Cond.instanceMethod ({ cls := "DikeWatch$Reader", name := "readNumber", desc := "(II)I" } : MethodName)) ∈ W0 := wm2 167 rfl rfl
theorem q2_168 : (Cond.code ({ cls := "DikeWatch$Reader", name := "readNumber", desc := "(II)I" } : MethodName) prog_6_method_9_code (5 : Nat) (Option.some ClassFile.FieldType.int)) ∈ W0 := wm2 168 rfl rfl
theorem q2_170 : (Cond.methodLink "DikeWatch$Reader" (96 : Nat) ({ cls := "DikeWatch$Told", name := "startAnew", desc := "(I)V" } : MethodName)) ∈ W0 := wm2 170 rfl rfl
theorem q2_171 : (Cond.instanceMethod ({ cls := "DikeWatch$Told", name := "startAnew", desc := "(I)V" } : MethodName)) ∈ W0 := wm2 171 rfl rfl
theorem q2_172 : (Cond.selects "DikeWatch$Told" ({ cls := "DikeWatch$Told", name := "startAnew", desc := "(I)V" } : MethodName) ({ cls := "DikeWatch$Told", name := "startAnew", desc := "(I)V" } : MethodName)) ∈ W0 := wm2 172 rfl rfl
theorem q2_173 : (Cond.code ({ cls := "DikeWatch$Told", name := "startAnew", desc := "(I)V" } : MethodName) prog_9_method_3_code (2 : Nat) (Option.none : Option ClassFile.FieldType)) ∈ W0 := wm2 173 rfl rfl
theorem q2_174 : (Cond.methodLink "DikeWatch$Told" (55 : Nat) ({ cls := "java/util/Arrays", name := "fill", desc := "([II)V" } : MethodName)) ∈ W0 := wm2 174 rfl rfl
theorem q2_175 : (Cond.static ({ cls := "java/util/Arrays", name := "fill", desc := "([II)V" } : MethodName)) ∈ W0 := wm2 175 rfl rfl
theorem q2_176 : (Cond.code ({ cls := "java/util/Arrays", name := "fill", desc := "([II)V" } : MethodName) prog_18_method_103_code (4 : Nat) (Option.none : Option ClassFile.FieldType)) ∈ W0 := wm2 176 rfl rfl
theorem q2_178 : (Cond.methodLink "DikeWatch$Reader" (56 : Nat) ({ cls := "DikeWatch$Reader", name := "readTide", desc := "()Z" } : MethodName)) ∈ W0 := wm2 178 rfl rfl
theorem q2_180 : (Cond.instanceMethod ({ cls := "DikeWatch$Reader", name := "readTide", desc := "()Z" } : MethodName)) ∈ W0 := wm2 180 rfl rfl
theorem q2_181 : (Cond.code ({ cls := "DikeWatch$Reader", name := "readTide", desc := "()Z" } : MethodName) prog_6_method_6_code (3 : Nat) (Option.some ClassFile.FieldType.boolean)) ∈ W0 := wm2 181 rfl rfl
theorem q2_183 : (Cond.methodLink "DikeWatch$Reader" (61 : Nat) ({ cls := "DikeWatch$Reader", name := "readSeep", desc := "()Z" } : MethodName)) ∈ W0 := wm2 183 rfl rfl
theorem q2_185 : (Cond.instanceMethod ({ cls := "DikeWatch$Reader", name := "readSeep", desc := "()Z" } : MethodName)) ∈ W0 := wm2 185 rfl rfl
theorem q2_186 : (Cond.code ({ cls := "DikeWatch$Reader", name := "readSeep", desc := "()Z" } : MethodName) prog_6_method_7_code (5 : Nat) (Option.some ClassFile.FieldType.boolean)) ∈ W0 := wm2 186 rfl rfl
theorem q2_187 : (Cond.methodLink "DikeWatch$Reader" (104 : Nat) ({ cls := "DikeWatch$Told", name := "hasRoomForSeep", desc := "()Z" } : MethodName)) ∈ W0 := wm2 187 rfl rfl
theorem q2_188 : (Cond.instanceMethod ({ cls := "DikeWatch$Told", name := "hasRoomForSeep", desc := "()Z" } : MethodName)) ∈ W0 := wm2 188 rfl rfl
theorem q2_189 : (Cond.selects "DikeWatch$Told" ({ cls := "DikeWatch$Told", name := "hasRoomForSeep", desc := "()Z" } : MethodName) ({ cls := "DikeWatch$Told", name := "hasRoomForSeep", desc := "()Z" } : MethodName)) ∈ W0 := wm2 189 rfl rfl
theorem q2_190 : (Cond.code ({ cls := "DikeWatch$Told", name := "hasRoomForSeep", desc := "()Z" } : MethodName) prog_9_method_4_code (1 : Nat) (Option.some ClassFile.FieldType.boolean)) ∈ W0 := wm2 190 rfl rfl
theorem q2_191 : (Cond.methodLink "DikeWatch$Reader" (110 : Nat) ({ cls := "DikeWatch$Told", name := "addSeep", desc := "(IIII)V" } : MethodName)) ∈ W0 := wm2 191 rfl rfl
theorem q2_192 : (Cond.instanceMethod ({ cls := "DikeWatch$Told", name := "addSeep", desc := "(IIII)V" } : MethodName)) ∈ W0 := wm2 192 rfl rfl
theorem q2_193 : (Cond.selects "DikeWatch$Told" ({ cls := "DikeWatch$Told", name := "addSeep", desc := "(IIII)V" } : MethodName) ({ cls := "DikeWatch$Told", name := "addSeep", desc := "(IIII)V" } : MethodName)) ∈ W0 := wm2 193 rfl rfl
theorem q2_194 : (Cond.code ({ cls := "DikeWatch$Told", name := "addSeep", desc := "(IIII)V" } : MethodName) prog_9_method_5_code (5 : Nat) (Option.none : Option ClassFile.FieldType)) ∈ W0 := wm2 194 rfl rfl
theorem q2_195 : (Cond.methodLink "DikeWatch$Told" (61 : Nat) ({ cls := "DikeWatch$Told", name := "hasRoomForSeep", desc := "()Z" } : MethodName)) ∈ W0 := wm2 195 rfl rfl
theorem q2_198 : (Cond.methodLink "DikeWatch$Reader" (76 : Nat) ({ cls := "DikeWatch$Reader", name := "kindOfWord", desc := "()I" } : MethodName)) ∈ W0 := wm2 198 rfl rfl
theorem q2_200 : (Cond.instanceMethod ({ cls := "DikeWatch$Reader", name := "kindOfWord", desc := "()I" } : MethodName)) ∈ W0 := wm2 200 rfl rfl
theorem q2_201 : (Cond.code ({ cls := "DikeWatch$Reader", name := "kindOfWord", desc := "()I" } : MethodName) prog_6_method_4_code (1 : Nat) (Option.some ClassFile.FieldType.int)) ∈ W0 := wm2 201 rfl rfl
theorem q2_206 : (Cond.methodLink "DikeWatch$Reader" (80 : Nat) ({ cls := "DikeWatch$Reader", name := "readChild", desc := "(I)Z" } : MethodName)) ∈ W0 := wm2 206 rfl rfl
theorem q2_208 : (Cond.instanceMethod ({ cls := "DikeWatch$Reader", name := "readChild", desc := "(I)Z" } : MethodName)) ∈ W0 := wm2 208 rfl rfl
theorem q2_209 : (Cond.code ({ cls := "DikeWatch$Reader", name := "readChild", desc := "(I)Z" } : MethodName) prog_6_method_8_code (5 : Nat) (Option.some ClassFile.FieldType.boolean)) ∈ W0 := wm2 209 rfl rfl
theorem q2_210 : (Cond.methodLink "DikeWatch$Reader" (114 : Nat) ({ cls := "DikeWatch$Told", name := "hasRoomForChild", desc := "()Z" } : MethodName)) ∈ W0 := wm2 210 rfl rfl
theorem q2_211 : (Cond.instanceMethod ({ cls := "DikeWatch$Told", name := "hasRoomForChild", desc := "()Z" } : MethodName)) ∈ W0 := wm2 211 rfl rfl
theorem q2_212 : (Cond.selects "DikeWatch$Told" ({ cls := "DikeWatch$Told", name := "hasRoomForChild", desc := "()Z" } : MethodName) ({ cls := "DikeWatch$Told", name := "hasRoomForChild", desc := "()Z" } : MethodName)) ∈ W0 := wm2 212 rfl rfl
theorem q2_213 : (Cond.code ({ cls := "DikeWatch$Told", name := "hasRoomForChild", desc := "()Z" } : MethodName) prog_9_method_6_code (1 : Nat) (Option.some ClassFile.FieldType.boolean)) ∈ W0 := wm2 213 rfl rfl
theorem q2_214 : (Cond.methodLink "DikeWatch$Reader" (117 : Nat) ({ cls := "DikeWatch$Told", name := "addChild", desc := "(IIII)V" } : MethodName)) ∈ W0 := wm2 214 rfl rfl
theorem q2_215 : (Cond.instanceMethod ({ cls := "DikeWatch$Told", name := "addChild", desc := "(IIII)V" } : MethodName)) ∈ W0 := wm2 215 rfl rfl
theorem q2_216 : (Cond.selects "DikeWatch$Told" ({ cls := "DikeWatch$Told", name := "addChild", desc := "(IIII)V" } : MethodName) ({ cls := "DikeWatch$Told", name := "addChild", desc := "(IIII)V" } : MethodName)) ∈ W0 := wm2 216 rfl rfl
theorem q2_217 : (Cond.code ({ cls := "DikeWatch$Told", name := "addChild", desc := "(IIII)V" } : MethodName) prog_9_method_7_code (5 : Nat) (Option.none : Option ClassFile.FieldType)) ∈ W0 := wm2 217 rfl rfl
theorem q2_218 : (Cond.methodLink "DikeWatch$Told" (65 : Nat) ({ cls := "DikeWatch$Told", name := "hasRoomForChild", desc := "()Z" } : MethodName)) ∈ W0 := wm2 218 rfl rfl
theorem q2_219 : (Cond.methodLink "DikeWatchLaw" (29 : Nat) ({ cls := "DikeWatch", name := "dike", desc := "()I" } : MethodName)) ∈ W0 := wm2 219 rfl rfl
theorem q2_220 : (Cond.instanceMethod ({ cls := "DikeWatch", name := "dike", desc := "()I" } : MethodName)) ∈ W0 := wm2 220 rfl rfl
theorem q2_221 : (Cond.selects "DikeWatch" ({ cls := "DikeWatch", name := "dike", desc := "()I" } : MethodName) ({ cls := "DikeWatch", name := "dike", desc := "()I" } : MethodName)) ∈ W0 := wm2 221 rfl rfl
theorem q2_222 : (Cond.code ({ cls := "DikeWatch", name := "dike", desc := "()I" } : MethodName) prog_1_method_5_code (1 : Nat) (Option.some ClassFile.FieldType.int)) ∈ W0 := wm2 222 rfl rfl
theorem q2_223 : (Cond.methodLink "DikeWatch" (108 : Nat) ({ cls := "DikeWatch$Night", name := "begin", desc := "()V" } : MethodName)) ∈ W0 := wm2 223 rfl rfl
theorem q2_224 : (Cond.instanceMethod ({ cls := "DikeWatch$Night", name := "begin", desc := "()V" } : MethodName)) ∈ W0 := wm2 224 rfl rfl
theorem q2_225 : (Cond.selects "DikeWatch$Night" ({ cls := "DikeWatch$Night", name := "begin", desc := "()V" } : MethodName) ({ cls := "DikeWatch$Night", name := "begin", desc := "()V" } : MethodName)) ∈ W0 := wm2 225 rfl rfl
theorem q2_226 : (Cond.code ({ cls := "DikeWatch$Night", name := "begin", desc := "()V" } : MethodName) prog_5_method_2_code (1 : Nat) (Option.none : Option ClassFile.FieldType)) ∈ W0 := wm2 226 rfl rfl
theorem q2_227 : (Cond.methodLink "DikeWatch$Night" (40 : Nat) ({ cls := "java/lang/System", name := "arraycopy", desc := "(Ljava/lang/Object;ILjava/lang/Object;II)V" } : MethodName)) ∈ W0 := wm2 227 rfl rfl
theorem q2_228 : (Cond.methodLink "DikeWatch$Night" (49 : Nat) ({ cls := "java/util/Arrays", name := "fill", desc := "([II)V" } : MethodName)) ∈ W0 := wm2 228 rfl rfl
theorem q2_229 : (Cond.methodLink "DikeWatch" (114 : Nat) ({ cls := "DikeWatch$Clues", name := "begin", desc := "(I)V" } : MethodName)) ∈ W0 := wm2 229 rfl rfl
theorem q2_230 : (Cond.instanceMethod ({ cls := "DikeWatch$Clues", name := "begin", desc := "(I)V" } : MethodName)) ∈ W0 := wm2 230 rfl rfl
theorem q2_231 : (Cond.selects "DikeWatch$Clues" ({ cls := "DikeWatch$Clues", name := "begin", desc := "(I)V" } : MethodName) ({ cls := "DikeWatch$Clues", name := "begin", desc := "(I)V" } : MethodName)) ∈ W0 := wm2 231 rfl rfl
theorem q2_232 : (Cond.code ({ cls := "DikeWatch$Clues", name := "begin", desc := "(I)V" } : MethodName) prog_2_method_2_code (2 : Nat) (Option.none : Option ClassFile.FieldType)) ∈ W0 := wm2 232 rfl rfl
theorem q2_233 : (Cond.methodLink "DikeWatchLaw" (33 : Nat) ({ cls := "DikeWatch", name := "tide", desc := "(I)I" } : MethodName)) ∈ W0 := wm2 233 rfl rfl
theorem q2_234 : (Cond.instanceMethod ({ cls := "DikeWatch", name := "tide", desc := "(I)I" } : MethodName)) ∈ W0 := wm2 234 rfl rfl
theorem q2_235 : (Cond.selects "DikeWatch" ({ cls := "DikeWatch", name := "tide", desc := "(I)I" } : MethodName) ({ cls := "DikeWatch", name := "tide", desc := "(I)I" } : MethodName)) ∈ W0 := wm2 235 rfl rfl
theorem q2_236 : (Cond.code ({ cls := "DikeWatch", name := "tide", desc := "(I)I" } : MethodName) prog_1_method_6_code (2 : Nat) (Option.some ClassFile.FieldType.int)) ∈ W0 := wm2 236 rfl rfl
theorem q2_237 : (Cond.methodLink "DikeWatch" (120 : Nat) ({ cls := "DikeWatch$Told", name := "tideAt", desc := "(I)I" } : MethodName)) ∈ W0 := wm2 237 rfl rfl
theorem q2_238 : (Cond.instanceMethod ({ cls := "DikeWatch$Told", name := "tideAt", desc := "(I)I" } : MethodName)) ∈ W0 := wm2 238 rfl rfl
theorem q2_239 : (Cond.selects "DikeWatch$Told" ({ cls := "DikeWatch$Told", name := "tideAt", desc := "(I)I" } : MethodName) ({ cls := "DikeWatch$Told", name := "tideAt", desc := "(I)I" } : MethodName)) ∈ W0 := wm2 239 rfl rfl
theorem q3_0 : (Cond.code ({ cls := "DikeWatch$Told", name := "tideAt", desc := "(I)I" } : MethodName) prog_9_method_13_code (2 : Nat) (Option.some ClassFile.FieldType.int)) ∈ W0 := wm3 0 rfl rfl
theorem q3_1 : (Cond.methodLink "DikeWatch$Told" (72 : Nat) ({ cls := "java/lang/Math", name := "floorMod", desc := "(II)I" } : MethodName)) ∈ W0 := wm3 1 rfl rfl
theorem q3_2 : (Cond.static ({ cls := "java/lang/Math", name := "floorMod", desc := "(II)I" } : MethodName)) ∈ W0 := wm3 2 rfl rfl
theorem q3_3 : (Cond.code ({ cls := "java/lang/Math", name := "floorMod", desc := "(II)I" } : MethodName) prog_13_method_50_code (3 : Nat) (Option.some ClassFile.FieldType.int)) ∈ W0 := wm3 3 rfl rfl
theorem q3_4 : (Cond.methodLink "DikeWatchLaw" (38 : Nat) ({ cls := "DikeWatch", name := "seep", desc := "(II)I" } : MethodName)) ∈ W0 := wm3 4 rfl rfl
theorem q3_5 : (Cond.instanceMethod ({ cls := "DikeWatch", name := "seep", desc := "(II)I" } : MethodName)) ∈ W0 := wm3 5 rfl rfl
theorem q3_6 : (Cond.selects "DikeWatch" ({ cls := "DikeWatch", name := "seep", desc := "(II)I" } : MethodName) ({ cls := "DikeWatch", name := "seep", desc := "(II)I" } : MethodName)) ∈ W0 := wm3 6 rfl rfl
theorem q3_7 : (Cond.code ({ cls := "DikeWatch", name := "seep", desc := "(II)I" } : MethodName) prog_1_method_7_code (3 : Nat) (Option.some ClassFile.FieldType.int)) ∈ W0 := wm3 7 rfl rfl
theorem q3_8 : (Cond.methodLink "DikeWatch" (124 : Nat) ({ cls := "DikeWatch$Told", name := "hasSeep", desc := "(I)Z" } : MethodName)) ∈ W0 := wm3 8 rfl rfl
theorem q3_9 : (Cond.instanceMethod ({ cls := "DikeWatch$Told", name := "hasSeep", desc := "(I)Z" } : MethodName)) ∈ W0 := wm3 9 rfl rfl
theorem q3_10 : (Cond.selects "DikeWatch$Told" ({ cls := "DikeWatch$Told", name := "hasSeep", desc := "(I)Z" } : MethodName) ({ cls := "DikeWatch$Told", name := "hasSeep", desc := "(I)Z" } : MethodName)) ∈ W0 := wm3 10 rfl rfl
theorem q3_11 : (Cond.code ({ cls := "DikeWatch$Told", name := "hasSeep", desc := "(I)Z" } : MethodName) prog_9_method_9_code (2 : Nat) (Option.some ClassFile.FieldType.boolean)) ∈ W0 := wm3 11 rfl rfl
theorem q3_12 : (Cond.methodLink "DikeWatch" (140 : Nat) ({ cls := "DikeWatch$Night", name := "isFilled", desc := "(I)Z" } : MethodName)) ∈ W0 := wm3 12 rfl rfl
theorem q3_13 : (Cond.instanceMethod ({ cls := "DikeWatch$Night", name := "isFilled", desc := "(I)Z" } : MethodName)) ∈ W0 := wm3 13 rfl rfl
theorem q3_14 : (Cond.selects "DikeWatch$Night" ({ cls := "DikeWatch$Night", name := "isFilled", desc := "(I)Z" } : MethodName) ({ cls := "DikeWatch$Night", name := "isFilled", desc := "(I)Z" } : MethodName)) ∈ W0 := wm3 14 rfl rfl
theorem q3_15 : (Cond.code ({ cls := "DikeWatch$Night", name := "isFilled", desc := "(I)Z" } : MethodName) prog_5_method_8_code (2 : Nat) (Option.some ClassFile.FieldType.boolean)) ∈ W0 := wm3 15 rfl rfl
theorem q3_17 : (Cond.static ({ cls := "DikeWatch", name := "hasBit", desc := "(II)Z" } : MethodName)) ∈ W0 := wm3 17 rfl rfl
theorem q3_18 : (Cond.code ({ cls := "DikeWatch", name := "hasBit", desc := "(II)Z" } : MethodName) prog_1_method_29_code (2 : Nat) (Option.some ClassFile.FieldType.boolean)) ∈ W0 := wm3 18 rfl rfl
theorem q3_19 : (Cond.methodLink "DikeWatchLaw" (43 : Nat) ({ cls := "DikeWatch", name := "child", desc := "(II)I" } : MethodName)) ∈ W0 := wm3 19 rfl rfl
theorem q3_20 : (Cond.instanceMethod ({ cls := "DikeWatch", name := "child", desc := "(II)I" } : MethodName)) ∈ W0 := wm3 20 rfl rfl
theorem q3_21 : (Cond.selects "DikeWatch" ({ cls := "DikeWatch", name := "child", desc := "(II)I" } : MethodName) ({ cls := "DikeWatch", name := "child", desc := "(II)I" } : MethodName)) ∈ W0 := wm3 21 rfl rfl
theorem q3_22 : (Cond.code ({ cls := "DikeWatch", name := "child", desc := "(II)I" } : MethodName) prog_1_method_8_code (3 : Nat) (Option.some ClassFile.FieldType.int)) ∈ W0 := wm3 22 rfl rfl
theorem q3_23 : (Cond.methodLink "DikeWatch" (143 : Nat) ({ cls := "DikeWatch$Told", name := "hasChild", desc := "(I)Z" } : MethodName)) ∈ W0 := wm3 23 rfl rfl
theorem q3_24 : (Cond.instanceMethod ({ cls := "DikeWatch$Told", name := "hasChild", desc := "(I)Z" } : MethodName)) ∈ W0 := wm3 24 rfl rfl
theorem q3_25 : (Cond.selects "DikeWatch$Told" ({ cls := "DikeWatch$Told", name := "hasChild", desc := "(I)Z" } : MethodName) ({ cls := "DikeWatch$Told", name := "hasChild", desc := "(I)Z" } : MethodName)) ∈ W0 := wm3 25 rfl rfl
theorem q3_26 : (Cond.code ({ cls := "DikeWatch$Told", name := "hasChild", desc := "(I)Z" } : MethodName) prog_9_method_10_code (2 : Nat) (Option.some ClassFile.FieldType.boolean)) ∈ W0 := wm3 26 rfl rfl
theorem q3_27 : (Cond.methodLink "DikeWatch" (155 : Nat) ({ cls := "DikeWatch$Night", name := "earOf", desc := "(I)I" } : MethodName)) ∈ W0 := wm3 27 rfl rfl
theorem q3_28 : (Cond.instanceMethod ({ cls := "DikeWatch$Night", name := "earOf", desc := "(I)I" } : MethodName)) ∈ W0 := wm3 28 rfl rfl
theorem q3_29 : (Cond.selects "DikeWatch$Night" ({ cls := "DikeWatch$Night", name := "earOf", desc := "(I)I" } : MethodName) ({ cls := "DikeWatch$Night", name := "earOf", desc := "(I)I" } : MethodName)) ∈ W0 := wm3 29 rfl rfl
theorem q3_30 : (Cond.code ({ cls := "DikeWatch$Night", name := "earOf", desc := "(I)I" } : MethodName) prog_5_method_11_code (3 : Nat) (Option.some ClassFile.FieldType.int)) ∈ W0 := wm3 30 rfl rfl
theorem q3_31 : (Cond.methodLink "DikeWatch$Night" (98 : Nat) ({ cls := "java/lang/Math", name := "max", desc := "(II)I" } : MethodName)) ∈ W0 := wm3 31 rfl rfl
theorem q3_32 : (Cond.static ({ cls := "java/lang/Math", name := "max", desc := "(II)I" } : MethodName)) ∈ W0 := wm3 32 rfl rfl
theorem q3_33 : (Cond.code ({ cls := "java/lang/Math", name := "max", desc := "(II)I" } : MethodName) prog_13_method_65_code (2 : Nat) (Option.some ClassFile.FieldType.int)) ∈ W0 := wm3 33 rfl rfl
theorem q3_34 : (Cond.methodLink "DikeWatch" (158 : Nat) ({ cls := "DikeWatch$Night", name := "goesToLesser", desc := "(I)Z" } : MethodName)) ∈ W0 := wm3 34 rfl rfl
theorem q3_35 : (Cond.instanceMethod ({ cls := "DikeWatch$Night", name := "goesToLesser", desc := "(I)Z" } : MethodName)) ∈ W0 := wm3 35 rfl rfl
theorem q3_36 : (Cond.selects "DikeWatch$Night" ({ cls := "DikeWatch$Night", name := "goesToLesser", desc := "(I)Z" } : MethodName) ({ cls := "DikeWatch$Night", name := "goesToLesser", desc := "(I)Z" } : MethodName)) ∈ W0 := wm3 36 rfl rfl
theorem q3_37 : (Cond.code ({ cls := "DikeWatch$Night", name := "goesToLesser", desc := "(I)Z" } : MethodName) prog_5_method_7_code (2 : Nat) (Option.some ClassFile.FieldType.boolean)) ∈ W0 := wm3 37 rfl rfl
theorem q3_38 : (Cond.methodLink "DikeWatch" (164 : Nat) ({ cls := "DikeWatch$Night", name := "toldBy", desc := "(I)I" } : MethodName)) ∈ W0 := wm3 38 rfl rfl
theorem q3_39 : (Cond.instanceMethod ({ cls := "DikeWatch$Night", name := "toldBy", desc := "(I)I" } : MethodName)) ∈ W0 := wm3 39 rfl rfl
theorem q3_40 : (Cond.selects "DikeWatch$Night" ({ cls := "DikeWatch$Night", name := "toldBy", desc := "(I)I" } : MethodName) ({ cls := "DikeWatch$Night", name := "toldBy", desc := "(I)I" } : MethodName)) ∈ W0 := wm3 40 rfl rfl
theorem q3_41 : (Cond.code ({ cls := "DikeWatch$Night", name := "toldBy", desc := "(I)I" } : MethodName) prog_5_method_14_code (5 : Nat) (Option.some ClassFile.FieldType.int)) ∈ W0 := wm3 41 rfl rfl
theorem q3_42 : (Cond.methodLink "DikeWatch$Night" (115 : Nat) ({ cls := "DikeWatch$Night", name := "heardBy", desc := "(I)I" } : MethodName)) ∈ W0 := wm3 42 rfl rfl
theorem q3_43 : (Cond.instanceMethod ({ cls := "DikeWatch$Night", name := "heardBy", desc := "(I)I" } : MethodName)) ∈ W0 := wm3 43 rfl rfl
theorem q3_44 : (Cond.selects "DikeWatch$Night" ({ cls := "DikeWatch$Night", name := "heardBy", desc := "(I)I" } : MethodName) ({ cls := "DikeWatch$Night", name := "heardBy", desc := "(I)I" } : MethodName)) ∈ W0 := wm3 44 rfl rfl
theorem q3_45 : (Cond.code ({ cls := "DikeWatch$Night", name := "heardBy", desc := "(I)I" } : MethodName) prog_5_method_13_code (3 : Nat) (Option.some ClassFile.FieldType.int)) ∈ W0 := wm3 45 rfl rfl
theorem q3_46 : (Cond.methodLink "DikeWatch$Night" (108 : Nat) ({ cls := "DikeWatch$Night", name := "earOf", desc := "(I)I" } : MethodName)) ∈ W0 := wm3 46 rfl rfl
theorem q3_47 : (Cond.methodLink "DikeWatch$Night" (112 : Nat) ({ cls := "DikeWatch$Night", name := "heardFrom", desc := "(II)I" } : MethodName)) ∈ W0 := wm3 47 rfl rfl
theorem q3_48 : (Cond.instanceMethod ({ cls := "DikeWatch$Night", name := "heardFrom", desc := "(II)I" } : MethodName)) ∈ W0 := wm3 48 rfl rfl
theorem q3_49 : (Cond.selects "DikeWatch$Night" ({ cls := "DikeWatch$Night", name := "heardFrom", desc := "(II)I" } : MethodName) ({ cls := "DikeWatch$Night", name := "heardFrom", desc := "(II)I" } : MethodName)) ∈ W0 := wm3 49 rfl rfl
theorem q3_50 : (Cond.code ({ cls := "DikeWatch$Night", name := "heardFrom", desc := "(II)I" } : MethodName) prog_5_method_12_code (5 : Nat) (Option.some ClassFile.FieldType.int)) ∈ W0 := wm3 50 rfl rfl
theorem q3_51 : (Cond.methodLink "DikeWatch$Night" (68 : Nat) ({ cls := "DikeWatch$Night", name := "isFilled", desc := "(I)Z" } : MethodName)) ∈ W0 := wm3 51 rfl rfl
theorem q3_53 : (Cond.static ({ cls := "DikeWatch", name := "reaches", desc := "(III)Z" } : MethodName)) ∈ W0 := wm3 53 rfl rfl
theorem q3_54 : (Cond.code ({ cls := "DikeWatch", name := "reaches", desc := "(III)Z" } : MethodName) prog_1_method_31_code (3 : Nat) (Option.some ClassFile.FieldType.boolean)) ∈ W0 := wm3 54 rfl rfl
theorem q3_55 : (Cond.methodLink "DikeWatch" (282 : Nat) ({ cls := "java/lang/Math", name := "abs", desc := "(I)I" } : MethodName)) ∈ W0 := wm3 55 rfl rfl
theorem q3_56 : (Cond.static ({ cls := "java/lang/Math", name := "abs", desc := "(I)I" } : MethodName)) ∈ W0 := wm3 56 rfl rfl
theorem q3_57 : (Cond.code ({ cls := "java/lang/Math", name := "abs", desc := "(I)I" } : MethodName) prog_13_method_59_code (1 : Nat) (Option.some ClassFile.FieldType.int)) ∈ W0 := wm3 57 rfl rfl
theorem q3_58 : (Cond.methodLink "DikeWatch$Night" (118 : Nat) ({ cls := "DikeWatch$Night", name := "isNearer", desc := "(III)Z" } : MethodName)) ∈ W0 := wm3 58 rfl rfl
theorem q3_59 : (Cond.static ({ cls := "DikeWatch$Night", name := "isNearer", desc := "(III)Z" } : MethodName)) ∈ W0 := wm3 59 rfl rfl
theorem q3_60 : (Cond.code ({ cls := "DikeWatch$Night", name := "isNearer", desc := "(III)Z" } : MethodName) prog_5_method_15_code (4 : Nat) (Option.some ClassFile.FieldType.boolean)) ∈ W0 := wm3 60 rfl rfl
theorem q3_61 : (Cond.methodLink "DikeWatch$Night" (121 : Nat) ({ cls := "java/lang/Math", name := "abs", desc := "(I)I" } : MethodName)) ∈ W0 := wm3 61 rfl rfl
theorem q3_62 : (Cond.methodLink "DikeWatch$Night" (124 : Nat) ({ cls := "java/lang/Integer", name := "compare", desc := "(II)I" } : MethodName)) ∈ W0 := wm3 62 rfl rfl
theorem q3_63 : (Cond.static ({ cls := "java/lang/Integer", name := "compare", desc := "(II)I" } : MethodName)) ∈ W0 := wm3 63 rfl rfl
theorem q3_64 : (Cond.code ({ cls := "java/lang/Integer", name := "compare", desc := "(II)I" } : MethodName) prog_12_method_40_code (2 : Nat) (Option.some ClassFile.FieldType.int)) ∈ W0 := wm3 64 rfl rfl
theorem q3_65 : (Cond.methodLink "DikeWatchLaw" (47 : Nat) ({ cls := "DikeWatch", name := "as", desc := "(II)I" } : MethodName)) ∈ W0 := wm3 65 rfl rfl
theorem q3_66 : (Cond.instanceMethod ({ cls := "DikeWatch", name := "as", desc := "(II)I" } : MethodName)) ∈ W0 := wm3 66 rfl rfl
theorem q3_67 : (Cond.selects "DikeWatch" ({ cls := "DikeWatch", name := "as", desc := "(II)I" } : MethodName) ({ cls := "DikeWatch", name := "as", desc := "(II)I" } : MethodName)) ∈ W0 := wm3 67 rfl rfl
theorem q3_68 : (Cond.code ({ cls := "DikeWatch", name := "as", desc := "(II)I" } : MethodName) prog_1_method_9_code (3 : Nat) (Option.some ClassFile.FieldType.int)) ∈ W0 := wm3 68 rfl rfl
theorem q3_69 : (Cond.methodLink "DikeWatch" (167 : Nat) ({ cls := "DikeWatch", name := "isOfKind", desc := "(II)Z" } : MethodName)) ∈ W0 := wm3 69 rfl rfl
theorem q3_70 : (Cond.static ({ cls := "DikeWatch", name := "isOfKind", desc := "(II)Z" } : MethodName)) ∈ W0 := wm3 70 rfl rfl
theorem q3_71 : (Cond.code ({ cls := "DikeWatch", name := "isOfKind", desc := "(II)Z" } : MethodName) prog_1_method_32_code (2 : Nat) (Option.some ClassFile.FieldType.boolean)) ∈ W0 := wm3 71 rfl rfl
theorem q3_72 : (Cond.methodLink "DikeWatch" (171 : Nat) ({ cls := "DikeWatch$Night", name := "heardBy", desc := "(I)I" } : MethodName)) ∈ W0 := wm3 72 rfl rfl
theorem q3_73 : (Cond.methodLink "DikeWatchLaw" (51 : Nat) ({ cls := "DikeWatch", name := "go", desc := "(I)I" } : MethodName)) ∈ W0 := wm3 73 rfl rfl
theorem q3_74 : (Cond.instanceMethod ({ cls := "DikeWatch", name := "go", desc := "(I)I" } : MethodName)) ∈ W0 := wm3 74 rfl rfl
theorem q3_75 : (Cond.selects "DikeWatch" ({ cls := "DikeWatch", name := "go", desc := "(I)I" } : MethodName) ({ cls := "DikeWatch", name := "go", desc := "(I)I" } : MethodName)) ∈ W0 := wm3 75 rfl rfl
theorem q3_76 : (Cond.code ({ cls := "DikeWatch", name := "go", desc := "(I)I" } : MethodName) prog_1_method_10_code (2 : Nat) (Option.some ClassFile.FieldType.int)) ∈ W0 := wm3 76 rfl rfl
theorem q3_77 : (Cond.methodLink "DikeWatch" (177 : Nat) ({ cls := "DikeWatch$Night", name := "passHours", desc := "(I)V" } : MethodName)) ∈ W0 := wm3 77 rfl rfl
theorem q3_78 : (Cond.instanceMethod ({ cls := "DikeWatch$Night", name := "passHours", desc := "(I)V" } : MethodName)) ∈ W0 := wm3 78 rfl rfl
theorem q3_79 : (Cond.selects "DikeWatch$Night" ({ cls := "DikeWatch$Night", name := "passHours", desc := "(I)V" } : MethodName) ({ cls := "DikeWatch$Night", name := "passHours", desc := "(I)V" } : MethodName)) ∈ W0 := wm3 79 rfl rfl
theorem q3_80 : (Cond.code ({ cls := "DikeWatch$Night", name := "passHours", desc := "(I)V" } : MethodName) prog_5_method_4_code (4 : Nat) (Option.none : Option ClassFile.FieldType)) ∈ W0 := wm3 80 rfl rfl
theorem q3_81 : (Cond.methodLink "DikeWatch$Night" (55 : Nat) ({ cls := "DikeWatch$Night", name := "growSeeps", desc := "()V" } : MethodName)) ∈ W0 := wm3 81 rfl rfl
theorem q3_83 : (Cond.instanceMethod ({ cls := "DikeWatch$Night", name := "growSeeps", desc := "()V" } : MethodName)) ∈ W0 := wm3 83 rfl rfl
theorem q3_84 : (Cond.code ({ cls := "DikeWatch$Night", name := "growSeeps", desc := "()V" } : MethodName) prog_5_method_5_code (2 : Nat) (Option.none : Option ClassFile.FieldType)) ∈ W0 := wm3 84 rfl rfl
theorem q3_85 : (Cond.methodLink "DikeWatch$Night" (72 : Nat) ({ cls := "DikeWatch$Told", name := "grown", desc := "(III)I" } : MethodName)) ∈ W0 := wm3 85 rfl rfl
theorem q3_86 : (Cond.instanceMethod ({ cls := "DikeWatch$Told", name := "grown", desc := "(III)I" } : MethodName)) ∈ W0 := wm3 86 rfl rfl
theorem q3_87 : (Cond.selects "DikeWatch$Told" ({ cls := "DikeWatch$Told", name := "grown", desc := "(III)I" } : MethodName) ({ cls := "DikeWatch$Told", name := "grown", desc := "(III)I" } : MethodName)) ∈ W0 := wm3 87 rfl rfl
theorem q3_88 : (Cond.code ({ cls := "DikeWatch$Told", name := "grown", desc := "(III)I" } : MethodName) prog_9_method_14_code (4 : Nat) (Option.some ClassFile.FieldType.int)) ∈ W0 := wm3 88 rfl rfl
theorem q3_89 : (Cond.methodLink "DikeWatch$Told" (78 : Nat) ({ cls := "DikeWatch$Told", name := "tideAt", desc := "(I)I" } : MethodName)) ∈ W0 := wm3 89 rfl rfl
theorem q3_90 : (Cond.methodLink "DikeWatch$Told" (82 : Nat) ({ cls := "java/lang/Math", name := "min", desc := "(II)I" } : MethodName)) ∈ W0 := wm3 90 rfl rfl
theorem q3_91 : (Cond.static ({ cls := "java/lang/Math", name := "min", desc := "(II)I" } : MethodName)) ∈ W0 := wm3 91 rfl rfl
theorem q3_92 : (Cond.code ({ cls := "java/lang/Math", name := "min", desc := "(II)I" } : MethodName) prog_13_method_69_code (2 : Nat) (Option.some ClassFile.FieldType.int)) ∈ W0 := wm3 92 rfl rfl
theorem q3_93 : (Cond.methodLink "DikeWatch$Night" (61 : Nat) ({ cls := "DikeWatch$Night", name := "walk", desc := "(I)V" } : MethodName)) ∈ W0 := wm3 93 rfl rfl
theorem q3_94 : (Cond.instanceMethod ({ cls := "DikeWatch$Night", name := "walk", desc := "(I)V" } : MethodName)) ∈ W0 := wm3 94 rfl rfl
theorem q3_95 : (Cond.selects "DikeWatch$Night" ({ cls := "DikeWatch$Night", name := "walk", desc := "(I)V" } : MethodName) ({ cls := "DikeWatch$Night", name := "walk", desc := "(I)V" } : MethodName)) ∈ W0 := wm3 95 rfl rfl
theorem q3_96 : (Cond.code ({ cls := "DikeWatch$Night", name := "walk", desc := "(I)V" } : MethodName) prog_5_method_6_code (4 : Nat) (Option.none : Option ClassFile.FieldType)) ∈ W0 := wm3 96 rfl rfl
theorem q3_97 : (Cond.methodLink "DikeWatch$Night" (79 : Nat) ({ cls := "DikeWatch$Night", name := "goesToLesser", desc := "(I)Z" } : MethodName)) ∈ W0 := wm3 97 rfl rfl
theorem q3_98 : (Cond.methodLink "DikeWatchLaw" (55 : Nat) ({ cls := "DikeWatch", name := "fill", desc := "(I)I" } : MethodName)) ∈ W0 := wm3 98 rfl rfl
theorem q3_99 : (Cond.instanceMethod ({ cls := "DikeWatch", name := "fill", desc := "(I)I" } : MethodName)) ∈ W0 := wm3 99 rfl rfl
theorem q3_100 : (Cond.selects "DikeWatch" ({ cls := "DikeWatch", name := "fill", desc := "(I)I" } : MethodName) ({ cls := "DikeWatch", name := "fill", desc := "(I)I" } : MethodName)) ∈ W0 := wm3 100 rfl rfl
theorem q3_101 : (Cond.code ({ cls := "DikeWatch", name := "fill", desc := "(I)I" } : MethodName) prog_1_method_11_code (2 : Nat) (Option.some ClassFile.FieldType.int)) ∈ W0 := wm3 101 rfl rfl
theorem q3_102 : (Cond.methodLink "DikeWatch" (180 : Nat) ({ cls := "DikeWatch$Told", name := "hasYard", desc := "(I)Z" } : MethodName)) ∈ W0 := wm3 102 rfl rfl
theorem q3_103 : (Cond.instanceMethod ({ cls := "DikeWatch$Told", name := "hasYard", desc := "(I)Z" } : MethodName)) ∈ W0 := wm3 103 rfl rfl
theorem q3_104 : (Cond.selects "DikeWatch$Told" ({ cls := "DikeWatch$Told", name := "hasYard", desc := "(I)Z" } : MethodName) ({ cls := "DikeWatch$Told", name := "hasYard", desc := "(I)Z" } : MethodName)) ∈ W0 := wm3 104 rfl rfl
theorem q3_105 : (Cond.code ({ cls := "DikeWatch$Told", name := "hasYard", desc := "(I)Z" } : MethodName) prog_9_method_8_code (2 : Nat) (Option.some ClassFile.FieldType.boolean)) ∈ W0 := wm3 105 rfl rfl
theorem q3_106 : (Cond.methodLink "DikeWatch" (183 : Nat) ({ cls := "DikeWatch$Night", name := "fillAt", desc := "(I)I" } : MethodName)) ∈ W0 := wm3 106 rfl rfl
theorem q3_107 : (Cond.instanceMethod ({ cls := "DikeWatch$Night", name := "fillAt", desc := "(I)I" } : MethodName)) ∈ W0 := wm3 107 rfl rfl
theorem q3_108 : (Cond.selects "DikeWatch$Night" ({ cls := "DikeWatch$Night", name := "fillAt", desc := "(I)I" } : MethodName) ({ cls := "DikeWatch$Night", name := "fillAt", desc := "(I)I" } : MethodName)) ∈ W0 := wm3 108 rfl rfl
theorem q3_109 : (Cond.code ({ cls := "DikeWatch$Night", name := "fillAt", desc := "(I)I" } : MethodName) prog_5_method_16_code (8 : Nat) (Option.some ClassFile.FieldType.int)) ∈ W0 := wm3 109 rfl rfl
theorem q3_110 : (Cond.methodLink "DikeWatch$Night" (129 : Nat) ({ cls := "DikeWatch$Night", name := "seepsAt", desc := "(I)I" } : MethodName)) ∈ W0 := wm3 110 rfl rfl
theorem q3_111 : (Cond.instanceMethod ({ cls := "DikeWatch$Night", name := "seepsAt", desc := "(I)I" } : MethodName)) ∈ W0 := wm3 111 rfl rfl
theorem q3_112 : (Cond.selects "DikeWatch$Night" ({ cls := "DikeWatch$Night", name := "seepsAt", desc := "(I)I" } : MethodName) ({ cls := "DikeWatch$Night", name := "seepsAt", desc := "(I)I" } : MethodName)) ∈ W0 := wm3 112 rfl rfl
theorem q3_113 : (Cond.code ({ cls := "DikeWatch$Night", name := "seepsAt", desc := "(I)I" } : MethodName) prog_5_method_10_code (4 : Nat) (Option.some ClassFile.FieldType.int)) ∈ W0 := wm3 113 rfl rfl
theorem q3_114 : (Cond.methodLink "DikeWatch$Night" (132 : Nat) ({ cls := "DikeWatch$Night", name := "brokenSeeps", desc := "()I" } : MethodName)) ∈ W0 := wm3 114 rfl rfl
theorem q3_115 : (Cond.instanceMethod ({ cls := "DikeWatch$Night", name := "brokenSeeps", desc := "()I" } : MethodName)) ∈ W0 := wm3 115 rfl rfl
theorem q3_116 : (Cond.selects "DikeWatch$Night" ({ cls := "DikeWatch$Night", name := "brokenSeeps", desc := "()I" } : MethodName) ({ cls := "DikeWatch$Night", name := "brokenSeeps", desc := "()I" } : MethodName)) ∈ W0 := wm3 116 rfl rfl
theorem q3_117 : (Cond.code ({ cls := "DikeWatch$Night", name := "brokenSeeps", desc := "()I" } : MethodName) prog_5_method_9_code (3 : Nat) (Option.some ClassFile.FieldType.int)) ∈ W0 := wm3 117 rfl rfl
theorem q3_118 : (Cond.methodLink "DikeWatch$Night" (136 : Nat) ({ cls := "DikeWatch$Night", name := "toldBy", desc := "(I)I" } : MethodName)) ∈ W0 := wm3 118 rfl rfl
theorem q3_120 : (Cond.static ({ cls := "DikeWatch", name := "orangesFor", desc := "(II)I" } : MethodName)) ∈ W0 := wm3 120 rfl rfl
theorem q3_121 : (Cond.code ({ cls := "DikeWatch", name := "orangesFor", desc := "(II)I" } : MethodName) prog_1_method_33_code (2 : Nat) (Option.some ClassFile.FieldType.int)) ∈ W0 := wm3 121 rfl rfl
theorem q3_122 : (Cond.methodLink "DikeWatch" (287 : Nat) ({ cls := "java/lang/Math", name := "max", desc := "(II)I" } : MethodName)) ∈ W0 := wm3 122 rfl rfl
theorem q3_123 : (Cond.methodLink "DikeWatchLaw" (59 : Nat) ({ cls := "DikeWatch", name := "keep", desc := "(I)I" } : MethodName)) ∈ W0 := wm3 123 rfl rfl
theorem q3_124 : (Cond.instanceMethod ({ cls := "DikeWatch", name := "keep", desc := "(I)I" } : MethodName)) ∈ W0 := wm3 124 rfl rfl
theorem q3_125 : (Cond.selects "DikeWatch" ({ cls := "DikeWatch", name := "keep", desc := "(I)I" } : MethodName) ({ cls := "DikeWatch", name := "keep", desc := "(I)I" } : MethodName)) ∈ W0 := wm3 125 rfl rfl
theorem q3_126 : (Cond.code ({ cls := "DikeWatch", name := "keep", desc := "(I)I" } : MethodName) prog_1_method_12_code (2 : Nat) (Option.some ClassFile.FieldType.int)) ∈ W0 := wm3 126 rfl rfl
theorem q3_127 : (Cond.methodLink "DikeWatch" (186 : Nat) ({ cls := "DikeWatch", name := "keptNight", desc := "(I)LDikeWatch$Night;" } : MethodName)) ∈ W0 := wm3 127 rfl rfl
theorem q3_129 : (Cond.instanceMethod ({ cls := "DikeWatch", name := "keptNight", desc := "(I)LDikeWatch$Night;" } : MethodName)) ∈ W0 := wm3 129 rfl rfl
theorem q3_130 : (Cond.code ({ cls := "DikeWatch", name := "keptNight", desc := "(I)LDikeWatch$Night;" } : MethodName) prog_1_method_27_code (2 : Nat) (Option.some (ClassFile.FieldType.object "DikeWatch$Night"))) ∈ W0 := wm3 130 rfl rfl
theorem q3_131 : (Cond.methodLink "DikeWatch" (190 : Nat) ({ cls := "DikeWatch$Night", name := "copyFrom", desc := "(LDikeWatch$Night;)V" } : MethodName)) ∈ W0 := wm3 131 rfl rfl
theorem q3_132 : (Cond.instanceMethod ({ cls := "DikeWatch$Night", name := "copyFrom", desc := "(LDikeWatch$Night;)V" } : MethodName)) ∈ W0 := wm3 132 rfl rfl
theorem q3_133 : (Cond.selects "DikeWatch$Night" ({ cls := "DikeWatch$Night", name := "copyFrom", desc := "(LDikeWatch$Night;)V" } : MethodName) ({ cls := "DikeWatch$Night", name := "copyFrom", desc := "(LDikeWatch$Night;)V" } : MethodName)) ∈ W0 := wm3 133 rfl rfl
theorem q3_134 : (Cond.code ({ cls := "DikeWatch$Night", name := "copyFrom", desc := "(LDikeWatch$Night;)V" } : MethodName) prog_5_method_3_code (2 : Nat) (Option.none : Option ClassFile.FieldType)) ∈ W0 := wm3 134 rfl rfl
theorem q3_135 : (Cond.methodLink "DikeWatchLaw" (63 : Nat) ({ cls := "DikeWatch", name := "back", desc := "(I)I" } : MethodName)) ∈ W0 := wm3 135 rfl rfl
theorem q3_136 : (Cond.instanceMethod ({ cls := "DikeWatch", name := "back", desc := "(I)I" } : MethodName)) ∈ W0 := wm3 136 rfl rfl
theorem q3_137 : (Cond.selects "DikeWatch" ({ cls := "DikeWatch", name := "back", desc := "(I)I" } : MethodName) ({ cls := "DikeWatch", name := "back", desc := "(I)I" } : MethodName)) ∈ W0 := wm3 137 rfl rfl
theorem q3_138 : (Cond.code ({ cls := "DikeWatch", name := "back", desc := "(I)I" } : MethodName) prog_1_method_13_code (2 : Nat) (Option.some ClassFile.FieldType.int)) ∈ W0 := wm3 138 rfl rfl
theorem q3_139 : (Cond.methodLink "DikeWatch" (193 : Nat) ({ cls := "DikeWatch", name := "hasBit", desc := "(II)Z" } : MethodName)) ∈ W0 := wm3 139 rfl rfl
theorem q3_140 : (Cond.methodLink "DikeWatchLaw" (67 : Nat) ({ cls := "DikeWatch", name := "later", desc := "(III)I" } : MethodName)) ∈ W0 := wm3 140 rfl rfl
theorem q3_141 : (Cond.instanceMethod ({ cls := "DikeWatch", name := "later", desc := "(III)I" } : MethodName)) ∈ W0 := wm3 141 rfl rfl
theorem q3_142 : (Cond.selects "DikeWatch" ({ cls := "DikeWatch", name := "later", desc := "(III)I" } : MethodName) ({ cls := "DikeWatch", name := "later", desc := "(III)I" } : MethodName)) ∈ W0 := wm3 142 rfl rfl
theorem q3_143 : (Cond.code ({ cls := "DikeWatch", name := "later", desc := "(III)I" } : MethodName) prog_1_method_14_code (6 : Nat) (Option.some ClassFile.FieldType.int)) ∈ W0 := wm3 143 rfl rfl
theorem q3_144 : (Cond.methodLink "DikeWatch" (196 : Nat) ({ cls := "DikeWatch$Foretold", name := "nightIn", desc := "(I)LDikeWatch$Night;" } : MethodName)) ∈ W0 := wm3 144 rfl rfl
theorem q3_145 : (Cond.instanceMethod ({ cls := "DikeWatch$Foretold", name := "nightIn", desc := "(I)LDikeWatch$Night;" } : MethodName)) ∈ W0 := wm3 145 rfl rfl
theorem q3_146 : (Cond.selects "DikeWatch$Foretold" ({ cls := "DikeWatch$Foretold", name := "nightIn", desc := "(I)LDikeWatch$Night;" } : MethodName) ({ cls := "DikeWatch$Foretold", name := "nightIn", desc := "(I)LDikeWatch$Night;" } : MethodName)) ∈ W0 := wm3 146 rfl rfl
theorem q3_147 : (Cond.code ({ cls := "DikeWatch$Foretold", name := "nightIn", desc := "(I)LDikeWatch$Night;" } : MethodName) prog_3_method_2_code (2 : Nat) (Option.some (ClassFile.FieldType.object "DikeWatch$Night"))) ∈ W0 := wm3 147 rfl rfl
theorem q3_148 : (Cond.methodLink "DikeWatch$Foretold" (29 : Nat) ({ cls := "DikeWatch$Night", name := "copyFrom", desc := "(LDikeWatch$Night;)V" } : MethodName)) ∈ W0 := wm3 148 rfl rfl
theorem q3_149 : (Cond.methodLink "DikeWatch$Foretold" (35 : Nat) ({ cls := "DikeWatch$Night", name := "passHours", desc := "(I)V" } : MethodName)) ∈ W0 := wm3 149 rfl rfl
theorem q3_150 : (Cond.methodLink "DikeWatchLaw" (72 : Nat) ({ cls := "DikeWatch", name := "breaks", desc := "(I)I" } : MethodName)) ∈ W0 := wm3 150 rfl rfl
theorem q3_151 : (Cond.instanceMethod ({ cls := "DikeWatch", name := "breaks", desc := "(I)I" } : MethodName)) ∈ W0 := wm3 151 rfl rfl
theorem q3_152 : (Cond.selects "DikeWatch" ({ cls := "DikeWatch", name := "breaks", desc := "(I)I" } : MethodName) ({ cls := "DikeWatch", name := "breaks", desc := "(I)I" } : MethodName)) ∈ W0 := wm3 152 rfl rfl
theorem q3_153 : (Cond.code ({ cls := "DikeWatch", name := "breaks", desc := "(I)I" } : MethodName) prog_1_method_15_code (2 : Nat) (Option.some ClassFile.FieldType.int)) ∈ W0 := wm3 153 rfl rfl
theorem q3_154 : (Cond.methodLink "DikeWatch" (199 : Nat) ({ cls := "DikeWatch$Foretold", name := "hoursToBreak", desc := "(I)I" } : MethodName)) ∈ W0 := wm3 154 rfl rfl
theorem q3_155 : (Cond.instanceMethod ({ cls := "DikeWatch$Foretold", name := "hoursToBreak", desc := "(I)I" } : MethodName)) ∈ W0 := wm3 155 rfl rfl
theorem q3_156 : (Cond.selects "DikeWatch$Foretold" ({ cls := "DikeWatch$Foretold", name := "hoursToBreak", desc := "(I)I" } : MethodName) ({ cls := "DikeWatch$Foretold", name := "hoursToBreak", desc := "(I)I" } : MethodName)) ∈ W0 := wm3 156 rfl rfl
theorem q3_157 : (Cond.code ({ cls := "DikeWatch$Foretold", name := "hoursToBreak", desc := "(I)I" } : MethodName) prog_3_method_3_code (4 : Nat) (Option.some ClassFile.FieldType.int)) ∈ W0 := wm3 157 rfl rfl
theorem q3_158 : (Cond.methodLink "DikeWatch$Foretold" (46 : Nat) ({ cls := "DikeWatch$Told", name := "grown", desc := "(III)I" } : MethodName)) ∈ W0 := wm3 158 rfl rfl
theorem q3_159 : (Cond.methodLink "DikeWatchLaw" (76 : Nat) ({ cls := "DikeWatch", name := "missed", desc := "(I)I" } : MethodName)) ∈ W0 := wm3 159 rfl rfl
theorem q3_160 : (Cond.instanceMethod ({ cls := "DikeWatch", name := "missed", desc := "(I)I" } : MethodName)) ∈ W0 := wm3 160 rfl rfl
theorem q3_161 : (Cond.selects "DikeWatch" ({ cls := "DikeWatch", name := "missed", desc := "(I)I" } : MethodName) ({ cls := "DikeWatch", name := "missed", desc := "(I)I" } : MethodName)) ∈ W0 := wm3 161 rfl rfl
theorem q3_162 : (Cond.code ({ cls := "DikeWatch", name := "missed", desc := "(I)I" } : MethodName) prog_1_method_16_code (2 : Nat) (Option.some ClassFile.FieldType.int)) ∈ W0 := wm3 162 rfl rfl
theorem q3_163 : (Cond.methodLink "DikeWatch" (202 : Nat) ({ cls := "DikeWatch$Told", name := "hasChildren", desc := "(I)Z" } : MethodName)) ∈ W0 := wm3 163 rfl rfl
theorem q3_164 : (Cond.instanceMethod ({ cls := "DikeWatch$Told", name := "hasChildren", desc := "(I)Z" } : MethodName)) ∈ W0 := wm3 164 rfl rfl
theorem q3_165 : (Cond.selects "DikeWatch$Told" ({ cls := "DikeWatch$Told", name := "hasChildren", desc := "(I)Z" } : MethodName) ({ cls := "DikeWatch$Told", name := "hasChildren", desc := "(I)Z" } : MethodName)) ∈ W0 := wm3 165 rfl rfl
theorem q3_166 : (Cond.code ({ cls := "DikeWatch$Told", name := "hasChildren", desc := "(I)Z" } : MethodName) prog_9_method_12_code (2 : Nat) (Option.some ClassFile.FieldType.boolean)) ∈ W0 := wm3 166 rfl rfl
theorem q3_168 : (Cond.static ({ cls := "DikeWatch", name := "isSetOf", desc := "(II)Z" } : MethodName)) ∈ W0 := wm3 168 rfl rfl
theorem q3_169 : (Cond.code ({ cls := "DikeWatch", name := "isSetOf", desc := "(II)Z" } : MethodName) prog_1_method_30_code (2 : Nat) (Option.some ClassFile.FieldType.boolean)) ∈ W0 := wm3 169 rfl rfl
theorem q3_170 : (Cond.methodLink "DikeWatch" (205 : Nat) ({ cls := "DikeWatch$Foretold", name := "missedBy", desc := "(I)I" } : MethodName)) ∈ W0 := wm3 170 rfl rfl
theorem q3_171 : (Cond.instanceMethod ({ cls := "DikeWatch$Foretold", name := "missedBy", desc := "(I)I" } : MethodName)) ∈ W0 := wm3 171 rfl rfl
theorem q3_172 : (Cond.selects "DikeWatch$Foretold" ({ cls := "DikeWatch$Foretold", name := "missedBy", desc := "(I)I" } : MethodName) ({ cls := "DikeWatch$Foretold", name := "missedBy", desc := "(I)I" } : MethodName)) ∈ W0 := wm3 172 rfl rfl
theorem q3_173 : (Cond.code ({ cls := "DikeWatch$Foretold", name := "missedBy", desc := "(I)I" } : MethodName) prog_3_method_8_code (4 : Nat) (Option.some ClassFile.FieldType.int)) ∈ W0 := wm3 173 rfl rfl
theorem q3_174 : (Cond.methodLink "DikeWatch$Foretold" (91 : Nat) ({ cls := "DikeWatch$Foretold", name := "findBreaking", desc := "()I" } : MethodName)) ∈ W0 := wm3 174 rfl rfl
theorem q3_176 : (Cond.instanceMethod ({ cls := "DikeWatch$Foretold", name := "findBreaking", desc := "()I" } : MethodName)) ∈ W0 := wm3 176 rfl rfl
theorem q3_177 : (Cond.code ({ cls := "DikeWatch$Foretold", name := "findBreaking", desc := "()I" } : MethodName) prog_3_method_4_code (3 : Nat) (Option.some ClassFile.FieldType.int)) ∈ W0 := wm3 177 rfl rfl
theorem q3_178 : (Cond.methodLink "DikeWatch$Foretold" (55 : Nat) ({ cls := "DikeWatch$Night", name := "isFilled", desc := "(I)Z" } : MethodName)) ∈ W0 := wm3 178 rfl rfl
theorem q3_179 : (Cond.methodLink "DikeWatch$Foretold" (59 : Nat) ({ cls := "DikeWatch$Foretold", name := "hoursToBreak", desc := "(I)I" } : MethodName)) ∈ W0 := wm3 179 rfl rfl
theorem q3_181 : (Cond.methodLink "DikeWatch$Foretold" (98 : Nat) ({ cls := "DikeWatch$Foretold", name := "findHeardInTime", desc := "(II)I" } : MethodName)) ∈ W0 := wm3 181 rfl rfl
theorem q3_183 : (Cond.instanceMethod ({ cls := "DikeWatch$Foretold", name := "findHeardInTime", desc := "(II)I" } : MethodName)) ∈ W0 := wm3 183 rfl rfl
theorem q3_184 : (Cond.code ({ cls := "DikeWatch$Foretold", name := "findHeardInTime", desc := "(II)I" } : MethodName) prog_3_method_6_code (7 : Nat) (Option.some ClassFile.FieldType.int)) ∈ W0 := wm3 184 rfl rfl
theorem q3_185 : (Cond.methodLink "DikeWatch$Foretold" (76 : Nat) ({ cls := "DikeWatch$Foretold", name := "lastBreakHour", desc := "(I)I" } : MethodName)) ∈ W0 := wm3 185 rfl rfl
theorem q3_187 : (Cond.instanceMethod ({ cls := "DikeWatch$Foretold", name := "lastBreakHour", desc := "(I)I" } : MethodName)) ∈ W0 := wm3 187 rfl rfl
theorem q3_188 : (Cond.code ({ cls := "DikeWatch$Foretold", name := "lastBreakHour", desc := "(I)I" } : MethodName) prog_3_method_5_code (4 : Nat) (Option.some ClassFile.FieldType.int)) ∈ W0 := wm3 188 rfl rfl
theorem q3_189 : (Cond.methodLink "DikeWatch$Foretold" (67 : Nat) ({ cls := "java/lang/Math", name := "max", desc := "(II)I" } : MethodName)) ∈ W0 := wm3 189 rfl rfl
theorem q3_190 : (Cond.methodLink "DikeWatch$Foretold" (79 : Nat) ({ cls := "java/lang/Math", name := "min", desc := "(II)I" } : MethodName)) ∈ W0 := wm3 190 rfl rfl
theorem q3_191 : (Cond.methodLink "DikeWatch$Foretold" (82 : Nat) ({ cls := "DikeWatch$Night", name := "heardBy", desc := "(I)I" } : MethodName)) ∈ W0 := wm3 191 rfl rfl
theorem q3_192 : (Cond.methodLink "DikeWatch$Foretold" (85 : Nat) ({ cls := "DikeWatch$Foretold", name := "unbrokenIn", desc := "(II)I" } : MethodName)) ∈ W0 := wm3 192 rfl rfl
theorem q3_194 : (Cond.instanceMethod ({ cls := "DikeWatch$Foretold", name := "unbrokenIn", desc := "(II)I" } : MethodName)) ∈ W0 := wm3 194 rfl rfl
theorem q3_195 : (Cond.code ({ cls := "DikeWatch$Foretold", name := "unbrokenIn", desc := "(II)I" } : MethodName) prog_3_method_7_code (5 : Nat) (Option.some ClassFile.FieldType.int)) ∈ W0 := wm3 195 rfl rfl
theorem q3_196 : (Cond.methodLink "DikeWatch$Foretold" (88 : Nat) ({ cls := "DikeWatch$Night", name := "walk", desc := "(I)V" } : MethodName)) ∈ W0 := wm3 196 rfl rfl
theorem q3_197 : (Cond.methodLink "DikeWatchLaw" (80 : Nat) ({ cls := "DikeWatch", name := "watch", desc := "(I)I" } : MethodName)) ∈ W0 := wm3 197 rfl rfl
theorem q3_198 : (Cond.instanceMethod ({ cls := "DikeWatch", name := "watch", desc := "(I)I" } : MethodName)) ∈ W0 := wm3 198 rfl rfl
theorem q3_199 : (Cond.selects "DikeWatch" ({ cls := "DikeWatch", name := "watch", desc := "(I)I" } : MethodName) ({ cls := "DikeWatch", name := "watch", desc := "(I)I" } : MethodName)) ∈ W0 := wm3 199 rfl rfl
theorem q3_200 : (Cond.code ({ cls := "DikeWatch", name := "watch", desc := "(I)I" } : MethodName) prog_1_method_17_code (3 : Nat) (Option.some ClassFile.FieldType.int)) ∈ W0 := wm3 200 rfl rfl
theorem q3_201 : (Cond.methodLink "DikeWatch" (208 : Nat) ({ cls := "DikeWatch$Foretold", name := "leastWatch", desc := "()I" } : MethodName)) ∈ W0 := wm3 201 rfl rfl
theorem q3_202 : (Cond.instanceMethod ({ cls := "DikeWatch$Foretold", name := "leastWatch", desc := "()I" } : MethodName)) ∈ W0 := wm3 202 rfl rfl
theorem q3_203 : (Cond.selects "DikeWatch$Foretold" ({ cls := "DikeWatch$Foretold", name := "leastWatch", desc := "()I" } : MethodName) ({ cls := "DikeWatch$Foretold", name := "leastWatch", desc := "()I" } : MethodName)) ∈ W0 := wm3 203 rfl rfl
theorem q3_204 : (Cond.code ({ cls := "DikeWatch$Foretold", name := "leastWatch", desc := "()I" } : MethodName) prog_3_method_9_code (5 : Nat) (Option.some ClassFile.FieldType.int)) ∈ W0 := wm3 204 rfl rfl
theorem q3_205 : (Cond.methodLink "DikeWatch$Foretold" (101 : Nat) ({ cls := "java/lang/Integer", name := "bitCount", desc := "(I)I" } : MethodName)) ∈ W0 := wm3 205 rfl rfl
theorem q3_206 : (Cond.static ({ cls := "java/lang/Integer", name := "bitCount", desc := "(I)I" } : MethodName)) ∈ W0 := wm3 206 rfl rfl
theorem q3_207 : (Cond.code ({ cls := "java/lang/Integer", name := "bitCount", desc := "(I)I" } : MethodName) prog_12_method_49_code (1 : Nat) (Option.some ClassFile.FieldType.int)) ∈ W0 := wm3 207 rfl rfl
theorem q3_208 : (Cond.constant "java/lang/Integer" (265 : Nat) (1431655765 : Int32)) ∈ W0 := wm3 208 rfl rfl
theorem q3_209 : (Cond.constant "java/lang/Integer" (266 : Nat) (858993459 : Int32)) ∈ W0 := wm3 209 rfl rfl
theorem q3_210 : (Cond.constant "java/lang/Integer" (267 : Nat) (252645135 : Int32)) ∈ W0 := wm3 210 rfl rfl
theorem q3_211 : (Cond.methodLink "DikeWatch$Foretold" (106 : Nat) ({ cls := "DikeWatch$Foretold", name := "heardTogether", desc := "(I)I" } : MethodName)) ∈ W0 := wm3 211 rfl rfl
theorem q3_213 : (Cond.instanceMethod ({ cls := "DikeWatch$Foretold", name := "heardTogether", desc := "(I)I" } : MethodName)) ∈ W0 := wm3 213 rfl rfl
theorem q3_214 : (Cond.code ({ cls := "DikeWatch$Foretold", name := "heardTogether", desc := "(I)I" } : MethodName) prog_3_method_10_code (4 : Nat) (Option.some ClassFile.FieldType.int)) ∈ W0 := wm3 214 rfl rfl
theorem q3_215 : (Cond.methodLink "DikeWatch" (211 : Nat) ({ cls := "java/lang/Integer", name := "bitCount", desc := "(I)I" } : MethodName)) ∈ W0 := wm3 215 rfl rfl
theorem q3_216 : (Cond.methodLink "DikeWatchLaw" (84 : Nat) ({ cls := "DikeWatch", name := "order", desc := "(III)I" } : MethodName)) ∈ W0 := wm3 216 rfl rfl
theorem q3_217 : (Cond.instanceMethod ({ cls := "DikeWatch", name := "order", desc := "(III)I" } : MethodName)) ∈ W0 := wm3 217 rfl rfl
theorem q3_218 : (Cond.selects "DikeWatch" ({ cls := "DikeWatch", name := "order", desc := "(III)I" } : MethodName) ({ cls := "DikeWatch", name := "order", desc := "(III)I" } : MethodName)) ∈ W0 := wm3 218 rfl rfl
theorem q3_219 : (Cond.code ({ cls := "DikeWatch", name := "order", desc := "(III)I" } : MethodName) prog_1_method_18_code (4 : Nat) (Option.some ClassFile.FieldType.int)) ∈ W0 := wm3 219 rfl rfl
theorem q3_220 : (Cond.methodLink "DikeWatch" (216 : Nat) ({ cls := "DikeWatch$Told", name := "hasSeeps", desc := "(I)Z" } : MethodName)) ∈ W0 := wm3 220 rfl rfl
theorem q3_221 : (Cond.instanceMethod ({ cls := "DikeWatch$Told", name := "hasSeeps", desc := "(I)Z" } : MethodName)) ∈ W0 := wm3 221 rfl rfl
theorem q3_222 : (Cond.selects "DikeWatch$Told" ({ cls := "DikeWatch$Told", name := "hasSeeps", desc := "(I)Z" } : MethodName) ({ cls := "DikeWatch$Told", name := "hasSeeps", desc := "(I)Z" } : MethodName)) ∈ W0 := wm3 222 rfl rfl
theorem q3_223 : (Cond.code ({ cls := "DikeWatch$Told", name := "hasSeeps", desc := "(I)Z" } : MethodName) prog_9_method_11_code (2 : Nat) (Option.some ClassFile.FieldType.boolean)) ∈ W0 := wm3 223 rfl rfl
theorem q3_224 : (Cond.methodLink "DikeWatch" (222 : Nat) ({ cls := "DikeWatch$Men", name := "findBestRow", desc := "(II)V" } : MethodName)) ∈ W0 := wm3 224 rfl rfl
theorem q3_225 : (Cond.instanceMethod ({ cls := "DikeWatch$Men", name := "findBestRow", desc := "(II)V" } : MethodName)) ∈ W0 := wm3 225 rfl rfl
theorem q3_226 : (Cond.selects "DikeWatch$Men" ({ cls := "DikeWatch$Men", name := "findBestRow", desc := "(II)V" } : MethodName) ({ cls := "DikeWatch$Men", name := "findBestRow", desc := "(II)V" } : MethodName)) ∈ W0 := wm3 226 rfl rfl
theorem q3_227 : (Cond.code ({ cls := "DikeWatch$Men", name := "findBestRow", desc := "(II)V" } : MethodName) prog_4_method_3_code (6 : Nat) (Option.none : Option ClassFile.FieldType)) ∈ W0 := wm3 227 rfl rfl
theorem q3_228 : (Cond.methodLink "DikeWatch$Men" (36 : Nat) ({ cls := "DikeWatch$Men", name := "layFirstRow", desc := "(I)V" } : MethodName)) ∈ W0 := wm3 228 rfl rfl
theorem q3_230 : (Cond.instanceMethod ({ cls := "DikeWatch$Men", name := "layFirstRow", desc := "(I)V" } : MethodName)) ∈ W0 := wm3 230 rfl rfl
theorem q3_231 : (Cond.code ({ cls := "DikeWatch$Men", name := "layFirstRow", desc := "(I)V" } : MethodName) prog_4_method_4_code (3 : Nat) (Option.none : Option ClassFile.FieldType)) ∈ W0 := wm3 231 rfl rfl
theorem q3_233 : (Cond.methodLink "DikeWatch$Men" (63 : Nat) ({ cls := "DikeWatch$Foretold", name := "hoursToBreak", desc := "(I)I" } : MethodName)) ∈ W0 := wm3 233 rfl rfl
theorem q3_234 : (Cond.methodLink "DikeWatch$Men" (40 : Nat) ({ cls := "DikeWatch$Men", name := "lostByRow", desc := "(I)I" } : MethodName)) ∈ W0 := wm3 234 rfl rfl
theorem q3_236 : (Cond.instanceMethod ({ cls := "DikeWatch$Men", name := "lostByRow", desc := "(I)I" } : MethodName)) ∈ W0 := wm3 236 rfl rfl
theorem q3_237 : (Cond.code ({ cls := "DikeWatch$Men", name := "lostByRow", desc := "(I)I" } : MethodName) prog_4_method_5_code (7 : Nat) (Option.some ClassFile.FieldType.int)) ∈ W0 := wm3 237 rfl rfl
theorem q3_238 : (Cond.methodLink "DikeWatch$Men" (71 : Nat) ({ cls := "java/lang/Math", name := "abs", desc := "(I)I" } : MethodName)) ∈ W0 := wm3 238 rfl rfl
theorem q3_239 : (Cond.methodLink "DikeWatch$Men" (44 : Nat) ({ cls := "java/lang/System", name := "arraycopy", desc := "(Ljava/lang/Object;ILjava/lang/Object;II)V" } : MethodName)) ∈ W0 := wm3 239 rfl rfl
theorem q4_0 : (Cond.methodLink "DikeWatch$Men" (50 : Nat) ({ cls := "DikeWatch$Men", name := "layNextRow", desc := "()Z" } : MethodName)) ∈ W0 := wm4 0 rfl rfl
theorem q4_2 : (Cond.instanceMethod ({ cls := "DikeWatch$Men", name := "layNextRow", desc := "()Z" } : MethodName)) ∈ W0 := wm4 2 rfl rfl
theorem q4_3 : (Cond.code ({ cls := "DikeWatch$Men", name := "layNextRow", desc := "()Z" } : MethodName) prog_4_method_6_code (5 : Nat) (Option.some ClassFile.FieldType.boolean)) ∈ W0 := wm4 3 rfl rfl
theorem q4_4 : (Cond.methodLink "DikeWatch$Men" (76 : Nat) ({ cls := "DikeWatch$Men", name := "swap", desc := "(II)V" } : MethodName)) ∈ W0 := wm4 4 rfl rfl
theorem q4_6 : (Cond.instanceMethod ({ cls := "DikeWatch$Men", name := "swap", desc := "(II)V" } : MethodName)) ∈ W0 := wm4 6 rfl rfl
theorem q4_7 : (Cond.code ({ cls := "DikeWatch$Men", name := "swap", desc := "(II)V" } : MethodName) prog_4_method_7_code (4 : Nat) (Option.none : Option ClassFile.FieldType)) ∈ W0 := wm4 7 rfl rfl
theorem q4_8 : (Cond.methodLink "DikeWatch" (229 : Nat) ({ cls := "DikeWatch$Men", name := "bestAt", desc := "(I)I" } : MethodName)) ∈ W0 := wm4 8 rfl rfl
theorem q4_9 : (Cond.instanceMethod ({ cls := "DikeWatch$Men", name := "bestAt", desc := "(I)I" } : MethodName)) ∈ W0 := wm4 9 rfl rfl
theorem q4_10 : (Cond.selects "DikeWatch$Men" ({ cls := "DikeWatch$Men", name := "bestAt", desc := "(I)I" } : MethodName) ({ cls := "DikeWatch$Men", name := "bestAt", desc := "(I)I" } : MethodName)) ∈ W0 := wm4 10 rfl rfl
theorem q4_11 : (Cond.code ({ cls := "DikeWatch$Men", name := "bestAt", desc := "(I)I" } : MethodName) prog_4_method_2_code (2 : Nat) (Option.some ClassFile.FieldType.int)) ∈ W0 := wm4 11 rfl rfl
theorem q4_12 : (Cond.methodLink "DikeWatchLaw" (88 : Nat) ({ cls := "DikeWatch", name := "storms", desc := "(IIII)J" } : MethodName)) ∈ W0 := wm4 12 rfl rfl
theorem q4_13 : (Cond.instanceMethod ({ cls := "DikeWatch", name := "storms", desc := "(IIII)J" } : MethodName)) ∈ W0 := wm4 13 rfl rfl
theorem q4_14 : (Cond.selects "DikeWatch" ({ cls := "DikeWatch", name := "storms", desc := "(IIII)J" } : MethodName) ({ cls := "DikeWatch", name := "storms", desc := "(IIII)J" } : MethodName)) ∈ W0 := wm4 14 rfl rfl
theorem q4_15 : (Cond.code ({ cls := "DikeWatch", name := "storms", desc := "(IIII)J" } : MethodName) prog_1_method_19_code (5 : Nat) (Option.some ClassFile.FieldType.long)) ∈ W0 := wm4 15 rfl rfl
theorem q4_16 : (Cond.constantLong "DikeWatch" (232 : Nat) (-2 : Int64)) ∈ W0 := wm4 16 rfl rfl
theorem q4_17 : (Cond.constantLong "DikeWatch" (234 : Nat) (-3 : Int64)) ∈ W0 := wm4 17 rfl rfl
theorem q4_18 : (Cond.constantLong "DikeWatch" (236 : Nat) (-4 : Int64)) ∈ W0 := wm4 18 rfl rfl
theorem q4_19 : (Cond.methodLink "DikeWatch" (238 : Nat) ({ cls := "DikeWatch", name := "growthsToBreak", desc := "(II)I" } : MethodName)) ∈ W0 := wm4 19 rfl rfl
theorem q4_20 : (Cond.static ({ cls := "DikeWatch", name := "growthsToBreak", desc := "(II)I" } : MethodName)) ∈ W0 := wm4 20 rfl rfl
theorem q4_21 : (Cond.code ({ cls := "DikeWatch", name := "growthsToBreak", desc := "(II)I" } : MethodName) prog_1_method_34_code (2 : Nat) (Option.some ClassFile.FieldType.int)) ∈ W0 := wm4 21 rfl rfl
theorem q4_22 : (Cond.methodLink "DikeWatch" (242 : Nat) ({ cls := "DikeWatch$Storms", name := "reckon", desc := "(III)V" } : MethodName)) ∈ W0 := wm4 22 rfl rfl
theorem q4_23 : (Cond.instanceMethod ({ cls := "DikeWatch$Storms", name := "reckon", desc := "(III)V" } : MethodName)) ∈ W0 := wm4 23 rfl rfl
theorem q4_24 : (Cond.selects "DikeWatch$Storms" ({ cls := "DikeWatch$Storms", name := "reckon", desc := "(III)V" } : MethodName) ({ cls := "DikeWatch$Storms", name := "reckon", desc := "(III)V" } : MethodName)) ∈ W0 := wm4 24 rfl rfl
theorem q4_25 : (Cond.code ({ cls := "DikeWatch$Storms", name := "reckon", desc := "(III)V" } : MethodName) prog_7_method_2_code (5 : Nat) (Option.none : Option ClassFile.FieldType)) ∈ W0 := wm4 25 rfl rfl
theorem q4_26 : (Cond.methodLink "DikeWatch$Storms" (22 : Nat) ({ cls := "DikeWatch$Storms", name := "countWays", desc := "(II)V" } : MethodName)) ∈ W0 := wm4 26 rfl rfl
theorem q4_28 : (Cond.instanceMethod ({ cls := "DikeWatch$Storms", name := "countWays", desc := "(II)V" } : MethodName)) ∈ W0 := wm4 28 rfl rfl
theorem q4_29 : (Cond.code ({ cls := "DikeWatch$Storms", name := "countWays", desc := "(II)V" } : MethodName) prog_7_method_3_code (5 : Nat) (Option.none : Option ClassFile.FieldType)) ∈ W0 := wm4 29 rfl rfl
theorem q4_30 : (Cond.methodLink "DikeWatch$Storms" (32 : Nat) ({ cls := "java/util/Arrays", name := "fill", desc := "([JJ)V" } : MethodName)) ∈ W0 := wm4 30 rfl rfl
theorem q4_31 : (Cond.static ({ cls := "java/util/Arrays", name := "fill", desc := "([JJ)V" } : MethodName)) ∈ W0 := wm4 31 rfl rfl
theorem q4_32 : (Cond.code ({ cls := "java/util/Arrays", name := "fill", desc := "([JJ)V" } : MethodName) prog_18_method_101_code (5 : Nat) (Option.none : Option ClassFile.FieldType)) ∈ W0 := wm4 32 rfl rfl
theorem q4_33 : (Cond.constantLong "DikeWatch$Storms" (26 : Nat) (10 : Int64)) ∈ W0 := wm4 33 rfl rfl
theorem q4_34 : (Cond.methodLink "DikeWatch$Storms" (28 : Nat) ({ cls := "DikeWatch$Storms", name := "cancel", desc := "(I)V" } : MethodName)) ∈ W0 := wm4 34 rfl rfl
theorem q4_36 : (Cond.instanceMethod ({ cls := "DikeWatch$Storms", name := "cancel", desc := "(I)V" } : MethodName)) ∈ W0 := wm4 36 rfl rfl
theorem q4_37 : (Cond.code ({ cls := "DikeWatch$Storms", name := "cancel", desc := "(I)V" } : MethodName) prog_7_method_4_code (2 : Nat) (Option.none : Option ClassFile.FieldType)) ∈ W0 := wm4 37 rfl rfl
theorem q4_38 : (Cond.methodLink "DikeWatchLaw" (93 : Nat) ({ cls := "DikeWatch", name := "guard", desc := "(II)I" } : MethodName)) ∈ W0 := wm4 38 rfl rfl
theorem q4_39 : (Cond.instanceMethod ({ cls := "DikeWatch", name := "guard", desc := "(II)I" } : MethodName)) ∈ W0 := wm4 39 rfl rfl
theorem q4_40 : (Cond.selects "DikeWatch" ({ cls := "DikeWatch", name := "guard", desc := "(II)I" } : MethodName) ({ cls := "DikeWatch", name := "guard", desc := "(II)I" } : MethodName)) ∈ W0 := wm4 40 rfl rfl
theorem q4_41 : (Cond.code ({ cls := "DikeWatch", name := "guard", desc := "(II)I" } : MethodName) prog_1_method_20_code (7 : Nat) (Option.some ClassFile.FieldType.int)) ∈ W0 := wm4 41 rfl rfl
theorem q4_42 : (Cond.methodLink "DikeWatch" (253 : Nat) ({ cls := "DikeWatch$Night", name := "heardFrom", desc := "(II)I" } : MethodName)) ∈ W0 := wm4 42 rfl rfl
theorem q4_43 : (Cond.methodLink "DikeWatchLaw" (97 : Nat) ({ cls := "DikeWatch", name := "seen", desc := "(III)I" } : MethodName)) ∈ W0 := wm4 43 rfl rfl
theorem q4_44 : (Cond.instanceMethod ({ cls := "DikeWatch", name := "seen", desc := "(III)I" } : MethodName)) ∈ W0 := wm4 44 rfl rfl
theorem q4_45 : (Cond.selects "DikeWatch" ({ cls := "DikeWatch", name := "seen", desc := "(III)I" } : MethodName) ({ cls := "DikeWatch", name := "seen", desc := "(III)I" } : MethodName)) ∈ W0 := wm4 45 rfl rfl
theorem q4_46 : (Cond.code ({ cls := "DikeWatch", name := "seen", desc := "(III)I" } : MethodName) prog_1_method_21_code (5 : Nat) (Option.some ClassFile.FieldType.int)) ∈ W0 := wm4 46 rfl rfl
theorem q4_47 : (Cond.methodLink "DikeWatch" (256 : Nat) ({ cls := "DikeWatch$Clues", name := "yardsInEar", desc := "(II)I" } : MethodName)) ∈ W0 := wm4 47 rfl rfl
theorem q4_48 : (Cond.instanceMethod ({ cls := "DikeWatch$Clues", name := "yardsInEar", desc := "(II)I" } : MethodName)) ∈ W0 := wm4 48 rfl rfl
theorem q4_49 : (Cond.selects "DikeWatch$Clues" ({ cls := "DikeWatch$Clues", name := "yardsInEar", desc := "(II)I" } : MethodName) ({ cls := "DikeWatch$Clues", name := "yardsInEar", desc := "(II)I" } : MethodName)) ∈ W0 := wm4 49 rfl rfl
theorem q4_50 : (Cond.code ({ cls := "DikeWatch$Clues", name := "yardsInEar", desc := "(II)I" } : MethodName) prog_2_method_4_code (5 : Nat) (Option.some ClassFile.FieldType.int)) ∈ W0 := wm4 50 rfl rfl
theorem q4_52 : (Cond.methodLink "DikeWatch" (259 : Nat) ({ cls := "DikeWatch$Clues", name := "add", desc := "(I)I" } : MethodName)) ∈ W0 := wm4 52 rfl rfl
theorem q4_53 : (Cond.instanceMethod ({ cls := "DikeWatch$Clues", name := "add", desc := "(I)I" } : MethodName)) ∈ W0 := wm4 53 rfl rfl
theorem q4_54 : (Cond.selects "DikeWatch$Clues" ({ cls := "DikeWatch$Clues", name := "add", desc := "(I)I" } : MethodName) ({ cls := "DikeWatch$Clues", name := "add", desc := "(I)I" } : MethodName)) ∈ W0 := wm4 54 rfl rfl
theorem q4_55 : (Cond.code ({ cls := "DikeWatch$Clues", name := "add", desc := "(I)I" } : MethodName) prog_2_method_3_code (2 : Nat) (Option.some ClassFile.FieldType.int)) ∈ W0 := wm4 55 rfl rfl
theorem q4_56 : (Cond.methodLink "DikeWatchLaw" (101 : Nat) ({ cls := "DikeWatch", name := "paid", desc := "(II)I" } : MethodName)) ∈ W0 := wm4 56 rfl rfl
theorem q4_57 : (Cond.instanceMethod ({ cls := "DikeWatch", name := "paid", desc := "(II)I" } : MethodName)) ∈ W0 := wm4 57 rfl rfl
theorem q4_58 : (Cond.selects "DikeWatch" ({ cls := "DikeWatch", name := "paid", desc := "(II)I" } : MethodName) ({ cls := "DikeWatch", name := "paid", desc := "(II)I" } : MethodName)) ∈ W0 := wm4 58 rfl rfl
theorem q4_59 : (Cond.code ({ cls := "DikeWatch", name := "paid", desc := "(II)I" } : MethodName) prog_1_method_22_code (3 : Nat) (Option.some ClassFile.FieldType.int)) ∈ W0 := wm4 59 rfl rfl
theorem q4_60 : (Cond.methodLink "DikeWatch" (261 : Nat) ({ cls := "DikeWatch$Clues", name := "yardsPaying", desc := "(II)I" } : MethodName)) ∈ W0 := wm4 60 rfl rfl
theorem q4_61 : (Cond.instanceMethod ({ cls := "DikeWatch$Clues", name := "yardsPaying", desc := "(II)I" } : MethodName)) ∈ W0 := wm4 61 rfl rfl
theorem q4_62 : (Cond.selects "DikeWatch$Clues" ({ cls := "DikeWatch$Clues", name := "yardsPaying", desc := "(II)I" } : MethodName) ({ cls := "DikeWatch$Clues", name := "yardsPaying", desc := "(II)I" } : MethodName)) ∈ W0 := wm4 62 rfl rfl
theorem q4_63 : (Cond.code ({ cls := "DikeWatch$Clues", name := "yardsPaying", desc := "(II)I" } : MethodName) prog_2_method_5_code (5 : Nat) (Option.some ClassFile.FieldType.int)) ∈ W0 := wm4 63 rfl rfl
theorem q4_65 : (Cond.methodLink "DikeWatchLaw" (105 : Nat) ({ cls := "DikeWatch", name := "forget", desc := "()I" } : MethodName)) ∈ W0 := wm4 65 rfl rfl
theorem q4_66 : (Cond.instanceMethod ({ cls := "DikeWatch", name := "forget", desc := "()I" } : MethodName)) ∈ W0 := wm4 66 rfl rfl
theorem q4_67 : (Cond.selects "DikeWatch" ({ cls := "DikeWatch", name := "forget", desc := "()I" } : MethodName) ({ cls := "DikeWatch", name := "forget", desc := "()I" } : MethodName)) ∈ W0 := wm4 67 rfl rfl
theorem q4_68 : (Cond.code ({ cls := "DikeWatch", name := "forget", desc := "()I" } : MethodName) prog_1_method_23_code (2 : Nat) (Option.some ClassFile.FieldType.int)) ∈ W0 := wm4 68 rfl rfl
theorem q4_69 : (Cond.methodLink "DikeWatchLaw" (109 : Nat) ({ cls := "DikeWatch", name := "where", desc := "()I" } : MethodName)) ∈ W0 := wm4 69 rfl rfl
theorem q4_70 : (Cond.instanceMethod ({ cls := "DikeWatch", name := "where", desc := "()I" } : MethodName)) ∈ W0 := wm4 70 rfl rfl
theorem q4_71 : (Cond.selects "DikeWatch" ({ cls := "DikeWatch", name := "where", desc := "()I" } : MethodName) ({ cls := "DikeWatch", name := "where", desc := "()I" } : MethodName)) ∈ W0 := wm4 71 rfl rfl
theorem q4_72 : (Cond.code ({ cls := "DikeWatch", name := "where", desc := "()I" } : MethodName) prog_1_method_24_code (1 : Nat) (Option.some ClassFile.FieldType.int)) ∈ W0 := wm4 72 rfl rfl
theorem q4_73 : (Cond.methodLink "DikeWatchLaw" (113 : Nat) ({ cls := "DikeWatch", name := "next", desc := "(I)I" } : MethodName)) ∈ W0 := wm4 73 rfl rfl
theorem q4_74 : (Cond.instanceMethod ({ cls := "DikeWatch", name := "next", desc := "(I)I" } : MethodName)) ∈ W0 := wm4 74 rfl rfl
theorem q4_75 : (Cond.selects "DikeWatch" ({ cls := "DikeWatch", name := "next", desc := "(I)I" } : MethodName) ({ cls := "DikeWatch", name := "next", desc := "(I)I" } : MethodName)) ∈ W0 := wm4 75 rfl rfl
theorem q4_76 : (Cond.code ({ cls := "DikeWatch", name := "next", desc := "(I)I" } : MethodName) prog_1_method_25_code (2 : Nat) (Option.some ClassFile.FieldType.int)) ∈ W0 := wm4 76 rfl rfl
theorem q4_77 : (Cond.methodLink "DikeWatch" (270 : Nat) ({ cls := "DikeWatch$Clues", name := "surestYard", desc := "(I)I" } : MethodName)) ∈ W0 := wm4 77 rfl rfl
theorem q4_78 : (Cond.instanceMethod ({ cls := "DikeWatch$Clues", name := "surestYard", desc := "(I)I" } : MethodName)) ∈ W0 := wm4 78 rfl rfl
theorem q4_79 : (Cond.selects "DikeWatch$Clues" ({ cls := "DikeWatch$Clues", name := "surestYard", desc := "(I)I" } : MethodName) ({ cls := "DikeWatch$Clues", name := "surestYard", desc := "(I)I" } : MethodName)) ∈ W0 := wm4 79 rfl rfl
theorem q4_80 : (Cond.code ({ cls := "DikeWatch$Clues", name := "surestYard", desc := "(I)I" } : MethodName) prog_2_method_6_code (7 : Nat) (Option.some ClassFile.FieldType.int)) ∈ W0 := wm4 80 rfl rfl
theorem q4_81 : (Cond.methodLink "DikeWatch$Clues" (29 : Nat) ({ cls := "DikeWatch$Clues", name := "yardsInEar", desc := "(II)I" } : MethodName)) ∈ W0 := wm4 81 rfl rfl
theorem q4_82 : (Cond.methodLink "DikeWatch$Clues" (32 : Nat) ({ cls := "java/lang/Integer", name := "bitCount", desc := "(I)I" } : MethodName)) ∈ W0 := wm4 82 rfl rfl
theorem q4_83 : (Cond.methodLink "DikeWatch$Clues" (38 : Nat) ({ cls := "java/lang/Math", name := "max", desc := "(II)I" } : MethodName)) ∈ W0 := wm4 83 rfl rfl
theorem q4_84 : (Cond.methodLink "DikeWatchLaw" (117 : Nat) ({ cls := "DikeWatch", name := "count", desc := "(I)I" } : MethodName)) ∈ W0 := wm4 84 rfl rfl
theorem q4_85 : (Cond.instanceMethod ({ cls := "DikeWatch", name := "count", desc := "(I)I" } : MethodName)) ∈ W0 := wm4 85 rfl rfl
theorem q4_86 : (Cond.selects "DikeWatch" ({ cls := "DikeWatch", name := "count", desc := "(I)I" } : MethodName) ({ cls := "DikeWatch", name := "count", desc := "(I)I" } : MethodName)) ∈ W0 := wm4 86 rfl rfl
theorem q4_87 : (Cond.code ({ cls := "DikeWatch", name := "count", desc := "(I)I" } : MethodName) prog_1_method_26_code (2 : Nat) (Option.some ClassFile.FieldType.int)) ∈ W0 := wm4 87 rfl rfl
theorem q4_88 : (Cond.methodLink "DikeWatch" (279 : Nat) ({ cls := "DikeWatch$Night", name := "brokenSeeps", desc := "()I" } : MethodName)) ∈ W0 := wm4 88 rfl rfl
theorem q4_89 : (Cond.classLink "DikeWatchLaw" (10 : Nat) "DikeWatchModel") ∈ W0 := wm4 89 rfl rfl
theorem q4_90 : (Cond.instantiable "DikeWatchModel" (26 : Nat)) ∈ W0 := wm4 90 rfl rfl
theorem q4_91 : (Cond.methodLink "DikeWatchLaw" (12 : Nat) ({ cls := "DikeWatchModel", name := "<init>", desc := "()V" } : MethodName)) ∈ W0 := wm4 91 rfl rfl
theorem q4_92 : (Cond.instanceMethod ({ cls := "DikeWatchModel", name := "<init>", desc := "()V" } : MethodName)) ∈ W0 := wm4 92 rfl rfl
theorem q4_93 : (Cond.code ({ cls := "DikeWatchModel", name := "<init>", desc := "()V" } : MethodName) prog_11_method_1_code (1 : Nat) (Option.none : Option ClassFile.FieldType)) ∈ W0 := wm4 93 rfl rfl
theorem q4_94 : (Cond.methodLink "DikeWatchModel" (1 : Nat) ({ cls := "java/lang/Object", name := "<init>", desc := "()V" } : MethodName)) ∈ W0 := wm4 94 rfl rfl
theorem q4_95 : (Cond.fieldLink "DikeWatchModel" (7 : Nat) "DikeWatchModel" "row" "[I") ∈ W0 := wm4 95 rfl rfl
theorem q4_96 : (Cond.fieldLink "DikeWatchModel" (13 : Nat) "DikeWatchModel" "isKept" "[Z") ∈ W0 := wm4 96 rfl rfl
theorem q4_97 : (Cond.fieldLink "DikeWatchModel" (17 : Nat) "DikeWatchModel" "text" "[I") ∈ W0 := wm4 97 rfl rfl
theorem q4_98 : (Cond.fieldLink "DikeWatchModel" (60 : Nat) "DikeWatchModel" "length" "I") ∈ W0 := wm4 98 rfl rfl
theorem q4_99 : (Cond.fieldLink "DikeWatchModel" (20 : Nat) "DikeWatchModel" "read" "[I") ∈ W0 := wm4 99 rfl rfl
theorem q4_100 : (Cond.fieldLink "DikeWatchModel" (94 : Nat) "DikeWatchModel" "readMany" "I") ∈ W0 := wm4 100 rfl rfl
theorem q4_101 : (Cond.fieldLink "DikeWatchModel" (23 : Nat) "DikeWatchModel" "yards" "I") ∈ W0 := wm4 101 rfl rfl
theorem q4_102 : (Cond.fieldLink "DikeWatchModel" (27 : Nat) "DikeWatchModel" "tides" "[I") ∈ W0 := wm4 102 rfl rfl
theorem q4_103 : (Cond.fieldLink "DikeWatchModel" (30 : Nat) "DikeWatchModel" "seeps" "[I") ∈ W0 := wm4 103 rfl rfl
theorem q4_104 : (Cond.fieldLink "DikeWatchModel" (127 : Nat) "DikeWatchModel" "seepMany" "I") ∈ W0 := wm4 104 rfl rfl
theorem q4_105 : (Cond.fieldLink "DikeWatchModel" (33 : Nat) "DikeWatchModel" "kinds" "[I") ∈ W0 := wm4 105 rfl rfl
theorem q4_106 : (Cond.fieldLink "DikeWatchModel" (36 : Nat) "DikeWatchModel" "paces" "[I") ∈ W0 := wm4 106 rfl rfl
theorem q4_107 : (Cond.fieldLink "DikeWatchModel" (39 : Nat) "DikeWatchModel" "ears" "[I") ∈ W0 := wm4 107 rfl rfl
theorem q4_108 : (Cond.fieldLink "DikeWatchModel" (130 : Nat) "DikeWatchModel" "many" "I") ∈ W0 := wm4 108 rfl rfl
theorem q4_109 : (Cond.fieldLink "DikeWatchModel" (65 : Nat) "DikeWatchModel" "at" "I") ∈ W0 := wm4 109 rfl rfl
theorem q4_110 : (Cond.fieldLink "DikeWatchModel" (68 : Nat) "DikeWatchModel" "place" "I") ∈ W0 := wm4 110 rfl rfl
theorem q4_111 : (Cond.fieldLink "DikeWatchModel" (75 : Nat) "DikeWatchModel" "end" "I") ∈ W0 := wm4 111 rfl rfl
theorem q4_112 : (Cond.fieldLink "DikeWatchModel" (100 : Nat) "DikeWatchModel" "readYards" "I") ∈ W0 := wm4 112 rfl rfl
theorem q4_113 : (Cond.fieldLink "DikeWatchModel" (114 : Nat) "DikeWatchModel" "readSeeps" "I") ∈ W0 := wm4 113 rfl rfl
theorem q4_114 : (Cond.fieldLink "DikeWatchModel" (121 : Nat) "DikeWatchModel" "readChildren" "I") ∈ W0 := wm4 114 rfl rfl
theorem q4_115 : (Cond.fieldLink "DikeWatchModel" (42 : Nat) "DikeWatchModel" "hearers" "[I") ∈ W0 := wm4 115 rfl rfl
theorem q4_116 : (Cond.fieldLink "DikeWatchModel" (45 : Nat) "DikeWatchModel" "chosen" "[I") ∈ W0 := wm4 116 rfl rfl
theorem q4_117 : (Cond.fieldLink "DikeWatchModel" (212 : Nat) "DikeWatchModel" "chosenMany" "I") ∈ W0 := wm4 117 rfl rfl
theorem q4_118 : (Cond.fieldLink "DikeWatchModel" (48 : Nat) "DikeWatchModel" "dues" "[I") ∈ W0 := wm4 118 rfl rfl
theorem q4_119 : (Cond.fieldLink "DikeWatchModel" (51 : Nat) "DikeWatchModel" "sights" "[I") ∈ W0 := wm4 119 rfl rfl
theorem q4_120 : (Cond.fieldLink "DikeWatchModel" (151 : Nat) "DikeWatchModel" "seenMany" "I") ∈ W0 := wm4 120 rfl rfl
theorem q4_174 : (Cond.arrayClass ClassFile.FieldType.boolean) ∈ W0 := wm4 174 rfl rfl
theorem q4_175 : (Cond.methodLink "DikeWatchLaw" (19 : Nat) ({ cls := "DikeWatchModel", name := "write", desc := "(JI)I" } : MethodName)) ∈ W0 := wm4 175 rfl rfl
theorem q4_176 : (Cond.instanceMethod ({ cls := "DikeWatchModel", name := "write", desc := "(JI)I" } : MethodName)) ∈ W0 := wm4 176 rfl rfl
theorem q4_177 : (Cond.selects "DikeWatchModel" ({ cls := "DikeWatchModel", name := "write", desc := "(JI)I" } : MethodName) ({ cls := "DikeWatchModel", name := "write", desc := "(JI)I" } : MethodName)) ∈ W0 := wm4 177 rfl rfl
theorem q4_178 : (Cond.code ({ cls := "DikeWatchModel", name := "write", desc := "(JI)I" } : MethodName) prog_11_method_7_code (5 : Nat) (Option.some ClassFile.FieldType.int)) ∈ W0 := wm4 178 rfl rfl
theorem q4_179 : (Cond.constantLong "DikeWatchModel" (54 : Nat) (8 : Int64)) ∈ W0 := wm4 179 rfl rfl
theorem q4_180 : (Cond.methodLink "DikeWatchModel" (56 : Nat) ({ cls := "DikeWatchModel", name := "in", desc := "(JJJ)Z" } : MethodName)) ∈ W0 := wm4 180 rfl rfl
theorem q4_181 : (Cond.static ({ cls := "DikeWatchModel", name := "in", desc := "(JJJ)Z" } : MethodName)) ∈ W0 := wm4 181 rfl rfl
theorem q4_182 : (Cond.code ({ cls := "DikeWatchModel", name := "in", desc := "(JJJ)Z" } : MethodName) prog_11_method_2_code (6 : Nat) (Option.some ClassFile.FieldType.boolean)) ∈ W0 := wm4 182 rfl rfl
theorem q4_183 : (Cond.constantLong "DikeWatchModel" (63 : Nat) (255 : Int64)) ∈ W0 := wm4 183 rfl rfl
theorem q4_184 : (Cond.methodLink "DikeWatchLaw" (24 : Nat) ({ cls := "DikeWatchModel", name := "erase", desc := "()I" } : MethodName)) ∈ W0 := wm4 184 rfl rfl
theorem q4_185 : (Cond.instanceMethod ({ cls := "DikeWatchModel", name := "erase", desc := "()I" } : MethodName)) ∈ W0 := wm4 185 rfl rfl
theorem q4_186 : (Cond.selects "DikeWatchModel" ({ cls := "DikeWatchModel", name := "erase", desc := "()I" } : MethodName) ({ cls := "DikeWatchModel", name := "erase", desc := "()I" } : MethodName)) ∈ W0 := wm4 186 rfl rfl
theorem q4_187 : (Cond.code ({ cls := "DikeWatchModel", name := "erase", desc := "()I" } : MethodName) prog_11_method_8_code (2 : Nat) (Option.some ClassFile.FieldType.int)) ∈ W0 := wm4 187 rfl rfl
theorem q4_188 : (Cond.methodLink "DikeWatchLaw" (28 : Nat) ({ cls := "DikeWatchModel", name := "fault", desc := "()I" } : MethodName)) ∈ W0 := wm4 188 rfl rfl
theorem q4_189 : (Cond.instanceMethod ({ cls := "DikeWatchModel", name := "fault", desc := "()I" } : MethodName)) ∈ W0 := wm4 189 rfl rfl
theorem q4_190 : (Cond.selects "DikeWatchModel" ({ cls := "DikeWatchModel", name := "fault", desc := "()I" } : MethodName) ({ cls := "DikeWatchModel", name := "fault", desc := "()I" } : MethodName)) ∈ W0 := wm4 190 rfl rfl
theorem q4_191 : (Cond.code ({ cls := "DikeWatchModel", name := "fault", desc := "()I" } : MethodName) prog_11_method_18_code (2 : Nat) (Option.some ClassFile.FieldType.int)) ∈ W0 := wm4 191 rfl rfl
theorem q4_192 : (Cond.methodLink "DikeWatchModel" (97 : Nat) ({ cls := "DikeWatchModel", name := "token", desc := "()V" } : MethodName)) ∈ W0 := wm4 192 rfl rfl
theorem q4_194 : (Cond.instanceMethod ({ cls := "DikeWatchModel", name := "token", desc := "()V" } : MethodName)) ∈ W0 := wm4 194 rfl rfl
theorem q4_195 : (Cond.code ({ cls := "DikeWatchModel", name := "token", desc := "()V" } : MethodName) prog_11_method_10_code (1 : Nat) (Option.none : Option ClassFile.FieldType)) ∈ W0 := wm4 195 rfl rfl
theorem q4_196 : (Cond.methodLink "DikeWatchModel" (71 : Nat) ({ cls := "DikeWatchModel", name := "sort", desc := "(I)I" } : MethodName)) ∈ W0 := wm4 196 rfl rfl
theorem q4_197 : (Cond.static ({ cls := "DikeWatchModel", name := "sort", desc := "(I)I" } : MethodName)) ∈ W0 := wm4 197 rfl rfl
theorem q4_198 : (Cond.code ({ cls := "DikeWatchModel", name := "sort", desc := "(I)I" } : MethodName) prog_11_method_9_code (1 : Nat) (Option.some ClassFile.FieldType.int)) ∈ W0 := wm4 198 rfl rfl
theorem q4_199 : (Cond.methodLink "DikeWatchModel" (133 : Nat) ({ cls := "DikeWatchModel", name := "readsLine", desc := "()Z" } : MethodName)) ∈ W0 := wm4 199 rfl rfl
theorem q4_201 : (Cond.instanceMethod ({ cls := "DikeWatchModel", name := "readsLine", desc := "()Z" } : MethodName)) ∈ W0 := wm4 201 rfl rfl
theorem q4_202 : (Cond.code ({ cls := "DikeWatchModel", name := "readsLine", desc := "()Z" } : MethodName) prog_11_method_17_code (2 : Nat) (Option.some ClassFile.FieldType.boolean)) ∈ W0 := wm4 202 rfl rfl
theorem q4_203 : (Cond.methodLink "DikeWatchModel" (111 : Nat) ({ cls := "DikeWatchModel", name := "wordOf", desc := "()I" } : MethodName)) ∈ W0 := wm4 203 rfl rfl
theorem q4_205 : (Cond.instanceMethod ({ cls := "DikeWatchModel", name := "wordOf", desc := "()I" } : MethodName)) ∈ W0 := wm4 205 rfl rfl
theorem q4_206 : (Cond.code ({ cls := "DikeWatchModel", name := "wordOf", desc := "()I" } : MethodName) prog_11_method_13_code (2 : Nat) (Option.some ClassFile.FieldType.int)) ∈ W0 := wm4 206 rfl rfl
theorem q4_207 : (Cond.methodLink "DikeWatchModel" (86 : Nat) ({ cls := "DikeWatchModel", name := "childWord", desc := "()I" } : MethodName)) ∈ W0 := wm4 207 rfl rfl
theorem q4_209 : (Cond.instanceMethod ({ cls := "DikeWatchModel", name := "childWord", desc := "()I" } : MethodName)) ∈ W0 := wm4 209 rfl rfl
theorem q4_210 : (Cond.code ({ cls := "DikeWatchModel", name := "childWord", desc := "()I" } : MethodName) prog_11_method_12_code (1 : Nat) (Option.some ClassFile.FieldType.int)) ∈ W0 := wm4 210 rfl rfl
theorem q4_211 : (Cond.constant "DikeWatchModel" (78 : Nat) (14976400 : Int32)) ∈ W0 := wm4 211 rfl rfl
theorem q4_212 : (Cond.methodLink "DikeWatchModel" (79 : Nat) ({ cls := "DikeWatchModel", name := "isWord", desc := "(II)Z" } : MethodName)) ∈ W0 := wm4 212 rfl rfl
theorem q4_214 : (Cond.instanceMethod ({ cls := "DikeWatchModel", name := "isWord", desc := "(II)Z" } : MethodName)) ∈ W0 := wm4 214 rfl rfl
theorem q4_215 : (Cond.code ({ cls := "DikeWatchModel", name := "isWord", desc := "(II)Z" } : MethodName) prog_11_method_11_code (5 : Nat) (Option.some ClassFile.FieldType.boolean)) ∈ W0 := wm4 215 rfl rfl
theorem q4_216 : (Cond.constant "DikeWatchModel" (83 : Nat) (4376884 : Int32)) ∈ W0 := wm4 216 rfl rfl
theorem q4_217 : (Cond.constant "DikeWatchModel" (84 : Nat) (787944 : Int32)) ∈ W0 := wm4 217 rfl rfl
theorem q4_218 : (Cond.constant "DikeWatchModel" (85 : Nat) (197796 : Int32)) ∈ W0 := wm4 218 rfl rfl
theorem q4_219 : (Cond.constant "DikeWatchModel" (90 : Nat) (175396 : Int32)) ∈ W0 := wm4 219 rfl rfl
theorem q4_220 : (Cond.constant "DikeWatchModel" (91 : Nat) (168244 : Int32)) ∈ W0 := wm4 220 rfl rfl
theorem q4_221 : (Cond.constant "DikeWatchModel" (92 : Nat) (529587 : Int32)) ∈ W0 := wm4 221 rfl rfl
theorem q4_222 : (Cond.constant "DikeWatchModel" (93 : Nat) (418881651 : Int32)) ∈ W0 := wm4 222 rfl rfl
theorem q4_223 : (Cond.methodLink "DikeWatchModel" (117 : Nat) ({ cls := "DikeWatchModel", name := "isChildWord", desc := "(I)Z" } : MethodName)) ∈ W0 := wm4 223 rfl rfl
theorem q4_224 : (Cond.static ({ cls := "DikeWatchModel", name := "isChildWord", desc := "(I)Z" } : MethodName)) ∈ W0 := wm4 224 rfl rfl
theorem q4_225 : (Cond.code ({ cls := "DikeWatchModel", name := "isChildWord", desc := "(I)Z" } : MethodName) prog_11_method_16_code (1 : Nat) (Option.some ClassFile.FieldType.boolean)) ∈ W0 := wm4 225 rfl rfl
theorem q4_226 : (Cond.constantLong "DikeWatchModel" (107 : Nat) (3 : Int64)) ∈ W0 := wm4 226 rfl rfl
theorem q4_227 : (Cond.constantLong "DikeWatchModel" (109 : Nat) (6 : Int64)) ∈ W0 := wm4 227 rfl rfl
theorem q4_228 : (Cond.methodLink "DikeWatchModel" (124 : Nat) ({ cls := "DikeWatchModel", name := "readsRest", desc := "(I)Z" } : MethodName)) ∈ W0 := wm4 228 rfl rfl
theorem q4_230 : (Cond.instanceMethod ({ cls := "DikeWatchModel", name := "readsRest", desc := "(I)Z" } : MethodName)) ∈ W0 := wm4 230 rfl rfl
theorem q4_231 : (Cond.code ({ cls := "DikeWatchModel", name := "readsRest", desc := "(I)Z" } : MethodName) prog_11_method_15_code (3 : Nat) (Option.some ClassFile.FieldType.boolean)) ∈ W0 := wm4 231 rfl rfl
theorem q4_232 : (Cond.methodLink "DikeWatchModel" (103 : Nat) ({ cls := "DikeWatchModel", name := "reads", desc := "(III)Z" } : MethodName)) ∈ W0 := wm4 232 rfl rfl
theorem q4_234 : (Cond.instanceMethod ({ cls := "DikeWatchModel", name := "reads", desc := "(III)Z" } : MethodName)) ∈ W0 := wm4 234 rfl rfl
theorem q4_235 : (Cond.code ({ cls := "DikeWatchModel", name := "reads", desc := "(III)Z" } : MethodName) prog_11_method_14_code (6 : Nat) (Option.some ClassFile.FieldType.boolean)) ∈ W0 := wm4 235 rfl rfl
theorem q4_236 : (Cond.methodLink "DikeWatchLaw" (32 : Nat) ({ cls := "DikeWatchModel", name := "dike", desc := "()I" } : MethodName)) ∈ W0 := wm4 236 rfl rfl
theorem q4_237 : (Cond.instanceMethod ({ cls := "DikeWatchModel", name := "dike", desc := "()I" } : MethodName)) ∈ W0 := wm4 237 rfl rfl
theorem q4_238 : (Cond.selects "DikeWatchModel" ({ cls := "DikeWatchModel", name := "dike", desc := "()I" } : MethodName) ({ cls := "DikeWatchModel", name := "dike", desc := "()I" } : MethodName)) ∈ W0 := wm4 238 rfl rfl
theorem q4_239 : (Cond.code ({ cls := "DikeWatchModel", name := "dike", desc := "()I" } : MethodName) prog_11_method_21_code (2 : Nat) (Option.some ClassFile.FieldType.int)) ∈ W0 := wm4 239 rfl rfl
theorem q5_0 : (Cond.methodLink "DikeWatchModel" (141 : Nat) ({ cls := "DikeWatchModel", name := "fault", desc := "()I" } : MethodName)) ∈ W0 := wm5 0 rfl rfl
theorem q5_1 : (Cond.methodLink "DikeWatchModel" (144 : Nat) ({ cls := "DikeWatchModel", name := "tell", desc := "(I)V" } : MethodName)) ∈ W0 := wm5 1 rfl rfl
theorem q5_3 : (Cond.instanceMethod ({ cls := "DikeWatchModel", name := "tell", desc := "(I)V" } : MethodName)) ∈ W0 := wm5 3 rfl rfl
theorem q5_4 : (Cond.code ({ cls := "DikeWatchModel", name := "tell", desc := "(I)V" } : MethodName) prog_11_method_20_code (3 : Nat) (Option.none : Option ClassFile.FieldType)) ∈ W0 := wm5 4 rfl rfl
theorem q5_5 : (Cond.methodLink "DikeWatchModel" (137 : Nat) ({ cls := "DikeWatchModel", name := "clear", desc := "(I)V" } : MethodName)) ∈ W0 := wm5 5 rfl rfl
theorem q5_7 : (Cond.instanceMethod ({ cls := "DikeWatchModel", name := "clear", desc := "(I)V" } : MethodName)) ∈ W0 := wm5 7 rfl rfl
theorem q5_8 : (Cond.code ({ cls := "DikeWatchModel", name := "clear", desc := "(I)V" } : MethodName) prog_11_method_19_code (3 : Nat) (Option.none : Option ClassFile.FieldType)) ∈ W0 := wm5 8 rfl rfl
theorem q5_9 : (Cond.methodLink "DikeWatchModel" (147 : Nat) ({ cls := "DikeWatchModel", name := "copy", desc := "(II)V" } : MethodName)) ∈ W0 := wm5 9 rfl rfl
theorem q5_11 : (Cond.instanceMethod ({ cls := "DikeWatchModel", name := "copy", desc := "(II)V" } : MethodName)) ∈ W0 := wm5 11 rfl rfl
theorem q5_12 : (Cond.code ({ cls := "DikeWatchModel", name := "copy", desc := "(II)V" } : MethodName) prog_11_method_6_code (4 : Nat) (Option.none : Option ClassFile.FieldType)) ∈ W0 := wm5 12 rfl rfl
theorem q5_13 : (Cond.methodLink "DikeWatchLaw" (37 : Nat) ({ cls := "DikeWatchModel", name := "tide", desc := "(I)I" } : MethodName)) ∈ W0 := wm5 13 rfl rfl
theorem q5_14 : (Cond.instanceMethod ({ cls := "DikeWatchModel", name := "tide", desc := "(I)I" } : MethodName)) ∈ W0 := wm5 14 rfl rfl
theorem q5_15 : (Cond.selects "DikeWatchModel" ({ cls := "DikeWatchModel", name := "tide", desc := "(I)I" } : MethodName) ({ cls := "DikeWatchModel", name := "tide", desc := "(I)I" } : MethodName)) ∈ W0 := wm5 15 rfl rfl
theorem q5_16 : (Cond.code ({ cls := "DikeWatchModel", name := "tide", desc := "(I)I" } : MethodName) prog_11_method_25_code (2 : Nat) (Option.some ClassFile.FieldType.int)) ∈ W0 := wm5 16 rfl rfl
theorem q5_17 : (Cond.constantLong "DikeWatchModel" (154 : Nat) (11 : Int64)) ∈ W0 := wm5 17 rfl rfl
theorem q5_18 : (Cond.methodLink "DikeWatchLaw" (42 : Nat) ({ cls := "DikeWatchModel", name := "seep", desc := "(II)I" } : MethodName)) ∈ W0 := wm5 18 rfl rfl
theorem q5_19 : (Cond.instanceMethod ({ cls := "DikeWatchModel", name := "seep", desc := "(II)I" } : MethodName)) ∈ W0 := wm5 19 rfl rfl
theorem q5_20 : (Cond.selects "DikeWatchModel" ({ cls := "DikeWatchModel", name := "seep", desc := "(II)I" } : MethodName) ({ cls := "DikeWatchModel", name := "seep", desc := "(II)I" } : MethodName)) ∈ W0 := wm5 20 rfl rfl
theorem q5_21 : (Cond.code ({ cls := "DikeWatchModel", name := "seep", desc := "(II)I" } : MethodName) prog_11_method_26_code (3 : Nat) (Option.some ClassFile.FieldType.int)) ∈ W0 := wm5 21 rfl rfl
theorem q5_22 : (Cond.methodLink "DikeWatchModel" (156 : Nat) ({ cls := "DikeWatchModel", name := "isSeep", desc := "(I)Z" } : MethodName)) ∈ W0 := wm5 22 rfl rfl
theorem q5_24 : (Cond.instanceMethod ({ cls := "DikeWatchModel", name := "isSeep", desc := "(I)Z" } : MethodName)) ∈ W0 := wm5 24 rfl rfl
theorem q5_25 : (Cond.code ({ cls := "DikeWatchModel", name := "isSeep", desc := "(I)Z" } : MethodName) prog_11_method_23_code (2 : Nat) (Option.some ClassFile.FieldType.boolean)) ∈ W0 := wm5 25 rfl rfl
theorem q5_26 : (Cond.methodLink "DikeWatchLaw" (46 : Nat) ({ cls := "DikeWatchModel", name := "child", desc := "(II)I" } : MethodName)) ∈ W0 := wm5 26 rfl rfl
theorem q5_27 : (Cond.instanceMethod ({ cls := "DikeWatchModel", name := "child", desc := "(II)I" } : MethodName)) ∈ W0 := wm5 27 rfl rfl
theorem q5_28 : (Cond.selects "DikeWatchModel" ({ cls := "DikeWatchModel", name := "child", desc := "(II)I" } : MethodName) ({ cls := "DikeWatchModel", name := "child", desc := "(II)I" } : MethodName)) ∈ W0 := wm5 28 rfl rfl
theorem q5_29 : (Cond.code ({ cls := "DikeWatchModel", name := "child", desc := "(II)I" } : MethodName) prog_11_method_31_code (3 : Nat) (Option.some ClassFile.FieldType.int)) ∈ W0 := wm5 29 rfl rfl
theorem q5_30 : (Cond.methodLink "DikeWatchModel" (176 : Nat) ({ cls := "DikeWatchModel", name := "isChild", desc := "(I)Z" } : MethodName)) ∈ W0 := wm5 30 rfl rfl
theorem q5_32 : (Cond.instanceMethod ({ cls := "DikeWatchModel", name := "isChild", desc := "(I)Z" } : MethodName)) ∈ W0 := wm5 32 rfl rfl
theorem q5_33 : (Cond.code ({ cls := "DikeWatchModel", name := "isChild", desc := "(I)Z" } : MethodName) prog_11_method_24_code (2 : Nat) (Option.some ClassFile.FieldType.boolean)) ∈ W0 := wm5 33 rfl rfl
theorem q5_34 : (Cond.methodLink "DikeWatchModel" (166 : Nat) ({ cls := "DikeWatchModel", name := "earOf", desc := "(II)I" } : MethodName)) ∈ W0 := wm5 34 rfl rfl
theorem q5_36 : (Cond.instanceMethod ({ cls := "DikeWatchModel", name := "earOf", desc := "(II)I" } : MethodName)) ∈ W0 := wm5 36 rfl rfl
theorem q5_37 : (Cond.code ({ cls := "DikeWatchModel", name := "earOf", desc := "(II)I" } : MethodName) prog_11_method_27_code (4 : Nat) (Option.some ClassFile.FieldType.int)) ∈ W0 := wm5 37 rfl rfl
theorem q5_38 : (Cond.methodLink "DikeWatchModel" (179 : Nat) ({ cls := "DikeWatchModel", name := "tells", desc := "(I)I" } : MethodName)) ∈ W0 := wm5 38 rfl rfl
theorem q5_40 : (Cond.instanceMethod ({ cls := "DikeWatchModel", name := "tells", desc := "(I)I" } : MethodName)) ∈ W0 := wm5 40 rfl rfl
theorem q5_41 : (Cond.code ({ cls := "DikeWatchModel", name := "tells", desc := "(I)I" } : MethodName) prog_11_method_30_code (8 : Nat) (Option.some ClassFile.FieldType.int)) ∈ W0 := wm5 41 rfl rfl
theorem q5_42 : (Cond.methodLink "DikeWatchModel" (173 : Nat) ({ cls := "DikeWatchModel", name := "hears", desc := "(II)I" } : MethodName)) ∈ W0 := wm5 42 rfl rfl
theorem q5_44 : (Cond.instanceMethod ({ cls := "DikeWatchModel", name := "hears", desc := "(II)I" } : MethodName)) ∈ W0 := wm5 44 rfl rfl
theorem q5_45 : (Cond.code ({ cls := "DikeWatchModel", name := "hears", desc := "(II)I" } : MethodName) prog_11_method_29_code (3 : Nat) (Option.some ClassFile.FieldType.int)) ∈ W0 := wm5 45 rfl rfl
theorem q5_46 : (Cond.methodLink "DikeWatchModel" (169 : Nat) ({ cls := "DikeWatchModel", name := "heardAt", desc := "(III)I" } : MethodName)) ∈ W0 := wm5 46 rfl rfl
theorem q5_48 : (Cond.instanceMethod ({ cls := "DikeWatchModel", name := "heardAt", desc := "(III)I" } : MethodName)) ∈ W0 := wm5 48 rfl rfl
theorem q5_49 : (Cond.code ({ cls := "DikeWatchModel", name := "heardAt", desc := "(III)I" } : MethodName) prog_11_method_28_code (6 : Nat) (Option.some ClassFile.FieldType.int)) ∈ W0 := wm5 49 rfl rfl
theorem q5_50 : (Cond.methodLink "DikeWatchModel" (159 : Nat) ({ cls := "DikeWatchModel", name := "has", desc := "(II)Z" } : MethodName)) ∈ W0 := wm5 50 rfl rfl
theorem q5_51 : (Cond.static ({ cls := "DikeWatchModel", name := "has", desc := "(II)Z" } : MethodName)) ∈ W0 := wm5 51 rfl rfl
theorem q5_52 : (Cond.code ({ cls := "DikeWatchModel", name := "has", desc := "(II)Z" } : MethodName) prog_11_method_3_code (2 : Nat) (Option.some ClassFile.FieldType.boolean)) ∈ W0 := wm5 52 rfl rfl
theorem q5_53 : (Cond.methodLink "DikeWatchModel" (162 : Nat) ({ cls := "DikeWatchModel", name := "far", desc := "(II)I" } : MethodName)) ∈ W0 := wm5 53 rfl rfl
theorem q5_54 : (Cond.static ({ cls := "DikeWatchModel", name := "far", desc := "(II)I" } : MethodName)) ∈ W0 := wm5 54 rfl rfl
theorem q5_55 : (Cond.code ({ cls := "DikeWatchModel", name := "far", desc := "(II)I" } : MethodName) prog_11_method_5_code (2 : Nat) (Option.some ClassFile.FieldType.int)) ∈ W0 := wm5 55 rfl rfl
theorem q5_56 : (Cond.methodLink "DikeWatchLaw" (50 : Nat) ({ cls := "DikeWatchModel", name := "as", desc := "(II)I" } : MethodName)) ∈ W0 := wm5 56 rfl rfl
theorem q5_57 : (Cond.instanceMethod ({ cls := "DikeWatchModel", name := "as", desc := "(II)I" } : MethodName)) ∈ W0 := wm5 57 rfl rfl
theorem q5_58 : (Cond.selects "DikeWatchModel" ({ cls := "DikeWatchModel", name := "as", desc := "(II)I" } : MethodName) ({ cls := "DikeWatchModel", name := "as", desc := "(II)I" } : MethodName)) ∈ W0 := wm5 58 rfl rfl
theorem q5_59 : (Cond.code ({ cls := "DikeWatchModel", name := "as", desc := "(II)I" } : MethodName) prog_11_method_32_code (5 : Nat) (Option.some ClassFile.FieldType.int)) ∈ W0 := wm5 59 rfl rfl
theorem q5_60 : (Cond.constantLong "DikeWatchModel" (182 : Nat) (4 : Int64)) ∈ W0 := wm5 60 rfl rfl
theorem q5_61 : (Cond.methodLink "DikeWatchLaw" (54 : Nat) ({ cls := "DikeWatchModel", name := "go", desc := "(I)I" } : MethodName)) ∈ W0 := wm5 61 rfl rfl
theorem q5_62 : (Cond.instanceMethod ({ cls := "DikeWatchModel", name := "go", desc := "(I)I" } : MethodName)) ∈ W0 := wm5 62 rfl rfl
theorem q5_63 : (Cond.selects "DikeWatchModel" ({ cls := "DikeWatchModel", name := "go", desc := "(I)I" } : MethodName) ({ cls := "DikeWatchModel", name := "go", desc := "(I)I" } : MethodName)) ∈ W0 := wm5 63 rfl rfl
theorem q5_64 : (Cond.code ({ cls := "DikeWatchModel", name := "go", desc := "(I)I" } : MethodName) prog_11_method_35_code (3 : Nat) (Option.some ClassFile.FieldType.int)) ∈ W0 := wm5 64 rfl rfl
theorem q5_65 : (Cond.constantLong "DikeWatchModel" (187 : Nat) (99 : Int64)) ∈ W0 := wm5 65 rfl rfl
theorem q5_66 : (Cond.methodLink "DikeWatchModel" (189 : Nat) ({ cls := "DikeWatchModel", name := "hour", desc := "(I)V" } : MethodName)) ∈ W0 := wm5 66 rfl rfl
theorem q5_68 : (Cond.instanceMethod ({ cls := "DikeWatchModel", name := "hour", desc := "(I)V" } : MethodName)) ∈ W0 := wm5 68 rfl rfl
theorem q5_69 : (Cond.code ({ cls := "DikeWatchModel", name := "hour", desc := "(I)V" } : MethodName) prog_11_method_34_code (5 : Nat) (Option.none : Option ClassFile.FieldType)) ∈ W0 := wm5 69 rfl rfl
theorem q5_70 : (Cond.methodLink "DikeWatchModel" (184 : Nat) ({ cls := "DikeWatchModel", name := "walk", desc := "(II)V" } : MethodName)) ∈ W0 := wm5 70 rfl rfl
theorem q5_72 : (Cond.instanceMethod ({ cls := "DikeWatchModel", name := "walk", desc := "(II)V" } : MethodName)) ∈ W0 := wm5 72 rfl rfl
theorem q5_73 : (Cond.code ({ cls := "DikeWatchModel", name := "walk", desc := "(II)V" } : MethodName) prog_11_method_33_code (5 : Nat) (Option.none : Option ClassFile.FieldType)) ∈ W0 := wm5 73 rfl rfl
theorem q5_74 : (Cond.methodLink "DikeWatchLaw" (58 : Nat) ({ cls := "DikeWatchModel", name := "fill", desc := "(I)I" } : MethodName)) ∈ W0 := wm5 74 rfl rfl
theorem q5_75 : (Cond.instanceMethod ({ cls := "DikeWatchModel", name := "fill", desc := "(I)I" } : MethodName)) ∈ W0 := wm5 75 rfl rfl
theorem q5_76 : (Cond.selects "DikeWatchModel" ({ cls := "DikeWatchModel", name := "fill", desc := "(I)I" } : MethodName) ({ cls := "DikeWatchModel", name := "fill", desc := "(I)I" } : MethodName)) ∈ W0 := wm5 76 rfl rfl
theorem q5_77 : (Cond.code ({ cls := "DikeWatchModel", name := "fill", desc := "(I)I" } : MethodName) prog_11_method_36_code (8 : Nat) (Option.some ClassFile.FieldType.int)) ∈ W0 := wm5 77 rfl rfl
theorem q5_78 : (Cond.methodLink "DikeWatchModel" (192 : Nat) ({ cls := "DikeWatchModel", name := "isYard", desc := "(I)Z" } : MethodName)) ∈ W0 := wm5 78 rfl rfl
theorem q5_80 : (Cond.instanceMethod ({ cls := "DikeWatchModel", name := "isYard", desc := "(I)Z" } : MethodName)) ∈ W0 := wm5 80 rfl rfl
theorem q5_81 : (Cond.code ({ cls := "DikeWatchModel", name := "isYard", desc := "(I)Z" } : MethodName) prog_11_method_22_code (2 : Nat) (Option.some ClassFile.FieldType.boolean)) ∈ W0 := wm5 81 rfl rfl
theorem q5_82 : (Cond.methodLink "DikeWatchLaw" (62 : Nat) ({ cls := "DikeWatchModel", name := "keep", desc := "(I)I" } : MethodName)) ∈ W0 := wm5 82 rfl rfl
theorem q5_83 : (Cond.instanceMethod ({ cls := "DikeWatchModel", name := "keep", desc := "(I)I" } : MethodName)) ∈ W0 := wm5 83 rfl rfl
theorem q5_84 : (Cond.selects "DikeWatchModel" ({ cls := "DikeWatchModel", name := "keep", desc := "(I)I" } : MethodName) ({ cls := "DikeWatchModel", name := "keep", desc := "(I)I" } : MethodName)) ∈ W0 := wm5 84 rfl rfl
theorem q5_85 : (Cond.code ({ cls := "DikeWatchModel", name := "keep", desc := "(I)I" } : MethodName) prog_11_method_37_code (2 : Nat) (Option.some ClassFile.FieldType.int)) ∈ W0 := wm5 85 rfl rfl
theorem q5_86 : (Cond.methodLink "DikeWatchLaw" (66 : Nat) ({ cls := "DikeWatchModel", name := "back", desc := "(I)I" } : MethodName)) ∈ W0 := wm5 86 rfl rfl
theorem q5_87 : (Cond.instanceMethod ({ cls := "DikeWatchModel", name := "back", desc := "(I)I" } : MethodName)) ∈ W0 := wm5 87 rfl rfl
theorem q5_88 : (Cond.selects "DikeWatchModel" ({ cls := "DikeWatchModel", name := "back", desc := "(I)I" } : MethodName) ({ cls := "DikeWatchModel", name := "back", desc := "(I)I" } : MethodName)) ∈ W0 := wm5 88 rfl rfl
theorem q5_89 : (Cond.code ({ cls := "DikeWatchModel", name := "back", desc := "(I)I" } : MethodName) prog_11_method_38_code (2 : Nat) (Option.some ClassFile.FieldType.int)) ∈ W0 := wm5 89 rfl rfl
theorem q5_90 : (Cond.methodLink "DikeWatchLaw" (71 : Nat) ({ cls := "DikeWatchModel", name := "later", desc := "(III)I" } : MethodName)) ∈ W0 := wm5 90 rfl rfl
theorem q5_91 : (Cond.instanceMethod ({ cls := "DikeWatchModel", name := "later", desc := "(III)I" } : MethodName)) ∈ W0 := wm5 91 rfl rfl
theorem q5_92 : (Cond.selects "DikeWatchModel" ({ cls := "DikeWatchModel", name := "later", desc := "(III)I" } : MethodName) ({ cls := "DikeWatchModel", name := "later", desc := "(III)I" } : MethodName)) ∈ W0 := wm5 92 rfl rfl
theorem q5_93 : (Cond.code ({ cls := "DikeWatchModel", name := "later", desc := "(III)I" } : MethodName) prog_11_method_39_code (5 : Nat) (Option.some ClassFile.FieldType.int)) ∈ W0 := wm5 93 rfl rfl
theorem q5_94 : (Cond.constantLong "DikeWatchModel" (195 : Nat) (2 : Int64)) ∈ W0 := wm5 94 rfl rfl
theorem q5_95 : (Cond.methodLink "DikeWatchLaw" (75 : Nat) ({ cls := "DikeWatchModel", name := "breaks", desc := "(I)I" } : MethodName)) ∈ W0 := wm5 95 rfl rfl
theorem q5_96 : (Cond.instanceMethod ({ cls := "DikeWatchModel", name := "breaks", desc := "(I)I" } : MethodName)) ∈ W0 := wm5 96 rfl rfl
theorem q5_97 : (Cond.selects "DikeWatchModel" ({ cls := "DikeWatchModel", name := "breaks", desc := "(I)I" } : MethodName) ({ cls := "DikeWatchModel", name := "breaks", desc := "(I)I" } : MethodName)) ∈ W0 := wm5 97 rfl rfl
theorem q5_98 : (Cond.code ({ cls := "DikeWatchModel", name := "breaks", desc := "(I)I" } : MethodName) prog_11_method_41_code (2 : Nat) (Option.some ClassFile.FieldType.int)) ∈ W0 := wm5 98 rfl rfl
theorem q5_99 : (Cond.methodLink "DikeWatchModel" (197 : Nat) ({ cls := "DikeWatchModel", name := "breaksIn", desc := "(I)I" } : MethodName)) ∈ W0 := wm5 99 rfl rfl
theorem q5_101 : (Cond.instanceMethod ({ cls := "DikeWatchModel", name := "breaksIn", desc := "(I)I" } : MethodName)) ∈ W0 := wm5 101 rfl rfl
theorem q5_102 : (Cond.code ({ cls := "DikeWatchModel", name := "breaksIn", desc := "(I)I" } : MethodName) prog_11_method_40_code (3 : Nat) (Option.some ClassFile.FieldType.int)) ∈ W0 := wm5 102 rfl rfl
theorem q5_103 : (Cond.methodLink "DikeWatchLaw" (79 : Nat) ({ cls := "DikeWatchModel", name := "missed", desc := "(I)I" } : MethodName)) ∈ W0 := wm5 103 rfl rfl
theorem q5_104 : (Cond.instanceMethod ({ cls := "DikeWatchModel", name := "missed", desc := "(I)I" } : MethodName)) ∈ W0 := wm5 104 rfl rfl
theorem q5_105 : (Cond.selects "DikeWatchModel" ({ cls := "DikeWatchModel", name := "missed", desc := "(I)I" } : MethodName) ({ cls := "DikeWatchModel", name := "missed", desc := "(I)I" } : MethodName)) ∈ W0 := wm5 105 rfl rfl
theorem q5_106 : (Cond.code ({ cls := "DikeWatchModel", name := "missed", desc := "(I)I" } : MethodName) prog_11_method_45_code (2 : Nat) (Option.some ClassFile.FieldType.int)) ∈ W0 := wm5 106 rfl rfl
theorem q5_107 : (Cond.methodLink "DikeWatchModel" (203 : Nat) ({ cls := "DikeWatchModel", name := "layHearers", desc := "()V" } : MethodName)) ∈ W0 := wm5 107 rfl rfl
theorem q5_109 : (Cond.instanceMethod ({ cls := "DikeWatchModel", name := "layHearers", desc := "()V" } : MethodName)) ∈ W0 := wm5 109 rfl rfl
theorem q5_110 : (Cond.code ({ cls := "DikeWatchModel", name := "layHearers", desc := "()V" } : MethodName) prog_11_method_43_code (3 : Nat) (Option.none : Option ClassFile.FieldType)) ∈ W0 := wm5 110 rfl rfl
theorem q5_111 : (Cond.methodLink "DikeWatchModel" (200 : Nat) ({ cls := "DikeWatchModel", name := "heardBy", desc := "(I)I" } : MethodName)) ∈ W0 := wm5 111 rfl rfl
theorem q5_113 : (Cond.instanceMethod ({ cls := "DikeWatchModel", name := "heardBy", desc := "(I)I" } : MethodName)) ∈ W0 := wm5 113 rfl rfl
theorem q5_114 : (Cond.code ({ cls := "DikeWatchModel", name := "heardBy", desc := "(I)I" } : MethodName) prog_11_method_42_code (6 : Nat) (Option.some ClassFile.FieldType.int)) ∈ W0 := wm5 114 rfl rfl
theorem q5_115 : (Cond.methodLink "DikeWatchModel" (206 : Nat) ({ cls := "DikeWatchModel", name := "missedBy", desc := "(I)I" } : MethodName)) ∈ W0 := wm5 115 rfl rfl
theorem q5_117 : (Cond.instanceMethod ({ cls := "DikeWatchModel", name := "missedBy", desc := "(I)I" } : MethodName)) ∈ W0 := wm5 117 rfl rfl
theorem q5_118 : (Cond.code ({ cls := "DikeWatchModel", name := "missedBy", desc := "(I)I" } : MethodName) prog_11_method_44_code (4 : Nat) (Option.some ClassFile.FieldType.int)) ∈ W0 := wm5 118 rfl rfl
theorem q5_119 : (Cond.methodLink "DikeWatchLaw" (83 : Nat) ({ cls := "DikeWatchModel", name := "watch", desc := "(I)I" } : MethodName)) ∈ W0 := wm5 119 rfl rfl
theorem q5_120 : (Cond.instanceMethod ({ cls := "DikeWatchModel", name := "watch", desc := "(I)I" } : MethodName)) ∈ W0 := wm5 120 rfl rfl
theorem q5_121 : (Cond.selects "DikeWatchModel" ({ cls := "DikeWatchModel", name := "watch", desc := "(I)I" } : MethodName) ({ cls := "DikeWatchModel", name := "watch", desc := "(I)I" } : MethodName)) ∈ W0 := wm5 121 rfl rfl
theorem q5_122 : (Cond.code ({ cls := "DikeWatchModel", name := "watch", desc := "(I)I" } : MethodName) prog_11_method_46_code (4 : Nat) (Option.some ClassFile.FieldType.int)) ∈ W0 := wm5 122 rfl rfl
theorem q5_123 : (Cond.methodLink "DikeWatchModel" (209 : Nat) ({ cls := "DikeWatchModel", name := "bits", desc := "(I)I" } : MethodName)) ∈ W0 := wm5 123 rfl rfl
theorem q5_124 : (Cond.static ({ cls := "DikeWatchModel", name := "bits", desc := "(I)I" } : MethodName)) ∈ W0 := wm5 124 rfl rfl
theorem q5_125 : (Cond.code ({ cls := "DikeWatchModel", name := "bits", desc := "(I)I" } : MethodName) prog_11_method_4_code (3 : Nat) (Option.some ClassFile.FieldType.int)) ∈ W0 := wm5 125 rfl rfl
theorem q5_126 : (Cond.methodLink "DikeWatchLaw" (87 : Nat) ({ cls := "DikeWatchModel", name := "order", desc := "(III)I" } : MethodName)) ∈ W0 := wm5 126 rfl rfl
theorem q5_127 : (Cond.instanceMethod ({ cls := "DikeWatchModel", name := "order", desc := "(III)I" } : MethodName)) ∈ W0 := wm5 127 rfl rfl
theorem q5_128 : (Cond.selects "DikeWatchModel" ({ cls := "DikeWatchModel", name := "order", desc := "(III)I" } : MethodName) ({ cls := "DikeWatchModel", name := "order", desc := "(III)I" } : MethodName)) ∈ W0 := wm5 128 rfl rfl
theorem q5_129 : (Cond.code ({ cls := "DikeWatchModel", name := "order", desc := "(III)I" } : MethodName) prog_11_method_49_code (9 : Nat) (Option.some ClassFile.FieldType.int)) ∈ W0 := wm5 129 rfl rfl
theorem q5_130 : (Cond.methodLink "DikeWatchModel" (218 : Nat) ({ cls := "DikeWatchModel", name := "lostBy", desc := "(II)I" } : MethodName)) ∈ W0 := wm5 130 rfl rfl
theorem q5_132 : (Cond.instanceMethod ({ cls := "DikeWatchModel", name := "lostBy", desc := "(II)I" } : MethodName)) ∈ W0 := wm5 132 rfl rfl
theorem q5_133 : (Cond.code ({ cls := "DikeWatchModel", name := "lostBy", desc := "(II)I" } : MethodName) prog_11_method_48_code (8 : Nat) (Option.some ClassFile.FieldType.int)) ∈ W0 := wm5 133 rfl rfl
theorem q5_134 : (Cond.methodLink "DikeWatchModel" (215 : Nat) ({ cls := "DikeWatchModel", name := "rowOf", desc := "(II)I" } : MethodName)) ∈ W0 := wm5 134 rfl rfl
theorem q5_136 : (Cond.instanceMethod ({ cls := "DikeWatchModel", name := "rowOf", desc := "(II)I" } : MethodName)) ∈ W0 := wm5 136 rfl rfl
theorem q5_137 : (Cond.code ({ cls := "DikeWatchModel", name := "rowOf", desc := "(II)I" } : MethodName) prog_11_method_47_code (9 : Nat) (Option.some ClassFile.FieldType.int)) ∈ W0 := wm5 137 rfl rfl
theorem q5_138 : (Cond.methodLink "DikeWatchLaw" (92 : Nat) ({ cls := "DikeWatchModel", name := "storms", desc := "(IIII)J" } : MethodName)) ∈ W0 := wm5 138 rfl rfl
theorem q5_139 : (Cond.instanceMethod ({ cls := "DikeWatchModel", name := "storms", desc := "(IIII)J" } : MethodName)) ∈ W0 := wm5 139 rfl rfl
theorem q5_140 : (Cond.selects "DikeWatchModel" ({ cls := "DikeWatchModel", name := "storms", desc := "(IIII)J" } : MethodName) ({ cls := "DikeWatchModel", name := "storms", desc := "(IIII)J" } : MethodName)) ∈ W0 := wm5 140 rfl rfl
theorem q5_141 : (Cond.code ({ cls := "DikeWatchModel", name := "storms", desc := "(IIII)J" } : MethodName) prog_11_method_52_code (17 : Nat) (Option.some ClassFile.FieldType.long)) ∈ W0 := wm5 141 rfl rfl
theorem q5_142 : (Cond.constantLong "DikeWatchModel" (221 : Nat) (-2 : Int64)) ∈ W0 := wm5 142 rfl rfl
theorem q5_143 : (Cond.constantLong "DikeWatchModel" (223 : Nat) (18 : Int64)) ∈ W0 := wm5 143 rfl rfl
theorem q5_144 : (Cond.constantLong "DikeWatchModel" (225 : Nat) (10 : Int64)) ∈ W0 := wm5 144 rfl rfl
theorem q5_145 : (Cond.constantLong "DikeWatchModel" (227 : Nat) (-3 : Int64)) ∈ W0 := wm5 145 rfl rfl
theorem q5_146 : (Cond.constantLong "DikeWatchModel" (229 : Nat) (-4 : Int64)) ∈ W0 := wm5 146 rfl rfl
theorem q5_147 : (Cond.methodLink "DikeWatchModel" (231 : Nat) ({ cls := "DikeWatchModel", name := "growths", desc := "(I)I" } : MethodName)) ∈ W0 := wm5 147 rfl rfl
theorem q5_149 : (Cond.instanceMethod ({ cls := "DikeWatchModel", name := "growths", desc := "(I)I" } : MethodName)) ∈ W0 := wm5 149 rfl rfl
theorem q5_150 : (Cond.code ({ cls := "DikeWatchModel", name := "growths", desc := "(I)I" } : MethodName) prog_11_method_51_code (4 : Nat) (Option.some ClassFile.FieldType.int)) ∈ W0 := wm5 150 rfl rfl
theorem q5_151 : (Cond.methodLink "DikeWatchModel" (234 : Nat) ({ cls := "DikeWatchModel", name := "power", desc := "(JI)J" } : MethodName)) ∈ W0 := wm5 151 rfl rfl
theorem q5_152 : (Cond.static ({ cls := "DikeWatchModel", name := "power", desc := "(JI)J" } : MethodName)) ∈ W0 := wm5 152 rfl rfl
theorem q5_153 : (Cond.code ({ cls := "DikeWatchModel", name := "power", desc := "(JI)J" } : MethodName) prog_11_method_50_code (6 : Nat) (Option.some ClassFile.FieldType.long)) ∈ W0 := wm5 153 rfl rfl
theorem q5_154 : (Cond.methodLink "DikeWatchLaw" (96 : Nat) ({ cls := "DikeWatchModel", name := "guard", desc := "(II)I" } : MethodName)) ∈ W0 := wm5 154 rfl rfl
theorem q5_155 : (Cond.instanceMethod ({ cls := "DikeWatchModel", name := "guard", desc := "(II)I" } : MethodName)) ∈ W0 := wm5 155 rfl rfl
theorem q5_156 : (Cond.selects "DikeWatchModel" ({ cls := "DikeWatchModel", name := "guard", desc := "(II)I" } : MethodName) ({ cls := "DikeWatchModel", name := "guard", desc := "(II)I" } : MethodName)) ∈ W0 := wm5 156 rfl rfl
theorem q5_157 : (Cond.code ({ cls := "DikeWatchModel", name := "guard", desc := "(II)I" } : MethodName) prog_11_method_53_code (5 : Nat) (Option.some ClassFile.FieldType.int)) ∈ W0 := wm5 157 rfl rfl
theorem q5_158 : (Cond.constantLong "DikeWatchModel" (238 : Nat) (9 : Int64)) ∈ W0 := wm5 158 rfl rfl
theorem q5_159 : (Cond.methodLink "DikeWatchLaw" (100 : Nat) ({ cls := "DikeWatchModel", name := "seen", desc := "(III)I" } : MethodName)) ∈ W0 := wm5 159 rfl rfl
theorem q5_160 : (Cond.instanceMethod ({ cls := "DikeWatchModel", name := "seen", desc := "(III)I" } : MethodName)) ∈ W0 := wm5 160 rfl rfl
theorem q5_161 : (Cond.selects "DikeWatchModel" ({ cls := "DikeWatchModel", name := "seen", desc := "(III)I" } : MethodName) ({ cls := "DikeWatchModel", name := "seen", desc := "(III)I" } : MethodName)) ∈ W0 := wm5 161 rfl rfl
theorem q5_162 : (Cond.code ({ cls := "DikeWatchModel", name := "seen", desc := "(III)I" } : MethodName) prog_11_method_55_code (4 : Nat) (Option.some ClassFile.FieldType.int)) ∈ W0 := wm5 162 rfl rfl
theorem q5_163 : (Cond.methodLink "DikeWatchModel" (240 : Nat) ({ cls := "DikeWatchModel", name := "see", desc := "(III)I" } : MethodName)) ∈ W0 := wm5 163 rfl rfl
theorem q5_165 : (Cond.instanceMethod ({ cls := "DikeWatchModel", name := "see", desc := "(III)I" } : MethodName)) ∈ W0 := wm5 165 rfl rfl
theorem q5_166 : (Cond.code ({ cls := "DikeWatchModel", name := "see", desc := "(III)I" } : MethodName) prog_11_method_54_code (4 : Nat) (Option.some ClassFile.FieldType.int)) ∈ W0 := wm5 166 rfl rfl
theorem q5_167 : (Cond.methodLink "DikeWatchLaw" (104 : Nat) ({ cls := "DikeWatchModel", name := "paid", desc := "(II)I" } : MethodName)) ∈ W0 := wm5 167 rfl rfl
theorem q5_168 : (Cond.instanceMethod ({ cls := "DikeWatchModel", name := "paid", desc := "(II)I" } : MethodName)) ∈ W0 := wm5 168 rfl rfl
theorem q5_169 : (Cond.selects "DikeWatchModel" ({ cls := "DikeWatchModel", name := "paid", desc := "(II)I" } : MethodName) ({ cls := "DikeWatchModel", name := "paid", desc := "(II)I" } : MethodName)) ∈ W0 := wm5 169 rfl rfl
theorem q5_170 : (Cond.code ({ cls := "DikeWatchModel", name := "paid", desc := "(II)I" } : MethodName) prog_11_method_56_code (3 : Nat) (Option.some ClassFile.FieldType.int)) ∈ W0 := wm5 170 rfl rfl
theorem q5_171 : (Cond.methodLink "DikeWatchLaw" (108 : Nat) ({ cls := "DikeWatchModel", name := "forget", desc := "()I" } : MethodName)) ∈ W0 := wm5 171 rfl rfl
theorem q5_172 : (Cond.instanceMethod ({ cls := "DikeWatchModel", name := "forget", desc := "()I" } : MethodName)) ∈ W0 := wm5 172 rfl rfl
theorem q5_173 : (Cond.selects "DikeWatchModel" ({ cls := "DikeWatchModel", name := "forget", desc := "()I" } : MethodName) ({ cls := "DikeWatchModel", name := "forget", desc := "()I" } : MethodName)) ∈ W0 := wm5 173 rfl rfl
theorem q5_174 : (Cond.code ({ cls := "DikeWatchModel", name := "forget", desc := "()I" } : MethodName) prog_11_method_57_code (2 : Nat) (Option.some ClassFile.FieldType.int)) ∈ W0 := wm5 174 rfl rfl
theorem q5_175 : (Cond.methodLink "DikeWatchLaw" (112 : Nat) ({ cls := "DikeWatchModel", name := "where", desc := "()I" } : MethodName)) ∈ W0 := wm5 175 rfl rfl
theorem q5_176 : (Cond.instanceMethod ({ cls := "DikeWatchModel", name := "where", desc := "()I" } : MethodName)) ∈ W0 := wm5 176 rfl rfl
theorem q5_177 : (Cond.selects "DikeWatchModel" ({ cls := "DikeWatchModel", name := "where", desc := "()I" } : MethodName) ({ cls := "DikeWatchModel", name := "where", desc := "()I" } : MethodName)) ∈ W0 := wm5 177 rfl rfl
theorem q5_178 : (Cond.code ({ cls := "DikeWatchModel", name := "where", desc := "()I" } : MethodName) prog_11_method_60_code (1 : Nat) (Option.some ClassFile.FieldType.int)) ∈ W0 := wm5 178 rfl rfl
theorem q5_179 : (Cond.methodLink "DikeWatchModel" (246 : Nat) ({ cls := "DikeWatchModel", name := "placesOf", desc := "()I" } : MethodName)) ∈ W0 := wm5 179 rfl rfl
theorem q5_181 : (Cond.instanceMethod ({ cls := "DikeWatchModel", name := "placesOf", desc := "()I" } : MethodName)) ∈ W0 := wm5 181 rfl rfl
theorem q5_182 : (Cond.code ({ cls := "DikeWatchModel", name := "placesOf", desc := "()I" } : MethodName) prog_11_method_59_code (3 : Nat) (Option.some ClassFile.FieldType.int)) ∈ W0 := wm5 182 rfl rfl
theorem q5_183 : (Cond.methodLink "DikeWatchModel" (243 : Nat) ({ cls := "DikeWatchModel", name := "canBe", desc := "(I)Z" } : MethodName)) ∈ W0 := wm5 183 rfl rfl
theorem q5_185 : (Cond.instanceMethod ({ cls := "DikeWatchModel", name := "canBe", desc := "(I)Z" } : MethodName)) ∈ W0 := wm5 185 rfl rfl
theorem q5_186 : (Cond.code ({ cls := "DikeWatchModel", name := "canBe", desc := "(I)Z" } : MethodName) prog_11_method_58_code (7 : Nat) (Option.some ClassFile.FieldType.boolean)) ∈ W0 := wm5 186 rfl rfl
theorem q5_187 : (Cond.methodLink "DikeWatchLaw" (116 : Nat) ({ cls := "DikeWatchModel", name := "next", desc := "(I)I" } : MethodName)) ∈ W0 := wm5 187 rfl rfl
theorem q5_188 : (Cond.instanceMethod ({ cls := "DikeWatchModel", name := "next", desc := "(I)I" } : MethodName)) ∈ W0 := wm5 188 rfl rfl
theorem q5_189 : (Cond.selects "DikeWatchModel" ({ cls := "DikeWatchModel", name := "next", desc := "(I)I" } : MethodName) ({ cls := "DikeWatchModel", name := "next", desc := "(I)I" } : MethodName)) ∈ W0 := wm5 189 rfl rfl
theorem q5_190 : (Cond.code ({ cls := "DikeWatchModel", name := "next", desc := "(I)I" } : MethodName) prog_11_method_61_code (8 : Nat) (Option.some ClassFile.FieldType.int)) ∈ W0 := wm5 190 rfl rfl
theorem q5_191 : (Cond.methodLink "DikeWatchLaw" (120 : Nat) ({ cls := "DikeWatchModel", name := "count", desc := "(I)I" } : MethodName)) ∈ W0 := wm5 191 rfl rfl
theorem q5_192 : (Cond.instanceMethod ({ cls := "DikeWatchModel", name := "count", desc := "(I)I" } : MethodName)) ∈ W0 := wm5 192 rfl rfl
theorem q5_193 : (Cond.selects "DikeWatchModel" ({ cls := "DikeWatchModel", name := "count", desc := "(I)I" } : MethodName) ({ cls := "DikeWatchModel", name := "count", desc := "(I)I" } : MethodName)) ∈ W0 := wm5 193 rfl rfl
theorem q5_194 : (Cond.code ({ cls := "DikeWatchModel", name := "count", desc := "(I)I" } : MethodName) prog_11_method_62_code (4 : Nat) (Option.some ClassFile.FieldType.int)) ∈ W0 := wm5 194 rfl rfl
theorem q5_195 : (Cond.constantLong "DikeWatchLaw" (13 : Nat) (4294967295 : Int64)) ∈ W0 := wm5 195 rfl rfl
theorem q5_196 : (Cond.fieldLink "java/lang/String" (9 : Nat) "java/lang/String" "value" "[B") ∈ W0 := wm5 196 rfl rfl
theorem q5_197 : (Cond.fieldLink "java/lang/String" (15 : Nat) "java/lang/String" "coder" "B") ∈ W0 := wm5 197 rfl rfl
theorem in_X0 : ∀ w ∈ wsX00, w ∈ W0 := List.forall_mem_cons.mpr ⟨wm2 15 rfl rfl, List.forall_mem_cons.mpr ⟨wm2 17 rfl rfl, List.forall_mem_cons.mpr ⟨wm2 19 rfl rfl, fun _ h => absurd h List.not_mem_nil⟩⟩⟩
theorem in_X1 : ∀ w ∈ wsX10, w ∈ W0 := List.forall_mem_cons.mpr ⟨wm1 159 rfl rfl, List.forall_mem_cons.mpr ⟨wm1 161 rfl rfl, List.forall_mem_cons.mpr ⟨wm1 163 rfl rfl, List.forall_mem_cons.mpr ⟨wm1 165 rfl rfl, List.forall_mem_cons.mpr ⟨wm1 167 rfl rfl, fun _ h => absurd h List.not_mem_nil⟩⟩⟩⟩⟩
theorem in_X2 : ∀ w ∈ wsX20, w ∈ W0 := List.forall_mem_cons.mpr ⟨wm1 210 rfl rfl, List.forall_mem_cons.mpr ⟨wm1 212 rfl rfl, List.forall_mem_cons.mpr ⟨wm1 214 rfl rfl, List.forall_mem_cons.mpr ⟨wm1 216 rfl rfl, List.forall_mem_cons.mpr ⟨wm1 218 rfl rfl, List.forall_mem_cons.mpr ⟨wm1 220 rfl rfl, List.forall_mem_cons.mpr ⟨wm1 222 rfl rfl, fun _ h => absurd h List.not_mem_nil⟩⟩⟩⟩⟩⟩⟩
theorem in_X3 : ∀ w ∈ wsX30, w ∈ W0 := List.forall_mem_cons.mpr ⟨wm1 133 rfl rfl, List.forall_mem_cons.mpr ⟨wm1 135 rfl rfl, List.forall_mem_cons.mpr ⟨wm1 137 rfl rfl, List.forall_mem_cons.mpr ⟨wm1 139 rfl rfl, List.forall_mem_cons.mpr ⟨wm1 141 rfl rfl, List.forall_mem_cons.mpr ⟨wm1 143 rfl rfl, List.forall_mem_cons.mpr ⟨wm1 145 rfl rfl, fun _ h => absurd h List.not_mem_nil⟩⟩⟩⟩⟩⟩⟩
theorem in_X4 : ∀ w ∈ wsX40, w ∈ W0 := List.forall_mem_cons.mpr ⟨wm1 183 rfl rfl, List.forall_mem_cons.mpr ⟨wm1 185 rfl rfl, List.forall_mem_cons.mpr ⟨wm1 187 rfl rfl, List.forall_mem_cons.mpr ⟨wm1 189 rfl rfl, List.forall_mem_cons.mpr ⟨wm1 191 rfl rfl, List.forall_mem_cons.mpr ⟨wm1 193 rfl rfl, fun _ h => absurd h List.not_mem_nil⟩⟩⟩⟩⟩⟩
theorem in_X5 : ∀ w ∈ wsX50, w ∈ W0 := List.forall_mem_cons.mpr ⟨wm1 236 rfl rfl, List.forall_mem_cons.mpr ⟨wm1 238 rfl rfl, List.forall_mem_cons.mpr ⟨wm2 0 rfl rfl, fun _ h => absurd h List.not_mem_nil⟩⟩⟩
theorem in_X6 : ∀ w ∈ wsX60, w ∈ W0 := List.forall_mem_cons.mpr ⟨wm1 37 rfl rfl, List.forall_mem_cons.mpr ⟨wm1 39 rfl rfl, fun _ h => absurd h List.not_mem_nil⟩⟩
theorem in_X7 : ∀ w ∈ wsX70, w ∈ W0 := List.forall_mem_cons.mpr ⟨wm1 87 rfl rfl, List.forall_mem_cons.mpr ⟨wm1 89 rfl rfl, List.forall_mem_cons.mpr ⟨wm1 91 rfl rfl, List.forall_mem_cons.mpr ⟨wm1 93 rfl rfl, List.forall_mem_cons.mpr ⟨wm1 95 rfl rfl, List.forall_mem_cons.mpr ⟨wm1 97 rfl rfl, List.forall_mem_cons.mpr ⟨wm1 99 rfl rfl, List.forall_mem_cons.mpr ⟨wm1 101 rfl rfl, List.forall_mem_cons.mpr ⟨wm1 103 rfl rfl, List.forall_mem_cons.mpr ⟨wm1 105 rfl rfl, List.forall_mem_cons.mpr ⟨wm1 107 rfl rfl, List.forall_mem_cons.mpr ⟨wm1 109 rfl rfl, fun _ h => absurd h List.not_mem_nil⟩⟩⟩⟩⟩⟩⟩⟩⟩⟩⟩⟩
theorem in_X8 : ∀ w ∈ wsX80, w ∈ W0 := List.forall_mem_cons.mpr ⟨wm2 34 rfl rfl, List.forall_mem_cons.mpr ⟨wm2 36 rfl rfl, List.forall_mem_cons.mpr ⟨wm2 38 rfl rfl, List.forall_mem_cons.mpr ⟨wm2 40 rfl rfl, List.forall_mem_cons.mpr ⟨wm2 42 rfl rfl, List.forall_mem_cons.mpr ⟨wm2 44 rfl rfl, List.forall_mem_cons.mpr ⟨wm2 46 rfl rfl, List.forall_mem_cons.mpr ⟨wm2 48 rfl rfl, List.forall_mem_cons.mpr ⟨wm2 50 rfl rfl, List.forall_mem_cons.mpr ⟨wm2 52 rfl rfl, List.forall_mem_cons.mpr ⟨wm2 54 rfl rfl, List.forall_mem_cons.mpr ⟨wm2 56 rfl rfl, fun _ h => absurd h List.not_mem_nil⟩⟩⟩⟩⟩⟩⟩⟩⟩⟩⟩⟩
theorem in_X9 : ∀ w ∈ wsX90, w ∈ W0 := List.forall_mem_cons.mpr ⟨wm4 121 rfl rfl, List.forall_mem_cons.mpr ⟨wm4 123 rfl rfl, List.forall_mem_cons.mpr ⟨wm4 125 rfl rfl, List.forall_mem_cons.mpr ⟨wm4 127 rfl rfl, List.forall_mem_cons.mpr ⟨wm4 129 rfl rfl, List.forall_mem_cons.mpr ⟨wm4 131 rfl rfl, List.forall_mem_cons.mpr ⟨wm4 133 rfl rfl, List.forall_mem_cons.mpr ⟨wm4 135 rfl rfl, List.forall_mem_cons.mpr ⟨wm4 137 rfl rfl, List.forall_mem_cons.mpr ⟨wm4 139 rfl rfl, List.forall_mem_cons.mpr ⟨wm4 141 rfl rfl, List.forall_mem_cons.mpr ⟨wm4 143 rfl rfl, List.forall_mem_cons.mpr ⟨wm4 145 rfl rfl, List.forall_mem_cons.mpr ⟨wm4 147 rfl rfl, List.forall_mem_cons.mpr ⟨wm4 149 rfl rfl, List.forall_mem_cons.mpr ⟨wm4 151 rfl rfl, List.forall_mem_cons.mpr ⟨wm4 153 rfl rfl, List.forall_mem_cons.mpr ⟨wm4 155 rfl rfl, List.forall_mem_cons.mpr ⟨wm4 157 rfl rfl, List.forall_mem_cons.mpr ⟨wm4 159 rfl rfl, List.forall_mem_cons.mpr ⟨wm4 161 rfl rfl, List.forall_mem_cons.mpr ⟨wm4 163 rfl rfl, List.forall_mem_cons.mpr ⟨wm4 165 rfl rfl, List.forall_mem_cons.mpr ⟨wm4 167 rfl rfl, List.forall_mem_cons.mpr ⟨wm4 169 rfl rfl, List.forall_mem_cons.mpr ⟨wm4 171 rfl rfl, fun _ h => absurd h List.not_mem_nil⟩⟩⟩⟩⟩⟩⟩⟩⟩⟩⟩⟩⟩⟩⟩⟩⟩⟩⟩⟩⟩⟩⟩⟩⟩⟩
/-! word lists: a method's own code, then W0 -/
theorem w0_in {c w : Cond} (h : w ∈ W0) : w ∈ c :: W0 := List.mem_cons_of_mem _ h
theorem w0_pay {c w : Cond} (h : w ∈ W0) : w ∈ c :: W0 ∧ ((w.onTables && w.keeps) = true ∨ ∃ ty, w = .arrayClass ty) := ⟨w0_in h, good_of_word (W0_good h)⟩
theorem w0_all {c d : Cond} (hd : d ∈ W0) : GoodIn (c :: W0) (d :: W0) := fun w hw => (List.mem_cons.mp hw).elim (fun e => e ▸ w0_pay hd) w0_pay
theorem w0_V {c d : Cond} {own : String} {idx : Nat} {C : String} {y : MethodName} (hd : d ∈ W0) (h1 : Cond.methodLink own idx y ∈ W0) (h2 : Cond.instanceMethod y ∈ W0) (h3 : Cond.selects C y y ∈ W0) (h4 : Cond.initialized C ∈ W0) : GoodIn (c :: W0) (wsV own idx C y (d :: W0)) := by
  intro w hw
  unfold wsV at hw
  rcases List.mem_append.mp hw with h | h
  · simp only [List.mem_cons, List.not_mem_nil, or_false] at h
    rcases h with rfl | rfl | rfl | rfl
    · exact w0_pay h1
    · exact w0_pay h2
    · exact w0_pay h3
    · exact w0_pay h4
  · exact w0_all hd w h
theorem w0_S {c d : Cond} {own : String} {idx : Nat} {y : MethodName} (hd : d ∈ W0) (h1 : Cond.methodLink own idx y ∈ W0) (h2 : Cond.static y ∈ W0) (h4 : Cond.initialized y.cls ∈ W0) : GoodIn (c :: W0) (va_wsS own idx y (d :: W0)) := by
  intro w hw
  unfold va_wsS at hw
  rcases List.mem_append.mp hw with h | h
  · simp only [List.mem_cons, List.not_mem_nil, or_false] at h
    rcases h with rfl | rfl | rfl
    · exact w0_pay h1
    · exact w0_pay h2
    · exact w0_pay h4
  · exact w0_all hd w h
