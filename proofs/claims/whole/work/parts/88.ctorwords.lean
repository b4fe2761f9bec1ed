/-! words for the constructors -/
theorem str_I : "[" ++ (FieldType.array .int).toString = "[[I" := by decide
theorem str_J : "[" ++ (FieldType.array .long).toString = "[[J" := by decide
set_option maxRecDepth 20000 in
theorem tc_1 : Cond.initialized RX7 ∈ gtbl := gt_mem 1 rfl rfl
set_option maxRecDepth 20000 in
theorem tc_2 : Cond.initialized RX2 ∈ gtbl := gt_mem 2 rfl rfl
set_option maxRecDepth 20000 in
theorem tc_3 : Cond.initialized RX0 ∈ gtbl := gt_mem 3 rfl rfl
set_option maxRecDepth 20000 in
theorem tc_4 : Cond.initialized RX6 ∈ gtbl := gt_mem 4 rfl rfl
set_option maxRecDepth 20000 in
theorem tc_5 : Cond.initialized RX1 ∈ gtbl := gt_mem 5 rfl rfl
set_option maxRecDepth 20000 in
theorem tc_6 : Cond.initialized RX4 ∈ gtbl := gt_mem 6 rfl rfl
set_option maxRecDepth 20000 in
theorem tc_7 : Cond.initialized RX5 ∈ gtbl := gt_mem 7 rfl rfl
set_option maxRecDepth 20000 in
theorem tc_8 : Cond.initialized RX3 ∈ gtbl := gt_mem 8 rfl rfl
set_option maxRecDepth 20000 in
theorem tc_9 : Cond.initialized RX8 ∈ gtbl := gt_mem 9 rfl rfl
set_option maxRecDepth 20000 in
theorem tc_13 : Cond.classLink RL 7 RX7 ∈ gtbl := gt_mem 13 rfl rfl
set_option maxRecDepth 20000 in
theorem tc_14 : Cond.instantiable RX7 10 ∈ gtbl := gt_mem 14 rfl rfl
set_option maxRecDepth 20000 in
theorem tc_15 : Cond.methodLink RL 9 yX7_init ∈ gtbl := gt_mem 15 rfl rfl
set_option maxRecDepth 20000 in
theorem tc_16 : Cond.instanceMethod yX7_init ∈ gtbl := gt_mem 16 rfl rfl
set_option maxRecDepth 20000 in
theorem tc_17 : Cond.code yX7_init cX7_init 2 none ∈ gtbl := gt_mem 17 rfl rfl
set_option maxRecDepth 20000 in
theorem tc_18 : Cond.methodLink RX7 3 Lib.objectInit ∈ gtbl := gt_mem 18 rfl rfl
set_option maxRecDepth 20000 in
theorem tc_19 : Cond.instanceMethod Lib.objectInit ∈ gtbl := gt_mem 19 rfl rfl
set_option maxRecDepth 20000 in
theorem tc_20 : Cond.code Lib.objectInit ⟨#[0xb1]⟩ 1 none ∈ gtbl := gt_mem 20 rfl rfl
set_option maxRecDepth 20000 in
theorem tc_21 : Cond.classLink RX7 9 RX2 ∈ gtbl := gt_mem 21 rfl rfl
set_option maxRecDepth 20000 in
theorem tc_22 : Cond.instantiable RX2 3 ∈ gtbl := gt_mem 22 rfl rfl
set_option maxRecDepth 20000 in
theorem tc_23 : Cond.methodLink RX7 11 yX2_init ∈ gtbl := gt_mem 23 rfl rfl
set_option maxRecDepth 20000 in
theorem tc_24 : Cond.instanceMethod yX2_init ∈ gtbl := gt_mem 24 rfl rfl
set_option maxRecDepth 20000 in
theorem tc_25 : Cond.code yX2_init cX2_init 1 none ∈ gtbl := gt_mem 25 rfl rfl
set_option maxRecDepth 20000 in
theorem tc_26 : Cond.methodLink RX2 3 Lib.objectInit ∈ gtbl := gt_mem 26 rfl rfl
set_option maxRecDepth 20000 in
theorem tc_27 : Cond.fieldLink RX2 9 "ArcFactoredParser$Text" "letters" "[I" ∈ gtbl := gt_mem 27 rfl rfl
set_option maxRecDepth 20000 in
theorem tc_29 : Cond.fieldLink RX2 15 "ArcFactoredParser$Text" "length" "I" ∈ gtbl := gt_mem 29 rfl rfl
set_option maxRecDepth 20000 in
theorem tc_31 : Cond.fieldLink RX2 19 "ArcFactoredParser$Text" "heads" "[I" ∈ gtbl := gt_mem 31 rfl rfl
set_option maxRecDepth 20000 in
theorem tc_39 : Cond.arrayClass .int ∈ gtbl := gt_mem 39 rfl rfl
set_option maxRecDepth 20000 in
theorem tc_40 : Cond.classLink RX7 16 RX0 ∈ gtbl := gt_mem 40 rfl rfl
set_option maxRecDepth 20000 in
theorem tc_42 : Cond.instantiable RX0 5 ∈ gtbl := gt_mem 42 rfl rfl
set_option maxRecDepth 20000 in
theorem tc_43 : Cond.methodLink RX7 22 yX0_init ∈ gtbl := gt_mem 43 rfl rfl
set_option maxRecDepth 20000 in
theorem tc_44 : Cond.instanceMethod yX0_init ∈ gtbl := gt_mem 44 rfl rfl
set_option maxRecDepth 20000 in
theorem tc_45 : Cond.code yX0_init cX0_init 1 none ∈ gtbl := gt_mem 45 rfl rfl
set_option maxRecDepth 20000 in
theorem tc_46 : Cond.methodLink RX0 3 Lib.objectInit ∈ gtbl := gt_mem 46 rfl rfl
set_option maxRecDepth 20000 in
theorem tc_47x : Cond.classLink RX0 22 "[[I" ∈ gtbl := gt_mem 47 rfl rfl
theorem tc_47 : Cond.classLink RX0 22 ("[" ++ (FieldType.array .int).toString) ∈ gtbl := by rw [str_I]; exact tc_47x
set_option maxRecDepth 20000 in
theorem tc_49 : Cond.fieldLink RX0 9 "ArcFactoredParser$Sentence" "size" "I" ∈ gtbl := gt_mem 49 rfl rfl
set_option maxRecDepth 20000 in
theorem tc_52 : Cond.fieldLink RX0 15 "ArcFactoredParser$Sentence" "tags" "[I" ∈ gtbl := gt_mem 52 rfl rfl
set_option maxRecDepth 20000 in
theorem tc_55 : Cond.fieldLink RX0 19 "ArcFactoredParser$Sentence" "heads" "[I" ∈ gtbl := gt_mem 55 rfl rfl
set_option maxRecDepth 20000 in
theorem tc_58 : Cond.fieldLink RX0 24 "ArcFactoredParser$Sentence" "biases" "[[I" ∈ gtbl := gt_mem 58 rfl rfl
set_option maxRecDepth 20000 in
theorem tc_60 : Cond.fieldLink RX0 27 "ArcFactoredParser$Sentence" "constraints" "[[I" ∈ gtbl := gt_mem 60 rfl rfl
set_option maxRecDepth 20000 in
theorem tc_73 : Cond.classLink RX7 27 RX6 ∈ gtbl := gt_mem 73 rfl rfl
set_option maxRecDepth 20000 in
theorem tc_74 : Cond.instantiable RX6 2 ∈ gtbl := gt_mem 74 rfl rfl
set_option maxRecDepth 20000 in
theorem tc_75 : Cond.methodLink RX7 29 yX6_init ∈ gtbl := gt_mem 75 rfl rfl
set_option maxRecDepth 20000 in
theorem tc_76 : Cond.instanceMethod yX6_init ∈ gtbl := gt_mem 76 rfl rfl
set_option maxRecDepth 20000 in
theorem tc_77 : Cond.code yX6_init cX6_init 1 none ∈ gtbl := gt_mem 77 rfl rfl
set_option maxRecDepth 20000 in
theorem tc_78 : Cond.methodLink RX6 3 Lib.objectInit ∈ gtbl := gt_mem 78 rfl rfl
set_option maxRecDepth 20000 in
theorem tc_79x : Cond.classLink RX6 9 "[[I" ∈ gtbl := gt_mem 79 rfl rfl
theorem tc_79 : Cond.classLink RX6 9 ("[" ++ (FieldType.array .int).toString) ∈ gtbl := by rw [str_I]; exact tc_79x
set_option maxRecDepth 20000 in
theorem tc_80 : Cond.fieldLink RX6 11 "ArcFactoredParser$Weights" "byTags" "[[I" ∈ gtbl := gt_mem 80 rfl rfl
set_option maxRecDepth 20000 in
theorem tc_82 : Cond.fieldLink RX6 16 "ArcFactoredParser$Weights" "byDistance" "[[I" ∈ gtbl := gt_mem 82 rfl rfl
set_option maxRecDepth 20000 in
theorem tc_90 : Cond.classLink RX7 42 RX1 ∈ gtbl := gt_mem 90 rfl rfl
set_option maxRecDepth 20000 in
theorem tc_91 : Cond.instantiable RX1 3 ∈ gtbl := gt_mem 91 rfl rfl
set_option maxRecDepth 20000 in
theorem tc_92 : Cond.methodLink RX7 44 yX1_init ∈ gtbl := gt_mem 92 rfl rfl
set_option maxRecDepth 20000 in
theorem tc_93 : Cond.instanceMethod yX1_init ∈ gtbl := gt_mem 93 rfl rfl
set_option maxRecDepth 20000 in
theorem tc_94 : Cond.code yX1_init cX1_init 1 none ∈ gtbl := gt_mem 94 rfl rfl
set_option maxRecDepth 20000 in
theorem tc_95 : Cond.methodLink RX1 3 Lib.objectInit ∈ gtbl := gt_mem 95 rfl rfl
set_option maxRecDepth 20000 in
theorem tc_96 : Cond.fieldLink RX1 9 "ArcFactoredParser$Settings" "singleRoot" "Z" ∈ gtbl := gt_mem 96 rfl rfl
set_option maxRecDepth 20000 in
theorem tc_100 : Cond.fieldLink RX1 15 "ArcFactoredParser$Settings" "projective" "Z" ∈ gtbl := gt_mem 100 rfl rfl
set_option maxRecDepth 20000 in
theorem tc_104 : Cond.fieldLink RX1 18 "ArcFactoredParser$Settings" "shift" "I" ∈ gtbl := gt_mem 104 rfl rfl
set_option maxRecDepth 20000 in
theorem tc_113 : Cond.arrayClass .boolean ∈ gtbl := gt_mem 113 rfl rfl
set_option maxRecDepth 20000 in
theorem tc_114 : Cond.classLink RX7 49 RX4 ∈ gtbl := gt_mem 114 rfl rfl
set_option maxRecDepth 20000 in
theorem tc_115 : Cond.instantiable RX4 10 ∈ gtbl := gt_mem 115 rfl rfl
set_option maxRecDepth 20000 in
theorem tc_116 : Cond.methodLink RX7 51 yX4_init ∈ gtbl := gt_mem 116 rfl rfl
set_option maxRecDepth 20000 in
theorem tc_117 : Cond.instanceMethod yX4_init ∈ gtbl := gt_mem 117 rfl rfl
set_option maxRecDepth 20000 in
theorem tc_118 : Cond.code yX4_init cX4_init 2 none ∈ gtbl := gt_mem 118 rfl rfl
set_option maxRecDepth 20000 in
theorem tc_119 : Cond.methodLink RX4 3 Lib.objectInit ∈ gtbl := gt_mem 119 rfl rfl
set_option maxRecDepth 20000 in
theorem tc_120x : Cond.classLink RX4 15 "[[J" ∈ gtbl := gt_mem 120 rfl rfl
theorem tc_120 : Cond.classLink RX4 15 ("[" ++ (FieldType.array .long).toString) ∈ gtbl := by rw [str_J]; exact tc_120x
set_option maxRecDepth 20000 in
theorem tc_122x : Cond.classLink RX4 20 "[[I" ∈ gtbl := gt_mem 122 rfl rfl
theorem tc_122 : Cond.classLink RX4 20 ("[" ++ (FieldType.array .int).toString) ∈ gtbl := by rw [str_I]; exact tc_122x
set_option maxRecDepth 20000 in
theorem tc_123 : Cond.fieldLink RX4 45 "ArcFactoredParser$TreeSearch" "settings" "LArcFactoredParser$Settings;" ∈ gtbl := gt_mem 123 rfl rfl
set_option maxRecDepth 20000 in
theorem tc_124 : Cond.fieldLink RX4 9 "ArcFactoredParser$TreeSearch" "size" "I" ∈ gtbl := gt_mem 124 rfl rfl
set_option maxRecDepth 20000 in
theorem tc_125 : Cond.fieldLink RX4 17 "ArcFactoredParser$TreeSearch" "values" "[[J" ∈ gtbl := gt_mem 125 rfl rfl
set_option maxRecDepth 20000 in
theorem tc_126 : Cond.fieldLink RX4 22 "ArcFactoredParser$TreeSearch" "offered" "[[I" ∈ gtbl := gt_mem 126 rfl rfl
set_option maxRecDepth 20000 in
theorem tc_127 : Cond.fieldLink RX4 25 "ArcFactoredParser$TreeSearch" "offers" "[I" ∈ gtbl := gt_mem 127 rfl rfl
set_option maxRecDepth 20000 in
theorem tc_128 : Cond.fieldLink RX4 29 "ArcFactoredParser$TreeSearch" "rest" "[J" ∈ gtbl := gt_mem 128 rfl rfl
set_option maxRecDepth 20000 in
theorem tc_129 : Cond.fieldLink RX4 33 "ArcFactoredParser$TreeSearch" "heads" "[I" ∈ gtbl := gt_mem 129 rfl rfl
set_option maxRecDepth 20000 in
theorem tc_130 : Cond.fieldLink RX4 36 "ArcFactoredParser$TreeSearch" "kept" "[J" ∈ gtbl := gt_mem 130 rfl rfl
set_option maxRecDepth 20000 in
theorem tc_131 : Cond.fieldLink RX4 39 "ArcFactoredParser$TreeSearch" "wanted" "I" ∈ gtbl := gt_mem 131 rfl rfl
set_option maxRecDepth 20000 in
theorem tc_132 : Cond.fieldLink RX4 42 "ArcFactoredParser$TreeSearch" "found" "I" ∈ gtbl := gt_mem 132 rfl rfl
set_option maxRecDepth 20000 in
theorem tc_155 : Cond.arrayClass .long ∈ gtbl := gt_mem 155 rfl rfl
set_option maxRecDepth 20000 in
theorem tc_156 : Cond.classLink RX7 58 RX5 ∈ gtbl := gt_mem 156 rfl rfl
set_option maxRecDepth 20000 in
theorem tc_157 : Cond.instantiable RX5 8 ∈ gtbl := gt_mem 157 rfl rfl
set_option maxRecDepth 20000 in
theorem tc_158 : Cond.methodLink RX7 60 yX5_init ∈ gtbl := gt_mem 158 rfl rfl
set_option maxRecDepth 20000 in
theorem tc_159 : Cond.instanceMethod yX5_init ∈ gtbl := gt_mem 159 rfl rfl
set_option maxRecDepth 20000 in
theorem tc_160 : Cond.code yX5_init cX5_init 2 none ∈ gtbl := gt_mem 160 rfl rfl
set_option maxRecDepth 20000 in
theorem tc_161 : Cond.methodLink RX5 3 Lib.objectInit ∈ gtbl := gt_mem 161 rfl rfl
set_option maxRecDepth 20000 in
theorem tc_162x : Cond.classLink RX5 15 "[[J" ∈ gtbl := gt_mem 162 rfl rfl
theorem tc_162 : Cond.classLink RX5 15 ("[" ++ (FieldType.array .long).toString) ∈ gtbl := by rw [str_J]; exact tc_162x
set_option maxRecDepth 20000 in
theorem tc_163 : Cond.fieldLink RX5 35 "ArcFactoredParser$TreeSums" "settings" "LArcFactoredParser$Settings;" ∈ gtbl := gt_mem 163 rfl rfl
set_option maxRecDepth 20000 in
theorem tc_164 : Cond.fieldLink RX5 9 "ArcFactoredParser$TreeSums" "size" "I" ∈ gtbl := gt_mem 164 rfl rfl
set_option maxRecDepth 20000 in
theorem tc_165 : Cond.fieldLink RX5 17 "ArcFactoredParser$TreeSums" "potentials" "[[J" ∈ gtbl := gt_mem 165 rfl rfl
set_option maxRecDepth 20000 in
theorem tc_166 : Cond.fieldLink RX5 20 "ArcFactoredParser$TreeSums" "branches" "[[J" ∈ gtbl := gt_mem 166 rfl rfl
set_option maxRecDepth 20000 in
theorem tc_167 : Cond.fieldLink RX5 23 "ArcFactoredParser$TreeSums" "forests" "[[J" ∈ gtbl := gt_mem 167 rfl rfl
set_option maxRecDepth 20000 in
theorem tc_168 : Cond.fieldLink RX5 26 "ArcFactoredParser$TreeSums" "branchGains" "[[J" ∈ gtbl := gt_mem 168 rfl rfl
set_option maxRecDepth 20000 in
theorem tc_169 : Cond.fieldLink RX5 29 "ArcFactoredParser$TreeSums" "forestGains" "[[J" ∈ gtbl := gt_mem 169 rfl rfl
set_option maxRecDepth 20000 in
theorem tc_170 : Cond.fieldLink RX5 32 "ArcFactoredParser$TreeSums" "arcGains" "[[J" ∈ gtbl := gt_mem 170 rfl rfl
set_option maxRecDepth 20000 in
theorem tc_188 : Cond.classLink RX7 65 RX3 ∈ gtbl := gt_mem 188 rfl rfl
set_option maxRecDepth 20000 in
theorem tc_189 : Cond.instantiable RX3 12 ∈ gtbl := gt_mem 189 rfl rfl
set_option maxRecDepth 20000 in
theorem tc_190 : Cond.methodLink RX7 67 yX3_init ∈ gtbl := gt_mem 190 rfl rfl
set_option maxRecDepth 20000 in
theorem tc_191 : Cond.instanceMethod yX3_init ∈ gtbl := gt_mem 191 rfl rfl
set_option maxRecDepth 20000 in
theorem tc_192 : Cond.code yX3_init cX3_init 1 none ∈ gtbl := gt_mem 192 rfl rfl
set_option maxRecDepth 20000 in
theorem tc_193 : Cond.methodLink RX3 3 Lib.objectInit ∈ gtbl := gt_mem 193 rfl rfl
set_option maxRecDepth 20000 in
theorem tc_194 : Cond.fieldLink RX3 9 "ArcFactoredParser$TransitionRun" "size" "I" ∈ gtbl := gt_mem 194 rfl rfl
set_option maxRecDepth 20000 in
theorem tc_195 : Cond.fieldLink RX3 15 "ArcFactoredParser$TransitionRun" "heads" "[I" ∈ gtbl := gt_mem 195 rfl rfl
set_option maxRecDepth 20000 in
theorem tc_196 : Cond.fieldLink RX3 19 "ArcFactoredParser$TransitionRun" "order" "[I" ∈ gtbl := gt_mem 196 rfl rfl
set_option maxRecDepth 20000 in
theorem tc_198 : Cond.fieldLink RX3 22 "ArcFactoredParser$TransitionRun" "ordered" "I" ∈ gtbl := gt_mem 198 rfl rfl
set_option maxRecDepth 20000 in
theorem tc_199 : Cond.fieldLink RX3 25 "ArcFactoredParser$TransitionRun" "places" "[I" ∈ gtbl := gt_mem 199 rfl rfl
set_option maxRecDepth 20000 in
theorem tc_200 : Cond.fieldLink RX3 28 "ArcFactoredParser$TransitionRun" "sequence" "[I" ∈ gtbl := gt_mem 200 rfl rfl
set_option maxRecDepth 20000 in
theorem tc_202 : Cond.fieldLink RX3 31 "ArcFactoredParser$TransitionRun" "length" "I" ∈ gtbl := gt_mem 202 rfl rfl
set_option maxRecDepth 20000 in
theorem tc_204 : Cond.fieldLink RX3 34 "ArcFactoredParser$TransitionRun" "stack" "[I" ∈ gtbl := gt_mem 204 rfl rfl
set_option maxRecDepth 20000 in
theorem tc_205 : Cond.fieldLink RX3 37 "ArcFactoredParser$TransitionRun" "stacked" "I" ∈ gtbl := gt_mem 205 rfl rfl
set_option maxRecDepth 20000 in
theorem tc_206 : Cond.fieldLink RX3 40 "ArcFactoredParser$TransitionRun" "buffer" "[I" ∈ gtbl := gt_mem 206 rfl rfl
set_option maxRecDepth 20000 in
theorem tc_207 : Cond.fieldLink RX3 43 "ArcFactoredParser$TransitionRun" "waiting" "I" ∈ gtbl := gt_mem 207 rfl rfl
set_option maxRecDepth 20000 in
theorem tc_208 : Cond.fieldLink RX3 46 "ArcFactoredParser$TransitionRun" "attached" "[Z" ∈ gtbl := gt_mem 208 rfl rfl
set_option maxRecDepth 20000 in
theorem tc_234 : Cond.fieldLink RX7 12 "ArcFactoredParser" "text" "LArcFactoredParser$Text;" ∈ gtbl := gt_mem 234 rfl rfl
set_option maxRecDepth 20000 in
theorem tc_235 : Cond.fieldLink RX7 18 "ArcFactoredParser" "stored" "[LArcFactoredParser$Sentence;" ∈ gtbl := gt_mem 235 rfl rfl
set_option maxRecDepth 20000 in
theorem tc_236 : Cond.fieldLink RX7 23 "ArcFactoredParser" "storedCount" "I" ∈ gtbl := gt_mem 236 rfl rfl
set_option maxRecDepth 20000 in
theorem tc_237 : Cond.fieldLink RX7 30 "ArcFactoredParser" "weights" "LArcFactoredParser$Weights;" ∈ gtbl := gt_mem 237 rfl rfl
set_option maxRecDepth 20000 in
theorem tc_238 : Cond.fieldLink RX7 34 "ArcFactoredParser" "slots" "[LArcFactoredParser$Weights;" ∈ gtbl := gt_mem 238 rfl rfl
set_option maxRecDepth 20000 in
theorem tc_239 : Cond.fieldLink RX7 38 "ArcFactoredParser" "slotUsed" "[Z" ∈ gtbl := gt_mem 239 rfl rfl
set_option maxRecDepth 20000 in
theorem tc_240 : Cond.fieldLink RX7 45 "ArcFactoredParser" "settings" "LArcFactoredParser$Settings;" ∈ gtbl := gt_mem 240 rfl rfl
set_option maxRecDepth 20000 in
theorem tc_241 : Cond.fieldLink RX7 54 "ArcFactoredParser" "search" "LArcFactoredParser$TreeSearch;" ∈ gtbl := gt_mem 241 rfl rfl
set_option maxRecDepth 20000 in
theorem tc_242 : Cond.fieldLink RX7 61 "ArcFactoredParser" "sums" "LArcFactoredParser$TreeSums;" ∈ gtbl := gt_mem 242 rfl rfl
set_option maxRecDepth 20000 in
theorem tc_243 : Cond.fieldLink RX7 68 "ArcFactoredParser" "transitionRun" "LArcFactoredParser$TransitionRun;" ∈ gtbl := gt_mem 243 rfl rfl
set_option maxRecDepth 20000 in
theorem tc_742 : Cond.classLink RL 10 RX8 ∈ gtbl := gt_mem 742 rfl rfl
set_option maxRecDepth 20000 in
theorem tc_743 : Cond.instantiable RX8 40 ∈ gtbl := gt_mem 743 rfl rfl
set_option maxRecDepth 20000 in
theorem tc_744 : Cond.methodLink RL 12 yX8_init ∈ gtbl := gt_mem 744 rfl rfl
set_option maxRecDepth 20000 in
theorem tc_745 : Cond.instanceMethod yX8_init ∈ gtbl := gt_mem 745 rfl rfl
set_option maxRecDepth 20000 in
theorem tc_746 : Cond.code yX8_init cX8_init 1 none ∈ gtbl := gt_mem 746 rfl rfl
set_option maxRecDepth 20000 in
theorem tc_747 : Cond.methodLink RX8 1 Lib.objectInit ∈ gtbl := gt_mem 747 rfl rfl
set_option maxRecDepth 20000 in
theorem tc_748 : Cond.fieldLink RX8 7 "ArcFactoredParserModel" "text" "[I" ∈ gtbl := gt_mem 748 rfl rfl
set_option maxRecDepth 20000 in
theorem tc_751 : Cond.fieldLink RX8 13 "ArcFactoredParserModel" "words" "[I" ∈ gtbl := gt_mem 751 rfl rfl
set_option maxRecDepth 20000 in
theorem tc_752 : Cond.fieldLink RX8 16 "ArcFactoredParserModel" "tags" "[I" ∈ gtbl := gt_mem 752 rfl rfl
set_option maxRecDepth 20000 in
theorem tc_753 : Cond.fieldLink RX8 19 "ArcFactoredParserModel" "heads" "[I" ∈ gtbl := gt_mem 753 rfl rfl
set_option maxRecDepth 20000 in
theorem tc_754 : Cond.fieldLink RX8 22 "ArcFactoredParserModel" "biases" "[I" ∈ gtbl := gt_mem 754 rfl rfl
set_option maxRecDepth 20000 in
theorem tc_755 : Cond.fieldLink RX8 25 "ArcFactoredParserModel" "constraints" "[I" ∈ gtbl := gt_mem 755 rfl rfl
set_option maxRecDepth 20000 in
theorem tc_756 : Cond.fieldLink RX8 28 "ArcFactoredParserModel" "weights" "[I" ∈ gtbl := gt_mem 756 rfl rfl
set_option maxRecDepth 20000 in
theorem tc_757 : Cond.fieldLink RX8 31 "ArcFactoredParserModel" "kept" "[I" ∈ gtbl := gt_mem 757 rfl rfl
set_option maxRecDepth 20000 in
theorem tc_758 : Cond.fieldLink RX8 34 "ArcFactoredParserModel" "isKept" "[Z" ∈ gtbl := gt_mem 758 rfl rfl
set_option maxRecDepth 20000 in
theorem tc_761 : Cond.fieldLink RX8 38 "ArcFactoredParserModel" "shift" "I" ∈ gtbl := gt_mem 761 rfl rfl
set_option maxRecDepth 20000 in
theorem tc_763 : Cond.fieldLink RX8 42 "ArcFactoredParserModel" "toldWords" "[I" ∈ gtbl := gt_mem 763 rfl rfl
set_option maxRecDepth 20000 in
theorem tc_764 : Cond.fieldLink RX8 45 "ArcFactoredParserModel" "begins" "[I" ∈ gtbl := gt_mem 764 rfl rfl
set_option maxRecDepth 20000 in
theorem tc_765 : Cond.fieldLink RX8 48 "ArcFactoredParserModel" "row" "[I" ∈ gtbl := gt_mem 765 rfl rfl
set_option maxRecDepth 20000 in
theorem tc_766 : Cond.fieldLink RX8 51 "ArcFactoredParserModel" "scores" "[I" ∈ gtbl := gt_mem 766 rfl rfl
set_option maxRecDepth 20000 in
theorem tc_767 : Cond.fieldLink RX8 54 "ArcFactoredParserModel" "potentials" "[I" ∈ gtbl := gt_mem 767 rfl rfl
set_option maxRecDepth 20000 in
theorem tc_768 : Cond.fieldLink RX8 57 "ArcFactoredParserModel" "tried" "[I" ∈ gtbl := gt_mem 768 rfl rfl
set_option maxRecDepth 20000 in
theorem tc_770 : Cond.fieldLink RX8 60 "ArcFactoredParserModel" "rankScores" "[I" ∈ gtbl := gt_mem 770 rfl rfl
set_option maxRecDepth 20000 in
theorem tc_771 : Cond.fieldLink RX8 63 "ArcFactoredParserModel" "rankHeads" "[I" ∈ gtbl := gt_mem 771 rfl rfl
set_option maxRecDepth 20000 in
theorem tc_774 : Cond.fieldLink RX8 66 "ArcFactoredParserModel" "arcBest" "[I" ∈ gtbl := gt_mem 774 rfl rfl
set_option maxRecDepth 20000 in
theorem tc_775 : Cond.fieldLink RX8 69 "ArcFactoredParserModel" "arcWeight" "[J" ∈ gtbl := gt_mem 775 rfl rfl
set_option maxRecDepth 20000 in
theorem tc_778 : Cond.fieldLink RX8 73 "ArcFactoredParserModel" "riskHeads" "[I" ∈ gtbl := gt_mem 778 rfl rfl
set_option maxRecDepth 20000 in
theorem tc_779 : Cond.fieldLink RX8 76 "ArcFactoredParserModel" "order" "[I" ∈ gtbl := gt_mem 779 rfl rfl
set_option maxRecDepth 20000 in
theorem tc_780 : Cond.fieldLink RX8 79 "ArcFactoredParserModel" "places" "[I" ∈ gtbl := gt_mem 780 rfl rfl
set_option maxRecDepth 20000 in
theorem tc_782 : Cond.fieldLink RX8 82 "ArcFactoredParserModel" "moved" "[I" ∈ gtbl := gt_mem 782 rfl rfl
set_option maxRecDepth 20000 in
theorem tc_783 : Cond.fieldLink RX8 85 "ArcFactoredParserModel" "stack" "[I" ∈ gtbl := gt_mem 783 rfl rfl
set_option maxRecDepth 20000 in
theorem tc_785 : Cond.fieldLink RX8 88 "ArcFactoredParserModel" "buffer" "[I" ∈ gtbl := gt_mem 785 rfl rfl
theorem dfX0 : ∀ j, j < 5 → defaultValue (tyX0 j) = vp_V [.int 0, .null, .null, .null, .null] j := fun j hj => by
  match j, hj with
  | 0, _ => rfl
  | 1, _ => rfl
  | 2, _ => rfl
  | 3, _ => rfl
  | 4, _ => rfl
theorem dfX1 : ∀ j, j < 3 → defaultValue (tyX1 j) = vp_V [.int 0, .int 0, .int 0] j := fun j hj => by
  match j, hj with
  | 0, _ => rfl
  | 1, _ => rfl
  | 2, _ => rfl
theorem dfX2 : ∀ j, j < 3 → defaultValue (tyX2 j) = vp_V [.null, .int 0, .null] j := fun j hj => by
  match j, hj with
  | 0, _ => rfl
  | 1, _ => rfl
  | 2, _ => rfl
theorem dfX3 : ∀ j, j < 12 → defaultValue (tyX3 j) = vp_V [.int 0, .null, .null, .int 0, .null, .null, .int 0, .null, .int 0, .null, .int 0, .null] j := fun j hj => by
  match j, hj with
  | 0, _ => rfl
  | 1, _ => rfl
  | 2, _ => rfl
  | 3, _ => rfl
  | 4, _ => rfl
  | 5, _ => rfl
  | 6, _ => rfl
  | 7, _ => rfl
  | 8, _ => rfl
  | 9, _ => rfl
  | 10, _ => rfl
  | 11, _ => rfl
theorem dfX4 : ∀ j, j < 10 → defaultValue (tyX4 j) = vp_V [.null, .int 0, .null, .null, .null, .null, .null, .null, .int 0, .int 0] j := fun j hj => by
  match j, hj with
  | 0, _ => rfl
  | 1, _ => rfl
  | 2, _ => rfl
  | 3, _ => rfl
  | 4, _ => rfl
  | 5, _ => rfl
  | 6, _ => rfl
  | 7, _ => rfl
  | 8, _ => rfl
  | 9, _ => rfl
theorem dfX5 : ∀ j, j < 8 → defaultValue (tyX5 j) = vp_V [.null, .int 0, .null, .null, .null, .null, .null, .null] j := fun j hj => by
  match j, hj with
  | 0, _ => rfl
  | 1, _ => rfl
  | 2, _ => rfl
  | 3, _ => rfl
  | 4, _ => rfl
  | 5, _ => rfl
  | 6, _ => rfl
  | 7, _ => rfl
theorem dfX6 : ∀ j, j < 2 → defaultValue (tyX6 j) = vp_V [.null, .null] j := fun j hj => by
  match j, hj with
  | 0, _ => rfl
  | 1, _ => rfl
theorem dfX7 : ∀ j, j < 10 → defaultValue (tyX7 j) = vp_V [.null, .null, .int 0, .null, .null, .null, .null, .null, .null, .null] j := fun j hj => by
  match j, hj with
  | 0, _ => rfl
  | 1, _ => rfl
  | 2, _ => rfl
  | 3, _ => rfl
  | 4, _ => rfl
  | 5, _ => rfl
  | 6, _ => rfl
  | 7, _ => rfl
  | 8, _ => rfl
  | 9, _ => rfl
theorem dfX8 : ∀ j, j < 40 → defaultValue (tyX8 j) = vp_V [.null, .int 0, .int 0, .null, .null, .null, .null, .null, .null, .null, .null, .int 0, .int 0, .int 0, .int 0, .null, .null, .null, .null, .null, .null, .int 0, .null, .null, .int 0, .long 0, .null, .null, .int 0, .long 0, .null, .null, .null, .int 0, .null, .null, .int 0, .null, .int 0, .int 0] j := fun j hj => by
  match j, hj with
  | 0, _ => rfl
  | 1, _ => rfl
  | 2, _ => rfl
  | 3, _ => rfl
  | 4, _ => rfl
  | 5, _ => rfl
  | 6, _ => rfl
  | 7, _ => rfl
  | 8, _ => rfl
  | 9, _ => rfl
  | 10, _ => rfl
  | 11, _ => rfl
  | 12, _ => rfl
  | 13, _ => rfl
  | 14, _ => rfl
  | 15, _ => rfl
  | 16, _ => rfl
  | 17, _ => rfl
  | 18, _ => rfl
  | 19, _ => rfl
  | 20, _ => rfl
  | 21, _ => rfl
  | 22, _ => rfl
  | 23, _ => rfl
  | 24, _ => rfl
  | 25, _ => rfl
  | 26, _ => rfl
  | 27, _ => rfl
  | 28, _ => rfl
  | 29, _ => rfl
  | 30, _ => rfl
  | 31, _ => rfl
  | 32, _ => rfl
  | 33, _ => rfl
  | 34, _ => rfl
  | 35, _ => rfl
  | 36, _ => rfl
  | 37, _ => rfl
  | 38, _ => rfl
  | 39, _ => rfl
  | j + 40, h => exact absurd h (by omega)
theorem s0_z {k j : Nat} (h : k ≠ 6 ∧ k ≠ 25 ∧ k ≠ 44 ∧ k ≠ 63 ∧ k ≠ 125 ∧ k ≠ 204) : s0.1 k j = 0 := by
  unfold s0
  dsimp only
  rw [if_neg (by omega), if_neg (by omega), if_neg (by omega)]
section DNM
variable {D : va_G} {ca : Nat → ClassId} {n0 : Nat} {H : Heap}
theorem DN_mI {k N K : Nat} (hk : kd k = 13) (hl : ln k = N) (hm : ∀ j, j < N → mrN s0.2.2 k j = k + 1 + j) (hr1 : ∀ j, j < N → kd (k + 1 + j) = 10 ∧ ln (k + 1 + j) = K) (hz0 : ∀ j, j < N → k + 1 + j ≠ 6 ∧ k + 1 + j ≠ 25 ∧ k + 1 + j ≠ 44 ∧ k + 1 + j ≠ 63 ∧ k + 1 + j ≠ 125 ∧ k + 1 + j ≠ 204) (h : va_at D vwCl (n0 + k, .inl (ca 3, N, .inr (.inr (.inr (.inr (fun j => if j < N then some (n0 + k + 1 + j) else none)))))) H) (hr : ∀ j, j < N → va_at D vwCl (n0 + k + 1 + j, .inl (ca 0, K, .inl (fun _ => 0))) H) : DN D ca n0 H k (k + 1 + N) :=
  DN_mna (K := K) (c1 := 0) (z := (K, .inl (fun _ => 0))) hk (by decide) hl hm h (fun j hj => by
    have := hr j hj
    rw [show n0 + k + 1 + j = n0 + (k + 1 + j) by omega] at this ⊢
    exact at_i (hr1 j hj).1 (hr1 j hj).2 (fun i _ => (s0_z (hz0 j hj)).symm) this)
theorem DN_mL {k N K : Nat} (hk : kd k = 14) (hl : ln k = N) (hm : ∀ j, j < N → mrN s0.2.2 k j = k + 1 + j) (hr1 : ∀ j, j < N → kd (k + 1 + j) = 12 ∧ ln (k + 1 + j) = K) (h : va_at D vwCl (n0 + k, .inl (ca 4, N, .inr (.inr (.inr (.inr (fun j => if j < N then some (n0 + k + 1 + j) else none)))))) H) (hr : ∀ j, j < N → va_at D vwCl (n0 + k + 1 + j, .inl (ca 2, K, .inr (.inl (fun _ => 0)))) H) : DN D ca n0 H k (k + 1 + N) :=
  DN_mna (K := K) (c1 := 0) (z := (K, .inl (fun _ => 0))) hk (by decide) hl hm h (fun j hj => by
    have := hr j hj
    rw [show n0 + k + 1 + j = n0 + (k + 1 + j) by omega] at this ⊢
    exact at_l (hr1 j hj).1 (hr1 j hj).2 (fun i _ => rfl) this)
theorem DN_obj {k ci : Nat} (hk : kd k = ci) (hc : ci < 10) (h : va_at D vwCl (n0 + k, fc n0 ca k) H) : va_at D vwCl (n0 + k, .inr (ci, fvs (AD n0) ci (ln k) (s0.1 k) (s0.2.1 k) (mrN s0.2.2 k))) H := by
  unfold fc at h
  rw [cellN_obj hk hc] at h
  exact h
end DNM
theorem tg_ok5 : ∀ j, j < 7 → upd (fun _ => (0 : Int32)) (0 : Int32).toNatClampNeg 8 j = s0.1 6 j := by decide
theorem tg_ok24 : ∀ j, j < 7 → upd (fun _ => (0 : Int32)) (0 : Int32).toNatClampNeg 8 j = s0.1 25 j := by decide
theorem tg_ok43 : ∀ j, j < 7 → upd (fun _ => (0 : Int32)) (0 : Int32).toNatClampNeg 8 j = s0.1 44 j := by decide
theorem tg_ok62 : ∀ j, j < 7 → upd (fun _ => (0 : Int32)) (0 : Int32).toNatClampNeg 8 j = s0.1 63 j := by decide
