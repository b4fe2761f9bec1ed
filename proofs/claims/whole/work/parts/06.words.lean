set_option maxRecDepth 20000 in
theorem tw_1 : Cond.initialized "ArcFactoredParser" ∈ gtbl := gt_mem 1 rfl rfl
set_option maxRecDepth 20000 in
theorem tw_2 : Cond.initialized "ArcFactoredParser$Text" ∈ gtbl := gt_mem 2 rfl rfl
set_option maxRecDepth 20000 in
theorem tw_3 : Cond.initialized "ArcFactoredParser$Sentence" ∈ gtbl := gt_mem 3 rfl rfl
set_option maxRecDepth 20000 in
theorem tw_4 : Cond.initialized "ArcFactoredParser$Weights" ∈ gtbl := gt_mem 4 rfl rfl
set_option maxRecDepth 20000 in
theorem tw_6 : Cond.initialized "ArcFactoredParser$TreeSearch" ∈ gtbl := gt_mem 6 rfl rfl
set_option maxRecDepth 20000 in
theorem tw_7 : Cond.initialized "ArcFactoredParser$TreeSums" ∈ gtbl := gt_mem 7 rfl rfl
set_option maxRecDepth 20000 in
theorem tw_8 : Cond.initialized "ArcFactoredParser$TransitionRun" ∈ gtbl := gt_mem 8 rfl rfl
set_option maxRecDepth 20000 in
theorem tw_9 : Cond.initialized "ArcFactoredParserModel" ∈ gtbl := gt_mem 9 rfl rfl
set_option maxRecDepth 20000 in
theorem tw_10 : Cond.initialized "java/lang/Integer" ∈ gtbl := gt_mem 10 rfl rfl
set_option maxRecDepth 20000 in
theorem tw_11 : Cond.initialized "java/lang/Math" ∈ gtbl := gt_mem 11 rfl rfl
set_option maxRecDepth 20000 in
theorem tw_12 : Cond.initialized "java/lang/System" ∈ gtbl := gt_mem 12 rfl rfl
set_option maxRecDepth 20000 in
theorem tw_27 : Cond.fieldLink RX2 9 "ArcFactoredParser$Text" "letters" "[I" ∈ gtbl := gt_mem 27 rfl rfl
set_option maxRecDepth 20000 in
theorem tw_28 : Cond.fieldLink RX7 90 "ArcFactoredParser$Text" "letters" "[I" ∈ gtbl := gt_mem 28 rfl rfl
set_option maxRecDepth 20000 in
theorem tw_29 : Cond.fieldLink RX2 15 "ArcFactoredParser$Text" "length" "I" ∈ gtbl := gt_mem 29 rfl rfl
set_option maxRecDepth 20000 in
theorem tw_30 : Cond.fieldLink RX7 77 "ArcFactoredParser$Text" "length" "I" ∈ gtbl := gt_mem 30 rfl rfl
set_option maxRecDepth 20000 in
theorem tw_31 : Cond.fieldLink RX2 19 "ArcFactoredParser$Text" "heads" "[I" ∈ gtbl := gt_mem 31 rfl rfl
set_option maxRecDepth 20000 in
theorem tw_49 : Cond.fieldLink RX0 9 "ArcFactoredParser$Sentence" "size" "I" ∈ gtbl := gt_mem 49 rfl rfl
set_option maxRecDepth 20000 in
theorem tw_50 : Cond.fieldLink RX3 50 "ArcFactoredParser$Sentence" "size" "I" ∈ gtbl := gt_mem 50 rfl rfl
set_option maxRecDepth 20000 in
theorem tw_51 : Cond.fieldLink RX7 109 "ArcFactoredParser$Sentence" "size" "I" ∈ gtbl := gt_mem 51 rfl rfl
set_option maxRecDepth 20000 in
theorem tw_52 : Cond.fieldLink RX0 15 "ArcFactoredParser$Sentence" "tags" "[I" ∈ gtbl := gt_mem 52 rfl rfl
set_option maxRecDepth 20000 in
theorem tw_53 : Cond.fieldLink RX6 19 "ArcFactoredParser$Sentence" "tags" "[I" ∈ gtbl := gt_mem 53 rfl rfl
set_option maxRecDepth 20000 in
theorem tw_54 : Cond.fieldLink RX7 115 "ArcFactoredParser$Sentence" "tags" "[I" ∈ gtbl := gt_mem 54 rfl rfl
set_option maxRecDepth 20000 in
theorem tw_55 : Cond.fieldLink RX0 19 "ArcFactoredParser$Sentence" "heads" "[I" ∈ gtbl := gt_mem 55 rfl rfl
set_option maxRecDepth 20000 in
theorem tw_56 : Cond.fieldLink RX3 53 "ArcFactoredParser$Sentence" "heads" "[I" ∈ gtbl := gt_mem 56 rfl rfl
set_option maxRecDepth 20000 in
theorem tw_57 : Cond.fieldLink RX7 118 "ArcFactoredParser$Sentence" "heads" "[I" ∈ gtbl := gt_mem 57 rfl rfl
set_option maxRecDepth 20000 in
theorem tw_58 : Cond.fieldLink RX0 24 "ArcFactoredParser$Sentence" "biases" "[[I" ∈ gtbl := gt_mem 58 rfl rfl
set_option maxRecDepth 20000 in
theorem tw_59 : Cond.fieldLink RX7 160 "ArcFactoredParser$Sentence" "biases" "[[I" ∈ gtbl := gt_mem 59 rfl rfl
set_option maxRecDepth 20000 in
theorem tw_60 : Cond.fieldLink RX0 27 "ArcFactoredParser$Sentence" "constraints" "[[I" ∈ gtbl := gt_mem 60 rfl rfl
set_option maxRecDepth 20000 in
theorem tw_61 : Cond.fieldLink RX7 163 "ArcFactoredParser$Sentence" "constraints" "[[I" ∈ gtbl := gt_mem 61 rfl rfl
set_option maxRecDepth 20000 in
theorem tw_80 : Cond.fieldLink RX6 11 "ArcFactoredParser$Weights" "byTags" "[[I" ∈ gtbl := gt_mem 80 rfl rfl
set_option maxRecDepth 20000 in
theorem tw_81 : Cond.fieldLink RX7 150 "ArcFactoredParser$Weights" "byTags" "[[I" ∈ gtbl := gt_mem 81 rfl rfl
set_option maxRecDepth 20000 in
theorem tw_82 : Cond.fieldLink RX6 16 "ArcFactoredParser$Weights" "byDistance" "[[I" ∈ gtbl := gt_mem 82 rfl rfl
set_option maxRecDepth 20000 in
theorem tw_83 : Cond.fieldLink RX7 157 "ArcFactoredParser$Weights" "byDistance" "[[I" ∈ gtbl := gt_mem 83 rfl rfl
set_option maxRecDepth 20000 in
theorem tw_97 : Cond.fieldLink RX5 50 "ArcFactoredParser$Settings" "singleRoot" "Z" ∈ gtbl := gt_mem 97 rfl rfl
set_option maxRecDepth 20000 in
theorem tw_98 : Cond.fieldLink RX4 71 "ArcFactoredParser$Settings" "singleRoot" "Z" ∈ gtbl := gt_mem 98 rfl rfl
set_option maxRecDepth 20000 in
theorem tw_99 : Cond.fieldLink RX7 166 "ArcFactoredParser$Settings" "singleRoot" "Z" ∈ gtbl := gt_mem 99 rfl rfl
set_option maxRecDepth 20000 in
theorem tw_101 : Cond.fieldLink RX4 81 "ArcFactoredParser$Settings" "projective" "Z" ∈ gtbl := gt_mem 101 rfl rfl
set_option maxRecDepth 20000 in
theorem tw_102 : Cond.fieldLink RX5 74 "ArcFactoredParser$Settings" "projective" "Z" ∈ gtbl := gt_mem 102 rfl rfl
set_option maxRecDepth 20000 in
theorem tw_103 : Cond.fieldLink RX7 170 "ArcFactoredParser$Settings" "projective" "Z" ∈ gtbl := gt_mem 103 rfl rfl
set_option maxRecDepth 20000 in
theorem tw_105 : Cond.fieldLink RX7 173 "ArcFactoredParser$Settings" "shift" "I" ∈ gtbl := gt_mem 105 rfl rfl
set_option maxRecDepth 20000 in
theorem tw_123 : Cond.fieldLink RX4 45 "ArcFactoredParser$TreeSearch" "settings" "LArcFactoredParser$Settings;" ∈ gtbl := gt_mem 123 rfl rfl
set_option maxRecDepth 20000 in
theorem tw_124 : Cond.fieldLink RX4 9 "ArcFactoredParser$TreeSearch" "size" "I" ∈ gtbl := gt_mem 124 rfl rfl
set_option maxRecDepth 20000 in
theorem tw_125 : Cond.fieldLink RX4 17 "ArcFactoredParser$TreeSearch" "values" "[[J" ∈ gtbl := gt_mem 125 rfl rfl
set_option maxRecDepth 20000 in
theorem tw_126 : Cond.fieldLink RX4 22 "ArcFactoredParser$TreeSearch" "offered" "[[I" ∈ gtbl := gt_mem 126 rfl rfl
set_option maxRecDepth 20000 in
theorem tw_127 : Cond.fieldLink RX4 25 "ArcFactoredParser$TreeSearch" "offers" "[I" ∈ gtbl := gt_mem 127 rfl rfl
set_option maxRecDepth 20000 in
theorem tw_128 : Cond.fieldLink RX4 29 "ArcFactoredParser$TreeSearch" "rest" "[J" ∈ gtbl := gt_mem 128 rfl rfl
set_option maxRecDepth 20000 in
theorem tw_129 : Cond.fieldLink RX4 33 "ArcFactoredParser$TreeSearch" "heads" "[I" ∈ gtbl := gt_mem 129 rfl rfl
set_option maxRecDepth 20000 in
theorem tw_130 : Cond.fieldLink RX4 36 "ArcFactoredParser$TreeSearch" "kept" "[J" ∈ gtbl := gt_mem 130 rfl rfl
set_option maxRecDepth 20000 in
theorem tw_131 : Cond.fieldLink RX4 39 "ArcFactoredParser$TreeSearch" "wanted" "I" ∈ gtbl := gt_mem 131 rfl rfl
set_option maxRecDepth 20000 in
theorem tw_132 : Cond.fieldLink RX4 42 "ArcFactoredParser$TreeSearch" "found" "I" ∈ gtbl := gt_mem 132 rfl rfl
set_option maxRecDepth 20000 in
theorem tw_133 : Cond.fieldLink RX7 133 "ArcFactoredParser$TreeSearch" "found" "I" ∈ gtbl := gt_mem 133 rfl rfl
set_option maxRecDepth 20000 in
theorem tw_163 : Cond.fieldLink RX5 35 "ArcFactoredParser$TreeSums" "settings" "LArcFactoredParser$Settings;" ∈ gtbl := gt_mem 163 rfl rfl
set_option maxRecDepth 20000 in
theorem tw_164 : Cond.fieldLink RX5 9 "ArcFactoredParser$TreeSums" "size" "I" ∈ gtbl := gt_mem 164 rfl rfl
set_option maxRecDepth 20000 in
theorem tw_165 : Cond.fieldLink RX5 17 "ArcFactoredParser$TreeSums" "potentials" "[[J" ∈ gtbl := gt_mem 165 rfl rfl
set_option maxRecDepth 20000 in
theorem tw_166 : Cond.fieldLink RX5 20 "ArcFactoredParser$TreeSums" "branches" "[[J" ∈ gtbl := gt_mem 166 rfl rfl
set_option maxRecDepth 20000 in
theorem tw_167 : Cond.fieldLink RX5 23 "ArcFactoredParser$TreeSums" "forests" "[[J" ∈ gtbl := gt_mem 167 rfl rfl
set_option maxRecDepth 20000 in
theorem tw_168 : Cond.fieldLink RX5 26 "ArcFactoredParser$TreeSums" "branchGains" "[[J" ∈ gtbl := gt_mem 168 rfl rfl
set_option maxRecDepth 20000 in
theorem tw_169 : Cond.fieldLink RX5 29 "ArcFactoredParser$TreeSums" "forestGains" "[[J" ∈ gtbl := gt_mem 169 rfl rfl
set_option maxRecDepth 20000 in
theorem tw_170 : Cond.fieldLink RX5 32 "ArcFactoredParser$TreeSums" "arcGains" "[[J" ∈ gtbl := gt_mem 170 rfl rfl
set_option maxRecDepth 20000 in
theorem tw_194 : Cond.fieldLink RX3 9 "ArcFactoredParser$TransitionRun" "size" "I" ∈ gtbl := gt_mem 194 rfl rfl
set_option maxRecDepth 20000 in
theorem tw_195 : Cond.fieldLink RX3 15 "ArcFactoredParser$TransitionRun" "heads" "[I" ∈ gtbl := gt_mem 195 rfl rfl
set_option maxRecDepth 20000 in
theorem tw_196 : Cond.fieldLink RX3 19 "ArcFactoredParser$TransitionRun" "order" "[I" ∈ gtbl := gt_mem 196 rfl rfl
set_option maxRecDepth 20000 in
theorem tw_197 : Cond.fieldLink RX7 231 "ArcFactoredParser$TransitionRun" "order" "[I" ∈ gtbl := gt_mem 197 rfl rfl
set_option maxRecDepth 20000 in
theorem tw_198 : Cond.fieldLink RX3 22 "ArcFactoredParser$TransitionRun" "ordered" "I" ∈ gtbl := gt_mem 198 rfl rfl
set_option maxRecDepth 20000 in
theorem tw_199 : Cond.fieldLink RX3 25 "ArcFactoredParser$TransitionRun" "places" "[I" ∈ gtbl := gt_mem 199 rfl rfl
set_option maxRecDepth 20000 in
theorem tw_200 : Cond.fieldLink RX3 28 "ArcFactoredParser$TransitionRun" "sequence" "[I" ∈ gtbl := gt_mem 200 rfl rfl
set_option maxRecDepth 20000 in
theorem tw_201 : Cond.fieldLink RX7 237 "ArcFactoredParser$TransitionRun" "sequence" "[I" ∈ gtbl := gt_mem 201 rfl rfl
set_option maxRecDepth 20000 in
theorem tw_202 : Cond.fieldLink RX3 31 "ArcFactoredParser$TransitionRun" "length" "I" ∈ gtbl := gt_mem 202 rfl rfl
set_option maxRecDepth 20000 in
theorem tw_203 : Cond.fieldLink RX7 309 "ArcFactoredParser$TransitionRun" "length" "I" ∈ gtbl := gt_mem 203 rfl rfl
set_option maxRecDepth 20000 in
theorem tw_204 : Cond.fieldLink RX3 34 "ArcFactoredParser$TransitionRun" "stack" "[I" ∈ gtbl := gt_mem 204 rfl rfl
set_option maxRecDepth 20000 in
theorem tw_205 : Cond.fieldLink RX3 37 "ArcFactoredParser$TransitionRun" "stacked" "I" ∈ gtbl := gt_mem 205 rfl rfl
set_option maxRecDepth 20000 in
theorem tw_206 : Cond.fieldLink RX3 40 "ArcFactoredParser$TransitionRun" "buffer" "[I" ∈ gtbl := gt_mem 206 rfl rfl
set_option maxRecDepth 20000 in
theorem tw_207 : Cond.fieldLink RX3 43 "ArcFactoredParser$TransitionRun" "waiting" "I" ∈ gtbl := gt_mem 207 rfl rfl
set_option maxRecDepth 20000 in
theorem tw_208 : Cond.fieldLink RX3 46 "ArcFactoredParser$TransitionRun" "attached" "[Z" ∈ gtbl := gt_mem 208 rfl rfl
set_option maxRecDepth 20000 in
theorem tw_234 : Cond.fieldLink RX7 12 "ArcFactoredParser" "text" "LArcFactoredParser$Text;" ∈ gtbl := gt_mem 234 rfl rfl
set_option maxRecDepth 20000 in
theorem tw_235 : Cond.fieldLink RX7 18 "ArcFactoredParser" "stored" "[LArcFactoredParser$Sentence;" ∈ gtbl := gt_mem 235 rfl rfl
set_option maxRecDepth 20000 in
theorem tw_236 : Cond.fieldLink RX7 23 "ArcFactoredParser" "storedCount" "I" ∈ gtbl := gt_mem 236 rfl rfl
set_option maxRecDepth 20000 in
theorem tw_237 : Cond.fieldLink RX7 30 "ArcFactoredParser" "weights" "LArcFactoredParser$Weights;" ∈ gtbl := gt_mem 237 rfl rfl
set_option maxRecDepth 20000 in
theorem tw_238 : Cond.fieldLink RX7 34 "ArcFactoredParser" "slots" "[LArcFactoredParser$Weights;" ∈ gtbl := gt_mem 238 rfl rfl
set_option maxRecDepth 20000 in
theorem tw_239 : Cond.fieldLink RX7 38 "ArcFactoredParser" "slotUsed" "[Z" ∈ gtbl := gt_mem 239 rfl rfl
set_option maxRecDepth 20000 in
theorem tw_240 : Cond.fieldLink RX7 45 "ArcFactoredParser" "settings" "LArcFactoredParser$Settings;" ∈ gtbl := gt_mem 240 rfl rfl
set_option maxRecDepth 20000 in
theorem tw_241 : Cond.fieldLink RX7 54 "ArcFactoredParser" "search" "LArcFactoredParser$TreeSearch;" ∈ gtbl := gt_mem 241 rfl rfl
set_option maxRecDepth 20000 in
theorem tw_242 : Cond.fieldLink RX7 61 "ArcFactoredParser" "sums" "LArcFactoredParser$TreeSums;" ∈ gtbl := gt_mem 242 rfl rfl
set_option maxRecDepth 20000 in
theorem tw_243 : Cond.fieldLink RX7 68 "ArcFactoredParser" "transitionRun" "LArcFactoredParser$TransitionRun;" ∈ gtbl := gt_mem 243 rfl rfl
set_option maxRecDepth 20000 in
theorem tw_269 : Cond.constant RX7 72 (-1000002) ∈ gtbl := gt_mem 269 rfl rfl
set_option maxRecDepth 20000 in
theorem tw_270 : Cond.methodLink RX7 73 yX2_add ∈ gtbl := gt_mem 270 rfl rfl
set_option maxRecDepth 20000 in
theorem tw_271 : Cond.instanceMethod yX2_add ∈ gtbl := gt_mem 271 rfl rfl
set_option maxRecDepth 20000 in
theorem tw_272 : Cond.selects RX2 yX2_add yX2_add ∈ gtbl := gt_mem 272 rfl rfl
set_option maxRecDepth 20000 in
theorem tw_273 : Cond.code yX2_add cX2_add 2 (some .boolean) ∈ gtbl := gt_mem 273 rfl rfl
set_option maxRecDepth 20000 in
theorem tw_274 : Cond.constant RX7 80 (-1000003) ∈ gtbl := gt_mem 274 rfl rfl
set_option maxRecDepth 20000 in
theorem tw_283 : Cond.methodLink RX7 81 yX2_findFault ∈ gtbl := gt_mem 283 rfl rfl
set_option maxRecDepth 20000 in
theorem tw_284 : Cond.instanceMethod yX2_findFault ∈ gtbl := gt_mem 284 rfl rfl
set_option maxRecDepth 20000 in
theorem tw_285 : Cond.selects RX2 yX2_findFault yX2_findFault ∈ gtbl := gt_mem 285 rfl rfl
set_option maxRecDepth 20000 in
theorem tw_286 : Cond.code yX2_findFault cX2_findFault 5 (some .int) ∈ gtbl := gt_mem 286 rfl rfl
set_option maxRecDepth 20000 in
theorem tw_287 : Cond.methodLink RX2 22 yX2_isHeadOf ∈ gtbl := gt_mem 287 rfl rfl
set_option maxRecDepth 20000 in
theorem tw_288 : Cond.static yX2_isHeadOf ∈ gtbl := gt_mem 288 rfl rfl
set_option maxRecDepth 20000 in
theorem tw_289 : Cond.code yX2_isHeadOf cX2_isHeadOf 2 (some .boolean) ∈ gtbl := gt_mem 289 rfl rfl
set_option maxRecDepth 20000 in
theorem tw_290 : Cond.methodLink RX2 35 yX2_isDigit ∈ gtbl := gt_mem 290 rfl rfl
set_option maxRecDepth 20000 in
theorem tw_291 : Cond.static yX2_isDigit ∈ gtbl := gt_mem 291 rfl rfl
set_option maxRecDepth 20000 in
theorem tw_292 : Cond.code yX2_isDigit cX2_isDigit 1 (some .boolean) ∈ gtbl := gt_mem 292 rfl rfl
set_option maxRecDepth 20000 in
theorem tw_294 : Cond.static yX7_formTree ∈ gtbl := gt_mem 294 rfl rfl
set_option maxRecDepth 20000 in
theorem tw_295 : Cond.code yX7_formTree cX7_formTree 3 (some .boolean) ∈ gtbl := gt_mem 295 rfl rfl
set_option maxRecDepth 20000 in
theorem tw_296 : Cond.methodLink RX7 223 yX7_countStepsToRoot ∈ gtbl := gt_mem 296 rfl rfl
set_option maxRecDepth 20000 in
theorem tw_297 : Cond.static yX7_countStepsToRoot ∈ gtbl := gt_mem 297 rfl rfl
set_option maxRecDepth 20000 in
theorem tw_298 : Cond.code yX7_countStepsToRoot cX7_countStepsToRoot 5 (some .int) ∈ gtbl := gt_mem 298 rfl rfl
set_option maxRecDepth 20000 in
theorem tw_299 : Cond.constant RX7 85 (-1000004) ∈ gtbl := gt_mem 299 rfl rfl
set_option maxRecDepth 20000 in
theorem tw_300 : Cond.methodLink RX2 30 yX2_isTagLetter ∈ gtbl := gt_mem 300 rfl rfl
set_option maxRecDepth 20000 in
theorem tw_301 : Cond.static yX2_isTagLetter ∈ gtbl := gt_mem 301 rfl rfl
set_option maxRecDepth 20000 in
theorem tw_302 : Cond.code yX2_isTagLetter cX2_isTagLetter 1 (some .boolean) ∈ gtbl := gt_mem 302 rfl rfl
set_option maxRecDepth 20000 in
theorem tw_303 : Cond.constant RX2 34 (-1000004) ∈ gtbl := gt_mem 303 rfl rfl
set_option maxRecDepth 20000 in
theorem tw_308 : Cond.constant RX7 86 (-1000005) ∈ gtbl := gt_mem 308 rfl rfl
set_option maxRecDepth 20000 in
theorem tw_309 : Cond.methodLink RX7 87 yX2_countSentences ∈ gtbl := gt_mem 309 rfl rfl
set_option maxRecDepth 20000 in
theorem tw_310 : Cond.instanceMethod yX2_countSentences ∈ gtbl := gt_mem 310 rfl rfl
set_option maxRecDepth 20000 in
theorem tw_311 : Cond.selects RX2 yX2_countSentences yX2_countSentences ∈ gtbl := gt_mem 311 rfl rfl
set_option maxRecDepth 20000 in
theorem tw_312 : Cond.code yX2_countSentences cX2_countSentences 3 (some .int) ∈ gtbl := gt_mem 312 rfl rfl
set_option maxRecDepth 20000 in
theorem tw_313 : Cond.methodLink RX7 94 yX2_isDigit ∈ gtbl := gt_mem 313 rfl rfl
set_option maxRecDepth 20000 in
theorem tw_314 : Cond.methodLink RX7 97 yX0_addWord ∈ gtbl := gt_mem 314 rfl rfl
set_option maxRecDepth 20000 in
theorem tw_315 : Cond.instanceMethod yX0_addWord ∈ gtbl := gt_mem 315 rfl rfl
set_option maxRecDepth 20000 in
theorem tw_316 : Cond.selects RX0 yX0_addWord yX0_addWord ∈ gtbl := gt_mem 316 rfl rfl
set_option maxRecDepth 20000 in
theorem tw_317 : Cond.code yX0_addWord cX0_addWord 3 none ∈ gtbl := gt_mem 317 rfl rfl
set_option maxRecDepth 20000 in
theorem tw_322 : Cond.methodLink RX7 101 yX7_find ∈ gtbl := gt_mem 322 rfl rfl
set_option maxRecDepth 20000 in
theorem tw_324 : Cond.instanceMethod yX7_find ∈ gtbl := gt_mem 324 rfl rfl
set_option maxRecDepth 20000 in
theorem tw_325 : Cond.code yX7_find cX7_find 2 (some (.object RX0)) ∈ gtbl := gt_mem 325 rfl rfl
set_option maxRecDepth 20000 in
theorem tw_326 : Cond.constant RX7 105 (-1000001) ∈ gtbl := gt_mem 326 rfl rfl
set_option maxRecDepth 20000 in
theorem tw_327 : Cond.methodLink RX7 106 yX0_blank ∈ gtbl := gt_mem 327 rfl rfl
set_option maxRecDepth 20000 in
theorem tw_328 : Cond.instanceMethod yX0_blank ∈ gtbl := gt_mem 328 rfl rfl
set_option maxRecDepth 20000 in
theorem tw_329 : Cond.selects RX0 yX0_blank yX0_blank ∈ gtbl := gt_mem 329 rfl rfl
set_option maxRecDepth 20000 in
theorem tw_330 : Cond.code yX0_blank cX0_blank 3 none ∈ gtbl := gt_mem 330 rfl rfl
set_option maxRecDepth 20000 in
theorem tw_343 : Cond.methodLink RX7 112 yX0_hasWord ∈ gtbl := gt_mem 343 rfl rfl
set_option maxRecDepth 20000 in
theorem tw_344 : Cond.instanceMethod yX0_hasWord ∈ gtbl := gt_mem 344 rfl rfl
set_option maxRecDepth 20000 in
theorem tw_345 : Cond.selects RX0 yX0_hasWord yX0_hasWord ∈ gtbl := gt_mem 345 rfl rfl
set_option maxRecDepth 20000 in
theorem tw_346 : Cond.code yX0_hasWord cX0_hasWord 2 (some .boolean) ∈ gtbl := gt_mem 346 rfl rfl
set_option maxRecDepth 20000 in
theorem tw_355 : Cond.methodLink RX7 121 yX0_hasArc ∈ gtbl := gt_mem 355 rfl rfl
set_option maxRecDepth 20000 in
theorem tw_356 : Cond.instanceMethod yX0_hasArc ∈ gtbl := gt_mem 356 rfl rfl
set_option maxRecDepth 20000 in
theorem tw_357 : Cond.selects RX0 yX0_hasArc yX0_hasArc ∈ gtbl := gt_mem 357 rfl rfl
set_option maxRecDepth 20000 in
theorem tw_358 : Cond.code yX0_hasArc cX0_hasArc 3 (some .boolean) ∈ gtbl := gt_mem 358 rfl rfl
set_option maxRecDepth 20000 in
theorem tw_359 : Cond.methodLink RX0 30 yX0_hasWord ∈ gtbl := gt_mem 359 rfl rfl
set_option maxRecDepth 20000 in
theorem tw_360 : Cond.methodLink RX7 125 yX7_formTree ∈ gtbl := gt_mem 360 rfl rfl
set_option maxRecDepth 20000 in
theorem tw_365 : Cond.methodLink RX7 129 yX7_rankTrees ∈ gtbl := gt_mem 365 rfl rfl
set_option maxRecDepth 20000 in
theorem tw_367 : Cond.instanceMethod yX7_rankTrees ∈ gtbl := gt_mem 367 rfl rfl
set_option maxRecDepth 20000 in
theorem tw_368 : Cond.code yX7_rankTrees cX7_rankTrees 3 none ∈ gtbl := gt_mem 368 rfl rfl
set_option maxRecDepth 20000 in
theorem tw_369 : Cond.methodLink RX7 216 yX7_offerArcs ∈ gtbl := gt_mem 369 rfl rfl
set_option maxRecDepth 20000 in
theorem tw_371 : Cond.instanceMethod yX7_offerArcs ∈ gtbl := gt_mem 371 rfl rfl
set_option maxRecDepth 20000 in
theorem tw_372 : Cond.code yX7_offerArcs cX7_offerArcs 6 none ∈ gtbl := gt_mem 372 rfl rfl
set_option maxRecDepth 20000 in
theorem tw_373 : Cond.methodLink RX7 266 yX4_begin ∈ gtbl := gt_mem 373 rfl rfl
set_option maxRecDepth 20000 in
theorem tw_374 : Cond.instanceMethod yX4_begin ∈ gtbl := gt_mem 374 rfl rfl
set_option maxRecDepth 20000 in
theorem tw_375 : Cond.selects RX4 yX4_begin yX4_begin ∈ gtbl := gt_mem 375 rfl rfl
set_option maxRecDepth 20000 in
theorem tw_376 : Cond.code yX4_begin cX4_begin 3 none ∈ gtbl := gt_mem 376 rfl rfl
set_option maxRecDepth 20000 in
theorem tw_377 : Cond.methodLink RX7 269 yX0_headChoices ∈ gtbl := gt_mem 377 rfl rfl
set_option maxRecDepth 20000 in
theorem tw_378 : Cond.instanceMethod yX0_headChoices ∈ gtbl := gt_mem 378 rfl rfl
set_option maxRecDepth 20000 in
theorem tw_379 : Cond.selects RX0 yX0_headChoices yX0_headChoices ∈ gtbl := gt_mem 379 rfl rfl
set_option maxRecDepth 20000 in
theorem tw_380 : Cond.code yX0_headChoices cX0_headChoices 5 (some .int) ∈ gtbl := gt_mem 380 rfl rfl
set_option maxRecDepth 20000 in
theorem tw_381 : Cond.methodLink RX0 34 yJ6_bitCount_0f7a4 ∈ gtbl := gt_mem 381 rfl rfl
set_option maxRecDepth 20000 in
theorem tw_382 : Cond.static yJ6_bitCount_0f7a4 ∈ gtbl := gt_mem 382 rfl rfl
set_option maxRecDepth 20000 in
theorem tw_383 : Cond.code yJ6_bitCount_0f7a4 cJ6_bitCount_0f7a4 1 (some .int) ∈ gtbl := gt_mem 383 rfl rfl
set_option maxRecDepth 20000 in
theorem tw_384 : Cond.constant RJ6 265 (1431655765) ∈ gtbl := gt_mem 384 rfl rfl
set_option maxRecDepth 20000 in
theorem tw_385 : Cond.constant RJ6 266 (858993459) ∈ gtbl := gt_mem 385 rfl rfl
set_option maxRecDepth 20000 in
theorem tw_386 : Cond.constant RJ6 267 (252645135) ∈ gtbl := gt_mem 386 rfl rfl
set_option maxRecDepth 20000 in
theorem tw_387 : Cond.methodLink RX7 272 yX7_holds ∈ gtbl := gt_mem 387 rfl rfl
set_option maxRecDepth 20000 in
theorem tw_388 : Cond.static yX7_holds ∈ gtbl := gt_mem 388 rfl rfl
set_option maxRecDepth 20000 in
theorem tw_389 : Cond.code yX7_holds cX7_holds 2 (some .boolean) ∈ gtbl := gt_mem 389 rfl rfl
set_option maxRecDepth 20000 in
theorem tw_390 : Cond.methodLink RX7 208 yX5_arcSum ∈ gtbl := gt_mem 390 rfl rfl
set_option maxRecDepth 20000 in
theorem tw_391 : Cond.instanceMethod yX5_arcSum ∈ gtbl := gt_mem 391 rfl rfl
set_option maxRecDepth 20000 in
theorem tw_392 : Cond.selects RX5 yX5_arcSum yX5_arcSum ∈ gtbl := gt_mem 392 rfl rfl
set_option maxRecDepth 20000 in
theorem tw_393 : Cond.code yX5_arcSum cX5_arcSum 3 (some .long) ∈ gtbl := gt_mem 393 rfl rfl
set_option maxRecDepth 20000 in
theorem tw_394 : Cond.methodLink RX7 176 yX7_arcScore ∈ gtbl := gt_mem 394 rfl rfl
set_option maxRecDepth 20000 in
theorem tw_396 : Cond.instanceMethod yX7_arcScore ∈ gtbl := gt_mem 396 rfl rfl
set_option maxRecDepth 20000 in
theorem tw_397 : Cond.code yX7_arcScore cX7_arcScore 4 (some .int) ∈ gtbl := gt_mem 397 rfl rfl
set_option maxRecDepth 20000 in
theorem tw_398 : Cond.methodLink RX7 263 yX6_ofArc ∈ gtbl := gt_mem 398 rfl rfl
set_option maxRecDepth 20000 in
theorem tw_399 : Cond.instanceMethod yX6_ofArc ∈ gtbl := gt_mem 399 rfl rfl
set_option maxRecDepth 20000 in
theorem tw_400 : Cond.selects RX6 yX6_ofArc yX6_ofArc ∈ gtbl := gt_mem 400 rfl rfl
set_option maxRecDepth 20000 in
theorem tw_401 : Cond.code yX6_ofArc cX6_ofArc 4 (some .int) ∈ gtbl := gt_mem 401 rfl rfl
set_option maxRecDepth 20000 in
theorem tw_402 : Cond.methodLink RX6 25 yX6_direction ∈ gtbl := gt_mem 402 rfl rfl
set_option maxRecDepth 20000 in
theorem tw_403 : Cond.static yX6_direction ∈ gtbl := gt_mem 403 rfl rfl
set_option maxRecDepth 20000 in
theorem tw_404 : Cond.code yX6_direction cX6_direction 2 (some .int) ∈ gtbl := gt_mem 404 rfl rfl
set_option maxRecDepth 20000 in
theorem tw_405 : Cond.methodLink RX6 29 yJ9_abs_0f7a4 ∈ gtbl := gt_mem 405 rfl rfl
set_option maxRecDepth 20000 in
theorem tw_406 : Cond.static yJ9_abs_0f7a4 ∈ gtbl := gt_mem 406 rfl rfl
set_option maxRecDepth 20000 in
theorem tw_407 : Cond.code yJ9_abs_0f7a4 Lib.Math.abs.code 1 (some .int) ∈ gtbl := gt_mem 407 rfl rfl
set_option maxRecDepth 20000 in
theorem tw_408 : Cond.methodLink RX7 275 yX4_offer ∈ gtbl := gt_mem 408 rfl rfl
set_option maxRecDepth 20000 in
theorem tw_409 : Cond.instanceMethod yX4_offer ∈ gtbl := gt_mem 409 rfl rfl
set_option maxRecDepth 20000 in
theorem tw_410 : Cond.selects RX4 yX4_offer yX4_offer ∈ gtbl := gt_mem 410 rfl rfl
set_option maxRecDepth 20000 in
theorem tw_411 : Cond.code yX4_offer cX4_offer 9 none ∈ gtbl := gt_mem 411 rfl rfl
set_option maxRecDepth 20000 in
theorem tw_412 : Cond.constantLong RX4 49 (117649) ∈ gtbl := gt_mem 412 rfl rfl
set_option maxRecDepth 20000 in
theorem tw_413 : Cond.fieldLink RX4 51 "ArcFactoredParser$TreeSearch" "PLACES" "[I" ∈ gtbl := gt_mem 413 rfl rfl
set_option maxRecDepth 20000 in
theorem tw_415 : Cond.methodLink RX7 187 yX4_seek ∈ gtbl := gt_mem 415 rfl rfl
set_option maxRecDepth 20000 in
theorem tw_416 : Cond.instanceMethod yX4_seek ∈ gtbl := gt_mem 416 rfl rfl
set_option maxRecDepth 20000 in
theorem tw_417 : Cond.selects RX4 yX4_seek yX4_seek ∈ gtbl := gt_mem 417 rfl rfl
set_option maxRecDepth 20000 in
theorem tw_418 : Cond.code yX4_seek cX4_seek 3 none ∈ gtbl := gt_mem 418 rfl rfl
set_option maxRecDepth 20000 in
theorem tw_419 : Cond.methodLink RX4 54 yJ9_min_7cf53 ∈ gtbl := gt_mem 419 rfl rfl
set_option maxRecDepth 20000 in
theorem tw_420 : Cond.static yJ9_min_7cf53 ∈ gtbl := gt_mem 420 rfl rfl
set_option maxRecDepth 20000 in
theorem tw_421 : Cond.code yJ9_min_7cf53 Lib.Math.min.code 2 (some .int) ∈ gtbl := gt_mem 421 rfl rfl
set_option maxRecDepth 20000 in
theorem tw_422 : Cond.methodLink RX4 60 yJ9_max_7cf53 ∈ gtbl := gt_mem 422 rfl rfl
set_option maxRecDepth 20000 in
theorem tw_423 : Cond.static yJ9_max_7cf53 ∈ gtbl := gt_mem 423 rfl rfl
set_option maxRecDepth 20000 in
theorem tw_424 : Cond.code yJ9_max_7cf53 Lib.Math.max.code 2 (some .int) ∈ gtbl := gt_mem 424 rfl rfl
set_option maxRecDepth 20000 in
theorem tw_425 : Cond.methodLink RX4 63 yX4_descend ∈ gtbl := gt_mem 425 rfl rfl
set_option maxRecDepth 20000 in
theorem tw_427 : Cond.instanceMethod yX4_descend ∈ gtbl := gt_mem 427 rfl rfl
set_option maxRecDepth 20000 in
theorem tw_428 : Cond.code yX4_descend cX4_descend 10 none ∈ gtbl := gt_mem 428 rfl rfl
set_option maxRecDepth 20000 in
theorem tw_429 : Cond.methodLink RX4 67 yX4_keep ∈ gtbl := gt_mem 429 rfl rfl
set_option maxRecDepth 20000 in
theorem tw_431 : Cond.instanceMethod yX4_keep ∈ gtbl := gt_mem 431 rfl rfl
set_option maxRecDepth 20000 in
theorem tw_432 : Cond.code yX4_keep cX4_keep 4 none ∈ gtbl := gt_mem 432 rfl rfl
set_option maxRecDepth 20000 in
theorem tw_433 : Cond.methodLink RX4 77 yX4_closesCycle ∈ gtbl := gt_mem 433 rfl rfl
set_option maxRecDepth 20000 in
theorem tw_435 : Cond.instanceMethod yX4_closesCycle ∈ gtbl := gt_mem 435 rfl rfl
set_option maxRecDepth 20000 in
theorem tw_436 : Cond.code yX4_closesCycle cX4_closesCycle 5 (some .boolean) ∈ gtbl := gt_mem 436 rfl rfl
set_option maxRecDepth 20000 in
theorem tw_437 : Cond.methodLink RX4 84 yX4_crossesEarlier ∈ gtbl := gt_mem 437 rfl rfl
set_option maxRecDepth 20000 in
theorem tw_439 : Cond.instanceMethod yX4_crossesEarlier ∈ gtbl := gt_mem 439 rfl rfl
set_option maxRecDepth 20000 in
theorem tw_440 : Cond.code yX4_crossesEarlier cX4_crossesEarlier 4 (some .boolean) ∈ gtbl := gt_mem 440 rfl rfl
set_option maxRecDepth 20000 in
theorem tw_442 : Cond.static yX7_cross ∈ gtbl := gt_mem 442 rfl rfl
set_option maxRecDepth 20000 in
theorem tw_443 : Cond.code yX7_cross cX7_cross 8 (some .boolean) ∈ gtbl := gt_mem 443 rfl rfl
set_option maxRecDepth 20000 in
theorem tw_444 : Cond.methodLink RX7 136 yX7_countAgreeing ∈ gtbl := gt_mem 444 rfl rfl
set_option maxRecDepth 20000 in
theorem tw_446 : Cond.instanceMethod yX7_countAgreeing ∈ gtbl := gt_mem 446 rfl rfl
set_option maxRecDepth 20000 in
theorem tw_447 : Cond.code yX7_countAgreeing cX7_countAgreeing 4 (some .int) ∈ gtbl := gt_mem 447 rfl rfl
set_option maxRecDepth 20000 in
theorem tw_448 : Cond.methodLink RX7 140 yX4_headAt ∈ gtbl := gt_mem 448 rfl rfl
set_option maxRecDepth 20000 in
theorem tw_449 : Cond.instanceMethod yX4_headAt ∈ gtbl := gt_mem 449 rfl rfl
set_option maxRecDepth 20000 in
theorem tw_450 : Cond.selects RX4 yX4_headAt yX4_headAt ∈ gtbl := gt_mem 450 rfl rfl
set_option maxRecDepth 20000 in
theorem tw_451 : Cond.code yX4_headAt cX4_headAt 5 (some .int) ∈ gtbl := gt_mem 451 rfl rfl
set_option maxRecDepth 20000 in
theorem tw_452 : Cond.methodLink RX4 95 yJ9_floorMod_f86c9 ∈ gtbl := gt_mem 452 rfl rfl
set_option maxRecDepth 20000 in
theorem tw_453 : Cond.static yJ9_floorMod_f86c9 ∈ gtbl := gt_mem 453 rfl rfl
set_option maxRecDepth 20000 in
theorem tw_454 : Cond.code yJ9_floorMod_f86c9 cJ9_floorMod_f86c9 6 (some .long) ∈ gtbl := gt_mem 454 rfl rfl
set_option maxRecDepth 20000 in
theorem tw_459 : Cond.methodLink RX7 144 yX7_isTagPair ∈ gtbl := gt_mem 459 rfl rfl
set_option maxRecDepth 20000 in
theorem tw_460 : Cond.static yX7_isTagPair ∈ gtbl := gt_mem 460 rfl rfl
set_option maxRecDepth 20000 in
theorem tw_461 : Cond.code yX7_isTagPair cX7_isTagPair 2 (some .boolean) ∈ gtbl := gt_mem 461 rfl rfl
set_option maxRecDepth 20000 in
theorem tw_462 : Cond.methodLink RX7 147 yX7_isWithin ∈ gtbl := gt_mem 462 rfl rfl
set_option maxRecDepth 20000 in
theorem tw_463 : Cond.static yX7_isWithin ∈ gtbl := gt_mem 463 rfl rfl
set_option maxRecDepth 20000 in
theorem tw_464 : Cond.code yX7_isWithin cX7_isWithin 2 (some .boolean) ∈ gtbl := gt_mem 464 rfl rfl
set_option maxRecDepth 20000 in
theorem tw_469 : Cond.methodLink RX7 154 yX7_isDistance ∈ gtbl := gt_mem 469 rfl rfl
set_option maxRecDepth 20000 in
theorem tw_470 : Cond.static yX7_isDistance ∈ gtbl := gt_mem 470 rfl rfl
set_option maxRecDepth 20000 in
theorem tw_471 : Cond.code yX7_isDistance cX7_isDistance 2 (some .boolean) ∈ gtbl := gt_mem 471 rfl rfl
set_option maxRecDepth 20000 in
theorem tw_508 : Cond.methodLink RX7 180 yX4_scoreAt ∈ gtbl := gt_mem 508 rfl rfl
set_option maxRecDepth 20000 in
theorem tw_509 : Cond.instanceMethod yX4_scoreAt ∈ gtbl := gt_mem 509 rfl rfl
set_option maxRecDepth 20000 in
theorem tw_510 : Cond.selects RX4 yX4_scoreAt yX4_scoreAt ∈ gtbl := gt_mem 510 rfl rfl
set_option maxRecDepth 20000 in
theorem tw_511 : Cond.code yX4_scoreAt cX4_scoreAt 2 (some .int) ∈ gtbl := gt_mem 511 rfl rfl
set_option maxRecDepth 20000 in
theorem tw_512 : Cond.methodLink RX4 91 yJ9_floorDiv_f86c9 ∈ gtbl := gt_mem 512 rfl rfl
set_option maxRecDepth 20000 in
theorem tw_513 : Cond.static yJ9_floorDiv_f86c9 ∈ gtbl := gt_mem 513 rfl rfl
set_option maxRecDepth 20000 in
theorem tw_514 : Cond.code yJ9_floorDiv_f86c9 cJ9_floorDiv_f86c9 6 (some .long) ∈ gtbl := gt_mem 514 rfl rfl
set_option maxRecDepth 20000 in
theorem tw_531 : Cond.methodLink RX7 184 yX4_keepOnly ∈ gtbl := gt_mem 531 rfl rfl
set_option maxRecDepth 20000 in
theorem tw_532 : Cond.instanceMethod yX4_keepOnly ∈ gtbl := gt_mem 532 rfl rfl
set_option maxRecDepth 20000 in
theorem tw_533 : Cond.selects RX4 yX4_keepOnly yX4_keepOnly ∈ gtbl := gt_mem 533 rfl rfl
set_option maxRecDepth 20000 in
theorem tw_534 : Cond.code yX4_keepOnly cX4_keepOnly 5 none ∈ gtbl := gt_mem 534 rfl rfl
set_option maxRecDepth 20000 in
theorem tw_539 : Cond.methodLink RX7 191 yX7_annotationScore ∈ gtbl := gt_mem 539 rfl rfl
set_option maxRecDepth 20000 in
theorem tw_541 : Cond.instanceMethod yX7_annotationScore ∈ gtbl := gt_mem 541 rfl rfl
set_option maxRecDepth 20000 in
theorem tw_542 : Cond.code yX7_annotationScore cX7_annotationScore 4 (some .int) ∈ gtbl := gt_mem 542 rfl rfl
set_option maxRecDepth 20000 in
theorem tw_551 : Cond.methodLink RX7 194 yX7_countTrees ∈ gtbl := gt_mem 551 rfl rfl
set_option maxRecDepth 20000 in
theorem tw_553 : Cond.instanceMethod yX7_countTrees ∈ gtbl := gt_mem 553 rfl rfl
set_option maxRecDepth 20000 in
theorem tw_554 : Cond.code yX7_countTrees cX7_countTrees 2 (some .int) ∈ gtbl := gt_mem 554 rfl rfl
set_option maxRecDepth 20000 in
theorem tw_555 : Cond.methodLink RX7 279 yX7_setPotentials ∈ gtbl := gt_mem 555 rfl rfl
set_option maxRecDepth 20000 in
theorem tw_557 : Cond.instanceMethod yX7_setPotentials ∈ gtbl := gt_mem 557 rfl rfl
set_option maxRecDepth 20000 in
theorem tw_558 : Cond.code yX7_setPotentials cX7_setPotentials 7 none ∈ gtbl := gt_mem 558 rfl rfl
set_option maxRecDepth 20000 in
theorem tw_559 : Cond.methodLink RX7 286 yX5_begin ∈ gtbl := gt_mem 559 rfl rfl
set_option maxRecDepth 20000 in
theorem tw_560 : Cond.instanceMethod yX5_begin ∈ gtbl := gt_mem 560 rfl rfl
set_option maxRecDepth 20000 in
theorem tw_561 : Cond.selects RX5 yX5_begin yX5_begin ∈ gtbl := gt_mem 561 rfl rfl
set_option maxRecDepth 20000 in
theorem tw_562 : Cond.code yX5_begin cX5_begin 2 none ∈ gtbl := gt_mem 562 rfl rfl
set_option maxRecDepth 20000 in
theorem tw_563 : Cond.methodLink RX7 287 yX7_limitPotential ∈ gtbl := gt_mem 563 rfl rfl
set_option maxRecDepth 20000 in
theorem tw_564 : Cond.static yX7_limitPotential ∈ gtbl := gt_mem 564 rfl rfl
set_option maxRecDepth 20000 in
theorem tw_565 : Cond.code yX7_limitPotential cX7_limitPotential 1 (some .int) ∈ gtbl := gt_mem 565 rfl rfl
set_option maxRecDepth 20000 in
theorem tw_566 : Cond.methodLink RX7 294 yJ9_min_7cf53 ∈ gtbl := gt_mem 566 rfl rfl
set_option maxRecDepth 20000 in
theorem tw_567 : Cond.methodLink RX7 299 yJ9_max_7cf53 ∈ gtbl := gt_mem 567 rfl rfl
set_option maxRecDepth 20000 in
theorem tw_568 : Cond.methodLink RX7 290 yX5_setPotential ∈ gtbl := gt_mem 568 rfl rfl
set_option maxRecDepth 20000 in
theorem tw_569 : Cond.instanceMethod yX5_setPotential ∈ gtbl := gt_mem 569 rfl rfl
set_option maxRecDepth 20000 in
theorem tw_570 : Cond.selects RX5 yX5_setPotential yX5_setPotential ∈ gtbl := gt_mem 570 rfl rfl
set_option maxRecDepth 20000 in
theorem tw_571 : Cond.code yX5_setPotential cX5_setPotential 4 none ∈ gtbl := gt_mem 571 rfl rfl
set_option maxRecDepth 20000 in
theorem tw_572 : Cond.methodLink RX7 282 yX5_addUp ∈ gtbl := gt_mem 572 rfl rfl
set_option maxRecDepth 20000 in
theorem tw_573 : Cond.instanceMethod yX5_addUp ∈ gtbl := gt_mem 573 rfl rfl
set_option maxRecDepth 20000 in
theorem tw_574 : Cond.selects RX5 yX5_addUp yX5_addUp ∈ gtbl := gt_mem 574 rfl rfl
set_option maxRecDepth 20000 in
theorem tw_575 : Cond.code yX5_addUp cX5_addUp 4 (some .long) ∈ gtbl := gt_mem 575 rfl rfl
set_option maxRecDepth 20000 in
theorem tw_576 : Cond.methodLink RX5 39 yX5_hasNode ∈ gtbl := gt_mem 576 rfl rfl
set_option maxRecDepth 20000 in
theorem tw_577 : Cond.static yX5_hasNode ∈ gtbl := gt_mem 577 rfl rfl
set_option maxRecDepth 20000 in
theorem tw_578 : Cond.code yX5_hasNode cX5_hasNode 2 (some .boolean) ∈ gtbl := gt_mem 578 rfl rfl
set_option maxRecDepth 20000 in
theorem tw_579 : Cond.methodLink RX5 60 yX5_bit ∈ gtbl := gt_mem 579 rfl rfl
set_option maxRecDepth 20000 in
theorem tw_580 : Cond.static yX5_bit ∈ gtbl := gt_mem 580 rfl rfl
set_option maxRecDepth 20000 in
theorem tw_581 : Cond.code yX5_bit cX5_bit 1 (some .int) ∈ gtbl := gt_mem 581 rfl rfl
set_option maxRecDepth 20000 in
theorem tw_582 : Cond.methodLink RX5 43 yX5_addBranches ∈ gtbl := gt_mem 582 rfl rfl
set_option maxRecDepth 20000 in
theorem tw_584 : Cond.instanceMethod yX5_addBranches ∈ gtbl := gt_mem 584 rfl rfl
set_option maxRecDepth 20000 in
theorem tw_585 : Cond.code yX5_addBranches cX5_addBranches 6 (some .long) ∈ gtbl := gt_mem 585 rfl rfl
set_option maxRecDepth 20000 in
theorem tw_586 : Cond.methodLink RX5 56 yX5_mayBranch ∈ gtbl := gt_mem 586 rfl rfl
set_option maxRecDepth 20000 in
theorem tw_588 : Cond.instanceMethod yX5_mayBranch ∈ gtbl := gt_mem 588 rfl rfl
set_option maxRecDepth 20000 in
theorem tw_589 : Cond.code yX5_mayBranch cX5_mayBranch 2 (some .boolean) ∈ gtbl := gt_mem 589 rfl rfl
set_option maxRecDepth 20000 in
theorem tw_590 : Cond.methodLink RX5 47 yX5_addForests ∈ gtbl := gt_mem 590 rfl rfl
set_option maxRecDepth 20000 in
theorem tw_592 : Cond.instanceMethod yX5_addForests ∈ gtbl := gt_mem 592 rfl rfl
set_option maxRecDepth 20000 in
theorem tw_593 : Cond.code yX5_addForests cX5_addForests 7 (some .long) ∈ gtbl := gt_mem 593 rfl rfl
set_option maxRecDepth 20000 in
theorem tw_598 : Cond.constantLong RX7 197 (-1000001) ∈ gtbl := gt_mem 598 rfl rfl
set_option maxRecDepth 20000 in
theorem tw_599 : Cond.methodLink RX7 199 yX7_sumWeights ∈ gtbl := gt_mem 599 rfl rfl
set_option maxRecDepth 20000 in
theorem tw_601 : Cond.instanceMethod yX7_sumWeights ∈ gtbl := gt_mem 601 rfl rfl
set_option maxRecDepth 20000 in
theorem tw_602 : Cond.code yX7_sumWeights cX7_sumWeights 2 (some .long) ∈ gtbl := gt_mem 602 rfl rfl
set_option maxRecDepth 20000 in
theorem tw_607 : Cond.constantLong RX7 203 (-1000004) ∈ gtbl := gt_mem 607 rfl rfl
set_option maxRecDepth 20000 in
theorem tw_608 : Cond.methodLink RX7 205 yX5_spread ∈ gtbl := gt_mem 608 rfl rfl
set_option maxRecDepth 20000 in
theorem tw_609 : Cond.instanceMethod yX5_spread ∈ gtbl := gt_mem 609 rfl rfl
set_option maxRecDepth 20000 in
theorem tw_610 : Cond.selects RX5 yX5_spread yX5_spread ∈ gtbl := gt_mem 610 rfl rfl
set_option maxRecDepth 20000 in
theorem tw_611 : Cond.code yX5_spread cX5_spread 4 none ∈ gtbl := gt_mem 611 rfl rfl
set_option maxRecDepth 20000 in
theorem tw_612 : Cond.methodLink RX5 64 yX5_clearGains ∈ gtbl := gt_mem 612 rfl rfl
set_option maxRecDepth 20000 in
theorem tw_614 : Cond.instanceMethod yX5_clearGains ∈ gtbl := gt_mem 614 rfl rfl
set_option maxRecDepth 20000 in
theorem tw_615 : Cond.code yX5_clearGains cX5_clearGains 3 none ∈ gtbl := gt_mem 615 rfl rfl
set_option maxRecDepth 20000 in
theorem tw_616 : Cond.methodLink RX5 67 yX5_spreadForest ∈ gtbl := gt_mem 616 rfl rfl
set_option maxRecDepth 20000 in
theorem tw_618 : Cond.instanceMethod yX5_spreadForest ∈ gtbl := gt_mem 618 rfl rfl
set_option maxRecDepth 20000 in
theorem tw_619 : Cond.code yX5_spreadForest cX5_spreadForest 7 none ∈ gtbl := gt_mem 619 rfl rfl
set_option maxRecDepth 20000 in
theorem tw_620 : Cond.methodLink RX5 71 yX5_spreadBranch ∈ gtbl := gt_mem 620 rfl rfl
set_option maxRecDepth 20000 in
theorem tw_622 : Cond.instanceMethod yX5_spreadBranch ∈ gtbl := gt_mem 622 rfl rfl
set_option maxRecDepth 20000 in
theorem tw_623 : Cond.code yX5_spreadBranch cX5_spreadBranch 7 none ∈ gtbl := gt_mem 623 rfl rfl
set_option maxRecDepth 20000 in
theorem tw_624 : Cond.methodLink RX7 212 yX7_greatestCommonDivisor ∈ gtbl := gt_mem 624 rfl rfl
set_option maxRecDepth 20000 in
theorem tw_625 : Cond.static yX7_greatestCommonDivisor ∈ gtbl := gt_mem 625 rfl rfl
set_option maxRecDepth 20000 in
theorem tw_626 : Cond.code yX7_greatestCommonDivisor cX7_greatestCommonDivisor 11 (some .long) ∈ gtbl := gt_mem 626 rfl rfl
set_option maxRecDepth 20000 in
theorem tw_635 : Cond.methodLink RX7 220 yX7_countCrossings ∈ gtbl := gt_mem 635 rfl rfl
set_option maxRecDepth 20000 in
theorem tw_636 : Cond.static yX7_countCrossings ∈ gtbl := gt_mem 636 rfl rfl
set_option maxRecDepth 20000 in
theorem tw_637 : Cond.code yX7_countCrossings cX7_countCrossings 4 (some .int) ∈ gtbl := gt_mem 637 rfl rfl
set_option maxRecDepth 20000 in
theorem tw_638 : Cond.methodLink RX7 302 yX7_cross ∈ gtbl := gt_mem 638 rfl rfl
set_option maxRecDepth 20000 in
theorem tw_647 : Cond.methodLink RX7 227 yX3_arrange ∈ gtbl := gt_mem 647 rfl rfl
set_option maxRecDepth 20000 in
theorem tw_648 : Cond.instanceMethod yX3_arrange ∈ gtbl := gt_mem 648 rfl rfl
set_option maxRecDepth 20000 in
theorem tw_649 : Cond.selects RX3 yX3_arrange yX3_arrange ∈ gtbl := gt_mem 649 rfl rfl
set_option maxRecDepth 20000 in
theorem tw_650 : Cond.code yX3_arrange cX3_arrange 2 none ∈ gtbl := gt_mem 650 rfl rfl
set_option maxRecDepth 20000 in
theorem tw_651 : Cond.methodLink RX3 54 arraycopyName ∈ gtbl := gt_mem 651 rfl rfl
set_option maxRecDepth 20000 in
theorem tw_652 : Cond.static arraycopyName ∈ gtbl := gt_mem 652 rfl rfl
set_option maxRecDepth 20000 in
theorem tw_653 : Cond.native arraycopyName ∈ gtbl := gt_mem 653 rfl rfl
set_option maxRecDepth 20000 in
theorem tw_654 : Cond.methodLink RX3 60 yX3_visit ∈ gtbl := gt_mem 654 rfl rfl
set_option maxRecDepth 20000 in
theorem tw_656 : Cond.instanceMethod yX3_visit ∈ gtbl := gt_mem 656 rfl rfl
set_option maxRecDepth 20000 in
theorem tw_657 : Cond.code yX3_visit cX3_visit 4 none ∈ gtbl := gt_mem 657 rfl rfl
set_option maxRecDepth 20000 in
theorem tw_662 : Cond.methodLink RX7 234 yX7_countTransitions ∈ gtbl := gt_mem 662 rfl rfl
set_option maxRecDepth 20000 in
theorem tw_664 : Cond.instanceMethod yX7_countTransitions ∈ gtbl := gt_mem 664 rfl rfl
set_option maxRecDepth 20000 in
theorem tw_665 : Cond.code yX7_countTransitions cX7_countTransitions 2 (some .int) ∈ gtbl := gt_mem 665 rfl rfl
set_option maxRecDepth 20000 in
theorem tw_666 : Cond.methodLink RX7 306 yX3_perform ∈ gtbl := gt_mem 666 rfl rfl
set_option maxRecDepth 20000 in
theorem tw_667 : Cond.instanceMethod yX3_perform ∈ gtbl := gt_mem 667 rfl rfl
set_option maxRecDepth 20000 in
theorem tw_668 : Cond.selects RX3 yX3_perform yX3_perform ∈ gtbl := gt_mem 668 rfl rfl
set_option maxRecDepth 20000 in
theorem tw_669 : Cond.code yX3_perform cX3_perform 3 none ∈ gtbl := gt_mem 669 rfl rfl
set_option maxRecDepth 20000 in
theorem tw_670 : Cond.methodLink RX3 64 yX3_choose ∈ gtbl := gt_mem 670 rfl rfl
set_option maxRecDepth 20000 in
theorem tw_672 : Cond.instanceMethod yX3_choose ∈ gtbl := gt_mem 672 rfl rfl
set_option maxRecDepth 20000 in
theorem tw_673 : Cond.code yX3_choose cX3_choose 3 (some .int) ∈ gtbl := gt_mem 673 rfl rfl
set_option maxRecDepth 20000 in
theorem tw_674 : Cond.methodLink RX3 72 yX3_isComplete ∈ gtbl := gt_mem 674 rfl rfl
set_option maxRecDepth 20000 in
theorem tw_676 : Cond.instanceMethod yX3_isComplete ∈ gtbl := gt_mem 676 rfl rfl
set_option maxRecDepth 20000 in
theorem tw_677 : Cond.code yX3_isComplete cX3_isComplete 3 (some .boolean) ∈ gtbl := gt_mem 677 rfl rfl
set_option maxRecDepth 20000 in
theorem tw_678 : Cond.methodLink RX3 68 yX3_apply ∈ gtbl := gt_mem 678 rfl rfl
set_option maxRecDepth 20000 in
theorem tw_680 : Cond.instanceMethod yX3_apply ∈ gtbl := gt_mem 680 rfl rfl
set_option maxRecDepth 20000 in
theorem tw_681 : Cond.code yX3_apply cX3_apply 4 none ∈ gtbl := gt_mem 681 rfl rfl
set_option maxRecDepth 20000 in
theorem tw_690 : Cond.methodLink RX7 240 yX7_learn ∈ gtbl := gt_mem 690 rfl rfl
set_option maxRecDepth 20000 in
theorem tw_692 : Cond.instanceMethod yX7_learn ∈ gtbl := gt_mem 692 rfl rfl
set_option maxRecDepth 20000 in
theorem tw_693 : Cond.code yX7_learn cX7_learn 5 (some .int) ∈ gtbl := gt_mem 693 rfl rfl
set_option maxRecDepth 20000 in
theorem tw_694 : Cond.methodLink RX7 310 yX6_nudge ∈ gtbl := gt_mem 694 rfl rfl
set_option maxRecDepth 20000 in
theorem tw_695 : Cond.instanceMethod yX6_nudge ∈ gtbl := gt_mem 695 rfl rfl
set_option maxRecDepth 20000 in
theorem tw_696 : Cond.selects RX6 yX6_nudge yX6_nudge ∈ gtbl := gt_mem 696 rfl rfl
set_option maxRecDepth 20000 in
theorem tw_697 : Cond.code yX6_nudge cX6_nudge 9 none ∈ gtbl := gt_mem 697 rfl rfl
set_option maxRecDepth 20000 in
theorem tw_698 : Cond.methodLink RX6 35 yX6_clamp ∈ gtbl := gt_mem 698 rfl rfl
set_option maxRecDepth 20000 in
theorem tw_699 : Cond.static yX6_clamp ∈ gtbl := gt_mem 699 rfl rfl
set_option maxRecDepth 20000 in
theorem tw_700 : Cond.code yX6_clamp cX6_clamp 1 (some .int) ∈ gtbl := gt_mem 700 rfl rfl
set_option maxRecDepth 20000 in
theorem tw_701 : Cond.methodLink RX6 38 yJ9_min_7cf53 ∈ gtbl := gt_mem 701 rfl rfl
set_option maxRecDepth 20000 in
theorem tw_702 : Cond.methodLink RX6 41 yJ9_max_7cf53 ∈ gtbl := gt_mem 702 rfl rfl
set_option maxRecDepth 20000 in
theorem tw_711 : Cond.methodLink RX7 243 yX6_copyFrom ∈ gtbl := gt_mem 711 rfl rfl
set_option maxRecDepth 20000 in
theorem tw_712 : Cond.instanceMethod yX6_copyFrom ∈ gtbl := gt_mem 712 rfl rfl
set_option maxRecDepth 20000 in
theorem tw_713 : Cond.selects RX6 yX6_copyFrom yX6_copyFrom ∈ gtbl := gt_mem 713 rfl rfl
set_option maxRecDepth 20000 in
theorem tw_714 : Cond.code yX6_copyFrom cX6_copyFrom 3 none ∈ gtbl := gt_mem 714 rfl rfl
set_option maxRecDepth 20000 in
theorem tw_715 : Cond.methodLink RX6 44 arraycopyName ∈ gtbl := gt_mem 715 rfl rfl
set_option maxRecDepth 20000 in
theorem tw_716 : Cond.methodLink RX7 247 yX6_countNonZero ∈ gtbl := gt_mem 716 rfl rfl
set_option maxRecDepth 20000 in
theorem tw_717 : Cond.instanceMethod yX6_countNonZero ∈ gtbl := gt_mem 717 rfl rfl
set_option maxRecDepth 20000 in
theorem tw_718 : Cond.selects RX6 yX6_countNonZero yX6_countNonZero ∈ gtbl := gt_mem 718 rfl rfl
set_option maxRecDepth 20000 in
theorem tw_719 : Cond.code yX6_countNonZero cX6_countNonZero 4 (some .int) ∈ gtbl := gt_mem 719 rfl rfl
set_option maxRecDepth 20000 in
theorem tw_728 : Cond.constantLong RX7 250 (13) ∈ gtbl := gt_mem 728 rfl rfl
set_option maxRecDepth 20000 in
theorem tw_729 : Cond.methodLink RX7 252 yX7_mix ∈ gtbl := gt_mem 729 rfl rfl
set_option maxRecDepth 20000 in
theorem tw_730 : Cond.static yX7_mix ∈ gtbl := gt_mem 730 rfl rfl
set_option maxRecDepth 20000 in
theorem tw_731 : Cond.code yX7_mix cX7_mix 4 (some .long) ∈ gtbl := gt_mem 731 rfl rfl
set_option maxRecDepth 20000 in
theorem tw_732 : Cond.constantLong RX7 314 (31) ∈ gtbl := gt_mem 732 rfl rfl
set_option maxRecDepth 20000 in
theorem tw_733 : Cond.methodLink RX7 255 yX7_mixSentence ∈ gtbl := gt_mem 733 rfl rfl
set_option maxRecDepth 20000 in
theorem tw_735 : Cond.instanceMethod yX7_mixSentence ∈ gtbl := gt_mem 735 rfl rfl
set_option maxRecDepth 20000 in
theorem tw_736 : Cond.code yX7_mixSentence cX7_mixSentence 8 (some .long) ∈ gtbl := gt_mem 736 rfl rfl
set_option maxRecDepth 20000 in
theorem tw_737 : Cond.methodLink RX7 259 yX6_mixInto ∈ gtbl := gt_mem 737 rfl rfl
set_option maxRecDepth 20000 in
theorem tw_738 : Cond.instanceMethod yX6_mixInto ∈ gtbl := gt_mem 738 rfl rfl
set_option maxRecDepth 20000 in
theorem tw_739 : Cond.selects RX6 yX6_mixInto yX6_mixInto ∈ gtbl := gt_mem 739 rfl rfl
set_option maxRecDepth 20000 in
theorem tw_740 : Cond.code yX6_mixInto cX6_mixInto 7 (some .long) ∈ gtbl := gt_mem 740 rfl rfl
set_option maxRecDepth 20000 in
theorem tw_748 : Cond.fieldLink RX8 7 "ArcFactoredParserModel" "text" "[I" ∈ gtbl := gt_mem 748 rfl rfl
set_option maxRecDepth 20000 in
theorem tw_749 : Cond.fieldLink RX8 107 "ArcFactoredParserModel" "length" "I" ∈ gtbl := gt_mem 749 rfl rfl
set_option maxRecDepth 20000 in
theorem tw_750 : Cond.fieldLink RX8 91 "ArcFactoredParserModel" "many" "I" ∈ gtbl := gt_mem 750 rfl rfl
set_option maxRecDepth 20000 in
theorem tw_751 : Cond.fieldLink RX8 13 "ArcFactoredParserModel" "words" "[I" ∈ gtbl := gt_mem 751 rfl rfl
set_option maxRecDepth 20000 in
theorem tw_752 : Cond.fieldLink RX8 16 "ArcFactoredParserModel" "tags" "[I" ∈ gtbl := gt_mem 752 rfl rfl
set_option maxRecDepth 20000 in
theorem tw_753 : Cond.fieldLink RX8 19 "ArcFactoredParserModel" "heads" "[I" ∈ gtbl := gt_mem 753 rfl rfl
set_option maxRecDepth 20000 in
theorem tw_754 : Cond.fieldLink RX8 22 "ArcFactoredParserModel" "biases" "[I" ∈ gtbl := gt_mem 754 rfl rfl
set_option maxRecDepth 20000 in
theorem tw_755 : Cond.fieldLink RX8 25 "ArcFactoredParserModel" "constraints" "[I" ∈ gtbl := gt_mem 755 rfl rfl
set_option maxRecDepth 20000 in
theorem tw_756 : Cond.fieldLink RX8 28 "ArcFactoredParserModel" "weights" "[I" ∈ gtbl := gt_mem 756 rfl rfl
set_option maxRecDepth 20000 in
theorem tw_757 : Cond.fieldLink RX8 31 "ArcFactoredParserModel" "kept" "[I" ∈ gtbl := gt_mem 757 rfl rfl
set_option maxRecDepth 20000 in
theorem tw_758 : Cond.fieldLink RX8 34 "ArcFactoredParserModel" "isKept" "[Z" ∈ gtbl := gt_mem 758 rfl rfl
set_option maxRecDepth 20000 in
theorem tw_759 : Cond.fieldLink RX8 151 "ArcFactoredParserModel" "isSingle" "Z" ∈ gtbl := gt_mem 759 rfl rfl
set_option maxRecDepth 20000 in
theorem tw_760 : Cond.fieldLink RX8 155 "ArcFactoredParserModel" "isProjective" "Z" ∈ gtbl := gt_mem 760 rfl rfl
set_option maxRecDepth 20000 in
theorem tw_761 : Cond.fieldLink RX8 38 "ArcFactoredParserModel" "shift" "I" ∈ gtbl := gt_mem 761 rfl rfl
set_option maxRecDepth 20000 in
theorem tw_762 : Cond.fieldLink RX8 111 "ArcFactoredParserModel" "told" "I" ∈ gtbl := gt_mem 762 rfl rfl
set_option maxRecDepth 20000 in
theorem tw_763 : Cond.fieldLink RX8 42 "ArcFactoredParserModel" "toldWords" "[I" ∈ gtbl := gt_mem 763 rfl rfl
set_option maxRecDepth 20000 in
theorem tw_764 : Cond.fieldLink RX8 45 "ArcFactoredParserModel" "begins" "[I" ∈ gtbl := gt_mem 764 rfl rfl
set_option maxRecDepth 20000 in
theorem tw_765 : Cond.fieldLink RX8 48 "ArcFactoredParserModel" "row" "[I" ∈ gtbl := gt_mem 765 rfl rfl
set_option maxRecDepth 20000 in
theorem tw_766 : Cond.fieldLink RX8 51 "ArcFactoredParserModel" "scores" "[I" ∈ gtbl := gt_mem 766 rfl rfl
set_option maxRecDepth 20000 in
theorem tw_767 : Cond.fieldLink RX8 54 "ArcFactoredParserModel" "potentials" "[I" ∈ gtbl := gt_mem 767 rfl rfl
set_option maxRecDepth 20000 in
theorem tw_768 : Cond.fieldLink RX8 57 "ArcFactoredParserModel" "tried" "[I" ∈ gtbl := gt_mem 768 rfl rfl
set_option maxRecDepth 20000 in
theorem tw_769 : Cond.fieldLink RX8 171 "ArcFactoredParserModel" "ranked" "I" ∈ gtbl := gt_mem 769 rfl rfl
set_option maxRecDepth 20000 in
theorem tw_770 : Cond.fieldLink RX8 60 "ArcFactoredParserModel" "rankScores" "[I" ∈ gtbl := gt_mem 770 rfl rfl
set_option maxRecDepth 20000 in
theorem tw_771 : Cond.fieldLink RX8 63 "ArcFactoredParserModel" "rankHeads" "[I" ∈ gtbl := gt_mem 771 rfl rfl
set_option maxRecDepth 20000 in
theorem tw_772 : Cond.fieldLink RX8 174 "ArcFactoredParserModel" "count" "I" ∈ gtbl := gt_mem 772 rfl rfl
set_option maxRecDepth 20000 in
theorem tw_773 : Cond.fieldLink RX8 177 "ArcFactoredParserModel" "weightAll" "J" ∈ gtbl := gt_mem 773 rfl rfl
set_option maxRecDepth 20000 in
theorem tw_774 : Cond.fieldLink RX8 66 "ArcFactoredParserModel" "arcBest" "[I" ∈ gtbl := gt_mem 774 rfl rfl
set_option maxRecDepth 20000 in
theorem tw_775 : Cond.fieldLink RX8 69 "ArcFactoredParserModel" "arcWeight" "[J" ∈ gtbl := gt_mem 775 rfl rfl
set_option maxRecDepth 20000 in
theorem tw_776 : Cond.fieldLink RX8 181 "ArcFactoredParserModel" "bestOther" "I" ∈ gtbl := gt_mem 776 rfl rfl
set_option maxRecDepth 20000 in
theorem tw_777 : Cond.fieldLink RX8 186 "ArcFactoredParserModel" "risk" "J" ∈ gtbl := gt_mem 777 rfl rfl
set_option maxRecDepth 20000 in
theorem tw_778 : Cond.fieldLink RX8 73 "ArcFactoredParserModel" "riskHeads" "[I" ∈ gtbl := gt_mem 778 rfl rfl
set_option maxRecDepth 20000 in
theorem tw_779 : Cond.fieldLink RX8 76 "ArcFactoredParserModel" "order" "[I" ∈ gtbl := gt_mem 779 rfl rfl
set_option maxRecDepth 20000 in
theorem tw_780 : Cond.fieldLink RX8 79 "ArcFactoredParserModel" "places" "[I" ∈ gtbl := gt_mem 780 rfl rfl
set_option maxRecDepth 20000 in
theorem tw_781 : Cond.fieldLink RX8 261 "ArcFactoredParserModel" "moves" "I" ∈ gtbl := gt_mem 781 rfl rfl
set_option maxRecDepth 20000 in
theorem tw_782 : Cond.fieldLink RX8 82 "ArcFactoredParserModel" "moved" "[I" ∈ gtbl := gt_mem 782 rfl rfl
set_option maxRecDepth 20000 in
theorem tw_783 : Cond.fieldLink RX8 85 "ArcFactoredParserModel" "stack" "[I" ∈ gtbl := gt_mem 783 rfl rfl
set_option maxRecDepth 20000 in
theorem tw_784 : Cond.fieldLink RX8 252 "ArcFactoredParserModel" "height" "I" ∈ gtbl := gt_mem 784 rfl rfl
set_option maxRecDepth 20000 in
theorem tw_785 : Cond.fieldLink RX8 88 "ArcFactoredParserModel" "buffer" "[I" ∈ gtbl := gt_mem 785 rfl rfl
set_option maxRecDepth 20000 in
theorem tw_786 : Cond.fieldLink RX8 258 "ArcFactoredParserModel" "left" "I" ∈ gtbl := gt_mem 786 rfl rfl
set_option maxRecDepth 20000 in
theorem tw_787 : Cond.fieldLink RX8 249 "ArcFactoredParserModel" "attached" "I" ∈ gtbl := gt_mem 787 rfl rfl
set_option maxRecDepth 20000 in
theorem tw_873 : Cond.methodLink RX8 94 yX8_in ∈ gtbl := gt_mem 873 rfl rfl
set_option maxRecDepth 20000 in
theorem tw_874 : Cond.static yX8_in ∈ gtbl := gt_mem 874 rfl rfl
set_option maxRecDepth 20000 in
theorem tw_875 : Cond.code yX8_in cX8_in 3 (some .boolean) ∈ gtbl := gt_mem 875 rfl rfl
set_option maxRecDepth 20000 in
theorem tw_876 : Cond.constant RX8 106 (-1000002) ∈ gtbl := gt_mem 876 rfl rfl
set_option maxRecDepth 20000 in
theorem tw_877 : Cond.constant RX8 110 (-1000003) ∈ gtbl := gt_mem 877 rfl rfl
set_option maxRecDepth 20000 in
theorem tw_886 : Cond.methodLink RX8 119 yX8_faultOf ∈ gtbl := gt_mem 886 rfl rfl
set_option maxRecDepth 20000 in
theorem tw_888 : Cond.instanceMethod yX8_faultOf ∈ gtbl := gt_mem 888 rfl rfl
set_option maxRecDepth 20000 in
theorem tw_889 : Cond.code yX8_faultOf cX8_faultOf 3 (some .int) ∈ gtbl := gt_mem 889 rfl rfl
set_option maxRecDepth 20000 in
theorem tw_890 : Cond.methodLink RX8 114 yX8_isTree ∈ gtbl := gt_mem 890 rfl rfl
set_option maxRecDepth 20000 in
theorem tw_891 : Cond.static yX8_isTree ∈ gtbl := gt_mem 891 rfl rfl
set_option maxRecDepth 20000 in
theorem tw_892 : Cond.code yX8_isTree cX8_isTree 7 (some .boolean) ∈ gtbl := gt_mem 892 rfl rfl
set_option maxRecDepth 20000 in
theorem tw_893 : Cond.constant RX8 118 (-1000004) ∈ gtbl := gt_mem 893 rfl rfl
set_option maxRecDepth 20000 in
theorem tw_898 : Cond.constant RX8 123 (-1000005) ∈ gtbl := gt_mem 898 rfl rfl
set_option maxRecDepth 20000 in
theorem tw_899 : Cond.methodLink RX8 124 yX8_word ∈ gtbl := gt_mem 899 rfl rfl
set_option maxRecDepth 20000 in
theorem tw_900 : Cond.static yX8_word ∈ gtbl := gt_mem 900 rfl rfl
set_option maxRecDepth 20000 in
theorem tw_901 : Cond.code yX8_word cX8_word 2 (some .int) ∈ gtbl := gt_mem 901 rfl rfl
set_option maxRecDepth 20000 in
theorem tw_906 : Cond.methodLink RX8 98 yX8_isSentence ∈ gtbl := gt_mem 906 rfl rfl
set_option maxRecDepth 20000 in
theorem tw_908 : Cond.instanceMethod yX8_isSentence ∈ gtbl := gt_mem 908 rfl rfl
set_option maxRecDepth 20000 in
theorem tw_909 : Cond.code yX8_isSentence cX8_isSentence 2 (some .boolean) ∈ gtbl := gt_mem 909 rfl rfl
set_option maxRecDepth 20000 in
theorem tw_910 : Cond.constant RX8 128 (-1000001) ∈ gtbl := gt_mem 910 rfl rfl
set_option maxRecDepth 20000 in
theorem tw_923 : Cond.methodLink RX8 102 yX8_isWord ∈ gtbl := gt_mem 923 rfl rfl
set_option maxRecDepth 20000 in
theorem tw_925 : Cond.instanceMethod yX8_isWord ∈ gtbl := gt_mem 925 rfl rfl
set_option maxRecDepth 20000 in
theorem tw_926 : Cond.code yX8_isWord cX8_isWord 3 (some .boolean) ∈ gtbl := gt_mem 926 rfl rfl
set_option maxRecDepth 20000 in
theorem tw_935 : Cond.methodLink RX8 129 yX8_isArc ∈ gtbl := gt_mem 935 rfl rfl
set_option maxRecDepth 20000 in
theorem tw_937 : Cond.instanceMethod yX8_isArc ∈ gtbl := gt_mem 937 rfl rfl
set_option maxRecDepth 20000 in
theorem tw_938 : Cond.code yX8_isArc cX8_isArc 4 (some .boolean) ∈ gtbl := gt_mem 938 rfl rfl
set_option maxRecDepth 20000 in
theorem tw_943 : Cond.methodLink RX8 132 yX8_areTags ∈ gtbl := gt_mem 943 rfl rfl
set_option maxRecDepth 20000 in
theorem tw_944 : Cond.static yX8_areTags ∈ gtbl := gt_mem 944 rfl rfl
set_option maxRecDepth 20000 in
theorem tw_945 : Cond.code yX8_areTags cX8_areTags 2 (some .boolean) ∈ gtbl := gt_mem 945 rfl rfl
set_option maxRecDepth 20000 in
theorem tw_946 : Cond.methodLink RX8 135 yX8_tagPlace ∈ gtbl := gt_mem 946 rfl rfl
set_option maxRecDepth 20000 in
theorem tw_947 : Cond.static yX8_tagPlace ∈ gtbl := gt_mem 947 rfl rfl
set_option maxRecDepth 20000 in
theorem tw_948 : Cond.code yX8_tagPlace cX8_tagPlace 2 (some .int) ∈ gtbl := gt_mem 948 rfl rfl
set_option maxRecDepth 20000 in
theorem tw_949 : Cond.methodLink RX8 138 yX8_sets ∈ gtbl := gt_mem 949 rfl rfl
set_option maxRecDepth 20000 in
theorem tw_951 : Cond.instanceMethod yX8_sets ∈ gtbl := gt_mem 951 rfl rfl
set_option maxRecDepth 20000 in
theorem tw_952 : Cond.code yX8_sets cX8_sets 4 (some .int) ∈ gtbl := gt_mem 952 rfl rfl
set_option maxRecDepth 20000 in
theorem tw_957 : Cond.methodLink RX8 141 yX8_isDistance ∈ gtbl := gt_mem 957 rfl rfl
set_option maxRecDepth 20000 in
theorem tw_958 : Cond.static yX8_isDistance ∈ gtbl := gt_mem 958 rfl rfl
set_option maxRecDepth 20000 in
theorem tw_959 : Cond.code yX8_isDistance cX8_isDistance 2 (some .boolean) ∈ gtbl := gt_mem 959 rfl rfl
set_option maxRecDepth 20000 in
theorem tw_960 : Cond.methodLink RX8 144 yX8_distancePlace ∈ gtbl := gt_mem 960 rfl rfl
set_option maxRecDepth 20000 in
theorem tw_961 : Cond.static yX8_distancePlace ∈ gtbl := gt_mem 961 rfl rfl
set_option maxRecDepth 20000 in
theorem tw_962 : Cond.code yX8_distancePlace cX8_distancePlace 2 (some .int) ∈ gtbl := gt_mem 962 rfl rfl
set_option maxRecDepth 20000 in
theorem tw_975 : Cond.methodLink RX8 147 yX8_arc ∈ gtbl := gt_mem 975 rfl rfl
set_option maxRecDepth 20000 in
theorem tw_976 : Cond.static yX8_arc ∈ gtbl := gt_mem 976 rfl rfl
set_option maxRecDepth 20000 in
theorem tw_977 : Cond.code yX8_arc cX8_arc 3 (some .int) ∈ gtbl := gt_mem 977 rfl rfl
set_option maxRecDepth 20000 in
theorem tw_998 : Cond.methodLink RX8 167 yX8_scoreOf ∈ gtbl := gt_mem 998 rfl rfl
set_option maxRecDepth 20000 in
theorem tw_1000 : Cond.instanceMethod yX8_scoreOf ∈ gtbl := gt_mem 1000 rfl rfl
set_option maxRecDepth 20000 in
theorem tw_1001 : Cond.code yX8_scoreOf cX8_scoreOf 4 (some .int) ∈ gtbl := gt_mem 1001 rfl rfl
set_option maxRecDepth 20000 in
theorem tw_1002 : Cond.methodLink RX8 161 yX8_tagPlaceOf ∈ gtbl := gt_mem 1002 rfl rfl
set_option maxRecDepth 20000 in
theorem tw_1004 : Cond.instanceMethod yX8_tagPlaceOf ∈ gtbl := gt_mem 1004 rfl rfl
set_option maxRecDepth 20000 in
theorem tw_1005 : Cond.code yX8_tagPlaceOf cX8_tagPlaceOf 4 (some .int) ∈ gtbl := gt_mem 1005 rfl rfl
set_option maxRecDepth 20000 in
theorem tw_1006 : Cond.methodLink RX8 158 yX8_tagOf ∈ gtbl := gt_mem 1006 rfl rfl
set_option maxRecDepth 20000 in
theorem tw_1008 : Cond.instanceMethod yX8_tagOf ∈ gtbl := gt_mem 1008 rfl rfl
set_option maxRecDepth 20000 in
theorem tw_1009 : Cond.code yX8_tagOf cX8_tagOf 3 (some .int) ∈ gtbl := gt_mem 1009 rfl rfl
set_option maxRecDepth 20000 in
theorem tw_1010 : Cond.methodLink RX8 164 yX8_distancePlaceOf ∈ gtbl := gt_mem 1010 rfl rfl
set_option maxRecDepth 20000 in
theorem tw_1011 : Cond.static yX8_distancePlaceOf ∈ gtbl := gt_mem 1011 rfl rfl
set_option maxRecDepth 20000 in
theorem tw_1012 : Cond.code yX8_distancePlaceOf cX8_distancePlaceOf 2 (some .int) ∈ gtbl := gt_mem 1012 rfl rfl
set_option maxRecDepth 20000 in
theorem tw_1017 : Cond.methodLink RX8 226 yX8_looks ∈ gtbl := gt_mem 1017 rfl rfl
set_option maxRecDepth 20000 in
theorem tw_1019 : Cond.instanceMethod yX8_looks ∈ gtbl := gt_mem 1019 rfl rfl
set_option maxRecDepth 20000 in
theorem tw_1020 : Cond.code yX8_looks cX8_looks 3 none ∈ gtbl := gt_mem 1020 rfl rfl
set_option maxRecDepth 20000 in
theorem tw_1021 : Cond.methodLink RX8 208 yX8_prepares ∈ gtbl := gt_mem 1021 rfl rfl
set_option maxRecDepth 20000 in
theorem tw_1023 : Cond.instanceMethod yX8_prepares ∈ gtbl := gt_mem 1023 rfl rfl
set_option maxRecDepth 20000 in
theorem tw_1024 : Cond.code yX8_prepares cX8_prepares 7 none ∈ gtbl := gt_mem 1024 rfl rfl
set_option maxRecDepth 20000 in
theorem tw_1025 : Cond.constant RX8 170 (-100000000) ∈ gtbl := gt_mem 1025 rfl rfl
set_option maxRecDepth 20000 in
theorem tw_1026 : Cond.constantLong RX8 184 (-1) ∈ gtbl := gt_mem 1026 rfl rfl
set_option maxRecDepth 20000 in
theorem tw_1027 : Cond.methodLink RX8 212 yX8_begins ∈ gtbl := gt_mem 1027 rfl rfl
set_option maxRecDepth 20000 in
theorem tw_1029 : Cond.instanceMethod yX8_begins ∈ gtbl := gt_mem 1029 rfl rfl
set_option maxRecDepth 20000 in
theorem tw_1030 : Cond.code yX8_begins cX8_begins 2 none ∈ gtbl := gt_mem 1030 rfl rfl
set_option maxRecDepth 20000 in
theorem tw_1031 : Cond.methodLink RX8 214 yX8_isAdmissible ∈ gtbl := gt_mem 1031 rfl rfl
set_option maxRecDepth 20000 in
theorem tw_1033 : Cond.instanceMethod yX8_isAdmissible ∈ gtbl := gt_mem 1033 rfl rfl
set_option maxRecDepth 20000 in
theorem tw_1034 : Cond.code yX8_isAdmissible cX8_isAdmissible 6 (some .boolean) ∈ gtbl := gt_mem 1034 rfl rfl
set_option maxRecDepth 20000 in
theorem tw_1035 : Cond.methodLink RX8 193 yX8_crossed ∈ gtbl := gt_mem 1035 rfl rfl
set_option maxRecDepth 20000 in
theorem tw_1036 : Cond.static yX8_crossed ∈ gtbl := gt_mem 1036 rfl rfl
set_option maxRecDepth 20000 in
theorem tw_1037 : Cond.code yX8_crossed cX8_crossed 6 (some .int) ∈ gtbl := gt_mem 1037 rfl rfl
set_option maxRecDepth 20000 in
theorem tw_1038 : Cond.methodLink RX8 189 yX8_crosses ∈ gtbl := gt_mem 1038 rfl rfl
set_option maxRecDepth 20000 in
theorem tw_1039 : Cond.static yX8_crosses ∈ gtbl := gt_mem 1039 rfl rfl
set_option maxRecDepth 20000 in
theorem tw_1040 : Cond.code yX8_crosses cX8_crosses 8 (some .boolean) ∈ gtbl := gt_mem 1040 rfl rfl
set_option maxRecDepth 20000 in
theorem tw_1041 : Cond.methodLink RX8 217 yX8_meets ∈ gtbl := gt_mem 1041 rfl rfl
set_option maxRecDepth 20000 in
theorem tw_1043 : Cond.instanceMethod yX8_meets ∈ gtbl := gt_mem 1043 rfl rfl
set_option maxRecDepth 20000 in
theorem tw_1044 : Cond.code yX8_meets cX8_meets 8 none ∈ gtbl := gt_mem 1044 rfl rfl
set_option maxRecDepth 20000 in
theorem tw_1045 : Cond.methodLink RX8 197 yX8_sumOf ∈ gtbl := gt_mem 1045 rfl rfl
set_option maxRecDepth 20000 in
theorem tw_1047 : Cond.instanceMethod yX8_sumOf ∈ gtbl := gt_mem 1047 rfl rfl
set_option maxRecDepth 20000 in
theorem tw_1048 : Cond.code yX8_sumOf cX8_sumOf 4 (some .int) ∈ gtbl := gt_mem 1048 rfl rfl
set_option maxRecDepth 20000 in
theorem tw_1049 : Cond.methodLink RX8 201 yX8_isAnnotation ∈ gtbl := gt_mem 1049 rfl rfl
set_option maxRecDepth 20000 in
theorem tw_1051 : Cond.instanceMethod yX8_isAnnotation ∈ gtbl := gt_mem 1051 rfl rfl
set_option maxRecDepth 20000 in
theorem tw_1052 : Cond.code yX8_isAnnotation cX8_isAnnotation 4 (some .boolean) ∈ gtbl := gt_mem 1052 rfl rfl
set_option maxRecDepth 20000 in
theorem tw_1053 : Cond.methodLink RX8 204 yX8_ranks ∈ gtbl := gt_mem 1053 rfl rfl
set_option maxRecDepth 20000 in
theorem tw_1055 : Cond.instanceMethod yX8_ranks ∈ gtbl := gt_mem 1055 rfl rfl
set_option maxRecDepth 20000 in
theorem tw_1056 : Cond.code yX8_ranks cX8_ranks 5 none ∈ gtbl := gt_mem 1056 rfl rfl
set_option maxRecDepth 20000 in
theorem tw_1057 : Cond.methodLink RX8 220 yX8_steps ∈ gtbl := gt_mem 1057 rfl rfl
set_option maxRecDepth 20000 in
theorem tw_1059 : Cond.instanceMethod yX8_steps ∈ gtbl := gt_mem 1059 rfl rfl
set_option maxRecDepth 20000 in
theorem tw_1060 : Cond.code yX8_steps cX8_steps 3 (some .boolean) ∈ gtbl := gt_mem 1060 rfl rfl
set_option maxRecDepth 20000 in
theorem tw_1085 : Cond.methodLink RX8 229 yX8_right ∈ gtbl := gt_mem 1085 rfl rfl
set_option maxRecDepth 20000 in
theorem tw_1087 : Cond.instanceMethod yX8_right ∈ gtbl := gt_mem 1087 rfl rfl
set_option maxRecDepth 20000 in
theorem tw_1088 : Cond.code yX8_right cX8_right 4 (some .int) ∈ gtbl := gt_mem 1088 rfl rfl
set_option maxRecDepth 20000 in
theorem tw_1101 : Cond.constantLong RX8 232 (-1000001) ∈ gtbl := gt_mem 1101 rfl rfl
set_option maxRecDepth 20000 in
theorem tw_1106 : Cond.constantLong RX8 234 (-1000004) ∈ gtbl := gt_mem 1106 rfl rfl
set_option maxRecDepth 20000 in
theorem tw_1111 : Cond.methodLink RX8 236 yX8_looksForRisk ∈ gtbl := gt_mem 1111 rfl rfl
set_option maxRecDepth 20000 in
theorem tw_1113 : Cond.instanceMethod yX8_looksForRisk ∈ gtbl := gt_mem 1113 rfl rfl
set_option maxRecDepth 20000 in
theorem tw_1114 : Cond.code yX8_looksForRisk cX8_looksForRisk 3 none ∈ gtbl := gt_mem 1114 rfl rfl
set_option maxRecDepth 20000 in
theorem tw_1115 : Cond.methodLink RX8 223 yX8_risks ∈ gtbl := gt_mem 1115 rfl rfl
set_option maxRecDepth 20000 in
theorem tw_1117 : Cond.instanceMethod yX8_risks ∈ gtbl := gt_mem 1117 rfl rfl
set_option maxRecDepth 20000 in
theorem tw_1118 : Cond.code yX8_risks cX8_risks 5 none ∈ gtbl := gt_mem 1118 rfl rfl
set_option maxRecDepth 20000 in
theorem tw_1131 : Cond.methodLink RX8 246 yX8_orders ∈ gtbl := gt_mem 1131 rfl rfl
set_option maxRecDepth 20000 in
theorem tw_1133 : Cond.instanceMethod yX8_orders ∈ gtbl := gt_mem 1133 rfl rfl
set_option maxRecDepth 20000 in
theorem tw_1134 : Cond.code yX8_orders cX8_orders 8 none ∈ gtbl := gt_mem 1134 rfl rfl
set_option maxRecDepth 20000 in
theorem tw_1135 : Cond.methodLink RX8 239 yX8_placeOf ∈ gtbl := gt_mem 1135 rfl rfl
set_option maxRecDepth 20000 in
theorem tw_1137 : Cond.instanceMethod yX8_placeOf ∈ gtbl := gt_mem 1137 rfl rfl
set_option maxRecDepth 20000 in
theorem tw_1138 : Cond.code yX8_placeOf cX8_placeOf 4 (some .int) ∈ gtbl := gt_mem 1138 rfl rfl
set_option maxRecDepth 20000 in
theorem tw_1139 : Cond.methodLink RX8 242 yX8_inserts ∈ gtbl := gt_mem 1139 rfl rfl
set_option maxRecDepth 20000 in
theorem tw_1141 : Cond.instanceMethod yX8_inserts ∈ gtbl := gt_mem 1141 rfl rfl
set_option maxRecDepth 20000 in
theorem tw_1142 : Cond.code yX8_inserts cX8_inserts 5 none ∈ gtbl := gt_mem 1142 rfl rfl
set_option maxRecDepth 20000 in
theorem tw_1147 : Cond.methodLink RX8 267 yX8_moves ∈ gtbl := gt_mem 1147 rfl rfl
set_option maxRecDepth 20000 in
theorem tw_1149 : Cond.instanceMethod yX8_moves ∈ gtbl := gt_mem 1149 rfl rfl
set_option maxRecDepth 20000 in
theorem tw_1150 : Cond.code yX8_moves cX8_moves 5 none ∈ gtbl := gt_mem 1150 rfl rfl
set_option maxRecDepth 20000 in
theorem tw_1151 : Cond.methodLink RX8 264 yX8_next ∈ gtbl := gt_mem 1151 rfl rfl
set_option maxRecDepth 20000 in
theorem tw_1153 : Cond.instanceMethod yX8_next ∈ gtbl := gt_mem 1153 rfl rfl
set_option maxRecDepth 20000 in
theorem tw_1154 : Cond.code yX8_next cX8_next 4 (some .int) ∈ gtbl := gt_mem 1154 rfl rfl
set_option maxRecDepth 20000 in
theorem tw_1155 : Cond.methodLink RX8 255 yX8_isReady ∈ gtbl := gt_mem 1155 rfl rfl
set_option maxRecDepth 20000 in
theorem tw_1157 : Cond.instanceMethod yX8_isReady ∈ gtbl := gt_mem 1157 rfl rfl
set_option maxRecDepth 20000 in
theorem tw_1158 : Cond.code yX8_isReady cX8_isReady 5 (some .boolean) ∈ gtbl := gt_mem 1158 rfl rfl
set_option maxRecDepth 20000 in
theorem tw_1167 : Cond.methodLink RX8 272 yX8_trains ∈ gtbl := gt_mem 1167 rfl rfl
set_option maxRecDepth 20000 in
theorem tw_1169 : Cond.instanceMethod yX8_trains ∈ gtbl := gt_mem 1169 rfl rfl
set_option maxRecDepth 20000 in
theorem tw_1170 : Cond.code yX8_trains cX8_trains 6 (some .int) ∈ gtbl := gt_mem 1170 rfl rfl
set_option maxRecDepth 20000 in
theorem tw_1171 : Cond.methodLink RX8 269 yX8_changes ∈ gtbl := gt_mem 1171 rfl rfl
set_option maxRecDepth 20000 in
theorem tw_1173 : Cond.instanceMethod yX8_changes ∈ gtbl := gt_mem 1173 rfl rfl
set_option maxRecDepth 20000 in
theorem tw_1174 : Cond.code yX8_changes cX8_changes 4 none ∈ gtbl := gt_mem 1174 rfl rfl
set_option maxRecDepth 20000 in
theorem tw_1183 : Cond.methodLink RX8 275 yX8_used ∈ gtbl := gt_mem 1183 rfl rfl
set_option maxRecDepth 20000 in
theorem tw_1185 : Cond.instanceMethod yX8_used ∈ gtbl := gt_mem 1185 rfl rfl
set_option maxRecDepth 20000 in
theorem tw_1186 : Cond.code yX8_used cX8_used 3 (some .int) ∈ gtbl := gt_mem 1186 rfl rfl
set_option maxRecDepth 20000 in
theorem tw_1195 : Cond.constantLong RX8 278 (403) ∈ gtbl := gt_mem 1195 rfl rfl
set_option maxRecDepth 20000 in
theorem tw_1196 : Cond.constantLong RX8 280 (31) ∈ gtbl := gt_mem 1196 rfl rfl
set_option maxRecDepth 20000 in
theorem tws_0 : Cond.selects RX7 yX7_find yX7_find ∈ gtbl := gt_sel 0 rfl rfl
set_option maxRecDepth 20000 in
theorem tws_1 : Cond.selects RX7 yX7_rankTrees yX7_rankTrees ∈ gtbl := gt_sel 1 rfl rfl
set_option maxRecDepth 20000 in
theorem tws_2 : Cond.selects RX7 yX7_offerArcs yX7_offerArcs ∈ gtbl := gt_sel 2 rfl rfl
set_option maxRecDepth 20000 in
theorem tws_3 : Cond.selects RX7 yX7_arcScore yX7_arcScore ∈ gtbl := gt_sel 3 rfl rfl
set_option maxRecDepth 20000 in
theorem tws_4 : Cond.selects RX4 yX4_descend yX4_descend ∈ gtbl := gt_sel 4 rfl rfl
set_option maxRecDepth 20000 in
theorem tws_5 : Cond.selects RX4 yX4_keep yX4_keep ∈ gtbl := gt_sel 5 rfl rfl
set_option maxRecDepth 20000 in
theorem tws_6 : Cond.selects RX4 yX4_closesCycle yX4_closesCycle ∈ gtbl := gt_sel 6 rfl rfl
set_option maxRecDepth 20000 in
theorem tws_7 : Cond.selects RX4 yX4_crossesEarlier yX4_crossesEarlier ∈ gtbl := gt_sel 7 rfl rfl
set_option maxRecDepth 20000 in
theorem tws_8 : Cond.selects RX7 yX7_countAgreeing yX7_countAgreeing ∈ gtbl := gt_sel 8 rfl rfl
set_option maxRecDepth 20000 in
theorem tws_9 : Cond.selects RX7 yX7_annotationScore yX7_annotationScore ∈ gtbl := gt_sel 9 rfl rfl
set_option maxRecDepth 20000 in
theorem tws_10 : Cond.selects RX7 yX7_countTrees yX7_countTrees ∈ gtbl := gt_sel 10 rfl rfl
set_option maxRecDepth 20000 in
theorem tws_11 : Cond.selects RX7 yX7_setPotentials yX7_setPotentials ∈ gtbl := gt_sel 11 rfl rfl
set_option maxRecDepth 20000 in
theorem tws_12 : Cond.selects RX5 yX5_addBranches yX5_addBranches ∈ gtbl := gt_sel 12 rfl rfl
set_option maxRecDepth 20000 in
theorem tws_13 : Cond.selects RX5 yX5_mayBranch yX5_mayBranch ∈ gtbl := gt_sel 13 rfl rfl
set_option maxRecDepth 20000 in
theorem tws_14 : Cond.selects RX5 yX5_addForests yX5_addForests ∈ gtbl := gt_sel 14 rfl rfl
set_option maxRecDepth 20000 in
theorem tws_15 : Cond.selects RX7 yX7_sumWeights yX7_sumWeights ∈ gtbl := gt_sel 15 rfl rfl
set_option maxRecDepth 20000 in
theorem tws_16 : Cond.selects RX5 yX5_clearGains yX5_clearGains ∈ gtbl := gt_sel 16 rfl rfl
set_option maxRecDepth 20000 in
theorem tws_17 : Cond.selects RX5 yX5_spreadForest yX5_spreadForest ∈ gtbl := gt_sel 17 rfl rfl
set_option maxRecDepth 20000 in
theorem tws_18 : Cond.selects RX5 yX5_spreadBranch yX5_spreadBranch ∈ gtbl := gt_sel 18 rfl rfl
set_option maxRecDepth 20000 in
theorem tws_19 : Cond.selects RX3 yX3_visit yX3_visit ∈ gtbl := gt_sel 19 rfl rfl
set_option maxRecDepth 20000 in
theorem tws_20 : Cond.selects RX7 yX7_countTransitions yX7_countTransitions ∈ gtbl := gt_sel 20 rfl rfl
set_option maxRecDepth 20000 in
theorem tws_21 : Cond.selects RX3 yX3_choose yX3_choose ∈ gtbl := gt_sel 21 rfl rfl
set_option maxRecDepth 20000 in
theorem tws_22 : Cond.selects RX3 yX3_isComplete yX3_isComplete ∈ gtbl := gt_sel 22 rfl rfl
set_option maxRecDepth 20000 in
theorem tws_23 : Cond.selects RX3 yX3_apply yX3_apply ∈ gtbl := gt_sel 23 rfl rfl
set_option maxRecDepth 20000 in
theorem tws_24 : Cond.selects RX7 yX7_learn yX7_learn ∈ gtbl := gt_sel 24 rfl rfl
set_option maxRecDepth 20000 in
theorem tws_25 : Cond.selects RX7 yX7_mixSentence yX7_mixSentence ∈ gtbl := gt_sel 25 rfl rfl
set_option maxRecDepth 20000 in
theorem tws_26 : Cond.selects RX8 yX8_faultOf yX8_faultOf ∈ gtbl := gt_sel 26 rfl rfl
set_option maxRecDepth 20000 in
theorem tws_27 : Cond.selects RX8 yX8_isSentence yX8_isSentence ∈ gtbl := gt_sel 27 rfl rfl
set_option maxRecDepth 20000 in
theorem tws_28 : Cond.selects RX8 yX8_isWord yX8_isWord ∈ gtbl := gt_sel 28 rfl rfl
set_option maxRecDepth 20000 in
theorem tws_29 : Cond.selects RX8 yX8_isArc yX8_isArc ∈ gtbl := gt_sel 29 rfl rfl
set_option maxRecDepth 20000 in
theorem tws_30 : Cond.selects RX8 yX8_sets yX8_sets ∈ gtbl := gt_sel 30 rfl rfl
set_option maxRecDepth 20000 in
theorem tws_31 : Cond.selects RX8 yX8_scoreOf yX8_scoreOf ∈ gtbl := gt_sel 31 rfl rfl
set_option maxRecDepth 20000 in
theorem tws_32 : Cond.selects RX8 yX8_tagPlaceOf yX8_tagPlaceOf ∈ gtbl := gt_sel 32 rfl rfl
set_option maxRecDepth 20000 in
theorem tws_33 : Cond.selects RX8 yX8_tagOf yX8_tagOf ∈ gtbl := gt_sel 33 rfl rfl
set_option maxRecDepth 20000 in
theorem tws_34 : Cond.selects RX8 yX8_looks yX8_looks ∈ gtbl := gt_sel 34 rfl rfl
set_option maxRecDepth 20000 in
theorem tws_35 : Cond.selects RX8 yX8_prepares yX8_prepares ∈ gtbl := gt_sel 35 rfl rfl
set_option maxRecDepth 20000 in
theorem tws_36 : Cond.selects RX8 yX8_begins yX8_begins ∈ gtbl := gt_sel 36 rfl rfl
set_option maxRecDepth 20000 in
theorem tws_37 : Cond.selects RX8 yX8_isAdmissible yX8_isAdmissible ∈ gtbl := gt_sel 37 rfl rfl
set_option maxRecDepth 20000 in
theorem tws_38 : Cond.selects RX8 yX8_meets yX8_meets ∈ gtbl := gt_sel 38 rfl rfl
set_option maxRecDepth 20000 in
theorem tws_39 : Cond.selects RX8 yX8_sumOf yX8_sumOf ∈ gtbl := gt_sel 39 rfl rfl
set_option maxRecDepth 20000 in
theorem tws_40 : Cond.selects RX8 yX8_isAnnotation yX8_isAnnotation ∈ gtbl := gt_sel 40 rfl rfl
set_option maxRecDepth 20000 in
theorem tws_41 : Cond.selects RX8 yX8_ranks yX8_ranks ∈ gtbl := gt_sel 41 rfl rfl
set_option maxRecDepth 20000 in
theorem tws_42 : Cond.selects RX8 yX8_steps yX8_steps ∈ gtbl := gt_sel 42 rfl rfl
set_option maxRecDepth 20000 in
theorem tws_43 : Cond.selects RX8 yX8_right yX8_right ∈ gtbl := gt_sel 43 rfl rfl
set_option maxRecDepth 20000 in
theorem tws_44 : Cond.selects RX8 yX8_looksForRisk yX8_looksForRisk ∈ gtbl := gt_sel 44 rfl rfl
set_option maxRecDepth 20000 in
theorem tws_45 : Cond.selects RX8 yX8_risks yX8_risks ∈ gtbl := gt_sel 45 rfl rfl
set_option maxRecDepth 20000 in
theorem tws_46 : Cond.selects RX8 yX8_orders yX8_orders ∈ gtbl := gt_sel 46 rfl rfl
set_option maxRecDepth 20000 in
theorem tws_47 : Cond.selects RX8 yX8_placeOf yX8_placeOf ∈ gtbl := gt_sel 47 rfl rfl
set_option maxRecDepth 20000 in
theorem tws_48 : Cond.selects RX8 yX8_inserts yX8_inserts ∈ gtbl := gt_sel 48 rfl rfl
set_option maxRecDepth 20000 in
theorem tws_49 : Cond.selects RX8 yX8_moves yX8_moves ∈ gtbl := gt_sel 49 rfl rfl
set_option maxRecDepth 20000 in
theorem tws_50 : Cond.selects RX8 yX8_next yX8_next ∈ gtbl := gt_sel 50 rfl rfl
set_option maxRecDepth 20000 in
theorem tws_51 : Cond.selects RX8 yX8_isReady yX8_isReady ∈ gtbl := gt_sel 51 rfl rfl
set_option maxRecDepth 20000 in
theorem tws_52 : Cond.selects RX8 yX8_trains yX8_trains ∈ gtbl := gt_sel 52 rfl rfl
set_option maxRecDepth 20000 in
theorem tws_53 : Cond.selects RX8 yX8_changes yX8_changes ∈ gtbl := gt_sel 53 rfl rfl
set_option maxRecDepth 20000 in
theorem tws_54 : Cond.selects RX8 yX8_used yX8_used ∈ gtbl := gt_sel 54 rfl rfl
theorem LRX0_30 : LkV RX0 30 yX0_hasWord cX0_hasWord 2 (some .boolean) 1 := ⟨⟨tw_359, tw_344, tw_345, tw_346, tw_3⟩, ⟨by decide, by decide, by decide +kernel⟩, by decide⟩
theorem LRX0_34 : LkS RX0 34 yJ6_bitCount_0f7a4 cJ6_bitCount_0f7a4 1 (some .int) 1 := ⟨⟨tw_381, tw_382, tw_383, tw_10⟩, ⟨by decide, by decide, by decide +kernel⟩, by decide⟩
theorem LRX2_35 : LkS RX2 35 yX2_isDigit cX2_isDigit 1 (some .boolean) 1 := ⟨⟨tw_290, tw_291, tw_292, tw_2⟩, ⟨by decide, by decide, by decide +kernel⟩, by decide⟩
theorem LRX7_223 : LkS RX7 223 yX7_countStepsToRoot cX7_countStepsToRoot 5 (some .int) 3 := ⟨⟨tw_296, tw_297, tw_298, tw_1⟩, ⟨by decide, by decide, by decide +kernel⟩, by decide⟩
theorem LRX2_30 : LkS RX2 30 yX2_isTagLetter cX2_isTagLetter 1 (some .boolean) 1 := ⟨⟨tw_300, tw_301, tw_302, tw_2⟩, ⟨by decide, by decide, by decide +kernel⟩, by decide⟩
theorem LRX2_26 : LkN RX2 26 yX7_formTree RX7 cX7_formTree 3 (some .boolean) 2 := ⟨⟨tw_294, tw_295, tw_1⟩, ⟨by decide, by decide, by decide +kernel⟩, by decide⟩
theorem LRX2_22 : LkS RX2 22 yX2_isHeadOf cX2_isHeadOf 2 (some .boolean) 2 := ⟨⟨tw_287, tw_288, tw_289, tw_2⟩, ⟨by decide, by decide, by decide +kernel⟩, by decide⟩
theorem LRX3_60 : LkV RX3 60 yX3_visit cX3_visit 4 none 2 := ⟨⟨tw_654, tw_656, tws_19, tw_657, tw_8⟩, ⟨by decide, by decide, by decide +kernel⟩, by decide⟩
theorem LRX3_72 : LkV RX3 72 yX3_isComplete cX3_isComplete 3 (some .boolean) 1 := ⟨⟨tw_674, tw_676, tws_22, tw_677, tw_8⟩, ⟨by decide, by decide, by decide +kernel⟩, by decide⟩
theorem LRX3_64 : LkV RX3 64 yX3_choose cX3_choose 3 (some .int) 0 := ⟨⟨tw_670, tw_672, tws_21, tw_673, tw_8⟩, ⟨by decide, by decide, by decide +kernel⟩, by decide⟩
theorem LRX3_68 : LkV RX3 68 yX3_apply cX3_apply 4 none 1 := ⟨⟨tw_678, tw_680, tws_23, tw_681, tw_8⟩, ⟨by decide, by decide, by decide +kernel⟩, by decide⟩
theorem LRX4_87 : LkN RX4 87 yX7_cross RX7 cX7_cross 8 (some .boolean) 4 := ⟨⟨tw_442, tw_443, tw_1⟩, ⟨by decide, by decide, by decide +kernel⟩, by decide⟩
theorem LRX4_77 : LkV RX4 77 yX4_closesCycle cX4_closesCycle 5 (some .boolean) 2 := ⟨⟨tw_433, tw_435, tws_6, tw_436, tw_6⟩, ⟨by decide, by decide, by decide +kernel⟩, by decide⟩
theorem LRX4_63 : LkV RX4 63 yX4_descend cX4_descend 10 none 3 := ⟨⟨tw_425, tw_427, tws_4, tw_428, tw_6⟩, ⟨by decide, by decide, by decide +kernel⟩, by decide⟩
theorem LRX4_84 : LkV RX4 84 yX4_crossesEarlier cX4_crossesEarlier 4 (some .boolean) 2 := ⟨⟨tw_437, tw_439, tws_7, tw_440, tw_6⟩, ⟨by decide, by decide, by decide +kernel⟩, by decide⟩
theorem LRX4_67 : LkV RX4 67 yX4_keep cX4_keep 4 none 1 := ⟨⟨tw_429, tw_431, tws_5, tw_432, tw_6⟩, ⟨by decide, by decide, by decide +kernel⟩, by decide⟩
theorem LRX4_95 : LkS RX4 95 yJ9_floorMod_f86c9 cJ9_floorMod_f86c9 6 (some .long) 2 := ⟨⟨tw_452, tw_453, tw_454, tw_11⟩, ⟨by decide, by decide, by decide +kernel⟩, by decide⟩
theorem LRX4_91 : LkS RX4 91 yJ9_floorDiv_f86c9 cJ9_floorDiv_f86c9 6 (some .long) 2 := ⟨⟨tw_512, tw_513, tw_514, tw_11⟩, ⟨by decide, by decide, by decide +kernel⟩, by decide⟩
theorem LRX5_60 : LkS RX5 60 yX5_bit cX5_bit 1 (some .int) 1 := ⟨⟨tw_579, tw_580, tw_581, tw_7⟩, ⟨by decide, by decide, by decide +kernel⟩, by decide⟩
theorem LRX5_56 : LkV RX5 56 yX5_mayBranch cX5_mayBranch 2 (some .boolean) 1 := ⟨⟨tw_586, tw_588, tws_13, tw_589, tw_7⟩, ⟨by decide, by decide, by decide +kernel⟩, by decide⟩
theorem LRX5_39 : LkS RX5 39 yX5_hasNode cX5_hasNode 2 (some .boolean) 2 := ⟨⟨tw_576, tw_577, tw_578, tw_7⟩, ⟨by decide, by decide, by decide +kernel⟩, by decide⟩
theorem LRX5_43 : LkV RX5 43 yX5_addBranches cX5_addBranches 6 (some .long) 2 := ⟨⟨tw_582, tw_584, tws_12, tw_585, tw_7⟩, ⟨by decide, by decide, by decide +kernel⟩, by decide⟩
theorem LRX5_47 : LkV RX5 47 yX5_addForests cX5_addForests 7 (some .long) 2 := ⟨⟨tw_590, tw_592, tws_14, tw_593, tw_7⟩, ⟨by decide, by decide, by decide +kernel⟩, by decide⟩
theorem LRX5_64 : LkV RX5 64 yX5_clearGains cX5_clearGains 3 none 0 := ⟨⟨tw_612, tw_614, tws_16, tw_615, tw_7⟩, ⟨by decide, by decide, by decide +kernel⟩, by decide⟩
theorem LRX5_67 : LkV RX5 67 yX5_spreadForest cX5_spreadForest 7 none 2 := ⟨⟨tw_616, tw_618, tws_17, tw_619, tw_7⟩, ⟨by decide, by decide, by decide +kernel⟩, by decide⟩
theorem LRX5_71 : LkV RX5 71 yX5_spreadBranch cX5_spreadBranch 7 none 2 := ⟨⟨tw_620, tw_622, tws_18, tw_623, tw_7⟩, ⟨by decide, by decide, by decide +kernel⟩, by decide⟩
theorem LRX6_50 : LkN RX6 50 yX7_mix RX7 cX7_mix 4 (some .long) 2 := ⟨⟨tw_730, tw_731, tw_1⟩, ⟨by decide, by decide, by decide +kernel⟩, by decide⟩
theorem LRX6_35 : LkS RX6 35 yX6_clamp cX6_clamp 1 (some .int) 1 := ⟨⟨tw_698, tw_699, tw_700, tw_4⟩, ⟨by decide, by decide, by decide +kernel⟩, by decide⟩
theorem LRX6_25 : LkS RX6 25 yX6_direction cX6_direction 2 (some .int) 2 := ⟨⟨tw_402, tw_403, tw_404, tw_4⟩, ⟨by decide, by decide, by decide +kernel⟩, by decide⟩
theorem LRX7_263 : LkV RX7 263 yX6_ofArc cX6_ofArc 4 (some .int) 3 := ⟨⟨tw_398, tw_399, tw_400, tw_401, tw_4⟩, ⟨by decide, by decide, by decide +kernel⟩, by decide⟩
theorem LRX7_266 : LkV RX7 266 yX4_begin cX4_begin 3 none 1 := ⟨⟨tw_373, tw_374, tw_375, tw_376, tw_6⟩, ⟨by decide, by decide, by decide +kernel⟩, by decide⟩
theorem LRX7_269 : LkV RX7 269 yX0_headChoices cX0_headChoices 5 (some .int) 1 := ⟨⟨tw_377, tw_378, tw_379, tw_380, tw_3⟩, ⟨by decide, by decide, by decide +kernel⟩, by decide⟩
theorem LRX7_272 : LkS RX7 272 yX7_holds cX7_holds 2 (some .boolean) 2 := ⟨⟨tw_387, tw_388, tw_389, tw_1⟩, ⟨by decide, by decide, by decide +kernel⟩, by decide⟩
theorem LRX7_176 : LkV RX7 176 yX7_arcScore cX7_arcScore 4 (some .int) 3 := ⟨⟨tw_394, tw_396, tws_3, tw_397, tw_1⟩, ⟨by decide, by decide, by decide +kernel⟩, by decide⟩
theorem LRX7_275 : LkV RX7 275 yX4_offer cX4_offer 9 none 3 := ⟨⟨tw_408, tw_409, tw_410, tw_411, tw_6⟩, ⟨by decide, by decide, by decide +kernel⟩, by decide⟩
theorem LRX7_208 : LkV RX7 208 yX5_arcSum cX5_arcSum 3 (some .long) 2 := ⟨⟨tw_390, tw_391, tw_392, tw_393, tw_7⟩, ⟨by decide, by decide, by decide +kernel⟩, by decide⟩
theorem LRX7_216 : LkV RX7 216 yX7_offerArcs cX7_offerArcs 6 none 2 := ⟨⟨tw_369, tw_371, tws_2, tw_372, tw_1⟩, ⟨by decide, by decide, by decide +kernel⟩, by decide⟩
theorem LRX7_187 : LkV RX7 187 yX4_seek cX4_seek 3 none 1 := ⟨⟨tw_415, tw_416, tw_417, tw_418, tw_6⟩, ⟨by decide, by decide, by decide +kernel⟩, by decide⟩
theorem LRX7_140 : LkV RX7 140 yX4_headAt cX4_headAt 5 (some .int) 2 := ⟨⟨tw_448, tw_449, tw_450, tw_451, tw_6⟩, ⟨by decide, by decide, by decide +kernel⟩, by decide⟩
theorem LRX7_101 : LkV RX7 101 yX7_find cX7_find 2 (some (.object RX0)) 1 := ⟨⟨tw_322, tw_324, tws_0, tw_325, tw_1⟩, ⟨by decide, by decide, by decide +kernel⟩, by decide⟩
theorem LRX7_129 : LkV RX7 129 yX7_rankTrees cX7_rankTrees 3 none 2 := ⟨⟨tw_365, tw_367, tws_1, tw_368, tw_1⟩, ⟨by decide, by decide, by decide +kernel⟩, by decide⟩
theorem LRX7_136 : LkV RX7 136 yX7_countAgreeing cX7_countAgreeing 4 (some .int) 1 := ⟨⟨tw_444, tw_446, tws_8, tw_447, tw_1⟩, ⟨by decide, by decide, by decide +kernel⟩, by decide⟩
theorem LRX7_121 : LkV RX7 121 yX0_hasArc cX0_hasArc 3 (some .boolean) 2 := ⟨⟨tw_355, tw_356, tw_357, tw_358, tw_3⟩, ⟨by decide, by decide, by decide +kernel⟩, by decide⟩
theorem LRX7_125 : LkS RX7 125 yX7_formTree cX7_formTree 3 (some .boolean) 2 := ⟨⟨tw_360, tw_294, tw_295, tw_1⟩, ⟨by decide, by decide, by decide +kernel⟩, by decide⟩
theorem LRX7_112 : LkV RX7 112 yX0_hasWord cX0_hasWord 2 (some .boolean) 1 := ⟨⟨tw_343, tw_344, tw_345, tw_346, tw_3⟩, ⟨by decide, by decide, by decide +kernel⟩, by decide⟩
theorem LRX7_73 : LkV RX7 73 yX2_add cX2_add 2 (some .boolean) 1 := ⟨⟨tw_270, tw_271, tw_272, tw_273, tw_2⟩, ⟨by decide, by decide, by decide +kernel⟩, by decide⟩
theorem LRX7_180 : LkV RX7 180 yX4_scoreAt cX4_scoreAt 2 (some .int) 1 := ⟨⟨tw_508, tw_509, tw_510, tw_511, tw_6⟩, ⟨by decide, by decide, by decide +kernel⟩, by decide⟩
theorem LRX7_286 : LkV RX7 286 yX5_begin cX5_begin 2 none 1 := ⟨⟨tw_559, tw_560, tw_561, tw_562, tw_7⟩, ⟨by decide, by decide, by decide +kernel⟩, by decide⟩
theorem LRX7_290 : LkV RX7 290 yX5_setPotential cX5_setPotential 4 none 3 := ⟨⟨tw_568, tw_569, tw_570, tw_571, tw_7⟩, ⟨by decide, by decide, by decide +kernel⟩, by decide⟩
theorem LRX7_287 : LkS RX7 287 yX7_limitPotential cX7_limitPotential 1 (some .int) 1 := ⟨⟨tw_563, tw_564, tw_565, tw_1⟩, ⟨by decide, by decide, by decide +kernel⟩, by decide⟩
theorem LRX7_279 : LkV RX7 279 yX7_setPotentials cX7_setPotentials 7 none 2 := ⟨⟨tw_555, tw_557, tws_11, tw_558, tw_1⟩, ⟨by decide, by decide, by decide +kernel⟩, by decide⟩
theorem LRX7_282 : LkV RX7 282 yX5_addUp cX5_addUp 4 (some .long) 0 := ⟨⟨tw_572, tw_573, tw_574, tw_575, tw_7⟩, ⟨by decide, by decide, by decide +kernel⟩, by decide⟩
theorem LRX7_199 : LkV RX7 199 yX7_sumWeights cX7_sumWeights 2 (some .long) 1 := ⟨⟨tw_599, tw_601, tws_15, tw_602, tw_1⟩, ⟨by decide, by decide, by decide +kernel⟩, by decide⟩
theorem LRX7_205 : LkV RX7 205 yX5_spread cX5_spread 4 none 0 := ⟨⟨tw_608, tw_609, tw_610, tw_611, tw_7⟩, ⟨by decide, by decide, by decide +kernel⟩, by decide⟩
theorem LRX7_212 : LkS RX7 212 yX7_greatestCommonDivisor cX7_greatestCommonDivisor 11 (some .long) 2 := ⟨⟨tw_624, tw_625, tw_626, tw_1⟩, ⟨by decide, by decide, by decide +kernel⟩, by decide⟩
theorem LRX7_302 : LkS RX7 302 yX7_cross cX7_cross 8 (some .boolean) 4 := ⟨⟨tw_638, tw_442, tw_443, tw_1⟩, ⟨by decide, by decide, by decide +kernel⟩, by decide⟩
theorem LRX7_227 : LkV RX7 227 yX3_arrange cX3_arrange 2 none 1 := ⟨⟨tw_647, tw_648, tw_649, tw_650, tw_8⟩, ⟨by decide, by decide, by decide +kernel⟩, by decide⟩
theorem LRX7_306 : LkV RX7 306 yX3_perform cX3_perform 3 none 0 := ⟨⟨tw_666, tw_667, tw_668, tw_669, tw_8⟩, ⟨by decide, by decide, by decide +kernel⟩, by decide⟩
theorem LRX7_252 : LkS RX7 252 yX7_mix cX7_mix 4 (some .long) 2 := ⟨⟨tw_729, tw_730, tw_731, tw_1⟩, ⟨by decide, by decide, by decide +kernel⟩, by decide⟩
theorem LRX7_194 : LkV RX7 194 yX7_countTrees cX7_countTrees 2 (some .int) 1 := ⟨⟨tw_551, tw_553, tws_10, tw_554, tw_1⟩, ⟨by decide, by decide, by decide +kernel⟩, by decide⟩
theorem LRX7_220 : LkS RX7 220 yX7_countCrossings cX7_countCrossings 4 (some .int) 1 := ⟨⟨tw_635, tw_636, tw_637, tw_1⟩, ⟨by decide, by decide, by decide +kernel⟩, by decide⟩
theorem LRX7_234 : LkV RX7 234 yX7_countTransitions cX7_countTransitions 2 (some .int) 1 := ⟨⟨tw_662, tw_664, tws_20, tw_665, tw_1⟩, ⟨by decide, by decide, by decide +kernel⟩, by decide⟩
theorem LRX7_259 : LkV RX7 259 yX6_mixInto cX6_mixInto 7 (some .long) 1 := ⟨⟨tw_737, tw_738, tw_739, tw_740, tw_4⟩, ⟨by decide, by decide, by decide +kernel⟩, by decide⟩
theorem LRX7_255 : LkV RX7 255 yX7_mixSentence cX7_mixSentence 8 (some .long) 2 := ⟨⟨tw_733, tw_735, tws_25, tw_736, tw_1⟩, ⟨by decide, by decide, by decide +kernel⟩, by decide⟩
theorem LRX7_154 : LkS RX7 154 yX7_isDistance cX7_isDistance 2 (some .boolean) 2 := ⟨⟨tw_469, tw_470, tw_471, tw_1⟩, ⟨by decide, by decide, by decide +kernel⟩, by decide⟩
theorem LRX7_81 : LkV RX7 81 yX2_findFault cX2_findFault 5 (some .int) 0 := ⟨⟨tw_283, tw_284, tw_285, tw_286, tw_2⟩, ⟨by decide, by decide, by decide +kernel⟩, by decide⟩
theorem LRX7_310 : LkV RX7 310 yX6_nudge cX6_nudge 9 none 4 := ⟨⟨tw_694, tw_695, tw_696, tw_697, tw_4⟩, ⟨by decide, by decide, by decide +kernel⟩, by decide⟩
theorem LRX7_191 : LkV RX7 191 yX7_annotationScore cX7_annotationScore 4 (some .int) 1 := ⟨⟨tw_539, tw_541, tws_9, tw_542, tw_1⟩, ⟨by decide, by decide, by decide +kernel⟩, by decide⟩
theorem LRX7_87 : LkV RX7 87 yX2_countSentences cX2_countSentences 3 (some .int) 0 := ⟨⟨tw_309, tw_310, tw_311, tw_312, tw_2⟩, ⟨by decide, by decide, by decide +kernel⟩, by decide⟩
theorem LRX7_94 : LkS RX7 94 yX2_isDigit cX2_isDigit 1 (some .boolean) 1 := ⟨⟨tw_313, tw_291, tw_292, tw_2⟩, ⟨by decide, by decide, by decide +kernel⟩, by decide⟩
theorem LRX7_97 : LkV RX7 97 yX0_addWord cX0_addWord 3 none 2 := ⟨⟨tw_314, tw_315, tw_316, tw_317, tw_3⟩, ⟨by decide, by decide, by decide +kernel⟩, by decide⟩
theorem LRX7_184 : LkV RX7 184 yX4_keepOnly cX4_keepOnly 5 none 2 := ⟨⟨tw_531, tw_532, tw_533, tw_534, tw_6⟩, ⟨by decide, by decide, by decide +kernel⟩, by decide⟩
theorem LRX7_106 : LkV RX7 106 yX0_blank cX0_blank 3 none 0 := ⟨⟨tw_327, tw_328, tw_329, tw_330, tw_3⟩, ⟨by decide, by decide, by decide +kernel⟩, by decide⟩
theorem LRX7_243 : LkV RX7 243 yX6_copyFrom cX6_copyFrom 3 none 1 := ⟨⟨tw_711, tw_712, tw_713, tw_714, tw_4⟩, ⟨by decide, by decide, by decide +kernel⟩, by decide⟩
theorem LRX7_247 : LkV RX7 247 yX6_countNonZero cX6_countNonZero 4 (some .int) 0 := ⟨⟨tw_716, tw_717, tw_718, tw_719, tw_4⟩, ⟨by decide, by decide, by decide +kernel⟩, by decide⟩
theorem LRX7_147 : LkS RX7 147 yX7_isWithin cX7_isWithin 2 (some .boolean) 2 := ⟨⟨tw_462, tw_463, tw_464, tw_1⟩, ⟨by decide, by decide, by decide +kernel⟩, by decide⟩
theorem LRX7_144 : LkS RX7 144 yX7_isTagPair cX7_isTagPair 2 (some .boolean) 2 := ⟨⟨tw_459, tw_460, tw_461, tw_1⟩, ⟨by decide, by decide, by decide +kernel⟩, by decide⟩
theorem LRX7_240 : LkV RX7 240 yX7_learn cX7_learn 5 (some .int) 1 := ⟨⟨tw_690, tw_692, tws_24, tw_693, tw_1⟩, ⟨by decide, by decide, by decide +kernel⟩, by decide⟩
theorem LRX8_94 : LkS RX8 94 yX8_in cX8_in 3 (some .boolean) 3 := ⟨⟨tw_873, tw_874, tw_875, tw_9⟩, ⟨by decide, by decide, by decide +kernel⟩, by decide⟩
theorem LRX8_124 : LkS RX8 124 yX8_word cX8_word 2 (some .int) 2 := ⟨⟨tw_899, tw_900, tw_901, tw_9⟩, ⟨by decide, by decide, by decide +kernel⟩, by decide⟩
theorem LRX8_158 : LkV RX8 158 yX8_tagOf cX8_tagOf 3 (some .int) 2 := ⟨⟨tw_1006, tw_1008, tws_33, tw_1009, tw_9⟩, ⟨by decide, by decide, by decide +kernel⟩, by decide⟩
theorem LRX8_135 : LkS RX8 135 yX8_tagPlace cX8_tagPlace 2 (some .int) 2 := ⟨⟨tw_946, tw_947, tw_948, tw_9⟩, ⟨by decide, by decide, by decide +kernel⟩, by decide⟩
theorem LRX8_144 : LkS RX8 144 yX8_distancePlace cX8_distancePlace 2 (some .int) 2 := ⟨⟨tw_960, tw_961, tw_962, tw_9⟩, ⟨by decide, by decide, by decide +kernel⟩, by decide⟩
theorem LRX8_161 : LkV RX8 161 yX8_tagPlaceOf cX8_tagPlaceOf 4 (some .int) 3 := ⟨⟨tw_1002, tw_1004, tws_32, tw_1005, tw_9⟩, ⟨by decide, by decide, by decide +kernel⟩, by decide⟩
theorem LRX8_164 : LkS RX8 164 yX8_distancePlaceOf cX8_distancePlaceOf 2 (some .int) 2 := ⟨⟨tw_1010, tw_1011, tw_1012, tw_9⟩, ⟨by decide, by decide, by decide +kernel⟩, by decide⟩
theorem LRX8_147 : LkS RX8 147 yX8_arc cX8_arc 3 (some .int) 3 := ⟨⟨tw_975, tw_976, tw_977, tw_9⟩, ⟨by decide, by decide, by decide +kernel⟩, by decide⟩
theorem LRX8_167 : LkV RX8 167 yX8_scoreOf cX8_scoreOf 4 (some .int) 3 := ⟨⟨tw_998, tw_1000, tws_31, tw_1001, tw_9⟩, ⟨by decide, by decide, by decide +kernel⟩, by decide⟩
theorem LRX8_189 : LkS RX8 189 yX8_crosses cX8_crosses 8 (some .boolean) 4 := ⟨⟨tw_1038, tw_1039, tw_1040, tw_9⟩, ⟨by decide, by decide, by decide +kernel⟩, by decide⟩
theorem LRX8_114 : LkS RX8 114 yX8_isTree cX8_isTree 7 (some .boolean) 3 := ⟨⟨tw_890, tw_891, tw_892, tw_9⟩, ⟨by decide, by decide, by decide +kernel⟩, by decide⟩
theorem LRX8_193 : LkS RX8 193 yX8_crossed cX8_crossed 6 (some .int) 3 := ⟨⟨tw_1035, tw_1036, tw_1037, tw_9⟩, ⟨by decide, by decide, by decide +kernel⟩, by decide⟩
theorem LRX8_197 : LkV RX8 197 yX8_sumOf cX8_sumOf 4 (some .int) 1 := ⟨⟨tw_1045, tw_1047, tws_39, tw_1048, tw_9⟩, ⟨by decide, by decide, by decide +kernel⟩, by decide⟩
theorem LRX8_204 : LkV RX8 204 yX8_ranks cX8_ranks 5 none 2 := ⟨⟨tw_1053, tw_1055, tws_41, tw_1056, tw_9⟩, ⟨by decide, by decide, by decide +kernel⟩, by decide⟩
theorem LRX8_201 : LkV RX8 201 yX8_isAnnotation cX8_isAnnotation 4 (some .boolean) 1 := ⟨⟨tw_1049, tw_1051, tws_40, tw_1052, tw_9⟩, ⟨by decide, by decide, by decide +kernel⟩, by decide⟩
theorem LRX8_208 : LkV RX8 208 yX8_prepares cX8_prepares 7 none 1 := ⟨⟨tw_1021, tw_1023, tws_35, tw_1024, tw_9⟩, ⟨by decide, by decide, by decide +kernel⟩, by decide⟩
theorem LRX8_212 : LkV RX8 212 yX8_begins cX8_begins 2 none 0 := ⟨⟨tw_1027, tw_1029, tws_36, tw_1030, tw_9⟩, ⟨by decide, by decide, by decide +kernel⟩, by decide⟩
theorem LRX8_214 : LkV RX8 214 yX8_isAdmissible cX8_isAdmissible 6 (some .boolean) 1 := ⟨⟨tw_1031, tw_1033, tws_37, tw_1034, tw_9⟩, ⟨by decide, by decide, by decide +kernel⟩, by decide⟩
theorem LRX8_220 : LkV RX8 220 yX8_steps cX8_steps 3 (some .boolean) 1 := ⟨⟨tw_1057, tw_1059, tws_42, tw_1060, tw_9⟩, ⟨by decide, by decide, by decide +kernel⟩, by decide⟩
theorem LRX8_217 : LkV RX8 217 yX8_meets cX8_meets 8 none 1 := ⟨⟨tw_1041, tw_1043, tws_38, tw_1044, tw_9⟩, ⟨by decide, by decide, by decide +kernel⟩, by decide⟩
theorem LRX8_98 : LkV RX8 98 yX8_isSentence cX8_isSentence 2 (some .boolean) 1 := ⟨⟨tw_906, tw_908, tws_27, tw_909, tw_9⟩, ⟨by decide, by decide, by decide +kernel⟩, by decide⟩
theorem LRX8_226 : LkV RX8 226 yX8_looks cX8_looks 3 none 1 := ⟨⟨tw_1017, tw_1019, tws_34, tw_1020, tw_9⟩, ⟨by decide, by decide, by decide +kernel⟩, by decide⟩
theorem LRX8_229 : LkV RX8 229 yX8_right cX8_right 4 (some .int) 1 := ⟨⟨tw_1085, tw_1087, tws_43, tw_1088, tw_9⟩, ⟨by decide, by decide, by decide +kernel⟩, by decide⟩
theorem LRX8_102 : LkV RX8 102 yX8_isWord cX8_isWord 3 (some .boolean) 2 := ⟨⟨tw_923, tw_925, tws_28, tw_926, tw_9⟩, ⟨by decide, by decide, by decide +kernel⟩, by decide⟩
theorem LRX8_129 : LkV RX8 129 yX8_isArc cX8_isArc 4 (some .boolean) 3 := ⟨⟨tw_935, tw_937, tws_29, tw_938, tw_9⟩, ⟨by decide, by decide, by decide +kernel⟩, by decide⟩
theorem LRX8_239 : LkV RX8 239 yX8_placeOf cX8_placeOf 4 (some .int) 2 := ⟨⟨tw_1135, tw_1137, tws_47, tw_1138, tw_9⟩, ⟨by decide, by decide, by decide +kernel⟩, by decide⟩
theorem LRX8_242 : LkV RX8 242 yX8_inserts cX8_inserts 5 none 3 := ⟨⟨tw_1139, tw_1141, tws_48, tw_1142, tw_9⟩, ⟨by decide, by decide, by decide +kernel⟩, by decide⟩
theorem LRX8_255 : LkV RX8 255 yX8_isReady cX8_isReady 5 (some .boolean) 2 := ⟨⟨tw_1155, tw_1157, tws_51, tw_1158, tw_9⟩, ⟨by decide, by decide, by decide +kernel⟩, by decide⟩
theorem LRX8_246 : LkV RX8 246 yX8_orders cX8_orders 8 none 1 := ⟨⟨tw_1131, tw_1133, tws_46, tw_1134, tw_9⟩, ⟨by decide, by decide, by decide +kernel⟩, by decide⟩
theorem LRX8_264 : LkV RX8 264 yX8_next cX8_next 4 (some .int) 1 := ⟨⟨tw_1151, tw_1153, tws_50, tw_1154, tw_9⟩, ⟨by decide, by decide, by decide +kernel⟩, by decide⟩
theorem LRX8_267 : LkV RX8 267 yX8_moves cX8_moves 5 none 1 := ⟨⟨tw_1147, tw_1149, tws_49, tw_1150, tw_9⟩, ⟨by decide, by decide, by decide +kernel⟩, by decide⟩
theorem LRX8_141 : LkS RX8 141 yX8_isDistance cX8_isDistance 2 (some .boolean) 2 := ⟨⟨tw_957, tw_958, tw_959, tw_9⟩, ⟨by decide, by decide, by decide +kernel⟩, by decide⟩
theorem LRX8_119 : LkV RX8 119 yX8_faultOf cX8_faultOf 3 (some .int) 0 := ⟨⟨tw_886, tw_888, tws_26, tw_889, tw_9⟩, ⟨by decide, by decide, by decide +kernel⟩, by decide⟩
theorem LRX8_223 : LkV RX8 223 yX8_risks cX8_risks 5 none 1 := ⟨⟨tw_1115, tw_1117, tws_45, tw_1118, tw_9⟩, ⟨by decide, by decide, by decide +kernel⟩, by decide⟩
theorem LRX8_275 : LkV RX8 275 yX8_used cX8_used 3 (some .int) 0 := ⟨⟨tw_1183, tw_1185, tws_54, tw_1186, tw_9⟩, ⟨by decide, by decide, by decide +kernel⟩, by decide⟩
theorem LRX8_236 : LkV RX8 236 yX8_looksForRisk cX8_looksForRisk 3 none 1 := ⟨⟨tw_1111, tw_1113, tws_44, tw_1114, tw_9⟩, ⟨by decide, by decide, by decide +kernel⟩, by decide⟩
theorem LRX8_138 : LkV RX8 138 yX8_sets cX8_sets 4 (some .int) 2 := ⟨⟨tw_949, tw_951, tws_30, tw_952, tw_9⟩, ⟨by decide, by decide, by decide +kernel⟩, by decide⟩
theorem LRX8_132 : LkS RX8 132 yX8_areTags cX8_areTags 2 (some .boolean) 2 := ⟨⟨tw_943, tw_944, tw_945, tw_9⟩, ⟨by decide, by decide, by decide +kernel⟩, by decide⟩
theorem LRX8_269 : LkV RX8 269 yX8_changes cX8_changes 4 none 2 := ⟨⟨tw_1171, tw_1173, tws_53, tw_1174, tw_9⟩, ⟨by decide, by decide, by decide +kernel⟩, by decide⟩
theorem LRX8_272 : LkV RX8 272 yX8_trains cX8_trains 6 (some .int) 1 := ⟨⟨tw_1167, tw_1169, tws_52, tw_1170, tw_9⟩, ⟨by decide, by decide, by decide +kernel⟩, by decide⟩
