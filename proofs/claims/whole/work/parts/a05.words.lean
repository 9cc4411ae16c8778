/-! ===== the words ===== -/
theorem tw_1 : Jvm.Cond.initialized "BranchSums" ∈ am_tbl := am_mem (i := 1) (by decide +kernel) rfl
theorem tw_2 : Jvm.Cond.initialized "BranchSums$Org" ∈ am_tbl := am_mem (i := 2) (by decide +kernel) rfl
theorem tw_3 : Jvm.Cond.initialized "java/util/Arrays" ∈ am_tbl := am_mem (i := 3) (by decide +kernel) rfl
theorem tw_4 : Jvm.Cond.initialized "BranchSums$Past" ∈ am_tbl := am_mem (i := 4) (by decide +kernel) rfl
theorem tw_5 : Jvm.Cond.initialized "BranchSums$Book" ∈ am_tbl := am_mem (i := 5) (by decide +kernel) rfl
theorem tw_6 : Jvm.Cond.initialized "BranchSums$Roller" ∈ am_tbl := am_mem (i := 6) (by decide +kernel) rfl
theorem tw_7 : Jvm.Cond.initialized "BranchSums$Tape" ∈ am_tbl := am_mem (i := 7) (by decide +kernel) rfl
theorem tw_8 : Jvm.Cond.initialized "BranchSums$Report" ∈ am_tbl := am_mem (i := 8) (by decide +kernel) rfl
theorem tw_9 : Jvm.Cond.initialized "BranchSumsModel" ∈ am_tbl := am_mem (i := 9) (by decide +kernel) rfl
theorem tw_10 : Jvm.Cond.initialized "java/lang/System" ∈ am_tbl := am_mem (i := 10) (by decide +kernel) rfl
theorem tw_12 : Jvm.Cond.initialized "BranchSums$Rows" ∈ am_tbl := am_mem (i := 12) (by decide +kernel) rfl
theorem tw_13 : Jvm.Cond.initialized "BranchSums$Spans" ∈ am_tbl := am_mem (i := 13) (by decide +kernel) rfl
theorem tw_14 : Jvm.Cond.initialized "java/lang/Long" ∈ am_tbl := am_mem (i := 14) (by decide +kernel) rfl
theorem tw_15 : Jvm.Cond.initialized "java/lang/Integer" ∈ am_tbl := am_mem (i := 15) (by decide +kernel) rfl
theorem tw_32 : Jvm.Cond.methodLink "BranchSums$Org" (33 : Nat) yJ7_fill_53178 ∈ am_tbl := am_mem (i := 32) (by decide +kernel) rfl
theorem tw_33 : Jvm.Cond.static yJ7_fill_53178 ∈ am_tbl := am_mem (i := 33) (by decide +kernel) rfl
theorem tw_34 : Jvm.Cond.code yJ7_fill_53178 prog_16_method_103_code (4 : Nat) (Option.none : Option Jvm.ClassFile.FieldType) ∈ am_tbl := am_mem (i := 34) (by decide +kernel) rfl
theorem tw_35 : Jvm.Cond.fieldLink "BranchSums$Org" (9 : Nat) "BranchSums$Org" "upper" "[I" ∈ am_tbl := am_mem (i := 35) (by decide +kernel) rfl
theorem tw_36 : Jvm.Cond.fieldLink "BranchSums$Roller" (39 : Nat) "BranchSums$Org" "upper" "[I" ∈ am_tbl := am_mem (i := 36) (by decide +kernel) rfl
theorem tw_37 : Jvm.Cond.fieldLink "BranchSums" (412 : Nat) "BranchSums$Org" "upper" "[I" ∈ am_tbl := am_mem (i := 37) (by decide +kernel) rfl
theorem tw_38 : Jvm.Cond.fieldLink "BranchSums$Org" (15 : Nat) "BranchSums$Org" "stale" "[Z" ∈ am_tbl := am_mem (i := 38) (by decide +kernel) rfl
theorem tw_39 : Jvm.Cond.fieldLink "BranchSums$Roller" (35 : Nat) "BranchSums$Org" "stale" "[Z" ∈ am_tbl := am_mem (i := 39) (by decide +kernel) rfl
theorem tw_40 : Jvm.Cond.fieldLink "BranchSums$Tape" (50 : Nat) "BranchSums$Org" "stale" "[Z" ∈ am_tbl := am_mem (i := 40) (by decide +kernel) rfl
theorem tw_41 : Jvm.Cond.fieldLink "BranchSums" (159 : Nat) "BranchSums$Org" "stale" "[Z" ∈ am_tbl := am_mem (i := 41) (by decide +kernel) rfl
theorem tw_42 : Jvm.Cond.fieldLink "BranchSums$Org" (21 : Nat) "BranchSums$Org" "own" "[[I" ∈ am_tbl := am_mem (i := 42) (by decide +kernel) rfl
theorem tw_43 : Jvm.Cond.fieldLink "BranchSums" (80 : Nat) "BranchSums$Org" "own" "[[I" ∈ am_tbl := am_mem (i := 43) (by decide +kernel) rfl
theorem tw_44 : Jvm.Cond.fieldLink "BranchSums$Roller" (53 : Nat) "BranchSums$Org" "own" "[[I" ∈ am_tbl := am_mem (i := 44) (by decide +kernel) rfl
theorem tw_45 : Jvm.Cond.fieldLink "BranchSums$Tape" (102 : Nat) "BranchSums$Org" "own" "[[I" ∈ am_tbl := am_mem (i := 45) (by decide +kernel) rfl
theorem tw_46 : Jvm.Cond.fieldLink "BranchSums$Org" (24 : Nat) "BranchSums$Org" "sums" "[[I" ∈ am_tbl := am_mem (i := 46) (by decide +kernel) rfl
theorem tw_47 : Jvm.Cond.fieldLink "BranchSums$Roller" (57 : Nat) "BranchSums$Org" "sums" "[[I" ∈ am_tbl := am_mem (i := 47) (by decide +kernel) rfl
theorem tw_48 : Jvm.Cond.fieldLink "BranchSums" (214 : Nat) "BranchSums$Org" "sums" "[[I" ∈ am_tbl := am_mem (i := 48) (by decide +kernel) rfl
theorem tw_49 : Jvm.Cond.fieldLink "BranchSums$Org" (27 : Nat) "BranchSums$Org" "oldCount" "[I" ∈ am_tbl := am_mem (i := 49) (by decide +kernel) rfl
theorem tw_50 : Jvm.Cond.fieldLink "BranchSums" (348 : Nat) "BranchSums$Org" "oldCount" "[I" ∈ am_tbl := am_mem (i := 50) (by decide +kernel) rfl
theorem tw_51 : Jvm.Cond.fieldLink "BranchSums$Org" (30 : Nat) "BranchSums$Org" "olds" "[[I" ∈ am_tbl := am_mem (i := 51) (by decide +kernel) rfl
theorem tw_52 : Jvm.Cond.fieldLink "BranchSums" (354 : Nat) "BranchSums$Org" "olds" "[[I" ∈ am_tbl := am_mem (i := 52) (by decide +kernel) rfl
theorem tw_77 : Jvm.Cond.fieldLink "BranchSums$Past" (11 : Nat) "BranchSums$Past" "kept" "[LBranchSums$Org;" ∈ am_tbl := am_mem (i := 77) (by decide +kernel) rfl
theorem tw_78 : Jvm.Cond.fieldLink "BranchSums$Past" (17 : Nat) "BranchSums$Past" "next" "I" ∈ am_tbl := am_mem (i := 78) (by decide +kernel) rfl
theorem tw_79 : Jvm.Cond.fieldLink "BranchSums$Past" (21 : Nat) "BranchSums$Past" "size" "I" ∈ am_tbl := am_mem (i := 79) (by decide +kernel) rfl
theorem tw_80 : Jvm.Cond.fieldLink "BranchSums" (189 : Nat) "BranchSums$Past" "size" "I" ∈ am_tbl := am_mem (i := 80) (by decide +kernel) rfl
theorem tw_94 : Jvm.Cond.fieldLink "BranchSums$Book" (9 : Nat) "BranchSums$Book" "counts" "[I" ∈ am_tbl := am_mem (i := 94) (by decide +kernel) rfl
theorem tw_95 : Jvm.Cond.fieldLink "BranchSums" (384 : Nat) "BranchSums$Book" "counts" "[I" ∈ am_tbl := am_mem (i := 95) (by decide +kernel) rfl
theorem tw_96 : Jvm.Cond.fieldLink "BranchSums$Book" (15 : Nat) "BranchSums$Book" "limitUnit" "[I" ∈ am_tbl := am_mem (i := 96) (by decide +kernel) rfl
theorem tw_97 : Jvm.Cond.fieldLink "BranchSums" (211 : Nat) "BranchSums$Book" "limitUnit" "[I" ∈ am_tbl := am_mem (i := 97) (by decide +kernel) rfl
theorem tw_98 : Jvm.Cond.fieldLink "BranchSums$Book" (18 : Nat) "BranchSums$Book" "limitLow" "[I" ∈ am_tbl := am_mem (i := 98) (by decide +kernel) rfl
theorem tw_99 : Jvm.Cond.fieldLink "BranchSums" (217 : Nat) "BranchSums$Book" "limitLow" "[I" ∈ am_tbl := am_mem (i := 99) (by decide +kernel) rfl
theorem tw_100 : Jvm.Cond.fieldLink "BranchSums$Book" (21 : Nat) "BranchSums$Book" "limitHigh" "[I" ∈ am_tbl := am_mem (i := 100) (by decide +kernel) rfl
theorem tw_101 : Jvm.Cond.fieldLink "BranchSums" (220 : Nat) "BranchSums$Book" "limitHigh" "[I" ∈ am_tbl := am_mem (i := 101) (by decide +kernel) rfl
theorem tw_102 : Jvm.Cond.fieldLink "BranchSums$Book" (24 : Nat) "BranchSums$Book" "limitMost" "[I" ∈ am_tbl := am_mem (i := 102) (by decide +kernel) rfl
theorem tw_103 : Jvm.Cond.fieldLink "BranchSums" (227 : Nat) "BranchSums$Book" "limitMost" "[I" ∈ am_tbl := am_mem (i := 103) (by decide +kernel) rfl
theorem tw_104 : Jvm.Cond.fieldLink "BranchSums$Book" (27 : Nat) "BranchSums$Book" "limits" "I" ∈ am_tbl := am_mem (i := 104) (by decide +kernel) rfl
theorem tw_105 : Jvm.Cond.fieldLink "BranchSums" (201 : Nat) "BranchSums$Book" "limits" "I" ∈ am_tbl := am_mem (i := 105) (by decide +kernel) rfl
theorem tw_106 : Jvm.Cond.fieldLink "BranchSums$Book" (31 : Nat) "BranchSums$Book" "drawState" "I" ∈ am_tbl := am_mem (i := 106) (by decide +kernel) rfl
theorem tw_107 : Jvm.Cond.fieldLink "BranchSums" (230 : Nat) "BranchSums$Book" "drawState" "I" ∈ am_tbl := am_mem (i := 107) (by decide +kernel) rfl
theorem tw_129 : Jvm.Cond.fieldLink "BranchSums$Roller" (9 : Nat) "BranchSums$Roller" "row" "[I" ∈ am_tbl := am_mem (i := 129) (by decide +kernel) rfl
theorem tw_130 : Jvm.Cond.fieldLink "BranchSums$Roller" (15 : Nat) "BranchSums$Roller" "cost" "I" ∈ am_tbl := am_mem (i := 130) (by decide +kernel) rfl
theorem tw_131 : Jvm.Cond.fieldLink "BranchSums$Roller" (19 : Nat) "BranchSums$Roller" "merges" "I" ∈ am_tbl := am_mem (i := 131) (by decide +kernel) rfl
theorem tw_132 : Jvm.Cond.fieldLink "BranchSums" (167 : Nat) "BranchSums$Roller" "merges" "I" ∈ am_tbl := am_mem (i := 132) (by decide +kernel) rfl
theorem tw_133 : Jvm.Cond.fieldLink "BranchSums$Roller" (22 : Nat) "BranchSums$Roller" "rolled" "I" ∈ am_tbl := am_mem (i := 133) (by decide +kernel) rfl
theorem tw_134 : Jvm.Cond.fieldLink "BranchSums" (171 : Nat) "BranchSums$Roller" "rolled" "I" ∈ am_tbl := am_mem (i := 134) (by decide +kernel) rfl
theorem tw_150 : Jvm.Cond.fieldLink "BranchSums$Tape" (9 : Nat) "BranchSums$Tape" "bytes" "[I" ∈ am_tbl := am_mem (i := 150) (by decide +kernel) rfl
theorem tw_151 : Jvm.Cond.fieldLink "BranchSums$Tape" (15 : Nat) "BranchSums$Tape" "length" "I" ∈ am_tbl := am_mem (i := 151) (by decide +kernel) rfl
theorem tw_152 : Jvm.Cond.fieldLink "BranchSums" (239 : Nat) "BranchSums$Tape" "length" "I" ∈ am_tbl := am_mem (i := 152) (by decide +kernel) rfl
theorem tw_153 : Jvm.Cond.fieldLink "BranchSums$Tape" (19 : Nat) "BranchSums$Tape" "fault" "I" ∈ am_tbl := am_mem (i := 153) (by decide +kernel) rfl
theorem tw_154 : Jvm.Cond.fieldLink "BranchSums" (245 : Nat) "BranchSums$Tape" "fault" "I" ∈ am_tbl := am_mem (i := 154) (by decide +kernel) rfl
theorem tw_155 : Jvm.Cond.fieldLink "BranchSums$Tape" (22 : Nat) "BranchSums$Tape" "place" "I" ∈ am_tbl := am_mem (i := 155) (by decide +kernel) rfl
theorem tw_156 : Jvm.Cond.fieldLink "BranchSums" (248 : Nat) "BranchSums$Tape" "place" "I" ∈ am_tbl := am_mem (i := 156) (by decide +kernel) rfl
theorem tw_157 : Jvm.Cond.fieldLink "BranchSums$Tape" (25 : Nat) "BranchSums$Tape" "at" "I" ∈ am_tbl := am_mem (i := 157) (by decide +kernel) rfl
theorem tw_158 : Jvm.Cond.fieldLink "BranchSums$Tape" (28 : Nat) "BranchSums$Tape" "value" "I" ∈ am_tbl := am_mem (i := 158) (by decide +kernel) rfl
theorem tw_159 : Jvm.Cond.fieldLink "BranchSums$Tape" (31 : Nat) "BranchSums$Tape" "begin" "I" ∈ am_tbl := am_mem (i := 159) (by decide +kernel) rfl
theorem tw_181 : Jvm.Cond.fieldLink "BranchSums$Report" (11 : Nat) "BranchSums$Report" "signs" "[I" ∈ am_tbl := am_mem (i := 181) (by decide +kernel) rfl
theorem tw_182 : Jvm.Cond.fieldLink "BranchSums$Report" (15 : Nat) "BranchSums$Report" "length" "I" ∈ am_tbl := am_mem (i := 182) (by decide +kernel) rfl
theorem tw_183 : Jvm.Cond.fieldLink "BranchSums" (335 : Nat) "BranchSums$Report" "length" "I" ∈ am_tbl := am_mem (i := 183) (by decide +kernel) rfl
theorem tw_190 : Jvm.Cond.fieldLink "BranchSums" (12 : Nat) "BranchSums" "now" "LBranchSums$Org;" ∈ am_tbl := am_mem (i := 190) (by decide +kernel) rfl
theorem tw_191 : Jvm.Cond.fieldLink "BranchSums" (16 : Nat) "BranchSums" "thought" "LBranchSums$Org;" ∈ am_tbl := am_mem (i := 191) (by decide +kernel) rfl
theorem tw_192 : Jvm.Cond.fieldLink "BranchSums" (22 : Nat) "BranchSums" "past" "LBranchSums$Past;" ∈ am_tbl := am_mem (i := 192) (by decide +kernel) rfl
theorem tw_193 : Jvm.Cond.fieldLink "BranchSums" (29 : Nat) "BranchSums" "book" "LBranchSums$Book;" ∈ am_tbl := am_mem (i := 193) (by decide +kernel) rfl
theorem tw_194 : Jvm.Cond.fieldLink "BranchSums" (33 : Nat) "BranchSums" "imageBook" "LBranchSums$Book;" ∈ am_tbl := am_mem (i := 194) (by decide +kernel) rfl
theorem tw_195 : Jvm.Cond.fieldLink "BranchSums" (39 : Nat) "BranchSums" "roller" "LBranchSums$Roller;" ∈ am_tbl := am_mem (i := 195) (by decide +kernel) rfl
theorem tw_196 : Jvm.Cond.fieldLink "BranchSums" (46 : Nat) "BranchSums" "tape" "LBranchSums$Tape;" ∈ am_tbl := am_mem (i := 196) (by decide +kernel) rfl
theorem tw_197 : Jvm.Cond.fieldLink "BranchSums" (53 : Nat) "BranchSums" "chosen" "LBranchSums$Report;" ∈ am_tbl := am_mem (i := 197) (by decide +kernel) rfl
theorem tw_198 : Jvm.Cond.fieldLink "BranchSums" (59 : Nat) "BranchSums" "branches" "[[I" ∈ am_tbl := am_mem (i := 198) (by decide +kernel) rfl
theorem tw_199 : Jvm.Cond.fieldLink "BranchSums" (62 : Nat) "BranchSums" "spare" "[I" ∈ am_tbl := am_mem (i := 199) (by decide +kernel) rfl
theorem tw_200 : Jvm.Cond.fieldLink "BranchSums" (66 : Nat) "BranchSums" "imageOrg" "LBranchSums$Org;" ∈ am_tbl := am_mem (i := 200) (by decide +kernel) rfl
theorem tw_201 : Jvm.Cond.fieldLink "BranchSums" (69 : Nat) "BranchSums" "hasImage" "Z" ∈ am_tbl := am_mem (i := 201) (by decide +kernel) rfl
theorem tw_230 : Jvm.Cond.code yX8_add prog_1_method_2_code (5 : Nat) (Option.some Jvm.ClassFile.FieldType.int) ∈ am_tbl := am_mem (i := 230) (by decide +kernel) rfl
theorem tw_231 : Jvm.Cond.methodLink "BranchSums" (73 : Nat) yX1_isThere ∈ am_tbl := am_mem (i := 231) (by decide +kernel) rfl
theorem tw_232 : Jvm.Cond.instanceMethod yX1_isThere ∈ am_tbl := am_mem (i := 232) (by decide +kernel) rfl
theorem tw_233 : Jvm.Cond.selects "BranchSums$Org" yX1_isThere yX1_isThere ∈ am_tbl := am_mem (i := 233) (by decide +kernel) rfl
theorem tw_234 : Jvm.Cond.code yX1_isThere prog_3_method_6_code (2 : Nat) (Option.some Jvm.ClassFile.FieldType.boolean) ∈ am_tbl := am_mem (i := 234) (by decide +kernel) rfl
theorem tw_235 : Jvm.Cond.methodLink "BranchSums" (77 : Nat) yX8_isCategory ∈ am_tbl := am_mem (i := 235) (by decide +kernel) rfl
theorem tw_236 : Jvm.Cond.static yX8_isCategory ∈ am_tbl := am_mem (i := 236) (by decide +kernel) rfl
theorem tw_237 : Jvm.Cond.code yX8_isCategory prog_1_method_65_code (1 : Nat) (Option.some Jvm.ClassFile.FieldType.boolean) ∈ am_tbl := am_mem (i := 237) (by decide +kernel) rfl
theorem tw_238 : Jvm.Cond.methodLink "BranchSums" (83 : Nat) yX2_keep ∈ am_tbl := am_mem (i := 238) (by decide +kernel) rfl
theorem tw_239 : Jvm.Cond.instanceMethod yX2_keep ∈ am_tbl := am_mem (i := 239) (by decide +kernel) rfl
theorem tw_240 : Jvm.Cond.selects "BranchSums$Past" yX2_keep yX2_keep ∈ am_tbl := am_mem (i := 240) (by decide +kernel) rfl
theorem tw_241 : Jvm.Cond.code yX2_keep prog_4_method_2_code (3 : Nat) (Option.none : Option Jvm.ClassFile.FieldType) ∈ am_tbl := am_mem (i := 241) (by decide +kernel) rfl
theorem tw_242 : Jvm.Cond.methodLink "BranchSums$Past" (25 : Nat) yX1_takeOver ∈ am_tbl := am_mem (i := 242) (by decide +kernel) rfl
theorem tw_243 : Jvm.Cond.instanceMethod yX1_takeOver ∈ am_tbl := am_mem (i := 243) (by decide +kernel) rfl
theorem tw_244 : Jvm.Cond.selects "BranchSums$Org" yX1_takeOver yX1_takeOver ∈ am_tbl := am_mem (i := 244) (by decide +kernel) rfl
theorem tw_245 : Jvm.Cond.code yX1_takeOver prog_3_method_2_code (5 : Nat) (Option.none : Option Jvm.ClassFile.FieldType) ∈ am_tbl := am_mem (i := 245) (by decide +kernel) rfl
theorem tw_246 : Jvm.Cond.methodLink "BranchSums$Org" (39 : Nat) arraycopyName ∈ am_tbl := am_mem (i := 246) (by decide +kernel) rfl
theorem tw_247 : Jvm.Cond.static arraycopyName ∈ am_tbl := am_mem (i := 247) (by decide +kernel) rfl
theorem tw_248 : Jvm.Cond.native arraycopyName ∈ am_tbl := am_mem (i := 248) (by decide +kernel) rfl
theorem tw_249 : Jvm.Cond.methodLink "BranchSums$Past" (29 : Nat) yJ9_min_7cf53 ∈ am_tbl := am_mem (i := 249) (by decide +kernel) rfl
theorem tw_252 : Jvm.Cond.methodLink "BranchSums" (87 : Nat) yX1_makeStale ∈ am_tbl := am_mem (i := 252) (by decide +kernel) rfl
theorem tw_253 : Jvm.Cond.instanceMethod yX1_makeStale ∈ am_tbl := am_mem (i := 253) (by decide +kernel) rfl
theorem tw_254 : Jvm.Cond.selects "BranchSums$Org" yX1_makeStale yX1_makeStale ∈ am_tbl := am_mem (i := 254) (by decide +kernel) rfl
theorem tw_255 : Jvm.Cond.code yX1_makeStale prog_3_method_18_code (4 : Nat) (Option.none : Option Jvm.ClassFile.FieldType) ∈ am_tbl := am_mem (i := 255) (by decide +kernel) rfl
theorem tw_256 : Jvm.Cond.methodLink "BranchSums$Org" (49 : Nat) yX1_isThere ∈ am_tbl := am_mem (i := 256) (by decide +kernel) rfl
theorem tw_257 : Jvm.Cond.methodLink "BranchSums$Org" (53 : Nat) yX1_upperOf ∈ am_tbl := am_mem (i := 257) (by decide +kernel) rfl
theorem tw_258 : Jvm.Cond.instanceMethod yX1_upperOf ∈ am_tbl := am_mem (i := 258) (by decide +kernel) rfl
theorem tw_259 : Jvm.Cond.selects "BranchSums$Org" yX1_upperOf yX1_upperOf ∈ am_tbl := am_mem (i := 259) (by decide +kernel) rfl
theorem tw_260 : Jvm.Cond.code yX1_upperOf prog_3_method_7_code (2 : Nat) (Option.some Jvm.ClassFile.FieldType.int) ∈ am_tbl := am_mem (i := 260) (by decide +kernel) rfl
theorem tw_264 : Jvm.Cond.code yX8_comes prog_1_method_3_code (3 : Nat) (Option.some Jvm.ClassFile.FieldType.boolean) ∈ am_tbl := am_mem (i := 264) (by decide +kernel) rfl
theorem tw_265 : Jvm.Cond.methodLink "BranchSums" (91 : Nat) yX8_isUnit ∈ am_tbl := am_mem (i := 265) (by decide +kernel) rfl
theorem tw_266 : Jvm.Cond.static yX8_isUnit ∈ am_tbl := am_mem (i := 266) (by decide +kernel) rfl
theorem tw_267 : Jvm.Cond.code yX8_isUnit prog_1_method_64_code (1 : Nat) (Option.some Jvm.ClassFile.FieldType.boolean) ∈ am_tbl := am_mem (i := 267) (by decide +kernel) rfl
theorem tw_268 : Jvm.Cond.methodLink "BranchSums" (94 : Nat) yX1_depthOf ∈ am_tbl := am_mem (i := 268) (by decide +kernel) rfl
theorem tw_269 : Jvm.Cond.instanceMethod yX1_depthOf ∈ am_tbl := am_mem (i := 269) (by decide +kernel) rfl
theorem tw_270 : Jvm.Cond.selects "BranchSums$Org" yX1_depthOf yX1_depthOf ∈ am_tbl := am_mem (i := 270) (by decide +kernel) rfl
theorem tw_271 : Jvm.Cond.code yX1_depthOf prog_3_method_8_code (4 : Nat) (Option.some Jvm.ClassFile.FieldType.int) ∈ am_tbl := am_mem (i := 271) (by decide +kernel) rfl
theorem tw_272 : Jvm.Cond.methodLink "BranchSums" (98 : Nat) yX1_settle ∈ am_tbl := am_mem (i := 272) (by decide +kernel) rfl
theorem tw_273 : Jvm.Cond.instanceMethod yX1_settle ∈ am_tbl := am_mem (i := 273) (by decide +kernel) rfl
theorem tw_274 : Jvm.Cond.selects "BranchSums$Org" yX1_settle yX1_settle ∈ am_tbl := am_mem (i := 274) (by decide +kernel) rfl
theorem tw_275 : Jvm.Cond.code yX1_settle prog_3_method_4_code (3 : Nat) (Option.none : Option Jvm.ClassFile.FieldType) ∈ am_tbl := am_mem (i := 275) (by decide +kernel) rfl
theorem tw_276 : Jvm.Cond.methodLink "BranchSums" (102 : Nat) yX0_tally ∈ am_tbl := am_mem (i := 276) (by decide +kernel) rfl
theorem tw_277 : Jvm.Cond.instanceMethod yX0_tally ∈ am_tbl := am_mem (i := 277) (by decide +kernel) rfl
theorem tw_278 : Jvm.Cond.selects "BranchSums$Book" yX0_tally yX0_tally ∈ am_tbl := am_mem (i := 278) (by decide +kernel) rfl
theorem tw_279 : Jvm.Cond.code yX0_tally prog_2_method_3_code (3 : Nat) (Option.none : Option Jvm.ClassFile.FieldType) ∈ am_tbl := am_mem (i := 279) (by decide +kernel) rfl
theorem tw_283 : Jvm.Cond.code yX8_goes prog_1_method_4_code (6 : Nat) (Option.some Jvm.ClassFile.FieldType.int) ∈ am_tbl := am_mem (i := 283) (by decide +kernel) rfl
theorem tw_284 : Jvm.Cond.methodLink "BranchSums" (105 : Nat) yX1_upperOf ∈ am_tbl := am_mem (i := 284) (by decide +kernel) rfl
theorem tw_285 : Jvm.Cond.methodLink "BranchSums" (108 : Nat) yX1_lowerCount ∈ am_tbl := am_mem (i := 285) (by decide +kernel) rfl
theorem tw_286 : Jvm.Cond.instanceMethod yX1_lowerCount ∈ am_tbl := am_mem (i := 286) (by decide +kernel) rfl
theorem tw_287 : Jvm.Cond.selects "BranchSums$Org" yX1_lowerCount yX1_lowerCount ∈ am_tbl := am_mem (i := 287) (by decide +kernel) rfl
theorem tw_288 : Jvm.Cond.code yX1_lowerCount prog_3_method_12_code (4 : Nat) (Option.some Jvm.ClassFile.FieldType.int) ∈ am_tbl := am_mem (i := 288) (by decide +kernel) rfl
theorem tw_289 : Jvm.Cond.methodLink "BranchSums" (111 : Nat) yX5_fits ∈ am_tbl := am_mem (i := 289) (by decide +kernel) rfl
theorem tw_290 : Jvm.Cond.static yX5_fits ∈ am_tbl := am_mem (i := 290) (by decide +kernel) rfl
theorem tw_291 : Jvm.Cond.code yX5_fits prog_7_method_5_code (5 : Nat) (Option.some Jvm.ClassFile.FieldType.boolean) ∈ am_tbl := am_mem (i := 291) (by decide +kernel) rfl
theorem tw_292 : Jvm.Cond.methodLink "BranchSums" (117 : Nat) yX6_maskOf ∈ am_tbl := am_mem (i := 292) (by decide +kernel) rfl
theorem tw_293 : Jvm.Cond.static yX6_maskOf ∈ am_tbl := am_mem (i := 293) (by decide +kernel) rfl
theorem tw_294 : Jvm.Cond.code yX6_maskOf prog_8_method_2_code (4 : Nat) (Option.some Jvm.ClassFile.FieldType.long) ∈ am_tbl := am_mem (i := 294) (by decide +kernel) rfl
theorem tw_295 : Jvm.Cond.methodLink "BranchSums" (123 : Nat) yX6_common ∈ am_tbl := am_mem (i := 295) (by decide +kernel) rfl
theorem tw_296 : Jvm.Cond.static yX6_common ∈ am_tbl := am_mem (i := 296) (by decide +kernel) rfl
theorem tw_297 : Jvm.Cond.code yX6_common prog_8_method_5_code (11 : Nat) (Option.some Jvm.ClassFile.FieldType.int) ∈ am_tbl := am_mem (i := 297) (by decide +kernel) rfl
theorem tw_298 : Jvm.Cond.fieldLink "BranchSums$Spans" (17 : Nat) "BranchSums$Spans" "FIRSTS" "[J" ∈ am_tbl := am_mem (i := 298) (by decide +kernel) rfl
theorem tw_300 : Jvm.Cond.methodLink "BranchSums$Spans" (21 : Nat) yJ13_bitCount_95d88 ∈ am_tbl := am_mem (i := 300) (by decide +kernel) rfl
theorem tw_301 : Jvm.Cond.static yJ13_bitCount_95d88 ∈ am_tbl := am_mem (i := 301) (by decide +kernel) rfl
theorem tw_302 : Jvm.Cond.code yJ13_bitCount_95d88 prog_13_method_50_code (2 : Nat) (Option.some Jvm.ClassFile.FieldType.int) ∈ am_tbl := am_mem (i := 302) (by decide +kernel) rfl
theorem tw_303 : Jvm.Cond.constantLong "java/lang/Long" (314 : Nat) (6148914691236517205 : Int64) ∈ am_tbl := am_mem (i := 303) (by decide +kernel) rfl
theorem tw_304 : Jvm.Cond.constantLong "java/lang/Long" (316 : Nat) (3689348814741910323 : Int64) ∈ am_tbl := am_mem (i := 304) (by decide +kernel) rfl
theorem tw_305 : Jvm.Cond.constantLong "java/lang/Long" (318 : Nat) (1085102592571150095 : Int64) ∈ am_tbl := am_mem (i := 305) (by decide +kernel) rfl
theorem tw_306 : Jvm.Cond.methodLink "BranchSums" (127 : Nat) yX5_pour ∈ am_tbl := am_mem (i := 306) (by decide +kernel) rfl
theorem tw_307 : Jvm.Cond.static yX5_pour ∈ am_tbl := am_mem (i := 307) (by decide +kernel) rfl
theorem tw_308 : Jvm.Cond.code yX5_pour prog_7_method_6_code (6 : Nat) (Option.some Jvm.ClassFile.FieldType.int) ∈ am_tbl := am_mem (i := 308) (by decide +kernel) rfl
theorem tw_309 : Jvm.Cond.methodLink "BranchSums" (131 : Nat) yX1_leave ∈ am_tbl := am_mem (i := 309) (by decide +kernel) rfl
theorem tw_310 : Jvm.Cond.instanceMethod yX1_leave ∈ am_tbl := am_mem (i := 310) (by decide +kernel) rfl
theorem tw_311 : Jvm.Cond.selects "BranchSums$Org" yX1_leave yX1_leave ∈ am_tbl := am_mem (i := 311) (by decide +kernel) rfl
theorem tw_312 : Jvm.Cond.code yX1_leave prog_3_method_5_code (2 : Nat) (Option.none : Option Jvm.ClassFile.FieldType) ∈ am_tbl := am_mem (i := 312) (by decide +kernel) rfl
theorem tw_313 : Jvm.Cond.methodLink "BranchSums" (134 : Nat) yX0_merged ∈ am_tbl := am_mem (i := 313) (by decide +kernel) rfl
theorem tw_314 : Jvm.Cond.instanceMethod yX0_merged ∈ am_tbl := am_mem (i := 314) (by decide +kernel) rfl
theorem tw_315 : Jvm.Cond.selects "BranchSums$Book" yX0_merged yX0_merged ∈ am_tbl := am_mem (i := 315) (by decide +kernel) rfl
theorem tw_316 : Jvm.Cond.code yX0_merged prog_2_method_4_code (2 : Nat) (Option.none : Option Jvm.ClassFile.FieldType) ∈ am_tbl := am_mem (i := 316) (by decide +kernel) rfl
theorem tw_317 : Jvm.Cond.methodLink "BranchSums$Book" (40 : Nat) yX0_tally ∈ am_tbl := am_mem (i := 317) (by decide +kernel) rfl
theorem tw_321 : Jvm.Cond.code yX8_move prog_1_method_5_code (3 : Nat) (Option.some Jvm.ClassFile.FieldType.int) ∈ am_tbl := am_mem (i := 321) (by decide +kernel) rfl
theorem tw_322 : Jvm.Cond.methodLink "BranchSums" (137 : Nat) yX1_canMove ∈ am_tbl := am_mem (i := 322) (by decide +kernel) rfl
theorem tw_323 : Jvm.Cond.instanceMethod yX1_canMove ∈ am_tbl := am_mem (i := 323) (by decide +kernel) rfl
theorem tw_324 : Jvm.Cond.selects "BranchSums$Org" yX1_canMove yX1_canMove ∈ am_tbl := am_mem (i := 324) (by decide +kernel) rfl
theorem tw_325 : Jvm.Cond.code yX1_canMove prog_3_method_16_code (3 : Nat) (Option.some Jvm.ClassFile.FieldType.boolean) ∈ am_tbl := am_mem (i := 325) (by decide +kernel) rfl
theorem tw_326 : Jvm.Cond.methodLink "BranchSums$Org" (57 : Nat) yX1_isInBranch ∈ am_tbl := am_mem (i := 326) (by decide +kernel) rfl
theorem tw_327 : Jvm.Cond.instanceMethod yX1_isInBranch ∈ am_tbl := am_mem (i := 327) (by decide +kernel) rfl
theorem tw_328 : Jvm.Cond.selects "BranchSums$Org" yX1_isInBranch yX1_isInBranch ∈ am_tbl := am_mem (i := 328) (by decide +kernel) rfl
theorem tw_329 : Jvm.Cond.code yX1_isInBranch prog_3_method_9_code (5 : Nat) (Option.some Jvm.ClassFile.FieldType.boolean) ∈ am_tbl := am_mem (i := 329) (by decide +kernel) rfl
theorem tw_330 : Jvm.Cond.methodLink "BranchSums$Org" (61 : Nat) yX1_depthOf ∈ am_tbl := am_mem (i := 330) (by decide +kernel) rfl
theorem tw_331 : Jvm.Cond.methodLink "BranchSums$Org" (70 : Nat) yX1_heightOf ∈ am_tbl := am_mem (i := 331) (by decide +kernel) rfl
theorem tw_332 : Jvm.Cond.instanceMethod yX1_heightOf ∈ am_tbl := am_mem (i := 332) (by decide +kernel) rfl
theorem tw_333 : Jvm.Cond.selects "BranchSums$Org" yX1_heightOf yX1_heightOf ∈ am_tbl := am_mem (i := 333) (by decide +kernel) rfl
theorem tw_334 : Jvm.Cond.code yX1_heightOf prog_3_method_11_code (4 : Nat) (Option.some Jvm.ClassFile.FieldType.int) ∈ am_tbl := am_mem (i := 334) (by decide +kernel) rfl
theorem tw_335 : Jvm.Cond.methodLink "BranchSums$Org" (64 : Nat) yJ9_max_7cf53 ∈ am_tbl := am_mem (i := 335) (by decide +kernel) rfl
theorem tw_338 : Jvm.Cond.methodLink "BranchSums" (141 : Nat) yX1_moveTo ∈ am_tbl := am_mem (i := 338) (by decide +kernel) rfl
theorem tw_339 : Jvm.Cond.instanceMethod yX1_moveTo ∈ am_tbl := am_mem (i := 339) (by decide +kernel) rfl
theorem tw_340 : Jvm.Cond.selects "BranchSums$Org" yX1_moveTo yX1_moveTo ∈ am_tbl := am_mem (i := 340) (by decide +kernel) rfl
theorem tw_341 : Jvm.Cond.code yX1_moveTo prog_3_method_17_code (3 : Nat) (Option.none : Option Jvm.ClassFile.FieldType) ∈ am_tbl := am_mem (i := 341) (by decide +kernel) rfl
theorem tw_342 : Jvm.Cond.methodLink "BranchSums$Org" (73 : Nat) yX1_makeStale ∈ am_tbl := am_mem (i := 342) (by decide +kernel) rfl
theorem tw_343 : Jvm.Cond.methodLink "BranchSums" (144 : Nat) yX1_branchSize ∈ am_tbl := am_mem (i := 343) (by decide +kernel) rfl
theorem tw_344 : Jvm.Cond.instanceMethod yX1_branchSize ∈ am_tbl := am_mem (i := 344) (by decide +kernel) rfl
theorem tw_345 : Jvm.Cond.selects "BranchSums$Org" yX1_branchSize yX1_branchSize ∈ am_tbl := am_mem (i := 345) (by decide +kernel) rfl
theorem tw_346 : Jvm.Cond.code yX1_branchSize prog_3_method_10_code (4 : Nat) (Option.some Jvm.ClassFile.FieldType.int) ∈ am_tbl := am_mem (i := 346) (by decide +kernel) rfl
theorem tw_350 : Jvm.Cond.code yX8_give prog_1_method_6_code (12 : Nat) (Option.some Jvm.ClassFile.FieldType.int) ∈ am_tbl := am_mem (i := 350) (by decide +kernel) rfl
theorem tw_351 : Jvm.Cond.methodLink "BranchSums" (147 : Nat) yX8_isSpan ∈ am_tbl := am_mem (i := 351) (by decide +kernel) rfl
theorem tw_352 : Jvm.Cond.static yX8_isSpan ∈ am_tbl := am_mem (i := 352) (by decide +kernel) rfl
theorem tw_353 : Jvm.Cond.code yX8_isSpan prog_1_method_66_code (2 : Nat) (Option.some Jvm.ClassFile.FieldType.boolean) ∈ am_tbl := am_mem (i := 353) (by decide +kernel) rfl
theorem tw_354 : Jvm.Cond.methodLink "BranchSums" (150 : Nat) yX6_bitsOf ∈ am_tbl := am_mem (i := 354) (by decide +kernel) rfl
theorem tw_355 : Jvm.Cond.static yX6_bitsOf ∈ am_tbl := am_mem (i := 355) (by decide +kernel) rfl
theorem tw_356 : Jvm.Cond.code yX6_bitsOf prog_8_method_3_code (2 : Nat) (Option.some Jvm.ClassFile.FieldType.long) ∈ am_tbl := am_mem (i := 356) (by decide +kernel) rfl
theorem tw_357 : Jvm.Cond.constantLong "BranchSums$Spans" (9 : Nat) (-1 : Int64) ∈ am_tbl := am_mem (i := 357) (by decide +kernel) rfl
theorem tw_358 : Jvm.Cond.constantLong "BranchSums" (154 : Nat) (-1 : Int64) ∈ am_tbl := am_mem (i := 358) (by decide +kernel) rfl
theorem tw_359 : Jvm.Cond.methodLink "BranchSums" (156 : Nat) yX0_parted ∈ am_tbl := am_mem (i := 359) (by decide +kernel) rfl
theorem tw_360 : Jvm.Cond.instanceMethod yX0_parted ∈ am_tbl := am_mem (i := 360) (by decide +kernel) rfl
theorem tw_361 : Jvm.Cond.selects "BranchSums$Book" yX0_parted yX0_parted ∈ am_tbl := am_mem (i := 361) (by decide +kernel) rfl
theorem tw_362 : Jvm.Cond.code yX0_parted prog_2_method_5_code (2 : Nat) (Option.none : Option Jvm.ClassFile.FieldType) ∈ am_tbl := am_mem (i := 362) (by decide +kernel) rfl
theorem tw_366 : Jvm.Cond.code yX8_roll prog_1_method_7_code (3 : Nat) (Option.some Jvm.ClassFile.FieldType.int) ∈ am_tbl := am_mem (i := 366) (by decide +kernel) rfl
theorem tw_367 : Jvm.Cond.methodLink "BranchSums" (163 : Nat) yX4_rollAll ∈ am_tbl := am_mem (i := 367) (by decide +kernel) rfl
theorem tw_368 : Jvm.Cond.instanceMethod yX4_rollAll ∈ am_tbl := am_mem (i := 368) (by decide +kernel) rfl
theorem tw_369 : Jvm.Cond.selects "BranchSums$Roller" yX4_rollAll yX4_rollAll ∈ am_tbl := am_mem (i := 369) (by decide +kernel) rfl
theorem tw_370 : Jvm.Cond.code yX4_rollAll prog_6_method_2_code (3 : Nat) (Option.some Jvm.ClassFile.FieldType.int) ∈ am_tbl := am_mem (i := 370) (by decide +kernel) rfl
theorem tw_371 : Jvm.Cond.methodLink "BranchSums$Roller" (25 : Nat) yX4_rollBranch ∈ am_tbl := am_mem (i := 371) (by decide +kernel) rfl
theorem tw_373 : Jvm.Cond.instanceMethod yX4_rollBranch ∈ am_tbl := am_mem (i := 373) (by decide +kernel) rfl
theorem tw_374 : Jvm.Cond.code yX4_rollBranch prog_6_method_3_code (5 : Nat) (Option.none : Option Jvm.ClassFile.FieldType) ∈ am_tbl := am_mem (i := 374) (by decide +kernel) rfl
theorem tw_375 : Jvm.Cond.methodLink "BranchSums$Roller" (29 : Nat) yX1_isThere ∈ am_tbl := am_mem (i := 375) (by decide +kernel) rfl
theorem tw_376 : Jvm.Cond.methodLink "BranchSums$Roller" (42 : Nat) yX4_keptPart ∈ am_tbl := am_mem (i := 376) (by decide +kernel) rfl
theorem tw_377 : Jvm.Cond.static yX4_keptPart ∈ am_tbl := am_mem (i := 377) (by decide +kernel) rfl
theorem tw_378 : Jvm.Cond.code yX4_keptPart prog_6_method_5_code (6 : Nat) (Option.some Jvm.ClassFile.FieldType.int) ∈ am_tbl := am_mem (i := 378) (by decide +kernel) rfl
theorem tw_379 : Jvm.Cond.methodLink "BranchSums$Roller" (70 : Nat) yX6_maskOf ∈ am_tbl := am_mem (i := 379) (by decide +kernel) rfl
theorem tw_380 : Jvm.Cond.methodLink "BranchSums$Roller" (76 : Nat) yX6_nodesOf ∈ am_tbl := am_mem (i := 380) (by decide +kernel) rfl
theorem tw_381 : Jvm.Cond.static yX6_nodesOf ∈ am_tbl := am_mem (i := 381) (by decide +kernel) rfl
theorem tw_382 : Jvm.Cond.code yX6_nodesOf prog_8_method_4_code (2 : Nat) (Option.some Jvm.ClassFile.FieldType.int) ∈ am_tbl := am_mem (i := 382) (by decide +kernel) rfl
theorem tw_383 : Jvm.Cond.methodLink "BranchSums$Spans" (11 : Nat) yX6_common ∈ am_tbl := am_mem (i := 383) (by decide +kernel) rfl
theorem tw_384 : Jvm.Cond.methodLink "BranchSums$Roller" (46 : Nat) yX4_mergeParts ∈ am_tbl := am_mem (i := 384) (by decide +kernel) rfl
theorem tw_386 : Jvm.Cond.instanceMethod yX4_mergeParts ∈ am_tbl := am_mem (i := 386) (by decide +kernel) rfl
theorem tw_387 : Jvm.Cond.code yX4_mergeParts prog_6_method_4_code (6 : Nat) (Option.none : Option Jvm.ClassFile.FieldType) ∈ am_tbl := am_mem (i := 387) (by decide +kernel) rfl
theorem tw_388 : Jvm.Cond.methodLink "BranchSums$Roller" (60 : Nat) arraycopyName ∈ am_tbl := am_mem (i := 388) (by decide +kernel) rfl
theorem tw_389 : Jvm.Cond.methodLink "BranchSums$Roller" (66 : Nat) yX4_mergeIn ∈ am_tbl := am_mem (i := 389) (by decide +kernel) rfl
theorem tw_391 : Jvm.Cond.instanceMethod yX4_mergeIn ∈ am_tbl := am_mem (i := 391) (by decide +kernel) rfl
theorem tw_392 : Jvm.Cond.code yX4_mergeIn prog_6_method_6_code (2 : Nat) (Option.none : Option Jvm.ClassFile.FieldType) ∈ am_tbl := am_mem (i := 392) (by decide +kernel) rfl
theorem tw_393 : Jvm.Cond.methodLink "BranchSums$Roller" (80 : Nat) yX6_common ∈ am_tbl := am_mem (i := 393) (by decide +kernel) rfl
theorem tw_394 : Jvm.Cond.methodLink "BranchSums$Roller" (84 : Nat) yX5_addTo ∈ am_tbl := am_mem (i := 394) (by decide +kernel) rfl
theorem tw_395 : Jvm.Cond.static yX5_addTo ∈ am_tbl := am_mem (i := 395) (by decide +kernel) rfl
theorem tw_396 : Jvm.Cond.code yX5_addTo prog_7_method_4_code (3 : Nat) (Option.none : Option Jvm.ClassFile.FieldType) ∈ am_tbl := am_mem (i := 396) (by decide +kernel) rfl
theorem tw_397 : Jvm.Cond.methodLink "BranchSums$Roller" (49 : Nat) yX1_rolledUp ∈ am_tbl := am_mem (i := 397) (by decide +kernel) rfl
theorem tw_398 : Jvm.Cond.instanceMethod yX1_rolledUp ∈ am_tbl := am_mem (i := 398) (by decide +kernel) rfl
theorem tw_399 : Jvm.Cond.selects "BranchSums$Org" yX1_rolledUp yX1_rolledUp ∈ am_tbl := am_mem (i := 399) (by decide +kernel) rfl
theorem tw_400 : Jvm.Cond.code yX1_rolledUp prog_3_method_23_code (6 : Nat) (Option.none : Option Jvm.ClassFile.FieldType) ∈ am_tbl := am_mem (i := 400) (by decide +kernel) rfl
theorem tw_401 : Jvm.Cond.methodLink "BranchSums$Org" (82 : Nat) yJ9_min_7cf53 ∈ am_tbl := am_mem (i := 401) (by decide +kernel) rfl
theorem tw_405 : Jvm.Cond.code yX8_recode prog_1_method_8_code (6 : Nat) (Option.some Jvm.ClassFile.FieldType.int) ∈ am_tbl := am_mem (i := 405) (by decide +kernel) rfl
theorem tw_406 : Jvm.Cond.methodLink "BranchSums" (174 : Nat) yX8_recodeOwn ∈ am_tbl := am_mem (i := 406) (by decide +kernel) rfl
theorem tw_408 : Jvm.Cond.instanceMethod yX8_recodeOwn ∈ am_tbl := am_mem (i := 408) (by decide +kernel) rfl
theorem tw_409 : Jvm.Cond.code yX8_recodeOwn prog_1_method_9_code (9 : Nat) (Option.none : Option Jvm.ClassFile.FieldType) ∈ am_tbl := am_mem (i := 409) (by decide +kernel) rfl
theorem tw_413 : Jvm.Cond.code yX8_text prog_1_method_10_code (2 : Nat) (Option.some Jvm.ClassFile.FieldType.int) ∈ am_tbl := am_mem (i := 413) (by decide +kernel) rfl
theorem tw_414 : Jvm.Cond.methodLink "BranchSums" (178 : Nat) yX7_readInto ∈ am_tbl := am_mem (i := 414) (by decide +kernel) rfl
theorem tw_415 : Jvm.Cond.instanceMethod yX7_readInto ∈ am_tbl := am_mem (i := 415) (by decide +kernel) rfl
theorem tw_416 : Jvm.Cond.selects "BranchSums$Tape" yX7_readInto yX7_readInto ∈ am_tbl := am_mem (i := 416) (by decide +kernel) rfl
theorem tw_417 : Jvm.Cond.code yX7_readInto prog_9_method_5_code (4 : Nat) (Option.some Jvm.ClassFile.FieldType.int) ∈ am_tbl := am_mem (i := 417) (by decide +kernel) rfl
theorem tw_418 : Jvm.Cond.methodLink "BranchSums$Tape" (34 : Nat) yX1_startAnew ∈ am_tbl := am_mem (i := 418) (by decide +kernel) rfl
theorem tw_419 : Jvm.Cond.instanceMethod yX1_startAnew ∈ am_tbl := am_mem (i := 419) (by decide +kernel) rfl
theorem tw_420 : Jvm.Cond.selects "BranchSums$Org" yX1_startAnew yX1_startAnew ∈ am_tbl := am_mem (i := 420) (by decide +kernel) rfl
theorem tw_421 : Jvm.Cond.code yX1_startAnew prog_3_method_3_code (2 : Nat) (Option.none : Option Jvm.ClassFile.FieldType) ∈ am_tbl := am_mem (i := 421) (by decide +kernel) rfl
theorem tw_422 : Jvm.Cond.methodLink "BranchSums$Org" (45 : Nat) yX1_leave ∈ am_tbl := am_mem (i := 422) (by decide +kernel) rfl
theorem tw_423 : Jvm.Cond.methodLink "BranchSums$Tape" (39 : Nat) yX7_readHead ∈ am_tbl := am_mem (i := 423) (by decide +kernel) rfl
theorem tw_425 : Jvm.Cond.instanceMethod yX7_readHead ∈ am_tbl := am_mem (i := 425) (by decide +kernel) rfl
theorem tw_426 : Jvm.Cond.code yX7_readHead prog_9_method_6_code (1 : Nat) (Option.some Jvm.ClassFile.FieldType.boolean) ∈ am_tbl := am_mem (i := 426) (by decide +kernel) rfl
theorem tw_427 : Jvm.Cond.methodLink "BranchSums$Tape" (68 : Nat) yX7_readNumber ∈ am_tbl := am_mem (i := 427) (by decide +kernel) rfl
theorem tw_429 : Jvm.Cond.instanceMethod yX7_readNumber ∈ am_tbl := am_mem (i := 429) (by decide +kernel) rfl
theorem tw_430 : Jvm.Cond.code yX7_readNumber prog_9_method_12_code (1 : Nat) (Option.some Jvm.ClassFile.FieldType.boolean) ∈ am_tbl := am_mem (i := 430) (by decide +kernel) rfl
theorem tw_431 : Jvm.Cond.methodLink "BranchSums$Tape" (75 : Nat) yX7_nextSign ∈ am_tbl := am_mem (i := 431) (by decide +kernel) rfl
theorem tw_433 : Jvm.Cond.instanceMethod yX7_nextSign ∈ am_tbl := am_mem (i := 433) (by decide +kernel) rfl
theorem tw_434 : Jvm.Cond.code yX7_nextSign prog_9_method_14_code (1 : Nat) (Option.some Jvm.ClassFile.FieldType.int) ∈ am_tbl := am_mem (i := 434) (by decide +kernel) rfl
theorem tw_435 : Jvm.Cond.methodLink "BranchSums$Tape" (85 : Nat) yX7_isDigit ∈ am_tbl := am_mem (i := 435) (by decide +kernel) rfl
theorem tw_436 : Jvm.Cond.static yX7_isDigit ∈ am_tbl := am_mem (i := 436) (by decide +kernel) rfl
theorem tw_437 : Jvm.Cond.code yX7_isDigit prog_9_method_15_code (1 : Nat) (Option.some Jvm.ClassFile.FieldType.boolean) ∈ am_tbl := am_mem (i := 437) (by decide +kernel) rfl
theorem tw_438 : Jvm.Cond.methodLink "BranchSums$Tape" (71 : Nat) yX7_refuse ∈ am_tbl := am_mem (i := 438) (by decide +kernel) rfl
theorem tw_440 : Jvm.Cond.instanceMethod yX7_refuse ∈ am_tbl := am_mem (i := 440) (by decide +kernel) rfl
theorem tw_441 : Jvm.Cond.code yX7_refuse prog_9_method_16_code (3 : Nat) (Option.some Jvm.ClassFile.FieldType.boolean) ∈ am_tbl := am_mem (i := 441) (by decide +kernel) rfl
theorem tw_442 : Jvm.Cond.constant "BranchSums$Tape" (113 : Nat) (1000000 : Int32) ∈ am_tbl := am_mem (i := 442) (by decide +kernel) rfl
theorem tw_443 : Jvm.Cond.methodLink "BranchSums$Tape" (114 : Nat) yJ9_min_7cf53 ∈ am_tbl := am_mem (i := 443) (by decide +kernel) rfl
theorem tw_444 : Jvm.Cond.methodLink "BranchSums$Tape" (43 : Nat) yX7_readUnits ∈ am_tbl := am_mem (i := 444) (by decide +kernel) rfl
theorem tw_446 : Jvm.Cond.instanceMethod yX7_readUnits ∈ am_tbl := am_mem (i := 446) (by decide +kernel) rfl
theorem tw_447 : Jvm.Cond.code yX7_readUnits prog_9_method_7_code (6 : Nat) (Option.some Jvm.ClassFile.FieldType.boolean) ∈ am_tbl := am_mem (i := 447) (by decide +kernel) rfl
theorem tw_448 : Jvm.Cond.methodLink "BranchSums$Tape" (78 : Nat) yX7_readUnit ∈ am_tbl := am_mem (i := 448) (by decide +kernel) rfl
theorem tw_450 : Jvm.Cond.instanceMethod yX7_readUnit ∈ am_tbl := am_mem (i := 450) (by decide +kernel) rfl
theorem tw_451 : Jvm.Cond.code yX7_readUnit prog_9_method_8_code (4 : Nat) (Option.some Jvm.ClassFile.FieldType.int) ∈ am_tbl := am_mem (i := 451) (by decide +kernel) rfl
theorem tw_452 : Jvm.Cond.methodLink "BranchSums$Tape" (54 : Nat) yX1_isThere ∈ am_tbl := am_mem (i := 452) (by decide +kernel) rfl
theorem tw_453 : Jvm.Cond.methodLink "BranchSums$Tape" (88 : Nat) yX1_depthOf ∈ am_tbl := am_mem (i := 453) (by decide +kernel) rfl
theorem tw_454 : Jvm.Cond.methodLink "BranchSums$Tape" (91 : Nat) yX1_settle ∈ am_tbl := am_mem (i := 454) (by decide +kernel) rfl
theorem tw_455 : Jvm.Cond.methodLink "BranchSums$Tape" (82 : Nat) yX1_upperOf ∈ am_tbl := am_mem (i := 455) (by decide +kernel) rfl
theorem tw_456 : Jvm.Cond.methodLink "BranchSums$Tape" (47 : Nat) yX7_readEntries ∈ am_tbl := am_mem (i := 456) (by decide +kernel) rfl
theorem tw_458 : Jvm.Cond.instanceMethod yX7_readEntries ∈ am_tbl := am_mem (i := 458) (by decide +kernel) rfl
theorem tw_459 : Jvm.Cond.code yX7_readEntries prog_9_method_9_code (3 : Nat) (Option.some Jvm.ClassFile.FieldType.boolean) ∈ am_tbl := am_mem (i := 459) (by decide +kernel) rfl
theorem tw_460 : Jvm.Cond.methodLink "BranchSums$Tape" (95 : Nat) yX7_takeSign ∈ am_tbl := am_mem (i := 460) (by decide +kernel) rfl
theorem tw_462 : Jvm.Cond.instanceMethod yX7_takeSign ∈ am_tbl := am_mem (i := 462) (by decide +kernel) rfl
theorem tw_463 : Jvm.Cond.code yX7_takeSign prog_9_method_13_code (2 : Nat) (Option.some Jvm.ClassFile.FieldType.boolean) ∈ am_tbl := am_mem (i := 463) (by decide +kernel) rfl
theorem tw_464 : Jvm.Cond.methodLink "BranchSums$Tape" (99 : Nat) yX7_readEntry ∈ am_tbl := am_mem (i := 464) (by decide +kernel) rfl
theorem tw_466 : Jvm.Cond.instanceMethod yX7_readEntry ∈ am_tbl := am_mem (i := 466) (by decide +kernel) rfl
theorem tw_467 : Jvm.Cond.code yX7_readEntry prog_9_method_10_code (5 : Nat) (Option.some Jvm.ClassFile.FieldType.boolean) ∈ am_tbl := am_mem (i := 467) (by decide +kernel) rfl
theorem tw_468 : Jvm.Cond.methodLink "BranchSums$Tape" (106 : Nat) yX7_readAmount ∈ am_tbl := am_mem (i := 468) (by decide +kernel) rfl
theorem tw_470 : Jvm.Cond.instanceMethod yX7_readAmount ∈ am_tbl := am_mem (i := 470) (by decide +kernel) rfl
theorem tw_471 : Jvm.Cond.code yX7_readAmount prog_9_method_11_code (3 : Nat) (Option.some Jvm.ClassFile.FieldType.boolean) ∈ am_tbl := am_mem (i := 471) (by decide +kernel) rfl
theorem tw_473 : Jvm.Cond.methodLink "BranchSums$Tape" (58 : Nat) yX1_thereSet ∈ am_tbl := am_mem (i := 473) (by decide +kernel) rfl
theorem tw_474 : Jvm.Cond.instanceMethod yX1_thereSet ∈ am_tbl := am_mem (i := 474) (by decide +kernel) rfl
theorem tw_475 : Jvm.Cond.selects "BranchSums$Org" yX1_thereSet yX1_thereSet ∈ am_tbl := am_mem (i := 475) (by decide +kernel) rfl
theorem tw_476 : Jvm.Cond.code yX1_thereSet prog_3_method_19_code (3 : Nat) (Option.some Jvm.ClassFile.FieldType.int) ∈ am_tbl := am_mem (i := 476) (by decide +kernel) rfl
theorem tw_477 : Jvm.Cond.methodLink "BranchSums$Tape" (62 : Nat) yJ6_bitCount_0f7a4 ∈ am_tbl := am_mem (i := 477) (by decide +kernel) rfl
theorem tw_478 : Jvm.Cond.static yJ6_bitCount_0f7a4 ∈ am_tbl := am_mem (i := 478) (by decide +kernel) rfl
theorem tw_479 : Jvm.Cond.code yJ6_bitCount_0f7a4 prog_12_method_49_code (1 : Nat) (Option.some Jvm.ClassFile.FieldType.int) ∈ am_tbl := am_mem (i := 479) (by decide +kernel) rfl
theorem tw_480 : Jvm.Cond.constant "java/lang/Integer" (265 : Nat) (1431655765 : Int32) ∈ am_tbl := am_mem (i := 480) (by decide +kernel) rfl
theorem tw_481 : Jvm.Cond.constant "java/lang/Integer" (266 : Nat) (858993459 : Int32) ∈ am_tbl := am_mem (i := 481) (by decide +kernel) rfl
theorem tw_482 : Jvm.Cond.constant "java/lang/Integer" (267 : Nat) (252645135 : Int32) ∈ am_tbl := am_mem (i := 482) (by decide +kernel) rfl
theorem tw_483 : Jvm.Cond.methodLink "BranchSums" (182 : Nat) yX1_takeOver ∈ am_tbl := am_mem (i := 483) (by decide +kernel) rfl
theorem tw_487 : Jvm.Cond.code yX8_undo prog_1_method_11_code (1 : Nat) (Option.some Jvm.ClassFile.FieldType.int) ∈ am_tbl := am_mem (i := 487) (by decide +kernel) rfl
theorem tw_488 : Jvm.Cond.methodLink "BranchSums" (185 : Nat) yX2_takeBack ∈ am_tbl := am_mem (i := 488) (by decide +kernel) rfl
theorem tw_489 : Jvm.Cond.instanceMethod yX2_takeBack ∈ am_tbl := am_mem (i := 489) (by decide +kernel) rfl
theorem tw_490 : Jvm.Cond.selects "BranchSums$Past" yX2_takeBack yX2_takeBack ∈ am_tbl := am_mem (i := 490) (by decide +kernel) rfl
theorem tw_491 : Jvm.Cond.code yX2_takeBack prog_4_method_3_code (4 : Nat) (Option.some Jvm.ClassFile.FieldType.boolean) ∈ am_tbl := am_mem (i := 491) (by decide +kernel) rfl
theorem tw_495 : Jvm.Cond.code yX8_limit prog_1_method_12_code (6 : Nat) (Option.some Jvm.ClassFile.FieldType.int) ∈ am_tbl := am_mem (i := 495) (by decide +kernel) rfl
theorem tw_496 : Jvm.Cond.constant "BranchSums" (192 : Nat) (999999 : Int32) ∈ am_tbl := am_mem (i := 496) (by decide +kernel) rfl
theorem tw_497 : Jvm.Cond.methodLink "BranchSums" (193 : Nat) yX0_dropLimit ∈ am_tbl := am_mem (i := 497) (by decide +kernel) rfl
theorem tw_498 : Jvm.Cond.instanceMethod yX0_dropLimit ∈ am_tbl := am_mem (i := 498) (by decide +kernel) rfl
theorem tw_499 : Jvm.Cond.selects "BranchSums$Book" yX0_dropLimit yX0_dropLimit ∈ am_tbl := am_mem (i := 499) (by decide +kernel) rfl
theorem tw_500 : Jvm.Cond.code yX0_dropLimit prog_2_method_8_code (6 : Nat) (Option.some Jvm.ClassFile.FieldType.boolean) ∈ am_tbl := am_mem (i := 500) (by decide +kernel) rfl
theorem tw_501 : Jvm.Cond.methodLink "BranchSums$Book" (44 : Nat) yX0_limitAt ∈ am_tbl := am_mem (i := 501) (by decide +kernel) rfl
theorem tw_503 : Jvm.Cond.instanceMethod yX0_limitAt ∈ am_tbl := am_mem (i := 503) (by decide +kernel) rfl
theorem tw_504 : Jvm.Cond.code yX0_limitAt prog_2_method_6_code (5 : Nat) (Option.some Jvm.ClassFile.FieldType.int) ∈ am_tbl := am_mem (i := 504) (by decide +kernel) rfl
theorem tw_505 : Jvm.Cond.methodLink "BranchSums" (197 : Nat) yX0_tellLimit ∈ am_tbl := am_mem (i := 505) (by decide +kernel) rfl
theorem tw_506 : Jvm.Cond.instanceMethod yX0_tellLimit ∈ am_tbl := am_mem (i := 506) (by decide +kernel) rfl
theorem tw_507 : Jvm.Cond.selects "BranchSums$Book" yX0_tellLimit yX0_tellLimit ∈ am_tbl := am_mem (i := 507) (by decide +kernel) rfl
theorem tw_508 : Jvm.Cond.code yX0_tellLimit prog_2_method_7_code (6 : Nat) (Option.some Jvm.ClassFile.FieldType.boolean) ∈ am_tbl := am_mem (i := 508) (by decide +kernel) rfl
theorem tw_512 : Jvm.Cond.code yX8_broken prog_1_method_13_code (6 : Nat) (Option.some Jvm.ClassFile.FieldType.int) ∈ am_tbl := am_mem (i := 512) (by decide +kernel) rfl
theorem tw_513 : Jvm.Cond.methodLink "BranchSums" (204 : Nat) yX8_brokenCount ∈ am_tbl := am_mem (i := 513) (by decide +kernel) rfl
theorem tw_515 : Jvm.Cond.instanceMethod yX8_brokenCount ∈ am_tbl := am_mem (i := 515) (by decide +kernel) rfl
theorem tw_516 : Jvm.Cond.code yX8_brokenCount prog_1_method_14_code (3 : Nat) (Option.some Jvm.ClassFile.FieldType.int) ∈ am_tbl := am_mem (i := 516) (by decide +kernel) rfl
theorem tw_517 : Jvm.Cond.methodLink "BranchSums" (208 : Nat) yX8_excessOver ∈ am_tbl := am_mem (i := 517) (by decide +kernel) rfl
theorem tw_519 : Jvm.Cond.instanceMethod yX8_excessOver ∈ am_tbl := am_mem (i := 519) (by decide +kernel) rfl
theorem tw_520 : Jvm.Cond.code yX8_excessOver prog_1_method_15_code (3 : Nat) (Option.some Jvm.ClassFile.FieldType.int) ∈ am_tbl := am_mem (i := 520) (by decide +kernel) rfl
theorem tw_521 : Jvm.Cond.methodLink "BranchSums" (223 : Nat) yX5_totalOf ∈ am_tbl := am_mem (i := 521) (by decide +kernel) rfl
theorem tw_522 : Jvm.Cond.static yX5_totalOf ∈ am_tbl := am_mem (i := 522) (by decide +kernel) rfl
theorem tw_523 : Jvm.Cond.code yX5_totalOf prog_7_method_2_code (5 : Nat) (Option.some Jvm.ClassFile.FieldType.int) ∈ am_tbl := am_mem (i := 523) (by decide +kernel) rfl
theorem tw_524 : Jvm.Cond.methodLink "BranchSums$Rows" (9 : Nat) yJ9_max_7cf53 ∈ am_tbl := am_mem (i := 524) (by decide +kernel) rfl
theorem tw_528 : Jvm.Cond.code yX8_state prog_1_method_16_code (3 : Nat) (Option.some Jvm.ClassFile.FieldType.int) ∈ am_tbl := am_mem (i := 528) (by decide +kernel) rfl
theorem tw_532 : Jvm.Cond.code yX8_feed prog_1_method_17_code (6 : Nat) (Option.some Jvm.ClassFile.FieldType.int) ∈ am_tbl := am_mem (i := 532) (by decide +kernel) rfl
theorem tw_533 : Jvm.Cond.methodLink "BranchSums" (233 : Nat) yX7_hasRoom ∈ am_tbl := am_mem (i := 533) (by decide +kernel) rfl
theorem tw_534 : Jvm.Cond.instanceMethod yX7_hasRoom ∈ am_tbl := am_mem (i := 534) (by decide +kernel) rfl
theorem tw_535 : Jvm.Cond.selects "BranchSums$Tape" yX7_hasRoom yX7_hasRoom ∈ am_tbl := am_mem (i := 535) (by decide +kernel) rfl
theorem tw_536 : Jvm.Cond.code yX7_hasRoom prog_9_method_2_code (2 : Nat) (Option.some Jvm.ClassFile.FieldType.boolean) ∈ am_tbl := am_mem (i := 536) (by decide +kernel) rfl
theorem tw_537 : Jvm.Cond.methodLink "BranchSums" (236 : Nat) yX7_putNumber ∈ am_tbl := am_mem (i := 537) (by decide +kernel) rfl
theorem tw_538 : Jvm.Cond.instanceMethod yX7_putNumber ∈ am_tbl := am_mem (i := 538) (by decide +kernel) rfl
theorem tw_539 : Jvm.Cond.selects "BranchSums$Tape" yX7_putNumber yX7_putNumber ∈ am_tbl := am_mem (i := 539) (by decide +kernel) rfl
theorem tw_540 : Jvm.Cond.code yX7_putNumber prog_9_method_3_code (3 : Nat) (Option.none : Option Jvm.ClassFile.FieldType) ∈ am_tbl := am_mem (i := 540) (by decide +kernel) rfl
theorem tw_544 : Jvm.Cond.code yX8_end prog_1_method_18_code (2 : Nat) (Option.some Jvm.ClassFile.FieldType.boolean) ∈ am_tbl := am_mem (i := 544) (by decide +kernel) rfl
theorem tw_545 : Jvm.Cond.methodLink "BranchSums" (242 : Nat) yX7_cut ∈ am_tbl := am_mem (i := 545) (by decide +kernel) rfl
theorem tw_546 : Jvm.Cond.instanceMethod yX7_cut ∈ am_tbl := am_mem (i := 546) (by decide +kernel) rfl
theorem tw_547 : Jvm.Cond.selects "BranchSums$Tape" yX7_cut yX7_cut ∈ am_tbl := am_mem (i := 547) (by decide +kernel) rfl
theorem tw_548 : Jvm.Cond.code yX7_cut prog_9_method_4_code (2 : Nat) (Option.some Jvm.ClassFile.FieldType.boolean) ∈ am_tbl := am_mem (i := 548) (by decide +kernel) rfl
theorem tw_552 : Jvm.Cond.code yX8_fault prog_1_method_19_code (2 : Nat) (Option.some Jvm.ClassFile.FieldType.int) ∈ am_tbl := am_mem (i := 552) (by decide +kernel) rfl
theorem tw_556 : Jvm.Cond.code yX8_image prog_1_method_20_code (2 : Nat) (Option.some Jvm.ClassFile.FieldType.boolean) ∈ am_tbl := am_mem (i := 556) (by decide +kernel) rfl
theorem tw_557 : Jvm.Cond.methodLink "BranchSums" (251 : Nat) yX0_takeOver ∈ am_tbl := am_mem (i := 557) (by decide +kernel) rfl
theorem tw_558 : Jvm.Cond.instanceMethod yX0_takeOver ∈ am_tbl := am_mem (i := 558) (by decide +kernel) rfl
theorem tw_559 : Jvm.Cond.selects "BranchSums$Book" yX0_takeOver yX0_takeOver ∈ am_tbl := am_mem (i := 559) (by decide +kernel) rfl
theorem tw_560 : Jvm.Cond.code yX0_takeOver prog_2_method_2_code (2 : Nat) (Option.none : Option Jvm.ClassFile.FieldType) ∈ am_tbl := am_mem (i := 560) (by decide +kernel) rfl
theorem tw_561 : Jvm.Cond.methodLink "BranchSums$Book" (34 : Nat) arraycopyName ∈ am_tbl := am_mem (i := 561) (by decide +kernel) rfl
theorem tw_562 : Jvm.Cond.methodLink "BranchSums" (254 : Nat) yX2_forget ∈ am_tbl := am_mem (i := 562) (by decide +kernel) rfl
theorem tw_563 : Jvm.Cond.instanceMethod yX2_forget ∈ am_tbl := am_mem (i := 563) (by decide +kernel) rfl
theorem tw_564 : Jvm.Cond.selects "BranchSums$Past" yX2_forget yX2_forget ∈ am_tbl := am_mem (i := 564) (by decide +kernel) rfl
theorem tw_565 : Jvm.Cond.code yX2_forget prog_4_method_4_code (1 : Nat) (Option.none : Option Jvm.ClassFile.FieldType) ∈ am_tbl := am_mem (i := 565) (by decide +kernel) rfl
theorem tw_569 : Jvm.Cond.code yX8_unit prog_1_method_21_code (5 : Nat) (Option.some Jvm.ClassFile.FieldType.int) ∈ am_tbl := am_mem (i := 569) (by decide +kernel) rfl
theorem tw_570 : Jvm.Cond.methodLink "BranchSums" (257 : Nat) yX8_branchSumOf ∈ am_tbl := am_mem (i := 570) (by decide +kernel) rfl
theorem tw_572 : Jvm.Cond.instanceMethod yX8_branchSumOf ∈ am_tbl := am_mem (i := 572) (by decide +kernel) rfl
theorem tw_573 : Jvm.Cond.code yX8_branchSumOf prog_1_method_22_code (2 : Nat) (Option.some (Jvm.ClassFile.FieldType.array Jvm.ClassFile.FieldType.int)) ∈ am_tbl := am_mem (i := 573) (by decide +kernel) rfl
theorem tw_574 : Jvm.Cond.methodLink "BranchSums" (278 : Nat) yX1_sumBranches ∈ am_tbl := am_mem (i := 574) (by decide +kernel) rfl
theorem tw_575 : Jvm.Cond.instanceMethod yX1_sumBranches ∈ am_tbl := am_mem (i := 575) (by decide +kernel) rfl
theorem tw_576 : Jvm.Cond.selects "BranchSums$Org" yX1_sumBranches yX1_sumBranches ∈ am_tbl := am_mem (i := 576) (by decide +kernel) rfl
theorem tw_577 : Jvm.Cond.code yX1_sumBranches prog_3_method_21_code (5 : Nat) (Option.none : Option Jvm.ClassFile.FieldType) ∈ am_tbl := am_mem (i := 577) (by decide +kernel) rfl
theorem tw_578 : Jvm.Cond.methodLink "BranchSums$Org" (76 : Nat) yX5_addTo ∈ am_tbl := am_mem (i := 578) (by decide +kernel) rfl
theorem tw_579 : Jvm.Cond.methodLink "BranchSums" (261 : Nat) yX5_unlikeness ∈ am_tbl := am_mem (i := 579) (by decide +kernel) rfl
theorem tw_580 : Jvm.Cond.static yX5_unlikeness ∈ am_tbl := am_mem (i := 580) (by decide +kernel) rfl
theorem tw_581 : Jvm.Cond.code yX5_unlikeness prog_7_method_7_code (4 : Nat) (Option.some Jvm.ClassFile.FieldType.int) ∈ am_tbl := am_mem (i := 581) (by decide +kernel) rfl
theorem tw_582 : Jvm.Cond.methodLink "BranchSums$Rows" (21 : Nat) yJ9_abs_0f7a4 ∈ am_tbl := am_mem (i := 582) (by decide +kernel) rfl
theorem tw_585 : Jvm.Cond.methodLink "BranchSums" (265 : Nat) yX5_allOf ∈ am_tbl := am_mem (i := 585) (by decide +kernel) rfl
theorem tw_586 : Jvm.Cond.static yX5_allOf ∈ am_tbl := am_mem (i := 586) (by decide +kernel) rfl
theorem tw_587 : Jvm.Cond.code yX5_allOf prog_7_method_3_code (1 : Nat) (Option.some Jvm.ClassFile.FieldType.int) ∈ am_tbl := am_mem (i := 587) (by decide +kernel) rfl
theorem tw_588 : Jvm.Cond.methodLink "BranchSums$Rows" (15 : Nat) yX5_totalOf ∈ am_tbl := am_mem (i := 588) (by decide +kernel) rfl
theorem tw_589 : Jvm.Cond.methodLink "BranchSums" (269 : Nat) yX6_nodesOf ∈ am_tbl := am_mem (i := 589) (by decide +kernel) rfl
theorem tw_590 : Jvm.Cond.methodLink "BranchSums" (273 : Nat) yJ13_bitCount_95d88 ∈ am_tbl := am_mem (i := 590) (by decide +kernel) rfl
theorem tw_594 : Jvm.Cond.code yX8_below prog_1_method_23_code (3 : Nat) (Option.some Jvm.ClassFile.FieldType.int) ∈ am_tbl := am_mem (i := 594) (by decide +kernel) rfl
theorem tw_595 : Jvm.Cond.methodLink "BranchSums" (282 : Nat) yX1_lowerAt ∈ am_tbl := am_mem (i := 595) (by decide +kernel) rfl
theorem tw_596 : Jvm.Cond.instanceMethod yX1_lowerAt ∈ am_tbl := am_mem (i := 596) (by decide +kernel) rfl
theorem tw_597 : Jvm.Cond.selects "BranchSums$Org" yX1_lowerAt yX1_lowerAt ∈ am_tbl := am_mem (i := 597) (by decide +kernel) rfl
theorem tw_598 : Jvm.Cond.code yX1_lowerAt prog_3_method_13_code (5 : Nat) (Option.some Jvm.ClassFile.FieldType.int) ∈ am_tbl := am_mem (i := 598) (by decide +kernel) rfl
theorem tw_602 : Jvm.Cond.code yX8_above prog_1_method_24_code (5 : Nat) (Option.some Jvm.ClassFile.FieldType.int) ∈ am_tbl := am_mem (i := 602) (by decide +kernel) rfl
theorem tw_606 : Jvm.Cond.code yX8_both prog_1_method_25_code (3 : Nat) (Option.some Jvm.ClassFile.FieldType.int) ∈ am_tbl := am_mem (i := 606) (by decide +kernel) rfl
theorem tw_607 : Jvm.Cond.methodLink "BranchSums" (286 : Nat) yX1_meetingOf ∈ am_tbl := am_mem (i := 607) (by decide +kernel) rfl
theorem tw_608 : Jvm.Cond.instanceMethod yX1_meetingOf ∈ am_tbl := am_mem (i := 608) (by decide +kernel) rfl
theorem tw_609 : Jvm.Cond.selects "BranchSums$Org" yX1_meetingOf yX1_meetingOf ∈ am_tbl := am_mem (i := 609) (by decide +kernel) rfl
theorem tw_610 : Jvm.Cond.code yX1_meetingOf prog_3_method_14_code (5 : Nat) (Option.some Jvm.ClassFile.FieldType.int) ∈ am_tbl := am_mem (i := 610) (by decide +kernel) rfl
theorem tw_614 : Jvm.Cond.code yX8_of prog_1_method_26_code (4 : Nat) (Option.some Jvm.ClassFile.FieldType.int) ∈ am_tbl := am_mem (i := 614) (by decide +kernel) rfl
theorem tw_618 : Jvm.Cond.code yX8_chain prog_1_method_27_code (7 : Nat) (Option.some Jvm.ClassFile.FieldType.int) ∈ am_tbl := am_mem (i := 618) (by decide +kernel) rfl
theorem tw_619 : Jvm.Cond.methodLink "BranchSums" (289 : Nat) yX1_isOnChain ∈ am_tbl := am_mem (i := 619) (by decide +kernel) rfl
theorem tw_620 : Jvm.Cond.instanceMethod yX1_isOnChain ∈ am_tbl := am_mem (i := 620) (by decide +kernel) rfl
theorem tw_621 : Jvm.Cond.selects "BranchSums$Org" yX1_isOnChain yX1_isOnChain ∈ am_tbl := am_mem (i := 621) (by decide +kernel) rfl
theorem tw_622 : Jvm.Cond.code yX1_isOnChain prog_3_method_15_code (5 : Nat) (Option.some Jvm.ClassFile.FieldType.boolean) ∈ am_tbl := am_mem (i := 622) (by decide +kernel) rfl
theorem tw_626 : Jvm.Cond.code yX8_hops prog_1_method_28_code (4 : Nat) (Option.some Jvm.ClassFile.FieldType.int) ∈ am_tbl := am_mem (i := 626) (by decide +kernel) rfl
theorem tw_630 : Jvm.Cond.code yX8_ranked prog_1_method_29_code (3 : Nat) (Option.some Jvm.ClassFile.FieldType.int) ∈ am_tbl := am_mem (i := 630) (by decide +kernel) rfl
theorem tw_631 : Jvm.Cond.methodLink "BranchSums" (292 : Nat) yX5_categoryAt ∈ am_tbl := am_mem (i := 631) (by decide +kernel) rfl
theorem tw_632 : Jvm.Cond.static yX5_categoryAt ∈ am_tbl := am_mem (i := 632) (by decide +kernel) rfl
theorem tw_633 : Jvm.Cond.code yX5_categoryAt prog_7_method_9_code (4 : Nat) (Option.some Jvm.ClassFile.FieldType.int) ∈ am_tbl := am_mem (i := 633) (by decide +kernel) rfl
theorem tw_637 : Jvm.Cond.code yX8_less prog_1_method_30_code (3 : Nat) (Option.some Jvm.ClassFile.FieldType.int) ∈ am_tbl := am_mem (i := 637) (by decide +kernel) rfl
theorem tw_641 : Jvm.Cond.code yX8_leader prog_1_method_31_code (6 : Nat) (Option.some Jvm.ClassFile.FieldType.int) ∈ am_tbl := am_mem (i := 641) (by decide +kernel) rfl
theorem tw_642 : Jvm.Cond.methodLink "BranchSums" (296 : Nat) yX5_leaderAt ∈ am_tbl := am_mem (i := 642) (by decide +kernel) rfl
theorem tw_643 : Jvm.Cond.static yX5_leaderAt ∈ am_tbl := am_mem (i := 643) (by decide +kernel) rfl
theorem tw_644 : Jvm.Cond.code yX5_leaderAt prog_7_method_11_code (4 : Nat) (Option.some Jvm.ClassFile.FieldType.int) ∈ am_tbl := am_mem (i := 644) (by decide +kernel) rfl
theorem tw_645 : Jvm.Cond.methodLink "BranchSums$Rows" (32 : Nat) yX5_leaderBehind ∈ am_tbl := am_mem (i := 645) (by decide +kernel) rfl
theorem tw_646 : Jvm.Cond.static yX5_leaderBehind ∈ am_tbl := am_mem (i := 646) (by decide +kernel) rfl
theorem tw_647 : Jvm.Cond.code yX5_leaderBehind prog_7_method_12_code (4 : Nat) (Option.some Jvm.ClassFile.FieldType.int) ∈ am_tbl := am_mem (i := 647) (by decide +kernel) rfl
theorem tw_648 : Jvm.Cond.methodLink "BranchSums$Rows" (35 : Nat) yX5_leadsOver ∈ am_tbl := am_mem (i := 648) (by decide +kernel) rfl
theorem tw_649 : Jvm.Cond.static yX5_leadsOver ∈ am_tbl := am_mem (i := 649) (by decide +kernel) rfl
theorem tw_650 : Jvm.Cond.code yX5_leadsOver prog_7_method_13_code (3 : Nat) (Option.some Jvm.ClassFile.FieldType.boolean) ∈ am_tbl := am_mem (i := 650) (by decide +kernel) rfl
theorem tw_654 : Jvm.Cond.code yX8_median prog_1_method_32_code (3 : Nat) (Option.some Jvm.ClassFile.FieldType.int) ∈ am_tbl := am_mem (i := 654) (by decide +kernel) rfl
theorem tw_658 : Jvm.Cond.code yX8_heavy prog_1_method_33_code (9 : Nat) (Option.some Jvm.ClassFile.FieldType.long) ∈ am_tbl := am_mem (i := 658) (by decide +kernel) rfl
theorem tw_659 : Jvm.Cond.constantLong "BranchSums" (299 : Nat) (100 : Int64) ∈ am_tbl := am_mem (i := 659) (by decide +kernel) rfl
theorem tw_663 : Jvm.Cond.code yX8_squares prog_1_method_34_code (6 : Nat) (Option.some Jvm.ClassFile.FieldType.long) ∈ am_tbl := am_mem (i := 663) (by decide +kernel) rfl
theorem tw_667 : Jvm.Cond.code yX8_seats prog_1_method_35_code (6 : Nat) (Option.some Jvm.ClassFile.FieldType.int) ∈ am_tbl := am_mem (i := 667) (by decide +kernel) rfl
theorem tw_668 : Jvm.Cond.methodLink "BranchSums" (301 : Nat) yJ7_fill_53178 ∈ am_tbl := am_mem (i := 668) (by decide +kernel) rfl
theorem tw_669 : Jvm.Cond.methodLink "BranchSums" (307 : Nat) yX5_nextSeat ∈ am_tbl := am_mem (i := 669) (by decide +kernel) rfl
theorem tw_670 : Jvm.Cond.static yX5_nextSeat ∈ am_tbl := am_mem (i := 670) (by decide +kernel) rfl
theorem tw_671 : Jvm.Cond.code yX5_nextSeat prog_7_method_14_code (4 : Nat) (Option.some Jvm.ClassFile.FieldType.int) ∈ am_tbl := am_mem (i := 671) (by decide +kernel) rfl
theorem tw_675 : Jvm.Cond.code yX8_percent prog_1_method_36_code (3 : Nat) (Option.some Jvm.ClassFile.FieldType.int) ∈ am_tbl := am_mem (i := 675) (by decide +kernel) rfl
theorem tw_676 : Jvm.Cond.methodLink "BranchSums" (310 : Nat) yX5_percentOf ∈ am_tbl := am_mem (i := 676) (by decide +kernel) rfl
theorem tw_677 : Jvm.Cond.static yX5_percentOf ∈ am_tbl := am_mem (i := 677) (by decide +kernel) rfl
theorem tw_678 : Jvm.Cond.code yX5_percentOf prog_7_method_15_code (8 : Nat) (Option.some Jvm.ClassFile.FieldType.int) ∈ am_tbl := am_mem (i := 678) (by decide +kernel) rfl
theorem tw_679 : Jvm.Cond.methodLink "BranchSums$Rows" (39 : Nat) yX5_allOf ∈ am_tbl := am_mem (i := 679) (by decide +kernel) rfl
theorem tw_683 : Jvm.Cond.code yX8_quantile prog_1_method_37_code (3 : Nat) (Option.some Jvm.ClassFile.FieldType.int) ∈ am_tbl := am_mem (i := 683) (by decide +kernel) rfl
theorem tw_684 : Jvm.Cond.methodLink "BranchSums" (313 : Nat) yX5_quantileOf ∈ am_tbl := am_mem (i := 684) (by decide +kernel) rfl
theorem tw_685 : Jvm.Cond.static yX5_quantileOf ∈ am_tbl := am_mem (i := 685) (by decide +kernel) rfl
theorem tw_686 : Jvm.Cond.code yX5_quantileOf prog_7_method_16_code (7 : Nat) (Option.some Jvm.ClassFile.FieldType.int) ∈ am_tbl := am_mem (i := 686) (by decide +kernel) rfl
theorem tw_687 : Jvm.Cond.constantLong "BranchSums$Rows" (43 : Nat) (100 : Int64) ∈ am_tbl := am_mem (i := 687) (by decide +kernel) rfl
theorem tw_691 : Jvm.Cond.code yX8_few prog_1_method_38_code (3 : Nat) (Option.some Jvm.ClassFile.FieldType.int) ∈ am_tbl := am_mem (i := 691) (by decide +kernel) rfl
theorem tw_692 : Jvm.Cond.methodLink "BranchSums" (316 : Nat) yX5_fewestOf ∈ am_tbl := am_mem (i := 692) (by decide +kernel) rfl
theorem tw_693 : Jvm.Cond.static yX5_fewestOf ∈ am_tbl := am_mem (i := 693) (by decide +kernel) rfl
theorem tw_694 : Jvm.Cond.code yX5_fewestOf prog_7_method_17_code (8 : Nat) (Option.some Jvm.ClassFile.FieldType.int) ∈ am_tbl := am_mem (i := 694) (by decide +kernel) rfl
theorem tw_698 : Jvm.Cond.code yX8_run prog_1_method_39_code (7 : Nat) (Option.some Jvm.ClassFile.FieldType.int) ∈ am_tbl := am_mem (i := 698) (by decide +kernel) rfl
theorem tw_699 : Jvm.Cond.methodLink "BranchSums" (319 : Nat) yX5_runCount ∈ am_tbl := am_mem (i := 699) (by decide +kernel) rfl
theorem tw_700 : Jvm.Cond.static yX5_runCount ∈ am_tbl := am_mem (i := 700) (by decide +kernel) rfl
theorem tw_701 : Jvm.Cond.code yX5_runCount prog_7_method_19_code (3 : Nat) (Option.some Jvm.ClassFile.FieldType.int) ∈ am_tbl := am_mem (i := 701) (by decide +kernel) rfl
theorem tw_702 : Jvm.Cond.methodLink "BranchSums$Rows" (45 : Nat) yX5_startsRun ∈ am_tbl := am_mem (i := 702) (by decide +kernel) rfl
theorem tw_703 : Jvm.Cond.static yX5_startsRun ∈ am_tbl := am_mem (i := 703) (by decide +kernel) rfl
theorem tw_704 : Jvm.Cond.code yX5_startsRun prog_7_method_18_code (2 : Nat) (Option.some Jvm.ClassFile.FieldType.boolean) ∈ am_tbl := am_mem (i := 704) (by decide +kernel) rfl
theorem tw_705 : Jvm.Cond.methodLink "BranchSums" (322 : Nat) yX5_runAt ∈ am_tbl := am_mem (i := 705) (by decide +kernel) rfl
theorem tw_706 : Jvm.Cond.static yX5_runAt ∈ am_tbl := am_mem (i := 706) (by decide +kernel) rfl
theorem tw_707 : Jvm.Cond.code yX5_runAt prog_7_method_21_code (4 : Nat) (Option.some Jvm.ClassFile.FieldType.int) ∈ am_tbl := am_mem (i := 707) (by decide +kernel) rfl
theorem tw_708 : Jvm.Cond.methodLink "BranchSums$Rows" (49 : Nat) yX5_greatestRun ∈ am_tbl := am_mem (i := 708) (by decide +kernel) rfl
theorem tw_709 : Jvm.Cond.static yX5_greatestRun ∈ am_tbl := am_mem (i := 709) (by decide +kernel) rfl
theorem tw_710 : Jvm.Cond.code yX5_greatestRun prog_7_method_22_code (7 : Nat) (Option.some Jvm.ClassFile.FieldType.int) ∈ am_tbl := am_mem (i := 710) (by decide +kernel) rfl
theorem tw_711 : Jvm.Cond.methodLink "BranchSums$Rows" (53 : Nat) yX5_runEnd ∈ am_tbl := am_mem (i := 711) (by decide +kernel) rfl
theorem tw_712 : Jvm.Cond.static yX5_runEnd ∈ am_tbl := am_mem (i := 712) (by decide +kernel) rfl
theorem tw_713 : Jvm.Cond.code yX5_runEnd prog_7_method_20_code (3 : Nat) (Option.some Jvm.ClassFile.FieldType.int) ∈ am_tbl := am_mem (i := 713) (by decide +kernel) rfl
theorem tw_714 : Jvm.Cond.methodLink "BranchSums" (325 : Nat) yX5_runEnd ∈ am_tbl := am_mem (i := 714) (by decide +kernel) rfl
theorem tw_718 : Jvm.Cond.code yX8_report prog_1_method_40_code (2 : Nat) (Option.some Jvm.ClassFile.FieldType.int) ∈ am_tbl := am_mem (i := 718) (by decide +kernel) rfl
theorem tw_719 : Jvm.Cond.methodLink "BranchSums" (328 : Nat) yX3_clear ∈ am_tbl := am_mem (i := 719) (by decide +kernel) rfl
theorem tw_720 : Jvm.Cond.instanceMethod yX3_clear ∈ am_tbl := am_mem (i := 720) (by decide +kernel) rfl
theorem tw_721 : Jvm.Cond.selects "BranchSums$Report" yX3_clear yX3_clear ∈ am_tbl := am_mem (i := 721) (by decide +kernel) rfl
theorem tw_722 : Jvm.Cond.code yX3_clear prog_5_method_2_code (1 : Nat) (Option.none : Option Jvm.ClassFile.FieldType) ∈ am_tbl := am_mem (i := 722) (by decide +kernel) rfl
theorem tw_723 : Jvm.Cond.methodLink "BranchSums" (331 : Nat) yX3_tell ∈ am_tbl := am_mem (i := 723) (by decide +kernel) rfl
theorem tw_724 : Jvm.Cond.instanceMethod yX3_tell ∈ am_tbl := am_mem (i := 724) (by decide +kernel) rfl
theorem tw_725 : Jvm.Cond.selects "BranchSums$Report" yX3_tell yX3_tell ∈ am_tbl := am_mem (i := 725) (by decide +kernel) rfl
theorem tw_726 : Jvm.Cond.code yX3_tell prog_5_method_4_code (6 : Nat) (Option.none : Option Jvm.ClassFile.FieldType) ∈ am_tbl := am_mem (i := 726) (by decide +kernel) rfl
theorem tw_727 : Jvm.Cond.methodLink "BranchSums$Report" (19 : Nat) yX6_maskOf ∈ am_tbl := am_mem (i := 727) (by decide +kernel) rfl
theorem tw_728 : Jvm.Cond.methodLink "BranchSums$Report" (25 : Nat) yJ13_bitCount_95d88 ∈ am_tbl := am_mem (i := 728) (by decide +kernel) rfl
theorem tw_729 : Jvm.Cond.methodLink "BranchSums$Report" (31 : Nat) yX3_putNumber ∈ am_tbl := am_mem (i := 729) (by decide +kernel) rfl
theorem tw_731 : Jvm.Cond.instanceMethod yX3_putNumber ∈ am_tbl := am_mem (i := 731) (by decide +kernel) rfl
theorem tw_732 : Jvm.Cond.code yX3_putNumber prog_5_method_6_code (3 : Nat) (Option.none : Option Jvm.ClassFile.FieldType) ∈ am_tbl := am_mem (i := 732) (by decide +kernel) rfl
theorem tw_733 : Jvm.Cond.constant "BranchSums$Report" (44 : Nat) (1000000000 : Int32) ∈ am_tbl := am_mem (i := 733) (by decide +kernel) rfl
theorem tw_734 : Jvm.Cond.methodLink "BranchSums$Report" (35 : Nat) yX3_put ∈ am_tbl := am_mem (i := 734) (by decide +kernel) rfl
theorem tw_736 : Jvm.Cond.instanceMethod yX3_put ∈ am_tbl := am_mem (i := 736) (by decide +kernel) rfl
theorem tw_737 : Jvm.Cond.code yX3_put prog_5_method_5_code (2 : Nat) (Option.none : Option Jvm.ClassFile.FieldType) ∈ am_tbl := am_mem (i := 737) (by decide +kernel) rfl
theorem tw_738 : Jvm.Cond.methodLink "BranchSums$Report" (38 : Nat) yX5_leaderAt ∈ am_tbl := am_mem (i := 738) (by decide +kernel) rfl
theorem tw_742 : Jvm.Cond.code yX8_sign prog_1_method_41_code (2 : Nat) (Option.some Jvm.ClassFile.FieldType.int) ∈ am_tbl := am_mem (i := 742) (by decide +kernel) rfl
theorem tw_743 : Jvm.Cond.methodLink "BranchSums" (336 : Nat) yX3_signAt ∈ am_tbl := am_mem (i := 743) (by decide +kernel) rfl
theorem tw_744 : Jvm.Cond.instanceMethod yX3_signAt ∈ am_tbl := am_mem (i := 744) (by decide +kernel) rfl
theorem tw_745 : Jvm.Cond.selects "BranchSums$Report" yX3_signAt yX3_signAt ∈ am_tbl := am_mem (i := 745) (by decide +kernel) rfl
theorem tw_746 : Jvm.Cond.code yX3_signAt prog_5_method_3_code (2 : Nat) (Option.some Jvm.ClassFile.FieldType.int) ∈ am_tbl := am_mem (i := 746) (by decide +kernel) rfl
theorem tw_750 : Jvm.Cond.code yX8_drawn prog_1_method_42_code (8 : Nat) (Option.some Jvm.ClassFile.FieldType.int) ∈ am_tbl := am_mem (i := 750) (by decide +kernel) rfl
theorem tw_751 : Jvm.Cond.methodLink "BranchSums" (339 : Nat) arraycopyName ∈ am_tbl := am_mem (i := 751) (by decide +kernel) rfl
theorem tw_752 : Jvm.Cond.methodLink "BranchSums" (345 : Nat) yX0_drawOf ∈ am_tbl := am_mem (i := 752) (by decide +kernel) rfl
theorem tw_753 : Jvm.Cond.instanceMethod yX0_drawOf ∈ am_tbl := am_mem (i := 753) (by decide +kernel) rfl
theorem tw_754 : Jvm.Cond.selects "BranchSums$Book" yX0_drawOf yX0_drawOf ∈ am_tbl := am_mem (i := 754) (by decide +kernel) rfl
theorem tw_755 : Jvm.Cond.code yX0_drawOf prog_2_method_9_code (2 : Nat) (Option.some Jvm.ClassFile.FieldType.int) ∈ am_tbl := am_mem (i := 755) (by decide +kernel) rfl
theorem tw_756 : Jvm.Cond.constant "BranchSums$Book" (48 : Nat) (1664525 : Int32) ∈ am_tbl := am_mem (i := 756) (by decide +kernel) rfl
theorem tw_757 : Jvm.Cond.constant "BranchSums$Book" (49 : Nat) (1013904223 : Int32) ∈ am_tbl := am_mem (i := 757) (by decide +kernel) rfl
theorem tw_761 : Jvm.Cond.code yX8_versions prog_1_method_43_code (2 : Nat) (Option.some Jvm.ClassFile.FieldType.int) ∈ am_tbl := am_mem (i := 761) (by decide +kernel) rfl
theorem tw_765 : Jvm.Cond.code yX8_was prog_1_method_44_code (4 : Nat) (Option.some Jvm.ClassFile.FieldType.int) ∈ am_tbl := am_mem (i := 765) (by decide +kernel) rfl
theorem tw_766 : Jvm.Cond.methodLink "BranchSums" (351 : Nat) yX1_hasVersion ∈ am_tbl := am_mem (i := 766) (by decide +kernel) rfl
theorem tw_767 : Jvm.Cond.instanceMethod yX1_hasVersion ∈ am_tbl := am_mem (i := 767) (by decide +kernel) rfl
theorem tw_768 : Jvm.Cond.selects "BranchSums$Org" yX1_hasVersion yX1_hasVersion ∈ am_tbl := am_mem (i := 768) (by decide +kernel) rfl
theorem tw_769 : Jvm.Cond.code yX1_hasVersion prog_3_method_22_code (3 : Nat) (Option.some Jvm.ClassFile.FieldType.boolean) ∈ am_tbl := am_mem (i := 769) (by decide +kernel) rfl
theorem tw_773 : Jvm.Cond.code yX8_grew prog_1_method_45_code (11 : Nat) (Option.some Jvm.ClassFile.FieldType.int) ∈ am_tbl := am_mem (i := 773) (by decide +kernel) rfl
theorem tw_774 : Jvm.Cond.constant "BranchSums" (357 : Nat) (-100000 : Int32) ∈ am_tbl := am_mem (i := 774) (by decide +kernel) rfl
theorem tw_778 : Jvm.Cond.code yX8_twin prog_1_method_46_code (6 : Nat) (Option.some Jvm.ClassFile.FieldType.int) ∈ am_tbl := am_mem (i := 778) (by decide +kernel) rfl
theorem tw_782 : Jvm.Cond.code yX8_halves prog_1_method_47_code (9 : Nat) (Option.some Jvm.ClassFile.FieldType.int) ∈ am_tbl := am_mem (i := 782) (by decide +kernel) rfl
theorem tw_783 : Jvm.Cond.methodLink "BranchSums" (358 : Nat) yX5_halvingOf ∈ am_tbl := am_mem (i := 783) (by decide +kernel) rfl
theorem tw_784 : Jvm.Cond.static yX5_halvingOf ∈ am_tbl := am_mem (i := 784) (by decide +kernel) rfl
theorem tw_785 : Jvm.Cond.code yX5_halvingOf prog_7_method_23_code (8 : Nat) (Option.some Jvm.ClassFile.FieldType.int) ∈ am_tbl := am_mem (i := 785) (by decide +kernel) rfl
theorem tw_786 : Jvm.Cond.methodLink "BranchSums$Rows" (25 : Nat) yJ9_min_7cf53 ∈ am_tbl := am_mem (i := 786) (by decide +kernel) rfl
theorem tw_787 : Jvm.Cond.methodLink "BranchSums$Rows" (56 : Nat) yJ6_bitCount_0f7a4 ∈ am_tbl := am_mem (i := 787) (by decide +kernel) rfl
theorem tw_788 : Jvm.Cond.methodLink "BranchSums" (361 : Nat) yJ9_abs_0f7a4 ∈ am_tbl := am_mem (i := 788) (by decide +kernel) rfl
theorem tw_792 : Jvm.Cond.code yX8_unlike prog_1_method_48_code (3 : Nat) (Option.some Jvm.ClassFile.FieldType.int) ∈ am_tbl := am_mem (i := 792) (by decide +kernel) rfl
theorem tw_796 : Jvm.Cond.code yX8_shared prog_1_method_49_code (8 : Nat) (Option.some Jvm.ClassFile.FieldType.int) ∈ am_tbl := am_mem (i := 796) (by decide +kernel) rfl
theorem tw_797 : Jvm.Cond.methodLink "BranchSums" (366 : Nat) yX5_lesserOf ∈ am_tbl := am_mem (i := 797) (by decide +kernel) rfl
theorem tw_798 : Jvm.Cond.static yX5_lesserOf ∈ am_tbl := am_mem (i := 798) (by decide +kernel) rfl
theorem tw_799 : Jvm.Cond.code yX5_lesserOf prog_7_method_8_code (4 : Nat) (Option.some Jvm.ClassFile.FieldType.int) ∈ am_tbl := am_mem (i := 799) (by decide +kernel) rfl
theorem tw_803 : Jvm.Cond.code yX8_leads prog_1_method_50_code (4 : Nat) (Option.some Jvm.ClassFile.FieldType.int) ∈ am_tbl := am_mem (i := 803) (by decide +kernel) rfl
theorem tw_804 : Jvm.Cond.methodLink "BranchSums" (369 : Nat) yX5_firstLeader ∈ am_tbl := am_mem (i := 804) (by decide +kernel) rfl
theorem tw_805 : Jvm.Cond.static yX5_firstLeader ∈ am_tbl := am_mem (i := 805) (by decide +kernel) rfl
theorem tw_806 : Jvm.Cond.code yX5_firstLeader prog_7_method_10_code (1 : Nat) (Option.some Jvm.ClassFile.FieldType.int) ∈ am_tbl := am_mem (i := 806) (by decide +kernel) rfl
theorem tw_807 : Jvm.Cond.methodLink "BranchSums$Rows" (28 : Nat) yX5_leaderAt ∈ am_tbl := am_mem (i := 807) (by decide +kernel) rfl
theorem tw_811 : Jvm.Cond.code yX8_where prog_1_method_51_code (5 : Nat) (Option.some Jvm.ClassFile.FieldType.int) ∈ am_tbl := am_mem (i := 811) (by decide +kernel) rfl
theorem tw_815 : Jvm.Cond.code yX8_cost prog_1_method_52_code (2 : Nat) (Option.some Jvm.ClassFile.FieldType.int) ∈ am_tbl := am_mem (i := 815) (by decide +kernel) rfl
theorem tw_819 : Jvm.Cond.code yX8_would prog_1_method_53_code (5 : Nat) (Option.some Jvm.ClassFile.FieldType.int) ∈ am_tbl := am_mem (i := 819) (by decide +kernel) rfl
theorem tw_820 : Jvm.Cond.methodLink "BranchSums" (372 : Nat) yX1_staleSet ∈ am_tbl := am_mem (i := 820) (by decide +kernel) rfl
theorem tw_821 : Jvm.Cond.instanceMethod yX1_staleSet ∈ am_tbl := am_mem (i := 821) (by decide +kernel) rfl
theorem tw_822 : Jvm.Cond.selects "BranchSums$Org" yX1_staleSet yX1_staleSet ∈ am_tbl := am_mem (i := 822) (by decide +kernel) rfl
theorem tw_823 : Jvm.Cond.code yX1_staleSet prog_3_method_20_code (3 : Nat) (Option.some Jvm.ClassFile.FieldType.int) ∈ am_tbl := am_mem (i := 823) (by decide +kernel) rfl
theorem tw_824 : Jvm.Cond.methodLink "BranchSums" (375 : Nat) yX8_otherLeaders ∈ am_tbl := am_mem (i := 824) (by decide +kernel) rfl
theorem tw_826 : Jvm.Cond.instanceMethod yX8_otherLeaders ∈ am_tbl := am_mem (i := 826) (by decide +kernel) rfl
theorem tw_827 : Jvm.Cond.code yX8_otherLeaders prog_1_method_54_code (3 : Nat) (Option.some Jvm.ClassFile.FieldType.int) ∈ am_tbl := am_mem (i := 827) (by decide +kernel) rfl
theorem tw_831 : Jvm.Cond.code yX8_home prog_1_method_55_code (6 : Nat) (Option.some Jvm.ClassFile.FieldType.int) ∈ am_tbl := am_mem (i := 831) (by decide +kernel) rfl
theorem tw_832 : Jvm.Cond.methodLink "BranchSums" (378 : Nat) yX8_apartFromHome ∈ am_tbl := am_mem (i := 832) (by decide +kernel) rfl
theorem tw_834 : Jvm.Cond.instanceMethod yX8_apartFromHome ∈ am_tbl := am_mem (i := 834) (by decide +kernel) rfl
theorem tw_835 : Jvm.Cond.code yX8_apartFromHome prog_1_method_56_code (4 : Nat) (Option.some Jvm.ClassFile.FieldType.int) ∈ am_tbl := am_mem (i := 835) (by decide +kernel) rfl
theorem tw_836 : Jvm.Cond.methodLink "BranchSums" (381 : Nat) yX1_isInBranch ∈ am_tbl := am_mem (i := 836) (by decide +kernel) rfl
theorem tw_840 : Jvm.Cond.code yX8_count prog_1_method_57_code (2 : Nat) (Option.some Jvm.ClassFile.FieldType.int) ∈ am_tbl := am_mem (i := 840) (by decide +kernel) rfl
theorem tw_844 : Jvm.Cond.code yX8_look prog_1_method_58_code (2 : Nat) (Option.some Jvm.ClassFile.FieldType.int) ∈ am_tbl := am_mem (i := 844) (by decide +kernel) rfl
theorem tw_845 : Jvm.Cond.methodLink "BranchSums" (387 : Nat) yX1_thereSet ∈ am_tbl := am_mem (i := 845) (by decide +kernel) rfl
theorem tw_846 : Jvm.Cond.methodLink "BranchSums" (390 : Nat) yX8_rightSet ∈ am_tbl := am_mem (i := 846) (by decide +kernel) rfl
theorem tw_848 : Jvm.Cond.instanceMethod yX8_rightSet ∈ am_tbl := am_mem (i := 848) (by decide +kernel) rfl
theorem tw_849 : Jvm.Cond.code yX8_rightSet prog_1_method_59_code (3 : Nat) (Option.some Jvm.ClassFile.FieldType.int) ∈ am_tbl := am_mem (i := 849) (by decide +kernel) rfl
theorem tw_850 : Jvm.Cond.methodLink "BranchSums" (393 : Nat) yJ6_bitCount_0f7a4 ∈ am_tbl := am_mem (i := 850) (by decide +kernel) rfl
theorem tw_851 : Jvm.Cond.methodLink "BranchSums" (397 : Nat) yX1_heightOf ∈ am_tbl := am_mem (i := 851) (by decide +kernel) rfl
theorem tw_852 : Jvm.Cond.methodLink "BranchSums" (400 : Nat) yX8_ownEntries ∈ am_tbl := am_mem (i := 852) (by decide +kernel) rfl
theorem tw_854 : Jvm.Cond.instanceMethod yX8_ownEntries ∈ am_tbl := am_mem (i := 854) (by decide +kernel) rfl
theorem tw_855 : Jvm.Cond.code yX8_ownEntries prog_1_method_60_code (3 : Nat) (Option.some Jvm.ClassFile.FieldType.int) ∈ am_tbl := am_mem (i := 855) (by decide +kernel) rfl
theorem tw_856 : Jvm.Cond.methodLink "BranchSums" (403 : Nat) yX8_sumNodes ∈ am_tbl := am_mem (i := 856) (by decide +kernel) rfl
theorem tw_858 : Jvm.Cond.instanceMethod yX8_sumNodes ∈ am_tbl := am_mem (i := 858) (by decide +kernel) rfl
theorem tw_859 : Jvm.Cond.code yX8_sumNodes prog_1_method_61_code (3 : Nat) (Option.some Jvm.ClassFile.FieldType.int) ∈ am_tbl := am_mem (i := 859) (by decide +kernel) rfl
theorem tw_860 : Jvm.Cond.methodLink "BranchSums" (406 : Nat) yX8_unusedCategories ∈ am_tbl := am_mem (i := 860) (by decide +kernel) rfl
theorem tw_862 : Jvm.Cond.instanceMethod yX8_unusedCategories ∈ am_tbl := am_mem (i := 862) (by decide +kernel) rfl
theorem tw_863 : Jvm.Cond.code yX8_unusedCategories prog_1_method_62_code (4 : Nat) (Option.some Jvm.ClassFile.FieldType.int) ∈ am_tbl := am_mem (i := 863) (by decide +kernel) rfl
theorem tw_864 : Jvm.Cond.methodLink "BranchSums" (409 : Nat) yX8_apartFromImage ∈ am_tbl := am_mem (i := 864) (by decide +kernel) rfl
theorem tw_866 : Jvm.Cond.instanceMethod yX8_apartFromImage ∈ am_tbl := am_mem (i := 866) (by decide +kernel) rfl
theorem tw_867 : Jvm.Cond.code yX8_apartFromImage prog_1_method_63_code (3 : Nat) (Option.some Jvm.ClassFile.FieldType.int) ∈ am_tbl := am_mem (i := 867) (by decide +kernel) rfl
theorem tw_874 : Jvm.Cond.constant "BranchSumsModel" (19 : Nat) (154560 : Int32) ∈ am_tbl := am_mem (i := 874) (by decide +kernel) rfl
theorem tw_875 : Jvm.Cond.fieldLink "BranchSumsModel" (9 : Nat) "BranchSumsModel" "w" "[I" ∈ am_tbl := am_mem (i := 875) (by decide +kernel) rfl
theorem tw_876 : Jvm.Cond.fieldLink "BranchSumsModel" (13 : Nat) "BranchSumsModel" "aside" "[I" ∈ am_tbl := am_mem (i := 876) (by decide +kernel) rfl
theorem tw_877 : Jvm.Cond.fieldLink "BranchSumsModel" (16 : Nat) "BranchSumsModel" "kept" "[I" ∈ am_tbl := am_mem (i := 877) (by decide +kernel) rfl
theorem tw_878 : Jvm.Cond.fieldLink "BranchSumsModel" (20 : Nat) "BranchSumsModel" "undos" "[I" ∈ am_tbl := am_mem (i := 878) (by decide +kernel) rfl
theorem tw_879 : Jvm.Cond.fieldLink "BranchSumsModel" (107 : Nat) "BranchSumsModel" "undoMany" "I" ∈ am_tbl := am_mem (i := 879) (by decide +kernel) rfl
theorem tw_880 : Jvm.Cond.fieldLink "BranchSumsModel" (283 : Nat) "BranchSumsModel" "hasImage" "Z" ∈ am_tbl := am_mem (i := 880) (by decide +kernel) rfl
theorem tw_881 : Jvm.Cond.fieldLink "BranchSumsModel" (23 : Nat) "BranchSumsModel" "row" "[I" ∈ am_tbl := am_mem (i := 881) (by decide +kernel) rfl
theorem tw_882 : Jvm.Cond.fieldLink "BranchSumsModel" (26 : Nat) "BranchSumsModel" "other" "[I" ∈ am_tbl := am_mem (i := 882) (by decide +kernel) rfl
theorem tw_883 : Jvm.Cond.fieldLink "BranchSumsModel" (29 : Nat) "BranchSumsModel" "tape" "[B" ∈ am_tbl := am_mem (i := 883) (by decide +kernel) rfl
theorem tw_884 : Jvm.Cond.fieldLink "BranchSumsModel" (164 : Nat) "BranchSumsModel" "taped" "I" ∈ am_tbl := am_mem (i := 884) (by decide +kernel) rfl
theorem tw_885 : Jvm.Cond.fieldLink "BranchSumsModel" (177 : Nat) "BranchSumsModel" "at" "I" ∈ am_tbl := am_mem (i := 885) (by decide +kernel) rfl
theorem tw_886 : Jvm.Cond.fieldLink "BranchSumsModel" (170 : Nat) "BranchSumsModel" "faultKind" "I" ∈ am_tbl := am_mem (i := 886) (by decide +kernel) rfl
theorem tw_887 : Jvm.Cond.fieldLink "BranchSumsModel" (33 : Nat) "BranchSumsModel" "faultPlace" "I" ∈ am_tbl := am_mem (i := 887) (by decide +kernel) rfl
theorem tw_888 : Jvm.Cond.fieldLink "BranchSumsModel" (173 : Nat) "BranchSumsModel" "isWrong" "Z" ∈ am_tbl := am_mem (i := 888) (by decide +kernel) rfl
theorem tw_889 : Jvm.Cond.fieldLink "BranchSumsModel" (190 : Nat) "BranchSumsModel" "numberAt" "I" ∈ am_tbl := am_mem (i := 889) (by decide +kernel) rfl
theorem tw_890 : Jvm.Cond.fieldLink "BranchSumsModel" (37 : Nat) "BranchSumsModel" "seated" "[I" ∈ am_tbl := am_mem (i := 890) (by decide +kernel) rfl
theorem tw_891 : Jvm.Cond.fieldLink "BranchSumsModel" (40 : Nat) "BranchSumsModel" "runs" "[I" ∈ am_tbl := am_mem (i := 891) (by decide +kernel) rfl
theorem tw_892 : Jvm.Cond.fieldLink "BranchSumsModel" (43 : Nat) "BranchSumsModel" "report" "[I" ∈ am_tbl := am_mem (i := 892) (by decide +kernel) rfl
theorem tw_893 : Jvm.Cond.fieldLink "BranchSumsModel" (268 : Nat) "BranchSumsModel" "signs" "I" ∈ am_tbl := am_mem (i := 893) (by decide +kernel) rfl
theorem tw_894 : Jvm.Cond.fieldLink "BranchSumsModel" (46 : Nat) "BranchSumsModel" "first" "[I" ∈ am_tbl := am_mem (i := 894) (by decide +kernel) rfl
theorem tw_940 : Jvm.Cond.code yX9_undo prog_11_method_26_code (2 : Nat) (Option.some Jvm.ClassFile.FieldType.int) ∈ am_tbl := am_mem (i := 940) (by decide +kernel) rfl
theorem tw_941 : Jvm.Cond.methodLink "BranchSumsModel" (95 : Nat) yX9_counts ∈ am_tbl := am_mem (i := 941) (by decide +kernel) rfl
theorem tw_943 : Jvm.Cond.instanceMethod yX9_counts ∈ am_tbl := am_mem (i := 943) (by decide +kernel) rfl
theorem tw_944 : Jvm.Cond.code yX9_counts prog_11_method_7_code (3 : Nat) (Option.none : Option Jvm.ClassFile.FieldType) ∈ am_tbl := am_mem (i := 944) (by decide +kernel) rfl
theorem tw_948 : Jvm.Cond.code yX9_add prog_11_method_27_code (5 : Nat) (Option.some Jvm.ClassFile.FieldType.int) ∈ am_tbl := am_mem (i := 948) (by decide +kernel) rfl
theorem tw_949 : Jvm.Cond.methodLink "BranchSumsModel" (53 : Nat) yX9_isUnit ∈ am_tbl := am_mem (i := 949) (by decide +kernel) rfl
theorem tw_951 : Jvm.Cond.instanceMethod yX9_isUnit ∈ am_tbl := am_mem (i := 951) (by decide +kernel) rfl
theorem tw_952 : Jvm.Cond.code yX9_isUnit prog_11_method_3_code (2 : Nat) (Option.some Jvm.ClassFile.FieldType.boolean) ∈ am_tbl := am_mem (i := 952) (by decide +kernel) rfl
theorem tw_953 : Jvm.Cond.methodLink "BranchSumsModel" (49 : Nat) yX9_isIn ∈ am_tbl := am_mem (i := 953) (by decide +kernel) rfl
theorem tw_954 : Jvm.Cond.static yX9_isIn ∈ am_tbl := am_mem (i := 954) (by decide +kernel) rfl
theorem tw_955 : Jvm.Cond.code yX9_isIn prog_11_method_1_code (3 : Nat) (Option.some Jvm.ClassFile.FieldType.boolean) ∈ am_tbl := am_mem (i := 955) (by decide +kernel) rfl
theorem tw_956 : Jvm.Cond.methodLink "BranchSumsModel" (110 : Nat) yX9_isCategory ∈ am_tbl := am_mem (i := 956) (by decide +kernel) rfl
theorem tw_957 : Jvm.Cond.static yX9_isCategory ∈ am_tbl := am_mem (i := 957) (by decide +kernel) rfl
theorem tw_958 : Jvm.Cond.code yX9_isCategory prog_11_method_4_code (1 : Nat) (Option.some Jvm.ClassFile.FieldType.boolean) ∈ am_tbl := am_mem (i := 958) (by decide +kernel) rfl
theorem tw_959 : Jvm.Cond.methodLink "BranchSumsModel" (60 : Nat) yX9_ownAt ∈ am_tbl := am_mem (i := 959) (by decide +kernel) rfl
theorem tw_960 : Jvm.Cond.static yX9_ownAt ∈ am_tbl := am_mem (i := 960) (by decide +kernel) rfl
theorem tw_961 : Jvm.Cond.code yX9_ownAt prog_11_method_5_code (1 : Nat) (Option.some Jvm.ClassFile.FieldType.int) ∈ am_tbl := am_mem (i := 961) (by decide +kernel) rfl
theorem tw_962 : Jvm.Cond.methodLink "BranchSumsModel" (113 : Nat) yX9_remembers ∈ am_tbl := am_mem (i := 962) (by decide +kernel) rfl
theorem tw_964 : Jvm.Cond.instanceMethod yX9_remembers ∈ am_tbl := am_mem (i := 964) (by decide +kernel) rfl
theorem tw_965 : Jvm.Cond.code yX9_remembers prog_11_method_25_code (2 : Nat) (Option.none : Option Jvm.ClassFile.FieldType) ∈ am_tbl := am_mem (i := 965) (by decide +kernel) rfl
theorem tw_966 : Jvm.Cond.methodLink "BranchSumsModel" (116 : Nat) yX9_isStaleFrom ∈ am_tbl := am_mem (i := 966) (by decide +kernel) rfl
theorem tw_968 : Jvm.Cond.instanceMethod yX9_isStaleFrom ∈ am_tbl := am_mem (i := 968) (by decide +kernel) rfl
theorem tw_969 : Jvm.Cond.code yX9_isStaleFrom prog_11_method_12_code (3 : Nat) (Option.none : Option Jvm.ClassFile.FieldType) ∈ am_tbl := am_mem (i := 969) (by decide +kernel) rfl
theorem tw_973 : Jvm.Cond.code yX9_comes prog_11_method_29_code (3 : Nat) (Option.some Jvm.ClassFile.FieldType.boolean) ∈ am_tbl := am_mem (i := 973) (by decide +kernel) rfl
theorem tw_974 : Jvm.Cond.methodLink "BranchSumsModel" (119 : Nat) yX9_depth ∈ am_tbl := am_mem (i := 974) (by decide +kernel) rfl
theorem tw_976 : Jvm.Cond.instanceMethod yX9_depth ∈ am_tbl := am_mem (i := 976) (by decide +kernel) rfl
theorem tw_977 : Jvm.Cond.code yX9_depth prog_11_method_8_code (4 : Nat) (Option.some Jvm.ClassFile.FieldType.int) ∈ am_tbl := am_mem (i := 977) (by decide +kernel) rfl
theorem tw_978 : Jvm.Cond.methodLink "BranchSumsModel" (122 : Nat) yX9_clears ∈ am_tbl := am_mem (i := 978) (by decide +kernel) rfl
theorem tw_980 : Jvm.Cond.instanceMethod yX9_clears ∈ am_tbl := am_mem (i := 980) (by decide +kernel) rfl
theorem tw_981 : Jvm.Cond.code yX9_clears prog_11_method_28_code (3 : Nat) (Option.none : Option Jvm.ClassFile.FieldType) ∈ am_tbl := am_mem (i := 981) (by decide +kernel) rfl
theorem tw_982 : Jvm.Cond.methodLink "BranchSumsModel" (80 : Nat) yX9_sumAt ∈ am_tbl := am_mem (i := 982) (by decide +kernel) rfl
theorem tw_983 : Jvm.Cond.static yX9_sumAt ∈ am_tbl := am_mem (i := 983) (by decide +kernel) rfl
theorem tw_984 : Jvm.Cond.code yX9_sumAt prog_11_method_6_code (1 : Nat) (Option.some Jvm.ClassFile.FieldType.int) ∈ am_tbl := am_mem (i := 984) (by decide +kernel) rfl
theorem tw_988 : Jvm.Cond.code yX9_goes prog_11_method_32_code (4 : Nat) (Option.some Jvm.ClassFile.FieldType.int) ∈ am_tbl := am_mem (i := 988) (by decide +kernel) rfl
theorem tw_989 : Jvm.Cond.methodLink "BranchSumsModel" (125 : Nat) yX9_belowMany ∈ am_tbl := am_mem (i := 989) (by decide +kernel) rfl
theorem tw_991 : Jvm.Cond.instanceMethod yX9_belowMany ∈ am_tbl := am_mem (i := 991) (by decide +kernel) rfl
theorem tw_992 : Jvm.Cond.code yX9_belowMany prog_11_method_11_code (4 : Nat) (Option.some Jvm.ClassFile.FieldType.int) ∈ am_tbl := am_mem (i := 992) (by decide +kernel) rfl
theorem tw_993 : Jvm.Cond.methodLink "BranchSumsModel" (128 : Nat) yX9_canTake ∈ am_tbl := am_mem (i := 993) (by decide +kernel) rfl
theorem tw_995 : Jvm.Cond.instanceMethod yX9_canTake ∈ am_tbl := am_mem (i := 995) (by decide +kernel) rfl
theorem tw_996 : Jvm.Cond.code yX9_canTake prog_11_method_30_code (6 : Nat) (Option.some Jvm.ClassFile.FieldType.boolean) ∈ am_tbl := am_mem (i := 996) (by decide +kernel) rfl
theorem tw_997 : Jvm.Cond.methodLink "BranchSumsModel" (132 : Nat) yX9_takes ∈ am_tbl := am_mem (i := 997) (by decide +kernel) rfl
theorem tw_999 : Jvm.Cond.instanceMethod yX9_takes ∈ am_tbl := am_mem (i := 999) (by decide +kernel) rfl
theorem tw_1000 : Jvm.Cond.code yX9_takes prog_11_method_31_code (7 : Nat) (Option.some Jvm.ClassFile.FieldType.int) ∈ am_tbl := am_mem (i := 1000) (by decide +kernel) rfl
theorem tw_1001 : Jvm.Cond.methodLink "BranchSumsModel" (72 : Nat) yX9_lays ∈ am_tbl := am_mem (i := 1001) (by decide +kernel) rfl
theorem tw_1003 : Jvm.Cond.instanceMethod yX9_lays ∈ am_tbl := am_mem (i := 1003) (by decide +kernel) rfl
theorem tw_1004 : Jvm.Cond.code yX9_lays prog_11_method_14_code (4 : Nat) (Option.none : Option Jvm.ClassFile.FieldType) ∈ am_tbl := am_mem (i := 1004) (by decide +kernel) rfl
theorem tw_1005 : Jvm.Cond.methodLink "BranchSumsModel" (64 : Nat) yX9_common ∈ am_tbl := am_mem (i := 1005) (by decide +kernel) rfl
theorem tw_1006 : Jvm.Cond.static yX9_common ∈ am_tbl := am_mem (i := 1006) (by decide +kernel) rfl
theorem tw_1007 : Jvm.Cond.code yX9_common prog_11_method_17_code (5 : Nat) (Option.some Jvm.ClassFile.FieldType.int) ∈ am_tbl := am_mem (i := 1007) (by decide +kernel) rfl
theorem tw_1008 : Jvm.Cond.methodLink "BranchSumsModel" (68 : Nat) yX9_holds ∈ am_tbl := am_mem (i := 1008) (by decide +kernel) rfl
theorem tw_1009 : Jvm.Cond.static yX9_holds ∈ am_tbl := am_mem (i := 1009) (by decide +kernel) rfl
theorem tw_1010 : Jvm.Cond.code yX9_holds prog_11_method_15_code (4 : Nat) (Option.some Jvm.ClassFile.FieldType.boolean) ∈ am_tbl := am_mem (i := 1010) (by decide +kernel) rfl
theorem tw_1014 : Jvm.Cond.code yX9_move prog_11_method_36_code (3 : Nat) (Option.some Jvm.ClassFile.FieldType.int) ∈ am_tbl := am_mem (i := 1014) (by decide +kernel) rfl
theorem tw_1015 : Jvm.Cond.methodLink "BranchSumsModel" (139 : Nat) yX9_canMove ∈ am_tbl := am_mem (i := 1015) (by decide +kernel) rfl
theorem tw_1017 : Jvm.Cond.instanceMethod yX9_canMove ∈ am_tbl := am_mem (i := 1017) (by decide +kernel) rfl
theorem tw_1018 : Jvm.Cond.code yX9_canMove prog_11_method_34_code (3 : Nat) (Option.some Jvm.ClassFile.FieldType.boolean) ∈ am_tbl := am_mem (i := 1018) (by decide +kernel) rfl
theorem tw_1019 : Jvm.Cond.methodLink "BranchSumsModel" (57 : Nat) yX9_isIn_ ∈ am_tbl := am_mem (i := 1019) (by decide +kernel) rfl
theorem tw_1021 : Jvm.Cond.instanceMethod yX9_isIn_ ∈ am_tbl := am_mem (i := 1021) (by decide +kernel) rfl
theorem tw_1022 : Jvm.Cond.code yX9_isIn_ prog_11_method_9_code (4 : Nat) (Option.some Jvm.ClassFile.FieldType.boolean) ∈ am_tbl := am_mem (i := 1022) (by decide +kernel) rfl
theorem tw_1023 : Jvm.Cond.methodLink "BranchSumsModel" (136 : Nat) yX9_height ∈ am_tbl := am_mem (i := 1023) (by decide +kernel) rfl
theorem tw_1025 : Jvm.Cond.instanceMethod yX9_height ∈ am_tbl := am_mem (i := 1025) (by decide +kernel) rfl
theorem tw_1026 : Jvm.Cond.code yX9_height prog_11_method_33_code (4 : Nat) (Option.some Jvm.ClassFile.FieldType.int) ∈ am_tbl := am_mem (i := 1026) (by decide +kernel) rfl
theorem tw_1027 : Jvm.Cond.methodLink "BranchSumsModel" (142 : Nat) yX9_moves ∈ am_tbl := am_mem (i := 1027) (by decide +kernel) rfl
theorem tw_1029 : Jvm.Cond.instanceMethod yX9_moves ∈ am_tbl := am_mem (i := 1029) (by decide +kernel) rfl
theorem tw_1030 : Jvm.Cond.code yX9_moves prog_11_method_35_code (3 : Nat) (Option.none : Option Jvm.ClassFile.FieldType) ∈ am_tbl := am_mem (i := 1030) (by decide +kernel) rfl
theorem tw_1031 : Jvm.Cond.methodLink "BranchSumsModel" (145 : Nat) yX9_branchMany ∈ am_tbl := am_mem (i := 1031) (by decide +kernel) rfl
theorem tw_1033 : Jvm.Cond.instanceMethod yX9_branchMany ∈ am_tbl := am_mem (i := 1033) (by decide +kernel) rfl
theorem tw_1034 : Jvm.Cond.code yX9_branchMany prog_11_method_10_code (4 : Nat) (Option.some Jvm.ClassFile.FieldType.int) ∈ am_tbl := am_mem (i := 1034) (by decide +kernel) rfl
theorem tw_1038 : Jvm.Cond.code yX9_give prog_11_method_38_code (8 : Nat) (Option.some Jvm.ClassFile.FieldType.int) ∈ am_tbl := am_mem (i := 1038) (by decide +kernel) rfl
theorem tw_1039 : Jvm.Cond.methodLink "BranchSumsModel" (148 : Nat) yX9_parted ∈ am_tbl := am_mem (i := 1039) (by decide +kernel) rfl
theorem tw_1041 : Jvm.Cond.instanceMethod yX9_parted ∈ am_tbl := am_mem (i := 1041) (by decide +kernel) rfl
theorem tw_1042 : Jvm.Cond.code yX9_parted prog_11_method_37_code (6 : Nat) (Option.some Jvm.ClassFile.FieldType.int) ∈ am_tbl := am_mem (i := 1042) (by decide +kernel) rfl
theorem tw_1043 : Jvm.Cond.methodLink "BranchSumsModel" (152 : Nat) yX9_all ∈ am_tbl := am_mem (i := 1043) (by decide +kernel) rfl
theorem tw_1044 : Jvm.Cond.static yX9_all ∈ am_tbl := am_mem (i := 1044) (by decide +kernel) rfl
theorem tw_1045 : Jvm.Cond.code yX9_all prog_11_method_18_code (3 : Nat) (Option.some Jvm.ClassFile.FieldType.int) ∈ am_tbl := am_mem (i := 1045) (by decide +kernel) rfl
theorem tw_1049 : Jvm.Cond.code yX9_roll prog_11_method_39_code (2 : Nat) (Option.some Jvm.ClassFile.FieldType.int) ∈ am_tbl := am_mem (i := 1049) (by decide +kernel) rfl
theorem tw_1050 : Jvm.Cond.methodLink "BranchSumsModel" (86 : Nat) yX9_rolls ∈ am_tbl := am_mem (i := 1050) (by decide +kernel) rfl
theorem tw_1052 : Jvm.Cond.instanceMethod yX9_rolls ∈ am_tbl := am_mem (i := 1052) (by decide +kernel) rfl
theorem tw_1053 : Jvm.Cond.code yX9_rolls prog_11_method_21_code (5 : Nat) (Option.some Jvm.ClassFile.FieldType.int) ∈ am_tbl := am_mem (i := 1053) (by decide +kernel) rfl
theorem tw_1054 : Jvm.Cond.methodLink "BranchSumsModel" (89 : Nat) yX9_keptPart ∈ am_tbl := am_mem (i := 1054) (by decide +kernel) rfl
theorem tw_1056 : Jvm.Cond.instanceMethod yX9_keptPart ∈ am_tbl := am_mem (i := 1056) (by decide +kernel) rfl
theorem tw_1057 : Jvm.Cond.code yX9_keptPart prog_11_method_20_code (6 : Nat) (Option.some Jvm.ClassFile.FieldType.int) ∈ am_tbl := am_mem (i := 1057) (by decide +kernel) rfl
theorem tw_1058 : Jvm.Cond.methodLink "BranchSumsModel" (83 : Nat) yX9_nodesAt ∈ am_tbl := am_mem (i := 1058) (by decide +kernel) rfl
theorem tw_1060 : Jvm.Cond.instanceMethod yX9_nodesAt ∈ am_tbl := am_mem (i := 1060) (by decide +kernel) rfl
theorem tw_1061 : Jvm.Cond.code yX9_nodesAt prog_11_method_19_code (2 : Nat) (Option.some Jvm.ClassFile.FieldType.int) ∈ am_tbl := am_mem (i := 1061) (by decide +kernel) rfl
theorem tw_1062 : Jvm.Cond.methodLink "BranchSumsModel" (76 : Nat) yX9_nodes ∈ am_tbl := am_mem (i := 1062) (by decide +kernel) rfl
theorem tw_1063 : Jvm.Cond.static yX9_nodes ∈ am_tbl := am_mem (i := 1063) (by decide +kernel) rfl
theorem tw_1064 : Jvm.Cond.code yX9_nodes prog_11_method_16_code (1 : Nat) (Option.some Jvm.ClassFile.FieldType.int) ∈ am_tbl := am_mem (i := 1064) (by decide +kernel) rfl
theorem tw_1065 : Jvm.Cond.methodLink "BranchSumsModel" (92 : Nat) yX9_merges ∈ am_tbl := am_mem (i := 1065) (by decide +kernel) rfl
theorem tw_1067 : Jvm.Cond.instanceMethod yX9_merges ∈ am_tbl := am_mem (i := 1067) (by decide +kernel) rfl
theorem tw_1068 : Jvm.Cond.code yX9_merges prog_11_method_24_code (4 : Nat) (Option.some Jvm.ClassFile.FieldType.int) ∈ am_tbl := am_mem (i := 1068) (by decide +kernel) rfl
theorem tw_1069 : Jvm.Cond.methodLink "BranchSumsModel" (99 : Nat) yX9_hasVersion ∈ am_tbl := am_mem (i := 1069) (by decide +kernel) rfl
theorem tw_1071 : Jvm.Cond.instanceMethod yX9_hasVersion ∈ am_tbl := am_mem (i := 1071) (by decide +kernel) rfl
theorem tw_1072 : Jvm.Cond.code yX9_hasVersion prog_11_method_23_code (3 : Nat) (Option.none : Option Jvm.ClassFile.FieldType) ∈ am_tbl := am_mem (i := 1072) (by decide +kernel) rfl
theorem tw_1073 : Jvm.Cond.methodLink "BranchSumsModel" (103 : Nat) yX9_versionAt ∈ am_tbl := am_mem (i := 1073) (by decide +kernel) rfl
theorem tw_1074 : Jvm.Cond.static yX9_versionAt ∈ am_tbl := am_mem (i := 1074) (by decide +kernel) rfl
theorem tw_1075 : Jvm.Cond.code yX9_versionAt prog_11_method_22_code (2 : Nat) (Option.some Jvm.ClassFile.FieldType.int) ∈ am_tbl := am_mem (i := 1075) (by decide +kernel) rfl
theorem tw_1079 : Jvm.Cond.code yX9_recode prog_11_method_41_code (6 : Nat) (Option.some Jvm.ClassFile.FieldType.int) ∈ am_tbl := am_mem (i := 1079) (by decide +kernel) rfl
theorem tw_1080 : Jvm.Cond.methodLink "BranchSumsModel" (155 : Nat) yX9_recodes ∈ am_tbl := am_mem (i := 1080) (by decide +kernel) rfl
theorem tw_1082 : Jvm.Cond.instanceMethod yX9_recodes ∈ am_tbl := am_mem (i := 1082) (by decide +kernel) rfl
theorem tw_1083 : Jvm.Cond.code yX9_recodes prog_11_method_40_code (6 : Nat) (Option.some Jvm.ClassFile.FieldType.int) ∈ am_tbl := am_mem (i := 1083) (by decide +kernel) rfl
theorem tw_1087 : Jvm.Cond.code yX9_limit prog_11_method_42_code (8 : Nat) (Option.some Jvm.ClassFile.FieldType.int) ∈ am_tbl := am_mem (i := 1087) (by decide +kernel) rfl
theorem tw_1088 : Jvm.Cond.constant "BranchSumsModel" (158 : Nat) (999999 : Int32) ∈ am_tbl := am_mem (i := 1088) (by decide +kernel) rfl
theorem tw_1090 : Jvm.Cond.instanceMethod yX9_broken ∈ am_tbl := am_mem (i := 1090) (by decide +kernel) rfl
theorem tw_1091 : Jvm.Cond.selects "BranchSumsModel" yX9_broken yX9_broken ∈ am_tbl := am_mem (i := 1091) (by decide +kernel) rfl
theorem tw_1092 : Jvm.Cond.code yX9_broken prog_11_method_44_code (5 : Nat) (Option.some Jvm.ClassFile.FieldType.int) ∈ am_tbl := am_mem (i := 1092) (by decide +kernel) rfl
theorem tw_1093 : Jvm.Cond.methodLink "BranchSumsModel" (159 : Nat) yX9_over ∈ am_tbl := am_mem (i := 1093) (by decide +kernel) rfl
theorem tw_1095 : Jvm.Cond.instanceMethod yX9_over ∈ am_tbl := am_mem (i := 1095) (by decide +kernel) rfl
theorem tw_1096 : Jvm.Cond.code yX9_over prog_11_method_43_code (5 : Nat) (Option.some Jvm.ClassFile.FieldType.int) ∈ am_tbl := am_mem (i := 1096) (by decide +kernel) rfl
theorem tw_1100 : Jvm.Cond.code yX9_state prog_11_method_45_code (3 : Nat) (Option.some Jvm.ClassFile.FieldType.int) ∈ am_tbl := am_mem (i := 1100) (by decide +kernel) rfl
theorem tw_1104 : Jvm.Cond.code yX9_feed prog_11_method_48_code (6 : Nat) (Option.some Jvm.ClassFile.FieldType.int) ∈ am_tbl := am_mem (i := 1104) (by decide +kernel) rfl
theorem tw_1105 : Jvm.Cond.methodLink "BranchSumsModel" (167 : Nat) yX9_comes_ ∈ am_tbl := am_mem (i := 1105) (by decide +kernel) rfl
theorem tw_1107 : Jvm.Cond.instanceMethod yX9_comes_ ∈ am_tbl := am_mem (i := 1107) (by decide +kernel) rfl
theorem tw_1108 : Jvm.Cond.code yX9_comes_ prog_11_method_47_code (3 : Nat) (Option.none : Option Jvm.ClassFile.FieldType) ∈ am_tbl := am_mem (i := 1108) (by decide +kernel) rfl
theorem tw_1112 : Jvm.Cond.code yX9_end prog_11_method_49_code (2 : Nat) (Option.some Jvm.ClassFile.FieldType.boolean) ∈ am_tbl := am_mem (i := 1112) (by decide +kernel) rfl
theorem tw_1116 : Jvm.Cond.code yX9_fault prog_11_method_50_code (2 : Nat) (Option.some Jvm.ClassFile.FieldType.int) ∈ am_tbl := am_mem (i := 1116) (by decide +kernel) rfl
theorem tw_1120 : Jvm.Cond.code yX9_text prog_11_method_59_code (3 : Nat) (Option.some Jvm.ClassFile.FieldType.int) ∈ am_tbl := am_mem (i := 1120) (by decide +kernel) rfl
theorem tw_1121 : Jvm.Cond.methodLink "BranchSumsModel" (205 : Nat) yX9_reads ∈ am_tbl := am_mem (i := 1121) (by decide +kernel) rfl
theorem tw_1123 : Jvm.Cond.instanceMethod yX9_reads ∈ am_tbl := am_mem (i := 1123) (by decide +kernel) rfl
theorem tw_1124 : Jvm.Cond.code yX9_reads prog_11_method_58_code (3 : Nat) (Option.none : Option Jvm.ClassFile.FieldType) ∈ am_tbl := am_mem (i := 1124) (by decide +kernel) rfl
theorem tw_1125 : Jvm.Cond.methodLink "BranchSumsModel" (196 : Nat) yX9_number ∈ am_tbl := am_mem (i := 1125) (by decide +kernel) rfl
theorem tw_1127 : Jvm.Cond.instanceMethod yX9_number ∈ am_tbl := am_mem (i := 1127) (by decide +kernel) rfl
theorem tw_1128 : Jvm.Cond.code yX9_number prog_11_method_55_code (5 : Nat) (Option.some Jvm.ClassFile.FieldType.int) ∈ am_tbl := am_mem (i := 1128) (by decide +kernel) rfl
theorem tw_1129 : Jvm.Cond.methodLink "BranchSumsModel" (186 : Nat) yX9_isDigitNext ∈ am_tbl := am_mem (i := 1129) (by decide +kernel) rfl
theorem tw_1131 : Jvm.Cond.instanceMethod yX9_isDigitNext ∈ am_tbl := am_mem (i := 1131) (by decide +kernel) rfl
theorem tw_1132 : Jvm.Cond.code yX9_isDigitNext prog_11_method_53_code (2 : Nat) (Option.some Jvm.ClassFile.FieldType.boolean) ∈ am_tbl := am_mem (i := 1132) (by decide +kernel) rfl
theorem tw_1133 : Jvm.Cond.methodLink "BranchSumsModel" (180 : Nat) yX9_isNext ∈ am_tbl := am_mem (i := 1133) (by decide +kernel) rfl
theorem tw_1135 : Jvm.Cond.instanceMethod yX9_isNext ∈ am_tbl := am_mem (i := 1135) (by decide +kernel) rfl
theorem tw_1136 : Jvm.Cond.code yX9_isNext prog_11_method_52_code (2 : Nat) (Option.some Jvm.ClassFile.FieldType.boolean) ∈ am_tbl := am_mem (i := 1136) (by decide +kernel) rfl
theorem tw_1137 : Jvm.Cond.methodLink "BranchSumsModel" (183 : Nat) yX9_wrong ∈ am_tbl := am_mem (i := 1137) (by decide +kernel) rfl
theorem tw_1139 : Jvm.Cond.instanceMethod yX9_wrong ∈ am_tbl := am_mem (i := 1139) (by decide +kernel) rfl
theorem tw_1140 : Jvm.Cond.code yX9_wrong prog_11_method_51_code (3 : Nat) (Option.none : Option Jvm.ClassFile.FieldType) ∈ am_tbl := am_mem (i := 1140) (by decide +kernel) rfl
theorem tw_1141 : Jvm.Cond.methodLink "BranchSumsModel" (199 : Nat) yX9_unitsBelow ∈ am_tbl := am_mem (i := 1141) (by decide +kernel) rfl
theorem tw_1143 : Jvm.Cond.instanceMethod yX9_unitsBelow ∈ am_tbl := am_mem (i := 1143) (by decide +kernel) rfl
theorem tw_1144 : Jvm.Cond.code yX9_unitsBelow prog_11_method_56_code (5 : Nat) (Option.none : Option Jvm.ClassFile.FieldType) ∈ am_tbl := am_mem (i := 1144) (by decide +kernel) rfl
theorem tw_1145 : Jvm.Cond.methodLink "BranchSumsModel" (193 : Nat) yX9_must ∈ am_tbl := am_mem (i := 1145) (by decide +kernel) rfl
theorem tw_1147 : Jvm.Cond.instanceMethod yX9_must ∈ am_tbl := am_mem (i := 1147) (by decide +kernel) rfl
theorem tw_1148 : Jvm.Cond.code yX9_must prog_11_method_54_code (2 : Nat) (Option.none : Option Jvm.ClassFile.FieldType) ∈ am_tbl := am_mem (i := 1148) (by decide +kernel) rfl
theorem tw_1149 : Jvm.Cond.methodLink "BranchSumsModel" (202 : Nat) yX9_entry ∈ am_tbl := am_mem (i := 1149) (by decide +kernel) rfl
theorem tw_1151 : Jvm.Cond.instanceMethod yX9_entry ∈ am_tbl := am_mem (i := 1151) (by decide +kernel) rfl
theorem tw_1152 : Jvm.Cond.code yX9_entry prog_11_method_57_code (5 : Nat) (Option.none : Option Jvm.ClassFile.FieldType) ∈ am_tbl := am_mem (i := 1152) (by decide +kernel) rfl
theorem tw_1153 : Jvm.Cond.methodLink "BranchSumsModel" (208 : Nat) yX9_comesBack ∈ am_tbl := am_mem (i := 1153) (by decide +kernel) rfl
theorem tw_1155 : Jvm.Cond.instanceMethod yX9_comesBack ∈ am_tbl := am_mem (i := 1155) (by decide +kernel) rfl
theorem tw_1156 : Jvm.Cond.code yX9_comesBack prog_11_method_60_code (2 : Nat) (Option.none : Option Jvm.ClassFile.FieldType) ∈ am_tbl := am_mem (i := 1156) (by decide +kernel) rfl
theorem tw_1157 : Jvm.Cond.methodLink "BranchSumsModel" (211 : Nat) yX9_keepsAside ∈ am_tbl := am_mem (i := 1157) (by decide +kernel) rfl
theorem tw_1159 : Jvm.Cond.instanceMethod yX9_keepsAside ∈ am_tbl := am_mem (i := 1159) (by decide +kernel) rfl
theorem tw_1160 : Jvm.Cond.code yX9_keepsAside prog_11_method_61_code (2 : Nat) (Option.none : Option Jvm.ClassFile.FieldType) ∈ am_tbl := am_mem (i := 1160) (by decide +kernel) rfl
theorem tw_1164 : Jvm.Cond.code yX9_unit prog_11_method_64_code (3 : Nat) (Option.some Jvm.ClassFile.FieldType.int) ∈ am_tbl := am_mem (i := 1164) (by decide +kernel) rfl
theorem tw_1165 : Jvm.Cond.methodLink "BranchSumsModel" (217 : Nat) yX9_isRight ∈ am_tbl := am_mem (i := 1165) (by decide +kernel) rfl
theorem tw_1167 : Jvm.Cond.instanceMethod yX9_isRight ∈ am_tbl := am_mem (i := 1167) (by decide +kernel) rfl
theorem tw_1168 : Jvm.Cond.code yX9_isRight prog_11_method_63_code (3 : Nat) (Option.some Jvm.ClassFile.FieldType.boolean) ∈ am_tbl := am_mem (i := 1168) (by decide +kernel) rfl
theorem tw_1169 : Jvm.Cond.methodLink "BranchSumsModel" (214 : Nat) yX9_laysBranch ∈ am_tbl := am_mem (i := 1169) (by decide +kernel) rfl
theorem tw_1171 : Jvm.Cond.instanceMethod yX9_laysBranch ∈ am_tbl := am_mem (i := 1171) (by decide +kernel) rfl
theorem tw_1172 : Jvm.Cond.code yX9_laysBranch prog_11_method_13_code (5 : Nat) (Option.none : Option Jvm.ClassFile.FieldType) ∈ am_tbl := am_mem (i := 1172) (by decide +kernel) rfl
theorem tw_1173 : Jvm.Cond.methodLink "BranchSumsModel" (220 : Nat) yX9_positive ∈ am_tbl := am_mem (i := 1173) (by decide +kernel) rfl
theorem tw_1175 : Jvm.Cond.instanceMethod yX9_positive ∈ am_tbl := am_mem (i := 1175) (by decide +kernel) rfl
theorem tw_1176 : Jvm.Cond.code yX9_positive prog_11_method_62_code (4 : Nat) (Option.some Jvm.ClassFile.FieldType.int) ∈ am_tbl := am_mem (i := 1176) (by decide +kernel) rfl
theorem tw_1178 : Jvm.Cond.instanceMethod yX9_below ∈ am_tbl := am_mem (i := 1178) (by decide +kernel) rfl
theorem tw_1179 : Jvm.Cond.selects "BranchSumsModel" yX9_below yX9_below ∈ am_tbl := am_mem (i := 1179) (by decide +kernel) rfl
theorem tw_1180 : Jvm.Cond.code yX9_below prog_11_method_65_code (5 : Nat) (Option.some Jvm.ClassFile.FieldType.int) ∈ am_tbl := am_mem (i := 1180) (by decide +kernel) rfl
theorem tw_1184 : Jvm.Cond.code yX9_above prog_11_method_66_code (5 : Nat) (Option.some Jvm.ClassFile.FieldType.int) ∈ am_tbl := am_mem (i := 1184) (by decide +kernel) rfl
theorem tw_1186 : Jvm.Cond.instanceMethod yX9_both ∈ am_tbl := am_mem (i := 1186) (by decide +kernel) rfl
theorem tw_1187 : Jvm.Cond.selects "BranchSumsModel" yX9_both yX9_both ∈ am_tbl := am_mem (i := 1187) (by decide +kernel) rfl
theorem tw_1188 : Jvm.Cond.code yX9_both prog_11_method_67_code (4 : Nat) (Option.some Jvm.ClassFile.FieldType.int) ∈ am_tbl := am_mem (i := 1188) (by decide +kernel) rfl
theorem tw_1192 : Jvm.Cond.code yX9_of prog_11_method_68_code (4 : Nat) (Option.some Jvm.ClassFile.FieldType.int) ∈ am_tbl := am_mem (i := 1192) (by decide +kernel) rfl
theorem tw_1196 : Jvm.Cond.code yX9_ranked prog_11_method_71_code (3 : Nat) (Option.some Jvm.ClassFile.FieldType.int) ∈ am_tbl := am_mem (i := 1196) (by decide +kernel) rfl
theorem tw_1197 : Jvm.Cond.methodLink "BranchSumsModel" (223 : Nat) yX9_rankedIn ∈ am_tbl := am_mem (i := 1197) (by decide +kernel) rfl
theorem tw_1199 : Jvm.Cond.instanceMethod yX9_rankedIn ∈ am_tbl := am_mem (i := 1199) (by decide +kernel) rfl
theorem tw_1200 : Jvm.Cond.code yX9_rankedIn prog_11_method_69_code (5 : Nat) (Option.some Jvm.ClassFile.FieldType.int) ∈ am_tbl := am_mem (i := 1200) (by decide +kernel) rfl
theorem tw_1204 : Jvm.Cond.code yX9_less prog_11_method_72_code (5 : Nat) (Option.some Jvm.ClassFile.FieldType.int) ∈ am_tbl := am_mem (i := 1204) (by decide +kernel) rfl
theorem tw_1208 : Jvm.Cond.code yX9_leader prog_11_method_75_code (5 : Nat) (Option.some Jvm.ClassFile.FieldType.int) ∈ am_tbl := am_mem (i := 1208) (by decide +kernel) rfl
theorem tw_1209 : Jvm.Cond.methodLink "BranchSumsModel" (229 : Nat) yX9_leaderOf ∈ am_tbl := am_mem (i := 1209) (by decide +kernel) rfl
theorem tw_1211 : Jvm.Cond.instanceMethod yX9_leaderOf ∈ am_tbl := am_mem (i := 1211) (by decide +kernel) rfl
theorem tw_1212 : Jvm.Cond.code yX9_leaderOf prog_11_method_74_code (6 : Nat) (Option.some Jvm.ClassFile.FieldType.int) ∈ am_tbl := am_mem (i := 1212) (by decide +kernel) rfl
theorem tw_1213 : Jvm.Cond.methodLink "BranchSumsModel" (226 : Nat) yX9_leadsAhead ∈ am_tbl := am_mem (i := 1213) (by decide +kernel) rfl
theorem tw_1215 : Jvm.Cond.instanceMethod yX9_leadsAhead ∈ am_tbl := am_mem (i := 1215) (by decide +kernel) rfl
theorem tw_1216 : Jvm.Cond.code yX9_leadsAhead prog_11_method_73_code (6 : Nat) (Option.some Jvm.ClassFile.FieldType.boolean) ∈ am_tbl := am_mem (i := 1216) (by decide +kernel) rfl
theorem tw_1220 : Jvm.Cond.code yX9_median prog_11_method_76_code (2 : Nat) (Option.some Jvm.ClassFile.FieldType.int) ∈ am_tbl := am_mem (i := 1220) (by decide +kernel) rfl
theorem tw_1221 : Jvm.Cond.methodLink "BranchSumsModel" (232 : Nat) yX9_allOf ∈ am_tbl := am_mem (i := 1221) (by decide +kernel) rfl
theorem tw_1223 : Jvm.Cond.instanceMethod yX9_allOf ∈ am_tbl := am_mem (i := 1223) (by decide +kernel) rfl
theorem tw_1224 : Jvm.Cond.code yX9_allOf prog_11_method_70_code (2 : Nat) (Option.some Jvm.ClassFile.FieldType.int) ∈ am_tbl := am_mem (i := 1224) (by decide +kernel) rfl
theorem tw_1228 : Jvm.Cond.code yX9_heavy prog_11_method_77_code (7 : Nat) (Option.some Jvm.ClassFile.FieldType.long) ∈ am_tbl := am_mem (i := 1228) (by decide +kernel) rfl
theorem tw_1229 : Jvm.Cond.constantLong "BranchSumsModel" (235 : Nat) (100 : Int64) ∈ am_tbl := am_mem (i := 1229) (by decide +kernel) rfl
theorem tw_1233 : Jvm.Cond.code yX9_squares prog_11_method_78_code (5 : Nat) (Option.some Jvm.ClassFile.FieldType.long) ∈ am_tbl := am_mem (i := 1233) (by decide +kernel) rfl
theorem tw_1234 : Jvm.Cond.constantLong "BranchSumsModel" (237 : Nat) (-1 : Int64) ∈ am_tbl := am_mem (i := 1234) (by decide +kernel) rfl
theorem tw_1238 : Jvm.Cond.code yX9_seats_ prog_11_method_80_code (5 : Nat) (Option.some Jvm.ClassFile.FieldType.int) ∈ am_tbl := am_mem (i := 1238) (by decide +kernel) rfl
theorem tw_1239 : Jvm.Cond.methodLink "BranchSumsModel" (239 : Nat) yX9_seats ∈ am_tbl := am_mem (i := 1239) (by decide +kernel) rfl
theorem tw_1241 : Jvm.Cond.instanceMethod yX9_seats ∈ am_tbl := am_mem (i := 1241) (by decide +kernel) rfl
theorem tw_1242 : Jvm.Cond.code yX9_seats prog_11_method_79_code (6 : Nat) (Option.none : Option Jvm.ClassFile.FieldType) ∈ am_tbl := am_mem (i := 1242) (by decide +kernel) rfl
theorem tw_1246 : Jvm.Cond.code yX9_versions prog_11_method_82_code (2 : Nat) (Option.some Jvm.ClassFile.FieldType.int) ∈ am_tbl := am_mem (i := 1246) (by decide +kernel) rfl
theorem tw_1250 : Jvm.Cond.code yX9_was prog_11_method_83_code (4 : Nat) (Option.some Jvm.ClassFile.FieldType.int) ∈ am_tbl := am_mem (i := 1250) (by decide +kernel) rfl
theorem tw_1254 : Jvm.Cond.code yX9_grew prog_11_method_84_code (8 : Nat) (Option.some Jvm.ClassFile.FieldType.int) ∈ am_tbl := am_mem (i := 1254) (by decide +kernel) rfl
theorem tw_1255 : Jvm.Cond.constant "BranchSumsModel" (242 : Nat) (-100000 : Int32) ∈ am_tbl := am_mem (i := 1255) (by decide +kernel) rfl
theorem tw_1259 : Jvm.Cond.code yX9_halves prog_11_method_85_code (10 : Nat) (Option.some Jvm.ClassFile.FieldType.int) ∈ am_tbl := am_mem (i := 1259) (by decide +kernel) rfl
theorem tw_1260 : Jvm.Cond.methodLink "BranchSumsModel" (243 : Nat) yX9_below ∈ am_tbl := am_mem (i := 1260) (by decide +kernel) rfl
theorem tw_1264 : Jvm.Cond.code yX9_chain prog_11_method_87_code (7 : Nat) (Option.some Jvm.ClassFile.FieldType.int) ∈ am_tbl := am_mem (i := 1264) (by decide +kernel) rfl
theorem tw_1265 : Jvm.Cond.methodLink "BranchSumsModel" (249 : Nat) yX9_isBetween ∈ am_tbl := am_mem (i := 1265) (by decide +kernel) rfl
theorem tw_1267 : Jvm.Cond.instanceMethod yX9_isBetween ∈ am_tbl := am_mem (i := 1267) (by decide +kernel) rfl
theorem tw_1268 : Jvm.Cond.code yX9_isBetween prog_11_method_86_code (4 : Nat) (Option.some Jvm.ClassFile.FieldType.boolean) ∈ am_tbl := am_mem (i := 1268) (by decide +kernel) rfl
theorem tw_1269 : Jvm.Cond.methodLink "BranchSumsModel" (246 : Nat) yX9_both ∈ am_tbl := am_mem (i := 1269) (by decide +kernel) rfl
theorem tw_1273 : Jvm.Cond.code yX9_hops prog_11_method_88_code (5 : Nat) (Option.some Jvm.ClassFile.FieldType.int) ∈ am_tbl := am_mem (i := 1273) (by decide +kernel) rfl
theorem tw_1277 : Jvm.Cond.code yX9_drawn prog_11_method_89_code (9 : Nat) (Option.some Jvm.ClassFile.FieldType.int) ∈ am_tbl := am_mem (i := 1277) (by decide +kernel) rfl
theorem tw_1278 : Jvm.Cond.methodLink "BranchSumsModel" (252 : Nat) yX9_draw ∈ am_tbl := am_mem (i := 1278) (by decide +kernel) rfl
theorem tw_1280 : Jvm.Cond.instanceMethod yX9_draw ∈ am_tbl := am_mem (i := 1280) (by decide +kernel) rfl
theorem tw_1281 : Jvm.Cond.code yX9_draw prog_11_method_46_code (2 : Nat) (Option.some Jvm.ClassFile.FieldType.int) ∈ am_tbl := am_mem (i := 1281) (by decide +kernel) rfl
theorem tw_1282 : Jvm.Cond.constant "BranchSumsModel" (162 : Nat) (1664525 : Int32) ∈ am_tbl := am_mem (i := 1282) (by decide +kernel) rfl
theorem tw_1283 : Jvm.Cond.constant "BranchSumsModel" (163 : Nat) (1013904223 : Int32) ∈ am_tbl := am_mem (i := 1283) (by decide +kernel) rfl
theorem tw_1287 : Jvm.Cond.code yX9_percent prog_11_method_90_code (9 : Nat) (Option.some Jvm.ClassFile.FieldType.int) ∈ am_tbl := am_mem (i := 1287) (by decide +kernel) rfl
theorem tw_1291 : Jvm.Cond.code yX9_quantile prog_11_method_92_code (6 : Nat) (Option.some Jvm.ClassFile.FieldType.int) ∈ am_tbl := am_mem (i := 1291) (by decide +kernel) rfl
theorem tw_1292 : Jvm.Cond.methodLink "BranchSumsModel" (255 : Nat) yX9_isPart ∈ am_tbl := am_mem (i := 1292) (by decide +kernel) rfl
theorem tw_1294 : Jvm.Cond.instanceMethod yX9_isPart ∈ am_tbl := am_mem (i := 1294) (by decide +kernel) rfl
theorem tw_1295 : Jvm.Cond.code yX9_isPart prog_11_method_91_code (3 : Nat) (Option.some Jvm.ClassFile.FieldType.boolean) ∈ am_tbl := am_mem (i := 1295) (by decide +kernel) rfl
theorem tw_1299 : Jvm.Cond.code yX9_few prog_11_method_93_code (6 : Nat) (Option.some Jvm.ClassFile.FieldType.int) ∈ am_tbl := am_mem (i := 1299) (by decide +kernel) rfl
theorem tw_1303 : Jvm.Cond.code yX9_run prog_11_method_96_code (6 : Nat) (Option.some Jvm.ClassFile.FieldType.int) ∈ am_tbl := am_mem (i := 1303) (by decide +kernel) rfl
theorem tw_1304 : Jvm.Cond.methodLink "BranchSumsModel" (258 : Nat) yX9_laysRuns ∈ am_tbl := am_mem (i := 1304) (by decide +kernel) rfl
theorem tw_1306 : Jvm.Cond.instanceMethod yX9_laysRuns ∈ am_tbl := am_mem (i := 1306) (by decide +kernel) rfl
theorem tw_1307 : Jvm.Cond.code yX9_laysRuns prog_11_method_94_code (5 : Nat) (Option.some Jvm.ClassFile.FieldType.int) ∈ am_tbl := am_mem (i := 1307) (by decide +kernel) rfl
theorem tw_1308 : Jvm.Cond.methodLink "BranchSumsModel" (261 : Nat) yX9_bestRun ∈ am_tbl := am_mem (i := 1308) (by decide +kernel) rfl
theorem tw_1310 : Jvm.Cond.instanceMethod yX9_bestRun ∈ am_tbl := am_mem (i := 1310) (by decide +kernel) rfl
theorem tw_1311 : Jvm.Cond.code yX9_bestRun prog_11_method_95_code (7 : Nat) (Option.some Jvm.ClassFile.FieldType.int) ∈ am_tbl := am_mem (i := 1311) (by decide +kernel) rfl
theorem tw_1315 : Jvm.Cond.code yX9_twin prog_11_method_97_code (4 : Nat) (Option.some Jvm.ClassFile.FieldType.int) ∈ am_tbl := am_mem (i := 1315) (by decide +kernel) rfl
theorem tw_1316 : Jvm.Cond.methodLink "BranchSumsModel" (265 : Nat) yX9_unlike_ ∈ am_tbl := am_mem (i := 1316) (by decide +kernel) rfl
theorem tw_1317 : Jvm.Cond.instanceMethod yX9_unlike_ ∈ am_tbl := am_mem (i := 1317) (by decide +kernel) rfl
theorem tw_1318 : Jvm.Cond.selects "BranchSumsModel" yX9_unlike_ yX9_unlike_ ∈ am_tbl := am_mem (i := 1318) (by decide +kernel) rfl
theorem tw_1319 : Jvm.Cond.code yX9_unlike_ prog_11_method_102_code (3 : Nat) (Option.some Jvm.ClassFile.FieldType.int) ∈ am_tbl := am_mem (i := 1319) (by decide +kernel) rfl
theorem tw_1320 : Jvm.Cond.methodLink "BranchSumsModel" (277 : Nat) yX9_unlike ∈ am_tbl := am_mem (i := 1320) (by decide +kernel) rfl
theorem tw_1321 : Jvm.Cond.static yX9_unlike ∈ am_tbl := am_mem (i := 1321) (by decide +kernel) rfl
theorem tw_1322 : Jvm.Cond.code yX9_unlike prog_11_method_81_code (4 : Nat) (Option.some Jvm.ClassFile.FieldType.int) ∈ am_tbl := am_mem (i := 1322) (by decide +kernel) rfl
theorem tw_1326 : Jvm.Cond.code yX9_report prog_11_method_100_code (5 : Nat) (Option.some Jvm.ClassFile.FieldType.int) ∈ am_tbl := am_mem (i := 1326) (by decide +kernel) rfl
theorem tw_1327 : Jvm.Cond.methodLink "BranchSumsModel" (271 : Nat) yX9_saysNumber ∈ am_tbl := am_mem (i := 1327) (by decide +kernel) rfl
theorem tw_1329 : Jvm.Cond.instanceMethod yX9_saysNumber ∈ am_tbl := am_mem (i := 1329) (by decide +kernel) rfl
theorem tw_1330 : Jvm.Cond.code yX9_saysNumber prog_11_method_99_code (2 : Nat) (Option.none : Option Jvm.ClassFile.FieldType) ∈ am_tbl := am_mem (i := 1330) (by decide +kernel) rfl
theorem tw_1331 : Jvm.Cond.methodLink "BranchSumsModel" (274 : Nat) yX9_says ∈ am_tbl := am_mem (i := 1331) (by decide +kernel) rfl
theorem tw_1333 : Jvm.Cond.instanceMethod yX9_says ∈ am_tbl := am_mem (i := 1333) (by decide +kernel) rfl
theorem tw_1334 : Jvm.Cond.code yX9_says prog_11_method_98_code (2 : Nat) (Option.none : Option Jvm.ClassFile.FieldType) ∈ am_tbl := am_mem (i := 1334) (by decide +kernel) rfl
theorem tw_1338 : Jvm.Cond.code yX9_sign prog_11_method_101_code (2 : Nat) (Option.some Jvm.ClassFile.FieldType.int) ∈ am_tbl := am_mem (i := 1338) (by decide +kernel) rfl
theorem tw_1343 : Jvm.Cond.code yX9_shared prog_11_method_103_code (7 : Nat) (Option.some Jvm.ClassFile.FieldType.int) ∈ am_tbl := am_mem (i := 1343) (by decide +kernel) rfl
theorem tw_1347 : Jvm.Cond.code yX9_leads prog_11_method_104_code (4 : Nat) (Option.some Jvm.ClassFile.FieldType.int) ∈ am_tbl := am_mem (i := 1347) (by decide +kernel) rfl
theorem tw_1351 : Jvm.Cond.code yX9_where prog_11_method_105_code (5 : Nat) (Option.some Jvm.ClassFile.FieldType.int) ∈ am_tbl := am_mem (i := 1351) (by decide +kernel) rfl
theorem tw_1355 : Jvm.Cond.code yX9_cost prog_11_method_106_code (3 : Nat) (Option.some Jvm.ClassFile.FieldType.int) ∈ am_tbl := am_mem (i := 1355) (by decide +kernel) rfl
theorem tw_1359 : Jvm.Cond.code yX9_would prog_11_method_107_code (9 : Nat) (Option.some Jvm.ClassFile.FieldType.int) ∈ am_tbl := am_mem (i := 1359) (by decide +kernel) rfl
theorem tw_1360 : Jvm.Cond.methodLink "BranchSumsModel" (279 : Nat) yX9_staleOnes ∈ am_tbl := am_mem (i := 1360) (by decide +kernel) rfl
theorem tw_1362 : Jvm.Cond.instanceMethod yX9_staleOnes ∈ am_tbl := am_mem (i := 1362) (by decide +kernel) rfl
theorem tw_1363 : Jvm.Cond.code yX9_staleOnes prog_11_method_111_code (3 : Nat) (Option.some Jvm.ClassFile.FieldType.int) ∈ am_tbl := am_mem (i := 1363) (by decide +kernel) rfl
theorem tw_1367 : Jvm.Cond.code yX9_home prog_11_method_108_code (6 : Nat) (Option.some Jvm.ClassFile.FieldType.int) ∈ am_tbl := am_mem (i := 1367) (by decide +kernel) rfl
theorem tw_1371 : Jvm.Cond.code yX9_count prog_11_method_109_code (2 : Nat) (Option.some Jvm.ClassFile.FieldType.int) ∈ am_tbl := am_mem (i := 1371) (by decide +kernel) rfl
theorem tw_1375 : Jvm.Cond.code yX9_image prog_11_method_110_code (3 : Nat) (Option.some Jvm.ClassFile.FieldType.boolean) ∈ am_tbl := am_mem (i := 1375) (by decide +kernel) rfl
theorem tw_1379 : Jvm.Cond.code yX9_look prog_11_method_116_code (2 : Nat) (Option.some Jvm.ClassFile.FieldType.int) ∈ am_tbl := am_mem (i := 1379) (by decide +kernel) rfl
theorem tw_1380 : Jvm.Cond.methodLink "BranchSumsModel" (286 : Nat) yX9_there ∈ am_tbl := am_mem (i := 1380) (by decide +kernel) rfl
theorem tw_1382 : Jvm.Cond.instanceMethod yX9_there ∈ am_tbl := am_mem (i := 1382) (by decide +kernel) rfl
theorem tw_1383 : Jvm.Cond.code yX9_there prog_11_method_113_code (3 : Nat) (Option.some Jvm.ClassFile.FieldType.int) ∈ am_tbl := am_mem (i := 1383) (by decide +kernel) rfl
theorem tw_1384 : Jvm.Cond.methodLink "BranchSumsModel" (289 : Nat) yX9_rightOnes ∈ am_tbl := am_mem (i := 1384) (by decide +kernel) rfl
theorem tw_1386 : Jvm.Cond.instanceMethod yX9_rightOnes ∈ am_tbl := am_mem (i := 1386) (by decide +kernel) rfl
theorem tw_1387 : Jvm.Cond.code yX9_rightOnes prog_11_method_112_code (3 : Nat) (Option.some Jvm.ClassFile.FieldType.int) ∈ am_tbl := am_mem (i := 1387) (by decide +kernel) rfl
theorem tw_1388 : Jvm.Cond.methodLink "BranchSumsModel" (292 : Nat) yX9_deepest ∈ am_tbl := am_mem (i := 1388) (by decide +kernel) rfl
theorem tw_1390 : Jvm.Cond.instanceMethod yX9_deepest ∈ am_tbl := am_mem (i := 1390) (by decide +kernel) rfl
theorem tw_1391 : Jvm.Cond.code yX9_deepest prog_11_method_114_code (3 : Nat) (Option.some Jvm.ClassFile.FieldType.int) ∈ am_tbl := am_mem (i := 1391) (by decide +kernel) rfl
theorem tw_1392 : Jvm.Cond.methodLink "BranchSumsModel" (295 : Nat) yX9_sumNodes ∈ am_tbl := am_mem (i := 1392) (by decide +kernel) rfl
theorem tw_1394 : Jvm.Cond.instanceMethod yX9_sumNodes ∈ am_tbl := am_mem (i := 1394) (by decide +kernel) rfl
theorem tw_1395 : Jvm.Cond.code yX9_sumNodes prog_11_method_115_code (3 : Nat) (Option.some Jvm.ClassFile.FieldType.int) ∈ am_tbl := am_mem (i := 1395) (by decide +kernel) rfl
theorem tw_1396 : Jvm.Cond.methodLink "BranchSumsModel" (298 : Nat) yX9_broken ∈ am_tbl := am_mem (i := 1396) (by decide +kernel) rfl
theorem tw_1397 : Jvm.Cond.methodLink "BranchSumsModel" (301 : Nat) yX9_unlikeOnes ∈ am_tbl := am_mem (i := 1397) (by decide +kernel) rfl
theorem tw_1399 : Jvm.Cond.instanceMethod yX9_unlikeOnes ∈ am_tbl := am_mem (i := 1399) (by decide +kernel) rfl
theorem tw_1400 : Jvm.Cond.code yX9_unlikeOnes prog_11_method_117_code (4 : Nat) (Option.some Jvm.ClassFile.FieldType.int) ∈ am_tbl := am_mem (i := 1400) (by decide +kernel) rfl
theorem ts_0 : Jvm.Cond.selects "BranchSums$Roller" yX4_rollBranch yX4_rollBranch ∈ am_tbl := am_memS (i := 0) (by decide +kernel) rfl
theorem ts_1 : Jvm.Cond.selects "BranchSums$Roller" yX4_mergeParts yX4_mergeParts ∈ am_tbl := am_memS (i := 1) (by decide +kernel) rfl
theorem ts_2 : Jvm.Cond.selects "BranchSums$Roller" yX4_mergeIn yX4_mergeIn ∈ am_tbl := am_memS (i := 2) (by decide +kernel) rfl
theorem ts_3 : Jvm.Cond.selects "BranchSums" yX8_recodeOwn yX8_recodeOwn ∈ am_tbl := am_memS (i := 3) (by decide +kernel) rfl
theorem ts_4 : Jvm.Cond.selects "BranchSums$Tape" yX7_readHead yX7_readHead ∈ am_tbl := am_memS (i := 4) (by decide +kernel) rfl
theorem ts_5 : Jvm.Cond.selects "BranchSums$Tape" yX7_readNumber yX7_readNumber ∈ am_tbl := am_memS (i := 5) (by decide +kernel) rfl
theorem ts_6 : Jvm.Cond.selects "BranchSums$Tape" yX7_nextSign yX7_nextSign ∈ am_tbl := am_memS (i := 6) (by decide +kernel) rfl
theorem ts_7 : Jvm.Cond.selects "BranchSums$Tape" yX7_refuse yX7_refuse ∈ am_tbl := am_memS (i := 7) (by decide +kernel) rfl
theorem ts_8 : Jvm.Cond.selects "BranchSums$Tape" yX7_readUnits yX7_readUnits ∈ am_tbl := am_memS (i := 8) (by decide +kernel) rfl
theorem ts_9 : Jvm.Cond.selects "BranchSums$Tape" yX7_readUnit yX7_readUnit ∈ am_tbl := am_memS (i := 9) (by decide +kernel) rfl
theorem ts_10 : Jvm.Cond.selects "BranchSums$Tape" yX7_readEntries yX7_readEntries ∈ am_tbl := am_memS (i := 10) (by decide +kernel) rfl
theorem ts_11 : Jvm.Cond.selects "BranchSums$Tape" yX7_takeSign yX7_takeSign ∈ am_tbl := am_memS (i := 11) (by decide +kernel) rfl
theorem ts_12 : Jvm.Cond.selects "BranchSums$Tape" yX7_readEntry yX7_readEntry ∈ am_tbl := am_memS (i := 12) (by decide +kernel) rfl
theorem ts_13 : Jvm.Cond.selects "BranchSums$Tape" yX7_readAmount yX7_readAmount ∈ am_tbl := am_memS (i := 13) (by decide +kernel) rfl
theorem ts_14 : Jvm.Cond.selects "BranchSums$Book" yX0_limitAt yX0_limitAt ∈ am_tbl := am_memS (i := 14) (by decide +kernel) rfl
theorem ts_15 : Jvm.Cond.selects "BranchSums" yX8_brokenCount yX8_brokenCount ∈ am_tbl := am_memS (i := 15) (by decide +kernel) rfl
theorem ts_16 : Jvm.Cond.selects "BranchSums" yX8_excessOver yX8_excessOver ∈ am_tbl := am_memS (i := 16) (by decide +kernel) rfl
theorem ts_17 : Jvm.Cond.selects "BranchSums" yX8_branchSumOf yX8_branchSumOf ∈ am_tbl := am_memS (i := 17) (by decide +kernel) rfl
theorem ts_18 : Jvm.Cond.selects "BranchSums$Report" yX3_putNumber yX3_putNumber ∈ am_tbl := am_memS (i := 18) (by decide +kernel) rfl
theorem ts_19 : Jvm.Cond.selects "BranchSums$Report" yX3_put yX3_put ∈ am_tbl := am_memS (i := 19) (by decide +kernel) rfl
theorem ts_20 : Jvm.Cond.selects "BranchSums" yX8_otherLeaders yX8_otherLeaders ∈ am_tbl := am_memS (i := 20) (by decide +kernel) rfl
theorem ts_21 : Jvm.Cond.selects "BranchSums" yX8_apartFromHome yX8_apartFromHome ∈ am_tbl := am_memS (i := 21) (by decide +kernel) rfl
theorem ts_22 : Jvm.Cond.selects "BranchSums" yX8_rightSet yX8_rightSet ∈ am_tbl := am_memS (i := 22) (by decide +kernel) rfl
theorem ts_23 : Jvm.Cond.selects "BranchSums" yX8_ownEntries yX8_ownEntries ∈ am_tbl := am_memS (i := 23) (by decide +kernel) rfl
theorem ts_24 : Jvm.Cond.selects "BranchSums" yX8_sumNodes yX8_sumNodes ∈ am_tbl := am_memS (i := 24) (by decide +kernel) rfl
theorem ts_25 : Jvm.Cond.selects "BranchSums" yX8_unusedCategories yX8_unusedCategories ∈ am_tbl := am_memS (i := 25) (by decide +kernel) rfl
theorem ts_26 : Jvm.Cond.selects "BranchSums" yX8_apartFromImage yX8_apartFromImage ∈ am_tbl := am_memS (i := 26) (by decide +kernel) rfl
theorem ts_27 : Jvm.Cond.selects "BranchSumsModel" yX9_counts yX9_counts ∈ am_tbl := am_memS (i := 27) (by decide +kernel) rfl
theorem ts_28 : Jvm.Cond.selects "BranchSumsModel" yX9_isUnit yX9_isUnit ∈ am_tbl := am_memS (i := 28) (by decide +kernel) rfl
theorem ts_29 : Jvm.Cond.selects "BranchSumsModel" yX9_remembers yX9_remembers ∈ am_tbl := am_memS (i := 29) (by decide +kernel) rfl
theorem ts_30 : Jvm.Cond.selects "BranchSumsModel" yX9_isStaleFrom yX9_isStaleFrom ∈ am_tbl := am_memS (i := 30) (by decide +kernel) rfl
theorem ts_31 : Jvm.Cond.selects "BranchSumsModel" yX9_depth yX9_depth ∈ am_tbl := am_memS (i := 31) (by decide +kernel) rfl
theorem ts_32 : Jvm.Cond.selects "BranchSumsModel" yX9_clears yX9_clears ∈ am_tbl := am_memS (i := 32) (by decide +kernel) rfl
theorem ts_33 : Jvm.Cond.selects "BranchSumsModel" yX9_belowMany yX9_belowMany ∈ am_tbl := am_memS (i := 33) (by decide +kernel) rfl
theorem ts_34 : Jvm.Cond.selects "BranchSumsModel" yX9_canTake yX9_canTake ∈ am_tbl := am_memS (i := 34) (by decide +kernel) rfl
theorem ts_35 : Jvm.Cond.selects "BranchSumsModel" yX9_takes yX9_takes ∈ am_tbl := am_memS (i := 35) (by decide +kernel) rfl
theorem ts_36 : Jvm.Cond.selects "BranchSumsModel" yX9_lays yX9_lays ∈ am_tbl := am_memS (i := 36) (by decide +kernel) rfl
theorem ts_37 : Jvm.Cond.selects "BranchSumsModel" yX9_canMove yX9_canMove ∈ am_tbl := am_memS (i := 37) (by decide +kernel) rfl
theorem ts_38 : Jvm.Cond.selects "BranchSumsModel" yX9_isIn_ yX9_isIn_ ∈ am_tbl := am_memS (i := 38) (by decide +kernel) rfl
theorem ts_39 : Jvm.Cond.selects "BranchSumsModel" yX9_height yX9_height ∈ am_tbl := am_memS (i := 39) (by decide +kernel) rfl
theorem ts_40 : Jvm.Cond.selects "BranchSumsModel" yX9_moves yX9_moves ∈ am_tbl := am_memS (i := 40) (by decide +kernel) rfl
theorem ts_41 : Jvm.Cond.selects "BranchSumsModel" yX9_branchMany yX9_branchMany ∈ am_tbl := am_memS (i := 41) (by decide +kernel) rfl
theorem ts_42 : Jvm.Cond.selects "BranchSumsModel" yX9_parted yX9_parted ∈ am_tbl := am_memS (i := 42) (by decide +kernel) rfl
theorem ts_43 : Jvm.Cond.selects "BranchSumsModel" yX9_rolls yX9_rolls ∈ am_tbl := am_memS (i := 43) (by decide +kernel) rfl
theorem ts_44 : Jvm.Cond.selects "BranchSumsModel" yX9_keptPart yX9_keptPart ∈ am_tbl := am_memS (i := 44) (by decide +kernel) rfl
theorem ts_45 : Jvm.Cond.selects "BranchSumsModel" yX9_nodesAt yX9_nodesAt ∈ am_tbl := am_memS (i := 45) (by decide +kernel) rfl
theorem ts_46 : Jvm.Cond.selects "BranchSumsModel" yX9_merges yX9_merges ∈ am_tbl := am_memS (i := 46) (by decide +kernel) rfl
theorem ts_47 : Jvm.Cond.selects "BranchSumsModel" yX9_hasVersion yX9_hasVersion ∈ am_tbl := am_memS (i := 47) (by decide +kernel) rfl
theorem ts_48 : Jvm.Cond.selects "BranchSumsModel" yX9_recodes yX9_recodes ∈ am_tbl := am_memS (i := 48) (by decide +kernel) rfl
theorem ts_49 : Jvm.Cond.selects "BranchSumsModel" yX9_over yX9_over ∈ am_tbl := am_memS (i := 49) (by decide +kernel) rfl
theorem ts_50 : Jvm.Cond.selects "BranchSumsModel" yX9_comes_ yX9_comes_ ∈ am_tbl := am_memS (i := 50) (by decide +kernel) rfl
theorem ts_51 : Jvm.Cond.selects "BranchSumsModel" yX9_reads yX9_reads ∈ am_tbl := am_memS (i := 51) (by decide +kernel) rfl
theorem ts_52 : Jvm.Cond.selects "BranchSumsModel" yX9_number yX9_number ∈ am_tbl := am_memS (i := 52) (by decide +kernel) rfl
theorem ts_53 : Jvm.Cond.selects "BranchSumsModel" yX9_isDigitNext yX9_isDigitNext ∈ am_tbl := am_memS (i := 53) (by decide +kernel) rfl
theorem ts_54 : Jvm.Cond.selects "BranchSumsModel" yX9_isNext yX9_isNext ∈ am_tbl := am_memS (i := 54) (by decide +kernel) rfl
theorem ts_55 : Jvm.Cond.selects "BranchSumsModel" yX9_wrong yX9_wrong ∈ am_tbl := am_memS (i := 55) (by decide +kernel) rfl
theorem ts_56 : Jvm.Cond.selects "BranchSumsModel" yX9_unitsBelow yX9_unitsBelow ∈ am_tbl := am_memS (i := 56) (by decide +kernel) rfl
theorem ts_57 : Jvm.Cond.selects "BranchSumsModel" yX9_must yX9_must ∈ am_tbl := am_memS (i := 57) (by decide +kernel) rfl
theorem ts_58 : Jvm.Cond.selects "BranchSumsModel" yX9_entry yX9_entry ∈ am_tbl := am_memS (i := 58) (by decide +kernel) rfl
theorem ts_59 : Jvm.Cond.selects "BranchSumsModel" yX9_comesBack yX9_comesBack ∈ am_tbl := am_memS (i := 59) (by decide +kernel) rfl
theorem ts_60 : Jvm.Cond.selects "BranchSumsModel" yX9_keepsAside yX9_keepsAside ∈ am_tbl := am_memS (i := 60) (by decide +kernel) rfl
theorem ts_61 : Jvm.Cond.selects "BranchSumsModel" yX9_isRight yX9_isRight ∈ am_tbl := am_memS (i := 61) (by decide +kernel) rfl
theorem ts_62 : Jvm.Cond.selects "BranchSumsModel" yX9_laysBranch yX9_laysBranch ∈ am_tbl := am_memS (i := 62) (by decide +kernel) rfl
theorem ts_63 : Jvm.Cond.selects "BranchSumsModel" yX9_positive yX9_positive ∈ am_tbl := am_memS (i := 63) (by decide +kernel) rfl
theorem ts_64 : Jvm.Cond.selects "BranchSumsModel" yX9_rankedIn yX9_rankedIn ∈ am_tbl := am_memS (i := 64) (by decide +kernel) rfl
theorem ts_65 : Jvm.Cond.selects "BranchSumsModel" yX9_leaderOf yX9_leaderOf ∈ am_tbl := am_memS (i := 65) (by decide +kernel) rfl
theorem ts_66 : Jvm.Cond.selects "BranchSumsModel" yX9_leadsAhead yX9_leadsAhead ∈ am_tbl := am_memS (i := 66) (by decide +kernel) rfl
theorem ts_67 : Jvm.Cond.selects "BranchSumsModel" yX9_allOf yX9_allOf ∈ am_tbl := am_memS (i := 67) (by decide +kernel) rfl
theorem ts_68 : Jvm.Cond.selects "BranchSumsModel" yX9_seats yX9_seats ∈ am_tbl := am_memS (i := 68) (by decide +kernel) rfl
theorem ts_69 : Jvm.Cond.selects "BranchSumsModel" yX9_isBetween yX9_isBetween ∈ am_tbl := am_memS (i := 69) (by decide +kernel) rfl
theorem ts_70 : Jvm.Cond.selects "BranchSumsModel" yX9_draw yX9_draw ∈ am_tbl := am_memS (i := 70) (by decide +kernel) rfl
theorem ts_71 : Jvm.Cond.selects "BranchSumsModel" yX9_isPart yX9_isPart ∈ am_tbl := am_memS (i := 71) (by decide +kernel) rfl
theorem ts_72 : Jvm.Cond.selects "BranchSumsModel" yX9_laysRuns yX9_laysRuns ∈ am_tbl := am_memS (i := 72) (by decide +kernel) rfl
theorem ts_73 : Jvm.Cond.selects "BranchSumsModel" yX9_bestRun yX9_bestRun ∈ am_tbl := am_memS (i := 73) (by decide +kernel) rfl
theorem ts_74 : Jvm.Cond.selects "BranchSumsModel" yX9_saysNumber yX9_saysNumber ∈ am_tbl := am_memS (i := 74) (by decide +kernel) rfl
theorem ts_75 : Jvm.Cond.selects "BranchSumsModel" yX9_says yX9_says ∈ am_tbl := am_memS (i := 75) (by decide +kernel) rfl
theorem ts_76 : Jvm.Cond.selects "BranchSumsModel" yX9_staleOnes yX9_staleOnes ∈ am_tbl := am_memS (i := 76) (by decide +kernel) rfl
theorem ts_77 : Jvm.Cond.selects "BranchSumsModel" yX9_there yX9_there ∈ am_tbl := am_memS (i := 77) (by decide +kernel) rfl
theorem ts_78 : Jvm.Cond.selects "BranchSumsModel" yX9_rightOnes yX9_rightOnes ∈ am_tbl := am_memS (i := 78) (by decide +kernel) rfl
theorem ts_79 : Jvm.Cond.selects "BranchSumsModel" yX9_deepest yX9_deepest ∈ am_tbl := am_memS (i := 79) (by decide +kernel) rfl
theorem ts_80 : Jvm.Cond.selects "BranchSumsModel" yX9_sumNodes yX9_sumNodes ∈ am_tbl := am_memS (i := 80) (by decide +kernel) rfl
theorem ts_81 : Jvm.Cond.selects "BranchSumsModel" yX9_unlikeOnes yX9_unlikeOnes ∈ am_tbl := am_memS (i := 81) (by decide +kernel) rfl
