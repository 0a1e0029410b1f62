/-! The tables' words that the walks need; the methods. Printed by wip/whole/gen. -/
theorem k_1 : Cond.initialized "HalfToTheLeft" ∈ gw_tbl := tb_i 1 (by decide +kernel) rfl
theorem k_2 : Cond.initialized "HalfToTheLeft$Ring" ∈ gw_tbl := tb_i 2 (by decide +kernel) rfl
theorem k_3 : Cond.initialized "HalfToTheLeft$Letters" ∈ gw_tbl := tb_i 3 (by decide +kernel) rfl
theorem k_4 : Cond.initialized "HalfToTheLeft$Mind" ∈ gw_tbl := tb_i 4 (by decide +kernel) rfl
theorem k_5 : Cond.initialized "HalfToTheLeft$Crumbs" ∈ gw_tbl := tb_i 5 (by decide +kernel) rfl
theorem k_8 : Cond.initialized "java/lang/String" ∈ gw_tbl := tb_i 8 (by decide +kernel) rfl
theorem k_9 : Cond.initialized "java/lang/StringLatin1" ∈ gw_tbl := tb_i 9 (by decide +kernel) rfl
theorem k_10 : Cond.initialized "java/lang/Math" ∈ gw_tbl := tb_i 10 (by decide +kernel) rfl
theorem k_14 : Cond.initialized "java/lang/System" ∈ gw_tbl := tb_i 14 (by decide +kernel) rfl
theorem k_29 : Cond.fieldLink "HalfToTheLeft$Ring" 9 "HalfToTheLeft$Ring" "kinds" "[I" ∈ gw_tbl := tb_i 29 (by decide +kernel) rfl
theorem k_30 : Cond.fieldLink "HalfToTheLeft" 88 "HalfToTheLeft$Ring" "kinds" "[I" ∈ gw_tbl := tb_i 30 (by decide +kernel) rfl
theorem k_31 : Cond.fieldLink "HalfToTheLeft$Ring" 15 "HalfToTheLeft$Ring" "sweets" "[I" ∈ gw_tbl := tb_i 31 (by decide +kernel) rfl
theorem k_32 : Cond.fieldLink "HalfToTheLeft$Mind" 33 "HalfToTheLeft$Ring" "sweets" "[I" ∈ gw_tbl := tb_i 32 (by decide +kernel) rfl
theorem k_33 : Cond.fieldLink "HalfToTheLeft$Crumbs" 34 "HalfToTheLeft$Ring" "sweets" "[I" ∈ gw_tbl := tb_i 33 (by decide +kernel) rfl
theorem k_34 : Cond.fieldLink "HalfToTheLeft" 91 "HalfToTheLeft$Ring" "sweets" "[I" ∈ gw_tbl := tb_i 34 (by decide +kernel) rfl
theorem k_35 : Cond.fieldLink "HalfToTheLeft$Ring" 18 "HalfToTheLeft$Ring" "settings" "[I" ∈ gw_tbl := tb_i 35 (by decide +kernel) rfl
theorem k_36 : Cond.fieldLink "HalfToTheLeft" 110 "HalfToTheLeft$Ring" "settings" "[I" ∈ gw_tbl := tb_i 36 (by decide +kernel) rfl
theorem k_37 : Cond.fieldLink "HalfToTheLeft$Letters" 86 "HalfToTheLeft$Ring" "settings" "[I" ∈ gw_tbl := tb_i 37 (by decide +kernel) rfl
theorem k_38 : Cond.fieldLink "HalfToTheLeft$Ring" 21 "HalfToTheLeft$Ring" "children" "I" ∈ gw_tbl := tb_i 38 (by decide +kernel) rfl
theorem k_39 : Cond.fieldLink "HalfToTheLeft$Crumbs" 29 "HalfToTheLeft$Ring" "children" "I" ∈ gw_tbl := tb_i 39 (by decide +kernel) rfl
theorem k_40 : Cond.fieldLink "HalfToTheLeft" 121 "HalfToTheLeft$Ring" "children" "I" ∈ gw_tbl := tb_i 40 (by decide +kernel) rfl
theorem k_41 : Cond.fieldLink "HalfToTheLeft$Ring" 25 "HalfToTheLeft$Ring" "strokes" "I" ∈ gw_tbl := tb_i 41 (by decide +kernel) rfl
theorem k_42 : Cond.fieldLink "HalfToTheLeft" 236 "HalfToTheLeft$Ring" "strokes" "I" ∈ gw_tbl := tb_i 42 (by decide +kernel) rfl
theorem k_43 : Cond.fieldLink "HalfToTheLeft$Ring" 28 "HalfToTheLeft$Ring" "gave" "I" ∈ gw_tbl := tb_i 43 (by decide +kernel) rfl
theorem k_44 : Cond.fieldLink "HalfToTheLeft$Mind" 37 "HalfToTheLeft$Ring" "gave" "I" ∈ gw_tbl := tb_i 44 (by decide +kernel) rfl
theorem k_45 : Cond.fieldLink "HalfToTheLeft" 239 "HalfToTheLeft$Ring" "gave" "I" ∈ gw_tbl := tb_i 45 (by decide +kernel) rfl
theorem k_46 : Cond.fieldLink "HalfToTheLeft$Ring" 31 "HalfToTheLeft$Ring" "threw" "I" ∈ gw_tbl := tb_i 46 (by decide +kernel) rfl
theorem k_47 : Cond.fieldLink "HalfToTheLeft$Mind" 40 "HalfToTheLeft$Ring" "threw" "I" ∈ gw_tbl := tb_i 47 (by decide +kernel) rfl
theorem k_48 : Cond.fieldLink "HalfToTheLeft" 242 "HalfToTheLeft$Ring" "threw" "I" ∈ gw_tbl := tb_i 48 (by decide +kernel) rfl
theorem k_49 : Cond.fieldLink "HalfToTheLeft$Ring" 34 "HalfToTheLeft$Ring" "heaps" "[I" ∈ gw_tbl := tb_i 49 (by decide +kernel) rfl
theorem k_76 : Cond.fieldLink "HalfToTheLeft$Letters" 9 "HalfToTheLeft$Letters" "length" "I" ∈ gw_tbl := tb_i 76 (by decide +kernel) rfl
theorem k_77 : Cond.fieldLink "HalfToTheLeft" 73 "HalfToTheLeft$Letters" "length" "I" ∈ gw_tbl := tb_i 77 (by decide +kernel) rfl
theorem k_78 : Cond.fieldLink "HalfToTheLeft$Letters" 15 "HalfToTheLeft$Letters" "text" "[C" ∈ gw_tbl := tb_i 78 (by decide +kernel) rfl
theorem k_79 : Cond.fieldLink "HalfToTheLeft$Letters" 22 "HalfToTheLeft$Letters" "trial" "LHalfToTheLeft$Ring;" ∈ gw_tbl := tb_i 79 (by decide +kernel) rfl
theorem k_96 : Cond.fieldLink "HalfToTheLeft$Mind" 12 "HalfToTheLeft$Mind" "one" "LHalfToTheLeft$Ring;" ∈ gw_tbl := tb_i 96 (by decide +kernel) rfl
theorem k_97 : Cond.fieldLink "HalfToTheLeft$Mind" 18 "HalfToTheLeft$Mind" "two" "LHalfToTheLeft$Ring;" ∈ gw_tbl := tb_i 97 (by decide +kernel) rfl
theorem k_112 : Cond.fieldLink "HalfToTheLeft$Crumbs" 9 "HalfToTheLeft$Crumbs" "have" "[J" ∈ gw_tbl := tb_i 112 (by decide +kernel) rfl
theorem k_113 : Cond.fieldLink "HalfToTheLeft$Crumbs" 15 "HalfToTheLeft$Crumbs" "next" "[J" ∈ gw_tbl := tb_i 113 (by decide +kernel) rfl
theorem k_114 : Cond.fieldLink "HalfToTheLeft$Crumbs" 18 "HalfToTheLeft$Crumbs" "doublings" "I" ∈ gw_tbl := tb_i 114 (by decide +kernel) rfl
theorem k_156 : Cond.fieldLink "HalfToTheLeft" 10 "HalfToTheLeft" "now" "LHalfToTheLeft$Ring;" ∈ gw_tbl := tb_i 156 (by decide +kernel) rfl
theorem k_159 : Cond.fieldLink "HalfToTheLeft" 26 "HalfToTheLeft" "letters" "LHalfToTheLeft$Letters;" ∈ gw_tbl := tb_i 159 (by decide +kernel) rfl
theorem k_161 : Cond.fieldLink "HalfToTheLeft" 34 "HalfToTheLeft" "numberCount" "I" ∈ gw_tbl := tb_i 161 (by decide +kernel) rfl
theorem k_162 : Cond.fieldLink "HalfToTheLeft" 38 "HalfToTheLeft" "refusals" "[I" ∈ gw_tbl := tb_i 162 (by decide +kernel) rfl
theorem k_163 : Cond.fieldLink "HalfToTheLeft" 44 "HalfToTheLeft" "mind" "LHalfToTheLeft$Mind;" ∈ gw_tbl := tb_i 163 (by decide +kernel) rfl
theorem k_164 : Cond.fieldLink "HalfToTheLeft" 51 "HalfToTheLeft" "parts" "LHalfToTheLeft$Crumbs;" ∈ gw_tbl := tb_i 164 (by decide +kernel) rfl
theorem k_194 : Cond.methodLink "HalfToTheLeft" 84 ⟨"HalfToTheLeft$Ring", "has", "(I)Z"⟩ ∈ gw_tbl := tb_i 194 (by decide +kernel) rfl
theorem k_195 : Cond.instanceMethod ⟨"HalfToTheLeft$Ring", "has", "(I)Z"⟩ ∈ gw_tbl := tb_i 195 (by decide +kernel) rfl
theorem k_196 : Cond.selects "HalfToTheLeft$Ring" ⟨"HalfToTheLeft$Ring", "has", "(I)Z"⟩ ⟨"HalfToTheLeft$Ring", "has", "(I)Z"⟩ ∈ gw_tbl := tb_i 196 (by decide +kernel) rfl
theorem k_197 : Cond.code ⟨"HalfToTheLeft$Ring", "has", "(I)Z"⟩ prog_6_method_3_code 2 (some .boolean) ∈ gw_tbl := tb_i 197 (by decide +kernel) rfl
theorem k_198 : Cond.methodLink "HalfToTheLeft" 69 ⟨"HalfToTheLeft", "refuse", "(I)I"⟩ ∈ gw_tbl := tb_i 198 (by decide +kernel) rfl
theorem k_200 : Cond.instanceMethod ⟨"HalfToTheLeft", "refuse", "(I)I"⟩ ∈ gw_tbl := tb_i 200 (by decide +kernel) rfl
theorem k_201 : Cond.code ⟨"HalfToTheLeft", "refuse", "(I)I"⟩ prog_1_method_34_code 2 (some .int) ∈ gw_tbl := tb_i 201 (by decide +kernel) rfl
theorem k_202 : Cond.methodLink "HalfToTheLeft" 94 ⟨"HalfToTheLeft$Ring", "gift", "(I)I"⟩ ∈ gw_tbl := tb_i 202 (by decide +kernel) rfl
theorem k_203 : Cond.instanceMethod ⟨"HalfToTheLeft$Ring", "gift", "(I)I"⟩ ∈ gw_tbl := tb_i 203 (by decide +kernel) rfl
theorem k_204 : Cond.selects "HalfToTheLeft$Ring" ⟨"HalfToTheLeft$Ring", "gift", "(I)I"⟩ ⟨"HalfToTheLeft$Ring", "gift", "(I)I"⟩ ∈ gw_tbl := tb_i 204 (by decide +kernel) rfl
theorem k_205 : Cond.code ⟨"HalfToTheLeft$Ring", "gift", "(I)I"⟩ prog_6_method_9_code 5 (some .int) ∈ gw_tbl := tb_i 205 (by decide +kernel) rfl
theorem k_206 : Cond.methodLink "HalfToTheLeft$Ring" 47 ⟨"HalfToTheLeft$Ring", "leftOf", "(I)I"⟩ ∈ gw_tbl := tb_i 206 (by decide +kernel) rfl
theorem k_207 : Cond.instanceMethod ⟨"HalfToTheLeft$Ring", "leftOf", "(I)I"⟩ ∈ gw_tbl := tb_i 207 (by decide +kernel) rfl
theorem k_208 : Cond.selects "HalfToTheLeft$Ring" ⟨"HalfToTheLeft$Ring", "leftOf", "(I)I"⟩ ⟨"HalfToTheLeft$Ring", "leftOf", "(I)I"⟩ ∈ gw_tbl := tb_i 208 (by decide +kernel) rfl
theorem k_209 : Cond.code ⟨"HalfToTheLeft$Ring", "leftOf", "(I)I"⟩ prog_6_method_7_code 2 (some .int) ∈ gw_tbl := tb_i 209 (by decide +kernel) rfl
theorem k_210 : Cond.methodLink "HalfToTheLeft" 97 ⟨"HalfToTheLeft$Ring", "sides", "(I)I"⟩ ∈ gw_tbl := tb_i 210 (by decide +kernel) rfl
theorem k_211 : Cond.instanceMethod ⟨"HalfToTheLeft$Ring", "sides", "(I)I"⟩ ∈ gw_tbl := tb_i 211 (by decide +kernel) rfl
theorem k_212 : Cond.selects "HalfToTheLeft$Ring" ⟨"HalfToTheLeft$Ring", "sides", "(I)I"⟩ ⟨"HalfToTheLeft$Ring", "sides", "(I)I"⟩ ∈ gw_tbl := tb_i 212 (by decide +kernel) rfl
theorem k_213 : Cond.code ⟨"HalfToTheLeft$Ring", "sides", "(I)I"⟩ prog_6_method_10_code 2 (some .int) ∈ gw_tbl := tb_i 213 (by decide +kernel) rfl
theorem k_214 : Cond.methodLink "HalfToTheLeft$Ring" 51 ⟨"HalfToTheLeft$Ring", "gift", "(I)I"⟩ ∈ gw_tbl := tb_i 214 (by decide +kernel) rfl
theorem k_219 : Cond.methodLink "HalfToTheLeft" 124 ⟨"HalfToTheLeft$Ring", "strike", "()I"⟩ ∈ gw_tbl := tb_i 219 (by decide +kernel) rfl
theorem k_220 : Cond.instanceMethod ⟨"HalfToTheLeft$Ring", "strike", "()I"⟩ ∈ gw_tbl := tb_i 220 (by decide +kernel) rfl
theorem k_221 : Cond.selects "HalfToTheLeft$Ring" ⟨"HalfToTheLeft$Ring", "strike", "()I"⟩ ⟨"HalfToTheLeft$Ring", "strike", "()I"⟩ ∈ gw_tbl := tb_i 221 (by decide +kernel) rfl
theorem k_222 : Cond.code ⟨"HalfToTheLeft$Ring", "strike", "()I"⟩ prog_6_method_12_code 3 (some .int) ∈ gw_tbl := tb_i 222 (by decide +kernel) rfl
theorem k_223 : Cond.methodLink "HalfToTheLeft$Ring" 57 ⟨"HalfToTheLeft$Ring", "handOn", "()V"⟩ ∈ gw_tbl := tb_i 223 (by decide +kernel) rfl
theorem k_225 : Cond.instanceMethod ⟨"HalfToTheLeft$Ring", "handOn", "()V"⟩ ∈ gw_tbl := tb_i 225 (by decide +kernel) rfl
theorem k_226 : Cond.code ⟨"HalfToTheLeft$Ring", "handOn", "()V"⟩ prog_6_method_14_code 3 none ∈ gw_tbl := tb_i 226 (by decide +kernel) rfl
theorem k_227 : Cond.methodLink "HalfToTheLeft$Ring" 37 ⟨"java/lang/System", "arraycopy", "(Ljava/lang/Object;ILjava/lang/Object;II)V"⟩ ∈ gw_tbl := tb_i 227 (by decide +kernel) rfl
theorem k_228 : Cond.static ⟨"java/lang/System", "arraycopy", "(Ljava/lang/Object;ILjava/lang/Object;II)V"⟩ ∈ gw_tbl := tb_i 228 (by decide +kernel) rfl
theorem k_229 : Cond.native ⟨"java/lang/System", "arraycopy", "(Ljava/lang/Object;ILjava/lang/Object;II)V"⟩ ∈ gw_tbl := tb_i 229 (by decide +kernel) rfl
theorem k_230 : Cond.methodLink "HalfToTheLeft$Ring" 54 ⟨"HalfToTheLeft$Ring", "rightOf", "(I)I"⟩ ∈ gw_tbl := tb_i 230 (by decide +kernel) rfl
theorem k_231 : Cond.instanceMethod ⟨"HalfToTheLeft$Ring", "rightOf", "(I)I"⟩ ∈ gw_tbl := tb_i 231 (by decide +kernel) rfl
theorem k_232 : Cond.selects "HalfToTheLeft$Ring" ⟨"HalfToTheLeft$Ring", "rightOf", "(I)I"⟩ ⟨"HalfToTheLeft$Ring", "rightOf", "(I)I"⟩ ∈ gw_tbl := tb_i 232 (by decide +kernel) rfl
theorem k_233 : Cond.code ⟨"HalfToTheLeft$Ring", "rightOf", "(I)I"⟩ prog_6_method_8_code 2 (some .int) ∈ gw_tbl := tb_i 233 (by decide +kernel) rfl
theorem k_234 : Cond.methodLink "HalfToTheLeft$Ring" 68 ⟨"java/lang/Math", "min", "(II)I"⟩ ∈ gw_tbl := tb_i 234 (by decide +kernel) rfl
theorem k_235 : Cond.static ⟨"java/lang/Math", "min", "(II)I"⟩ ∈ gw_tbl := tb_i 235 (by decide +kernel) rfl
theorem k_236 : Cond.code ⟨"java/lang/Math", "min", "(II)I"⟩ prog_12_method_69_code 2 (some .int) ∈ gw_tbl := tb_i 236 (by decide +kernel) rfl
theorem k_237 : Cond.methodLink "HalfToTheLeft$Ring" 60 ⟨"HalfToTheLeft$Ring", "mend", "(I)V"⟩ ∈ gw_tbl := tb_i 237 (by decide +kernel) rfl
theorem k_239 : Cond.instanceMethod ⟨"HalfToTheLeft$Ring", "mend", "(I)V"⟩ ∈ gw_tbl := tb_i 239 (by decide +kernel) rfl
theorem k_240 : Cond.code ⟨"HalfToTheLeft$Ring", "mend", "(I)V"⟩ prog_6_method_15_code 2 none ∈ gw_tbl := tb_i 240 (by decide +kernel) rfl
theorem k_245 : Cond.methodLink "HalfToTheLeft" 100 ⟨"HalfToTheLeft", "outside", "(III)I"⟩ ∈ gw_tbl := tb_i 245 (by decide +kernel) rfl
theorem k_246 : Cond.static ⟨"HalfToTheLeft", "outside", "(III)I"⟩ ∈ gw_tbl := tb_i 246 (by decide +kernel) rfl
theorem k_247 : Cond.code ⟨"HalfToTheLeft", "outside", "(III)I"⟩ prog_1_method_35_code 3 (some .int) ∈ gw_tbl := tb_i 247 (by decide +kernel) rfl
theorem k_248 : Cond.methodLink "HalfToTheLeft" 128 ⟨"HalfToTheLeft$Mind", "sweetsBehind", "(LHalfToTheLeft$Ring;II)I"⟩ ∈ gw_tbl := tb_i 248 (by decide +kernel) rfl
theorem k_249 : Cond.instanceMethod ⟨"HalfToTheLeft$Mind", "sweetsBehind", "(LHalfToTheLeft$Ring;II)I"⟩ ∈ gw_tbl := tb_i 249 (by decide +kernel) rfl
theorem k_250 : Cond.selects "HalfToTheLeft$Mind" ⟨"HalfToTheLeft$Mind", "sweetsBehind", "(LHalfToTheLeft$Ring;II)I"⟩ ⟨"HalfToTheLeft$Mind", "sweetsBehind", "(LHalfToTheLeft$Ring;II)I"⟩ ∈ gw_tbl := tb_i 250 (by decide +kernel) rfl
theorem k_251 : Cond.code ⟨"HalfToTheLeft$Mind", "sweetsBehind", "(LHalfToTheLeft$Ring;II)I"⟩ prog_4_method_2_code 4 (some .int) ∈ gw_tbl := tb_i 251 (by decide +kernel) rfl
theorem k_252 : Cond.methodLink "HalfToTheLeft$Mind" 25 ⟨"HalfToTheLeft$Ring", "copyFrom", "(LHalfToTheLeft$Ring;)V"⟩ ∈ gw_tbl := tb_i 252 (by decide +kernel) rfl
theorem k_253 : Cond.instanceMethod ⟨"HalfToTheLeft$Ring", "copyFrom", "(LHalfToTheLeft$Ring;)V"⟩ ∈ gw_tbl := tb_i 253 (by decide +kernel) rfl
theorem k_254 : Cond.selects "HalfToTheLeft$Ring" ⟨"HalfToTheLeft$Ring", "copyFrom", "(LHalfToTheLeft$Ring;)V"⟩ ⟨"HalfToTheLeft$Ring", "copyFrom", "(LHalfToTheLeft$Ring;)V"⟩ ∈ gw_tbl := tb_i 254 (by decide +kernel) rfl
theorem k_255 : Cond.code ⟨"HalfToTheLeft$Ring", "copyFrom", "(LHalfToTheLeft$Ring;)V"⟩ prog_6_method_2_code 2 none ∈ gw_tbl := tb_i 255 (by decide +kernel) rfl
theorem k_256 : Cond.methodLink "HalfToTheLeft$Mind" 29 ⟨"HalfToTheLeft$Ring", "strikeOften", "(I)V"⟩ ∈ gw_tbl := tb_i 256 (by decide +kernel) rfl
theorem k_257 : Cond.instanceMethod ⟨"HalfToTheLeft$Ring", "strikeOften", "(I)V"⟩ ∈ gw_tbl := tb_i 257 (by decide +kernel) rfl
theorem k_258 : Cond.selects "HalfToTheLeft$Ring" ⟨"HalfToTheLeft$Ring", "strikeOften", "(I)V"⟩ ⟨"HalfToTheLeft$Ring", "strikeOften", "(I)V"⟩ ∈ gw_tbl := tb_i 258 (by decide +kernel) rfl
theorem k_259 : Cond.code ⟨"HalfToTheLeft$Ring", "strikeOften", "(I)V"⟩ prog_6_method_13_code 3 none ∈ gw_tbl := tb_i 259 (by decide +kernel) rfl
theorem k_260 : Cond.methodLink "HalfToTheLeft$Ring" 64 ⟨"HalfToTheLeft$Ring", "strike", "()I"⟩ ∈ gw_tbl := tb_i 260 (by decide +kernel) rfl
theorem k_265 : Cond.methodLink "HalfToTheLeft" 132 ⟨"HalfToTheLeft", "isPart", "(I)Z"⟩ ∈ gw_tbl := tb_i 265 (by decide +kernel) rfl
theorem k_266 : Cond.static ⟨"HalfToTheLeft", "isPart", "(I)Z"⟩ ∈ gw_tbl := tb_i 266 (by decide +kernel) rfl
theorem k_267 : Cond.code ⟨"HalfToTheLeft", "isPart", "(I)Z"⟩ prog_1_method_39_code 1 (some .boolean) ∈ gw_tbl := tb_i 267 (by decide +kernel) rfl
theorem k_268 : Cond.methodLink "HalfToTheLeft" 135 ⟨"HalfToTheLeft$Mind", "gaveIn", "(LHalfToTheLeft$Ring;I)I"⟩ ∈ gw_tbl := tb_i 268 (by decide +kernel) rfl
theorem k_269 : Cond.instanceMethod ⟨"HalfToTheLeft$Mind", "gaveIn", "(LHalfToTheLeft$Ring;I)I"⟩ ∈ gw_tbl := tb_i 269 (by decide +kernel) rfl
theorem k_270 : Cond.selects "HalfToTheLeft$Mind" ⟨"HalfToTheLeft$Mind", "gaveIn", "(LHalfToTheLeft$Ring;I)I"⟩ ⟨"HalfToTheLeft$Mind", "gaveIn", "(LHalfToTheLeft$Ring;I)I"⟩ ∈ gw_tbl := tb_i 270 (by decide +kernel) rfl
theorem k_271 : Cond.code ⟨"HalfToTheLeft$Mind", "gaveIn", "(LHalfToTheLeft$Ring;I)I"⟩ prog_4_method_3_code 3 (some .int) ∈ gw_tbl := tb_i 271 (by decide +kernel) rfl
theorem k_272 : Cond.methodLink "HalfToTheLeft" 139 ⟨"HalfToTheLeft$Mind", "threwIn", "(LHalfToTheLeft$Ring;I)I"⟩ ∈ gw_tbl := tb_i 272 (by decide +kernel) rfl
theorem k_273 : Cond.instanceMethod ⟨"HalfToTheLeft$Mind", "threwIn", "(LHalfToTheLeft$Ring;I)I"⟩ ∈ gw_tbl := tb_i 273 (by decide +kernel) rfl
theorem k_274 : Cond.selects "HalfToTheLeft$Mind" ⟨"HalfToTheLeft$Mind", "threwIn", "(LHalfToTheLeft$Ring;I)I"⟩ ⟨"HalfToTheLeft$Mind", "threwIn", "(LHalfToTheLeft$Ring;I)I"⟩ ∈ gw_tbl := tb_i 274 (by decide +kernel) rfl
theorem k_275 : Cond.code ⟨"HalfToTheLeft$Mind", "threwIn", "(LHalfToTheLeft$Ring;I)I"⟩ prog_4_method_4_code 3 (some .int) ∈ gw_tbl := tb_i 275 (by decide +kernel) rfl
theorem k_280 : Cond.methodLink "HalfToTheLeft" 142 ⟨"HalfToTheLeft$Mind", "restsBehind", "(LHalfToTheLeft$Ring;)I"⟩ ∈ gw_tbl := tb_i 280 (by decide +kernel) rfl
theorem k_281 : Cond.instanceMethod ⟨"HalfToTheLeft$Mind", "restsBehind", "(LHalfToTheLeft$Ring;)I"⟩ ∈ gw_tbl := tb_i 281 (by decide +kernel) rfl
theorem k_282 : Cond.selects "HalfToTheLeft$Mind" ⟨"HalfToTheLeft$Mind", "restsBehind", "(LHalfToTheLeft$Ring;)I"⟩ ⟨"HalfToTheLeft$Mind", "restsBehind", "(LHalfToTheLeft$Ring;)I"⟩ ∈ gw_tbl := tb_i 282 (by decide +kernel) rfl
theorem k_283 : Cond.code ⟨"HalfToTheLeft$Mind", "restsBehind", "(LHalfToTheLeft$Ring;)I"⟩ prog_4_method_5_code 3 (some .int) ∈ gw_tbl := tb_i 283 (by decide +kernel) rfl
theorem k_284 : Cond.methodLink "HalfToTheLeft$Mind" 43 ⟨"HalfToTheLeft$Ring", "strike", "()I"⟩ ∈ gw_tbl := tb_i 284 (by decide +kernel) rfl
theorem k_285 : Cond.methodLink "HalfToTheLeft$Mind" 47 ⟨"HalfToTheLeft$Ring", "hasSweetsOf", "(LHalfToTheLeft$Ring;)Z"⟩ ∈ gw_tbl := tb_i 285 (by decide +kernel) rfl
theorem k_286 : Cond.instanceMethod ⟨"HalfToTheLeft$Ring", "hasSweetsOf", "(LHalfToTheLeft$Ring;)Z"⟩ ∈ gw_tbl := tb_i 286 (by decide +kernel) rfl
theorem k_287 : Cond.selects "HalfToTheLeft$Ring" ⟨"HalfToTheLeft$Ring", "hasSweetsOf", "(LHalfToTheLeft$Ring;)Z"⟩ ⟨"HalfToTheLeft$Ring", "hasSweetsOf", "(LHalfToTheLeft$Ring;)Z"⟩ ∈ gw_tbl := tb_i 287 (by decide +kernel) rfl
theorem k_288 : Cond.code ⟨"HalfToTheLeft$Ring", "hasSweetsOf", "(LHalfToTheLeft$Ring;)Z"⟩ prog_6_method_20_code 3 (some .boolean) ∈ gw_tbl := tb_i 288 (by decide +kernel) rfl
theorem k_293 : Cond.methodLink "HalfToTheLeft" 145 ⟨"HalfToTheLeft$Mind", "alikeBehind", "(LHalfToTheLeft$Ring;)I"⟩ ∈ gw_tbl := tb_i 293 (by decide +kernel) rfl
theorem k_294 : Cond.instanceMethod ⟨"HalfToTheLeft$Mind", "alikeBehind", "(LHalfToTheLeft$Ring;)I"⟩ ∈ gw_tbl := tb_i 294 (by decide +kernel) rfl
theorem k_295 : Cond.selects "HalfToTheLeft$Mind" ⟨"HalfToTheLeft$Mind", "alikeBehind", "(LHalfToTheLeft$Ring;)I"⟩ ⟨"HalfToTheLeft$Mind", "alikeBehind", "(LHalfToTheLeft$Ring;)I"⟩ ∈ gw_tbl := tb_i 295 (by decide +kernel) rfl
theorem k_296 : Cond.code ⟨"HalfToTheLeft$Mind", "alikeBehind", "(LHalfToTheLeft$Ring;)I"⟩ prog_4_method_6_code 2 (some .int) ∈ gw_tbl := tb_i 296 (by decide +kernel) rfl
theorem k_297 : Cond.methodLink "HalfToTheLeft$Mind" 51 ⟨"HalfToTheLeft$Mind", "alikeWithin", "(LHalfToTheLeft$Ring;I)I"⟩ ∈ gw_tbl := tb_i 297 (by decide +kernel) rfl
theorem k_298 : Cond.static ⟨"HalfToTheLeft$Mind", "alikeWithin", "(LHalfToTheLeft$Ring;I)I"⟩ ∈ gw_tbl := tb_i 298 (by decide +kernel) rfl
theorem k_299 : Cond.code ⟨"HalfToTheLeft$Mind", "alikeWithin", "(LHalfToTheLeft$Ring;I)I"⟩ prog_4_method_7_code 3 (some .int) ∈ gw_tbl := tb_i 299 (by decide +kernel) rfl
theorem k_300 : Cond.methodLink "HalfToTheLeft$Mind" 55 ⟨"HalfToTheLeft$Ring", "allHaveAlike", "()Z"⟩ ∈ gw_tbl := tb_i 300 (by decide +kernel) rfl
theorem k_301 : Cond.instanceMethod ⟨"HalfToTheLeft$Ring", "allHaveAlike", "()Z"⟩ ∈ gw_tbl := tb_i 301 (by decide +kernel) rfl
theorem k_302 : Cond.selects "HalfToTheLeft$Ring" ⟨"HalfToTheLeft$Ring", "allHaveAlike", "()Z"⟩ ⟨"HalfToTheLeft$Ring", "allHaveAlike", "()Z"⟩ ∈ gw_tbl := tb_i 302 (by decide +kernel) rfl
theorem k_303 : Cond.code ⟨"HalfToTheLeft$Ring", "allHaveAlike", "()Z"⟩ prog_6_method_19_code 2 (some .boolean) ∈ gw_tbl := tb_i 303 (by decide +kernel) rfl
theorem k_308 : Cond.methodLink "HalfToTheLeft" 148 ⟨"HalfToTheLeft$Mind", "roundOf", "(LHalfToTheLeft$Ring;)I"⟩ ∈ gw_tbl := tb_i 308 (by decide +kernel) rfl
theorem k_309 : Cond.instanceMethod ⟨"HalfToTheLeft$Mind", "roundOf", "(LHalfToTheLeft$Ring;)I"⟩ ∈ gw_tbl := tb_i 309 (by decide +kernel) rfl
theorem k_310 : Cond.selects "HalfToTheLeft$Mind" ⟨"HalfToTheLeft$Mind", "roundOf", "(LHalfToTheLeft$Ring;)I"⟩ ⟨"HalfToTheLeft$Mind", "roundOf", "(LHalfToTheLeft$Ring;)I"⟩ ∈ gw_tbl := tb_i 310 (by decide +kernel) rfl
theorem k_311 : Cond.code ⟨"HalfToTheLeft$Mind", "roundOf", "(LHalfToTheLeft$Ring;)I"⟩ prog_4_method_8_code 3 (some .int) ∈ gw_tbl := tb_i 311 (by decide +kernel) rfl
theorem k_312 : Cond.methodLink "HalfToTheLeft$Mind" 59 ⟨"HalfToTheLeft$Ring", "hasSweetsAndBagOf", "(LHalfToTheLeft$Ring;)Z"⟩ ∈ gw_tbl := tb_i 312 (by decide +kernel) rfl
theorem k_313 : Cond.instanceMethod ⟨"HalfToTheLeft$Ring", "hasSweetsAndBagOf", "(LHalfToTheLeft$Ring;)Z"⟩ ∈ gw_tbl := tb_i 313 (by decide +kernel) rfl
theorem k_314 : Cond.selects "HalfToTheLeft$Ring" ⟨"HalfToTheLeft$Ring", "hasSweetsAndBagOf", "(LHalfToTheLeft$Ring;)Z"⟩ ⟨"HalfToTheLeft$Ring", "hasSweetsAndBagOf", "(LHalfToTheLeft$Ring;)Z"⟩ ∈ gw_tbl := tb_i 314 (by decide +kernel) rfl
theorem k_315 : Cond.code ⟨"HalfToTheLeft$Ring", "hasSweetsAndBagOf", "(LHalfToTheLeft$Ring;)Z"⟩ prog_6_method_21_code 2 (some .boolean) ∈ gw_tbl := tb_i 315 (by decide +kernel) rfl
theorem k_316 : Cond.methodLink "HalfToTheLeft$Ring" 77 ⟨"HalfToTheLeft$Ring", "hasSweetsOf", "(LHalfToTheLeft$Ring;)Z"⟩ ∈ gw_tbl := tb_i 316 (by decide +kernel) rfl
theorem k_317 : Cond.methodLink "HalfToTheLeft" 151 ⟨"HalfToTheLeft$Mind", "aheadOfRound", "(LHalfToTheLeft$Ring;I)I"⟩ ∈ gw_tbl := tb_i 317 (by decide +kernel) rfl
theorem k_318 : Cond.instanceMethod ⟨"HalfToTheLeft$Mind", "aheadOfRound", "(LHalfToTheLeft$Ring;I)I"⟩ ∈ gw_tbl := tb_i 318 (by decide +kernel) rfl
theorem k_319 : Cond.selects "HalfToTheLeft$Mind" ⟨"HalfToTheLeft$Mind", "aheadOfRound", "(LHalfToTheLeft$Ring;I)I"⟩ ⟨"HalfToTheLeft$Mind", "aheadOfRound", "(LHalfToTheLeft$Ring;I)I"⟩ ∈ gw_tbl := tb_i 319 (by decide +kernel) rfl
theorem k_320 : Cond.code ⟨"HalfToTheLeft$Mind", "aheadOfRound", "(LHalfToTheLeft$Ring;I)I"⟩ prog_4_method_9_code 4 (some .int) ∈ gw_tbl := tb_i 320 (by decide +kernel) rfl
theorem k_325 : Cond.methodLink "HalfToTheLeft" 113 ⟨"HalfToTheLeft", "areTwo", "(II)Z"⟩ ∈ gw_tbl := tb_i 325 (by decide +kernel) rfl
theorem k_327 : Cond.instanceMethod ⟨"HalfToTheLeft", "areTwo", "(II)Z"⟩ ∈ gw_tbl := tb_i 327 (by decide +kernel) rfl
theorem k_328 : Cond.code ⟨"HalfToTheLeft", "areTwo", "(II)Z"⟩ prog_1_method_40_code 3 (some .boolean) ∈ gw_tbl := tb_i 328 (by decide +kernel) rfl
theorem k_329 : Cond.methodLink "HalfToTheLeft" 154 ⟨"HalfToTheLeft$Mind", "meetBehind", "(LHalfToTheLeft$Ring;II)I"⟩ ∈ gw_tbl := tb_i 329 (by decide +kernel) rfl
theorem k_330 : Cond.instanceMethod ⟨"HalfToTheLeft$Mind", "meetBehind", "(LHalfToTheLeft$Ring;II)I"⟩ ∈ gw_tbl := tb_i 330 (by decide +kernel) rfl
theorem k_331 : Cond.selects "HalfToTheLeft$Mind" ⟨"HalfToTheLeft$Mind", "meetBehind", "(LHalfToTheLeft$Ring;II)I"⟩ ⟨"HalfToTheLeft$Mind", "meetBehind", "(LHalfToTheLeft$Ring;II)I"⟩ ∈ gw_tbl := tb_i 331 (by decide +kernel) rfl
theorem k_332 : Cond.code ⟨"HalfToTheLeft$Mind", "meetBehind", "(LHalfToTheLeft$Ring;II)I"⟩ prog_4_method_10_code 5 (some .int) ∈ gw_tbl := tb_i 332 (by decide +kernel) rfl
theorem k_337 : Cond.constantLong "HalfToTheLeft" 157 4000000000000000000 ∈ gw_tbl := tb_i 337 (by decide +kernel) rfl
theorem k_338 : Cond.methodLink "HalfToTheLeft" 159 ⟨"HalfToTheLeft$Crumbs", "take", "(LHalfToTheLeft$Ring;I)V"⟩ ∈ gw_tbl := tb_i 338 (by decide +kernel) rfl
theorem k_339 : Cond.instanceMethod ⟨"HalfToTheLeft$Crumbs", "take", "(LHalfToTheLeft$Ring;I)V"⟩ ∈ gw_tbl := tb_i 339 (by decide +kernel) rfl
theorem k_340 : Cond.selects "HalfToTheLeft$Crumbs" ⟨"HalfToTheLeft$Crumbs", "take", "(LHalfToTheLeft$Ring;I)V"⟩ ⟨"HalfToTheLeft$Crumbs", "take", "(LHalfToTheLeft$Ring;I)V"⟩ ∈ gw_tbl := tb_i 340 (by decide +kernel) rfl
theorem k_341 : Cond.code ⟨"HalfToTheLeft$Crumbs", "take", "(LHalfToTheLeft$Ring;I)V"⟩ prog_2_method_2_code 4 none ∈ gw_tbl := tb_i 341 (by decide +kernel) rfl
theorem k_342 : Cond.methodLink "HalfToTheLeft$Crumbs" 22 ⟨"HalfToTheLeft$Crumbs", "begin", "(LHalfToTheLeft$Ring;)V"⟩ ∈ gw_tbl := tb_i 342 (by decide +kernel) rfl
theorem k_344 : Cond.instanceMethod ⟨"HalfToTheLeft$Crumbs", "begin", "(LHalfToTheLeft$Ring;)V"⟩ ∈ gw_tbl := tb_i 344 (by decide +kernel) rfl
theorem k_345 : Cond.code ⟨"HalfToTheLeft$Crumbs", "begin", "(LHalfToTheLeft$Ring;)V"⟩ prog_2_method_3_code 3 none ∈ gw_tbl := tb_i 345 (by decide +kernel) rfl
theorem k_346 : Cond.methodLink "HalfToTheLeft$Crumbs" 26 ⟨"HalfToTheLeft$Crumbs", "advance", "(LHalfToTheLeft$Ring;)V"⟩ ∈ gw_tbl := tb_i 346 (by decide +kernel) rfl
theorem k_348 : Cond.instanceMethod ⟨"HalfToTheLeft$Crumbs", "advance", "(LHalfToTheLeft$Ring;)V"⟩ ∈ gw_tbl := tb_i 348 (by decide +kernel) rfl
theorem k_349 : Cond.code ⟨"HalfToTheLeft$Crumbs", "advance", "(LHalfToTheLeft$Ring;)V"⟩ prog_2_method_4_code 3 none ∈ gw_tbl := tb_i 349 (by decide +kernel) rfl
theorem k_350 : Cond.methodLink "HalfToTheLeft$Crumbs" 38 ⟨"HalfToTheLeft$Ring", "rightOf", "(I)I"⟩ ∈ gw_tbl := tb_i 350 (by decide +kernel) rfl
theorem k_351 : Cond.methodLink "HalfToTheLeft$Crumbs" 42 ⟨"java/lang/System", "arraycopy", "(Ljava/lang/Object;ILjava/lang/Object;II)V"⟩ ∈ gw_tbl := tb_i 351 (by decide +kernel) rfl
theorem k_352 : Cond.methodLink "HalfToTheLeft" 163 ⟨"HalfToTheLeft$Crumbs", "above", "(I)J"⟩ ∈ gw_tbl := tb_i 352 (by decide +kernel) rfl
theorem k_353 : Cond.instanceMethod ⟨"HalfToTheLeft$Crumbs", "above", "(I)J"⟩ ∈ gw_tbl := tb_i 353 (by decide +kernel) rfl
theorem k_354 : Cond.selects "HalfToTheLeft$Crumbs" ⟨"HalfToTheLeft$Crumbs", "above", "(I)J"⟩ ⟨"HalfToTheLeft$Crumbs", "above", "(I)J"⟩ ∈ gw_tbl := tb_i 354 (by decide +kernel) rfl
theorem k_355 : Cond.code ⟨"HalfToTheLeft$Crumbs", "above", "(I)J"⟩ prog_2_method_5_code 2 (some .long) ∈ gw_tbl := tb_i 355 (by decide +kernel) rfl
theorem k_356 : Cond.methodLink "HalfToTheLeft$Crumbs" 48 ⟨"HalfToTheLeft$Crumbs", "halvings", "(I)I"⟩ ∈ gw_tbl := tb_i 356 (by decide +kernel) rfl
theorem k_358 : Cond.instanceMethod ⟨"HalfToTheLeft$Crumbs", "halvings", "(I)I"⟩ ∈ gw_tbl := tb_i 358 (by decide +kernel) rfl
theorem k_359 : Cond.code ⟨"HalfToTheLeft$Crumbs", "halvings", "(I)I"⟩ prog_2_method_7_code 3 (some .int) ∈ gw_tbl := tb_i 359 (by decide +kernel) rfl
theorem k_360 : Cond.constantLong "HalfToTheLeft$Crumbs" 51 2 ∈ gw_tbl := tb_i 360 (by decide +kernel) rfl
theorem k_361 : Cond.methodLink "HalfToTheLeft" 167 ⟨"HalfToTheLeft$Crumbs", "below", "(I)J"⟩ ∈ gw_tbl := tb_i 361 (by decide +kernel) rfl
theorem k_362 : Cond.instanceMethod ⟨"HalfToTheLeft$Crumbs", "below", "(I)J"⟩ ∈ gw_tbl := tb_i 362 (by decide +kernel) rfl
theorem k_363 : Cond.selects "HalfToTheLeft$Crumbs" ⟨"HalfToTheLeft$Crumbs", "below", "(I)J"⟩ ⟨"HalfToTheLeft$Crumbs", "below", "(I)J"⟩ ∈ gw_tbl := tb_i 363 (by decide +kernel) rfl
theorem k_364 : Cond.code ⟨"HalfToTheLeft$Crumbs", "below", "(I)J"⟩ prog_2_method_6_code 2 (some .long) ∈ gw_tbl := tb_i 364 (by decide +kernel) rfl
theorem k_369 : Cond.methodLink "HalfToTheLeft" 170 ⟨"HalfToTheLeft$Ring", "commonDivisor", "()I"⟩ ∈ gw_tbl := tb_i 369 (by decide +kernel) rfl
theorem k_370 : Cond.instanceMethod ⟨"HalfToTheLeft$Ring", "commonDivisor", "()I"⟩ ∈ gw_tbl := tb_i 370 (by decide +kernel) rfl
theorem k_371 : Cond.selects "HalfToTheLeft$Ring" ⟨"HalfToTheLeft$Ring", "commonDivisor", "()I"⟩ ⟨"HalfToTheLeft$Ring", "commonDivisor", "()I"⟩ ∈ gw_tbl := tb_i 371 (by decide +kernel) rfl
theorem k_372 : Cond.code ⟨"HalfToTheLeft$Ring", "commonDivisor", "()I"⟩ prog_6_method_18_code 3 (some .int) ∈ gw_tbl := tb_i 372 (by decide +kernel) rfl
theorem k_373 : Cond.methodLink "HalfToTheLeft$Ring" 74 ⟨"HalfToTheLeft$Ring", "allSweets", "()I"⟩ ∈ gw_tbl := tb_i 373 (by decide +kernel) rfl
theorem k_374 : Cond.instanceMethod ⟨"HalfToTheLeft$Ring", "allSweets", "()I"⟩ ∈ gw_tbl := tb_i 374 (by decide +kernel) rfl
theorem k_375 : Cond.selects "HalfToTheLeft$Ring" ⟨"HalfToTheLeft$Ring", "allSweets", "()I"⟩ ⟨"HalfToTheLeft$Ring", "allSweets", "()I"⟩ ∈ gw_tbl := tb_i 375 (by decide +kernel) rfl
theorem k_376 : Cond.code ⟨"HalfToTheLeft$Ring", "allSweets", "()I"⟩ prog_6_method_16_code 3 (some .int) ∈ gw_tbl := tb_i 376 (by decide +kernel) rfl
theorem k_377 : Cond.methodLink "HalfToTheLeft" 173 ⟨"java/lang/Math", "max", "(II)I"⟩ ∈ gw_tbl := tb_i 377 (by decide +kernel) rfl
theorem k_378 : Cond.static ⟨"java/lang/Math", "max", "(II)I"⟩ ∈ gw_tbl := tb_i 378 (by decide +kernel) rfl
theorem k_379 : Cond.code ⟨"java/lang/Math", "max", "(II)I"⟩ prog_12_method_65_code 2 (some .int) ∈ gw_tbl := tb_i 379 (by decide +kernel) rfl
theorem k_380 : Cond.methodLink "HalfToTheLeft" 179 ⟨"HalfToTheLeft$Ring", "allSweets", "()I"⟩ ∈ gw_tbl := tb_i 380 (by decide +kernel) rfl
theorem k_385 : Cond.methodLink "HalfToTheLeft" 245 ⟨"HalfToTheLeft$Ring", "oddHeaps", "()I"⟩ ∈ gw_tbl := tb_i 385 (by decide +kernel) rfl
theorem k_386 : Cond.instanceMethod ⟨"HalfToTheLeft$Ring", "oddHeaps", "()I"⟩ ∈ gw_tbl := tb_i 386 (by decide +kernel) rfl
theorem k_387 : Cond.selects "HalfToTheLeft$Ring" ⟨"HalfToTheLeft$Ring", "oddHeaps", "()I"⟩ ⟨"HalfToTheLeft$Ring", "oddHeaps", "()I"⟩ ∈ gw_tbl := tb_i 387 (by decide +kernel) rfl
theorem k_388 : Cond.code ⟨"HalfToTheLeft$Ring", "oddHeaps", "()I"⟩ prog_6_method_17_code 3 (some .int) ∈ gw_tbl := tb_i 388 (by decide +kernel) rfl
theorem k_409 : Cond.methodLink "HalfToTheLeft" 76 ⟨"HalfToTheLeft$Letters", "add", "(C)I"⟩ ∈ gw_tbl := tb_i 409 (by decide +kernel) rfl
theorem k_410 : Cond.instanceMethod ⟨"HalfToTheLeft$Letters", "add", "(C)I"⟩ ∈ gw_tbl := tb_i 410 (by decide +kernel) rfl
theorem k_411 : Cond.selects "HalfToTheLeft$Letters" ⟨"HalfToTheLeft$Letters", "add", "(C)I"⟩ ⟨"HalfToTheLeft$Letters", "add", "(C)I"⟩ ∈ gw_tbl := tb_i 411 (by decide +kernel) rfl
theorem k_412 : Cond.code ⟨"HalfToTheLeft$Letters", "add", "(C)I"⟩ prog_3_method_2_code 2 (some .int) ∈ gw_tbl := tb_i 412 (by decide +kernel) rfl
theorem k_417 : Cond.methodLink "HalfToTheLeft" 80 ⟨"HalfToTheLeft$Letters", "carryOut", "(LHalfToTheLeft$Ring;)I"⟩ ∈ gw_tbl := tb_i 417 (by decide +kernel) rfl
theorem k_418 : Cond.instanceMethod ⟨"HalfToTheLeft$Letters", "carryOut", "(LHalfToTheLeft$Ring;)I"⟩ ∈ gw_tbl := tb_i 418 (by decide +kernel) rfl
theorem k_419 : Cond.selects "HalfToTheLeft$Letters" ⟨"HalfToTheLeft$Letters", "carryOut", "(LHalfToTheLeft$Ring;)I"⟩ ⟨"HalfToTheLeft$Letters", "carryOut", "(LHalfToTheLeft$Ring;)I"⟩ ∈ gw_tbl := tb_i 419 (by decide +kernel) rfl
theorem k_420 : Cond.code ⟨"HalfToTheLeft$Letters", "carryOut", "(LHalfToTheLeft$Ring;)I"⟩ prog_3_method_3_code 6 (some .int) ∈ gw_tbl := tb_i 420 (by decide +kernel) rfl
theorem k_421 : Cond.methodLink "HalfToTheLeft$Letters" 26 ⟨"HalfToTheLeft$Letters", "placeOfBadForm", "()I"⟩ ∈ gw_tbl := tb_i 421 (by decide +kernel) rfl
theorem k_423 : Cond.instanceMethod ⟨"HalfToTheLeft$Letters", "placeOfBadForm", "()I"⟩ ∈ gw_tbl := tb_i 423 (by decide +kernel) rfl
theorem k_424 : Cond.code ⟨"HalfToTheLeft$Letters", "placeOfBadForm", "()I"⟩ prog_3_method_4_code 3 (some .int) ∈ gw_tbl := tb_i 424 (by decide +kernel) rfl
theorem k_425 : Cond.methodLink "HalfToTheLeft$Letters" 38 ⟨"HalfToTheLeft$Letters", "behind", "(IC)I"⟩ ∈ gw_tbl := tb_i 425 (by decide +kernel) rfl
theorem k_426 : Cond.static ⟨"HalfToTheLeft$Letters", "behind", "(IC)I"⟩ ∈ gw_tbl := tb_i 426 (by decide +kernel) rfl
theorem k_427 : Cond.code ⟨"HalfToTheLeft$Letters", "behind", "(IC)I"⟩ prog_3_method_5_code 2 (some .int) ∈ gw_tbl := tb_i 427 (by decide +kernel) rfl
theorem k_428 : Cond.methodLink "HalfToTheLeft$Letters" 42 ⟨"HalfToTheLeft$Letters", "behindStart", "(C)I"⟩ ∈ gw_tbl := tb_i 428 (by decide +kernel) rfl
theorem k_429 : Cond.static ⟨"HalfToTheLeft$Letters", "behindStart", "(C)I"⟩ ∈ gw_tbl := tb_i 429 (by decide +kernel) rfl
theorem k_430 : Cond.code ⟨"HalfToTheLeft$Letters", "behindStart", "(C)I"⟩ prog_3_method_6_code 1 (some .int) ∈ gw_tbl := tb_i 430 (by decide +kernel) rfl
theorem k_432 : Cond.methodLink "HalfToTheLeft$Letters" 48 ⟨"java/lang/String", "indexOf", "(I)I"⟩ ∈ gw_tbl := tb_i 432 (by decide +kernel) rfl
theorem k_433 : Cond.instanceMethod ⟨"java/lang/String", "indexOf", "(I)I"⟩ ∈ gw_tbl := tb_i 433 (by decide +kernel) rfl
theorem k_434 : Cond.selects "java/lang/String" ⟨"java/lang/String", "indexOf", "(I)I"⟩ ⟨"java/lang/String", "indexOf", "(I)I"⟩ ∈ gw_tbl := tb_i 434 (by decide +kernel) rfl
theorem k_435 : Cond.code ⟨"java/lang/String", "indexOf", "(I)I"⟩ prog_13_method_79_code 2 (some .int) ∈ gw_tbl := tb_i 435 (by decide +kernel) rfl
theorem k_436 : Cond.methodLink "java/lang/String" 633 ⟨"java/lang/String", "indexOf", "(II)I"⟩ ∈ gw_tbl := tb_i 436 (by decide +kernel) rfl
theorem k_437 : Cond.instanceMethod ⟨"java/lang/String", "indexOf", "(II)I"⟩ ∈ gw_tbl := tb_i 437 (by decide +kernel) rfl
theorem k_438 : Cond.selects "java/lang/String" ⟨"java/lang/String", "indexOf", "(II)I"⟩ ⟨"java/lang/String", "indexOf", "(II)I"⟩ ∈ gw_tbl := tb_i 438 (by decide +kernel) rfl
theorem k_439 : Cond.code ⟨"java/lang/String", "indexOf", "(II)I"⟩ prog_13_method_80_code 3 (some .int) ∈ gw_tbl := tb_i 439 (by decide +kernel) rfl
theorem k_440 : Cond.methodLink "java/lang/String" 492 ⟨"java/lang/String", "isLatin1", "()Z"⟩ ∈ gw_tbl := tb_i 440 (by decide +kernel) rfl
theorem k_441 : Cond.instanceMethod ⟨"java/lang/String", "isLatin1", "()Z"⟩ ∈ gw_tbl := tb_i 441 (by decide +kernel) rfl
theorem k_442 : Cond.selects "java/lang/String" ⟨"java/lang/String", "isLatin1", "()Z"⟩ ⟨"java/lang/String", "isLatin1", "()Z"⟩ ∈ gw_tbl := tb_i 442 (by decide +kernel) rfl
theorem k_443 : Cond.code ⟨"java/lang/String", "isLatin1", "()Z"⟩ prog_13_method_154_code 1 (some .boolean) ∈ gw_tbl := tb_i 443 (by decide +kernel) rfl
theorem k_444 : Cond.fieldLink "java/lang/String" 38 "java/lang/String" "COMPACT_STRINGS" "Z" ∈ gw_tbl := tb_i 444 (by decide +kernel) rfl
theorem k_446 : Cond.methodLink "java/lang/String" 505 ⟨"java/lang/String", "length", "()I"⟩ ∈ gw_tbl := tb_i 446 (by decide +kernel) rfl
theorem k_447 : Cond.instanceMethod ⟨"java/lang/String", "length", "()I"⟩ ∈ gw_tbl := tb_i 447 (by decide +kernel) rfl
theorem k_448 : Cond.selects "java/lang/String" ⟨"java/lang/String", "length", "()I"⟩ ⟨"java/lang/String", "length", "()I"⟩ ∈ gw_tbl := tb_i 448 (by decide +kernel) rfl
theorem k_449 : Cond.code ⟨"java/lang/String", "length", "()I"⟩ prog_13_method_54_code 1 (some .int) ∈ gw_tbl := tb_i 449 (by decide +kernel) rfl
theorem k_450 : Cond.methodLink "java/lang/String" 335 ⟨"java/lang/String", "coder", "()B"⟩ ∈ gw_tbl := tb_i 450 (by decide +kernel) rfl
theorem k_451 : Cond.instanceMethod ⟨"java/lang/String", "coder", "()B"⟩ ∈ gw_tbl := tb_i 451 (by decide +kernel) rfl
theorem k_452 : Cond.selects "java/lang/String" ⟨"java/lang/String", "coder", "()B"⟩ ⟨"java/lang/String", "coder", "()B"⟩ ∈ gw_tbl := tb_i 452 (by decide +kernel) rfl
theorem k_453 : Cond.code ⟨"java/lang/String", "coder", "()B"⟩ prog_13_method_152_code 1 (some .byte) ∈ gw_tbl := tb_i 453 (by decide +kernel) rfl
theorem k_454 : Cond.methodLink "java/lang/String" 637 ⟨"java/lang/StringLatin1", "indexOf", "([BIII)I"⟩ ∈ gw_tbl := tb_i 454 (by decide +kernel) rfl
theorem k_455 : Cond.static ⟨"java/lang/StringLatin1", "indexOf", "([BIII)I"⟩ ∈ gw_tbl := tb_i 455 (by decide +kernel) rfl
theorem k_456 : Cond.code ⟨"java/lang/StringLatin1", "indexOf", "([BIII)I"⟩ prog_14_method_22_code 4 (some .int) ∈ gw_tbl := tb_i 456 (by decide +kernel) rfl
theorem k_457 : Cond.methodLink "java/lang/StringLatin1" 88 ⟨"java/lang/StringLatin1", "canEncode", "(I)Z"⟩ ∈ gw_tbl := tb_i 457 (by decide +kernel) rfl
theorem k_458 : Cond.static ⟨"java/lang/StringLatin1", "canEncode", "(I)Z"⟩ ∈ gw_tbl := tb_i 458 (by decide +kernel) rfl
theorem k_459 : Cond.code ⟨"java/lang/StringLatin1", "canEncode", "(I)Z"⟩ prog_14_method_4_code 1 (some .boolean) ∈ gw_tbl := tb_i 459 (by decide +kernel) rfl
theorem k_460 : Cond.methodLink "java/lang/StringLatin1" 92 ⟨"java/lang/Math", "max", "(II)I"⟩ ∈ gw_tbl := tb_i 460 (by decide +kernel) rfl
theorem k_461 : Cond.methodLink "java/lang/StringLatin1" 38 ⟨"java/lang/Math", "min", "(II)I"⟩ ∈ gw_tbl := tb_i 461 (by decide +kernel) rfl
theorem k_462 : Cond.methodLink "java/lang/StringLatin1" 95 ⟨"java/lang/StringLatin1", "indexOfChar", "([BIII)I"⟩ ∈ gw_tbl := tb_i 462 (by decide +kernel) rfl
theorem k_463 : Cond.static ⟨"java/lang/StringLatin1", "indexOfChar", "([BIII)I"⟩ ∈ gw_tbl := tb_i 463 (by decide +kernel) rfl
theorem k_464 : Cond.code ⟨"java/lang/StringLatin1", "indexOfChar", "([BIII)I"⟩ prog_14_method_23_code 6 (some .int) ∈ gw_tbl := tb_i 464 (by decide +kernel) rfl
theorem k_514 : Cond.methodLink "HalfToTheLeft$Letters" 54 ⟨"HalfToTheLeft$Letters", "isDigit", "(C)Z"⟩ ∈ gw_tbl := tb_i 514 (by decide +kernel) rfl
theorem k_515 : Cond.static ⟨"HalfToTheLeft$Letters", "isDigit", "(C)Z"⟩ ∈ gw_tbl := tb_i 515 (by decide +kernel) rfl
theorem k_516 : Cond.code ⟨"HalfToTheLeft$Letters", "isDigit", "(C)Z"⟩ prog_3_method_8_code 1 (some .boolean) ∈ gw_tbl := tb_i 516 (by decide +kernel) rfl
theorem k_517 : Cond.methodLink "HalfToTheLeft$Letters" 58 ⟨"HalfToTheLeft$Letters", "behindEnd", "(C)I"⟩ ∈ gw_tbl := tb_i 517 (by decide +kernel) rfl
theorem k_518 : Cond.static ⟨"HalfToTheLeft$Letters", "behindEnd", "(C)I"⟩ ∈ gw_tbl := tb_i 518 (by decide +kernel) rfl
theorem k_519 : Cond.code ⟨"HalfToTheLeft$Letters", "behindEnd", "(C)I"⟩ prog_3_method_7_code 1 (some .int) ∈ gw_tbl := tb_i 519 (by decide +kernel) rfl
theorem k_520 : Cond.methodLink "HalfToTheLeft$Letters" 30 ⟨"HalfToTheLeft$Ring", "copyFrom", "(LHalfToTheLeft$Ring;)V"⟩ ∈ gw_tbl := tb_i 520 (by decide +kernel) rfl
theorem k_521 : Cond.methodLink "HalfToTheLeft$Letters" 34 ⟨"HalfToTheLeft$Letters", "carryOutOne", "(II)Z"⟩ ∈ gw_tbl := tb_i 521 (by decide +kernel) rfl
theorem k_523 : Cond.instanceMethod ⟨"HalfToTheLeft$Letters", "carryOutOne", "(II)Z"⟩ ∈ gw_tbl := tb_i 523 (by decide +kernel) rfl
theorem k_524 : Cond.code ⟨"HalfToTheLeft$Letters", "carryOutOne", "(II)Z"⟩ prog_3_method_9_code 3 (some .boolean) ∈ gw_tbl := tb_i 524 (by decide +kernel) rfl
theorem k_525 : Cond.methodLink "HalfToTheLeft$Letters" 61 ⟨"HalfToTheLeft$Letters", "letterAt", "(I)C"⟩ ∈ gw_tbl := tb_i 525 (by decide +kernel) rfl
theorem k_527 : Cond.instanceMethod ⟨"HalfToTheLeft$Letters", "letterAt", "(I)C"⟩ ∈ gw_tbl := tb_i 527 (by decide +kernel) rfl
theorem k_528 : Cond.code ⟨"HalfToTheLeft$Letters", "letterAt", "(I)C"⟩ prog_3_method_12_code 2 (some .char) ∈ gw_tbl := tb_i 528 (by decide +kernel) rfl
theorem k_529 : Cond.methodLink "HalfToTheLeft$Letters" 65 ⟨"HalfToTheLeft$Letters", "number", "(II)I"⟩ ∈ gw_tbl := tb_i 529 (by decide +kernel) rfl
theorem k_531 : Cond.instanceMethod ⟨"HalfToTheLeft$Letters", "number", "(II)I"⟩ ∈ gw_tbl := tb_i 531 (by decide +kernel) rfl
theorem k_532 : Cond.code ⟨"HalfToTheLeft$Letters", "number", "(II)I"⟩ prog_3_method_11_code 5 (some .int) ∈ gw_tbl := tb_i 532 (by decide +kernel) rfl
theorem k_533 : Cond.methodLink "HalfToTheLeft$Letters" 69 ⟨"HalfToTheLeft$Ring", "seatLast", "(II)Z"⟩ ∈ gw_tbl := tb_i 533 (by decide +kernel) rfl
theorem k_534 : Cond.instanceMethod ⟨"HalfToTheLeft$Ring", "seatLast", "(II)Z"⟩ ∈ gw_tbl := tb_i 534 (by decide +kernel) rfl
theorem k_535 : Cond.selects "HalfToTheLeft$Ring" ⟨"HalfToTheLeft$Ring", "seatLast", "(II)Z"⟩ ⟨"HalfToTheLeft$Ring", "seatLast", "(II)Z"⟩ ∈ gw_tbl := tb_i 535 (by decide +kernel) rfl
theorem k_536 : Cond.code ⟨"HalfToTheLeft$Ring", "seatLast", "(II)Z"⟩ prog_6_method_4_code 3 (some .boolean) ∈ gw_tbl := tb_i 536 (by decide +kernel) rfl
theorem k_537 : Cond.methodLink "HalfToTheLeft$Letters" 72 ⟨"HalfToTheLeft$Letters", "bring", "(II)Z"⟩ ∈ gw_tbl := tb_i 537 (by decide +kernel) rfl
theorem k_539 : Cond.instanceMethod ⟨"HalfToTheLeft$Letters", "bring", "(II)Z"⟩ ∈ gw_tbl := tb_i 539 (by decide +kernel) rfl
theorem k_540 : Cond.code ⟨"HalfToTheLeft$Letters", "bring", "(II)Z"⟩ prog_3_method_10_code 3 (some .boolean) ∈ gw_tbl := tb_i 540 (by decide +kernel) rfl
theorem k_550 : Cond.fieldLink "HalfToTheLeft" 104 "HalfToTheLeft" "LEAST_SETTING" "[I" ∈ gw_tbl := tb_i 550 (by decide +kernel) rfl
theorem k_551 : Cond.fieldLink "HalfToTheLeft" 107 "HalfToTheLeft" "GREATEST_SETTING" "[I" ∈ gw_tbl := tb_i 551 (by decide +kernel) rfl
theorem k_555 : Cond.fieldLink "java/lang/String" 15 "java/lang/String" "coder" "B" ∈ gw_tbl := tb_i 555 (by decide +kernel) rfl
theorem k_556 : Cond.fieldLink "java/lang/String" 9 "java/lang/String" "value" "[B" ∈ gw_tbl := tb_i 556 (by decide +kernel) rfl
theorem ks_0 : Cond.selects "HalfToTheLeft" ⟨"HalfToTheLeft", "refuse", "(I)I"⟩ ⟨"HalfToTheLeft", "refuse", "(I)I"⟩ ∈ gw_tbl := tb_s 0 (by decide +kernel) rfl
theorem ks_1 : Cond.selects "HalfToTheLeft$Ring" ⟨"HalfToTheLeft$Ring", "handOn", "()V"⟩ ⟨"HalfToTheLeft$Ring", "handOn", "()V"⟩ ∈ gw_tbl := tb_s 1 (by decide +kernel) rfl
theorem ks_2 : Cond.selects "HalfToTheLeft$Ring" ⟨"HalfToTheLeft$Ring", "mend", "(I)V"⟩ ⟨"HalfToTheLeft$Ring", "mend", "(I)V"⟩ ∈ gw_tbl := tb_s 2 (by decide +kernel) rfl
theorem ks_3 : Cond.selects "HalfToTheLeft" ⟨"HalfToTheLeft", "areTwo", "(II)Z"⟩ ⟨"HalfToTheLeft", "areTwo", "(II)Z"⟩ ∈ gw_tbl := tb_s 3 (by decide +kernel) rfl
theorem ks_4 : Cond.selects "HalfToTheLeft$Crumbs" ⟨"HalfToTheLeft$Crumbs", "begin", "(LHalfToTheLeft$Ring;)V"⟩ ⟨"HalfToTheLeft$Crumbs", "begin", "(LHalfToTheLeft$Ring;)V"⟩ ∈ gw_tbl := tb_s 4 (by decide +kernel) rfl
theorem ks_5 : Cond.selects "HalfToTheLeft$Crumbs" ⟨"HalfToTheLeft$Crumbs", "advance", "(LHalfToTheLeft$Ring;)V"⟩ ⟨"HalfToTheLeft$Crumbs", "advance", "(LHalfToTheLeft$Ring;)V"⟩ ∈ gw_tbl := tb_s 5 (by decide +kernel) rfl
theorem ks_6 : Cond.selects "HalfToTheLeft$Crumbs" ⟨"HalfToTheLeft$Crumbs", "halvings", "(I)I"⟩ ⟨"HalfToTheLeft$Crumbs", "halvings", "(I)I"⟩ ∈ gw_tbl := tb_s 6 (by decide +kernel) rfl
theorem ks_7 : Cond.selects "HalfToTheLeft$Letters" ⟨"HalfToTheLeft$Letters", "placeOfBadForm", "()I"⟩ ⟨"HalfToTheLeft$Letters", "placeOfBadForm", "()I"⟩ ∈ gw_tbl := tb_s 7 (by decide +kernel) rfl
theorem ks_8 : Cond.selects "HalfToTheLeft$Letters" ⟨"HalfToTheLeft$Letters", "carryOutOne", "(II)Z"⟩ ⟨"HalfToTheLeft$Letters", "carryOutOne", "(II)Z"⟩ ∈ gw_tbl := tb_s 8 (by decide +kernel) rfl
theorem ks_9 : Cond.selects "HalfToTheLeft$Letters" ⟨"HalfToTheLeft$Letters", "letterAt", "(I)C"⟩ ⟨"HalfToTheLeft$Letters", "letterAt", "(I)C"⟩ ∈ gw_tbl := tb_s 9 (by decide +kernel) rfl
theorem ks_10 : Cond.selects "HalfToTheLeft$Letters" ⟨"HalfToTheLeft$Letters", "number", "(II)I"⟩ ⟨"HalfToTheLeft$Letters", "number", "(II)I"⟩ ∈ gw_tbl := tb_s 10 (by decide +kernel) rfl
theorem ks_11 : Cond.selects "HalfToTheLeft$Letters" ⟨"HalfToTheLeft$Letters", "bring", "(II)Z"⟩ ⟨"HalfToTheLeft$Letters", "bring", "(II)Z"⟩ ∈ gw_tbl := tb_s 11 (by decide +kernel) rfl
abbrev b_X_refuse : ByteArray := prog_1_method_34_code
abbrev y_X_refuse : MethodName := ⟨"HalfToTheLeft", "refuse", "(I)I"⟩
theorem hd_X_refuse : y_X_refuse.cls ≠ "java/lang/invoke/MethodHandle" ∧ y_X_refuse.cls ≠ "java/lang/invoke/VarHandle" ∧ (parseMethodDescriptor y_X_refuse.desc).map (fun d => d.parameters.length) = some 1 := ⟨by decide +kernel, by decide +kernel, by decide +kernel⟩
abbrev b_Letters_add : ByteArray := prog_3_method_2_code
abbrev y_Letters_add : MethodName := ⟨"HalfToTheLeft$Letters", "add", "(C)I"⟩
theorem hd_Letters_add : y_Letters_add.cls ≠ "java/lang/invoke/MethodHandle" ∧ y_Letters_add.cls ≠ "java/lang/invoke/VarHandle" ∧ (parseMethodDescriptor y_Letters_add.desc).map (fun d => d.parameters.length) = some 1 := ⟨by decide +kernel, by decide +kernel, by decide +kernel⟩
abbrev b_X_feed : ByteArray := prog_1_method_2_code
abbrev y_X_feed : MethodName := ⟨"HalfToTheLeft", "feed", "(I)I"⟩
theorem hd_X_feed : y_X_feed.cls ≠ "java/lang/invoke/MethodHandle" ∧ y_X_feed.cls ≠ "java/lang/invoke/VarHandle" ∧ (parseMethodDescriptor y_X_feed.desc).map (fun d => d.parameters.length) = some 1 := ⟨by decide +kernel, by decide +kernel, by decide +kernel⟩
abbrev b_Letters_behindStart : ByteArray := prog_3_method_6_code
abbrev y_Letters_behindStart : MethodName := ⟨"HalfToTheLeft$Letters", "behindStart", "(C)I"⟩
theorem hd_Letters_behindStart : y_Letters_behindStart.cls ≠ "java/lang/invoke/MethodHandle" ∧ y_Letters_behindStart.cls ≠ "java/lang/invoke/VarHandle" ∧ (parseMethodDescriptor y_Letters_behindStart.desc).map (fun d => d.parameters.length) = some 1 := ⟨by decide +kernel, by decide +kernel, by decide +kernel⟩
abbrev b_Letters_isDigit : ByteArray := prog_3_method_8_code
abbrev y_Letters_isDigit : MethodName := ⟨"HalfToTheLeft$Letters", "isDigit", "(C)Z"⟩
theorem hd_Letters_isDigit : y_Letters_isDigit.cls ≠ "java/lang/invoke/MethodHandle" ∧ y_Letters_isDigit.cls ≠ "java/lang/invoke/VarHandle" ∧ (parseMethodDescriptor y_Letters_isDigit.desc).map (fun d => d.parameters.length) = some 1 := ⟨by decide +kernel, by decide +kernel, by decide +kernel⟩
abbrev b_Letters_behindEnd : ByteArray := prog_3_method_7_code
abbrev y_Letters_behindEnd : MethodName := ⟨"HalfToTheLeft$Letters", "behindEnd", "(C)I"⟩
theorem hd_Letters_behindEnd : y_Letters_behindEnd.cls ≠ "java/lang/invoke/MethodHandle" ∧ y_Letters_behindEnd.cls ≠ "java/lang/invoke/VarHandle" ∧ (parseMethodDescriptor y_Letters_behindEnd.desc).map (fun d => d.parameters.length) = some 1 := ⟨by decide +kernel, by decide +kernel, by decide +kernel⟩
abbrev b_Str_isLatin1 : ByteArray := prog_13_method_154_code
abbrev y_Str_isLatin1 : MethodName := ⟨"java/lang/String", "isLatin1", "()Z"⟩
theorem hd_Str_isLatin1 : y_Str_isLatin1.cls ≠ "java/lang/invoke/MethodHandle" ∧ y_Str_isLatin1.cls ≠ "java/lang/invoke/VarHandle" ∧ (parseMethodDescriptor y_Str_isLatin1.desc).map (fun d => d.parameters.length) = some 0 := ⟨by decide +kernel, by decide +kernel, by decide +kernel⟩
abbrev b_Str_coder : ByteArray := prog_13_method_152_code
abbrev y_Str_coder : MethodName := ⟨"java/lang/String", "coder", "()B"⟩
theorem hd_Str_coder : y_Str_coder.cls ≠ "java/lang/invoke/MethodHandle" ∧ y_Str_coder.cls ≠ "java/lang/invoke/VarHandle" ∧ (parseMethodDescriptor y_Str_coder.desc).map (fun d => d.parameters.length) = some 0 := ⟨by decide +kernel, by decide +kernel, by decide +kernel⟩
abbrev b_Str_length : ByteArray := prog_13_method_54_code
abbrev y_Str_length : MethodName := ⟨"java/lang/String", "length", "()I"⟩
theorem hd_Str_length : y_Str_length.cls ≠ "java/lang/invoke/MethodHandle" ∧ y_Str_length.cls ≠ "java/lang/invoke/VarHandle" ∧ (parseMethodDescriptor y_Str_length.desc).map (fun d => d.parameters.length) = some 0 := ⟨by decide +kernel, by decide +kernel, by decide +kernel⟩
abbrev b_Lat_canEncode : ByteArray := prog_14_method_4_code
abbrev y_Lat_canEncode : MethodName := ⟨"java/lang/StringLatin1", "canEncode", "(I)Z"⟩
theorem hd_Lat_canEncode : y_Lat_canEncode.cls ≠ "java/lang/invoke/MethodHandle" ∧ y_Lat_canEncode.cls ≠ "java/lang/invoke/VarHandle" ∧ (parseMethodDescriptor y_Lat_canEncode.desc).map (fun d => d.parameters.length) = some 1 := ⟨by decide +kernel, by decide +kernel, by decide +kernel⟩
abbrev b_Lat_indexOfChar : ByteArray := prog_14_method_23_code
abbrev y_Lat_indexOfChar : MethodName := ⟨"java/lang/StringLatin1", "indexOfChar", "([BIII)I"⟩
theorem hd_Lat_indexOfChar : y_Lat_indexOfChar.cls ≠ "java/lang/invoke/MethodHandle" ∧ y_Lat_indexOfChar.cls ≠ "java/lang/invoke/VarHandle" ∧ (parseMethodDescriptor y_Lat_indexOfChar.desc).map (fun d => d.parameters.length) = some 4 := ⟨by decide +kernel, by decide +kernel, by decide +kernel⟩
abbrev b_Lat_indexOf : ByteArray := prog_14_method_22_code
abbrev y_Lat_indexOf : MethodName := ⟨"java/lang/StringLatin1", "indexOf", "([BIII)I"⟩
theorem hd_Lat_indexOf : y_Lat_indexOf.cls ≠ "java/lang/invoke/MethodHandle" ∧ y_Lat_indexOf.cls ≠ "java/lang/invoke/VarHandle" ∧ (parseMethodDescriptor y_Lat_indexOf.desc).map (fun d => d.parameters.length) = some 4 := ⟨by decide +kernel, by decide +kernel, by decide +kernel⟩
abbrev b_Str_indexOf2 : ByteArray := prog_13_method_80_code
abbrev y_Str_indexOf2 : MethodName := ⟨"java/lang/String", "indexOf", "(II)I"⟩
theorem hd_Str_indexOf2 : y_Str_indexOf2.cls ≠ "java/lang/invoke/MethodHandle" ∧ y_Str_indexOf2.cls ≠ "java/lang/invoke/VarHandle" ∧ (parseMethodDescriptor y_Str_indexOf2.desc).map (fun d => d.parameters.length) = some 2 := ⟨by decide +kernel, by decide +kernel, by decide +kernel⟩
abbrev b_Str_indexOf1 : ByteArray := prog_13_method_79_code
abbrev y_Str_indexOf1 : MethodName := ⟨"java/lang/String", "indexOf", "(I)I"⟩
theorem hd_Str_indexOf1 : y_Str_indexOf1.cls ≠ "java/lang/invoke/MethodHandle" ∧ y_Str_indexOf1.cls ≠ "java/lang/invoke/VarHandle" ∧ (parseMethodDescriptor y_Str_indexOf1.desc).map (fun d => d.parameters.length) = some 1 := ⟨by decide +kernel, by decide +kernel, by decide +kernel⟩
abbrev b_Letters_behind : ByteArray := prog_3_method_5_code
abbrev y_Letters_behind : MethodName := ⟨"HalfToTheLeft$Letters", "behind", "(IC)I"⟩
theorem hd_Letters_behind : y_Letters_behind.cls ≠ "java/lang/invoke/MethodHandle" ∧ y_Letters_behind.cls ≠ "java/lang/invoke/VarHandle" ∧ (parseMethodDescriptor y_Letters_behind.desc).map (fun d => d.parameters.length) = some 2 := ⟨by decide +kernel, by decide +kernel, by decide +kernel⟩
abbrev b_Letters_placeOfBadForm : ByteArray := prog_3_method_4_code
abbrev y_Letters_placeOfBadForm : MethodName := ⟨"HalfToTheLeft$Letters", "placeOfBadForm", "()I"⟩
theorem hd_Letters_placeOfBadForm : y_Letters_placeOfBadForm.cls ≠ "java/lang/invoke/MethodHandle" ∧ y_Letters_placeOfBadForm.cls ≠ "java/lang/invoke/VarHandle" ∧ (parseMethodDescriptor y_Letters_placeOfBadForm.desc).map (fun d => d.parameters.length) = some 0 := ⟨by decide +kernel, by decide +kernel, by decide +kernel⟩
abbrev b_Ring_copyFrom : ByteArray := prog_6_method_2_code
abbrev y_Ring_copyFrom : MethodName := ⟨"HalfToTheLeft$Ring", "copyFrom", "(LHalfToTheLeft$Ring;)V"⟩
theorem hd_Ring_copyFrom : y_Ring_copyFrom.cls ≠ "java/lang/invoke/MethodHandle" ∧ y_Ring_copyFrom.cls ≠ "java/lang/invoke/VarHandle" ∧ (parseMethodDescriptor y_Ring_copyFrom.desc).map (fun d => d.parameters.length) = some 1 := ⟨by decide +kernel, by decide +kernel, by decide +kernel⟩
abbrev b_Letters_letterAt : ByteArray := prog_3_method_12_code
abbrev y_Letters_letterAt : MethodName := ⟨"HalfToTheLeft$Letters", "letterAt", "(I)C"⟩
theorem hd_Letters_letterAt : y_Letters_letterAt.cls ≠ "java/lang/invoke/MethodHandle" ∧ y_Letters_letterAt.cls ≠ "java/lang/invoke/VarHandle" ∧ (parseMethodDescriptor y_Letters_letterAt.desc).map (fun d => d.parameters.length) = some 1 := ⟨by decide +kernel, by decide +kernel, by decide +kernel⟩
abbrev b_Letters_number : ByteArray := prog_3_method_11_code
abbrev y_Letters_number : MethodName := ⟨"HalfToTheLeft$Letters", "number", "(II)I"⟩
theorem hd_Letters_number : y_Letters_number.cls ≠ "java/lang/invoke/MethodHandle" ∧ y_Letters_number.cls ≠ "java/lang/invoke/VarHandle" ∧ (parseMethodDescriptor y_Letters_number.desc).map (fun d => d.parameters.length) = some 2 := ⟨by decide +kernel, by decide +kernel, by decide +kernel⟩
abbrev b_Ring_seatLast : ByteArray := prog_6_method_4_code
abbrev y_Ring_seatLast : MethodName := ⟨"HalfToTheLeft$Ring", "seatLast", "(II)Z"⟩
theorem hd_Ring_seatLast : y_Ring_seatLast.cls ≠ "java/lang/invoke/MethodHandle" ∧ y_Ring_seatLast.cls ≠ "java/lang/invoke/VarHandle" ∧ (parseMethodDescriptor y_Ring_seatLast.desc).map (fun d => d.parameters.length) = some 2 := ⟨by decide +kernel, by decide +kernel, by decide +kernel⟩
abbrev b_X_outside : ByteArray := prog_1_method_35_code
abbrev y_X_outside : MethodName := ⟨"HalfToTheLeft", "outside", "(III)I"⟩
theorem hd_X_outside : y_X_outside.cls ≠ "java/lang/invoke/MethodHandle" ∧ y_X_outside.cls ≠ "java/lang/invoke/VarHandle" ∧ (parseMethodDescriptor y_X_outside.desc).map (fun d => d.parameters.length) = some 3 := ⟨by decide +kernel, by decide +kernel, by decide +kernel⟩
abbrev b_Letters_bring : ByteArray := prog_3_method_10_code
abbrev y_Letters_bring : MethodName := ⟨"HalfToTheLeft$Letters", "bring", "(II)Z"⟩
theorem hd_Letters_bring : y_Letters_bring.cls ≠ "java/lang/invoke/MethodHandle" ∧ y_Letters_bring.cls ≠ "java/lang/invoke/VarHandle" ∧ (parseMethodDescriptor y_Letters_bring.desc).map (fun d => d.parameters.length) = some 2 := ⟨by decide +kernel, by decide +kernel, by decide +kernel⟩
abbrev b_Letters_carryOutOne : ByteArray := prog_3_method_9_code
abbrev y_Letters_carryOutOne : MethodName := ⟨"HalfToTheLeft$Letters", "carryOutOne", "(II)Z"⟩
theorem hd_Letters_carryOutOne : y_Letters_carryOutOne.cls ≠ "java/lang/invoke/MethodHandle" ∧ y_Letters_carryOutOne.cls ≠ "java/lang/invoke/VarHandle" ∧ (parseMethodDescriptor y_Letters_carryOutOne.desc).map (fun d => d.parameters.length) = some 2 := ⟨by decide +kernel, by decide +kernel, by decide +kernel⟩
abbrev b_Letters_carryOut : ByteArray := prog_3_method_3_code
abbrev y_Letters_carryOut : MethodName := ⟨"HalfToTheLeft$Letters", "carryOut", "(LHalfToTheLeft$Ring;)I"⟩
theorem hd_Letters_carryOut : y_Letters_carryOut.cls ≠ "java/lang/invoke/MethodHandle" ∧ y_Letters_carryOut.cls ≠ "java/lang/invoke/VarHandle" ∧ (parseMethodDescriptor y_Letters_carryOut.desc).map (fun d => d.parameters.length) = some 1 := ⟨by decide +kernel, by decide +kernel, by decide +kernel⟩
abbrev b_X_table : ByteArray := prog_1_method_3_code
abbrev y_X_table : MethodName := ⟨"HalfToTheLeft", "table", "()I"⟩
theorem hd_X_table : y_X_table.cls ≠ "java/lang/invoke/MethodHandle" ∧ y_X_table.cls ≠ "java/lang/invoke/VarHandle" ∧ (parseMethodDescriptor y_X_table.desc).map (fun d => d.parameters.length) = some 0 := ⟨by decide +kernel, by decide +kernel, by decide +kernel⟩
abbrev b_Ring_has : ByteArray := prog_6_method_3_code
abbrev y_Ring_has : MethodName := ⟨"HalfToTheLeft$Ring", "has", "(I)Z"⟩
theorem hd_Ring_has : y_Ring_has.cls ≠ "java/lang/invoke/MethodHandle" ∧ y_Ring_has.cls ≠ "java/lang/invoke/VarHandle" ∧ (parseMethodDescriptor y_Ring_has.desc).map (fun d => d.parameters.length) = some 1 := ⟨by decide +kernel, by decide +kernel, by decide +kernel⟩
abbrev b_Ring_leftOf : ByteArray := prog_6_method_7_code
abbrev y_Ring_leftOf : MethodName := ⟨"HalfToTheLeft$Ring", "leftOf", "(I)I"⟩
theorem hd_Ring_leftOf : y_Ring_leftOf.cls ≠ "java/lang/invoke/MethodHandle" ∧ y_Ring_leftOf.cls ≠ "java/lang/invoke/VarHandle" ∧ (parseMethodDescriptor y_Ring_leftOf.desc).map (fun d => d.parameters.length) = some 1 := ⟨by decide +kernel, by decide +kernel, by decide +kernel⟩
abbrev b_Ring_gift : ByteArray := prog_6_method_9_code
abbrev y_Ring_gift : MethodName := ⟨"HalfToTheLeft$Ring", "gift", "(I)I"⟩
theorem hd_Ring_gift : y_Ring_gift.cls ≠ "java/lang/invoke/MethodHandle" ∧ y_Ring_gift.cls ≠ "java/lang/invoke/VarHandle" ∧ (parseMethodDescriptor y_Ring_gift.desc).map (fun d => d.parameters.length) = some 1 := ⟨by decide +kernel, by decide +kernel, by decide +kernel⟩
abbrev b_Ring_sides : ByteArray := prog_6_method_10_code
abbrev y_Ring_sides : MethodName := ⟨"HalfToTheLeft$Ring", "sides", "(I)I"⟩
theorem hd_Ring_sides : y_Ring_sides.cls ≠ "java/lang/invoke/MethodHandle" ∧ y_Ring_sides.cls ≠ "java/lang/invoke/VarHandle" ∧ (parseMethodDescriptor y_Ring_sides.desc).map (fun d => d.parameters.length) = some 1 := ⟨by decide +kernel, by decide +kernel, by decide +kernel⟩
abbrev b_X_child : ByteArray := prog_1_method_4_code
abbrev y_X_child : MethodName := ⟨"HalfToTheLeft", "child", "(II)I"⟩
theorem hd_X_child : y_X_child.cls ≠ "java/lang/invoke/MethodHandle" ∧ y_X_child.cls ≠ "java/lang/invoke/VarHandle" ∧ (parseMethodDescriptor y_X_child.desc).map (fun d => d.parameters.length) = some 2 := ⟨by decide +kernel, by decide +kernel, by decide +kernel⟩
abbrev b_X_set : ByteArray := prog_1_method_7_code
abbrev y_X_set : MethodName := ⟨"HalfToTheLeft", "set", "(II)I"⟩
theorem hd_X_set : y_X_set.cls ≠ "java/lang/invoke/MethodHandle" ∧ y_X_set.cls ≠ "java/lang/invoke/VarHandle" ∧ (parseMethodDescriptor y_X_set.desc).map (fun d => d.parameters.length) = some 2 := ⟨by decide +kernel, by decide +kernel, by decide +kernel⟩
abbrev b_Ring_rightOf : ByteArray := prog_6_method_8_code
abbrev y_Ring_rightOf : MethodName := ⟨"HalfToTheLeft$Ring", "rightOf", "(I)I"⟩
theorem hd_Ring_rightOf : y_Ring_rightOf.cls ≠ "java/lang/invoke/MethodHandle" ∧ y_Ring_rightOf.cls ≠ "java/lang/invoke/VarHandle" ∧ (parseMethodDescriptor y_Ring_rightOf.desc).map (fun d => d.parameters.length) = some 1 := ⟨by decide +kernel, by decide +kernel, by decide +kernel⟩
abbrev b_Ring_handOn : ByteArray := prog_6_method_14_code
abbrev y_Ring_handOn : MethodName := ⟨"HalfToTheLeft$Ring", "handOn", "()V"⟩
theorem hd_Ring_handOn : y_Ring_handOn.cls ≠ "java/lang/invoke/MethodHandle" ∧ y_Ring_handOn.cls ≠ "java/lang/invoke/VarHandle" ∧ (parseMethodDescriptor y_Ring_handOn.desc).map (fun d => d.parameters.length) = some 0 := ⟨by decide +kernel, by decide +kernel, by decide +kernel⟩
abbrev b_Ring_mend : ByteArray := prog_6_method_15_code
abbrev y_Ring_mend : MethodName := ⟨"HalfToTheLeft$Ring", "mend", "(I)V"⟩
theorem hd_Ring_mend : y_Ring_mend.cls ≠ "java/lang/invoke/MethodHandle" ∧ y_Ring_mend.cls ≠ "java/lang/invoke/VarHandle" ∧ (parseMethodDescriptor y_Ring_mend.desc).map (fun d => d.parameters.length) = some 1 := ⟨by decide +kernel, by decide +kernel, by decide +kernel⟩
abbrev b_Ring_strike : ByteArray := prog_6_method_12_code
abbrev y_Ring_strike : MethodName := ⟨"HalfToTheLeft$Ring", "strike", "()I"⟩
theorem hd_Ring_strike : y_Ring_strike.cls ≠ "java/lang/invoke/MethodHandle" ∧ y_Ring_strike.cls ≠ "java/lang/invoke/VarHandle" ∧ (parseMethodDescriptor y_Ring_strike.desc).map (fun d => d.parameters.length) = some 0 := ⟨by decide +kernel, by decide +kernel, by decide +kernel⟩
abbrev b_X_stroke : ByteArray := prog_1_method_9_code
abbrev y_X_stroke : MethodName := ⟨"HalfToTheLeft", "stroke", "()I"⟩
theorem hd_X_stroke : y_X_stroke.cls ≠ "java/lang/invoke/MethodHandle" ∧ y_X_stroke.cls ≠ "java/lang/invoke/VarHandle" ∧ (parseMethodDescriptor y_X_stroke.desc).map (fun d => d.parameters.length) = some 0 := ⟨by decide +kernel, by decide +kernel, by decide +kernel⟩
abbrev b_Ring_strikeOften : ByteArray := prog_6_method_13_code
abbrev y_Ring_strikeOften : MethodName := ⟨"HalfToTheLeft$Ring", "strikeOften", "(I)V"⟩
theorem hd_Ring_strikeOften : y_Ring_strikeOften.cls ≠ "java/lang/invoke/MethodHandle" ∧ y_Ring_strikeOften.cls ≠ "java/lang/invoke/VarHandle" ∧ (parseMethodDescriptor y_Ring_strikeOften.desc).map (fun d => d.parameters.length) = some 1 := ⟨by decide +kernel, by decide +kernel, by decide +kernel⟩
abbrev b_Mind_sweetsBehind : ByteArray := prog_4_method_2_code
abbrev y_Mind_sweetsBehind : MethodName := ⟨"HalfToTheLeft$Mind", "sweetsBehind", "(LHalfToTheLeft$Ring;II)I"⟩
theorem hd_Mind_sweetsBehind : y_Mind_sweetsBehind.cls ≠ "java/lang/invoke/MethodHandle" ∧ y_Mind_sweetsBehind.cls ≠ "java/lang/invoke/VarHandle" ∧ (parseMethodDescriptor y_Mind_sweetsBehind.desc).map (fun d => d.parameters.length) = some 3 := ⟨by decide +kernel, by decide +kernel, by decide +kernel⟩
abbrev b_X_run : ByteArray := prog_1_method_10_code
abbrev y_X_run : MethodName := ⟨"HalfToTheLeft", "run", "(II)I"⟩
theorem hd_X_run : y_X_run.cls ≠ "java/lang/invoke/MethodHandle" ∧ y_X_run.cls ≠ "java/lang/invoke/VarHandle" ∧ (parseMethodDescriptor y_X_run.desc).map (fun d => d.parameters.length) = some 2 := ⟨by decide +kernel, by decide +kernel, by decide +kernel⟩
abbrev b_X_isPart : ByteArray := prog_1_method_39_code
abbrev y_X_isPart : MethodName := ⟨"HalfToTheLeft", "isPart", "(I)Z"⟩
theorem hd_X_isPart : y_X_isPart.cls ≠ "java/lang/invoke/MethodHandle" ∧ y_X_isPart.cls ≠ "java/lang/invoke/VarHandle" ∧ (parseMethodDescriptor y_X_isPart.desc).map (fun d => d.parameters.length) = some 1 := ⟨by decide +kernel, by decide +kernel, by decide +kernel⟩
abbrev b_Mind_gaveIn : ByteArray := prog_4_method_3_code
abbrev y_Mind_gaveIn : MethodName := ⟨"HalfToTheLeft$Mind", "gaveIn", "(LHalfToTheLeft$Ring;I)I"⟩
theorem hd_Mind_gaveIn : y_Mind_gaveIn.cls ≠ "java/lang/invoke/MethodHandle" ∧ y_Mind_gaveIn.cls ≠ "java/lang/invoke/VarHandle" ∧ (parseMethodDescriptor y_Mind_gaveIn.desc).map (fun d => d.parameters.length) = some 2 := ⟨by decide +kernel, by decide +kernel, by decide +kernel⟩
abbrev b_Mind_threwIn : ByteArray := prog_4_method_4_code
abbrev y_Mind_threwIn : MethodName := ⟨"HalfToTheLeft$Mind", "threwIn", "(LHalfToTheLeft$Ring;I)I"⟩
theorem hd_Mind_threwIn : y_Mind_threwIn.cls ≠ "java/lang/invoke/MethodHandle" ∧ y_Mind_threwIn.cls ≠ "java/lang/invoke/VarHandle" ∧ (parseMethodDescriptor y_Mind_threwIn.desc).map (fun d => d.parameters.length) = some 2 := ⟨by decide +kernel, by decide +kernel, by decide +kernel⟩
abbrev b_X_given : ByteArray := prog_1_method_11_code
abbrev y_X_given : MethodName := ⟨"HalfToTheLeft", "given", "(II)I"⟩
theorem hd_X_given : y_X_given.cls ≠ "java/lang/invoke/MethodHandle" ∧ y_X_given.cls ≠ "java/lang/invoke/VarHandle" ∧ (parseMethodDescriptor y_X_given.desc).map (fun d => d.parameters.length) = some 2 := ⟨by decide +kernel, by decide +kernel, by decide +kernel⟩
abbrev b_Ring_hasSweetsOf : ByteArray := prog_6_method_20_code
abbrev y_Ring_hasSweetsOf : MethodName := ⟨"HalfToTheLeft$Ring", "hasSweetsOf", "(LHalfToTheLeft$Ring;)Z"⟩
theorem hd_Ring_hasSweetsOf : y_Ring_hasSweetsOf.cls ≠ "java/lang/invoke/MethodHandle" ∧ y_Ring_hasSweetsOf.cls ≠ "java/lang/invoke/VarHandle" ∧ (parseMethodDescriptor y_Ring_hasSweetsOf.desc).map (fun d => d.parameters.length) = some 1 := ⟨by decide +kernel, by decide +kernel, by decide +kernel⟩
abbrev b_Mind_restsBehind : ByteArray := prog_4_method_5_code
abbrev y_Mind_restsBehind : MethodName := ⟨"HalfToTheLeft$Mind", "restsBehind", "(LHalfToTheLeft$Ring;)I"⟩
theorem hd_Mind_restsBehind : y_Mind_restsBehind.cls ≠ "java/lang/invoke/MethodHandle" ∧ y_Mind_restsBehind.cls ≠ "java/lang/invoke/VarHandle" ∧ (parseMethodDescriptor y_Mind_restsBehind.desc).map (fun d => d.parameters.length) = some 1 := ⟨by decide +kernel, by decide +kernel, by decide +kernel⟩
abbrev b_X_rests : ByteArray := prog_1_method_12_code
abbrev y_X_rests : MethodName := ⟨"HalfToTheLeft", "rests", "()I"⟩
theorem hd_X_rests : y_X_rests.cls ≠ "java/lang/invoke/MethodHandle" ∧ y_X_rests.cls ≠ "java/lang/invoke/VarHandle" ∧ (parseMethodDescriptor y_X_rests.desc).map (fun d => d.parameters.length) = some 0 := ⟨by decide +kernel, by decide +kernel, by decide +kernel⟩
abbrev b_Ring_allHaveAlike : ByteArray := prog_6_method_19_code
abbrev y_Ring_allHaveAlike : MethodName := ⟨"HalfToTheLeft$Ring", "allHaveAlike", "()Z"⟩
theorem hd_Ring_allHaveAlike : y_Ring_allHaveAlike.cls ≠ "java/lang/invoke/MethodHandle" ∧ y_Ring_allHaveAlike.cls ≠ "java/lang/invoke/VarHandle" ∧ (parseMethodDescriptor y_Ring_allHaveAlike.desc).map (fun d => d.parameters.length) = some 0 := ⟨by decide +kernel, by decide +kernel, by decide +kernel⟩
abbrev b_Mind_alikeWithin : ByteArray := prog_4_method_7_code
abbrev y_Mind_alikeWithin : MethodName := ⟨"HalfToTheLeft$Mind", "alikeWithin", "(LHalfToTheLeft$Ring;I)I"⟩
theorem hd_Mind_alikeWithin : y_Mind_alikeWithin.cls ≠ "java/lang/invoke/MethodHandle" ∧ y_Mind_alikeWithin.cls ≠ "java/lang/invoke/VarHandle" ∧ (parseMethodDescriptor y_Mind_alikeWithin.desc).map (fun d => d.parameters.length) = some 2 := ⟨by decide +kernel, by decide +kernel, by decide +kernel⟩
abbrev b_Mind_alikeBehind : ByteArray := prog_4_method_6_code
abbrev y_Mind_alikeBehind : MethodName := ⟨"HalfToTheLeft$Mind", "alikeBehind", "(LHalfToTheLeft$Ring;)I"⟩
theorem hd_Mind_alikeBehind : y_Mind_alikeBehind.cls ≠ "java/lang/invoke/MethodHandle" ∧ y_Mind_alikeBehind.cls ≠ "java/lang/invoke/VarHandle" ∧ (parseMethodDescriptor y_Mind_alikeBehind.desc).map (fun d => d.parameters.length) = some 1 := ⟨by decide +kernel, by decide +kernel, by decide +kernel⟩
abbrev b_X_alike : ByteArray := prog_1_method_13_code
abbrev y_X_alike : MethodName := ⟨"HalfToTheLeft", "alike", "()I"⟩
theorem hd_X_alike : y_X_alike.cls ≠ "java/lang/invoke/MethodHandle" ∧ y_X_alike.cls ≠ "java/lang/invoke/VarHandle" ∧ (parseMethodDescriptor y_X_alike.desc).map (fun d => d.parameters.length) = some 0 := ⟨by decide +kernel, by decide +kernel, by decide +kernel⟩
abbrev b_Ring_hasSweetsAndBagOf : ByteArray := prog_6_method_21_code
abbrev y_Ring_hasSweetsAndBagOf : MethodName := ⟨"HalfToTheLeft$Ring", "hasSweetsAndBagOf", "(LHalfToTheLeft$Ring;)Z"⟩
theorem hd_Ring_hasSweetsAndBagOf : y_Ring_hasSweetsAndBagOf.cls ≠ "java/lang/invoke/MethodHandle" ∧ y_Ring_hasSweetsAndBagOf.cls ≠ "java/lang/invoke/VarHandle" ∧ (parseMethodDescriptor y_Ring_hasSweetsAndBagOf.desc).map (fun d => d.parameters.length) = some 1 := ⟨by decide +kernel, by decide +kernel, by decide +kernel⟩
abbrev b_Mind_roundOf : ByteArray := prog_4_method_8_code
abbrev y_Mind_roundOf : MethodName := ⟨"HalfToTheLeft$Mind", "roundOf", "(LHalfToTheLeft$Ring;)I"⟩
theorem hd_Mind_roundOf : y_Mind_roundOf.cls ≠ "java/lang/invoke/MethodHandle" ∧ y_Mind_roundOf.cls ≠ "java/lang/invoke/VarHandle" ∧ (parseMethodDescriptor y_Mind_roundOf.desc).map (fun d => d.parameters.length) = some 1 := ⟨by decide +kernel, by decide +kernel, by decide +kernel⟩
abbrev b_Mind_aheadOfRound : ByteArray := prog_4_method_9_code
abbrev y_Mind_aheadOfRound : MethodName := ⟨"HalfToTheLeft$Mind", "aheadOfRound", "(LHalfToTheLeft$Ring;I)I"⟩
theorem hd_Mind_aheadOfRound : y_Mind_aheadOfRound.cls ≠ "java/lang/invoke/MethodHandle" ∧ y_Mind_aheadOfRound.cls ≠ "java/lang/invoke/VarHandle" ∧ (parseMethodDescriptor y_Mind_aheadOfRound.desc).map (fun d => d.parameters.length) = some 2 := ⟨by decide +kernel, by decide +kernel, by decide +kernel⟩
abbrev b_X_ring : ByteArray := prog_1_method_14_code
abbrev y_X_ring : MethodName := ⟨"HalfToTheLeft", "ring", "(I)I"⟩
theorem hd_X_ring : y_X_ring.cls ≠ "java/lang/invoke/MethodHandle" ∧ y_X_ring.cls ≠ "java/lang/invoke/VarHandle" ∧ (parseMethodDescriptor y_X_ring.desc).map (fun d => d.parameters.length) = some 1 := ⟨by decide +kernel, by decide +kernel, by decide +kernel⟩
abbrev b_X_areTwo : ByteArray := prog_1_method_40_code
abbrev y_X_areTwo : MethodName := ⟨"HalfToTheLeft", "areTwo", "(II)Z"⟩
theorem hd_X_areTwo : y_X_areTwo.cls ≠ "java/lang/invoke/MethodHandle" ∧ y_X_areTwo.cls ≠ "java/lang/invoke/VarHandle" ∧ (parseMethodDescriptor y_X_areTwo.desc).map (fun d => d.parameters.length) = some 2 := ⟨by decide +kernel, by decide +kernel, by decide +kernel⟩
abbrev b_Mind_meetBehind : ByteArray := prog_4_method_10_code
abbrev y_Mind_meetBehind : MethodName := ⟨"HalfToTheLeft$Mind", "meetBehind", "(LHalfToTheLeft$Ring;II)I"⟩
theorem hd_Mind_meetBehind : y_Mind_meetBehind.cls ≠ "java/lang/invoke/MethodHandle" ∧ y_Mind_meetBehind.cls ≠ "java/lang/invoke/VarHandle" ∧ (parseMethodDescriptor y_Mind_meetBehind.desc).map (fun d => d.parameters.length) = some 3 := ⟨by decide +kernel, by decide +kernel, by decide +kernel⟩
abbrev b_X_meet : ByteArray := prog_1_method_15_code
abbrev y_X_meet : MethodName := ⟨"HalfToTheLeft", "meet", "(II)I"⟩
theorem hd_X_meet : y_X_meet.cls ≠ "java/lang/invoke/MethodHandle" ∧ y_X_meet.cls ≠ "java/lang/invoke/VarHandle" ∧ (parseMethodDescriptor y_X_meet.desc).map (fun d => d.parameters.length) = some 2 := ⟨by decide +kernel, by decide +kernel, by decide +kernel⟩
abbrev b_Crumbs_begin : ByteArray := prog_2_method_3_code
abbrev y_Crumbs_begin : MethodName := ⟨"HalfToTheLeft$Crumbs", "begin", "(LHalfToTheLeft$Ring;)V"⟩
theorem hd_Crumbs_begin : y_Crumbs_begin.cls ≠ "java/lang/invoke/MethodHandle" ∧ y_Crumbs_begin.cls ≠ "java/lang/invoke/VarHandle" ∧ (parseMethodDescriptor y_Crumbs_begin.desc).map (fun d => d.parameters.length) = some 1 := ⟨by decide +kernel, by decide +kernel, by decide +kernel⟩
abbrev b_Crumbs_advance : ByteArray := prog_2_method_4_code
abbrev y_Crumbs_advance : MethodName := ⟨"HalfToTheLeft$Crumbs", "advance", "(LHalfToTheLeft$Ring;)V"⟩
theorem hd_Crumbs_advance : y_Crumbs_advance.cls ≠ "java/lang/invoke/MethodHandle" ∧ y_Crumbs_advance.cls ≠ "java/lang/invoke/VarHandle" ∧ (parseMethodDescriptor y_Crumbs_advance.desc).map (fun d => d.parameters.length) = some 1 := ⟨by decide +kernel, by decide +kernel, by decide +kernel⟩
abbrev b_Crumbs_take : ByteArray := prog_2_method_2_code
abbrev y_Crumbs_take : MethodName := ⟨"HalfToTheLeft$Crumbs", "take", "(LHalfToTheLeft$Ring;I)V"⟩
theorem hd_Crumbs_take : y_Crumbs_take.cls ≠ "java/lang/invoke/MethodHandle" ∧ y_Crumbs_take.cls ≠ "java/lang/invoke/VarHandle" ∧ (parseMethodDescriptor y_Crumbs_take.desc).map (fun d => d.parameters.length) = some 2 := ⟨by decide +kernel, by decide +kernel, by decide +kernel⟩
abbrev b_Crumbs_halvings : ByteArray := prog_2_method_7_code
abbrev y_Crumbs_halvings : MethodName := ⟨"HalfToTheLeft$Crumbs", "halvings", "(I)I"⟩
theorem hd_Crumbs_halvings : y_Crumbs_halvings.cls ≠ "java/lang/invoke/MethodHandle" ∧ y_Crumbs_halvings.cls ≠ "java/lang/invoke/VarHandle" ∧ (parseMethodDescriptor y_Crumbs_halvings.desc).map (fun d => d.parameters.length) = some 1 := ⟨by decide +kernel, by decide +kernel, by decide +kernel⟩
abbrev b_Crumbs_above : ByteArray := prog_2_method_5_code
abbrev y_Crumbs_above : MethodName := ⟨"HalfToTheLeft$Crumbs", "above", "(I)J"⟩
theorem hd_Crumbs_above : y_Crumbs_above.cls ≠ "java/lang/invoke/MethodHandle" ∧ y_Crumbs_above.cls ≠ "java/lang/invoke/VarHandle" ∧ (parseMethodDescriptor y_Crumbs_above.desc).map (fun d => d.parameters.length) = some 1 := ⟨by decide +kernel, by decide +kernel, by decide +kernel⟩
abbrev b_Crumbs_below : ByteArray := prog_2_method_6_code
abbrev y_Crumbs_below : MethodName := ⟨"HalfToTheLeft$Crumbs", "below", "(I)J"⟩
theorem hd_Crumbs_below : y_Crumbs_below.cls ≠ "java/lang/invoke/MethodHandle" ∧ y_Crumbs_below.cls ≠ "java/lang/invoke/VarHandle" ∧ (parseMethodDescriptor y_Crumbs_below.desc).map (fun d => d.parameters.length) = some 1 := ⟨by decide +kernel, by decide +kernel, by decide +kernel⟩
abbrev b_X_crumbs : ByteArray := prog_1_method_16_code
abbrev y_X_crumbs : MethodName := ⟨"HalfToTheLeft", "crumbs", "(III)J"⟩
theorem hd_X_crumbs : y_X_crumbs.cls ≠ "java/lang/invoke/MethodHandle" ∧ y_X_crumbs.cls ≠ "java/lang/invoke/VarHandle" ∧ (parseMethodDescriptor y_X_crumbs.desc).map (fun d => d.parameters.length) = some 3 := ⟨by decide +kernel, by decide +kernel, by decide +kernel⟩
abbrev b_Ring_allSweets : ByteArray := prog_6_method_16_code
abbrev y_Ring_allSweets : MethodName := ⟨"HalfToTheLeft$Ring", "allSweets", "()I"⟩
theorem hd_Ring_allSweets : y_Ring_allSweets.cls ≠ "java/lang/invoke/MethodHandle" ∧ y_Ring_allSweets.cls ≠ "java/lang/invoke/VarHandle" ∧ (parseMethodDescriptor y_Ring_allSweets.desc).map (fun d => d.parameters.length) = some 0 := ⟨by decide +kernel, by decide +kernel, by decide +kernel⟩
abbrev b_Ring_commonDivisor : ByteArray := prog_6_method_18_code
abbrev y_Ring_commonDivisor : MethodName := ⟨"HalfToTheLeft$Ring", "commonDivisor", "()I"⟩
theorem hd_Ring_commonDivisor : y_Ring_commonDivisor.cls ≠ "java/lang/invoke/MethodHandle" ∧ y_Ring_commonDivisor.cls ≠ "java/lang/invoke/VarHandle" ∧ (parseMethodDescriptor y_Ring_commonDivisor.desc).map (fun d => d.parameters.length) = some 0 := ⟨by decide +kernel, by decide +kernel, by decide +kernel⟩
abbrev b_X_mean : ByteArray := prog_1_method_17_code
abbrev y_X_mean : MethodName := ⟨"HalfToTheLeft", "mean", "(I)I"⟩
theorem hd_X_mean : y_X_mean.cls ≠ "java/lang/invoke/MethodHandle" ∧ y_X_mean.cls ≠ "java/lang/invoke/VarHandle" ∧ (parseMethodDescriptor y_X_mean.desc).map (fun d => d.parameters.length) = some 1 := ⟨by decide +kernel, by decide +kernel, by decide +kernel⟩
abbrev b_Ring_oddHeaps : ByteArray := prog_6_method_17_code
abbrev y_Ring_oddHeaps : MethodName := ⟨"HalfToTheLeft$Ring", "oddHeaps", "()I"⟩
theorem hd_Ring_oddHeaps : y_Ring_oddHeaps.cls ≠ "java/lang/invoke/MethodHandle" ∧ y_Ring_oddHeaps.cls ≠ "java/lang/invoke/VarHandle" ∧ (parseMethodDescriptor y_Ring_oddHeaps.desc).map (fun d => d.parameters.length) = some 0 := ⟨by decide +kernel, by decide +kernel, by decide +kernel⟩
abbrev b_X_count : ByteArray := prog_1_method_33_code
abbrev y_X_count : MethodName := ⟨"HalfToTheLeft", "count", "(I)I"⟩
theorem hd_X_count : y_X_count.cls ≠ "java/lang/invoke/MethodHandle" ∧ y_X_count.cls ≠ "java/lang/invoke/VarHandle" ∧ (parseMethodDescriptor y_X_count.desc).map (fun d => d.parameters.length) = some 1 := ⟨by decide +kernel, by decide +kernel, by decide +kernel⟩
