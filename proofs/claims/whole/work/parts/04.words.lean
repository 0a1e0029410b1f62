/-! The tables' words that the walks need; the methods. Printed by wip/whole/gen. -/
theorem k_1 : Cond.initialized "HalfToTheLeft" ∈ gw_tbl := tb_i 1 (by decide +kernel) rfl
theorem k_2 : Cond.initialized "HalfToTheLeft$Ring" ∈ gw_tbl := tb_i 2 (by decide +kernel) rfl
theorem k_3 : Cond.initialized "HalfToTheLeft$Letters" ∈ gw_tbl := tb_i 3 (by decide +kernel) rfl
theorem k_4 : Cond.initialized "HalfToTheLeft$Mind" ∈ gw_tbl := tb_i 4 (by decide +kernel) rfl
theorem k_5 : Cond.initialized "HalfToTheLeft$Crumbs" ∈ gw_tbl := tb_i 5 (by decide +kernel) rfl
theorem k_6 : Cond.initialized "HalfToTheLeft$Past" ∈ gw_tbl := tb_i 6 (by decide +kernel) rfl
theorem k_7 : Cond.initialized "HalfToTheLeft$Seating" ∈ gw_tbl := tb_i 7 (by decide +kernel) rfl
theorem k_8 : Cond.initialized "HalfToTheLeftModel" ∈ gw_tbl := tb_i 8 (by decide +kernel) rfl
theorem k_9 : Cond.initialized "java/lang/String" ∈ gw_tbl := tb_i 9 (by decide +kernel) rfl
theorem k_10 : Cond.initialized "java/lang/StringLatin1" ∈ gw_tbl := tb_i 10 (by decide +kernel) rfl
theorem k_11 : Cond.initialized "java/lang/Math" ∈ gw_tbl := tb_i 11 (by decide +kernel) rfl
theorem k_15 : Cond.initialized "java/lang/System" ∈ gw_tbl := tb_i 15 (by decide +kernel) rfl
theorem k_30 : Cond.fieldLink "HalfToTheLeft$Ring" 9 "HalfToTheLeft$Ring" "kinds" "[I" ∈ gw_tbl := tb_i 30 (by decide +kernel) rfl
theorem k_31 : Cond.fieldLink "HalfToTheLeft$Seating" 53 "HalfToTheLeft$Ring" "kinds" "[I" ∈ gw_tbl := tb_i 31 (by decide +kernel) rfl
theorem k_32 : Cond.fieldLink "HalfToTheLeft$Past" 70 "HalfToTheLeft$Ring" "kinds" "[I" ∈ gw_tbl := tb_i 32 (by decide +kernel) rfl
theorem k_33 : Cond.fieldLink "HalfToTheLeft" 88 "HalfToTheLeft$Ring" "kinds" "[I" ∈ gw_tbl := tb_i 33 (by decide +kernel) rfl
theorem k_34 : Cond.fieldLink "HalfToTheLeft$Mind" 62 "HalfToTheLeft$Ring" "kinds" "[I" ∈ gw_tbl := tb_i 34 (by decide +kernel) rfl
theorem k_35 : Cond.fieldLink "HalfToTheLeft$Ring" 15 "HalfToTheLeft$Ring" "sweets" "[I" ∈ gw_tbl := tb_i 35 (by decide +kernel) rfl
theorem k_36 : Cond.fieldLink "HalfToTheLeft$Mind" 33 "HalfToTheLeft$Ring" "sweets" "[I" ∈ gw_tbl := tb_i 36 (by decide +kernel) rfl
theorem k_37 : Cond.fieldLink "HalfToTheLeft$Past" 29 "HalfToTheLeft$Ring" "sweets" "[I" ∈ gw_tbl := tb_i 37 (by decide +kernel) rfl
theorem k_38 : Cond.fieldLink "HalfToTheLeft$Crumbs" 34 "HalfToTheLeft$Ring" "sweets" "[I" ∈ gw_tbl := tb_i 38 (by decide +kernel) rfl
theorem k_39 : Cond.fieldLink "HalfToTheLeft$Seating" 56 "HalfToTheLeft$Ring" "sweets" "[I" ∈ gw_tbl := tb_i 39 (by decide +kernel) rfl
theorem k_40 : Cond.fieldLink "HalfToTheLeft" 91 "HalfToTheLeft$Ring" "sweets" "[I" ∈ gw_tbl := tb_i 40 (by decide +kernel) rfl
theorem k_41 : Cond.fieldLink "HalfToTheLeft$Ring" 18 "HalfToTheLeft$Ring" "settings" "[I" ∈ gw_tbl := tb_i 41 (by decide +kernel) rfl
theorem k_42 : Cond.fieldLink "HalfToTheLeft" 110 "HalfToTheLeft$Ring" "settings" "[I" ∈ gw_tbl := tb_i 42 (by decide +kernel) rfl
theorem k_43 : Cond.fieldLink "HalfToTheLeft$Letters" 86 "HalfToTheLeft$Ring" "settings" "[I" ∈ gw_tbl := tb_i 43 (by decide +kernel) rfl
theorem k_44 : Cond.fieldLink "HalfToTheLeft$Ring" 21 "HalfToTheLeft$Ring" "children" "I" ∈ gw_tbl := tb_i 44 (by decide +kernel) rfl
theorem k_45 : Cond.fieldLink "HalfToTheLeft$Seating" 25 "HalfToTheLeft$Ring" "children" "I" ∈ gw_tbl := tb_i 45 (by decide +kernel) rfl
theorem k_46 : Cond.fieldLink "HalfToTheLeft$Past" 21 "HalfToTheLeft$Ring" "children" "I" ∈ gw_tbl := tb_i 46 (by decide +kernel) rfl
theorem k_47 : Cond.fieldLink "HalfToTheLeft$Crumbs" 29 "HalfToTheLeft$Ring" "children" "I" ∈ gw_tbl := tb_i 47 (by decide +kernel) rfl
theorem k_48 : Cond.fieldLink "HalfToTheLeft" 121 "HalfToTheLeft$Ring" "children" "I" ∈ gw_tbl := tb_i 48 (by decide +kernel) rfl
theorem k_49 : Cond.fieldLink "HalfToTheLeft$Mind" 74 "HalfToTheLeft$Ring" "children" "I" ∈ gw_tbl := tb_i 49 (by decide +kernel) rfl
theorem k_50 : Cond.fieldLink "HalfToTheLeft$Ring" 25 "HalfToTheLeft$Ring" "strokes" "I" ∈ gw_tbl := tb_i 50 (by decide +kernel) rfl
theorem k_51 : Cond.fieldLink "HalfToTheLeft" 236 "HalfToTheLeft$Ring" "strokes" "I" ∈ gw_tbl := tb_i 51 (by decide +kernel) rfl
theorem k_52 : Cond.fieldLink "HalfToTheLeft$Ring" 28 "HalfToTheLeft$Ring" "gave" "I" ∈ gw_tbl := tb_i 52 (by decide +kernel) rfl
theorem k_53 : Cond.fieldLink "HalfToTheLeft$Mind" 37 "HalfToTheLeft$Ring" "gave" "I" ∈ gw_tbl := tb_i 53 (by decide +kernel) rfl
theorem k_54 : Cond.fieldLink "HalfToTheLeft$Seating" 63 "HalfToTheLeft$Ring" "gave" "I" ∈ gw_tbl := tb_i 54 (by decide +kernel) rfl
theorem k_55 : Cond.fieldLink "HalfToTheLeft" 239 "HalfToTheLeft$Ring" "gave" "I" ∈ gw_tbl := tb_i 55 (by decide +kernel) rfl
theorem k_56 : Cond.fieldLink "HalfToTheLeft$Ring" 31 "HalfToTheLeft$Ring" "threw" "I" ∈ gw_tbl := tb_i 56 (by decide +kernel) rfl
theorem k_57 : Cond.fieldLink "HalfToTheLeft$Mind" 40 "HalfToTheLeft$Ring" "threw" "I" ∈ gw_tbl := tb_i 57 (by decide +kernel) rfl
theorem k_58 : Cond.fieldLink "HalfToTheLeft" 242 "HalfToTheLeft$Ring" "threw" "I" ∈ gw_tbl := tb_i 58 (by decide +kernel) rfl
theorem k_59 : Cond.fieldLink "HalfToTheLeft$Ring" 34 "HalfToTheLeft$Ring" "heaps" "[I" ∈ gw_tbl := tb_i 59 (by decide +kernel) rfl
theorem k_86 : Cond.fieldLink "HalfToTheLeft$Letters" 9 "HalfToTheLeft$Letters" "length" "I" ∈ gw_tbl := tb_i 86 (by decide +kernel) rfl
theorem k_87 : Cond.fieldLink "HalfToTheLeft" 73 "HalfToTheLeft$Letters" "length" "I" ∈ gw_tbl := tb_i 87 (by decide +kernel) rfl
theorem k_88 : Cond.fieldLink "HalfToTheLeft$Letters" 15 "HalfToTheLeft$Letters" "text" "[C" ∈ gw_tbl := tb_i 88 (by decide +kernel) rfl
theorem k_89 : Cond.fieldLink "HalfToTheLeft$Letters" 22 "HalfToTheLeft$Letters" "trial" "LHalfToTheLeft$Ring;" ∈ gw_tbl := tb_i 89 (by decide +kernel) rfl
theorem k_106 : Cond.fieldLink "HalfToTheLeft$Mind" 12 "HalfToTheLeft$Mind" "one" "LHalfToTheLeft$Ring;" ∈ gw_tbl := tb_i 106 (by decide +kernel) rfl
theorem k_107 : Cond.fieldLink "HalfToTheLeft$Mind" 18 "HalfToTheLeft$Mind" "two" "LHalfToTheLeft$Ring;" ∈ gw_tbl := tb_i 107 (by decide +kernel) rfl
theorem k_108 : Cond.fieldLink "HalfToTheLeft$Mind" 21 "HalfToTheLeft$Mind" "seed" "I" ∈ gw_tbl := tb_i 108 (by decide +kernel) rfl
theorem k_122 : Cond.fieldLink "HalfToTheLeft$Crumbs" 9 "HalfToTheLeft$Crumbs" "have" "[J" ∈ gw_tbl := tb_i 122 (by decide +kernel) rfl
theorem k_123 : Cond.fieldLink "HalfToTheLeft$Crumbs" 15 "HalfToTheLeft$Crumbs" "next" "[J" ∈ gw_tbl := tb_i 123 (by decide +kernel) rfl
theorem k_124 : Cond.fieldLink "HalfToTheLeft$Crumbs" 18 "HalfToTheLeft$Crumbs" "doublings" "I" ∈ gw_tbl := tb_i 124 (by decide +kernel) rfl
theorem k_141 : Cond.fieldLink "HalfToTheLeft$Past" 12 "HalfToTheLeft$Past" "told" "LHalfToTheLeft$Ring;" ∈ gw_tbl := tb_i 141 (by decide +kernel) rfl
theorem k_142 : Cond.fieldLink "HalfToTheLeft" 195 "HalfToTheLeft$Past" "told" "LHalfToTheLeft$Ring;" ∈ gw_tbl := tb_i 142 (by decide +kernel) rfl
theorem k_143 : Cond.fieldLink "HalfToTheLeft$Past" 18 "HalfToTheLeft$Past" "struck" "LHalfToTheLeft$Ring;" ∈ gw_tbl := tb_i 143 (by decide +kernel) rfl
theorem k_157 : Cond.fieldLink "HalfToTheLeft$Seating" 9 "HalfToTheLeft$Seating" "bestOrder" "[I" ∈ gw_tbl := tb_i 157 (by decide +kernel) rfl
theorem k_158 : Cond.fieldLink "HalfToTheLeft" 204 "HalfToTheLeft$Seating" "bestOrder" "[I" ∈ gw_tbl := tb_i 158 (by decide +kernel) rfl
theorem k_159 : Cond.fieldLink "HalfToTheLeft$Seating" 15 "HalfToTheLeft$Seating" "order" "[I" ∈ gw_tbl := tb_i 159 (by decide +kernel) rfl
theorem k_160 : Cond.fieldLink "HalfToTheLeft$Seating" 21 "HalfToTheLeft$Seating" "trial" "LHalfToTheLeft$Ring;" ∈ gw_tbl := tb_i 160 (by decide +kernel) rfl
theorem k_168 : Cond.fieldLink "HalfToTheLeft" 10 "HalfToTheLeft" "now" "LHalfToTheLeft$Ring;" ∈ gw_tbl := tb_i 168 (by decide +kernel) rfl
theorem k_169 : Cond.fieldLink "HalfToTheLeft" 16 "HalfToTheLeft" "kept" "LHalfToTheLeft$Ring;" ∈ gw_tbl := tb_i 169 (by decide +kernel) rfl
theorem k_170 : Cond.fieldLink "HalfToTheLeft" 19 "HalfToTheLeft" "isKept" "Z" ∈ gw_tbl := tb_i 170 (by decide +kernel) rfl
theorem k_171 : Cond.fieldLink "HalfToTheLeft" 26 "HalfToTheLeft" "letters" "LHalfToTheLeft$Letters;" ∈ gw_tbl := tb_i 171 (by decide +kernel) rfl
theorem k_172 : Cond.fieldLink "HalfToTheLeft" 30 "HalfToTheLeft" "numbers" "[I" ∈ gw_tbl := tb_i 172 (by decide +kernel) rfl
theorem k_173 : Cond.fieldLink "HalfToTheLeft" 34 "HalfToTheLeft" "numberCount" "I" ∈ gw_tbl := tb_i 173 (by decide +kernel) rfl
theorem k_174 : Cond.fieldLink "HalfToTheLeft" 38 "HalfToTheLeft" "refusals" "[I" ∈ gw_tbl := tb_i 174 (by decide +kernel) rfl
theorem k_175 : Cond.fieldLink "HalfToTheLeft" 44 "HalfToTheLeft" "mind" "LHalfToTheLeft$Mind;" ∈ gw_tbl := tb_i 175 (by decide +kernel) rfl
theorem k_176 : Cond.fieldLink "HalfToTheLeft" 51 "HalfToTheLeft" "parts" "LHalfToTheLeft$Crumbs;" ∈ gw_tbl := tb_i 176 (by decide +kernel) rfl
theorem k_177 : Cond.fieldLink "HalfToTheLeft" 58 "HalfToTheLeft" "past" "LHalfToTheLeft$Past;" ∈ gw_tbl := tb_i 177 (by decide +kernel) rfl
theorem k_178 : Cond.fieldLink "HalfToTheLeft" 65 "HalfToTheLeft" "seating" "LHalfToTheLeft$Seating;" ∈ gw_tbl := tb_i 178 (by decide +kernel) rfl
theorem k_206 : Cond.methodLink "HalfToTheLeft" 69 ⟨"HalfToTheLeft", "refuse", "(I)I"⟩ ∈ gw_tbl := tb_i 206 (by decide +kernel) rfl
theorem k_208 : Cond.instanceMethod ⟨"HalfToTheLeft", "refuse", "(I)I"⟩ ∈ gw_tbl := tb_i 208 (by decide +kernel) rfl
theorem k_209 : Cond.code ⟨"HalfToTheLeft", "refuse", "(I)I"⟩ prog_1_method_34_code 2 (some .int) ∈ gw_tbl := tb_i 209 (by decide +kernel) rfl
theorem k_210 : Cond.methodLink "HalfToTheLeft" 76 ⟨"HalfToTheLeft$Letters", "add", "(C)I"⟩ ∈ gw_tbl := tb_i 210 (by decide +kernel) rfl
theorem k_211 : Cond.instanceMethod ⟨"HalfToTheLeft$Letters", "add", "(C)I"⟩ ∈ gw_tbl := tb_i 211 (by decide +kernel) rfl
theorem k_212 : Cond.selects "HalfToTheLeft$Letters" ⟨"HalfToTheLeft$Letters", "add", "(C)I"⟩ ⟨"HalfToTheLeft$Letters", "add", "(C)I"⟩ ∈ gw_tbl := tb_i 212 (by decide +kernel) rfl
theorem k_213 : Cond.code ⟨"HalfToTheLeft$Letters", "add", "(C)I"⟩ prog_3_method_2_code 2 (some .int) ∈ gw_tbl := tb_i 213 (by decide +kernel) rfl
theorem k_218 : Cond.methodLink "HalfToTheLeft" 80 ⟨"HalfToTheLeft$Letters", "carryOut", "(LHalfToTheLeft$Ring;)I"⟩ ∈ gw_tbl := tb_i 218 (by decide +kernel) rfl
theorem k_219 : Cond.instanceMethod ⟨"HalfToTheLeft$Letters", "carryOut", "(LHalfToTheLeft$Ring;)I"⟩ ∈ gw_tbl := tb_i 219 (by decide +kernel) rfl
theorem k_220 : Cond.selects "HalfToTheLeft$Letters" ⟨"HalfToTheLeft$Letters", "carryOut", "(LHalfToTheLeft$Ring;)I"⟩ ⟨"HalfToTheLeft$Letters", "carryOut", "(LHalfToTheLeft$Ring;)I"⟩ ∈ gw_tbl := tb_i 220 (by decide +kernel) rfl
theorem k_221 : Cond.code ⟨"HalfToTheLeft$Letters", "carryOut", "(LHalfToTheLeft$Ring;)I"⟩ prog_3_method_3_code 6 (some .int) ∈ gw_tbl := tb_i 221 (by decide +kernel) rfl
theorem k_222 : Cond.methodLink "HalfToTheLeft$Letters" 26 ⟨"HalfToTheLeft$Letters", "placeOfBadForm", "()I"⟩ ∈ gw_tbl := tb_i 222 (by decide +kernel) rfl
theorem k_224 : Cond.instanceMethod ⟨"HalfToTheLeft$Letters", "placeOfBadForm", "()I"⟩ ∈ gw_tbl := tb_i 224 (by decide +kernel) rfl
theorem k_225 : Cond.code ⟨"HalfToTheLeft$Letters", "placeOfBadForm", "()I"⟩ prog_3_method_4_code 3 (some .int) ∈ gw_tbl := tb_i 225 (by decide +kernel) rfl
theorem k_226 : Cond.methodLink "HalfToTheLeft$Letters" 38 ⟨"HalfToTheLeft$Letters", "behind", "(IC)I"⟩ ∈ gw_tbl := tb_i 226 (by decide +kernel) rfl
theorem k_227 : Cond.static ⟨"HalfToTheLeft$Letters", "behind", "(IC)I"⟩ ∈ gw_tbl := tb_i 227 (by decide +kernel) rfl
theorem k_228 : Cond.code ⟨"HalfToTheLeft$Letters", "behind", "(IC)I"⟩ prog_3_method_5_code 2 (some .int) ∈ gw_tbl := tb_i 228 (by decide +kernel) rfl
theorem k_229 : Cond.methodLink "HalfToTheLeft$Letters" 42 ⟨"HalfToTheLeft$Letters", "behindStart", "(C)I"⟩ ∈ gw_tbl := tb_i 229 (by decide +kernel) rfl
theorem k_230 : Cond.static ⟨"HalfToTheLeft$Letters", "behindStart", "(C)I"⟩ ∈ gw_tbl := tb_i 230 (by decide +kernel) rfl
theorem k_231 : Cond.code ⟨"HalfToTheLeft$Letters", "behindStart", "(C)I"⟩ prog_3_method_6_code 1 (some .int) ∈ gw_tbl := tb_i 231 (by decide +kernel) rfl
theorem k_233 : Cond.methodLink "HalfToTheLeft$Letters" 48 ⟨"java/lang/String", "indexOf", "(I)I"⟩ ∈ gw_tbl := tb_i 233 (by decide +kernel) rfl
theorem k_234 : Cond.instanceMethod ⟨"java/lang/String", "indexOf", "(I)I"⟩ ∈ gw_tbl := tb_i 234 (by decide +kernel) rfl
theorem k_235 : Cond.selects "java/lang/String" ⟨"java/lang/String", "indexOf", "(I)I"⟩ ⟨"java/lang/String", "indexOf", "(I)I"⟩ ∈ gw_tbl := tb_i 235 (by decide +kernel) rfl
theorem k_236 : Cond.code ⟨"java/lang/String", "indexOf", "(I)I"⟩ prog_12_method_79_code 2 (some .int) ∈ gw_tbl := tb_i 236 (by decide +kernel) rfl
theorem k_237 : Cond.methodLink "java/lang/String" 633 ⟨"java/lang/String", "indexOf", "(II)I"⟩ ∈ gw_tbl := tb_i 237 (by decide +kernel) rfl
theorem k_238 : Cond.instanceMethod ⟨"java/lang/String", "indexOf", "(II)I"⟩ ∈ gw_tbl := tb_i 238 (by decide +kernel) rfl
theorem k_239 : Cond.selects "java/lang/String" ⟨"java/lang/String", "indexOf", "(II)I"⟩ ⟨"java/lang/String", "indexOf", "(II)I"⟩ ∈ gw_tbl := tb_i 239 (by decide +kernel) rfl
theorem k_240 : Cond.code ⟨"java/lang/String", "indexOf", "(II)I"⟩ prog_12_method_80_code 3 (some .int) ∈ gw_tbl := tb_i 240 (by decide +kernel) rfl
theorem k_241 : Cond.methodLink "java/lang/String" 492 ⟨"java/lang/String", "isLatin1", "()Z"⟩ ∈ gw_tbl := tb_i 241 (by decide +kernel) rfl
theorem k_242 : Cond.instanceMethod ⟨"java/lang/String", "isLatin1", "()Z"⟩ ∈ gw_tbl := tb_i 242 (by decide +kernel) rfl
theorem k_243 : Cond.selects "java/lang/String" ⟨"java/lang/String", "isLatin1", "()Z"⟩ ⟨"java/lang/String", "isLatin1", "()Z"⟩ ∈ gw_tbl := tb_i 243 (by decide +kernel) rfl
theorem k_244 : Cond.code ⟨"java/lang/String", "isLatin1", "()Z"⟩ prog_12_method_154_code 1 (some .boolean) ∈ gw_tbl := tb_i 244 (by decide +kernel) rfl
theorem k_245 : Cond.fieldLink "java/lang/String" 38 "java/lang/String" "COMPACT_STRINGS" "Z" ∈ gw_tbl := tb_i 245 (by decide +kernel) rfl
theorem k_247 : Cond.methodLink "java/lang/String" 505 ⟨"java/lang/String", "length", "()I"⟩ ∈ gw_tbl := tb_i 247 (by decide +kernel) rfl
theorem k_248 : Cond.instanceMethod ⟨"java/lang/String", "length", "()I"⟩ ∈ gw_tbl := tb_i 248 (by decide +kernel) rfl
theorem k_249 : Cond.selects "java/lang/String" ⟨"java/lang/String", "length", "()I"⟩ ⟨"java/lang/String", "length", "()I"⟩ ∈ gw_tbl := tb_i 249 (by decide +kernel) rfl
theorem k_250 : Cond.code ⟨"java/lang/String", "length", "()I"⟩ prog_12_method_54_code 1 (some .int) ∈ gw_tbl := tb_i 250 (by decide +kernel) rfl
theorem k_251 : Cond.methodLink "java/lang/String" 335 ⟨"java/lang/String", "coder", "()B"⟩ ∈ gw_tbl := tb_i 251 (by decide +kernel) rfl
theorem k_252 : Cond.instanceMethod ⟨"java/lang/String", "coder", "()B"⟩ ∈ gw_tbl := tb_i 252 (by decide +kernel) rfl
theorem k_253 : Cond.selects "java/lang/String" ⟨"java/lang/String", "coder", "()B"⟩ ⟨"java/lang/String", "coder", "()B"⟩ ∈ gw_tbl := tb_i 253 (by decide +kernel) rfl
theorem k_254 : Cond.code ⟨"java/lang/String", "coder", "()B"⟩ prog_12_method_152_code 1 (some .byte) ∈ gw_tbl := tb_i 254 (by decide +kernel) rfl
theorem k_255 : Cond.methodLink "java/lang/String" 637 ⟨"java/lang/StringLatin1", "indexOf", "([BIII)I"⟩ ∈ gw_tbl := tb_i 255 (by decide +kernel) rfl
theorem k_256 : Cond.static ⟨"java/lang/StringLatin1", "indexOf", "([BIII)I"⟩ ∈ gw_tbl := tb_i 256 (by decide +kernel) rfl
theorem k_257 : Cond.code ⟨"java/lang/StringLatin1", "indexOf", "([BIII)I"⟩ prog_13_method_22_code 4 (some .int) ∈ gw_tbl := tb_i 257 (by decide +kernel) rfl
theorem k_258 : Cond.methodLink "java/lang/StringLatin1" 88 ⟨"java/lang/StringLatin1", "canEncode", "(I)Z"⟩ ∈ gw_tbl := tb_i 258 (by decide +kernel) rfl
theorem k_259 : Cond.static ⟨"java/lang/StringLatin1", "canEncode", "(I)Z"⟩ ∈ gw_tbl := tb_i 259 (by decide +kernel) rfl
theorem k_260 : Cond.code ⟨"java/lang/StringLatin1", "canEncode", "(I)Z"⟩ prog_13_method_4_code 1 (some .boolean) ∈ gw_tbl := tb_i 260 (by decide +kernel) rfl
theorem k_261 : Cond.methodLink "java/lang/StringLatin1" 92 ⟨"java/lang/Math", "max", "(II)I"⟩ ∈ gw_tbl := tb_i 261 (by decide +kernel) rfl
theorem k_262 : Cond.static ⟨"java/lang/Math", "max", "(II)I"⟩ ∈ gw_tbl := tb_i 262 (by decide +kernel) rfl
theorem k_263 : Cond.code ⟨"java/lang/Math", "max", "(II)I"⟩ prog_11_method_65_code 2 (some .int) ∈ gw_tbl := tb_i 263 (by decide +kernel) rfl
theorem k_264 : Cond.methodLink "java/lang/StringLatin1" 38 ⟨"java/lang/Math", "min", "(II)I"⟩ ∈ gw_tbl := tb_i 264 (by decide +kernel) rfl
theorem k_265 : Cond.static ⟨"java/lang/Math", "min", "(II)I"⟩ ∈ gw_tbl := tb_i 265 (by decide +kernel) rfl
theorem k_266 : Cond.code ⟨"java/lang/Math", "min", "(II)I"⟩ prog_11_method_69_code 2 (some .int) ∈ gw_tbl := tb_i 266 (by decide +kernel) rfl
theorem k_267 : Cond.methodLink "java/lang/StringLatin1" 95 ⟨"java/lang/StringLatin1", "indexOfChar", "([BIII)I"⟩ ∈ gw_tbl := tb_i 267 (by decide +kernel) rfl
theorem k_268 : Cond.static ⟨"java/lang/StringLatin1", "indexOfChar", "([BIII)I"⟩ ∈ gw_tbl := tb_i 268 (by decide +kernel) rfl
theorem k_269 : Cond.code ⟨"java/lang/StringLatin1", "indexOfChar", "([BIII)I"⟩ prog_13_method_23_code 6 (some .int) ∈ gw_tbl := tb_i 269 (by decide +kernel) rfl
theorem k_319 : Cond.methodLink "HalfToTheLeft$Letters" 54 ⟨"HalfToTheLeft$Letters", "isDigit", "(C)Z"⟩ ∈ gw_tbl := tb_i 319 (by decide +kernel) rfl
theorem k_320 : Cond.static ⟨"HalfToTheLeft$Letters", "isDigit", "(C)Z"⟩ ∈ gw_tbl := tb_i 320 (by decide +kernel) rfl
theorem k_321 : Cond.code ⟨"HalfToTheLeft$Letters", "isDigit", "(C)Z"⟩ prog_3_method_8_code 1 (some .boolean) ∈ gw_tbl := tb_i 321 (by decide +kernel) rfl
theorem k_322 : Cond.methodLink "HalfToTheLeft$Letters" 58 ⟨"HalfToTheLeft$Letters", "behindEnd", "(C)I"⟩ ∈ gw_tbl := tb_i 322 (by decide +kernel) rfl
theorem k_323 : Cond.static ⟨"HalfToTheLeft$Letters", "behindEnd", "(C)I"⟩ ∈ gw_tbl := tb_i 323 (by decide +kernel) rfl
theorem k_324 : Cond.code ⟨"HalfToTheLeft$Letters", "behindEnd", "(C)I"⟩ prog_3_method_7_code 1 (some .int) ∈ gw_tbl := tb_i 324 (by decide +kernel) rfl
theorem k_325 : Cond.methodLink "HalfToTheLeft$Letters" 30 ⟨"HalfToTheLeft$Ring", "copyFrom", "(LHalfToTheLeft$Ring;)V"⟩ ∈ gw_tbl := tb_i 325 (by decide +kernel) rfl
theorem k_326 : Cond.instanceMethod ⟨"HalfToTheLeft$Ring", "copyFrom", "(LHalfToTheLeft$Ring;)V"⟩ ∈ gw_tbl := tb_i 326 (by decide +kernel) rfl
theorem k_327 : Cond.selects "HalfToTheLeft$Ring" ⟨"HalfToTheLeft$Ring", "copyFrom", "(LHalfToTheLeft$Ring;)V"⟩ ⟨"HalfToTheLeft$Ring", "copyFrom", "(LHalfToTheLeft$Ring;)V"⟩ ∈ gw_tbl := tb_i 327 (by decide +kernel) rfl
theorem k_328 : Cond.code ⟨"HalfToTheLeft$Ring", "copyFrom", "(LHalfToTheLeft$Ring;)V"⟩ prog_6_method_2_code 2 none ∈ gw_tbl := tb_i 328 (by decide +kernel) rfl
theorem k_329 : Cond.methodLink "HalfToTheLeft$Ring" 37 ⟨"java/lang/System", "arraycopy", "(Ljava/lang/Object;ILjava/lang/Object;II)V"⟩ ∈ gw_tbl := tb_i 329 (by decide +kernel) rfl
theorem k_330 : Cond.static ⟨"java/lang/System", "arraycopy", "(Ljava/lang/Object;ILjava/lang/Object;II)V"⟩ ∈ gw_tbl := tb_i 330 (by decide +kernel) rfl
theorem k_331 : Cond.native ⟨"java/lang/System", "arraycopy", "(Ljava/lang/Object;ILjava/lang/Object;II)V"⟩ ∈ gw_tbl := tb_i 331 (by decide +kernel) rfl
theorem k_332 : Cond.methodLink "HalfToTheLeft$Letters" 34 ⟨"HalfToTheLeft$Letters", "carryOutOne", "(II)Z"⟩ ∈ gw_tbl := tb_i 332 (by decide +kernel) rfl
theorem k_334 : Cond.instanceMethod ⟨"HalfToTheLeft$Letters", "carryOutOne", "(II)Z"⟩ ∈ gw_tbl := tb_i 334 (by decide +kernel) rfl
theorem k_335 : Cond.code ⟨"HalfToTheLeft$Letters", "carryOutOne", "(II)Z"⟩ prog_3_method_9_code 3 (some .boolean) ∈ gw_tbl := tb_i 335 (by decide +kernel) rfl
theorem k_336 : Cond.methodLink "HalfToTheLeft$Letters" 61 ⟨"HalfToTheLeft$Letters", "letterAt", "(I)C"⟩ ∈ gw_tbl := tb_i 336 (by decide +kernel) rfl
theorem k_338 : Cond.instanceMethod ⟨"HalfToTheLeft$Letters", "letterAt", "(I)C"⟩ ∈ gw_tbl := tb_i 338 (by decide +kernel) rfl
theorem k_339 : Cond.code ⟨"HalfToTheLeft$Letters", "letterAt", "(I)C"⟩ prog_3_method_12_code 2 (some .char) ∈ gw_tbl := tb_i 339 (by decide +kernel) rfl
theorem k_340 : Cond.methodLink "HalfToTheLeft$Letters" 65 ⟨"HalfToTheLeft$Letters", "number", "(II)I"⟩ ∈ gw_tbl := tb_i 340 (by decide +kernel) rfl
theorem k_342 : Cond.instanceMethod ⟨"HalfToTheLeft$Letters", "number", "(II)I"⟩ ∈ gw_tbl := tb_i 342 (by decide +kernel) rfl
theorem k_343 : Cond.code ⟨"HalfToTheLeft$Letters", "number", "(II)I"⟩ prog_3_method_11_code 5 (some .int) ∈ gw_tbl := tb_i 343 (by decide +kernel) rfl
theorem k_344 : Cond.methodLink "HalfToTheLeft$Letters" 69 ⟨"HalfToTheLeft$Ring", "seatLast", "(II)Z"⟩ ∈ gw_tbl := tb_i 344 (by decide +kernel) rfl
theorem k_345 : Cond.instanceMethod ⟨"HalfToTheLeft$Ring", "seatLast", "(II)Z"⟩ ∈ gw_tbl := tb_i 345 (by decide +kernel) rfl
theorem k_346 : Cond.selects "HalfToTheLeft$Ring" ⟨"HalfToTheLeft$Ring", "seatLast", "(II)Z"⟩ ⟨"HalfToTheLeft$Ring", "seatLast", "(II)Z"⟩ ∈ gw_tbl := tb_i 346 (by decide +kernel) rfl
theorem k_347 : Cond.code ⟨"HalfToTheLeft$Ring", "seatLast", "(II)Z"⟩ prog_6_method_4_code 3 (some .boolean) ∈ gw_tbl := tb_i 347 (by decide +kernel) rfl
theorem k_348 : Cond.methodLink "HalfToTheLeft$Letters" 72 ⟨"HalfToTheLeft$Letters", "bring", "(II)Z"⟩ ∈ gw_tbl := tb_i 348 (by decide +kernel) rfl
theorem k_350 : Cond.instanceMethod ⟨"HalfToTheLeft$Letters", "bring", "(II)Z"⟩ ∈ gw_tbl := tb_i 350 (by decide +kernel) rfl
theorem k_351 : Cond.code ⟨"HalfToTheLeft$Letters", "bring", "(II)Z"⟩ prog_3_method_10_code 3 (some .boolean) ∈ gw_tbl := tb_i 351 (by decide +kernel) rfl
theorem k_357 : Cond.static ⟨"HalfToTheLeft", "outside", "(III)I"⟩ ∈ gw_tbl := tb_i 357 (by decide +kernel) rfl
theorem k_358 : Cond.code ⟨"HalfToTheLeft", "outside", "(III)I"⟩ prog_1_method_35_code 3 (some .int) ∈ gw_tbl := tb_i 358 (by decide +kernel) rfl
theorem k_364 : Cond.methodLink "HalfToTheLeft" 84 ⟨"HalfToTheLeft$Ring", "has", "(I)Z"⟩ ∈ gw_tbl := tb_i 364 (by decide +kernel) rfl
theorem k_365 : Cond.instanceMethod ⟨"HalfToTheLeft$Ring", "has", "(I)Z"⟩ ∈ gw_tbl := tb_i 365 (by decide +kernel) rfl
theorem k_366 : Cond.selects "HalfToTheLeft$Ring" ⟨"HalfToTheLeft$Ring", "has", "(I)Z"⟩ ⟨"HalfToTheLeft$Ring", "has", "(I)Z"⟩ ∈ gw_tbl := tb_i 366 (by decide +kernel) rfl
theorem k_367 : Cond.code ⟨"HalfToTheLeft$Ring", "has", "(I)Z"⟩ prog_6_method_3_code 2 (some .boolean) ∈ gw_tbl := tb_i 367 (by decide +kernel) rfl
theorem k_368 : Cond.methodLink "HalfToTheLeft" 94 ⟨"HalfToTheLeft$Ring", "gift", "(I)I"⟩ ∈ gw_tbl := tb_i 368 (by decide +kernel) rfl
theorem k_369 : Cond.instanceMethod ⟨"HalfToTheLeft$Ring", "gift", "(I)I"⟩ ∈ gw_tbl := tb_i 369 (by decide +kernel) rfl
theorem k_370 : Cond.selects "HalfToTheLeft$Ring" ⟨"HalfToTheLeft$Ring", "gift", "(I)I"⟩ ⟨"HalfToTheLeft$Ring", "gift", "(I)I"⟩ ∈ gw_tbl := tb_i 370 (by decide +kernel) rfl
theorem k_371 : Cond.code ⟨"HalfToTheLeft$Ring", "gift", "(I)I"⟩ prog_6_method_9_code 5 (some .int) ∈ gw_tbl := tb_i 371 (by decide +kernel) rfl
theorem k_372 : Cond.methodLink "HalfToTheLeft$Ring" 47 ⟨"HalfToTheLeft$Ring", "leftOf", "(I)I"⟩ ∈ gw_tbl := tb_i 372 (by decide +kernel) rfl
theorem k_373 : Cond.instanceMethod ⟨"HalfToTheLeft$Ring", "leftOf", "(I)I"⟩ ∈ gw_tbl := tb_i 373 (by decide +kernel) rfl
theorem k_374 : Cond.selects "HalfToTheLeft$Ring" ⟨"HalfToTheLeft$Ring", "leftOf", "(I)I"⟩ ⟨"HalfToTheLeft$Ring", "leftOf", "(I)I"⟩ ∈ gw_tbl := tb_i 374 (by decide +kernel) rfl
theorem k_375 : Cond.code ⟨"HalfToTheLeft$Ring", "leftOf", "(I)I"⟩ prog_6_method_7_code 2 (some .int) ∈ gw_tbl := tb_i 375 (by decide +kernel) rfl
theorem k_376 : Cond.methodLink "HalfToTheLeft" 97 ⟨"HalfToTheLeft$Ring", "sides", "(I)I"⟩ ∈ gw_tbl := tb_i 376 (by decide +kernel) rfl
theorem k_377 : Cond.instanceMethod ⟨"HalfToTheLeft$Ring", "sides", "(I)I"⟩ ∈ gw_tbl := tb_i 377 (by decide +kernel) rfl
theorem k_378 : Cond.selects "HalfToTheLeft$Ring" ⟨"HalfToTheLeft$Ring", "sides", "(I)I"⟩ ⟨"HalfToTheLeft$Ring", "sides", "(I)I"⟩ ∈ gw_tbl := tb_i 378 (by decide +kernel) rfl
theorem k_379 : Cond.code ⟨"HalfToTheLeft$Ring", "sides", "(I)I"⟩ prog_6_method_10_code 2 (some .int) ∈ gw_tbl := tb_i 379 (by decide +kernel) rfl
theorem k_380 : Cond.methodLink "HalfToTheLeft$Ring" 51 ⟨"HalfToTheLeft$Ring", "gift", "(I)I"⟩ ∈ gw_tbl := tb_i 380 (by decide +kernel) rfl
theorem k_385 : Cond.methodLink "HalfToTheLeft" 100 ⟨"HalfToTheLeft", "outside", "(III)I"⟩ ∈ gw_tbl := tb_i 385 (by decide +kernel) rfl
theorem k_394 : Cond.fieldLink "HalfToTheLeft" 104 "HalfToTheLeft" "LEAST_SETTING" "[I" ∈ gw_tbl := tb_i 394 (by decide +kernel) rfl
theorem k_395 : Cond.fieldLink "HalfToTheLeft" 107 "HalfToTheLeft" "GREATEST_SETTING" "[I" ∈ gw_tbl := tb_i 395 (by decide +kernel) rfl
theorem k_400 : Cond.methodLink "HalfToTheLeft" 113 ⟨"HalfToTheLeft", "areTwo", "(II)Z"⟩ ∈ gw_tbl := tb_i 400 (by decide +kernel) rfl
theorem k_402 : Cond.instanceMethod ⟨"HalfToTheLeft", "areTwo", "(II)Z"⟩ ∈ gw_tbl := tb_i 402 (by decide +kernel) rfl
theorem k_403 : Cond.code ⟨"HalfToTheLeft", "areTwo", "(II)Z"⟩ prog_1_method_40_code 3 (some .boolean) ∈ gw_tbl := tb_i 403 (by decide +kernel) rfl
theorem k_404 : Cond.methodLink "HalfToTheLeft" 117 ⟨"HalfToTheLeft$Ring", "changeSeats", "(II)V"⟩ ∈ gw_tbl := tb_i 404 (by decide +kernel) rfl
theorem k_405 : Cond.instanceMethod ⟨"HalfToTheLeft$Ring", "changeSeats", "(II)V"⟩ ∈ gw_tbl := tb_i 405 (by decide +kernel) rfl
theorem k_406 : Cond.selects "HalfToTheLeft$Ring" ⟨"HalfToTheLeft$Ring", "changeSeats", "(II)V"⟩ ⟨"HalfToTheLeft$Ring", "changeSeats", "(II)V"⟩ ∈ gw_tbl := tb_i 406 (by decide +kernel) rfl
theorem k_407 : Cond.code ⟨"HalfToTheLeft$Ring", "changeSeats", "(II)V"⟩ prog_6_method_5_code 4 none ∈ gw_tbl := tb_i 407 (by decide +kernel) rfl
theorem k_408 : Cond.methodLink "HalfToTheLeft$Ring" 43 ⟨"HalfToTheLeft$Ring", "changeSweets", "(II)V"⟩ ∈ gw_tbl := tb_i 408 (by decide +kernel) rfl
theorem k_409 : Cond.instanceMethod ⟨"HalfToTheLeft$Ring", "changeSweets", "(II)V"⟩ ∈ gw_tbl := tb_i 409 (by decide +kernel) rfl
theorem k_410 : Cond.selects "HalfToTheLeft$Ring" ⟨"HalfToTheLeft$Ring", "changeSweets", "(II)V"⟩ ⟨"HalfToTheLeft$Ring", "changeSweets", "(II)V"⟩ ∈ gw_tbl := tb_i 410 (by decide +kernel) rfl
theorem k_411 : Cond.code ⟨"HalfToTheLeft$Ring", "changeSweets", "(II)V"⟩ prog_6_method_6_code 4 none ∈ gw_tbl := tb_i 411 (by decide +kernel) rfl
theorem k_416 : Cond.methodLink "HalfToTheLeft" 124 ⟨"HalfToTheLeft$Ring", "strike", "()I"⟩ ∈ gw_tbl := tb_i 416 (by decide +kernel) rfl
theorem k_417 : Cond.instanceMethod ⟨"HalfToTheLeft$Ring", "strike", "()I"⟩ ∈ gw_tbl := tb_i 417 (by decide +kernel) rfl
theorem k_418 : Cond.selects "HalfToTheLeft$Ring" ⟨"HalfToTheLeft$Ring", "strike", "()I"⟩ ⟨"HalfToTheLeft$Ring", "strike", "()I"⟩ ∈ gw_tbl := tb_i 418 (by decide +kernel) rfl
theorem k_419 : Cond.code ⟨"HalfToTheLeft$Ring", "strike", "()I"⟩ prog_6_method_12_code 3 (some .int) ∈ gw_tbl := tb_i 419 (by decide +kernel) rfl
theorem k_420 : Cond.methodLink "HalfToTheLeft$Ring" 57 ⟨"HalfToTheLeft$Ring", "handOn", "()V"⟩ ∈ gw_tbl := tb_i 420 (by decide +kernel) rfl
theorem k_422 : Cond.instanceMethod ⟨"HalfToTheLeft$Ring", "handOn", "()V"⟩ ∈ gw_tbl := tb_i 422 (by decide +kernel) rfl
theorem k_423 : Cond.code ⟨"HalfToTheLeft$Ring", "handOn", "()V"⟩ prog_6_method_14_code 3 none ∈ gw_tbl := tb_i 423 (by decide +kernel) rfl
theorem k_424 : Cond.methodLink "HalfToTheLeft$Ring" 54 ⟨"HalfToTheLeft$Ring", "rightOf", "(I)I"⟩ ∈ gw_tbl := tb_i 424 (by decide +kernel) rfl
theorem k_425 : Cond.instanceMethod ⟨"HalfToTheLeft$Ring", "rightOf", "(I)I"⟩ ∈ gw_tbl := tb_i 425 (by decide +kernel) rfl
theorem k_426 : Cond.selects "HalfToTheLeft$Ring" ⟨"HalfToTheLeft$Ring", "rightOf", "(I)I"⟩ ⟨"HalfToTheLeft$Ring", "rightOf", "(I)I"⟩ ∈ gw_tbl := tb_i 426 (by decide +kernel) rfl
theorem k_427 : Cond.code ⟨"HalfToTheLeft$Ring", "rightOf", "(I)I"⟩ prog_6_method_8_code 2 (some .int) ∈ gw_tbl := tb_i 427 (by decide +kernel) rfl
theorem k_428 : Cond.methodLink "HalfToTheLeft$Ring" 68 ⟨"java/lang/Math", "min", "(II)I"⟩ ∈ gw_tbl := tb_i 428 (by decide +kernel) rfl
theorem k_429 : Cond.methodLink "HalfToTheLeft$Ring" 60 ⟨"HalfToTheLeft$Ring", "mend", "(I)V"⟩ ∈ gw_tbl := tb_i 429 (by decide +kernel) rfl
theorem k_431 : Cond.instanceMethod ⟨"HalfToTheLeft$Ring", "mend", "(I)V"⟩ ∈ gw_tbl := tb_i 431 (by decide +kernel) rfl
theorem k_432 : Cond.code ⟨"HalfToTheLeft$Ring", "mend", "(I)V"⟩ prog_6_method_15_code 2 none ∈ gw_tbl := tb_i 432 (by decide +kernel) rfl
theorem k_437 : Cond.methodLink "HalfToTheLeft" 128 ⟨"HalfToTheLeft$Mind", "sweetsBehind", "(LHalfToTheLeft$Ring;II)I"⟩ ∈ gw_tbl := tb_i 437 (by decide +kernel) rfl
theorem k_438 : Cond.instanceMethod ⟨"HalfToTheLeft$Mind", "sweetsBehind", "(LHalfToTheLeft$Ring;II)I"⟩ ∈ gw_tbl := tb_i 438 (by decide +kernel) rfl
theorem k_439 : Cond.selects "HalfToTheLeft$Mind" ⟨"HalfToTheLeft$Mind", "sweetsBehind", "(LHalfToTheLeft$Ring;II)I"⟩ ⟨"HalfToTheLeft$Mind", "sweetsBehind", "(LHalfToTheLeft$Ring;II)I"⟩ ∈ gw_tbl := tb_i 439 (by decide +kernel) rfl
theorem k_440 : Cond.code ⟨"HalfToTheLeft$Mind", "sweetsBehind", "(LHalfToTheLeft$Ring;II)I"⟩ prog_4_method_2_code 4 (some .int) ∈ gw_tbl := tb_i 440 (by decide +kernel) rfl
theorem k_441 : Cond.methodLink "HalfToTheLeft$Mind" 25 ⟨"HalfToTheLeft$Ring", "copyFrom", "(LHalfToTheLeft$Ring;)V"⟩ ∈ gw_tbl := tb_i 441 (by decide +kernel) rfl
theorem k_442 : Cond.methodLink "HalfToTheLeft$Mind" 29 ⟨"HalfToTheLeft$Ring", "strikeOften", "(I)V"⟩ ∈ gw_tbl := tb_i 442 (by decide +kernel) rfl
theorem k_443 : Cond.instanceMethod ⟨"HalfToTheLeft$Ring", "strikeOften", "(I)V"⟩ ∈ gw_tbl := tb_i 443 (by decide +kernel) rfl
theorem k_444 : Cond.selects "HalfToTheLeft$Ring" ⟨"HalfToTheLeft$Ring", "strikeOften", "(I)V"⟩ ⟨"HalfToTheLeft$Ring", "strikeOften", "(I)V"⟩ ∈ gw_tbl := tb_i 444 (by decide +kernel) rfl
theorem k_445 : Cond.code ⟨"HalfToTheLeft$Ring", "strikeOften", "(I)V"⟩ prog_6_method_13_code 3 none ∈ gw_tbl := tb_i 445 (by decide +kernel) rfl
theorem k_446 : Cond.methodLink "HalfToTheLeft$Ring" 64 ⟨"HalfToTheLeft$Ring", "strike", "()I"⟩ ∈ gw_tbl := tb_i 446 (by decide +kernel) rfl
theorem k_451 : Cond.methodLink "HalfToTheLeft" 132 ⟨"HalfToTheLeft", "isPart", "(I)Z"⟩ ∈ gw_tbl := tb_i 451 (by decide +kernel) rfl
theorem k_452 : Cond.static ⟨"HalfToTheLeft", "isPart", "(I)Z"⟩ ∈ gw_tbl := tb_i 452 (by decide +kernel) rfl
theorem k_453 : Cond.code ⟨"HalfToTheLeft", "isPart", "(I)Z"⟩ prog_1_method_39_code 1 (some .boolean) ∈ gw_tbl := tb_i 453 (by decide +kernel) rfl
theorem k_454 : Cond.methodLink "HalfToTheLeft" 135 ⟨"HalfToTheLeft$Mind", "gaveIn", "(LHalfToTheLeft$Ring;I)I"⟩ ∈ gw_tbl := tb_i 454 (by decide +kernel) rfl
theorem k_455 : Cond.instanceMethod ⟨"HalfToTheLeft$Mind", "gaveIn", "(LHalfToTheLeft$Ring;I)I"⟩ ∈ gw_tbl := tb_i 455 (by decide +kernel) rfl
theorem k_456 : Cond.selects "HalfToTheLeft$Mind" ⟨"HalfToTheLeft$Mind", "gaveIn", "(LHalfToTheLeft$Ring;I)I"⟩ ⟨"HalfToTheLeft$Mind", "gaveIn", "(LHalfToTheLeft$Ring;I)I"⟩ ∈ gw_tbl := tb_i 456 (by decide +kernel) rfl
theorem k_457 : Cond.code ⟨"HalfToTheLeft$Mind", "gaveIn", "(LHalfToTheLeft$Ring;I)I"⟩ prog_4_method_3_code 3 (some .int) ∈ gw_tbl := tb_i 457 (by decide +kernel) rfl
theorem k_458 : Cond.methodLink "HalfToTheLeft" 139 ⟨"HalfToTheLeft$Mind", "threwIn", "(LHalfToTheLeft$Ring;I)I"⟩ ∈ gw_tbl := tb_i 458 (by decide +kernel) rfl
theorem k_459 : Cond.instanceMethod ⟨"HalfToTheLeft$Mind", "threwIn", "(LHalfToTheLeft$Ring;I)I"⟩ ∈ gw_tbl := tb_i 459 (by decide +kernel) rfl
theorem k_460 : Cond.selects "HalfToTheLeft$Mind" ⟨"HalfToTheLeft$Mind", "threwIn", "(LHalfToTheLeft$Ring;I)I"⟩ ⟨"HalfToTheLeft$Mind", "threwIn", "(LHalfToTheLeft$Ring;I)I"⟩ ∈ gw_tbl := tb_i 460 (by decide +kernel) rfl
theorem k_461 : Cond.code ⟨"HalfToTheLeft$Mind", "threwIn", "(LHalfToTheLeft$Ring;I)I"⟩ prog_4_method_4_code 3 (some .int) ∈ gw_tbl := tb_i 461 (by decide +kernel) rfl
theorem k_466 : Cond.methodLink "HalfToTheLeft" 142 ⟨"HalfToTheLeft$Mind", "restsBehind", "(LHalfToTheLeft$Ring;)I"⟩ ∈ gw_tbl := tb_i 466 (by decide +kernel) rfl
theorem k_467 : Cond.instanceMethod ⟨"HalfToTheLeft$Mind", "restsBehind", "(LHalfToTheLeft$Ring;)I"⟩ ∈ gw_tbl := tb_i 467 (by decide +kernel) rfl
theorem k_468 : Cond.selects "HalfToTheLeft$Mind" ⟨"HalfToTheLeft$Mind", "restsBehind", "(LHalfToTheLeft$Ring;)I"⟩ ⟨"HalfToTheLeft$Mind", "restsBehind", "(LHalfToTheLeft$Ring;)I"⟩ ∈ gw_tbl := tb_i 468 (by decide +kernel) rfl
theorem k_469 : Cond.code ⟨"HalfToTheLeft$Mind", "restsBehind", "(LHalfToTheLeft$Ring;)I"⟩ prog_4_method_5_code 3 (some .int) ∈ gw_tbl := tb_i 469 (by decide +kernel) rfl
theorem k_470 : Cond.methodLink "HalfToTheLeft$Mind" 43 ⟨"HalfToTheLeft$Ring", "strike", "()I"⟩ ∈ gw_tbl := tb_i 470 (by decide +kernel) rfl
theorem k_471 : Cond.methodLink "HalfToTheLeft$Mind" 47 ⟨"HalfToTheLeft$Ring", "hasSweetsOf", "(LHalfToTheLeft$Ring;)Z"⟩ ∈ gw_tbl := tb_i 471 (by decide +kernel) rfl
theorem k_472 : Cond.instanceMethod ⟨"HalfToTheLeft$Ring", "hasSweetsOf", "(LHalfToTheLeft$Ring;)Z"⟩ ∈ gw_tbl := tb_i 472 (by decide +kernel) rfl
theorem k_473 : Cond.selects "HalfToTheLeft$Ring" ⟨"HalfToTheLeft$Ring", "hasSweetsOf", "(LHalfToTheLeft$Ring;)Z"⟩ ⟨"HalfToTheLeft$Ring", "hasSweetsOf", "(LHalfToTheLeft$Ring;)Z"⟩ ∈ gw_tbl := tb_i 473 (by decide +kernel) rfl
theorem k_474 : Cond.code ⟨"HalfToTheLeft$Ring", "hasSweetsOf", "(LHalfToTheLeft$Ring;)Z"⟩ prog_6_method_20_code 3 (some .boolean) ∈ gw_tbl := tb_i 474 (by decide +kernel) rfl
theorem k_479 : Cond.methodLink "HalfToTheLeft" 145 ⟨"HalfToTheLeft$Mind", "alikeBehind", "(LHalfToTheLeft$Ring;)I"⟩ ∈ gw_tbl := tb_i 479 (by decide +kernel) rfl
theorem k_480 : Cond.instanceMethod ⟨"HalfToTheLeft$Mind", "alikeBehind", "(LHalfToTheLeft$Ring;)I"⟩ ∈ gw_tbl := tb_i 480 (by decide +kernel) rfl
theorem k_481 : Cond.selects "HalfToTheLeft$Mind" ⟨"HalfToTheLeft$Mind", "alikeBehind", "(LHalfToTheLeft$Ring;)I"⟩ ⟨"HalfToTheLeft$Mind", "alikeBehind", "(LHalfToTheLeft$Ring;)I"⟩ ∈ gw_tbl := tb_i 481 (by decide +kernel) rfl
theorem k_482 : Cond.code ⟨"HalfToTheLeft$Mind", "alikeBehind", "(LHalfToTheLeft$Ring;)I"⟩ prog_4_method_6_code 2 (some .int) ∈ gw_tbl := tb_i 482 (by decide +kernel) rfl
theorem k_483 : Cond.methodLink "HalfToTheLeft$Mind" 51 ⟨"HalfToTheLeft$Mind", "alikeWithin", "(LHalfToTheLeft$Ring;I)I"⟩ ∈ gw_tbl := tb_i 483 (by decide +kernel) rfl
theorem k_484 : Cond.static ⟨"HalfToTheLeft$Mind", "alikeWithin", "(LHalfToTheLeft$Ring;I)I"⟩ ∈ gw_tbl := tb_i 484 (by decide +kernel) rfl
theorem k_485 : Cond.code ⟨"HalfToTheLeft$Mind", "alikeWithin", "(LHalfToTheLeft$Ring;I)I"⟩ prog_4_method_7_code 3 (some .int) ∈ gw_tbl := tb_i 485 (by decide +kernel) rfl
theorem k_486 : Cond.methodLink "HalfToTheLeft$Mind" 55 ⟨"HalfToTheLeft$Ring", "allHaveAlike", "()Z"⟩ ∈ gw_tbl := tb_i 486 (by decide +kernel) rfl
theorem k_487 : Cond.instanceMethod ⟨"HalfToTheLeft$Ring", "allHaveAlike", "()Z"⟩ ∈ gw_tbl := tb_i 487 (by decide +kernel) rfl
theorem k_488 : Cond.selects "HalfToTheLeft$Ring" ⟨"HalfToTheLeft$Ring", "allHaveAlike", "()Z"⟩ ⟨"HalfToTheLeft$Ring", "allHaveAlike", "()Z"⟩ ∈ gw_tbl := tb_i 488 (by decide +kernel) rfl
theorem k_489 : Cond.code ⟨"HalfToTheLeft$Ring", "allHaveAlike", "()Z"⟩ prog_6_method_19_code 2 (some .boolean) ∈ gw_tbl := tb_i 489 (by decide +kernel) rfl
theorem k_494 : Cond.methodLink "HalfToTheLeft" 148 ⟨"HalfToTheLeft$Mind", "roundOf", "(LHalfToTheLeft$Ring;)I"⟩ ∈ gw_tbl := tb_i 494 (by decide +kernel) rfl
theorem k_495 : Cond.instanceMethod ⟨"HalfToTheLeft$Mind", "roundOf", "(LHalfToTheLeft$Ring;)I"⟩ ∈ gw_tbl := tb_i 495 (by decide +kernel) rfl
theorem k_496 : Cond.selects "HalfToTheLeft$Mind" ⟨"HalfToTheLeft$Mind", "roundOf", "(LHalfToTheLeft$Ring;)I"⟩ ⟨"HalfToTheLeft$Mind", "roundOf", "(LHalfToTheLeft$Ring;)I"⟩ ∈ gw_tbl := tb_i 496 (by decide +kernel) rfl
theorem k_497 : Cond.code ⟨"HalfToTheLeft$Mind", "roundOf", "(LHalfToTheLeft$Ring;)I"⟩ prog_4_method_8_code 3 (some .int) ∈ gw_tbl := tb_i 497 (by decide +kernel) rfl
theorem k_498 : Cond.methodLink "HalfToTheLeft$Mind" 59 ⟨"HalfToTheLeft$Ring", "hasSweetsAndBagOf", "(LHalfToTheLeft$Ring;)Z"⟩ ∈ gw_tbl := tb_i 498 (by decide +kernel) rfl
theorem k_499 : Cond.instanceMethod ⟨"HalfToTheLeft$Ring", "hasSweetsAndBagOf", "(LHalfToTheLeft$Ring;)Z"⟩ ∈ gw_tbl := tb_i 499 (by decide +kernel) rfl
theorem k_500 : Cond.selects "HalfToTheLeft$Ring" ⟨"HalfToTheLeft$Ring", "hasSweetsAndBagOf", "(LHalfToTheLeft$Ring;)Z"⟩ ⟨"HalfToTheLeft$Ring", "hasSweetsAndBagOf", "(LHalfToTheLeft$Ring;)Z"⟩ ∈ gw_tbl := tb_i 500 (by decide +kernel) rfl
theorem k_501 : Cond.code ⟨"HalfToTheLeft$Ring", "hasSweetsAndBagOf", "(LHalfToTheLeft$Ring;)Z"⟩ prog_6_method_21_code 2 (some .boolean) ∈ gw_tbl := tb_i 501 (by decide +kernel) rfl
theorem k_502 : Cond.methodLink "HalfToTheLeft$Ring" 77 ⟨"HalfToTheLeft$Ring", "hasSweetsOf", "(LHalfToTheLeft$Ring;)Z"⟩ ∈ gw_tbl := tb_i 502 (by decide +kernel) rfl
theorem k_503 : Cond.methodLink "HalfToTheLeft" 151 ⟨"HalfToTheLeft$Mind", "aheadOfRound", "(LHalfToTheLeft$Ring;I)I"⟩ ∈ gw_tbl := tb_i 503 (by decide +kernel) rfl
theorem k_504 : Cond.instanceMethod ⟨"HalfToTheLeft$Mind", "aheadOfRound", "(LHalfToTheLeft$Ring;I)I"⟩ ∈ gw_tbl := tb_i 504 (by decide +kernel) rfl
theorem k_505 : Cond.selects "HalfToTheLeft$Mind" ⟨"HalfToTheLeft$Mind", "aheadOfRound", "(LHalfToTheLeft$Ring;I)I"⟩ ⟨"HalfToTheLeft$Mind", "aheadOfRound", "(LHalfToTheLeft$Ring;I)I"⟩ ∈ gw_tbl := tb_i 505 (by decide +kernel) rfl
theorem k_506 : Cond.code ⟨"HalfToTheLeft$Mind", "aheadOfRound", "(LHalfToTheLeft$Ring;I)I"⟩ prog_4_method_9_code 4 (some .int) ∈ gw_tbl := tb_i 506 (by decide +kernel) rfl
theorem k_511 : Cond.methodLink "HalfToTheLeft" 154 ⟨"HalfToTheLeft$Mind", "meetBehind", "(LHalfToTheLeft$Ring;II)I"⟩ ∈ gw_tbl := tb_i 511 (by decide +kernel) rfl
theorem k_512 : Cond.instanceMethod ⟨"HalfToTheLeft$Mind", "meetBehind", "(LHalfToTheLeft$Ring;II)I"⟩ ∈ gw_tbl := tb_i 512 (by decide +kernel) rfl
theorem k_513 : Cond.selects "HalfToTheLeft$Mind" ⟨"HalfToTheLeft$Mind", "meetBehind", "(LHalfToTheLeft$Ring;II)I"⟩ ⟨"HalfToTheLeft$Mind", "meetBehind", "(LHalfToTheLeft$Ring;II)I"⟩ ∈ gw_tbl := tb_i 513 (by decide +kernel) rfl
theorem k_514 : Cond.code ⟨"HalfToTheLeft$Mind", "meetBehind", "(LHalfToTheLeft$Ring;II)I"⟩ prog_4_method_10_code 5 (some .int) ∈ gw_tbl := tb_i 514 (by decide +kernel) rfl
theorem k_519 : Cond.constantLong "HalfToTheLeft" 157 4000000000000000000 ∈ gw_tbl := tb_i 519 (by decide +kernel) rfl
theorem k_520 : Cond.methodLink "HalfToTheLeft" 159 ⟨"HalfToTheLeft$Crumbs", "take", "(LHalfToTheLeft$Ring;I)V"⟩ ∈ gw_tbl := tb_i 520 (by decide +kernel) rfl
theorem k_521 : Cond.instanceMethod ⟨"HalfToTheLeft$Crumbs", "take", "(LHalfToTheLeft$Ring;I)V"⟩ ∈ gw_tbl := tb_i 521 (by decide +kernel) rfl
theorem k_522 : Cond.selects "HalfToTheLeft$Crumbs" ⟨"HalfToTheLeft$Crumbs", "take", "(LHalfToTheLeft$Ring;I)V"⟩ ⟨"HalfToTheLeft$Crumbs", "take", "(LHalfToTheLeft$Ring;I)V"⟩ ∈ gw_tbl := tb_i 522 (by decide +kernel) rfl
theorem k_523 : Cond.code ⟨"HalfToTheLeft$Crumbs", "take", "(LHalfToTheLeft$Ring;I)V"⟩ prog_2_method_2_code 4 none ∈ gw_tbl := tb_i 523 (by decide +kernel) rfl
theorem k_524 : Cond.methodLink "HalfToTheLeft$Crumbs" 22 ⟨"HalfToTheLeft$Crumbs", "begin", "(LHalfToTheLeft$Ring;)V"⟩ ∈ gw_tbl := tb_i 524 (by decide +kernel) rfl
theorem k_526 : Cond.instanceMethod ⟨"HalfToTheLeft$Crumbs", "begin", "(LHalfToTheLeft$Ring;)V"⟩ ∈ gw_tbl := tb_i 526 (by decide +kernel) rfl
theorem k_527 : Cond.code ⟨"HalfToTheLeft$Crumbs", "begin", "(LHalfToTheLeft$Ring;)V"⟩ prog_2_method_3_code 3 none ∈ gw_tbl := tb_i 527 (by decide +kernel) rfl
theorem k_528 : Cond.methodLink "HalfToTheLeft$Crumbs" 26 ⟨"HalfToTheLeft$Crumbs", "advance", "(LHalfToTheLeft$Ring;)V"⟩ ∈ gw_tbl := tb_i 528 (by decide +kernel) rfl
theorem k_530 : Cond.instanceMethod ⟨"HalfToTheLeft$Crumbs", "advance", "(LHalfToTheLeft$Ring;)V"⟩ ∈ gw_tbl := tb_i 530 (by decide +kernel) rfl
theorem k_531 : Cond.code ⟨"HalfToTheLeft$Crumbs", "advance", "(LHalfToTheLeft$Ring;)V"⟩ prog_2_method_4_code 3 none ∈ gw_tbl := tb_i 531 (by decide +kernel) rfl
theorem k_532 : Cond.methodLink "HalfToTheLeft$Crumbs" 38 ⟨"HalfToTheLeft$Ring", "rightOf", "(I)I"⟩ ∈ gw_tbl := tb_i 532 (by decide +kernel) rfl
theorem k_533 : Cond.methodLink "HalfToTheLeft$Crumbs" 42 ⟨"java/lang/System", "arraycopy", "(Ljava/lang/Object;ILjava/lang/Object;II)V"⟩ ∈ gw_tbl := tb_i 533 (by decide +kernel) rfl
theorem k_534 : Cond.methodLink "HalfToTheLeft" 163 ⟨"HalfToTheLeft$Crumbs", "above", "(I)J"⟩ ∈ gw_tbl := tb_i 534 (by decide +kernel) rfl
theorem k_535 : Cond.instanceMethod ⟨"HalfToTheLeft$Crumbs", "above", "(I)J"⟩ ∈ gw_tbl := tb_i 535 (by decide +kernel) rfl
theorem k_536 : Cond.selects "HalfToTheLeft$Crumbs" ⟨"HalfToTheLeft$Crumbs", "above", "(I)J"⟩ ⟨"HalfToTheLeft$Crumbs", "above", "(I)J"⟩ ∈ gw_tbl := tb_i 536 (by decide +kernel) rfl
theorem k_537 : Cond.code ⟨"HalfToTheLeft$Crumbs", "above", "(I)J"⟩ prog_2_method_5_code 2 (some .long) ∈ gw_tbl := tb_i 537 (by decide +kernel) rfl
theorem k_538 : Cond.methodLink "HalfToTheLeft$Crumbs" 48 ⟨"HalfToTheLeft$Crumbs", "halvings", "(I)I"⟩ ∈ gw_tbl := tb_i 538 (by decide +kernel) rfl
theorem k_540 : Cond.instanceMethod ⟨"HalfToTheLeft$Crumbs", "halvings", "(I)I"⟩ ∈ gw_tbl := tb_i 540 (by decide +kernel) rfl
theorem k_541 : Cond.code ⟨"HalfToTheLeft$Crumbs", "halvings", "(I)I"⟩ prog_2_method_7_code 3 (some .int) ∈ gw_tbl := tb_i 541 (by decide +kernel) rfl
theorem k_542 : Cond.constantLong "HalfToTheLeft$Crumbs" 51 2 ∈ gw_tbl := tb_i 542 (by decide +kernel) rfl
theorem k_543 : Cond.methodLink "HalfToTheLeft" 167 ⟨"HalfToTheLeft$Crumbs", "below", "(I)J"⟩ ∈ gw_tbl := tb_i 543 (by decide +kernel) rfl
theorem k_544 : Cond.instanceMethod ⟨"HalfToTheLeft$Crumbs", "below", "(I)J"⟩ ∈ gw_tbl := tb_i 544 (by decide +kernel) rfl
theorem k_545 : Cond.selects "HalfToTheLeft$Crumbs" ⟨"HalfToTheLeft$Crumbs", "below", "(I)J"⟩ ⟨"HalfToTheLeft$Crumbs", "below", "(I)J"⟩ ∈ gw_tbl := tb_i 545 (by decide +kernel) rfl
theorem k_546 : Cond.code ⟨"HalfToTheLeft$Crumbs", "below", "(I)J"⟩ prog_2_method_6_code 2 (some .long) ∈ gw_tbl := tb_i 546 (by decide +kernel) rfl
theorem k_551 : Cond.methodLink "HalfToTheLeft" 170 ⟨"HalfToTheLeft$Ring", "commonDivisor", "()I"⟩ ∈ gw_tbl := tb_i 551 (by decide +kernel) rfl
theorem k_552 : Cond.instanceMethod ⟨"HalfToTheLeft$Ring", "commonDivisor", "()I"⟩ ∈ gw_tbl := tb_i 552 (by decide +kernel) rfl
theorem k_553 : Cond.selects "HalfToTheLeft$Ring" ⟨"HalfToTheLeft$Ring", "commonDivisor", "()I"⟩ ⟨"HalfToTheLeft$Ring", "commonDivisor", "()I"⟩ ∈ gw_tbl := tb_i 553 (by decide +kernel) rfl
theorem k_554 : Cond.code ⟨"HalfToTheLeft$Ring", "commonDivisor", "()I"⟩ prog_6_method_18_code 3 (some .int) ∈ gw_tbl := tb_i 554 (by decide +kernel) rfl
theorem k_555 : Cond.methodLink "HalfToTheLeft$Ring" 74 ⟨"HalfToTheLeft$Ring", "allSweets", "()I"⟩ ∈ gw_tbl := tb_i 555 (by decide +kernel) rfl
theorem k_556 : Cond.instanceMethod ⟨"HalfToTheLeft$Ring", "allSweets", "()I"⟩ ∈ gw_tbl := tb_i 556 (by decide +kernel) rfl
theorem k_557 : Cond.selects "HalfToTheLeft$Ring" ⟨"HalfToTheLeft$Ring", "allSweets", "()I"⟩ ⟨"HalfToTheLeft$Ring", "allSweets", "()I"⟩ ∈ gw_tbl := tb_i 557 (by decide +kernel) rfl
theorem k_558 : Cond.code ⟨"HalfToTheLeft$Ring", "allSweets", "()I"⟩ prog_6_method_16_code 3 (some .int) ∈ gw_tbl := tb_i 558 (by decide +kernel) rfl
theorem k_559 : Cond.methodLink "HalfToTheLeft" 173 ⟨"java/lang/Math", "max", "(II)I"⟩ ∈ gw_tbl := tb_i 559 (by decide +kernel) rfl
theorem k_560 : Cond.methodLink "HalfToTheLeft" 179 ⟨"HalfToTheLeft$Ring", "allSweets", "()I"⟩ ∈ gw_tbl := tb_i 560 (by decide +kernel) rfl
theorem k_565 : Cond.methodLink "HalfToTheLeft" 182 ⟨"HalfToTheLeft", "outsideOrNobody", "(III)I"⟩ ∈ gw_tbl := tb_i 565 (by decide +kernel) rfl
theorem k_567 : Cond.instanceMethod ⟨"HalfToTheLeft", "outsideOrNobody", "(III)I"⟩ ∈ gw_tbl := tb_i 567 (by decide +kernel) rfl
theorem k_568 : Cond.code ⟨"HalfToTheLeft", "outsideOrNobody", "(III)I"⟩ prog_1_method_36_code 5 (some .int) ∈ gw_tbl := tb_i 568 (by decide +kernel) rfl
theorem k_569 : Cond.methodLink "HalfToTheLeft" 185 ⟨"HalfToTheLeft$Crumbs", "nearBehind", "(LHalfToTheLeft$Ring;I)I"⟩ ∈ gw_tbl := tb_i 569 (by decide +kernel) rfl
theorem k_570 : Cond.instanceMethod ⟨"HalfToTheLeft$Crumbs", "nearBehind", "(LHalfToTheLeft$Ring;I)I"⟩ ∈ gw_tbl := tb_i 570 (by decide +kernel) rfl
theorem k_571 : Cond.selects "HalfToTheLeft$Crumbs" ⟨"HalfToTheLeft$Crumbs", "nearBehind", "(LHalfToTheLeft$Ring;I)I"⟩ ⟨"HalfToTheLeft$Crumbs", "nearBehind", "(LHalfToTheLeft$Ring;I)I"⟩ ∈ gw_tbl := tb_i 571 (by decide +kernel) rfl
theorem k_572 : Cond.code ⟨"HalfToTheLeft$Crumbs", "nearBehind", "(LHalfToTheLeft$Ring;I)I"⟩ prog_2_method_8_code 4 (some .int) ∈ gw_tbl := tb_i 572 (by decide +kernel) rfl
theorem k_573 : Cond.methodLink "HalfToTheLeft$Crumbs" 53 ⟨"HalfToTheLeft$Crumbs", "allAreNear", "(LHalfToTheLeft$Ring;I)Z"⟩ ∈ gw_tbl := tb_i 573 (by decide +kernel) rfl
theorem k_575 : Cond.instanceMethod ⟨"HalfToTheLeft$Crumbs", "allAreNear", "(LHalfToTheLeft$Ring;I)Z"⟩ ∈ gw_tbl := tb_i 575 (by decide +kernel) rfl
theorem k_576 : Cond.code ⟨"HalfToTheLeft$Crumbs", "allAreNear", "(LHalfToTheLeft$Ring;I)Z"⟩ prog_2_method_9_code 8 (some .boolean) ∈ gw_tbl := tb_i 576 (by decide +kernel) rfl
theorem k_577 : Cond.methodLink "HalfToTheLeft$Crumbs" 57 ⟨"HalfToTheLeft$Ring", "allSweets", "()I"⟩ ∈ gw_tbl := tb_i 577 (by decide +kernel) rfl
theorem k_578 : Cond.methodLink "HalfToTheLeft$Crumbs" 61 ⟨"java/lang/Math", "abs", "(J)J"⟩ ∈ gw_tbl := tb_i 578 (by decide +kernel) rfl
theorem k_579 : Cond.static ⟨"java/lang/Math", "abs", "(J)J"⟩ ∈ gw_tbl := tb_i 579 (by decide +kernel) rfl
theorem k_580 : Cond.code ⟨"java/lang/Math", "abs", "(J)J"⟩ prog_11_method_61_code 2 (some .long) ∈ gw_tbl := tb_i 580 (by decide +kernel) rfl
theorem k_585 : Cond.methodLink "HalfToTheLeft" 188 ⟨"HalfToTheLeft", "outsideOrMany", "(III)I"⟩ ∈ gw_tbl := tb_i 585 (by decide +kernel) rfl
theorem k_587 : Cond.instanceMethod ⟨"HalfToTheLeft", "outsideOrMany", "(III)I"⟩ ∈ gw_tbl := tb_i 587 (by decide +kernel) rfl
theorem k_588 : Cond.code ⟨"HalfToTheLeft", "outsideOrMany", "(III)I"⟩ prog_1_method_37_code 5 (some .int) ∈ gw_tbl := tb_i 588 (by decide +kernel) rfl
theorem k_589 : Cond.constant "HalfToTheLeft" 191 2147483647 ∈ gw_tbl := tb_i 589 (by decide +kernel) rfl
theorem k_590 : Cond.methodLink "HalfToTheLeft" 192 ⟨"HalfToTheLeft$Past", "find", "(LHalfToTheLeft$Ring;II)I"⟩ ∈ gw_tbl := tb_i 590 (by decide +kernel) rfl
theorem k_591 : Cond.instanceMethod ⟨"HalfToTheLeft$Past", "find", "(LHalfToTheLeft$Ring;II)I"⟩ ∈ gw_tbl := tb_i 591 (by decide +kernel) rfl
theorem k_592 : Cond.selects "HalfToTheLeft$Past" ⟨"HalfToTheLeft$Past", "find", "(LHalfToTheLeft$Ring;II)I"⟩ ⟨"HalfToTheLeft$Past", "find", "(LHalfToTheLeft$Ring;II)I"⟩ ∈ gw_tbl := tb_i 592 (by decide +kernel) rfl
theorem k_593 : Cond.code ⟨"HalfToTheLeft$Past", "find", "(LHalfToTheLeft$Ring;II)I"⟩ prog_5_method_2_code 8 (some .int) ∈ gw_tbl := tb_i 593 (by decide +kernel) rfl
theorem k_594 : Cond.methodLink "HalfToTheLeft$Past" 25 ⟨"HalfToTheLeft$Ring", "copyFrom", "(LHalfToTheLeft$Ring;)V"⟩ ∈ gw_tbl := tb_i 594 (by decide +kernel) rfl
theorem k_595 : Cond.methodLink "HalfToTheLeft$Past" 33 ⟨"HalfToTheLeft$Past", "placeOfWrong", "(LHalfToTheLeft$Ring;)I"⟩ ∈ gw_tbl := tb_i 595 (by decide +kernel) rfl
theorem k_597 : Cond.instanceMethod ⟨"HalfToTheLeft$Past", "placeOfWrong", "(LHalfToTheLeft$Ring;)I"⟩ ∈ gw_tbl := tb_i 597 (by decide +kernel) rfl
theorem k_598 : Cond.code ⟨"HalfToTheLeft$Past", "placeOfWrong", "(LHalfToTheLeft$Ring;)I"⟩ prog_5_method_3_code 4 (some .int) ∈ gw_tbl := tb_i 598 (by decide +kernel) rfl
theorem k_599 : Cond.methodLink "HalfToTheLeft$Past" 51 ⟨"HalfToTheLeft$Ring", "heapBehindGifts", "(I)I"⟩ ∈ gw_tbl := tb_i 599 (by decide +kernel) rfl
theorem k_600 : Cond.instanceMethod ⟨"HalfToTheLeft$Ring", "heapBehindGifts", "(I)I"⟩ ∈ gw_tbl := tb_i 600 (by decide +kernel) rfl
theorem k_601 : Cond.selects "HalfToTheLeft$Ring" ⟨"HalfToTheLeft$Ring", "heapBehindGifts", "(I)I"⟩ ⟨"HalfToTheLeft$Ring", "heapBehindGifts", "(I)I"⟩ ∈ gw_tbl := tb_i 601 (by decide +kernel) rfl
theorem k_602 : Cond.code ⟨"HalfToTheLeft$Ring", "heapBehindGifts", "(I)I"⟩ prog_6_method_11_code 5 (some .int) ∈ gw_tbl := tb_i 602 (by decide +kernel) rfl
theorem k_603 : Cond.methodLink "HalfToTheLeft$Past" 55 ⟨"HalfToTheLeft$Past", "mayBecome", "(II)Z"⟩ ∈ gw_tbl := tb_i 603 (by decide +kernel) rfl
theorem k_604 : Cond.static ⟨"HalfToTheLeft$Past", "mayBecome", "(II)Z"⟩ ∈ gw_tbl := tb_i 604 (by decide +kernel) rfl
theorem k_605 : Cond.code ⟨"HalfToTheLeft$Past", "mayBecome", "(II)Z"⟩ prog_5_method_5_code 2 (some .boolean) ∈ gw_tbl := tb_i 605 (by decide +kernel) rfl
theorem k_606 : Cond.methodLink "HalfToTheLeft$Past" 73 ⟨"java/lang/Math", "abs", "(I)I"⟩ ∈ gw_tbl := tb_i 606 (by decide +kernel) rfl
theorem k_607 : Cond.static ⟨"java/lang/Math", "abs", "(I)I"⟩ ∈ gw_tbl := tb_i 607 (by decide +kernel) rfl
theorem k_608 : Cond.code ⟨"java/lang/Math", "abs", "(I)I"⟩ prog_11_method_59_code 1 (some .int) ∈ gw_tbl := tb_i 608 (by decide +kernel) rfl
theorem k_609 : Cond.methodLink "HalfToTheLeft$Past" 58 ⟨"HalfToTheLeft$Past", "lastOfThoseWhoMakeHeapOf", "(I)I"⟩ ∈ gw_tbl := tb_i 609 (by decide +kernel) rfl
theorem k_611 : Cond.instanceMethod ⟨"HalfToTheLeft$Past", "lastOfThoseWhoMakeHeapOf", "(I)I"⟩ ∈ gw_tbl := tb_i 611 (by decide +kernel) rfl
theorem k_612 : Cond.code ⟨"HalfToTheLeft$Past", "lastOfThoseWhoMakeHeapOf", "(I)I"⟩ prog_5_method_4_code 5 (some .int) ∈ gw_tbl := tb_i 612 (by decide +kernel) rfl
theorem k_613 : Cond.methodLink "HalfToTheLeft$Past" 61 ⟨"HalfToTheLeft$Ring", "leftOf", "(I)I"⟩ ∈ gw_tbl := tb_i 613 (by decide +kernel) rfl
theorem k_614 : Cond.methodLink "HalfToTheLeft$Past" 64 ⟨"HalfToTheLeft$Ring", "rightOf", "(I)I"⟩ ∈ gw_tbl := tb_i 614 (by decide +kernel) rfl
theorem k_615 : Cond.methodLink "HalfToTheLeft$Past" 67 ⟨"java/lang/Math", "max", "(II)I"⟩ ∈ gw_tbl := tb_i 615 (by decide +kernel) rfl
theorem k_616 : Cond.methodLink "HalfToTheLeft$Past" 41 ⟨"java/lang/Math", "min", "(II)I"⟩ ∈ gw_tbl := tb_i 616 (by decide +kernel) rfl
theorem k_617 : Cond.methodLink "HalfToTheLeft$Past" 37 ⟨"HalfToTheLeft$Past", "leadsTo", "(LHalfToTheLeft$Ring;)Z"⟩ ∈ gw_tbl := tb_i 617 (by decide +kernel) rfl
theorem k_619 : Cond.instanceMethod ⟨"HalfToTheLeft$Past", "leadsTo", "(LHalfToTheLeft$Ring;)Z"⟩ ∈ gw_tbl := tb_i 619 (by decide +kernel) rfl
theorem k_620 : Cond.code ⟨"HalfToTheLeft$Past", "leadsTo", "(LHalfToTheLeft$Ring;)Z"⟩ prog_5_method_7_code 2 (some .boolean) ∈ gw_tbl := tb_i 620 (by decide +kernel) rfl
theorem k_621 : Cond.methodLink "HalfToTheLeft$Past" 76 ⟨"HalfToTheLeft$Ring", "strike", "()I"⟩ ∈ gw_tbl := tb_i 621 (by decide +kernel) rfl
theorem k_622 : Cond.methodLink "HalfToTheLeft$Past" 80 ⟨"HalfToTheLeft$Ring", "hasSweetsOf", "(LHalfToTheLeft$Ring;)Z"⟩ ∈ gw_tbl := tb_i 622 (by decide +kernel) rfl
theorem k_623 : Cond.methodLink "HalfToTheLeft$Past" 47 ⟨"HalfToTheLeft$Past", "advance", "(II)Z"⟩ ∈ gw_tbl := tb_i 623 (by decide +kernel) rfl
theorem k_625 : Cond.instanceMethod ⟨"HalfToTheLeft$Past", "advance", "(II)Z"⟩ ∈ gw_tbl := tb_i 625 (by decide +kernel) rfl
theorem k_626 : Cond.code ⟨"HalfToTheLeft$Past", "advance", "(II)Z"⟩ prog_5_method_6_code 4 (some .boolean) ∈ gw_tbl := tb_i 626 (by decide +kernel) rfl
theorem k_635 : Cond.methodLink "HalfToTheLeft" 198 ⟨"HalfToTheLeft", "refusalOfSeats", "(III)I"⟩ ∈ gw_tbl := tb_i 635 (by decide +kernel) rfl
theorem k_637 : Cond.instanceMethod ⟨"HalfToTheLeft", "refusalOfSeats", "(III)I"⟩ ∈ gw_tbl := tb_i 637 (by decide +kernel) rfl
theorem k_638 : Cond.code ⟨"HalfToTheLeft", "refusalOfSeats", "(III)I"⟩ prog_1_method_38_code 5 (some .int) ∈ gw_tbl := tb_i 638 (by decide +kernel) rfl
theorem k_639 : Cond.methodLink "HalfToTheLeft" 201 ⟨"HalfToTheLeft$Seating", "best", "(LHalfToTheLeft$Ring;II)I"⟩ ∈ gw_tbl := tb_i 639 (by decide +kernel) rfl
theorem k_640 : Cond.instanceMethod ⟨"HalfToTheLeft$Seating", "best", "(LHalfToTheLeft$Ring;II)I"⟩ ∈ gw_tbl := tb_i 640 (by decide +kernel) rfl
theorem k_641 : Cond.selects "HalfToTheLeft$Seating" ⟨"HalfToTheLeft$Seating", "best", "(LHalfToTheLeft$Ring;II)I"⟩ ⟨"HalfToTheLeft$Seating", "best", "(LHalfToTheLeft$Ring;II)I"⟩ ∈ gw_tbl := tb_i 641 (by decide +kernel) rfl
theorem k_642 : Cond.code ⟨"HalfToTheLeft$Seating", "best", "(LHalfToTheLeft$Ring;II)I"⟩ prog_7_method_2_code 8 (some .int) ∈ gw_tbl := tb_i 642 (by decide +kernel) rfl
theorem k_643 : Cond.methodLink "HalfToTheLeft$Seating" 29 ⟨"java/lang/Math", "min", "(II)I"⟩ ∈ gw_tbl := tb_i 643 (by decide +kernel) rfl
theorem k_644 : Cond.methodLink "HalfToTheLeft$Seating" 35 ⟨"HalfToTheLeft$Seating", "numberOfOrder", "(LHalfToTheLeft$Ring;II)I"⟩ ∈ gw_tbl := tb_i 644 (by decide +kernel) rfl
theorem k_646 : Cond.instanceMethod ⟨"HalfToTheLeft$Seating", "numberOfOrder", "(LHalfToTheLeft$Ring;II)I"⟩ ∈ gw_tbl := tb_i 646 (by decide +kernel) rfl
theorem k_647 : Cond.code ⟨"HalfToTheLeft$Seating", "numberOfOrder", "(LHalfToTheLeft$Ring;II)I"⟩ prog_7_method_3_code 5 (some .int) ∈ gw_tbl := tb_i 647 (by decide +kernel) rfl
theorem k_648 : Cond.methodLink "HalfToTheLeft$Seating" 49 ⟨"HalfToTheLeft$Ring", "copyFrom", "(LHalfToTheLeft$Ring;)V"⟩ ∈ gw_tbl := tb_i 648 (by decide +kernel) rfl
theorem k_649 : Cond.methodLink "HalfToTheLeft$Seating" 59 ⟨"HalfToTheLeft$Ring", "strikeOften", "(I)V"⟩ ∈ gw_tbl := tb_i 649 (by decide +kernel) rfl
theorem k_650 : Cond.methodLink "HalfToTheLeft$Seating" 39 ⟨"java/lang/System", "arraycopy", "(Ljava/lang/Object;ILjava/lang/Object;II)V"⟩ ∈ gw_tbl := tb_i 650 (by decide +kernel) rfl
theorem k_651 : Cond.methodLink "HalfToTheLeft$Seating" 45 ⟨"HalfToTheLeft$Seating", "goToNextOrder", "(I)Z"⟩ ∈ gw_tbl := tb_i 651 (by decide +kernel) rfl
theorem k_653 : Cond.instanceMethod ⟨"HalfToTheLeft$Seating", "goToNextOrder", "(I)Z"⟩ ∈ gw_tbl := tb_i 653 (by decide +kernel) rfl
theorem k_654 : Cond.code ⟨"HalfToTheLeft$Seating", "goToNextOrder", "(I)Z"⟩ prog_7_method_4_code 6 (some .boolean) ∈ gw_tbl := tb_i 654 (by decide +kernel) rfl
theorem k_655 : Cond.methodLink "HalfToTheLeft$Seating" 66 ⟨"HalfToTheLeft$Seating", "changePlaces", "(II)V"⟩ ∈ gw_tbl := tb_i 655 (by decide +kernel) rfl
theorem k_657 : Cond.instanceMethod ⟨"HalfToTheLeft$Seating", "changePlaces", "(II)V"⟩ ∈ gw_tbl := tb_i 657 (by decide +kernel) rfl
theorem k_658 : Cond.code ⟨"HalfToTheLeft$Seating", "changePlaces", "(II)V"⟩ prog_7_method_5_code 4 none ∈ gw_tbl := tb_i 658 (by decide +kernel) rfl
theorem k_667 : Cond.constant "HalfToTheLeft" 207 1000000000 ∈ gw_tbl := tb_i 667 (by decide +kernel) rfl
theorem k_668 : Cond.methodLink "HalfToTheLeft" 208 ⟨"HalfToTheLeft$Mind", "othersMore", "(LHalfToTheLeft$Ring;III)I"⟩ ∈ gw_tbl := tb_i 668 (by decide +kernel) rfl
theorem k_669 : Cond.instanceMethod ⟨"HalfToTheLeft$Mind", "othersMore", "(LHalfToTheLeft$Ring;III)I"⟩ ∈ gw_tbl := tb_i 669 (by decide +kernel) rfl
theorem k_670 : Cond.selects "HalfToTheLeft$Mind" ⟨"HalfToTheLeft$Mind", "othersMore", "(LHalfToTheLeft$Ring;III)I"⟩ ⟨"HalfToTheLeft$Mind", "othersMore", "(LHalfToTheLeft$Ring;III)I"⟩ ∈ gw_tbl := tb_i 670 (by decide +kernel) rfl
theorem k_671 : Cond.code ⟨"HalfToTheLeft$Mind", "othersMore", "(LHalfToTheLeft$Ring;III)I"⟩ prog_4_method_11_code 6 (some .int) ∈ gw_tbl := tb_i 671 (by decide +kernel) rfl
theorem k_672 : Cond.methodLink "HalfToTheLeft$Mind" 65 ⟨"HalfToTheLeft$Ring", "allSweets", "()I"⟩ ∈ gw_tbl := tb_i 672 (by decide +kernel) rfl
theorem k_677 : Cond.methodLink "HalfToTheLeft" 212 ⟨"HalfToTheLeft$Mind", "feltBehind", "(LHalfToTheLeft$Ring;II)I"⟩ ∈ gw_tbl := tb_i 677 (by decide +kernel) rfl
theorem k_678 : Cond.instanceMethod ⟨"HalfToTheLeft$Mind", "feltBehind", "(LHalfToTheLeft$Ring;II)I"⟩ ∈ gw_tbl := tb_i 678 (by decide +kernel) rfl
theorem k_679 : Cond.selects "HalfToTheLeft$Mind" ⟨"HalfToTheLeft$Mind", "feltBehind", "(LHalfToTheLeft$Ring;II)I"⟩ ⟨"HalfToTheLeft$Mind", "feltBehind", "(LHalfToTheLeft$Ring;II)I"⟩ ∈ gw_tbl := tb_i 679 (by decide +kernel) rfl
theorem k_680 : Cond.code ⟨"HalfToTheLeft$Mind", "feltBehind", "(LHalfToTheLeft$Ring;II)I"⟩ prog_4_method_12_code 5 (some .int) ∈ gw_tbl := tb_i 680 (by decide +kernel) rfl
theorem k_681 : Cond.methodLink "HalfToTheLeft$Mind" 68 ⟨"java/lang/Math", "min", "(II)I"⟩ ∈ gw_tbl := tb_i 681 (by decide +kernel) rfl
theorem k_686 : Cond.methodLink "HalfToTheLeft" 215 ⟨"HalfToTheLeft$Mind", "gaveJoined", "(LHalfToTheLeft$Ring;LHalfToTheLeft$Ring;I)I"⟩ ∈ gw_tbl := tb_i 686 (by decide +kernel) rfl
theorem k_687 : Cond.instanceMethod ⟨"HalfToTheLeft$Mind", "gaveJoined", "(LHalfToTheLeft$Ring;LHalfToTheLeft$Ring;I)I"⟩ ∈ gw_tbl := tb_i 687 (by decide +kernel) rfl
theorem k_688 : Cond.selects "HalfToTheLeft$Mind" ⟨"HalfToTheLeft$Mind", "gaveJoined", "(LHalfToTheLeft$Ring;LHalfToTheLeft$Ring;I)I"⟩ ⟨"HalfToTheLeft$Mind", "gaveJoined", "(LHalfToTheLeft$Ring;LHalfToTheLeft$Ring;I)I"⟩ ∈ gw_tbl := tb_i 688 (by decide +kernel) rfl
theorem k_689 : Cond.code ⟨"HalfToTheLeft$Mind", "gaveJoined", "(LHalfToTheLeft$Ring;LHalfToTheLeft$Ring;I)I"⟩ prog_4_method_13_code 5 (some .int) ∈ gw_tbl := tb_i 689 (by decide +kernel) rfl
theorem k_690 : Cond.methodLink "HalfToTheLeft$Mind" 77 ⟨"HalfToTheLeft$Ring", "seatLast", "(II)Z"⟩ ∈ gw_tbl := tb_i 690 (by decide +kernel) rfl
theorem k_695 : Cond.methodLink "HalfToTheLeft" 219 ⟨"HalfToTheLeft$Mind", "gaveMore", "(LHalfToTheLeft$Ring;II)I"⟩ ∈ gw_tbl := tb_i 695 (by decide +kernel) rfl
theorem k_696 : Cond.instanceMethod ⟨"HalfToTheLeft$Mind", "gaveMore", "(LHalfToTheLeft$Ring;II)I"⟩ ∈ gw_tbl := tb_i 696 (by decide +kernel) rfl
theorem k_697 : Cond.selects "HalfToTheLeft$Mind" ⟨"HalfToTheLeft$Mind", "gaveMore", "(LHalfToTheLeft$Ring;II)I"⟩ ⟨"HalfToTheLeft$Mind", "gaveMore", "(LHalfToTheLeft$Ring;II)I"⟩ ∈ gw_tbl := tb_i 697 (by decide +kernel) rfl
theorem k_698 : Cond.code ⟨"HalfToTheLeft$Mind", "gaveMore", "(LHalfToTheLeft$Ring;II)I"⟩ prog_4_method_14_code 4 (some .int) ∈ gw_tbl := tb_i 698 (by decide +kernel) rfl
theorem k_703 : Cond.methodLink "HalfToTheLeft" 222 ⟨"HalfToTheLeft$Mind", "leastBegun", "(LHalfToTheLeft$Ring;I)I"⟩ ∈ gw_tbl := tb_i 703 (by decide +kernel) rfl
theorem k_704 : Cond.instanceMethod ⟨"HalfToTheLeft$Mind", "leastBegun", "(LHalfToTheLeft$Ring;I)I"⟩ ∈ gw_tbl := tb_i 704 (by decide +kernel) rfl
theorem k_705 : Cond.selects "HalfToTheLeft$Mind" ⟨"HalfToTheLeft$Mind", "leastBegun", "(LHalfToTheLeft$Ring;I)I"⟩ ⟨"HalfToTheLeft$Mind", "leastBegun", "(LHalfToTheLeft$Ring;I)I"⟩ ∈ gw_tbl := tb_i 705 (by decide +kernel) rfl
theorem k_706 : Cond.code ⟨"HalfToTheLeft$Mind", "leastBegun", "(LHalfToTheLeft$Ring;I)I"⟩ prog_4_method_15_code 5 (some .int) ∈ gw_tbl := tb_i 706 (by decide +kernel) rfl
theorem k_711 : Cond.methodLink "HalfToTheLeft" 225 ⟨"HalfToTheLeft$Mind", "gaveBySeed", "(LHalfToTheLeft$Ring;II)I"⟩ ∈ gw_tbl := tb_i 711 (by decide +kernel) rfl
theorem k_712 : Cond.instanceMethod ⟨"HalfToTheLeft$Mind", "gaveBySeed", "(LHalfToTheLeft$Ring;II)I"⟩ ∈ gw_tbl := tb_i 712 (by decide +kernel) rfl
theorem k_713 : Cond.selects "HalfToTheLeft$Mind" ⟨"HalfToTheLeft$Mind", "gaveBySeed", "(LHalfToTheLeft$Ring;II)I"⟩ ⟨"HalfToTheLeft$Mind", "gaveBySeed", "(LHalfToTheLeft$Ring;II)I"⟩ ∈ gw_tbl := tb_i 713 (by decide +kernel) rfl
theorem k_714 : Cond.code ⟨"HalfToTheLeft$Mind", "gaveBySeed", "(LHalfToTheLeft$Ring;II)I"⟩ prog_4_method_16_code 7 (some .int) ∈ gw_tbl := tb_i 714 (by decide +kernel) rfl
theorem k_715 : Cond.methodLink "HalfToTheLeft$Mind" 81 ⟨"HalfToTheLeft$Mind", "draw", "(I)I"⟩ ∈ gw_tbl := tb_i 715 (by decide +kernel) rfl
theorem k_717 : Cond.instanceMethod ⟨"HalfToTheLeft$Mind", "draw", "(I)I"⟩ ∈ gw_tbl := tb_i 717 (by decide +kernel) rfl
theorem k_718 : Cond.code ⟨"HalfToTheLeft$Mind", "draw", "(I)I"⟩ prog_4_method_17_code 2 (some .int) ∈ gw_tbl := tb_i 718 (by decide +kernel) rfl
theorem k_719 : Cond.constant "HalfToTheLeft$Mind" 89 1103515245 ∈ gw_tbl := tb_i 719 (by decide +kernel) rfl
theorem k_720 : Cond.constant "HalfToTheLeft$Mind" 90 2147483647 ∈ gw_tbl := tb_i 720 (by decide +kernel) rfl
theorem k_721 : Cond.constant "HalfToTheLeft$Mind" 91 65536 ∈ gw_tbl := tb_i 721 (by decide +kernel) rfl
theorem k_722 : Cond.methodLink "HalfToTheLeft$Mind" 85 ⟨"HalfToTheLeft$Ring", "changeSweets", "(II)V"⟩ ∈ gw_tbl := tb_i 722 (by decide +kernel) rfl
theorem k_731 : Cond.methodLink "HalfToTheLeft" 228 ⟨"HalfToTheLeft$Mind", "firstWrong", "(LHalfToTheLeft$Ring;[II)I"⟩ ∈ gw_tbl := tb_i 731 (by decide +kernel) rfl
theorem k_732 : Cond.instanceMethod ⟨"HalfToTheLeft$Mind", "firstWrong", "(LHalfToTheLeft$Ring;[II)I"⟩ ∈ gw_tbl := tb_i 732 (by decide +kernel) rfl
theorem k_733 : Cond.selects "HalfToTheLeft$Mind" ⟨"HalfToTheLeft$Mind", "firstWrong", "(LHalfToTheLeft$Ring;[II)I"⟩ ⟨"HalfToTheLeft$Mind", "firstWrong", "(LHalfToTheLeft$Ring;[II)I"⟩ ∈ gw_tbl := tb_i 733 (by decide +kernel) rfl
theorem k_734 : Cond.code ⟨"HalfToTheLeft$Mind", "firstWrong", "(LHalfToTheLeft$Ring;[II)I"⟩ prog_4_method_18_code 6 (some .int) ∈ gw_tbl := tb_i 734 (by decide +kernel) rfl
theorem k_739 : Cond.methodLink "HalfToTheLeft" 232 ⟨"HalfToTheLeft$Ring", "copyFrom", "(LHalfToTheLeft$Ring;)V"⟩ ∈ gw_tbl := tb_i 739 (by decide +kernel) rfl
theorem k_748 : Cond.methodLink "HalfToTheLeft" 245 ⟨"HalfToTheLeft$Ring", "oddHeaps", "()I"⟩ ∈ gw_tbl := tb_i 748 (by decide +kernel) rfl
theorem k_749 : Cond.instanceMethod ⟨"HalfToTheLeft$Ring", "oddHeaps", "()I"⟩ ∈ gw_tbl := tb_i 749 (by decide +kernel) rfl
theorem k_750 : Cond.selects "HalfToTheLeft$Ring" ⟨"HalfToTheLeft$Ring", "oddHeaps", "()I"⟩ ⟨"HalfToTheLeft$Ring", "oddHeaps", "()I"⟩ ∈ gw_tbl := tb_i 750 (by decide +kernel) rfl
theorem k_751 : Cond.code ⟨"HalfToTheLeft$Ring", "oddHeaps", "()I"⟩ prog_6_method_17_code 3 (some .int) ∈ gw_tbl := tb_i 751 (by decide +kernel) rfl
theorem k_758 : Cond.fieldLink "HalfToTheLeftModel" 7 "HalfToTheLeftModel" "refused" "[I" ∈ gw_tbl := tb_i 758 (by decide +kernel) rfl
theorem k_759 : Cond.fieldLink "HalfToTheLeftModel" 13 "HalfToTheLeftModel" "kind" "[I" ∈ gw_tbl := tb_i 759 (by decide +kernel) rfl
theorem k_760 : Cond.fieldLink "HalfToTheLeftModel" 16 "HalfToTheLeftModel" "sweets" "[I" ∈ gw_tbl := tb_i 760 (by decide +kernel) rfl
theorem k_761 : Cond.fieldLink "HalfToTheLeftModel" 19 "HalfToTheLeftModel" "gives" "[I" ∈ gw_tbl := tb_i 761 (by decide +kernel) rfl
theorem k_762 : Cond.fieldLink "HalfToTheLeftModel" 78 "HalfToTheLeftModel" "many" "I" ∈ gw_tbl := tb_i 762 (by decide +kernel) rfl
theorem k_763 : Cond.fieldLink "HalfToTheLeftModel" 112 "HalfToTheLeftModel" "odd" "I" ∈ gw_tbl := tb_i 763 (by decide +kernel) rfl
theorem k_764 : Cond.fieldLink "HalfToTheLeftModel" 22 "HalfToTheLeftModel" "step" "I" ∈ gw_tbl := tb_i 764 (by decide +kernel) rfl
theorem k_765 : Cond.fieldLink "HalfToTheLeftModel" 26 "HalfToTheLeftModel" "bag" "I" ∈ gw_tbl := tb_i 765 (by decide +kernel) rfl
theorem k_766 : Cond.fieldLink "HalfToTheLeftModel" 137 "HalfToTheLeftModel" "strokes" "I" ∈ gw_tbl := tb_i 766 (by decide +kernel) rfl
theorem k_767 : Cond.fieldLink "HalfToTheLeftModel" 140 "HalfToTheLeftModel" "gave" "I" ∈ gw_tbl := tb_i 767 (by decide +kernel) rfl
theorem k_768 : Cond.fieldLink "HalfToTheLeftModel" 143 "HalfToTheLeftModel" "threw" "I" ∈ gw_tbl := tb_i 768 (by decide +kernel) rfl
theorem k_769 : Cond.fieldLink "HalfToTheLeftModel" 29 "HalfToTheLeftModel" "tape" "[I" ∈ gw_tbl := tb_i 769 (by decide +kernel) rfl
theorem k_770 : Cond.fieldLink "HalfToTheLeftModel" 32 "HalfToTheLeftModel" "letter" "[I" ∈ gw_tbl := tb_i 770 (by decide +kernel) rfl
theorem k_771 : Cond.fieldLink "HalfToTheLeftModel" 35 "HalfToTheLeftModel" "letterAt" "[I" ∈ gw_tbl := tb_i 771 (by decide +kernel) rfl
theorem k_772 : Cond.fieldLink "HalfToTheLeftModel" 38 "HalfToTheLeftModel" "one" "[I" ∈ gw_tbl := tb_i 772 (by decide +kernel) rfl
theorem k_773 : Cond.fieldLink "HalfToTheLeftModel" 41 "HalfToTheLeftModel" "two" "[I" ∈ gw_tbl := tb_i 773 (by decide +kernel) rfl
theorem k_774 : Cond.fieldLink "HalfToTheLeftModel" 85 "HalfToTheLeftModel" "taped" "I" ∈ gw_tbl := tb_i 774 (by decide +kernel) rfl
theorem k_775 : Cond.fieldLink "HalfToTheLeftModel" 92 "HalfToTheLeftModel" "at" "I" ∈ gw_tbl := tb_i 775 (by decide +kernel) rfl
theorem k_776 : Cond.fieldLink "HalfToTheLeftModel" 103 "HalfToTheLeftModel" "statements" "I" ∈ gw_tbl := tb_i 776 (by decide +kernel) rfl
theorem k_777 : Cond.fieldLink "HalfToTheLeftModel" 44 "HalfToTheLeftModel" "kept" "[I" ∈ gw_tbl := tb_i 777 (by decide +kernel) rfl
theorem k_778 : Cond.fieldLink "HalfToTheLeftModel" 146 "HalfToTheLeftModel" "hasImage" "Z" ∈ gw_tbl := tb_i 778 (by decide +kernel) rfl
theorem k_779 : Cond.fieldLink "HalfToTheLeftModel" 127 "HalfToTheLeftModel" "isKeeping" "Z" ∈ gw_tbl := tb_i 779 (by decide +kernel) rfl
theorem k_780 : Cond.fieldLink "HalfToTheLeftModel" 131 "HalfToTheLeftModel" "cursor" "I" ∈ gw_tbl := tb_i 780 (by decide +kernel) rfl
theorem k_781 : Cond.fieldLink "HalfToTheLeftModel" 47 "HalfToTheLeftModel" "trail" "[I" ∈ gw_tbl := tb_i 781 (by decide +kernel) rfl
theorem k_782 : Cond.fieldLink "HalfToTheLeftModel" 50 "HalfToTheLeftModel" "crumb" "[J" ∈ gw_tbl := tb_i 782 (by decide +kernel) rfl
theorem k_783 : Cond.fieldLink "HalfToTheLeftModel" 54 "HalfToTheLeftModel" "nextCrumb" "[J" ∈ gw_tbl := tb_i 783 (by decide +kernel) rfl
theorem k_784 : Cond.fieldLink "HalfToTheLeftModel" 57 "HalfToTheLeftModel" "goal" "[I" ∈ gw_tbl := tb_i 784 (by decide +kernel) rfl
theorem k_785 : Cond.fieldLink "HalfToTheLeftModel" 60 "HalfToTheLeftModel" "start" "[I" ∈ gw_tbl := tb_i 785 (by decide +kernel) rfl
theorem k_786 : Cond.fieldLink "HalfToTheLeftModel" 217 "HalfToTheLeftModel" "beforeMany" "I" ∈ gw_tbl := tb_i 786 (by decide +kernel) rfl
theorem k_787 : Cond.fieldLink "HalfToTheLeftModel" 220 "HalfToTheLeftModel" "found" "I" ∈ gw_tbl := tb_i 787 (by decide +kernel) rfl
theorem k_788 : Cond.fieldLink "HalfToTheLeftModel" 63 "HalfToTheLeftModel" "sits" "[I" ∈ gw_tbl := tb_i 788 (by decide +kernel) rfl
theorem k_789 : Cond.fieldLink "HalfToTheLeftModel" 66 "HalfToTheLeftModel" "bestSits" "[I" ∈ gw_tbl := tb_i 789 (by decide +kernel) rfl
theorem k_790 : Cond.fieldLink "HalfToTheLeftModel" 69 "HalfToTheLeftModel" "without" "[I" ∈ gw_tbl := tb_i 790 (by decide +kernel) rfl
theorem k_791 : Cond.fieldLink "HalfToTheLeftModel" 246 "HalfToTheLeftModel" "lots" "I" ∈ gw_tbl := tb_i 791 (by decide +kernel) rfl
theorem k_792 : Cond.fieldLink "HalfToTheLeftModel" 72 "HalfToTheLeftModel" "row" "[I" ∈ gw_tbl := tb_i 792 (by decide +kernel) rfl
theorem k_793 : Cond.fieldLink "HalfToTheLeftModel" 255 "HalfToTheLeftModel" "rowMany" "I" ∈ gw_tbl := tb_i 793 (by decide +kernel) rfl
theorem k_871 : Cond.methodLink "HalfToTheLeftModel" 81 ⟨"HalfToTheLeftModel", "bound", "(III)I"⟩ ∈ gw_tbl := tb_i 871 (by decide +kernel) rfl
theorem k_872 : Cond.static ⟨"HalfToTheLeftModel", "bound", "(III)I"⟩ ∈ gw_tbl := tb_i 872 (by decide +kernel) rfl
theorem k_873 : Cond.code ⟨"HalfToTheLeftModel", "bound", "(III)I"⟩ prog_9_method_6_code 3 (some .int) ∈ gw_tbl := tb_i 873 (by decide +kernel) rfl
theorem k_874 : Cond.methodLink "HalfToTheLeftModel" 88 ⟨"HalfToTheLeftModel", "no", "(I)I"⟩ ∈ gw_tbl := tb_i 874 (by decide +kernel) rfl
theorem k_876 : Cond.instanceMethod ⟨"HalfToTheLeftModel", "no", "(I)I"⟩ ∈ gw_tbl := tb_i 876 (by decide +kernel) rfl
theorem k_877 : Cond.code ⟨"HalfToTheLeftModel", "no", "(I)I"⟩ prog_9_method_2_code 2 (some .int) ∈ gw_tbl := tb_i 877 (by decide +kernel) rfl
theorem k_882 : Cond.methodLink "HalfToTheLeftModel" 115 ⟨"HalfToTheLeftModel", "statement", "()Z"⟩ ∈ gw_tbl := tb_i 882 (by decide +kernel) rfl
theorem k_884 : Cond.instanceMethod ⟨"HalfToTheLeftModel", "statement", "()Z"⟩ ∈ gw_tbl := tb_i 884 (by decide +kernel) rfl
theorem k_885 : Cond.code ⟨"HalfToTheLeftModel", "statement", "()Z"⟩ prog_9_method_12_code 3 (some .boolean) ∈ gw_tbl := tb_i 885 (by decide +kernel) rfl
theorem k_886 : Cond.methodLink "HalfToTheLeftModel" 95 ⟨"HalfToTheLeftModel", "next", "()I"⟩ ∈ gw_tbl := tb_i 886 (by decide +kernel) rfl
theorem k_888 : Cond.instanceMethod ⟨"HalfToTheLeftModel", "next", "()I"⟩ ∈ gw_tbl := tb_i 888 (by decide +kernel) rfl
theorem k_889 : Cond.code ⟨"HalfToTheLeftModel", "next", "()I"⟩ prog_9_method_9_code 1 (some .int) ∈ gw_tbl := tb_i 889 (by decide +kernel) rfl
theorem k_890 : Cond.methodLink "HalfToTheLeftModel" 106 ⟨"HalfToTheLeftModel", "kindOf", "(I)I"⟩ ∈ gw_tbl := tb_i 890 (by decide +kernel) rfl
theorem k_891 : Cond.static ⟨"HalfToTheLeftModel", "kindOf", "(I)I"⟩ ∈ gw_tbl := tb_i 891 (by decide +kernel) rfl
theorem k_892 : Cond.code ⟨"HalfToTheLeftModel", "kindOf", "(I)I"⟩ prog_9_method_11_code 1 (some .int) ∈ gw_tbl := tb_i 892 (by decide +kernel) rfl
theorem k_893 : Cond.methodLink "HalfToTheLeftModel" 109 ⟨"HalfToTheLeftModel", "number", "(I)I"⟩ ∈ gw_tbl := tb_i 893 (by decide +kernel) rfl
theorem k_895 : Cond.instanceMethod ⟨"HalfToTheLeftModel", "number", "(I)I"⟩ ∈ gw_tbl := tb_i 895 (by decide +kernel) rfl
theorem k_896 : Cond.code ⟨"HalfToTheLeftModel", "number", "(I)I"⟩ prog_9_method_10_code 4 (some .int) ∈ gw_tbl := tb_i 896 (by decide +kernel) rfl
theorem k_897 : Cond.methodLink "HalfToTheLeftModel" 99 ⟨"HalfToTheLeftModel", "isIn", "(III)Z"⟩ ∈ gw_tbl := tb_i 897 (by decide +kernel) rfl
theorem k_898 : Cond.static ⟨"HalfToTheLeftModel", "isIn", "(III)Z"⟩ ∈ gw_tbl := tb_i 898 (by decide +kernel) rfl
theorem k_899 : Cond.code ⟨"HalfToTheLeftModel", "isIn", "(III)Z"⟩ prog_9_method_5_code 3 (some .boolean) ∈ gw_tbl := tb_i 899 (by decide +kernel) rfl
theorem k_900 : Cond.methodLink "HalfToTheLeftModel" 119 ⟨"HalfToTheLeftModel", "passesAll", "(IZ)V"⟩ ∈ gw_tbl := tb_i 900 (by decide +kernel) rfl
theorem k_902 : Cond.instanceMethod ⟨"HalfToTheLeftModel", "passesAll", "(IZ)V"⟩ ∈ gw_tbl := tb_i 902 (by decide +kernel) rfl
theorem k_903 : Cond.code ⟨"HalfToTheLeftModel", "passesAll", "(IZ)V"⟩ prog_9_method_16_code 4 none ∈ gw_tbl := tb_i 903 (by decide +kernel) rfl
theorem k_904 : Cond.methodLink "HalfToTheLeftModel" 134 ⟨"HalfToTheLeftModel", "passOne", "(I)I"⟩ ∈ gw_tbl := tb_i 904 (by decide +kernel) rfl
theorem k_906 : Cond.instanceMethod ⟨"HalfToTheLeftModel", "passOne", "(I)I"⟩ ∈ gw_tbl := tb_i 906 (by decide +kernel) rfl
theorem k_907 : Cond.code ⟨"HalfToTheLeftModel", "passOne", "(I)I"⟩ prog_9_method_15_code 3 (some .int) ∈ gw_tbl := tb_i 907 (by decide +kernel) rfl
theorem k_908 : Cond.methodLink "HalfToTheLeftModel" 123 ⟨"HalfToTheLeftModel", "comes", "(I)Z"⟩ ∈ gw_tbl := tb_i 908 (by decide +kernel) rfl
theorem k_910 : Cond.instanceMethod ⟨"HalfToTheLeftModel", "comes", "(I)Z"⟩ ∈ gw_tbl := tb_i 910 (by decide +kernel) rfl
theorem k_911 : Cond.code ⟨"HalfToTheLeftModel", "comes", "(I)Z"⟩ prog_9_method_13_code 2 (some .boolean) ∈ gw_tbl := tb_i 911 (by decide +kernel) rfl
theorem k_924 : Cond.methodLink "HalfToTheLeftModel" 168 ⟨"HalfToTheLeftModel", "isChild", "(I)Z"⟩ ∈ gw_tbl := tb_i 924 (by decide +kernel) rfl
theorem k_926 : Cond.instanceMethod ⟨"HalfToTheLeftModel", "isChild", "(I)Z"⟩ ∈ gw_tbl := tb_i 926 (by decide +kernel) rfl
theorem k_927 : Cond.code ⟨"HalfToTheLeftModel", "isChild", "(I)Z"⟩ prog_9_method_7_code 2 (some .boolean) ∈ gw_tbl := tb_i 927 (by decide +kernel) rfl
theorem k_928 : Cond.methodLink "HalfToTheLeftModel" 155 ⟨"HalfToTheLeftModel", "givesOf", "(I)I"⟩ ∈ gw_tbl := tb_i 928 (by decide +kernel) rfl
theorem k_930 : Cond.instanceMethod ⟨"HalfToTheLeftModel", "givesOf", "(I)I"⟩ ∈ gw_tbl := tb_i 930 (by decide +kernel) rfl
theorem k_931 : Cond.code ⟨"HalfToTheLeftModel", "givesOf", "(I)I"⟩ prog_9_method_21_code 5 (some .int) ∈ gw_tbl := tb_i 931 (by decide +kernel) rfl
theorem k_932 : Cond.methodLink "HalfToTheLeftModel" 149 ⟨"HalfToTheLeftModel", "leftOf", "(I)I"⟩ ∈ gw_tbl := tb_i 932 (by decide +kernel) rfl
theorem k_934 : Cond.instanceMethod ⟨"HalfToTheLeftModel", "leftOf", "(I)I"⟩ ∈ gw_tbl := tb_i 934 (by decide +kernel) rfl
theorem k_935 : Cond.code ⟨"HalfToTheLeftModel", "leftOf", "(I)I"⟩ prog_9_method_19_code 2 (some .int) ∈ gw_tbl := tb_i 935 (by decide +kernel) rfl
theorem k_952 : Cond.methodLink "HalfToTheLeftModel" 171 ⟨"HalfToTheLeftModel", "areTwo", "(II)Z"⟩ ∈ gw_tbl := tb_i 952 (by decide +kernel) rfl
theorem k_954 : Cond.instanceMethod ⟨"HalfToTheLeftModel", "areTwo", "(II)Z"⟩ ∈ gw_tbl := tb_i 954 (by decide +kernel) rfl
theorem k_955 : Cond.code ⟨"HalfToTheLeftModel", "areTwo", "(II)Z"⟩ prog_9_method_30_code 3 (some .boolean) ∈ gw_tbl := tb_i 955 (by decide +kernel) rfl
theorem k_956 : Cond.methodLink "HalfToTheLeftModel" 175 ⟨"HalfToTheLeftModel", "swapsSweets", "(II)V"⟩ ∈ gw_tbl := tb_i 956 (by decide +kernel) rfl
theorem k_958 : Cond.instanceMethod ⟨"HalfToTheLeftModel", "swapsSweets", "(II)V"⟩ ∈ gw_tbl := tb_i 958 (by decide +kernel) rfl
theorem k_959 : Cond.code ⟨"HalfToTheLeftModel", "swapsSweets", "(II)V"⟩ prog_9_method_31_code 4 none ∈ gw_tbl := tb_i 959 (by decide +kernel) rfl
theorem k_964 : Cond.methodLink "HalfToTheLeftModel" 179 ⟨"HalfToTheLeftModel", "goes", "(I)I"⟩ ∈ gw_tbl := tb_i 964 (by decide +kernel) rfl
theorem k_966 : Cond.instanceMethod ⟨"HalfToTheLeftModel", "goes", "(I)I"⟩ ∈ gw_tbl := tb_i 966 (by decide +kernel) rfl
theorem k_967 : Cond.code ⟨"HalfToTheLeftModel", "goes", "(I)I"⟩ prog_9_method_25_code 4 (some .int) ∈ gw_tbl := tb_i 967 (by decide +kernel) rfl
theorem k_968 : Cond.methodLink "HalfToTheLeftModel" 165 ⟨"HalfToTheLeftModel", "goesOnce", "()V"⟩ ∈ gw_tbl := tb_i 968 (by decide +kernel) rfl
theorem k_970 : Cond.instanceMethod ⟨"HalfToTheLeftModel", "goesOnce", "()V"⟩ ∈ gw_tbl := tb_i 970 (by decide +kernel) rfl
theorem k_971 : Cond.code ⟨"HalfToTheLeftModel", "goesOnce", "()V"⟩ prog_9_method_24_code 2 none ∈ gw_tbl := tb_i 971 (by decide +kernel) rfl
theorem k_972 : Cond.methodLink "HalfToTheLeftModel" 158 ⟨"HalfToTheLeftModel", "rightOf", "(I)I"⟩ ∈ gw_tbl := tb_i 972 (by decide +kernel) rfl
theorem k_974 : Cond.instanceMethod ⟨"HalfToTheLeftModel", "rightOf", "(I)I"⟩ ∈ gw_tbl := tb_i 974 (by decide +kernel) rfl
theorem k_975 : Cond.code ⟨"HalfToTheLeftModel", "rightOf", "(I)I"⟩ prog_9_method_20_code 2 (some .int) ∈ gw_tbl := tb_i 975 (by decide +kernel) rfl
theorem k_976 : Cond.methodLink "HalfToTheLeftModel" 152 ⟨"HalfToTheLeftModel", "held", "(I)I"⟩ ∈ gw_tbl := tb_i 976 (by decide +kernel) rfl
theorem k_977 : Cond.static ⟨"HalfToTheLeftModel", "held", "(I)I"⟩ ∈ gw_tbl := tb_i 977 (by decide +kernel) rfl
theorem k_978 : Cond.code ⟨"HalfToTheLeftModel", "held", "(I)I"⟩ prog_9_method_22_code 1 (some .int) ∈ gw_tbl := tb_i 978 (by decide +kernel) rfl
theorem k_979 : Cond.methodLink "HalfToTheLeftModel" 161 ⟨"HalfToTheLeftModel", "mends", "(I)V"⟩ ∈ gw_tbl := tb_i 979 (by decide +kernel) rfl
theorem k_981 : Cond.instanceMethod ⟨"HalfToTheLeftModel", "mends", "(I)V"⟩ ∈ gw_tbl := tb_i 981 (by decide +kernel) rfl
theorem k_982 : Cond.code ⟨"HalfToTheLeftModel", "mends", "(I)V"⟩ prog_9_method_23_code 2 none ∈ gw_tbl := tb_i 982 (by decide +kernel) rfl
theorem k_995 : Cond.methodLink "HalfToTheLeftModel" 182 ⟨"HalfToTheLeftModel", "writesTrail", "(I)V"⟩ ∈ gw_tbl := tb_i 995 (by decide +kernel) rfl
theorem k_997 : Cond.instanceMethod ⟨"HalfToTheLeftModel", "writesTrail", "(I)V"⟩ ∈ gw_tbl := tb_i 997 (by decide +kernel) rfl
theorem k_998 : Cond.code ⟨"HalfToTheLeftModel", "writesTrail", "(I)V"⟩ prog_9_method_36_code 4 none ∈ gw_tbl := tb_i 998 (by decide +kernel) rfl
theorem k_999 : Cond.methodLink "HalfToTheLeftModel" 185 ⟨"HalfToTheLeftModel", "areSame", "(III)Z"⟩ ∈ gw_tbl := tb_i 999 (by decide +kernel) rfl
theorem k_1001 : Cond.instanceMethod ⟨"HalfToTheLeftModel", "areSame", "(III)Z"⟩ ∈ gw_tbl := tb_i 1001 (by decide +kernel) rfl
theorem k_1002 : Cond.code ⟨"HalfToTheLeftModel", "areSame", "(III)Z"⟩ prog_9_method_37_code 5 (some .boolean) ∈ gw_tbl := tb_i 1002 (by decide +kernel) rfl
theorem k_1007 : Cond.methodLink "HalfToTheLeftModel" 191 ⟨"HalfToTheLeftModel", "firstAlike", "(I)I"⟩ ∈ gw_tbl := tb_i 1007 (by decide +kernel) rfl
theorem k_1009 : Cond.instanceMethod ⟨"HalfToTheLeftModel", "firstAlike", "(I)I"⟩ ∈ gw_tbl := tb_i 1009 (by decide +kernel) rfl
theorem k_1010 : Cond.code ⟨"HalfToTheLeftModel", "firstAlike", "(I)I"⟩ prog_9_method_40_code 3 (some .int) ∈ gw_tbl := tb_i 1010 (by decide +kernel) rfl
theorem k_1011 : Cond.methodLink "HalfToTheLeftModel" 188 ⟨"HalfToTheLeftModel", "areAlike", "(I)Z"⟩ ∈ gw_tbl := tb_i 1011 (by decide +kernel) rfl
theorem k_1013 : Cond.instanceMethod ⟨"HalfToTheLeftModel", "areAlike", "(I)Z"⟩ ∈ gw_tbl := tb_i 1013 (by decide +kernel) rfl
theorem k_1014 : Cond.code ⟨"HalfToTheLeftModel", "areAlike", "(I)Z"⟩ prog_9_method_38_code 3 (some .boolean) ∈ gw_tbl := tb_i 1014 (by decide +kernel) rfl
theorem k_1027 : Cond.methodLink "HalfToTheLeftModel" 196 ⟨"HalfToTheLeftModel", "lowest", "(I)J"⟩ ∈ gw_tbl := tb_i 1027 (by decide +kernel) rfl
theorem k_1029 : Cond.instanceMethod ⟨"HalfToTheLeftModel", "lowest", "(I)J"⟩ ∈ gw_tbl := tb_i 1029 (by decide +kernel) rfl
theorem k_1030 : Cond.code ⟨"HalfToTheLeftModel", "lowest", "(I)J"⟩ prog_9_method_4_code 2 (some .long) ∈ gw_tbl := tb_i 1030 (by decide +kernel) rfl
theorem k_1031 : Cond.constantLong "HalfToTheLeftModel" 76 4000000000000000000 ∈ gw_tbl := tb_i 1031 (by decide +kernel) rfl
theorem k_1032 : Cond.methodLink "HalfToTheLeftModel" 200 ⟨"HalfToTheLeftModel", "begins", "()V"⟩ ∈ gw_tbl := tb_i 1032 (by decide +kernel) rfl
theorem k_1034 : Cond.instanceMethod ⟨"HalfToTheLeftModel", "begins", "()V"⟩ ∈ gw_tbl := tb_i 1034 (by decide +kernel) rfl
theorem k_1035 : Cond.code ⟨"HalfToTheLeftModel", "begins", "()V"⟩ prog_9_method_44_code 2 none ∈ gw_tbl := tb_i 1035 (by decide +kernel) rfl
theorem k_1036 : Cond.methodLink "HalfToTheLeftModel" 203 ⟨"HalfToTheLeftModel", "halves", "()V"⟩ ∈ gw_tbl := tb_i 1036 (by decide +kernel) rfl
theorem k_1038 : Cond.instanceMethod ⟨"HalfToTheLeftModel", "halves", "()V"⟩ ∈ gw_tbl := tb_i 1038 (by decide +kernel) rfl
theorem k_1039 : Cond.code ⟨"HalfToTheLeftModel", "halves", "()V"⟩ prog_9_method_45_code 2 none ∈ gw_tbl := tb_i 1039 (by decide +kernel) rfl
theorem k_1040 : Cond.constantLong "HalfToTheLeftModel" 194 2 ∈ gw_tbl := tb_i 1040 (by decide +kernel) rfl
theorem k_1041 : Cond.methodLink "HalfToTheLeftModel" 206 ⟨"HalfToTheLeftModel", "divisor", "(JJ)J"⟩ ∈ gw_tbl := tb_i 1041 (by decide +kernel) rfl
theorem k_1042 : Cond.static ⟨"HalfToTheLeftModel", "divisor", "(JJ)J"⟩ ∈ gw_tbl := tb_i 1042 (by decide +kernel) rfl
theorem k_1043 : Cond.code ⟨"HalfToTheLeftModel", "divisor", "(JJ)J"⟩ prog_9_method_46_code 10 (some .long) ∈ gw_tbl := tb_i 1043 (by decide +kernel) rfl
theorem k_1048 : Cond.methodLink "HalfToTheLeftModel" 210 ⟨"HalfToTheLeftModel", "sum", "()I"⟩ ∈ gw_tbl := tb_i 1048 (by decide +kernel) rfl
theorem k_1050 : Cond.instanceMethod ⟨"HalfToTheLeftModel", "sum", "()I"⟩ ∈ gw_tbl := tb_i 1050 (by decide +kernel) rfl
theorem k_1051 : Cond.code ⟨"HalfToTheLeftModel", "sum", "()I"⟩ prog_9_method_48_code 3 (some .int) ∈ gw_tbl := tb_i 1051 (by decide +kernel) rfl
theorem k_1056 : Cond.methodLink "HalfToTheLeftModel" 213 ⟨"HalfToTheLeftModel", "areNear", "(JI)Z"⟩ ∈ gw_tbl := tb_i 1056 (by decide +kernel) rfl
theorem k_1058 : Cond.instanceMethod ⟨"HalfToTheLeftModel", "areNear", "(JI)Z"⟩ ∈ gw_tbl := tb_i 1058 (by decide +kernel) rfl
theorem k_1059 : Cond.code ⟨"HalfToTheLeftModel", "areNear", "(JI)Z"⟩ prog_9_method_50_code 7 (some .boolean) ∈ gw_tbl := tb_i 1059 (by decide +kernel) rfl
theorem k_1064 : Cond.methodLink "HalfToTheLeftModel" 223 ⟨"HalfToTheLeftModel", "notBefore", "(I)I"⟩ ∈ gw_tbl := tb_i 1064 (by decide +kernel) rfl
theorem k_1066 : Cond.instanceMethod ⟨"HalfToTheLeftModel", "notBefore", "(I)I"⟩ ∈ gw_tbl := tb_i 1066 (by decide +kernel) rfl
theorem k_1067 : Cond.code ⟨"HalfToTheLeftModel", "notBefore", "(I)I"⟩ prog_9_method_52_code 2 (some .int) ∈ gw_tbl := tb_i 1067 (by decide +kernel) rfl
theorem k_1068 : Cond.methodLink "HalfToTheLeftModel" 226 ⟨"HalfToTheLeftModel", "findBefore", "(III)V"⟩ ∈ gw_tbl := tb_i 1068 (by decide +kernel) rfl
theorem k_1070 : Cond.instanceMethod ⟨"HalfToTheLeftModel", "findBefore", "(III)V"⟩ ∈ gw_tbl := tb_i 1070 (by decide +kernel) rfl
theorem k_1071 : Cond.code ⟨"HalfToTheLeftModel", "findBefore", "(III)V"⟩ prog_9_method_53_code 10 none ∈ gw_tbl := tb_i 1071 (by decide +kernel) rfl
theorem k_1080 : Cond.methodLink "HalfToTheLeftModel" 237 ⟨"HalfToTheLeftModel", "findSeats", "(II)I"⟩ ∈ gw_tbl := tb_i 1080 (by decide +kernel) rfl
theorem k_1082 : Cond.instanceMethod ⟨"HalfToTheLeftModel", "findSeats", "(II)I"⟩ ∈ gw_tbl := tb_i 1082 (by decide +kernel) rfl
theorem k_1083 : Cond.code ⟨"HalfToTheLeftModel", "findSeats", "(II)I"⟩ prog_9_method_58_code 8 (some .int) ∈ gw_tbl := tb_i 1083 (by decide +kernel) rfl
theorem k_1084 : Cond.methodLink "HalfToTheLeftModel" 230 ⟨"HalfToTheLeftModel", "seated", "(II)I"⟩ ∈ gw_tbl := tb_i 1084 (by decide +kernel) rfl
theorem k_1086 : Cond.instanceMethod ⟨"HalfToTheLeftModel", "seated", "(II)I"⟩ ∈ gw_tbl := tb_i 1086 (by decide +kernel) rfl
theorem k_1087 : Cond.code ⟨"HalfToTheLeftModel", "seated", "(II)I"⟩ prog_9_method_57_code 4 (some .int) ∈ gw_tbl := tb_i 1087 (by decide +kernel) rfl
theorem k_1088 : Cond.methodLink "HalfToTheLeftModel" 234 ⟨"HalfToTheLeftModel", "nextSeats", "()Z"⟩ ∈ gw_tbl := tb_i 1088 (by decide +kernel) rfl
theorem k_1090 : Cond.instanceMethod ⟨"HalfToTheLeftModel", "nextSeats", "()Z"⟩ ∈ gw_tbl := tb_i 1090 (by decide +kernel) rfl
theorem k_1091 : Cond.code ⟨"HalfToTheLeftModel", "nextSeats", "()Z"⟩ prog_9_method_56_code 6 (some .boolean) ∈ gw_tbl := tb_i 1091 (by decide +kernel) rfl
theorem k_1100 : Cond.methodLink "HalfToTheLeftModel" 240 ⟨"HalfToTheLeftModel", "lower", "(I)I"⟩ ∈ gw_tbl := tb_i 1100 (by decide +kernel) rfl
theorem k_1102 : Cond.instanceMethod ⟨"HalfToTheLeftModel", "lower", "(I)I"⟩ ∈ gw_tbl := tb_i 1102 (by decide +kernel) rfl
theorem k_1103 : Cond.code ⟨"HalfToTheLeftModel", "lower", "(I)I"⟩ prog_9_method_3_code 2 (some .int) ∈ gw_tbl := tb_i 1103 (by decide +kernel) rfl
theorem k_1104 : Cond.constant "HalfToTheLeftModel" 75 1000000000 ∈ gw_tbl := tb_i 1104 (by decide +kernel) rfl
theorem k_1105 : Cond.methodLink "HalfToTheLeftModel" 243 ⟨"HalfToTheLeftModel", "othersBehind", "(II)I"⟩ ∈ gw_tbl := tb_i 1105 (by decide +kernel) rfl
theorem k_1107 : Cond.instanceMethod ⟨"HalfToTheLeftModel", "othersBehind", "(II)I"⟩ ∈ gw_tbl := tb_i 1107 (by decide +kernel) rfl
theorem k_1108 : Cond.code ⟨"HalfToTheLeftModel", "othersBehind", "(II)I"⟩ prog_9_method_61_code 4 (some .int) ∈ gw_tbl := tb_i 1108 (by decide +kernel) rfl
theorem k_1129 : Cond.methodLink "HalfToTheLeftModel" 252 ⟨"HalfToTheLeftModel", "draw", "(I)I"⟩ ∈ gw_tbl := tb_i 1129 (by decide +kernel) rfl
theorem k_1131 : Cond.instanceMethod ⟨"HalfToTheLeftModel", "draw", "(I)I"⟩ ∈ gw_tbl := tb_i 1131 (by decide +kernel) rfl
theorem k_1132 : Cond.code ⟨"HalfToTheLeftModel", "draw", "(I)I"⟩ prog_9_method_67_code 2 (some .int) ∈ gw_tbl := tb_i 1132 (by decide +kernel) rfl
theorem k_1133 : Cond.constant "HalfToTheLeftModel" 249 1103515245 ∈ gw_tbl := tb_i 1133 (by decide +kernel) rfl
theorem k_1134 : Cond.constant "HalfToTheLeftModel" 250 2147483647 ∈ gw_tbl := tb_i 1134 (by decide +kernel) rfl
theorem k_1135 : Cond.constant "HalfToTheLeftModel" 251 65536 ∈ gw_tbl := tb_i 1135 (by decide +kernel) rfl
theorem k_1148 : Cond.fieldLink "java/lang/String" 15 "java/lang/String" "coder" "B" ∈ gw_tbl := tb_i 1148 (by decide +kernel) rfl
theorem k_1149 : Cond.fieldLink "java/lang/String" 9 "java/lang/String" "value" "[B" ∈ gw_tbl := tb_i 1149 (by decide +kernel) rfl
theorem ks_0 : Cond.selects "HalfToTheLeft" ⟨"HalfToTheLeft", "refuse", "(I)I"⟩ ⟨"HalfToTheLeft", "refuse", "(I)I"⟩ ∈ gw_tbl := tb_s 0 (by decide +kernel) rfl
theorem ks_1 : Cond.selects "HalfToTheLeft$Letters" ⟨"HalfToTheLeft$Letters", "placeOfBadForm", "()I"⟩ ⟨"HalfToTheLeft$Letters", "placeOfBadForm", "()I"⟩ ∈ gw_tbl := tb_s 1 (by decide +kernel) rfl
theorem ks_2 : Cond.selects "HalfToTheLeft$Letters" ⟨"HalfToTheLeft$Letters", "carryOutOne", "(II)Z"⟩ ⟨"HalfToTheLeft$Letters", "carryOutOne", "(II)Z"⟩ ∈ gw_tbl := tb_s 2 (by decide +kernel) rfl
theorem ks_3 : Cond.selects "HalfToTheLeft$Letters" ⟨"HalfToTheLeft$Letters", "letterAt", "(I)C"⟩ ⟨"HalfToTheLeft$Letters", "letterAt", "(I)C"⟩ ∈ gw_tbl := tb_s 3 (by decide +kernel) rfl
theorem ks_4 : Cond.selects "HalfToTheLeft$Letters" ⟨"HalfToTheLeft$Letters", "number", "(II)I"⟩ ⟨"HalfToTheLeft$Letters", "number", "(II)I"⟩ ∈ gw_tbl := tb_s 4 (by decide +kernel) rfl
theorem ks_5 : Cond.selects "HalfToTheLeft$Letters" ⟨"HalfToTheLeft$Letters", "bring", "(II)Z"⟩ ⟨"HalfToTheLeft$Letters", "bring", "(II)Z"⟩ ∈ gw_tbl := tb_s 5 (by decide +kernel) rfl
theorem ks_6 : Cond.selects "HalfToTheLeft" ⟨"HalfToTheLeft", "areTwo", "(II)Z"⟩ ⟨"HalfToTheLeft", "areTwo", "(II)Z"⟩ ∈ gw_tbl := tb_s 6 (by decide +kernel) rfl
theorem ks_7 : Cond.selects "HalfToTheLeft$Ring" ⟨"HalfToTheLeft$Ring", "handOn", "()V"⟩ ⟨"HalfToTheLeft$Ring", "handOn", "()V"⟩ ∈ gw_tbl := tb_s 7 (by decide +kernel) rfl
theorem ks_8 : Cond.selects "HalfToTheLeft$Ring" ⟨"HalfToTheLeft$Ring", "mend", "(I)V"⟩ ⟨"HalfToTheLeft$Ring", "mend", "(I)V"⟩ ∈ gw_tbl := tb_s 8 (by decide +kernel) rfl
theorem ks_9 : Cond.selects "HalfToTheLeft$Crumbs" ⟨"HalfToTheLeft$Crumbs", "begin", "(LHalfToTheLeft$Ring;)V"⟩ ⟨"HalfToTheLeft$Crumbs", "begin", "(LHalfToTheLeft$Ring;)V"⟩ ∈ gw_tbl := tb_s 9 (by decide +kernel) rfl
theorem ks_10 : Cond.selects "HalfToTheLeft$Crumbs" ⟨"HalfToTheLeft$Crumbs", "advance", "(LHalfToTheLeft$Ring;)V"⟩ ⟨"HalfToTheLeft$Crumbs", "advance", "(LHalfToTheLeft$Ring;)V"⟩ ∈ gw_tbl := tb_s 10 (by decide +kernel) rfl
theorem ks_11 : Cond.selects "HalfToTheLeft$Crumbs" ⟨"HalfToTheLeft$Crumbs", "halvings", "(I)I"⟩ ⟨"HalfToTheLeft$Crumbs", "halvings", "(I)I"⟩ ∈ gw_tbl := tb_s 11 (by decide +kernel) rfl
theorem ks_12 : Cond.selects "HalfToTheLeft" ⟨"HalfToTheLeft", "outsideOrNobody", "(III)I"⟩ ⟨"HalfToTheLeft", "outsideOrNobody", "(III)I"⟩ ∈ gw_tbl := tb_s 12 (by decide +kernel) rfl
theorem ks_13 : Cond.selects "HalfToTheLeft$Crumbs" ⟨"HalfToTheLeft$Crumbs", "allAreNear", "(LHalfToTheLeft$Ring;I)Z"⟩ ⟨"HalfToTheLeft$Crumbs", "allAreNear", "(LHalfToTheLeft$Ring;I)Z"⟩ ∈ gw_tbl := tb_s 13 (by decide +kernel) rfl
theorem ks_14 : Cond.selects "HalfToTheLeft" ⟨"HalfToTheLeft", "outsideOrMany", "(III)I"⟩ ⟨"HalfToTheLeft", "outsideOrMany", "(III)I"⟩ ∈ gw_tbl := tb_s 14 (by decide +kernel) rfl
theorem ks_15 : Cond.selects "HalfToTheLeft$Past" ⟨"HalfToTheLeft$Past", "placeOfWrong", "(LHalfToTheLeft$Ring;)I"⟩ ⟨"HalfToTheLeft$Past", "placeOfWrong", "(LHalfToTheLeft$Ring;)I"⟩ ∈ gw_tbl := tb_s 15 (by decide +kernel) rfl
theorem ks_16 : Cond.selects "HalfToTheLeft$Past" ⟨"HalfToTheLeft$Past", "lastOfThoseWhoMakeHeapOf", "(I)I"⟩ ⟨"HalfToTheLeft$Past", "lastOfThoseWhoMakeHeapOf", "(I)I"⟩ ∈ gw_tbl := tb_s 16 (by decide +kernel) rfl
theorem ks_17 : Cond.selects "HalfToTheLeft$Past" ⟨"HalfToTheLeft$Past", "leadsTo", "(LHalfToTheLeft$Ring;)Z"⟩ ⟨"HalfToTheLeft$Past", "leadsTo", "(LHalfToTheLeft$Ring;)Z"⟩ ∈ gw_tbl := tb_s 17 (by decide +kernel) rfl
theorem ks_18 : Cond.selects "HalfToTheLeft$Past" ⟨"HalfToTheLeft$Past", "advance", "(II)Z"⟩ ⟨"HalfToTheLeft$Past", "advance", "(II)Z"⟩ ∈ gw_tbl := tb_s 18 (by decide +kernel) rfl
theorem ks_19 : Cond.selects "HalfToTheLeft" ⟨"HalfToTheLeft", "refusalOfSeats", "(III)I"⟩ ⟨"HalfToTheLeft", "refusalOfSeats", "(III)I"⟩ ∈ gw_tbl := tb_s 19 (by decide +kernel) rfl
theorem ks_20 : Cond.selects "HalfToTheLeft$Seating" ⟨"HalfToTheLeft$Seating", "numberOfOrder", "(LHalfToTheLeft$Ring;II)I"⟩ ⟨"HalfToTheLeft$Seating", "numberOfOrder", "(LHalfToTheLeft$Ring;II)I"⟩ ∈ gw_tbl := tb_s 20 (by decide +kernel) rfl
theorem ks_21 : Cond.selects "HalfToTheLeft$Seating" ⟨"HalfToTheLeft$Seating", "goToNextOrder", "(I)Z"⟩ ⟨"HalfToTheLeft$Seating", "goToNextOrder", "(I)Z"⟩ ∈ gw_tbl := tb_s 21 (by decide +kernel) rfl
theorem ks_22 : Cond.selects "HalfToTheLeft$Seating" ⟨"HalfToTheLeft$Seating", "changePlaces", "(II)V"⟩ ⟨"HalfToTheLeft$Seating", "changePlaces", "(II)V"⟩ ∈ gw_tbl := tb_s 22 (by decide +kernel) rfl
theorem ks_23 : Cond.selects "HalfToTheLeft$Mind" ⟨"HalfToTheLeft$Mind", "draw", "(I)I"⟩ ⟨"HalfToTheLeft$Mind", "draw", "(I)I"⟩ ∈ gw_tbl := tb_s 23 (by decide +kernel) rfl
theorem ks_24 : Cond.selects "HalfToTheLeftModel" ⟨"HalfToTheLeftModel", "no", "(I)I"⟩ ⟨"HalfToTheLeftModel", "no", "(I)I"⟩ ∈ gw_tbl := tb_s 24 (by decide +kernel) rfl
theorem ks_25 : Cond.selects "HalfToTheLeftModel" ⟨"HalfToTheLeftModel", "statement", "()Z"⟩ ⟨"HalfToTheLeftModel", "statement", "()Z"⟩ ∈ gw_tbl := tb_s 25 (by decide +kernel) rfl
theorem ks_26 : Cond.selects "HalfToTheLeftModel" ⟨"HalfToTheLeftModel", "next", "()I"⟩ ⟨"HalfToTheLeftModel", "next", "()I"⟩ ∈ gw_tbl := tb_s 26 (by decide +kernel) rfl
theorem ks_27 : Cond.selects "HalfToTheLeftModel" ⟨"HalfToTheLeftModel", "number", "(I)I"⟩ ⟨"HalfToTheLeftModel", "number", "(I)I"⟩ ∈ gw_tbl := tb_s 27 (by decide +kernel) rfl
theorem ks_28 : Cond.selects "HalfToTheLeftModel" ⟨"HalfToTheLeftModel", "passesAll", "(IZ)V"⟩ ⟨"HalfToTheLeftModel", "passesAll", "(IZ)V"⟩ ∈ gw_tbl := tb_s 28 (by decide +kernel) rfl
theorem ks_29 : Cond.selects "HalfToTheLeftModel" ⟨"HalfToTheLeftModel", "passOne", "(I)I"⟩ ⟨"HalfToTheLeftModel", "passOne", "(I)I"⟩ ∈ gw_tbl := tb_s 29 (by decide +kernel) rfl
theorem ks_30 : Cond.selects "HalfToTheLeftModel" ⟨"HalfToTheLeftModel", "comes", "(I)Z"⟩ ⟨"HalfToTheLeftModel", "comes", "(I)Z"⟩ ∈ gw_tbl := tb_s 30 (by decide +kernel) rfl
theorem ks_31 : Cond.selects "HalfToTheLeftModel" ⟨"HalfToTheLeftModel", "isChild", "(I)Z"⟩ ⟨"HalfToTheLeftModel", "isChild", "(I)Z"⟩ ∈ gw_tbl := tb_s 31 (by decide +kernel) rfl
theorem ks_32 : Cond.selects "HalfToTheLeftModel" ⟨"HalfToTheLeftModel", "givesOf", "(I)I"⟩ ⟨"HalfToTheLeftModel", "givesOf", "(I)I"⟩ ∈ gw_tbl := tb_s 32 (by decide +kernel) rfl
theorem ks_33 : Cond.selects "HalfToTheLeftModel" ⟨"HalfToTheLeftModel", "leftOf", "(I)I"⟩ ⟨"HalfToTheLeftModel", "leftOf", "(I)I"⟩ ∈ gw_tbl := tb_s 33 (by decide +kernel) rfl
theorem ks_34 : Cond.selects "HalfToTheLeftModel" ⟨"HalfToTheLeftModel", "areTwo", "(II)Z"⟩ ⟨"HalfToTheLeftModel", "areTwo", "(II)Z"⟩ ∈ gw_tbl := tb_s 34 (by decide +kernel) rfl
theorem ks_35 : Cond.selects "HalfToTheLeftModel" ⟨"HalfToTheLeftModel", "swapsSweets", "(II)V"⟩ ⟨"HalfToTheLeftModel", "swapsSweets", "(II)V"⟩ ∈ gw_tbl := tb_s 35 (by decide +kernel) rfl
theorem ks_36 : Cond.selects "HalfToTheLeftModel" ⟨"HalfToTheLeftModel", "goes", "(I)I"⟩ ⟨"HalfToTheLeftModel", "goes", "(I)I"⟩ ∈ gw_tbl := tb_s 36 (by decide +kernel) rfl
theorem ks_37 : Cond.selects "HalfToTheLeftModel" ⟨"HalfToTheLeftModel", "goesOnce", "()V"⟩ ⟨"HalfToTheLeftModel", "goesOnce", "()V"⟩ ∈ gw_tbl := tb_s 37 (by decide +kernel) rfl
theorem ks_38 : Cond.selects "HalfToTheLeftModel" ⟨"HalfToTheLeftModel", "rightOf", "(I)I"⟩ ⟨"HalfToTheLeftModel", "rightOf", "(I)I"⟩ ∈ gw_tbl := tb_s 38 (by decide +kernel) rfl
theorem ks_39 : Cond.selects "HalfToTheLeftModel" ⟨"HalfToTheLeftModel", "mends", "(I)V"⟩ ⟨"HalfToTheLeftModel", "mends", "(I)V"⟩ ∈ gw_tbl := tb_s 39 (by decide +kernel) rfl
theorem ks_40 : Cond.selects "HalfToTheLeftModel" ⟨"HalfToTheLeftModel", "writesTrail", "(I)V"⟩ ⟨"HalfToTheLeftModel", "writesTrail", "(I)V"⟩ ∈ gw_tbl := tb_s 40 (by decide +kernel) rfl
theorem ks_41 : Cond.selects "HalfToTheLeftModel" ⟨"HalfToTheLeftModel", "areSame", "(III)Z"⟩ ⟨"HalfToTheLeftModel", "areSame", "(III)Z"⟩ ∈ gw_tbl := tb_s 41 (by decide +kernel) rfl
theorem ks_42 : Cond.selects "HalfToTheLeftModel" ⟨"HalfToTheLeftModel", "firstAlike", "(I)I"⟩ ⟨"HalfToTheLeftModel", "firstAlike", "(I)I"⟩ ∈ gw_tbl := tb_s 42 (by decide +kernel) rfl
theorem ks_43 : Cond.selects "HalfToTheLeftModel" ⟨"HalfToTheLeftModel", "areAlike", "(I)Z"⟩ ⟨"HalfToTheLeftModel", "areAlike", "(I)Z"⟩ ∈ gw_tbl := tb_s 43 (by decide +kernel) rfl
theorem ks_44 : Cond.selects "HalfToTheLeftModel" ⟨"HalfToTheLeftModel", "lowest", "(I)J"⟩ ⟨"HalfToTheLeftModel", "lowest", "(I)J"⟩ ∈ gw_tbl := tb_s 44 (by decide +kernel) rfl
theorem ks_45 : Cond.selects "HalfToTheLeftModel" ⟨"HalfToTheLeftModel", "begins", "()V"⟩ ⟨"HalfToTheLeftModel", "begins", "()V"⟩ ∈ gw_tbl := tb_s 45 (by decide +kernel) rfl
theorem ks_46 : Cond.selects "HalfToTheLeftModel" ⟨"HalfToTheLeftModel", "halves", "()V"⟩ ⟨"HalfToTheLeftModel", "halves", "()V"⟩ ∈ gw_tbl := tb_s 46 (by decide +kernel) rfl
theorem ks_47 : Cond.selects "HalfToTheLeftModel" ⟨"HalfToTheLeftModel", "sum", "()I"⟩ ⟨"HalfToTheLeftModel", "sum", "()I"⟩ ∈ gw_tbl := tb_s 47 (by decide +kernel) rfl
theorem ks_48 : Cond.selects "HalfToTheLeftModel" ⟨"HalfToTheLeftModel", "areNear", "(JI)Z"⟩ ⟨"HalfToTheLeftModel", "areNear", "(JI)Z"⟩ ∈ gw_tbl := tb_s 48 (by decide +kernel) rfl
theorem ks_49 : Cond.selects "HalfToTheLeftModel" ⟨"HalfToTheLeftModel", "notBefore", "(I)I"⟩ ⟨"HalfToTheLeftModel", "notBefore", "(I)I"⟩ ∈ gw_tbl := tb_s 49 (by decide +kernel) rfl
theorem ks_50 : Cond.selects "HalfToTheLeftModel" ⟨"HalfToTheLeftModel", "findBefore", "(III)V"⟩ ⟨"HalfToTheLeftModel", "findBefore", "(III)V"⟩ ∈ gw_tbl := tb_s 50 (by decide +kernel) rfl
theorem ks_51 : Cond.selects "HalfToTheLeftModel" ⟨"HalfToTheLeftModel", "findSeats", "(II)I"⟩ ⟨"HalfToTheLeftModel", "findSeats", "(II)I"⟩ ∈ gw_tbl := tb_s 51 (by decide +kernel) rfl
theorem ks_52 : Cond.selects "HalfToTheLeftModel" ⟨"HalfToTheLeftModel", "seated", "(II)I"⟩ ⟨"HalfToTheLeftModel", "seated", "(II)I"⟩ ∈ gw_tbl := tb_s 52 (by decide +kernel) rfl
theorem ks_53 : Cond.selects "HalfToTheLeftModel" ⟨"HalfToTheLeftModel", "nextSeats", "()Z"⟩ ⟨"HalfToTheLeftModel", "nextSeats", "()Z"⟩ ∈ gw_tbl := tb_s 53 (by decide +kernel) rfl
theorem ks_54 : Cond.selects "HalfToTheLeftModel" ⟨"HalfToTheLeftModel", "lower", "(I)I"⟩ ⟨"HalfToTheLeftModel", "lower", "(I)I"⟩ ∈ gw_tbl := tb_s 54 (by decide +kernel) rfl
theorem ks_55 : Cond.selects "HalfToTheLeftModel" ⟨"HalfToTheLeftModel", "othersBehind", "(II)I"⟩ ⟨"HalfToTheLeftModel", "othersBehind", "(II)I"⟩ ∈ gw_tbl := tb_s 55 (by decide +kernel) rfl
theorem ks_56 : Cond.selects "HalfToTheLeftModel" ⟨"HalfToTheLeftModel", "draw", "(I)I"⟩ ⟨"HalfToTheLeftModel", "draw", "(I)I"⟩ ∈ gw_tbl := tb_s 56 (by decide +kernel) rfl
abbrev b_X_refuse : ByteArray := prog_1_method_34_code
abbrev y_X_refuse : MethodName := ⟨"HalfToTheLeft", "refuse", "(I)I"⟩
theorem hd_X_refuse : y_X_refuse.cls ≠ "java/lang/invoke/MethodHandle" ∧ y_X_refuse.cls ≠ "java/lang/invoke/VarHandle" ∧ (parseMethodDescriptor y_X_refuse.desc).map (fun d => d.parameters.length) = some 1 := ⟨by decide +kernel, by decide +kernel, by decide +kernel⟩
abbrev b_Letters_add : ByteArray := prog_3_method_2_code
abbrev y_Letters_add : MethodName := ⟨"HalfToTheLeft$Letters", "add", "(C)I"⟩
theorem hd_Letters_add : y_Letters_add.cls ≠ "java/lang/invoke/MethodHandle" ∧ y_Letters_add.cls ≠ "java/lang/invoke/VarHandle" ∧ (parseMethodDescriptor y_Letters_add.desc).map (fun d => d.parameters.length) = some 1 := ⟨by decide +kernel, by decide +kernel, by decide +kernel⟩
abbrev b_X_feed : ByteArray := prog_1_method_2_code
abbrev y_X_feed : MethodName := ⟨"HalfToTheLeft", "feed", "(I)I"⟩
theorem hd_X_feed : y_X_feed.cls ≠ "java/lang/invoke/MethodHandle" ∧ y_X_feed.cls ≠ "java/lang/invoke/VarHandle" ∧ (parseMethodDescriptor y_X_feed.desc).map (fun d => d.parameters.length) = some 1 := ⟨by decide +kernel, by decide +kernel, by decide +kernel⟩
abbrev b_Letters_behindStart : ByteArray := prog_3_method_6_code
abbrev y_Letters_behindStart : MethodName := ⟨"HalfToTheLeft$Letters", "behindStart", "(C)I"⟩
theorem hd_Letters_behindStart : y_Letters_behindStart.cls ≠ "java/lang/invoke/MethodHandle" ∧ y_Letters_behindStart.cls ≠ "java/lang/invoke/VarHandle" ∧ (parseMethodDescriptor y_Letters_behindStart.desc).map (fun d => d.parameters.length) = some 1 := ⟨by decide +kernel, by decide +kernel, by decide +kernel⟩
abbrev b_Letters_isDigit : ByteArray := prog_3_method_8_code
abbrev y_Letters_isDigit : MethodName := ⟨"HalfToTheLeft$Letters", "isDigit", "(C)Z"⟩
theorem hd_Letters_isDigit : y_Letters_isDigit.cls ≠ "java/lang/invoke/MethodHandle" ∧ y_Letters_isDigit.cls ≠ "java/lang/invoke/VarHandle" ∧ (parseMethodDescriptor y_Letters_isDigit.desc).map (fun d => d.parameters.length) = some 1 := ⟨by decide +kernel, by decide +kernel, by decide +kernel⟩
abbrev b_Letters_behindEnd : ByteArray := prog_3_method_7_code
abbrev y_Letters_behindEnd : MethodName := ⟨"HalfToTheLeft$Letters", "behindEnd", "(C)I"⟩
theorem hd_Letters_behindEnd : y_Letters_behindEnd.cls ≠ "java/lang/invoke/MethodHandle" ∧ y_Letters_behindEnd.cls ≠ "java/lang/invoke/VarHandle" ∧ (parseMethodDescriptor y_Letters_behindEnd.desc).map (fun d => d.parameters.length) = some 1 := ⟨by decide +kernel, by decide +kernel, by decide +kernel⟩
abbrev b_Str_isLatin1 : ByteArray := prog_12_method_154_code
abbrev y_Str_isLatin1 : MethodName := ⟨"java/lang/String", "isLatin1", "()Z"⟩
theorem hd_Str_isLatin1 : y_Str_isLatin1.cls ≠ "java/lang/invoke/MethodHandle" ∧ y_Str_isLatin1.cls ≠ "java/lang/invoke/VarHandle" ∧ (parseMethodDescriptor y_Str_isLatin1.desc).map (fun d => d.parameters.length) = some 0 := ⟨by decide +kernel, by decide +kernel, by decide +kernel⟩
abbrev b_Str_coder : ByteArray := prog_12_method_152_code
abbrev y_Str_coder : MethodName := ⟨"java/lang/String", "coder", "()B"⟩
theorem hd_Str_coder : y_Str_coder.cls ≠ "java/lang/invoke/MethodHandle" ∧ y_Str_coder.cls ≠ "java/lang/invoke/VarHandle" ∧ (parseMethodDescriptor y_Str_coder.desc).map (fun d => d.parameters.length) = some 0 := ⟨by decide +kernel, by decide +kernel, by decide +kernel⟩
abbrev b_Str_length : ByteArray := prog_12_method_54_code
abbrev y_Str_length : MethodName := ⟨"java/lang/String", "length", "()I"⟩
theorem hd_Str_length : y_Str_length.cls ≠ "java/lang/invoke/MethodHandle" ∧ y_Str_length.cls ≠ "java/lang/invoke/VarHandle" ∧ (parseMethodDescriptor y_Str_length.desc).map (fun d => d.parameters.length) = some 0 := ⟨by decide +kernel, by decide +kernel, by decide +kernel⟩
abbrev b_Lat_canEncode : ByteArray := prog_13_method_4_code
abbrev y_Lat_canEncode : MethodName := ⟨"java/lang/StringLatin1", "canEncode", "(I)Z"⟩
theorem hd_Lat_canEncode : y_Lat_canEncode.cls ≠ "java/lang/invoke/MethodHandle" ∧ y_Lat_canEncode.cls ≠ "java/lang/invoke/VarHandle" ∧ (parseMethodDescriptor y_Lat_canEncode.desc).map (fun d => d.parameters.length) = some 1 := ⟨by decide +kernel, by decide +kernel, by decide +kernel⟩
abbrev b_Lat_indexOfChar : ByteArray := prog_13_method_23_code
abbrev y_Lat_indexOfChar : MethodName := ⟨"java/lang/StringLatin1", "indexOfChar", "([BIII)I"⟩
theorem hd_Lat_indexOfChar : y_Lat_indexOfChar.cls ≠ "java/lang/invoke/MethodHandle" ∧ y_Lat_indexOfChar.cls ≠ "java/lang/invoke/VarHandle" ∧ (parseMethodDescriptor y_Lat_indexOfChar.desc).map (fun d => d.parameters.length) = some 4 := ⟨by decide +kernel, by decide +kernel, by decide +kernel⟩
abbrev b_Lat_indexOf : ByteArray := prog_13_method_22_code
abbrev y_Lat_indexOf : MethodName := ⟨"java/lang/StringLatin1", "indexOf", "([BIII)I"⟩
theorem hd_Lat_indexOf : y_Lat_indexOf.cls ≠ "java/lang/invoke/MethodHandle" ∧ y_Lat_indexOf.cls ≠ "java/lang/invoke/VarHandle" ∧ (parseMethodDescriptor y_Lat_indexOf.desc).map (fun d => d.parameters.length) = some 4 := ⟨by decide +kernel, by decide +kernel, by decide +kernel⟩
abbrev b_Str_indexOf2 : ByteArray := prog_12_method_80_code
abbrev y_Str_indexOf2 : MethodName := ⟨"java/lang/String", "indexOf", "(II)I"⟩
theorem hd_Str_indexOf2 : y_Str_indexOf2.cls ≠ "java/lang/invoke/MethodHandle" ∧ y_Str_indexOf2.cls ≠ "java/lang/invoke/VarHandle" ∧ (parseMethodDescriptor y_Str_indexOf2.desc).map (fun d => d.parameters.length) = some 2 := ⟨by decide +kernel, by decide +kernel, by decide +kernel⟩
abbrev b_Str_indexOf1 : ByteArray := prog_12_method_79_code
abbrev y_Str_indexOf1 : MethodName := ⟨"java/lang/String", "indexOf", "(I)I"⟩
theorem hd_Str_indexOf1 : y_Str_indexOf1.cls ≠ "java/lang/invoke/MethodHandle" ∧ y_Str_indexOf1.cls ≠ "java/lang/invoke/VarHandle" ∧ (parseMethodDescriptor y_Str_indexOf1.desc).map (fun d => d.parameters.length) = some 1 := ⟨by decide +kernel, by decide +kernel, by decide +kernel⟩
abbrev b_Letters_behind : ByteArray := prog_3_method_5_code
abbrev y_Letters_behind : MethodName := ⟨"HalfToTheLeft$Letters", "behind", "(IC)I"⟩
theorem hd_Letters_behind : y_Letters_behind.cls ≠ "java/lang/invoke/MethodHandle" ∧ y_Letters_behind.cls ≠ "java/lang/invoke/VarHandle" ∧ (parseMethodDescriptor y_Letters_behind.desc).map (fun d => d.parameters.length) = some 2 := ⟨by decide +kernel, by decide +kernel, by decide +kernel⟩
abbrev b_Letters_placeOfBadForm : ByteArray := prog_3_method_4_code
abbrev y_Letters_placeOfBadForm : MethodName := ⟨"HalfToTheLeft$Letters", "placeOfBadForm", "()I"⟩
theorem hd_Letters_placeOfBadForm : y_Letters_placeOfBadForm.cls ≠ "java/lang/invoke/MethodHandle" ∧ y_Letters_placeOfBadForm.cls ≠ "java/lang/invoke/VarHandle" ∧ (parseMethodDescriptor y_Letters_placeOfBadForm.desc).map (fun d => d.parameters.length) = some 0 := ⟨by decide +kernel, by decide +kernel, by decide +kernel⟩
abbrev b_Ring_copyFrom : ByteArray := prog_6_method_2_code
abbrev y_Ring_copyFrom : MethodName := ⟨"HalfToTheLeft$Ring", "copyFrom", "(LHalfToTheLeft$Ring;)V"⟩
theorem hd_Ring_copyFrom : y_Ring_copyFrom.cls ≠ "java/lang/invoke/MethodHandle" ∧ y_Ring_copyFrom.cls ≠ "java/lang/invoke/VarHandle" ∧ (parseMethodDescriptor y_Ring_copyFrom.desc).map (fun d => d.parameters.length) = some 1 := ⟨by decide +kernel, by decide +kernel, by decide +kernel⟩
abbrev b_Letters_letterAt : ByteArray := prog_3_method_12_code
abbrev y_Letters_letterAt : MethodName := ⟨"HalfToTheLeft$Letters", "letterAt", "(I)C"⟩
theorem hd_Letters_letterAt : y_Letters_letterAt.cls ≠ "java/lang/invoke/MethodHandle" ∧ y_Letters_letterAt.cls ≠ "java/lang/invoke/VarHandle" ∧ (parseMethodDescriptor y_Letters_letterAt.desc).map (fun d => d.parameters.length) = some 1 := ⟨by decide +kernel, by decide +kernel, by decide +kernel⟩
abbrev b_Letters_number : ByteArray := prog_3_method_11_code
abbrev y_Letters_number : MethodName := ⟨"HalfToTheLeft$Letters", "number", "(II)I"⟩
theorem hd_Letters_number : y_Letters_number.cls ≠ "java/lang/invoke/MethodHandle" ∧ y_Letters_number.cls ≠ "java/lang/invoke/VarHandle" ∧ (parseMethodDescriptor y_Letters_number.desc).map (fun d => d.parameters.length) = some 2 := ⟨by decide +kernel, by decide +kernel, by decide +kernel⟩
abbrev b_Ring_seatLast : ByteArray := prog_6_method_4_code
abbrev y_Ring_seatLast : MethodName := ⟨"HalfToTheLeft$Ring", "seatLast", "(II)Z"⟩
theorem hd_Ring_seatLast : y_Ring_seatLast.cls ≠ "java/lang/invoke/MethodHandle" ∧ y_Ring_seatLast.cls ≠ "java/lang/invoke/VarHandle" ∧ (parseMethodDescriptor y_Ring_seatLast.desc).map (fun d => d.parameters.length) = some 2 := ⟨by decide +kernel, by decide +kernel, by decide +kernel⟩
abbrev b_X_outside : ByteArray := prog_1_method_35_code
abbrev y_X_outside : MethodName := ⟨"HalfToTheLeft", "outside", "(III)I"⟩
theorem hd_X_outside : y_X_outside.cls ≠ "java/lang/invoke/MethodHandle" ∧ y_X_outside.cls ≠ "java/lang/invoke/VarHandle" ∧ (parseMethodDescriptor y_X_outside.desc).map (fun d => d.parameters.length) = some 3 := ⟨by decide +kernel, by decide +kernel, by decide +kernel⟩
abbrev b_Letters_bring : ByteArray := prog_3_method_10_code
abbrev y_Letters_bring : MethodName := ⟨"HalfToTheLeft$Letters", "bring", "(II)Z"⟩
theorem hd_Letters_bring : y_Letters_bring.cls ≠ "java/lang/invoke/MethodHandle" ∧ y_Letters_bring.cls ≠ "java/lang/invoke/VarHandle" ∧ (parseMethodDescriptor y_Letters_bring.desc).map (fun d => d.parameters.length) = some 2 := ⟨by decide +kernel, by decide +kernel, by decide +kernel⟩
abbrev b_Letters_carryOutOne : ByteArray := prog_3_method_9_code
abbrev y_Letters_carryOutOne : MethodName := ⟨"HalfToTheLeft$Letters", "carryOutOne", "(II)Z"⟩
theorem hd_Letters_carryOutOne : y_Letters_carryOutOne.cls ≠ "java/lang/invoke/MethodHandle" ∧ y_Letters_carryOutOne.cls ≠ "java/lang/invoke/VarHandle" ∧ (parseMethodDescriptor y_Letters_carryOutOne.desc).map (fun d => d.parameters.length) = some 2 := ⟨by decide +kernel, by decide +kernel, by decide +kernel⟩
abbrev b_Letters_carryOut : ByteArray := prog_3_method_3_code
abbrev y_Letters_carryOut : MethodName := ⟨"HalfToTheLeft$Letters", "carryOut", "(LHalfToTheLeft$Ring;)I"⟩
theorem hd_Letters_carryOut : y_Letters_carryOut.cls ≠ "java/lang/invoke/MethodHandle" ∧ y_Letters_carryOut.cls ≠ "java/lang/invoke/VarHandle" ∧ (parseMethodDescriptor y_Letters_carryOut.desc).map (fun d => d.parameters.length) = some 1 := ⟨by decide +kernel, by decide +kernel, by decide +kernel⟩
abbrev b_X_table : ByteArray := prog_1_method_3_code
abbrev y_X_table : MethodName := ⟨"HalfToTheLeft", "table", "()I"⟩
theorem hd_X_table : y_X_table.cls ≠ "java/lang/invoke/MethodHandle" ∧ y_X_table.cls ≠ "java/lang/invoke/VarHandle" ∧ (parseMethodDescriptor y_X_table.desc).map (fun d => d.parameters.length) = some 0 := ⟨by decide +kernel, by decide +kernel, by decide +kernel⟩
abbrev b_Ring_has : ByteArray := prog_6_method_3_code
abbrev y_Ring_has : MethodName := ⟨"HalfToTheLeft$Ring", "has", "(I)Z"⟩
theorem hd_Ring_has : y_Ring_has.cls ≠ "java/lang/invoke/MethodHandle" ∧ y_Ring_has.cls ≠ "java/lang/invoke/VarHandle" ∧ (parseMethodDescriptor y_Ring_has.desc).map (fun d => d.parameters.length) = some 1 := ⟨by decide +kernel, by decide +kernel, by decide +kernel⟩
abbrev b_Ring_leftOf : ByteArray := prog_6_method_7_code
abbrev y_Ring_leftOf : MethodName := ⟨"HalfToTheLeft$Ring", "leftOf", "(I)I"⟩
theorem hd_Ring_leftOf : y_Ring_leftOf.cls ≠ "java/lang/invoke/MethodHandle" ∧ y_Ring_leftOf.cls ≠ "java/lang/invoke/VarHandle" ∧ (parseMethodDescriptor y_Ring_leftOf.desc).map (fun d => d.parameters.length) = some 1 := ⟨by decide +kernel, by decide +kernel, by decide +kernel⟩
abbrev b_Ring_gift : ByteArray := prog_6_method_9_code
abbrev y_Ring_gift : MethodName := ⟨"HalfToTheLeft$Ring", "gift", "(I)I"⟩
theorem hd_Ring_gift : y_Ring_gift.cls ≠ "java/lang/invoke/MethodHandle" ∧ y_Ring_gift.cls ≠ "java/lang/invoke/VarHandle" ∧ (parseMethodDescriptor y_Ring_gift.desc).map (fun d => d.parameters.length) = some 1 := ⟨by decide +kernel, by decide +kernel, by decide +kernel⟩
abbrev b_Ring_sides : ByteArray := prog_6_method_10_code
abbrev y_Ring_sides : MethodName := ⟨"HalfToTheLeft$Ring", "sides", "(I)I"⟩
theorem hd_Ring_sides : y_Ring_sides.cls ≠ "java/lang/invoke/MethodHandle" ∧ y_Ring_sides.cls ≠ "java/lang/invoke/VarHandle" ∧ (parseMethodDescriptor y_Ring_sides.desc).map (fun d => d.parameters.length) = some 1 := ⟨by decide +kernel, by decide +kernel, by decide +kernel⟩
abbrev b_X_child : ByteArray := prog_1_method_4_code
abbrev y_X_child : MethodName := ⟨"HalfToTheLeft", "child", "(II)I"⟩
theorem hd_X_child : y_X_child.cls ≠ "java/lang/invoke/MethodHandle" ∧ y_X_child.cls ≠ "java/lang/invoke/VarHandle" ∧ (parseMethodDescriptor y_X_child.desc).map (fun d => d.parameters.length) = some 2 := ⟨by decide +kernel, by decide +kernel, by decide +kernel⟩
abbrev b_X_put : ByteArray := prog_1_method_5_code
abbrev y_X_put : MethodName := ⟨"HalfToTheLeft", "put", "(II)I"⟩
theorem hd_X_put : y_X_put.cls ≠ "java/lang/invoke/MethodHandle" ∧ y_X_put.cls ≠ "java/lang/invoke/VarHandle" ∧ (parseMethodDescriptor y_X_put.desc).map (fun d => d.parameters.length) = some 2 := ⟨by decide +kernel, by decide +kernel, by decide +kernel⟩
abbrev b_X_kind : ByteArray := prog_1_method_6_code
abbrev y_X_kind : MethodName := ⟨"HalfToTheLeft", "kind", "(II)I"⟩
theorem hd_X_kind : y_X_kind.cls ≠ "java/lang/invoke/MethodHandle" ∧ y_X_kind.cls ≠ "java/lang/invoke/VarHandle" ∧ (parseMethodDescriptor y_X_kind.desc).map (fun d => d.parameters.length) = some 2 := ⟨by decide +kernel, by decide +kernel, by decide +kernel⟩
abbrev b_X_set : ByteArray := prog_1_method_7_code
abbrev y_X_set : MethodName := ⟨"HalfToTheLeft", "set", "(II)I"⟩
theorem hd_X_set : y_X_set.cls ≠ "java/lang/invoke/MethodHandle" ∧ y_X_set.cls ≠ "java/lang/invoke/VarHandle" ∧ (parseMethodDescriptor y_X_set.desc).map (fun d => d.parameters.length) = some 2 := ⟨by decide +kernel, by decide +kernel, by decide +kernel⟩
abbrev b_X_areTwo : ByteArray := prog_1_method_40_code
abbrev y_X_areTwo : MethodName := ⟨"HalfToTheLeft", "areTwo", "(II)Z"⟩
theorem hd_X_areTwo : y_X_areTwo.cls ≠ "java/lang/invoke/MethodHandle" ∧ y_X_areTwo.cls ≠ "java/lang/invoke/VarHandle" ∧ (parseMethodDescriptor y_X_areTwo.desc).map (fun d => d.parameters.length) = some 2 := ⟨by decide +kernel, by decide +kernel, by decide +kernel⟩
abbrev b_Ring_changeSweets : ByteArray := prog_6_method_6_code
abbrev y_Ring_changeSweets : MethodName := ⟨"HalfToTheLeft$Ring", "changeSweets", "(II)V"⟩
theorem hd_Ring_changeSweets : y_Ring_changeSweets.cls ≠ "java/lang/invoke/MethodHandle" ∧ y_Ring_changeSweets.cls ≠ "java/lang/invoke/VarHandle" ∧ (parseMethodDescriptor y_Ring_changeSweets.desc).map (fun d => d.parameters.length) = some 2 := ⟨by decide +kernel, by decide +kernel, by decide +kernel⟩
abbrev b_Ring_changeSeats : ByteArray := prog_6_method_5_code
abbrev y_Ring_changeSeats : MethodName := ⟨"HalfToTheLeft$Ring", "changeSeats", "(II)V"⟩
theorem hd_Ring_changeSeats : y_Ring_changeSeats.cls ≠ "java/lang/invoke/MethodHandle" ∧ y_Ring_changeSeats.cls ≠ "java/lang/invoke/VarHandle" ∧ (parseMethodDescriptor y_Ring_changeSeats.desc).map (fun d => d.parameters.length) = some 2 := ⟨by decide +kernel, by decide +kernel, by decide +kernel⟩
abbrev b_X_change : ByteArray := prog_1_method_8_code
abbrev y_X_change : MethodName := ⟨"HalfToTheLeft", "change", "(II)I"⟩
theorem hd_X_change : y_X_change.cls ≠ "java/lang/invoke/MethodHandle" ∧ y_X_change.cls ≠ "java/lang/invoke/VarHandle" ∧ (parseMethodDescriptor y_X_change.desc).map (fun d => d.parameters.length) = some 2 := ⟨by decide +kernel, by decide +kernel, by decide +kernel⟩
abbrev b_Ring_rightOf : ByteArray := prog_6_method_8_code
abbrev y_Ring_rightOf : MethodName := ⟨"HalfToTheLeft$Ring", "rightOf", "(I)I"⟩
theorem hd_Ring_rightOf : y_Ring_rightOf.cls ≠ "java/lang/invoke/MethodHandle" ∧ y_Ring_rightOf.cls ≠ "java/lang/invoke/VarHandle" ∧ (parseMethodDescriptor y_Ring_rightOf.desc).map (fun d => d.parameters.length) = some 1 := ⟨by decide +kernel, by decide +kernel, by decide +kernel⟩
abbrev b_Ring_handOn : ByteArray := prog_6_method_14_code
abbrev y_Ring_handOn : MethodName := ⟨"HalfToTheLeft$Ring", "handOn", "()V"⟩
theorem hd_Ring_handOn : y_Ring_handOn.cls ≠ "java/lang/invoke/MethodHandle" ∧ y_Ring_handOn.cls ≠ "java/lang/invoke/VarHandle" ∧ (parseMethodDescriptor y_Ring_handOn.desc).map (fun d => d.parameters.length) = some 0 := ⟨by decide +kernel, by decide +kernel, by decide +kernel⟩
abbrev b_Ring_mend : ByteArray := prog_6_method_15_code
abbrev y_Ring_mend : MethodName := ⟨"HalfToTheLeft$Ring", "mend", "(I)V"⟩
theorem hd_Ring_mend : y_Ring_mend.cls ≠ "java/lang/invoke/MethodHandle" ∧ y_Ring_mend.cls ≠ "java/lang/invoke/VarHandle" ∧ (parseMethodDescriptor y_Ring_mend.desc).map (fun d => d.parameters.length) = some 1 := ⟨by decide +kernel, by decide +kernel, by decide +kernel⟩
abbrev b_Ring_strike : ByteArray := prog_6_method_12_code
abbrev y_Ring_strike : MethodName := ⟨"HalfToTheLeft$Ring", "strike", "()I"⟩
theorem hd_Ring_strike : y_Ring_strike.cls ≠ "java/lang/invoke/MethodHandle" ∧ y_Ring_strike.cls ≠ "java/lang/invoke/VarHandle" ∧ (parseMethodDescriptor y_Ring_strike.desc).map (fun d => d.parameters.length) = some 0 := ⟨by decide +kernel, by decide +kernel, by decide +kernel⟩
abbrev b_X_stroke : ByteArray := prog_1_method_9_code
abbrev y_X_stroke : MethodName := ⟨"HalfToTheLeft", "stroke", "()I"⟩
theorem hd_X_stroke : y_X_stroke.cls ≠ "java/lang/invoke/MethodHandle" ∧ y_X_stroke.cls ≠ "java/lang/invoke/VarHandle" ∧ (parseMethodDescriptor y_X_stroke.desc).map (fun d => d.parameters.length) = some 0 := ⟨by decide +kernel, by decide +kernel, by decide +kernel⟩
abbrev b_Ring_strikeOften : ByteArray := prog_6_method_13_code
abbrev y_Ring_strikeOften : MethodName := ⟨"HalfToTheLeft$Ring", "strikeOften", "(I)V"⟩
theorem hd_Ring_strikeOften : y_Ring_strikeOften.cls ≠ "java/lang/invoke/MethodHandle" ∧ y_Ring_strikeOften.cls ≠ "java/lang/invoke/VarHandle" ∧ (parseMethodDescriptor y_Ring_strikeOften.desc).map (fun d => d.parameters.length) = some 1 := ⟨by decide +kernel, by decide +kernel, by decide +kernel⟩
abbrev b_Mind_sweetsBehind : ByteArray := prog_4_method_2_code
abbrev y_Mind_sweetsBehind : MethodName := ⟨"HalfToTheLeft$Mind", "sweetsBehind", "(LHalfToTheLeft$Ring;II)I"⟩
theorem hd_Mind_sweetsBehind : y_Mind_sweetsBehind.cls ≠ "java/lang/invoke/MethodHandle" ∧ y_Mind_sweetsBehind.cls ≠ "java/lang/invoke/VarHandle" ∧ (parseMethodDescriptor y_Mind_sweetsBehind.desc).map (fun d => d.parameters.length) = some 3 := ⟨by decide +kernel, by decide +kernel, by decide +kernel⟩
abbrev b_X_run : ByteArray := prog_1_method_10_code
abbrev y_X_run : MethodName := ⟨"HalfToTheLeft", "run", "(II)I"⟩
theorem hd_X_run : y_X_run.cls ≠ "java/lang/invoke/MethodHandle" ∧ y_X_run.cls ≠ "java/lang/invoke/VarHandle" ∧ (parseMethodDescriptor y_X_run.desc).map (fun d => d.parameters.length) = some 2 := ⟨by decide +kernel, by decide +kernel, by decide +kernel⟩
abbrev b_X_isPart : ByteArray := prog_1_method_39_code
abbrev y_X_isPart : MethodName := ⟨"HalfToTheLeft", "isPart", "(I)Z"⟩
theorem hd_X_isPart : y_X_isPart.cls ≠ "java/lang/invoke/MethodHandle" ∧ y_X_isPart.cls ≠ "java/lang/invoke/VarHandle" ∧ (parseMethodDescriptor y_X_isPart.desc).map (fun d => d.parameters.length) = some 1 := ⟨by decide +kernel, by decide +kernel, by decide +kernel⟩
abbrev b_Mind_gaveIn : ByteArray := prog_4_method_3_code
abbrev y_Mind_gaveIn : MethodName := ⟨"HalfToTheLeft$Mind", "gaveIn", "(LHalfToTheLeft$Ring;I)I"⟩
theorem hd_Mind_gaveIn : y_Mind_gaveIn.cls ≠ "java/lang/invoke/MethodHandle" ∧ y_Mind_gaveIn.cls ≠ "java/lang/invoke/VarHandle" ∧ (parseMethodDescriptor y_Mind_gaveIn.desc).map (fun d => d.parameters.length) = some 2 := ⟨by decide +kernel, by decide +kernel, by decide +kernel⟩
abbrev b_Mind_threwIn : ByteArray := prog_4_method_4_code
abbrev y_Mind_threwIn : MethodName := ⟨"HalfToTheLeft$Mind", "threwIn", "(LHalfToTheLeft$Ring;I)I"⟩
theorem hd_Mind_threwIn : y_Mind_threwIn.cls ≠ "java/lang/invoke/MethodHandle" ∧ y_Mind_threwIn.cls ≠ "java/lang/invoke/VarHandle" ∧ (parseMethodDescriptor y_Mind_threwIn.desc).map (fun d => d.parameters.length) = some 2 := ⟨by decide +kernel, by decide +kernel, by decide +kernel⟩
abbrev b_X_given : ByteArray := prog_1_method_11_code
abbrev y_X_given : MethodName := ⟨"HalfToTheLeft", "given", "(II)I"⟩
theorem hd_X_given : y_X_given.cls ≠ "java/lang/invoke/MethodHandle" ∧ y_X_given.cls ≠ "java/lang/invoke/VarHandle" ∧ (parseMethodDescriptor y_X_given.desc).map (fun d => d.parameters.length) = some 2 := ⟨by decide +kernel, by decide +kernel, by decide +kernel⟩
abbrev b_Ring_hasSweetsOf : ByteArray := prog_6_method_20_code
abbrev y_Ring_hasSweetsOf : MethodName := ⟨"HalfToTheLeft$Ring", "hasSweetsOf", "(LHalfToTheLeft$Ring;)Z"⟩
theorem hd_Ring_hasSweetsOf : y_Ring_hasSweetsOf.cls ≠ "java/lang/invoke/MethodHandle" ∧ y_Ring_hasSweetsOf.cls ≠ "java/lang/invoke/VarHandle" ∧ (parseMethodDescriptor y_Ring_hasSweetsOf.desc).map (fun d => d.parameters.length) = some 1 := ⟨by decide +kernel, by decide +kernel, by decide +kernel⟩
abbrev b_Mind_restsBehind : ByteArray := prog_4_method_5_code
abbrev y_Mind_restsBehind : MethodName := ⟨"HalfToTheLeft$Mind", "restsBehind", "(LHalfToTheLeft$Ring;)I"⟩
theorem hd_Mind_restsBehind : y_Mind_restsBehind.cls ≠ "java/lang/invoke/MethodHandle" ∧ y_Mind_restsBehind.cls ≠ "java/lang/invoke/VarHandle" ∧ (parseMethodDescriptor y_Mind_restsBehind.desc).map (fun d => d.parameters.length) = some 1 := ⟨by decide +kernel, by decide +kernel, by decide +kernel⟩
abbrev b_X_rests : ByteArray := prog_1_method_12_code
abbrev y_X_rests : MethodName := ⟨"HalfToTheLeft", "rests", "()I"⟩
theorem hd_X_rests : y_X_rests.cls ≠ "java/lang/invoke/MethodHandle" ∧ y_X_rests.cls ≠ "java/lang/invoke/VarHandle" ∧ (parseMethodDescriptor y_X_rests.desc).map (fun d => d.parameters.length) = some 0 := ⟨by decide +kernel, by decide +kernel, by decide +kernel⟩
abbrev b_Ring_allHaveAlike : ByteArray := prog_6_method_19_code
abbrev y_Ring_allHaveAlike : MethodName := ⟨"HalfToTheLeft$Ring", "allHaveAlike", "()Z"⟩
theorem hd_Ring_allHaveAlike : y_Ring_allHaveAlike.cls ≠ "java/lang/invoke/MethodHandle" ∧ y_Ring_allHaveAlike.cls ≠ "java/lang/invoke/VarHandle" ∧ (parseMethodDescriptor y_Ring_allHaveAlike.desc).map (fun d => d.parameters.length) = some 0 := ⟨by decide +kernel, by decide +kernel, by decide +kernel⟩
abbrev b_Mind_alikeWithin : ByteArray := prog_4_method_7_code
abbrev y_Mind_alikeWithin : MethodName := ⟨"HalfToTheLeft$Mind", "alikeWithin", "(LHalfToTheLeft$Ring;I)I"⟩
theorem hd_Mind_alikeWithin : y_Mind_alikeWithin.cls ≠ "java/lang/invoke/MethodHandle" ∧ y_Mind_alikeWithin.cls ≠ "java/lang/invoke/VarHandle" ∧ (parseMethodDescriptor y_Mind_alikeWithin.desc).map (fun d => d.parameters.length) = some 2 := ⟨by decide +kernel, by decide +kernel, by decide +kernel⟩
abbrev b_Mind_alikeBehind : ByteArray := prog_4_method_6_code
abbrev y_Mind_alikeBehind : MethodName := ⟨"HalfToTheLeft$Mind", "alikeBehind", "(LHalfToTheLeft$Ring;)I"⟩
theorem hd_Mind_alikeBehind : y_Mind_alikeBehind.cls ≠ "java/lang/invoke/MethodHandle" ∧ y_Mind_alikeBehind.cls ≠ "java/lang/invoke/VarHandle" ∧ (parseMethodDescriptor y_Mind_alikeBehind.desc).map (fun d => d.parameters.length) = some 1 := ⟨by decide +kernel, by decide +kernel, by decide +kernel⟩
abbrev b_X_alike : ByteArray := prog_1_method_13_code
abbrev y_X_alike : MethodName := ⟨"HalfToTheLeft", "alike", "()I"⟩
theorem hd_X_alike : y_X_alike.cls ≠ "java/lang/invoke/MethodHandle" ∧ y_X_alike.cls ≠ "java/lang/invoke/VarHandle" ∧ (parseMethodDescriptor y_X_alike.desc).map (fun d => d.parameters.length) = some 0 := ⟨by decide +kernel, by decide +kernel, by decide +kernel⟩
abbrev b_Ring_hasSweetsAndBagOf : ByteArray := prog_6_method_21_code
abbrev y_Ring_hasSweetsAndBagOf : MethodName := ⟨"HalfToTheLeft$Ring", "hasSweetsAndBagOf", "(LHalfToTheLeft$Ring;)Z"⟩
theorem hd_Ring_hasSweetsAndBagOf : y_Ring_hasSweetsAndBagOf.cls ≠ "java/lang/invoke/MethodHandle" ∧ y_Ring_hasSweetsAndBagOf.cls ≠ "java/lang/invoke/VarHandle" ∧ (parseMethodDescriptor y_Ring_hasSweetsAndBagOf.desc).map (fun d => d.parameters.length) = some 1 := ⟨by decide +kernel, by decide +kernel, by decide +kernel⟩
abbrev b_Mind_roundOf : ByteArray := prog_4_method_8_code
abbrev y_Mind_roundOf : MethodName := ⟨"HalfToTheLeft$Mind", "roundOf", "(LHalfToTheLeft$Ring;)I"⟩
theorem hd_Mind_roundOf : y_Mind_roundOf.cls ≠ "java/lang/invoke/MethodHandle" ∧ y_Mind_roundOf.cls ≠ "java/lang/invoke/VarHandle" ∧ (parseMethodDescriptor y_Mind_roundOf.desc).map (fun d => d.parameters.length) = some 1 := ⟨by decide +kernel, by decide +kernel, by decide +kernel⟩
abbrev b_Mind_aheadOfRound : ByteArray := prog_4_method_9_code
abbrev y_Mind_aheadOfRound : MethodName := ⟨"HalfToTheLeft$Mind", "aheadOfRound", "(LHalfToTheLeft$Ring;I)I"⟩
theorem hd_Mind_aheadOfRound : y_Mind_aheadOfRound.cls ≠ "java/lang/invoke/MethodHandle" ∧ y_Mind_aheadOfRound.cls ≠ "java/lang/invoke/VarHandle" ∧ (parseMethodDescriptor y_Mind_aheadOfRound.desc).map (fun d => d.parameters.length) = some 2 := ⟨by decide +kernel, by decide +kernel, by decide +kernel⟩
abbrev b_X_ring : ByteArray := prog_1_method_14_code
abbrev y_X_ring : MethodName := ⟨"HalfToTheLeft", "ring", "(I)I"⟩
theorem hd_X_ring : y_X_ring.cls ≠ "java/lang/invoke/MethodHandle" ∧ y_X_ring.cls ≠ "java/lang/invoke/VarHandle" ∧ (parseMethodDescriptor y_X_ring.desc).map (fun d => d.parameters.length) = some 1 := ⟨by decide +kernel, by decide +kernel, by decide +kernel⟩
abbrev b_Mind_meetBehind : ByteArray := prog_4_method_10_code
abbrev y_Mind_meetBehind : MethodName := ⟨"HalfToTheLeft$Mind", "meetBehind", "(LHalfToTheLeft$Ring;II)I"⟩
theorem hd_Mind_meetBehind : y_Mind_meetBehind.cls ≠ "java/lang/invoke/MethodHandle" ∧ y_Mind_meetBehind.cls ≠ "java/lang/invoke/VarHandle" ∧ (parseMethodDescriptor y_Mind_meetBehind.desc).map (fun d => d.parameters.length) = some 3 := ⟨by decide +kernel, by decide +kernel, by decide +kernel⟩
abbrev b_X_meet : ByteArray := prog_1_method_15_code
abbrev y_X_meet : MethodName := ⟨"HalfToTheLeft", "meet", "(II)I"⟩
theorem hd_X_meet : y_X_meet.cls ≠ "java/lang/invoke/MethodHandle" ∧ y_X_meet.cls ≠ "java/lang/invoke/VarHandle" ∧ (parseMethodDescriptor y_X_meet.desc).map (fun d => d.parameters.length) = some 2 := ⟨by decide +kernel, by decide +kernel, by decide +kernel⟩
abbrev b_Crumbs_begin : ByteArray := prog_2_method_3_code
abbrev y_Crumbs_begin : MethodName := ⟨"HalfToTheLeft$Crumbs", "begin", "(LHalfToTheLeft$Ring;)V"⟩
theorem hd_Crumbs_begin : y_Crumbs_begin.cls ≠ "java/lang/invoke/MethodHandle" ∧ y_Crumbs_begin.cls ≠ "java/lang/invoke/VarHandle" ∧ (parseMethodDescriptor y_Crumbs_begin.desc).map (fun d => d.parameters.length) = some 1 := ⟨by decide +kernel, by decide +kernel, by decide +kernel⟩
abbrev b_Crumbs_advance : ByteArray := prog_2_method_4_code
abbrev y_Crumbs_advance : MethodName := ⟨"HalfToTheLeft$Crumbs", "advance", "(LHalfToTheLeft$Ring;)V"⟩
theorem hd_Crumbs_advance : y_Crumbs_advance.cls ≠ "java/lang/invoke/MethodHandle" ∧ y_Crumbs_advance.cls ≠ "java/lang/invoke/VarHandle" ∧ (parseMethodDescriptor y_Crumbs_advance.desc).map (fun d => d.parameters.length) = some 1 := ⟨by decide +kernel, by decide +kernel, by decide +kernel⟩
abbrev b_Crumbs_take : ByteArray := prog_2_method_2_code
abbrev y_Crumbs_take : MethodName := ⟨"HalfToTheLeft$Crumbs", "take", "(LHalfToTheLeft$Ring;I)V"⟩
theorem hd_Crumbs_take : y_Crumbs_take.cls ≠ "java/lang/invoke/MethodHandle" ∧ y_Crumbs_take.cls ≠ "java/lang/invoke/VarHandle" ∧ (parseMethodDescriptor y_Crumbs_take.desc).map (fun d => d.parameters.length) = some 2 := ⟨by decide +kernel, by decide +kernel, by decide +kernel⟩
abbrev b_Crumbs_halvings : ByteArray := prog_2_method_7_code
abbrev y_Crumbs_halvings : MethodName := ⟨"HalfToTheLeft$Crumbs", "halvings", "(I)I"⟩
theorem hd_Crumbs_halvings : y_Crumbs_halvings.cls ≠ "java/lang/invoke/MethodHandle" ∧ y_Crumbs_halvings.cls ≠ "java/lang/invoke/VarHandle" ∧ (parseMethodDescriptor y_Crumbs_halvings.desc).map (fun d => d.parameters.length) = some 1 := ⟨by decide +kernel, by decide +kernel, by decide +kernel⟩
abbrev b_Crumbs_above : ByteArray := prog_2_method_5_code
abbrev y_Crumbs_above : MethodName := ⟨"HalfToTheLeft$Crumbs", "above", "(I)J"⟩
theorem hd_Crumbs_above : y_Crumbs_above.cls ≠ "java/lang/invoke/MethodHandle" ∧ y_Crumbs_above.cls ≠ "java/lang/invoke/VarHandle" ∧ (parseMethodDescriptor y_Crumbs_above.desc).map (fun d => d.parameters.length) = some 1 := ⟨by decide +kernel, by decide +kernel, by decide +kernel⟩
abbrev b_Crumbs_below : ByteArray := prog_2_method_6_code
abbrev y_Crumbs_below : MethodName := ⟨"HalfToTheLeft$Crumbs", "below", "(I)J"⟩
theorem hd_Crumbs_below : y_Crumbs_below.cls ≠ "java/lang/invoke/MethodHandle" ∧ y_Crumbs_below.cls ≠ "java/lang/invoke/VarHandle" ∧ (parseMethodDescriptor y_Crumbs_below.desc).map (fun d => d.parameters.length) = some 1 := ⟨by decide +kernel, by decide +kernel, by decide +kernel⟩
abbrev b_X_crumbs : ByteArray := prog_1_method_16_code
abbrev y_X_crumbs : MethodName := ⟨"HalfToTheLeft", "crumbs", "(III)J"⟩
theorem hd_X_crumbs : y_X_crumbs.cls ≠ "java/lang/invoke/MethodHandle" ∧ y_X_crumbs.cls ≠ "java/lang/invoke/VarHandle" ∧ (parseMethodDescriptor y_X_crumbs.desc).map (fun d => d.parameters.length) = some 3 := ⟨by decide +kernel, by decide +kernel, by decide +kernel⟩
abbrev b_Ring_allSweets : ByteArray := prog_6_method_16_code
abbrev y_Ring_allSweets : MethodName := ⟨"HalfToTheLeft$Ring", "allSweets", "()I"⟩
theorem hd_Ring_allSweets : y_Ring_allSweets.cls ≠ "java/lang/invoke/MethodHandle" ∧ y_Ring_allSweets.cls ≠ "java/lang/invoke/VarHandle" ∧ (parseMethodDescriptor y_Ring_allSweets.desc).map (fun d => d.parameters.length) = some 0 := ⟨by decide +kernel, by decide +kernel, by decide +kernel⟩
abbrev b_Ring_commonDivisor : ByteArray := prog_6_method_18_code
abbrev y_Ring_commonDivisor : MethodName := ⟨"HalfToTheLeft$Ring", "commonDivisor", "()I"⟩
theorem hd_Ring_commonDivisor : y_Ring_commonDivisor.cls ≠ "java/lang/invoke/MethodHandle" ∧ y_Ring_commonDivisor.cls ≠ "java/lang/invoke/VarHandle" ∧ (parseMethodDescriptor y_Ring_commonDivisor.desc).map (fun d => d.parameters.length) = some 0 := ⟨by decide +kernel, by decide +kernel, by decide +kernel⟩
abbrev b_X_mean : ByteArray := prog_1_method_17_code
abbrev y_X_mean : MethodName := ⟨"HalfToTheLeft", "mean", "(I)I"⟩
theorem hd_X_mean : y_X_mean.cls ≠ "java/lang/invoke/MethodHandle" ∧ y_X_mean.cls ≠ "java/lang/invoke/VarHandle" ∧ (parseMethodDescriptor y_X_mean.desc).map (fun d => d.parameters.length) = some 1 := ⟨by decide +kernel, by decide +kernel, by decide +kernel⟩
abbrev b_X_outsideOrNobody : ByteArray := prog_1_method_36_code
abbrev y_X_outsideOrNobody : MethodName := ⟨"HalfToTheLeft", "outsideOrNobody", "(III)I"⟩
theorem hd_X_outsideOrNobody : y_X_outsideOrNobody.cls ≠ "java/lang/invoke/MethodHandle" ∧ y_X_outsideOrNobody.cls ≠ "java/lang/invoke/VarHandle" ∧ (parseMethodDescriptor y_X_outsideOrNobody.desc).map (fun d => d.parameters.length) = some 3 := ⟨by decide +kernel, by decide +kernel, by decide +kernel⟩
abbrev b_Crumbs_allAreNear : ByteArray := prog_2_method_9_code
abbrev y_Crumbs_allAreNear : MethodName := ⟨"HalfToTheLeft$Crumbs", "allAreNear", "(LHalfToTheLeft$Ring;I)Z"⟩
theorem hd_Crumbs_allAreNear : y_Crumbs_allAreNear.cls ≠ "java/lang/invoke/MethodHandle" ∧ y_Crumbs_allAreNear.cls ≠ "java/lang/invoke/VarHandle" ∧ (parseMethodDescriptor y_Crumbs_allAreNear.desc).map (fun d => d.parameters.length) = some 2 := ⟨by decide +kernel, by decide +kernel, by decide +kernel⟩
abbrev b_Crumbs_nearBehind : ByteArray := prog_2_method_8_code
abbrev y_Crumbs_nearBehind : MethodName := ⟨"HalfToTheLeft$Crumbs", "nearBehind", "(LHalfToTheLeft$Ring;I)I"⟩
theorem hd_Crumbs_nearBehind : y_Crumbs_nearBehind.cls ≠ "java/lang/invoke/MethodHandle" ∧ y_Crumbs_nearBehind.cls ≠ "java/lang/invoke/VarHandle" ∧ (parseMethodDescriptor y_Crumbs_nearBehind.desc).map (fun d => d.parameters.length) = some 2 := ⟨by decide +kernel, by decide +kernel, by decide +kernel⟩
abbrev b_X_near : ByteArray := prog_1_method_18_code
abbrev y_X_near : MethodName := ⟨"HalfToTheLeft", "near", "(I)I"⟩
theorem hd_X_near : y_X_near.cls ≠ "java/lang/invoke/MethodHandle" ∧ y_X_near.cls ≠ "java/lang/invoke/VarHandle" ∧ (parseMethodDescriptor y_X_near.desc).map (fun d => d.parameters.length) = some 1 := ⟨by decide +kernel, by decide +kernel, by decide +kernel⟩
abbrev b_X_outsideOrMany : ByteArray := prog_1_method_37_code
abbrev y_X_outsideOrMany : MethodName := ⟨"HalfToTheLeft", "outsideOrMany", "(III)I"⟩
theorem hd_X_outsideOrMany : y_X_outsideOrMany.cls ≠ "java/lang/invoke/MethodHandle" ∧ y_X_outsideOrMany.cls ≠ "java/lang/invoke/VarHandle" ∧ (parseMethodDescriptor y_X_outsideOrMany.desc).map (fun d => d.parameters.length) = some 3 := ⟨by decide +kernel, by decide +kernel, by decide +kernel⟩
abbrev b_Ring_heapBehindGifts : ByteArray := prog_6_method_11_code
abbrev y_Ring_heapBehindGifts : MethodName := ⟨"HalfToTheLeft$Ring", "heapBehindGifts", "(I)I"⟩
theorem hd_Ring_heapBehindGifts : y_Ring_heapBehindGifts.cls ≠ "java/lang/invoke/MethodHandle" ∧ y_Ring_heapBehindGifts.cls ≠ "java/lang/invoke/VarHandle" ∧ (parseMethodDescriptor y_Ring_heapBehindGifts.desc).map (fun d => d.parameters.length) = some 1 := ⟨by decide +kernel, by decide +kernel, by decide +kernel⟩
abbrev b_Past_mayBecome : ByteArray := prog_5_method_5_code
abbrev y_Past_mayBecome : MethodName := ⟨"HalfToTheLeft$Past", "mayBecome", "(II)Z"⟩
theorem hd_Past_mayBecome : y_Past_mayBecome.cls ≠ "java/lang/invoke/MethodHandle" ∧ y_Past_mayBecome.cls ≠ "java/lang/invoke/VarHandle" ∧ (parseMethodDescriptor y_Past_mayBecome.desc).map (fun d => d.parameters.length) = some 2 := ⟨by decide +kernel, by decide +kernel, by decide +kernel⟩
abbrev b_Past_lastOfThoseWhoMakeHeapOf : ByteArray := prog_5_method_4_code
abbrev y_Past_lastOfThoseWhoMakeHeapOf : MethodName := ⟨"HalfToTheLeft$Past", "lastOfThoseWhoMakeHeapOf", "(I)I"⟩
theorem hd_Past_lastOfThoseWhoMakeHeapOf : y_Past_lastOfThoseWhoMakeHeapOf.cls ≠ "java/lang/invoke/MethodHandle" ∧ y_Past_lastOfThoseWhoMakeHeapOf.cls ≠ "java/lang/invoke/VarHandle" ∧ (parseMethodDescriptor y_Past_lastOfThoseWhoMakeHeapOf.desc).map (fun d => d.parameters.length) = some 1 := ⟨by decide +kernel, by decide +kernel, by decide +kernel⟩
abbrev b_Past_placeOfWrong : ByteArray := prog_5_method_3_code
abbrev y_Past_placeOfWrong : MethodName := ⟨"HalfToTheLeft$Past", "placeOfWrong", "(LHalfToTheLeft$Ring;)I"⟩
theorem hd_Past_placeOfWrong : y_Past_placeOfWrong.cls ≠ "java/lang/invoke/MethodHandle" ∧ y_Past_placeOfWrong.cls ≠ "java/lang/invoke/VarHandle" ∧ (parseMethodDescriptor y_Past_placeOfWrong.desc).map (fun d => d.parameters.length) = some 1 := ⟨by decide +kernel, by decide +kernel, by decide +kernel⟩
abbrev b_Past_leadsTo : ByteArray := prog_5_method_7_code
abbrev y_Past_leadsTo : MethodName := ⟨"HalfToTheLeft$Past", "leadsTo", "(LHalfToTheLeft$Ring;)Z"⟩
theorem hd_Past_leadsTo : y_Past_leadsTo.cls ≠ "java/lang/invoke/MethodHandle" ∧ y_Past_leadsTo.cls ≠ "java/lang/invoke/VarHandle" ∧ (parseMethodDescriptor y_Past_leadsTo.desc).map (fun d => d.parameters.length) = some 1 := ⟨by decide +kernel, by decide +kernel, by decide +kernel⟩
abbrev b_Past_advance : ByteArray := prog_5_method_6_code
abbrev y_Past_advance : MethodName := ⟨"HalfToTheLeft$Past", "advance", "(II)Z"⟩
theorem hd_Past_advance : y_Past_advance.cls ≠ "java/lang/invoke/MethodHandle" ∧ y_Past_advance.cls ≠ "java/lang/invoke/VarHandle" ∧ (parseMethodDescriptor y_Past_advance.desc).map (fun d => d.parameters.length) = some 2 := ⟨by decide +kernel, by decide +kernel, by decide +kernel⟩
abbrev b_Past_find : ByteArray := prog_5_method_2_code
abbrev y_Past_find : MethodName := ⟨"HalfToTheLeft$Past", "find", "(LHalfToTheLeft$Ring;II)I"⟩
theorem hd_Past_find : y_Past_find.cls ≠ "java/lang/invoke/MethodHandle" ∧ y_Past_find.cls ≠ "java/lang/invoke/VarHandle" ∧ (parseMethodDescriptor y_Past_find.desc).map (fun d => d.parameters.length) = some 3 := ⟨by decide +kernel, by decide +kernel, by decide +kernel⟩
abbrev b_X_before : ByteArray := prog_1_method_19_code
abbrev y_X_before : MethodName := ⟨"HalfToTheLeft", "before", "(I)I"⟩
theorem hd_X_before : y_X_before.cls ≠ "java/lang/invoke/MethodHandle" ∧ y_X_before.cls ≠ "java/lang/invoke/VarHandle" ∧ (parseMethodDescriptor y_X_before.desc).map (fun d => d.parameters.length) = some 1 := ⟨by decide +kernel, by decide +kernel, by decide +kernel⟩
abbrev b_X_beforeOf : ByteArray := prog_1_method_20_code
abbrev y_X_beforeOf : MethodName := ⟨"HalfToTheLeft", "beforeOf", "(III)I"⟩
theorem hd_X_beforeOf : y_X_beforeOf.cls ≠ "java/lang/invoke/MethodHandle" ∧ y_X_beforeOf.cls ≠ "java/lang/invoke/VarHandle" ∧ (parseMethodDescriptor y_X_beforeOf.desc).map (fun d => d.parameters.length) = some 3 := ⟨by decide +kernel, by decide +kernel, by decide +kernel⟩
abbrev b_X_refusalOfSeats : ByteArray := prog_1_method_38_code
abbrev y_X_refusalOfSeats : MethodName := ⟨"HalfToTheLeft", "refusalOfSeats", "(III)I"⟩
theorem hd_X_refusalOfSeats : y_X_refusalOfSeats.cls ≠ "java/lang/invoke/MethodHandle" ∧ y_X_refusalOfSeats.cls ≠ "java/lang/invoke/VarHandle" ∧ (parseMethodDescriptor y_X_refusalOfSeats.desc).map (fun d => d.parameters.length) = some 3 := ⟨by decide +kernel, by decide +kernel, by decide +kernel⟩
abbrev b_Seating_numberOfOrder : ByteArray := prog_7_method_3_code
abbrev y_Seating_numberOfOrder : MethodName := ⟨"HalfToTheLeft$Seating", "numberOfOrder", "(LHalfToTheLeft$Ring;II)I"⟩
theorem hd_Seating_numberOfOrder : y_Seating_numberOfOrder.cls ≠ "java/lang/invoke/MethodHandle" ∧ y_Seating_numberOfOrder.cls ≠ "java/lang/invoke/VarHandle" ∧ (parseMethodDescriptor y_Seating_numberOfOrder.desc).map (fun d => d.parameters.length) = some 3 := ⟨by decide +kernel, by decide +kernel, by decide +kernel⟩
abbrev b_Seating_changePlaces : ByteArray := prog_7_method_5_code
abbrev y_Seating_changePlaces : MethodName := ⟨"HalfToTheLeft$Seating", "changePlaces", "(II)V"⟩
theorem hd_Seating_changePlaces : y_Seating_changePlaces.cls ≠ "java/lang/invoke/MethodHandle" ∧ y_Seating_changePlaces.cls ≠ "java/lang/invoke/VarHandle" ∧ (parseMethodDescriptor y_Seating_changePlaces.desc).map (fun d => d.parameters.length) = some 2 := ⟨by decide +kernel, by decide +kernel, by decide +kernel⟩
abbrev b_Seating_goToNextOrder : ByteArray := prog_7_method_4_code
abbrev y_Seating_goToNextOrder : MethodName := ⟨"HalfToTheLeft$Seating", "goToNextOrder", "(I)Z"⟩
theorem hd_Seating_goToNextOrder : y_Seating_goToNextOrder.cls ≠ "java/lang/invoke/MethodHandle" ∧ y_Seating_goToNextOrder.cls ≠ "java/lang/invoke/VarHandle" ∧ (parseMethodDescriptor y_Seating_goToNextOrder.desc).map (fun d => d.parameters.length) = some 1 := ⟨by decide +kernel, by decide +kernel, by decide +kernel⟩
abbrev b_Seating_best : ByteArray := prog_7_method_2_code
abbrev y_Seating_best : MethodName := ⟨"HalfToTheLeft$Seating", "best", "(LHalfToTheLeft$Ring;II)I"⟩
theorem hd_Seating_best : y_Seating_best.cls ≠ "java/lang/invoke/MethodHandle" ∧ y_Seating_best.cls ≠ "java/lang/invoke/VarHandle" ∧ (parseMethodDescriptor y_Seating_best.desc).map (fun d => d.parameters.length) = some 3 := ⟨by decide +kernel, by decide +kernel, by decide +kernel⟩
abbrev b_X_seats : ByteArray := prog_1_method_21_code
abbrev y_X_seats : MethodName := ⟨"HalfToTheLeft", "seats", "(II)I"⟩
theorem hd_X_seats : y_X_seats.cls ≠ "java/lang/invoke/MethodHandle" ∧ y_X_seats.cls ≠ "java/lang/invoke/VarHandle" ∧ (parseMethodDescriptor y_X_seats.desc).map (fun d => d.parameters.length) = some 2 := ⟨by decide +kernel, by decide +kernel, by decide +kernel⟩
abbrev b_X_seat : ByteArray := prog_1_method_22_code
abbrev y_X_seat : MethodName := ⟨"HalfToTheLeft", "seat", "(III)I"⟩
theorem hd_X_seat : y_X_seat.cls ≠ "java/lang/invoke/MethodHandle" ∧ y_X_seat.cls ≠ "java/lang/invoke/VarHandle" ∧ (parseMethodDescriptor y_X_seat.desc).map (fun d => d.parameters.length) = some 3 := ⟨by decide +kernel, by decide +kernel, by decide +kernel⟩
abbrev b_Mind_othersMore : ByteArray := prog_4_method_11_code
abbrev y_Mind_othersMore : MethodName := ⟨"HalfToTheLeft$Mind", "othersMore", "(LHalfToTheLeft$Ring;III)I"⟩
theorem hd_Mind_othersMore : y_Mind_othersMore.cls ≠ "java/lang/invoke/MethodHandle" ∧ y_Mind_othersMore.cls ≠ "java/lang/invoke/VarHandle" ∧ (parseMethodDescriptor y_Mind_othersMore.desc).map (fun d => d.parameters.length) = some 4 := ⟨by decide +kernel, by decide +kernel, by decide +kernel⟩
abbrev b_X_hides : ByteArray := prog_1_method_23_code
abbrev y_X_hides : MethodName := ⟨"HalfToTheLeft", "hides", "(IIZ)I"⟩
theorem hd_X_hides : y_X_hides.cls ≠ "java/lang/invoke/MethodHandle" ∧ y_X_hides.cls ≠ "java/lang/invoke/VarHandle" ∧ (parseMethodDescriptor y_X_hides.desc).map (fun d => d.parameters.length) = some 3 := ⟨by decide +kernel, by decide +kernel, by decide +kernel⟩
abbrev b_Mind_feltBehind : ByteArray := prog_4_method_12_code
abbrev y_Mind_feltBehind : MethodName := ⟨"HalfToTheLeft$Mind", "feltBehind", "(LHalfToTheLeft$Ring;II)I"⟩
theorem hd_Mind_feltBehind : y_Mind_feltBehind.cls ≠ "java/lang/invoke/MethodHandle" ∧ y_Mind_feltBehind.cls ≠ "java/lang/invoke/VarHandle" ∧ (parseMethodDescriptor y_Mind_feltBehind.desc).map (fun d => d.parameters.length) = some 3 := ⟨by decide +kernel, by decide +kernel, by decide +kernel⟩
abbrev b_X_felt : ByteArray := prog_1_method_24_code
abbrev y_X_felt : MethodName := ⟨"HalfToTheLeft", "felt", "(II)I"⟩
theorem hd_X_felt : y_X_felt.cls ≠ "java/lang/invoke/MethodHandle" ∧ y_X_felt.cls ≠ "java/lang/invoke/VarHandle" ∧ (parseMethodDescriptor y_X_felt.desc).map (fun d => d.parameters.length) = some 2 := ⟨by decide +kernel, by decide +kernel, by decide +kernel⟩
abbrev b_Mind_gaveJoined : ByteArray := prog_4_method_13_code
abbrev y_Mind_gaveJoined : MethodName := ⟨"HalfToTheLeft$Mind", "gaveJoined", "(LHalfToTheLeft$Ring;LHalfToTheLeft$Ring;I)I"⟩
theorem hd_Mind_gaveJoined : y_Mind_gaveJoined.cls ≠ "java/lang/invoke/MethodHandle" ∧ y_Mind_gaveJoined.cls ≠ "java/lang/invoke/VarHandle" ∧ (parseMethodDescriptor y_Mind_gaveJoined.desc).map (fun d => d.parameters.length) = some 3 := ⟨by decide +kernel, by decide +kernel, by decide +kernel⟩
abbrev b_X_joined : ByteArray := prog_1_method_25_code
abbrev y_X_joined : MethodName := ⟨"HalfToTheLeft", "joined", "(I)I"⟩
theorem hd_X_joined : y_X_joined.cls ≠ "java/lang/invoke/MethodHandle" ∧ y_X_joined.cls ≠ "java/lang/invoke/VarHandle" ∧ (parseMethodDescriptor y_X_joined.desc).map (fun d => d.parameters.length) = some 1 := ⟨by decide +kernel, by decide +kernel, by decide +kernel⟩
abbrev b_Mind_gaveMore : ByteArray := prog_4_method_14_code
abbrev y_Mind_gaveMore : MethodName := ⟨"HalfToTheLeft$Mind", "gaveMore", "(LHalfToTheLeft$Ring;II)I"⟩
theorem hd_Mind_gaveMore : y_Mind_gaveMore.cls ≠ "java/lang/invoke/MethodHandle" ∧ y_Mind_gaveMore.cls ≠ "java/lang/invoke/VarHandle" ∧ (parseMethodDescriptor y_Mind_gaveMore.desc).map (fun d => d.parameters.length) = some 3 := ⟨by decide +kernel, by decide +kernel, by decide +kernel⟩
abbrev b_X_newly : ByteArray := prog_1_method_26_code
abbrev y_X_newly : MethodName := ⟨"HalfToTheLeft", "newly", "(II)I"⟩
theorem hd_X_newly : y_X_newly.cls ≠ "java/lang/invoke/MethodHandle" ∧ y_X_newly.cls ≠ "java/lang/invoke/VarHandle" ∧ (parseMethodDescriptor y_X_newly.desc).map (fun d => d.parameters.length) = some 2 := ⟨by decide +kernel, by decide +kernel, by decide +kernel⟩
abbrev b_Mind_leastBegun : ByteArray := prog_4_method_15_code
abbrev y_Mind_leastBegun : MethodName := ⟨"HalfToTheLeft$Mind", "leastBegun", "(LHalfToTheLeft$Ring;I)I"⟩
theorem hd_Mind_leastBegun : y_Mind_leastBegun.cls ≠ "java/lang/invoke/MethodHandle" ∧ y_Mind_leastBegun.cls ≠ "java/lang/invoke/VarHandle" ∧ (parseMethodDescriptor y_Mind_leastBegun.desc).map (fun d => d.parameters.length) = some 2 := ⟨by decide +kernel, by decide +kernel, by decide +kernel⟩
abbrev b_X_begun : ByteArray := prog_1_method_27_code
abbrev y_X_begun : MethodName := ⟨"HalfToTheLeft", "begun", "(I)I"⟩
theorem hd_X_begun : y_X_begun.cls ≠ "java/lang/invoke/MethodHandle" ∧ y_X_begun.cls ≠ "java/lang/invoke/VarHandle" ∧ (parseMethodDescriptor y_X_begun.desc).map (fun d => d.parameters.length) = some 1 := ⟨by decide +kernel, by decide +kernel, by decide +kernel⟩
abbrev b_Mind_draw : ByteArray := prog_4_method_17_code
abbrev y_Mind_draw : MethodName := ⟨"HalfToTheLeft$Mind", "draw", "(I)I"⟩
theorem hd_Mind_draw : y_Mind_draw.cls ≠ "java/lang/invoke/MethodHandle" ∧ y_Mind_draw.cls ≠ "java/lang/invoke/VarHandle" ∧ (parseMethodDescriptor y_Mind_draw.desc).map (fun d => d.parameters.length) = some 1 := ⟨by decide +kernel, by decide +kernel, by decide +kernel⟩
abbrev b_Mind_gaveBySeed : ByteArray := prog_4_method_16_code
abbrev y_Mind_gaveBySeed : MethodName := ⟨"HalfToTheLeft$Mind", "gaveBySeed", "(LHalfToTheLeft$Ring;II)I"⟩
theorem hd_Mind_gaveBySeed : y_Mind_gaveBySeed.cls ≠ "java/lang/invoke/MethodHandle" ∧ y_Mind_gaveBySeed.cls ≠ "java/lang/invoke/VarHandle" ∧ (parseMethodDescriptor y_Mind_gaveBySeed.desc).map (fun d => d.parameters.length) = some 3 := ⟨by decide +kernel, by decide +kernel, by decide +kernel⟩
abbrev b_X_seeds : ByteArray := prog_1_method_28_code
abbrev y_X_seeds : MethodName := ⟨"HalfToTheLeft", "seeds", "(II)I"⟩
theorem hd_X_seeds : y_X_seeds.cls ≠ "java/lang/invoke/MethodHandle" ∧ y_X_seeds.cls ≠ "java/lang/invoke/VarHandle" ∧ (parseMethodDescriptor y_X_seeds.desc).map (fun d => d.parameters.length) = some 2 := ⟨by decide +kernel, by decide +kernel, by decide +kernel⟩
abbrev b_X_row : ByteArray := prog_1_method_29_code
abbrev y_X_row : MethodName := ⟨"HalfToTheLeft", "row", "(I)I"⟩
theorem hd_X_row : y_X_row.cls ≠ "java/lang/invoke/MethodHandle" ∧ y_X_row.cls ≠ "java/lang/invoke/VarHandle" ∧ (parseMethodDescriptor y_X_row.desc).map (fun d => d.parameters.length) = some 1 := ⟨by decide +kernel, by decide +kernel, by decide +kernel⟩
abbrev b_Mind_firstWrong : ByteArray := prog_4_method_18_code
abbrev y_Mind_firstWrong : MethodName := ⟨"HalfToTheLeft$Mind", "firstWrong", "(LHalfToTheLeft$Ring;[II)I"⟩
theorem hd_Mind_firstWrong : y_Mind_firstWrong.cls ≠ "java/lang/invoke/MethodHandle" ∧ y_Mind_firstWrong.cls ≠ "java/lang/invoke/VarHandle" ∧ (parseMethodDescriptor y_Mind_firstWrong.desc).map (fun d => d.parameters.length) = some 3 := ⟨by decide +kernel, by decide +kernel, by decide +kernel⟩
abbrev b_X_judge : ByteArray := prog_1_method_30_code
abbrev y_X_judge : MethodName := ⟨"HalfToTheLeft", "judge", "()I"⟩
theorem hd_X_judge : y_X_judge.cls ≠ "java/lang/invoke/MethodHandle" ∧ y_X_judge.cls ≠ "java/lang/invoke/VarHandle" ∧ (parseMethodDescriptor y_X_judge.desc).map (fun d => d.parameters.length) = some 0 := ⟨by decide +kernel, by decide +kernel, by decide +kernel⟩
abbrev b_X_image : ByteArray := prog_1_method_31_code
abbrev y_X_image : MethodName := ⟨"HalfToTheLeft", "image", "()I"⟩
theorem hd_X_image : y_X_image.cls ≠ "java/lang/invoke/MethodHandle" ∧ y_X_image.cls ≠ "java/lang/invoke/VarHandle" ∧ (parseMethodDescriptor y_X_image.desc).map (fun d => d.parameters.length) = some 0 := ⟨by decide +kernel, by decide +kernel, by decide +kernel⟩
abbrev b_X_restore : ByteArray := prog_1_method_32_code
abbrev y_X_restore : MethodName := ⟨"HalfToTheLeft", "restore", "()I"⟩
theorem hd_X_restore : y_X_restore.cls ≠ "java/lang/invoke/MethodHandle" ∧ y_X_restore.cls ≠ "java/lang/invoke/VarHandle" ∧ (parseMethodDescriptor y_X_restore.desc).map (fun d => d.parameters.length) = some 0 := ⟨by decide +kernel, by decide +kernel, by decide +kernel⟩
abbrev b_Ring_oddHeaps : ByteArray := prog_6_method_17_code
abbrev y_Ring_oddHeaps : MethodName := ⟨"HalfToTheLeft$Ring", "oddHeaps", "()I"⟩
theorem hd_Ring_oddHeaps : y_Ring_oddHeaps.cls ≠ "java/lang/invoke/MethodHandle" ∧ y_Ring_oddHeaps.cls ≠ "java/lang/invoke/VarHandle" ∧ (parseMethodDescriptor y_Ring_oddHeaps.desc).map (fun d => d.parameters.length) = some 0 := ⟨by decide +kernel, by decide +kernel, by decide +kernel⟩
abbrev b_X_count : ByteArray := prog_1_method_33_code
abbrev y_X_count : MethodName := ⟨"HalfToTheLeft", "count", "(I)I"⟩
theorem hd_X_count : y_X_count.cls ≠ "java/lang/invoke/MethodHandle" ∧ y_X_count.cls ≠ "java/lang/invoke/VarHandle" ∧ (parseMethodDescriptor y_X_count.desc).map (fun d => d.parameters.length) = some 1 := ⟨by decide +kernel, by decide +kernel, by decide +kernel⟩
abbrev b_M_no : ByteArray := prog_9_method_2_code
abbrev y_M_no : MethodName := ⟨"HalfToTheLeftModel", "no", "(I)I"⟩
theorem hd_M_no : y_M_no.cls ≠ "java/lang/invoke/MethodHandle" ∧ y_M_no.cls ≠ "java/lang/invoke/VarHandle" ∧ (parseMethodDescriptor y_M_no.desc).map (fun d => d.parameters.length) = some 1 := ⟨by decide +kernel, by decide +kernel, by decide +kernel⟩
abbrev b_M_lower : ByteArray := prog_9_method_3_code
abbrev y_M_lower : MethodName := ⟨"HalfToTheLeftModel", "lower", "(I)I"⟩
theorem hd_M_lower : y_M_lower.cls ≠ "java/lang/invoke/MethodHandle" ∧ y_M_lower.cls ≠ "java/lang/invoke/VarHandle" ∧ (parseMethodDescriptor y_M_lower.desc).map (fun d => d.parameters.length) = some 1 := ⟨by decide +kernel, by decide +kernel, by decide +kernel⟩
abbrev b_M_lowest : ByteArray := prog_9_method_4_code
abbrev y_M_lowest : MethodName := ⟨"HalfToTheLeftModel", "lowest", "(I)J"⟩
theorem hd_M_lowest : y_M_lowest.cls ≠ "java/lang/invoke/MethodHandle" ∧ y_M_lowest.cls ≠ "java/lang/invoke/VarHandle" ∧ (parseMethodDescriptor y_M_lowest.desc).map (fun d => d.parameters.length) = some 1 := ⟨by decide +kernel, by decide +kernel, by decide +kernel⟩
abbrev b_M_isIn : ByteArray := prog_9_method_5_code
abbrev y_M_isIn : MethodName := ⟨"HalfToTheLeftModel", "isIn", "(III)Z"⟩
theorem hd_M_isIn : y_M_isIn.cls ≠ "java/lang/invoke/MethodHandle" ∧ y_M_isIn.cls ≠ "java/lang/invoke/VarHandle" ∧ (parseMethodDescriptor y_M_isIn.desc).map (fun d => d.parameters.length) = some 3 := ⟨by decide +kernel, by decide +kernel, by decide +kernel⟩
abbrev b_M_bound : ByteArray := prog_9_method_6_code
abbrev y_M_bound : MethodName := ⟨"HalfToTheLeftModel", "bound", "(III)I"⟩
theorem hd_M_bound : y_M_bound.cls ≠ "java/lang/invoke/MethodHandle" ∧ y_M_bound.cls ≠ "java/lang/invoke/VarHandle" ∧ (parseMethodDescriptor y_M_bound.desc).map (fun d => d.parameters.length) = some 3 := ⟨by decide +kernel, by decide +kernel, by decide +kernel⟩
abbrev b_M_isChild : ByteArray := prog_9_method_7_code
abbrev y_M_isChild : MethodName := ⟨"HalfToTheLeftModel", "isChild", "(I)Z"⟩
theorem hd_M_isChild : y_M_isChild.cls ≠ "java/lang/invoke/MethodHandle" ∧ y_M_isChild.cls ≠ "java/lang/invoke/VarHandle" ∧ (parseMethodDescriptor y_M_isChild.desc).map (fun d => d.parameters.length) = some 1 := ⟨by decide +kernel, by decide +kernel, by decide +kernel⟩
abbrev b_M_feed : ByteArray := prog_9_method_8_code
abbrev y_M_feed : MethodName := ⟨"HalfToTheLeftModel", "feed", "(I)I"⟩
theorem hd_M_feed : y_M_feed.cls ≠ "java/lang/invoke/MethodHandle" ∧ y_M_feed.cls ≠ "java/lang/invoke/VarHandle" ∧ (parseMethodDescriptor y_M_feed.desc).map (fun d => d.parameters.length) = some 1 := ⟨by decide +kernel, by decide +kernel, by decide +kernel⟩
abbrev b_M_next : ByteArray := prog_9_method_9_code
abbrev y_M_next : MethodName := ⟨"HalfToTheLeftModel", "next", "()I"⟩
theorem hd_M_next : y_M_next.cls ≠ "java/lang/invoke/MethodHandle" ∧ y_M_next.cls ≠ "java/lang/invoke/VarHandle" ∧ (parseMethodDescriptor y_M_next.desc).map (fun d => d.parameters.length) = some 0 := ⟨by decide +kernel, by decide +kernel, by decide +kernel⟩
abbrev b_M_number : ByteArray := prog_9_method_10_code
abbrev y_M_number : MethodName := ⟨"HalfToTheLeftModel", "number", "(I)I"⟩
theorem hd_M_number : y_M_number.cls ≠ "java/lang/invoke/MethodHandle" ∧ y_M_number.cls ≠ "java/lang/invoke/VarHandle" ∧ (parseMethodDescriptor y_M_number.desc).map (fun d => d.parameters.length) = some 1 := ⟨by decide +kernel, by decide +kernel, by decide +kernel⟩
abbrev b_M_kindOf : ByteArray := prog_9_method_11_code
abbrev y_M_kindOf : MethodName := ⟨"HalfToTheLeftModel", "kindOf", "(I)I"⟩
theorem hd_M_kindOf : y_M_kindOf.cls ≠ "java/lang/invoke/MethodHandle" ∧ y_M_kindOf.cls ≠ "java/lang/invoke/VarHandle" ∧ (parseMethodDescriptor y_M_kindOf.desc).map (fun d => d.parameters.length) = some 1 := ⟨by decide +kernel, by decide +kernel, by decide +kernel⟩
abbrev b_M_statement : ByteArray := prog_9_method_12_code
abbrev y_M_statement : MethodName := ⟨"HalfToTheLeftModel", "statement", "()Z"⟩
theorem hd_M_statement : y_M_statement.cls ≠ "java/lang/invoke/MethodHandle" ∧ y_M_statement.cls ≠ "java/lang/invoke/VarHandle" ∧ (parseMethodDescriptor y_M_statement.desc).map (fun d => d.parameters.length) = some 0 := ⟨by decide +kernel, by decide +kernel, by decide +kernel⟩
abbrev b_M_comes : ByteArray := prog_9_method_13_code
abbrev y_M_comes : MethodName := ⟨"HalfToTheLeftModel", "comes", "(I)Z"⟩
theorem hd_M_comes : y_M_comes.cls ≠ "java/lang/invoke/MethodHandle" ∧ y_M_comes.cls ≠ "java/lang/invoke/VarHandle" ∧ (parseMethodDescriptor y_M_comes.desc).map (fun d => d.parameters.length) = some 1 := ⟨by decide +kernel, by decide +kernel, by decide +kernel⟩
abbrev b_M_passOne : ByteArray := prog_9_method_15_code
abbrev y_M_passOne : MethodName := ⟨"HalfToTheLeftModel", "passOne", "(I)I"⟩
theorem hd_M_passOne : y_M_passOne.cls ≠ "java/lang/invoke/MethodHandle" ∧ y_M_passOne.cls ≠ "java/lang/invoke/VarHandle" ∧ (parseMethodDescriptor y_M_passOne.desc).map (fun d => d.parameters.length) = some 1 := ⟨by decide +kernel, by decide +kernel, by decide +kernel⟩
abbrev b_M_passesAll : ByteArray := prog_9_method_16_code
abbrev y_M_passesAll : MethodName := ⟨"HalfToTheLeftModel", "passesAll", "(IZ)V"⟩
theorem hd_M_passesAll : y_M_passesAll.cls ≠ "java/lang/invoke/MethodHandle" ∧ y_M_passesAll.cls ≠ "java/lang/invoke/VarHandle" ∧ (parseMethodDescriptor y_M_passesAll.desc).map (fun d => d.parameters.length) = some 2 := ⟨by decide +kernel, by decide +kernel, by decide +kernel⟩
abbrev b_M_table : ByteArray := prog_9_method_14_code
abbrev y_M_table : MethodName := ⟨"HalfToTheLeftModel", "table", "()I"⟩
theorem hd_M_table : y_M_table.cls ≠ "java/lang/invoke/MethodHandle" ∧ y_M_table.cls ≠ "java/lang/invoke/VarHandle" ∧ (parseMethodDescriptor y_M_table.desc).map (fun d => d.parameters.length) = some 0 := ⟨by decide +kernel, by decide +kernel, by decide +kernel⟩
abbrev b_M_image : ByteArray := prog_9_method_17_code
abbrev y_M_image : MethodName := ⟨"HalfToTheLeftModel", "image", "()I"⟩
theorem hd_M_image : y_M_image.cls ≠ "java/lang/invoke/MethodHandle" ∧ y_M_image.cls ≠ "java/lang/invoke/VarHandle" ∧ (parseMethodDescriptor y_M_image.desc).map (fun d => d.parameters.length) = some 0 := ⟨by decide +kernel, by decide +kernel, by decide +kernel⟩
abbrev b_M_restore : ByteArray := prog_9_method_18_code
abbrev y_M_restore : MethodName := ⟨"HalfToTheLeftModel", "restore", "()I"⟩
theorem hd_M_restore : y_M_restore.cls ≠ "java/lang/invoke/MethodHandle" ∧ y_M_restore.cls ≠ "java/lang/invoke/VarHandle" ∧ (parseMethodDescriptor y_M_restore.desc).map (fun d => d.parameters.length) = some 0 := ⟨by decide +kernel, by decide +kernel, by decide +kernel⟩
abbrev b_M_leftOf : ByteArray := prog_9_method_19_code
abbrev y_M_leftOf : MethodName := ⟨"HalfToTheLeftModel", "leftOf", "(I)I"⟩
theorem hd_M_leftOf : y_M_leftOf.cls ≠ "java/lang/invoke/MethodHandle" ∧ y_M_leftOf.cls ≠ "java/lang/invoke/VarHandle" ∧ (parseMethodDescriptor y_M_leftOf.desc).map (fun d => d.parameters.length) = some 1 := ⟨by decide +kernel, by decide +kernel, by decide +kernel⟩
abbrev b_M_rightOf : ByteArray := prog_9_method_20_code
abbrev y_M_rightOf : MethodName := ⟨"HalfToTheLeftModel", "rightOf", "(I)I"⟩
theorem hd_M_rightOf : y_M_rightOf.cls ≠ "java/lang/invoke/MethodHandle" ∧ y_M_rightOf.cls ≠ "java/lang/invoke/VarHandle" ∧ (parseMethodDescriptor y_M_rightOf.desc).map (fun d => d.parameters.length) = some 1 := ⟨by decide +kernel, by decide +kernel, by decide +kernel⟩
abbrev b_M_givesOf : ByteArray := prog_9_method_21_code
abbrev y_M_givesOf : MethodName := ⟨"HalfToTheLeftModel", "givesOf", "(I)I"⟩
theorem hd_M_givesOf : y_M_givesOf.cls ≠ "java/lang/invoke/MethodHandle" ∧ y_M_givesOf.cls ≠ "java/lang/invoke/VarHandle" ∧ (parseMethodDescriptor y_M_givesOf.desc).map (fun d => d.parameters.length) = some 1 := ⟨by decide +kernel, by decide +kernel, by decide +kernel⟩
abbrev b_M_held : ByteArray := prog_9_method_22_code
abbrev y_M_held : MethodName := ⟨"HalfToTheLeftModel", "held", "(I)I"⟩
theorem hd_M_held : y_M_held.cls ≠ "java/lang/invoke/MethodHandle" ∧ y_M_held.cls ≠ "java/lang/invoke/VarHandle" ∧ (parseMethodDescriptor y_M_held.desc).map (fun d => d.parameters.length) = some 1 := ⟨by decide +kernel, by decide +kernel, by decide +kernel⟩
abbrev b_M_mends : ByteArray := prog_9_method_23_code
abbrev y_M_mends : MethodName := ⟨"HalfToTheLeftModel", "mends", "(I)V"⟩
theorem hd_M_mends : y_M_mends.cls ≠ "java/lang/invoke/MethodHandle" ∧ y_M_mends.cls ≠ "java/lang/invoke/VarHandle" ∧ (parseMethodDescriptor y_M_mends.desc).map (fun d => d.parameters.length) = some 1 := ⟨by decide +kernel, by decide +kernel, by decide +kernel⟩
abbrev b_M_goesOnce : ByteArray := prog_9_method_24_code
abbrev y_M_goesOnce : MethodName := ⟨"HalfToTheLeftModel", "goesOnce", "()V"⟩
theorem hd_M_goesOnce : y_M_goesOnce.cls ≠ "java/lang/invoke/MethodHandle" ∧ y_M_goesOnce.cls ≠ "java/lang/invoke/VarHandle" ∧ (parseMethodDescriptor y_M_goesOnce.desc).map (fun d => d.parameters.length) = some 0 := ⟨by decide +kernel, by decide +kernel, by decide +kernel⟩
abbrev b_M_goes : ByteArray := prog_9_method_25_code
abbrev y_M_goes : MethodName := ⟨"HalfToTheLeftModel", "goes", "(I)I"⟩
theorem hd_M_goes : y_M_goes.cls ≠ "java/lang/invoke/MethodHandle" ∧ y_M_goes.cls ≠ "java/lang/invoke/VarHandle" ∧ (parseMethodDescriptor y_M_goes.desc).map (fun d => d.parameters.length) = some 1 := ⟨by decide +kernel, by decide +kernel, by decide +kernel⟩
abbrev b_M_child : ByteArray := prog_9_method_26_code
abbrev y_M_child : MethodName := ⟨"HalfToTheLeftModel", "child", "(II)I"⟩
theorem hd_M_child : y_M_child.cls ≠ "java/lang/invoke/MethodHandle" ∧ y_M_child.cls ≠ "java/lang/invoke/VarHandle" ∧ (parseMethodDescriptor y_M_child.desc).map (fun d => d.parameters.length) = some 2 := ⟨by decide +kernel, by decide +kernel, by decide +kernel⟩
abbrev b_M_put : ByteArray := prog_9_method_27_code
abbrev y_M_put : MethodName := ⟨"HalfToTheLeftModel", "put", "(II)I"⟩
theorem hd_M_put : y_M_put.cls ≠ "java/lang/invoke/MethodHandle" ∧ y_M_put.cls ≠ "java/lang/invoke/VarHandle" ∧ (parseMethodDescriptor y_M_put.desc).map (fun d => d.parameters.length) = some 2 := ⟨by decide +kernel, by decide +kernel, by decide +kernel⟩
abbrev b_M_kind : ByteArray := prog_9_method_28_code
abbrev y_M_kind : MethodName := ⟨"HalfToTheLeftModel", "kind", "(II)I"⟩
theorem hd_M_kind : y_M_kind.cls ≠ "java/lang/invoke/MethodHandle" ∧ y_M_kind.cls ≠ "java/lang/invoke/VarHandle" ∧ (parseMethodDescriptor y_M_kind.desc).map (fun d => d.parameters.length) = some 2 := ⟨by decide +kernel, by decide +kernel, by decide +kernel⟩
abbrev b_M_set : ByteArray := prog_9_method_29_code
abbrev y_M_set : MethodName := ⟨"HalfToTheLeftModel", "set", "(II)I"⟩
theorem hd_M_set : y_M_set.cls ≠ "java/lang/invoke/MethodHandle" ∧ y_M_set.cls ≠ "java/lang/invoke/VarHandle" ∧ (parseMethodDescriptor y_M_set.desc).map (fun d => d.parameters.length) = some 2 := ⟨by decide +kernel, by decide +kernel, by decide +kernel⟩
abbrev b_M_areTwo : ByteArray := prog_9_method_30_code
abbrev y_M_areTwo : MethodName := ⟨"HalfToTheLeftModel", "areTwo", "(II)Z"⟩
theorem hd_M_areTwo : y_M_areTwo.cls ≠ "java/lang/invoke/MethodHandle" ∧ y_M_areTwo.cls ≠ "java/lang/invoke/VarHandle" ∧ (parseMethodDescriptor y_M_areTwo.desc).map (fun d => d.parameters.length) = some 2 := ⟨by decide +kernel, by decide +kernel, by decide +kernel⟩
abbrev b_M_swapsSweets : ByteArray := prog_9_method_31_code
abbrev y_M_swapsSweets : MethodName := ⟨"HalfToTheLeftModel", "swapsSweets", "(II)V"⟩
theorem hd_M_swapsSweets : y_M_swapsSweets.cls ≠ "java/lang/invoke/MethodHandle" ∧ y_M_swapsSweets.cls ≠ "java/lang/invoke/VarHandle" ∧ (parseMethodDescriptor y_M_swapsSweets.desc).map (fun d => d.parameters.length) = some 2 := ⟨by decide +kernel, by decide +kernel, by decide +kernel⟩
abbrev b_M_change : ByteArray := prog_9_method_32_code
abbrev y_M_change : MethodName := ⟨"HalfToTheLeftModel", "change", "(II)I"⟩
theorem hd_M_change : y_M_change.cls ≠ "java/lang/invoke/MethodHandle" ∧ y_M_change.cls ≠ "java/lang/invoke/VarHandle" ∧ (parseMethodDescriptor y_M_change.desc).map (fun d => d.parameters.length) = some 2 := ⟨by decide +kernel, by decide +kernel, by decide +kernel⟩
abbrev b_M_stroke : ByteArray := prog_9_method_33_code
abbrev y_M_stroke : MethodName := ⟨"HalfToTheLeftModel", "stroke", "()I"⟩
theorem hd_M_stroke : y_M_stroke.cls ≠ "java/lang/invoke/MethodHandle" ∧ y_M_stroke.cls ≠ "java/lang/invoke/VarHandle" ∧ (parseMethodDescriptor y_M_stroke.desc).map (fun d => d.parameters.length) = some 0 := ⟨by decide +kernel, by decide +kernel, by decide +kernel⟩
abbrev b_M_run : ByteArray := prog_9_method_34_code
abbrev y_M_run : MethodName := ⟨"HalfToTheLeftModel", "run", "(II)I"⟩
theorem hd_M_run : y_M_run.cls ≠ "java/lang/invoke/MethodHandle" ∧ y_M_run.cls ≠ "java/lang/invoke/VarHandle" ∧ (parseMethodDescriptor y_M_run.desc).map (fun d => d.parameters.length) = some 2 := ⟨by decide +kernel, by decide +kernel, by decide +kernel⟩
abbrev b_M_given : ByteArray := prog_9_method_35_code
abbrev y_M_given : MethodName := ⟨"HalfToTheLeftModel", "given", "(II)I"⟩
theorem hd_M_given : y_M_given.cls ≠ "java/lang/invoke/MethodHandle" ∧ y_M_given.cls ≠ "java/lang/invoke/VarHandle" ∧ (parseMethodDescriptor y_M_given.desc).map (fun d => d.parameters.length) = some 2 := ⟨by decide +kernel, by decide +kernel, by decide +kernel⟩
abbrev b_M_writesTrail : ByteArray := prog_9_method_36_code
abbrev y_M_writesTrail : MethodName := ⟨"HalfToTheLeftModel", "writesTrail", "(I)V"⟩
theorem hd_M_writesTrail : y_M_writesTrail.cls ≠ "java/lang/invoke/MethodHandle" ∧ y_M_writesTrail.cls ≠ "java/lang/invoke/VarHandle" ∧ (parseMethodDescriptor y_M_writesTrail.desc).map (fun d => d.parameters.length) = some 1 := ⟨by decide +kernel, by decide +kernel, by decide +kernel⟩
abbrev b_M_areSame : ByteArray := prog_9_method_37_code
abbrev y_M_areSame : MethodName := ⟨"HalfToTheLeftModel", "areSame", "(III)Z"⟩
theorem hd_M_areSame : y_M_areSame.cls ≠ "java/lang/invoke/MethodHandle" ∧ y_M_areSame.cls ≠ "java/lang/invoke/VarHandle" ∧ (parseMethodDescriptor y_M_areSame.desc).map (fun d => d.parameters.length) = some 3 := ⟨by decide +kernel, by decide +kernel, by decide +kernel⟩
abbrev b_M_areAlike : ByteArray := prog_9_method_38_code
abbrev y_M_areAlike : MethodName := ⟨"HalfToTheLeftModel", "areAlike", "(I)Z"⟩
theorem hd_M_areAlike : y_M_areAlike.cls ≠ "java/lang/invoke/MethodHandle" ∧ y_M_areAlike.cls ≠ "java/lang/invoke/VarHandle" ∧ (parseMethodDescriptor y_M_areAlike.desc).map (fun d => d.parameters.length) = some 1 := ⟨by decide +kernel, by decide +kernel, by decide +kernel⟩
abbrev b_M_rests : ByteArray := prog_9_method_39_code
abbrev y_M_rests : MethodName := ⟨"HalfToTheLeftModel", "rests", "()I"⟩
theorem hd_M_rests : y_M_rests.cls ≠ "java/lang/invoke/MethodHandle" ∧ y_M_rests.cls ≠ "java/lang/invoke/VarHandle" ∧ (parseMethodDescriptor y_M_rests.desc).map (fun d => d.parameters.length) = some 0 := ⟨by decide +kernel, by decide +kernel, by decide +kernel⟩
abbrev b_M_firstAlike : ByteArray := prog_9_method_40_code
abbrev y_M_firstAlike : MethodName := ⟨"HalfToTheLeftModel", "firstAlike", "(I)I"⟩
theorem hd_M_firstAlike : y_M_firstAlike.cls ≠ "java/lang/invoke/MethodHandle" ∧ y_M_firstAlike.cls ≠ "java/lang/invoke/VarHandle" ∧ (parseMethodDescriptor y_M_firstAlike.desc).map (fun d => d.parameters.length) = some 1 := ⟨by decide +kernel, by decide +kernel, by decide +kernel⟩
abbrev b_M_alike : ByteArray := prog_9_method_41_code
abbrev y_M_alike : MethodName := ⟨"HalfToTheLeftModel", "alike", "()I"⟩
theorem hd_M_alike : y_M_alike.cls ≠ "java/lang/invoke/MethodHandle" ∧ y_M_alike.cls ≠ "java/lang/invoke/VarHandle" ∧ (parseMethodDescriptor y_M_alike.desc).map (fun d => d.parameters.length) = some 0 := ⟨by decide +kernel, by decide +kernel, by decide +kernel⟩
abbrev b_M_ring : ByteArray := prog_9_method_42_code
abbrev y_M_ring : MethodName := ⟨"HalfToTheLeftModel", "ring", "(I)I"⟩
theorem hd_M_ring : y_M_ring.cls ≠ "java/lang/invoke/MethodHandle" ∧ y_M_ring.cls ≠ "java/lang/invoke/VarHandle" ∧ (parseMethodDescriptor y_M_ring.desc).map (fun d => d.parameters.length) = some 1 := ⟨by decide +kernel, by decide +kernel, by decide +kernel⟩
abbrev b_M_meet : ByteArray := prog_9_method_43_code
abbrev y_M_meet : MethodName := ⟨"HalfToTheLeftModel", "meet", "(II)I"⟩
theorem hd_M_meet : y_M_meet.cls ≠ "java/lang/invoke/MethodHandle" ∧ y_M_meet.cls ≠ "java/lang/invoke/VarHandle" ∧ (parseMethodDescriptor y_M_meet.desc).map (fun d => d.parameters.length) = some 2 := ⟨by decide +kernel, by decide +kernel, by decide +kernel⟩
abbrev b_M_begins : ByteArray := prog_9_method_44_code
abbrev y_M_begins : MethodName := ⟨"HalfToTheLeftModel", "begins", "()V"⟩
theorem hd_M_begins : y_M_begins.cls ≠ "java/lang/invoke/MethodHandle" ∧ y_M_begins.cls ≠ "java/lang/invoke/VarHandle" ∧ (parseMethodDescriptor y_M_begins.desc).map (fun d => d.parameters.length) = some 0 := ⟨by decide +kernel, by decide +kernel, by decide +kernel⟩
abbrev b_M_halves : ByteArray := prog_9_method_45_code
abbrev y_M_halves : MethodName := ⟨"HalfToTheLeftModel", "halves", "()V"⟩
theorem hd_M_halves : y_M_halves.cls ≠ "java/lang/invoke/MethodHandle" ∧ y_M_halves.cls ≠ "java/lang/invoke/VarHandle" ∧ (parseMethodDescriptor y_M_halves.desc).map (fun d => d.parameters.length) = some 0 := ⟨by decide +kernel, by decide +kernel, by decide +kernel⟩
abbrev b_M_divisor : ByteArray := prog_9_method_46_code
abbrev y_M_divisor : MethodName := ⟨"HalfToTheLeftModel", "divisor", "(JJ)J"⟩
theorem hd_M_divisor : y_M_divisor.cls ≠ "java/lang/invoke/MethodHandle" ∧ y_M_divisor.cls ≠ "java/lang/invoke/VarHandle" ∧ (parseMethodDescriptor y_M_divisor.desc).map (fun d => d.parameters.length) = some 2 := ⟨by decide +kernel, by decide +kernel, by decide +kernel⟩
abbrev b_M_crumbs : ByteArray := prog_9_method_47_code
abbrev y_M_crumbs : MethodName := ⟨"HalfToTheLeftModel", "crumbs", "(III)J"⟩
theorem hd_M_crumbs : y_M_crumbs.cls ≠ "java/lang/invoke/MethodHandle" ∧ y_M_crumbs.cls ≠ "java/lang/invoke/VarHandle" ∧ (parseMethodDescriptor y_M_crumbs.desc).map (fun d => d.parameters.length) = some 3 := ⟨by decide +kernel, by decide +kernel, by decide +kernel⟩
abbrev b_M_sum : ByteArray := prog_9_method_48_code
abbrev y_M_sum : MethodName := ⟨"HalfToTheLeftModel", "sum", "()I"⟩
theorem hd_M_sum : y_M_sum.cls ≠ "java/lang/invoke/MethodHandle" ∧ y_M_sum.cls ≠ "java/lang/invoke/VarHandle" ∧ (parseMethodDescriptor y_M_sum.desc).map (fun d => d.parameters.length) = some 0 := ⟨by decide +kernel, by decide +kernel, by decide +kernel⟩
abbrev b_M_mean : ByteArray := prog_9_method_49_code
abbrev y_M_mean : MethodName := ⟨"HalfToTheLeftModel", "mean", "(I)I"⟩
theorem hd_M_mean : y_M_mean.cls ≠ "java/lang/invoke/MethodHandle" ∧ y_M_mean.cls ≠ "java/lang/invoke/VarHandle" ∧ (parseMethodDescriptor y_M_mean.desc).map (fun d => d.parameters.length) = some 1 := ⟨by decide +kernel, by decide +kernel, by decide +kernel⟩
abbrev b_M_areNear : ByteArray := prog_9_method_50_code
abbrev y_M_areNear : MethodName := ⟨"HalfToTheLeftModel", "areNear", "(JI)Z"⟩
theorem hd_M_areNear : y_M_areNear.cls ≠ "java/lang/invoke/MethodHandle" ∧ y_M_areNear.cls ≠ "java/lang/invoke/VarHandle" ∧ (parseMethodDescriptor y_M_areNear.desc).map (fun d => d.parameters.length) = some 2 := ⟨by decide +kernel, by decide +kernel, by decide +kernel⟩
abbrev b_M_near : ByteArray := prog_9_method_51_code
abbrev y_M_near : MethodName := ⟨"HalfToTheLeftModel", "near", "(I)I"⟩
theorem hd_M_near : y_M_near.cls ≠ "java/lang/invoke/MethodHandle" ∧ y_M_near.cls ≠ "java/lang/invoke/VarHandle" ∧ (parseMethodDescriptor y_M_near.desc).map (fun d => d.parameters.length) = some 1 := ⟨by decide +kernel, by decide +kernel, by decide +kernel⟩
abbrev b_M_notBefore : ByteArray := prog_9_method_52_code
abbrev y_M_notBefore : MethodName := ⟨"HalfToTheLeftModel", "notBefore", "(I)I"⟩
theorem hd_M_notBefore : y_M_notBefore.cls ≠ "java/lang/invoke/MethodHandle" ∧ y_M_notBefore.cls ≠ "java/lang/invoke/VarHandle" ∧ (parseMethodDescriptor y_M_notBefore.desc).map (fun d => d.parameters.length) = some 1 := ⟨by decide +kernel, by decide +kernel, by decide +kernel⟩
abbrev b_M_findBefore : ByteArray := prog_9_method_53_code
abbrev y_M_findBefore : MethodName := ⟨"HalfToTheLeftModel", "findBefore", "(III)V"⟩
theorem hd_M_findBefore : y_M_findBefore.cls ≠ "java/lang/invoke/MethodHandle" ∧ y_M_findBefore.cls ≠ "java/lang/invoke/VarHandle" ∧ (parseMethodDescriptor y_M_findBefore.desc).map (fun d => d.parameters.length) = some 3 := ⟨by decide +kernel, by decide +kernel, by decide +kernel⟩
abbrev b_M_before : ByteArray := prog_9_method_54_code
abbrev y_M_before : MethodName := ⟨"HalfToTheLeftModel", "before", "(I)I"⟩
theorem hd_M_before : y_M_before.cls ≠ "java/lang/invoke/MethodHandle" ∧ y_M_before.cls ≠ "java/lang/invoke/VarHandle" ∧ (parseMethodDescriptor y_M_before.desc).map (fun d => d.parameters.length) = some 1 := ⟨by decide +kernel, by decide +kernel, by decide +kernel⟩
abbrev b_M_beforeOf : ByteArray := prog_9_method_55_code
abbrev y_M_beforeOf : MethodName := ⟨"HalfToTheLeftModel", "beforeOf", "(III)I"⟩
theorem hd_M_beforeOf : y_M_beforeOf.cls ≠ "java/lang/invoke/MethodHandle" ∧ y_M_beforeOf.cls ≠ "java/lang/invoke/VarHandle" ∧ (parseMethodDescriptor y_M_beforeOf.desc).map (fun d => d.parameters.length) = some 3 := ⟨by decide +kernel, by decide +kernel, by decide +kernel⟩
abbrev b_M_nextSeats : ByteArray := prog_9_method_56_code
abbrev y_M_nextSeats : MethodName := ⟨"HalfToTheLeftModel", "nextSeats", "()Z"⟩
theorem hd_M_nextSeats : y_M_nextSeats.cls ≠ "java/lang/invoke/MethodHandle" ∧ y_M_nextSeats.cls ≠ "java/lang/invoke/VarHandle" ∧ (parseMethodDescriptor y_M_nextSeats.desc).map (fun d => d.parameters.length) = some 0 := ⟨by decide +kernel, by decide +kernel, by decide +kernel⟩
abbrev b_M_seated : ByteArray := prog_9_method_57_code
abbrev y_M_seated : MethodName := ⟨"HalfToTheLeftModel", "seated", "(II)I"⟩
theorem hd_M_seated : y_M_seated.cls ≠ "java/lang/invoke/MethodHandle" ∧ y_M_seated.cls ≠ "java/lang/invoke/VarHandle" ∧ (parseMethodDescriptor y_M_seated.desc).map (fun d => d.parameters.length) = some 2 := ⟨by decide +kernel, by decide +kernel, by decide +kernel⟩
abbrev b_M_findSeats : ByteArray := prog_9_method_58_code
abbrev y_M_findSeats : MethodName := ⟨"HalfToTheLeftModel", "findSeats", "(II)I"⟩
theorem hd_M_findSeats : y_M_findSeats.cls ≠ "java/lang/invoke/MethodHandle" ∧ y_M_findSeats.cls ≠ "java/lang/invoke/VarHandle" ∧ (parseMethodDescriptor y_M_findSeats.desc).map (fun d => d.parameters.length) = some 2 := ⟨by decide +kernel, by decide +kernel, by decide +kernel⟩
abbrev b_M_seats : ByteArray := prog_9_method_59_code
abbrev y_M_seats : MethodName := ⟨"HalfToTheLeftModel", "seats", "(II)I"⟩
theorem hd_M_seats : y_M_seats.cls ≠ "java/lang/invoke/MethodHandle" ∧ y_M_seats.cls ≠ "java/lang/invoke/VarHandle" ∧ (parseMethodDescriptor y_M_seats.desc).map (fun d => d.parameters.length) = some 2 := ⟨by decide +kernel, by decide +kernel, by decide +kernel⟩
abbrev b_M_seat : ByteArray := prog_9_method_60_code
abbrev y_M_seat : MethodName := ⟨"HalfToTheLeftModel", "seat", "(III)I"⟩
theorem hd_M_seat : y_M_seat.cls ≠ "java/lang/invoke/MethodHandle" ∧ y_M_seat.cls ≠ "java/lang/invoke/VarHandle" ∧ (parseMethodDescriptor y_M_seat.desc).map (fun d => d.parameters.length) = some 3 := ⟨by decide +kernel, by decide +kernel, by decide +kernel⟩
abbrev b_M_othersBehind : ByteArray := prog_9_method_61_code
abbrev y_M_othersBehind : MethodName := ⟨"HalfToTheLeftModel", "othersBehind", "(II)I"⟩
theorem hd_M_othersBehind : y_M_othersBehind.cls ≠ "java/lang/invoke/MethodHandle" ∧ y_M_othersBehind.cls ≠ "java/lang/invoke/VarHandle" ∧ (parseMethodDescriptor y_M_othersBehind.desc).map (fun d => d.parameters.length) = some 2 := ⟨by decide +kernel, by decide +kernel, by decide +kernel⟩
abbrev b_M_hides : ByteArray := prog_9_method_62_code
abbrev y_M_hides : MethodName := ⟨"HalfToTheLeftModel", "hides", "(IIZ)I"⟩
theorem hd_M_hides : y_M_hides.cls ≠ "java/lang/invoke/MethodHandle" ∧ y_M_hides.cls ≠ "java/lang/invoke/VarHandle" ∧ (parseMethodDescriptor y_M_hides.desc).map (fun d => d.parameters.length) = some 3 := ⟨by decide +kernel, by decide +kernel, by decide +kernel⟩
abbrev b_M_felt : ByteArray := prog_9_method_63_code
abbrev y_M_felt : MethodName := ⟨"HalfToTheLeftModel", "felt", "(II)I"⟩
theorem hd_M_felt : y_M_felt.cls ≠ "java/lang/invoke/MethodHandle" ∧ y_M_felt.cls ≠ "java/lang/invoke/VarHandle" ∧ (parseMethodDescriptor y_M_felt.desc).map (fun d => d.parameters.length) = some 2 := ⟨by decide +kernel, by decide +kernel, by decide +kernel⟩
abbrev b_M_joined : ByteArray := prog_9_method_64_code
abbrev y_M_joined : MethodName := ⟨"HalfToTheLeftModel", "joined", "(I)I"⟩
theorem hd_M_joined : y_M_joined.cls ≠ "java/lang/invoke/MethodHandle" ∧ y_M_joined.cls ≠ "java/lang/invoke/VarHandle" ∧ (parseMethodDescriptor y_M_joined.desc).map (fun d => d.parameters.length) = some 1 := ⟨by decide +kernel, by decide +kernel, by decide +kernel⟩
abbrev b_M_newly : ByteArray := prog_9_method_65_code
abbrev y_M_newly : MethodName := ⟨"HalfToTheLeftModel", "newly", "(II)I"⟩
theorem hd_M_newly : y_M_newly.cls ≠ "java/lang/invoke/MethodHandle" ∧ y_M_newly.cls ≠ "java/lang/invoke/VarHandle" ∧ (parseMethodDescriptor y_M_newly.desc).map (fun d => d.parameters.length) = some 2 := ⟨by decide +kernel, by decide +kernel, by decide +kernel⟩
abbrev b_M_begun : ByteArray := prog_9_method_66_code
abbrev y_M_begun : MethodName := ⟨"HalfToTheLeftModel", "begun", "(I)I"⟩
theorem hd_M_begun : y_M_begun.cls ≠ "java/lang/invoke/MethodHandle" ∧ y_M_begun.cls ≠ "java/lang/invoke/VarHandle" ∧ (parseMethodDescriptor y_M_begun.desc).map (fun d => d.parameters.length) = some 1 := ⟨by decide +kernel, by decide +kernel, by decide +kernel⟩
abbrev b_M_draw : ByteArray := prog_9_method_67_code
abbrev y_M_draw : MethodName := ⟨"HalfToTheLeftModel", "draw", "(I)I"⟩
theorem hd_M_draw : y_M_draw.cls ≠ "java/lang/invoke/MethodHandle" ∧ y_M_draw.cls ≠ "java/lang/invoke/VarHandle" ∧ (parseMethodDescriptor y_M_draw.desc).map (fun d => d.parameters.length) = some 1 := ⟨by decide +kernel, by decide +kernel, by decide +kernel⟩
abbrev b_M_seeds : ByteArray := prog_9_method_68_code
abbrev y_M_seeds : MethodName := ⟨"HalfToTheLeftModel", "seeds", "(II)I"⟩
theorem hd_M_seeds : y_M_seeds.cls ≠ "java/lang/invoke/MethodHandle" ∧ y_M_seeds.cls ≠ "java/lang/invoke/VarHandle" ∧ (parseMethodDescriptor y_M_seeds.desc).map (fun d => d.parameters.length) = some 2 := ⟨by decide +kernel, by decide +kernel, by decide +kernel⟩
abbrev b_M_row : ByteArray := prog_9_method_69_code
abbrev y_M_row : MethodName := ⟨"HalfToTheLeftModel", "row", "(I)I"⟩
theorem hd_M_row : y_M_row.cls ≠ "java/lang/invoke/MethodHandle" ∧ y_M_row.cls ≠ "java/lang/invoke/VarHandle" ∧ (parseMethodDescriptor y_M_row.desc).map (fun d => d.parameters.length) = some 1 := ⟨by decide +kernel, by decide +kernel, by decide +kernel⟩
abbrev b_M_judge : ByteArray := prog_9_method_70_code
abbrev y_M_judge : MethodName := ⟨"HalfToTheLeftModel", "judge", "()I"⟩
theorem hd_M_judge : y_M_judge.cls ≠ "java/lang/invoke/MethodHandle" ∧ y_M_judge.cls ≠ "java/lang/invoke/VarHandle" ∧ (parseMethodDescriptor y_M_judge.desc).map (fun d => d.parameters.length) = some 0 := ⟨by decide +kernel, by decide +kernel, by decide +kernel⟩
abbrev b_M_count : ByteArray := prog_9_method_71_code
abbrev y_M_count : MethodName := ⟨"HalfToTheLeftModel", "count", "(I)I"⟩
theorem hd_M_count : y_M_count.cls ≠ "java/lang/invoke/MethodHandle" ∧ y_M_count.cls ≠ "java/lang/invoke/VarHandle" ∧ (parseMethodDescriptor y_M_count.desc).map (fun d => d.parameters.length) = some 1 := ⟨by decide +kernel, by decide +kernel, by decide +kernel⟩
