def wsX5_undo_r2 : List Cond := [Cond.initialized "java/lang/System", Cond.fieldLink RX2 19 "StreetMarket$Market" "rents" "[I", Cond.fieldLink RX2 22 "StreetMarket$Market" "roofs" "[Z", Cond.fieldLink RX2 26 "StreetMarket$Market" "traders" "I", Cond.fieldLink RX2 29 "StreetMarket$Market" "trades" "[I", Cond.fieldLink RX2 32 "StreetMarket$Market" "fronts" "[I", Cond.fieldLink RX2 35 "StreetMarket$Market" "limits" "[I", Cond.fieldLink RX2 38 "StreetMarket$Market" "needy" "[Z", Cond.fieldLink RX2 41 "StreetMarket$Market" "clashes" "[I", Cond.fieldLink RX2 44 "StreetMarket$Market" "covers" "I", Cond.fieldLink RX2 47 "StreetMarket$Market" "starts" "[I", Cond.fieldLink RX2 50 "StreetMarket$Market" "standing" "[I", Cond.fieldLink RX2 53 "StreetMarket$Market" "coversBusy" "I"]
def wsX5_undo : List Cond := .code yX5_undo cX5_undo 1 (some .int) :: ((wsX5_undo_r1 ++ wsX5_undo_r2) ++ wsX50 ++ wsX00 ++ wsX20 ++ (vx_atS RX5 72 "java/lang/IllegalStateException" ["java/lang/RuntimeException", "java/lang/Exception"]).filter goodWord)
def wsX6_init : List Cond := .code yX6_init cX6_init 2 none :: ([.methodLink RX6 1 objectInit, .instanceMethod objectInit, .code objectInit ⟨#[0xb1]⟩ 1 none, .arrayClass .int, .fieldLink RX6 7 "StreetMarketModel" "a" "[I", .fieldLink RX6 13 "StreetMarketModel" "fresh" "[I", .fieldLink RX6 16 "StreetMarketModel" "kept" "[I", .fieldLink RX6 19 "StreetMarketModel" "buffer" "[I", .fieldLink RX6 22 "StreetMarketModel" "errorAt" "I", .constant RX6 26 (345600), .fieldLink RX6 27 "StreetMarketModel" "best" "[I", .fieldLink RX6 30 "StreetMarketModel" "rentBy" "[I", .fieldLink RX6 33 "StreetMarketModel" "bareBy" "[I", .fieldLink RX6 36 "StreetMarketModel" "aheadBy" "[I", .arrayClass .boolean, .fieldLink RX6 39 "StreetMarketModel" "isEdge" "[Z", .fieldLink RX6 43 "StreetMarketModel" "tried" "[I", .fieldLink RX6 46 "StreetMarketModel" "stands" "[I", .fieldLink RX6 49 "StreetMarketModel" "found" "[I", .fieldLink RX6 52 "StreetMarketModel" "foundOn" "[I", .fieldLink RX6 55 "StreetMarketModel" "moving" "[I"] ++ wsX60)
def wsX6_thrown : List Cond := .code yX6_thrown cX6_thrown 1 (some .int) :: ([.fieldLink RX6 58 "StreetMarketModel" "thrown" "I"] ++ wsX60)
def wsX6_isIn : List Cond := .code yX6_isIn cX6_isIn 6 (some .boolean) :: ([])
def wsX6_keeps : List Cond := .code yX6_keeps cX6_keeps 2 none :: ([.fieldLink RX6 61 "StreetMarketModel" "keptMany" "I", .fieldLink RX6 16 "StreetMarketModel" "kept" "[I", .fieldLink RX6 7 "StreetMarketModel" "a" "[I"] ++ wsX60)
def wsX6_undo : List Cond := .code yX6_undo cX6_undo 2 (some .int) :: ([.fieldLink RX6 61 "StreetMarketModel" "keptMany" "I", .fieldLink RX6 58 "StreetMarketModel" "thrown" "I", .fieldLink RX6 7 "StreetMarketModel" "a" "[I", .fieldLink RX6 16 "StreetMarketModel" "kept" "[I"] ++ wsX60)
def wsX6_append : List Cond := .code yX6_append cX6_append 8 (some .int) :: ([.fieldLink RX6 64 "StreetMarketModel" "buffered" "I", .fieldLink RX6 58 "StreetMarketModel" "thrown" "I", .fieldLink RX6 19 "StreetMarketModel" "buffer" "[I"] ++ wsX60)
def wsX6_see : List Cond := .code yX6_see cX6_see 2 (some .int) :: ([.fieldLink RX6 67 "StreetMarketModel" "size" "I", .fieldLink RX6 19 "StreetMarketModel" "buffer" "[I"] ++ wsX60)
def wsX6_isSmall : List Cond := .code yX6_isSmall cX6_isSmall 1 (some .boolean) :: ([.constantLong RX6 70 (97), .constantLong RX6 72 (122), .methodLink RX6 74 yX6_isIn, .static yX6_isIn, .initialized RX6, .code yX6_isIn cX6_isIn 6 (some .boolean)])
def wsX6_isDigit : List Cond := .code yX6_isDigit cX6_isDigit 1 (some .boolean) :: ([.constantLong RX6 78 (48), .constantLong RX6 80 (57), .methodLink RX6 74 yX6_isIn, .static yX6_isIn, .initialized RX6, .code yX6_isIn cX6_isIn 6 (some .boolean)])
def wsX6_keyAt_r1 : List Cond := [Cond.fieldLink RX6 94 "StreetMarketModel" "at" "I", Cond.fieldLink RX6 97 "StreetMarketModel" "behind" "I", Cond.fieldLink RX6 19 "StreetMarketModel" "buffer" "[I", Cond.methodLink RX6 84 yJ0_length_8abf5, Cond.instanceMethod yJ0_length_8abf5, Cond.selects RJ0 yJ0_length_8abf5 yJ0_length_8abf5, Cond.initialized RJ0, Cond.code yJ0_length_8abf5 cJ0_length_8abf5 1 (some .int), Cond.fieldLink RJ0 9 "java/lang/String" "value" "[B", Cond.methodLink RJ0 335 yJ0_coder_7d493, Cond.instanceMethod yJ0_coder_7d493, Cond.selects RJ0 yJ0_coder_7d493 yJ0_coder_7d493, Cond.code yJ0_coder_7d493 cJ0_coder_7d493 1 (some .byte), Cond.fieldLink RJ0 38 "java/lang/String" "COMPACT_STRINGS" "Z", Cond.fieldLink RJ0 15 "java/lang/String" "coder" "B", Cond.methodLink RX6 90 yJ0_charAt_5068e, Cond.instanceMethod yJ0_charAt_5068e, Cond.selects RJ0 yJ0_charAt_5068e yJ0_charAt_5068e, Cond.code yJ0_charAt_5068e cJ0_charAt_5068e 2 (some .char), Cond.methodLink RJ0 492 yJ0_isLatin1_aae02, Cond.instanceMethod yJ0_isLatin1_aae02, Cond.selects RJ0 yJ0_isLatin1_aae02 yJ0_isLatin1_aae02, Cond.code yJ0_isLatin1_aae02 cJ0_isLatin1_aae02 1 (some .boolean), Cond.methodLink RJ0 495 yJ1_charAt_3b067]
def wsX6_keyAt_r2 : List Cond := [Cond.static yJ1_charAt_3b067, Cond.initialized RJ1, Cond.code yJ1_charAt_3b067 cJ1_charAt_3b067 2 (some .char), Cond.methodLink RJ1 9 yJ0_checkIndex_df160, Cond.static yJ0_checkIndex_df160, Cond.code yJ0_checkIndex_df160 cJ0_checkIndex_df160 2 none, Cond.fieldLink RJ0 1053 "jdk/internal/util/Preconditions" "SIOOBE_FORMATTER" "Ljava/util/function/BiFunction;", Cond.methodLink RJ0 1059 yJ3_checkIndex_8e157, Cond.static yJ3_checkIndex_8e157, Cond.initialized RJ3, Cond.code yJ3_checkIndex_8e157 cJ3_checkIndex_8e157 3 (some .int), Cond.methodLink RJ0 498 yJ2_charAt_3b067, Cond.static yJ2_charAt_3b067, Cond.initialized RJ2, Cond.code yJ2_charAt_3b067 cJ2_charAt_3b067 2 (some .char), Cond.methodLink RJ2 67 yJ2_checkIndex_2214a, Cond.static yJ2_checkIndex_2214a, Cond.code yJ2_checkIndex_2214a cJ2_checkIndex_2214a 2 none, Cond.methodLink RJ2 48 yJ2_length_9d52b, Cond.static yJ2_length_9d52b, Cond.code yJ2_length_9d52b cJ2_length_9d52b 1 (some .int), Cond.methodLink RJ2 414 yJ0_checkIndex_df160, Cond.methodLink RJ2 71 yJ2_getChar_3b067, Cond.static yJ2_getChar_3b067]
def wsX6_keyAt_r3 : List Cond := [Cond.code yJ2_getChar_3b067 cJ2_getChar_3b067 2 (some .char), Cond.fieldLink RJ2 44 "java/lang/StringUTF16" "$assertionsDisabled" "Z", Cond.fieldLink RJ2 59 "java/lang/StringUTF16" "HI_BYTE_SHIFT" "I", Cond.fieldLink RJ2 63 "java/lang/StringUTF16" "LO_BYTE_SHIFT" "I"]
def wsX6_keyAt : List Cond := .code yX6_keyAt cX6_keyAt 4 (some .int) :: ((wsX6_keyAt_r1 ++ (wsX6_keyAt_r2 ++ wsX6_keyAt_r3)) ++ wsX60)
def wsX6_next_r1 : List Cond := [Cond.fieldLink RX6 97 "StreetMarketModel" "behind" "I", Cond.fieldLink RX6 94 "StreetMarketModel" "at" "I", Cond.fieldLink RX6 67 "StreetMarketModel" "size" "I", Cond.fieldLink RX6 104 "StreetMarketModel" "kind" "I", Cond.fieldLink RX6 117 "StreetMarketModel" "number" "J", Cond.constantLong RX6 121 (100000), Cond.constantLong RX6 123 (10), Cond.constantLong RX6 78 (48), Cond.methodLink RX6 100 yX6_see, Cond.instanceMethod yX6_see, Cond.selects RX6 yX6_see yX6_see, Cond.initialized RX6, Cond.code yX6_see cX6_see 2 (some .int), Cond.fieldLink RX6 19 "StreetMarketModel" "buffer" "[I", Cond.methodLink RX6 107 yX6_isSmall, Cond.static yX6_isSmall, Cond.code yX6_isSmall cX6_isSmall 1 (some .boolean), Cond.constantLong RX6 70 (97), Cond.constantLong RX6 72 (122), Cond.methodLink RX6 74 yX6_isIn, Cond.static yX6_isIn, Cond.code yX6_isIn cX6_isIn 6 (some .boolean), Cond.methodLink RX6 111 yX6_keyAt, Cond.instanceMethod yX6_keyAt]
def wsX6_next_r2 : List Cond := [Cond.selects RX6 yX6_keyAt yX6_keyAt, Cond.code yX6_keyAt cX6_keyAt 4 (some .int), Cond.methodLink RX6 84 yJ0_length_8abf5, Cond.instanceMethod yJ0_length_8abf5, Cond.selects RJ0 yJ0_length_8abf5 yJ0_length_8abf5, Cond.initialized RJ0, Cond.code yJ0_length_8abf5 cJ0_length_8abf5 1 (some .int), Cond.fieldLink RJ0 9 "java/lang/String" "value" "[B", Cond.methodLink RJ0 335 yJ0_coder_7d493, Cond.instanceMethod yJ0_coder_7d493, Cond.selects RJ0 yJ0_coder_7d493 yJ0_coder_7d493, Cond.code yJ0_coder_7d493 cJ0_coder_7d493 1 (some .byte), Cond.fieldLink RJ0 38 "java/lang/String" "COMPACT_STRINGS" "Z", Cond.fieldLink RJ0 15 "java/lang/String" "coder" "B", Cond.methodLink RX6 90 yJ0_charAt_5068e, Cond.instanceMethod yJ0_charAt_5068e, Cond.selects RJ0 yJ0_charAt_5068e yJ0_charAt_5068e, Cond.code yJ0_charAt_5068e cJ0_charAt_5068e 2 (some .char), Cond.methodLink RJ0 492 yJ0_isLatin1_aae02, Cond.instanceMethod yJ0_isLatin1_aae02, Cond.selects RJ0 yJ0_isLatin1_aae02 yJ0_isLatin1_aae02, Cond.code yJ0_isLatin1_aae02 cJ0_isLatin1_aae02 1 (some .boolean), Cond.methodLink RJ0 495 yJ1_charAt_3b067, Cond.static yJ1_charAt_3b067]
def wsX6_next_r3 : List Cond := [Cond.initialized RJ1, Cond.code yJ1_charAt_3b067 cJ1_charAt_3b067 2 (some .char), Cond.methodLink RJ1 9 yJ0_checkIndex_df160, Cond.static yJ0_checkIndex_df160, Cond.code yJ0_checkIndex_df160 cJ0_checkIndex_df160 2 none, Cond.fieldLink RJ0 1053 "jdk/internal/util/Preconditions" "SIOOBE_FORMATTER" "Ljava/util/function/BiFunction;", Cond.methodLink RJ0 1059 yJ3_checkIndex_8e157, Cond.static yJ3_checkIndex_8e157, Cond.initialized RJ3, Cond.code yJ3_checkIndex_8e157 cJ3_checkIndex_8e157 3 (some .int), Cond.methodLink RJ0 498 yJ2_charAt_3b067, Cond.static yJ2_charAt_3b067, Cond.initialized RJ2, Cond.code yJ2_charAt_3b067 cJ2_charAt_3b067 2 (some .char), Cond.methodLink RJ2 67 yJ2_checkIndex_2214a, Cond.static yJ2_checkIndex_2214a, Cond.code yJ2_checkIndex_2214a cJ2_checkIndex_2214a 2 none, Cond.methodLink RJ2 48 yJ2_length_9d52b, Cond.static yJ2_length_9d52b, Cond.code yJ2_length_9d52b cJ2_length_9d52b 1 (some .int), Cond.methodLink RJ2 414 yJ0_checkIndex_df160, Cond.methodLink RJ2 71 yJ2_getChar_3b067, Cond.static yJ2_getChar_3b067, Cond.code yJ2_getChar_3b067 cJ2_getChar_3b067 2 (some .char)]
def wsX6_next_r4 : List Cond := [Cond.fieldLink RJ2 44 "java/lang/StringUTF16" "$assertionsDisabled" "Z", Cond.fieldLink RJ2 59 "java/lang/StringUTF16" "HI_BYTE_SHIFT" "I", Cond.fieldLink RJ2 63 "java/lang/StringUTF16" "LO_BYTE_SHIFT" "I", Cond.methodLink RX6 114 yX6_isDigit, Cond.static yX6_isDigit, Cond.code yX6_isDigit cX6_isDigit 1 (some .boolean), Cond.constantLong RX6 80 (57)]
def wsX6_next : List Cond := .code yX6_next cX6_next 1 none :: ((wsX6_next_r1 ++ (wsX6_next_r2 ++ (wsX6_next_r3 ++ wsX6_next_r4))) ++ wsX60)
def wsX6_fails : List Cond := .code yX6_fails cX6_fails 2 none :: ([.fieldLink RX6 125 "StreetMarketModel" "wrong" "I", .fieldLink RX6 94 "StreetMarketModel" "at" "I", .fieldLink RX6 128 "StreetMarketModel" "wrongAt" "I"] ++ wsX60)
def wsX6_is : List Cond := .code yX6_is cX6_is 2 (some .boolean) :: ([.fieldLink RX6 125 "StreetMarketModel" "wrong" "I", .fieldLink RX6 104 "StreetMarketModel" "kind" "I"] ++ wsX60)
def wsX6_eats_r1 : List Cond := [Cond.methodLink RX6 131 yX6_is, Cond.instanceMethod yX6_is, Cond.selects RX6 yX6_is yX6_is, Cond.initialized RX6, Cond.code yX6_is cX6_is 2 (some .boolean), Cond.fieldLink RX6 125 "StreetMarketModel" "wrong" "I", Cond.fieldLink RX6 104 "StreetMarketModel" "kind" "I", Cond.methodLink RX6 134 yX6_next, Cond.instanceMethod yX6_next, Cond.selects RX6 yX6_next yX6_next, Cond.code yX6_next cX6_next 1 none, Cond.fieldLink RX6 97 "StreetMarketModel" "behind" "I", Cond.fieldLink RX6 94 "StreetMarketModel" "at" "I", Cond.fieldLink RX6 67 "StreetMarketModel" "size" "I", Cond.fieldLink RX6 117 "StreetMarketModel" "number" "J", Cond.constantLong RX6 121 (100000), Cond.constantLong RX6 123 (10), Cond.constantLong RX6 78 (48), Cond.methodLink RX6 100 yX6_see, Cond.instanceMethod yX6_see, Cond.selects RX6 yX6_see yX6_see, Cond.code yX6_see cX6_see 2 (some .int), Cond.fieldLink RX6 19 "StreetMarketModel" "buffer" "[I", Cond.methodLink RX6 107 yX6_isSmall]
def wsX6_eats_r2 : List Cond := [Cond.static yX6_isSmall, Cond.code yX6_isSmall cX6_isSmall 1 (some .boolean), Cond.constantLong RX6 70 (97), Cond.constantLong RX6 72 (122), Cond.methodLink RX6 74 yX6_isIn, Cond.static yX6_isIn, Cond.code yX6_isIn cX6_isIn 6 (some .boolean), Cond.methodLink RX6 111 yX6_keyAt, Cond.instanceMethod yX6_keyAt, Cond.selects RX6 yX6_keyAt yX6_keyAt, Cond.code yX6_keyAt cX6_keyAt 4 (some .int), Cond.methodLink RX6 84 yJ0_length_8abf5, Cond.instanceMethod yJ0_length_8abf5, Cond.selects RJ0 yJ0_length_8abf5 yJ0_length_8abf5, Cond.initialized RJ0, Cond.code yJ0_length_8abf5 cJ0_length_8abf5 1 (some .int), Cond.fieldLink RJ0 9 "java/lang/String" "value" "[B", Cond.methodLink RJ0 335 yJ0_coder_7d493, Cond.instanceMethod yJ0_coder_7d493, Cond.selects RJ0 yJ0_coder_7d493 yJ0_coder_7d493, Cond.code yJ0_coder_7d493 cJ0_coder_7d493 1 (some .byte), Cond.fieldLink RJ0 38 "java/lang/String" "COMPACT_STRINGS" "Z", Cond.fieldLink RJ0 15 "java/lang/String" "coder" "B", Cond.methodLink RX6 90 yJ0_charAt_5068e]
def wsX6_eats_r3 : List Cond := [Cond.instanceMethod yJ0_charAt_5068e, Cond.selects RJ0 yJ0_charAt_5068e yJ0_charAt_5068e, Cond.code yJ0_charAt_5068e cJ0_charAt_5068e 2 (some .char), Cond.methodLink RJ0 492 yJ0_isLatin1_aae02, Cond.instanceMethod yJ0_isLatin1_aae02, Cond.selects RJ0 yJ0_isLatin1_aae02 yJ0_isLatin1_aae02, Cond.code yJ0_isLatin1_aae02 cJ0_isLatin1_aae02 1 (some .boolean), Cond.methodLink RJ0 495 yJ1_charAt_3b067, Cond.static yJ1_charAt_3b067, Cond.initialized RJ1, Cond.code yJ1_charAt_3b067 cJ1_charAt_3b067 2 (some .char), Cond.methodLink RJ1 9 yJ0_checkIndex_df160, Cond.static yJ0_checkIndex_df160, Cond.code yJ0_checkIndex_df160 cJ0_checkIndex_df160 2 none, Cond.fieldLink RJ0 1053 "jdk/internal/util/Preconditions" "SIOOBE_FORMATTER" "Ljava/util/function/BiFunction;", Cond.methodLink RJ0 1059 yJ3_checkIndex_8e157, Cond.static yJ3_checkIndex_8e157, Cond.initialized RJ3, Cond.code yJ3_checkIndex_8e157 cJ3_checkIndex_8e157 3 (some .int), Cond.methodLink RJ0 498 yJ2_charAt_3b067, Cond.static yJ2_charAt_3b067, Cond.initialized RJ2, Cond.code yJ2_charAt_3b067 cJ2_charAt_3b067 2 (some .char), Cond.methodLink RJ2 67 yJ2_checkIndex_2214a]
def wsX6_eats_r4 : List Cond := [Cond.static yJ2_checkIndex_2214a, Cond.code yJ2_checkIndex_2214a cJ2_checkIndex_2214a 2 none, Cond.methodLink RJ2 48 yJ2_length_9d52b, Cond.static yJ2_length_9d52b, Cond.code yJ2_length_9d52b cJ2_length_9d52b 1 (some .int), Cond.methodLink RJ2 414 yJ0_checkIndex_df160, Cond.methodLink RJ2 71 yJ2_getChar_3b067, Cond.static yJ2_getChar_3b067, Cond.code yJ2_getChar_3b067 cJ2_getChar_3b067 2 (some .char), Cond.fieldLink RJ2 44 "java/lang/StringUTF16" "$assertionsDisabled" "Z", Cond.fieldLink RJ2 59 "java/lang/StringUTF16" "HI_BYTE_SHIFT" "I", Cond.fieldLink RJ2 63 "java/lang/StringUTF16" "LO_BYTE_SHIFT" "I", Cond.methodLink RX6 114 yX6_isDigit, Cond.static yX6_isDigit, Cond.code yX6_isDigit cX6_isDigit 1 (some .boolean), Cond.constantLong RX6 80 (57)]
def wsX6_eats : List Cond := .code yX6_eats cX6_eats 2 (some .boolean) :: ((wsX6_eats_r1 ++ (wsX6_eats_r2 ++ (wsX6_eats_r3 ++ wsX6_eats_r4))) ++ wsX60)
def wsX6_needs_r1 : List Cond := [Cond.methodLink RX6 137 yX6_eats, Cond.instanceMethod yX6_eats, Cond.selects RX6 yX6_eats yX6_eats, Cond.initialized RX6, Cond.code yX6_eats cX6_eats 2 (some .boolean), Cond.methodLink RX6 131 yX6_is, Cond.instanceMethod yX6_is, Cond.selects RX6 yX6_is yX6_is, Cond.code yX6_is cX6_is 2 (some .boolean), Cond.fieldLink RX6 125 "StreetMarketModel" "wrong" "I", Cond.fieldLink RX6 104 "StreetMarketModel" "kind" "I", Cond.methodLink RX6 134 yX6_next, Cond.instanceMethod yX6_next, Cond.selects RX6 yX6_next yX6_next, Cond.code yX6_next cX6_next 1 none, Cond.fieldLink RX6 97 "StreetMarketModel" "behind" "I", Cond.fieldLink RX6 94 "StreetMarketModel" "at" "I", Cond.fieldLink RX6 67 "StreetMarketModel" "size" "I", Cond.fieldLink RX6 117 "StreetMarketModel" "number" "J", Cond.constantLong RX6 121 (100000), Cond.constantLong RX6 123 (10), Cond.constantLong RX6 78 (48), Cond.methodLink RX6 100 yX6_see, Cond.instanceMethod yX6_see]
def wsX6_needs_r2 : List Cond := [Cond.selects RX6 yX6_see yX6_see, Cond.code yX6_see cX6_see 2 (some .int), Cond.fieldLink RX6 19 "StreetMarketModel" "buffer" "[I", Cond.methodLink RX6 107 yX6_isSmall, Cond.static yX6_isSmall, Cond.code yX6_isSmall cX6_isSmall 1 (some .boolean), Cond.constantLong RX6 70 (97), Cond.constantLong RX6 72 (122), Cond.methodLink RX6 74 yX6_isIn, Cond.static yX6_isIn, Cond.code yX6_isIn cX6_isIn 6 (some .boolean), Cond.methodLink RX6 111 yX6_keyAt, Cond.instanceMethod yX6_keyAt, Cond.selects RX6 yX6_keyAt yX6_keyAt, Cond.code yX6_keyAt cX6_keyAt 4 (some .int), Cond.methodLink RX6 84 yJ0_length_8abf5, Cond.instanceMethod yJ0_length_8abf5, Cond.selects RJ0 yJ0_length_8abf5 yJ0_length_8abf5, Cond.initialized RJ0, Cond.code yJ0_length_8abf5 cJ0_length_8abf5 1 (some .int), Cond.fieldLink RJ0 9 "java/lang/String" "value" "[B", Cond.methodLink RJ0 335 yJ0_coder_7d493, Cond.instanceMethod yJ0_coder_7d493, Cond.selects RJ0 yJ0_coder_7d493 yJ0_coder_7d493]
def wsX6_needs_r3 : List Cond := [Cond.code yJ0_coder_7d493 cJ0_coder_7d493 1 (some .byte), Cond.fieldLink RJ0 38 "java/lang/String" "COMPACT_STRINGS" "Z", Cond.fieldLink RJ0 15 "java/lang/String" "coder" "B", Cond.methodLink RX6 90 yJ0_charAt_5068e, Cond.instanceMethod yJ0_charAt_5068e, Cond.selects RJ0 yJ0_charAt_5068e yJ0_charAt_5068e, Cond.code yJ0_charAt_5068e cJ0_charAt_5068e 2 (some .char), Cond.methodLink RJ0 492 yJ0_isLatin1_aae02, Cond.instanceMethod yJ0_isLatin1_aae02, Cond.selects RJ0 yJ0_isLatin1_aae02 yJ0_isLatin1_aae02, Cond.code yJ0_isLatin1_aae02 cJ0_isLatin1_aae02 1 (some .boolean), Cond.methodLink RJ0 495 yJ1_charAt_3b067, Cond.static yJ1_charAt_3b067, Cond.initialized RJ1, Cond.code yJ1_charAt_3b067 cJ1_charAt_3b067 2 (some .char), Cond.methodLink RJ1 9 yJ0_checkIndex_df160, Cond.static yJ0_checkIndex_df160, Cond.code yJ0_checkIndex_df160 cJ0_checkIndex_df160 2 none, Cond.fieldLink RJ0 1053 "jdk/internal/util/Preconditions" "SIOOBE_FORMATTER" "Ljava/util/function/BiFunction;", Cond.methodLink RJ0 1059 yJ3_checkIndex_8e157, Cond.static yJ3_checkIndex_8e157, Cond.initialized RJ3, Cond.code yJ3_checkIndex_8e157 cJ3_checkIndex_8e157 3 (some .int), Cond.methodLink RJ0 498 yJ2_charAt_3b067]
def wsX6_needs_r4 : List Cond := [Cond.static yJ2_charAt_3b067, Cond.initialized RJ2, Cond.code yJ2_charAt_3b067 cJ2_charAt_3b067 2 (some .char), Cond.methodLink RJ2 67 yJ2_checkIndex_2214a, Cond.static yJ2_checkIndex_2214a, Cond.code yJ2_checkIndex_2214a cJ2_checkIndex_2214a 2 none, Cond.methodLink RJ2 48 yJ2_length_9d52b, Cond.static yJ2_length_9d52b, Cond.code yJ2_length_9d52b cJ2_length_9d52b 1 (some .int), Cond.methodLink RJ2 414 yJ0_checkIndex_df160, Cond.methodLink RJ2 71 yJ2_getChar_3b067, Cond.static yJ2_getChar_3b067, Cond.code yJ2_getChar_3b067 cJ2_getChar_3b067 2 (some .char), Cond.fieldLink RJ2 44 "java/lang/StringUTF16" "$assertionsDisabled" "Z", Cond.fieldLink RJ2 59 "java/lang/StringUTF16" "HI_BYTE_SHIFT" "I", Cond.fieldLink RJ2 63 "java/lang/StringUTF16" "LO_BYTE_SHIFT" "I", Cond.methodLink RX6 114 yX6_isDigit, Cond.static yX6_isDigit, Cond.code yX6_isDigit cX6_isDigit 1 (some .boolean), Cond.constantLong RX6 80 (57), Cond.methodLink RX6 140 yX6_fails, Cond.instanceMethod yX6_fails, Cond.selects RX6 yX6_fails yX6_fails, Cond.code yX6_fails cX6_fails 2 none]
def wsX6_needs_r5 : List Cond := [Cond.fieldLink RX6 128 "StreetMarketModel" "wrongAt" "I"]
def wsX6_needs : List Cond := .code yX6_needs cX6_needs 2 none :: ((wsX6_needs_r1 ++ (wsX6_needs_r2 ++ (wsX6_needs_r3 ++ (wsX6_needs_r4 ++ wsX6_needs_r5)))) ++ wsX60)
def wsX6_takes_r1 : List Cond := [Cond.fieldLink RX6 117 "StreetMarketModel" "number" "J", Cond.fieldLink RX6 125 "StreetMarketModel" "wrong" "I", Cond.methodLink RX6 131 yX6_is, Cond.instanceMethod yX6_is, Cond.selects RX6 yX6_is yX6_is, Cond.initialized RX6, Cond.code yX6_is cX6_is 2 (some .boolean), Cond.fieldLink RX6 104 "StreetMarketModel" "kind" "I", Cond.methodLink RX6 140 yX6_fails, Cond.instanceMethod yX6_fails, Cond.selects RX6 yX6_fails yX6_fails, Cond.code yX6_fails cX6_fails 2 none, Cond.fieldLink RX6 94 "StreetMarketModel" "at" "I", Cond.fieldLink RX6 128 "StreetMarketModel" "wrongAt" "I", Cond.methodLink RX6 74 yX6_isIn, Cond.static yX6_isIn, Cond.code yX6_isIn cX6_isIn 6 (some .boolean), Cond.methodLink RX6 134 yX6_next, Cond.instanceMethod yX6_next, Cond.selects RX6 yX6_next yX6_next, Cond.code yX6_next cX6_next 1 none, Cond.fieldLink RX6 97 "StreetMarketModel" "behind" "I", Cond.fieldLink RX6 67 "StreetMarketModel" "size" "I", Cond.constantLong RX6 121 (100000)]
def wsX6_takes_r2 : List Cond := [Cond.constantLong RX6 123 (10), Cond.constantLong RX6 78 (48), Cond.methodLink RX6 100 yX6_see, Cond.instanceMethod yX6_see, Cond.selects RX6 yX6_see yX6_see, Cond.code yX6_see cX6_see 2 (some .int), Cond.fieldLink RX6 19 "StreetMarketModel" "buffer" "[I", Cond.methodLink RX6 107 yX6_isSmall, Cond.static yX6_isSmall, Cond.code yX6_isSmall cX6_isSmall 1 (some .boolean), Cond.constantLong RX6 70 (97), Cond.constantLong RX6 72 (122), Cond.methodLink RX6 111 yX6_keyAt, Cond.instanceMethod yX6_keyAt, Cond.selects RX6 yX6_keyAt yX6_keyAt, Cond.code yX6_keyAt cX6_keyAt 4 (some .int), Cond.methodLink RX6 84 yJ0_length_8abf5, Cond.instanceMethod yJ0_length_8abf5, Cond.selects RJ0 yJ0_length_8abf5 yJ0_length_8abf5, Cond.initialized RJ0, Cond.code yJ0_length_8abf5 cJ0_length_8abf5 1 (some .int), Cond.fieldLink RJ0 9 "java/lang/String" "value" "[B", Cond.methodLink RJ0 335 yJ0_coder_7d493, Cond.instanceMethod yJ0_coder_7d493]
def wsX6_takes_r3 : List Cond := [Cond.selects RJ0 yJ0_coder_7d493 yJ0_coder_7d493, Cond.code yJ0_coder_7d493 cJ0_coder_7d493 1 (some .byte), Cond.fieldLink RJ0 38 "java/lang/String" "COMPACT_STRINGS" "Z", Cond.fieldLink RJ0 15 "java/lang/String" "coder" "B", Cond.methodLink RX6 90 yJ0_charAt_5068e, Cond.instanceMethod yJ0_charAt_5068e, Cond.selects RJ0 yJ0_charAt_5068e yJ0_charAt_5068e, Cond.code yJ0_charAt_5068e cJ0_charAt_5068e 2 (some .char), Cond.methodLink RJ0 492 yJ0_isLatin1_aae02, Cond.instanceMethod yJ0_isLatin1_aae02, Cond.selects RJ0 yJ0_isLatin1_aae02 yJ0_isLatin1_aae02, Cond.code yJ0_isLatin1_aae02 cJ0_isLatin1_aae02 1 (some .boolean), Cond.methodLink RJ0 495 yJ1_charAt_3b067, Cond.static yJ1_charAt_3b067, Cond.initialized RJ1, Cond.code yJ1_charAt_3b067 cJ1_charAt_3b067 2 (some .char), Cond.methodLink RJ1 9 yJ0_checkIndex_df160, Cond.static yJ0_checkIndex_df160, Cond.code yJ0_checkIndex_df160 cJ0_checkIndex_df160 2 none, Cond.fieldLink RJ0 1053 "jdk/internal/util/Preconditions" "SIOOBE_FORMATTER" "Ljava/util/function/BiFunction;", Cond.methodLink RJ0 1059 yJ3_checkIndex_8e157, Cond.static yJ3_checkIndex_8e157, Cond.initialized RJ3, Cond.code yJ3_checkIndex_8e157 cJ3_checkIndex_8e157 3 (some .int)]
def wsX6_takes_r4 : List Cond := [Cond.methodLink RJ0 498 yJ2_charAt_3b067, Cond.static yJ2_charAt_3b067, Cond.initialized RJ2, Cond.code yJ2_charAt_3b067 cJ2_charAt_3b067 2 (some .char), Cond.methodLink RJ2 67 yJ2_checkIndex_2214a, Cond.static yJ2_checkIndex_2214a, Cond.code yJ2_checkIndex_2214a cJ2_checkIndex_2214a 2 none, Cond.methodLink RJ2 48 yJ2_length_9d52b, Cond.static yJ2_length_9d52b, Cond.code yJ2_length_9d52b cJ2_length_9d52b 1 (some .int), Cond.methodLink RJ2 414 yJ0_checkIndex_df160, Cond.methodLink RJ2 71 yJ2_getChar_3b067, Cond.static yJ2_getChar_3b067, Cond.code yJ2_getChar_3b067 cJ2_getChar_3b067 2 (some .char), Cond.fieldLink RJ2 44 "java/lang/StringUTF16" "$assertionsDisabled" "Z", Cond.fieldLink RJ2 59 "java/lang/StringUTF16" "HI_BYTE_SHIFT" "I", Cond.fieldLink RJ2 63 "java/lang/StringUTF16" "LO_BYTE_SHIFT" "I", Cond.methodLink RX6 114 yX6_isDigit, Cond.static yX6_isDigit, Cond.code yX6_isDigit cX6_isDigit 1 (some .boolean), Cond.constantLong RX6 80 (57)]
def wsX6_takes : List Cond := .code yX6_takes cX6_takes 4 (some .int) :: ((wsX6_takes_r1 ++ (wsX6_takes_r2 ++ (wsX6_takes_r3 ++ wsX6_takes_r4))) ++ wsX60)
def wsX6_readsRow_r1 : List Cond := [Cond.fieldLink RX6 13 "StreetMarketModel" "fresh" "[I", Cond.fieldLink RX6 125 "StreetMarketModel" "wrong" "I", Cond.fieldLink RX6 104 "StreetMarketModel" "kind" "I", Cond.fieldLink RX6 117 "StreetMarketModel" "number" "J", Cond.constantLong RX6 144 (999), Cond.methodLink RX6 140 yX6_fails, Cond.instanceMethod yX6_fails, Cond.selects RX6 yX6_fails yX6_fails, Cond.initialized RX6, Cond.code yX6_fails cX6_fails 2 none, Cond.fieldLink RX6 94 "StreetMarketModel" "at" "I", Cond.fieldLink RX6 128 "StreetMarketModel" "wrongAt" "I", Cond.methodLink RX6 134 yX6_next, Cond.instanceMethod yX6_next, Cond.selects RX6 yX6_next yX6_next, Cond.code yX6_next cX6_next 1 none, Cond.fieldLink RX6 97 "StreetMarketModel" "behind" "I", Cond.fieldLink RX6 67 "StreetMarketModel" "size" "I", Cond.constantLong RX6 121 (100000), Cond.constantLong RX6 123 (10), Cond.constantLong RX6 78 (48), Cond.methodLink RX6 100 yX6_see, Cond.instanceMethod yX6_see, Cond.selects RX6 yX6_see yX6_see]
def wsX6_readsRow_r2 : List Cond := [Cond.code yX6_see cX6_see 2 (some .int), Cond.fieldLink RX6 19 "StreetMarketModel" "buffer" "[I", Cond.methodLink RX6 107 yX6_isSmall, Cond.static yX6_isSmall, Cond.code yX6_isSmall cX6_isSmall 1 (some .boolean), Cond.constantLong RX6 70 (97), Cond.constantLong RX6 72 (122), Cond.methodLink RX6 74 yX6_isIn, Cond.static yX6_isIn, Cond.code yX6_isIn cX6_isIn 6 (some .boolean), Cond.methodLink RX6 111 yX6_keyAt, Cond.instanceMethod yX6_keyAt, Cond.selects RX6 yX6_keyAt yX6_keyAt, Cond.code yX6_keyAt cX6_keyAt 4 (some .int), Cond.methodLink RX6 84 yJ0_length_8abf5, Cond.instanceMethod yJ0_length_8abf5, Cond.selects RJ0 yJ0_length_8abf5 yJ0_length_8abf5, Cond.initialized RJ0, Cond.code yJ0_length_8abf5 cJ0_length_8abf5 1 (some .int), Cond.fieldLink RJ0 9 "java/lang/String" "value" "[B", Cond.methodLink RJ0 335 yJ0_coder_7d493, Cond.instanceMethod yJ0_coder_7d493, Cond.selects RJ0 yJ0_coder_7d493 yJ0_coder_7d493, Cond.code yJ0_coder_7d493 cJ0_coder_7d493 1 (some .byte)]
def wsX6_readsRow_r3 : List Cond := [Cond.fieldLink RJ0 38 "java/lang/String" "COMPACT_STRINGS" "Z", Cond.fieldLink RJ0 15 "java/lang/String" "coder" "B", Cond.methodLink RX6 90 yJ0_charAt_5068e, Cond.instanceMethod yJ0_charAt_5068e, Cond.selects RJ0 yJ0_charAt_5068e yJ0_charAt_5068e, Cond.code yJ0_charAt_5068e cJ0_charAt_5068e 2 (some .char), Cond.methodLink RJ0 492 yJ0_isLatin1_aae02, Cond.instanceMethod yJ0_isLatin1_aae02, Cond.selects RJ0 yJ0_isLatin1_aae02 yJ0_isLatin1_aae02, Cond.code yJ0_isLatin1_aae02 cJ0_isLatin1_aae02 1 (some .boolean), Cond.methodLink RJ0 495 yJ1_charAt_3b067, Cond.static yJ1_charAt_3b067, Cond.initialized RJ1, Cond.code yJ1_charAt_3b067 cJ1_charAt_3b067 2 (some .char), Cond.methodLink RJ1 9 yJ0_checkIndex_df160, Cond.static yJ0_checkIndex_df160, Cond.code yJ0_checkIndex_df160 cJ0_checkIndex_df160 2 none, Cond.fieldLink RJ0 1053 "jdk/internal/util/Preconditions" "SIOOBE_FORMATTER" "Ljava/util/function/BiFunction;", Cond.methodLink RJ0 1059 yJ3_checkIndex_8e157, Cond.static yJ3_checkIndex_8e157, Cond.initialized RJ3, Cond.code yJ3_checkIndex_8e157 cJ3_checkIndex_8e157 3 (some .int), Cond.methodLink RJ0 498 yJ2_charAt_3b067, Cond.static yJ2_charAt_3b067]
def wsX6_readsRow_r4 : List Cond := [Cond.initialized RJ2, Cond.code yJ2_charAt_3b067 cJ2_charAt_3b067 2 (some .char), Cond.methodLink RJ2 67 yJ2_checkIndex_2214a, Cond.static yJ2_checkIndex_2214a, Cond.code yJ2_checkIndex_2214a cJ2_checkIndex_2214a 2 none, Cond.methodLink RJ2 48 yJ2_length_9d52b, Cond.static yJ2_length_9d52b, Cond.code yJ2_length_9d52b cJ2_length_9d52b 1 (some .int), Cond.methodLink RJ2 414 yJ0_checkIndex_df160, Cond.methodLink RJ2 71 yJ2_getChar_3b067, Cond.static yJ2_getChar_3b067, Cond.code yJ2_getChar_3b067 cJ2_getChar_3b067 2 (some .char), Cond.fieldLink RJ2 44 "java/lang/StringUTF16" "$assertionsDisabled" "Z", Cond.fieldLink RJ2 59 "java/lang/StringUTF16" "HI_BYTE_SHIFT" "I", Cond.fieldLink RJ2 63 "java/lang/StringUTF16" "LO_BYTE_SHIFT" "I", Cond.methodLink RX6 114 yX6_isDigit, Cond.static yX6_isDigit, Cond.code yX6_isDigit cX6_isDigit 1 (some .boolean), Cond.constantLong RX6 80 (57), Cond.methodLink RX6 131 yX6_is, Cond.instanceMethod yX6_is, Cond.selects RX6 yX6_is yX6_is, Cond.code yX6_is cX6_is 2 (some .boolean), Cond.methodLink RX6 146 yX6_takes]
def wsX6_readsRow_r5 : List Cond := [Cond.instanceMethod yX6_takes, Cond.selects RX6 yX6_takes yX6_takes, Cond.code yX6_takes cX6_takes 4 (some .int), Cond.methodLink RX6 137 yX6_eats, Cond.instanceMethod yX6_eats, Cond.selects RX6 yX6_eats yX6_eats, Cond.code yX6_eats cX6_eats 2 (some .boolean)]
def wsX6_readsRow : List Cond := .code yX6_readsRow cX6_readsRow 5 none :: ((wsX6_readsRow_r1 ++ (wsX6_readsRow_r2 ++ (wsX6_readsRow_r3 ++ (wsX6_readsRow_r4 ++ wsX6_readsRow_r5)))) ++ wsX60)
def wsX6_readsTrader_r1 : List Cond := [Cond.fieldLink RX6 13 "StreetMarketModel" "fresh" "[I", Cond.fieldLink RX6 125 "StreetMarketModel" "wrong" "I", Cond.methodLink RX6 140 yX6_fails, Cond.instanceMethod yX6_fails, Cond.selects RX6 yX6_fails yX6_fails, Cond.initialized RX6, Cond.code yX6_fails cX6_fails 2 none, Cond.fieldLink RX6 94 "StreetMarketModel" "at" "I", Cond.fieldLink RX6 128 "StreetMarketModel" "wrongAt" "I", Cond.methodLink RX6 134 yX6_next, Cond.instanceMethod yX6_next, Cond.selects RX6 yX6_next yX6_next, Cond.code yX6_next cX6_next 1 none, Cond.fieldLink RX6 97 "StreetMarketModel" "behind" "I", Cond.fieldLink RX6 67 "StreetMarketModel" "size" "I", Cond.fieldLink RX6 104 "StreetMarketModel" "kind" "I", Cond.fieldLink RX6 117 "StreetMarketModel" "number" "J", Cond.constantLong RX6 121 (100000), Cond.constantLong RX6 123 (10), Cond.constantLong RX6 78 (48), Cond.methodLink RX6 100 yX6_see, Cond.instanceMethod yX6_see, Cond.selects RX6 yX6_see yX6_see, Cond.code yX6_see cX6_see 2 (some .int)]
def wsX6_readsTrader_r2 : List Cond := [Cond.fieldLink RX6 19 "StreetMarketModel" "buffer" "[I", Cond.methodLink RX6 107 yX6_isSmall, Cond.static yX6_isSmall, Cond.code yX6_isSmall cX6_isSmall 1 (some .boolean), Cond.constantLong RX6 70 (97), Cond.constantLong RX6 72 (122), Cond.methodLink RX6 74 yX6_isIn, Cond.static yX6_isIn, Cond.code yX6_isIn cX6_isIn 6 (some .boolean), Cond.methodLink RX6 111 yX6_keyAt, Cond.instanceMethod yX6_keyAt, Cond.selects RX6 yX6_keyAt yX6_keyAt, Cond.code yX6_keyAt cX6_keyAt 4 (some .int), Cond.methodLink RX6 84 yJ0_length_8abf5, Cond.instanceMethod yJ0_length_8abf5, Cond.selects RJ0 yJ0_length_8abf5 yJ0_length_8abf5, Cond.initialized RJ0, Cond.code yJ0_length_8abf5 cJ0_length_8abf5 1 (some .int), Cond.fieldLink RJ0 9 "java/lang/String" "value" "[B", Cond.methodLink RJ0 335 yJ0_coder_7d493, Cond.instanceMethod yJ0_coder_7d493, Cond.selects RJ0 yJ0_coder_7d493 yJ0_coder_7d493, Cond.code yJ0_coder_7d493 cJ0_coder_7d493 1 (some .byte), Cond.fieldLink RJ0 38 "java/lang/String" "COMPACT_STRINGS" "Z"]
def wsX6_readsTrader_r3 : List Cond := [Cond.fieldLink RJ0 15 "java/lang/String" "coder" "B", Cond.methodLink RX6 90 yJ0_charAt_5068e, Cond.instanceMethod yJ0_charAt_5068e, Cond.selects RJ0 yJ0_charAt_5068e yJ0_charAt_5068e, Cond.code yJ0_charAt_5068e cJ0_charAt_5068e 2 (some .char), Cond.methodLink RJ0 492 yJ0_isLatin1_aae02, Cond.instanceMethod yJ0_isLatin1_aae02, Cond.selects RJ0 yJ0_isLatin1_aae02 yJ0_isLatin1_aae02, Cond.code yJ0_isLatin1_aae02 cJ0_isLatin1_aae02 1 (some .boolean), Cond.methodLink RJ0 495 yJ1_charAt_3b067, Cond.static yJ1_charAt_3b067, Cond.initialized RJ1, Cond.code yJ1_charAt_3b067 cJ1_charAt_3b067 2 (some .char), Cond.methodLink RJ1 9 yJ0_checkIndex_df160, Cond.static yJ0_checkIndex_df160, Cond.code yJ0_checkIndex_df160 cJ0_checkIndex_df160 2 none, Cond.fieldLink RJ0 1053 "jdk/internal/util/Preconditions" "SIOOBE_FORMATTER" "Ljava/util/function/BiFunction;", Cond.methodLink RJ0 1059 yJ3_checkIndex_8e157, Cond.static yJ3_checkIndex_8e157, Cond.initialized RJ3, Cond.code yJ3_checkIndex_8e157 cJ3_checkIndex_8e157 3 (some .int), Cond.methodLink RJ0 498 yJ2_charAt_3b067, Cond.static yJ2_charAt_3b067, Cond.initialized RJ2]
def wsX6_readsTrader_r4 : List Cond := [Cond.code yJ2_charAt_3b067 cJ2_charAt_3b067 2 (some .char), Cond.methodLink RJ2 67 yJ2_checkIndex_2214a, Cond.static yJ2_checkIndex_2214a, Cond.code yJ2_checkIndex_2214a cJ2_checkIndex_2214a 2 none, Cond.methodLink RJ2 48 yJ2_length_9d52b, Cond.static yJ2_length_9d52b, Cond.code yJ2_length_9d52b cJ2_length_9d52b 1 (some .int), Cond.methodLink RJ2 414 yJ0_checkIndex_df160, Cond.methodLink RJ2 71 yJ2_getChar_3b067, Cond.static yJ2_getChar_3b067, Cond.code yJ2_getChar_3b067 cJ2_getChar_3b067 2 (some .char), Cond.fieldLink RJ2 44 "java/lang/StringUTF16" "$assertionsDisabled" "Z", Cond.fieldLink RJ2 59 "java/lang/StringUTF16" "HI_BYTE_SHIFT" "I", Cond.fieldLink RJ2 63 "java/lang/StringUTF16" "LO_BYTE_SHIFT" "I", Cond.methodLink RX6 114 yX6_isDigit, Cond.static yX6_isDigit, Cond.code yX6_isDigit cX6_isDigit 1 (some .boolean), Cond.constantLong RX6 80 (57), Cond.methodLink RX6 146 yX6_takes, Cond.instanceMethod yX6_takes, Cond.selects RX6 yX6_takes yX6_takes, Cond.code yX6_takes cX6_takes 4 (some .int), Cond.methodLink RX6 131 yX6_is, Cond.instanceMethod yX6_is]
def wsX6_readsTrader_r5 : List Cond := [Cond.selects RX6 yX6_is yX6_is, Cond.code yX6_is cX6_is 2 (some .boolean), Cond.methodLink RX6 150 yX6_needs, Cond.instanceMethod yX6_needs, Cond.selects RX6 yX6_needs yX6_needs, Cond.code yX6_needs cX6_needs 2 none, Cond.methodLink RX6 137 yX6_eats, Cond.instanceMethod yX6_eats, Cond.selects RX6 yX6_eats yX6_eats, Cond.code yX6_eats cX6_eats 2 (some .boolean)]
def wsX6_readsTrader : List Cond := .code yX6_readsTrader cX6_readsTrader 5 none :: ((wsX6_readsTrader_r1 ++ (wsX6_readsTrader_r2 ++ (wsX6_readsTrader_r3 ++ (wsX6_readsTrader_r4 ++ wsX6_readsTrader_r5)))) ++ wsX60)
def wsX6_clashes : List Cond := .code yX6_clashes cX6_clashes 4 none :: ([])
def wsX6_readsStatement_r1 : List Cond := [Cond.fieldLink RX6 125 "StreetMarketModel" "wrong" "I", Cond.fieldLink RX6 13 "StreetMarketModel" "fresh" "[I", Cond.methodLink RX6 131 yX6_is, Cond.instanceMethod yX6_is, Cond.selects RX6 yX6_is yX6_is, Cond.initialized RX6, Cond.code yX6_is cX6_is 2 (some .boolean), Cond.fieldLink RX6 104 "StreetMarketModel" "kind" "I", Cond.methodLink RX6 153 yX6_readsRow, Cond.instanceMethod yX6_readsRow, Cond.selects RX6 yX6_readsRow yX6_readsRow, Cond.code yX6_readsRow cX6_readsRow 5 none, Cond.fieldLink RX6 117 "StreetMarketModel" "number" "J", Cond.constantLong RX6 144 (999), Cond.methodLink RX6 140 yX6_fails, Cond.instanceMethod yX6_fails, Cond.selects RX6 yX6_fails yX6_fails, Cond.code yX6_fails cX6_fails 2 none, Cond.fieldLink RX6 94 "StreetMarketModel" "at" "I", Cond.fieldLink RX6 128 "StreetMarketModel" "wrongAt" "I", Cond.methodLink RX6 134 yX6_next, Cond.instanceMethod yX6_next, Cond.selects RX6 yX6_next yX6_next, Cond.code yX6_next cX6_next 1 none]
def wsX6_readsStatement_r2 : List Cond := [Cond.fieldLink RX6 97 "StreetMarketModel" "behind" "I", Cond.fieldLink RX6 67 "StreetMarketModel" "size" "I", Cond.constantLong RX6 121 (100000), Cond.constantLong RX6 123 (10), Cond.constantLong RX6 78 (48), Cond.methodLink RX6 100 yX6_see, Cond.instanceMethod yX6_see, Cond.selects RX6 yX6_see yX6_see, Cond.code yX6_see cX6_see 2 (some .int), Cond.fieldLink RX6 19 "StreetMarketModel" "buffer" "[I", Cond.methodLink RX6 107 yX6_isSmall, Cond.static yX6_isSmall, Cond.code yX6_isSmall cX6_isSmall 1 (some .boolean), Cond.constantLong RX6 70 (97), Cond.constantLong RX6 72 (122), Cond.methodLink RX6 74 yX6_isIn, Cond.static yX6_isIn, Cond.code yX6_isIn cX6_isIn 6 (some .boolean), Cond.methodLink RX6 111 yX6_keyAt, Cond.instanceMethod yX6_keyAt, Cond.selects RX6 yX6_keyAt yX6_keyAt, Cond.code yX6_keyAt cX6_keyAt 4 (some .int), Cond.methodLink RX6 84 yJ0_length_8abf5, Cond.instanceMethod yJ0_length_8abf5]
def wsX6_readsStatement_r3 : List Cond := [Cond.selects RJ0 yJ0_length_8abf5 yJ0_length_8abf5, Cond.initialized RJ0, Cond.code yJ0_length_8abf5 cJ0_length_8abf5 1 (some .int), Cond.fieldLink RJ0 9 "java/lang/String" "value" "[B", Cond.methodLink RJ0 335 yJ0_coder_7d493, Cond.instanceMethod yJ0_coder_7d493, Cond.selects RJ0 yJ0_coder_7d493 yJ0_coder_7d493, Cond.code yJ0_coder_7d493 cJ0_coder_7d493 1 (some .byte), Cond.fieldLink RJ0 38 "java/lang/String" "COMPACT_STRINGS" "Z", Cond.fieldLink RJ0 15 "java/lang/String" "coder" "B", Cond.methodLink RX6 90 yJ0_charAt_5068e, Cond.instanceMethod yJ0_charAt_5068e, Cond.selects RJ0 yJ0_charAt_5068e yJ0_charAt_5068e, Cond.code yJ0_charAt_5068e cJ0_charAt_5068e 2 (some .char), Cond.methodLink RJ0 492 yJ0_isLatin1_aae02, Cond.instanceMethod yJ0_isLatin1_aae02, Cond.selects RJ0 yJ0_isLatin1_aae02 yJ0_isLatin1_aae02, Cond.code yJ0_isLatin1_aae02 cJ0_isLatin1_aae02 1 (some .boolean), Cond.methodLink RJ0 495 yJ1_charAt_3b067, Cond.static yJ1_charAt_3b067, Cond.initialized RJ1, Cond.code yJ1_charAt_3b067 cJ1_charAt_3b067 2 (some .char), Cond.methodLink RJ1 9 yJ0_checkIndex_df160, Cond.static yJ0_checkIndex_df160]
def wsX6_readsStatement_r4 : List Cond := [Cond.code yJ0_checkIndex_df160 cJ0_checkIndex_df160 2 none, Cond.fieldLink RJ0 1053 "jdk/internal/util/Preconditions" "SIOOBE_FORMATTER" "Ljava/util/function/BiFunction;", Cond.methodLink RJ0 1059 yJ3_checkIndex_8e157, Cond.static yJ3_checkIndex_8e157, Cond.initialized RJ3, Cond.code yJ3_checkIndex_8e157 cJ3_checkIndex_8e157 3 (some .int), Cond.methodLink RJ0 498 yJ2_charAt_3b067, Cond.static yJ2_charAt_3b067, Cond.initialized RJ2, Cond.code yJ2_charAt_3b067 cJ2_charAt_3b067 2 (some .char), Cond.methodLink RJ2 67 yJ2_checkIndex_2214a, Cond.static yJ2_checkIndex_2214a, Cond.code yJ2_checkIndex_2214a cJ2_checkIndex_2214a 2 none, Cond.methodLink RJ2 48 yJ2_length_9d52b, Cond.static yJ2_length_9d52b, Cond.code yJ2_length_9d52b cJ2_length_9d52b 1 (some .int), Cond.methodLink RJ2 414 yJ0_checkIndex_df160, Cond.methodLink RJ2 71 yJ2_getChar_3b067, Cond.static yJ2_getChar_3b067, Cond.code yJ2_getChar_3b067 cJ2_getChar_3b067 2 (some .char), Cond.fieldLink RJ2 44 "java/lang/StringUTF16" "$assertionsDisabled" "Z", Cond.fieldLink RJ2 59 "java/lang/StringUTF16" "HI_BYTE_SHIFT" "I", Cond.fieldLink RJ2 63 "java/lang/StringUTF16" "LO_BYTE_SHIFT" "I", Cond.methodLink RX6 114 yX6_isDigit]
def wsX6_readsStatement_r5 : List Cond := [Cond.static yX6_isDigit, Cond.code yX6_isDigit cX6_isDigit 1 (some .boolean), Cond.constantLong RX6 80 (57), Cond.methodLink RX6 146 yX6_takes, Cond.instanceMethod yX6_takes, Cond.selects RX6 yX6_takes yX6_takes, Cond.code yX6_takes cX6_takes 4 (some .int), Cond.methodLink RX6 137 yX6_eats, Cond.instanceMethod yX6_eats, Cond.selects RX6 yX6_eats yX6_eats, Cond.code yX6_eats cX6_eats 2 (some .boolean), Cond.methodLink RX6 156 yX6_readsTrader, Cond.instanceMethod yX6_readsTrader, Cond.selects RX6 yX6_readsTrader yX6_readsTrader, Cond.code yX6_readsTrader cX6_readsTrader 5 none, Cond.methodLink RX6 150 yX6_needs, Cond.instanceMethod yX6_needs, Cond.selects RX6 yX6_needs yX6_needs, Cond.code yX6_needs cX6_needs 2 none, Cond.methodLink RX6 159 yX6_clashes, Cond.static yX6_clashes, Cond.code yX6_clashes cX6_clashes 4 none]
def wsX6_readsStatement : List Cond := .code yX6_readsStatement cX6_readsStatement 3 none :: ((wsX6_readsStatement_r1 ++ (wsX6_readsStatement_r2 ++ (wsX6_readsStatement_r3 ++ (wsX6_readsStatement_r4 ++ wsX6_readsStatement_r5)))) ++ wsX60)
def wsX6_load_r1 : List Cond := [Cond.fieldLink RX6 64 "StreetMarketModel" "buffered" "I", Cond.fieldLink RX6 58 "StreetMarketModel" "thrown" "I", Cond.fieldLink RX6 67 "StreetMarketModel" "size" "I", Cond.fieldLink RX6 97 "StreetMarketModel" "behind" "I", Cond.fieldLink RX6 125 "StreetMarketModel" "wrong" "I", Cond.fieldLink RX6 13 "StreetMarketModel" "fresh" "[I", Cond.constantLong RX6 163 (107), Cond.constantLong RX6 165 (114), Cond.fieldLink RX6 104 "StreetMarketModel" "kind" "I", Cond.fieldLink RX6 128 "StreetMarketModel" "wrongAt" "I", Cond.fieldLink RX6 22 "StreetMarketModel" "errorAt" "I", Cond.fieldLink RX6 7 "StreetMarketModel" "a" "[I", Cond.methodLink RX6 74 yX6_isIn, Cond.static yX6_isIn, Cond.initialized RX6, Cond.code yX6_isIn cX6_isIn 6 (some .boolean), Cond.methodLink RX6 134 yX6_next, Cond.instanceMethod yX6_next, Cond.selects RX6 yX6_next yX6_next, Cond.code yX6_next cX6_next 1 none, Cond.fieldLink RX6 94 "StreetMarketModel" "at" "I", Cond.fieldLink RX6 117 "StreetMarketModel" "number" "J", Cond.constantLong RX6 121 (100000), Cond.constantLong RX6 123 (10)]
def wsX6_load_r2 : List Cond := [Cond.constantLong RX6 78 (48), Cond.methodLink RX6 100 yX6_see, Cond.instanceMethod yX6_see, Cond.selects RX6 yX6_see yX6_see, Cond.code yX6_see cX6_see 2 (some .int), Cond.fieldLink RX6 19 "StreetMarketModel" "buffer" "[I", Cond.methodLink RX6 107 yX6_isSmall, Cond.static yX6_isSmall, Cond.code yX6_isSmall cX6_isSmall 1 (some .boolean), Cond.constantLong RX6 70 (97), Cond.constantLong RX6 72 (122), Cond.methodLink RX6 111 yX6_keyAt, Cond.instanceMethod yX6_keyAt, Cond.selects RX6 yX6_keyAt yX6_keyAt, Cond.code yX6_keyAt cX6_keyAt 4 (some .int), Cond.methodLink RX6 84 yJ0_length_8abf5, Cond.instanceMethod yJ0_length_8abf5, Cond.selects RJ0 yJ0_length_8abf5 yJ0_length_8abf5, Cond.initialized RJ0, Cond.code yJ0_length_8abf5 cJ0_length_8abf5 1 (some .int), Cond.fieldLink RJ0 9 "java/lang/String" "value" "[B", Cond.methodLink RJ0 335 yJ0_coder_7d493, Cond.instanceMethod yJ0_coder_7d493, Cond.selects RJ0 yJ0_coder_7d493 yJ0_coder_7d493]
def wsX6_load_r3 : List Cond := [Cond.code yJ0_coder_7d493 cJ0_coder_7d493 1 (some .byte), Cond.fieldLink RJ0 38 "java/lang/String" "COMPACT_STRINGS" "Z", Cond.fieldLink RJ0 15 "java/lang/String" "coder" "B", Cond.methodLink RX6 90 yJ0_charAt_5068e, Cond.instanceMethod yJ0_charAt_5068e, Cond.selects RJ0 yJ0_charAt_5068e yJ0_charAt_5068e, Cond.code yJ0_charAt_5068e cJ0_charAt_5068e 2 (some .char), Cond.methodLink RJ0 492 yJ0_isLatin1_aae02, Cond.instanceMethod yJ0_isLatin1_aae02, Cond.selects RJ0 yJ0_isLatin1_aae02 yJ0_isLatin1_aae02, Cond.code yJ0_isLatin1_aae02 cJ0_isLatin1_aae02 1 (some .boolean), Cond.methodLink RJ0 495 yJ1_charAt_3b067, Cond.static yJ1_charAt_3b067, Cond.initialized RJ1, Cond.code yJ1_charAt_3b067 cJ1_charAt_3b067 2 (some .char), Cond.methodLink RJ1 9 yJ0_checkIndex_df160, Cond.static yJ0_checkIndex_df160, Cond.code yJ0_checkIndex_df160 cJ0_checkIndex_df160 2 none, Cond.fieldLink RJ0 1053 "jdk/internal/util/Preconditions" "SIOOBE_FORMATTER" "Ljava/util/function/BiFunction;", Cond.methodLink RJ0 1059 yJ3_checkIndex_8e157, Cond.static yJ3_checkIndex_8e157, Cond.initialized RJ3, Cond.code yJ3_checkIndex_8e157 cJ3_checkIndex_8e157 3 (some .int), Cond.methodLink RJ0 498 yJ2_charAt_3b067]
def wsX6_load_r4 : List Cond := [Cond.static yJ2_charAt_3b067, Cond.initialized RJ2, Cond.code yJ2_charAt_3b067 cJ2_charAt_3b067 2 (some .char), Cond.methodLink RJ2 67 yJ2_checkIndex_2214a, Cond.static yJ2_checkIndex_2214a, Cond.code yJ2_checkIndex_2214a cJ2_checkIndex_2214a 2 none, Cond.methodLink RJ2 48 yJ2_length_9d52b, Cond.static yJ2_length_9d52b, Cond.code yJ2_length_9d52b cJ2_length_9d52b 1 (some .int), Cond.methodLink RJ2 414 yJ0_checkIndex_df160, Cond.methodLink RJ2 71 yJ2_getChar_3b067, Cond.static yJ2_getChar_3b067, Cond.code yJ2_getChar_3b067 cJ2_getChar_3b067 2 (some .char), Cond.fieldLink RJ2 44 "java/lang/StringUTF16" "$assertionsDisabled" "Z", Cond.fieldLink RJ2 59 "java/lang/StringUTF16" "HI_BYTE_SHIFT" "I", Cond.fieldLink RJ2 63 "java/lang/StringUTF16" "LO_BYTE_SHIFT" "I", Cond.methodLink RX6 114 yX6_isDigit, Cond.static yX6_isDigit, Cond.code yX6_isDigit cX6_isDigit 1 (some .boolean), Cond.constantLong RX6 80 (57), Cond.methodLink RX6 167 yX6_readsStatement, Cond.instanceMethod yX6_readsStatement, Cond.selects RX6 yX6_readsStatement yX6_readsStatement, Cond.code yX6_readsStatement cX6_readsStatement 3 none]
def wsX6_load_r5 : List Cond := [Cond.methodLink RX6 131 yX6_is, Cond.instanceMethod yX6_is, Cond.selects RX6 yX6_is yX6_is, Cond.code yX6_is cX6_is 2 (some .boolean), Cond.methodLink RX6 153 yX6_readsRow, Cond.instanceMethod yX6_readsRow, Cond.selects RX6 yX6_readsRow yX6_readsRow, Cond.code yX6_readsRow cX6_readsRow 5 none, Cond.constantLong RX6 144 (999), Cond.methodLink RX6 140 yX6_fails, Cond.instanceMethod yX6_fails, Cond.selects RX6 yX6_fails yX6_fails, Cond.code yX6_fails cX6_fails 2 none, Cond.methodLink RX6 146 yX6_takes, Cond.instanceMethod yX6_takes, Cond.selects RX6 yX6_takes yX6_takes, Cond.code yX6_takes cX6_takes 4 (some .int), Cond.methodLink RX6 137 yX6_eats, Cond.instanceMethod yX6_eats, Cond.selects RX6 yX6_eats yX6_eats, Cond.code yX6_eats cX6_eats 2 (some .boolean), Cond.methodLink RX6 156 yX6_readsTrader, Cond.instanceMethod yX6_readsTrader, Cond.selects RX6 yX6_readsTrader yX6_readsTrader]
def wsX6_load_r6 : List Cond := [Cond.code yX6_readsTrader cX6_readsTrader 5 none, Cond.methodLink RX6 150 yX6_needs, Cond.instanceMethod yX6_needs, Cond.selects RX6 yX6_needs yX6_needs, Cond.code yX6_needs cX6_needs 2 none, Cond.methodLink RX6 159 yX6_clashes, Cond.static yX6_clashes, Cond.code yX6_clashes cX6_clashes 4 none, Cond.methodLink RX6 170 yX6_keeps, Cond.instanceMethod yX6_keeps, Cond.selects RX6 yX6_keeps yX6_keeps, Cond.code yX6_keeps cX6_keeps 2 none, Cond.fieldLink RX6 61 "StreetMarketModel" "keptMany" "I", Cond.fieldLink RX6 16 "StreetMarketModel" "kept" "[I"]
def wsX6_load : List Cond := .code yX6_load cX6_load 4 (some .int) :: ((wsX6_load_r1 ++ (wsX6_load_r2 ++ (wsX6_load_r3 ++ (wsX6_load_r4 ++ (wsX6_load_r5 ++ wsX6_load_r6))))) ++ wsX60)
def wsX6_errorPosition : List Cond := .code yX6_errorPosition cX6_errorPosition 1 (some .int) :: ([.fieldLink RX6 58 "StreetMarketModel" "thrown" "I", .fieldLink RX6 22 "StreetMarketModel" "errorAt" "I"] ++ wsX60)
def wsX6_isPitch : List Cond := .code yX6_isPitch cX6_isPitch 2 (some .boolean) :: ([.fieldLink RX6 7 "StreetMarketModel" "a" "[I", .methodLink RX6 74 yX6_isIn, .static yX6_isIn, .initialized RX6, .code yX6_isIn cX6_isIn 6 (some .boolean)] ++ wsX60)
def wsX6_isTrader : List Cond := .code yX6_isTrader cX6_isTrader 2 (some .boolean) :: ([.fieldLink RX6 7 "StreetMarketModel" "a" "[I", .methodLink RX6 74 yX6_isIn, .static yX6_isIn, .initialized RX6, .code yX6_isIn cX6_isIn 6 (some .boolean)] ++ wsX60)
def wsX6_areTrades : List Cond := .code yX6_areTrades cX6_areTrades 2 (some .boolean) :: ([.constantLong RX6 173 (7), .methodLink RX6 74 yX6_isIn, .static yX6_isIn, .initialized RX6, .code yX6_isIn cX6_isIn 6 (some .boolean)])
def wsX6_pitchCount : List Cond := .code yX6_pitchCount cX6_pitchCount 1 (some .int) :: ([.fieldLink RX6 58 "StreetMarketModel" "thrown" "I", .fieldLink RX6 7 "StreetMarketModel" "a" "[I"] ++ wsX60)
def wsX6_pitchValue : List Cond := .code yX6_pitchValue cX6_pitchValue 3 (some .int) :: ([.fieldLink RX6 58 "StreetMarketModel" "thrown" "I", .fieldLink RX6 7 "StreetMarketModel" "a" "[I", .methodLink RX6 175 yX6_isPitch, .instanceMethod yX6_isPitch, .selects RX6 yX6_isPitch yX6_isPitch, .initialized RX6, .code yX6_isPitch cX6_isPitch 2 (some .boolean), .methodLink RX6 74 yX6_isIn, .static yX6_isIn, .code yX6_isIn cX6_isIn 6 (some .boolean)] ++ wsX60)
def wsX6_traderValue : List Cond := .code yX6_traderValue cX6_traderValue 3 (some .int) :: ([.fieldLink RX6 58 "StreetMarketModel" "thrown" "I", .fieldLink RX6 7 "StreetMarketModel" "a" "[I", .methodLink RX6 178 yX6_isTrader, .instanceMethod yX6_isTrader, .selects RX6 yX6_isTrader yX6_isTrader, .initialized RX6, .code yX6_isTrader cX6_isTrader 2 (some .boolean), .methodLink RX6 74 yX6_isIn, .static yX6_isIn, .code yX6_isIn cX6_isIn 6 (some .boolean)] ++ wsX60)
def wsX6_row : List Cond := .code yX6_row cX6_row 2 (some .int) :: ([.methodLink RX6 181 yX6_pitchValue, .instanceMethod yX6_pitchValue, .selects RX6 yX6_pitchValue yX6_pitchValue, .initialized RX6, .code yX6_pitchValue cX6_pitchValue 3 (some .int), .fieldLink RX6 58 "StreetMarketModel" "thrown" "I", .fieldLink RX6 7 "StreetMarketModel" "a" "[I", .methodLink RX6 175 yX6_isPitch, .instanceMethod yX6_isPitch, .selects RX6 yX6_isPitch yX6_isPitch, .code yX6_isPitch cX6_isPitch 2 (some .boolean), .methodLink RX6 74 yX6_isIn, .static yX6_isIn, .code yX6_isIn cX6_isIn 6 (some .boolean)] ++ wsX60)
def wsX6_rent : List Cond := .code yX6_rent cX6_rent 2 (some .int) :: ([.methodLink RX6 181 yX6_pitchValue, .instanceMethod yX6_pitchValue, .selects RX6 yX6_pitchValue yX6_pitchValue, .initialized RX6, .code yX6_pitchValue cX6_pitchValue 3 (some .int), .fieldLink RX6 58 "StreetMarketModel" "thrown" "I", .fieldLink RX6 7 "StreetMarketModel" "a" "[I", .methodLink RX6 175 yX6_isPitch, .instanceMethod yX6_isPitch, .selects RX6 yX6_isPitch yX6_isPitch, .code yX6_isPitch cX6_isPitch 2 (some .boolean), .methodLink RX6 74 yX6_isIn, .static yX6_isIn, .code yX6_isIn cX6_isIn 6 (some .boolean)] ++ wsX60)
def wsX6_isRoofed : List Cond := .code yX6_isRoofed cX6_isRoofed 2 (some .boolean) :: ([.methodLink RX6 181 yX6_pitchValue, .instanceMethod yX6_pitchValue, .selects RX6 yX6_pitchValue yX6_pitchValue, .initialized RX6, .code yX6_pitchValue cX6_pitchValue 3 (some .int), .fieldLink RX6 58 "StreetMarketModel" "thrown" "I", .fieldLink RX6 7 "StreetMarketModel" "a" "[I", .methodLink RX6 175 yX6_isPitch, .instanceMethod yX6_isPitch, .selects RX6 yX6_isPitch yX6_isPitch, .code yX6_isPitch cX6_isPitch 2 (some .boolean), .methodLink RX6 74 yX6_isIn, .static yX6_isIn, .code yX6_isIn cX6_isIn 6 (some .boolean)] ++ wsX60)
def wsX6_traderCount : List Cond := .code yX6_traderCount cX6_traderCount 1 (some .int) :: ([.fieldLink RX6 58 "StreetMarketModel" "thrown" "I", .fieldLink RX6 7 "StreetMarketModel" "a" "[I"] ++ wsX60)
def wsX6_trade : List Cond := .code yX6_trade cX6_trade 2 (some .int) :: ([.methodLink RX6 184 yX6_traderValue, .instanceMethod yX6_traderValue, .selects RX6 yX6_traderValue yX6_traderValue, .initialized RX6, .code yX6_traderValue cX6_traderValue 3 (some .int), .fieldLink RX6 58 "StreetMarketModel" "thrown" "I", .fieldLink RX6 7 "StreetMarketModel" "a" "[I", .methodLink RX6 178 yX6_isTrader, .instanceMethod yX6_isTrader, .selects RX6 yX6_isTrader yX6_isTrader, .code yX6_isTrader cX6_isTrader 2 (some .boolean), .methodLink RX6 74 yX6_isIn, .static yX6_isIn, .code yX6_isIn cX6_isIn 6 (some .boolean)] ++ wsX60)
def wsX6_frontage : List Cond := .code yX6_frontage cX6_frontage 2 (some .int) :: ([.methodLink RX6 184 yX6_traderValue, .instanceMethod yX6_traderValue, .selects RX6 yX6_traderValue yX6_traderValue, .initialized RX6, .code yX6_traderValue cX6_traderValue 3 (some .int), .fieldLink RX6 58 "StreetMarketModel" "thrown" "I", .fieldLink RX6 7 "StreetMarketModel" "a" "[I", .methodLink RX6 178 yX6_isTrader, .instanceMethod yX6_isTrader, .selects RX6 yX6_isTrader yX6_isTrader, .code yX6_isTrader cX6_isTrader 2 (some .boolean), .methodLink RX6 74 yX6_isIn, .static yX6_isIn, .code yX6_isIn cX6_isIn 6 (some .boolean)] ++ wsX60)
def wsX6_start : List Cond := .code yX6_start cX6_start 2 (some .int) :: ([.methodLink RX6 184 yX6_traderValue, .instanceMethod yX6_traderValue, .selects RX6 yX6_traderValue yX6_traderValue, .initialized RX6, .code yX6_traderValue cX6_traderValue 3 (some .int), .fieldLink RX6 58 "StreetMarketModel" "thrown" "I", .fieldLink RX6 7 "StreetMarketModel" "a" "[I", .methodLink RX6 178 yX6_isTrader, .instanceMethod yX6_isTrader, .selects RX6 yX6_isTrader yX6_isTrader, .code yX6_isTrader cX6_isTrader 2 (some .boolean), .methodLink RX6 74 yX6_isIn, .static yX6_isIn, .code yX6_isIn cX6_isIn 6 (some .boolean)] ++ wsX60)
def wsX6_isOn : List Cond := .code yX6_isOn cX6_isOn 3 (some .boolean) :: ([.fieldLink RX6 7 "StreetMarketModel" "a" "[I", .methodLink RX6 74 yX6_isIn, .static yX6_isIn, .initialized RX6, .code yX6_isIn cX6_isIn 6 (some .boolean)] ++ wsX60)
def wsX6_on : List Cond := .code yX6_on cX6_on 3 (some .int) :: ([.fieldLink RX6 7 "StreetMarketModel" "a" "[I", .methodLink RX6 187 yX6_isOn, .instanceMethod yX6_isOn, .selects RX6 yX6_isOn yX6_isOn, .initialized RX6, .code yX6_isOn cX6_isOn 3 (some .boolean), .methodLink RX6 74 yX6_isIn, .static yX6_isIn, .code yX6_isIn cX6_isIn 6 (some .boolean)] ++ wsX60)
def wsX6_traderAt : List Cond := .code yX6_traderAt cX6_traderAt 2 (some .int) :: ([.fieldLink RX6 58 "StreetMarketModel" "thrown" "I", .methodLink RX6 175 yX6_isPitch, .instanceMethod yX6_isPitch, .selects RX6 yX6_isPitch yX6_isPitch, .initialized RX6, .code yX6_isPitch cX6_isPitch 2 (some .boolean), .fieldLink RX6 7 "StreetMarketModel" "a" "[I", .methodLink RX6 74 yX6_isIn, .static yX6_isIn, .code yX6_isIn cX6_isIn 6 (some .boolean), .methodLink RX6 191 yX6_on, .instanceMethod yX6_on, .selects RX6 yX6_on yX6_on, .code yX6_on cX6_on 3 (some .int), .methodLink RX6 187 yX6_isOn, .instanceMethod yX6_isOn, .selects RX6 yX6_isOn yX6_isOn, .code yX6_isOn cX6_isOn 3 (some .boolean)] ++ wsX60)
def wsX6_rentOf : List Cond := .code yX6_rentOf cX6_rentOf 5 (some .int) :: ([.fieldLink RX6 7 "StreetMarketModel" "a" "[I"] ++ wsX60)
def wsX6_bare : List Cond := .code yX6_bare cX6_bare 5 (some .int) :: ([.fieldLink RX6 7 "StreetMarketModel" "a" "[I"] ++ wsX60)
def wsX6_isRoom : List Cond := .code yX6_isRoom cX6_isRoom 4 (some .boolean) :: ([.fieldLink RX6 7 "StreetMarketModel" "a" "[I"] ++ wsX60)
def wsX6_usedCovers : List Cond := .code yX6_usedCovers cX6_usedCovers 3 (some .int) :: ([.fieldLink RX6 7 "StreetMarketModel" "a" "[I", .methodLink RX6 194 yX6_bare, .instanceMethod yX6_bare, .selects RX6 yX6_bare yX6_bare, .initialized RX6, .code yX6_bare cX6_bare 5 (some .int)] ++ wsX60)
def wsX6_doClash : List Cond := .code yX6_doClash cX6_doClash 3 (some .boolean) :: ([.fieldLink RX6 7 "StreetMarketModel" "a" "[I"] ++ wsX60)
def wsX6_setRent_r1 : List Cond := [Cond.constantLong RX6 144 (999), Cond.fieldLink RX6 58 "StreetMarketModel" "thrown" "I", Cond.fieldLink RX6 7 "StreetMarketModel" "a" "[I", Cond.methodLink RX6 175 yX6_isPitch, Cond.instanceMethod yX6_isPitch, Cond.selects RX6 yX6_isPitch yX6_isPitch, Cond.initialized RX6, Cond.code yX6_isPitch cX6_isPitch 2 (some .boolean), Cond.methodLink RX6 74 yX6_isIn, Cond.static yX6_isIn, Cond.code yX6_isIn cX6_isIn 6 (some .boolean), Cond.methodLink RX6 170 yX6_keeps, Cond.instanceMethod yX6_keeps, Cond.selects RX6 yX6_keeps yX6_keeps, Cond.code yX6_keeps cX6_keeps 2 none, Cond.fieldLink RX6 61 "StreetMarketModel" "keptMany" "I", Cond.fieldLink RX6 16 "StreetMarketModel" "kept" "[I", Cond.methodLink RX6 191 yX6_on, Cond.instanceMethod yX6_on, Cond.selects RX6 yX6_on yX6_on, Cond.code yX6_on cX6_on 3 (some .int), Cond.methodLink RX6 187 yX6_isOn, Cond.instanceMethod yX6_isOn, Cond.selects RX6 yX6_isOn yX6_isOn]
def wsX6_setRent_r2 : List Cond := [Cond.code yX6_isOn cX6_isOn 3 (some .boolean), Cond.methodLink RX6 197 yX6_rentOf, Cond.instanceMethod yX6_rentOf, Cond.selects RX6 yX6_rentOf yX6_rentOf, Cond.code yX6_rentOf cX6_rentOf 5 (some .int)]
def wsX6_setRent : List Cond := .code yX6_setRent cX6_setRent 4 (some .int) :: ((wsX6_setRent_r1 ++ wsX6_setRent_r2) ++ wsX60)
def wsX6_addTrader : List Cond := .code yX6_addTrader cX6_addTrader 6 (some .int) :: ([.constantLong RX6 173 (7), .constantLong RX6 200 (3), .constantLong RX6 202 (9999), .fieldLink RX6 7 "StreetMarketModel" "a" "[I", .fieldLink RX6 58 "StreetMarketModel" "thrown" "I", .methodLink RX6 74 yX6_isIn, .static yX6_isIn, .initialized RX6, .code yX6_isIn cX6_isIn 6 (some .boolean), .methodLink RX6 170 yX6_keeps, .instanceMethod yX6_keeps, .selects RX6 yX6_keeps yX6_keeps, .code yX6_keeps cX6_keeps 2 none, .fieldLink RX6 61 "StreetMarketModel" "keptMany" "I", .fieldLink RX6 16 "StreetMarketModel" "kept" "[I"] ++ wsX60)
def wsX6_clash : List Cond := .code yX6_clash cX6_clash 3 (some .boolean) :: ([.fieldLink RX6 58 "StreetMarketModel" "thrown" "I", .fieldLink RX6 7 "StreetMarketModel" "a" "[I", .methodLink RX6 204 yX6_areTrades, .static yX6_areTrades, .initialized RX6, .code yX6_areTrades cX6_areTrades 2 (some .boolean), .constantLong RX6 173 (7), .methodLink RX6 74 yX6_isIn, .static yX6_isIn, .code yX6_isIn cX6_isIn 6 (some .boolean)] ++ wsX60)
def wsX6_areBeside : List Cond := .code yX6_areBeside cX6_areBeside 6 (some .boolean) :: ([.fieldLink RX6 7 "StreetMarketModel" "a" "[I", .methodLink RX6 191 yX6_on, .instanceMethod yX6_on, .selects RX6 yX6_on yX6_on, .initialized RX6, .code yX6_on cX6_on 3 (some .int), .methodLink RX6 187 yX6_isOn, .instanceMethod yX6_isOn, .selects RX6 yX6_isOn yX6_isOn, .code yX6_isOn cX6_isOn 3 (some .boolean), .methodLink RX6 74 yX6_isIn, .static yX6_isIn, .code yX6_isIn cX6_isIn 6 (some .boolean)] ++ wsX60)
def wsX6_setClash_r1 : List Cond := [Cond.fieldLink RX6 58 "StreetMarketModel" "thrown" "I", Cond.fieldLink RX6 7 "StreetMarketModel" "a" "[I", Cond.methodLink RX6 204 yX6_areTrades, Cond.static yX6_areTrades, Cond.initialized RX6, Cond.code yX6_areTrades cX6_areTrades 2 (some .boolean), Cond.constantLong RX6 173 (7), Cond.methodLink RX6 74 yX6_isIn, Cond.static yX6_isIn, Cond.code yX6_isIn cX6_isIn 6 (some .boolean), Cond.methodLink RX6 207 yX6_areBeside, Cond.instanceMethod yX6_areBeside, Cond.selects RX6 yX6_areBeside yX6_areBeside, Cond.code yX6_areBeside cX6_areBeside 6 (some .boolean), Cond.methodLink RX6 191 yX6_on, Cond.instanceMethod yX6_on, Cond.selects RX6 yX6_on yX6_on, Cond.code yX6_on cX6_on 3 (some .int), Cond.methodLink RX6 187 yX6_isOn, Cond.instanceMethod yX6_isOn, Cond.selects RX6 yX6_isOn yX6_isOn, Cond.code yX6_isOn cX6_isOn 3 (some .boolean), Cond.methodLink RX6 170 yX6_keeps, Cond.instanceMethod yX6_keeps]
def wsX6_setClash_r2 : List Cond := [Cond.selects RX6 yX6_keeps yX6_keeps, Cond.code yX6_keeps cX6_keeps 2 none, Cond.fieldLink RX6 61 "StreetMarketModel" "keptMany" "I", Cond.fieldLink RX6 16 "StreetMarketModel" "kept" "[I", Cond.methodLink RX6 159 yX6_clashes, Cond.static yX6_clashes, Cond.code yX6_clashes cX6_clashes 4 none]
def wsX6_setClash : List Cond := .code yX6_setClash cX6_setClash 4 none :: ((wsX6_setClash_r1 ++ wsX6_setClash_r2) ++ wsX60)
def wsX6_setCovers : List Cond := .code yX6_setCovers cX6_setCovers 3 (some .int) :: ([.constantLong RX6 210 (4), .fieldLink RX6 58 "StreetMarketModel" "thrown" "I", .fieldLink RX6 7 "StreetMarketModel" "a" "[I", .methodLink RX6 74 yX6_isIn, .static yX6_isIn, .initialized RX6, .code yX6_isIn cX6_isIn 6 (some .boolean), .methodLink RX6 212 yX6_usedCovers, .instanceMethod yX6_usedCovers, .selects RX6 yX6_usedCovers yX6_usedCovers, .code yX6_usedCovers cX6_usedCovers 3 (some .int), .methodLink RX6 194 yX6_bare, .instanceMethod yX6_bare, .selects RX6 yX6_bare yX6_bare, .code yX6_bare cX6_bare 5 (some .int), .methodLink RX6 170 yX6_keeps, .instanceMethod yX6_keeps, .selects RX6 yX6_keeps yX6_keeps, .code yX6_keeps cX6_keeps 2 none, .fieldLink RX6 61 "StreetMarketModel" "keptMany" "I", .fieldLink RX6 16 "StreetMarketModel" "kept" "[I"] ++ wsX60)
def wsX6_isFree : List Cond := .code yX6_isFree cX6_isFree 4 (some .boolean) :: ([.fieldLink RX6 7 "StreetMarketModel" "a" "[I", .methodLink RX6 191 yX6_on, .instanceMethod yX6_on, .selects RX6 yX6_on yX6_on, .initialized RX6, .code yX6_on cX6_on 3 (some .int), .methodLink RX6 187 yX6_isOn, .instanceMethod yX6_isOn, .selects RX6 yX6_isOn yX6_isOn, .code yX6_isOn cX6_isOn 3 (some .boolean), .methodLink RX6 74 yX6_isIn, .static yX6_isIn, .code yX6_isIn cX6_isIn 6 (some .boolean)] ++ wsX60)
def wsX6_clashesAt : List Cond := .code yX6_clashesAt cX6_clashesAt 4 (some .boolean) :: ([.fieldLink RX6 7 "StreetMarketModel" "a" "[I", .methodLink RX6 175 yX6_isPitch, .instanceMethod yX6_isPitch, .selects RX6 yX6_isPitch yX6_isPitch, .initialized RX6, .code yX6_isPitch cX6_isPitch 2 (some .boolean), .methodLink RX6 74 yX6_isIn, .static yX6_isIn, .code yX6_isIn cX6_isIn 6 (some .boolean), .methodLink RX6 191 yX6_on, .instanceMethod yX6_on, .selects RX6 yX6_on yX6_on, .code yX6_on cX6_on 3 (some .int), .methodLink RX6 187 yX6_isOn, .instanceMethod yX6_isOn, .selects RX6 yX6_isOn yX6_isOn, .code yX6_isOn cX6_isOn 3 (some .boolean), .methodLink RX6 215 yX6_doClash, .instanceMethod yX6_doClash, .selects RX6 yX6_doClash yX6_doClash, .code yX6_doClash cX6_doClash 3 (some .boolean)] ++ wsX60)
def wsX6_hinders_r1 : List Cond := [Cond.fieldLink RX6 7 "StreetMarketModel" "a" "[I", Cond.methodLink RX6 218 yX6_isRoom, Cond.instanceMethod yX6_isRoom, Cond.selects RX6 yX6_isRoom yX6_isRoom, Cond.initialized RX6, Cond.code yX6_isRoom cX6_isRoom 4 (some .boolean), Cond.methodLink RX6 221 yX6_isFree, Cond.instanceMethod yX6_isFree, Cond.selects RX6 yX6_isFree yX6_isFree, Cond.code yX6_isFree cX6_isFree 4 (some .boolean), Cond.methodLink RX6 191 yX6_on, Cond.instanceMethod yX6_on, Cond.selects RX6 yX6_on yX6_on, Cond.code yX6_on cX6_on 3 (some .int), Cond.methodLink RX6 187 yX6_isOn, Cond.instanceMethod yX6_isOn, Cond.selects RX6 yX6_isOn yX6_isOn, Cond.code yX6_isOn cX6_isOn 3 (some .boolean), Cond.methodLink RX6 74 yX6_isIn, Cond.static yX6_isIn, Cond.code yX6_isIn cX6_isIn 6 (some .boolean), Cond.methodLink RX6 197 yX6_rentOf, Cond.instanceMethod yX6_rentOf, Cond.selects RX6 yX6_rentOf yX6_rentOf]
def wsX6_hinders_r2 : List Cond := [Cond.code yX6_rentOf cX6_rentOf 5 (some .int), Cond.methodLink RX6 212 yX6_usedCovers, Cond.instanceMethod yX6_usedCovers, Cond.selects RX6 yX6_usedCovers yX6_usedCovers, Cond.code yX6_usedCovers cX6_usedCovers 3 (some .int), Cond.methodLink RX6 194 yX6_bare, Cond.instanceMethod yX6_bare, Cond.selects RX6 yX6_bare yX6_bare, Cond.code yX6_bare cX6_bare 5 (some .int), Cond.methodLink RX6 224 yX6_clashesAt, Cond.instanceMethod yX6_clashesAt, Cond.selects RX6 yX6_clashesAt yX6_clashesAt, Cond.code yX6_clashesAt cX6_clashesAt 4 (some .boolean), Cond.methodLink RX6 175 yX6_isPitch, Cond.instanceMethod yX6_isPitch, Cond.selects RX6 yX6_isPitch yX6_isPitch, Cond.code yX6_isPitch cX6_isPitch 2 (some .boolean), Cond.methodLink RX6 215 yX6_doClash, Cond.instanceMethod yX6_doClash, Cond.selects RX6 yX6_doClash yX6_doClash, Cond.code yX6_doClash cX6_doClash 3 (some .boolean)]
def wsX6_hinders : List Cond := .code yX6_hinders cX6_hinders 3 (some .int) :: ((wsX6_hinders_r1 ++ wsX6_hinders_r2) ++ wsX60)
def wsX6_obstacle_r1 : List Cond := [Cond.fieldLink RX6 58 "StreetMarketModel" "thrown" "I", Cond.methodLink RX6 178 yX6_isTrader, Cond.instanceMethod yX6_isTrader, Cond.selects RX6 yX6_isTrader yX6_isTrader, Cond.initialized RX6, Cond.code yX6_isTrader cX6_isTrader 2 (some .boolean), Cond.fieldLink RX6 7 "StreetMarketModel" "a" "[I", Cond.methodLink RX6 74 yX6_isIn, Cond.static yX6_isIn, Cond.code yX6_isIn cX6_isIn 6 (some .boolean), Cond.methodLink RX6 175 yX6_isPitch, Cond.instanceMethod yX6_isPitch, Cond.selects RX6 yX6_isPitch yX6_isPitch, Cond.code yX6_isPitch cX6_isPitch 2 (some .boolean), Cond.methodLink RX6 228 yX6_hinders, Cond.instanceMethod yX6_hinders, Cond.selects RX6 yX6_hinders yX6_hinders, Cond.code yX6_hinders cX6_hinders 3 (some .int), Cond.methodLink RX6 218 yX6_isRoom, Cond.instanceMethod yX6_isRoom, Cond.selects RX6 yX6_isRoom yX6_isRoom, Cond.code yX6_isRoom cX6_isRoom 4 (some .boolean), Cond.methodLink RX6 221 yX6_isFree, Cond.instanceMethod yX6_isFree]
def wsX6_obstacle_r2 : List Cond := [Cond.selects RX6 yX6_isFree yX6_isFree, Cond.code yX6_isFree cX6_isFree 4 (some .boolean), Cond.methodLink RX6 191 yX6_on, Cond.instanceMethod yX6_on, Cond.selects RX6 yX6_on yX6_on, Cond.code yX6_on cX6_on 3 (some .int), Cond.methodLink RX6 187 yX6_isOn, Cond.instanceMethod yX6_isOn, Cond.selects RX6 yX6_isOn yX6_isOn, Cond.code yX6_isOn cX6_isOn 3 (some .boolean), Cond.methodLink RX6 197 yX6_rentOf, Cond.instanceMethod yX6_rentOf, Cond.selects RX6 yX6_rentOf yX6_rentOf, Cond.code yX6_rentOf cX6_rentOf 5 (some .int), Cond.methodLink RX6 212 yX6_usedCovers, Cond.instanceMethod yX6_usedCovers, Cond.selects RX6 yX6_usedCovers yX6_usedCovers, Cond.code yX6_usedCovers cX6_usedCovers 3 (some .int), Cond.methodLink RX6 194 yX6_bare, Cond.instanceMethod yX6_bare, Cond.selects RX6 yX6_bare yX6_bare, Cond.code yX6_bare cX6_bare 5 (some .int), Cond.methodLink RX6 224 yX6_clashesAt, Cond.instanceMethod yX6_clashesAt]
def wsX6_obstacle_r3 : List Cond := [Cond.selects RX6 yX6_clashesAt yX6_clashesAt, Cond.code yX6_clashesAt cX6_clashesAt 4 (some .boolean), Cond.methodLink RX6 215 yX6_doClash, Cond.instanceMethod yX6_doClash, Cond.selects RX6 yX6_doClash yX6_doClash, Cond.code yX6_doClash cX6_doClash 3 (some .boolean)]
def wsX6_obstacle : List Cond := .code yX6_obstacle cX6_obstacle 3 (some .int) :: ((wsX6_obstacle_r1 ++ (wsX6_obstacle_r2 ++ wsX6_obstacle_r3)) ++ wsX60)
def wsX6_place_r1 : List Cond := [Cond.fieldLink RX6 58 "StreetMarketModel" "thrown" "I", Cond.fieldLink RX6 7 "StreetMarketModel" "a" "[I", Cond.methodLink RX6 178 yX6_isTrader, Cond.instanceMethod yX6_isTrader, Cond.selects RX6 yX6_isTrader yX6_isTrader, Cond.initialized RX6, Cond.code yX6_isTrader cX6_isTrader 2 (some .boolean), Cond.methodLink RX6 74 yX6_isIn, Cond.static yX6_isIn, Cond.code yX6_isIn cX6_isIn 6 (some .boolean), Cond.methodLink RX6 175 yX6_isPitch, Cond.instanceMethod yX6_isPitch, Cond.selects RX6 yX6_isPitch yX6_isPitch, Cond.code yX6_isPitch cX6_isPitch 2 (some .boolean), Cond.methodLink RX6 228 yX6_hinders, Cond.instanceMethod yX6_hinders, Cond.selects RX6 yX6_hinders yX6_hinders, Cond.code yX6_hinders cX6_hinders 3 (some .int), Cond.methodLink RX6 218 yX6_isRoom, Cond.instanceMethod yX6_isRoom, Cond.selects RX6 yX6_isRoom yX6_isRoom, Cond.code yX6_isRoom cX6_isRoom 4 (some .boolean), Cond.methodLink RX6 221 yX6_isFree, Cond.instanceMethod yX6_isFree]
def wsX6_place_r2 : List Cond := [Cond.selects RX6 yX6_isFree yX6_isFree, Cond.code yX6_isFree cX6_isFree 4 (some .boolean), Cond.methodLink RX6 191 yX6_on, Cond.instanceMethod yX6_on, Cond.selects RX6 yX6_on yX6_on, Cond.code yX6_on cX6_on 3 (some .int), Cond.methodLink RX6 187 yX6_isOn, Cond.instanceMethod yX6_isOn, Cond.selects RX6 yX6_isOn yX6_isOn, Cond.code yX6_isOn cX6_isOn 3 (some .boolean), Cond.methodLink RX6 197 yX6_rentOf, Cond.instanceMethod yX6_rentOf, Cond.selects RX6 yX6_rentOf yX6_rentOf, Cond.code yX6_rentOf cX6_rentOf 5 (some .int), Cond.methodLink RX6 212 yX6_usedCovers, Cond.instanceMethod yX6_usedCovers, Cond.selects RX6 yX6_usedCovers yX6_usedCovers, Cond.code yX6_usedCovers cX6_usedCovers 3 (some .int), Cond.methodLink RX6 194 yX6_bare, Cond.instanceMethod yX6_bare, Cond.selects RX6 yX6_bare yX6_bare, Cond.code yX6_bare cX6_bare 5 (some .int), Cond.methodLink RX6 224 yX6_clashesAt, Cond.instanceMethod yX6_clashesAt]
def wsX6_place_r3 : List Cond := [Cond.selects RX6 yX6_clashesAt yX6_clashesAt, Cond.code yX6_clashesAt cX6_clashesAt 4 (some .boolean), Cond.methodLink RX6 215 yX6_doClash, Cond.instanceMethod yX6_doClash, Cond.selects RX6 yX6_doClash yX6_doClash, Cond.code yX6_doClash cX6_doClash 3 (some .boolean), Cond.methodLink RX6 170 yX6_keeps, Cond.instanceMethod yX6_keeps, Cond.selects RX6 yX6_keeps yX6_keeps, Cond.code yX6_keeps cX6_keeps 2 none, Cond.fieldLink RX6 61 "StreetMarketModel" "keptMany" "I", Cond.fieldLink RX6 16 "StreetMarketModel" "kept" "[I"]
def wsX6_place : List Cond := .code yX6_place cX6_place 3 (some .int) :: ((wsX6_place_r1 ++ (wsX6_place_r2 ++ wsX6_place_r3)) ++ wsX60)
def wsX6_remove : List Cond := .code yX6_remove cX6_remove 3 (some .int) :: ([.fieldLink RX6 7 "StreetMarketModel" "a" "[I", .fieldLink RX6 58 "StreetMarketModel" "thrown" "I", .methodLink RX6 178 yX6_isTrader, .instanceMethod yX6_isTrader, .selects RX6 yX6_isTrader yX6_isTrader, .initialized RX6, .code yX6_isTrader cX6_isTrader 2 (some .boolean), .methodLink RX6 74 yX6_isIn, .static yX6_isIn, .code yX6_isIn cX6_isIn 6 (some .boolean), .methodLink RX6 170 yX6_keeps, .instanceMethod yX6_keeps, .selects RX6 yX6_keeps yX6_keeps, .code yX6_keeps cX6_keeps 2 none, .fieldLink RX6 61 "StreetMarketModel" "keptMany" "I", .fieldLink RX6 16 "StreetMarketModel" "kept" "[I"] ++ wsX60)
def wsX6_placed : List Cond := .code yX6_placed cX6_placed 3 (some .int) :: ([.fieldLink RX6 7 "StreetMarketModel" "a" "[I"] ++ wsX60)
def wsX6_clear : List Cond := .code yX6_clear cX6_clear 3 (some .int) :: ([.fieldLink RX6 58 "StreetMarketModel" "thrown" "I", .fieldLink RX6 7 "StreetMarketModel" "a" "[I", .methodLink RX6 170 yX6_keeps, .instanceMethod yX6_keeps, .selects RX6 yX6_keeps yX6_keeps, .initialized RX6, .code yX6_keeps cX6_keeps 2 none, .fieldLink RX6 61 "StreetMarketModel" "keptMany" "I", .fieldLink RX6 16 "StreetMarketModel" "kept" "[I", .methodLink RX6 231 yX6_placed, .instanceMethod yX6_placed, .selects RX6 yX6_placed yX6_placed, .code yX6_placed cX6_placed 3 (some .int)] ++ wsX60)
def wsX6_incomeNow : List Cond := .code yX6_incomeNow cX6_incomeNow 3 (some .int) :: ([.fieldLink RX6 7 "StreetMarketModel" "a" "[I", .methodLink RX6 197 yX6_rentOf, .instanceMethod yX6_rentOf, .selects RX6 yX6_rentOf yX6_rentOf, .initialized RX6, .code yX6_rentOf cX6_rentOf 5 (some .int)] ++ wsX60)
def wsX6_income : List Cond := .code yX6_income cX6_income 1 (some .int) :: ([.fieldLink RX6 58 "StreetMarketModel" "thrown" "I", .methodLink RX6 234 yX6_incomeNow, .instanceMethod yX6_incomeNow, .selects RX6 yX6_incomeNow yX6_incomeNow, .initialized RX6, .code yX6_incomeNow cX6_incomeNow 3 (some .int), .fieldLink RX6 7 "StreetMarketModel" "a" "[I", .methodLink RX6 197 yX6_rentOf, .instanceMethod yX6_rentOf, .selects RX6 yX6_rentOf yX6_rentOf, .code yX6_rentOf cX6_rentOf 5 (some .int)] ++ wsX60)
def wsX6_coversUsed : List Cond := .code yX6_coversUsed cX6_coversUsed 1 (some .int) :: ([.fieldLink RX6 58 "StreetMarketModel" "thrown" "I", .methodLink RX6 212 yX6_usedCovers, .instanceMethod yX6_usedCovers, .selects RX6 yX6_usedCovers yX6_usedCovers, .initialized RX6, .code yX6_usedCovers cX6_usedCovers 3 (some .int), .fieldLink RX6 7 "StreetMarketModel" "a" "[I", .methodLink RX6 194 yX6_bare, .instanceMethod yX6_bare, .selects RX6 yX6_bare yX6_bare, .code yX6_bare cX6_bare 5 (some .int)] ++ wsX60)
def wsX6_isSheltered : List Cond := .code yX6_isSheltered cX6_isSheltered 4 (some .boolean) :: ([.fieldLink RX6 7 "StreetMarketModel" "a" "[I"] ++ wsX60)
def wsX6_expectedIncome : List Cond := .code yX6_expectedIncome cX6_expectedIncome 7 (some .double) :: ([.fieldLink RX6 58 "StreetMarketModel" "thrown" "I", .fieldLink RX6 7 "StreetMarketModel" "a" "[I", .constantDouble RX6 240 (4602678819172646912), .methodLink RX6 197 yX6_rentOf, .instanceMethod yX6_rentOf, .selects RX6 yX6_rentOf yX6_rentOf, .initialized RX6, .code yX6_rentOf cX6_rentOf 5 (some .int), .methodLink RX6 237 yX6_isSheltered, .instanceMethod yX6_isSheltered, .selects RX6 yX6_isSheltered yX6_isSheltered, .code yX6_isSheltered cX6_isSheltered 4 (some .boolean)] ++ wsX60)
def wsX6_at : List Cond := .code yX6_at cX6_at 4 (some .int) :: ([])
def wsX6_isSameRow : List Cond := .code yX6_isSameRow cX6_isSameRow 3 (some .boolean) :: ([.fieldLink RX6 7 "StreetMarketModel" "a" "[I"] ++ wsX60)
def wsX6_laysBlocks : List Cond := .code yX6_laysBlocks cX6_laysBlocks 4 none :: ([.fieldLink RX6 7 "StreetMarketModel" "a" "[I", .fieldLink RX6 30 "StreetMarketModel" "rentBy" "[I", .fieldLink RX6 33 "StreetMarketModel" "bareBy" "[I", .fieldLink RX6 36 "StreetMarketModel" "aheadBy" "[I", .methodLink RX6 218 yX6_isRoom, .instanceMethod yX6_isRoom, .selects RX6 yX6_isRoom yX6_isRoom, .initialized RX6, .code yX6_isRoom cX6_isRoom 4 (some .boolean), .methodLink RX6 197 yX6_rentOf, .instanceMethod yX6_rentOf, .selects RX6 yX6_rentOf yX6_rentOf, .code yX6_rentOf cX6_rentOf 5 (some .int), .methodLink RX6 194 yX6_bare, .instanceMethod yX6_bare, .selects RX6 yX6_bare yX6_bare, .code yX6_bare cX6_bare 5 (some .int), .methodLink RX6 242 yX6_isSameRow, .instanceMethod yX6_isSameRow, .selects RX6 yX6_isSameRow yX6_isSameRow, .code yX6_isSameRow cX6_isSameRow 3 (some .boolean)] ++ wsX60)
def wsX6_begun : List Cond := .code yX6_begun cX6_begun 7 (some .int) :: ([.fieldLink RX6 30 "StreetMarketModel" "rentBy" "[I", .fieldLink RX6 33 "StreetMarketModel" "bareBy" "[I", .fieldLink RX6 27 "StreetMarketModel" "best" "[I", .fieldLink RX6 7 "StreetMarketModel" "a" "[I", .fieldLink RX6 36 "StreetMarketModel" "aheadBy" "[I", .methodLink RX6 215 yX6_doClash, .instanceMethod yX6_doClash, .selects RX6 yX6_doClash yX6_doClash, .initialized RX6, .code yX6_doClash cX6_doClash 3 (some .boolean), .methodLink RX6 245 yX6_at, .static yX6_at, .code yX6_at cX6_at 4 (some .int)] ++ wsX60)
def wsX6_free : List Cond := .code yX6_free cX6_free 4 (some .int) :: ([.fieldLink RX6 27 "StreetMarketModel" "best" "[I", .methodLink RX6 245 yX6_at, .static yX6_at, .initialized RX6, .code yX6_at cX6_at 4 (some .int)] ++ wsX60)
def wsX6_plans_r1 : List Cond := [Cond.fieldLink RX6 7 "StreetMarketModel" "a" "[I", Cond.fieldLink RX6 27 "StreetMarketModel" "best" "[I", Cond.methodLink RX6 248 yX6_laysBlocks, Cond.instanceMethod yX6_laysBlocks, Cond.selects RX6 yX6_laysBlocks yX6_laysBlocks, Cond.initialized RX6, Cond.code yX6_laysBlocks cX6_laysBlocks 4 none, Cond.fieldLink RX6 30 "StreetMarketModel" "rentBy" "[I", Cond.fieldLink RX6 33 "StreetMarketModel" "bareBy" "[I", Cond.fieldLink RX6 36 "StreetMarketModel" "aheadBy" "[I", Cond.methodLink RX6 218 yX6_isRoom, Cond.instanceMethod yX6_isRoom, Cond.selects RX6 yX6_isRoom yX6_isRoom, Cond.code yX6_isRoom cX6_isRoom 4 (some .boolean), Cond.methodLink RX6 197 yX6_rentOf, Cond.instanceMethod yX6_rentOf, Cond.selects RX6 yX6_rentOf yX6_rentOf, Cond.code yX6_rentOf cX6_rentOf 5 (some .int), Cond.methodLink RX6 194 yX6_bare, Cond.instanceMethod yX6_bare, Cond.selects RX6 yX6_bare yX6_bare, Cond.code yX6_bare cX6_bare 5 (some .int), Cond.methodLink RX6 242 yX6_isSameRow, Cond.instanceMethod yX6_isSameRow]
def wsX6_plans_r2 : List Cond := [Cond.selects RX6 yX6_isSameRow yX6_isSameRow, Cond.code yX6_isSameRow cX6_isSameRow 3 (some .boolean), Cond.methodLink RX6 245 yX6_at, Cond.static yX6_at, Cond.code yX6_at cX6_at 4 (some .int), Cond.methodLink RX6 251 yX6_free, Cond.instanceMethod yX6_free, Cond.selects RX6 yX6_free yX6_free, Cond.code yX6_free cX6_free 4 (some .int), Cond.methodLink RX6 255 yX6_begun, Cond.instanceMethod yX6_begun, Cond.selects RX6 yX6_begun yX6_begun, Cond.code yX6_begun cX6_begun 7 (some .int), Cond.methodLink RX6 215 yX6_doClash, Cond.instanceMethod yX6_doClash, Cond.selects RX6 yX6_doClash yX6_doClash, Cond.code yX6_doClash cX6_doClash 3 (some .boolean)]
def wsX6_plans : List Cond := .code yX6_plans cX6_plans 11 (some .int) :: ((wsX6_plans_r1 ++ wsX6_plans_r2) ++ wsX60)
def wsX6_bestIncome_r1 : List Cond := [Cond.fieldLink RX6 58 "StreetMarketModel" "thrown" "I", Cond.fieldLink RX6 7 "StreetMarketModel" "a" "[I", Cond.methodLink RX6 259 yX6_plans, Cond.instanceMethod yX6_plans, Cond.selects RX6 yX6_plans yX6_plans, Cond.initialized RX6, Cond.code yX6_plans cX6_plans 11 (some .int), Cond.fieldLink RX6 27 "StreetMarketModel" "best" "[I", Cond.methodLink RX6 248 yX6_laysBlocks, Cond.instanceMethod yX6_laysBlocks, Cond.selects RX6 yX6_laysBlocks yX6_laysBlocks, Cond.code yX6_laysBlocks cX6_laysBlocks 4 none, Cond.fieldLink RX6 30 "StreetMarketModel" "rentBy" "[I", Cond.fieldLink RX6 33 "StreetMarketModel" "bareBy" "[I", Cond.fieldLink RX6 36 "StreetMarketModel" "aheadBy" "[I", Cond.methodLink RX6 218 yX6_isRoom, Cond.instanceMethod yX6_isRoom, Cond.selects RX6 yX6_isRoom yX6_isRoom, Cond.code yX6_isRoom cX6_isRoom 4 (some .boolean), Cond.methodLink RX6 197 yX6_rentOf, Cond.instanceMethod yX6_rentOf, Cond.selects RX6 yX6_rentOf yX6_rentOf, Cond.code yX6_rentOf cX6_rentOf 5 (some .int), Cond.methodLink RX6 194 yX6_bare]
def wsX6_bestIncome_r2 : List Cond := [Cond.instanceMethod yX6_bare, Cond.selects RX6 yX6_bare yX6_bare, Cond.code yX6_bare cX6_bare 5 (some .int), Cond.methodLink RX6 242 yX6_isSameRow, Cond.instanceMethod yX6_isSameRow, Cond.selects RX6 yX6_isSameRow yX6_isSameRow, Cond.code yX6_isSameRow cX6_isSameRow 3 (some .boolean), Cond.methodLink RX6 245 yX6_at, Cond.static yX6_at, Cond.code yX6_at cX6_at 4 (some .int), Cond.methodLink RX6 251 yX6_free, Cond.instanceMethod yX6_free, Cond.selects RX6 yX6_free yX6_free, Cond.code yX6_free cX6_free 4 (some .int), Cond.methodLink RX6 255 yX6_begun, Cond.instanceMethod yX6_begun, Cond.selects RX6 yX6_begun yX6_begun, Cond.code yX6_begun cX6_begun 7 (some .int), Cond.methodLink RX6 215 yX6_doClash, Cond.instanceMethod yX6_doClash, Cond.selects RX6 yX6_doClash yX6_doClash, Cond.code yX6_doClash cX6_doClash 3 (some .boolean)]
def wsX6_bestIncome : List Cond := .code yX6_bestIncome cX6_bestIncome 1 (some .int) :: ((wsX6_bestIncome_r1 ++ wsX6_bestIncome_r2) ++ wsX60)
def wsX6_optimise_r1 : List Cond := [Cond.fieldLink RX6 58 "StreetMarketModel" "thrown" "I", Cond.fieldLink RX6 7 "StreetMarketModel" "a" "[I", Cond.fieldLink RX6 27 "StreetMarketModel" "best" "[I", Cond.methodLink RX6 170 yX6_keeps, Cond.instanceMethod yX6_keeps, Cond.selects RX6 yX6_keeps yX6_keeps, Cond.initialized RX6, Cond.code yX6_keeps cX6_keeps 2 none, Cond.fieldLink RX6 61 "StreetMarketModel" "keptMany" "I", Cond.fieldLink RX6 16 "StreetMarketModel" "kept" "[I", Cond.methodLink RX6 259 yX6_plans, Cond.instanceMethod yX6_plans, Cond.selects RX6 yX6_plans yX6_plans, Cond.code yX6_plans cX6_plans 11 (some .int), Cond.methodLink RX6 248 yX6_laysBlocks, Cond.instanceMethod yX6_laysBlocks, Cond.selects RX6 yX6_laysBlocks yX6_laysBlocks, Cond.code yX6_laysBlocks cX6_laysBlocks 4 none, Cond.fieldLink RX6 30 "StreetMarketModel" "rentBy" "[I", Cond.fieldLink RX6 33 "StreetMarketModel" "bareBy" "[I", Cond.fieldLink RX6 36 "StreetMarketModel" "aheadBy" "[I", Cond.methodLink RX6 218 yX6_isRoom, Cond.instanceMethod yX6_isRoom, Cond.selects RX6 yX6_isRoom yX6_isRoom]
def wsX6_optimise_r2 : List Cond := [Cond.code yX6_isRoom cX6_isRoom 4 (some .boolean), Cond.methodLink RX6 197 yX6_rentOf, Cond.instanceMethod yX6_rentOf, Cond.selects RX6 yX6_rentOf yX6_rentOf, Cond.code yX6_rentOf cX6_rentOf 5 (some .int), Cond.methodLink RX6 194 yX6_bare, Cond.instanceMethod yX6_bare, Cond.selects RX6 yX6_bare yX6_bare, Cond.code yX6_bare cX6_bare 5 (some .int), Cond.methodLink RX6 242 yX6_isSameRow, Cond.instanceMethod yX6_isSameRow, Cond.selects RX6 yX6_isSameRow yX6_isSameRow, Cond.code yX6_isSameRow cX6_isSameRow 3 (some .boolean), Cond.methodLink RX6 245 yX6_at, Cond.static yX6_at, Cond.code yX6_at cX6_at 4 (some .int), Cond.methodLink RX6 251 yX6_free, Cond.instanceMethod yX6_free, Cond.selects RX6 yX6_free yX6_free, Cond.code yX6_free cX6_free 4 (some .int), Cond.methodLink RX6 255 yX6_begun, Cond.instanceMethod yX6_begun, Cond.selects RX6 yX6_begun yX6_begun, Cond.code yX6_begun cX6_begun 7 (some .int)]
def wsX6_optimise_r3 : List Cond := [Cond.methodLink RX6 215 yX6_doClash, Cond.instanceMethod yX6_doClash, Cond.selects RX6 yX6_doClash yX6_doClash, Cond.code yX6_doClash cX6_doClash 3 (some .boolean), Cond.methodLink RX6 231 yX6_placed, Cond.instanceMethod yX6_placed, Cond.selects RX6 yX6_placed yX6_placed, Cond.code yX6_placed cX6_placed 3 (some .int)]
def wsX6_optimise : List Cond := .code yX6_optimise cX6_optimise 7 (some .int) :: ((wsX6_optimise_r1 ++ (wsX6_optimise_r2 ++ wsX6_optimise_r3)) ++ wsX60)
def wsX6_clashCost_r1 : List Cond := [Cond.fieldLink RX6 58 "StreetMarketModel" "thrown" "I", Cond.fieldLink RX6 7 "StreetMarketModel" "a" "[I", Cond.methodLink RX6 204 yX6_areTrades, Cond.static yX6_areTrades, Cond.initialized RX6, Cond.code yX6_areTrades cX6_areTrades 2 (some .boolean), Cond.constantLong RX6 173 (7), Cond.methodLink RX6 74 yX6_isIn, Cond.static yX6_isIn, Cond.code yX6_isIn cX6_isIn 6 (some .boolean), Cond.methodLink RX6 259 yX6_plans, Cond.instanceMethod yX6_plans, Cond.selects RX6 yX6_plans yX6_plans, Cond.code yX6_plans cX6_plans 11 (some .int), Cond.fieldLink RX6 27 "StreetMarketModel" "best" "[I", Cond.methodLink RX6 248 yX6_laysBlocks, Cond.instanceMethod yX6_laysBlocks, Cond.selects RX6 yX6_laysBlocks yX6_laysBlocks, Cond.code yX6_laysBlocks cX6_laysBlocks 4 none, Cond.fieldLink RX6 30 "StreetMarketModel" "rentBy" "[I", Cond.fieldLink RX6 33 "StreetMarketModel" "bareBy" "[I", Cond.fieldLink RX6 36 "StreetMarketModel" "aheadBy" "[I", Cond.methodLink RX6 218 yX6_isRoom, Cond.instanceMethod yX6_isRoom]
def wsX6_clashCost_r2 : List Cond := [Cond.selects RX6 yX6_isRoom yX6_isRoom, Cond.code yX6_isRoom cX6_isRoom 4 (some .boolean), Cond.methodLink RX6 197 yX6_rentOf, Cond.instanceMethod yX6_rentOf, Cond.selects RX6 yX6_rentOf yX6_rentOf, Cond.code yX6_rentOf cX6_rentOf 5 (some .int), Cond.methodLink RX6 194 yX6_bare, Cond.instanceMethod yX6_bare, Cond.selects RX6 yX6_bare yX6_bare, Cond.code yX6_bare cX6_bare 5 (some .int), Cond.methodLink RX6 242 yX6_isSameRow, Cond.instanceMethod yX6_isSameRow, Cond.selects RX6 yX6_isSameRow yX6_isSameRow, Cond.code yX6_isSameRow cX6_isSameRow 3 (some .boolean), Cond.methodLink RX6 245 yX6_at, Cond.static yX6_at, Cond.code yX6_at cX6_at 4 (some .int), Cond.methodLink RX6 251 yX6_free, Cond.instanceMethod yX6_free, Cond.selects RX6 yX6_free yX6_free, Cond.code yX6_free cX6_free 4 (some .int), Cond.methodLink RX6 255 yX6_begun, Cond.instanceMethod yX6_begun, Cond.selects RX6 yX6_begun yX6_begun]
def wsX6_clashCost_r3 : List Cond := [Cond.code yX6_begun cX6_begun 7 (some .int), Cond.methodLink RX6 215 yX6_doClash, Cond.instanceMethod yX6_doClash, Cond.selects RX6 yX6_doClash yX6_doClash, Cond.code yX6_doClash cX6_doClash 3 (some .boolean), Cond.methodLink RX6 159 yX6_clashes, Cond.static yX6_clashes, Cond.code yX6_clashes cX6_clashes 4 none]
def wsX6_clashCost : List Cond := .code yX6_clashCost cX6_clashCost 5 (some .int) :: ((wsX6_clashCost_r1 ++ (wsX6_clashCost_r2 ++ wsX6_clashCost_r3)) ++ wsX60)
def wsX6_coverValue_r1 : List Cond := [Cond.fieldLink RX6 58 "StreetMarketModel" "thrown" "I", Cond.fieldLink RX6 7 "StreetMarketModel" "a" "[I", Cond.methodLink RX6 259 yX6_plans, Cond.instanceMethod yX6_plans, Cond.selects RX6 yX6_plans yX6_plans, Cond.initialized RX6, Cond.code yX6_plans cX6_plans 11 (some .int), Cond.fieldLink RX6 27 "StreetMarketModel" "best" "[I", Cond.methodLink RX6 248 yX6_laysBlocks, Cond.instanceMethod yX6_laysBlocks, Cond.selects RX6 yX6_laysBlocks yX6_laysBlocks, Cond.code yX6_laysBlocks cX6_laysBlocks 4 none, Cond.fieldLink RX6 30 "StreetMarketModel" "rentBy" "[I", Cond.fieldLink RX6 33 "StreetMarketModel" "bareBy" "[I", Cond.fieldLink RX6 36 "StreetMarketModel" "aheadBy" "[I", Cond.methodLink RX6 218 yX6_isRoom, Cond.instanceMethod yX6_isRoom, Cond.selects RX6 yX6_isRoom yX6_isRoom, Cond.code yX6_isRoom cX6_isRoom 4 (some .boolean), Cond.methodLink RX6 197 yX6_rentOf, Cond.instanceMethod yX6_rentOf, Cond.selects RX6 yX6_rentOf yX6_rentOf, Cond.code yX6_rentOf cX6_rentOf 5 (some .int), Cond.methodLink RX6 194 yX6_bare]
def wsX6_coverValue_r2 : List Cond := [Cond.instanceMethod yX6_bare, Cond.selects RX6 yX6_bare yX6_bare, Cond.code yX6_bare cX6_bare 5 (some .int), Cond.methodLink RX6 242 yX6_isSameRow, Cond.instanceMethod yX6_isSameRow, Cond.selects RX6 yX6_isSameRow yX6_isSameRow, Cond.code yX6_isSameRow cX6_isSameRow 3 (some .boolean), Cond.methodLink RX6 245 yX6_at, Cond.static yX6_at, Cond.code yX6_at cX6_at 4 (some .int), Cond.methodLink RX6 251 yX6_free, Cond.instanceMethod yX6_free, Cond.selects RX6 yX6_free yX6_free, Cond.code yX6_free cX6_free 4 (some .int), Cond.methodLink RX6 255 yX6_begun, Cond.instanceMethod yX6_begun, Cond.selects RX6 yX6_begun yX6_begun, Cond.code yX6_begun cX6_begun 7 (some .int), Cond.methodLink RX6 215 yX6_doClash, Cond.instanceMethod yX6_doClash, Cond.selects RX6 yX6_doClash yX6_doClash, Cond.code yX6_doClash cX6_doClash 3 (some .boolean)]
def wsX6_coverValue : List Cond := .code yX6_coverValue cX6_coverValue 2 (some .int) :: ((wsX6_coverValue_r1 ++ wsX6_coverValue_r2) ++ wsX60)
def wsX6_contribution_r1 : List Cond := [Cond.fieldLink RX6 58 "StreetMarketModel" "thrown" "I", Cond.fieldLink RX6 7 "StreetMarketModel" "a" "[I", Cond.fieldLink RX6 27 "StreetMarketModel" "best" "[I", Cond.methodLink RX6 178 yX6_isTrader, Cond.instanceMethod yX6_isTrader, Cond.selects RX6 yX6_isTrader yX6_isTrader, Cond.initialized RX6, Cond.code yX6_isTrader cX6_isTrader 2 (some .boolean), Cond.methodLink RX6 74 yX6_isIn, Cond.static yX6_isIn, Cond.code yX6_isIn cX6_isIn 6 (some .boolean), Cond.methodLink RX6 259 yX6_plans, Cond.instanceMethod yX6_plans, Cond.selects RX6 yX6_plans yX6_plans, Cond.code yX6_plans cX6_plans 11 (some .int), Cond.methodLink RX6 248 yX6_laysBlocks, Cond.instanceMethod yX6_laysBlocks, Cond.selects RX6 yX6_laysBlocks yX6_laysBlocks, Cond.code yX6_laysBlocks cX6_laysBlocks 4 none, Cond.fieldLink RX6 30 "StreetMarketModel" "rentBy" "[I", Cond.fieldLink RX6 33 "StreetMarketModel" "bareBy" "[I", Cond.fieldLink RX6 36 "StreetMarketModel" "aheadBy" "[I", Cond.methodLink RX6 218 yX6_isRoom, Cond.instanceMethod yX6_isRoom]
def wsX6_contribution_r2 : List Cond := [Cond.selects RX6 yX6_isRoom yX6_isRoom, Cond.code yX6_isRoom cX6_isRoom 4 (some .boolean), Cond.methodLink RX6 197 yX6_rentOf, Cond.instanceMethod yX6_rentOf, Cond.selects RX6 yX6_rentOf yX6_rentOf, Cond.code yX6_rentOf cX6_rentOf 5 (some .int), Cond.methodLink RX6 194 yX6_bare, Cond.instanceMethod yX6_bare, Cond.selects RX6 yX6_bare yX6_bare, Cond.code yX6_bare cX6_bare 5 (some .int), Cond.methodLink RX6 242 yX6_isSameRow, Cond.instanceMethod yX6_isSameRow, Cond.selects RX6 yX6_isSameRow yX6_isSameRow, Cond.code yX6_isSameRow cX6_isSameRow 3 (some .boolean), Cond.methodLink RX6 245 yX6_at, Cond.static yX6_at, Cond.code yX6_at cX6_at 4 (some .int), Cond.methodLink RX6 251 yX6_free, Cond.instanceMethod yX6_free, Cond.selects RX6 yX6_free yX6_free, Cond.code yX6_free cX6_free 4 (some .int), Cond.methodLink RX6 255 yX6_begun, Cond.instanceMethod yX6_begun, Cond.selects RX6 yX6_begun yX6_begun]
def wsX6_contribution_r3 : List Cond := [Cond.code yX6_begun cX6_begun 7 (some .int), Cond.methodLink RX6 215 yX6_doClash, Cond.instanceMethod yX6_doClash, Cond.selects RX6 yX6_doClash yX6_doClash, Cond.code yX6_doClash cX6_doClash 3 (some .boolean)]
def wsX6_contribution : List Cond := .code yX6_contribution cX6_contribution 2 (some .int) :: ((wsX6_contribution_r1 ++ (wsX6_contribution_r2 ++ wsX6_contribution_r3)) ++ wsX60)
def wsX6_laysEdges : List Cond := .code yX6_laysEdges cX6_laysEdges 5 none :: ([.fieldLink RX6 39 "StreetMarketModel" "isEdge" "[Z", .fieldLink RX6 7 "StreetMarketModel" "a" "[I", .methodLink RX6 218 yX6_isRoom, .instanceMethod yX6_isRoom, .selects RX6 yX6_isRoom yX6_isRoom, .initialized RX6, .code yX6_isRoom cX6_isRoom 4 (some .boolean), .methodLink RX6 197 yX6_rentOf, .instanceMethod yX6_rentOf, .selects RX6 yX6_rentOf yX6_rentOf, .code yX6_rentOf cX6_rentOf 5 (some .int)] ++ wsX60)
def wsX6_bestRent_r1 : List Cond := [Cond.fieldLink RX6 58 "StreetMarketModel" "thrown" "I", Cond.fieldLink RX6 7 "StreetMarketModel" "a" "[I", Cond.fieldLink RX6 39 "StreetMarketModel" "isEdge" "[Z", Cond.methodLink RX6 175 yX6_isPitch, Cond.instanceMethod yX6_isPitch, Cond.selects RX6 yX6_isPitch yX6_isPitch, Cond.initialized RX6, Cond.code yX6_isPitch cX6_isPitch 2 (some .boolean), Cond.methodLink RX6 74 yX6_isIn, Cond.static yX6_isIn, Cond.code yX6_isIn cX6_isIn 6 (some .boolean), Cond.methodLink RX6 262 yX6_laysEdges, Cond.instanceMethod yX6_laysEdges, Cond.selects RX6 yX6_laysEdges yX6_laysEdges, Cond.code yX6_laysEdges cX6_laysEdges 5 none, Cond.methodLink RX6 218 yX6_isRoom, Cond.instanceMethod yX6_isRoom, Cond.selects RX6 yX6_isRoom yX6_isRoom, Cond.code yX6_isRoom cX6_isRoom 4 (some .boolean), Cond.methodLink RX6 197 yX6_rentOf, Cond.instanceMethod yX6_rentOf, Cond.selects RX6 yX6_rentOf yX6_rentOf, Cond.code yX6_rentOf cX6_rentOf 5 (some .int), Cond.methodLink RX6 259 yX6_plans]
def wsX6_bestRent_r2 : List Cond := [Cond.instanceMethod yX6_plans, Cond.selects RX6 yX6_plans yX6_plans, Cond.code yX6_plans cX6_plans 11 (some .int), Cond.fieldLink RX6 27 "StreetMarketModel" "best" "[I", Cond.methodLink RX6 248 yX6_laysBlocks, Cond.instanceMethod yX6_laysBlocks, Cond.selects RX6 yX6_laysBlocks yX6_laysBlocks, Cond.code yX6_laysBlocks cX6_laysBlocks 4 none, Cond.fieldLink RX6 30 "StreetMarketModel" "rentBy" "[I", Cond.fieldLink RX6 33 "StreetMarketModel" "bareBy" "[I", Cond.fieldLink RX6 36 "StreetMarketModel" "aheadBy" "[I", Cond.methodLink RX6 194 yX6_bare, Cond.instanceMethod yX6_bare, Cond.selects RX6 yX6_bare yX6_bare, Cond.code yX6_bare cX6_bare 5 (some .int), Cond.methodLink RX6 242 yX6_isSameRow, Cond.instanceMethod yX6_isSameRow, Cond.selects RX6 yX6_isSameRow yX6_isSameRow, Cond.code yX6_isSameRow cX6_isSameRow 3 (some .boolean), Cond.methodLink RX6 245 yX6_at, Cond.static yX6_at, Cond.code yX6_at cX6_at 4 (some .int), Cond.methodLink RX6 251 yX6_free, Cond.instanceMethod yX6_free]
def wsX6_bestRent_r3 : List Cond := [Cond.selects RX6 yX6_free yX6_free, Cond.code yX6_free cX6_free 4 (some .int), Cond.methodLink RX6 255 yX6_begun, Cond.instanceMethod yX6_begun, Cond.selects RX6 yX6_begun yX6_begun, Cond.code yX6_begun cX6_begun 7 (some .int), Cond.methodLink RX6 215 yX6_doClash, Cond.instanceMethod yX6_doClash, Cond.selects RX6 yX6_doClash yX6_doClash, Cond.code yX6_doClash cX6_doClash 3 (some .boolean)]
def wsX6_bestRent : List Cond := .code yX6_bestRent cX6_bestRent 7 (some .int) :: ((wsX6_bestRent_r1 ++ (wsX6_bestRent_r2 ++ wsX6_bestRent_r3)) ++ wsX60)
def wsX6_takesStart_r1 : List Cond := [Cond.fieldLink RX6 7 "StreetMarketModel" "a" "[I", Cond.methodLink RX6 228 yX6_hinders, Cond.instanceMethod yX6_hinders, Cond.selects RX6 yX6_hinders yX6_hinders, Cond.initialized RX6, Cond.code yX6_hinders cX6_hinders 3 (some .int), Cond.methodLink RX6 218 yX6_isRoom, Cond.instanceMethod yX6_isRoom, Cond.selects RX6 yX6_isRoom yX6_isRoom, Cond.code yX6_isRoom cX6_isRoom 4 (some .boolean), Cond.methodLink RX6 221 yX6_isFree, Cond.instanceMethod yX6_isFree, Cond.selects RX6 yX6_isFree yX6_isFree, Cond.code yX6_isFree cX6_isFree 4 (some .boolean), Cond.methodLink RX6 191 yX6_on, Cond.instanceMethod yX6_on, Cond.selects RX6 yX6_on yX6_on, Cond.code yX6_on cX6_on 3 (some .int), Cond.methodLink RX6 187 yX6_isOn, Cond.instanceMethod yX6_isOn, Cond.selects RX6 yX6_isOn yX6_isOn, Cond.code yX6_isOn cX6_isOn 3 (some .boolean), Cond.methodLink RX6 74 yX6_isIn, Cond.static yX6_isIn]
def wsX6_takesStart_r2 : List Cond := [Cond.code yX6_isIn cX6_isIn 6 (some .boolean), Cond.methodLink RX6 197 yX6_rentOf, Cond.instanceMethod yX6_rentOf, Cond.selects RX6 yX6_rentOf yX6_rentOf, Cond.code yX6_rentOf cX6_rentOf 5 (some .int), Cond.methodLink RX6 212 yX6_usedCovers, Cond.instanceMethod yX6_usedCovers, Cond.selects RX6 yX6_usedCovers yX6_usedCovers, Cond.code yX6_usedCovers cX6_usedCovers 3 (some .int), Cond.methodLink RX6 194 yX6_bare, Cond.instanceMethod yX6_bare, Cond.selects RX6 yX6_bare yX6_bare, Cond.code yX6_bare cX6_bare 5 (some .int), Cond.methodLink RX6 224 yX6_clashesAt, Cond.instanceMethod yX6_clashesAt, Cond.selects RX6 yX6_clashesAt yX6_clashesAt, Cond.code yX6_clashesAt cX6_clashesAt 4 (some .boolean), Cond.methodLink RX6 175 yX6_isPitch, Cond.instanceMethod yX6_isPitch, Cond.selects RX6 yX6_isPitch yX6_isPitch, Cond.code yX6_isPitch cX6_isPitch 2 (some .boolean), Cond.methodLink RX6 215 yX6_doClash, Cond.instanceMethod yX6_doClash, Cond.selects RX6 yX6_doClash yX6_doClash]
def wsX6_takesStart_r3 : List Cond := [Cond.code yX6_doClash cX6_doClash 3 (some .boolean)]
def wsX6_takesStart : List Cond := .code yX6_takesStart cX6_takesStart 4 (some .int) :: ((wsX6_takesStart_r1 ++ (wsX6_takesStart_r2 ++ wsX6_takesStart_r3)) ++ wsX60)
def wsX6_isOrder : List Cond := .code yX6_isOrder cX6_isOrder 7 (some .boolean) :: ([.constantLong RX6 123 (10), .methodLink RX6 178 yX6_isTrader, .instanceMethod yX6_isTrader, .selects RX6 yX6_isTrader yX6_isTrader, .initialized RX6, .code yX6_isTrader cX6_isTrader 2 (some .boolean), .fieldLink RX6 7 "StreetMarketModel" "a" "[I", .methodLink RX6 74 yX6_isIn, .static yX6_isIn, .code yX6_isIn cX6_isIn 6 (some .boolean)] ++ wsX60)
def wsX6_firstCome_r1 : List Cond := [Cond.fieldLink RX6 58 "StreetMarketModel" "thrown" "I", Cond.fieldLink RX6 49 "StreetMarketModel" "found" "[I", Cond.fieldLink RX6 7 "StreetMarketModel" "a" "[I", Cond.constantLong RX6 123 (10), Cond.methodLink RX6 265 yX6_isOrder, Cond.instanceMethod yX6_isOrder, Cond.selects RX6 yX6_isOrder yX6_isOrder, Cond.initialized RX6, Cond.code yX6_isOrder cX6_isOrder 7 (some .boolean), Cond.methodLink RX6 178 yX6_isTrader, Cond.instanceMethod yX6_isTrader, Cond.selects RX6 yX6_isTrader yX6_isTrader, Cond.code yX6_isTrader cX6_isTrader 2 (some .boolean), Cond.methodLink RX6 74 yX6_isIn, Cond.static yX6_isIn, Cond.code yX6_isIn cX6_isIn 6 (some .boolean), Cond.methodLink RX6 269 yX6_takesStart, Cond.instanceMethod yX6_takesStart, Cond.selects RX6 yX6_takesStart yX6_takesStart, Cond.code yX6_takesStart cX6_takesStart 4 (some .int), Cond.methodLink RX6 228 yX6_hinders, Cond.instanceMethod yX6_hinders, Cond.selects RX6 yX6_hinders yX6_hinders, Cond.code yX6_hinders cX6_hinders 3 (some .int)]
def wsX6_firstCome_r2 : List Cond := [Cond.methodLink RX6 218 yX6_isRoom, Cond.instanceMethod yX6_isRoom, Cond.selects RX6 yX6_isRoom yX6_isRoom, Cond.code yX6_isRoom cX6_isRoom 4 (some .boolean), Cond.methodLink RX6 221 yX6_isFree, Cond.instanceMethod yX6_isFree, Cond.selects RX6 yX6_isFree yX6_isFree, Cond.code yX6_isFree cX6_isFree 4 (some .boolean), Cond.methodLink RX6 191 yX6_on, Cond.instanceMethod yX6_on, Cond.selects RX6 yX6_on yX6_on, Cond.code yX6_on cX6_on 3 (some .int), Cond.methodLink RX6 187 yX6_isOn, Cond.instanceMethod yX6_isOn, Cond.selects RX6 yX6_isOn yX6_isOn, Cond.code yX6_isOn cX6_isOn 3 (some .boolean), Cond.methodLink RX6 197 yX6_rentOf, Cond.instanceMethod yX6_rentOf, Cond.selects RX6 yX6_rentOf yX6_rentOf, Cond.code yX6_rentOf cX6_rentOf 5 (some .int), Cond.methodLink RX6 212 yX6_usedCovers, Cond.instanceMethod yX6_usedCovers, Cond.selects RX6 yX6_usedCovers yX6_usedCovers, Cond.code yX6_usedCovers cX6_usedCovers 3 (some .int)]
def wsX6_firstCome_r3 : List Cond := [Cond.methodLink RX6 194 yX6_bare, Cond.instanceMethod yX6_bare, Cond.selects RX6 yX6_bare yX6_bare, Cond.code yX6_bare cX6_bare 5 (some .int), Cond.methodLink RX6 224 yX6_clashesAt, Cond.instanceMethod yX6_clashesAt, Cond.selects RX6 yX6_clashesAt yX6_clashesAt, Cond.code yX6_clashesAt cX6_clashesAt 4 (some .boolean), Cond.methodLink RX6 175 yX6_isPitch, Cond.instanceMethod yX6_isPitch, Cond.selects RX6 yX6_isPitch yX6_isPitch, Cond.code yX6_isPitch cX6_isPitch 2 (some .boolean), Cond.methodLink RX6 215 yX6_doClash, Cond.instanceMethod yX6_doClash, Cond.selects RX6 yX6_doClash yX6_doClash, Cond.code yX6_doClash cX6_doClash 3 (some .boolean), Cond.methodLink RX6 234 yX6_incomeNow, Cond.instanceMethod yX6_incomeNow, Cond.selects RX6 yX6_incomeNow yX6_incomeNow, Cond.code yX6_incomeNow cX6_incomeNow 3 (some .int)]
def wsX6_firstCome : List Cond := .code yX6_firstCome cX6_firstCome 8 (some .int) :: ((wsX6_firstCome_r1 ++ (wsX6_firstCome_r2 ++ wsX6_firstCome_r3)) ++ wsX60)
def wsX6_lays : List Cond := .code yX6_lays cX6_lays 5 none :: ([.fieldLink RX6 7 "StreetMarketModel" "a" "[I", .fieldLink RX6 46 "StreetMarketModel" "stands" "[I"] ++ wsX60)
def wsX6_isClear : List Cond := .code yX6_isClear cX6_isClear 4 (some .boolean) :: ([.fieldLink RX6 7 "StreetMarketModel" "a" "[I", .fieldLink RX6 46 "StreetMarketModel" "stands" "[I"] ++ wsX60)
def wsX6_isSound : List Cond := .code yX6_isSound cX6_isSound 5 (some .boolean) :: ([.fieldLink RX6 7 "StreetMarketModel" "a" "[I", .fieldLink RX6 43 "StreetMarketModel" "tried" "[I", .fieldLink RX6 46 "StreetMarketModel" "stands" "[I", .methodLink RX6 194 yX6_bare, .instanceMethod yX6_bare, .selects RX6 yX6_bare yX6_bare, .initialized RX6, .code yX6_bare cX6_bare 5 (some .int), .methodLink RX6 215 yX6_doClash, .instanceMethod yX6_doClash, .selects RX6 yX6_doClash yX6_doClash, .code yX6_doClash cX6_doClash 3 (some .boolean)] ++ wsX60)
def wsX6_isAhead : List Cond := .code yX6_isAhead cX6_isAhead 4 (some .boolean) :: ([.fieldLink RX6 7 "StreetMarketModel" "a" "[I", .fieldLink RX6 46 "StreetMarketModel" "stands" "[I", .fieldLink RX6 52 "StreetMarketModel" "foundOn" "[I"] ++ wsX60)
def wsX6_compares_r1 : List Cond := [Cond.fieldLink RX6 7 "StreetMarketModel" "a" "[I", Cond.fieldLink RX6 43 "StreetMarketModel" "tried" "[I", Cond.fieldLink RX6 276 "StreetMarketModel" "foundIncome" "I", Cond.fieldLink RX6 279 "StreetMarketModel" "foundMoves" "I", Cond.fieldLink RX6 49 "StreetMarketModel" "found" "[I", Cond.fieldLink RX6 52 "StreetMarketModel" "foundOn" "[I", Cond.fieldLink RX6 46 "StreetMarketModel" "stands" "[I", Cond.methodLink RX6 272 yX6_isSound, Cond.instanceMethod yX6_isSound, Cond.selects RX6 yX6_isSound yX6_isSound, Cond.initialized RX6, Cond.code yX6_isSound cX6_isSound 5 (some .boolean), Cond.methodLink RX6 194 yX6_bare, Cond.instanceMethod yX6_bare, Cond.selects RX6 yX6_bare yX6_bare, Cond.code yX6_bare cX6_bare 5 (some .int), Cond.methodLink RX6 215 yX6_doClash, Cond.instanceMethod yX6_doClash, Cond.selects RX6 yX6_doClash yX6_doClash, Cond.code yX6_doClash cX6_doClash 3 (some .boolean), Cond.methodLink RX6 197 yX6_rentOf, Cond.instanceMethod yX6_rentOf, Cond.selects RX6 yX6_rentOf yX6_rentOf, Cond.code yX6_rentOf cX6_rentOf 5 (some .int)]
def wsX6_compares_r2 : List Cond := [Cond.methodLink RX6 282 yX6_isAhead, Cond.instanceMethod yX6_isAhead, Cond.selects RX6 yX6_isAhead yX6_isAhead, Cond.code yX6_isAhead cX6_isAhead 4 (some .boolean)]
def wsX6_compares : List Cond := .code yX6_compares cX6_compares 5 none :: ((wsX6_compares_r1 ++ wsX6_compares_r2) ++ wsX60)
def wsX6_fits : List Cond := .code yX6_fits cX6_fits 3 (some .boolean) :: ([.fieldLink RX6 7 "StreetMarketModel" "a" "[I", .methodLink RX6 218 yX6_isRoom, .instanceMethod yX6_isRoom, .selects RX6 yX6_isRoom yX6_isRoom, .initialized RX6, .code yX6_isRoom cX6_isRoom 4 (some .boolean), .methodLink RX6 197 yX6_rentOf, .instanceMethod yX6_rentOf, .selects RX6 yX6_rentOf yX6_rentOf, .code yX6_rentOf cX6_rentOf 5 (some .int), .methodLink RX6 285 yX6_isClear, .instanceMethod yX6_isClear, .selects RX6 yX6_isClear yX6_isClear, .code yX6_isClear cX6_isClear 4 (some .boolean), .fieldLink RX6 46 "StreetMarketModel" "stands" "[I"] ++ wsX60)
def wsX6_canSwap_r1 : List Cond := [Cond.fieldLink RX6 7 "StreetMarketModel" "a" "[I", Cond.fieldLink RX6 46 "StreetMarketModel" "stands" "[I", Cond.fieldLink RX6 43 "StreetMarketModel" "tried" "[I", Cond.methodLink RX6 288 yX6_fits, Cond.instanceMethod yX6_fits, Cond.selects RX6 yX6_fits yX6_fits, Cond.initialized RX6, Cond.code yX6_fits cX6_fits 3 (some .boolean), Cond.methodLink RX6 218 yX6_isRoom, Cond.instanceMethod yX6_isRoom, Cond.selects RX6 yX6_isRoom yX6_isRoom, Cond.code yX6_isRoom cX6_isRoom 4 (some .boolean), Cond.methodLink RX6 197 yX6_rentOf, Cond.instanceMethod yX6_rentOf, Cond.selects RX6 yX6_rentOf yX6_rentOf, Cond.code yX6_rentOf cX6_rentOf 5 (some .int), Cond.methodLink RX6 285 yX6_isClear, Cond.instanceMethod yX6_isClear, Cond.selects RX6 yX6_isClear yX6_isClear, Cond.code yX6_isClear cX6_isClear 4 (some .boolean), Cond.methodLink RX6 291 yX6_lays, Cond.instanceMethod yX6_lays, Cond.selects RX6 yX6_lays yX6_lays, Cond.code yX6_lays cX6_lays 5 none]
def wsX6_canSwap_r2 : List Cond := [Cond.methodLink RX6 272 yX6_isSound, Cond.instanceMethod yX6_isSound, Cond.selects RX6 yX6_isSound yX6_isSound, Cond.code yX6_isSound cX6_isSound 5 (some .boolean), Cond.methodLink RX6 194 yX6_bare, Cond.instanceMethod yX6_bare, Cond.selects RX6 yX6_bare yX6_bare, Cond.code yX6_bare cX6_bare 5 (some .int), Cond.methodLink RX6 215 yX6_doClash, Cond.instanceMethod yX6_doClash, Cond.selects RX6 yX6_doClash yX6_doClash, Cond.code yX6_doClash cX6_doClash 3 (some .boolean)]
def wsX6_canSwap : List Cond := .code yX6_canSwap cX6_canSwap 4 (some .boolean) :: ((wsX6_canSwap_r1 ++ wsX6_canSwap_r2) ++ wsX60)
def wsX6_swap_r1 : List Cond := [Cond.fieldLink RX6 58 "StreetMarketModel" "thrown" "I", Cond.fieldLink RX6 7 "StreetMarketModel" "a" "[I", Cond.methodLink RX6 178 yX6_isTrader, Cond.instanceMethod yX6_isTrader, Cond.selects RX6 yX6_isTrader yX6_isTrader, Cond.initialized RX6, Cond.code yX6_isTrader cX6_isTrader 2 (some .boolean), Cond.methodLink RX6 74 yX6_isIn, Cond.static yX6_isIn, Cond.code yX6_isIn cX6_isIn 6 (some .boolean), Cond.methodLink RX6 295 yX6_canSwap, Cond.instanceMethod yX6_canSwap, Cond.selects RX6 yX6_canSwap yX6_canSwap, Cond.code yX6_canSwap cX6_canSwap 4 (some .boolean), Cond.fieldLink RX6 46 "StreetMarketModel" "stands" "[I", Cond.fieldLink RX6 43 "StreetMarketModel" "tried" "[I", Cond.methodLink RX6 288 yX6_fits, Cond.instanceMethod yX6_fits, Cond.selects RX6 yX6_fits yX6_fits, Cond.code yX6_fits cX6_fits 3 (some .boolean), Cond.methodLink RX6 218 yX6_isRoom, Cond.instanceMethod yX6_isRoom, Cond.selects RX6 yX6_isRoom yX6_isRoom, Cond.code yX6_isRoom cX6_isRoom 4 (some .boolean)]
def wsX6_swap_r2 : List Cond := [Cond.methodLink RX6 197 yX6_rentOf, Cond.instanceMethod yX6_rentOf, Cond.selects RX6 yX6_rentOf yX6_rentOf, Cond.code yX6_rentOf cX6_rentOf 5 (some .int), Cond.methodLink RX6 285 yX6_isClear, Cond.instanceMethod yX6_isClear, Cond.selects RX6 yX6_isClear yX6_isClear, Cond.code yX6_isClear cX6_isClear 4 (some .boolean), Cond.methodLink RX6 291 yX6_lays, Cond.instanceMethod yX6_lays, Cond.selects RX6 yX6_lays yX6_lays, Cond.code yX6_lays cX6_lays 5 none, Cond.methodLink RX6 272 yX6_isSound, Cond.instanceMethod yX6_isSound, Cond.selects RX6 yX6_isSound yX6_isSound, Cond.code yX6_isSound cX6_isSound 5 (some .boolean), Cond.methodLink RX6 194 yX6_bare, Cond.instanceMethod yX6_bare, Cond.selects RX6 yX6_bare yX6_bare, Cond.code yX6_bare cX6_bare 5 (some .int), Cond.methodLink RX6 215 yX6_doClash, Cond.instanceMethod yX6_doClash, Cond.selects RX6 yX6_doClash yX6_doClash, Cond.code yX6_doClash cX6_doClash 3 (some .boolean)]
def wsX6_swap_r3 : List Cond := [Cond.methodLink RX6 170 yX6_keeps, Cond.instanceMethod yX6_keeps, Cond.selects RX6 yX6_keeps yX6_keeps, Cond.code yX6_keeps cX6_keeps 2 none, Cond.fieldLink RX6 61 "StreetMarketModel" "keptMany" "I", Cond.fieldLink RX6 16 "StreetMarketModel" "kept" "[I", Cond.methodLink RX6 234 yX6_incomeNow, Cond.instanceMethod yX6_incomeNow, Cond.selects RX6 yX6_incomeNow yX6_incomeNow, Cond.code yX6_incomeNow cX6_incomeNow 3 (some .int)]
def wsX6_swap : List Cond := .code yX6_swap cX6_swap 4 (some .int) :: ((wsX6_swap_r1 ++ (wsX6_swap_r2 ++ wsX6_swap_r3)) ++ wsX60)
def wsX6_seeks_r1 : List Cond := [Cond.fieldLink RX6 298 "StreetMarketModel" "movingMany" "I", Cond.fieldLink RX6 55 "StreetMarketModel" "moving" "[I", Cond.fieldLink RX6 7 "StreetMarketModel" "a" "[I", Cond.fieldLink RX6 43 "StreetMarketModel" "tried" "[I", Cond.methodLink RX6 301 yX6_compares, Cond.instanceMethod yX6_compares, Cond.selects RX6 yX6_compares yX6_compares, Cond.initialized RX6, Cond.code yX6_compares cX6_compares 5 none, Cond.fieldLink RX6 276 "StreetMarketModel" "foundIncome" "I", Cond.fieldLink RX6 279 "StreetMarketModel" "foundMoves" "I", Cond.fieldLink RX6 49 "StreetMarketModel" "found" "[I", Cond.fieldLink RX6 52 "StreetMarketModel" "foundOn" "[I", Cond.fieldLink RX6 46 "StreetMarketModel" "stands" "[I", Cond.methodLink RX6 272 yX6_isSound, Cond.instanceMethod yX6_isSound, Cond.selects RX6 yX6_isSound yX6_isSound, Cond.code yX6_isSound cX6_isSound 5 (some .boolean), Cond.methodLink RX6 194 yX6_bare, Cond.instanceMethod yX6_bare, Cond.selects RX6 yX6_bare yX6_bare, Cond.code yX6_bare cX6_bare 5 (some .int), Cond.methodLink RX6 215 yX6_doClash, Cond.instanceMethod yX6_doClash]
def wsX6_seeks_r2 : List Cond := [Cond.selects RX6 yX6_doClash yX6_doClash, Cond.code yX6_doClash cX6_doClash 3 (some .boolean), Cond.methodLink RX6 197 yX6_rentOf, Cond.instanceMethod yX6_rentOf, Cond.selects RX6 yX6_rentOf yX6_rentOf, Cond.code yX6_rentOf cX6_rentOf 5 (some .int), Cond.methodLink RX6 282 yX6_isAhead, Cond.instanceMethod yX6_isAhead, Cond.selects RX6 yX6_isAhead yX6_isAhead, Cond.code yX6_isAhead cX6_isAhead 4 (some .boolean), Cond.methodLink RX6 288 yX6_fits, Cond.instanceMethod yX6_fits, Cond.selects RX6 yX6_fits yX6_fits, Cond.code yX6_fits cX6_fits 3 (some .boolean), Cond.methodLink RX6 218 yX6_isRoom, Cond.instanceMethod yX6_isRoom, Cond.selects RX6 yX6_isRoom yX6_isRoom, Cond.code yX6_isRoom cX6_isRoom 4 (some .boolean), Cond.methodLink RX6 285 yX6_isClear, Cond.instanceMethod yX6_isClear, Cond.selects RX6 yX6_isClear yX6_isClear, Cond.code yX6_isClear cX6_isClear 4 (some .boolean), Cond.methodLink RX6 291 yX6_lays, Cond.instanceMethod yX6_lays]
def wsX6_seeks_r3 : List Cond := [Cond.selects RX6 yX6_lays yX6_lays, Cond.code yX6_lays cX6_lays 5 none, Cond.methodLink RX6 304 yX6_seeks, Cond.instanceMethod yX6_seeks, Cond.selects RX6 yX6_seeks yX6_seeks]
def wsX6_seeks : List Cond := .code yX6_seeks cX6_seeks 4 none :: ((wsX6_seeks_r1 ++ (wsX6_seeks_r2 ++ wsX6_seeks_r3)) ++ wsX60)
def wsX6_triesMoving_r1 : List Cond := [Cond.fieldLink RX6 46 "StreetMarketModel" "stands" "[I", Cond.fieldLink RX6 43 "StreetMarketModel" "tried" "[I", Cond.fieldLink RX6 7 "StreetMarketModel" "a" "[I", Cond.fieldLink RX6 298 "StreetMarketModel" "movingMany" "I", Cond.fieldLink RX6 55 "StreetMarketModel" "moving" "[I", Cond.methodLink RX6 291 yX6_lays, Cond.instanceMethod yX6_lays, Cond.selects RX6 yX6_lays yX6_lays, Cond.initialized RX6, Cond.code yX6_lays cX6_lays 5 none, Cond.methodLink RX6 304 yX6_seeks, Cond.instanceMethod yX6_seeks, Cond.selects RX6 yX6_seeks yX6_seeks, Cond.code yX6_seeks cX6_seeks 4 none, Cond.methodLink RX6 301 yX6_compares, Cond.instanceMethod yX6_compares, Cond.selects RX6 yX6_compares yX6_compares, Cond.code yX6_compares cX6_compares 5 none, Cond.fieldLink RX6 276 "StreetMarketModel" "foundIncome" "I", Cond.fieldLink RX6 279 "StreetMarketModel" "foundMoves" "I", Cond.fieldLink RX6 49 "StreetMarketModel" "found" "[I", Cond.fieldLink RX6 52 "StreetMarketModel" "foundOn" "[I", Cond.methodLink RX6 272 yX6_isSound, Cond.instanceMethod yX6_isSound]
def wsX6_triesMoving_r2 : List Cond := [Cond.selects RX6 yX6_isSound yX6_isSound, Cond.code yX6_isSound cX6_isSound 5 (some .boolean), Cond.methodLink RX6 194 yX6_bare, Cond.instanceMethod yX6_bare, Cond.selects RX6 yX6_bare yX6_bare, Cond.code yX6_bare cX6_bare 5 (some .int), Cond.methodLink RX6 215 yX6_doClash, Cond.instanceMethod yX6_doClash, Cond.selects RX6 yX6_doClash yX6_doClash, Cond.code yX6_doClash cX6_doClash 3 (some .boolean), Cond.methodLink RX6 197 yX6_rentOf, Cond.instanceMethod yX6_rentOf, Cond.selects RX6 yX6_rentOf yX6_rentOf, Cond.code yX6_rentOf cX6_rentOf 5 (some .int), Cond.methodLink RX6 282 yX6_isAhead, Cond.instanceMethod yX6_isAhead, Cond.selects RX6 yX6_isAhead yX6_isAhead, Cond.code yX6_isAhead cX6_isAhead 4 (some .boolean), Cond.methodLink RX6 288 yX6_fits, Cond.instanceMethod yX6_fits, Cond.selects RX6 yX6_fits yX6_fits, Cond.code yX6_fits cX6_fits 3 (some .boolean), Cond.methodLink RX6 218 yX6_isRoom, Cond.instanceMethod yX6_isRoom]
def wsX6_triesMoving_r3 : List Cond := [Cond.selects RX6 yX6_isRoom yX6_isRoom, Cond.code yX6_isRoom cX6_isRoom 4 (some .boolean), Cond.methodLink RX6 285 yX6_isClear, Cond.instanceMethod yX6_isClear, Cond.selects RX6 yX6_isClear yX6_isClear, Cond.code yX6_isClear cX6_isClear 4 (some .boolean)]
def wsX6_triesMoving : List Cond := .code yX6_triesMoving cX6_triesMoving 4 none :: ((wsX6_triesMoving_r1 ++ (wsX6_triesMoving_r2 ++ wsX6_triesMoving_r3)) ++ wsX60)
def wsX6_seeksInsertion_r1 : List Cond := [Cond.fieldLink RX6 276 "StreetMarketModel" "foundIncome" "I", Cond.fieldLink RX6 279 "StreetMarketModel" "foundMoves" "I", Cond.fieldLink RX6 55 "StreetMarketModel" "moving" "[I", Cond.fieldLink RX6 298 "StreetMarketModel" "movingMany" "I", Cond.fieldLink RX6 7 "StreetMarketModel" "a" "[I", Cond.methodLink RX6 307 yX6_triesMoving, Cond.instanceMethod yX6_triesMoving, Cond.selects RX6 yX6_triesMoving yX6_triesMoving, Cond.initialized RX6, Cond.code yX6_triesMoving cX6_triesMoving 4 none, Cond.fieldLink RX6 46 "StreetMarketModel" "stands" "[I", Cond.fieldLink RX6 43 "StreetMarketModel" "tried" "[I", Cond.methodLink RX6 291 yX6_lays, Cond.instanceMethod yX6_lays, Cond.selects RX6 yX6_lays yX6_lays, Cond.code yX6_lays cX6_lays 5 none, Cond.methodLink RX6 304 yX6_seeks, Cond.instanceMethod yX6_seeks, Cond.selects RX6 yX6_seeks yX6_seeks, Cond.code yX6_seeks cX6_seeks 4 none, Cond.methodLink RX6 301 yX6_compares, Cond.instanceMethod yX6_compares, Cond.selects RX6 yX6_compares yX6_compares, Cond.code yX6_compares cX6_compares 5 none]
def wsX6_seeksInsertion_r2 : List Cond := [Cond.fieldLink RX6 49 "StreetMarketModel" "found" "[I", Cond.fieldLink RX6 52 "StreetMarketModel" "foundOn" "[I", Cond.methodLink RX6 272 yX6_isSound, Cond.instanceMethod yX6_isSound, Cond.selects RX6 yX6_isSound yX6_isSound, Cond.code yX6_isSound cX6_isSound 5 (some .boolean), Cond.methodLink RX6 194 yX6_bare, Cond.instanceMethod yX6_bare, Cond.selects RX6 yX6_bare yX6_bare, Cond.code yX6_bare cX6_bare 5 (some .int), Cond.methodLink RX6 215 yX6_doClash, Cond.instanceMethod yX6_doClash, Cond.selects RX6 yX6_doClash yX6_doClash, Cond.code yX6_doClash cX6_doClash 3 (some .boolean), Cond.methodLink RX6 197 yX6_rentOf, Cond.instanceMethod yX6_rentOf, Cond.selects RX6 yX6_rentOf yX6_rentOf, Cond.code yX6_rentOf cX6_rentOf 5 (some .int), Cond.methodLink RX6 282 yX6_isAhead, Cond.instanceMethod yX6_isAhead, Cond.selects RX6 yX6_isAhead yX6_isAhead, Cond.code yX6_isAhead cX6_isAhead 4 (some .boolean), Cond.methodLink RX6 288 yX6_fits, Cond.instanceMethod yX6_fits]
def wsX6_seeksInsertion_r3 : List Cond := [Cond.selects RX6 yX6_fits yX6_fits, Cond.code yX6_fits cX6_fits 3 (some .boolean), Cond.methodLink RX6 218 yX6_isRoom, Cond.instanceMethod yX6_isRoom, Cond.selects RX6 yX6_isRoom yX6_isRoom, Cond.code yX6_isRoom cX6_isRoom 4 (some .boolean), Cond.methodLink RX6 285 yX6_isClear, Cond.instanceMethod yX6_isClear, Cond.selects RX6 yX6_isClear yX6_isClear, Cond.code yX6_isClear cX6_isClear 4 (some .boolean)]
def wsX6_seeksInsertion : List Cond := .code yX6_seeksInsertion cX6_seeksInsertion 5 none :: ((wsX6_seeksInsertion_r1 ++ (wsX6_seeksInsertion_r2 ++ wsX6_seeksInsertion_r3)) ++ wsX60)
def wsX6_refusesInsertion : List Cond := .code yX6_refusesInsertion cX6_refusesInsertion 3 (some .int) :: ([.constantLong RX6 310 (2), .fieldLink RX6 7 "StreetMarketModel" "a" "[I", .methodLink RX6 178 yX6_isTrader, .instanceMethod yX6_isTrader, .selects RX6 yX6_isTrader yX6_isTrader, .initialized RX6, .code yX6_isTrader cX6_isTrader 2 (some .boolean), .methodLink RX6 74 yX6_isIn, .static yX6_isIn, .code yX6_isIn cX6_isIn 6 (some .boolean)] ++ wsX60)
def wsX6_insertionIncome_r1 : List Cond := [Cond.fieldLink RX6 58 "StreetMarketModel" "thrown" "I", Cond.fieldLink RX6 276 "StreetMarketModel" "foundIncome" "I", Cond.methodLink RX6 312 yX6_refusesInsertion, Cond.instanceMethod yX6_refusesInsertion, Cond.selects RX6 yX6_refusesInsertion yX6_refusesInsertion, Cond.initialized RX6, Cond.code yX6_refusesInsertion cX6_refusesInsertion 3 (some .int), Cond.constantLong RX6 310 (2), Cond.fieldLink RX6 7 "StreetMarketModel" "a" "[I", Cond.methodLink RX6 178 yX6_isTrader, Cond.instanceMethod yX6_isTrader, Cond.selects RX6 yX6_isTrader yX6_isTrader, Cond.code yX6_isTrader cX6_isTrader 2 (some .boolean), Cond.methodLink RX6 74 yX6_isIn, Cond.static yX6_isIn, Cond.code yX6_isIn cX6_isIn 6 (some .boolean), Cond.methodLink RX6 315 yX6_seeksInsertion, Cond.instanceMethod yX6_seeksInsertion, Cond.selects RX6 yX6_seeksInsertion yX6_seeksInsertion, Cond.code yX6_seeksInsertion cX6_seeksInsertion 5 none, Cond.fieldLink RX6 279 "StreetMarketModel" "foundMoves" "I", Cond.fieldLink RX6 55 "StreetMarketModel" "moving" "[I", Cond.fieldLink RX6 298 "StreetMarketModel" "movingMany" "I", Cond.methodLink RX6 307 yX6_triesMoving]
def wsX6_insertionIncome_r2 : List Cond := [Cond.instanceMethod yX6_triesMoving, Cond.selects RX6 yX6_triesMoving yX6_triesMoving, Cond.code yX6_triesMoving cX6_triesMoving 4 none, Cond.fieldLink RX6 46 "StreetMarketModel" "stands" "[I", Cond.fieldLink RX6 43 "StreetMarketModel" "tried" "[I", Cond.methodLink RX6 291 yX6_lays, Cond.instanceMethod yX6_lays, Cond.selects RX6 yX6_lays yX6_lays, Cond.code yX6_lays cX6_lays 5 none, Cond.methodLink RX6 304 yX6_seeks, Cond.instanceMethod yX6_seeks, Cond.selects RX6 yX6_seeks yX6_seeks, Cond.code yX6_seeks cX6_seeks 4 none, Cond.methodLink RX6 301 yX6_compares, Cond.instanceMethod yX6_compares, Cond.selects RX6 yX6_compares yX6_compares, Cond.code yX6_compares cX6_compares 5 none, Cond.fieldLink RX6 49 "StreetMarketModel" "found" "[I", Cond.fieldLink RX6 52 "StreetMarketModel" "foundOn" "[I", Cond.methodLink RX6 272 yX6_isSound, Cond.instanceMethod yX6_isSound, Cond.selects RX6 yX6_isSound yX6_isSound, Cond.code yX6_isSound cX6_isSound 5 (some .boolean), Cond.methodLink RX6 194 yX6_bare]
def wsX6_insertionIncome_r3 : List Cond := [Cond.instanceMethod yX6_bare, Cond.selects RX6 yX6_bare yX6_bare, Cond.code yX6_bare cX6_bare 5 (some .int), Cond.methodLink RX6 215 yX6_doClash, Cond.instanceMethod yX6_doClash, Cond.selects RX6 yX6_doClash yX6_doClash, Cond.code yX6_doClash cX6_doClash 3 (some .boolean), Cond.methodLink RX6 197 yX6_rentOf, Cond.instanceMethod yX6_rentOf, Cond.selects RX6 yX6_rentOf yX6_rentOf, Cond.code yX6_rentOf cX6_rentOf 5 (some .int), Cond.methodLink RX6 282 yX6_isAhead, Cond.instanceMethod yX6_isAhead, Cond.selects RX6 yX6_isAhead yX6_isAhead, Cond.code yX6_isAhead cX6_isAhead 4 (some .boolean), Cond.methodLink RX6 288 yX6_fits, Cond.instanceMethod yX6_fits, Cond.selects RX6 yX6_fits yX6_fits, Cond.code yX6_fits cX6_fits 3 (some .boolean), Cond.methodLink RX6 218 yX6_isRoom, Cond.instanceMethod yX6_isRoom, Cond.selects RX6 yX6_isRoom yX6_isRoom, Cond.code yX6_isRoom cX6_isRoom 4 (some .boolean), Cond.methodLink RX6 285 yX6_isClear]
def wsX6_insertionIncome_r4 : List Cond := [Cond.instanceMethod yX6_isClear, Cond.selects RX6 yX6_isClear yX6_isClear, Cond.code yX6_isClear cX6_isClear 4 (some .boolean)]
def wsX6_insertionIncome : List Cond := .code yX6_insertionIncome cX6_insertionIncome 3 (some .int) :: ((wsX6_insertionIncome_r1 ++ (wsX6_insertionIncome_r2 ++ (wsX6_insertionIncome_r3 ++ wsX6_insertionIncome_r4))) ++ wsX60)
def wsX6_insert_r1 : List Cond := [Cond.fieldLink RX6 58 "StreetMarketModel" "thrown" "I", Cond.fieldLink RX6 276 "StreetMarketModel" "foundIncome" "I", Cond.fieldLink RX6 7 "StreetMarketModel" "a" "[I", Cond.fieldLink RX6 49 "StreetMarketModel" "found" "[I", Cond.fieldLink RX6 279 "StreetMarketModel" "foundMoves" "I", Cond.methodLink RX6 312 yX6_refusesInsertion, Cond.instanceMethod yX6_refusesInsertion, Cond.selects RX6 yX6_refusesInsertion yX6_refusesInsertion, Cond.initialized RX6, Cond.code yX6_refusesInsertion cX6_refusesInsertion 3 (some .int), Cond.constantLong RX6 310 (2), Cond.methodLink RX6 178 yX6_isTrader, Cond.instanceMethod yX6_isTrader, Cond.selects RX6 yX6_isTrader yX6_isTrader, Cond.code yX6_isTrader cX6_isTrader 2 (some .boolean), Cond.methodLink RX6 74 yX6_isIn, Cond.static yX6_isIn, Cond.code yX6_isIn cX6_isIn 6 (some .boolean), Cond.methodLink RX6 315 yX6_seeksInsertion, Cond.instanceMethod yX6_seeksInsertion, Cond.selects RX6 yX6_seeksInsertion yX6_seeksInsertion, Cond.code yX6_seeksInsertion cX6_seeksInsertion 5 none, Cond.fieldLink RX6 55 "StreetMarketModel" "moving" "[I", Cond.fieldLink RX6 298 "StreetMarketModel" "movingMany" "I"]
def wsX6_insert_r2 : List Cond := [Cond.methodLink RX6 307 yX6_triesMoving, Cond.instanceMethod yX6_triesMoving, Cond.selects RX6 yX6_triesMoving yX6_triesMoving, Cond.code yX6_triesMoving cX6_triesMoving 4 none, Cond.fieldLink RX6 46 "StreetMarketModel" "stands" "[I", Cond.fieldLink RX6 43 "StreetMarketModel" "tried" "[I", Cond.methodLink RX6 291 yX6_lays, Cond.instanceMethod yX6_lays, Cond.selects RX6 yX6_lays yX6_lays, Cond.code yX6_lays cX6_lays 5 none, Cond.methodLink RX6 304 yX6_seeks, Cond.instanceMethod yX6_seeks, Cond.selects RX6 yX6_seeks yX6_seeks, Cond.code yX6_seeks cX6_seeks 4 none, Cond.methodLink RX6 301 yX6_compares, Cond.instanceMethod yX6_compares, Cond.selects RX6 yX6_compares yX6_compares, Cond.code yX6_compares cX6_compares 5 none, Cond.fieldLink RX6 52 "StreetMarketModel" "foundOn" "[I", Cond.methodLink RX6 272 yX6_isSound, Cond.instanceMethod yX6_isSound, Cond.selects RX6 yX6_isSound yX6_isSound, Cond.code yX6_isSound cX6_isSound 5 (some .boolean), Cond.methodLink RX6 194 yX6_bare]
def wsX6_insert_r3 : List Cond := [Cond.instanceMethod yX6_bare, Cond.selects RX6 yX6_bare yX6_bare, Cond.code yX6_bare cX6_bare 5 (some .int), Cond.methodLink RX6 215 yX6_doClash, Cond.instanceMethod yX6_doClash, Cond.selects RX6 yX6_doClash yX6_doClash, Cond.code yX6_doClash cX6_doClash 3 (some .boolean), Cond.methodLink RX6 197 yX6_rentOf, Cond.instanceMethod yX6_rentOf, Cond.selects RX6 yX6_rentOf yX6_rentOf, Cond.code yX6_rentOf cX6_rentOf 5 (some .int), Cond.methodLink RX6 282 yX6_isAhead, Cond.instanceMethod yX6_isAhead, Cond.selects RX6 yX6_isAhead yX6_isAhead, Cond.code yX6_isAhead cX6_isAhead 4 (some .boolean), Cond.methodLink RX6 288 yX6_fits, Cond.instanceMethod yX6_fits, Cond.selects RX6 yX6_fits yX6_fits, Cond.code yX6_fits cX6_fits 3 (some .boolean), Cond.methodLink RX6 218 yX6_isRoom, Cond.instanceMethod yX6_isRoom, Cond.selects RX6 yX6_isRoom yX6_isRoom, Cond.code yX6_isRoom cX6_isRoom 4 (some .boolean), Cond.methodLink RX6 285 yX6_isClear]
def wsX6_insert_r4 : List Cond := [Cond.instanceMethod yX6_isClear, Cond.selects RX6 yX6_isClear yX6_isClear, Cond.code yX6_isClear cX6_isClear 4 (some .boolean), Cond.methodLink RX6 170 yX6_keeps, Cond.instanceMethod yX6_keeps, Cond.selects RX6 yX6_keeps yX6_keeps, Cond.code yX6_keeps cX6_keeps 2 none, Cond.fieldLink RX6 61 "StreetMarketModel" "keptMany" "I", Cond.fieldLink RX6 16 "StreetMarketModel" "kept" "[I"]
def wsX6_insert : List Cond := .code yX6_insert cX6_insert 4 (some .int) :: ((wsX6_insert_r1 ++ (wsX6_insert_r2 ++ (wsX6_insert_r3 ++ wsX6_insert_r4))) ++ wsX60)
def wsJ9_max_7cf53 : List Cond := .code yJ9_max_7cf53 cJ9_max_7cf53 2 (some .int) :: ([])
def wsJ9_min_7cf53 : List Cond := .code yJ9_min_7cf53 cJ9_min_7cf53 2 (some .int) :: ([])
set_option maxRecDepth 20000 in
theorem ggX0_init_X2_init : GoodIn wsX0_init wsX2_init := goodIn_r _ [12, 13, 2, 3, 14, 15, 16, 17, 18, 19, 20, 21, 22, 23, 24, 25, 26, 27, 28, 29, 33, 34, 35, 36, 37, 38, 39, 40, 41, 42, 43, 44, 45, 46] (by decide +kernel) (by decide +kernel)
set_option maxRecDepth 20000 in
theorem gX0_init_X2_init : GoodIn wsX0_init (wsX2_init) := ggX0_init_X2_init
theorem dX0_init_0 : decode cX0_init 0 = .ok (.aload_n 0, 1) := by decide +kernel
theorem dX0_init_1 : decode cX0_init 1 = .ok (.invokespecial 3, 3) := by decide +kernel
theorem dX0_init_4 : decode cX0_init 4 = .ok (.aload_n 0, 1) := by decide +kernel
theorem dX0_init_5 : decode cX0_init 5 = .ok (.bipush 6, 2) := by decide +kernel
theorem dX0_init_7 : decode cX0_init 7 = .ok (.anewarray 9, 3) := by decide +kernel
theorem dX0_init_10 : decode cX0_init 10 = .ok (.putfield 11, 3) := by decide +kernel
theorem dX0_init_13 : decode cX0_init 13 = .ok (.aload_n 0, 1) := by decide +kernel
theorem dX0_init_14 : decode cX0_init 14 = .ok (.iconst 0, 1) := by decide +kernel
theorem dX0_init_15 : decode cX0_init 15 = .ok (.putfield 17, 3) := by decide +kernel
theorem dX0_init_18 : decode cX0_init 18 = .ok (.aload_n 0, 1) := by decide +kernel
theorem dX0_init_19 : decode cX0_init 19 = .ok (.iconst 0, 1) := by decide +kernel
theorem dX0_init_20 : decode cX0_init 20 = .ok (.putfield 21, 3) := by decide +kernel
theorem dX0_init_23 : decode cX0_init 23 = .ok (.iconst 0, 1) := by decide +kernel
theorem dX0_init_24 : decode cX0_init 24 = .ok (.istore_n 1, 1) := by decide +kernel
theorem dX0_init_25 : decode cX0_init 25 = .ok (.iload_n 1, 1) := by decide +kernel
theorem dX0_init_26 : decode cX0_init 26 = .ok (.bipush 6, 2) := by decide +kernel
theorem dX0_init_28 : decode cX0_init 28 = .ok (.if_icmp .ge 22, 3) := by decide +kernel
theorem dX0_init_31 : decode cX0_init 31 = .ok (.aload_n 0, 1) := by decide +kernel
theorem dX0_init_32 : decode cX0_init 32 = .ok (.getfield 11, 3) := by decide +kernel
theorem dX0_init_35 : decode cX0_init 35 = .ok (.iload_n 1, 1) := by decide +kernel
theorem dX0_init_36 : decode cX0_init 36 = .ok (.new 9, 3) := by decide +kernel
theorem dX0_init_39 : decode cX0_init 39 = .ok (.dup, 1) := by decide +kernel
theorem dX0_init_40 : decode cX0_init 40 = .ok (.invokespecial 24, 3) := by decide +kernel
theorem dX0_init_43 : decode cX0_init 43 = .ok (.aastore, 1) := by decide +kernel
theorem dX0_init_44 : decode cX0_init 44 = .ok (.iinc 1 1, 3) := by decide +kernel
theorem dX0_init_47 : decode cX0_init 47 = .ok (.goto (-22), 3) := by decide +kernel
theorem dX0_init_50 : decode cX0_init 50 = .ok (.return_, 1) := by decide +kernel
set_option maxRecDepth 20000 in
theorem ggX0_remember_X2_copyFrom : GoodIn wsX0_remember wsX2_copyFrom := goodIn_r _ [8, 9, 10, 11, 12, 13, 14, 15, 16, 17, 18, 19, 20, 21, 22, 23, 24, 25, 26, 30, 31, 32, 33, 34, 35, 36, 37, 38, 39, 40, 41, 42, 43] (by decide +kernel) (by decide +kernel)
set_option maxRecDepth 20000 in
theorem gX0_remember_X2_copyFrom : GoodIn wsX0_remember (wsV RX0 25 RX2 yX2_copyFrom wsX2_copyFrom) := goodIn_app (goodIn_of _ (by decide +kernel)) ggX0_remember_X2_copyFrom
theorem dX0_remember_0 : decode cX0_remember 0 = .ok (.aload_n 0, 1) := by decide +kernel
theorem dX0_remember_1 : decode cX0_remember 1 = .ok (.aload_n 0, 1) := by decide +kernel
theorem dX0_remember_2 : decode cX0_remember 2 = .ok (.getfield 17, 3) := by decide +kernel
theorem dX0_remember_5 : decode cX0_remember 5 = .ok (.iconst 1, 1) := by decide +kernel
theorem dX0_remember_6 : decode cX0_remember 6 = .ok (.iadd, 1) := by decide +kernel
theorem dX0_remember_7 : decode cX0_remember 7 = .ok (.bipush 6, 2) := by decide +kernel
theorem dX0_remember_9 : decode cX0_remember 9 = .ok (.if_icmp .ge 12, 3) := by decide +kernel
theorem dX0_remember_12 : decode cX0_remember 12 = .ok (.aload_n 0, 1) := by decide +kernel
theorem dX0_remember_13 : decode cX0_remember 13 = .ok (.getfield 17, 3) := by decide +kernel
theorem dX0_remember_16 : decode cX0_remember 16 = .ok (.iconst 1, 1) := by decide +kernel
theorem dX0_remember_17 : decode cX0_remember 17 = .ok (.iadd, 1) := by decide +kernel
theorem dX0_remember_18 : decode cX0_remember 18 = .ok (.goto 4, 3) := by decide +kernel
theorem dX0_remember_21 : decode cX0_remember 21 = .ok (.iconst 0, 1) := by decide +kernel
theorem dX0_remember_22 : decode cX0_remember 22 = .ok (.putfield 17, 3) := by decide +kernel
theorem dX0_remember_25 : decode cX0_remember 25 = .ok (.aload_n 0, 1) := by decide +kernel
theorem dX0_remember_26 : decode cX0_remember 26 = .ok (.getfield 11, 3) := by decide +kernel
theorem dX0_remember_29 : decode cX0_remember 29 = .ok (.aload_n 0, 1) := by decide +kernel
theorem dX0_remember_30 : decode cX0_remember 30 = .ok (.getfield 17, 3) := by decide +kernel
theorem dX0_remember_33 : decode cX0_remember 33 = .ok (.aaload, 1) := by decide +kernel
theorem dX0_remember_34 : decode cX0_remember 34 = .ok (.aload_n 1, 1) := by decide +kernel
theorem dX0_remember_35 : decode cX0_remember 35 = .ok (.invokevirtual 25, 3) := by decide +kernel
theorem dX0_remember_38 : decode cX0_remember 38 = .ok (.aload_n 0, 1) := by decide +kernel
theorem dX0_remember_39 : decode cX0_remember 39 = .ok (.getfield 21, 3) := by decide +kernel
theorem dX0_remember_42 : decode cX0_remember 42 = .ok (.bipush 6, 2) := by decide +kernel
theorem dX0_remember_44 : decode cX0_remember 44 = .ok (.if_icmp .ge 13, 3) := by decide +kernel
theorem dX0_remember_47 : decode cX0_remember 47 = .ok (.aload_n 0, 1) := by decide +kernel
theorem dX0_remember_48 : decode cX0_remember 48 = .ok (.dup, 1) := by decide +kernel
theorem dX0_remember_49 : decode cX0_remember 49 = .ok (.getfield 21, 3) := by decide +kernel
theorem dX0_remember_52 : decode cX0_remember 52 = .ok (.iconst 1, 1) := by decide +kernel
theorem dX0_remember_53 : decode cX0_remember 53 = .ok (.iadd, 1) := by decide +kernel
theorem dX0_remember_54 : decode cX0_remember 54 = .ok (.putfield 21, 3) := by decide +kernel
theorem dX0_remember_57 : decode cX0_remember 57 = .ok (.return_, 1) := by decide +kernel
set_option maxRecDepth 20000 in
theorem ggX0_takeBack_X2_copyFrom : GoodIn wsX0_takeBack wsX2_copyFrom := goodIn_r _ [8, 9, 10, 11, 12, 13, 14, 15, 16, 17, 18, 19, 20, 21, 22, 23, 24, 25, 26, 30, 31, 32, 33, 34, 35, 36, 37, 38, 39, 40, 41, 42, 43] (by decide +kernel) (by decide +kernel)
set_option maxRecDepth 20000 in
theorem gX0_takeBack_X2_copyFrom : GoodIn wsX0_takeBack (wsV RX0 25 RX2 yX2_copyFrom wsX2_copyFrom) := goodIn_app (goodIn_of _ (by decide +kernel)) ggX0_takeBack_X2_copyFrom
theorem dX0_takeBack_0 : decode cX0_takeBack 0 = .ok (.aload_n 0, 1) := by decide +kernel
theorem dX0_takeBack_1 : decode cX0_takeBack 1 = .ok (.getfield 21, 3) := by decide +kernel
theorem dX0_takeBack_4 : decode cX0_takeBack 4 = .ok (.ifCond .le 47, 3) := by decide +kernel
theorem dX0_takeBack_7 : decode cX0_takeBack 7 = .ok (.aload_n 1, 1) := by decide +kernel
theorem dX0_takeBack_8 : decode cX0_takeBack 8 = .ok (.aload_n 0, 1) := by decide +kernel
theorem dX0_takeBack_9 : decode cX0_takeBack 9 = .ok (.getfield 11, 3) := by decide +kernel
theorem dX0_takeBack_12 : decode cX0_takeBack 12 = .ok (.aload_n 0, 1) := by decide +kernel
theorem dX0_takeBack_13 : decode cX0_takeBack 13 = .ok (.getfield 17, 3) := by decide +kernel
theorem dX0_takeBack_16 : decode cX0_takeBack 16 = .ok (.aaload, 1) := by decide +kernel
theorem dX0_takeBack_17 : decode cX0_takeBack 17 = .ok (.invokevirtual 25, 3) := by decide +kernel
theorem dX0_takeBack_20 : decode cX0_takeBack 20 = .ok (.aload_n 0, 1) := by decide +kernel
theorem dX0_takeBack_21 : decode cX0_takeBack 21 = .ok (.aload_n 0, 1) := by decide +kernel
theorem dX0_takeBack_22 : decode cX0_takeBack 22 = .ok (.getfield 17, 3) := by decide +kernel
theorem dX0_takeBack_25 : decode cX0_takeBack 25 = .ok (.ifCond .le 12, 3) := by decide +kernel
theorem dX0_takeBack_28 : decode cX0_takeBack 28 = .ok (.aload_n 0, 1) := by decide +kernel
theorem dX0_takeBack_29 : decode cX0_takeBack 29 = .ok (.getfield 17, 3) := by decide +kernel
theorem dX0_takeBack_32 : decode cX0_takeBack 32 = .ok (.iconst 1, 1) := by decide +kernel
theorem dX0_takeBack_33 : decode cX0_takeBack 33 = .ok (.isub, 1) := by decide +kernel
theorem dX0_takeBack_34 : decode cX0_takeBack 34 = .ok (.goto 4, 3) := by decide +kernel
theorem dX0_takeBack_37 : decode cX0_takeBack 37 = .ok (.iconst 5, 1) := by decide +kernel
theorem dX0_takeBack_38 : decode cX0_takeBack 38 = .ok (.putfield 17, 3) := by decide +kernel
theorem dX0_takeBack_41 : decode cX0_takeBack 41 = .ok (.aload_n 0, 1) := by decide +kernel
theorem dX0_takeBack_42 : decode cX0_takeBack 42 = .ok (.dup, 1) := by decide +kernel
theorem dX0_takeBack_43 : decode cX0_takeBack 43 = .ok (.getfield 21, 3) := by decide +kernel
theorem dX0_takeBack_46 : decode cX0_takeBack 46 = .ok (.iconst 1, 1) := by decide +kernel
theorem dX0_takeBack_47 : decode cX0_takeBack 47 = .ok (.isub, 1) := by decide +kernel
theorem dX0_takeBack_48 : decode cX0_takeBack 48 = .ok (.putfield 21, 3) := by decide +kernel
theorem dX0_takeBack_51 : decode cX0_takeBack 51 = .ok (.return_, 1) := by decide +kernel
set_option maxRecDepth 20000 in
theorem ggX1_init_X2_init : GoodIn wsX1_init wsX2_init := goodIn_r _ [17, 18, 2, 3, 19, 11, 20, 21, 22, 23, 24, 25, 26, 27, 28, 29, 30, 31, 32, 33, 34, 35, 36, 37, 38, 39, 40, 41, 42, 43, 44, 45, 46, 47] (by decide +kernel) (by decide +kernel)
set_option maxRecDepth 20000 in
theorem gX1_init_X2_init : GoodIn wsX1_init (wsX2_init) := ggX1_init_X2_init
theorem dX1_init_0 : decode cX1_init 0 = .ok (.aload_n 0, 1) := by decide +kernel
theorem dX1_init_1 : decode cX1_init 1 = .ok (.invokespecial 3, 3) := by decide +kernel
theorem dX1_init_4 : decode cX1_init 4 = .ok (.aload_n 0, 1) := by decide +kernel
theorem dX1_init_5 : decode cX1_init 5 = .ok (.new 9, 3) := by decide +kernel
theorem dX1_init_8 : decode cX1_init 8 = .ok (.dup, 1) := by decide +kernel
theorem dX1_init_9 : decode cX1_init 9 = .ok (.invokespecial 11, 3) := by decide +kernel
theorem dX1_init_12 : decode cX1_init 12 = .ok (.putfield 12, 3) := by decide +kernel
theorem dX1_init_15 : decode cX1_init 15 = .ok (.aload_n 0, 1) := by decide +kernel
theorem dX1_init_16 : decode cX1_init 16 = .ok (.new 9, 3) := by decide +kernel
theorem dX1_init_19 : decode cX1_init 19 = .ok (.dup, 1) := by decide +kernel
theorem dX1_init_20 : decode cX1_init 20 = .ok (.invokespecial 11, 3) := by decide +kernel
theorem dX1_init_23 : decode cX1_init 23 = .ok (.putfield 18, 3) := by decide +kernel
theorem dX1_init_26 : decode cX1_init 26 = .ok (.aload_n 0, 1) := by decide +kernel
theorem dX1_init_27 : decode cX1_init 27 = .ok (.iconst (-1), 1) := by decide +kernel
theorem dX1_init_28 : decode cX1_init 28 = .ok (.putfield 21, 3) := by decide +kernel
theorem dX1_init_31 : decode cX1_init 31 = .ok (.aload_n 0, 1) := by decide +kernel
theorem dX1_init_32 : decode cX1_init 32 = .ok (.iconst 0, 1) := by decide +kernel
theorem dX1_init_33 : decode cX1_init 33 = .ok (.putfield 25, 3) := by decide +kernel
theorem dX1_init_36 : decode cX1_init 36 = .ok (.aload_n 0, 1) := by decide +kernel
theorem dX1_init_37 : decode cX1_init 37 = .ok (.bipush 8, 2) := by decide +kernel
theorem dX1_init_39 : decode cX1_init 39 = .ok (.newarray .int, 2) := by decide +kernel
theorem dX1_init_41 : decode cX1_init 41 = .ok (.putfield 28, 3) := by decide +kernel
theorem dX1_init_44 : decode cX1_init 44 = .ok (.aload_n 0, 1) := by decide +kernel
theorem dX1_init_45 : decode cX1_init 45 = .ok (.iconst 3, 1) := by decide +kernel
theorem dX1_init_46 : decode cX1_init 46 = .ok (.newarray .int, 2) := by decide +kernel
theorem dX1_init_48 : decode cX1_init 48 = .ok (.putfield 32, 3) := by decide +kernel
theorem dX1_init_51 : decode cX1_init 51 = .ok (.aload_n 0, 1) := by decide +kernel
theorem dX1_init_52 : decode cX1_init 52 = .ok (.iconst 4, 1) := by decide +kernel
theorem dX1_init_53 : decode cX1_init 53 = .ok (.newarray .int, 2) := by decide +kernel
theorem dX1_init_55 : decode cX1_init 55 = .ok (.putfield 35, 3) := by decide +kernel
theorem dX1_init_58 : decode cX1_init 58 = .ok (.return_, 1) := by decide +kernel
set_option maxRecDepth 20000 in
theorem ggX1_search_X2_copyFrom : GoodIn wsX1_search wsX2_copyFrom := goodIn_r _ [15, 16, 17, 18, 5, 6, 7, 19, 20, 21, 22, 23, 24, 25, 26, 27, 28, 29, 30, 142, 143, 144, 145, 146, 147, 148, 149, 150, 151, 152, 153, 154, 155] (by decide +kernel) (by decide +kernel)
set_option maxRecDepth 20000 in
theorem gX1_search_X2_copyFrom : GoodIn wsX1_search (wsV RX1 38 RX2 yX2_copyFrom wsX2_copyFrom) := goodIn_app (goodIn_of _ (by decide +kernel)) ggX1_search_X2_copyFrom
set_option maxRecDepth 20000 in
theorem ggX1_search_X1_chooseMovers : GoodIn wsX1_search wsX1_chooseMovers := goodIn_r _ [35, 1, 36, 10, 3, 37, 38, 39, 34, 40, 41, 42, 43, 44, 14, 45, 16, 46, 47, 48, 49, 23, 50, 51, 52, 53, 19, 54, 55, 56, 57, 30, 27, 58, 59, 60, 61, 28, 62, 63, 64, 65, 66, 67, 68, 69, 17, 70, 71, 72, 73, 29, 74, 75, 76, 77, 24, 78, 79, 80, 81, 25, 82, 83, 84, 85, 20, 86, 87, 88, 89, 90, 91, 92, 93, 26, 22, 94, 95, 96, 97, 98, 21, 99, 100, 101, 102, 103, 104, 105, 106, 107, 8, 9, 108, 109, 110, 111, 112, 113, 114, 115, 116, 11, 12, 13, 15, 18, 5, 6, 7, 117, 118, 119, 120, 121, 122, 123, 124, 125, 126, 127, 128, 129, 130, 131, 132, 133, 31, 32, 33, 134, 135, 136, 137, 138, 139, 140, 141, 142, 143, 144, 145, 146, 147, 148, 149, 150, 151, 152, 153, 154, 155] (by decide +kernel) (by decide +kernel)
set_option maxRecDepth 20000 in
theorem gX1_search_X1_chooseMovers : GoodIn wsX1_search (wsV RX1 51 RX1 yX1_chooseMovers wsX1_chooseMovers) := goodIn_app (goodIn_of _ (by decide +kernel)) ggX1_search_X1_chooseMovers
theorem dX1_search_0 : decode cX1_search 0 = .ok (.aload_n 0, 1) := by decide +kernel
theorem dX1_search_1 : decode cX1_search 1 = .ok (.getfield 12, 3) := by decide +kernel
theorem dX1_search_4 : decode cX1_search 4 = .ok (.aload_n 1, 1) := by decide +kernel
theorem dX1_search_5 : decode cX1_search 5 = .ok (.invokevirtual 38, 3) := by decide +kernel
theorem dX1_search_8 : decode cX1_search 8 = .ok (.aload_n 1, 1) := by decide +kernel
theorem dX1_search_9 : decode cX1_search 9 = .ok (.getfield 42, 3) := by decide +kernel
theorem dX1_search_12 : decode cX1_search 12 = .ok (.iconst 0, 1) := by decide +kernel
theorem dX1_search_13 : decode cX1_search 13 = .ok (.aload_n 0, 1) := by decide +kernel
theorem dX1_search_14 : decode cX1_search 14 = .ok (.getfield 28, 3) := by decide +kernel
theorem dX1_search_17 : decode cX1_search 17 = .ok (.iconst 0, 1) := by decide +kernel
theorem dX1_search_18 : decode cX1_search 18 = .ok (.bipush 8, 2) := by decide +kernel
theorem dX1_search_20 : decode cX1_search 20 = .ok (.invokestatic 45, 3) := by decide +kernel
theorem dX1_search_23 : decode cX1_search 23 = .ok (.aload_n 0, 1) := by decide +kernel
theorem dX1_search_24 : decode cX1_search 24 = .ok (.iconst (-1), 1) := by decide +kernel
theorem dX1_search_25 : decode cX1_search 25 = .ok (.putfield 21, 3) := by decide +kernel
theorem dX1_search_28 : decode cX1_search 28 = .ok (.aload_n 0, 1) := by decide +kernel
theorem dX1_search_29 : decode cX1_search 29 = .ok (.iconst 0, 1) := by decide +kernel
theorem dX1_search_30 : decode cX1_search 30 = .ok (.putfield 25, 3) := by decide +kernel
theorem dX1_search_33 : decode cX1_search 33 = .ok (.aload_n 0, 1) := by decide +kernel
theorem dX1_search_34 : decode cX1_search 34 = .ok (.getfield 32, 3) := by decide +kernel
theorem dX1_search_37 : decode cX1_search 37 = .ok (.iconst 0, 1) := by decide +kernel
theorem dX1_search_38 : decode cX1_search 38 = .ok (.iload_n 2, 1) := by decide +kernel
theorem dX1_search_39 : decode cX1_search 39 = .ok (.iastore, 1) := by decide +kernel
theorem dX1_search_40 : decode cX1_search 40 = .ok (.aload_n 0, 1) := by decide +kernel
theorem dX1_search_41 : decode cX1_search 41 = .ok (.iconst 0, 1) := by decide +kernel
theorem dX1_search_42 : decode cX1_search 42 = .ok (.iconst 0, 1) := by decide +kernel
theorem dX1_search_43 : decode cX1_search 43 = .ok (.iload_n 3, 1) := by decide +kernel
theorem dX1_search_44 : decode cX1_search 44 = .ok (.invokevirtual 51, 3) := by decide +kernel
theorem dX1_search_47 : decode cX1_search 47 = .ok (.return_, 1) := by decide +kernel
set_option maxRecDepth 20000 in
theorem ggX1_chooseMovers_X1_sumHopes : GoodIn wsX1_chooseMovers wsX1_sumHopes := goodIn_r _ [9, 10, 1, 3, 4, 11, 12, 13, 14, 15, 16, 17, 18, 19, 20, 21, 22, 23, 24, 25, 26, 27, 28, 29, 30, 31, 32, 33, 34, 35, 36, 37, 38, 39, 40, 41, 42, 43, 44, 45, 46, 47, 48, 49, 50, 51, 52, 53, 54, 55, 56, 57, 58, 59, 60, 61, 62, 63, 64, 65, 66, 67, 68, 69, 70, 71, 72, 73, 74, 75, 76, 77, 132, 133, 134, 135, 136, 137, 138, 139, 140, 141, 142, 143, 144, 145, 146, 147, 148, 149, 150, 151, 152] (by decide +kernel) (by decide +kernel)
set_option maxRecDepth 20000 in
theorem gX1_chooseMovers_X1_sumHopes : GoodIn wsX1_chooseMovers (wsV RX1 55 RX1 yX1_sumHopes wsX1_sumHopes) := goodIn_app (goodIn_of _ (by decide +kernel)) ggX1_chooseMovers_X1_sumHopes
set_option maxRecDepth 20000 in
theorem ggX1_chooseMovers_X2_totalRent : GoodIn wsX1_chooseMovers wsX2_totalRent := goodIn_r _ [81, 82, 37, 33, 34, 35, 14, 36, 17, 18, 19, 20, 21, 16, 22, 23, 24, 25, 26, 139, 140, 141, 142, 143, 144, 145, 146, 147, 148, 149, 150, 151, 152] (by decide +kernel) (by decide +kernel)
set_option maxRecDepth 20000 in
theorem gX1_chooseMovers_X2_totalRent : GoodIn wsX1_chooseMovers (wsV RX1 59 RX2 yX2_totalRent wsX2_totalRent) := goodIn_app (goodIn_of _ (by decide +kernel)) ggX1_chooseMovers_X2_totalRent
set_option maxRecDepth 20000 in
theorem ggX1_chooseMovers_X1_seatWalkers : GoodIn wsX1_chooseMovers wsX1_seatWalkers := goodIn_r _ [86, 10, 3, 1, 87, 4, 88, 89, 90, 8, 91, 92, 93, 94, 95, 96, 97, 98, 99, 100, 101, 14, 102, 16, 51, 103, 104, 105, 106, 46, 107, 108, 109, 110, 26, 66, 82, 76, 21, 56, 61, 75, 32, 37, 31, 111, 112, 113, 114, 27, 28, 29, 30, 33, 34, 35, 36, 38, 39, 40, 41, 42, 43, 44, 45, 47, 48, 49, 50, 22, 23, 24, 25, 52, 53, 54, 55, 17, 18, 19, 20, 57, 58, 59, 60, 62, 63, 64, 65, 67, 68, 69, 70, 71, 72, 73, 74, 115, 116, 117, 118, 119, 120, 121, 122, 77, 83, 84, 85, 123, 124, 125, 126, 132, 133, 134, 135, 136, 137, 138, 139, 140, 141, 142, 143, 144, 145, 146, 147, 148, 149, 150, 151, 152] (by decide +kernel) (by decide +kernel)
set_option maxRecDepth 20000 in
theorem gX1_chooseMovers_X1_seatWalkers : GoodIn wsX1_chooseMovers (wsV RX1 63 RX1 yX1_seatWalkers wsX1_seatWalkers) := goodIn_app (goodIn_of _ (by decide +kernel)) ggX1_chooseMovers_X1_seatWalkers
set_option maxRecDepth 20000 in
theorem ggX1_chooseMovers_X2_isSeated : GoodIn wsX1_chooseMovers wsX2_isSeated := goodIn_r _ [36, 37, 139, 140, 141, 142, 143, 144, 145, 146, 147, 148, 149, 150, 151, 152] (by decide +kernel) (by decide +kernel)
set_option maxRecDepth 20000 in
theorem gX1_chooseMovers_X2_isSeated : GoodIn wsX1_chooseMovers (wsV RX1 69 RX2 yX2_isSeated wsX2_isSeated) := goodIn_app (goodIn_of _ (by decide +kernel)) ggX1_chooseMovers_X2_isSeated
set_option maxRecDepth 20000 in
theorem ggX1_chooseMovers_X2_unseat : GoodIn wsX1_chooseMovers wsX2_unseat := goodIn_r _ [126, 37, 21, 31, 33, 34, 35, 14, 36, 119, 120, 121, 122, 16, 22, 23, 24, 25, 51, 57, 58, 59, 60, 61, 62, 63, 64, 65, 66, 139, 140, 141, 142, 143, 144, 145, 146, 147, 148, 149, 150, 151, 152] (by decide +kernel) (by decide +kernel)
set_option maxRecDepth 20000 in
theorem gX1_chooseMovers_X2_unseat : GoodIn wsX1_chooseMovers (wsV RX1 72 RX2 yX2_unseat wsX2_unseat) := goodIn_app (goodIn_of _ (by decide +kernel)) ggX1_chooseMovers_X2_unseat
set_option maxRecDepth 20000 in
theorem ggX1_chooseMovers_X1_chooseMovers : GoodIn wsX1_chooseMovers wsX1_chooseMovers := goodIn_r _ [0, 1, 2, 3, 4, 5, 6, 7, 8, 9, 10, 11, 12, 13, 14, 15, 16, 17, 18, 19, 20, 21, 22, 23, 24, 25, 26, 27, 28, 29, 30, 31, 32, 33, 34, 35, 36, 37, 38, 39, 40, 41, 42, 43, 44, 45, 46, 47, 48, 49, 50, 51, 52, 53, 54, 55, 56, 57, 58, 59, 60, 61, 62, 63, 64, 65, 66, 67, 68, 69, 70, 71, 72, 73, 74, 75, 76, 77, 78, 79, 80, 81, 82, 83, 84, 85, 86, 87, 88, 89, 90, 91, 92, 93, 94, 95, 96, 97, 98, 99, 100, 101, 102, 103, 104, 105, 106, 107, 108, 109, 110, 111, 112, 113, 114, 115, 116, 117, 118, 119, 120, 121, 122, 123, 124, 125, 126, 127, 128, 129, 130, 131, 132, 133, 134, 135, 136, 137, 138, 139, 140, 141, 142, 143, 144, 145, 146, 147, 148, 149, 150, 151, 152] (by decide +kernel) (by decide +kernel)
set_option maxRecDepth 20000 in
theorem gX1_chooseMovers_X1_chooseMovers : GoodIn wsX1_chooseMovers (wsV RX1 51 RX1 yX1_chooseMovers wsX1_chooseMovers) := goodIn_app (goodIn_of _ (by decide +kernel)) ggX1_chooseMovers_X1_chooseMovers
set_option maxRecDepth 20000 in
theorem ggX1_chooseMovers_X2_seat : GoodIn wsX1_chooseMovers wsX2_seat := goodIn_r _ [118, 21, 37, 31, 119, 120, 121, 14, 122, 16, 22, 23, 24, 25, 51, 57, 58, 59, 60, 61, 62, 63, 64, 65, 66, 139, 140, 141, 142, 143, 144, 145, 146, 147, 148, 149, 150, 151, 152] (by decide +kernel) (by decide +kernel)
set_option maxRecDepth 20000 in
theorem gX1_chooseMovers_X2_seat : GoodIn wsX1_chooseMovers (wsV RX1 76 RX2 yX2_seat wsX2_seat) := goodIn_app (goodIn_of _ (by decide +kernel)) ggX1_chooseMovers_X2_seat
theorem dX1_chooseMovers_0 : decode cX1_chooseMovers 0 = .ok (.aload_n 0, 1) := by decide +kernel
theorem dX1_chooseMovers_1 : decode cX1_chooseMovers 1 = .ok (.iload_n 1, 1) := by decide +kernel
theorem dX1_chooseMovers_2 : decode cX1_chooseMovers 2 = .ok (.invokevirtual 55, 3) := by decide +kernel
theorem dX1_chooseMovers_5 : decode cX1_chooseMovers 5 = .ok (.ifCond .eq 16, 3) := by decide +kernel
theorem dX1_chooseMovers_8 : decode cX1_chooseMovers 8 = .ok (.aload_n 0, 1) := by decide +kernel
theorem dX1_chooseMovers_9 : decode cX1_chooseMovers 9 = .ok (.iconst 0, 1) := by decide +kernel
theorem dX1_chooseMovers_10 : decode cX1_chooseMovers 10 = .ok (.iload_n 1, 1) := by decide +kernel
theorem dX1_chooseMovers_11 : decode cX1_chooseMovers 11 = .ok (.aload_n 0, 1) := by decide +kernel
theorem dX1_chooseMovers_12 : decode cX1_chooseMovers 12 = .ok (.getfield 12, 3) := by decide +kernel
theorem dX1_chooseMovers_15 : decode cX1_chooseMovers 15 = .ok (.invokevirtual 59, 3) := by decide +kernel
theorem dX1_chooseMovers_18 : decode cX1_chooseMovers 18 = .ok (.invokevirtual 63, 3) := by decide +kernel
theorem dX1_chooseMovers_21 : decode cX1_chooseMovers 21 = .ok (.iload_n 1, 1) := by decide +kernel
theorem dX1_chooseMovers_22 : decode cX1_chooseMovers 22 = .ok (.iload_n 3, 1) := by decide +kernel
theorem dX1_chooseMovers_23 : decode cX1_chooseMovers 23 = .ok (.if_icmp .ge 8, 3) := by decide +kernel
theorem dX1_chooseMovers_26 : decode cX1_chooseMovers 26 = .ok (.iload_n 1, 1) := by decide +kernel
theorem dX1_chooseMovers_27 : decode cX1_chooseMovers 27 = .ok (.iconst 2, 1) := by decide +kernel
theorem dX1_chooseMovers_28 : decode cX1_chooseMovers 28 = .ok (.if_icmp .lt 4, 3) := by decide +kernel
theorem dX1_chooseMovers_31 : decode cX1_chooseMovers 31 = .ok (.return_, 1) := by decide +kernel
theorem dX1_chooseMovers_32 : decode cX1_chooseMovers 32 = .ok (.iload_n 2, 1) := by decide +kernel
theorem dX1_chooseMovers_33 : decode cX1_chooseMovers 33 = .ok (.istore 4, 2) := by decide +kernel
theorem dX1_chooseMovers_35 : decode cX1_chooseMovers 35 = .ok (.iload 4, 2) := by decide +kernel
theorem dX1_chooseMovers_37 : decode cX1_chooseMovers 37 = .ok (.aload_n 0, 1) := by decide +kernel
theorem dX1_chooseMovers_38 : decode cX1_chooseMovers 38 = .ok (.getfield 12, 3) := by decide +kernel
theorem dX1_chooseMovers_41 : decode cX1_chooseMovers 41 = .ok (.getfield 66, 3) := by decide +kernel
theorem dX1_chooseMovers_44 : decode cX1_chooseMovers 44 = .ok (.if_icmp .ge 68, 3) := by decide +kernel
theorem dX1_chooseMovers_47 : decode cX1_chooseMovers 47 = .ok (.aload_n 0, 1) := by decide +kernel
theorem dX1_chooseMovers_48 : decode cX1_chooseMovers 48 = .ok (.getfield 12, 3) := by decide +kernel
theorem dX1_chooseMovers_51 : decode cX1_chooseMovers 51 = .ok (.iload 4, 2) := by decide +kernel
theorem dX1_chooseMovers_53 : decode cX1_chooseMovers 53 = .ok (.invokevirtual 69, 3) := by decide +kernel
theorem dX1_chooseMovers_56 : decode cX1_chooseMovers 56 = .ok (.ifCond .eq 50, 3) := by decide +kernel
theorem dX1_chooseMovers_59 : decode cX1_chooseMovers 59 = .ok (.aload_n 0, 1) := by decide +kernel
theorem dX1_chooseMovers_60 : decode cX1_chooseMovers 60 = .ok (.getfield 12, 3) := by decide +kernel
theorem dX1_chooseMovers_63 : decode cX1_chooseMovers 63 = .ok (.iload 4, 2) := by decide +kernel
theorem dX1_chooseMovers_65 : decode cX1_chooseMovers 65 = .ok (.invokevirtual 72, 3) := by decide +kernel
theorem dX1_chooseMovers_68 : decode cX1_chooseMovers 68 = .ok (.aload_n 0, 1) := by decide +kernel
theorem dX1_chooseMovers_69 : decode cX1_chooseMovers 69 = .ok (.getfield 32, 3) := by decide +kernel
theorem dX1_chooseMovers_72 : decode cX1_chooseMovers 72 = .ok (.iload_n 1, 1) := by decide +kernel
theorem dX1_chooseMovers_73 : decode cX1_chooseMovers 73 = .ok (.iconst 1, 1) := by decide +kernel
theorem dX1_chooseMovers_74 : decode cX1_chooseMovers 74 = .ok (.iadd, 1) := by decide +kernel
theorem dX1_chooseMovers_75 : decode cX1_chooseMovers 75 = .ok (.iload 4, 2) := by decide +kernel
theorem dX1_chooseMovers_77 : decode cX1_chooseMovers 77 = .ok (.iastore, 1) := by decide +kernel
theorem dX1_chooseMovers_78 : decode cX1_chooseMovers 78 = .ok (.aload_n 0, 1) := by decide +kernel
theorem dX1_chooseMovers_79 : decode cX1_chooseMovers 79 = .ok (.iload_n 1, 1) := by decide +kernel
theorem dX1_chooseMovers_80 : decode cX1_chooseMovers 80 = .ok (.iconst 1, 1) := by decide +kernel
theorem dX1_chooseMovers_81 : decode cX1_chooseMovers 81 = .ok (.iadd, 1) := by decide +kernel
theorem dX1_chooseMovers_82 : decode cX1_chooseMovers 82 = .ok (.iload 4, 2) := by decide +kernel
theorem dX1_chooseMovers_84 : decode cX1_chooseMovers 84 = .ok (.iconst 1, 1) := by decide +kernel
theorem dX1_chooseMovers_85 : decode cX1_chooseMovers 85 = .ok (.iadd, 1) := by decide +kernel
theorem dX1_chooseMovers_86 : decode cX1_chooseMovers 86 = .ok (.iload_n 3, 1) := by decide +kernel
theorem dX1_chooseMovers_87 : decode cX1_chooseMovers 87 = .ok (.invokevirtual 51, 3) := by decide +kernel
theorem dX1_chooseMovers_90 : decode cX1_chooseMovers 90 = .ok (.aload_n 0, 1) := by decide +kernel
theorem dX1_chooseMovers_91 : decode cX1_chooseMovers 91 = .ok (.getfield 12, 3) := by decide +kernel
theorem dX1_chooseMovers_94 : decode cX1_chooseMovers 94 = .ok (.iload 4, 2) := by decide +kernel
theorem dX1_chooseMovers_96 : decode cX1_chooseMovers 96 = .ok (.aload_n 0, 1) := by decide +kernel
theorem dX1_chooseMovers_97 : decode cX1_chooseMovers 97 = .ok (.getfield 28, 3) := by decide +kernel
theorem dX1_chooseMovers_100 : decode cX1_chooseMovers 100 = .ok (.iload 4, 2) := by decide +kernel
theorem dX1_chooseMovers_102 : decode cX1_chooseMovers 102 = .ok (.iaload, 1) := by decide +kernel
theorem dX1_chooseMovers_103 : decode cX1_chooseMovers 103 = .ok (.invokevirtual 76, 3) := by decide +kernel
theorem dX1_chooseMovers_106 : decode cX1_chooseMovers 106 = .ok (.iinc 4 1, 3) := by decide +kernel
theorem dX1_chooseMovers_109 : decode cX1_chooseMovers 109 = .ok (.goto (-74), 3) := by decide +kernel
theorem dX1_chooseMovers_112 : decode cX1_chooseMovers 112 = .ok (.return_, 1) := by decide +kernel
set_option maxRecDepth 20000 in
theorem ggX1_sumHopes_X2_dearestStart : GoodIn wsX1_sumHopes wsX2_dearestStart := goodIn_r _ [9, 10, 11, 12, 13, 8, 14, 15, 16, 17, 18, 19, 20, 21, 22, 23, 24, 25, 26, 27, 28, 29, 30, 31, 32, 33, 34, 35, 36, 37, 38, 39, 40, 41, 42, 43, 44, 45, 46, 47, 48, 49, 50, 51, 52, 53, 54, 55, 56, 57, 58, 59, 60, 61, 62, 63, 64, 65, 66, 67, 68, 69, 70, 79, 80, 81, 82, 83, 84, 85, 86, 87, 88, 89, 90, 91, 92] (by decide +kernel) (by decide +kernel)
set_option maxRecDepth 20000 in
theorem gX1_sumHopes_X2_dearestStart : GoodIn wsX1_sumHopes (wsV RX1 80 RX2 yX2_dearestStart wsX2_dearestStart) := goodIn_app (goodIn_of _ (by decide +kernel)) ggX1_sumHopes_X2_dearestStart
set_option maxRecDepth 20000 in
theorem ggX1_sumHopes_X2_blockRent : GoodIn wsX1_sumHopes wsX2_blockRent := goodIn_r _ [14, 15, 10, 16, 17, 18, 19, 20, 79, 80, 81, 82, 83, 84, 85, 86, 87, 88, 89, 90, 91, 92] (by decide +kernel) (by decide +kernel)
set_option maxRecDepth 20000 in
theorem gX1_sumHopes_X2_blockRent : GoodIn wsX1_sumHopes (wsV RX1 84 RX2 yX2_blockRent wsX2_blockRent) := goodIn_app (goodIn_of _ (by decide +kernel)) ggX1_sumHopes_X2_blockRent
theorem dX1_sumHopes_0 : decode cX1_sumHopes 0 = .ok (.aload_n 0, 1) := by decide +kernel
theorem dX1_sumHopes_1 : decode cX1_sumHopes 1 = .ok (.getfield 35, 3) := by decide +kernel
theorem dX1_sumHopes_4 : decode cX1_sumHopes 4 = .ok (.iload_n 1, 1) := by decide +kernel
theorem dX1_sumHopes_5 : decode cX1_sumHopes 5 = .ok (.iconst 1, 1) := by decide +kernel
theorem dX1_sumHopes_6 : decode cX1_sumHopes 6 = .ok (.iadd, 1) := by decide +kernel
theorem dX1_sumHopes_7 : decode cX1_sumHopes 7 = .ok (.iconst 0, 1) := by decide +kernel
theorem dX1_sumHopes_8 : decode cX1_sumHopes 8 = .ok (.iastore, 1) := by decide +kernel
theorem dX1_sumHopes_9 : decode cX1_sumHopes 9 = .ok (.iload_n 1, 1) := by decide +kernel
theorem dX1_sumHopes_10 : decode cX1_sumHopes 10 = .ok (.istore_n 2, 1) := by decide +kernel
theorem dX1_sumHopes_11 : decode cX1_sumHopes 11 = .ok (.iload_n 2, 1) := by decide +kernel
theorem dX1_sumHopes_12 : decode cX1_sumHopes 12 = .ok (.ifCond .lt 70, 3) := by decide +kernel
theorem dX1_sumHopes_15 : decode cX1_sumHopes 15 = .ok (.aload_n 0, 1) := by decide +kernel
theorem dX1_sumHopes_16 : decode cX1_sumHopes 16 = .ok (.getfield 12, 3) := by decide +kernel
theorem dX1_sumHopes_19 : decode cX1_sumHopes 19 = .ok (.aload_n 0, 1) := by decide +kernel
theorem dX1_sumHopes_20 : decode cX1_sumHopes 20 = .ok (.getfield 32, 3) := by decide +kernel
theorem dX1_sumHopes_23 : decode cX1_sumHopes 23 = .ok (.iload_n 2, 1) := by decide +kernel
theorem dX1_sumHopes_24 : decode cX1_sumHopes 24 = .ok (.iaload, 1) := by decide +kernel
theorem dX1_sumHopes_25 : decode cX1_sumHopes 25 = .ok (.aload_n 0, 1) := by decide +kernel
theorem dX1_sumHopes_26 : decode cX1_sumHopes 26 = .ok (.getfield 28, 3) := by decide +kernel
theorem dX1_sumHopes_29 : decode cX1_sumHopes 29 = .ok (.aload_n 0, 1) := by decide +kernel
theorem dX1_sumHopes_30 : decode cX1_sumHopes 30 = .ok (.getfield 32, 3) := by decide +kernel
theorem dX1_sumHopes_33 : decode cX1_sumHopes 33 = .ok (.iload_n 2, 1) := by decide +kernel
theorem dX1_sumHopes_34 : decode cX1_sumHopes 34 = .ok (.iaload, 1) := by decide +kernel
theorem dX1_sumHopes_35 : decode cX1_sumHopes 35 = .ok (.iaload, 1) := by decide +kernel
theorem dX1_sumHopes_36 : decode cX1_sumHopes 36 = .ok (.invokevirtual 80, 3) := by decide +kernel
theorem dX1_sumHopes_39 : decode cX1_sumHopes 39 = .ok (.istore_n 3, 1) := by decide +kernel
theorem dX1_sumHopes_40 : decode cX1_sumHopes 40 = .ok (.iload_n 3, 1) := by decide +kernel
theorem dX1_sumHopes_41 : decode cX1_sumHopes 41 = .ok (.iconst (-1), 1) := by decide +kernel
theorem dX1_sumHopes_42 : decode cX1_sumHopes 42 = .ok (.if_icmp .ne 5, 3) := by decide +kernel
theorem dX1_sumHopes_45 : decode cX1_sumHopes 45 = .ok (.iconst 0, 1) := by decide +kernel
theorem dX1_sumHopes_46 : decode cX1_sumHopes 46 = .ok (.ireturn, 1) := by decide +kernel
theorem dX1_sumHopes_47 : decode cX1_sumHopes 47 = .ok (.aload_n 0, 1) := by decide +kernel
theorem dX1_sumHopes_48 : decode cX1_sumHopes 48 = .ok (.getfield 35, 3) := by decide +kernel
theorem dX1_sumHopes_51 : decode cX1_sumHopes 51 = .ok (.iload_n 2, 1) := by decide +kernel
theorem dX1_sumHopes_52 : decode cX1_sumHopes 52 = .ok (.aload_n 0, 1) := by decide +kernel
theorem dX1_sumHopes_53 : decode cX1_sumHopes 53 = .ok (.getfield 35, 3) := by decide +kernel
theorem dX1_sumHopes_56 : decode cX1_sumHopes 56 = .ok (.iload_n 2, 1) := by decide +kernel
theorem dX1_sumHopes_57 : decode cX1_sumHopes 57 = .ok (.iconst 1, 1) := by decide +kernel
theorem dX1_sumHopes_58 : decode cX1_sumHopes 58 = .ok (.iadd, 1) := by decide +kernel
theorem dX1_sumHopes_59 : decode cX1_sumHopes 59 = .ok (.iaload, 1) := by decide +kernel
theorem dX1_sumHopes_60 : decode cX1_sumHopes 60 = .ok (.aload_n 0, 1) := by decide +kernel
theorem dX1_sumHopes_61 : decode cX1_sumHopes 61 = .ok (.getfield 12, 3) := by decide +kernel
theorem dX1_sumHopes_64 : decode cX1_sumHopes 64 = .ok (.aload_n 0, 1) := by decide +kernel
theorem dX1_sumHopes_65 : decode cX1_sumHopes 65 = .ok (.getfield 32, 3) := by decide +kernel
theorem dX1_sumHopes_68 : decode cX1_sumHopes 68 = .ok (.iload_n 2, 1) := by decide +kernel
theorem dX1_sumHopes_69 : decode cX1_sumHopes 69 = .ok (.iaload, 1) := by decide +kernel
theorem dX1_sumHopes_70 : decode cX1_sumHopes 70 = .ok (.iload_n 3, 1) := by decide +kernel
theorem dX1_sumHopes_71 : decode cX1_sumHopes 71 = .ok (.invokevirtual 84, 3) := by decide +kernel
theorem dX1_sumHopes_74 : decode cX1_sumHopes 74 = .ok (.iadd, 1) := by decide +kernel
theorem dX1_sumHopes_75 : decode cX1_sumHopes 75 = .ok (.iastore, 1) := by decide +kernel
theorem dX1_sumHopes_76 : decode cX1_sumHopes 76 = .ok (.iinc 2 (-1), 3) := by decide +kernel
theorem dX1_sumHopes_79 : decode cX1_sumHopes 79 = .ok (.goto (-68), 3) := by decide +kernel
theorem dX1_sumHopes_82 : decode cX1_sumHopes 82 = .ok (.iconst 1, 1) := by decide +kernel
theorem dX1_sumHopes_83 : decode cX1_sumHopes 83 = .ok (.ireturn, 1) := by decide +kernel
theorem dX1_isHopeless_0 : decode cX1_isHopeless 0 = .ok (.iload_n 2, 1) := by decide +kernel
theorem dX1_isHopeless_1 : decode cX1_isHopeless 1 = .ok (.aload_n 0, 1) := by decide +kernel
theorem dX1_isHopeless_2 : decode cX1_isHopeless 2 = .ok (.getfield 21, 3) := by decide +kernel
theorem dX1_isHopeless_5 : decode cX1_isHopeless 5 = .ok (.if_icmp .lt 19, 3) := by decide +kernel
theorem dX1_isHopeless_8 : decode cX1_isHopeless 8 = .ok (.iload_n 2, 1) := by decide +kernel
theorem dX1_isHopeless_9 : decode cX1_isHopeless 9 = .ok (.aload_n 0, 1) := by decide +kernel
theorem dX1_isHopeless_10 : decode cX1_isHopeless 10 = .ok (.getfield 21, 3) := by decide +kernel
theorem dX1_isHopeless_13 : decode cX1_isHopeless 13 = .ok (.if_icmp .ne 15, 3) := by decide +kernel
theorem dX1_isHopeless_16 : decode cX1_isHopeless 16 = .ok (.iload_n 1, 1) := by decide +kernel
theorem dX1_isHopeless_17 : decode cX1_isHopeless 17 = .ok (.aload_n 0, 1) := by decide +kernel
theorem dX1_isHopeless_18 : decode cX1_isHopeless 18 = .ok (.getfield 25, 3) := by decide +kernel
theorem dX1_isHopeless_21 : decode cX1_isHopeless 21 = .ok (.if_icmp .le 7, 3) := by decide +kernel
theorem dX1_isHopeless_24 : decode cX1_isHopeless 24 = .ok (.iconst 1, 1) := by decide +kernel
theorem dX1_isHopeless_25 : decode cX1_isHopeless 25 = .ok (.goto 4, 3) := by decide +kernel
theorem dX1_isHopeless_28 : decode cX1_isHopeless 28 = .ok (.iconst 0, 1) := by decide +kernel
theorem dX1_isHopeless_29 : decode cX1_isHopeless 29 = .ok (.ireturn, 1) := by decide +kernel
set_option maxRecDepth 20000 in
theorem ggX1_seatWalkers_X1_isHopeless : GoodIn wsX1_seatWalkers wsX1_isHopeless := goodIn_r _ [10, 11, 12, 113, 114, 115, 116, 117, 118, 119] (by decide +kernel) (by decide +kernel)
set_option maxRecDepth 20000 in
theorem gX1_seatWalkers_X1_isHopeless : GoodIn wsX1_seatWalkers (wsV RX1 87 RX1 yX1_isHopeless wsX1_isHopeless) := goodIn_app (goodIn_of _ (by decide +kernel)) ggX1_seatWalkers_X1_isHopeless
set_option maxRecDepth 20000 in
theorem ggX1_seatWalkers_X1_consider : GoodIn wsX1_seatWalkers wsX1_consider := goodIn_r _ [16, 11, 12, 3, 17, 18, 19, 20, 21, 22, 23, 24, 25, 26, 27, 28, 29, 30, 31, 32, 33, 34, 35, 36, 37, 38, 39, 40, 41, 42, 43, 44, 113, 114, 115, 116, 117, 118, 119, 120, 121, 122, 123, 124, 125, 126, 127, 128, 129, 130, 131, 132, 133] (by decide +kernel) (by decide +kernel)
set_option maxRecDepth 20000 in
theorem gX1_seatWalkers_X1_consider : GoodIn wsX1_seatWalkers (wsV RX1 91 RX1 yX1_consider wsX1_consider) := goodIn_app (goodIn_of _ (by decide +kernel)) ggX1_seatWalkers_X1_consider
set_option maxRecDepth 20000 in
theorem ggX1_seatWalkers_X2_seatIfPossible : GoodIn wsX1_seatWalkers wsX2_seatIfPossible := goodIn_r _ [48, 49, 50, 51, 21, 52, 44, 42, 53, 54, 55, 56, 43, 57, 58, 59, 60, 38, 61, 62, 63, 64, 23, 29, 65, 66, 67, 68, 69, 70, 71, 72, 24, 73, 74, 75, 76, 39, 77, 78, 79, 80, 34, 81, 82, 83, 84, 40, 85, 86, 87, 88, 35, 89, 90, 91, 92, 93, 94, 95, 96, 41, 37, 97, 98, 99, 100, 101, 102, 103, 104, 120, 121, 122, 123, 124, 125, 126, 127, 128, 129, 130, 131, 132, 133] (by decide +kernel) (by decide +kernel)
set_option maxRecDepth 20000 in
theorem gX1_seatWalkers_X2_seatIfPossible : GoodIn wsX1_seatWalkers (wsV RX1 97 RX2 yX2_seatIfPossible wsX2_seatIfPossible) := goodIn_app (goodIn_of _ (by decide +kernel)) ggX1_seatWalkers_X2_seatIfPossible
set_option maxRecDepth 20000 in
theorem ggX1_seatWalkers_X2_blockRent : GoodIn wsX1_seatWalkers wsX2_blockRent := goodIn_r _ [80, 38, 23, 69, 70, 71, 72, 34, 120, 121, 122, 123, 124, 125, 126, 127, 128, 129, 130, 131, 132, 133] (by decide +kernel) (by decide +kernel)
set_option maxRecDepth 20000 in
theorem gX1_seatWalkers_X2_blockRent : GoodIn wsX1_seatWalkers (wsV RX1 84 RX2 yX2_blockRent wsX2_blockRent) := goodIn_app (goodIn_of _ (by decide +kernel)) ggX1_seatWalkers_X2_blockRent
set_option maxRecDepth 20000 in
theorem ggX1_seatWalkers_X1_seatWalkers : GoodIn wsX1_seatWalkers wsX1_seatWalkers := goodIn_r _ [0, 1, 2, 3, 4, 5, 6, 7, 8, 9, 10, 11, 12, 13, 14, 15, 16, 17, 18, 19, 20, 21, 22, 23, 24, 25, 26, 27, 28, 29, 30, 31, 32, 33, 34, 35, 36, 37, 38, 39, 40, 41, 42, 43, 44, 45, 46, 47, 48, 49, 50, 51, 52, 53, 54, 55, 56, 57, 58, 59, 60, 61, 62, 63, 64, 65, 66, 67, 68, 69, 70, 71, 72, 73, 74, 75, 76, 77, 78, 79, 80, 81, 82, 83, 84, 85, 86, 87, 88, 89, 90, 91, 92, 93, 94, 95, 96, 97, 98, 99, 100, 101, 102, 103, 104, 105, 106, 107, 108, 109, 110, 111, 112, 113, 114, 115, 116, 117, 118, 119, 120, 121, 122, 123, 124, 125, 126, 127, 128, 129, 130, 131, 132, 133] (by decide +kernel) (by decide +kernel)
set_option maxRecDepth 20000 in
theorem gX1_seatWalkers_X1_seatWalkers : GoodIn wsX1_seatWalkers (wsV RX1 63 RX1 yX1_seatWalkers wsX1_seatWalkers) := goodIn_app (goodIn_of _ (by decide +kernel)) ggX1_seatWalkers_X1_seatWalkers
set_option maxRecDepth 20000 in
theorem ggX1_seatWalkers_X2_unseat : GoodIn wsX1_seatWalkers wsX2_unseat := goodIn_r _ [112, 43, 38, 44, 53, 54, 55, 21, 56, 101, 102, 103, 104, 23, 69, 70, 71, 72, 24, 81, 82, 83, 84, 40, 85, 86, 87, 88, 35, 120, 121, 122, 123, 124, 125, 126, 127, 128, 129, 130, 131, 132, 133] (by decide +kernel) (by decide +kernel)
set_option maxRecDepth 20000 in
theorem gX1_seatWalkers_X2_unseat : GoodIn wsX1_seatWalkers (wsV RX1 72 RX2 yX2_unseat wsX2_unseat) := goodIn_app (goodIn_of _ (by decide +kernel)) ggX1_seatWalkers_X2_unseat
theorem dX1_seatWalkers_0 : decode cX1_seatWalkers 0 = .ok (.aload_n 0, 1) := by decide +kernel
theorem dX1_seatWalkers_1 : decode cX1_seatWalkers 1 = .ok (.iload_n 2, 1) := by decide +kernel
theorem dX1_seatWalkers_2 : decode cX1_seatWalkers 2 = .ok (.iload_n 3, 1) := by decide +kernel
theorem dX1_seatWalkers_3 : decode cX1_seatWalkers 3 = .ok (.aload_n 0, 1) := by decide +kernel
theorem dX1_seatWalkers_4 : decode cX1_seatWalkers 4 = .ok (.getfield 35, 3) := by decide +kernel
theorem dX1_seatWalkers_7 : decode cX1_seatWalkers 7 = .ok (.iload_n 1, 1) := by decide +kernel
theorem dX1_seatWalkers_8 : decode cX1_seatWalkers 8 = .ok (.iaload, 1) := by decide +kernel
theorem dX1_seatWalkers_9 : decode cX1_seatWalkers 9 = .ok (.iadd, 1) := by decide +kernel
theorem dX1_seatWalkers_10 : decode cX1_seatWalkers 10 = .ok (.invokevirtual 87, 3) := by decide +kernel
theorem dX1_seatWalkers_13 : decode cX1_seatWalkers 13 = .ok (.ifCond .eq 4, 3) := by decide +kernel
theorem dX1_seatWalkers_16 : decode cX1_seatWalkers 16 = .ok (.return_, 1) := by decide +kernel
theorem dX1_seatWalkers_17 : decode cX1_seatWalkers 17 = .ok (.iload_n 1, 1) := by decide +kernel
theorem dX1_seatWalkers_18 : decode cX1_seatWalkers 18 = .ok (.iload_n 2, 1) := by decide +kernel
theorem dX1_seatWalkers_19 : decode cX1_seatWalkers 19 = .ok (.if_icmp .gt 8, 3) := by decide +kernel
theorem dX1_seatWalkers_22 : decode cX1_seatWalkers 22 = .ok (.iload_n 1, 1) := by decide +kernel
theorem dX1_seatWalkers_23 : decode cX1_seatWalkers 23 = .ok (.iconst 2, 1) := by decide +kernel
theorem dX1_seatWalkers_24 : decode cX1_seatWalkers 24 = .ok (.if_icmp .le 10, 3) := by decide +kernel
theorem dX1_seatWalkers_27 : decode cX1_seatWalkers 27 = .ok (.aload_n 0, 1) := by decide +kernel
theorem dX1_seatWalkers_28 : decode cX1_seatWalkers 28 = .ok (.iload_n 2, 1) := by decide +kernel
theorem dX1_seatWalkers_29 : decode cX1_seatWalkers 29 = .ok (.iload_n 3, 1) := by decide +kernel
theorem dX1_seatWalkers_30 : decode cX1_seatWalkers 30 = .ok (.invokevirtual 91, 3) := by decide +kernel
theorem dX1_seatWalkers_33 : decode cX1_seatWalkers 33 = .ok (.return_, 1) := by decide +kernel
theorem dX1_seatWalkers_34 : decode cX1_seatWalkers 34 = .ok (.aload_n 0, 1) := by decide +kernel
theorem dX1_seatWalkers_35 : decode cX1_seatWalkers 35 = .ok (.getfield 32, 3) := by decide +kernel
theorem dX1_seatWalkers_38 : decode cX1_seatWalkers 38 = .ok (.iload_n 1, 1) := by decide +kernel
theorem dX1_seatWalkers_39 : decode cX1_seatWalkers 39 = .ok (.iaload, 1) := by decide +kernel
theorem dX1_seatWalkers_40 : decode cX1_seatWalkers 40 = .ok (.istore 4, 2) := by decide +kernel
theorem dX1_seatWalkers_42 : decode cX1_seatWalkers 42 = .ok (.iconst 0, 1) := by decide +kernel
theorem dX1_seatWalkers_43 : decode cX1_seatWalkers 43 = .ok (.istore 5, 2) := by decide +kernel
theorem dX1_seatWalkers_45 : decode cX1_seatWalkers 45 = .ok (.iload 5, 2) := by decide +kernel
theorem dX1_seatWalkers_47 : decode cX1_seatWalkers 47 = .ok (.aload_n 0, 1) := by decide +kernel
theorem dX1_seatWalkers_48 : decode cX1_seatWalkers 48 = .ok (.getfield 12, 3) := by decide +kernel
theorem dX1_seatWalkers_51 : decode cX1_seatWalkers 51 = .ok (.getfield 94, 3) := by decide +kernel
theorem dX1_seatWalkers_54 : decode cX1_seatWalkers 54 = .ok (.if_icmp .ge 65, 3) := by decide +kernel
theorem dX1_seatWalkers_57 : decode cX1_seatWalkers 57 = .ok (.iload 5, 2) := by decide +kernel
theorem dX1_seatWalkers_59 : decode cX1_seatWalkers 59 = .ok (.aload_n 0, 1) := by decide +kernel
theorem dX1_seatWalkers_60 : decode cX1_seatWalkers 60 = .ok (.getfield 28, 3) := by decide +kernel
theorem dX1_seatWalkers_63 : decode cX1_seatWalkers 63 = .ok (.iload 4, 2) := by decide +kernel
theorem dX1_seatWalkers_65 : decode cX1_seatWalkers 65 = .ok (.iaload, 1) := by decide +kernel
theorem dX1_seatWalkers_66 : decode cX1_seatWalkers 66 = .ok (.if_icmp .eq 47, 3) := by decide +kernel
theorem dX1_seatWalkers_69 : decode cX1_seatWalkers 69 = .ok (.aload_n 0, 1) := by decide +kernel
theorem dX1_seatWalkers_70 : decode cX1_seatWalkers 70 = .ok (.getfield 12, 3) := by decide +kernel
theorem dX1_seatWalkers_73 : decode cX1_seatWalkers 73 = .ok (.iload 4, 2) := by decide +kernel
theorem dX1_seatWalkers_75 : decode cX1_seatWalkers 75 = .ok (.iload 5, 2) := by decide +kernel
theorem dX1_seatWalkers_77 : decode cX1_seatWalkers 77 = .ok (.invokevirtual 97, 3) := by decide +kernel
theorem dX1_seatWalkers_80 : decode cX1_seatWalkers 80 = .ok (.ifCond .eq 33, 3) := by decide +kernel
theorem dX1_seatWalkers_83 : decode cX1_seatWalkers 83 = .ok (.aload_n 0, 1) := by decide +kernel
theorem dX1_seatWalkers_84 : decode cX1_seatWalkers 84 = .ok (.iload_n 1, 1) := by decide +kernel
theorem dX1_seatWalkers_85 : decode cX1_seatWalkers 85 = .ok (.iconst 1, 1) := by decide +kernel
theorem dX1_seatWalkers_86 : decode cX1_seatWalkers 86 = .ok (.iadd, 1) := by decide +kernel
theorem dX1_seatWalkers_87 : decode cX1_seatWalkers 87 = .ok (.iload_n 2, 1) := by decide +kernel
theorem dX1_seatWalkers_88 : decode cX1_seatWalkers 88 = .ok (.iload_n 3, 1) := by decide +kernel
theorem dX1_seatWalkers_89 : decode cX1_seatWalkers 89 = .ok (.aload_n 0, 1) := by decide +kernel
theorem dX1_seatWalkers_90 : decode cX1_seatWalkers 90 = .ok (.getfield 12, 3) := by decide +kernel
theorem dX1_seatWalkers_93 : decode cX1_seatWalkers 93 = .ok (.iload 4, 2) := by decide +kernel
theorem dX1_seatWalkers_95 : decode cX1_seatWalkers 95 = .ok (.iload 5, 2) := by decide +kernel
theorem dX1_seatWalkers_97 : decode cX1_seatWalkers 97 = .ok (.invokevirtual 84, 3) := by decide +kernel
theorem dX1_seatWalkers_100 : decode cX1_seatWalkers 100 = .ok (.iadd, 1) := by decide +kernel
theorem dX1_seatWalkers_101 : decode cX1_seatWalkers 101 = .ok (.invokevirtual 63, 3) := by decide +kernel
theorem dX1_seatWalkers_104 : decode cX1_seatWalkers 104 = .ok (.aload_n 0, 1) := by decide +kernel
theorem dX1_seatWalkers_105 : decode cX1_seatWalkers 105 = .ok (.getfield 12, 3) := by decide +kernel
theorem dX1_seatWalkers_108 : decode cX1_seatWalkers 108 = .ok (.iload 4, 2) := by decide +kernel
theorem dX1_seatWalkers_110 : decode cX1_seatWalkers 110 = .ok (.invokevirtual 72, 3) := by decide +kernel
theorem dX1_seatWalkers_113 : decode cX1_seatWalkers 113 = .ok (.iinc 5 1, 3) := by decide +kernel
theorem dX1_seatWalkers_116 : decode cX1_seatWalkers 116 = .ok (.goto (-71), 3) := by decide +kernel
theorem dX1_seatWalkers_119 : decode cX1_seatWalkers 119 = .ok (.return_, 1) := by decide +kernel
set_option maxRecDepth 20000 in
theorem ggX1_consider_X2_comesBefore : GoodIn wsX1_consider wsX2_comesBefore := goodIn_r _ [9, 10, 11, 39, 40, 41, 42, 43, 44, 45, 46, 47, 48, 49, 50, 51, 52] (by decide +kernel) (by decide +kernel)
set_option maxRecDepth 20000 in
theorem gX1_consider_X2_comesBefore : GoodIn wsX1_consider (wsV RX1 100 RX2 yX2_comesBefore wsX2_comesBefore) := goodIn_app (goodIn_of _ (by decide +kernel)) ggX1_consider_X2_comesBefore
set_option maxRecDepth 20000 in
theorem ggX1_consider_X2_copyFrom : GoodIn wsX1_consider wsX2_copyFrom := goodIn_r _ [15, 10, 16, 17, 18, 19, 20, 21, 22, 23, 24, 25, 26, 27, 28, 29, 30, 11, 31, 39, 40, 41, 42, 43, 44, 45, 46, 47, 48, 49, 50, 51, 52] (by decide +kernel) (by decide +kernel)
set_option maxRecDepth 20000 in
theorem gX1_consider_X2_copyFrom : GoodIn wsX1_consider (wsV RX1 38 RX2 yX2_copyFrom wsX2_copyFrom) := goodIn_app (goodIn_of _ (by decide +kernel)) ggX1_consider_X2_copyFrom
theorem dX1_consider_0 : decode cX1_consider 0 = .ok (.iload_n 2, 1) := by decide +kernel
theorem dX1_consider_1 : decode cX1_consider 1 = .ok (.aload_n 0, 1) := by decide +kernel
theorem dX1_consider_2 : decode cX1_consider 2 = .ok (.getfield 21, 3) := by decide +kernel
theorem dX1_consider_5 : decode cX1_consider 5 = .ok (.if_icmp .gt 41, 3) := by decide +kernel
theorem dX1_consider_8 : decode cX1_consider 8 = .ok (.iload_n 2, 1) := by decide +kernel
theorem dX1_consider_9 : decode cX1_consider 9 = .ok (.aload_n 0, 1) := by decide +kernel
theorem dX1_consider_10 : decode cX1_consider 10 = .ok (.getfield 21, 3) := by decide +kernel
theorem dX1_consider_13 : decode cX1_consider 13 = .ok (.if_icmp .ne 54, 3) := by decide +kernel
theorem dX1_consider_16 : decode cX1_consider 16 = .ok (.iload_n 1, 1) := by decide +kernel
theorem dX1_consider_17 : decode cX1_consider 17 = .ok (.aload_n 0, 1) := by decide +kernel
theorem dX1_consider_18 : decode cX1_consider 18 = .ok (.getfield 25, 3) := by decide +kernel
theorem dX1_consider_21 : decode cX1_consider 21 = .ok (.if_icmp .lt 25, 3) := by decide +kernel
theorem dX1_consider_24 : decode cX1_consider 24 = .ok (.iload_n 1, 1) := by decide +kernel
theorem dX1_consider_25 : decode cX1_consider 25 = .ok (.aload_n 0, 1) := by decide +kernel
theorem dX1_consider_26 : decode cX1_consider 26 = .ok (.getfield 25, 3) := by decide +kernel
theorem dX1_consider_29 : decode cX1_consider 29 = .ok (.if_icmp .ne 38, 3) := by decide +kernel
theorem dX1_consider_32 : decode cX1_consider 32 = .ok (.aload_n 0, 1) := by decide +kernel
theorem dX1_consider_33 : decode cX1_consider 33 = .ok (.getfield 12, 3) := by decide +kernel
theorem dX1_consider_36 : decode cX1_consider 36 = .ok (.aload_n 0, 1) := by decide +kernel
theorem dX1_consider_37 : decode cX1_consider 37 = .ok (.getfield 18, 3) := by decide +kernel
theorem dX1_consider_40 : decode cX1_consider 40 = .ok (.invokevirtual 100, 3) := by decide +kernel
theorem dX1_consider_43 : decode cX1_consider 43 = .ok (.ifCond .eq 24, 3) := by decide +kernel
theorem dX1_consider_46 : decode cX1_consider 46 = .ok (.aload_n 0, 1) := by decide +kernel
theorem dX1_consider_47 : decode cX1_consider 47 = .ok (.iload_n 2, 1) := by decide +kernel
theorem dX1_consider_48 : decode cX1_consider 48 = .ok (.putfield 21, 3) := by decide +kernel
theorem dX1_consider_51 : decode cX1_consider 51 = .ok (.aload_n 0, 1) := by decide +kernel
theorem dX1_consider_52 : decode cX1_consider 52 = .ok (.iload_n 1, 1) := by decide +kernel
theorem dX1_consider_53 : decode cX1_consider 53 = .ok (.putfield 25, 3) := by decide +kernel
theorem dX1_consider_56 : decode cX1_consider 56 = .ok (.aload_n 0, 1) := by decide +kernel
theorem dX1_consider_57 : decode cX1_consider 57 = .ok (.getfield 18, 3) := by decide +kernel
theorem dX1_consider_60 : decode cX1_consider 60 = .ok (.aload_n 0, 1) := by decide +kernel
theorem dX1_consider_61 : decode cX1_consider 61 = .ok (.getfield 12, 3) := by decide +kernel
theorem dX1_consider_64 : decode cX1_consider 64 = .ok (.invokevirtual 38, 3) := by decide +kernel
theorem dX1_consider_67 : decode cX1_consider 67 = .ok (.return_, 1) := by decide +kernel
theorem dX2_init_0 : decode cX2_init 0 = .ok (.aload_n 0, 1) := by decide +kernel
theorem dX2_init_1 : decode cX2_init 1 = .ok (.invokespecial 3, 3) := by decide +kernel
theorem dX2_init_4 : decode cX2_init 4 = .ok (.aload_n 0, 1) := by decide +kernel
theorem dX2_init_5 : decode cX2_init 5 = .ok (.iconst 0, 1) := by decide +kernel
theorem dX2_init_6 : decode cX2_init 6 = .ok (.putfield 9, 3) := by decide +kernel
theorem dX2_init_9 : decode cX2_init 9 = .ok (.aload_n 0, 1) := by decide +kernel
theorem dX2_init_10 : decode cX2_init 10 = .ok (.bipush 24, 2) := by decide +kernel
theorem dX2_init_12 : decode cX2_init 12 = .ok (.newarray .int, 2) := by decide +kernel
theorem dX2_init_14 : decode cX2_init 14 = .ok (.putfield 15, 3) := by decide +kernel
theorem dX2_init_17 : decode cX2_init 17 = .ok (.aload_n 0, 1) := by decide +kernel
theorem dX2_init_18 : decode cX2_init 18 = .ok (.bipush 24, 2) := by decide +kernel
theorem dX2_init_20 : decode cX2_init 20 = .ok (.newarray .int, 2) := by decide +kernel
theorem dX2_init_22 : decode cX2_init 22 = .ok (.putfield 19, 3) := by decide +kernel
theorem dX2_init_25 : decode cX2_init 25 = .ok (.aload_n 0, 1) := by decide +kernel
theorem dX2_init_26 : decode cX2_init 26 = .ok (.bipush 24, 2) := by decide +kernel
theorem dX2_init_28 : decode cX2_init 28 = .ok (.newarray .boolean, 2) := by decide +kernel
theorem dX2_init_30 : decode cX2_init 30 = .ok (.putfield 22, 3) := by decide +kernel
theorem dX2_init_33 : decode cX2_init 33 = .ok (.aload_n 0, 1) := by decide +kernel
theorem dX2_init_34 : decode cX2_init 34 = .ok (.iconst 0, 1) := by decide +kernel
theorem dX2_init_35 : decode cX2_init 35 = .ok (.putfield 26, 3) := by decide +kernel
theorem dX2_init_38 : decode cX2_init 38 = .ok (.aload_n 0, 1) := by decide +kernel
theorem dX2_init_39 : decode cX2_init 39 = .ok (.bipush 8, 2) := by decide +kernel
theorem dX2_init_41 : decode cX2_init 41 = .ok (.newarray .int, 2) := by decide +kernel
theorem dX2_init_43 : decode cX2_init 43 = .ok (.putfield 29, 3) := by decide +kernel
theorem dX2_init_46 : decode cX2_init 46 = .ok (.aload_n 0, 1) := by decide +kernel
theorem dX2_init_47 : decode cX2_init 47 = .ok (.bipush 8, 2) := by decide +kernel
theorem dX2_init_49 : decode cX2_init 49 = .ok (.newarray .int, 2) := by decide +kernel
theorem dX2_init_51 : decode cX2_init 51 = .ok (.putfield 32, 3) := by decide +kernel
theorem dX2_init_54 : decode cX2_init 54 = .ok (.aload_n 0, 1) := by decide +kernel
theorem dX2_init_55 : decode cX2_init 55 = .ok (.bipush 8, 2) := by decide +kernel
theorem dX2_init_57 : decode cX2_init 57 = .ok (.newarray .int, 2) := by decide +kernel
theorem dX2_init_59 : decode cX2_init 59 = .ok (.putfield 35, 3) := by decide +kernel
theorem dX2_init_62 : decode cX2_init 62 = .ok (.aload_n 0, 1) := by decide +kernel
theorem dX2_init_63 : decode cX2_init 63 = .ok (.bipush 8, 2) := by decide +kernel
theorem dX2_init_65 : decode cX2_init 65 = .ok (.newarray .boolean, 2) := by decide +kernel
theorem dX2_init_67 : decode cX2_init 67 = .ok (.putfield 38, 3) := by decide +kernel
theorem dX2_init_70 : decode cX2_init 70 = .ok (.aload_n 0, 1) := by decide +kernel
theorem dX2_init_71 : decode cX2_init 71 = .ok (.bipush 8, 2) := by decide +kernel
theorem dX2_init_73 : decode cX2_init 73 = .ok (.newarray .int, 2) := by decide +kernel
theorem dX2_init_75 : decode cX2_init 75 = .ok (.putfield 41, 3) := by decide +kernel
theorem dX2_init_78 : decode cX2_init 78 = .ok (.aload_n 0, 1) := by decide +kernel
theorem dX2_init_79 : decode cX2_init 79 = .ok (.iconst 0, 1) := by decide +kernel
theorem dX2_init_80 : decode cX2_init 80 = .ok (.putfield 44, 3) := by decide +kernel
theorem dX2_init_83 : decode cX2_init 83 = .ok (.aload_n 0, 1) := by decide +kernel
theorem dX2_init_84 : decode cX2_init 84 = .ok (.bipush 8, 2) := by decide +kernel
theorem dX2_init_86 : decode cX2_init 86 = .ok (.newarray .int, 2) := by decide +kernel
theorem dX2_init_88 : decode cX2_init 88 = .ok (.putfield 47, 3) := by decide +kernel
theorem dX2_init_91 : decode cX2_init 91 = .ok (.aload_n 0, 1) := by decide +kernel
theorem dX2_init_92 : decode cX2_init 92 = .ok (.bipush 24, 2) := by decide +kernel
theorem dX2_init_94 : decode cX2_init 94 = .ok (.newarray .int, 2) := by decide +kernel
theorem dX2_init_96 : decode cX2_init 96 = .ok (.putfield 50, 3) := by decide +kernel
theorem dX2_init_99 : decode cX2_init 99 = .ok (.aload_n 0, 1) := by decide +kernel
theorem dX2_init_100 : decode cX2_init 100 = .ok (.iconst 0, 1) := by decide +kernel
theorem dX2_init_101 : decode cX2_init 101 = .ok (.putfield 53, 3) := by decide +kernel
theorem dX2_init_104 : decode cX2_init 104 = .ok (.iconst 0, 1) := by decide +kernel
theorem dX2_init_105 : decode cX2_init 105 = .ok (.istore_n 1, 1) := by decide +kernel
theorem dX2_init_106 : decode cX2_init 106 = .ok (.iload_n 1, 1) := by decide +kernel
theorem dX2_init_107 : decode cX2_init 107 = .ok (.bipush 8, 2) := by decide +kernel
theorem dX2_init_109 : decode cX2_init 109 = .ok (.if_icmp .ge 16, 3) := by decide +kernel
theorem dX2_init_112 : decode cX2_init 112 = .ok (.aload_n 0, 1) := by decide +kernel
theorem dX2_init_113 : decode cX2_init 113 = .ok (.getfield 47, 3) := by decide +kernel
theorem dX2_init_116 : decode cX2_init 116 = .ok (.iload_n 1, 1) := by decide +kernel
theorem dX2_init_117 : decode cX2_init 117 = .ok (.iconst (-1), 1) := by decide +kernel
theorem dX2_init_118 : decode cX2_init 118 = .ok (.iastore, 1) := by decide +kernel
theorem dX2_init_119 : decode cX2_init 119 = .ok (.iinc 1 1, 3) := by decide +kernel
theorem dX2_init_122 : decode cX2_init 122 = .ok (.goto (-16), 3) := by decide +kernel
theorem dX2_init_125 : decode cX2_init 125 = .ok (.iconst 0, 1) := by decide +kernel
theorem dX2_init_126 : decode cX2_init 126 = .ok (.istore_n 1, 1) := by decide +kernel
theorem dX2_init_127 : decode cX2_init 127 = .ok (.iload_n 1, 1) := by decide +kernel
theorem dX2_init_128 : decode cX2_init 128 = .ok (.bipush 24, 2) := by decide +kernel
theorem dX2_init_130 : decode cX2_init 130 = .ok (.if_icmp .ge 16, 3) := by decide +kernel
theorem dX2_init_133 : decode cX2_init 133 = .ok (.aload_n 0, 1) := by decide +kernel
theorem dX2_init_134 : decode cX2_init 134 = .ok (.getfield 50, 3) := by decide +kernel
theorem dX2_init_137 : decode cX2_init 137 = .ok (.iload_n 1, 1) := by decide +kernel
theorem dX2_init_138 : decode cX2_init 138 = .ok (.iconst (-1), 1) := by decide +kernel
theorem dX2_init_139 : decode cX2_init 139 = .ok (.iastore, 1) := by decide +kernel
theorem dX2_init_140 : decode cX2_init 140 = .ok (.iinc 1 1, 3) := by decide +kernel
theorem dX2_init_143 : decode cX2_init 143 = .ok (.goto (-16), 3) := by decide +kernel
theorem dX2_init_146 : decode cX2_init 146 = .ok (.return_, 1) := by decide +kernel
theorem dX2_copyFrom_0 : decode cX2_copyFrom 0 = .ok (.aload_n 0, 1) := by decide +kernel
theorem dX2_copyFrom_1 : decode cX2_copyFrom 1 = .ok (.aload_n 1, 1) := by decide +kernel
theorem dX2_copyFrom_2 : decode cX2_copyFrom 2 = .ok (.getfield 9, 3) := by decide +kernel
theorem dX2_copyFrom_5 : decode cX2_copyFrom 5 = .ok (.putfield 9, 3) := by decide +kernel
theorem dX2_copyFrom_8 : decode cX2_copyFrom 8 = .ok (.aload_n 1, 1) := by decide +kernel
theorem dX2_copyFrom_9 : decode cX2_copyFrom 9 = .ok (.getfield 15, 3) := by decide +kernel
theorem dX2_copyFrom_12 : decode cX2_copyFrom 12 = .ok (.iconst 0, 1) := by decide +kernel
theorem dX2_copyFrom_13 : decode cX2_copyFrom 13 = .ok (.aload_n 0, 1) := by decide +kernel
theorem dX2_copyFrom_14 : decode cX2_copyFrom 14 = .ok (.getfield 15, 3) := by decide +kernel
theorem dX2_copyFrom_17 : decode cX2_copyFrom 17 = .ok (.iconst 0, 1) := by decide +kernel
theorem dX2_copyFrom_18 : decode cX2_copyFrom 18 = .ok (.bipush 24, 2) := by decide +kernel
theorem dX2_copyFrom_20 : decode cX2_copyFrom 20 = .ok (.invokestatic 56, 3) := by decide +kernel
theorem dX2_copyFrom_23 : decode cX2_copyFrom 23 = .ok (.aload_n 1, 1) := by decide +kernel
theorem dX2_copyFrom_24 : decode cX2_copyFrom 24 = .ok (.getfield 19, 3) := by decide +kernel
theorem dX2_copyFrom_27 : decode cX2_copyFrom 27 = .ok (.iconst 0, 1) := by decide +kernel
theorem dX2_copyFrom_28 : decode cX2_copyFrom 28 = .ok (.aload_n 0, 1) := by decide +kernel
theorem dX2_copyFrom_29 : decode cX2_copyFrom 29 = .ok (.getfield 19, 3) := by decide +kernel
theorem dX2_copyFrom_32 : decode cX2_copyFrom 32 = .ok (.iconst 0, 1) := by decide +kernel
theorem dX2_copyFrom_33 : decode cX2_copyFrom 33 = .ok (.bipush 24, 2) := by decide +kernel
theorem dX2_copyFrom_35 : decode cX2_copyFrom 35 = .ok (.invokestatic 56, 3) := by decide +kernel
theorem dX2_copyFrom_38 : decode cX2_copyFrom 38 = .ok (.iconst 0, 1) := by decide +kernel
theorem dX2_copyFrom_39 : decode cX2_copyFrom 39 = .ok (.istore_n 2, 1) := by decide +kernel
theorem dX2_copyFrom_40 : decode cX2_copyFrom 40 = .ok (.iload_n 2, 1) := by decide +kernel
theorem dX2_copyFrom_41 : decode cX2_copyFrom 41 = .ok (.bipush 24, 2) := by decide +kernel
theorem dX2_copyFrom_43 : decode cX2_copyFrom 43 = .ok (.if_icmp .ge 21, 3) := by decide +kernel
theorem dX2_copyFrom_46 : decode cX2_copyFrom 46 = .ok (.aload_n 0, 1) := by decide +kernel
theorem dX2_copyFrom_47 : decode cX2_copyFrom 47 = .ok (.getfield 22, 3) := by decide +kernel
theorem dX2_copyFrom_50 : decode cX2_copyFrom 50 = .ok (.iload_n 2, 1) := by decide +kernel
theorem dX2_copyFrom_51 : decode cX2_copyFrom 51 = .ok (.aload_n 1, 1) := by decide +kernel
theorem dX2_copyFrom_52 : decode cX2_copyFrom 52 = .ok (.getfield 22, 3) := by decide +kernel
theorem dX2_copyFrom_55 : decode cX2_copyFrom 55 = .ok (.iload_n 2, 1) := by decide +kernel
theorem dX2_copyFrom_56 : decode cX2_copyFrom 56 = .ok (.baload, 1) := by decide +kernel
theorem dX2_copyFrom_57 : decode cX2_copyFrom 57 = .ok (.bastore, 1) := by decide +kernel
theorem dX2_copyFrom_58 : decode cX2_copyFrom 58 = .ok (.iinc 2 1, 3) := by decide +kernel
theorem dX2_copyFrom_61 : decode cX2_copyFrom 61 = .ok (.goto (-21), 3) := by decide +kernel
theorem dX2_copyFrom_64 : decode cX2_copyFrom 64 = .ok (.aload_n 0, 1) := by decide +kernel
theorem dX2_copyFrom_65 : decode cX2_copyFrom 65 = .ok (.aload_n 1, 1) := by decide +kernel
theorem dX2_copyFrom_66 : decode cX2_copyFrom 66 = .ok (.getfield 26, 3) := by decide +kernel
theorem dX2_copyFrom_69 : decode cX2_copyFrom 69 = .ok (.putfield 26, 3) := by decide +kernel
theorem dX2_copyFrom_72 : decode cX2_copyFrom 72 = .ok (.aload_n 1, 1) := by decide +kernel
theorem dX2_copyFrom_73 : decode cX2_copyFrom 73 = .ok (.getfield 29, 3) := by decide +kernel
theorem dX2_copyFrom_76 : decode cX2_copyFrom 76 = .ok (.iconst 0, 1) := by decide +kernel
theorem dX2_copyFrom_77 : decode cX2_copyFrom 77 = .ok (.aload_n 0, 1) := by decide +kernel
theorem dX2_copyFrom_78 : decode cX2_copyFrom 78 = .ok (.getfield 29, 3) := by decide +kernel
theorem dX2_copyFrom_81 : decode cX2_copyFrom 81 = .ok (.iconst 0, 1) := by decide +kernel
theorem dX2_copyFrom_82 : decode cX2_copyFrom 82 = .ok (.bipush 8, 2) := by decide +kernel
theorem dX2_copyFrom_84 : decode cX2_copyFrom 84 = .ok (.invokestatic 56, 3) := by decide +kernel
theorem dX2_copyFrom_87 : decode cX2_copyFrom 87 = .ok (.aload_n 1, 1) := by decide +kernel
theorem dX2_copyFrom_88 : decode cX2_copyFrom 88 = .ok (.getfield 32, 3) := by decide +kernel
theorem dX2_copyFrom_91 : decode cX2_copyFrom 91 = .ok (.iconst 0, 1) := by decide +kernel
theorem dX2_copyFrom_92 : decode cX2_copyFrom 92 = .ok (.aload_n 0, 1) := by decide +kernel
theorem dX2_copyFrom_93 : decode cX2_copyFrom 93 = .ok (.getfield 32, 3) := by decide +kernel
theorem dX2_copyFrom_96 : decode cX2_copyFrom 96 = .ok (.iconst 0, 1) := by decide +kernel
theorem dX2_copyFrom_97 : decode cX2_copyFrom 97 = .ok (.bipush 8, 2) := by decide +kernel
theorem dX2_copyFrom_99 : decode cX2_copyFrom 99 = .ok (.invokestatic 56, 3) := by decide +kernel
theorem dX2_copyFrom_102 : decode cX2_copyFrom 102 = .ok (.aload_n 1, 1) := by decide +kernel
theorem dX2_copyFrom_103 : decode cX2_copyFrom 103 = .ok (.getfield 35, 3) := by decide +kernel
theorem dX2_copyFrom_106 : decode cX2_copyFrom 106 = .ok (.iconst 0, 1) := by decide +kernel
theorem dX2_copyFrom_107 : decode cX2_copyFrom 107 = .ok (.aload_n 0, 1) := by decide +kernel
theorem dX2_copyFrom_108 : decode cX2_copyFrom 108 = .ok (.getfield 35, 3) := by decide +kernel
theorem dX2_copyFrom_111 : decode cX2_copyFrom 111 = .ok (.iconst 0, 1) := by decide +kernel
theorem dX2_copyFrom_112 : decode cX2_copyFrom 112 = .ok (.bipush 8, 2) := by decide +kernel
theorem dX2_copyFrom_114 : decode cX2_copyFrom 114 = .ok (.invokestatic 56, 3) := by decide +kernel
theorem dX2_copyFrom_117 : decode cX2_copyFrom 117 = .ok (.iconst 0, 1) := by decide +kernel
theorem dX2_copyFrom_118 : decode cX2_copyFrom 118 = .ok (.istore_n 2, 1) := by decide +kernel
theorem dX2_copyFrom_119 : decode cX2_copyFrom 119 = .ok (.iload_n 2, 1) := by decide +kernel
theorem dX2_copyFrom_120 : decode cX2_copyFrom 120 = .ok (.bipush 8, 2) := by decide +kernel
theorem dX2_copyFrom_122 : decode cX2_copyFrom 122 = .ok (.if_icmp .ge 21, 3) := by decide +kernel
theorem dX2_copyFrom_125 : decode cX2_copyFrom 125 = .ok (.aload_n 0, 1) := by decide +kernel
theorem dX2_copyFrom_126 : decode cX2_copyFrom 126 = .ok (.getfield 38, 3) := by decide +kernel
theorem dX2_copyFrom_129 : decode cX2_copyFrom 129 = .ok (.iload_n 2, 1) := by decide +kernel
theorem dX2_copyFrom_130 : decode cX2_copyFrom 130 = .ok (.aload_n 1, 1) := by decide +kernel
theorem dX2_copyFrom_131 : decode cX2_copyFrom 131 = .ok (.getfield 38, 3) := by decide +kernel
theorem dX2_copyFrom_134 : decode cX2_copyFrom 134 = .ok (.iload_n 2, 1) := by decide +kernel
theorem dX2_copyFrom_135 : decode cX2_copyFrom 135 = .ok (.baload, 1) := by decide +kernel
theorem dX2_copyFrom_136 : decode cX2_copyFrom 136 = .ok (.bastore, 1) := by decide +kernel
theorem dX2_copyFrom_137 : decode cX2_copyFrom 137 = .ok (.iinc 2 1, 3) := by decide +kernel
theorem dX2_copyFrom_140 : decode cX2_copyFrom 140 = .ok (.goto (-21), 3) := by decide +kernel
theorem dX2_copyFrom_143 : decode cX2_copyFrom 143 = .ok (.aload_n 1, 1) := by decide +kernel
theorem dX2_copyFrom_144 : decode cX2_copyFrom 144 = .ok (.getfield 41, 3) := by decide +kernel
theorem dX2_copyFrom_147 : decode cX2_copyFrom 147 = .ok (.iconst 0, 1) := by decide +kernel
theorem dX2_copyFrom_148 : decode cX2_copyFrom 148 = .ok (.aload_n 0, 1) := by decide +kernel
theorem dX2_copyFrom_149 : decode cX2_copyFrom 149 = .ok (.getfield 41, 3) := by decide +kernel
theorem dX2_copyFrom_152 : decode cX2_copyFrom 152 = .ok (.iconst 0, 1) := by decide +kernel
theorem dX2_copyFrom_153 : decode cX2_copyFrom 153 = .ok (.bipush 8, 2) := by decide +kernel
theorem dX2_copyFrom_155 : decode cX2_copyFrom 155 = .ok (.invokestatic 56, 3) := by decide +kernel
theorem dX2_copyFrom_158 : decode cX2_copyFrom 158 = .ok (.aload_n 0, 1) := by decide +kernel
theorem dX2_copyFrom_159 : decode cX2_copyFrom 159 = .ok (.aload_n 1, 1) := by decide +kernel
theorem dX2_copyFrom_160 : decode cX2_copyFrom 160 = .ok (.getfield 44, 3) := by decide +kernel
theorem dX2_copyFrom_163 : decode cX2_copyFrom 163 = .ok (.putfield 44, 3) := by decide +kernel
theorem dX2_copyFrom_166 : decode cX2_copyFrom 166 = .ok (.aload_n 1, 1) := by decide +kernel
theorem dX2_copyFrom_167 : decode cX2_copyFrom 167 = .ok (.getfield 47, 3) := by decide +kernel
theorem dX2_copyFrom_170 : decode cX2_copyFrom 170 = .ok (.iconst 0, 1) := by decide +kernel
theorem dX2_copyFrom_171 : decode cX2_copyFrom 171 = .ok (.aload_n 0, 1) := by decide +kernel
theorem dX2_copyFrom_172 : decode cX2_copyFrom 172 = .ok (.getfield 47, 3) := by decide +kernel
theorem dX2_copyFrom_175 : decode cX2_copyFrom 175 = .ok (.iconst 0, 1) := by decide +kernel
theorem dX2_copyFrom_176 : decode cX2_copyFrom 176 = .ok (.bipush 8, 2) := by decide +kernel
theorem dX2_copyFrom_178 : decode cX2_copyFrom 178 = .ok (.invokestatic 56, 3) := by decide +kernel
theorem dX2_copyFrom_181 : decode cX2_copyFrom 181 = .ok (.aload_n 1, 1) := by decide +kernel
theorem dX2_copyFrom_182 : decode cX2_copyFrom 182 = .ok (.getfield 50, 3) := by decide +kernel
theorem dX2_copyFrom_185 : decode cX2_copyFrom 185 = .ok (.iconst 0, 1) := by decide +kernel
theorem dX2_copyFrom_186 : decode cX2_copyFrom 186 = .ok (.aload_n 0, 1) := by decide +kernel
theorem dX2_copyFrom_187 : decode cX2_copyFrom 187 = .ok (.getfield 50, 3) := by decide +kernel
theorem dX2_copyFrom_190 : decode cX2_copyFrom 190 = .ok (.iconst 0, 1) := by decide +kernel
theorem dX2_copyFrom_191 : decode cX2_copyFrom 191 = .ok (.bipush 24, 2) := by decide +kernel
theorem dX2_copyFrom_193 : decode cX2_copyFrom 193 = .ok (.invokestatic 56, 3) := by decide +kernel
theorem dX2_copyFrom_196 : decode cX2_copyFrom 196 = .ok (.aload_n 0, 1) := by decide +kernel
theorem dX2_copyFrom_197 : decode cX2_copyFrom 197 = .ok (.aload_n 1, 1) := by decide +kernel
theorem dX2_copyFrom_198 : decode cX2_copyFrom 198 = .ok (.getfield 53, 3) := by decide +kernel
theorem dX2_copyFrom_201 : decode cX2_copyFrom 201 = .ok (.putfield 53, 3) := by decide +kernel
theorem dX2_copyFrom_204 : decode cX2_copyFrom 204 = .ok (.return_, 1) := by decide +kernel
set_option maxRecDepth 20000 in
theorem ggX2_wipe_X2_unseatAll : GoodIn wsX2_wipe wsX2_unseatAll := goodIn_r _ [9, 2, 10, 11, 12, 8, 13, 14, 15, 16, 17, 18, 19, 20, 21, 22, 23, 24, 1, 25, 26, 27, 28, 29, 30, 31, 32, 33, 34, 35, 36, 37, 38, 39, 40, 41, 42, 43, 44, 45, 46, 47, 48, 49, 50, 51, 52, 53] (by decide +kernel) (by decide +kernel)
set_option maxRecDepth 20000 in
theorem gX2_wipe_X2_unseatAll : GoodIn wsX2_wipe (wsV RX2 62 RX2 yX2_unseatAll wsX2_unseatAll) := goodIn_app (goodIn_of _ (by decide +kernel)) ggX2_wipe_X2_unseatAll
theorem dX2_wipe_0 : decode cX2_wipe 0 = .ok (.aload_n 0, 1) := by decide +kernel
theorem dX2_wipe_1 : decode cX2_wipe 1 = .ok (.invokevirtual 62, 3) := by decide +kernel
theorem dX2_wipe_4 : decode cX2_wipe 4 = .ok (.aload_n 0, 1) := by decide +kernel
theorem dX2_wipe_5 : decode cX2_wipe 5 = .ok (.iconst 0, 1) := by decide +kernel
theorem dX2_wipe_6 : decode cX2_wipe 6 = .ok (.putfield 9, 3) := by decide +kernel
theorem dX2_wipe_9 : decode cX2_wipe 9 = .ok (.aload_n 0, 1) := by decide +kernel
theorem dX2_wipe_10 : decode cX2_wipe 10 = .ok (.iconst 0, 1) := by decide +kernel
theorem dX2_wipe_11 : decode cX2_wipe 11 = .ok (.putfield 26, 3) := by decide +kernel
theorem dX2_wipe_14 : decode cX2_wipe 14 = .ok (.aload_n 0, 1) := by decide +kernel
theorem dX2_wipe_15 : decode cX2_wipe 15 = .ok (.iconst 0, 1) := by decide +kernel
theorem dX2_wipe_16 : decode cX2_wipe 16 = .ok (.putfield 44, 3) := by decide +kernel
theorem dX2_wipe_19 : decode cX2_wipe 19 = .ok (.iconst 0, 1) := by decide +kernel
theorem dX2_wipe_20 : decode cX2_wipe 20 = .ok (.istore_n 1, 1) := by decide +kernel
theorem dX2_wipe_21 : decode cX2_wipe 21 = .ok (.iload_n 1, 1) := by decide +kernel
theorem dX2_wipe_22 : decode cX2_wipe 22 = .ok (.bipush 8, 2) := by decide +kernel
theorem dX2_wipe_24 : decode cX2_wipe 24 = .ok (.if_icmp .ge 16, 3) := by decide +kernel
theorem dX2_wipe_27 : decode cX2_wipe 27 = .ok (.aload_n 0, 1) := by decide +kernel
theorem dX2_wipe_28 : decode cX2_wipe 28 = .ok (.getfield 41, 3) := by decide +kernel
theorem dX2_wipe_31 : decode cX2_wipe 31 = .ok (.iload_n 1, 1) := by decide +kernel
theorem dX2_wipe_32 : decode cX2_wipe 32 = .ok (.iconst 0, 1) := by decide +kernel
theorem dX2_wipe_33 : decode cX2_wipe 33 = .ok (.iastore, 1) := by decide +kernel
theorem dX2_wipe_34 : decode cX2_wipe 34 = .ok (.iinc 1 1, 3) := by decide +kernel
theorem dX2_wipe_37 : decode cX2_wipe 37 = .ok (.goto (-16), 3) := by decide +kernel
theorem dX2_wipe_40 : decode cX2_wipe 40 = .ok (.return_, 1) := by decide +kernel
theorem dX2_hasPitch_0 : decode cX2_hasPitch 0 = .ok (.iload_n 1, 1) := by decide +kernel
theorem dX2_hasPitch_1 : decode cX2_hasPitch 1 = .ok (.ifCond .lt 15, 3) := by decide +kernel
theorem dX2_hasPitch_4 : decode cX2_hasPitch 4 = .ok (.iload_n 1, 1) := by decide +kernel
theorem dX2_hasPitch_5 : decode cX2_hasPitch 5 = .ok (.aload_n 0, 1) := by decide +kernel
theorem dX2_hasPitch_6 : decode cX2_hasPitch 6 = .ok (.getfield 9, 3) := by decide +kernel
theorem dX2_hasPitch_9 : decode cX2_hasPitch 9 = .ok (.if_icmp .ge 7, 3) := by decide +kernel
theorem dX2_hasPitch_12 : decode cX2_hasPitch 12 = .ok (.iconst 1, 1) := by decide +kernel
theorem dX2_hasPitch_13 : decode cX2_hasPitch 13 = .ok (.goto 4, 3) := by decide +kernel
theorem dX2_hasPitch_16 : decode cX2_hasPitch 16 = .ok (.iconst 0, 1) := by decide +kernel
theorem dX2_hasPitch_17 : decode cX2_hasPitch 17 = .ok (.ireturn, 1) := by decide +kernel
theorem dX2_hasTrader_0 : decode cX2_hasTrader 0 = .ok (.iload_n 1, 1) := by decide +kernel
theorem dX2_hasTrader_1 : decode cX2_hasTrader 1 = .ok (.ifCond .lt 15, 3) := by decide +kernel
theorem dX2_hasTrader_4 : decode cX2_hasTrader 4 = .ok (.iload_n 1, 1) := by decide +kernel
theorem dX2_hasTrader_5 : decode cX2_hasTrader 5 = .ok (.aload_n 0, 1) := by decide +kernel
theorem dX2_hasTrader_6 : decode cX2_hasTrader 6 = .ok (.getfield 26, 3) := by decide +kernel
theorem dX2_hasTrader_9 : decode cX2_hasTrader 9 = .ok (.if_icmp .ge 7, 3) := by decide +kernel
theorem dX2_hasTrader_12 : decode cX2_hasTrader 12 = .ok (.iconst 1, 1) := by decide +kernel
theorem dX2_hasTrader_13 : decode cX2_hasTrader 13 = .ok (.goto 4, 3) := by decide +kernel
theorem dX2_hasTrader_16 : decode cX2_hasTrader 16 = .ok (.iconst 0, 1) := by decide +kernel
theorem dX2_hasTrader_17 : decode cX2_hasTrader 17 = .ok (.ireturn, 1) := by decide +kernel
theorem dX2_addPitch_0 : decode cX2_addPitch 0 = .ok (.aload_n 0, 1) := by decide +kernel
theorem dX2_addPitch_1 : decode cX2_addPitch 1 = .ok (.getfield 9, 3) := by decide +kernel
theorem dX2_addPitch_4 : decode cX2_addPitch 4 = .ok (.bipush 24, 2) := by decide +kernel
theorem dX2_addPitch_6 : decode cX2_addPitch 6 = .ok (.if_icmp .ge 43, 3) := by decide +kernel
theorem dX2_addPitch_9 : decode cX2_addPitch 9 = .ok (.aload_n 0, 1) := by decide +kernel
theorem dX2_addPitch_10 : decode cX2_addPitch 10 = .ok (.getfield 15, 3) := by decide +kernel
theorem dX2_addPitch_13 : decode cX2_addPitch 13 = .ok (.aload_n 0, 1) := by decide +kernel
theorem dX2_addPitch_14 : decode cX2_addPitch 14 = .ok (.getfield 9, 3) := by decide +kernel
theorem dX2_addPitch_17 : decode cX2_addPitch 17 = .ok (.iload_n 1, 1) := by decide +kernel
theorem dX2_addPitch_18 : decode cX2_addPitch 18 = .ok (.iastore, 1) := by decide +kernel
theorem dX2_addPitch_19 : decode cX2_addPitch 19 = .ok (.aload_n 0, 1) := by decide +kernel
theorem dX2_addPitch_20 : decode cX2_addPitch 20 = .ok (.getfield 19, 3) := by decide +kernel
theorem dX2_addPitch_23 : decode cX2_addPitch 23 = .ok (.aload_n 0, 1) := by decide +kernel
theorem dX2_addPitch_24 : decode cX2_addPitch 24 = .ok (.getfield 9, 3) := by decide +kernel
theorem dX2_addPitch_27 : decode cX2_addPitch 27 = .ok (.iload_n 2, 1) := by decide +kernel
theorem dX2_addPitch_28 : decode cX2_addPitch 28 = .ok (.iastore, 1) := by decide +kernel
theorem dX2_addPitch_29 : decode cX2_addPitch 29 = .ok (.aload_n 0, 1) := by decide +kernel
theorem dX2_addPitch_30 : decode cX2_addPitch 30 = .ok (.getfield 22, 3) := by decide +kernel
theorem dX2_addPitch_33 : decode cX2_addPitch 33 = .ok (.aload_n 0, 1) := by decide +kernel
theorem dX2_addPitch_34 : decode cX2_addPitch 34 = .ok (.getfield 9, 3) := by decide +kernel
theorem dX2_addPitch_37 : decode cX2_addPitch 37 = .ok (.iload_n 3, 1) := by decide +kernel
theorem dX2_addPitch_38 : decode cX2_addPitch 38 = .ok (.bastore, 1) := by decide +kernel
theorem dX2_addPitch_39 : decode cX2_addPitch 39 = .ok (.aload_n 0, 1) := by decide +kernel
theorem dX2_addPitch_40 : decode cX2_addPitch 40 = .ok (.dup, 1) := by decide +kernel
theorem dX2_addPitch_41 : decode cX2_addPitch 41 = .ok (.getfield 9, 3) := by decide +kernel
theorem dX2_addPitch_44 : decode cX2_addPitch 44 = .ok (.iconst 1, 1) := by decide +kernel
theorem dX2_addPitch_45 : decode cX2_addPitch 45 = .ok (.iadd, 1) := by decide +kernel
theorem dX2_addPitch_46 : decode cX2_addPitch 46 = .ok (.putfield 9, 3) := by decide +kernel
theorem dX2_addPitch_49 : decode cX2_addPitch 49 = .ok (.return_, 1) := by decide +kernel
theorem dX2_enrol_0 : decode cX2_enrol 0 = .ok (.aload_n 0, 1) := by decide +kernel
theorem dX2_enrol_1 : decode cX2_enrol 1 = .ok (.getfield 26, 3) := by decide +kernel
theorem dX2_enrol_4 : decode cX2_enrol 4 = .ok (.bipush 8, 2) := by decide +kernel
theorem dX2_enrol_6 : decode cX2_enrol 6 = .ok (.if_icmp .ge 54, 3) := by decide +kernel
theorem dX2_enrol_9 : decode cX2_enrol 9 = .ok (.aload_n 0, 1) := by decide +kernel
theorem dX2_enrol_10 : decode cX2_enrol 10 = .ok (.getfield 29, 3) := by decide +kernel
theorem dX2_enrol_13 : decode cX2_enrol 13 = .ok (.aload_n 0, 1) := by decide +kernel
theorem dX2_enrol_14 : decode cX2_enrol 14 = .ok (.getfield 26, 3) := by decide +kernel
theorem dX2_enrol_17 : decode cX2_enrol 17 = .ok (.iload_n 1, 1) := by decide +kernel
theorem dX2_enrol_18 : decode cX2_enrol 18 = .ok (.iastore, 1) := by decide +kernel
theorem dX2_enrol_19 : decode cX2_enrol 19 = .ok (.aload_n 0, 1) := by decide +kernel
theorem dX2_enrol_20 : decode cX2_enrol 20 = .ok (.getfield 32, 3) := by decide +kernel
theorem dX2_enrol_23 : decode cX2_enrol 23 = .ok (.aload_n 0, 1) := by decide +kernel
theorem dX2_enrol_24 : decode cX2_enrol 24 = .ok (.getfield 26, 3) := by decide +kernel
theorem dX2_enrol_27 : decode cX2_enrol 27 = .ok (.iload_n 2, 1) := by decide +kernel
theorem dX2_enrol_28 : decode cX2_enrol 28 = .ok (.iastore, 1) := by decide +kernel
theorem dX2_enrol_29 : decode cX2_enrol 29 = .ok (.aload_n 0, 1) := by decide +kernel
theorem dX2_enrol_30 : decode cX2_enrol 30 = .ok (.getfield 35, 3) := by decide +kernel
theorem dX2_enrol_33 : decode cX2_enrol 33 = .ok (.aload_n 0, 1) := by decide +kernel
theorem dX2_enrol_34 : decode cX2_enrol 34 = .ok (.getfield 26, 3) := by decide +kernel
theorem dX2_enrol_37 : decode cX2_enrol 37 = .ok (.iload_n 3, 1) := by decide +kernel
theorem dX2_enrol_38 : decode cX2_enrol 38 = .ok (.iastore, 1) := by decide +kernel
theorem dX2_enrol_39 : decode cX2_enrol 39 = .ok (.aload_n 0, 1) := by decide +kernel
theorem dX2_enrol_40 : decode cX2_enrol 40 = .ok (.getfield 38, 3) := by decide +kernel
theorem dX2_enrol_43 : decode cX2_enrol 43 = .ok (.aload_n 0, 1) := by decide +kernel
theorem dX2_enrol_44 : decode cX2_enrol 44 = .ok (.getfield 26, 3) := by decide +kernel
theorem dX2_enrol_47 : decode cX2_enrol 47 = .ok (.iload 4, 2) := by decide +kernel
theorem dX2_enrol_49 : decode cX2_enrol 49 = .ok (.bastore, 1) := by decide +kernel
theorem dX2_enrol_50 : decode cX2_enrol 50 = .ok (.aload_n 0, 1) := by decide +kernel
theorem dX2_enrol_51 : decode cX2_enrol 51 = .ok (.dup, 1) := by decide +kernel
theorem dX2_enrol_52 : decode cX2_enrol 52 = .ok (.getfield 26, 3) := by decide +kernel
theorem dX2_enrol_55 : decode cX2_enrol 55 = .ok (.iconst 1, 1) := by decide +kernel
theorem dX2_enrol_56 : decode cX2_enrol 56 = .ok (.iadd, 1) := by decide +kernel
theorem dX2_enrol_57 : decode cX2_enrol 57 = .ok (.putfield 26, 3) := by decide +kernel
theorem dX2_enrol_60 : decode cX2_enrol 60 = .ok (.return_, 1) := by decide +kernel
theorem dX2_putClash_0 : decode cX2_putClash 0 = .ok (.iload_n 3, 1) := by decide +kernel
theorem dX2_putClash_1 : decode cX2_putClash 1 = .ok (.ifCond .eq 30, 3) := by decide +kernel
theorem dX2_putClash_4 : decode cX2_putClash 4 = .ok (.aload_n 0, 1) := by decide +kernel
theorem dX2_putClash_5 : decode cX2_putClash 5 = .ok (.getfield 41, 3) := by decide +kernel
theorem dX2_putClash_8 : decode cX2_putClash 8 = .ok (.iload_n 1, 1) := by decide +kernel
theorem dX2_putClash_9 : decode cX2_putClash 9 = .ok (.dup2, 1) := by decide +kernel
theorem dX2_putClash_10 : decode cX2_putClash 10 = .ok (.iaload, 1) := by decide +kernel
theorem dX2_putClash_11 : decode cX2_putClash 11 = .ok (.iconst 1, 1) := by decide +kernel
theorem dX2_putClash_12 : decode cX2_putClash 12 = .ok (.iload_n 2, 1) := by decide +kernel
theorem dX2_putClash_13 : decode cX2_putClash 13 = .ok (.ishl, 1) := by decide +kernel
theorem dX2_putClash_14 : decode cX2_putClash 14 = .ok (.ior, 1) := by decide +kernel
theorem dX2_putClash_15 : decode cX2_putClash 15 = .ok (.iastore, 1) := by decide +kernel
theorem dX2_putClash_16 : decode cX2_putClash 16 = .ok (.aload_n 0, 1) := by decide +kernel
theorem dX2_putClash_17 : decode cX2_putClash 17 = .ok (.getfield 41, 3) := by decide +kernel
theorem dX2_putClash_20 : decode cX2_putClash 20 = .ok (.iload_n 2, 1) := by decide +kernel
theorem dX2_putClash_21 : decode cX2_putClash 21 = .ok (.dup2, 1) := by decide +kernel
theorem dX2_putClash_22 : decode cX2_putClash 22 = .ok (.iaload, 1) := by decide +kernel
theorem dX2_putClash_23 : decode cX2_putClash 23 = .ok (.iconst 1, 1) := by decide +kernel
theorem dX2_putClash_24 : decode cX2_putClash 24 = .ok (.iload_n 1, 1) := by decide +kernel
theorem dX2_putClash_25 : decode cX2_putClash 25 = .ok (.ishl, 1) := by decide +kernel
theorem dX2_putClash_26 : decode cX2_putClash 26 = .ok (.ior, 1) := by decide +kernel
theorem dX2_putClash_27 : decode cX2_putClash 27 = .ok (.iastore, 1) := by decide +kernel
theorem dX2_putClash_28 : decode cX2_putClash 28 = .ok (.goto 31, 3) := by decide +kernel
theorem dX2_putClash_31 : decode cX2_putClash 31 = .ok (.aload_n 0, 1) := by decide +kernel
theorem dX2_putClash_32 : decode cX2_putClash 32 = .ok (.getfield 41, 3) := by decide +kernel
theorem dX2_putClash_35 : decode cX2_putClash 35 = .ok (.iload_n 1, 1) := by decide +kernel
theorem dX2_putClash_36 : decode cX2_putClash 36 = .ok (.dup2, 1) := by decide +kernel
theorem dX2_putClash_37 : decode cX2_putClash 37 = .ok (.iaload, 1) := by decide +kernel
theorem dX2_putClash_38 : decode cX2_putClash 38 = .ok (.iconst 1, 1) := by decide +kernel
theorem dX2_putClash_39 : decode cX2_putClash 39 = .ok (.iload_n 2, 1) := by decide +kernel
theorem dX2_putClash_40 : decode cX2_putClash 40 = .ok (.ishl, 1) := by decide +kernel
theorem dX2_putClash_41 : decode cX2_putClash 41 = .ok (.iconst (-1), 1) := by decide +kernel
theorem dX2_putClash_42 : decode cX2_putClash 42 = .ok (.ixor, 1) := by decide +kernel
theorem dX2_putClash_43 : decode cX2_putClash 43 = .ok (.iand, 1) := by decide +kernel
theorem dX2_putClash_44 : decode cX2_putClash 44 = .ok (.iastore, 1) := by decide +kernel
theorem dX2_putClash_45 : decode cX2_putClash 45 = .ok (.aload_n 0, 1) := by decide +kernel
theorem dX2_putClash_46 : decode cX2_putClash 46 = .ok (.getfield 41, 3) := by decide +kernel
theorem dX2_putClash_49 : decode cX2_putClash 49 = .ok (.iload_n 2, 1) := by decide +kernel
theorem dX2_putClash_50 : decode cX2_putClash 50 = .ok (.dup2, 1) := by decide +kernel
theorem dX2_putClash_51 : decode cX2_putClash 51 = .ok (.iaload, 1) := by decide +kernel
theorem dX2_putClash_52 : decode cX2_putClash 52 = .ok (.iconst 1, 1) := by decide +kernel
theorem dX2_putClash_53 : decode cX2_putClash 53 = .ok (.iload_n 1, 1) := by decide +kernel
theorem dX2_putClash_54 : decode cX2_putClash 54 = .ok (.ishl, 1) := by decide +kernel
theorem dX2_putClash_55 : decode cX2_putClash 55 = .ok (.iconst (-1), 1) := by decide +kernel
theorem dX2_putClash_56 : decode cX2_putClash 56 = .ok (.ixor, 1) := by decide +kernel
theorem dX2_putClash_57 : decode cX2_putClash 57 = .ok (.iand, 1) := by decide +kernel
theorem dX2_putClash_58 : decode cX2_putClash 58 = .ok (.iastore, 1) := by decide +kernel
theorem dX2_putClash_59 : decode cX2_putClash 59 = .ok (.return_, 1) := by decide +kernel
theorem dX2_areClashing_0 : decode cX2_areClashing 0 = .ok (.aload_n 0, 1) := by decide +kernel
theorem dX2_areClashing_1 : decode cX2_areClashing 1 = .ok (.getfield 41, 3) := by decide +kernel
theorem dX2_areClashing_4 : decode cX2_areClashing 4 = .ok (.iload_n 1, 1) := by decide +kernel
theorem dX2_areClashing_5 : decode cX2_areClashing 5 = .ok (.iaload, 1) := by decide +kernel
theorem dX2_areClashing_6 : decode cX2_areClashing 6 = .ok (.iload_n 2, 1) := by decide +kernel
theorem dX2_areClashing_7 : decode cX2_areClashing 7 = .ok (.ishr, 1) := by decide +kernel
theorem dX2_areClashing_8 : decode cX2_areClashing 8 = .ok (.iconst 1, 1) := by decide +kernel
theorem dX2_areClashing_9 : decode cX2_areClashing 9 = .ok (.iand, 1) := by decide +kernel
theorem dX2_areClashing_10 : decode cX2_areClashing 10 = .ok (.ifCond .eq 7, 3) := by decide +kernel
theorem dX2_areClashing_13 : decode cX2_areClashing 13 = .ok (.iconst 1, 1) := by decide +kernel
theorem dX2_areClashing_14 : decode cX2_areClashing 14 = .ok (.goto 4, 3) := by decide +kernel
theorem dX2_areClashing_17 : decode cX2_areClashing 17 = .ok (.iconst 0, 1) := by decide +kernel
theorem dX2_areClashing_18 : decode cX2_areClashing 18 = .ok (.ireturn, 1) := by decide +kernel
theorem dX2_shareRow_0 : decode cX2_shareRow 0 = .ok (.iload_n 1, 1) := by decide +kernel
theorem dX2_shareRow_1 : decode cX2_shareRow 1 = .ok (.ifCond .lt 35, 3) := by decide +kernel
theorem dX2_shareRow_4 : decode cX2_shareRow 4 = .ok (.iload_n 1, 1) := by decide +kernel
theorem dX2_shareRow_5 : decode cX2_shareRow 5 = .ok (.iload_n 2, 1) := by decide +kernel
theorem dX2_shareRow_6 : decode cX2_shareRow 6 = .ok (.if_icmp .gt 30, 3) := by decide +kernel
theorem dX2_shareRow_9 : decode cX2_shareRow 9 = .ok (.iload_n 2, 1) := by decide +kernel
theorem dX2_shareRow_10 : decode cX2_shareRow 10 = .ok (.aload_n 0, 1) := by decide +kernel
theorem dX2_shareRow_11 : decode cX2_shareRow 11 = .ok (.getfield 9, 3) := by decide +kernel
theorem dX2_shareRow_14 : decode cX2_shareRow 14 = .ok (.if_icmp .ge 22, 3) := by decide +kernel
theorem dX2_shareRow_17 : decode cX2_shareRow 17 = .ok (.aload_n 0, 1) := by decide +kernel
theorem dX2_shareRow_18 : decode cX2_shareRow 18 = .ok (.getfield 15, 3) := by decide +kernel
theorem dX2_shareRow_21 : decode cX2_shareRow 21 = .ok (.iload_n 1, 1) := by decide +kernel
theorem dX2_shareRow_22 : decode cX2_shareRow 22 = .ok (.iaload, 1) := by decide +kernel
theorem dX2_shareRow_23 : decode cX2_shareRow 23 = .ok (.aload_n 0, 1) := by decide +kernel
theorem dX2_shareRow_24 : decode cX2_shareRow 24 = .ok (.getfield 15, 3) := by decide +kernel
theorem dX2_shareRow_27 : decode cX2_shareRow 27 = .ok (.iload_n 2, 1) := by decide +kernel
theorem dX2_shareRow_28 : decode cX2_shareRow 28 = .ok (.iaload, 1) := by decide +kernel
theorem dX2_shareRow_29 : decode cX2_shareRow 29 = .ok (.if_icmp .ne 7, 3) := by decide +kernel
theorem dX2_shareRow_32 : decode cX2_shareRow 32 = .ok (.iconst 1, 1) := by decide +kernel
theorem dX2_shareRow_33 : decode cX2_shareRow 33 = .ok (.goto 4, 3) := by decide +kernel
theorem dX2_shareRow_36 : decode cX2_shareRow 36 = .ok (.iconst 0, 1) := by decide +kernel
theorem dX2_shareRow_37 : decode cX2_shareRow 37 = .ok (.ireturn, 1) := by decide +kernel
set_option maxRecDepth 20000 in
theorem ggX2_isInOneRow_X2_shareRow : GoodIn wsX2_isInOneRow wsX2_shareRow := goodIn_r _ [6, 7, 8, 9, 10, 11, 12, 13, 14, 15, 16, 17, 18, 19, 20, 21, 22] (by decide +kernel) (by decide +kernel)
set_option maxRecDepth 20000 in
theorem gX2_isInOneRow_X2_shareRow : GoodIn wsX2_isInOneRow (wsV RX2 65 RX2 yX2_shareRow wsX2_shareRow) := goodIn_app (goodIn_of _ (by decide +kernel)) ggX2_isInOneRow_X2_shareRow
theorem dX2_isInOneRow_0 : decode cX2_isInOneRow 0 = .ok (.aload_n 0, 1) := by decide +kernel
theorem dX2_isInOneRow_1 : decode cX2_isInOneRow 1 = .ok (.iload_n 2, 1) := by decide +kernel
theorem dX2_isInOneRow_2 : decode cX2_isInOneRow 2 = .ok (.iload_n 2, 1) := by decide +kernel
theorem dX2_isInOneRow_3 : decode cX2_isInOneRow 3 = .ok (.aload_n 0, 1) := by decide +kernel
theorem dX2_isInOneRow_4 : decode cX2_isInOneRow 4 = .ok (.getfield 32, 3) := by decide +kernel
theorem dX2_isInOneRow_7 : decode cX2_isInOneRow 7 = .ok (.iload_n 1, 1) := by decide +kernel
theorem dX2_isInOneRow_8 : decode cX2_isInOneRow 8 = .ok (.iaload, 1) := by decide +kernel
theorem dX2_isInOneRow_9 : decode cX2_isInOneRow 9 = .ok (.iadd, 1) := by decide +kernel
theorem dX2_isInOneRow_10 : decode cX2_isInOneRow 10 = .ok (.iconst 1, 1) := by decide +kernel
theorem dX2_isInOneRow_11 : decode cX2_isInOneRow 11 = .ok (.isub, 1) := by decide +kernel
theorem dX2_isInOneRow_12 : decode cX2_isInOneRow 12 = .ok (.invokevirtual 65, 3) := by decide +kernel
theorem dX2_isInOneRow_15 : decode cX2_isInOneRow 15 = .ok (.ireturn, 1) := by decide +kernel
theorem dX2_blockRent_0 : decode cX2_blockRent 0 = .ok (.iconst 0, 1) := by decide +kernel
theorem dX2_blockRent_1 : decode cX2_blockRent 1 = .ok (.istore_n 3, 1) := by decide +kernel
theorem dX2_blockRent_2 : decode cX2_blockRent 2 = .ok (.iload_n 2, 1) := by decide +kernel
theorem dX2_blockRent_3 : decode cX2_blockRent 3 = .ok (.aload_n 0, 1) := by decide +kernel
theorem dX2_blockRent_4 : decode cX2_blockRent 4 = .ok (.getfield 32, 3) := by decide +kernel
theorem dX2_blockRent_7 : decode cX2_blockRent 7 = .ok (.iload_n 1, 1) := by decide +kernel
theorem dX2_blockRent_8 : decode cX2_blockRent 8 = .ok (.iaload, 1) := by decide +kernel
theorem dX2_blockRent_9 : decode cX2_blockRent 9 = .ok (.iadd, 1) := by decide +kernel
theorem dX2_blockRent_10 : decode cX2_blockRent 10 = .ok (.aload_n 0, 1) := by decide +kernel
theorem dX2_blockRent_11 : decode cX2_blockRent 11 = .ok (.getfield 9, 3) := by decide +kernel
theorem dX2_blockRent_14 : decode cX2_blockRent 14 = .ok (.invokestatic 69, 3) := by decide +kernel
theorem dX2_blockRent_17 : decode cX2_blockRent 17 = .ok (.istore 4, 2) := by decide +kernel
theorem dX2_blockRent_19 : decode cX2_blockRent 19 = .ok (.iload_n 2, 1) := by decide +kernel
theorem dX2_blockRent_20 : decode cX2_blockRent 20 = .ok (.istore 5, 2) := by decide +kernel
theorem dX2_blockRent_22 : decode cX2_blockRent 22 = .ok (.iload 5, 2) := by decide +kernel
theorem dX2_blockRent_24 : decode cX2_blockRent 24 = .ok (.iload 4, 2) := by decide +kernel
theorem dX2_blockRent_26 : decode cX2_blockRent 26 = .ok (.if_icmp .ge 19, 3) := by decide +kernel
theorem dX2_blockRent_29 : decode cX2_blockRent 29 = .ok (.iload_n 3, 1) := by decide +kernel
theorem dX2_blockRent_30 : decode cX2_blockRent 30 = .ok (.aload_n 0, 1) := by decide +kernel
theorem dX2_blockRent_31 : decode cX2_blockRent 31 = .ok (.getfield 19, 3) := by decide +kernel
theorem dX2_blockRent_34 : decode cX2_blockRent 34 = .ok (.iload 5, 2) := by decide +kernel
theorem dX2_blockRent_36 : decode cX2_blockRent 36 = .ok (.iaload, 1) := by decide +kernel
theorem dX2_blockRent_37 : decode cX2_blockRent 37 = .ok (.iadd, 1) := by decide +kernel
theorem dX2_blockRent_38 : decode cX2_blockRent 38 = .ok (.istore_n 3, 1) := by decide +kernel
theorem dX2_blockRent_39 : decode cX2_blockRent 39 = .ok (.iinc 5 1, 3) := by decide +kernel
theorem dX2_blockRent_42 : decode cX2_blockRent 42 = .ok (.goto (-20), 3) := by decide +kernel
theorem dX2_blockRent_45 : decode cX2_blockRent 45 = .ok (.iload_n 3, 1) := by decide +kernel
theorem dX2_blockRent_46 : decode cX2_blockRent 46 = .ok (.ireturn, 1) := by decide +kernel
set_option maxRecDepth 20000 in
theorem ggX2_affords_X2_blockRent : GoodIn wsX2_affords wsX2_blockRent := goodIn_r _ [6, 7, 8, 9, 10, 11, 12, 13, 14, 15, 16, 17, 18, 19, 20, 21, 22, 23, 24, 25, 26, 27] (by decide +kernel) (by decide +kernel)
set_option maxRecDepth 20000 in
theorem gX2_affords_X2_blockRent : GoodIn wsX2_affords (wsV RX2 75 RX2 yX2_blockRent wsX2_blockRent) := goodIn_app (goodIn_of _ (by decide +kernel)) ggX2_affords_X2_blockRent
theorem dX2_affords_0 : decode cX2_affords 0 = .ok (.aload_n 0, 1) := by decide +kernel
theorem dX2_affords_1 : decode cX2_affords 1 = .ok (.iload_n 1, 1) := by decide +kernel
theorem dX2_affords_2 : decode cX2_affords 2 = .ok (.iload_n 2, 1) := by decide +kernel
theorem dX2_affords_3 : decode cX2_affords 3 = .ok (.invokevirtual 75, 3) := by decide +kernel
theorem dX2_affords_6 : decode cX2_affords 6 = .ok (.aload_n 0, 1) := by decide +kernel
theorem dX2_affords_7 : decode cX2_affords 7 = .ok (.getfield 35, 3) := by decide +kernel
theorem dX2_affords_10 : decode cX2_affords 10 = .ok (.iload_n 1, 1) := by decide +kernel
theorem dX2_affords_11 : decode cX2_affords 11 = .ok (.iaload, 1) := by decide +kernel
theorem dX2_affords_12 : decode cX2_affords 12 = .ok (.if_icmp .gt 7, 3) := by decide +kernel
theorem dX2_affords_15 : decode cX2_affords 15 = .ok (.iconst 1, 1) := by decide +kernel
theorem dX2_affords_16 : decode cX2_affords 16 = .ok (.goto 4, 3) := by decide +kernel
theorem dX2_affords_19 : decode cX2_affords 19 = .ok (.iconst 0, 1) := by decide +kernel
theorem dX2_affords_20 : decode cX2_affords 20 = .ok (.ireturn, 1) := by decide +kernel
theorem dX2_openPitches_0 : decode cX2_openPitches 0 = .ok (.iconst 0, 1) := by decide +kernel
theorem dX2_openPitches_1 : decode cX2_openPitches 1 = .ok (.istore_n 3, 1) := by decide +kernel
theorem dX2_openPitches_2 : decode cX2_openPitches 2 = .ok (.iload_n 2, 1) := by decide +kernel
theorem dX2_openPitches_3 : decode cX2_openPitches 3 = .ok (.aload_n 0, 1) := by decide +kernel
theorem dX2_openPitches_4 : decode cX2_openPitches 4 = .ok (.getfield 32, 3) := by decide +kernel
theorem dX2_openPitches_7 : decode cX2_openPitches 7 = .ok (.iload_n 1, 1) := by decide +kernel
theorem dX2_openPitches_8 : decode cX2_openPitches 8 = .ok (.iaload, 1) := by decide +kernel
theorem dX2_openPitches_9 : decode cX2_openPitches 9 = .ok (.iadd, 1) := by decide +kernel
theorem dX2_openPitches_10 : decode cX2_openPitches 10 = .ok (.aload_n 0, 1) := by decide +kernel
theorem dX2_openPitches_11 : decode cX2_openPitches 11 = .ok (.getfield 9, 3) := by decide +kernel
theorem dX2_openPitches_14 : decode cX2_openPitches 14 = .ok (.invokestatic 69, 3) := by decide +kernel
theorem dX2_openPitches_17 : decode cX2_openPitches 17 = .ok (.istore 4, 2) := by decide +kernel
theorem dX2_openPitches_19 : decode cX2_openPitches 19 = .ok (.iload_n 2, 1) := by decide +kernel
theorem dX2_openPitches_20 : decode cX2_openPitches 20 = .ok (.istore 5, 2) := by decide +kernel
theorem dX2_openPitches_22 : decode cX2_openPitches 22 = .ok (.iload 5, 2) := by decide +kernel
theorem dX2_openPitches_24 : decode cX2_openPitches 24 = .ok (.iload 4, 2) := by decide +kernel
theorem dX2_openPitches_26 : decode cX2_openPitches 26 = .ok (.if_icmp .ge 22, 3) := by decide +kernel
theorem dX2_openPitches_29 : decode cX2_openPitches 29 = .ok (.aload_n 0, 1) := by decide +kernel
theorem dX2_openPitches_30 : decode cX2_openPitches 30 = .ok (.getfield 22, 3) := by decide +kernel
theorem dX2_openPitches_33 : decode cX2_openPitches 33 = .ok (.iload 5, 2) := by decide +kernel
theorem dX2_openPitches_35 : decode cX2_openPitches 35 = .ok (.baload, 1) := by decide +kernel
theorem dX2_openPitches_36 : decode cX2_openPitches 36 = .ok (.ifCond .ne 6, 3) := by decide +kernel
theorem dX2_openPitches_39 : decode cX2_openPitches 39 = .ok (.iinc 3 1, 3) := by decide +kernel
theorem dX2_openPitches_42 : decode cX2_openPitches 42 = .ok (.iinc 5 1, 3) := by decide +kernel
theorem dX2_openPitches_45 : decode cX2_openPitches 45 = .ok (.goto (-23), 3) := by decide +kernel
theorem dX2_openPitches_48 : decode cX2_openPitches 48 = .ok (.iload_n 3, 1) := by decide +kernel
theorem dX2_openPitches_49 : decode cX2_openPitches 49 = .ok (.ireturn, 1) := by decide +kernel
set_option maxRecDepth 20000 in
theorem ggX2_coversFor_X2_openPitches : GoodIn wsX2_coversFor wsX2_openPitches := goodIn_r _ [6, 7, 8, 9, 10, 11, 12, 13, 14, 15, 16, 17, 18, 19, 20, 21, 22, 23, 24, 25, 26, 27] (by decide +kernel) (by decide +kernel)
set_option maxRecDepth 20000 in
theorem gX2_coversFor_X2_openPitches : GoodIn wsX2_coversFor (wsV RX2 78 RX2 yX2_openPitches wsX2_openPitches) := goodIn_app (goodIn_of _ (by decide +kernel)) ggX2_coversFor_X2_openPitches
theorem dX2_coversFor_0 : decode cX2_coversFor 0 = .ok (.aload_n 0, 1) := by decide +kernel
theorem dX2_coversFor_1 : decode cX2_coversFor 1 = .ok (.getfield 38, 3) := by decide +kernel
theorem dX2_coversFor_4 : decode cX2_coversFor 4 = .ok (.iload_n 1, 1) := by decide +kernel
theorem dX2_coversFor_5 : decode cX2_coversFor 5 = .ok (.baload, 1) := by decide +kernel
theorem dX2_coversFor_6 : decode cX2_coversFor 6 = .ok (.ifCond .eq 12, 3) := by decide +kernel
theorem dX2_coversFor_9 : decode cX2_coversFor 9 = .ok (.aload_n 0, 1) := by decide +kernel
theorem dX2_coversFor_10 : decode cX2_coversFor 10 = .ok (.iload_n 1, 1) := by decide +kernel
theorem dX2_coversFor_11 : decode cX2_coversFor 11 = .ok (.iload_n 2, 1) := by decide +kernel
theorem dX2_coversFor_12 : decode cX2_coversFor 12 = .ok (.invokevirtual 78, 3) := by decide +kernel
theorem dX2_coversFor_15 : decode cX2_coversFor 15 = .ok (.goto 4, 3) := by decide +kernel
theorem dX2_coversFor_18 : decode cX2_coversFor 18 = .ok (.iconst 0, 1) := by decide +kernel
theorem dX2_coversFor_19 : decode cX2_coversFor 19 = .ok (.ireturn, 1) := by decide +kernel
theorem dX2_isSeated_0 : decode cX2_isSeated 0 = .ok (.aload_n 0, 1) := by decide +kernel
theorem dX2_isSeated_1 : decode cX2_isSeated 1 = .ok (.getfield 47, 3) := by decide +kernel
theorem dX2_isSeated_4 : decode cX2_isSeated 4 = .ok (.iload_n 1, 1) := by decide +kernel
theorem dX2_isSeated_5 : decode cX2_isSeated 5 = .ok (.iaload, 1) := by decide +kernel
theorem dX2_isSeated_6 : decode cX2_isSeated 6 = .ok (.iconst (-1), 1) := by decide +kernel
theorem dX2_isSeated_7 : decode cX2_isSeated 7 = .ok (.if_icmp .eq 7, 3) := by decide +kernel
theorem dX2_isSeated_10 : decode cX2_isSeated 10 = .ok (.iconst 1, 1) := by decide +kernel
theorem dX2_isSeated_11 : decode cX2_isSeated 11 = .ok (.goto 4, 3) := by decide +kernel
theorem dX2_isSeated_14 : decode cX2_isSeated 14 = .ok (.iconst 0, 1) := by decide +kernel
theorem dX2_isSeated_15 : decode cX2_isSeated 15 = .ok (.ireturn, 1) := by decide +kernel
set_option maxRecDepth 20000 in
theorem ggX2_isSheltered_X2_openPitches : GoodIn wsX2_isSheltered wsX2_openPitches := goodIn_r _ [7, 8, 9, 10, 11, 12, 13, 14, 15, 16, 17, 18, 19, 20, 21, 22, 23, 24, 25, 26, 27, 28] (by decide +kernel) (by decide +kernel)
set_option maxRecDepth 20000 in
theorem gX2_isSheltered_X2_openPitches : GoodIn wsX2_isSheltered (wsV RX2 78 RX2 yX2_openPitches wsX2_openPitches) := goodIn_app (goodIn_of _ (by decide +kernel)) ggX2_isSheltered_X2_openPitches
theorem dX2_isSheltered_0 : decode cX2_isSheltered 0 = .ok (.aload_n 0, 1) := by decide +kernel
theorem dX2_isSheltered_1 : decode cX2_isSheltered 1 = .ok (.getfield 38, 3) := by decide +kernel
theorem dX2_isSheltered_4 : decode cX2_isSheltered 4 = .ok (.iload_n 1, 1) := by decide +kernel
theorem dX2_isSheltered_5 : decode cX2_isSheltered 5 = .ok (.baload, 1) := by decide +kernel
theorem dX2_isSheltered_6 : decode cX2_isSheltered 6 = .ok (.ifCond .ne 17, 3) := by decide +kernel
theorem dX2_isSheltered_9 : decode cX2_isSheltered 9 = .ok (.aload_n 0, 1) := by decide +kernel
theorem dX2_isSheltered_10 : decode cX2_isSheltered 10 = .ok (.iload_n 1, 1) := by decide +kernel
theorem dX2_isSheltered_11 : decode cX2_isSheltered 11 = .ok (.aload_n 0, 1) := by decide +kernel
theorem dX2_isSheltered_12 : decode cX2_isSheltered 12 = .ok (.getfield 47, 3) := by decide +kernel
theorem dX2_isSheltered_15 : decode cX2_isSheltered 15 = .ok (.iload_n 1, 1) := by decide +kernel
theorem dX2_isSheltered_16 : decode cX2_isSheltered 16 = .ok (.iaload, 1) := by decide +kernel
theorem dX2_isSheltered_17 : decode cX2_isSheltered 17 = .ok (.invokevirtual 78, 3) := by decide +kernel
theorem dX2_isSheltered_20 : decode cX2_isSheltered 20 = .ok (.ifCond .ne 7, 3) := by decide +kernel
theorem dX2_isSheltered_23 : decode cX2_isSheltered 23 = .ok (.iconst 1, 1) := by decide +kernel
theorem dX2_isSheltered_24 : decode cX2_isSheltered 24 = .ok (.goto 4, 3) := by decide +kernel
theorem dX2_isSheltered_27 : decode cX2_isSheltered 27 = .ok (.iconst 0, 1) := by decide +kernel
theorem dX2_isSheltered_28 : decode cX2_isSheltered 28 = .ok (.ireturn, 1) := by decide +kernel
theorem dX2_isBlockFree_0 : decode cX2_isBlockFree 0 = .ok (.iload_n 2, 1) := by decide +kernel
theorem dX2_isBlockFree_1 : decode cX2_isBlockFree 1 = .ok (.aload_n 0, 1) := by decide +kernel
theorem dX2_isBlockFree_2 : decode cX2_isBlockFree 2 = .ok (.getfield 32, 3) := by decide +kernel
theorem dX2_isBlockFree_5 : decode cX2_isBlockFree 5 = .ok (.iload_n 1, 1) := by decide +kernel
theorem dX2_isBlockFree_6 : decode cX2_isBlockFree 6 = .ok (.iaload, 1) := by decide +kernel
theorem dX2_isBlockFree_7 : decode cX2_isBlockFree 7 = .ok (.iadd, 1) := by decide +kernel
theorem dX2_isBlockFree_8 : decode cX2_isBlockFree 8 = .ok (.aload_n 0, 1) := by decide +kernel
theorem dX2_isBlockFree_9 : decode cX2_isBlockFree 9 = .ok (.getfield 9, 3) := by decide +kernel
theorem dX2_isBlockFree_12 : decode cX2_isBlockFree 12 = .ok (.invokestatic 69, 3) := by decide +kernel
theorem dX2_isBlockFree_15 : decode cX2_isBlockFree 15 = .ok (.istore_n 3, 1) := by decide +kernel
theorem dX2_isBlockFree_16 : decode cX2_isBlockFree 16 = .ok (.iload_n 2, 1) := by decide +kernel
theorem dX2_isBlockFree_17 : decode cX2_isBlockFree 17 = .ok (.istore 4, 2) := by decide +kernel
theorem dX2_isBlockFree_19 : decode cX2_isBlockFree 19 = .ok (.iload 4, 2) := by decide +kernel
theorem dX2_isBlockFree_21 : decode cX2_isBlockFree 21 = .ok (.iload_n 3, 1) := by decide +kernel
theorem dX2_isBlockFree_22 : decode cX2_isBlockFree 22 = .ok (.if_icmp .ge 22, 3) := by decide +kernel
theorem dX2_isBlockFree_25 : decode cX2_isBlockFree 25 = .ok (.aload_n 0, 1) := by decide +kernel
theorem dX2_isBlockFree_26 : decode cX2_isBlockFree 26 = .ok (.getfield 50, 3) := by decide +kernel
theorem dX2_isBlockFree_29 : decode cX2_isBlockFree 29 = .ok (.iload 4, 2) := by decide +kernel
theorem dX2_isBlockFree_31 : decode cX2_isBlockFree 31 = .ok (.iaload, 1) := by decide +kernel
theorem dX2_isBlockFree_32 : decode cX2_isBlockFree 32 = .ok (.iconst (-1), 1) := by decide +kernel
theorem dX2_isBlockFree_33 : decode cX2_isBlockFree 33 = .ok (.if_icmp .eq 5, 3) := by decide +kernel
theorem dX2_isBlockFree_36 : decode cX2_isBlockFree 36 = .ok (.iconst 0, 1) := by decide +kernel
theorem dX2_isBlockFree_37 : decode cX2_isBlockFree 37 = .ok (.ireturn, 1) := by decide +kernel
theorem dX2_isBlockFree_38 : decode cX2_isBlockFree 38 = .ok (.iinc 4 1, 3) := by decide +kernel
theorem dX2_isBlockFree_41 : decode cX2_isBlockFree 41 = .ok (.goto (-22), 3) := by decide +kernel
theorem dX2_isBlockFree_44 : decode cX2_isBlockFree 44 = .ok (.iconst 1, 1) := by decide +kernel
theorem dX2_isBlockFree_45 : decode cX2_isBlockFree 45 = .ok (.ireturn, 1) := by decide +kernel
set_option maxRecDepth 20000 in
theorem ggX2_clashesBeside_X2_shareRow : GoodIn wsX2_clashesBeside wsX2_shareRow := goodIn_r _ [7, 8, 9, 16, 17, 18, 19, 20, 21, 22, 23, 24, 25, 26, 27, 28, 29] (by decide +kernel) (by decide +kernel)
set_option maxRecDepth 20000 in
theorem gX2_clashesBeside_X2_shareRow : GoodIn wsX2_clashesBeside (wsV RX2 65 RX2 yX2_shareRow wsX2_shareRow) := goodIn_app (goodIn_of _ (by decide +kernel)) ggX2_clashesBeside_X2_shareRow
set_option maxRecDepth 20000 in
theorem ggX2_clashesBeside_X2_clashesWith : GoodIn wsX2_clashesBeside wsX2_clashesWith := goodIn_r _ [13, 14, 15, 16, 17, 18, 19, 20, 21, 22, 23, 24, 25, 26, 27, 28, 29] (by decide +kernel) (by decide +kernel)
set_option maxRecDepth 20000 in
theorem gX2_clashesBeside_X2_clashesWith : GoodIn wsX2_clashesBeside (wsV RX2 81 RX2 yX2_clashesWith wsX2_clashesWith) := goodIn_app (goodIn_of _ (by decide +kernel)) ggX2_clashesBeside_X2_clashesWith
theorem dX2_clashesBeside_0 : decode cX2_clashesBeside 0 = .ok (.iload_n 2, 1) := by decide +kernel
theorem dX2_clashesBeside_1 : decode cX2_clashesBeside 1 = .ok (.aload_n 0, 1) := by decide +kernel
theorem dX2_clashesBeside_2 : decode cX2_clashesBeside 2 = .ok (.getfield 32, 3) := by decide +kernel
theorem dX2_clashesBeside_5 : decode cX2_clashesBeside 5 = .ok (.iload_n 1, 1) := by decide +kernel
theorem dX2_clashesBeside_6 : decode cX2_clashesBeside 6 = .ok (.iaload, 1) := by decide +kernel
theorem dX2_clashesBeside_7 : decode cX2_clashesBeside 7 = .ok (.iadd, 1) := by decide +kernel
theorem dX2_clashesBeside_8 : decode cX2_clashesBeside 8 = .ok (.iconst 1, 1) := by decide +kernel
theorem dX2_clashesBeside_9 : decode cX2_clashesBeside 9 = .ok (.isub, 1) := by decide +kernel
theorem dX2_clashesBeside_10 : decode cX2_clashesBeside 10 = .ok (.istore_n 3, 1) := by decide +kernel
theorem dX2_clashesBeside_11 : decode cX2_clashesBeside 11 = .ok (.aload_n 0, 1) := by decide +kernel
theorem dX2_clashesBeside_12 : decode cX2_clashesBeside 12 = .ok (.iload_n 2, 1) := by decide +kernel
theorem dX2_clashesBeside_13 : decode cX2_clashesBeside 13 = .ok (.iconst 1, 1) := by decide +kernel
theorem dX2_clashesBeside_14 : decode cX2_clashesBeside 14 = .ok (.isub, 1) := by decide +kernel
theorem dX2_clashesBeside_15 : decode cX2_clashesBeside 15 = .ok (.iload_n 2, 1) := by decide +kernel
theorem dX2_clashesBeside_16 : decode cX2_clashesBeside 16 = .ok (.invokevirtual 65, 3) := by decide +kernel
theorem dX2_clashesBeside_19 : decode cX2_clashesBeside 19 = .ok (.ifCond .eq 19, 3) := by decide +kernel
theorem dX2_clashesBeside_22 : decode cX2_clashesBeside 22 = .ok (.aload_n 0, 1) := by decide +kernel
theorem dX2_clashesBeside_23 : decode cX2_clashesBeside 23 = .ok (.iload_n 1, 1) := by decide +kernel
theorem dX2_clashesBeside_24 : decode cX2_clashesBeside 24 = .ok (.aload_n 0, 1) := by decide +kernel
theorem dX2_clashesBeside_25 : decode cX2_clashesBeside 25 = .ok (.getfield 50, 3) := by decide +kernel
theorem dX2_clashesBeside_28 : decode cX2_clashesBeside 28 = .ok (.iload_n 2, 1) := by decide +kernel
theorem dX2_clashesBeside_29 : decode cX2_clashesBeside 29 = .ok (.iconst 1, 1) := by decide +kernel
theorem dX2_clashesBeside_30 : decode cX2_clashesBeside 30 = .ok (.isub, 1) := by decide +kernel
theorem dX2_clashesBeside_31 : decode cX2_clashesBeside 31 = .ok (.iaload, 1) := by decide +kernel
theorem dX2_clashesBeside_32 : decode cX2_clashesBeside 32 = .ok (.invokevirtual 81, 3) := by decide +kernel
theorem dX2_clashesBeside_35 : decode cX2_clashesBeside 35 = .ok (.ifCond .ne 30, 3) := by decide +kernel
theorem dX2_clashesBeside_38 : decode cX2_clashesBeside 38 = .ok (.aload_n 0, 1) := by decide +kernel
theorem dX2_clashesBeside_39 : decode cX2_clashesBeside 39 = .ok (.iload_n 3, 1) := by decide +kernel
theorem dX2_clashesBeside_40 : decode cX2_clashesBeside 40 = .ok (.iload_n 3, 1) := by decide +kernel
theorem dX2_clashesBeside_41 : decode cX2_clashesBeside 41 = .ok (.iconst 1, 1) := by decide +kernel
theorem dX2_clashesBeside_42 : decode cX2_clashesBeside 42 = .ok (.iadd, 1) := by decide +kernel
theorem dX2_clashesBeside_43 : decode cX2_clashesBeside 43 = .ok (.invokevirtual 65, 3) := by decide +kernel
theorem dX2_clashesBeside_46 : decode cX2_clashesBeside 46 = .ok (.ifCond .eq 23, 3) := by decide +kernel
theorem dX2_clashesBeside_49 : decode cX2_clashesBeside 49 = .ok (.aload_n 0, 1) := by decide +kernel
theorem dX2_clashesBeside_50 : decode cX2_clashesBeside 50 = .ok (.iload_n 1, 1) := by decide +kernel
theorem dX2_clashesBeside_51 : decode cX2_clashesBeside 51 = .ok (.aload_n 0, 1) := by decide +kernel
theorem dX2_clashesBeside_52 : decode cX2_clashesBeside 52 = .ok (.getfield 50, 3) := by decide +kernel
theorem dX2_clashesBeside_55 : decode cX2_clashesBeside 55 = .ok (.iload_n 3, 1) := by decide +kernel
theorem dX2_clashesBeside_56 : decode cX2_clashesBeside 56 = .ok (.iconst 1, 1) := by decide +kernel
theorem dX2_clashesBeside_57 : decode cX2_clashesBeside 57 = .ok (.iadd, 1) := by decide +kernel
theorem dX2_clashesBeside_58 : decode cX2_clashesBeside 58 = .ok (.iaload, 1) := by decide +kernel
theorem dX2_clashesBeside_59 : decode cX2_clashesBeside 59 = .ok (.invokevirtual 81, 3) := by decide +kernel
theorem dX2_clashesBeside_62 : decode cX2_clashesBeside 62 = .ok (.ifCond .eq 7, 3) := by decide +kernel
theorem dX2_clashesBeside_65 : decode cX2_clashesBeside 65 = .ok (.iconst 1, 1) := by decide +kernel
theorem dX2_clashesBeside_66 : decode cX2_clashesBeside 66 = .ok (.goto 4, 3) := by decide +kernel
theorem dX2_clashesBeside_69 : decode cX2_clashesBeside 69 = .ok (.iconst 0, 1) := by decide +kernel
theorem dX2_clashesBeside_70 : decode cX2_clashesBeside 70 = .ok (.ireturn, 1) := by decide +kernel
theorem dX2_clashesWith_0 : decode cX2_clashesWith 0 = .ok (.iload_n 2, 1) := by decide +kernel
theorem dX2_clashesWith_1 : decode cX2_clashesWith 1 = .ok (.iconst (-1), 1) := by decide +kernel
theorem dX2_clashesWith_2 : decode cX2_clashesWith 2 = .ok (.if_icmp .eq 30, 3) := by decide +kernel
theorem dX2_clashesWith_5 : decode cX2_clashesWith 5 = .ok (.aload_n 0, 1) := by decide +kernel
theorem dX2_clashesWith_6 : decode cX2_clashesWith 6 = .ok (.getfield 41, 3) := by decide +kernel
theorem dX2_clashesWith_9 : decode cX2_clashesWith 9 = .ok (.aload_n 0, 1) := by decide +kernel
theorem dX2_clashesWith_10 : decode cX2_clashesWith 10 = .ok (.getfield 29, 3) := by decide +kernel
theorem dX2_clashesWith_13 : decode cX2_clashesWith 13 = .ok (.iload_n 1, 1) := by decide +kernel
theorem dX2_clashesWith_14 : decode cX2_clashesWith 14 = .ok (.iaload, 1) := by decide +kernel
theorem dX2_clashesWith_15 : decode cX2_clashesWith 15 = .ok (.iaload, 1) := by decide +kernel
theorem dX2_clashesWith_16 : decode cX2_clashesWith 16 = .ok (.aload_n 0, 1) := by decide +kernel
theorem dX2_clashesWith_17 : decode cX2_clashesWith 17 = .ok (.getfield 29, 3) := by decide +kernel
theorem dX2_clashesWith_20 : decode cX2_clashesWith 20 = .ok (.iload_n 2, 1) := by decide +kernel
theorem dX2_clashesWith_21 : decode cX2_clashesWith 21 = .ok (.iaload, 1) := by decide +kernel
theorem dX2_clashesWith_22 : decode cX2_clashesWith 22 = .ok (.ishr, 1) := by decide +kernel
theorem dX2_clashesWith_23 : decode cX2_clashesWith 23 = .ok (.iconst 1, 1) := by decide +kernel
theorem dX2_clashesWith_24 : decode cX2_clashesWith 24 = .ok (.iand, 1) := by decide +kernel
theorem dX2_clashesWith_25 : decode cX2_clashesWith 25 = .ok (.ifCond .eq 7, 3) := by decide +kernel
theorem dX2_clashesWith_28 : decode cX2_clashesWith 28 = .ok (.iconst 1, 1) := by decide +kernel
theorem dX2_clashesWith_29 : decode cX2_clashesWith 29 = .ok (.goto 4, 3) := by decide +kernel
theorem dX2_clashesWith_32 : decode cX2_clashesWith 32 = .ok (.iconst 0, 1) := by decide +kernel
theorem dX2_clashesWith_33 : decode cX2_clashesWith 33 = .ok (.ireturn, 1) := by decide +kernel
set_option maxRecDepth 20000 in
theorem ggX2_hindrance_X2_isSeated : GoodIn wsX2_hindrance wsX2_isSeated := goodIn_r _ [7, 8, 59, 60, 61, 62, 63, 64, 65, 66, 67, 68, 69, 70, 71, 72] (by decide +kernel) (by decide +kernel)
set_option maxRecDepth 20000 in
theorem gX2_hindrance_X2_isSeated : GoodIn wsX2_hindrance (wsV RX2 84 RX2 yX2_isSeated wsX2_isSeated) := goodIn_app (goodIn_of _ (by decide +kernel)) ggX2_hindrance_X2_isSeated
set_option maxRecDepth 20000 in
theorem ggX2_hindrance_X2_isInOneRow : GoodIn wsX2_hindrance wsX2_isInOneRow := goodIn_r _ [12, 13, 14, 15, 16, 6, 17, 18, 19, 59, 60, 61, 62, 63, 64, 65, 66, 67, 68, 69, 70, 71, 72] (by decide +kernel) (by decide +kernel)
set_option maxRecDepth 20000 in
theorem gX2_hindrance_X2_isInOneRow : GoodIn wsX2_hindrance (wsV RX2 88 RX2 yX2_isInOneRow wsX2_isInOneRow) := goodIn_app (goodIn_of _ (by decide +kernel)) ggX2_hindrance_X2_isInOneRow
set_option maxRecDepth 20000 in
theorem ggX2_hindrance_X2_isBlockFree : GoodIn wsX2_hindrance wsX2_isBlockFree := goodIn_r _ [23, 13, 18, 24, 25, 26, 27, 28, 59, 60, 61, 62, 63, 64, 65, 66, 67, 68, 69, 70, 71, 72] (by decide +kernel) (by decide +kernel)
set_option maxRecDepth 20000 in
theorem gX2_hindrance_X2_isBlockFree : GoodIn wsX2_hindrance (wsV RX2 91 RX2 yX2_isBlockFree wsX2_isBlockFree) := goodIn_app (goodIn_of _ (by decide +kernel)) ggX2_hindrance_X2_isBlockFree
set_option maxRecDepth 20000 in
theorem ggX2_hindrance_X2_affords : GoodIn wsX2_hindrance wsX2_affords := goodIn_r _ [32, 33, 34, 35, 36, 6, 37, 13, 18, 24, 25, 26, 27, 38, 59, 60, 61, 62, 63, 64, 65, 66, 67, 68, 69, 70, 71, 72] (by decide +kernel) (by decide +kernel)
set_option maxRecDepth 20000 in
theorem gX2_hindrance_X2_affords : GoodIn wsX2_hindrance (wsV RX2 94 RX2 yX2_affords wsX2_affords) := goodIn_app (goodIn_of _ (by decide +kernel)) ggX2_hindrance_X2_affords
set_option maxRecDepth 20000 in
theorem ggX2_hindrance_X2_coversFor : GoodIn wsX2_hindrance wsX2_coversFor := goodIn_r _ [42, 43, 44, 45, 46, 6, 47, 13, 18, 24, 25, 26, 27, 48, 59, 60, 61, 62, 63, 64, 65, 66, 67, 68, 69, 70, 71, 72] (by decide +kernel) (by decide +kernel)
set_option maxRecDepth 20000 in
theorem gX2_hindrance_X2_coversFor : GoodIn wsX2_hindrance (wsV RX2 97 RX2 yX2_coversFor wsX2_coversFor) := goodIn_app (goodIn_of _ (by decide +kernel)) ggX2_hindrance_X2_coversFor
set_option maxRecDepth 20000 in
theorem ggX2_hindrance_X2_clashesBeside : GoodIn wsX2_hindrance wsX2_clashesBeside := goodIn_r _ [52, 13, 28, 14, 15, 16, 6, 17, 18, 19, 53, 54, 55, 56, 57, 58, 59, 60, 61, 62, 63, 64, 65, 66, 67, 68, 69, 70, 71, 72] (by decide +kernel) (by decide +kernel)
set_option maxRecDepth 20000 in
theorem gX2_hindrance_X2_clashesBeside : GoodIn wsX2_hindrance (wsV RX2 100 RX2 yX2_clashesBeside wsX2_clashesBeside) := goodIn_app (goodIn_of _ (by decide +kernel)) ggX2_hindrance_X2_clashesBeside
theorem dX2_hindrance_0 : decode cX2_hindrance 0 = .ok (.aload_n 0, 1) := by decide +kernel
theorem dX2_hindrance_1 : decode cX2_hindrance 1 = .ok (.iload_n 1, 1) := by decide +kernel
theorem dX2_hindrance_2 : decode cX2_hindrance 2 = .ok (.invokevirtual 84, 3) := by decide +kernel
theorem dX2_hindrance_5 : decode cX2_hindrance 5 = .ok (.ifCond .eq 5, 3) := by decide +kernel
theorem dX2_hindrance_8 : decode cX2_hindrance 8 = .ok (.iconst 1, 1) := by decide +kernel
theorem dX2_hindrance_9 : decode cX2_hindrance 9 = .ok (.ireturn, 1) := by decide +kernel
theorem dX2_hindrance_10 : decode cX2_hindrance 10 = .ok (.aload_n 0, 1) := by decide +kernel
theorem dX2_hindrance_11 : decode cX2_hindrance 11 = .ok (.iload_n 1, 1) := by decide +kernel
theorem dX2_hindrance_12 : decode cX2_hindrance 12 = .ok (.iload_n 2, 1) := by decide +kernel
theorem dX2_hindrance_13 : decode cX2_hindrance 13 = .ok (.invokevirtual 88, 3) := by decide +kernel
theorem dX2_hindrance_16 : decode cX2_hindrance 16 = .ok (.ifCond .ne 5, 3) := by decide +kernel
theorem dX2_hindrance_19 : decode cX2_hindrance 19 = .ok (.iconst 2, 1) := by decide +kernel
theorem dX2_hindrance_20 : decode cX2_hindrance 20 = .ok (.ireturn, 1) := by decide +kernel
theorem dX2_hindrance_21 : decode cX2_hindrance 21 = .ok (.aload_n 0, 1) := by decide +kernel
theorem dX2_hindrance_22 : decode cX2_hindrance 22 = .ok (.iload_n 1, 1) := by decide +kernel
theorem dX2_hindrance_23 : decode cX2_hindrance 23 = .ok (.iload_n 2, 1) := by decide +kernel
theorem dX2_hindrance_24 : decode cX2_hindrance 24 = .ok (.invokevirtual 91, 3) := by decide +kernel
theorem dX2_hindrance_27 : decode cX2_hindrance 27 = .ok (.ifCond .ne 5, 3) := by decide +kernel
theorem dX2_hindrance_30 : decode cX2_hindrance 30 = .ok (.iconst 3, 1) := by decide +kernel
theorem dX2_hindrance_31 : decode cX2_hindrance 31 = .ok (.ireturn, 1) := by decide +kernel
theorem dX2_hindrance_32 : decode cX2_hindrance 32 = .ok (.aload_n 0, 1) := by decide +kernel
theorem dX2_hindrance_33 : decode cX2_hindrance 33 = .ok (.iload_n 1, 1) := by decide +kernel
theorem dX2_hindrance_34 : decode cX2_hindrance 34 = .ok (.iload_n 2, 1) := by decide +kernel
theorem dX2_hindrance_35 : decode cX2_hindrance 35 = .ok (.invokevirtual 94, 3) := by decide +kernel
theorem dX2_hindrance_38 : decode cX2_hindrance 38 = .ok (.ifCond .ne 5, 3) := by decide +kernel
theorem dX2_hindrance_41 : decode cX2_hindrance 41 = .ok (.iconst 4, 1) := by decide +kernel
theorem dX2_hindrance_42 : decode cX2_hindrance 42 = .ok (.ireturn, 1) := by decide +kernel
theorem dX2_hindrance_43 : decode cX2_hindrance 43 = .ok (.aload_n 0, 1) := by decide +kernel
theorem dX2_hindrance_44 : decode cX2_hindrance 44 = .ok (.getfield 53, 3) := by decide +kernel
theorem dX2_hindrance_47 : decode cX2_hindrance 47 = .ok (.aload_n 0, 1) := by decide +kernel
theorem dX2_hindrance_48 : decode cX2_hindrance 48 = .ok (.iload_n 1, 1) := by decide +kernel
theorem dX2_hindrance_49 : decode cX2_hindrance 49 = .ok (.iload_n 2, 1) := by decide +kernel
theorem dX2_hindrance_50 : decode cX2_hindrance 50 = .ok (.invokevirtual 97, 3) := by decide +kernel
theorem dX2_hindrance_53 : decode cX2_hindrance 53 = .ok (.iadd, 1) := by decide +kernel
theorem dX2_hindrance_54 : decode cX2_hindrance 54 = .ok (.aload_n 0, 1) := by decide +kernel
theorem dX2_hindrance_55 : decode cX2_hindrance 55 = .ok (.getfield 44, 3) := by decide +kernel
theorem dX2_hindrance_58 : decode cX2_hindrance 58 = .ok (.if_icmp .le 5, 3) := by decide +kernel
theorem dX2_hindrance_61 : decode cX2_hindrance 61 = .ok (.iconst 5, 1) := by decide +kernel
theorem dX2_hindrance_62 : decode cX2_hindrance 62 = .ok (.ireturn, 1) := by decide +kernel
theorem dX2_hindrance_63 : decode cX2_hindrance 63 = .ok (.aload_n 0, 1) := by decide +kernel
theorem dX2_hindrance_64 : decode cX2_hindrance 64 = .ok (.iload_n 1, 1) := by decide +kernel
theorem dX2_hindrance_65 : decode cX2_hindrance 65 = .ok (.iload_n 2, 1) := by decide +kernel
theorem dX2_hindrance_66 : decode cX2_hindrance 66 = .ok (.invokevirtual 100, 3) := by decide +kernel
theorem dX2_hindrance_69 : decode cX2_hindrance 69 = .ok (.ifCond .eq 8, 3) := by decide +kernel
theorem dX2_hindrance_72 : decode cX2_hindrance 72 = .ok (.bipush 6, 2) := by decide +kernel
theorem dX2_hindrance_74 : decode cX2_hindrance 74 = .ok (.goto 4, 3) := by decide +kernel
theorem dX2_hindrance_77 : decode cX2_hindrance 77 = .ok (.iconst 0, 1) := by decide +kernel
theorem dX2_hindrance_78 : decode cX2_hindrance 78 = .ok (.ireturn, 1) := by decide +kernel
set_option maxRecDepth 20000 in
theorem ggX2_seat_X2_settle : GoodIn wsX2_seat wsX2_settle := goodIn_r _ [8, 9, 10, 11, 12, 13, 14, 25, 26, 27, 28, 29, 30, 31, 32, 33, 34, 35, 36, 37, 38] (by decide +kernel) (by decide +kernel)
set_option maxRecDepth 20000 in
theorem gX2_seat_X2_settle : GoodIn wsX2_seat (wsV RX2 103 RX2 yX2_settle wsX2_settle) := goodIn_app (goodIn_of _ (by decide +kernel)) ggX2_seat_X2_settle
set_option maxRecDepth 20000 in
theorem ggX2_seat_X2_coversFor : GoodIn wsX2_seat wsX2_coversFor := goodIn_r _ [18, 19, 20, 21, 22, 7, 23, 1, 9, 10, 11, 12, 13, 24, 25, 26, 27, 28, 29, 30, 31, 32, 33, 34, 35, 36, 37, 38] (by decide +kernel) (by decide +kernel)
set_option maxRecDepth 20000 in
theorem gX2_seat_X2_coversFor : GoodIn wsX2_seat (wsV RX2 97 RX2 yX2_coversFor wsX2_coversFor) := goodIn_app (goodIn_of _ (by decide +kernel)) ggX2_seat_X2_coversFor
theorem dX2_seat_0 : decode cX2_seat 0 = .ok (.aload_n 0, 1) := by decide +kernel
theorem dX2_seat_1 : decode cX2_seat 1 = .ok (.iload_n 2, 1) := by decide +kernel
theorem dX2_seat_2 : decode cX2_seat 2 = .ok (.aload_n 0, 1) := by decide +kernel
theorem dX2_seat_3 : decode cX2_seat 3 = .ok (.getfield 32, 3) := by decide +kernel
theorem dX2_seat_6 : decode cX2_seat 6 = .ok (.iload_n 1, 1) := by decide +kernel
theorem dX2_seat_7 : decode cX2_seat 7 = .ok (.iaload, 1) := by decide +kernel
theorem dX2_seat_8 : decode cX2_seat 8 = .ok (.iload_n 1, 1) := by decide +kernel
theorem dX2_seat_9 : decode cX2_seat 9 = .ok (.invokevirtual 103, 3) := by decide +kernel
theorem dX2_seat_12 : decode cX2_seat 12 = .ok (.aload_n 0, 1) := by decide +kernel
theorem dX2_seat_13 : decode cX2_seat 13 = .ok (.getfield 47, 3) := by decide +kernel
theorem dX2_seat_16 : decode cX2_seat 16 = .ok (.iload_n 1, 1) := by decide +kernel
theorem dX2_seat_17 : decode cX2_seat 17 = .ok (.iload_n 2, 1) := by decide +kernel
theorem dX2_seat_18 : decode cX2_seat 18 = .ok (.iastore, 1) := by decide +kernel
theorem dX2_seat_19 : decode cX2_seat 19 = .ok (.aload_n 0, 1) := by decide +kernel
theorem dX2_seat_20 : decode cX2_seat 20 = .ok (.dup, 1) := by decide +kernel
theorem dX2_seat_21 : decode cX2_seat 21 = .ok (.getfield 53, 3) := by decide +kernel
theorem dX2_seat_24 : decode cX2_seat 24 = .ok (.aload_n 0, 1) := by decide +kernel
theorem dX2_seat_25 : decode cX2_seat 25 = .ok (.iload_n 1, 1) := by decide +kernel
theorem dX2_seat_26 : decode cX2_seat 26 = .ok (.iload_n 2, 1) := by decide +kernel
theorem dX2_seat_27 : decode cX2_seat 27 = .ok (.invokevirtual 97, 3) := by decide +kernel
theorem dX2_seat_30 : decode cX2_seat 30 = .ok (.iadd, 1) := by decide +kernel
theorem dX2_seat_31 : decode cX2_seat 31 = .ok (.putfield 53, 3) := by decide +kernel
theorem dX2_seat_34 : decode cX2_seat 34 = .ok (.return_, 1) := by decide +kernel
set_option maxRecDepth 20000 in
theorem ggX2_seatIfPossible_X2_hindrance : GoodIn wsX2_seatIfPossible wsX2_hindrance := goodIn_r _ [5, 6, 7, 8, 9, 10, 4, 11, 12, 13, 14, 15, 16, 17, 18, 19, 20, 21, 22, 23, 24, 25, 26, 27, 28, 29, 30, 31, 32, 33, 34, 35, 36, 37, 38, 39, 40, 41, 42, 43, 44, 45, 46, 47, 48, 49, 50, 51, 52, 53, 54, 55, 56, 57, 58, 59, 60, 61, 62, 71, 72, 73, 74, 75, 76, 77, 78, 79, 80, 81, 82, 83, 84] (by decide +kernel) (by decide +kernel)
set_option maxRecDepth 20000 in
theorem gX2_seatIfPossible_X2_hindrance : GoodIn wsX2_seatIfPossible (wsV RX2 107 RX2 yX2_hindrance wsX2_hindrance) := goodIn_app (goodIn_of _ (by decide +kernel)) ggX2_seatIfPossible_X2_hindrance
set_option maxRecDepth 20000 in
theorem ggX2_seatIfPossible_X2_seat : GoodIn wsX2_seatIfPossible wsX2_seat := goodIn_r _ [66, 17, 12, 6, 67, 68, 69, 4, 70, 22, 28, 29, 30, 31, 32, 43, 44, 45, 46, 47, 48, 49, 50, 51, 52, 71, 72, 73, 74, 75, 76, 77, 78, 79, 80, 81, 82, 83, 84] (by decide +kernel) (by decide +kernel)
set_option maxRecDepth 20000 in
theorem gX2_seatIfPossible_X2_seat : GoodIn wsX2_seatIfPossible (wsV RX2 110 RX2 yX2_seat wsX2_seat) := goodIn_app (goodIn_of _ (by decide +kernel)) ggX2_seatIfPossible_X2_seat
theorem dX2_seatIfPossible_0 : decode cX2_seatIfPossible 0 = .ok (.aload_n 0, 1) := by decide +kernel
theorem dX2_seatIfPossible_1 : decode cX2_seatIfPossible 1 = .ok (.iload_n 1, 1) := by decide +kernel
theorem dX2_seatIfPossible_2 : decode cX2_seatIfPossible 2 = .ok (.iload_n 2, 1) := by decide +kernel
theorem dX2_seatIfPossible_3 : decode cX2_seatIfPossible 3 = .ok (.invokevirtual 107, 3) := by decide +kernel
theorem dX2_seatIfPossible_6 : decode cX2_seatIfPossible 6 = .ok (.ifCond .eq 5, 3) := by decide +kernel
theorem dX2_seatIfPossible_9 : decode cX2_seatIfPossible 9 = .ok (.iconst 0, 1) := by decide +kernel
theorem dX2_seatIfPossible_10 : decode cX2_seatIfPossible 10 = .ok (.ireturn, 1) := by decide +kernel
theorem dX2_seatIfPossible_11 : decode cX2_seatIfPossible 11 = .ok (.aload_n 0, 1) := by decide +kernel
theorem dX2_seatIfPossible_12 : decode cX2_seatIfPossible 12 = .ok (.iload_n 1, 1) := by decide +kernel
theorem dX2_seatIfPossible_13 : decode cX2_seatIfPossible 13 = .ok (.iload_n 2, 1) := by decide +kernel
theorem dX2_seatIfPossible_14 : decode cX2_seatIfPossible 14 = .ok (.invokevirtual 110, 3) := by decide +kernel
theorem dX2_seatIfPossible_17 : decode cX2_seatIfPossible 17 = .ok (.iconst 1, 1) := by decide +kernel
theorem dX2_seatIfPossible_18 : decode cX2_seatIfPossible 18 = .ok (.ireturn, 1) := by decide +kernel
set_option maxRecDepth 20000 in
theorem ggX2_dearestStart_X2_blockRent : GoodIn wsX2_dearestStart wsX2_blockRent := goodIn_r _ [6, 7, 1, 8, 9, 10, 11, 12, 63, 64, 65, 66, 67, 68, 69, 70, 71, 72, 73, 74, 75, 76] (by decide +kernel) (by decide +kernel)
set_option maxRecDepth 20000 in
theorem gX2_dearestStart_X2_blockRent : GoodIn wsX2_dearestStart (wsV RX2 75 RX2 yX2_blockRent wsX2_blockRent) := goodIn_app (goodIn_of _ (by decide +kernel)) ggX2_dearestStart_X2_blockRent
set_option maxRecDepth 20000 in
theorem ggX2_dearestStart_X2_hindrance : GoodIn wsX2_dearestStart wsX2_hindrance := goodIn_r _ [16, 17, 18, 19, 20, 21, 5, 22, 23, 24, 25, 26, 27, 7, 28, 29, 30, 31, 1, 32, 33, 34, 35, 36, 8, 9, 10, 11, 37, 38, 39, 40, 41, 42, 2, 3, 4, 6, 12, 43, 44, 45, 46, 47, 48, 49, 50, 51, 52, 53, 54, 55, 56, 57, 58, 59, 60, 61, 62, 63, 64, 65, 66, 67, 68, 69, 70, 71, 72, 73, 74, 75, 76] (by decide +kernel) (by decide +kernel)
set_option maxRecDepth 20000 in
theorem gX2_dearestStart_X2_hindrance : GoodIn wsX2_dearestStart (wsV RX2 107 RX2 yX2_hindrance wsX2_hindrance) := goodIn_app (goodIn_of _ (by decide +kernel)) ggX2_dearestStart_X2_hindrance
theorem dX2_dearestStart_0 : decode cX2_dearestStart 0 = .ok (.iconst (-1), 1) := by decide +kernel
theorem dX2_dearestStart_1 : decode cX2_dearestStart 1 = .ok (.istore_n 3, 1) := by decide +kernel
theorem dX2_dearestStart_2 : decode cX2_dearestStart 2 = .ok (.iconst 0, 1) := by decide +kernel
theorem dX2_dearestStart_3 : decode cX2_dearestStart 3 = .ok (.istore 4, 2) := by decide +kernel
theorem dX2_dearestStart_5 : decode cX2_dearestStart 5 = .ok (.iconst 0, 1) := by decide +kernel
theorem dX2_dearestStart_6 : decode cX2_dearestStart 6 = .ok (.istore 5, 2) := by decide +kernel
theorem dX2_dearestStart_8 : decode cX2_dearestStart 8 = .ok (.iload 5, 2) := by decide +kernel
theorem dX2_dearestStart_10 : decode cX2_dearestStart 10 = .ok (.aload_n 0, 1) := by decide +kernel
theorem dX2_dearestStart_11 : decode cX2_dearestStart 11 = .ok (.getfield 9, 3) := by decide +kernel
theorem dX2_dearestStart_14 : decode cX2_dearestStart 14 = .ok (.if_icmp .ge 48, 3) := by decide +kernel
theorem dX2_dearestStart_17 : decode cX2_dearestStart 17 = .ok (.aload_n 0, 1) := by decide +kernel
theorem dX2_dearestStart_18 : decode cX2_dearestStart 18 = .ok (.iload_n 1, 1) := by decide +kernel
theorem dX2_dearestStart_19 : decode cX2_dearestStart 19 = .ok (.iload 5, 2) := by decide +kernel
theorem dX2_dearestStart_21 : decode cX2_dearestStart 21 = .ok (.invokevirtual 75, 3) := by decide +kernel
theorem dX2_dearestStart_24 : decode cX2_dearestStart 24 = .ok (.istore 6, 2) := by decide +kernel
theorem dX2_dearestStart_26 : decode cX2_dearestStart 26 = .ok (.iload 6, 2) := by decide +kernel
theorem dX2_dearestStart_28 : decode cX2_dearestStart 28 = .ok (.iload 4, 2) := by decide +kernel
theorem dX2_dearestStart_30 : decode cX2_dearestStart 30 = .ok (.if_icmp .le 26, 3) := by decide +kernel
theorem dX2_dearestStart_33 : decode cX2_dearestStart 33 = .ok (.iload 5, 2) := by decide +kernel
theorem dX2_dearestStart_35 : decode cX2_dearestStart 35 = .ok (.iload_n 2, 1) := by decide +kernel
theorem dX2_dearestStart_36 : decode cX2_dearestStart 36 = .ok (.if_icmp .eq 20, 3) := by decide +kernel
theorem dX2_dearestStart_39 : decode cX2_dearestStart 39 = .ok (.aload_n 0, 1) := by decide +kernel
theorem dX2_dearestStart_40 : decode cX2_dearestStart 40 = .ok (.iload_n 1, 1) := by decide +kernel
theorem dX2_dearestStart_41 : decode cX2_dearestStart 41 = .ok (.iload 5, 2) := by decide +kernel
theorem dX2_dearestStart_43 : decode cX2_dearestStart 43 = .ok (.invokevirtual 107, 3) := by decide +kernel
theorem dX2_dearestStart_46 : decode cX2_dearestStart 46 = .ok (.ifCond .ne 10, 3) := by decide +kernel
theorem dX2_dearestStart_49 : decode cX2_dearestStart 49 = .ok (.iload 6, 2) := by decide +kernel
theorem dX2_dearestStart_51 : decode cX2_dearestStart 51 = .ok (.istore 4, 2) := by decide +kernel
theorem dX2_dearestStart_53 : decode cX2_dearestStart 53 = .ok (.iload 5, 2) := by decide +kernel
theorem dX2_dearestStart_55 : decode cX2_dearestStart 55 = .ok (.istore_n 3, 1) := by decide +kernel
theorem dX2_dearestStart_56 : decode cX2_dearestStart 56 = .ok (.iinc 5 1, 3) := by decide +kernel
theorem dX2_dearestStart_59 : decode cX2_dearestStart 59 = .ok (.goto (-51), 3) := by decide +kernel
theorem dX2_dearestStart_62 : decode cX2_dearestStart 62 = .ok (.iload_n 3, 1) := by decide +kernel
theorem dX2_dearestStart_63 : decode cX2_dearestStart 63 = .ok (.ireturn, 1) := by decide +kernel
set_option maxRecDepth 20000 in
theorem ggX2_seatDearest_X2_dearestStart : GoodIn wsX2_seatDearest wsX2_dearestStart := goodIn_r _ [5, 6, 7, 8, 9, 4, 10, 11, 12, 13, 14, 15, 16, 17, 18, 19, 20, 21, 22, 23, 24, 25, 26, 27, 28, 29, 30, 31, 32, 33, 34, 35, 36, 37, 38, 39, 40, 41, 42, 43, 44, 45, 46, 47, 48, 49, 50, 51, 52, 53, 54, 55, 56, 57, 58, 59, 60, 61, 62, 63, 64, 65, 66, 75, 76, 77, 78, 79, 80, 81, 82, 83, 84, 85, 86, 87, 88] (by decide +kernel) (by decide +kernel)
set_option maxRecDepth 20000 in
theorem gX2_seatDearest_X2_dearestStart : GoodIn wsX2_seatDearest (wsV RX2 114 RX2 yX2_dearestStart wsX2_dearestStart) := goodIn_app (goodIn_of _ (by decide +kernel)) ggX2_seatDearest_X2_dearestStart
set_option maxRecDepth 20000 in
theorem ggX2_seatDearest_X2_seat : GoodIn wsX2_seatDearest wsX2_seat := goodIn_r _ [70, 11, 27, 21, 71, 72, 73, 4, 74, 6, 12, 13, 14, 15, 41, 47, 48, 49, 50, 51, 52, 53, 54, 55, 56, 75, 76, 77, 78, 79, 80, 81, 82, 83, 84, 85, 86, 87, 88] (by decide +kernel) (by decide +kernel)
set_option maxRecDepth 20000 in
theorem gX2_seatDearest_X2_seat : GoodIn wsX2_seatDearest (wsV RX2 110 RX2 yX2_seat wsX2_seat) := goodIn_app (goodIn_of _ (by decide +kernel)) ggX2_seatDearest_X2_seat
theorem dX2_seatDearest_0 : decode cX2_seatDearest 0 = .ok (.aload_n 0, 1) := by decide +kernel
theorem dX2_seatDearest_1 : decode cX2_seatDearest 1 = .ok (.iload_n 1, 1) := by decide +kernel
theorem dX2_seatDearest_2 : decode cX2_seatDearest 2 = .ok (.iconst (-1), 1) := by decide +kernel
theorem dX2_seatDearest_3 : decode cX2_seatDearest 3 = .ok (.invokevirtual 114, 3) := by decide +kernel
theorem dX2_seatDearest_6 : decode cX2_seatDearest 6 = .ok (.istore_n 2, 1) := by decide +kernel
theorem dX2_seatDearest_7 : decode cX2_seatDearest 7 = .ok (.iload_n 2, 1) := by decide +kernel
theorem dX2_seatDearest_8 : decode cX2_seatDearest 8 = .ok (.iconst (-1), 1) := by decide +kernel
theorem dX2_seatDearest_9 : decode cX2_seatDearest 9 = .ok (.if_icmp .eq 9, 3) := by decide +kernel
theorem dX2_seatDearest_12 : decode cX2_seatDearest 12 = .ok (.aload_n 0, 1) := by decide +kernel
theorem dX2_seatDearest_13 : decode cX2_seatDearest 13 = .ok (.iload_n 1, 1) := by decide +kernel
theorem dX2_seatDearest_14 : decode cX2_seatDearest 14 = .ok (.iload_n 2, 1) := by decide +kernel
theorem dX2_seatDearest_15 : decode cX2_seatDearest 15 = .ok (.invokevirtual 110, 3) := by decide +kernel
theorem dX2_seatDearest_18 : decode cX2_seatDearest 18 = .ok (.return_, 1) := by decide +kernel
set_option maxRecDepth 20000 in
theorem ggX2_unseat_X2_isSeated : GoodIn wsX2_unseat wsX2_isSeated := goodIn_r _ [8, 1, 29, 30, 31, 32, 33, 34, 35, 36, 37, 38, 39, 40, 41, 42] (by decide +kernel) (by decide +kernel)
set_option maxRecDepth 20000 in
theorem gX2_unseat_X2_isSeated : GoodIn wsX2_unseat (wsV RX2 84 RX2 yX2_isSeated wsX2_isSeated) := goodIn_app (goodIn_of _ (by decide +kernel)) ggX2_unseat_X2_isSeated
set_option maxRecDepth 20000 in
theorem ggX2_unseat_X2_settle : GoodIn wsX2_unseat wsX2_settle := goodIn_r _ [12, 13, 14, 15, 16, 17, 18, 29, 30, 31, 32, 33, 34, 35, 36, 37, 38, 39, 40, 41, 42] (by decide +kernel) (by decide +kernel)
set_option maxRecDepth 20000 in
theorem gX2_unseat_X2_settle : GoodIn wsX2_unseat (wsV RX2 103 RX2 yX2_settle wsX2_settle) := goodIn_app (goodIn_of _ (by decide +kernel)) ggX2_unseat_X2_settle
set_option maxRecDepth 20000 in
theorem ggX2_unseat_X2_coversFor : GoodIn wsX2_unseat wsX2_coversFor := goodIn_r _ [22, 23, 24, 25, 26, 7, 27, 2, 13, 14, 15, 16, 17, 28, 29, 30, 31, 32, 33, 34, 35, 36, 37, 38, 39, 40, 41, 42] (by decide +kernel) (by decide +kernel)
set_option maxRecDepth 20000 in
theorem gX2_unseat_X2_coversFor : GoodIn wsX2_unseat (wsV RX2 97 RX2 yX2_coversFor wsX2_coversFor) := goodIn_app (goodIn_of _ (by decide +kernel)) ggX2_unseat_X2_coversFor
theorem dX2_unseat_0 : decode cX2_unseat 0 = .ok (.aload_n 0, 1) := by decide +kernel
theorem dX2_unseat_1 : decode cX2_unseat 1 = .ok (.iload_n 1, 1) := by decide +kernel
theorem dX2_unseat_2 : decode cX2_unseat 2 = .ok (.invokevirtual 84, 3) := by decide +kernel
theorem dX2_unseat_5 : decode cX2_unseat 5 = .ok (.ifCond .eq 44, 3) := by decide +kernel
theorem dX2_unseat_8 : decode cX2_unseat 8 = .ok (.aload_n 0, 1) := by decide +kernel
theorem dX2_unseat_9 : decode cX2_unseat 9 = .ok (.getfield 47, 3) := by decide +kernel
theorem dX2_unseat_12 : decode cX2_unseat 12 = .ok (.iload_n 1, 1) := by decide +kernel
theorem dX2_unseat_13 : decode cX2_unseat 13 = .ok (.iaload, 1) := by decide +kernel
theorem dX2_unseat_14 : decode cX2_unseat 14 = .ok (.istore_n 2, 1) := by decide +kernel
theorem dX2_unseat_15 : decode cX2_unseat 15 = .ok (.aload_n 0, 1) := by decide +kernel
theorem dX2_unseat_16 : decode cX2_unseat 16 = .ok (.iload_n 2, 1) := by decide +kernel
theorem dX2_unseat_17 : decode cX2_unseat 17 = .ok (.aload_n 0, 1) := by decide +kernel
theorem dX2_unseat_18 : decode cX2_unseat 18 = .ok (.getfield 32, 3) := by decide +kernel
theorem dX2_unseat_21 : decode cX2_unseat 21 = .ok (.iload_n 1, 1) := by decide +kernel
theorem dX2_unseat_22 : decode cX2_unseat 22 = .ok (.iaload, 1) := by decide +kernel
theorem dX2_unseat_23 : decode cX2_unseat 23 = .ok (.iconst (-1), 1) := by decide +kernel
theorem dX2_unseat_24 : decode cX2_unseat 24 = .ok (.invokevirtual 103, 3) := by decide +kernel
theorem dX2_unseat_27 : decode cX2_unseat 27 = .ok (.aload_n 0, 1) := by decide +kernel
theorem dX2_unseat_28 : decode cX2_unseat 28 = .ok (.getfield 47, 3) := by decide +kernel
theorem dX2_unseat_31 : decode cX2_unseat 31 = .ok (.iload_n 1, 1) := by decide +kernel
theorem dX2_unseat_32 : decode cX2_unseat 32 = .ok (.iconst (-1), 1) := by decide +kernel
theorem dX2_unseat_33 : decode cX2_unseat 33 = .ok (.iastore, 1) := by decide +kernel
theorem dX2_unseat_34 : decode cX2_unseat 34 = .ok (.aload_n 0, 1) := by decide +kernel
theorem dX2_unseat_35 : decode cX2_unseat 35 = .ok (.dup, 1) := by decide +kernel
theorem dX2_unseat_36 : decode cX2_unseat 36 = .ok (.getfield 53, 3) := by decide +kernel
theorem dX2_unseat_39 : decode cX2_unseat 39 = .ok (.aload_n 0, 1) := by decide +kernel
theorem dX2_unseat_40 : decode cX2_unseat 40 = .ok (.iload_n 1, 1) := by decide +kernel
theorem dX2_unseat_41 : decode cX2_unseat 41 = .ok (.iload_n 2, 1) := by decide +kernel
theorem dX2_unseat_42 : decode cX2_unseat 42 = .ok (.invokevirtual 97, 3) := by decide +kernel
theorem dX2_unseat_45 : decode cX2_unseat 45 = .ok (.isub, 1) := by decide +kernel
theorem dX2_unseat_46 : decode cX2_unseat 46 = .ok (.putfield 53, 3) := by decide +kernel
theorem dX2_unseat_49 : decode cX2_unseat 49 = .ok (.return_, 1) := by decide +kernel
set_option maxRecDepth 20000 in
theorem ggX2_unseatAll_X2_unseat : GoodIn wsX2_unseatAll wsX2_unseat := goodIn_r _ [6, 7, 8, 9, 10, 11, 12, 5, 13, 14, 15, 16, 17, 18, 19, 20, 21, 22, 23, 24, 25, 26, 27, 28, 29, 30, 31, 32, 33, 34, 35, 36, 37, 38, 39, 40, 41, 42, 43, 44, 45, 46, 47] (by decide +kernel) (by decide +kernel)
set_option maxRecDepth 20000 in
theorem gX2_unseatAll_X2_unseat : GoodIn wsX2_unseatAll (wsV RX2 117 RX2 yX2_unseat wsX2_unseat) := goodIn_app (goodIn_of _ (by decide +kernel)) ggX2_unseatAll_X2_unseat
theorem dX2_unseatAll_0 : decode cX2_unseatAll 0 = .ok (.iconst 0, 1) := by decide +kernel
theorem dX2_unseatAll_1 : decode cX2_unseatAll 1 = .ok (.istore_n 1, 1) := by decide +kernel
theorem dX2_unseatAll_2 : decode cX2_unseatAll 2 = .ok (.iload_n 1, 1) := by decide +kernel
theorem dX2_unseatAll_3 : decode cX2_unseatAll 3 = .ok (.aload_n 0, 1) := by decide +kernel
theorem dX2_unseatAll_4 : decode cX2_unseatAll 4 = .ok (.getfield 26, 3) := by decide +kernel
theorem dX2_unseatAll_7 : decode cX2_unseatAll 7 = .ok (.if_icmp .ge 14, 3) := by decide +kernel
theorem dX2_unseatAll_10 : decode cX2_unseatAll 10 = .ok (.aload_n 0, 1) := by decide +kernel
theorem dX2_unseatAll_11 : decode cX2_unseatAll 11 = .ok (.iload_n 1, 1) := by decide +kernel
theorem dX2_unseatAll_12 : decode cX2_unseatAll 12 = .ok (.invokevirtual 117, 3) := by decide +kernel
theorem dX2_unseatAll_15 : decode cX2_unseatAll 15 = .ok (.iinc 1 1, 3) := by decide +kernel
theorem dX2_unseatAll_18 : decode cX2_unseatAll 18 = .ok (.goto (-16), 3) := by decide +kernel
theorem dX2_unseatAll_21 : decode cX2_unseatAll 21 = .ok (.return_, 1) := by decide +kernel
theorem dX2_settle_0 : decode cX2_settle 0 = .ok (.iload_n 1, 1) := by decide +kernel
theorem dX2_settle_1 : decode cX2_settle 1 = .ok (.iload_n 2, 1) := by decide +kernel
theorem dX2_settle_2 : decode cX2_settle 2 = .ok (.iadd, 1) := by decide +kernel
theorem dX2_settle_3 : decode cX2_settle 3 = .ok (.aload_n 0, 1) := by decide +kernel
theorem dX2_settle_4 : decode cX2_settle 4 = .ok (.getfield 9, 3) := by decide +kernel
theorem dX2_settle_7 : decode cX2_settle 7 = .ok (.invokestatic 69, 3) := by decide +kernel
theorem dX2_settle_10 : decode cX2_settle 10 = .ok (.istore 4, 2) := by decide +kernel
theorem dX2_settle_12 : decode cX2_settle 12 = .ok (.iload_n 1, 1) := by decide +kernel
theorem dX2_settle_13 : decode cX2_settle 13 = .ok (.istore 5, 2) := by decide +kernel
theorem dX2_settle_15 : decode cX2_settle 15 = .ok (.iload 5, 2) := by decide +kernel
theorem dX2_settle_17 : decode cX2_settle 17 = .ok (.iload 4, 2) := by decide +kernel
theorem dX2_settle_19 : decode cX2_settle 19 = .ok (.if_icmp .ge 17, 3) := by decide +kernel
theorem dX2_settle_22 : decode cX2_settle 22 = .ok (.aload_n 0, 1) := by decide +kernel
theorem dX2_settle_23 : decode cX2_settle 23 = .ok (.getfield 50, 3) := by decide +kernel
theorem dX2_settle_26 : decode cX2_settle 26 = .ok (.iload 5, 2) := by decide +kernel
theorem dX2_settle_28 : decode cX2_settle 28 = .ok (.iload_n 3, 1) := by decide +kernel
theorem dX2_settle_29 : decode cX2_settle 29 = .ok (.iastore, 1) := by decide +kernel
theorem dX2_settle_30 : decode cX2_settle 30 = .ok (.iinc 5 1, 3) := by decide +kernel
theorem dX2_settle_33 : decode cX2_settle 33 = .ok (.goto (-18), 3) := by decide +kernel
theorem dX2_settle_36 : decode cX2_settle 36 = .ok (.return_, 1) := by decide +kernel
set_option maxRecDepth 20000 in
theorem ggX2_countSeated_X2_isSeated : GoodIn wsX2_countSeated wsX2_isSeated := goodIn_r _ [6, 7, 8, 9, 10, 11, 12, 13, 14, 15, 16, 17, 18, 19, 20, 21] (by decide +kernel) (by decide +kernel)
set_option maxRecDepth 20000 in
theorem gX2_countSeated_X2_isSeated : GoodIn wsX2_countSeated (wsV RX2 84 RX2 yX2_isSeated wsX2_isSeated) := goodIn_app (goodIn_of _ (by decide +kernel)) ggX2_countSeated_X2_isSeated
theorem dX2_countSeated_0 : decode cX2_countSeated 0 = .ok (.iconst 0, 1) := by decide +kernel
theorem dX2_countSeated_1 : decode cX2_countSeated 1 = .ok (.istore_n 1, 1) := by decide +kernel
theorem dX2_countSeated_2 : decode cX2_countSeated 2 = .ok (.iconst 0, 1) := by decide +kernel
theorem dX2_countSeated_3 : decode cX2_countSeated 3 = .ok (.istore_n 2, 1) := by decide +kernel
theorem dX2_countSeated_4 : decode cX2_countSeated 4 = .ok (.iload_n 2, 1) := by decide +kernel
theorem dX2_countSeated_5 : decode cX2_countSeated 5 = .ok (.aload_n 0, 1) := by decide +kernel
theorem dX2_countSeated_6 : decode cX2_countSeated 6 = .ok (.getfield 26, 3) := by decide +kernel
theorem dX2_countSeated_9 : decode cX2_countSeated 9 = .ok (.if_icmp .ge 20, 3) := by decide +kernel
theorem dX2_countSeated_12 : decode cX2_countSeated 12 = .ok (.aload_n 0, 1) := by decide +kernel
theorem dX2_countSeated_13 : decode cX2_countSeated 13 = .ok (.iload_n 2, 1) := by decide +kernel
theorem dX2_countSeated_14 : decode cX2_countSeated 14 = .ok (.invokevirtual 84, 3) := by decide +kernel
theorem dX2_countSeated_17 : decode cX2_countSeated 17 = .ok (.ifCond .eq 6, 3) := by decide +kernel
theorem dX2_countSeated_20 : decode cX2_countSeated 20 = .ok (.iinc 1 1, 3) := by decide +kernel
theorem dX2_countSeated_23 : decode cX2_countSeated 23 = .ok (.iinc 2 1, 3) := by decide +kernel
theorem dX2_countSeated_26 : decode cX2_countSeated 26 = .ok (.goto (-22), 3) := by decide +kernel
theorem dX2_countSeated_29 : decode cX2_countSeated 29 = .ok (.iload_n 1, 1) := by decide +kernel
theorem dX2_countSeated_30 : decode cX2_countSeated 30 = .ok (.ireturn, 1) := by decide +kernel
set_option maxRecDepth 20000 in
theorem ggX2_totalRent_X2_isSeated : GoodIn wsX2_totalRent wsX2_isSeated := goodIn_r _ [7, 2, 19, 20, 21, 22, 23, 24, 25, 26, 27, 28, 29, 30, 31, 32] (by decide +kernel) (by decide +kernel)
set_option maxRecDepth 20000 in
theorem gX2_totalRent_X2_isSeated : GoodIn wsX2_totalRent (wsV RX2 84 RX2 yX2_isSeated wsX2_isSeated) := goodIn_app (goodIn_of _ (by decide +kernel)) ggX2_totalRent_X2_isSeated
set_option maxRecDepth 20000 in
theorem ggX2_totalRent_X2_blockRent : GoodIn wsX2_totalRent wsX2_blockRent := goodIn_r _ [11, 12, 13, 14, 15, 16, 17, 18, 19, 20, 21, 22, 23, 24, 25, 26, 27, 28, 29, 30, 31, 32] (by decide +kernel) (by decide +kernel)
set_option maxRecDepth 20000 in
theorem gX2_totalRent_X2_blockRent : GoodIn wsX2_totalRent (wsV RX2 75 RX2 yX2_blockRent wsX2_blockRent) := goodIn_app (goodIn_of _ (by decide +kernel)) ggX2_totalRent_X2_blockRent
theorem dX2_totalRent_0 : decode cX2_totalRent 0 = .ok (.iconst 0, 1) := by decide +kernel
theorem dX2_totalRent_1 : decode cX2_totalRent 1 = .ok (.istore_n 1, 1) := by decide +kernel
theorem dX2_totalRent_2 : decode cX2_totalRent 2 = .ok (.iconst 0, 1) := by decide +kernel
theorem dX2_totalRent_3 : decode cX2_totalRent 3 = .ok (.istore_n 2, 1) := by decide +kernel
theorem dX2_totalRent_4 : decode cX2_totalRent 4 = .ok (.iload_n 2, 1) := by decide +kernel
theorem dX2_totalRent_5 : decode cX2_totalRent 5 = .ok (.aload_n 0, 1) := by decide +kernel
theorem dX2_totalRent_6 : decode cX2_totalRent 6 = .ok (.getfield 26, 3) := by decide +kernel
theorem dX2_totalRent_9 : decode cX2_totalRent 9 = .ok (.if_icmp .ge 31, 3) := by decide +kernel
theorem dX2_totalRent_12 : decode cX2_totalRent 12 = .ok (.aload_n 0, 1) := by decide +kernel
theorem dX2_totalRent_13 : decode cX2_totalRent 13 = .ok (.iload_n 2, 1) := by decide +kernel
theorem dX2_totalRent_14 : decode cX2_totalRent 14 = .ok (.invokevirtual 84, 3) := by decide +kernel
theorem dX2_totalRent_17 : decode cX2_totalRent 17 = .ok (.ifCond .eq 17, 3) := by decide +kernel
theorem dX2_totalRent_20 : decode cX2_totalRent 20 = .ok (.iload_n 1, 1) := by decide +kernel
theorem dX2_totalRent_21 : decode cX2_totalRent 21 = .ok (.aload_n 0, 1) := by decide +kernel
theorem dX2_totalRent_22 : decode cX2_totalRent 22 = .ok (.iload_n 2, 1) := by decide +kernel
theorem dX2_totalRent_23 : decode cX2_totalRent 23 = .ok (.aload_n 0, 1) := by decide +kernel
theorem dX2_totalRent_24 : decode cX2_totalRent 24 = .ok (.getfield 47, 3) := by decide +kernel
theorem dX2_totalRent_27 : decode cX2_totalRent 27 = .ok (.iload_n 2, 1) := by decide +kernel
theorem dX2_totalRent_28 : decode cX2_totalRent 28 = .ok (.iaload, 1) := by decide +kernel
theorem dX2_totalRent_29 : decode cX2_totalRent 29 = .ok (.invokevirtual 75, 3) := by decide +kernel
theorem dX2_totalRent_32 : decode cX2_totalRent 32 = .ok (.iadd, 1) := by decide +kernel
theorem dX2_totalRent_33 : decode cX2_totalRent 33 = .ok (.istore_n 1, 1) := by decide +kernel
theorem dX2_totalRent_34 : decode cX2_totalRent 34 = .ok (.iinc 2 1, 3) := by decide +kernel
theorem dX2_totalRent_37 : decode cX2_totalRent 37 = .ok (.goto (-33), 3) := by decide +kernel
theorem dX2_totalRent_40 : decode cX2_totalRent 40 = .ok (.iload_n 1, 1) := by decide +kernel
theorem dX2_totalRent_41 : decode cX2_totalRent 41 = .ok (.ireturn, 1) := by decide +kernel
set_option maxRecDepth 20000 in
theorem ggX2_standSideBySide_X2_shareRow : GoodIn wsX2_standSideBySide wsX2_shareRow := goodIn_r _ [8, 1, 9, 13, 14, 15, 16, 17, 18, 19, 20, 21, 22, 23, 24, 25, 26] (by decide +kernel) (by decide +kernel)
set_option maxRecDepth 20000 in
theorem gX2_standSideBySide_X2_shareRow : GoodIn wsX2_standSideBySide (wsV RX2 65 RX2 yX2_shareRow wsX2_shareRow) := goodIn_app (goodIn_of _ (by decide +kernel)) ggX2_standSideBySide_X2_shareRow
set_option maxRecDepth 20000 in
theorem ggX2_standSideBySide_X2_isPair : GoodIn wsX2_standSideBySide wsX2_isPair := goodIn_r _ [12] (by decide +kernel) (by decide +kernel)
set_option maxRecDepth 20000 in
theorem gX2_standSideBySide_X2_isPair : GoodIn wsX2_standSideBySide (va_wsS RX2 121 yX2_isPair wsX2_isPair) := goodIn_app (goodIn_of _ (by decide +kernel)) ggX2_standSideBySide_X2_isPair
theorem dX2_standSideBySide_0 : decode cX2_standSideBySide 0 = .ok (.iconst 0, 1) := by decide +kernel
theorem dX2_standSideBySide_1 : decode cX2_standSideBySide 1 = .ok (.istore_n 3, 1) := by decide +kernel
theorem dX2_standSideBySide_2 : decode cX2_standSideBySide 2 = .ok (.iload_n 3, 1) := by decide +kernel
theorem dX2_standSideBySide_3 : decode cX2_standSideBySide 3 = .ok (.iconst 1, 1) := by decide +kernel
theorem dX2_standSideBySide_4 : decode cX2_standSideBySide 4 = .ok (.iadd, 1) := by decide +kernel
theorem dX2_standSideBySide_5 : decode cX2_standSideBySide 5 = .ok (.aload_n 0, 1) := by decide +kernel
theorem dX2_standSideBySide_6 : decode cX2_standSideBySide 6 = .ok (.getfield 9, 3) := by decide +kernel
theorem dX2_standSideBySide_9 : decode cX2_standSideBySide 9 = .ok (.if_icmp .ge 81, 3) := by decide +kernel
theorem dX2_standSideBySide_12 : decode cX2_standSideBySide 12 = .ok (.aload_n 0, 1) := by decide +kernel
theorem dX2_standSideBySide_13 : decode cX2_standSideBySide 13 = .ok (.getfield 50, 3) := by decide +kernel
theorem dX2_standSideBySide_16 : decode cX2_standSideBySide 16 = .ok (.iload_n 3, 1) := by decide +kernel
theorem dX2_standSideBySide_17 : decode cX2_standSideBySide 17 = .ok (.iaload, 1) := by decide +kernel
theorem dX2_standSideBySide_18 : decode cX2_standSideBySide 18 = .ok (.istore 4, 2) := by decide +kernel
theorem dX2_standSideBySide_20 : decode cX2_standSideBySide 20 = .ok (.aload_n 0, 1) := by decide +kernel
theorem dX2_standSideBySide_21 : decode cX2_standSideBySide 21 = .ok (.getfield 50, 3) := by decide +kernel
theorem dX2_standSideBySide_24 : decode cX2_standSideBySide 24 = .ok (.iload_n 3, 1) := by decide +kernel
theorem dX2_standSideBySide_25 : decode cX2_standSideBySide 25 = .ok (.iconst 1, 1) := by decide +kernel
theorem dX2_standSideBySide_26 : decode cX2_standSideBySide 26 = .ok (.iadd, 1) := by decide +kernel
theorem dX2_standSideBySide_27 : decode cX2_standSideBySide 27 = .ok (.iaload, 1) := by decide +kernel
theorem dX2_standSideBySide_28 : decode cX2_standSideBySide 28 = .ok (.istore 5, 2) := by decide +kernel
theorem dX2_standSideBySide_30 : decode cX2_standSideBySide 30 = .ok (.iload 4, 2) := by decide +kernel
theorem dX2_standSideBySide_32 : decode cX2_standSideBySide 32 = .ok (.iload 5, 2) := by decide +kernel
theorem dX2_standSideBySide_34 : decode cX2_standSideBySide 34 = .ok (.if_icmp .eq 50, 3) := by decide +kernel
theorem dX2_standSideBySide_37 : decode cX2_standSideBySide 37 = .ok (.iload 4, 2) := by decide +kernel
theorem dX2_standSideBySide_39 : decode cX2_standSideBySide 39 = .ok (.iconst (-1), 1) := by decide +kernel
theorem dX2_standSideBySide_40 : decode cX2_standSideBySide 40 = .ok (.if_icmp .eq 44, 3) := by decide +kernel
theorem dX2_standSideBySide_43 : decode cX2_standSideBySide 43 = .ok (.iload 5, 2) := by decide +kernel
theorem dX2_standSideBySide_45 : decode cX2_standSideBySide 45 = .ok (.iconst (-1), 1) := by decide +kernel
theorem dX2_standSideBySide_46 : decode cX2_standSideBySide 46 = .ok (.if_icmp .eq 38, 3) := by decide +kernel
theorem dX2_standSideBySide_49 : decode cX2_standSideBySide 49 = .ok (.aload_n 0, 1) := by decide +kernel
theorem dX2_standSideBySide_50 : decode cX2_standSideBySide 50 = .ok (.iload_n 3, 1) := by decide +kernel
theorem dX2_standSideBySide_51 : decode cX2_standSideBySide 51 = .ok (.iload_n 3, 1) := by decide +kernel
theorem dX2_standSideBySide_52 : decode cX2_standSideBySide 52 = .ok (.iconst 1, 1) := by decide +kernel
theorem dX2_standSideBySide_53 : decode cX2_standSideBySide 53 = .ok (.iadd, 1) := by decide +kernel
theorem dX2_standSideBySide_54 : decode cX2_standSideBySide 54 = .ok (.invokevirtual 65, 3) := by decide +kernel
theorem dX2_standSideBySide_57 : decode cX2_standSideBySide 57 = .ok (.ifCond .eq 27, 3) := by decide +kernel
theorem dX2_standSideBySide_60 : decode cX2_standSideBySide 60 = .ok (.aload_n 0, 1) := by decide +kernel
theorem dX2_standSideBySide_61 : decode cX2_standSideBySide 61 = .ok (.getfield 29, 3) := by decide +kernel
theorem dX2_standSideBySide_64 : decode cX2_standSideBySide 64 = .ok (.iload 4, 2) := by decide +kernel
theorem dX2_standSideBySide_66 : decode cX2_standSideBySide 66 = .ok (.iaload, 1) := by decide +kernel
theorem dX2_standSideBySide_67 : decode cX2_standSideBySide 67 = .ok (.aload_n 0, 1) := by decide +kernel
theorem dX2_standSideBySide_68 : decode cX2_standSideBySide 68 = .ok (.getfield 29, 3) := by decide +kernel
theorem dX2_standSideBySide_71 : decode cX2_standSideBySide 71 = .ok (.iload 5, 2) := by decide +kernel
theorem dX2_standSideBySide_73 : decode cX2_standSideBySide 73 = .ok (.iaload, 1) := by decide +kernel
theorem dX2_standSideBySide_74 : decode cX2_standSideBySide 74 = .ok (.iload_n 1, 1) := by decide +kernel
theorem dX2_standSideBySide_75 : decode cX2_standSideBySide 75 = .ok (.iload_n 2, 1) := by decide +kernel
theorem dX2_standSideBySide_76 : decode cX2_standSideBySide 76 = .ok (.invokestatic 121, 3) := by decide +kernel
theorem dX2_standSideBySide_79 : decode cX2_standSideBySide 79 = .ok (.ifCond .eq 5, 3) := by decide +kernel
theorem dX2_standSideBySide_82 : decode cX2_standSideBySide 82 = .ok (.iconst 1, 1) := by decide +kernel
theorem dX2_standSideBySide_83 : decode cX2_standSideBySide 83 = .ok (.ireturn, 1) := by decide +kernel
theorem dX2_standSideBySide_84 : decode cX2_standSideBySide 84 = .ok (.iinc 3 1, 3) := by decide +kernel
theorem dX2_standSideBySide_87 : decode cX2_standSideBySide 87 = .ok (.goto (-85), 3) := by decide +kernel
theorem dX2_standSideBySide_90 : decode cX2_standSideBySide 90 = .ok (.iconst 0, 1) := by decide +kernel
theorem dX2_standSideBySide_91 : decode cX2_standSideBySide 91 = .ok (.ireturn, 1) := by decide +kernel
theorem dX2_isPair_0 : decode cX2_isPair 0 = .ok (.iload_n 0, 1) := by decide +kernel
theorem dX2_isPair_1 : decode cX2_isPair 1 = .ok (.iload_n 2, 1) := by decide +kernel
theorem dX2_isPair_2 : decode cX2_isPair 2 = .ok (.if_icmp .ne 8, 3) := by decide +kernel
theorem dX2_isPair_5 : decode cX2_isPair 5 = .ok (.iload_n 1, 1) := by decide +kernel
theorem dX2_isPair_6 : decode cX2_isPair 6 = .ok (.iload_n 3, 1) := by decide +kernel
theorem dX2_isPair_7 : decode cX2_isPair 7 = .ok (.if_icmp .eq 13, 3) := by decide +kernel
theorem dX2_isPair_10 : decode cX2_isPair 10 = .ok (.iload_n 0, 1) := by decide +kernel
theorem dX2_isPair_11 : decode cX2_isPair 11 = .ok (.iload_n 3, 1) := by decide +kernel
theorem dX2_isPair_12 : decode cX2_isPair 12 = .ok (.if_icmp .ne 12, 3) := by decide +kernel
theorem dX2_isPair_15 : decode cX2_isPair 15 = .ok (.iload_n 1, 1) := by decide +kernel
theorem dX2_isPair_16 : decode cX2_isPair 16 = .ok (.iload_n 2, 1) := by decide +kernel
theorem dX2_isPair_17 : decode cX2_isPair 17 = .ok (.if_icmp .ne 7, 3) := by decide +kernel
theorem dX2_isPair_20 : decode cX2_isPair 20 = .ok (.iconst 1, 1) := by decide +kernel
theorem dX2_isPair_21 : decode cX2_isPair 21 = .ok (.goto 4, 3) := by decide +kernel
theorem dX2_isPair_24 : decode cX2_isPair 24 = .ok (.iconst 0, 1) := by decide +kernel
theorem dX2_isPair_25 : decode cX2_isPair 25 = .ok (.ireturn, 1) := by decide +kernel
theorem dX2_comesBefore_0 : decode cX2_comesBefore 0 = .ok (.iconst 0, 1) := by decide +kernel
theorem dX2_comesBefore_1 : decode cX2_comesBefore 1 = .ok (.istore_n 2, 1) := by decide +kernel
theorem dX2_comesBefore_2 : decode cX2_comesBefore 2 = .ok (.iload_n 2, 1) := by decide +kernel
theorem dX2_comesBefore_3 : decode cX2_comesBefore 3 = .ok (.aload_n 0, 1) := by decide +kernel
theorem dX2_comesBefore_4 : decode cX2_comesBefore 4 = .ok (.getfield 9, 3) := by decide +kernel
theorem dX2_comesBefore_7 : decode cX2_comesBefore 7 = .ok (.if_icmp .ge 53, 3) := by decide +kernel
theorem dX2_comesBefore_10 : decode cX2_comesBefore 10 = .ok (.aload_n 0, 1) := by decide +kernel
theorem dX2_comesBefore_11 : decode cX2_comesBefore 11 = .ok (.getfield 50, 3) := by decide +kernel
theorem dX2_comesBefore_14 : decode cX2_comesBefore 14 = .ok (.iload_n 2, 1) := by decide +kernel
theorem dX2_comesBefore_15 : decode cX2_comesBefore 15 = .ok (.iaload, 1) := by decide +kernel
theorem dX2_comesBefore_16 : decode cX2_comesBefore 16 = .ok (.istore_n 3, 1) := by decide +kernel
theorem dX2_comesBefore_17 : decode cX2_comesBefore 17 = .ok (.aload_n 1, 1) := by decide +kernel
theorem dX2_comesBefore_18 : decode cX2_comesBefore 18 = .ok (.getfield 50, 3) := by decide +kernel
theorem dX2_comesBefore_21 : decode cX2_comesBefore 21 = .ok (.iload_n 2, 1) := by decide +kernel
theorem dX2_comesBefore_22 : decode cX2_comesBefore 22 = .ok (.iaload, 1) := by decide +kernel
theorem dX2_comesBefore_23 : decode cX2_comesBefore 23 = .ok (.istore 4, 2) := by decide +kernel
theorem dX2_comesBefore_25 : decode cX2_comesBefore 25 = .ok (.iload_n 3, 1) := by decide +kernel
theorem dX2_comesBefore_26 : decode cX2_comesBefore 26 = .ok (.iload 4, 2) := by decide +kernel
theorem dX2_comesBefore_28 : decode cX2_comesBefore 28 = .ok (.if_icmp .eq 26, 3) := by decide +kernel
theorem dX2_comesBefore_31 : decode cX2_comesBefore 31 = .ok (.iload 4, 2) := by decide +kernel
theorem dX2_comesBefore_33 : decode cX2_comesBefore 33 = .ok (.iconst (-1), 1) := by decide +kernel
theorem dX2_comesBefore_34 : decode cX2_comesBefore 34 = .ok (.if_icmp .eq 14, 3) := by decide +kernel
theorem dX2_comesBefore_37 : decode cX2_comesBefore 37 = .ok (.iload_n 3, 1) := by decide +kernel
theorem dX2_comesBefore_38 : decode cX2_comesBefore 38 = .ok (.iconst (-1), 1) := by decide +kernel
theorem dX2_comesBefore_39 : decode cX2_comesBefore 39 = .ok (.if_icmp .eq 13, 3) := by decide +kernel
theorem dX2_comesBefore_42 : decode cX2_comesBefore 42 = .ok (.iload_n 3, 1) := by decide +kernel
theorem dX2_comesBefore_43 : decode cX2_comesBefore 43 = .ok (.iload 4, 2) := by decide +kernel
theorem dX2_comesBefore_45 : decode cX2_comesBefore 45 = .ok (.if_icmp .ge 7, 3) := by decide +kernel
theorem dX2_comesBefore_48 : decode cX2_comesBefore 48 = .ok (.iconst 1, 1) := by decide +kernel
theorem dX2_comesBefore_49 : decode cX2_comesBefore 49 = .ok (.goto 4, 3) := by decide +kernel
theorem dX2_comesBefore_52 : decode cX2_comesBefore 52 = .ok (.iconst 0, 1) := by decide +kernel
theorem dX2_comesBefore_53 : decode cX2_comesBefore 53 = .ok (.ireturn, 1) := by decide +kernel
theorem dX2_comesBefore_54 : decode cX2_comesBefore 54 = .ok (.iinc 2 1, 3) := by decide +kernel
theorem dX2_comesBefore_57 : decode cX2_comesBefore 57 = .ok (.goto (-55), 3) := by decide +kernel
theorem dX2_comesBefore_60 : decode cX2_comesBefore 60 = .ok (.iconst 0, 1) := by decide +kernel
theorem dX2_comesBefore_61 : decode cX2_comesBefore 61 = .ok (.ireturn, 1) := by decide +kernel
set_option maxRecDepth 20000 in
theorem ggX2_turnAround_X2_unseatAll : GoodIn wsX2_turnAround wsX2_unseatAll := goodIn_r _ [9, 10, 11, 12, 13, 8, 14, 15, 16, 17, 18, 19, 20, 21, 22, 23, 24, 25, 1, 26, 27, 28, 29, 30, 31, 32, 33, 34, 35, 36, 37, 38, 39, 4, 40, 41, 42, 43, 44, 45, 46, 47, 48, 49, 50, 51, 52, 53] (by decide +kernel) (by decide +kernel)
set_option maxRecDepth 20000 in
theorem gX2_turnAround_X2_unseatAll : GoodIn wsX2_turnAround (wsV RX2 62 RX2 yX2_unseatAll wsX2_unseatAll) := goodIn_app (goodIn_of _ (by decide +kernel)) ggX2_turnAround_X2_unseatAll
theorem dX2_turnAround_0 : decode cX2_turnAround 0 = .ok (.aload_n 0, 1) := by decide +kernel
theorem dX2_turnAround_1 : decode cX2_turnAround 1 = .ok (.invokevirtual 62, 3) := by decide +kernel
theorem dX2_turnAround_4 : decode cX2_turnAround 4 = .ok (.iconst 0, 1) := by decide +kernel
theorem dX2_turnAround_5 : decode cX2_turnAround 5 = .ok (.istore_n 1, 1) := by decide +kernel
theorem dX2_turnAround_6 : decode cX2_turnAround 6 = .ok (.aload_n 0, 1) := by decide +kernel
theorem dX2_turnAround_7 : decode cX2_turnAround 7 = .ok (.getfield 9, 3) := by decide +kernel
theorem dX2_turnAround_10 : decode cX2_turnAround 10 = .ok (.iconst 1, 1) := by decide +kernel
theorem dX2_turnAround_11 : decode cX2_turnAround 11 = .ok (.isub, 1) := by decide +kernel
theorem dX2_turnAround_12 : decode cX2_turnAround 12 = .ok (.istore_n 2, 1) := by decide +kernel
theorem dX2_turnAround_13 : decode cX2_turnAround 13 = .ok (.iload_n 1, 1) := by decide +kernel
theorem dX2_turnAround_14 : decode cX2_turnAround 14 = .ok (.iload_n 2, 1) := by decide +kernel
theorem dX2_turnAround_15 : decode cX2_turnAround 15 = .ok (.if_icmp .ge 94, 3) := by decide +kernel
theorem dX2_turnAround_18 : decode cX2_turnAround 18 = .ok (.aload_n 0, 1) := by decide +kernel
theorem dX2_turnAround_19 : decode cX2_turnAround 19 = .ok (.getfield 15, 3) := by decide +kernel
theorem dX2_turnAround_22 : decode cX2_turnAround 22 = .ok (.iload_n 1, 1) := by decide +kernel
theorem dX2_turnAround_23 : decode cX2_turnAround 23 = .ok (.iaload, 1) := by decide +kernel
theorem dX2_turnAround_24 : decode cX2_turnAround 24 = .ok (.istore_n 3, 1) := by decide +kernel
theorem dX2_turnAround_25 : decode cX2_turnAround 25 = .ok (.aload_n 0, 1) := by decide +kernel
theorem dX2_turnAround_26 : decode cX2_turnAround 26 = .ok (.getfield 15, 3) := by decide +kernel
theorem dX2_turnAround_29 : decode cX2_turnAround 29 = .ok (.iload_n 1, 1) := by decide +kernel
theorem dX2_turnAround_30 : decode cX2_turnAround 30 = .ok (.aload_n 0, 1) := by decide +kernel
theorem dX2_turnAround_31 : decode cX2_turnAround 31 = .ok (.getfield 15, 3) := by decide +kernel
theorem dX2_turnAround_34 : decode cX2_turnAround 34 = .ok (.iload_n 2, 1) := by decide +kernel
theorem dX2_turnAround_35 : decode cX2_turnAround 35 = .ok (.iaload, 1) := by decide +kernel
theorem dX2_turnAround_36 : decode cX2_turnAround 36 = .ok (.iastore, 1) := by decide +kernel
theorem dX2_turnAround_37 : decode cX2_turnAround 37 = .ok (.aload_n 0, 1) := by decide +kernel
theorem dX2_turnAround_38 : decode cX2_turnAround 38 = .ok (.getfield 15, 3) := by decide +kernel
theorem dX2_turnAround_41 : decode cX2_turnAround 41 = .ok (.iload_n 2, 1) := by decide +kernel
theorem dX2_turnAround_42 : decode cX2_turnAround 42 = .ok (.iload_n 3, 1) := by decide +kernel
theorem dX2_turnAround_43 : decode cX2_turnAround 43 = .ok (.iastore, 1) := by decide +kernel
theorem dX2_turnAround_44 : decode cX2_turnAround 44 = .ok (.aload_n 0, 1) := by decide +kernel
theorem dX2_turnAround_45 : decode cX2_turnAround 45 = .ok (.getfield 19, 3) := by decide +kernel
theorem dX2_turnAround_48 : decode cX2_turnAround 48 = .ok (.iload_n 1, 1) := by decide +kernel
theorem dX2_turnAround_49 : decode cX2_turnAround 49 = .ok (.iaload, 1) := by decide +kernel
theorem dX2_turnAround_50 : decode cX2_turnAround 50 = .ok (.istore 4, 2) := by decide +kernel
theorem dX2_turnAround_52 : decode cX2_turnAround 52 = .ok (.aload_n 0, 1) := by decide +kernel
theorem dX2_turnAround_53 : decode cX2_turnAround 53 = .ok (.getfield 19, 3) := by decide +kernel
theorem dX2_turnAround_56 : decode cX2_turnAround 56 = .ok (.iload_n 1, 1) := by decide +kernel
theorem dX2_turnAround_57 : decode cX2_turnAround 57 = .ok (.aload_n 0, 1) := by decide +kernel
theorem dX2_turnAround_58 : decode cX2_turnAround 58 = .ok (.getfield 19, 3) := by decide +kernel
theorem dX2_turnAround_61 : decode cX2_turnAround 61 = .ok (.iload_n 2, 1) := by decide +kernel
theorem dX2_turnAround_62 : decode cX2_turnAround 62 = .ok (.iaload, 1) := by decide +kernel
theorem dX2_turnAround_63 : decode cX2_turnAround 63 = .ok (.iastore, 1) := by decide +kernel
theorem dX2_turnAround_64 : decode cX2_turnAround 64 = .ok (.aload_n 0, 1) := by decide +kernel
theorem dX2_turnAround_65 : decode cX2_turnAround 65 = .ok (.getfield 19, 3) := by decide +kernel
theorem dX2_turnAround_68 : decode cX2_turnAround 68 = .ok (.iload_n 2, 1) := by decide +kernel
theorem dX2_turnAround_69 : decode cX2_turnAround 69 = .ok (.iload 4, 2) := by decide +kernel
theorem dX2_turnAround_71 : decode cX2_turnAround 71 = .ok (.iastore, 1) := by decide +kernel
theorem dX2_turnAround_72 : decode cX2_turnAround 72 = .ok (.aload_n 0, 1) := by decide +kernel
theorem dX2_turnAround_73 : decode cX2_turnAround 73 = .ok (.getfield 22, 3) := by decide +kernel
theorem dX2_turnAround_76 : decode cX2_turnAround 76 = .ok (.iload_n 1, 1) := by decide +kernel
theorem dX2_turnAround_77 : decode cX2_turnAround 77 = .ok (.baload, 1) := by decide +kernel
theorem dX2_turnAround_78 : decode cX2_turnAround 78 = .ok (.istore 5, 2) := by decide +kernel
theorem dX2_turnAround_80 : decode cX2_turnAround 80 = .ok (.aload_n 0, 1) := by decide +kernel
theorem dX2_turnAround_81 : decode cX2_turnAround 81 = .ok (.getfield 22, 3) := by decide +kernel
theorem dX2_turnAround_84 : decode cX2_turnAround 84 = .ok (.iload_n 1, 1) := by decide +kernel
theorem dX2_turnAround_85 : decode cX2_turnAround 85 = .ok (.aload_n 0, 1) := by decide +kernel
theorem dX2_turnAround_86 : decode cX2_turnAround 86 = .ok (.getfield 22, 3) := by decide +kernel
theorem dX2_turnAround_89 : decode cX2_turnAround 89 = .ok (.iload_n 2, 1) := by decide +kernel
theorem dX2_turnAround_90 : decode cX2_turnAround 90 = .ok (.baload, 1) := by decide +kernel
theorem dX2_turnAround_91 : decode cX2_turnAround 91 = .ok (.bastore, 1) := by decide +kernel
theorem dX2_turnAround_92 : decode cX2_turnAround 92 = .ok (.aload_n 0, 1) := by decide +kernel
theorem dX2_turnAround_93 : decode cX2_turnAround 93 = .ok (.getfield 22, 3) := by decide +kernel
theorem dX2_turnAround_96 : decode cX2_turnAround 96 = .ok (.iload_n 2, 1) := by decide +kernel
theorem dX2_turnAround_97 : decode cX2_turnAround 97 = .ok (.iload 5, 2) := by decide +kernel
theorem dX2_turnAround_99 : decode cX2_turnAround 99 = .ok (.bastore, 1) := by decide +kernel
theorem dX2_turnAround_100 : decode cX2_turnAround 100 = .ok (.iinc 1 1, 3) := by decide +kernel
theorem dX2_turnAround_103 : decode cX2_turnAround 103 = .ok (.iinc 2 (-1), 3) := by decide +kernel
theorem dX2_turnAround_106 : decode cX2_turnAround 106 = .ok (.goto (-93), 3) := by decide +kernel
theorem dX2_turnAround_109 : decode cX2_turnAround 109 = .ok (.return_, 1) := by decide +kernel
set_option maxRecDepth 20000 in
theorem ggX3_init_X2_init : GoodIn wsX3_init wsX2_init := goodIn_r _ [20, 21, 2, 3, 22, 8, 23, 24, 25, 26, 27, 28, 29, 30, 31, 32, 33, 34, 35, 36, 37, 38, 39, 40, 41, 42, 43, 44, 45, 46, 47, 48, 49, 50] (by decide +kernel) (by decide +kernel)
set_option maxRecDepth 20000 in
theorem gX3_init_X2_init : GoodIn wsX3_init (wsX2_init) := ggX3_init_X2_init
theorem dX3_init_0 : decode cX3_init 0 = .ok (.aload_n 0, 1) := by decide +kernel
theorem dX3_init_1 : decode cX3_init 1 = .ok (.invokespecial 3, 3) := by decide +kernel
theorem dX3_init_4 : decode cX3_init 4 = .ok (.aload_n 0, 1) := by decide +kernel
theorem dX3_init_5 : decode cX3_init 5 = .ok (.new 9, 3) := by decide +kernel
theorem dX3_init_8 : decode cX3_init 8 = .ok (.dup, 1) := by decide +kernel
theorem dX3_init_9 : decode cX3_init 9 = .ok (.invokespecial 11, 3) := by decide +kernel
theorem dX3_init_12 : decode cX3_init 12 = .ok (.putfield 12, 3) := by decide +kernel
theorem dX3_init_15 : decode cX3_init 15 = .ok (.aload_n 0, 1) := by decide +kernel
theorem dX3_init_16 : decode cX3_init 16 = .ok (.sipush 1024, 3) := by decide +kernel
theorem dX3_init_19 : decode cX3_init 19 = .ok (.newarray .int, 2) := by decide +kernel
theorem dX3_init_21 : decode cX3_init 21 = .ok (.putfield 18, 3) := by decide +kernel
theorem dX3_init_24 : decode cX3_init 24 = .ok (.aload_n 0, 1) := by decide +kernel
theorem dX3_init_25 : decode cX3_init 25 = .ok (.iconst 1, 1) := by decide +kernel
theorem dX3_init_26 : decode cX3_init 26 = .ok (.putfield 22, 3) := by decide +kernel
theorem dX3_init_29 : decode cX3_init 29 = .ok (.aload_n 0, 1) := by decide +kernel
theorem dX3_init_30 : decode cX3_init 30 = .ok (.iconst 1, 1) := by decide +kernel
theorem dX3_init_31 : decode cX3_init 31 = .ok (.putfield 26, 3) := by decide +kernel
theorem dX3_init_34 : decode cX3_init 34 = .ok (.aload_n 0, 1) := by decide +kernel
theorem dX3_init_35 : decode cX3_init 35 = .ok (.iconst 1, 1) := by decide +kernel
theorem dX3_init_36 : decode cX3_init 36 = .ok (.putfield 29, 3) := by decide +kernel
theorem dX3_init_39 : decode cX3_init 39 = .ok (.aload_n 0, 1) := by decide +kernel
theorem dX3_init_40 : decode cX3_init 40 = .ok (.sipush 192, 3) := by decide +kernel
theorem dX3_init_43 : decode cX3_init 43 = .ok (.newarray .int, 2) := by decide +kernel
theorem dX3_init_45 : decode cX3_init 45 = .ok (.putfield 32, 3) := by decide +kernel
theorem dX3_init_48 : decode cX3_init 48 = .ok (.aload_n 0, 1) := by decide +kernel
theorem dX3_init_49 : decode cX3_init 49 = .ok (.sipush 192, 3) := by decide +kernel
theorem dX3_init_52 : decode cX3_init 52 = .ok (.newarray .int, 2) := by decide +kernel
theorem dX3_init_54 : decode cX3_init 54 = .ok (.putfield 35, 3) := by decide +kernel
theorem dX3_init_57 : decode cX3_init 57 = .ok (.aload_n 0, 1) := by decide +kernel
theorem dX3_init_58 : decode cX3_init 58 = .ok (.sipush 192, 3) := by decide +kernel
theorem dX3_init_61 : decode cX3_init 61 = .ok (.newarray .int, 2) := by decide +kernel
theorem dX3_init_63 : decode cX3_init 63 = .ok (.putfield 38, 3) := by decide +kernel
theorem dX3_init_66 : decode cX3_init 66 = .ok (.aload_n 0, 1) := by decide +kernel
theorem dX3_init_67 : decode cX3_init 67 = .ok (.bipush 8, 2) := by decide +kernel
theorem dX3_init_69 : decode cX3_init 69 = .ok (.newarray .int, 2) := by decide +kernel
theorem dX3_init_71 : decode cX3_init 71 = .ok (.putfield 41, 3) := by decide +kernel
theorem dX3_init_74 : decode cX3_init 74 = .ok (.aload_n 0, 1) := by decide +kernel
theorem dX3_init_75 : decode cX3_init 75 = .ok (.bipush 9, 2) := by decide +kernel
theorem dX3_init_77 : decode cX3_init 77 = .ok (.newarray .int, 2) := by decide +kernel
theorem dX3_init_79 : decode cX3_init 79 = .ok (.putfield 44, 3) := by decide +kernel
theorem dX3_init_82 : decode cX3_init 82 = .ok (.return_, 1) := by decide +kernel
set_option maxRecDepth 20000 in
theorem ggX3_plan_X2_copyFrom : GoodIn wsX3_plan wsX2_copyFrom := goodIn_r _ [12, 13, 14, 15, 16, 17, 18, 19, 20, 21, 22, 23, 24, 25, 26, 27, 28, 29, 30, 133, 134, 135, 136, 137, 138, 139, 140, 141, 142, 143, 144, 145, 146] (by decide +kernel) (by decide +kernel)
set_option maxRecDepth 20000 in
theorem gX3_plan_X2_copyFrom : GoodIn wsX3_plan (wsV RX3 47 RX2 yX2_copyFrom wsX2_copyFrom) := goodIn_app (goodIn_of _ (by decide +kernel)) ggX3_plan_X2_copyFrom
set_option maxRecDepth 20000 in
theorem ggX3_plan_X3_sortKinds : GoodIn wsX3_plan wsX3_sortKinds := goodIn_r _ [35, 5, 36, 1, 2, 37, 38, 39, 40, 34, 41, 42, 43, 44, 11, 45, 26, 22, 123, 124, 125, 126, 127, 128, 129, 130, 131, 132, 133, 134, 135, 136, 137, 138, 139, 140, 141, 142, 143, 144, 145, 146] (by decide +kernel) (by decide +kernel)
set_option maxRecDepth 20000 in
theorem gX3_plan_X3_sortKinds : GoodIn wsX3_plan (wsV RX3 54 RX3 yX3_sortKinds wsX3_sortKinds) := goodIn_app (goodIn_of _ (by decide +kernel)) ggX3_plan_X3_sortKinds
set_option maxRecDepth 20000 in
theorem ggX3_plan_X3_measureBlocks : GoodIn wsX3_plan wsX3_measureBlocks := goodIn_r _ [49, 1, 2, 4, 50, 51, 52, 53, 54, 55, 56, 57, 58, 59, 60, 61, 6, 62, 63, 64, 11, 65, 23, 66, 67, 68, 69, 13, 14, 70, 71, 72, 73, 24, 74, 75, 76, 77, 78, 19, 79, 80, 81, 82, 83, 25, 84, 85, 86, 87, 20, 88, 89, 90, 34, 91, 37, 92, 123, 124, 125, 126, 127, 128, 129, 130, 131, 132, 133, 134, 135, 136, 137, 138, 139, 140, 141, 142, 143, 144, 145, 146] (by decide +kernel) (by decide +kernel)
set_option maxRecDepth 20000 in
theorem gX3_plan_X3_measureBlocks : GoodIn wsX3_plan (wsV RX3 57 RX3 yX3_measureBlocks wsX3_measureBlocks) := goodIn_app (goodIn_of _ (by decide +kernel)) ggX3_plan_X3_measureBlocks
set_option maxRecDepth 20000 in
theorem ggX3_plan_X3_makeRoom : GoodIn wsX3_plan wsX3_makeRoom := goodIn_r _ [96, 7, 97, 59, 60, 56, 61, 54, 55, 57, 98, 123, 124, 125, 126, 127, 128, 129, 130, 131, 132] (by decide +kernel) (by decide +kernel)
set_option maxRecDepth 20000 in
theorem gX3_plan_X3_makeRoom : GoodIn wsX3_plan (wsV RX3 63 RX3 yX3_makeRoom wsX3_makeRoom) := goodIn_app (goodIn_of _ (by decide +kernel)) ggX3_plan_X3_makeRoom
set_option maxRecDepth 20000 in
theorem ggX3_plan_X3_cell : GoodIn wsX3_plan wsX3_cell := goodIn_r _ [102, 3, 5, 6, 123, 124, 125, 126, 127, 128, 129, 130, 131, 132] (by decide +kernel) (by decide +kernel)
set_option maxRecDepth 20000 in
theorem gX3_plan_X3_cell : GoodIn wsX3_plan (wsV RX3 67 RX3 yX3_cell wsX3_cell) := goodIn_app (goodIn_of _ (by decide +kernel)) ggX3_plan_X3_cell
set_option maxRecDepth 20000 in
theorem ggX3_plan_X3_fill : GoodIn wsX3_plan wsX3_fill := goodIn_r _ [106, 5, 6, 7, 1, 2, 99, 100, 101, 34, 102, 3, 107, 108, 109, 110, 50, 111, 112, 113, 114, 51, 115, 116, 117, 118, 53, 52, 119, 120, 121, 122, 36, 123, 124, 125, 126, 127, 128, 129, 130, 131, 132, 133, 134, 135, 136, 137, 138, 139, 140, 141, 142, 143, 144, 145, 146] (by decide +kernel) (by decide +kernel)
set_option maxRecDepth 20000 in
theorem gX3_plan_X3_fill : GoodIn wsX3_plan (wsV RX3 71 RX3 yX3_fill wsX3_fill) := goodIn_app (goodIn_of _ (by decide +kernel)) ggX3_plan_X3_fill
theorem dX3_plan_0 : decode cX3_plan 0 = .ok (.aload_n 0, 1) := by decide +kernel
theorem dX3_plan_1 : decode cX3_plan 1 = .ok (.getfield 12, 3) := by decide +kernel
theorem dX3_plan_4 : decode cX3_plan 4 = .ok (.aload_n 1, 1) := by decide +kernel
theorem dX3_plan_5 : decode cX3_plan 5 = .ok (.invokevirtual 47, 3) := by decide +kernel
theorem dX3_plan_8 : decode cX3_plan 8 = .ok (.aload_n 0, 1) := by decide +kernel
theorem dX3_plan_9 : decode cX3_plan 9 = .ok (.iconst 1, 1) := by decide +kernel
theorem dX3_plan_10 : decode cX3_plan 10 = .ok (.aload_n 0, 1) := by decide +kernel
theorem dX3_plan_11 : decode cX3_plan 11 = .ok (.getfield 12, 3) := by decide +kernel
theorem dX3_plan_14 : decode cX3_plan 14 = .ok (.getfield 51, 3) := by decide +kernel
theorem dX3_plan_17 : decode cX3_plan 17 = .ok (.ishl, 1) := by decide +kernel
theorem dX3_plan_18 : decode cX3_plan 18 = .ok (.putfield 22, 3) := by decide +kernel
theorem dX3_plan_21 : decode cX3_plan 21 = .ok (.aload_n 0, 1) := by decide +kernel
theorem dX3_plan_22 : decode cX3_plan 22 = .ok (.invokevirtual 54, 3) := by decide +kernel
theorem dX3_plan_25 : decode cX3_plan 25 = .ok (.aload_n 0, 1) := by decide +kernel
theorem dX3_plan_26 : decode cX3_plan 26 = .ok (.invokevirtual 57, 3) := by decide +kernel
theorem dX3_plan_29 : decode cX3_plan 29 = .ok (.aload_n 0, 1) := by decide +kernel
theorem dX3_plan_30 : decode cX3_plan 30 = .ok (.aload_n 0, 1) := by decide +kernel
theorem dX3_plan_31 : decode cX3_plan 31 = .ok (.getfield 12, 3) := by decide +kernel
theorem dX3_plan_34 : decode cX3_plan 34 = .ok (.getfield 60, 3) := by decide +kernel
theorem dX3_plan_37 : decode cX3_plan 37 = .ok (.iconst 1, 1) := by decide +kernel
theorem dX3_plan_38 : decode cX3_plan 38 = .ok (.iadd, 1) := by decide +kernel
theorem dX3_plan_39 : decode cX3_plan 39 = .ok (.aload_n 0, 1) := by decide +kernel
theorem dX3_plan_40 : decode cX3_plan 40 = .ok (.getfield 22, 3) := by decide +kernel
theorem dX3_plan_43 : decode cX3_plan 43 = .ok (.imul, 1) := by decide +kernel
theorem dX3_plan_44 : decode cX3_plan 44 = .ok (.aload_n 0, 1) := by decide +kernel
theorem dX3_plan_45 : decode cX3_plan 45 = .ok (.getfield 26, 3) := by decide +kernel
theorem dX3_plan_48 : decode cX3_plan 48 = .ok (.imul, 1) := by decide +kernel
theorem dX3_plan_49 : decode cX3_plan 49 = .ok (.aload_n 0, 1) := by decide +kernel
theorem dX3_plan_50 : decode cX3_plan 50 = .ok (.getfield 29, 3) := by decide +kernel
theorem dX3_plan_53 : decode cX3_plan 53 = .ok (.imul, 1) := by decide +kernel
theorem dX3_plan_54 : decode cX3_plan 54 = .ok (.invokevirtual 63, 3) := by decide +kernel
theorem dX3_plan_57 : decode cX3_plan 57 = .ok (.aload_n 0, 1) := by decide +kernel
theorem dX3_plan_58 : decode cX3_plan 58 = .ok (.aload_n 0, 1) := by decide +kernel
theorem dX3_plan_59 : decode cX3_plan 59 = .ok (.getfield 12, 3) := by decide +kernel
theorem dX3_plan_62 : decode cX3_plan 62 = .ok (.getfield 60, 3) := by decide +kernel
theorem dX3_plan_65 : decode cX3_plan 65 = .ok (.iconst 0, 1) := by decide +kernel
theorem dX3_plan_66 : decode cX3_plan 66 = .ok (.iconst 0, 1) := by decide +kernel
theorem dX3_plan_67 : decode cX3_plan 67 = .ok (.invokevirtual 67, 3) := by decide +kernel
theorem dX3_plan_70 : decode cX3_plan 70 = .ok (.istore_n 2, 1) := by decide +kernel
theorem dX3_plan_71 : decode cX3_plan 71 = .ok (.iload_n 2, 1) := by decide +kernel
theorem dX3_plan_72 : decode cX3_plan 72 = .ok (.istore_n 3, 1) := by decide +kernel
theorem dX3_plan_73 : decode cX3_plan 73 = .ok (.iload_n 3, 1) := by decide +kernel
theorem dX3_plan_74 : decode cX3_plan 74 = .ok (.iload_n 2, 1) := by decide +kernel
theorem dX3_plan_75 : decode cX3_plan 75 = .ok (.aload_n 0, 1) := by decide +kernel
theorem dX3_plan_76 : decode cX3_plan 76 = .ok (.getfield 22, 3) := by decide +kernel
theorem dX3_plan_79 : decode cX3_plan 79 = .ok (.aload_n 0, 1) := by decide +kernel
theorem dX3_plan_80 : decode cX3_plan 80 = .ok (.getfield 26, 3) := by decide +kernel
theorem dX3_plan_83 : decode cX3_plan 83 = .ok (.imul, 1) := by decide +kernel
theorem dX3_plan_84 : decode cX3_plan 84 = .ok (.aload_n 0, 1) := by decide +kernel
theorem dX3_plan_85 : decode cX3_plan 85 = .ok (.getfield 29, 3) := by decide +kernel
theorem dX3_plan_88 : decode cX3_plan 88 = .ok (.imul, 1) := by decide +kernel
theorem dX3_plan_89 : decode cX3_plan 89 = .ok (.iadd, 1) := by decide +kernel
theorem dX3_plan_90 : decode cX3_plan 90 = .ok (.if_icmp .ge 16, 3) := by decide +kernel
theorem dX3_plan_93 : decode cX3_plan 93 = .ok (.aload_n 0, 1) := by decide +kernel
theorem dX3_plan_94 : decode cX3_plan 94 = .ok (.getfield 18, 3) := by decide +kernel
theorem dX3_plan_97 : decode cX3_plan 97 = .ok (.iload_n 3, 1) := by decide +kernel
theorem dX3_plan_98 : decode cX3_plan 98 = .ok (.iconst 0, 1) := by decide +kernel
theorem dX3_plan_99 : decode cX3_plan 99 = .ok (.iastore, 1) := by decide +kernel
theorem dX3_plan_100 : decode cX3_plan 100 = .ok (.iinc 3 1, 3) := by decide +kernel
theorem dX3_plan_103 : decode cX3_plan 103 = .ok (.goto (-30), 3) := by decide +kernel
theorem dX3_plan_106 : decode cX3_plan 106 = .ok (.aload_n 0, 1) := by decide +kernel
theorem dX3_plan_107 : decode cX3_plan 107 = .ok (.getfield 12, 3) := by decide +kernel
theorem dX3_plan_110 : decode cX3_plan 110 = .ok (.getfield 60, 3) := by decide +kernel
theorem dX3_plan_113 : decode cX3_plan 113 = .ok (.iconst 1, 1) := by decide +kernel
theorem dX3_plan_114 : decode cX3_plan 114 = .ok (.isub, 1) := by decide +kernel
theorem dX3_plan_115 : decode cX3_plan 115 = .ok (.istore_n 3, 1) := by decide +kernel
theorem dX3_plan_116 : decode cX3_plan 116 = .ok (.iload_n 3, 1) := by decide +kernel
theorem dX3_plan_117 : decode cX3_plan 117 = .ok (.ifCond .lt 34, 3) := by decide +kernel
theorem dX3_plan_120 : decode cX3_plan 120 = .ok (.iconst 0, 1) := by decide +kernel
theorem dX3_plan_121 : decode cX3_plan 121 = .ok (.istore 4, 2) := by decide +kernel
theorem dX3_plan_123 : decode cX3_plan 123 = .ok (.iload 4, 2) := by decide +kernel
theorem dX3_plan_125 : decode cX3_plan 125 = .ok (.aload_n 0, 1) := by decide +kernel
theorem dX3_plan_126 : decode cX3_plan 126 = .ok (.getfield 22, 3) := by decide +kernel
theorem dX3_plan_129 : decode cX3_plan 129 = .ok (.if_icmp .ge 16, 3) := by decide +kernel
theorem dX3_plan_132 : decode cX3_plan 132 = .ok (.aload_n 0, 1) := by decide +kernel
theorem dX3_plan_133 : decode cX3_plan 133 = .ok (.iload_n 3, 1) := by decide +kernel
theorem dX3_plan_134 : decode cX3_plan 134 = .ok (.iload 4, 2) := by decide +kernel
theorem dX3_plan_136 : decode cX3_plan 136 = .ok (.invokevirtual 71, 3) := by decide +kernel
theorem dX3_plan_139 : decode cX3_plan 139 = .ok (.iinc 4 1, 3) := by decide +kernel
theorem dX3_plan_142 : decode cX3_plan 142 = .ok (.goto (-19), 3) := by decide +kernel
theorem dX3_plan_145 : decode cX3_plan 145 = .ok (.iinc 3 (-1), 3) := by decide +kernel
theorem dX3_plan_148 : decode cX3_plan 148 = .ok (.goto (-32), 3) := by decide +kernel
theorem dX3_plan_151 : decode cX3_plan 151 = .ok (.return_, 1) := by decide +kernel
set_option maxRecDepth 20000 in
theorem ggX3_sortKinds_X3_foesOf : GoodIn wsX3_sortKinds wsX3_foesOf := goodIn_r _ [10, 3, 4, 11, 12, 13, 14, 15, 16, 17, 18, 19, 20, 21, 22, 23, 24, 25, 26, 27, 28, 29, 30, 31, 32, 33, 34, 35, 36, 37, 38, 39, 40, 41] (by decide +kernel) (by decide +kernel)
set_option maxRecDepth 20000 in
theorem gX3_sortKinds_X3_foesOf : GoodIn wsX3_sortKinds (wsV RX3 75 RX3 yX3_foesOf wsX3_foesOf) := goodIn_app (goodIn_of _ (by decide +kernel)) ggX3_sortKinds_X3_foesOf
theorem dX3_sortKinds_0 : decode cX3_sortKinds 0 = .ok (.aload_n 0, 1) := by decide +kernel
theorem dX3_sortKinds_1 : decode cX3_sortKinds 1 = .ok (.iconst 1, 1) := by decide +kernel
theorem dX3_sortKinds_2 : decode cX3_sortKinds 2 = .ok (.putfield 26, 3) := by decide +kernel
theorem dX3_sortKinds_5 : decode cX3_sortKinds 5 = .ok (.aload_n 0, 1) := by decide +kernel
theorem dX3_sortKinds_6 : decode cX3_sortKinds 6 = .ok (.getfield 44, 3) := by decide +kernel
theorem dX3_sortKinds_9 : decode cX3_sortKinds 9 = .ok (.iconst 0, 1) := by decide +kernel
theorem dX3_sortKinds_10 : decode cX3_sortKinds 10 = .ok (.iconst 0, 1) := by decide +kernel
theorem dX3_sortKinds_11 : decode cX3_sortKinds 11 = .ok (.iastore, 1) := by decide +kernel
theorem dX3_sortKinds_12 : decode cX3_sortKinds 12 = .ok (.iconst 0, 1) := by decide +kernel
theorem dX3_sortKinds_13 : decode cX3_sortKinds 13 = .ok (.istore_n 1, 1) := by decide +kernel
theorem dX3_sortKinds_14 : decode cX3_sortKinds 14 = .ok (.iload_n 1, 1) := by decide +kernel
theorem dX3_sortKinds_15 : decode cX3_sortKinds 15 = .ok (.aload_n 0, 1) := by decide +kernel
theorem dX3_sortKinds_16 : decode cX3_sortKinds 16 = .ok (.getfield 12, 3) := by decide +kernel
theorem dX3_sortKinds_19 : decode cX3_sortKinds 19 = .ok (.getfield 51, 3) := by decide +kernel
theorem dX3_sortKinds_22 : decode cX3_sortKinds 22 = .ok (.if_icmp .ge 73, 3) := by decide +kernel
theorem dX3_sortKinds_25 : decode cX3_sortKinds 25 = .ok (.aload_n 0, 1) := by decide +kernel
theorem dX3_sortKinds_26 : decode cX3_sortKinds 26 = .ok (.iload_n 1, 1) := by decide +kernel
theorem dX3_sortKinds_27 : decode cX3_sortKinds 27 = .ok (.invokevirtual 75, 3) := by decide +kernel
theorem dX3_sortKinds_30 : decode cX3_sortKinds 30 = .ok (.istore_n 2, 1) := by decide +kernel
theorem dX3_sortKinds_31 : decode cX3_sortKinds 31 = .ok (.iconst 0, 1) := by decide +kernel
theorem dX3_sortKinds_32 : decode cX3_sortKinds 32 = .ok (.istore_n 3, 1) := by decide +kernel
theorem dX3_sortKinds_33 : decode cX3_sortKinds 33 = .ok (.iload_n 3, 1) := by decide +kernel
theorem dX3_sortKinds_34 : decode cX3_sortKinds 34 = .ok (.aload_n 0, 1) := by decide +kernel
theorem dX3_sortKinds_35 : decode cX3_sortKinds 35 = .ok (.getfield 26, 3) := by decide +kernel
theorem dX3_sortKinds_38 : decode cX3_sortKinds 38 = .ok (.if_icmp .ge 19, 3) := by decide +kernel
theorem dX3_sortKinds_41 : decode cX3_sortKinds 41 = .ok (.aload_n 0, 1) := by decide +kernel
theorem dX3_sortKinds_42 : decode cX3_sortKinds 42 = .ok (.getfield 44, 3) := by decide +kernel
theorem dX3_sortKinds_45 : decode cX3_sortKinds 45 = .ok (.iload_n 3, 1) := by decide +kernel
theorem dX3_sortKinds_46 : decode cX3_sortKinds 46 = .ok (.iaload, 1) := by decide +kernel
theorem dX3_sortKinds_47 : decode cX3_sortKinds 47 = .ok (.iload_n 2, 1) := by decide +kernel
theorem dX3_sortKinds_48 : decode cX3_sortKinds 48 = .ok (.if_icmp .eq 9, 3) := by decide +kernel
theorem dX3_sortKinds_51 : decode cX3_sortKinds 51 = .ok (.iinc 3 1, 3) := by decide +kernel
theorem dX3_sortKinds_54 : decode cX3_sortKinds 54 = .ok (.goto (-21), 3) := by decide +kernel
theorem dX3_sortKinds_57 : decode cX3_sortKinds 57 = .ok (.iload_n 3, 1) := by decide +kernel
theorem dX3_sortKinds_58 : decode cX3_sortKinds 58 = .ok (.aload_n 0, 1) := by decide +kernel
theorem dX3_sortKinds_59 : decode cX3_sortKinds 59 = .ok (.getfield 26, 3) := by decide +kernel
theorem dX3_sortKinds_62 : decode cX3_sortKinds 62 = .ok (.if_icmp .ne 20, 3) := by decide +kernel
theorem dX3_sortKinds_65 : decode cX3_sortKinds 65 = .ok (.aload_n 0, 1) := by decide +kernel
theorem dX3_sortKinds_66 : decode cX3_sortKinds 66 = .ok (.getfield 44, 3) := by decide +kernel
theorem dX3_sortKinds_69 : decode cX3_sortKinds 69 = .ok (.iload_n 3, 1) := by decide +kernel
theorem dX3_sortKinds_70 : decode cX3_sortKinds 70 = .ok (.iload_n 2, 1) := by decide +kernel
theorem dX3_sortKinds_71 : decode cX3_sortKinds 71 = .ok (.iastore, 1) := by decide +kernel
theorem dX3_sortKinds_72 : decode cX3_sortKinds 72 = .ok (.aload_n 0, 1) := by decide +kernel
theorem dX3_sortKinds_73 : decode cX3_sortKinds 73 = .ok (.dup, 1) := by decide +kernel
theorem dX3_sortKinds_74 : decode cX3_sortKinds 74 = .ok (.getfield 26, 3) := by decide +kernel
theorem dX3_sortKinds_77 : decode cX3_sortKinds 77 = .ok (.iconst 1, 1) := by decide +kernel
theorem dX3_sortKinds_78 : decode cX3_sortKinds 78 = .ok (.iadd, 1) := by decide +kernel
theorem dX3_sortKinds_79 : decode cX3_sortKinds 79 = .ok (.putfield 26, 3) := by decide +kernel
theorem dX3_sortKinds_82 : decode cX3_sortKinds 82 = .ok (.aload_n 0, 1) := by decide +kernel
theorem dX3_sortKinds_83 : decode cX3_sortKinds 83 = .ok (.getfield 41, 3) := by decide +kernel
theorem dX3_sortKinds_86 : decode cX3_sortKinds 86 = .ok (.iload_n 1, 1) := by decide +kernel
theorem dX3_sortKinds_87 : decode cX3_sortKinds 87 = .ok (.iload_n 3, 1) := by decide +kernel
theorem dX3_sortKinds_88 : decode cX3_sortKinds 88 = .ok (.iastore, 1) := by decide +kernel
theorem dX3_sortKinds_89 : decode cX3_sortKinds 89 = .ok (.iinc 1 1, 3) := by decide +kernel
theorem dX3_sortKinds_92 : decode cX3_sortKinds 92 = .ok (.goto (-78), 3) := by decide +kernel
theorem dX3_sortKinds_95 : decode cX3_sortKinds 95 = .ok (.return_, 1) := by decide +kernel
set_option maxRecDepth 20000 in
theorem ggX3_foesOf_X2_clashesWith : GoodIn wsX3_foesOf wsX2_clashesWith := goodIn_r _ [7, 8, 9, 20, 21, 22, 23, 24, 25, 26, 27, 28, 29, 30, 31, 32, 33] (by decide +kernel) (by decide +kernel)
set_option maxRecDepth 20000 in
theorem gX3_foesOf_X2_clashesWith : GoodIn wsX3_foesOf (wsV RX3 79 RX2 yX2_clashesWith wsX2_clashesWith) := goodIn_app (goodIn_of _ (by decide +kernel)) ggX3_foesOf_X2_clashesWith
theorem dX3_foesOf_0 : decode cX3_foesOf 0 = .ok (.iconst 0, 1) := by decide +kernel
theorem dX3_foesOf_1 : decode cX3_foesOf 1 = .ok (.istore_n 2, 1) := by decide +kernel
theorem dX3_foesOf_2 : decode cX3_foesOf 2 = .ok (.iconst 0, 1) := by decide +kernel
theorem dX3_foesOf_3 : decode cX3_foesOf 3 = .ok (.istore_n 3, 1) := by decide +kernel
theorem dX3_foesOf_4 : decode cX3_foesOf 4 = .ok (.iload_n 3, 1) := by decide +kernel
theorem dX3_foesOf_5 : decode cX3_foesOf 5 = .ok (.aload_n 0, 1) := by decide +kernel
theorem dX3_foesOf_6 : decode cX3_foesOf 6 = .ok (.getfield 12, 3) := by decide +kernel
theorem dX3_foesOf_9 : decode cX3_foesOf 9 = .ok (.getfield 51, 3) := by decide +kernel
theorem dX3_foesOf_12 : decode cX3_foesOf 12 = .ok (.if_icmp .ge 32, 3) := by decide +kernel
theorem dX3_foesOf_15 : decode cX3_foesOf 15 = .ok (.iload_n 3, 1) := by decide +kernel
theorem dX3_foesOf_16 : decode cX3_foesOf 16 = .ok (.iload_n 1, 1) := by decide +kernel
theorem dX3_foesOf_17 : decode cX3_foesOf 17 = .ok (.if_icmp .eq 21, 3) := by decide +kernel
theorem dX3_foesOf_20 : decode cX3_foesOf 20 = .ok (.aload_n 0, 1) := by decide +kernel
theorem dX3_foesOf_21 : decode cX3_foesOf 21 = .ok (.getfield 12, 3) := by decide +kernel
theorem dX3_foesOf_24 : decode cX3_foesOf 24 = .ok (.iload_n 1, 1) := by decide +kernel
theorem dX3_foesOf_25 : decode cX3_foesOf 25 = .ok (.iload_n 3, 1) := by decide +kernel
theorem dX3_foesOf_26 : decode cX3_foesOf 26 = .ok (.invokevirtual 79, 3) := by decide +kernel
theorem dX3_foesOf_29 : decode cX3_foesOf 29 = .ok (.ifCond .eq 9, 3) := by decide +kernel
theorem dX3_foesOf_32 : decode cX3_foesOf 32 = .ok (.iload_n 2, 1) := by decide +kernel
theorem dX3_foesOf_33 : decode cX3_foesOf 33 = .ok (.iconst 1, 1) := by decide +kernel
theorem dX3_foesOf_34 : decode cX3_foesOf 34 = .ok (.iload_n 3, 1) := by decide +kernel
theorem dX3_foesOf_35 : decode cX3_foesOf 35 = .ok (.ishl, 1) := by decide +kernel
theorem dX3_foesOf_36 : decode cX3_foesOf 36 = .ok (.ior, 1) := by decide +kernel
theorem dX3_foesOf_37 : decode cX3_foesOf 37 = .ok (.istore_n 2, 1) := by decide +kernel
theorem dX3_foesOf_38 : decode cX3_foesOf 38 = .ok (.iinc 3 1, 3) := by decide +kernel
theorem dX3_foesOf_41 : decode cX3_foesOf 41 = .ok (.goto (-37), 3) := by decide +kernel
theorem dX3_foesOf_44 : decode cX3_foesOf 44 = .ok (.iload_n 2, 1) := by decide +kernel
theorem dX3_foesOf_45 : decode cX3_foesOf 45 = .ok (.ireturn, 1) := by decide +kernel
set_option maxRecDepth 20000 in
theorem ggX3_measureBlocks_X2_isInOneRow : GoodIn wsX3_measureBlocks wsX2_isInOneRow := goodIn_r _ [21, 22, 23, 24, 25, 20, 26, 27, 28, 68, 69, 70, 71, 72, 73, 74, 75, 76, 77, 78, 79, 80, 81] (by decide +kernel) (by decide +kernel)
set_option maxRecDepth 20000 in
theorem gX3_measureBlocks_X2_isInOneRow : GoodIn wsX3_measureBlocks (wsV RX3 83 RX2 yX2_isInOneRow wsX2_isInOneRow) := goodIn_app (goodIn_of _ (by decide +kernel)) ggX3_measureBlocks_X2_isInOneRow
set_option maxRecDepth 20000 in
theorem ggX3_measureBlocks_X2_affords : GoodIn wsX3_measureBlocks wsX2_affords := goodIn_r _ [32, 33, 34, 35, 36, 20, 37, 22, 27, 38, 14, 10, 15, 39, 68, 69, 70, 71, 72, 73, 74, 75, 76, 77, 78, 79, 80, 81] (by decide +kernel) (by decide +kernel)
set_option maxRecDepth 20000 in
theorem gX3_measureBlocks_X2_affords : GoodIn wsX3_measureBlocks (wsV RX3 86 RX2 yX2_affords wsX2_affords) := goodIn_app (goodIn_of _ (by decide +kernel)) ggX3_measureBlocks_X2_affords
set_option maxRecDepth 20000 in
theorem ggX3_measureBlocks_X2_blockRent : GoodIn wsX3_measureBlocks wsX2_blockRent := goodIn_r _ [37, 22, 27, 38, 14, 10, 15, 39, 68, 69, 70, 71, 72, 73, 74, 75, 76, 77, 78, 79, 80, 81] (by decide +kernel) (by decide +kernel)
set_option maxRecDepth 20000 in
theorem gX3_measureBlocks_X2_blockRent : GoodIn wsX3_measureBlocks (wsV RX3 89 RX2 yX2_blockRent wsX2_blockRent) := goodIn_app (goodIn_of _ (by decide +kernel)) ggX3_measureBlocks_X2_blockRent
set_option maxRecDepth 20000 in
theorem ggX3_measureBlocks_X2_coversFor : GoodIn wsX3_measureBlocks wsX2_coversFor := goodIn_r _ [44, 45, 46, 47, 48, 20, 49, 22, 27, 38, 14, 10, 15, 50, 68, 69, 70, 71, 72, 73, 74, 75, 76, 77, 78, 79, 80, 81] (by decide +kernel) (by decide +kernel)
set_option maxRecDepth 20000 in
theorem gX3_measureBlocks_X2_coversFor : GoodIn wsX3_measureBlocks (wsV RX3 93 RX2 yX2_coversFor wsX2_coversFor) := goodIn_app (goodIn_of _ (by decide +kernel)) ggX3_measureBlocks_X2_coversFor
set_option maxRecDepth 20000 in
theorem ggX3_measureBlocks_X3_kindBeside : GoodIn wsX3_measureBlocks wsX3_kindBeside := goodIn_r _ [55, 1, 56, 57, 24, 25, 20, 26, 27, 28, 58, 59, 60, 61, 62, 63, 64, 65, 66, 67, 68, 69, 70, 71, 72, 73, 74, 75, 76, 77, 78, 79, 80, 81] (by decide +kernel) (by decide +kernel)
set_option maxRecDepth 20000 in
theorem gX3_measureBlocks_X3_kindBeside : GoodIn wsX3_measureBlocks (wsV RX3 99 RX3 yX3_kindBeside wsX3_kindBeside) := goodIn_app (goodIn_of _ (by decide +kernel)) ggX3_measureBlocks_X3_kindBeside
theorem dX3_measureBlocks_0 : decode cX3_measureBlocks 0 = .ok (.iconst 0, 1) := by decide +kernel
theorem dX3_measureBlocks_1 : decode cX3_measureBlocks 1 = .ok (.istore_n 1, 1) := by decide +kernel
theorem dX3_measureBlocks_2 : decode cX3_measureBlocks 2 = .ok (.iconst 0, 1) := by decide +kernel
theorem dX3_measureBlocks_3 : decode cX3_measureBlocks 3 = .ok (.istore_n 2, 1) := by decide +kernel
theorem dX3_measureBlocks_4 : decode cX3_measureBlocks 4 = .ok (.iload_n 2, 1) := by decide +kernel
theorem dX3_measureBlocks_5 : decode cX3_measureBlocks 5 = .ok (.aload_n 0, 1) := by decide +kernel
theorem dX3_measureBlocks_6 : decode cX3_measureBlocks 6 = .ok (.getfield 12, 3) := by decide +kernel
theorem dX3_measureBlocks_9 : decode cX3_measureBlocks 9 = .ok (.getfield 51, 3) := by decide +kernel
theorem dX3_measureBlocks_12 : decode cX3_measureBlocks 12 = .ok (.if_icmp .ge 179, 3) := by decide +kernel
theorem dX3_measureBlocks_15 : decode cX3_measureBlocks 15 = .ok (.iconst 0, 1) := by decide +kernel
theorem dX3_measureBlocks_16 : decode cX3_measureBlocks 16 = .ok (.istore_n 3, 1) := by decide +kernel
theorem dX3_measureBlocks_17 : decode cX3_measureBlocks 17 = .ok (.iconst 0, 1) := by decide +kernel
theorem dX3_measureBlocks_18 : decode cX3_measureBlocks 18 = .ok (.istore 4, 2) := by decide +kernel
theorem dX3_measureBlocks_20 : decode cX3_measureBlocks 20 = .ok (.iload 4, 2) := by decide +kernel
theorem dX3_measureBlocks_22 : decode cX3_measureBlocks 22 = .ok (.aload_n 0, 1) := by decide +kernel
theorem dX3_measureBlocks_23 : decode cX3_measureBlocks 23 = .ok (.getfield 12, 3) := by decide +kernel
theorem dX3_measureBlocks_26 : decode cX3_measureBlocks 26 = .ok (.getfield 60, 3) := by decide +kernel
theorem dX3_measureBlocks_29 : decode cX3_measureBlocks 29 = .ok (.if_icmp .ge 152, 3) := by decide +kernel
theorem dX3_measureBlocks_32 : decode cX3_measureBlocks 32 = .ok (.iload_n 2, 1) := by decide +kernel
theorem dX3_measureBlocks_33 : decode cX3_measureBlocks 33 = .ok (.bipush 24, 2) := by decide +kernel
theorem dX3_measureBlocks_35 : decode cX3_measureBlocks 35 = .ok (.imul, 1) := by decide +kernel
theorem dX3_measureBlocks_36 : decode cX3_measureBlocks 36 = .ok (.iload 4, 2) := by decide +kernel
theorem dX3_measureBlocks_38 : decode cX3_measureBlocks 38 = .ok (.iadd, 1) := by decide +kernel
theorem dX3_measureBlocks_39 : decode cX3_measureBlocks 39 = .ok (.istore 5, 2) := by decide +kernel
theorem dX3_measureBlocks_41 : decode cX3_measureBlocks 41 = .ok (.aload_n 0, 1) := by decide +kernel
theorem dX3_measureBlocks_42 : decode cX3_measureBlocks 42 = .ok (.getfield 12, 3) := by decide +kernel
theorem dX3_measureBlocks_45 : decode cX3_measureBlocks 45 = .ok (.iload_n 2, 1) := by decide +kernel
theorem dX3_measureBlocks_46 : decode cX3_measureBlocks 46 = .ok (.iload 4, 2) := by decide +kernel
theorem dX3_measureBlocks_48 : decode cX3_measureBlocks 48 = .ok (.invokevirtual 83, 3) := by decide +kernel
theorem dX3_measureBlocks_51 : decode cX3_measureBlocks 51 = .ok (.ifCond .eq 20, 3) := by decide +kernel
theorem dX3_measureBlocks_54 : decode cX3_measureBlocks 54 = .ok (.aload_n 0, 1) := by decide +kernel
theorem dX3_measureBlocks_55 : decode cX3_measureBlocks 55 = .ok (.getfield 12, 3) := by decide +kernel
theorem dX3_measureBlocks_58 : decode cX3_measureBlocks 58 = .ok (.iload_n 2, 1) := by decide +kernel
theorem dX3_measureBlocks_59 : decode cX3_measureBlocks 59 = .ok (.iload 4, 2) := by decide +kernel
theorem dX3_measureBlocks_61 : decode cX3_measureBlocks 61 = .ok (.invokevirtual 86, 3) := by decide +kernel
theorem dX3_measureBlocks_64 : decode cX3_measureBlocks 64 = .ok (.ifCond .eq 7, 3) := by decide +kernel
theorem dX3_measureBlocks_67 : decode cX3_measureBlocks 67 = .ok (.iconst 1, 1) := by decide +kernel
theorem dX3_measureBlocks_68 : decode cX3_measureBlocks 68 = .ok (.goto 4, 3) := by decide +kernel
theorem dX3_measureBlocks_71 : decode cX3_measureBlocks 71 = .ok (.iconst 0, 1) := by decide +kernel
theorem dX3_measureBlocks_72 : decode cX3_measureBlocks 72 = .ok (.istore 6, 2) := by decide +kernel
theorem dX3_measureBlocks_74 : decode cX3_measureBlocks 74 = .ok (.aload_n 0, 1) := by decide +kernel
theorem dX3_measureBlocks_75 : decode cX3_measureBlocks 75 = .ok (.getfield 32, 3) := by decide +kernel
theorem dX3_measureBlocks_78 : decode cX3_measureBlocks 78 = .ok (.iload 5, 2) := by decide +kernel
theorem dX3_measureBlocks_80 : decode cX3_measureBlocks 80 = .ok (.iload 6, 2) := by decide +kernel
theorem dX3_measureBlocks_82 : decode cX3_measureBlocks 82 = .ok (.ifCond .eq 21, 3) := by decide +kernel
theorem dX3_measureBlocks_85 : decode cX3_measureBlocks 85 = .ok (.aload_n 0, 1) := by decide +kernel
theorem dX3_measureBlocks_86 : decode cX3_measureBlocks 86 = .ok (.getfield 12, 3) := by decide +kernel
theorem dX3_measureBlocks_89 : decode cX3_measureBlocks 89 = .ok (.iload_n 2, 1) := by decide +kernel
theorem dX3_measureBlocks_90 : decode cX3_measureBlocks 90 = .ok (.iload 4, 2) := by decide +kernel
theorem dX3_measureBlocks_92 : decode cX3_measureBlocks 92 = .ok (.invokevirtual 89, 3) := by decide +kernel
theorem dX3_measureBlocks_95 : decode cX3_measureBlocks 95 = .ok (.bipush 16, 2) := by decide +kernel
theorem dX3_measureBlocks_97 : decode cX3_measureBlocks 97 = .ok (.imul, 1) := by decide +kernel
theorem dX3_measureBlocks_98 : decode cX3_measureBlocks 98 = .ok (.iconst 1, 1) := by decide +kernel
theorem dX3_measureBlocks_99 : decode cX3_measureBlocks 99 = .ok (.iadd, 1) := by decide +kernel
theorem dX3_measureBlocks_100 : decode cX3_measureBlocks 100 = .ok (.goto 4, 3) := by decide +kernel
theorem dX3_measureBlocks_103 : decode cX3_measureBlocks 103 = .ok (.iconst 0, 1) := by decide +kernel
theorem dX3_measureBlocks_104 : decode cX3_measureBlocks 104 = .ok (.iastore, 1) := by decide +kernel
theorem dX3_measureBlocks_105 : decode cX3_measureBlocks 105 = .ok (.aload_n 0, 1) := by decide +kernel
theorem dX3_measureBlocks_106 : decode cX3_measureBlocks 106 = .ok (.getfield 35, 3) := by decide +kernel
theorem dX3_measureBlocks_109 : decode cX3_measureBlocks 109 = .ok (.iload 5, 2) := by decide +kernel
theorem dX3_measureBlocks_111 : decode cX3_measureBlocks 111 = .ok (.aload_n 0, 1) := by decide +kernel
theorem dX3_measureBlocks_112 : decode cX3_measureBlocks 112 = .ok (.getfield 12, 3) := by decide +kernel
theorem dX3_measureBlocks_115 : decode cX3_measureBlocks 115 = .ok (.iload_n 2, 1) := by decide +kernel
theorem dX3_measureBlocks_116 : decode cX3_measureBlocks 116 = .ok (.iload 4, 2) := by decide +kernel
theorem dX3_measureBlocks_118 : decode cX3_measureBlocks 118 = .ok (.invokevirtual 93, 3) := by decide +kernel
theorem dX3_measureBlocks_121 : decode cX3_measureBlocks 121 = .ok (.iastore, 1) := by decide +kernel
theorem dX3_measureBlocks_122 : decode cX3_measureBlocks 122 = .ok (.iload 4, 2) := by decide +kernel
theorem dX3_measureBlocks_124 : decode cX3_measureBlocks 124 = .ok (.aload_n 0, 1) := by decide +kernel
theorem dX3_measureBlocks_125 : decode cX3_measureBlocks 125 = .ok (.getfield 12, 3) := by decide +kernel
theorem dX3_measureBlocks_128 : decode cX3_measureBlocks 128 = .ok (.getfield 96, 3) := by decide +kernel
theorem dX3_measureBlocks_131 : decode cX3_measureBlocks 131 = .ok (.iload_n 2, 1) := by decide +kernel
theorem dX3_measureBlocks_132 : decode cX3_measureBlocks 132 = .ok (.iaload, 1) := by decide +kernel
theorem dX3_measureBlocks_133 : decode cX3_measureBlocks 133 = .ok (.iadd, 1) := by decide +kernel
theorem dX3_measureBlocks_134 : decode cX3_measureBlocks 134 = .ok (.istore 7, 2) := by decide +kernel
theorem dX3_measureBlocks_136 : decode cX3_measureBlocks 136 = .ok (.aload_n 0, 1) := by decide +kernel
theorem dX3_measureBlocks_137 : decode cX3_measureBlocks 137 = .ok (.getfield 38, 3) := by decide +kernel
theorem dX3_measureBlocks_140 : decode cX3_measureBlocks 140 = .ok (.iload 5, 2) := by decide +kernel
theorem dX3_measureBlocks_142 : decode cX3_measureBlocks 142 = .ok (.aload_n 0, 1) := by decide +kernel
theorem dX3_measureBlocks_143 : decode cX3_measureBlocks 143 = .ok (.iload_n 2, 1) := by decide +kernel
theorem dX3_measureBlocks_144 : decode cX3_measureBlocks 144 = .ok (.iload 7, 2) := by decide +kernel
theorem dX3_measureBlocks_146 : decode cX3_measureBlocks 146 = .ok (.iconst 1, 1) := by decide +kernel
theorem dX3_measureBlocks_147 : decode cX3_measureBlocks 147 = .ok (.isub, 1) := by decide +kernel
theorem dX3_measureBlocks_148 : decode cX3_measureBlocks 148 = .ok (.iload 7, 2) := by decide +kernel
theorem dX3_measureBlocks_150 : decode cX3_measureBlocks 150 = .ok (.invokevirtual 99, 3) := by decide +kernel
theorem dX3_measureBlocks_153 : decode cX3_measureBlocks 153 = .ok (.iastore, 1) := by decide +kernel
theorem dX3_measureBlocks_154 : decode cX3_measureBlocks 154 = .ok (.iload_n 3, 1) := by decide +kernel
theorem dX3_measureBlocks_155 : decode cX3_measureBlocks 155 = .ok (.iload 6, 2) := by decide +kernel
theorem dX3_measureBlocks_157 : decode cX3_measureBlocks 157 = .ok (.ifCond .eq 13, 3) := by decide +kernel
theorem dX3_measureBlocks_160 : decode cX3_measureBlocks 160 = .ok (.aload_n 0, 1) := by decide +kernel
theorem dX3_measureBlocks_161 : decode cX3_measureBlocks 161 = .ok (.getfield 35, 3) := by decide +kernel
theorem dX3_measureBlocks_164 : decode cX3_measureBlocks 164 = .ok (.iload 5, 2) := by decide +kernel
theorem dX3_measureBlocks_166 : decode cX3_measureBlocks 166 = .ok (.iaload, 1) := by decide +kernel
theorem dX3_measureBlocks_167 : decode cX3_measureBlocks 167 = .ok (.goto 4, 3) := by decide +kernel
theorem dX3_measureBlocks_170 : decode cX3_measureBlocks 170 = .ok (.iconst 0, 1) := by decide +kernel
theorem dX3_measureBlocks_171 : decode cX3_measureBlocks 171 = .ok (.invokestatic 102, 3) := by decide +kernel
theorem dX3_measureBlocks_174 : decode cX3_measureBlocks 174 = .ok (.istore_n 3, 1) := by decide +kernel
theorem dX3_measureBlocks_175 : decode cX3_measureBlocks 175 = .ok (.iinc 4 1, 3) := by decide +kernel
theorem dX3_measureBlocks_178 : decode cX3_measureBlocks 178 = .ok (.goto (-158), 3) := by decide +kernel
theorem dX3_measureBlocks_181 : decode cX3_measureBlocks 181 = .ok (.iload_n 1, 1) := by decide +kernel
theorem dX3_measureBlocks_182 : decode cX3_measureBlocks 182 = .ok (.iload_n 3, 1) := by decide +kernel
theorem dX3_measureBlocks_183 : decode cX3_measureBlocks 183 = .ok (.iadd, 1) := by decide +kernel
theorem dX3_measureBlocks_184 : decode cX3_measureBlocks 184 = .ok (.istore_n 1, 1) := by decide +kernel
theorem dX3_measureBlocks_185 : decode cX3_measureBlocks 185 = .ok (.iinc 2 1, 3) := by decide +kernel
theorem dX3_measureBlocks_188 : decode cX3_measureBlocks 188 = .ok (.goto (-184), 3) := by decide +kernel
theorem dX3_measureBlocks_191 : decode cX3_measureBlocks 191 = .ok (.aload_n 0, 1) := by decide +kernel
theorem dX3_measureBlocks_192 : decode cX3_measureBlocks 192 = .ok (.aload_n 0, 1) := by decide +kernel
theorem dX3_measureBlocks_193 : decode cX3_measureBlocks 193 = .ok (.getfield 12, 3) := by decide +kernel
theorem dX3_measureBlocks_196 : decode cX3_measureBlocks 196 = .ok (.getfield 107, 3) := by decide +kernel
theorem dX3_measureBlocks_199 : decode cX3_measureBlocks 199 = .ok (.iconst 1, 1) := by decide +kernel
theorem dX3_measureBlocks_200 : decode cX3_measureBlocks 200 = .ok (.iadd, 1) := by decide +kernel
theorem dX3_measureBlocks_201 : decode cX3_measureBlocks 201 = .ok (.iload_n 1, 1) := by decide +kernel
theorem dX3_measureBlocks_202 : decode cX3_measureBlocks 202 = .ok (.invokestatic 110, 3) := by decide +kernel
theorem dX3_measureBlocks_205 : decode cX3_measureBlocks 205 = .ok (.iconst 1, 1) := by decide +kernel
theorem dX3_measureBlocks_206 : decode cX3_measureBlocks 206 = .ok (.iadd, 1) := by decide +kernel
theorem dX3_measureBlocks_207 : decode cX3_measureBlocks 207 = .ok (.putfield 29, 3) := by decide +kernel
theorem dX3_measureBlocks_210 : decode cX3_measureBlocks 210 = .ok (.return_, 1) := by decide +kernel
theorem dX3_makeRoom_0 : decode cX3_makeRoom 0 = .ok (.aload_n 0, 1) := by decide +kernel
theorem dX3_makeRoom_1 : decode cX3_makeRoom 1 = .ok (.getfield 18, 3) := by decide +kernel
theorem dX3_makeRoom_4 : decode cX3_makeRoom 4 = .ok (.arraylength, 1) := by decide +kernel
theorem dX3_makeRoom_5 : decode cX3_makeRoom 5 = .ok (.iload_n 1, 1) := by decide +kernel
theorem dX3_makeRoom_6 : decode cX3_makeRoom 6 = .ok (.if_icmp .ge 25, 3) := by decide +kernel
theorem dX3_makeRoom_9 : decode cX3_makeRoom 9 = .ok (.aload_n 0, 1) := by decide +kernel
theorem dX3_makeRoom_10 : decode cX3_makeRoom 10 = .ok (.iload_n 1, 1) := by decide +kernel
theorem dX3_makeRoom_11 : decode cX3_makeRoom 11 = .ok (.iconst 2, 1) := by decide +kernel
theorem dX3_makeRoom_12 : decode cX3_makeRoom 12 = .ok (.aload_n 0, 1) := by decide +kernel
theorem dX3_makeRoom_13 : decode cX3_makeRoom 13 = .ok (.getfield 18, 3) := by decide +kernel
theorem dX3_makeRoom_16 : decode cX3_makeRoom 16 = .ok (.arraylength, 1) := by decide +kernel
theorem dX3_makeRoom_17 : decode cX3_makeRoom 17 = .ok (.imul, 1) := by decide +kernel
theorem dX3_makeRoom_18 : decode cX3_makeRoom 18 = .ok (.ldc 113, 2) := by decide +kernel
theorem dX3_makeRoom_20 : decode cX3_makeRoom 20 = .ok (.invokestatic 110, 3) := by decide +kernel
theorem dX3_makeRoom_23 : decode cX3_makeRoom 23 = .ok (.invokestatic 102, 3) := by decide +kernel
theorem dX3_makeRoom_26 : decode cX3_makeRoom 26 = .ok (.newarray .int, 2) := by decide +kernel
theorem dX3_makeRoom_28 : decode cX3_makeRoom 28 = .ok (.putfield 18, 3) := by decide +kernel
theorem dX3_makeRoom_31 : decode cX3_makeRoom 31 = .ok (.return_, 1) := by decide +kernel
theorem dX3_cell_0 : decode cX3_cell 0 = .ok (.iload_n 1, 1) := by decide +kernel
theorem dX3_cell_1 : decode cX3_cell 1 = .ok (.aload_n 0, 1) := by decide +kernel
theorem dX3_cell_2 : decode cX3_cell 2 = .ok (.getfield 22, 3) := by decide +kernel
theorem dX3_cell_5 : decode cX3_cell 5 = .ok (.imul, 1) := by decide +kernel
theorem dX3_cell_6 : decode cX3_cell 6 = .ok (.iload_n 2, 1) := by decide +kernel
theorem dX3_cell_7 : decode cX3_cell 7 = .ok (.iadd, 1) := by decide +kernel
theorem dX3_cell_8 : decode cX3_cell 8 = .ok (.aload_n 0, 1) := by decide +kernel
theorem dX3_cell_9 : decode cX3_cell 9 = .ok (.getfield 26, 3) := by decide +kernel
theorem dX3_cell_12 : decode cX3_cell 12 = .ok (.imul, 1) := by decide +kernel
theorem dX3_cell_13 : decode cX3_cell 13 = .ok (.iload_n 3, 1) := by decide +kernel
theorem dX3_cell_14 : decode cX3_cell 14 = .ok (.iadd, 1) := by decide +kernel
theorem dX3_cell_15 : decode cX3_cell 15 = .ok (.aload_n 0, 1) := by decide +kernel
theorem dX3_cell_16 : decode cX3_cell 16 = .ok (.getfield 29, 3) := by decide +kernel
theorem dX3_cell_19 : decode cX3_cell 19 = .ok (.imul, 1) := by decide +kernel
theorem dX3_cell_20 : decode cX3_cell 20 = .ok (.ireturn, 1) := by decide +kernel
theorem dX3_level_0 : decode cX3_level 0 = .ok (.iload_n 1, 1) := by decide +kernel
theorem dX3_level_1 : decode cX3_level 1 = .ok (.aload_n 0, 1) := by decide +kernel
theorem dX3_level_2 : decode cX3_level 2 = .ok (.getfield 29, 3) := by decide +kernel
theorem dX3_level_5 : decode cX3_level 5 = .ok (.iconst 1, 1) := by decide +kernel
theorem dX3_level_6 : decode cX3_level 6 = .ok (.isub, 1) := by decide +kernel
theorem dX3_level_7 : decode cX3_level 7 = .ok (.invokestatic 110, 3) := by decide +kernel
theorem dX3_level_10 : decode cX3_level 10 = .ok (.ireturn, 1) := by decide +kernel
theorem dX3_canCome_0 : decode cX3_canCome 0 = .ok (.iload_n 3, 1) := by decide +kernel
theorem dX3_canCome_1 : decode cX3_canCome 1 = .ok (.iload_n 1, 1) := by decide +kernel
theorem dX3_canCome_2 : decode cX3_canCome 2 = .ok (.ishr, 1) := by decide +kernel
theorem dX3_canCome_3 : decode cX3_canCome 3 = .ok (.iconst 1, 1) := by decide +kernel
theorem dX3_canCome_4 : decode cX3_canCome 4 = .ok (.iand, 1) := by decide +kernel
theorem dX3_canCome_5 : decode cX3_canCome 5 = .ok (.ifCond .ne 21, 3) := by decide +kernel
theorem dX3_canCome_8 : decode cX3_canCome 8 = .ok (.aload_n 0, 1) := by decide +kernel
theorem dX3_canCome_9 : decode cX3_canCome 9 = .ok (.getfield 32, 3) := by decide +kernel
theorem dX3_canCome_12 : decode cX3_canCome 12 = .ok (.iload_n 1, 1) := by decide +kernel
theorem dX3_canCome_13 : decode cX3_canCome 13 = .ok (.bipush 24, 2) := by decide +kernel
theorem dX3_canCome_15 : decode cX3_canCome 15 = .ok (.imul, 1) := by decide +kernel
theorem dX3_canCome_16 : decode cX3_canCome 16 = .ok (.iload_n 2, 1) := by decide +kernel
theorem dX3_canCome_17 : decode cX3_canCome 17 = .ok (.iadd, 1) := by decide +kernel
theorem dX3_canCome_18 : decode cX3_canCome 18 = .ok (.iaload, 1) := by decide +kernel
theorem dX3_canCome_19 : decode cX3_canCome 19 = .ok (.ifCond .le 7, 3) := by decide +kernel
theorem dX3_canCome_22 : decode cX3_canCome 22 = .ok (.iconst 1, 1) := by decide +kernel
theorem dX3_canCome_23 : decode cX3_canCome 23 = .ok (.goto 4, 3) := by decide +kernel
theorem dX3_canCome_26 : decode cX3_canCome 26 = .ok (.iconst 0, 1) := by decide +kernel
theorem dX3_canCome_27 : decode cX3_canCome 27 = .ok (.ireturn, 1) := by decide +kernel
theorem dX3_isBarred_0 : decode cX3_isBarred 0 = .ok (.aload_n 0, 1) := by decide +kernel
theorem dX3_isBarred_1 : decode cX3_isBarred 1 = .ok (.getfield 44, 3) := by decide +kernel
theorem dX3_isBarred_4 : decode cX3_isBarred 4 = .ok (.iload_n 2, 1) := by decide +kernel
theorem dX3_isBarred_5 : decode cX3_isBarred 5 = .ok (.iaload, 1) := by decide +kernel
theorem dX3_isBarred_6 : decode cX3_isBarred 6 = .ok (.iload_n 1, 1) := by decide +kernel
theorem dX3_isBarred_7 : decode cX3_isBarred 7 = .ok (.ishr, 1) := by decide +kernel
theorem dX3_isBarred_8 : decode cX3_isBarred 8 = .ok (.iconst 1, 1) := by decide +kernel
theorem dX3_isBarred_9 : decode cX3_isBarred 9 = .ok (.iand, 1) := by decide +kernel
theorem dX3_isBarred_10 : decode cX3_isBarred 10 = .ok (.ifCond .eq 7, 3) := by decide +kernel
theorem dX3_isBarred_13 : decode cX3_isBarred 13 = .ok (.iconst 1, 1) := by decide +kernel
theorem dX3_isBarred_14 : decode cX3_isBarred 14 = .ok (.goto 4, 3) := by decide +kernel
theorem dX3_isBarred_17 : decode cX3_isBarred 17 = .ok (.iconst 0, 1) := by decide +kernel
theorem dX3_isBarred_18 : decode cX3_isBarred 18 = .ok (.ireturn, 1) := by decide +kernel
set_option maxRecDepth 20000 in
theorem ggX3_kindBeside_X2_shareRow : GoodIn wsX3_kindBeside wsX2_shareRow := goodIn_r _ [7, 8, 9, 20, 21, 22, 23, 24, 25, 26, 27, 28, 29, 30, 31, 32, 33] (by decide +kernel) (by decide +kernel)
set_option maxRecDepth 20000 in
theorem gX3_kindBeside_X2_shareRow : GoodIn wsX3_kindBeside (wsV RX3 114 RX2 yX2_shareRow wsX2_shareRow) := goodIn_app (goodIn_of _ (by decide +kernel)) ggX3_kindBeside_X2_shareRow
theorem dX3_kindBeside_0 : decode cX3_kindBeside 0 = .ok (.aload_n 0, 1) := by decide +kernel
theorem dX3_kindBeside_1 : decode cX3_kindBeside 1 = .ok (.getfield 12, 3) := by decide +kernel
theorem dX3_kindBeside_4 : decode cX3_kindBeside 4 = .ok (.iload_n 2, 1) := by decide +kernel
theorem dX3_kindBeside_5 : decode cX3_kindBeside 5 = .ok (.iload_n 3, 1) := by decide +kernel
theorem dX3_kindBeside_6 : decode cX3_kindBeside 6 = .ok (.invokevirtual 114, 3) := by decide +kernel
theorem dX3_kindBeside_9 : decode cX3_kindBeside 9 = .ok (.ifCond .eq 12, 3) := by decide +kernel
theorem dX3_kindBeside_12 : decode cX3_kindBeside 12 = .ok (.aload_n 0, 1) := by decide +kernel
theorem dX3_kindBeside_13 : decode cX3_kindBeside 13 = .ok (.getfield 41, 3) := by decide +kernel
theorem dX3_kindBeside_16 : decode cX3_kindBeside 16 = .ok (.iload_n 1, 1) := by decide +kernel
theorem dX3_kindBeside_17 : decode cX3_kindBeside 17 = .ok (.iaload, 1) := by decide +kernel
theorem dX3_kindBeside_18 : decode cX3_kindBeside 18 = .ok (.goto 4, 3) := by decide +kernel
theorem dX3_kindBeside_21 : decode cX3_kindBeside 21 = .ok (.iconst 0, 1) := by decide +kernel
theorem dX3_kindBeside_22 : decode cX3_kindBeside 22 = .ok (.ireturn, 1) := by decide +kernel
set_option maxRecDepth 20000 in
theorem ggX3_fill_X3_cell : GoodIn wsX3_fill wsX3_cell := goodIn_r _ [10, 11, 1, 2, 33, 34, 35, 36, 37, 38, 39, 40, 41, 42] (by decide +kernel) (by decide +kernel)
set_option maxRecDepth 20000 in
theorem gX3_fill_X3_cell : GoodIn wsX3_fill (wsV RX3 67 RX3 yX3_cell wsX3_cell) := goodIn_app (goodIn_of _ (by decide +kernel)) ggX3_fill_X3_cell
set_option maxRecDepth 20000 in
theorem ggX3_fill_X3_canCome : GoodIn wsX3_fill wsX3_canCome := goodIn_r _ [15, 16, 33, 34, 35, 36, 37, 38, 39, 40, 41, 42] (by decide +kernel) (by decide +kernel)
set_option maxRecDepth 20000 in
theorem gX3_fill_X3_canCome : GoodIn wsX3_fill (wsV RX3 117 RX3 yX3_canCome wsX3_canCome) := goodIn_app (goodIn_of _ (by decide +kernel)) ggX3_fill_X3_canCome
set_option maxRecDepth 20000 in
theorem ggX3_fill_X3_tryStart : GoodIn wsX3_fill wsX3_tryStart := goodIn_r _ [20, 16, 21, 3, 1, 2, 6, 7, 8, 9, 10, 11, 22, 23, 24, 25, 26, 4, 27, 28, 29, 30, 31, 32, 33, 34, 35, 36, 37, 38, 39, 40, 41, 42, 43, 44, 45, 46, 47, 48, 49, 50, 51, 52, 53, 54, 55, 56] (by decide +kernel) (by decide +kernel)
set_option maxRecDepth 20000 in
theorem gX3_fill_X3_tryStart : GoodIn wsX3_fill (wsV RX3 121 RX3 yX3_tryStart wsX3_tryStart) := goodIn_app (goodIn_of _ (by decide +kernel)) ggX3_fill_X3_tryStart
theorem dX3_fill_0 : decode cX3_fill 0 = .ok (.aload_n 0, 1) := by decide +kernel
theorem dX3_fill_1 : decode cX3_fill 1 = .ok (.iload_n 1, 1) := by decide +kernel
theorem dX3_fill_2 : decode cX3_fill 2 = .ok (.iload_n 2, 1) := by decide +kernel
theorem dX3_fill_3 : decode cX3_fill 3 = .ok (.iconst 0, 1) := by decide +kernel
theorem dX3_fill_4 : decode cX3_fill 4 = .ok (.invokevirtual 67, 3) := by decide +kernel
theorem dX3_fill_7 : decode cX3_fill 7 = .ok (.istore_n 3, 1) := by decide +kernel
theorem dX3_fill_8 : decode cX3_fill 8 = .ok (.aload_n 0, 1) := by decide +kernel
theorem dX3_fill_9 : decode cX3_fill 9 = .ok (.iload_n 1, 1) := by decide +kernel
theorem dX3_fill_10 : decode cX3_fill 10 = .ok (.iconst 1, 1) := by decide +kernel
theorem dX3_fill_11 : decode cX3_fill 11 = .ok (.iadd, 1) := by decide +kernel
theorem dX3_fill_12 : decode cX3_fill 12 = .ok (.iload_n 2, 1) := by decide +kernel
theorem dX3_fill_13 : decode cX3_fill 13 = .ok (.iconst 0, 1) := by decide +kernel
theorem dX3_fill_14 : decode cX3_fill 14 = .ok (.invokevirtual 67, 3) := by decide +kernel
theorem dX3_fill_17 : decode cX3_fill 17 = .ok (.istore 4, 2) := by decide +kernel
theorem dX3_fill_19 : decode cX3_fill 19 = .ok (.iconst 0, 1) := by decide +kernel
theorem dX3_fill_20 : decode cX3_fill 20 = .ok (.istore 5, 2) := by decide +kernel
theorem dX3_fill_22 : decode cX3_fill 22 = .ok (.iload 5, 2) := by decide +kernel
theorem dX3_fill_24 : decode cX3_fill 24 = .ok (.aload_n 0, 1) := by decide +kernel
theorem dX3_fill_25 : decode cX3_fill 25 = .ok (.getfield 26, 3) := by decide +kernel
theorem dX3_fill_28 : decode cX3_fill 28 = .ok (.if_icmp .ge 54, 3) := by decide +kernel
theorem dX3_fill_31 : decode cX3_fill 31 = .ok (.iconst 0, 1) := by decide +kernel
theorem dX3_fill_32 : decode cX3_fill 32 = .ok (.istore 6, 2) := by decide +kernel
theorem dX3_fill_34 : decode cX3_fill 34 = .ok (.iload 6, 2) := by decide +kernel
theorem dX3_fill_36 : decode cX3_fill 36 = .ok (.aload_n 0, 1) := by decide +kernel
theorem dX3_fill_37 : decode cX3_fill 37 = .ok (.getfield 29, 3) := by decide +kernel
theorem dX3_fill_40 : decode cX3_fill 40 = .ok (.if_icmp .ge 36, 3) := by decide +kernel
theorem dX3_fill_43 : decode cX3_fill 43 = .ok (.aload_n 0, 1) := by decide +kernel
theorem dX3_fill_44 : decode cX3_fill 44 = .ok (.getfield 18, 3) := by decide +kernel
theorem dX3_fill_47 : decode cX3_fill 47 = .ok (.iload_n 3, 1) := by decide +kernel
theorem dX3_fill_48 : decode cX3_fill 48 = .ok (.iload 5, 2) := by decide +kernel
theorem dX3_fill_50 : decode cX3_fill 50 = .ok (.aload_n 0, 1) := by decide +kernel
theorem dX3_fill_51 : decode cX3_fill 51 = .ok (.getfield 29, 3) := by decide +kernel
theorem dX3_fill_54 : decode cX3_fill 54 = .ok (.imul, 1) := by decide +kernel
theorem dX3_fill_55 : decode cX3_fill 55 = .ok (.iadd, 1) := by decide +kernel
theorem dX3_fill_56 : decode cX3_fill 56 = .ok (.iload 6, 2) := by decide +kernel
theorem dX3_fill_58 : decode cX3_fill 58 = .ok (.iadd, 1) := by decide +kernel
theorem dX3_fill_59 : decode cX3_fill 59 = .ok (.aload_n 0, 1) := by decide +kernel
theorem dX3_fill_60 : decode cX3_fill 60 = .ok (.getfield 18, 3) := by decide +kernel
theorem dX3_fill_63 : decode cX3_fill 63 = .ok (.iload 4, 2) := by decide +kernel
theorem dX3_fill_65 : decode cX3_fill 65 = .ok (.iload 6, 2) := by decide +kernel
theorem dX3_fill_67 : decode cX3_fill 67 = .ok (.iadd, 1) := by decide +kernel
theorem dX3_fill_68 : decode cX3_fill 68 = .ok (.iaload, 1) := by decide +kernel
theorem dX3_fill_69 : decode cX3_fill 69 = .ok (.iastore, 1) := by decide +kernel
theorem dX3_fill_70 : decode cX3_fill 70 = .ok (.iinc 6 1, 3) := by decide +kernel
theorem dX3_fill_73 : decode cX3_fill 73 = .ok (.goto (-39), 3) := by decide +kernel
theorem dX3_fill_76 : decode cX3_fill 76 = .ok (.iinc 5 1, 3) := by decide +kernel
theorem dX3_fill_79 : decode cX3_fill 79 = .ok (.goto (-57), 3) := by decide +kernel
theorem dX3_fill_82 : decode cX3_fill 82 = .ok (.iconst 0, 1) := by decide +kernel
theorem dX3_fill_83 : decode cX3_fill 83 = .ok (.istore 5, 2) := by decide +kernel
theorem dX3_fill_85 : decode cX3_fill 85 = .ok (.iload 5, 2) := by decide +kernel
theorem dX3_fill_87 : decode cX3_fill 87 = .ok (.aload_n 0, 1) := by decide +kernel
theorem dX3_fill_88 : decode cX3_fill 88 = .ok (.getfield 12, 3) := by decide +kernel
theorem dX3_fill_91 : decode cX3_fill 91 = .ok (.getfield 51, 3) := by decide +kernel
theorem dX3_fill_94 : decode cX3_fill 94 = .ok (.if_icmp .ge 28, 3) := by decide +kernel
theorem dX3_fill_97 : decode cX3_fill 97 = .ok (.aload_n 0, 1) := by decide +kernel
theorem dX3_fill_98 : decode cX3_fill 98 = .ok (.iload 5, 2) := by decide +kernel
theorem dX3_fill_100 : decode cX3_fill 100 = .ok (.iload_n 1, 1) := by decide +kernel
theorem dX3_fill_101 : decode cX3_fill 101 = .ok (.iload_n 2, 1) := by decide +kernel
theorem dX3_fill_102 : decode cX3_fill 102 = .ok (.invokevirtual 117, 3) := by decide +kernel
theorem dX3_fill_105 : decode cX3_fill 105 = .ok (.ifCond .eq 11, 3) := by decide +kernel
theorem dX3_fill_108 : decode cX3_fill 108 = .ok (.aload_n 0, 1) := by decide +kernel
theorem dX3_fill_109 : decode cX3_fill 109 = .ok (.iload 5, 2) := by decide +kernel
theorem dX3_fill_111 : decode cX3_fill 111 = .ok (.iload_n 1, 1) := by decide +kernel
theorem dX3_fill_112 : decode cX3_fill 112 = .ok (.iload_n 2, 1) := by decide +kernel
theorem dX3_fill_113 : decode cX3_fill 113 = .ok (.invokevirtual 121, 3) := by decide +kernel
theorem dX3_fill_116 : decode cX3_fill 116 = .ok (.iinc 5 1, 3) := by decide +kernel
theorem dX3_fill_119 : decode cX3_fill 119 = .ok (.goto (-34), 3) := by decide +kernel
theorem dX3_fill_122 : decode cX3_fill 122 = .ok (.return_, 1) := by decide +kernel
set_option maxRecDepth 20000 in
theorem ggX3_tryStart_X3_cell : GoodIn wsX3_tryStart wsX3_cell := goodIn_r _ [10, 11, 4, 5, 24, 25, 26, 27, 28, 29, 30, 31, 32, 33] (by decide +kernel) (by decide +kernel)
set_option maxRecDepth 20000 in
theorem gX3_tryStart_X3_cell : GoodIn wsX3_tryStart (wsV RX3 67 RX3 yX3_cell wsX3_cell) := goodIn_app (goodIn_of _ (by decide +kernel)) ggX3_tryStart_X3_cell
set_option maxRecDepth 20000 in
theorem ggX3_tryStart_X3_cellAfter : GoodIn wsX3_tryStart wsX3_cellAfter := goodIn_r _ [15, 16, 17, 18, 6, 7, 8, 9, 10, 11, 4, 5, 24, 25, 26, 27, 28, 29, 30, 31, 32, 33, 34, 35, 36, 37, 38, 39, 40, 41, 42, 43, 44, 45, 46, 47] (by decide +kernel) (by decide +kernel)
set_option maxRecDepth 20000 in
theorem gX3_tryStart_X3_cellAfter : GoodIn wsX3_tryStart (wsV RX3 125 RX3 yX3_cellAfter wsX3_cellAfter) := goodIn_app (goodIn_of _ (by decide +kernel)) ggX3_tryStart_X3_cellAfter
set_option maxRecDepth 20000 in
theorem ggX3_tryStart_X3_isBarred : GoodIn wsX3_tryStart wsX3_isBarred := goodIn_r _ [22, 23, 24, 25, 26, 27, 28, 29, 30, 31, 32, 33] (by decide +kernel) (by decide +kernel)
set_option maxRecDepth 20000 in
theorem gX3_tryStart_X3_isBarred : GoodIn wsX3_tryStart (wsV RX3 128 RX3 yX3_isBarred wsX3_isBarred) := goodIn_app (goodIn_of _ (by decide +kernel)) ggX3_tryStart_X3_isBarred
theorem dX3_tryStart_0 : decode cX3_tryStart 0 = .ok (.iload_n 1, 1) := by decide +kernel
theorem dX3_tryStart_1 : decode cX3_tryStart 1 = .ok (.bipush 24, 2) := by decide +kernel
theorem dX3_tryStart_3 : decode cX3_tryStart 3 = .ok (.imul, 1) := by decide +kernel
theorem dX3_tryStart_4 : decode cX3_tryStart 4 = .ok (.iload_n 2, 1) := by decide +kernel
theorem dX3_tryStart_5 : decode cX3_tryStart 5 = .ok (.iadd, 1) := by decide +kernel
theorem dX3_tryStart_6 : decode cX3_tryStart 6 = .ok (.istore 4, 2) := by decide +kernel
theorem dX3_tryStart_8 : decode cX3_tryStart 8 = .ok (.aload_n 0, 1) := by decide +kernel
theorem dX3_tryStart_9 : decode cX3_tryStart 9 = .ok (.getfield 32, 3) := by decide +kernel
theorem dX3_tryStart_12 : decode cX3_tryStart 12 = .ok (.iload 4, 2) := by decide +kernel
theorem dX3_tryStart_14 : decode cX3_tryStart 14 = .ok (.iaload, 1) := by decide +kernel
theorem dX3_tryStart_15 : decode cX3_tryStart 15 = .ok (.istore 5, 2) := by decide +kernel
theorem dX3_tryStart_17 : decode cX3_tryStart 17 = .ok (.aload_n 0, 1) := by decide +kernel
theorem dX3_tryStart_18 : decode cX3_tryStart 18 = .ok (.getfield 35, 3) := by decide +kernel
theorem dX3_tryStart_21 : decode cX3_tryStart 21 = .ok (.iload 4, 2) := by decide +kernel
theorem dX3_tryStart_23 : decode cX3_tryStart 23 = .ok (.iaload, 1) := by decide +kernel
theorem dX3_tryStart_24 : decode cX3_tryStart 24 = .ok (.istore 6, 2) := by decide +kernel
theorem dX3_tryStart_26 : decode cX3_tryStart 26 = .ok (.aload_n 0, 1) := by decide +kernel
theorem dX3_tryStart_27 : decode cX3_tryStart 27 = .ok (.iload_n 2, 1) := by decide +kernel
theorem dX3_tryStart_28 : decode cX3_tryStart 28 = .ok (.iload_n 3, 1) := by decide +kernel
theorem dX3_tryStart_29 : decode cX3_tryStart 29 = .ok (.iconst 0, 1) := by decide +kernel
theorem dX3_tryStart_30 : decode cX3_tryStart 30 = .ok (.invokevirtual 67, 3) := by decide +kernel
theorem dX3_tryStart_33 : decode cX3_tryStart 33 = .ok (.istore 7, 2) := by decide +kernel
theorem dX3_tryStart_35 : decode cX3_tryStart 35 = .ok (.aload_n 0, 1) := by decide +kernel
theorem dX3_tryStart_36 : decode cX3_tryStart 36 = .ok (.iload_n 1, 1) := by decide +kernel
theorem dX3_tryStart_37 : decode cX3_tryStart 37 = .ok (.iload_n 2, 1) := by decide +kernel
theorem dX3_tryStart_38 : decode cX3_tryStart 38 = .ok (.iload_n 3, 1) := by decide +kernel
theorem dX3_tryStart_39 : decode cX3_tryStart 39 = .ok (.invokevirtual 125, 3) := by decide +kernel
