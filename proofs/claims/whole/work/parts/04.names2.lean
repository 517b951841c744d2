def wsX11_token_r4 : List Cond := [Cond.code yJ2_indexOfChar_4cfef cJ2_indexOfChar_4cfef 4 (some .int), Cond.methodLink RJ2 96 yJ2_checkBoundsBeginEnd_d044e, Cond.static yJ2_checkBoundsBeginEnd_d044e, Cond.code yJ2_checkBoundsBeginEnd_d044e cJ2_checkBoundsBeginEnd_d044e 3 none, Cond.methodLink RJ2 48 yJ2_length_9d52b, Cond.static yJ2_length_9d52b, Cond.code yJ2_length_9d52b cJ2_length_9d52b 1 (some .int), Cond.methodLink RJ2 241 yJ0_checkBoundsBeginEnd_23922, Cond.static yJ0_checkBoundsBeginEnd_23922, Cond.code yJ0_checkBoundsBeginEnd_23922 cJ0_checkBoundsBeginEnd_23922 3 none, Cond.fieldLink RJ0 1053 "jdk/internal/util/Preconditions" "SIOOBE_FORMATTER" "Ljava/util/function/BiFunction;", Cond.methodLink RJ0 1062 yJ3_checkFromToIndex_8c36e, Cond.static yJ3_checkFromToIndex_8c36e, Cond.initialized RJ3, Cond.code yJ3_checkFromToIndex_8c36e cJ3_checkFromToIndex_8c36e 4 (some .int), Cond.methodLink RJ2 244 yJ2_indexOfCharUnsafe_4cfef, Cond.static yJ2_indexOfCharUnsafe_4cfef, Cond.code yJ2_indexOfCharUnsafe_4cfef cJ2_indexOfCharUnsafe_4cfef 5 (some .int), Cond.methodLink RJ2 71 yJ2_getChar_3b067, Cond.static yJ2_getChar_3b067, Cond.code yJ2_getChar_3b067 cJ2_getChar_3b067 2 (some .char), Cond.fieldLink RJ2 44 "java/lang/StringUTF16" "$assertionsDisabled" "Z", Cond.fieldLink RJ2 59 "java/lang/StringUTF16" "HI_BYTE_SHIFT" "I", Cond.fieldLink RJ2 63 "java/lang/StringUTF16" "LO_BYTE_SHIFT" "I"]
def wsX11_token_r5 : List Cond := [Cond.methodLink RJ2 232 yJ2_indexOfSupplementary_4cfef, Cond.static yJ2_indexOfSupplementary_4cfef, Cond.code yJ2_indexOfSupplementary_4cfef cJ2_indexOfSupplementary_4cfef 7 (some .int), Cond.methodLink RJ2 164 yJ11_isValidCodePoint_9a6ad, Cond.static yJ11_isValidCodePoint_9a6ad, Cond.initialized RJ11, Cond.code yJ11_isValidCodePoint_9a6ad cJ11_isValidCodePoint_9a6ad 2 (some .boolean), Cond.methodLink RJ2 157 yJ11_highSurrogate_5068e, Cond.static yJ11_highSurrogate_5068e, Cond.code yJ11_highSurrogate_5068e cJ11_highSurrogate_5068e 1 (some .char), Cond.constant RJ11 110 (55232), Cond.methodLink RJ2 161 yJ11_lowSurrogate_5068e, Cond.static yJ11_lowSurrogate_5068e, Cond.code yJ11_lowSurrogate_5068e cJ11_lowSurrogate_5068e 1 (some .char), Cond.constant RJ11 76 (56320), Cond.methodLink RX11 95 yX11_isAt, Cond.static yX11_isAt, Cond.code yX11_isAt cX11_isAt 7 (some .boolean), Cond.methodLink RX11 83 yJ0_charAt_5068e, Cond.instanceMethod yJ0_charAt_5068e, Cond.selects RJ0 yJ0_charAt_5068e yJ0_charAt_5068e, Cond.code yJ0_charAt_5068e cJ0_charAt_5068e 2 (some .char), Cond.methodLink RJ0 495 yJ1_charAt_3b067, Cond.static yJ1_charAt_3b067]
def wsX11_token_r6 : List Cond := [Cond.code yJ1_charAt_3b067 cJ1_charAt_3b067 2 (some .char), Cond.methodLink RJ1 9 yJ0_checkIndex_df160, Cond.static yJ0_checkIndex_df160, Cond.code yJ0_checkIndex_df160 cJ0_checkIndex_df160 2 none, Cond.methodLink RJ0 1059 yJ3_checkIndex_8e157, Cond.static yJ3_checkIndex_8e157, Cond.code yJ3_checkIndex_8e157 cJ3_checkIndex_8e157 3 (some .int), Cond.methodLink RJ0 498 yJ2_charAt_3b067, Cond.static yJ2_charAt_3b067, Cond.code yJ2_charAt_3b067 cJ2_charAt_3b067 2 (some .char), Cond.methodLink RJ2 67 yJ2_checkIndex_2214a, Cond.static yJ2_checkIndex_2214a, Cond.code yJ2_checkIndex_2214a cJ2_checkIndex_2214a 2 none, Cond.methodLink RJ2 414 yJ0_checkIndex_df160, Cond.methodLink RX11 116 yX11_letter, Cond.instanceMethod yX11_letter, Cond.selects RX11 yX11_letter yX11_letter, Cond.code yX11_letter cX11_letter 2 none, Cond.fieldLink RX11 123 "TokenRowModel" "tokens" "I", Cond.fieldLink RX11 37 "TokenRowModel" "letters" "[I", Cond.fieldLink RX11 126 "TokenRowModel" "laid" "I", Cond.methodLink RX11 155 yX11_number, Cond.instanceMethod yX11_number, Cond.selects RX11 yX11_number yX11_number]
def wsX11_token_r7 : List Cond := [Cond.code yX11_number cX11_number 12 none, Cond.fieldLink RX11 10 "TokenRowModel" "reals" "LTokenRowModel$Reals;", Cond.methodLink RX11 134 yX11_digits, Cond.instanceMethod yX11_digits, Cond.selects RX11 yX11_digits yX11_digits, Cond.code yX11_digits cX11_digits 5 (some .int), Cond.methodLink RX11 137 yX11_power, Cond.instanceMethod yX11_power, Cond.selects RX11 yX11_power yX11_power, Cond.code yX11_power cX11_power 5 (some .int), Cond.methodLink RX11 140 yX10_read_, Cond.instanceMethod yX10_read_, Cond.selects RX10 yX10_read_ yX10_read_, Cond.initialized RX10, Cond.code yX10_read_ cX10_read_ 7 (some .long), Cond.constantLong RX10 235 (-1), Cond.fieldLink RX10 46 "TokenRowModel$Reals" "length" "I", Cond.fieldLink RX10 7 "TokenRowModel$Reals" "text" "[I", Cond.fieldLink RX10 34 "TokenRowModel$Reals" "thrown" "I", Cond.methodLink RX10 237 yX10_read, Cond.instanceMethod yX10_read, Cond.selects RX10 yX10_read yX10_read, Cond.code yX10_read cX10_read 7 (some .long), Cond.fieldLink RX10 145 "TokenRowModel$Reals" "none" "I"]
def wsX11_token_r8 : List Cond := [Cond.fieldLink RX10 127 "TokenRowModel$Reals" "power" "I", Cond.fieldLink RX10 118 "TokenRowModel$Reals" "digits" "I", Cond.fieldLink RX10 62 "TokenRowModel$Reals" "aMany" "I", Cond.fieldLink RX10 152 "TokenRowModel$Reals" "beyond" "I", Cond.fieldLink RX10 155 "TokenRowModel$Reals" "were" "I", Cond.methodLink RX10 137 yX10_isBinary, Cond.instanceMethod yX10_isBinary, Cond.selects RX10 yX10_isBinary yX10_isBinary, Cond.code yX10_isBinary cX10_isBinary 1 (some .boolean), Cond.methodLink RX10 141 yX10_literal, Cond.instanceMethod yX10_literal, Cond.selects RX10 yX10_literal yX10_literal, Cond.code yX10_literal cX10_literal 5 (some .boolean), Cond.fieldLink RX10 107 "TokenRowModel$Reals" "at" "I", Cond.fieldLink RX10 121 "TokenRowModel$Reals" "good" "Z", Cond.methodLink RX10 130 yX10_row, Cond.instanceMethod yX10_row, Cond.selects RX10 yX10_row yX10_row, Cond.code yX10_row cX10_row 4 (some .int), Cond.fieldLink RX10 16 "TokenRowModel$Reals" "a" "[I", Cond.methodLink RX10 110 yX10_look, Cond.instanceMethod yX10_look, Cond.selects RX10 yX10_look yX10_look, Cond.code yX10_look cX10_look 1 (some .int)]
def wsX11_token_r9 : List Cond := [Cond.methodLink RX10 114 yX10_digit, Cond.static yX10_digit, Cond.code yX10_digit cX10_digit 2 (some .int), Cond.methodLink RX10 38 yX10_in, Cond.static yX10_in, Cond.code yX10_in cX10_in 3 (some .boolean), Cond.methodLink RX10 55 yX10_grow, Cond.static yX10_grow, Cond.code yX10_grow cX10_grow 9 (some .int), Cond.constantLong RX10 49 (65535), Cond.methodLink RX10 51 yX10_trimmed, Cond.static yX10_trimmed, Cond.code yX10_trimmed cX10_trimmed 3 (some .int), Cond.methodLink RX10 134 yX10_exponentRow, Cond.instanceMethod yX10_exponentRow, Cond.selects RX10 yX10_exponentRow yX10_exponentRow, Cond.code yX10_exponentRow cX10_exponentRow 5 none, Cond.constant RX10 125 (10000000), Cond.constant RX10 126 (100000000), Cond.methodLink RX10 42 yX10_fail, Cond.instanceMethod yX10_fail, Cond.selects RX10 yX10_fail yX10_fail, Cond.code yX10_fail cX10_fail 2 (some .int), Cond.methodLink RX10 100 yX10_greatest]
def wsX11_token_r10 : List Cond := [Cond.static yX10_greatest, Cond.code yX10_greatest cX10_greatest 1 (some .long), Cond.constantLong RX10 82 (2139095039), Cond.constantLong RX10 84 (9218868437227405311), Cond.methodLink RX10 148 yX10_found, Cond.instanceMethod yX10_found, Cond.selects RX10 yX10_found yX10_found, Cond.code yX10_found cX10_found 3 (some .long), Cond.fieldLink RX10 19 "TokenRowModel$Reals" "b" "[I", Cond.fieldLink RX10 72 "TokenRowModel$Reals" "bMany" "I", Cond.fieldLink RX10 59 "TokenRowModel$Reals" "twos" "I", Cond.methodLink RX10 158 yX10_set, Cond.static yX10_set, Cond.code yX10_set cX10_set 4 (some .int), Cond.methodLink RX10 162 yX10_fives, Cond.static yX10_fives, Cond.code yX10_fives cX10_fives 5 (some .int), Cond.methodLink RX10 165 yX10_nearest, Cond.instanceMethod yX10_nearest, Cond.selects RX10 yX10_nearest yX10_nearest, Cond.code yX10_nearest cX10_nearest 9 (some .long), Cond.constantLong RX10 86 (2), Cond.methodLink RX10 88 yX10_mantissa, Cond.static yX10_mantissa]
def wsX11_token_r11 : List Cond := [Cond.code yX10_mantissa cX10_mantissa 6 (some .long), Cond.methodLink RX10 92 yX10_exponent, Cond.static yX10_exponent, Cond.code yX10_exponent cX10_exponent 4 (some .int), Cond.methodLink RX10 96 yX10_compare, Cond.instanceMethod yX10_compare, Cond.selects RX10 yX10_compare yX10_compare, Cond.code yX10_compare cX10_compare 6 (some .int), Cond.fieldLink RX10 25 "TokenRowModel$Reals" "left" "[I", Cond.fieldLink RX10 69 "TokenRowModel$Reals" "leftMany" "I", Cond.fieldLink RX10 28 "TokenRowModel$Reals" "right" "[I", Cond.fieldLink RX10 79 "TokenRowModel$Reals" "rightMany" "I", Cond.methodLink RX10 65 yX10_shifted, Cond.static yX10_shifted, Cond.code yX10_shifted cX10_shifted 6 (some .int), Cond.methodLink RX10 75 yX10_times, Cond.instanceMethod yX10_times, Cond.selects RX10 yX10_times yX10_times, Cond.code yX10_times cX10_times 14 (some .int), Cond.methodLink RX10 104 yX10_above, Cond.instanceMethod yX10_above, Cond.selects RX10 yX10_above yX10_above, Cond.code yX10_above cX10_above 4 (some .int), Cond.methodLink RX11 144 yX11_whole]
def wsX11_token_r12 : List Cond := [Cond.instanceMethod yX11_whole, Cond.selects RX11 yX11_whole yX11_whole, Cond.code yX11_whole cX11_whole 10 none, Cond.constantLong RX11 148 (4294967295), Cond.constantLong RX11 150 (2147483648), Cond.methodLink RX11 158 yX11_quoted, Cond.instanceMethod yX11_quoted, Cond.selects RX11 yX11_quoted yX11_quoted, Cond.code yX11_quoted cX11_quoted 1 none, Cond.methodLink RX11 131 yX11_character, Cond.instanceMethod yX11_character, Cond.selects RX11 yX11_character yX11_character, Cond.code yX11_character cX11_character 7 (some .int), Cond.methodLink RX11 161 yX11_row, Cond.instanceMethod yX11_row, Cond.selects RX11 yX11_row yX11_row, Cond.code yX11_row cX11_row 3 none, Cond.methodLink RX11 164 yX11_sign, Cond.instanceMethod yX11_sign, Cond.selects RX11 yX11_sign yX11_sign, Cond.code yX11_sign cX11_sign 3 none]
def wsX11_token : List Cond := .code yX11_token cX11_token 2 none :: ((wsX11_token_r1 ++ (wsX11_token_r2 ++ (wsX11_token_r3 ++ (wsX11_token_r4 ++ (wsX11_token_r5 ++ (wsX11_token_r6 ++ (wsX11_token_r7 ++ (wsX11_token_r8 ++ (wsX11_token_r9 ++ (wsX11_token_r10 ++ (wsX11_token_r11 ++ wsX11_token_r12))))))))))) ++ wsX110 ++ wsX100)
def wsX11_read_r1 : List Cond := [Cond.fieldLink RX11 77 "TokenRowModel" "at" "I", Cond.fieldLink RX11 126 "TokenRowModel" "laid" "I", Cond.fieldLink RX11 123 "TokenRowModel" "tokens" "I", Cond.fieldLink RX11 167 "TokenRowModel" "looked" "I", Cond.fieldLink RX11 46 "TokenRowModel" "wrong" "I", Cond.fieldLink RX11 109 "TokenRowModel" "good" "Z", Cond.fieldLink RX11 26 "TokenRowModel" "kinds" "[I", Cond.fieldLink RX11 113 "TokenRowModel" "kind" "I", Cond.fieldLink RX11 29 "TokenRowModel" "gluing" "[Z", Cond.fieldLink RX11 33 "TokenRowModel" "values" "[J", Cond.fieldLink RX11 119 "TokenRowModel" "value" "J", Cond.fieldLink RX11 40 "TokenRowModel" "first" "[I", Cond.fieldLink RX11 43 "TokenRowModel" "many" "[I", Cond.fieldLink RX11 64 "TokenRowModel" "size" "I", Cond.fieldLink RX11 50 "TokenRowModel" "thrown" "I", Cond.methodLink RX11 170 yX11_more, Cond.instanceMethod yX11_more, Cond.selects RX11 yX11_more yX11_more, Cond.initialized RX11, Cond.code yX11_more cX11_more 3 (some .boolean), Cond.fieldLink RX11 70 "TokenRowModel" "length" "I", Cond.fieldLink RX11 22 "TokenRowModel" "source" "[I", Cond.methodLink RX11 80 yX11_see, Cond.instanceMethod yX11_see]
def wsX11_read_r2 : List Cond := [Cond.selects RX11 yX11_see yX11_see, Cond.code yX11_see cX11_see 2 (some .int), Cond.methodLink RX11 174 yX11_token, Cond.instanceMethod yX11_token, Cond.selects RX11 yX11_token yX11_token, Cond.code yX11_token cX11_token 2 none, Cond.methodLink RX11 99 yX11_isLetter, Cond.static yX11_isLetter, Cond.code yX11_isLetter cX11_isLetter 1 (some .boolean), Cond.methodLink RX11 152 yX11_name, Cond.instanceMethod yX11_name, Cond.selects RX11 yX11_name yX11_name, Cond.code yX11_name cX11_name 5 none, Cond.methodLink RX11 73 yX11_digit, Cond.static yX11_digit, Cond.code yX11_digit cX11_digit 3 (some .int), Cond.methodLink RX11 105 yX11_among, Cond.instanceMethod yX11_among, Cond.selects RX11 yX11_among yX11_among, Cond.code yX11_among cX11_among 6 (some .int), Cond.methodLink RX11 89 yJ0_length_8abf5, Cond.instanceMethod yJ0_length_8abf5, Cond.selects RJ0 yJ0_length_8abf5 yJ0_length_8abf5, Cond.initialized RJ0]
def wsX11_read_r3 : List Cond := [Cond.code yJ0_length_8abf5 cJ0_length_8abf5 1 (some .int), Cond.fieldLink RJ0 9 "java/lang/String" "value" "[B", Cond.methodLink RJ0 335 yJ0_coder_7d493, Cond.instanceMethod yJ0_coder_7d493, Cond.selects RJ0 yJ0_coder_7d493 yJ0_coder_7d493, Cond.code yJ0_coder_7d493 cJ0_coder_7d493 1 (some .byte), Cond.fieldLink RJ0 38 "java/lang/String" "COMPACT_STRINGS" "Z", Cond.fieldLink RJ0 15 "java/lang/String" "coder" "B", Cond.methodLink RX11 92 yJ0_indexOf_7cf53, Cond.instanceMethod yJ0_indexOf_7cf53, Cond.selects RJ0 yJ0_indexOf_7cf53 yJ0_indexOf_7cf53, Cond.code yJ0_indexOf_7cf53 cJ0_indexOf_7cf53 3 (some .int), Cond.methodLink RJ0 492 yJ0_isLatin1_aae02, Cond.instanceMethod yJ0_isLatin1_aae02, Cond.selects RJ0 yJ0_isLatin1_aae02 yJ0_isLatin1_aae02, Cond.code yJ0_isLatin1_aae02 cJ0_isLatin1_aae02 1 (some .boolean), Cond.methodLink RJ0 505 yJ0_length_8abf5, Cond.methodLink RJ0 637 yJ1_indexOf_4cfef, Cond.static yJ1_indexOf_4cfef, Cond.initialized RJ1, Cond.code yJ1_indexOf_4cfef cJ1_indexOf_4cfef 4 (some .int), Cond.methodLink RJ1 92 Lib.Math.max.name, Cond.static Lib.Math.max.name, Cond.initialized "java/lang/Math"]
def wsX11_read_r4 : List Cond := [Cond.code Lib.Math.max.name Lib.Math.max.code 2 (some .int), Cond.methodLink RJ1 38 Lib.Math.min.name, Cond.static Lib.Math.min.name, Cond.code Lib.Math.min.name Lib.Math.min.code 2 (some .int), Cond.methodLink RJ1 88 yJ1_canEncode_9a6ad, Cond.static yJ1_canEncode_9a6ad, Cond.code yJ1_canEncode_9a6ad cJ1_canEncode_9a6ad 1 (some .boolean), Cond.methodLink RJ1 95 yJ1_indexOfChar_4cfef, Cond.static yJ1_indexOfChar_4cfef, Cond.code yJ1_indexOfChar_4cfef cJ1_indexOfChar_4cfef 6 (some .int), Cond.methodLink RJ0 640 yJ2_indexOf_4cfef, Cond.static yJ2_indexOf_4cfef, Cond.initialized RJ2, Cond.code yJ2_indexOf_4cfef cJ2_indexOf_4cfef 4 (some .int), Cond.methodLink RJ2 224 Lib.Math.max.name, Cond.methodLink RJ2 183 Lib.Math.min.name, Cond.constant RJ2 227 (65536), Cond.methodLink RJ2 228 yJ2_indexOfChar_4cfef, Cond.static yJ2_indexOfChar_4cfef, Cond.code yJ2_indexOfChar_4cfef cJ2_indexOfChar_4cfef 4 (some .int), Cond.methodLink RJ2 96 yJ2_checkBoundsBeginEnd_d044e, Cond.static yJ2_checkBoundsBeginEnd_d044e, Cond.code yJ2_checkBoundsBeginEnd_d044e cJ2_checkBoundsBeginEnd_d044e 3 none, Cond.methodLink RJ2 48 yJ2_length_9d52b]
def wsX11_read_r5 : List Cond := [Cond.static yJ2_length_9d52b, Cond.code yJ2_length_9d52b cJ2_length_9d52b 1 (some .int), Cond.methodLink RJ2 241 yJ0_checkBoundsBeginEnd_23922, Cond.static yJ0_checkBoundsBeginEnd_23922, Cond.code yJ0_checkBoundsBeginEnd_23922 cJ0_checkBoundsBeginEnd_23922 3 none, Cond.fieldLink RJ0 1053 "jdk/internal/util/Preconditions" "SIOOBE_FORMATTER" "Ljava/util/function/BiFunction;", Cond.methodLink RJ0 1062 yJ3_checkFromToIndex_8c36e, Cond.static yJ3_checkFromToIndex_8c36e, Cond.initialized RJ3, Cond.code yJ3_checkFromToIndex_8c36e cJ3_checkFromToIndex_8c36e 4 (some .int), Cond.methodLink RJ2 244 yJ2_indexOfCharUnsafe_4cfef, Cond.static yJ2_indexOfCharUnsafe_4cfef, Cond.code yJ2_indexOfCharUnsafe_4cfef cJ2_indexOfCharUnsafe_4cfef 5 (some .int), Cond.methodLink RJ2 71 yJ2_getChar_3b067, Cond.static yJ2_getChar_3b067, Cond.code yJ2_getChar_3b067 cJ2_getChar_3b067 2 (some .char), Cond.fieldLink RJ2 44 "java/lang/StringUTF16" "$assertionsDisabled" "Z", Cond.fieldLink RJ2 59 "java/lang/StringUTF16" "HI_BYTE_SHIFT" "I", Cond.fieldLink RJ2 63 "java/lang/StringUTF16" "LO_BYTE_SHIFT" "I", Cond.methodLink RJ2 232 yJ2_indexOfSupplementary_4cfef, Cond.static yJ2_indexOfSupplementary_4cfef, Cond.code yJ2_indexOfSupplementary_4cfef cJ2_indexOfSupplementary_4cfef 7 (some .int), Cond.methodLink RJ2 164 yJ11_isValidCodePoint_9a6ad, Cond.static yJ11_isValidCodePoint_9a6ad]
def wsX11_read_r6 : List Cond := [Cond.initialized RJ11, Cond.code yJ11_isValidCodePoint_9a6ad cJ11_isValidCodePoint_9a6ad 2 (some .boolean), Cond.methodLink RJ2 157 yJ11_highSurrogate_5068e, Cond.static yJ11_highSurrogate_5068e, Cond.code yJ11_highSurrogate_5068e cJ11_highSurrogate_5068e 1 (some .char), Cond.constant RJ11 110 (55232), Cond.methodLink RJ2 161 yJ11_lowSurrogate_5068e, Cond.static yJ11_lowSurrogate_5068e, Cond.code yJ11_lowSurrogate_5068e cJ11_lowSurrogate_5068e 1 (some .char), Cond.constant RJ11 76 (56320), Cond.methodLink RX11 95 yX11_isAt, Cond.static yX11_isAt, Cond.code yX11_isAt cX11_isAt 7 (some .boolean), Cond.methodLink RX11 83 yJ0_charAt_5068e, Cond.instanceMethod yJ0_charAt_5068e, Cond.selects RJ0 yJ0_charAt_5068e yJ0_charAt_5068e, Cond.code yJ0_charAt_5068e cJ0_charAt_5068e 2 (some .char), Cond.methodLink RJ0 495 yJ1_charAt_3b067, Cond.static yJ1_charAt_3b067, Cond.code yJ1_charAt_3b067 cJ1_charAt_3b067 2 (some .char), Cond.methodLink RJ1 9 yJ0_checkIndex_df160, Cond.static yJ0_checkIndex_df160, Cond.code yJ0_checkIndex_df160 cJ0_checkIndex_df160 2 none, Cond.methodLink RJ0 1059 yJ3_checkIndex_8e157]
def wsX11_read_r7 : List Cond := [Cond.static yJ3_checkIndex_8e157, Cond.code yJ3_checkIndex_8e157 cJ3_checkIndex_8e157 3 (some .int), Cond.methodLink RJ0 498 yJ2_charAt_3b067, Cond.static yJ2_charAt_3b067, Cond.code yJ2_charAt_3b067 cJ2_charAt_3b067 2 (some .char), Cond.methodLink RJ2 67 yJ2_checkIndex_2214a, Cond.static yJ2_checkIndex_2214a, Cond.code yJ2_checkIndex_2214a cJ2_checkIndex_2214a 2 none, Cond.methodLink RJ2 414 yJ0_checkIndex_df160, Cond.methodLink RX11 116 yX11_letter, Cond.instanceMethod yX11_letter, Cond.selects RX11 yX11_letter yX11_letter, Cond.code yX11_letter cX11_letter 2 none, Cond.fieldLink RX11 37 "TokenRowModel" "letters" "[I", Cond.methodLink RX11 155 yX11_number, Cond.instanceMethod yX11_number, Cond.selects RX11 yX11_number yX11_number, Cond.code yX11_number cX11_number 12 none, Cond.fieldLink RX11 10 "TokenRowModel" "reals" "LTokenRowModel$Reals;", Cond.methodLink RX11 134 yX11_digits, Cond.instanceMethod yX11_digits, Cond.selects RX11 yX11_digits yX11_digits, Cond.code yX11_digits cX11_digits 5 (some .int), Cond.methodLink RX11 137 yX11_power]
def wsX11_read_r8 : List Cond := [Cond.instanceMethod yX11_power, Cond.selects RX11 yX11_power yX11_power, Cond.code yX11_power cX11_power 5 (some .int), Cond.methodLink RX11 140 yX10_read_, Cond.instanceMethod yX10_read_, Cond.selects RX10 yX10_read_ yX10_read_, Cond.initialized RX10, Cond.code yX10_read_ cX10_read_ 7 (some .long), Cond.constantLong RX10 235 (-1), Cond.fieldLink RX10 46 "TokenRowModel$Reals" "length" "I", Cond.fieldLink RX10 7 "TokenRowModel$Reals" "text" "[I", Cond.fieldLink RX10 34 "TokenRowModel$Reals" "thrown" "I", Cond.methodLink RX10 237 yX10_read, Cond.instanceMethod yX10_read, Cond.selects RX10 yX10_read yX10_read, Cond.code yX10_read cX10_read 7 (some .long), Cond.fieldLink RX10 145 "TokenRowModel$Reals" "none" "I", Cond.fieldLink RX10 127 "TokenRowModel$Reals" "power" "I", Cond.fieldLink RX10 118 "TokenRowModel$Reals" "digits" "I", Cond.fieldLink RX10 62 "TokenRowModel$Reals" "aMany" "I", Cond.fieldLink RX10 152 "TokenRowModel$Reals" "beyond" "I", Cond.fieldLink RX10 155 "TokenRowModel$Reals" "were" "I", Cond.methodLink RX10 137 yX10_isBinary, Cond.instanceMethod yX10_isBinary]
def wsX11_read_r9 : List Cond := [Cond.selects RX10 yX10_isBinary yX10_isBinary, Cond.code yX10_isBinary cX10_isBinary 1 (some .boolean), Cond.methodLink RX10 141 yX10_literal, Cond.instanceMethod yX10_literal, Cond.selects RX10 yX10_literal yX10_literal, Cond.code yX10_literal cX10_literal 5 (some .boolean), Cond.fieldLink RX10 107 "TokenRowModel$Reals" "at" "I", Cond.fieldLink RX10 121 "TokenRowModel$Reals" "good" "Z", Cond.methodLink RX10 130 yX10_row, Cond.instanceMethod yX10_row, Cond.selects RX10 yX10_row yX10_row, Cond.code yX10_row cX10_row 4 (some .int), Cond.fieldLink RX10 16 "TokenRowModel$Reals" "a" "[I", Cond.methodLink RX10 110 yX10_look, Cond.instanceMethod yX10_look, Cond.selects RX10 yX10_look yX10_look, Cond.code yX10_look cX10_look 1 (some .int), Cond.methodLink RX10 114 yX10_digit, Cond.static yX10_digit, Cond.code yX10_digit cX10_digit 2 (some .int), Cond.methodLink RX10 38 yX10_in, Cond.static yX10_in, Cond.code yX10_in cX10_in 3 (some .boolean), Cond.methodLink RX10 55 yX10_grow]
def wsX11_read_r10 : List Cond := [Cond.static yX10_grow, Cond.code yX10_grow cX10_grow 9 (some .int), Cond.constantLong RX10 49 (65535), Cond.methodLink RX10 51 yX10_trimmed, Cond.static yX10_trimmed, Cond.code yX10_trimmed cX10_trimmed 3 (some .int), Cond.methodLink RX10 134 yX10_exponentRow, Cond.instanceMethod yX10_exponentRow, Cond.selects RX10 yX10_exponentRow yX10_exponentRow, Cond.code yX10_exponentRow cX10_exponentRow 5 none, Cond.constant RX10 125 (10000000), Cond.constant RX10 126 (100000000), Cond.methodLink RX10 42 yX10_fail, Cond.instanceMethod yX10_fail, Cond.selects RX10 yX10_fail yX10_fail, Cond.code yX10_fail cX10_fail 2 (some .int), Cond.methodLink RX10 100 yX10_greatest, Cond.static yX10_greatest, Cond.code yX10_greatest cX10_greatest 1 (some .long), Cond.constantLong RX10 82 (2139095039), Cond.constantLong RX10 84 (9218868437227405311), Cond.methodLink RX10 148 yX10_found, Cond.instanceMethod yX10_found, Cond.selects RX10 yX10_found yX10_found]
def wsX11_read_r11 : List Cond := [Cond.code yX10_found cX10_found 3 (some .long), Cond.fieldLink RX10 19 "TokenRowModel$Reals" "b" "[I", Cond.fieldLink RX10 72 "TokenRowModel$Reals" "bMany" "I", Cond.fieldLink RX10 59 "TokenRowModel$Reals" "twos" "I", Cond.methodLink RX10 158 yX10_set, Cond.static yX10_set, Cond.code yX10_set cX10_set 4 (some .int), Cond.methodLink RX10 162 yX10_fives, Cond.static yX10_fives, Cond.code yX10_fives cX10_fives 5 (some .int), Cond.methodLink RX10 165 yX10_nearest, Cond.instanceMethod yX10_nearest, Cond.selects RX10 yX10_nearest yX10_nearest, Cond.code yX10_nearest cX10_nearest 9 (some .long), Cond.constantLong RX10 86 (2), Cond.methodLink RX10 88 yX10_mantissa, Cond.static yX10_mantissa, Cond.code yX10_mantissa cX10_mantissa 6 (some .long), Cond.methodLink RX10 92 yX10_exponent, Cond.static yX10_exponent, Cond.code yX10_exponent cX10_exponent 4 (some .int), Cond.methodLink RX10 96 yX10_compare, Cond.instanceMethod yX10_compare, Cond.selects RX10 yX10_compare yX10_compare]
def wsX11_read_r12 : List Cond := [Cond.code yX10_compare cX10_compare 6 (some .int), Cond.fieldLink RX10 25 "TokenRowModel$Reals" "left" "[I", Cond.fieldLink RX10 69 "TokenRowModel$Reals" "leftMany" "I", Cond.fieldLink RX10 28 "TokenRowModel$Reals" "right" "[I", Cond.fieldLink RX10 79 "TokenRowModel$Reals" "rightMany" "I", Cond.methodLink RX10 65 yX10_shifted, Cond.static yX10_shifted, Cond.code yX10_shifted cX10_shifted 6 (some .int), Cond.methodLink RX10 75 yX10_times, Cond.instanceMethod yX10_times, Cond.selects RX10 yX10_times yX10_times, Cond.code yX10_times cX10_times 14 (some .int), Cond.methodLink RX10 104 yX10_above, Cond.instanceMethod yX10_above, Cond.selects RX10 yX10_above yX10_above, Cond.code yX10_above cX10_above 4 (some .int), Cond.methodLink RX11 144 yX11_whole, Cond.instanceMethod yX11_whole, Cond.selects RX11 yX11_whole yX11_whole, Cond.code yX11_whole cX11_whole 10 none, Cond.constantLong RX11 148 (4294967295), Cond.constantLong RX11 150 (2147483648), Cond.methodLink RX11 158 yX11_quoted, Cond.instanceMethod yX11_quoted]
def wsX11_read_r13 : List Cond := [Cond.selects RX11 yX11_quoted yX11_quoted, Cond.code yX11_quoted cX11_quoted 1 none, Cond.methodLink RX11 131 yX11_character, Cond.instanceMethod yX11_character, Cond.selects RX11 yX11_character yX11_character, Cond.code yX11_character cX11_character 7 (some .int), Cond.methodLink RX11 161 yX11_row, Cond.instanceMethod yX11_row, Cond.selects RX11 yX11_row yX11_row, Cond.code yX11_row cX11_row 3 none, Cond.methodLink RX11 164 yX11_sign, Cond.instanceMethod yX11_sign, Cond.selects RX11 yX11_sign yX11_sign, Cond.code yX11_sign cX11_sign 3 none, Cond.methodLink RX11 67 yX11_translate, Cond.instanceMethod yX11_translate, Cond.selects RX11 yX11_translate yX11_translate, Cond.code yX11_translate cX11_translate 9 none, Cond.fieldLink RX11 17 "TokenRowModel" "text" "[B"]
def wsX11_read : List Cond := .code yX11_read cX11_read 4 (some .int) :: ((wsX11_read_r1 ++ (wsX11_read_r2 ++ (wsX11_read_r3 ++ (wsX11_read_r4 ++ (wsX11_read_r5 ++ (wsX11_read_r6 ++ (wsX11_read_r7 ++ (wsX11_read_r8 ++ (wsX11_read_r9 ++ (wsX11_read_r10 ++ (wsX11_read_r11 ++ (wsX11_read_r12 ++ wsX11_read_r13)))))))))))) ++ wsX110 ++ wsX100)
def wsX11_wrong : List Cond := .code yX11_wrong cX11_wrong 1 (some .int) :: ([.fieldLink RX11 50 "TokenRowModel" "thrown" "I", .fieldLink RX11 46 "TokenRowModel" "wrong" "I"] ++ wsX110)
def wsX11_isToken : List Cond := .code yX11_isToken cX11_isToken 2 (some .boolean) :: ([.fieldLink RX11 123 "TokenRowModel" "tokens" "I", .fieldLink RX11 50 "TokenRowModel" "thrown" "I"] ++ wsX110)
def wsX11_kind : List Cond := .code yX11_kind cX11_kind 2 (some .int) :: ([.fieldLink RX11 26 "TokenRowModel" "kinds" "[I", .methodLink RX11 177 yX11_isToken, .instanceMethod yX11_isToken, .selects RX11 yX11_isToken yX11_isToken, .initialized RX11, .code yX11_isToken cX11_isToken 2 (some .boolean), .fieldLink RX11 123 "TokenRowModel" "tokens" "I", .fieldLink RX11 50 "TokenRowModel" "thrown" "I"] ++ wsX110)
def wsX11_glued : List Cond := .code yX11_glued cX11_glued 2 (some .boolean) :: ([.fieldLink RX11 29 "TokenRowModel" "gluing" "[Z", .methodLink RX11 177 yX11_isToken, .instanceMethod yX11_isToken, .selects RX11 yX11_isToken yX11_isToken, .initialized RX11, .code yX11_isToken cX11_isToken 2 (some .boolean), .fieldLink RX11 123 "TokenRowModel" "tokens" "I", .fieldLink RX11 50 "TokenRowModel" "thrown" "I"] ++ wsX110)
def wsX11_value : List Cond := .code yX11_value cX11_value 2 (some .long) :: ([.fieldLink RX11 33 "TokenRowModel" "values" "[J", .methodLink RX11 177 yX11_isToken, .instanceMethod yX11_isToken, .selects RX11 yX11_isToken yX11_isToken, .initialized RX11, .code yX11_isToken cX11_isToken 2 (some .boolean), .fieldLink RX11 123 "TokenRowModel" "tokens" "I", .fieldLink RX11 50 "TokenRowModel" "thrown" "I"] ++ wsX110)
def wsX11_at : List Cond := .code yX11_at cX11_at 3 (some .int) :: ([.fieldLink RX11 26 "TokenRowModel" "kinds" "[I", .fieldLink RX11 43 "TokenRowModel" "many" "[I", .fieldLink RX11 37 "TokenRowModel" "letters" "[I", .fieldLink RX11 40 "TokenRowModel" "first" "[I", .methodLink RX11 177 yX11_isToken, .instanceMethod yX11_isToken, .selects RX11 yX11_isToken yX11_isToken, .initialized RX11, .code yX11_isToken cX11_isToken 2 (some .boolean), .fieldLink RX11 123 "TokenRowModel" "tokens" "I", .fieldLink RX11 50 "TokenRowModel" "thrown" "I", .methodLink RX11 56 yX11_fails, .instanceMethod yX11_fails, .selects RX11 yX11_fails yX11_fails, .code yX11_fails cX11_fails 2 (some .int)] ++ wsX110)
def wsX11_same : List Cond := .code yX11_same cX11_same 5 (some .int) :: ([.fieldLink RX11 26 "TokenRowModel" "kinds" "[I", .fieldLink RX11 50 "TokenRowModel" "thrown" "I", .fieldLink RX11 43 "TokenRowModel" "many" "[I", .fieldLink RX11 37 "TokenRowModel" "letters" "[I", .fieldLink RX11 40 "TokenRowModel" "first" "[I", .methodLink RX11 177 yX11_isToken, .instanceMethod yX11_isToken, .selects RX11 yX11_isToken yX11_isToken, .initialized RX11, .code yX11_isToken cX11_isToken 2 (some .boolean), .fieldLink RX11 123 "TokenRowModel" "tokens" "I"] ++ wsX110)
def wsJ9_max_7cf53 : List Cond := .code yJ9_max_7cf53 cJ9_max_7cf53 2 (some .int) :: ([])
def wsJ9_min_7cf53 : List Cond := .code yJ9_min_7cf53 cJ9_min_7cf53 2 (some .int) :: ([])
def wsL_feed : List Cond := .codeWith yL_feed cL_feed 8 (some .int) [(0, 16, 19, 13)] :: ([.classLink RL 13 "java/lang/IllegalStateException", .methodLink RL 7 yX9_feed, .instanceMethod yX9_feed, .selects RX9 yX9_feed yX9_feed, .initialized RX9, .code yX9_feed cX9_feed 6 (some .int), .classLink RX9 48 "java/lang/IllegalStateException", .initialized "java/lang/IllegalStateException", .fieldLink RX9 44 "TokenRow" "comingCount" "I", .constant RX9 47 (81900), .methodLink RX9 51 yX9_gather, .instanceMethod yX9_gather, .selects RX9 yX9_gather yX9_gather, .code yX9_gather cX9_gather 3 none, .fieldLink RX9 10 "TokenRow" "coming" "[B"] ++ wsX90 ++ (vx_at0 RX9 50 "java/lang/IllegalStateException" ["java/lang/RuntimeException", "java/lang/Exception"]).filter goodWord)
def wsL_end : List Cond := .codeWith yL_end cL_end 4 (some .int) [(0, 9, 12, 19)] :: ([.classLink RL 19 "java/lang/IllegalArgumentException", .methodLink RL 15 yX9_end, .instanceMethod yX9_end, .selects RX9 yX9_end yX9_end, .initialized RX9, .code yX9_end cX9_end 3 (some .int), .classLink RX9 59 "java/lang/IllegalArgumentException", .initialized "java/lang/IllegalArgumentException", .fieldLink RX9 44 "TokenRow" "comingCount" "I", .fieldLink RX9 10 "TokenRow" "coming" "[B", .fieldLink RX9 14 "TokenRow" "text" "[B", .fieldLink RX9 62 "TokenRow" "textLength" "I", .methodLink RX9 55 yX9_areCharacters, .static yX9_areCharacters, .code yX9_areCharacters cX9_areCharacters 3 (some .boolean)] ++ wsX90 ++ (vx_at0 RX9 61 "java/lang/IllegalArgumentException" ["java/lang/RuntimeException", "java/lang/Exception"]).filter goodWord)
def wsL_read_r1 : List Cond := [Cond.classLink RL 25 "java/lang/UnsupportedOperationException", Cond.methodLink RL 21 yX9_read, Cond.instanceMethod yX9_read, Cond.selects RX9 yX9_read yX9_read, Cond.initialized RX9, Cond.code yX9_read cX9_read 1 (some .int), Cond.classLink RX9 80 "java/lang/UnsupportedOperationException", Cond.initialized "java/lang/UnsupportedOperationException", Cond.fieldLink RX9 27 "TokenRow" "store" "LTokenRow$Store;", Cond.fieldLink RX9 20 "TokenRow" "source" "LTokenRow$Source;", Cond.fieldLink RX9 14 "TokenRow" "text" "[B", Cond.fieldLink RX9 62 "TokenRow" "textLength" "I", Cond.fieldLink RX9 36 "TokenRow" "reader" "LTokenRow$Reader;", Cond.fieldLink RX9 40 "TokenRow" "goodBeforeWrong" "I", Cond.methodLink RX9 83 Lib.Math.min.name, Cond.static Lib.Math.min.name, Cond.initialized "java/lang/Math", Cond.code Lib.Math.min.name Lib.Math.min.code 2 (some .int), Cond.methodLink RX9 65 yX8_clear, Cond.instanceMethod yX8_clear, Cond.selects RX8 yX8_clear yX8_clear, Cond.initialized RX8, Cond.code yX8_clear cX8_clear 1 none, Cond.fieldLink RX8 26 "TokenRow$Store" "count" "I"]
def wsL_read_r2 : List Cond := [Cond.methodLink RX9 68 yX6_fill, Cond.instanceMethod yX6_fill, Cond.selects RX6 yX6_fill yX6_fill, Cond.initialized RX6, Cond.code yX6_fill cX6_fill 5 none, Cond.fieldLink RX6 16 "TokenRow$Source" "count" "I", Cond.fieldLink RX6 20 "TokenRow$Source" "cutShort" "Z", Cond.methodLink RX6 24 yX6_addEscape, Cond.instanceMethod yX6_addEscape, Cond.selects RX6 yX6_addEscape yX6_addEscape, Cond.code yX6_addEscape cX6_addEscape 8 (some .int), Cond.static yX9_digitOf, Cond.code yX9_digitOf cX9_digitOf 1 (some .int), Cond.methodLink RX6 28 yX6_add, Cond.instanceMethod yX6_add, Cond.selects RX6 yX6_add yX6_add, Cond.code yX6_add cX6_add 2 none, Cond.fieldLink RX6 10 "TokenRow$Source" "characters" "[C", Cond.methodLink RX9 72 yX4_takeAll, Cond.instanceMethod yX4_takeAll, Cond.selects RX4 yX4_takeAll yX4_takeAll, Cond.initialized RX4, Cond.code yX4_takeAll cX4_takeAll 4 (some .boolean), Cond.fieldLink RX4 9 "TokenRow$Reader" "source" "LTokenRow$Source;"]
def wsL_read_r3 : List Cond := [Cond.fieldLink RX4 15 "TokenRow$Reader" "store" "LTokenRow$Store;", Cond.fieldLink RX4 22 "TokenRow$Reader" "found" "LTokenRow$Found;", Cond.methodLink RX4 68 yX6_count, Cond.instanceMethod yX6_count, Cond.selects RX6 yX6_count yX6_count, Cond.code yX6_count cX6_count 1 (some .int), Cond.methodLink RX4 74 yX4_behindWhite, Cond.instanceMethod yX4_behindWhite, Cond.selects RX4 yX4_behindWhite yX4_behindWhite, Cond.code yX4_behindWhite cX4_behindWhite 5 (some .int), Cond.methodLink RX4 96 yX6_look, Cond.instanceMethod yX6_look, Cond.selects RX6 yX6_look yX6_look, Cond.code yX6_look cX6_look 2 (some .int), Cond.methodLink RX4 99 yX4_isBlank, Cond.static yX4_isBlank, Cond.code yX4_isBlank cX4_isBlank 1 (some .boolean), Cond.static yX9_isLineEnd, Cond.code yX9_isLineEnd cX9_isLineEnd 1 (some .boolean), Cond.methodLink RX4 102 yX4_behindLine, Cond.instanceMethod yX4_behindLine, Cond.selects RX4 yX4_behindLine yX4_behindLine, Cond.code yX4_behindLine cX4_behindLine 3 (some .int), Cond.methodLink RX4 105 yX4_behindStarAndSlash]
def wsL_read_r4 : List Cond := [Cond.instanceMethod yX4_behindStarAndSlash, Cond.selects RX4 yX4_behindStarAndSlash yX4_behindStarAndSlash, Cond.code yX4_behindStarAndSlash cX4_behindStarAndSlash 3 (some .int), Cond.methodLink RX4 78 yX6_isCutShort, Cond.instanceMethod yX6_isCutShort, Cond.selects RX6 yX6_isCutShort yX6_isCutShort, Cond.code yX6_isCutShort cX6_isCutShort 1 (some .boolean), Cond.methodLink RX4 82 yX4_take, Cond.instanceMethod yX4_take, Cond.selects RX4 yX4_take yX4_take, Cond.code yX4_take cX4_take 3 (some .boolean), Cond.fieldLink RX4 57 "TokenRow$Reader" "numbers" "LTokenRow$Numbers;", Cond.fieldLink RX4 64 "TokenRow$Reader" "quotes" "LTokenRow$Quotes;", Cond.methodLink RX4 111 yX4_isNamePart, Cond.static yX4_isNamePart, Cond.code yX4_isNamePart cX4_isNamePart 1 (some .boolean), Cond.static yX9_isDecimal, Cond.code yX9_isDecimal cX9_isDecimal 1 (some .boolean), Cond.methodLink RX9 123 yX9_digitOf, Cond.methodLink RX4 117 yX4_takeName, Cond.instanceMethod yX4_takeName, Cond.selects RX4 yX4_takeName yX4_takeName, Cond.code yX4_takeName cX4_takeName 6 (some .boolean), Cond.fieldLink RX4 29 "TokenRow$Reader" "words" "LTokenRow$Spellings;"]
def wsL_read_r5 : List Cond := [Cond.methodLink RX4 138 yX7_longest, Cond.instanceMethod yX7_longest, Cond.selects RX7 yX7_longest yX7_longest, Cond.initialized RX7, Cond.code yX7_longest cX7_longest 6 (some .int), Cond.fieldLink RX7 19 "TokenRow$Spellings" "count" "I", Cond.fieldLink RX7 9 "TokenRow$Spellings" "characters" "[C", Cond.fieldLink RX7 15 "TokenRow$Spellings" "starts" "[I", Cond.methodLink RX7 37 yX6_look, Cond.methodLink RX7 43 yX7_isThere, Cond.instanceMethod yX7_isThere, Cond.selects RX7 yX7_isThere yX7_isThere, Cond.code yX7_isThere cX7_isThere 6 (some .boolean), Cond.methodLink RX7 47 yX7_lengthOf, Cond.instanceMethod yX7_lengthOf, Cond.selects RX7 yX7_lengthOf yX7_lengthOf, Cond.code yX7_lengthOf cX7_lengthOf 2 (some .int), Cond.methodLink RX4 142 yX7_lengthOf, Cond.methodLink RX4 145 yX1_set, Cond.instanceMethod yX1_set, Cond.selects RX1 yX1_set yX1_set, Cond.initialized RX1, Cond.code yX1_set cX1_set 6 none, Cond.fieldLink RX1 7 "TokenRow$Found" "kind" "I"]
def wsL_read_r6 : List Cond := [Cond.fieldLink RX1 13 "TokenRow$Found" "says" "J", Cond.fieldLink RX1 17 "TokenRow$Found" "start" "I", Cond.fieldLink RX1 20 "TokenRow$Found" "behind" "I", Cond.methodLink RX4 120 yX2_measureBroken, Cond.instanceMethod yX2_measureBroken, Cond.selects RX2 yX2_measureBroken yX2_measureBroken, Cond.initialized RX2, Cond.code yX2_measureBroken cX2_measureBroken 7 (some .boolean), Cond.fieldLink RX2 39 "TokenRow$Numbers" "base" "I", Cond.fieldLink RX2 43 "TokenRow$Numbers" "first" "I", Cond.fieldLink RX2 9 "TokenRow$Numbers" "source" "LTokenRow$Source;", Cond.fieldLink RX2 56 "TokenRow$Numbers" "significandEnd" "I", Cond.fieldLink RX2 63 "TokenRow$Numbers" "exponentEnd" "I", Cond.methodLink RX2 35 yX2_hasMark, Cond.instanceMethod yX2_hasMark, Cond.selects RX2 yX2_hasMark yX2_hasMark, Cond.code yX2_hasMark cX2_hasMark 4 (some .boolean), Cond.methodLink RX2 50 yX6_look, Cond.methodLink RX2 104 yX2_isEither, Cond.instanceMethod yX2_isEither, Cond.selects RX2 yX2_isEither yX2_isEither, Cond.code yX2_isEither cX2_isEither 4 (some .boolean), Cond.methodLink RX2 46 yX2_behindDigits, Cond.instanceMethod yX2_behindDigits]
def wsL_read_r7 : List Cond := [Cond.selects RX2 yX2_behindDigits yX2_behindDigits, Cond.code yX2_behindDigits cX2_behindDigits 5 (some .int), Cond.methodLink RX2 124 yX6_count, Cond.methodLink RX2 59 yX2_behindExponent, Cond.instanceMethod yX2_behindExponent, Cond.selects RX2 yX2_behindExponent yX2_behindExponent, Cond.code yX2_behindExponent cX2_behindExponent 6 (some .int), Cond.methodLink RX2 66 yX2_isFloatLetter, Cond.instanceMethod yX2_isFloatLetter, Cond.selects RX2 yX2_isFloatLetter yX2_isFloatLetter, Cond.code yX2_isFloatLetter cX2_isFloatLetter 2 (some .boolean), Cond.methodLink RX2 70 yX2_isDoubleLetter, Cond.instanceMethod yX2_isDoubleLetter, Cond.selects RX2 yX2_isDoubleLetter yX2_isDoubleLetter, Cond.code yX2_isDoubleLetter cX2_isDoubleLetter 2 (some .boolean), Cond.methodLink RX4 123 yX2_takeBroken, Cond.instanceMethod yX2_takeBroken, Cond.selects RX2 yX2_takeBroken yX2_takeBroken, Cond.code yX2_takeBroken cX2_takeBroken 7 (some .boolean), Cond.fieldLink RX2 31 "TokenRow$Numbers" "rounding" "LTokenRow$Rounding;", Cond.fieldLink RX2 15 "TokenRow$Numbers" "found" "LTokenRow$Found;", Cond.methodLink RX2 73 yX2_sumUp, Cond.instanceMethod yX2_sumUp, Cond.selects RX2 yX2_sumUp yX2_sumUp]
def wsL_read_r8 : List Cond := [Cond.code yX2_sumUp cX2_sumUp 7 (some .int), Cond.fieldLink RX2 22 "TokenRow$Numbers" "digits" "LTokenRow$Big;", Cond.methodLink RX2 127 yX0_set, Cond.instanceMethod yX0_set, Cond.selects RX0 yX0_set yX0_set, Cond.initialized RX0, Cond.code yX0_set cX0_set 2 none, Cond.fieldLink RX0 9 "TokenRow$Big" "limbs" "[I", Cond.fieldLink RX0 13 "TokenRow$Big" "used" "I", Cond.methodLink RX2 129 yX0_timesPlus, Cond.instanceMethod yX0_timesPlus, Cond.selects RX0 yX0_timesPlus yX0_timesPlus, Cond.code yX0_timesPlus cX0_timesPlus 6 none, Cond.constantLong RX0 17 (4294967295), Cond.methodLink RX2 76 yX2_readExponent, Cond.instanceMethod yX2_readExponent, Cond.selects RX2 yX2_readExponent yX2_readExponent, Cond.code yX2_readExponent cX2_readExponent 3 (some .int), Cond.constant RX2 144 (1000000), Cond.methodLink RX2 80 yX2_bounded, Cond.static yX2_bounded, Cond.code yX2_bounded cX2_bounded 1 (some .int), Cond.methodLink RX2 133 Lib.Math.min.name, Cond.methodLink RX2 138 Lib.Math.max.name]
def wsL_read_r9 : List Cond := [Cond.static Lib.Math.max.name, Cond.code Lib.Math.max.name Lib.Math.max.code 2 (some .int), Cond.methodLink RX2 83 yX5_scaleByFive, Cond.instanceMethod yX5_scaleByFive, Cond.selects RX5 yX5_scaleByFive yX5_scaleByFive, Cond.initialized RX5, Cond.code yX5_scaleByFive cX5_scaleByFive 2 none, Cond.fieldLink RX5 16 "TokenRow$Rounding" "denominator" "LTokenRow$Big;", Cond.fieldLink RX5 7 "TokenRow$Rounding" "numerator" "LTokenRow$Big;", Cond.methodLink RX5 23 yX0_set, Cond.methodLink RX5 27 yX0_timesPowerOfFive, Cond.instanceMethod yX0_timesPowerOfFive, Cond.selects RX0 yX0_timesPowerOfFive yX0_timesPowerOfFive, Cond.code yX0_timesPowerOfFive cX0_timesPowerOfFive 3 none, Cond.constant RX0 25 (1220703125), Cond.methodLink RX0 26 yX0_timesPlus, Cond.methodLink RX2 87 yX5_round, Cond.instanceMethod yX5_round, Cond.selects RX5 yX5_round yX5_round, Cond.code yX5_round cX5_round 8 (some .boolean), Cond.fieldLink RX5 19 "TokenRow$Rounding" "bits" "J", Cond.methodLink RX5 38 Lib.Math.max.name, Cond.methodLink RX5 30 yX0_isZero, Cond.instanceMethod yX0_isZero]
def wsL_read_r10 : List Cond := [Cond.selects RX0 yX0_isZero yX0_isZero, Cond.code yX0_isZero cX0_isZero 1 (some .boolean), Cond.methodLink RX5 34 yX5_align, Cond.instanceMethod yX5_align, Cond.selects RX5 yX5_align yX5_align, Cond.code yX5_align cX5_align 2 (some .int), Cond.methodLink RX5 48 yX0_bitLength, Cond.instanceMethod yX0_bitLength, Cond.selects RX0 yX0_bitLength yX0_bitLength, Cond.code yX0_bitLength cX0_bitLength 1 (some .int), Cond.methodLink RX0 19 yJ6_numberOfLeadingZeros_0f7a4, Cond.static yJ6_numberOfLeadingZeros_0f7a4, Cond.initialized RJ6, Cond.code yJ6_numberOfLeadingZeros_0f7a4 cJ6_numberOfLeadingZeros_0f7a4 2 (some .int), Cond.constant RJ6 264 (65536), Cond.methodLink RX5 51 yX0_shiftLeft, Cond.instanceMethod yX0_shiftLeft, Cond.selects RX0 yX0_shiftLeft yX0_shiftLeft, Cond.code yX0_shiftLeft cX0_shiftLeft 8 none, Cond.methodLink RX0 30 Lib.Math.min.name, Cond.methodLink RX0 36 yX0_limbOrZero, Cond.instanceMethod yX0_limbOrZero, Cond.selects RX0 yX0_limbOrZero yX0_limbOrZero, Cond.code yX0_limbOrZero cX0_limbOrZero 2 (some .long)]
def wsL_read_r11 : List Cond := [Cond.methodLink RX0 40 yX0_dropZeros, Cond.instanceMethod yX0_dropZeros, Cond.selects RX0 yX0_dropZeros yX0_dropZeros, Cond.code yX0_dropZeros cX0_dropZeros 1 none, Cond.methodLink RX5 54 yX0_compareWith, Cond.instanceMethod yX0_compareWith, Cond.selects RX0 yX0_compareWith yX0_compareWith, Cond.code yX0_compareWith cX0_compareWith 3 (some .int), Cond.methodLink RX5 44 yX5_divide, Cond.instanceMethod yX5_divide, Cond.selects RX5 yX5_divide yX5_divide, Cond.code yX5_divide cX5_divide 6 (some .long), Cond.constantLong RX5 58 (2), Cond.methodLink RX5 60 yX0_subtract, Cond.instanceMethod yX0_subtract, Cond.selects RX0 yX0_subtract yX0_subtract, Cond.code yX0_subtract cX0_subtract 7 none, Cond.methodLink RX5 64 yX0_timesPlus, Cond.methodLink RX2 91 yX5_bits, Cond.instanceMethod yX5_bits, Cond.selects RX5 yX5_bits yX5_bits, Cond.code yX5_bits cX5_bits 1 (some .long), Cond.methodLink RX2 95 yX1_set, Cond.methodLink RX4 126 yX2_takeWhole]
def wsL_read_r12 : List Cond := [Cond.instanceMethod yX2_takeWhole, Cond.selects RX2 yX2_takeWhole yX2_takeWhole, Cond.code yX2_takeWhole cX2_takeWhole 7 (some .boolean), Cond.methodLink RX2 101 yX2_chooseBase, Cond.instanceMethod yX2_chooseBase, Cond.selects RX2 yX2_chooseBase yX2_chooseBase, Cond.code yX2_chooseBase cX2_chooseBase 4 none, Cond.methodLink RX2 107 yX0_low, Cond.instanceMethod yX0_low, Cond.selects RX0 yX0_low yX0_low, Cond.code yX0_low cX0_low 5 (some .long), Cond.methodLink RX2 110 yX0_bitLength, Cond.methodLink RX2 113 yX2_isAtMostMinimum, Cond.static yX2_isAtMostMinimum, Cond.code yX2_isAtMostMinimum cX2_isAtMostMinimum 3 (some .boolean), Cond.constantLong RX2 120 (-9223372036854775808), Cond.constantLong RX2 122 (2147483648), Cond.methodLink RX4 129 yX3_takeCharacter, Cond.instanceMethod yX3_takeCharacter, Cond.selects RX3 yX3_takeCharacter yX3_takeCharacter, Cond.initialized RX3, Cond.code yX3_takeCharacter cX3_takeCharacter 3 (some .boolean), Cond.fieldLink RX3 9 "TokenRow$Quotes" "source" "LTokenRow$Source;", Cond.fieldLink RX3 15 "TokenRow$Quotes" "found" "LTokenRow$Found;"]
def wsL_read_r13 : List Cond := [Cond.fieldLink RX3 28 "TokenRow$Quotes" "character" "I", Cond.methodLink RX3 19 yX6_look, Cond.methodLink RX3 25 yX3_behindOne, Cond.instanceMethod yX3_behindOne, Cond.selects RX3 yX3_behindOne yX3_behindOne, Cond.code yX3_behindOne cX3_behindOne 2 (some .int), Cond.methodLink RX3 46 yX3_behindEscape, Cond.instanceMethod yX3_behindEscape, Cond.selects RX3 yX3_behindEscape yX3_behindEscape, Cond.code yX3_behindEscape cX3_behindEscape 3 (some .int), Cond.methodLink RX3 52 yX3_behindOctal, Cond.instanceMethod yX3_behindOctal, Cond.selects RX3 yX3_behindOctal yX3_behindOctal, Cond.code yX3_behindOctal cX3_behindOctal 4 (some .int), Cond.methodLink RX3 55 yX3_escaped, Cond.static yX3_escaped, Cond.code yX3_escaped cX3_escaped 1 (some .int), Cond.methodLink RX3 32 yX1_set, Cond.methodLink RX4 132 yX3_takeString, Cond.instanceMethod yX3_takeString, Cond.selects RX3 yX3_takeString yX3_takeString, Cond.code yX3_takeString cX3_takeString 5 (some .boolean), Cond.methodLink RX3 38 yX6_put, Cond.instanceMethod yX6_put]
def wsL_read_r14 : List Cond := [Cond.selects RX6 yX6_put yX6_put, Cond.code yX6_put cX6_put 3 none, Cond.methodLink RX4 135 yX4_takeSign, Cond.instanceMethod yX4_takeSign, Cond.selects RX4 yX4_takeSign yX4_takeSign, Cond.code yX4_takeSign cX4_takeSign 3 (some .boolean), Cond.fieldLink RX4 45 "TokenRow$Reader" "signs" "LTokenRow$Spellings;", Cond.methodLink RX4 86 yX8_add, Cond.instanceMethod yX8_add, Cond.selects RX8 yX8_add yX8_add, Cond.code yX8_add cX8_add 3 none, Cond.fieldLink RX8 9 "TokenRow$Store" "kinds" "[I", Cond.fieldLink RX8 15 "TokenRow$Store" "joined" "[Z", Cond.fieldLink RX8 19 "TokenRow$Store" "says" "[J", Cond.fieldLink RX8 23 "TokenRow$Store" "starts" "[I", Cond.methodLink RX9 76 yX8_count, Cond.instanceMethod yX8_count, Cond.selects RX8 yX8_count yX8_count, Cond.code yX8_count cX8_count 1 (some .int)]
def wsL_read : List Cond := .codeWith yL_read cL_read 3 (some .int) [(0, 8, 11, 25)] :: ((wsL_read_r1 ++ (wsL_read_r2 ++ (wsL_read_r3 ++ (wsL_read_r4 ++ (wsL_read_r5 ++ (wsL_read_r6 ++ (wsL_read_r7 ++ (wsL_read_r8 ++ (wsL_read_r9 ++ (wsL_read_r10 ++ (wsL_read_r11 ++ (wsL_read_r12 ++ (wsL_read_r13 ++ wsL_read_r14))))))))))))) ++ wsX90 ++ wsX80 ++ wsX60 ++ wsX40 ++ wsX10 ++ wsX70 ++ wsX20 ++ wsX00 ++ wsX50 ++ wsX30 ++ (vx_at0 RX9 82 "java/lang/UnsupportedOperationException" ["java/lang/RuntimeException", "java/lang/Exception"]).filter goodWord)
def wsL_kind_r1 : List Cond := [Cond.classLink RL 30 "java/lang/IndexOutOfBoundsException", Cond.methodLink RL 27 yX9_kind, Cond.instanceMethod yX9_kind, Cond.selects RX9 yX9_kind yX9_kind, Cond.initialized RX9, Cond.code yX9_kind cX9_kind 2 (some .int), Cond.fieldLink RX9 27 "TokenRow" "store" "LTokenRow$Store;", Cond.methodLink RX9 89 yX9_demandToken, Cond.instanceMethod yX9_demandToken, Cond.selects RX9 yX9_demandToken yX9_demandToken, Cond.code yX9_demandToken cX9_demandToken 2 none, Cond.classLink RX9 107 "java/lang/IndexOutOfBoundsException", Cond.initialized "java/lang/IndexOutOfBoundsException", Cond.methodLink RX9 83 Lib.Math.min.name, Cond.static Lib.Math.min.name, Cond.initialized "java/lang/Math", Cond.code Lib.Math.min.name Lib.Math.min.code 2 (some .int), Cond.methodLink RX9 76 yX8_count, Cond.instanceMethod yX8_count, Cond.selects RX8 yX8_count yX8_count, Cond.initialized RX8, Cond.code yX8_count cX8_count 1 (some .int), Cond.fieldLink RX8 26 "TokenRow$Store" "count" "I", Cond.methodLink RX9 92 yX8_kindOf]
def wsL_kind_r2 : List Cond := [Cond.instanceMethod yX8_kindOf, Cond.selects RX8 yX8_kindOf yX8_kindOf, Cond.code yX8_kindOf cX8_kindOf 2 (some .int), Cond.fieldLink RX8 9 "TokenRow$Store" "kinds" "[I"]
def wsL_kind : List Cond := .codeWith yL_kind cL_kind 4 (some .int) [(0, 9, 12, 30)] :: ((wsL_kind_r1 ++ wsL_kind_r2) ++ wsX90 ++ wsX80 ++ (vx_at0 RX9 109 "java/lang/IndexOutOfBoundsException" ["java/lang/RuntimeException", "java/lang/Exception"]).filter goodWord)
def wsL_glued_r1 : List Cond := [Cond.classLink RL 30 "java/lang/IndexOutOfBoundsException", Cond.methodLink RL 32 yX9_glued, Cond.instanceMethod yX9_glued, Cond.selects RX9 yX9_glued yX9_glued, Cond.initialized RX9, Cond.code yX9_glued cX9_glued 2 (some .boolean), Cond.fieldLink RX9 27 "TokenRow" "store" "LTokenRow$Store;", Cond.methodLink RX9 89 yX9_demandToken, Cond.instanceMethod yX9_demandToken, Cond.selects RX9 yX9_demandToken yX9_demandToken, Cond.code yX9_demandToken cX9_demandToken 2 none, Cond.classLink RX9 107 "java/lang/IndexOutOfBoundsException", Cond.initialized "java/lang/IndexOutOfBoundsException", Cond.methodLink RX9 83 Lib.Math.min.name, Cond.static Lib.Math.min.name, Cond.initialized "java/lang/Math", Cond.code Lib.Math.min.name Lib.Math.min.code 2 (some .int), Cond.methodLink RX9 76 yX8_count, Cond.instanceMethod yX8_count, Cond.selects RX8 yX8_count yX8_count, Cond.initialized RX8, Cond.code yX8_count cX8_count 1 (some .int), Cond.fieldLink RX8 26 "TokenRow$Store" "count" "I", Cond.methodLink RX9 96 yX8_isJoined]
def wsL_glued_r2 : List Cond := [Cond.instanceMethod yX8_isJoined, Cond.selects RX8 yX8_isJoined yX8_isJoined, Cond.code yX8_isJoined cX8_isJoined 2 (some .boolean), Cond.fieldLink RX8 15 "TokenRow$Store" "joined" "[Z"]
def wsL_glued : List Cond := .codeWith yL_glued cL_glued 4 (some .int) [(0, 16, 19, 30)] :: ((wsL_glued_r1 ++ wsL_glued_r2) ++ wsX90 ++ wsX80 ++ (vx_at0 RX9 109 "java/lang/IndexOutOfBoundsException" ["java/lang/RuntimeException", "java/lang/Exception"]).filter goodWord)
def wsL_value_r1 : List Cond := [Cond.classLink RL 30 "java/lang/IndexOutOfBoundsException", Cond.methodLink RL 36 yX9_value, Cond.instanceMethod yX9_value, Cond.selects RX9 yX9_value yX9_value, Cond.initialized RX9, Cond.code yX9_value cX9_value 2 (some .long), Cond.fieldLink RX9 27 "TokenRow" "store" "LTokenRow$Store;", Cond.methodLink RX9 89 yX9_demandToken, Cond.instanceMethod yX9_demandToken, Cond.selects RX9 yX9_demandToken yX9_demandToken, Cond.code yX9_demandToken cX9_demandToken 2 none, Cond.classLink RX9 107 "java/lang/IndexOutOfBoundsException", Cond.initialized "java/lang/IndexOutOfBoundsException", Cond.methodLink RX9 83 Lib.Math.min.name, Cond.static Lib.Math.min.name, Cond.initialized "java/lang/Math", Cond.code Lib.Math.min.name Lib.Math.min.code 2 (some .int), Cond.methodLink RX9 76 yX8_count, Cond.instanceMethod yX8_count, Cond.selects RX8 yX8_count yX8_count, Cond.initialized RX8, Cond.code yX8_count cX8_count 1 (some .int), Cond.fieldLink RX8 26 "TokenRow$Store" "count" "I", Cond.methodLink RX9 100 yX8_whatSays]
def wsL_value_r2 : List Cond := [Cond.instanceMethod yX8_whatSays, Cond.selects RX8 yX8_whatSays yX8_whatSays, Cond.code yX8_whatSays cX8_whatSays 2 (some .long), Cond.fieldLink RX8 19 "TokenRow$Store" "says" "[J"]
def wsL_value : List Cond := .codeWith yL_value cL_value 4 (some .int) [(0, 8, 11, 30)] :: ((wsL_value_r1 ++ wsL_value_r2) ++ wsX90 ++ wsX80 ++ (vx_at0 RX9 109 "java/lang/IndexOutOfBoundsException" ["java/lang/RuntimeException", "java/lang/Exception"]).filter goodWord)
def wsL_at_r1 : List Cond := [Cond.classLink RL 30 "java/lang/IndexOutOfBoundsException", Cond.methodLink RL 40 yX9_at, Cond.instanceMethod yX9_at, Cond.selects RX9 yX9_at yX9_at, Cond.initialized RX9, Cond.code yX9_at cX9_at 3 (some .int), Cond.classLink RX9 107 "java/lang/IndexOutOfBoundsException", Cond.initialized "java/lang/IndexOutOfBoundsException", Cond.fieldLink RX9 27 "TokenRow" "store" "LTokenRow$Store;", Cond.fieldLink RX9 20 "TokenRow" "source" "LTokenRow$Source;", Cond.methodLink RX9 89 yX9_demandToken, Cond.instanceMethod yX9_demandToken, Cond.selects RX9 yX9_demandToken yX9_demandToken, Cond.code yX9_demandToken cX9_demandToken 2 none, Cond.methodLink RX9 83 Lib.Math.min.name, Cond.static Lib.Math.min.name, Cond.initialized "java/lang/Math", Cond.code Lib.Math.min.name Lib.Math.min.code 2 (some .int), Cond.methodLink RX9 76 yX8_count, Cond.instanceMethod yX8_count, Cond.selects RX8 yX8_count yX8_count, Cond.initialized RX8, Cond.code yX8_count cX8_count 1 (some .int), Cond.fieldLink RX8 26 "TokenRow$Store" "count" "I"]
def wsL_at_r2 : List Cond := [Cond.methodLink RX9 104 yX8_lengthOf, Cond.instanceMethod yX8_lengthOf, Cond.selects RX8 yX8_lengthOf yX8_lengthOf, Cond.code yX8_lengthOf cX8_lengthOf 2 (some .int), Cond.fieldLink RX8 19 "TokenRow$Store" "says" "[J", Cond.methodLink RX8 41 yX8_isSpelled, Cond.instanceMethod yX8_isSpelled, Cond.selects RX8 yX8_isSpelled yX8_isSpelled, Cond.code yX8_isSpelled cX8_isSpelled 2 (some .boolean), Cond.fieldLink RX8 9 "TokenRow$Store" "kinds" "[I", Cond.methodLink RX9 110 yX8_startOf, Cond.instanceMethod yX8_startOf, Cond.selects RX8 yX8_startOf yX8_startOf, Cond.code yX8_startOf cX8_startOf 2 (some .int), Cond.fieldLink RX8 23 "TokenRow$Store" "starts" "[I", Cond.methodLink RX9 113 yX6_look, Cond.instanceMethod yX6_look, Cond.selects RX6 yX6_look yX6_look, Cond.initialized RX6, Cond.code yX6_look cX6_look 2 (some .int), Cond.fieldLink RX6 16 "TokenRow$Source" "count" "I", Cond.fieldLink RX6 10 "TokenRow$Source" "characters" "[C"]
def wsL_at : List Cond := .codeWith yL_at cL_at 5 (some .int) [(0, 10, 13, 30)] :: ((wsL_at_r1 ++ wsL_at_r2) ++ wsX90 ++ wsX80 ++ wsX60 ++ (vx_at0 RX9 109 "java/lang/IndexOutOfBoundsException" ["java/lang/RuntimeException", "java/lang/Exception"]).filter goodWord)
def wsL_same_r1 : List Cond := [Cond.classLink RL 30 "java/lang/IndexOutOfBoundsException", Cond.methodLink RL 44 yX9_same, Cond.instanceMethod yX9_same, Cond.selects RX9 yX9_same yX9_same, Cond.initialized RX9, Cond.code yX9_same cX9_same 3 (some .int), Cond.fieldLink RX9 27 "TokenRow" "store" "LTokenRow$Store;", Cond.methodLink RX9 89 yX9_demandToken, Cond.instanceMethod yX9_demandToken, Cond.selects RX9 yX9_demandToken yX9_demandToken, Cond.code yX9_demandToken cX9_demandToken 2 none, Cond.classLink RX9 107 "java/lang/IndexOutOfBoundsException", Cond.initialized "java/lang/IndexOutOfBoundsException", Cond.methodLink RX9 83 Lib.Math.min.name, Cond.static Lib.Math.min.name, Cond.initialized "java/lang/Math", Cond.code Lib.Math.min.name Lib.Math.min.code 2 (some .int), Cond.methodLink RX9 76 yX8_count, Cond.instanceMethod yX8_count, Cond.selects RX8 yX8_count yX8_count, Cond.initialized RX8, Cond.code yX8_count cX8_count 1 (some .int), Cond.fieldLink RX8 26 "TokenRow$Store" "count" "I", Cond.methodLink RX9 116 yX8_isSpelled]
def wsL_same_r2 : List Cond := [Cond.instanceMethod yX8_isSpelled, Cond.selects RX8 yX8_isSpelled yX8_isSpelled, Cond.code yX8_isSpelled cX8_isSpelled 2 (some .boolean), Cond.fieldLink RX8 9 "TokenRow$Store" "kinds" "[I", Cond.methodLink RX9 119 yX9_areAlike, Cond.instanceMethod yX9_areAlike, Cond.selects RX9 yX9_areAlike yX9_areAlike, Cond.code yX9_areAlike cX9_areAlike 5 (some .boolean), Cond.fieldLink RX9 20 "TokenRow" "source" "LTokenRow$Source;", Cond.methodLink RX9 104 yX8_lengthOf, Cond.instanceMethod yX8_lengthOf, Cond.selects RX8 yX8_lengthOf yX8_lengthOf, Cond.code yX8_lengthOf cX8_lengthOf 2 (some .int), Cond.fieldLink RX8 19 "TokenRow$Store" "says" "[J", Cond.methodLink RX8 41 yX8_isSpelled, Cond.methodLink RX9 110 yX8_startOf, Cond.instanceMethod yX8_startOf, Cond.selects RX8 yX8_startOf yX8_startOf, Cond.code yX8_startOf cX8_startOf 2 (some .int), Cond.fieldLink RX8 23 "TokenRow$Store" "starts" "[I", Cond.methodLink RX9 113 yX6_look, Cond.instanceMethod yX6_look, Cond.selects RX6 yX6_look yX6_look, Cond.initialized RX6]
def wsL_same_r3 : List Cond := [Cond.code yX6_look cX6_look 2 (some .int), Cond.fieldLink RX6 16 "TokenRow$Source" "count" "I", Cond.fieldLink RX6 10 "TokenRow$Source" "characters" "[C"]
def wsL_same : List Cond := .codeWith yL_same cL_same 4 (some .int) [(0, 9, 12, 30)] :: ((wsL_same_r1 ++ (wsL_same_r2 ++ wsL_same_r3)) ++ wsX90 ++ wsX80 ++ wsX60 ++ (vx_at0 RX9 109 "java/lang/IndexOutOfBoundsException" ["java/lang/RuntimeException", "java/lang/Exception"]).filter goodWord)
def wsL_law0_r1 : List Cond := [Cond.classLink RL 8 RX9, Cond.instantiable RX9 8, Cond.initialized RX9, Cond.classLink RL 48 RX11, Cond.instantiable RX11 21, Cond.initialized RX11, Cond.arrayClass .long, Cond.methodLink RL 47 yX9_init, Cond.instanceMethod yX9_init, Cond.code yX9_init cX9_init 1 none, Cond.methodLink RX9 1 objectInit, Cond.instanceMethod objectInit, Cond.code objectInit ⟨#[0xb1]⟩ 1 none, Cond.constant RX9 9 (81920), Cond.arrayClass .byte, Cond.fieldLink RX9 10 "TokenRow" "coming" "[B", Cond.fieldLink RX9 14 "TokenRow" "text" "[B", Cond.classLink RX9 17 RX6, Cond.instantiable RX6 3, Cond.initialized RX6, Cond.fieldLink RX9 20 "TokenRow" "source" "LTokenRow$Source;", Cond.classLink RX9 24 RX8, Cond.instantiable RX8 5, Cond.initialized RX8]
def wsL_law0_r2 : List Cond := [Cond.fieldLink RX9 27 "TokenRow" "store" "LTokenRow$Store;", Cond.classLink RX9 31 RX4, Cond.instantiable RX4 7, Cond.initialized RX4, Cond.fieldLink RX9 36 "TokenRow" "reader" "LTokenRow$Reader;", Cond.fieldLink RX9 40 "TokenRow" "goodBeforeWrong" "I", Cond.instanceMethod yX6_init, Cond.code yX6_init cX6_init 1 none, Cond.methodLink RX6 3 objectInit, Cond.constant RX6 9 (81920), Cond.arrayClass .char, Cond.fieldLink RX6 10 "TokenRow$Source" "characters" "[C", Cond.instanceMethod yX8_init, Cond.code yX8_init cX8_init 1 none, Cond.methodLink RX8 3 objectInit, Cond.arrayClass .int, Cond.fieldLink RX8 9 "TokenRow$Store" "kinds" "[I", Cond.arrayClass .boolean, Cond.fieldLink RX8 15 "TokenRow$Store" "joined" "[Z", Cond.fieldLink RX8 19 "TokenRow$Store" "says" "[J", Cond.fieldLink RX8 23 "TokenRow$Store" "starts" "[I", Cond.methodLink RX9 33 yX4_init, Cond.instanceMethod yX4_init, Cond.code yX4_init cX4_init 3 none]
def wsL_law0_r3 : List Cond := [Cond.methodLink RX4 3 objectInit, Cond.fieldLink RX4 9 "TokenRow$Reader" "source" "LTokenRow$Source;", Cond.fieldLink RX4 15 "TokenRow$Reader" "store" "LTokenRow$Store;", Cond.classLink RX4 19 RX1, Cond.instantiable RX1 4, Cond.initialized RX1, Cond.fieldLink RX4 22 "TokenRow$Reader" "found" "LTokenRow$Found;", Cond.classLink RX4 26 RX7, Cond.instantiable RX7 3, Cond.initialized RX7, Cond.fieldLink RX4 29 "TokenRow$Reader" "words" "LTokenRow$Spellings;", Cond.fieldLink RX4 45 "TokenRow$Reader" "signs" "LTokenRow$Spellings;", Cond.classLink RX4 52 RX2, Cond.instantiable RX2 8, Cond.initialized RX2, Cond.fieldLink RX4 57 "TokenRow$Reader" "numbers" "LTokenRow$Numbers;", Cond.classLink RX4 61 RX3, Cond.instantiable RX3 3, Cond.initialized RX3, Cond.fieldLink RX4 64 "TokenRow$Reader" "quotes" "LTokenRow$Quotes;", Cond.instanceMethod yX1_init, Cond.code yX1_init cX1_init 1 none, Cond.methodLink RX1 1 objectInit, Cond.instanceMethod yX7_init]
def wsL_law0_r4 : List Cond := [Cond.code yX7_init cX7_init 1 none, Cond.methodLink RX7 3 objectInit, Cond.fieldLink RX7 9 "TokenRow$Spellings" "characters" "[C", Cond.fieldLink RX7 15 "TokenRow$Spellings" "starts" "[I", Cond.methodLink RX4 35 yX7_addAll, Cond.instanceMethod yX7_addAll, Cond.selects RX7 yX7_addAll yX7_addAll, Cond.code yX7_addAll cX7_addAll 4 none, Cond.fieldLink RX7 19 "TokenRow$Spellings" "count" "I", Cond.methodLink RX7 23 yJ0_length_8abf5, Cond.instanceMethod yJ0_length_8abf5, Cond.selects RJ0 yJ0_length_8abf5 yJ0_length_8abf5, Cond.initialized RJ0, Cond.code yJ0_length_8abf5 cJ0_length_8abf5 1 (some .int), Cond.fieldLink RJ0 9 "java/lang/String" "value" "[B", Cond.methodLink RJ0 335 yJ0_coder_7d493, Cond.instanceMethod yJ0_coder_7d493, Cond.selects RJ0 yJ0_coder_7d493 yJ0_coder_7d493, Cond.code yJ0_coder_7d493 cJ0_coder_7d493 1 (some .byte), Cond.fieldLink RJ0 38 "java/lang/String" "COMPACT_STRINGS" "Z", Cond.fieldLink RJ0 15 "java/lang/String" "coder" "B", Cond.methodLink RX7 29 yJ0_charAt_5068e, Cond.instanceMethod yJ0_charAt_5068e, Cond.selects RJ0 yJ0_charAt_5068e yJ0_charAt_5068e]
def wsL_law0_r5 : List Cond := [Cond.code yJ0_charAt_5068e cJ0_charAt_5068e 2 (some .char), Cond.methodLink RJ0 492 yJ0_isLatin1_aae02, Cond.instanceMethod yJ0_isLatin1_aae02, Cond.selects RJ0 yJ0_isLatin1_aae02 yJ0_isLatin1_aae02, Cond.code yJ0_isLatin1_aae02 cJ0_isLatin1_aae02 1 (some .boolean), Cond.methodLink RJ0 495 yJ1_charAt_3b067, Cond.static yJ1_charAt_3b067, Cond.initialized RJ1, Cond.code yJ1_charAt_3b067 cJ1_charAt_3b067 2 (some .char), Cond.methodLink RJ1 9 yJ0_checkIndex_df160, Cond.static yJ0_checkIndex_df160, Cond.code yJ0_checkIndex_df160 cJ0_checkIndex_df160 2 none, Cond.fieldLink RJ0 1053 "jdk/internal/util/Preconditions" "SIOOBE_FORMATTER" "Ljava/util/function/BiFunction;", Cond.methodLink RJ0 1059 yJ3_checkIndex_8e157, Cond.static yJ3_checkIndex_8e157, Cond.initialized RJ3, Cond.code yJ3_checkIndex_8e157 cJ3_checkIndex_8e157 3 (some .int), Cond.methodLink RJ0 498 yJ2_charAt_3b067, Cond.static yJ2_charAt_3b067, Cond.initialized RJ2, Cond.code yJ2_charAt_3b067 cJ2_charAt_3b067 2 (some .char), Cond.methodLink RJ2 67 yJ2_checkIndex_2214a, Cond.static yJ2_checkIndex_2214a, Cond.code yJ2_checkIndex_2214a cJ2_checkIndex_2214a 2 none]
def wsL_law0_r6 : List Cond := [Cond.methodLink RJ2 48 yJ2_length_9d52b, Cond.static yJ2_length_9d52b, Cond.code yJ2_length_9d52b cJ2_length_9d52b 1 (some .int), Cond.methodLink RJ2 414 yJ0_checkIndex_df160, Cond.methodLink RJ2 71 yJ2_getChar_3b067, Cond.static yJ2_getChar_3b067, Cond.code yJ2_getChar_3b067 cJ2_getChar_3b067 2 (some .char), Cond.fieldLink RJ2 44 "java/lang/StringUTF16" "$assertionsDisabled" "Z", Cond.fieldLink RJ2 59 "java/lang/StringUTF16" "HI_BYTE_SHIFT" "I", Cond.fieldLink RJ2 63 "java/lang/StringUTF16" "LO_BYTE_SHIFT" "I", Cond.methodLink RX7 33 yX7_close, Cond.instanceMethod yX7_close, Cond.selects RX7 yX7_close yX7_close, Cond.code yX7_close cX7_close 2 none, Cond.methodLink RX4 54 yX2_init, Cond.instanceMethod yX2_init, Cond.code yX2_init cX2_init 3 none, Cond.methodLink RX2 3 objectInit, Cond.fieldLink RX2 9 "TokenRow$Numbers" "source" "LTokenRow$Source;", Cond.fieldLink RX2 15 "TokenRow$Numbers" "found" "LTokenRow$Found;", Cond.classLink RX2 19 RX0, Cond.instantiable RX0 2, Cond.initialized RX0, Cond.fieldLink RX2 22 "TokenRow$Numbers" "digits" "LTokenRow$Big;"]
def wsL_law0_r7 : List Cond := [Cond.classLink RX2 26 RX5, Cond.instantiable RX5 3, Cond.initialized RX5, Cond.fieldLink RX2 31 "TokenRow$Numbers" "rounding" "LTokenRow$Rounding;", Cond.instanceMethod yX0_init, Cond.code yX0_init cX0_init 1 none, Cond.methodLink RX0 1 objectInit, Cond.fieldLink RX0 9 "TokenRow$Big" "limbs" "[I", Cond.methodLink RX2 28 yX5_init, Cond.instanceMethod yX5_init, Cond.code yX5_init cX5_init 2 none, Cond.methodLink RX5 1 objectInit, Cond.fieldLink RX5 7 "TokenRow$Rounding" "numerator" "LTokenRow$Big;", Cond.classLink RX5 13 RX0, Cond.fieldLink RX5 16 "TokenRow$Rounding" "denominator" "LTokenRow$Big;", Cond.methodLink RX4 63 yX3_init, Cond.instanceMethod yX3_init, Cond.code yX3_init cX3_init 3 none, Cond.methodLink RX3 3 objectInit, Cond.fieldLink RX3 9 "TokenRow$Quotes" "source" "LTokenRow$Source;", Cond.fieldLink RX3 15 "TokenRow$Quotes" "found" "LTokenRow$Found;", Cond.methodLink RL 50 yX11_init, Cond.instanceMethod yX11_init, Cond.code yX11_init cX11_init 1 none]
def wsL_law0_r8 : List Cond := [Cond.methodLink RX11 1 objectInit, Cond.classLink RX11 7 RX10, Cond.instantiable RX10 26, Cond.initialized RX10, Cond.fieldLink RX11 10 "TokenRowModel" "reals" "LTokenRowModel$Reals;", Cond.constant RX11 16 (81920), Cond.fieldLink RX11 17 "TokenRowModel" "text" "[B", Cond.constant RX11 21 (81924), Cond.fieldLink RX11 22 "TokenRowModel" "source" "[I", Cond.fieldLink RX11 26 "TokenRowModel" "kinds" "[I", Cond.fieldLink RX11 29 "TokenRowModel" "gluing" "[Z", Cond.fieldLink RX11 33 "TokenRowModel" "values" "[J", Cond.fieldLink RX11 37 "TokenRowModel" "letters" "[I", Cond.fieldLink RX11 40 "TokenRowModel" "first" "[I", Cond.fieldLink RX11 43 "TokenRowModel" "many" "[I", Cond.fieldLink RX11 46 "TokenRowModel" "wrong" "I", Cond.methodLink RX11 9 yX10_init, Cond.instanceMethod yX10_init, Cond.code yX10_init cX10_init 1 none, Cond.methodLink RX10 1 objectInit, Cond.fieldLink RX10 7 "TokenRowModel$Reals" "text" "[I", Cond.fieldLink RX10 13 "TokenRowModel$Reals" "written" "[I", Cond.fieldLink RX10 16 "TokenRowModel$Reals" "a" "[I", Cond.fieldLink RX10 19 "TokenRowModel$Reals" "b" "[I"]
def wsL_law0_r9 : List Cond := [Cond.fieldLink RX10 22 "TokenRowModel$Reals" "five" "[I", Cond.fieldLink RX10 25 "TokenRowModel$Reals" "left" "[I", Cond.fieldLink RX10 28 "TokenRowModel$Reals" "right" "[I", Cond.fieldLink RX10 31 "TokenRowModel$Reals" "part" "[I", Cond.methodLink RL 51 yL_feed, Cond.static yL_feed, Cond.initialized RL, Cond.codeWith yL_feed cL_feed 8 (some .int) [(0, 16, 19, 13)], Cond.classLink RL 13 "java/lang/IllegalStateException", Cond.methodLink RL 7 yX9_feed, Cond.instanceMethod yX9_feed, Cond.selects RX9 yX9_feed yX9_feed, Cond.code yX9_feed cX9_feed 6 (some .int), Cond.classLink RX9 48 "java/lang/IllegalStateException", Cond.initialized "java/lang/IllegalStateException", Cond.fieldLink RX9 44 "TokenRow" "comingCount" "I", Cond.constant RX9 47 (81900), Cond.methodLink RX9 51 yX9_gather, Cond.instanceMethod yX9_gather, Cond.selects RX9 yX9_gather yX9_gather, Cond.code yX9_gather cX9_gather 3 none, Cond.methodLink RL 56 yX11_feed, Cond.instanceMethod yX11_feed, Cond.selects RX11 yX11_feed yX11_feed]
def wsL_law0_r10 : List Cond := [Cond.code yX11_feed cX11_feed 6 (some .int), Cond.fieldLink RX11 53 "TokenRowModel" "came" "I", Cond.fieldLink RX11 50 "TokenRowModel" "thrown" "I", Cond.methodLink RX11 56 yX11_fails, Cond.instanceMethod yX11_fails, Cond.selects RX11 yX11_fails yX11_fails, Cond.code yX11_fails cX11_fails 2 (some .int), Cond.methodLink RX11 60 yX11_add, Cond.instanceMethod yX11_add, Cond.selects RX11 yX11_add yX11_add, Cond.code yX11_add cX11_add 3 none, Cond.methodLink RL 57 yX11_thrown, Cond.instanceMethod yX11_thrown, Cond.selects RX11 yX11_thrown yX11_thrown, Cond.code yX11_thrown cX11_thrown 1 (some .int), Cond.methodLink RL 60 yL_end, Cond.static yL_end, Cond.codeWith yL_end cL_end 4 (some .int) [(0, 9, 12, 19)], Cond.classLink RL 19 "java/lang/IllegalArgumentException", Cond.methodLink RL 15 yX9_end, Cond.instanceMethod yX9_end, Cond.selects RX9 yX9_end yX9_end, Cond.code yX9_end cX9_end 3 (some .int), Cond.classLink RX9 59 "java/lang/IllegalArgumentException"]
def wsL_law0_r11 : List Cond := [Cond.initialized "java/lang/IllegalArgumentException", Cond.fieldLink RX9 62 "TokenRow" "textLength" "I", Cond.methodLink RX9 55 yX9_areCharacters, Cond.static yX9_areCharacters, Cond.code yX9_areCharacters cX9_areCharacters 3 (some .boolean), Cond.methodLink RL 63 yX11_end, Cond.instanceMethod yX11_end, Cond.selects RX11 yX11_end yX11_end, Cond.code yX11_end cX11_end 3 (some .int), Cond.fieldLink RX11 64 "TokenRowModel" "size" "I", Cond.methodLink RX11 67 yX11_translate, Cond.instanceMethod yX11_translate, Cond.selects RX11 yX11_translate yX11_translate, Cond.code yX11_translate cX11_translate 9 none, Cond.fieldLink RX11 70 "TokenRowModel" "length" "I", Cond.methodLink RX11 73 yX11_digit, Cond.static yX11_digit, Cond.code yX11_digit cX11_digit 3 (some .int), Cond.methodLink RL 64 yL_read, Cond.static yL_read, Cond.codeWith yL_read cL_read 3 (some .int) [(0, 8, 11, 25)], Cond.classLink RL 25 "java/lang/UnsupportedOperationException", Cond.methodLink RL 21 yX9_read, Cond.instanceMethod yX9_read]
def wsL_law0_r12 : List Cond := [Cond.selects RX9 yX9_read yX9_read, Cond.code yX9_read cX9_read 1 (some .int), Cond.classLink RX9 80 "java/lang/UnsupportedOperationException", Cond.initialized "java/lang/UnsupportedOperationException", Cond.methodLink RX9 83 Lib.Math.min.name, Cond.static Lib.Math.min.name, Cond.initialized "java/lang/Math", Cond.code Lib.Math.min.name Lib.Math.min.code 2 (some .int), Cond.methodLink RX9 65 yX8_clear, Cond.instanceMethod yX8_clear, Cond.selects RX8 yX8_clear yX8_clear, Cond.code yX8_clear cX8_clear 1 none, Cond.fieldLink RX8 26 "TokenRow$Store" "count" "I", Cond.methodLink RX9 68 yX6_fill, Cond.instanceMethod yX6_fill, Cond.selects RX6 yX6_fill yX6_fill, Cond.code yX6_fill cX6_fill 5 none, Cond.fieldLink RX6 16 "TokenRow$Source" "count" "I", Cond.fieldLink RX6 20 "TokenRow$Source" "cutShort" "Z", Cond.methodLink RX6 24 yX6_addEscape, Cond.instanceMethod yX6_addEscape, Cond.selects RX6 yX6_addEscape yX6_addEscape, Cond.code yX6_addEscape cX6_addEscape 8 (some .int), Cond.static yX9_digitOf]
def wsL_law0_r13 : List Cond := [Cond.code yX9_digitOf cX9_digitOf 1 (some .int), Cond.methodLink RX6 28 yX6_add, Cond.instanceMethod yX6_add, Cond.selects RX6 yX6_add yX6_add, Cond.code yX6_add cX6_add 2 none, Cond.methodLink RX9 72 yX4_takeAll, Cond.instanceMethod yX4_takeAll, Cond.selects RX4 yX4_takeAll yX4_takeAll, Cond.code yX4_takeAll cX4_takeAll 4 (some .boolean), Cond.methodLink RX4 68 yX6_count, Cond.instanceMethod yX6_count, Cond.selects RX6 yX6_count yX6_count, Cond.code yX6_count cX6_count 1 (some .int), Cond.methodLink RX4 74 yX4_behindWhite, Cond.instanceMethod yX4_behindWhite, Cond.selects RX4 yX4_behindWhite yX4_behindWhite, Cond.code yX4_behindWhite cX4_behindWhite 5 (some .int), Cond.methodLink RX4 96 yX6_look, Cond.instanceMethod yX6_look, Cond.selects RX6 yX6_look yX6_look, Cond.code yX6_look cX6_look 2 (some .int), Cond.methodLink RX4 99 yX4_isBlank, Cond.static yX4_isBlank, Cond.code yX4_isBlank cX4_isBlank 1 (some .boolean)]
def wsL_law0_r14 : List Cond := [Cond.static yX9_isLineEnd, Cond.code yX9_isLineEnd cX9_isLineEnd 1 (some .boolean), Cond.methodLink RX4 102 yX4_behindLine, Cond.instanceMethod yX4_behindLine, Cond.selects RX4 yX4_behindLine yX4_behindLine, Cond.code yX4_behindLine cX4_behindLine 3 (some .int), Cond.methodLink RX4 105 yX4_behindStarAndSlash, Cond.instanceMethod yX4_behindStarAndSlash, Cond.selects RX4 yX4_behindStarAndSlash yX4_behindStarAndSlash, Cond.code yX4_behindStarAndSlash cX4_behindStarAndSlash 3 (some .int), Cond.methodLink RX4 78 yX6_isCutShort, Cond.instanceMethod yX6_isCutShort, Cond.selects RX6 yX6_isCutShort yX6_isCutShort, Cond.code yX6_isCutShort cX6_isCutShort 1 (some .boolean), Cond.methodLink RX4 82 yX4_take, Cond.instanceMethod yX4_take, Cond.selects RX4 yX4_take yX4_take, Cond.code yX4_take cX4_take 3 (some .boolean), Cond.methodLink RX4 111 yX4_isNamePart, Cond.static yX4_isNamePart, Cond.code yX4_isNamePart cX4_isNamePart 1 (some .boolean), Cond.static yX9_isDecimal, Cond.code yX9_isDecimal cX9_isDecimal 1 (some .boolean), Cond.methodLink RX9 123 yX9_digitOf]
def wsL_law0_r15 : List Cond := [Cond.methodLink RX4 117 yX4_takeName, Cond.instanceMethod yX4_takeName, Cond.selects RX4 yX4_takeName yX4_takeName, Cond.code yX4_takeName cX4_takeName 6 (some .boolean), Cond.methodLink RX4 138 yX7_longest, Cond.instanceMethod yX7_longest, Cond.selects RX7 yX7_longest yX7_longest, Cond.code yX7_longest cX7_longest 6 (some .int), Cond.methodLink RX7 37 yX6_look, Cond.methodLink RX7 43 yX7_isThere, Cond.instanceMethod yX7_isThere, Cond.selects RX7 yX7_isThere yX7_isThere, Cond.code yX7_isThere cX7_isThere 6 (some .boolean), Cond.methodLink RX7 47 yX7_lengthOf, Cond.instanceMethod yX7_lengthOf, Cond.selects RX7 yX7_lengthOf yX7_lengthOf, Cond.code yX7_lengthOf cX7_lengthOf 2 (some .int), Cond.methodLink RX4 142 yX7_lengthOf, Cond.methodLink RX4 145 yX1_set, Cond.instanceMethod yX1_set, Cond.selects RX1 yX1_set yX1_set, Cond.code yX1_set cX1_set 6 none, Cond.fieldLink RX1 7 "TokenRow$Found" "kind" "I", Cond.fieldLink RX1 13 "TokenRow$Found" "says" "J"]
def wsL_law0_r16 : List Cond := [Cond.fieldLink RX1 17 "TokenRow$Found" "start" "I", Cond.fieldLink RX1 20 "TokenRow$Found" "behind" "I", Cond.methodLink RX4 120 yX2_measureBroken, Cond.instanceMethod yX2_measureBroken, Cond.selects RX2 yX2_measureBroken yX2_measureBroken, Cond.code yX2_measureBroken cX2_measureBroken 7 (some .boolean), Cond.fieldLink RX2 39 "TokenRow$Numbers" "base" "I", Cond.fieldLink RX2 43 "TokenRow$Numbers" "first" "I", Cond.fieldLink RX2 56 "TokenRow$Numbers" "significandEnd" "I", Cond.fieldLink RX2 63 "TokenRow$Numbers" "exponentEnd" "I", Cond.methodLink RX2 35 yX2_hasMark, Cond.instanceMethod yX2_hasMark, Cond.selects RX2 yX2_hasMark yX2_hasMark, Cond.code yX2_hasMark cX2_hasMark 4 (some .boolean), Cond.methodLink RX2 50 yX6_look, Cond.methodLink RX2 104 yX2_isEither, Cond.instanceMethod yX2_isEither, Cond.selects RX2 yX2_isEither yX2_isEither, Cond.code yX2_isEither cX2_isEither 4 (some .boolean), Cond.methodLink RX2 46 yX2_behindDigits, Cond.instanceMethod yX2_behindDigits, Cond.selects RX2 yX2_behindDigits yX2_behindDigits, Cond.code yX2_behindDigits cX2_behindDigits 5 (some .int), Cond.methodLink RX2 124 yX6_count]
def wsL_law0_r17 : List Cond := [Cond.methodLink RX2 59 yX2_behindExponent, Cond.instanceMethod yX2_behindExponent, Cond.selects RX2 yX2_behindExponent yX2_behindExponent, Cond.code yX2_behindExponent cX2_behindExponent 6 (some .int), Cond.methodLink RX2 66 yX2_isFloatLetter, Cond.instanceMethod yX2_isFloatLetter, Cond.selects RX2 yX2_isFloatLetter yX2_isFloatLetter, Cond.code yX2_isFloatLetter cX2_isFloatLetter 2 (some .boolean), Cond.methodLink RX2 70 yX2_isDoubleLetter, Cond.instanceMethod yX2_isDoubleLetter, Cond.selects RX2 yX2_isDoubleLetter yX2_isDoubleLetter, Cond.code yX2_isDoubleLetter cX2_isDoubleLetter 2 (some .boolean), Cond.methodLink RX4 123 yX2_takeBroken, Cond.instanceMethod yX2_takeBroken, Cond.selects RX2 yX2_takeBroken yX2_takeBroken, Cond.code yX2_takeBroken cX2_takeBroken 7 (some .boolean), Cond.methodLink RX2 73 yX2_sumUp, Cond.instanceMethod yX2_sumUp, Cond.selects RX2 yX2_sumUp yX2_sumUp, Cond.code yX2_sumUp cX2_sumUp 7 (some .int), Cond.methodLink RX2 127 yX0_set, Cond.instanceMethod yX0_set, Cond.selects RX0 yX0_set yX0_set, Cond.code yX0_set cX0_set 2 none]
def wsL_law0_r18 : List Cond := [Cond.fieldLink RX0 13 "TokenRow$Big" "used" "I", Cond.methodLink RX2 129 yX0_timesPlus, Cond.instanceMethod yX0_timesPlus, Cond.selects RX0 yX0_timesPlus yX0_timesPlus, Cond.code yX0_timesPlus cX0_timesPlus 6 none, Cond.constantLong RX0 17 (4294967295), Cond.methodLink RX2 76 yX2_readExponent, Cond.instanceMethod yX2_readExponent, Cond.selects RX2 yX2_readExponent yX2_readExponent, Cond.code yX2_readExponent cX2_readExponent 3 (some .int), Cond.constant RX2 144 (1000000), Cond.methodLink RX2 80 yX2_bounded, Cond.static yX2_bounded, Cond.code yX2_bounded cX2_bounded 1 (some .int), Cond.methodLink RX2 133 Lib.Math.min.name, Cond.methodLink RX2 138 Lib.Math.max.name, Cond.static Lib.Math.max.name, Cond.code Lib.Math.max.name Lib.Math.max.code 2 (some .int), Cond.methodLink RX2 83 yX5_scaleByFive, Cond.instanceMethod yX5_scaleByFive, Cond.selects RX5 yX5_scaleByFive yX5_scaleByFive, Cond.code yX5_scaleByFive cX5_scaleByFive 2 none, Cond.methodLink RX5 23 yX0_set, Cond.methodLink RX5 27 yX0_timesPowerOfFive]
def wsL_law0_r19 : List Cond := [Cond.instanceMethod yX0_timesPowerOfFive, Cond.selects RX0 yX0_timesPowerOfFive yX0_timesPowerOfFive, Cond.code yX0_timesPowerOfFive cX0_timesPowerOfFive 3 none, Cond.constant RX0 25 (1220703125), Cond.methodLink RX0 26 yX0_timesPlus, Cond.methodLink RX2 87 yX5_round, Cond.instanceMethod yX5_round, Cond.selects RX5 yX5_round yX5_round, Cond.code yX5_round cX5_round 8 (some .boolean), Cond.fieldLink RX5 19 "TokenRow$Rounding" "bits" "J", Cond.methodLink RX5 38 Lib.Math.max.name, Cond.methodLink RX5 30 yX0_isZero, Cond.instanceMethod yX0_isZero, Cond.selects RX0 yX0_isZero yX0_isZero, Cond.code yX0_isZero cX0_isZero 1 (some .boolean), Cond.methodLink RX5 34 yX5_align, Cond.instanceMethod yX5_align, Cond.selects RX5 yX5_align yX5_align, Cond.code yX5_align cX5_align 2 (some .int), Cond.methodLink RX5 48 yX0_bitLength, Cond.instanceMethod yX0_bitLength, Cond.selects RX0 yX0_bitLength yX0_bitLength, Cond.code yX0_bitLength cX0_bitLength 1 (some .int), Cond.methodLink RX0 19 yJ6_numberOfLeadingZeros_0f7a4]
def wsL_law0_r20 : List Cond := [Cond.static yJ6_numberOfLeadingZeros_0f7a4, Cond.initialized RJ6, Cond.code yJ6_numberOfLeadingZeros_0f7a4 cJ6_numberOfLeadingZeros_0f7a4 2 (some .int), Cond.constant RJ6 264 (65536), Cond.methodLink RX5 51 yX0_shiftLeft, Cond.instanceMethod yX0_shiftLeft, Cond.selects RX0 yX0_shiftLeft yX0_shiftLeft, Cond.code yX0_shiftLeft cX0_shiftLeft 8 none, Cond.methodLink RX0 30 Lib.Math.min.name, Cond.methodLink RX0 36 yX0_limbOrZero, Cond.instanceMethod yX0_limbOrZero, Cond.selects RX0 yX0_limbOrZero yX0_limbOrZero, Cond.code yX0_limbOrZero cX0_limbOrZero 2 (some .long), Cond.methodLink RX0 40 yX0_dropZeros, Cond.instanceMethod yX0_dropZeros, Cond.selects RX0 yX0_dropZeros yX0_dropZeros, Cond.code yX0_dropZeros cX0_dropZeros 1 none, Cond.methodLink RX5 54 yX0_compareWith, Cond.instanceMethod yX0_compareWith, Cond.selects RX0 yX0_compareWith yX0_compareWith, Cond.code yX0_compareWith cX0_compareWith 3 (some .int), Cond.methodLink RX5 44 yX5_divide, Cond.instanceMethod yX5_divide, Cond.selects RX5 yX5_divide yX5_divide]
def wsL_law0_r21 : List Cond := [Cond.code yX5_divide cX5_divide 6 (some .long), Cond.constantLong RX5 58 (2), Cond.methodLink RX5 60 yX0_subtract, Cond.instanceMethod yX0_subtract, Cond.selects RX0 yX0_subtract yX0_subtract, Cond.code yX0_subtract cX0_subtract 7 none, Cond.methodLink RX5 64 yX0_timesPlus, Cond.methodLink RX2 91 yX5_bits, Cond.instanceMethod yX5_bits, Cond.selects RX5 yX5_bits yX5_bits, Cond.code yX5_bits cX5_bits 1 (some .long), Cond.methodLink RX2 95 yX1_set, Cond.methodLink RX4 126 yX2_takeWhole, Cond.instanceMethod yX2_takeWhole, Cond.selects RX2 yX2_takeWhole yX2_takeWhole, Cond.code yX2_takeWhole cX2_takeWhole 7 (some .boolean), Cond.methodLink RX2 101 yX2_chooseBase, Cond.instanceMethod yX2_chooseBase, Cond.selects RX2 yX2_chooseBase yX2_chooseBase, Cond.code yX2_chooseBase cX2_chooseBase 4 none, Cond.methodLink RX2 107 yX0_low, Cond.instanceMethod yX0_low, Cond.selects RX0 yX0_low yX0_low, Cond.code yX0_low cX0_low 5 (some .long)]
def wsL_law0_r22 : List Cond := [Cond.methodLink RX2 110 yX0_bitLength, Cond.methodLink RX2 113 yX2_isAtMostMinimum, Cond.static yX2_isAtMostMinimum, Cond.code yX2_isAtMostMinimum cX2_isAtMostMinimum 3 (some .boolean), Cond.constantLong RX2 120 (-9223372036854775808), Cond.constantLong RX2 122 (2147483648), Cond.methodLink RX4 129 yX3_takeCharacter, Cond.instanceMethod yX3_takeCharacter, Cond.selects RX3 yX3_takeCharacter yX3_takeCharacter, Cond.code yX3_takeCharacter cX3_takeCharacter 3 (some .boolean), Cond.fieldLink RX3 28 "TokenRow$Quotes" "character" "I", Cond.methodLink RX3 19 yX6_look, Cond.methodLink RX3 25 yX3_behindOne, Cond.instanceMethod yX3_behindOne, Cond.selects RX3 yX3_behindOne yX3_behindOne, Cond.code yX3_behindOne cX3_behindOne 2 (some .int), Cond.methodLink RX3 46 yX3_behindEscape, Cond.instanceMethod yX3_behindEscape, Cond.selects RX3 yX3_behindEscape yX3_behindEscape, Cond.code yX3_behindEscape cX3_behindEscape 3 (some .int), Cond.methodLink RX3 52 yX3_behindOctal, Cond.instanceMethod yX3_behindOctal, Cond.selects RX3 yX3_behindOctal yX3_behindOctal, Cond.code yX3_behindOctal cX3_behindOctal 4 (some .int)]
def wsL_law0_r23 : List Cond := [Cond.methodLink RX3 55 yX3_escaped, Cond.static yX3_escaped, Cond.code yX3_escaped cX3_escaped 1 (some .int), Cond.methodLink RX3 32 yX1_set, Cond.methodLink RX4 132 yX3_takeString, Cond.instanceMethod yX3_takeString, Cond.selects RX3 yX3_takeString yX3_takeString, Cond.code yX3_takeString cX3_takeString 5 (some .boolean), Cond.methodLink RX3 38 yX6_put, Cond.instanceMethod yX6_put, Cond.selects RX6 yX6_put yX6_put, Cond.code yX6_put cX6_put 3 none, Cond.methodLink RX4 135 yX4_takeSign, Cond.instanceMethod yX4_takeSign, Cond.selects RX4 yX4_takeSign yX4_takeSign, Cond.code yX4_takeSign cX4_takeSign 3 (some .boolean), Cond.methodLink RX4 86 yX8_add, Cond.instanceMethod yX8_add, Cond.selects RX8 yX8_add yX8_add, Cond.code yX8_add cX8_add 3 none, Cond.methodLink RX9 76 yX8_count, Cond.instanceMethod yX8_count, Cond.selects RX8 yX8_count yX8_count, Cond.code yX8_count cX8_count 1 (some .int)]
def wsL_law0_r24 : List Cond := [Cond.methodLink RL 67 yX11_read, Cond.instanceMethod yX11_read, Cond.selects RX11 yX11_read yX11_read, Cond.code yX11_read cX11_read 4 (some .int), Cond.fieldLink RX11 77 "TokenRowModel" "at" "I", Cond.fieldLink RX11 126 "TokenRowModel" "laid" "I", Cond.fieldLink RX11 123 "TokenRowModel" "tokens" "I", Cond.fieldLink RX11 167 "TokenRowModel" "looked" "I", Cond.fieldLink RX11 109 "TokenRowModel" "good" "Z", Cond.fieldLink RX11 113 "TokenRowModel" "kind" "I", Cond.fieldLink RX11 119 "TokenRowModel" "value" "J", Cond.methodLink RX11 170 yX11_more, Cond.instanceMethod yX11_more, Cond.selects RX11 yX11_more yX11_more, Cond.code yX11_more cX11_more 3 (some .boolean), Cond.methodLink RX11 80 yX11_see, Cond.instanceMethod yX11_see, Cond.selects RX11 yX11_see yX11_see, Cond.code yX11_see cX11_see 2 (some .int), Cond.methodLink RX11 174 yX11_token, Cond.instanceMethod yX11_token, Cond.selects RX11 yX11_token yX11_token, Cond.code yX11_token cX11_token 2 none, Cond.methodLink RX11 99 yX11_isLetter]
def wsL_law0_r25 : List Cond := [Cond.static yX11_isLetter, Cond.code yX11_isLetter cX11_isLetter 1 (some .boolean), Cond.methodLink RX11 152 yX11_name, Cond.instanceMethod yX11_name, Cond.selects RX11 yX11_name yX11_name, Cond.code yX11_name cX11_name 5 none, Cond.methodLink RX11 105 yX11_among, Cond.instanceMethod yX11_among, Cond.selects RX11 yX11_among yX11_among, Cond.code yX11_among cX11_among 6 (some .int), Cond.methodLink RX11 89 yJ0_length_8abf5, Cond.methodLink RX11 92 yJ0_indexOf_7cf53, Cond.instanceMethod yJ0_indexOf_7cf53, Cond.selects RJ0 yJ0_indexOf_7cf53 yJ0_indexOf_7cf53, Cond.code yJ0_indexOf_7cf53 cJ0_indexOf_7cf53 3 (some .int), Cond.methodLink RJ0 505 yJ0_length_8abf5, Cond.methodLink RJ0 637 yJ1_indexOf_4cfef, Cond.static yJ1_indexOf_4cfef, Cond.code yJ1_indexOf_4cfef cJ1_indexOf_4cfef 4 (some .int), Cond.methodLink RJ1 92 Lib.Math.max.name, Cond.methodLink RJ1 38 Lib.Math.min.name, Cond.methodLink RJ1 88 yJ1_canEncode_9a6ad, Cond.static yJ1_canEncode_9a6ad, Cond.code yJ1_canEncode_9a6ad cJ1_canEncode_9a6ad 1 (some .boolean)]
def wsL_law0_r26 : List Cond := [Cond.methodLink RJ1 95 yJ1_indexOfChar_4cfef, Cond.static yJ1_indexOfChar_4cfef, Cond.code yJ1_indexOfChar_4cfef cJ1_indexOfChar_4cfef 6 (some .int), Cond.methodLink RJ0 640 yJ2_indexOf_4cfef, Cond.static yJ2_indexOf_4cfef, Cond.code yJ2_indexOf_4cfef cJ2_indexOf_4cfef 4 (some .int), Cond.methodLink RJ2 224 Lib.Math.max.name, Cond.methodLink RJ2 183 Lib.Math.min.name, Cond.constant RJ2 227 (65536), Cond.methodLink RJ2 228 yJ2_indexOfChar_4cfef, Cond.static yJ2_indexOfChar_4cfef, Cond.code yJ2_indexOfChar_4cfef cJ2_indexOfChar_4cfef 4 (some .int), Cond.methodLink RJ2 96 yJ2_checkBoundsBeginEnd_d044e, Cond.static yJ2_checkBoundsBeginEnd_d044e, Cond.code yJ2_checkBoundsBeginEnd_d044e cJ2_checkBoundsBeginEnd_d044e 3 none, Cond.methodLink RJ2 241 yJ0_checkBoundsBeginEnd_23922, Cond.static yJ0_checkBoundsBeginEnd_23922, Cond.code yJ0_checkBoundsBeginEnd_23922 cJ0_checkBoundsBeginEnd_23922 3 none, Cond.methodLink RJ0 1062 yJ3_checkFromToIndex_8c36e, Cond.static yJ3_checkFromToIndex_8c36e, Cond.code yJ3_checkFromToIndex_8c36e cJ3_checkFromToIndex_8c36e 4 (some .int), Cond.methodLink RJ2 244 yJ2_indexOfCharUnsafe_4cfef, Cond.static yJ2_indexOfCharUnsafe_4cfef, Cond.code yJ2_indexOfCharUnsafe_4cfef cJ2_indexOfCharUnsafe_4cfef 5 (some .int)]
def wsL_law0_r27 : List Cond := [Cond.methodLink RJ2 232 yJ2_indexOfSupplementary_4cfef, Cond.static yJ2_indexOfSupplementary_4cfef, Cond.code yJ2_indexOfSupplementary_4cfef cJ2_indexOfSupplementary_4cfef 7 (some .int), Cond.methodLink RJ2 164 yJ11_isValidCodePoint_9a6ad, Cond.static yJ11_isValidCodePoint_9a6ad, Cond.initialized RJ11, Cond.code yJ11_isValidCodePoint_9a6ad cJ11_isValidCodePoint_9a6ad 2 (some .boolean), Cond.methodLink RJ2 157 yJ11_highSurrogate_5068e, Cond.static yJ11_highSurrogate_5068e, Cond.code yJ11_highSurrogate_5068e cJ11_highSurrogate_5068e 1 (some .char), Cond.constant RJ11 110 (55232), Cond.methodLink RJ2 161 yJ11_lowSurrogate_5068e, Cond.static yJ11_lowSurrogate_5068e, Cond.code yJ11_lowSurrogate_5068e cJ11_lowSurrogate_5068e 1 (some .char), Cond.constant RJ11 76 (56320), Cond.methodLink RX11 95 yX11_isAt, Cond.static yX11_isAt, Cond.code yX11_isAt cX11_isAt 7 (some .boolean), Cond.methodLink RX11 83 yJ0_charAt_5068e, Cond.methodLink RX11 116 yX11_letter, Cond.instanceMethod yX11_letter, Cond.selects RX11 yX11_letter yX11_letter, Cond.code yX11_letter cX11_letter 2 none, Cond.methodLink RX11 155 yX11_number]
def wsL_law0_r28 : List Cond := [Cond.instanceMethod yX11_number, Cond.selects RX11 yX11_number yX11_number, Cond.code yX11_number cX11_number 12 none, Cond.methodLink RX11 134 yX11_digits, Cond.instanceMethod yX11_digits, Cond.selects RX11 yX11_digits yX11_digits, Cond.code yX11_digits cX11_digits 5 (some .int), Cond.methodLink RX11 137 yX11_power, Cond.instanceMethod yX11_power, Cond.selects RX11 yX11_power yX11_power, Cond.code yX11_power cX11_power 5 (some .int), Cond.methodLink RX11 140 yX10_read_, Cond.instanceMethod yX10_read_, Cond.selects RX10 yX10_read_ yX10_read_, Cond.code yX10_read_ cX10_read_ 7 (some .long), Cond.constantLong RX10 235 (-1), Cond.fieldLink RX10 46 "TokenRowModel$Reals" "length" "I", Cond.fieldLink RX10 34 "TokenRowModel$Reals" "thrown" "I", Cond.methodLink RX10 237 yX10_read, Cond.instanceMethod yX10_read, Cond.selects RX10 yX10_read yX10_read, Cond.code yX10_read cX10_read 7 (some .long), Cond.fieldLink RX10 145 "TokenRowModel$Reals" "none" "I", Cond.fieldLink RX10 127 "TokenRowModel$Reals" "power" "I"]
def wsL_law0_r29 : List Cond := [Cond.fieldLink RX10 118 "TokenRowModel$Reals" "digits" "I", Cond.fieldLink RX10 62 "TokenRowModel$Reals" "aMany" "I", Cond.fieldLink RX10 152 "TokenRowModel$Reals" "beyond" "I", Cond.fieldLink RX10 155 "TokenRowModel$Reals" "were" "I", Cond.methodLink RX10 137 yX10_isBinary, Cond.instanceMethod yX10_isBinary, Cond.selects RX10 yX10_isBinary yX10_isBinary, Cond.code yX10_isBinary cX10_isBinary 1 (some .boolean), Cond.methodLink RX10 141 yX10_literal, Cond.instanceMethod yX10_literal, Cond.selects RX10 yX10_literal yX10_literal, Cond.code yX10_literal cX10_literal 5 (some .boolean), Cond.fieldLink RX10 107 "TokenRowModel$Reals" "at" "I", Cond.fieldLink RX10 121 "TokenRowModel$Reals" "good" "Z", Cond.methodLink RX10 130 yX10_row, Cond.instanceMethod yX10_row, Cond.selects RX10 yX10_row yX10_row, Cond.code yX10_row cX10_row 4 (some .int), Cond.methodLink RX10 110 yX10_look, Cond.instanceMethod yX10_look, Cond.selects RX10 yX10_look yX10_look, Cond.code yX10_look cX10_look 1 (some .int), Cond.methodLink RX10 114 yX10_digit, Cond.static yX10_digit]
def wsL_law0_r30 : List Cond := [Cond.code yX10_digit cX10_digit 2 (some .int), Cond.methodLink RX10 38 yX10_in, Cond.static yX10_in, Cond.code yX10_in cX10_in 3 (some .boolean), Cond.methodLink RX10 55 yX10_grow, Cond.static yX10_grow, Cond.code yX10_grow cX10_grow 9 (some .int), Cond.constantLong RX10 49 (65535), Cond.methodLink RX10 51 yX10_trimmed, Cond.static yX10_trimmed, Cond.code yX10_trimmed cX10_trimmed 3 (some .int), Cond.methodLink RX10 134 yX10_exponentRow, Cond.instanceMethod yX10_exponentRow, Cond.selects RX10 yX10_exponentRow yX10_exponentRow, Cond.code yX10_exponentRow cX10_exponentRow 5 none, Cond.constant RX10 125 (10000000), Cond.constant RX10 126 (100000000), Cond.methodLink RX10 42 yX10_fail, Cond.instanceMethod yX10_fail, Cond.selects RX10 yX10_fail yX10_fail, Cond.code yX10_fail cX10_fail 2 (some .int), Cond.methodLink RX10 100 yX10_greatest, Cond.static yX10_greatest, Cond.code yX10_greatest cX10_greatest 1 (some .long)]
def wsL_law0_r31 : List Cond := [Cond.constantLong RX10 82 (2139095039), Cond.constantLong RX10 84 (9218868437227405311), Cond.methodLink RX10 148 yX10_found, Cond.instanceMethod yX10_found, Cond.selects RX10 yX10_found yX10_found, Cond.code yX10_found cX10_found 3 (some .long), Cond.fieldLink RX10 72 "TokenRowModel$Reals" "bMany" "I", Cond.fieldLink RX10 59 "TokenRowModel$Reals" "twos" "I", Cond.methodLink RX10 158 yX10_set, Cond.static yX10_set, Cond.code yX10_set cX10_set 4 (some .int), Cond.methodLink RX10 162 yX10_fives, Cond.static yX10_fives, Cond.code yX10_fives cX10_fives 5 (some .int), Cond.methodLink RX10 165 yX10_nearest, Cond.instanceMethod yX10_nearest, Cond.selects RX10 yX10_nearest yX10_nearest, Cond.code yX10_nearest cX10_nearest 9 (some .long), Cond.constantLong RX10 86 (2), Cond.methodLink RX10 88 yX10_mantissa, Cond.static yX10_mantissa, Cond.code yX10_mantissa cX10_mantissa 6 (some .long), Cond.methodLink RX10 92 yX10_exponent, Cond.static yX10_exponent]
def wsL_law0_r32 : List Cond := [Cond.code yX10_exponent cX10_exponent 4 (some .int), Cond.methodLink RX10 96 yX10_compare, Cond.instanceMethod yX10_compare, Cond.selects RX10 yX10_compare yX10_compare, Cond.code yX10_compare cX10_compare 6 (some .int), Cond.fieldLink RX10 69 "TokenRowModel$Reals" "leftMany" "I", Cond.fieldLink RX10 79 "TokenRowModel$Reals" "rightMany" "I", Cond.methodLink RX10 65 yX10_shifted, Cond.static yX10_shifted, Cond.code yX10_shifted cX10_shifted 6 (some .int), Cond.methodLink RX10 75 yX10_times, Cond.instanceMethod yX10_times, Cond.selects RX10 yX10_times yX10_times, Cond.code yX10_times cX10_times 14 (some .int), Cond.methodLink RX10 104 yX10_above, Cond.instanceMethod yX10_above, Cond.selects RX10 yX10_above yX10_above, Cond.code yX10_above cX10_above 4 (some .int), Cond.methodLink RX11 144 yX11_whole, Cond.instanceMethod yX11_whole, Cond.selects RX11 yX11_whole yX11_whole, Cond.code yX11_whole cX11_whole 10 none, Cond.constantLong RX11 148 (4294967295), Cond.constantLong RX11 150 (2147483648)]
def wsL_law0_r33 : List Cond := [Cond.methodLink RX11 158 yX11_quoted, Cond.instanceMethod yX11_quoted, Cond.selects RX11 yX11_quoted yX11_quoted, Cond.code yX11_quoted cX11_quoted 1 none, Cond.methodLink RX11 131 yX11_character, Cond.instanceMethod yX11_character, Cond.selects RX11 yX11_character yX11_character, Cond.code yX11_character cX11_character 7 (some .int), Cond.methodLink RX11 161 yX11_row, Cond.instanceMethod yX11_row, Cond.selects RX11 yX11_row yX11_row, Cond.code yX11_row cX11_row 3 none, Cond.methodLink RX11 164 yX11_sign, Cond.instanceMethod yX11_sign, Cond.selects RX11 yX11_sign yX11_sign, Cond.code yX11_sign cX11_sign 3 none, Cond.methodLink RL 68 yX9_wrong, Cond.instanceMethod yX9_wrong, Cond.selects RX9 yX9_wrong yX9_wrong, Cond.code yX9_wrong cX9_wrong 1 (some .int), Cond.methodLink RL 71 yX11_wrong, Cond.instanceMethod yX11_wrong, Cond.selects RX11 yX11_wrong yX11_wrong, Cond.code yX11_wrong cX11_wrong 1 (some .int)]
def wsL_law0_r34 : List Cond := [Cond.methodLink RL 72 yL_kind, Cond.static yL_kind, Cond.codeWith yL_kind cL_kind 4 (some .int) [(0, 9, 12, 30)], Cond.classLink RL 30 "java/lang/IndexOutOfBoundsException", Cond.methodLink RL 27 yX9_kind, Cond.instanceMethod yX9_kind, Cond.selects RX9 yX9_kind yX9_kind, Cond.code yX9_kind cX9_kind 2 (some .int), Cond.methodLink RX9 89 yX9_demandToken, Cond.instanceMethod yX9_demandToken, Cond.selects RX9 yX9_demandToken yX9_demandToken, Cond.code yX9_demandToken cX9_demandToken 2 none, Cond.classLink RX9 107 "java/lang/IndexOutOfBoundsException", Cond.initialized "java/lang/IndexOutOfBoundsException", Cond.methodLink RX9 92 yX8_kindOf, Cond.instanceMethod yX8_kindOf, Cond.selects RX8 yX8_kindOf yX8_kindOf, Cond.code yX8_kindOf cX8_kindOf 2 (some .int), Cond.methodLink RL 74 yX11_kind, Cond.instanceMethod yX11_kind, Cond.selects RX11 yX11_kind yX11_kind, Cond.code yX11_kind cX11_kind 2 (some .int), Cond.methodLink RX11 177 yX11_isToken, Cond.instanceMethod yX11_isToken]
def wsL_law0_r35 : List Cond := [Cond.selects RX11 yX11_isToken yX11_isToken, Cond.code yX11_isToken cX11_isToken 2 (some .boolean), Cond.methodLink RL 75 yL_glued, Cond.static yL_glued, Cond.codeWith yL_glued cL_glued 4 (some .int) [(0, 16, 19, 30)], Cond.methodLink RL 32 yX9_glued, Cond.instanceMethod yX9_glued, Cond.selects RX9 yX9_glued yX9_glued, Cond.code yX9_glued cX9_glued 2 (some .boolean), Cond.methodLink RX9 96 yX8_isJoined, Cond.instanceMethod yX8_isJoined, Cond.selects RX8 yX8_isJoined yX8_isJoined, Cond.code yX8_isJoined cX8_isJoined 2 (some .boolean), Cond.methodLink RL 77 yX11_glued, Cond.instanceMethod yX11_glued, Cond.selects RX11 yX11_glued yX11_glued, Cond.code yX11_glued cX11_glued 2 (some .boolean), Cond.methodLink RL 78 yL_value, Cond.static yL_value, Cond.codeWith yL_value cL_value 4 (some .int) [(0, 8, 11, 30)], Cond.methodLink RL 36 yX9_value, Cond.instanceMethod yX9_value, Cond.selects RX9 yX9_value yX9_value, Cond.code yX9_value cX9_value 2 (some .long)]
def wsL_law0_r36 : List Cond := [Cond.methodLink RX9 100 yX8_whatSays, Cond.instanceMethod yX8_whatSays, Cond.selects RX8 yX8_whatSays yX8_whatSays, Cond.code yX8_whatSays cX8_whatSays 2 (some .long), Cond.methodLink RL 80 yX11_value, Cond.instanceMethod yX11_value, Cond.selects RX11 yX11_value yX11_value, Cond.code yX11_value cX11_value 2 (some .long), Cond.methodLink RL 81 yL_at, Cond.static yL_at, Cond.codeWith yL_at cL_at 5 (some .int) [(0, 10, 13, 30)], Cond.methodLink RL 40 yX9_at, Cond.instanceMethod yX9_at, Cond.selects RX9 yX9_at yX9_at, Cond.code yX9_at cX9_at 3 (some .int), Cond.methodLink RX9 104 yX8_lengthOf, Cond.instanceMethod yX8_lengthOf, Cond.selects RX8 yX8_lengthOf yX8_lengthOf, Cond.code yX8_lengthOf cX8_lengthOf 2 (some .int), Cond.methodLink RX8 41 yX8_isSpelled, Cond.instanceMethod yX8_isSpelled, Cond.selects RX8 yX8_isSpelled yX8_isSpelled, Cond.code yX8_isSpelled cX8_isSpelled 2 (some .boolean), Cond.methodLink RX9 110 yX8_startOf]
def wsL_law0_r37 : List Cond := [Cond.instanceMethod yX8_startOf, Cond.selects RX8 yX8_startOf yX8_startOf, Cond.code yX8_startOf cX8_startOf 2 (some .int), Cond.methodLink RX9 113 yX6_look, Cond.methodLink RL 84 yX11_at, Cond.instanceMethod yX11_at, Cond.selects RX11 yX11_at yX11_at, Cond.code yX11_at cX11_at 3 (some .int), Cond.methodLink RL 85 yL_same, Cond.static yL_same, Cond.codeWith yL_same cL_same 4 (some .int) [(0, 9, 12, 30)], Cond.methodLink RL 44 yX9_same, Cond.instanceMethod yX9_same, Cond.selects RX9 yX9_same yX9_same, Cond.code yX9_same cX9_same 3 (some .int), Cond.methodLink RX9 116 yX8_isSpelled, Cond.methodLink RX9 119 yX9_areAlike, Cond.instanceMethod yX9_areAlike, Cond.selects RX9 yX9_areAlike yX9_areAlike, Cond.code yX9_areAlike cX9_areAlike 5 (some .boolean), Cond.methodLink RL 87 yX11_same, Cond.instanceMethod yX11_same, Cond.selects RX11 yX11_same yX11_same, Cond.code yX11_same cX11_same 5 (some .int)]
def wsL_law0 : List Cond := (wsL_law0_r1 ++ (wsL_law0_r2 ++ (wsL_law0_r3 ++ (wsL_law0_r4 ++ (wsL_law0_r5 ++ (wsL_law0_r6 ++ (wsL_law0_r7 ++ (wsL_law0_r8 ++ (wsL_law0_r9 ++ (wsL_law0_r10 ++ (wsL_law0_r11 ++ (wsL_law0_r12 ++ (wsL_law0_r13 ++ (wsL_law0_r14 ++ (wsL_law0_r15 ++ (wsL_law0_r16 ++ (wsL_law0_r17 ++ (wsL_law0_r18 ++ (wsL_law0_r19 ++ (wsL_law0_r20 ++ (wsL_law0_r21 ++ (wsL_law0_r22 ++ (wsL_law0_r23 ++ (wsL_law0_r24 ++ (wsL_law0_r25 ++ (wsL_law0_r26 ++ (wsL_law0_r27 ++ (wsL_law0_r28 ++ (wsL_law0_r29 ++ (wsL_law0_r30 ++ (wsL_law0_r31 ++ (wsL_law0_r32 ++ (wsL_law0_r33 ++ (wsL_law0_r34 ++ (wsL_law0_r35 ++ (wsL_law0_r36 ++ wsL_law0_r37)))))))))))))))))))))))))))))))))))) ++ wsX90 ++ wsX110 ++ wsX60 ++ wsX80 ++ wsX40 ++ wsX10 ++ wsX70 ++ wsX20 ++ wsX30 ++ wsX00 ++ wsX50 ++ wsX100 ++ ([] : List Cond)
def wsL_law : List Cond := wsL_law0 ++ (vx_at0 RX9 50 "java/lang/IllegalStateException" ["java/lang/RuntimeException", "java/lang/Exception"]).filter goodWord ++ (vx_at0 RX9 61 "java/lang/IllegalArgumentException" ["java/lang/RuntimeException", "java/lang/Exception"]).filter goodWord ++ (vx_at0 RX9 82 "java/lang/UnsupportedOperationException" ["java/lang/RuntimeException", "java/lang/Exception"]).filter goodWord ++ (vx_at0 RX9 109 "java/lang/IndexOutOfBoundsException" ["java/lang/RuntimeException", "java/lang/Exception"]).filter goodWord
theorem inlX0 : ∀ w ∈ wsX00, w ∈ wsL_law := fun _ h => List.mem_append_left _ (List.mem_append_left _ (List.mem_append_left _ (List.mem_append_left _ (List.mem_append_left _ (List.mem_append_left _ (List.mem_append_left _ (List.mem_append_right _ h)))))))
theorem inlX1 : ∀ w ∈ wsX10, w ∈ wsL_law := fun _ h => List.mem_append_left _ (List.mem_append_left _ (List.mem_append_left _ (List.mem_append_left _ (List.mem_append_left _ (List.mem_append_left _ (List.mem_append_left _ (List.mem_append_left _ (List.mem_append_left _ (List.mem_append_left _ (List.mem_append_left _ (List.mem_append_right _ h)))))))))))
theorem inlX2 : ∀ w ∈ wsX20, w ∈ wsL_law := fun _ h => List.mem_append_left _ (List.mem_append_left _ (List.mem_append_left _ (List.mem_append_left _ (List.mem_append_left _ (List.mem_append_left _ (List.mem_append_left _ (List.mem_append_left _ (List.mem_append_left _ (List.mem_append_right _ h)))))))))
theorem inlX3 : ∀ w ∈ wsX30, w ∈ wsL_law := fun _ h => List.mem_append_left _ (List.mem_append_left _ (List.mem_append_left _ (List.mem_append_left _ (List.mem_append_left _ (List.mem_append_left _ (List.mem_append_left _ (List.mem_append_left _ (List.mem_append_right _ h))))))))
theorem inlX4 : ∀ w ∈ wsX40, w ∈ wsL_law := fun _ h => List.mem_append_left _ (List.mem_append_left _ (List.mem_append_left _ (List.mem_append_left _ (List.mem_append_left _ (List.mem_append_left _ (List.mem_append_left _ (List.mem_append_left _ (List.mem_append_left _ (List.mem_append_left _ (List.mem_append_left _ (List.mem_append_left _ (List.mem_append_right _ h))))))))))))
theorem inlX5 : ∀ w ∈ wsX50, w ∈ wsL_law := fun _ h => List.mem_append_left _ (List.mem_append_left _ (List.mem_append_left _ (List.mem_append_left _ (List.mem_append_left _ (List.mem_append_left _ (List.mem_append_right _ h))))))
theorem inlX6 : ∀ w ∈ wsX60, w ∈ wsL_law := fun _ h => List.mem_append_left _ (List.mem_append_left _ (List.mem_append_left _ (List.mem_append_left _ (List.mem_append_left _ (List.mem_append_left _ (List.mem_append_left _ (List.mem_append_left _ (List.mem_append_left _ (List.mem_append_left _ (List.mem_append_left _ (List.mem_append_left _ (List.mem_append_left _ (List.mem_append_left _ (List.mem_append_right _ h))))))))))))))
theorem inlX7 : ∀ w ∈ wsX70, w ∈ wsL_law := fun _ h => List.mem_append_left _ (List.mem_append_left _ (List.mem_append_left _ (List.mem_append_left _ (List.mem_append_left _ (List.mem_append_left _ (List.mem_append_left _ (List.mem_append_left _ (List.mem_append_left _ (List.mem_append_left _ (List.mem_append_right _ h))))))))))
theorem inlX8 : ∀ w ∈ wsX80, w ∈ wsL_law := fun _ h => List.mem_append_left _ (List.mem_append_left _ (List.mem_append_left _ (List.mem_append_left _ (List.mem_append_left _ (List.mem_append_left _ (List.mem_append_left _ (List.mem_append_left _ (List.mem_append_left _ (List.mem_append_left _ (List.mem_append_left _ (List.mem_append_left _ (List.mem_append_left _ (List.mem_append_right _ h)))))))))))))
theorem inlX9 : ∀ w ∈ wsX90, w ∈ wsL_law := fun _ h => List.mem_append_left _ (List.mem_append_left _ (List.mem_append_left _ (List.mem_append_left _ (List.mem_append_left _ (List.mem_append_left _ (List.mem_append_left _ (List.mem_append_left _ (List.mem_append_left _ (List.mem_append_left _ (List.mem_append_left _ (List.mem_append_left _ (List.mem_append_left _ (List.mem_append_left _ (List.mem_append_left _ (List.mem_append_left _ (List.mem_append_right _ h))))))))))))))))
theorem inlX10 : ∀ w ∈ wsX100, w ∈ wsL_law := fun _ h => List.mem_append_left _ (List.mem_append_left _ (List.mem_append_left _ (List.mem_append_left _ (List.mem_append_left _ (List.mem_append_right _ h)))))
theorem inlX11 : ∀ w ∈ wsX110, w ∈ wsL_law := fun _ h => List.mem_append_left _ (List.mem_append_left _ (List.mem_append_left _ (List.mem_append_left _ (List.mem_append_left _ (List.mem_append_left _ (List.mem_append_left _ (List.mem_append_left _ (List.mem_append_left _ (List.mem_append_left _ (List.mem_append_left _ (List.mem_append_left _ (List.mem_append_left _ (List.mem_append_left _ (List.mem_append_left _ (List.mem_append_right _ h)))))))))))))))
theorem inJ11 : ∀ w ∈ wsJ110, w ∈ lw_tbl := by decide +kernel
theorem inJ6 : ∀ w ∈ wsJ60, w ∈ lw_tbl := by decide +kernel
theorem inJ9 : ∀ w ∈ wsJ90, w ∈ lw_tbl := by decide +kernel
theorem inJ0 : ∀ w ∈ wsJ00, w ∈ lw_tbl := by decide +kernel
theorem inJ1 : ∀ w ∈ wsJ10, w ∈ lw_tbl := by decide +kernel
theorem inJ2 : ∀ w ∈ wsJ20, w ∈ lw_tbl := by decide +kernel
theorem inJ3 : ∀ w ∈ wsJ30, w ∈ lw_tbl := by decide +kernel
theorem dX0_init_0 : decode cX0_init 0 = .ok (.aload_n 0, 1) := by decide +kernel
theorem dX0_init_1 : decode cX0_init 1 = .ok (.invokespecial 1, 3) := by decide +kernel
theorem dX0_init_4 : decode cX0_init 4 = .ok (.aload_n 0, 1) := by decide +kernel
theorem dX0_init_5 : decode cX0_init 5 = .ok (.sipush 136, 3) := by decide +kernel
theorem dX0_init_8 : decode cX0_init 8 = .ok (.newarray .int, 2) := by decide +kernel
theorem dX0_init_10 : decode cX0_init 10 = .ok (.putfield 9, 3) := by decide +kernel
theorem dX0_init_13 : decode cX0_init 13 = .ok (.return_, 1) := by decide +kernel
theorem dX0_set_0 : decode cX0_set 0 = .ok (.aload_n 0, 1) := by decide +kernel
theorem dX0_set_1 : decode cX0_set 1 = .ok (.getfield 9, 3) := by decide +kernel
theorem dX0_set_4 : decode cX0_set 4 = .ok (.iconst 0, 1) := by decide +kernel
theorem dX0_set_5 : decode cX0_set 5 = .ok (.iload_n 1, 1) := by decide +kernel
theorem dX0_set_6 : decode cX0_set 6 = .ok (.iastore, 1) := by decide +kernel
theorem dX0_set_7 : decode cX0_set 7 = .ok (.aload_n 0, 1) := by decide +kernel
theorem dX0_set_8 : decode cX0_set 8 = .ok (.iload_n 1, 1) := by decide +kernel
theorem dX0_set_9 : decode cX0_set 9 = .ok (.ifCond .ne 7, 3) := by decide +kernel
theorem dX0_set_12 : decode cX0_set 12 = .ok (.iconst 0, 1) := by decide +kernel
theorem dX0_set_13 : decode cX0_set 13 = .ok (.goto 4, 3) := by decide +kernel
theorem dX0_set_16 : decode cX0_set 16 = .ok (.iconst 1, 1) := by decide +kernel
theorem dX0_set_17 : decode cX0_set 17 = .ok (.putfield 13, 3) := by decide +kernel
theorem dX0_set_20 : decode cX0_set 20 = .ok (.return_, 1) := by decide +kernel
theorem dX0_isZero_0 : decode cX0_isZero 0 = .ok (.aload_n 0, 1) := by decide +kernel
theorem dX0_isZero_1 : decode cX0_isZero 1 = .ok (.getfield 13, 3) := by decide +kernel
theorem dX0_isZero_4 : decode cX0_isZero 4 = .ok (.ifCond .ne 7, 3) := by decide +kernel
theorem dX0_isZero_7 : decode cX0_isZero 7 = .ok (.iconst 1, 1) := by decide +kernel
theorem dX0_isZero_8 : decode cX0_isZero 8 = .ok (.goto 4, 3) := by decide +kernel
theorem dX0_isZero_11 : decode cX0_isZero 11 = .ok (.iconst 0, 1) := by decide +kernel
theorem dX0_isZero_12 : decode cX0_isZero 12 = .ok (.ireturn, 1) := by decide +kernel
theorem dX0_low_0 : decode cX0_low 0 = .ok (.aload_n 0, 1) := by decide +kernel
theorem dX0_low_1 : decode cX0_low 1 = .ok (.getfield 13, 3) := by decide +kernel
theorem dX0_low_4 : decode cX0_low 4 = .ok (.ifCond .le 17, 3) := by decide +kernel
theorem dX0_low_7 : decode cX0_low 7 = .ok (.aload_n 0, 1) := by decide +kernel
theorem dX0_low_8 : decode cX0_low 8 = .ok (.getfield 9, 3) := by decide +kernel
theorem dX0_low_11 : decode cX0_low 11 = .ok (.iconst 0, 1) := by decide +kernel
theorem dX0_low_12 : decode cX0_low 12 = .ok (.iaload, 1) := by decide +kernel
theorem dX0_low_13 : decode cX0_low 13 = .ok (.i2l, 1) := by decide +kernel
theorem dX0_low_14 : decode cX0_low 14 = .ok (.ldc2_w 17, 3) := by decide +kernel
theorem dX0_low_17 : decode cX0_low 17 = .ok (.land, 1) := by decide +kernel
theorem dX0_low_18 : decode cX0_low 18 = .ok (.goto 4, 3) := by decide +kernel
theorem dX0_low_21 : decode cX0_low 21 = .ok (.lconst 0, 1) := by decide +kernel
theorem dX0_low_22 : decode cX0_low 22 = .ok (.lstore_n 1, 1) := by decide +kernel
theorem dX0_low_23 : decode cX0_low 23 = .ok (.aload_n 0, 1) := by decide +kernel
theorem dX0_low_24 : decode cX0_low 24 = .ok (.getfield 13, 3) := by decide +kernel
theorem dX0_low_27 : decode cX0_low 27 = .ok (.iconst 1, 1) := by decide +kernel
theorem dX0_low_28 : decode cX0_low 28 = .ok (.if_icmp .le 17, 3) := by decide +kernel
theorem dX0_low_31 : decode cX0_low 31 = .ok (.aload_n 0, 1) := by decide +kernel
theorem dX0_low_32 : decode cX0_low 32 = .ok (.getfield 9, 3) := by decide +kernel
theorem dX0_low_35 : decode cX0_low 35 = .ok (.iconst 1, 1) := by decide +kernel
theorem dX0_low_36 : decode cX0_low 36 = .ok (.iaload, 1) := by decide +kernel
theorem dX0_low_37 : decode cX0_low 37 = .ok (.i2l, 1) := by decide +kernel
theorem dX0_low_38 : decode cX0_low 38 = .ok (.ldc2_w 17, 3) := by decide +kernel
theorem dX0_low_41 : decode cX0_low 41 = .ok (.land, 1) := by decide +kernel
theorem dX0_low_42 : decode cX0_low 42 = .ok (.goto 4, 3) := by decide +kernel
theorem dX0_low_45 : decode cX0_low 45 = .ok (.lconst 0, 1) := by decide +kernel
theorem dX0_low_46 : decode cX0_low 46 = .ok (.lstore_n 3, 1) := by decide +kernel
theorem dX0_low_47 : decode cX0_low 47 = .ok (.lload_n 3, 1) := by decide +kernel
theorem dX0_low_48 : decode cX0_low 48 = .ok (.bipush 32, 2) := by decide +kernel
theorem dX0_low_50 : decode cX0_low 50 = .ok (.lshl, 1) := by decide +kernel
theorem dX0_low_51 : decode cX0_low 51 = .ok (.lload_n 1, 1) := by decide +kernel
theorem dX0_low_52 : decode cX0_low 52 = .ok (.lor, 1) := by decide +kernel
theorem dX0_low_53 : decode cX0_low 53 = .ok (.lreturn, 1) := by decide +kernel
set_option maxRecDepth 20000 in
theorem ggX0_bitLength_J6_numberOfLeadingZeros_0f7a4 : GoodIn wsX0_bitLength wsJ6_numberOfLeadingZeros_0f7a4 := goodIn_r _ [6, 7] rfl (by decide +kernel)
set_option maxRecDepth 20000 in
theorem gX0_bitLength_J6_numberOfLeadingZeros_0f7a4 : GoodIn wsX0_bitLength (va_wsS RX0 19 yJ6_numberOfLeadingZeros_0f7a4 wsJ6_numberOfLeadingZeros_0f7a4) := goodIn_app (goodIn_of _ (by decide +kernel)) ggX0_bitLength_J6_numberOfLeadingZeros_0f7a4
theorem dX0_bitLength_0 : decode cX0_bitLength 0 = .ok (.aload_n 0, 1) := by decide +kernel
theorem dX0_bitLength_1 : decode cX0_bitLength 1 = .ok (.getfield 13, 3) := by decide +kernel
theorem dX0_bitLength_4 : decode cX0_bitLength 4 = .ok (.ifCond .ne 7, 3) := by decide +kernel
theorem dX0_bitLength_7 : decode cX0_bitLength 7 = .ok (.iconst 0, 1) := by decide +kernel
theorem dX0_bitLength_8 : decode cX0_bitLength 8 = .ok (.goto 25, 3) := by decide +kernel
theorem dX0_bitLength_11 : decode cX0_bitLength 11 = .ok (.bipush 32, 2) := by decide +kernel
theorem dX0_bitLength_13 : decode cX0_bitLength 13 = .ok (.aload_n 0, 1) := by decide +kernel
theorem dX0_bitLength_14 : decode cX0_bitLength 14 = .ok (.getfield 13, 3) := by decide +kernel
theorem dX0_bitLength_17 : decode cX0_bitLength 17 = .ok (.imul, 1) := by decide +kernel
theorem dX0_bitLength_18 : decode cX0_bitLength 18 = .ok (.aload_n 0, 1) := by decide +kernel
theorem dX0_bitLength_19 : decode cX0_bitLength 19 = .ok (.getfield 9, 3) := by decide +kernel
theorem dX0_bitLength_22 : decode cX0_bitLength 22 = .ok (.aload_n 0, 1) := by decide +kernel
theorem dX0_bitLength_23 : decode cX0_bitLength 23 = .ok (.getfield 13, 3) := by decide +kernel
theorem dX0_bitLength_26 : decode cX0_bitLength 26 = .ok (.iconst 1, 1) := by decide +kernel
theorem dX0_bitLength_27 : decode cX0_bitLength 27 = .ok (.isub, 1) := by decide +kernel
theorem dX0_bitLength_28 : decode cX0_bitLength 28 = .ok (.iaload, 1) := by decide +kernel
theorem dX0_bitLength_29 : decode cX0_bitLength 29 = .ok (.invokestatic 19, 3) := by decide +kernel
theorem dX0_bitLength_32 : decode cX0_bitLength 32 = .ok (.isub, 1) := by decide +kernel
theorem dX0_bitLength_33 : decode cX0_bitLength 33 = .ok (.ireturn, 1) := by decide +kernel
theorem dX0_timesPlus_0 : decode cX0_timesPlus 0 = .ok (.iload_n 2, 1) := by decide +kernel
theorem dX0_timesPlus_1 : decode cX0_timesPlus 1 = .ok (.i2l, 1) := by decide +kernel
theorem dX0_timesPlus_2 : decode cX0_timesPlus 2 = .ok (.lstore_n 3, 1) := by decide +kernel
theorem dX0_timesPlus_3 : decode cX0_timesPlus 3 = .ok (.iconst 0, 1) := by decide +kernel
theorem dX0_timesPlus_4 : decode cX0_timesPlus 4 = .ok (.istore 5, 2) := by decide +kernel
theorem dX0_timesPlus_6 : decode cX0_timesPlus 6 = .ok (.iload 5, 2) := by decide +kernel
theorem dX0_timesPlus_8 : decode cX0_timesPlus 8 = .ok (.aload_n 0, 1) := by decide +kernel
theorem dX0_timesPlus_9 : decode cX0_timesPlus 9 = .ok (.getfield 13, 3) := by decide +kernel
theorem dX0_timesPlus_12 : decode cX0_timesPlus 12 = .ok (.if_icmp .ge 41, 3) := by decide +kernel
theorem dX0_timesPlus_15 : decode cX0_timesPlus 15 = .ok (.lload_n 3, 1) := by decide +kernel
theorem dX0_timesPlus_16 : decode cX0_timesPlus 16 = .ok (.aload_n 0, 1) := by decide +kernel
theorem dX0_timesPlus_17 : decode cX0_timesPlus 17 = .ok (.getfield 9, 3) := by decide +kernel
theorem dX0_timesPlus_20 : decode cX0_timesPlus 20 = .ok (.iload 5, 2) := by decide +kernel
theorem dX0_timesPlus_22 : decode cX0_timesPlus 22 = .ok (.iaload, 1) := by decide +kernel
theorem dX0_timesPlus_23 : decode cX0_timesPlus 23 = .ok (.i2l, 1) := by decide +kernel
theorem dX0_timesPlus_24 : decode cX0_timesPlus 24 = .ok (.ldc2_w 17, 3) := by decide +kernel
theorem dX0_timesPlus_27 : decode cX0_timesPlus 27 = .ok (.land, 1) := by decide +kernel
theorem dX0_timesPlus_28 : decode cX0_timesPlus 28 = .ok (.iload_n 1, 1) := by decide +kernel
theorem dX0_timesPlus_29 : decode cX0_timesPlus 29 = .ok (.i2l, 1) := by decide +kernel
theorem dX0_timesPlus_30 : decode cX0_timesPlus 30 = .ok (.lmul, 1) := by decide +kernel
theorem dX0_timesPlus_31 : decode cX0_timesPlus 31 = .ok (.ladd, 1) := by decide +kernel
theorem dX0_timesPlus_32 : decode cX0_timesPlus 32 = .ok (.lstore_n 3, 1) := by decide +kernel
theorem dX0_timesPlus_33 : decode cX0_timesPlus 33 = .ok (.aload_n 0, 1) := by decide +kernel
theorem dX0_timesPlus_34 : decode cX0_timesPlus 34 = .ok (.getfield 9, 3) := by decide +kernel
theorem dX0_timesPlus_37 : decode cX0_timesPlus 37 = .ok (.iload 5, 2) := by decide +kernel
theorem dX0_timesPlus_39 : decode cX0_timesPlus 39 = .ok (.lload_n 3, 1) := by decide +kernel
theorem dX0_timesPlus_40 : decode cX0_timesPlus 40 = .ok (.l2i, 1) := by decide +kernel
theorem dX0_timesPlus_41 : decode cX0_timesPlus 41 = .ok (.iastore, 1) := by decide +kernel
theorem dX0_timesPlus_42 : decode cX0_timesPlus 42 = .ok (.lload_n 3, 1) := by decide +kernel
theorem dX0_timesPlus_43 : decode cX0_timesPlus 43 = .ok (.bipush 32, 2) := by decide +kernel
theorem dX0_timesPlus_45 : decode cX0_timesPlus 45 = .ok (.lushr, 1) := by decide +kernel
theorem dX0_timesPlus_46 : decode cX0_timesPlus 46 = .ok (.lstore_n 3, 1) := by decide +kernel
theorem dX0_timesPlus_47 : decode cX0_timesPlus 47 = .ok (.iinc 5 1, 3) := by decide +kernel
theorem dX0_timesPlus_50 : decode cX0_timesPlus 50 = .ok (.goto (-44), 3) := by decide +kernel
theorem dX0_timesPlus_53 : decode cX0_timesPlus 53 = .ok (.lload_n 3, 1) := by decide +kernel
theorem dX0_timesPlus_54 : decode cX0_timesPlus 54 = .ok (.lconst 0, 1) := by decide +kernel
theorem dX0_timesPlus_55 : decode cX0_timesPlus 55 = .ok (.lcmp, 1) := by decide +kernel
theorem dX0_timesPlus_56 : decode cX0_timesPlus 56 = .ok (.ifCond .eq 34, 3) := by decide +kernel
theorem dX0_timesPlus_59 : decode cX0_timesPlus 59 = .ok (.aload_n 0, 1) := by decide +kernel
theorem dX0_timesPlus_60 : decode cX0_timesPlus 60 = .ok (.getfield 13, 3) := by decide +kernel
theorem dX0_timesPlus_63 : decode cX0_timesPlus 63 = .ok (.sipush 136, 3) := by decide +kernel
theorem dX0_timesPlus_66 : decode cX0_timesPlus 66 = .ok (.if_icmp .ge 24, 3) := by decide +kernel
theorem dX0_timesPlus_69 : decode cX0_timesPlus 69 = .ok (.aload_n 0, 1) := by decide +kernel
theorem dX0_timesPlus_70 : decode cX0_timesPlus 70 = .ok (.getfield 9, 3) := by decide +kernel
theorem dX0_timesPlus_73 : decode cX0_timesPlus 73 = .ok (.aload_n 0, 1) := by decide +kernel
theorem dX0_timesPlus_74 : decode cX0_timesPlus 74 = .ok (.getfield 13, 3) := by decide +kernel
theorem dX0_timesPlus_77 : decode cX0_timesPlus 77 = .ok (.lload_n 3, 1) := by decide +kernel
theorem dX0_timesPlus_78 : decode cX0_timesPlus 78 = .ok (.l2i, 1) := by decide +kernel
theorem dX0_timesPlus_79 : decode cX0_timesPlus 79 = .ok (.iastore, 1) := by decide +kernel
theorem dX0_timesPlus_80 : decode cX0_timesPlus 80 = .ok (.aload_n 0, 1) := by decide +kernel
theorem dX0_timesPlus_81 : decode cX0_timesPlus 81 = .ok (.dup, 1) := by decide +kernel
theorem dX0_timesPlus_82 : decode cX0_timesPlus 82 = .ok (.getfield 13, 3) := by decide +kernel
theorem dX0_timesPlus_85 : decode cX0_timesPlus 85 = .ok (.iconst 1, 1) := by decide +kernel
theorem dX0_timesPlus_86 : decode cX0_timesPlus 86 = .ok (.iadd, 1) := by decide +kernel
theorem dX0_timesPlus_87 : decode cX0_timesPlus 87 = .ok (.putfield 13, 3) := by decide +kernel
theorem dX0_timesPlus_90 : decode cX0_timesPlus 90 = .ok (.return_, 1) := by decide +kernel
set_option maxRecDepth 20000 in
theorem ggX0_timesPowerOfFive_X0_timesPlus : GoodIn wsX0_timesPowerOfFive wsX0_timesPlus := goodIn_r _ [6, 7, 8, 9, 10, 11] rfl (by decide +kernel)
set_option maxRecDepth 20000 in
theorem gX0_timesPowerOfFive_X0_timesPlus : GoodIn wsX0_timesPowerOfFive (wsV RX0 26 RX0 yX0_timesPlus wsX0_timesPlus) := goodIn_app (goodIn_of _ (by decide +kernel)) ggX0_timesPowerOfFive_X0_timesPlus
theorem dX0_timesPowerOfFive_0 : decode cX0_timesPowerOfFive 0 = .ok (.iload_n 1, 1) := by decide +kernel
theorem dX0_timesPowerOfFive_1 : decode cX0_timesPowerOfFive 1 = .ok (.istore_n 2, 1) := by decide +kernel
theorem dX0_timesPowerOfFive_2 : decode cX0_timesPowerOfFive 2 = .ok (.iload_n 2, 1) := by decide +kernel
theorem dX0_timesPowerOfFive_3 : decode cX0_timesPowerOfFive 3 = .ok (.bipush 13, 2) := by decide +kernel
theorem dX0_timesPowerOfFive_5 : decode cX0_timesPowerOfFive 5 = .ok (.if_icmp .lt 16, 3) := by decide +kernel
theorem dX0_timesPowerOfFive_8 : decode cX0_timesPowerOfFive 8 = .ok (.aload_n 0, 1) := by decide +kernel
theorem dX0_timesPowerOfFive_9 : decode cX0_timesPowerOfFive 9 = .ok (.ldc 25, 2) := by decide +kernel
theorem dX0_timesPowerOfFive_11 : decode cX0_timesPowerOfFive 11 = .ok (.iconst 0, 1) := by decide +kernel
theorem dX0_timesPowerOfFive_12 : decode cX0_timesPowerOfFive 12 = .ok (.invokevirtual 26, 3) := by decide +kernel
theorem dX0_timesPowerOfFive_15 : decode cX0_timesPowerOfFive 15 = .ok (.iinc 2 (-13), 3) := by decide +kernel
theorem dX0_timesPowerOfFive_18 : decode cX0_timesPowerOfFive 18 = .ok (.goto (-16), 3) := by decide +kernel
theorem dX0_timesPowerOfFive_21 : decode cX0_timesPowerOfFive 21 = .ok (.iload_n 2, 1) := by decide +kernel
theorem dX0_timesPowerOfFive_22 : decode cX0_timesPowerOfFive 22 = .ok (.ifCond .le 15, 3) := by decide +kernel
theorem dX0_timesPowerOfFive_25 : decode cX0_timesPowerOfFive 25 = .ok (.aload_n 0, 1) := by decide +kernel
theorem dX0_timesPowerOfFive_26 : decode cX0_timesPowerOfFive 26 = .ok (.iconst 5, 1) := by decide +kernel
theorem dX0_timesPowerOfFive_27 : decode cX0_timesPowerOfFive 27 = .ok (.iconst 0, 1) := by decide +kernel
theorem dX0_timesPowerOfFive_28 : decode cX0_timesPowerOfFive 28 = .ok (.invokevirtual 26, 3) := by decide +kernel
theorem dX0_timesPowerOfFive_31 : decode cX0_timesPowerOfFive 31 = .ok (.iinc 2 (-1), 3) := by decide +kernel
theorem dX0_timesPowerOfFive_34 : decode cX0_timesPowerOfFive 34 = .ok (.goto (-13), 3) := by decide +kernel
theorem dX0_timesPowerOfFive_37 : decode cX0_timesPowerOfFive 37 = .ok (.return_, 1) := by decide +kernel
set_option maxRecDepth 20000 in
theorem ggX0_shiftLeft_X0_limbOrZero : GoodIn wsX0_shiftLeft wsX0_limbOrZero := goodIn_r _ [11, 1, 6, 12, 17, 18] rfl (by decide +kernel)
set_option maxRecDepth 20000 in
theorem gX0_shiftLeft_X0_limbOrZero : GoodIn wsX0_shiftLeft (wsV RX0 36 RX0 yX0_limbOrZero wsX0_limbOrZero) := goodIn_app (goodIn_of _ (by decide +kernel)) ggX0_shiftLeft_X0_limbOrZero
set_option maxRecDepth 20000 in
theorem ggX0_shiftLeft_X0_dropZeros : GoodIn wsX0_shiftLeft wsX0_dropZeros := goodIn_r _ [16, 1, 6, 17, 18] rfl (by decide +kernel)
set_option maxRecDepth 20000 in
theorem gX0_shiftLeft_X0_dropZeros : GoodIn wsX0_shiftLeft (wsV RX0 40 RX0 yX0_dropZeros wsX0_dropZeros) := goodIn_app (goodIn_of _ (by decide +kernel)) ggX0_shiftLeft_X0_dropZeros
theorem dX0_shiftLeft_0 : decode cX0_shiftLeft 0 = .ok (.iload_n 1, 1) := by decide +kernel
theorem dX0_shiftLeft_1 : decode cX0_shiftLeft 1 = .ok (.bipush 32, 2) := by decide +kernel
theorem dX0_shiftLeft_3 : decode cX0_shiftLeft 3 = .ok (.idiv, 1) := by decide +kernel
theorem dX0_shiftLeft_4 : decode cX0_shiftLeft 4 = .ok (.istore_n 2, 1) := by decide +kernel
theorem dX0_shiftLeft_5 : decode cX0_shiftLeft 5 = .ok (.iload_n 1, 1) := by decide +kernel
theorem dX0_shiftLeft_6 : decode cX0_shiftLeft 6 = .ok (.bipush 32, 2) := by decide +kernel
theorem dX0_shiftLeft_8 : decode cX0_shiftLeft 8 = .ok (.irem, 1) := by decide +kernel
theorem dX0_shiftLeft_9 : decode cX0_shiftLeft 9 = .ok (.istore_n 3, 1) := by decide +kernel
theorem dX0_shiftLeft_10 : decode cX0_shiftLeft 10 = .ok (.aload_n 0, 1) := by decide +kernel
theorem dX0_shiftLeft_11 : decode cX0_shiftLeft 11 = .ok (.getfield 13, 3) := by decide +kernel
theorem dX0_shiftLeft_14 : decode cX0_shiftLeft 14 = .ok (.iload_n 2, 1) := by decide +kernel
theorem dX0_shiftLeft_15 : decode cX0_shiftLeft 15 = .ok (.iadd, 1) := by decide +kernel
theorem dX0_shiftLeft_16 : decode cX0_shiftLeft 16 = .ok (.iconst 1, 1) := by decide +kernel
theorem dX0_shiftLeft_17 : decode cX0_shiftLeft 17 = .ok (.iadd, 1) := by decide +kernel
theorem dX0_shiftLeft_18 : decode cX0_shiftLeft 18 = .ok (.sipush 136, 3) := by decide +kernel
theorem dX0_shiftLeft_21 : decode cX0_shiftLeft 21 = .ok (.invokestatic 30, 3) := by decide +kernel
theorem dX0_shiftLeft_24 : decode cX0_shiftLeft 24 = .ok (.istore 4, 2) := by decide +kernel
theorem dX0_shiftLeft_26 : decode cX0_shiftLeft 26 = .ok (.iload 4, 2) := by decide +kernel
theorem dX0_shiftLeft_28 : decode cX0_shiftLeft 28 = .ok (.iconst 1, 1) := by decide +kernel
theorem dX0_shiftLeft_29 : decode cX0_shiftLeft 29 = .ok (.isub, 1) := by decide +kernel
theorem dX0_shiftLeft_30 : decode cX0_shiftLeft 30 = .ok (.istore 5, 2) := by decide +kernel
theorem dX0_shiftLeft_32 : decode cX0_shiftLeft 32 = .ok (.iload 5, 2) := by decide +kernel
theorem dX0_shiftLeft_34 : decode cX0_shiftLeft 34 = .ok (.ifCond .lt 48, 3) := by decide +kernel
theorem dX0_shiftLeft_37 : decode cX0_shiftLeft 37 = .ok (.aload_n 0, 1) := by decide +kernel
theorem dX0_shiftLeft_38 : decode cX0_shiftLeft 38 = .ok (.iload 5, 2) := by decide +kernel
theorem dX0_shiftLeft_40 : decode cX0_shiftLeft 40 = .ok (.iload_n 2, 1) := by decide +kernel
theorem dX0_shiftLeft_41 : decode cX0_shiftLeft 41 = .ok (.isub, 1) := by decide +kernel
theorem dX0_shiftLeft_42 : decode cX0_shiftLeft 42 = .ok (.invokevirtual 36, 3) := by decide +kernel
theorem dX0_shiftLeft_45 : decode cX0_shiftLeft 45 = .ok (.bipush 32, 2) := by decide +kernel
theorem dX0_shiftLeft_47 : decode cX0_shiftLeft 47 = .ok (.lshl, 1) := by decide +kernel
theorem dX0_shiftLeft_48 : decode cX0_shiftLeft 48 = .ok (.aload_n 0, 1) := by decide +kernel
theorem dX0_shiftLeft_49 : decode cX0_shiftLeft 49 = .ok (.iload 5, 2) := by decide +kernel
theorem dX0_shiftLeft_51 : decode cX0_shiftLeft 51 = .ok (.iload_n 2, 1) := by decide +kernel
theorem dX0_shiftLeft_52 : decode cX0_shiftLeft 52 = .ok (.isub, 1) := by decide +kernel
theorem dX0_shiftLeft_53 : decode cX0_shiftLeft 53 = .ok (.iconst 1, 1) := by decide +kernel
theorem dX0_shiftLeft_54 : decode cX0_shiftLeft 54 = .ok (.isub, 1) := by decide +kernel
theorem dX0_shiftLeft_55 : decode cX0_shiftLeft 55 = .ok (.invokevirtual 36, 3) := by decide +kernel
theorem dX0_shiftLeft_58 : decode cX0_shiftLeft 58 = .ok (.lor, 1) := by decide +kernel
theorem dX0_shiftLeft_59 : decode cX0_shiftLeft 59 = .ok (.lstore 6, 2) := by decide +kernel
theorem dX0_shiftLeft_61 : decode cX0_shiftLeft 61 = .ok (.aload_n 0, 1) := by decide +kernel
theorem dX0_shiftLeft_62 : decode cX0_shiftLeft 62 = .ok (.getfield 9, 3) := by decide +kernel
theorem dX0_shiftLeft_65 : decode cX0_shiftLeft 65 = .ok (.iload 5, 2) := by decide +kernel
theorem dX0_shiftLeft_67 : decode cX0_shiftLeft 67 = .ok (.lload 6, 2) := by decide +kernel
theorem dX0_shiftLeft_69 : decode cX0_shiftLeft 69 = .ok (.bipush 32, 2) := by decide +kernel
theorem dX0_shiftLeft_71 : decode cX0_shiftLeft 71 = .ok (.iload_n 3, 1) := by decide +kernel
theorem dX0_shiftLeft_72 : decode cX0_shiftLeft 72 = .ok (.isub, 1) := by decide +kernel
theorem dX0_shiftLeft_73 : decode cX0_shiftLeft 73 = .ok (.lushr, 1) := by decide +kernel
theorem dX0_shiftLeft_74 : decode cX0_shiftLeft 74 = .ok (.l2i, 1) := by decide +kernel
theorem dX0_shiftLeft_75 : decode cX0_shiftLeft 75 = .ok (.iastore, 1) := by decide +kernel
theorem dX0_shiftLeft_76 : decode cX0_shiftLeft 76 = .ok (.iinc 5 (-1), 3) := by decide +kernel
theorem dX0_shiftLeft_79 : decode cX0_shiftLeft 79 = .ok (.goto (-47), 3) := by decide +kernel
theorem dX0_shiftLeft_82 : decode cX0_shiftLeft 82 = .ok (.aload_n 0, 1) := by decide +kernel
theorem dX0_shiftLeft_83 : decode cX0_shiftLeft 83 = .ok (.iload 4, 2) := by decide +kernel
theorem dX0_shiftLeft_85 : decode cX0_shiftLeft 85 = .ok (.putfield 13, 3) := by decide +kernel
theorem dX0_shiftLeft_88 : decode cX0_shiftLeft 88 = .ok (.aload_n 0, 1) := by decide +kernel
theorem dX0_shiftLeft_89 : decode cX0_shiftLeft 89 = .ok (.invokevirtual 40, 3) := by decide +kernel
theorem dX0_shiftLeft_92 : decode cX0_shiftLeft 92 = .ok (.return_, 1) := by decide +kernel
theorem dX0_limbOrZero_0 : decode cX0_limbOrZero 0 = .ok (.iload_n 1, 1) := by decide +kernel
theorem dX0_limbOrZero_1 : decode cX0_limbOrZero 1 = .ok (.ifCond .lt 25, 3) := by decide +kernel
theorem dX0_limbOrZero_4 : decode cX0_limbOrZero 4 = .ok (.iload_n 1, 1) := by decide +kernel
theorem dX0_limbOrZero_5 : decode cX0_limbOrZero 5 = .ok (.aload_n 0, 1) := by decide +kernel
theorem dX0_limbOrZero_6 : decode cX0_limbOrZero 6 = .ok (.getfield 13, 3) := by decide +kernel
theorem dX0_limbOrZero_9 : decode cX0_limbOrZero 9 = .ok (.if_icmp .ge 17, 3) := by decide +kernel
theorem dX0_limbOrZero_12 : decode cX0_limbOrZero 12 = .ok (.aload_n 0, 1) := by decide +kernel
theorem dX0_limbOrZero_13 : decode cX0_limbOrZero 13 = .ok (.getfield 9, 3) := by decide +kernel
theorem dX0_limbOrZero_16 : decode cX0_limbOrZero 16 = .ok (.iload_n 1, 1) := by decide +kernel
theorem dX0_limbOrZero_17 : decode cX0_limbOrZero 17 = .ok (.iaload, 1) := by decide +kernel
theorem dX0_limbOrZero_18 : decode cX0_limbOrZero 18 = .ok (.i2l, 1) := by decide +kernel
theorem dX0_limbOrZero_19 : decode cX0_limbOrZero 19 = .ok (.ldc2_w 17, 3) := by decide +kernel
theorem dX0_limbOrZero_22 : decode cX0_limbOrZero 22 = .ok (.land, 1) := by decide +kernel
theorem dX0_limbOrZero_23 : decode cX0_limbOrZero 23 = .ok (.goto 4, 3) := by decide +kernel
theorem dX0_limbOrZero_26 : decode cX0_limbOrZero 26 = .ok (.lconst 0, 1) := by decide +kernel
theorem dX0_limbOrZero_27 : decode cX0_limbOrZero 27 = .ok (.lreturn, 1) := by decide +kernel
theorem dX0_dropZeros_0 : decode cX0_dropZeros 0 = .ok (.aload_n 0, 1) := by decide +kernel
theorem dX0_dropZeros_1 : decode cX0_dropZeros 1 = .ok (.getfield 13, 3) := by decide +kernel
theorem dX0_dropZeros_4 : decode cX0_dropZeros 4 = .ok (.ifCond .le 30, 3) := by decide +kernel
theorem dX0_dropZeros_7 : decode cX0_dropZeros 7 = .ok (.aload_n 0, 1) := by decide +kernel
theorem dX0_dropZeros_8 : decode cX0_dropZeros 8 = .ok (.getfield 9, 3) := by decide +kernel
theorem dX0_dropZeros_11 : decode cX0_dropZeros 11 = .ok (.aload_n 0, 1) := by decide +kernel
theorem dX0_dropZeros_12 : decode cX0_dropZeros 12 = .ok (.getfield 13, 3) := by decide +kernel
theorem dX0_dropZeros_15 : decode cX0_dropZeros 15 = .ok (.iconst 1, 1) := by decide +kernel
theorem dX0_dropZeros_16 : decode cX0_dropZeros 16 = .ok (.isub, 1) := by decide +kernel
theorem dX0_dropZeros_17 : decode cX0_dropZeros 17 = .ok (.iaload, 1) := by decide +kernel
theorem dX0_dropZeros_18 : decode cX0_dropZeros 18 = .ok (.ifCond .ne 16, 3) := by decide +kernel
theorem dX0_dropZeros_21 : decode cX0_dropZeros 21 = .ok (.aload_n 0, 1) := by decide +kernel
theorem dX0_dropZeros_22 : decode cX0_dropZeros 22 = .ok (.dup, 1) := by decide +kernel
theorem dX0_dropZeros_23 : decode cX0_dropZeros 23 = .ok (.getfield 13, 3) := by decide +kernel
theorem dX0_dropZeros_26 : decode cX0_dropZeros 26 = .ok (.iconst 1, 1) := by decide +kernel
theorem dX0_dropZeros_27 : decode cX0_dropZeros 27 = .ok (.isub, 1) := by decide +kernel
theorem dX0_dropZeros_28 : decode cX0_dropZeros 28 = .ok (.putfield 13, 3) := by decide +kernel
theorem dX0_dropZeros_31 : decode cX0_dropZeros 31 = .ok (.goto (-31), 3) := by decide +kernel
theorem dX0_dropZeros_34 : decode cX0_dropZeros 34 = .ok (.return_, 1) := by decide +kernel
theorem dX0_compareWith_0 : decode cX0_compareWith 0 = .ok (.aload_n 0, 1) := by decide +kernel
theorem dX0_compareWith_1 : decode cX0_compareWith 1 = .ok (.getfield 13, 3) := by decide +kernel
theorem dX0_compareWith_4 : decode cX0_compareWith 4 = .ok (.aload_n 1, 1) := by decide +kernel
theorem dX0_compareWith_5 : decode cX0_compareWith 5 = .ok (.getfield 13, 3) := by decide +kernel
theorem dX0_compareWith_8 : decode cX0_compareWith 8 = .ok (.if_icmp .eq 20, 3) := by decide +kernel
theorem dX0_compareWith_11 : decode cX0_compareWith 11 = .ok (.aload_n 0, 1) := by decide +kernel
theorem dX0_compareWith_12 : decode cX0_compareWith 12 = .ok (.getfield 13, 3) := by decide +kernel
theorem dX0_compareWith_15 : decode cX0_compareWith 15 = .ok (.aload_n 1, 1) := by decide +kernel
theorem dX0_compareWith_16 : decode cX0_compareWith 16 = .ok (.getfield 13, 3) := by decide +kernel
theorem dX0_compareWith_19 : decode cX0_compareWith 19 = .ok (.if_icmp .ge 7, 3) := by decide +kernel
theorem dX0_compareWith_22 : decode cX0_compareWith 22 = .ok (.iconst (-1), 1) := by decide +kernel
theorem dX0_compareWith_23 : decode cX0_compareWith 23 = .ok (.goto 4, 3) := by decide +kernel
theorem dX0_compareWith_26 : decode cX0_compareWith 26 = .ok (.iconst 1, 1) := by decide +kernel
theorem dX0_compareWith_27 : decode cX0_compareWith 27 = .ok (.ireturn, 1) := by decide +kernel
theorem dX0_compareWith_28 : decode cX0_compareWith 28 = .ok (.aload_n 0, 1) := by decide +kernel
theorem dX0_compareWith_29 : decode cX0_compareWith 29 = .ok (.getfield 13, 3) := by decide +kernel
theorem dX0_compareWith_32 : decode cX0_compareWith 32 = .ok (.iconst 1, 1) := by decide +kernel
theorem dX0_compareWith_33 : decode cX0_compareWith 33 = .ok (.isub, 1) := by decide +kernel
theorem dX0_compareWith_34 : decode cX0_compareWith 34 = .ok (.istore_n 2, 1) := by decide +kernel
theorem dX0_compareWith_35 : decode cX0_compareWith 35 = .ok (.iload_n 2, 1) := by decide +kernel
theorem dX0_compareWith_36 : decode cX0_compareWith 36 = .ok (.ifCond .lt 56, 3) := by decide +kernel
theorem dX0_compareWith_39 : decode cX0_compareWith 39 = .ok (.aload_n 0, 1) := by decide +kernel
theorem dX0_compareWith_40 : decode cX0_compareWith 40 = .ok (.getfield 9, 3) := by decide +kernel
theorem dX0_compareWith_43 : decode cX0_compareWith 43 = .ok (.iload_n 2, 1) := by decide +kernel
theorem dX0_compareWith_44 : decode cX0_compareWith 44 = .ok (.iaload, 1) := by decide +kernel
theorem dX0_compareWith_45 : decode cX0_compareWith 45 = .ok (.aload_n 1, 1) := by decide +kernel
theorem dX0_compareWith_46 : decode cX0_compareWith 46 = .ok (.getfield 9, 3) := by decide +kernel
theorem dX0_compareWith_49 : decode cX0_compareWith 49 = .ok (.iload_n 2, 1) := by decide +kernel
theorem dX0_compareWith_50 : decode cX0_compareWith 50 = .ok (.iaload, 1) := by decide +kernel
theorem dX0_compareWith_51 : decode cX0_compareWith 51 = .ok (.if_icmp .eq 35, 3) := by decide +kernel
theorem dX0_compareWith_54 : decode cX0_compareWith 54 = .ok (.aload_n 0, 1) := by decide +kernel
theorem dX0_compareWith_55 : decode cX0_compareWith 55 = .ok (.getfield 9, 3) := by decide +kernel
theorem dX0_compareWith_58 : decode cX0_compareWith 58 = .ok (.iload_n 2, 1) := by decide +kernel
theorem dX0_compareWith_59 : decode cX0_compareWith 59 = .ok (.iaload, 1) := by decide +kernel
theorem dX0_compareWith_60 : decode cX0_compareWith 60 = .ok (.i2l, 1) := by decide +kernel
theorem dX0_compareWith_61 : decode cX0_compareWith 61 = .ok (.ldc2_w 17, 3) := by decide +kernel
theorem dX0_compareWith_64 : decode cX0_compareWith 64 = .ok (.land, 1) := by decide +kernel
theorem dX0_compareWith_65 : decode cX0_compareWith 65 = .ok (.aload_n 1, 1) := by decide +kernel
theorem dX0_compareWith_66 : decode cX0_compareWith 66 = .ok (.getfield 9, 3) := by decide +kernel
theorem dX0_compareWith_69 : decode cX0_compareWith 69 = .ok (.iload_n 2, 1) := by decide +kernel
theorem dX0_compareWith_70 : decode cX0_compareWith 70 = .ok (.iaload, 1) := by decide +kernel
theorem dX0_compareWith_71 : decode cX0_compareWith 71 = .ok (.i2l, 1) := by decide +kernel
theorem dX0_compareWith_72 : decode cX0_compareWith 72 = .ok (.ldc2_w 17, 3) := by decide +kernel
theorem dX0_compareWith_75 : decode cX0_compareWith 75 = .ok (.land, 1) := by decide +kernel
theorem dX0_compareWith_76 : decode cX0_compareWith 76 = .ok (.lcmp, 1) := by decide +kernel
theorem dX0_compareWith_77 : decode cX0_compareWith 77 = .ok (.ifCond .ge 7, 3) := by decide +kernel
theorem dX0_compareWith_80 : decode cX0_compareWith 80 = .ok (.iconst (-1), 1) := by decide +kernel
theorem dX0_compareWith_81 : decode cX0_compareWith 81 = .ok (.goto 4, 3) := by decide +kernel
theorem dX0_compareWith_84 : decode cX0_compareWith 84 = .ok (.iconst 1, 1) := by decide +kernel
theorem dX0_compareWith_85 : decode cX0_compareWith 85 = .ok (.ireturn, 1) := by decide +kernel
theorem dX0_compareWith_86 : decode cX0_compareWith 86 = .ok (.iinc 2 (-1), 3) := by decide +kernel
theorem dX0_compareWith_89 : decode cX0_compareWith 89 = .ok (.goto (-54), 3) := by decide +kernel
theorem dX0_compareWith_92 : decode cX0_compareWith 92 = .ok (.iconst 0, 1) := by decide +kernel
theorem dX0_compareWith_93 : decode cX0_compareWith 93 = .ok (.ireturn, 1) := by decide +kernel
set_option maxRecDepth 20000 in
theorem ggX0_subtract_X0_dropZeros : GoodIn wsX0_subtract wsX0_dropZeros := goodIn_r _ [8, 1, 2, 9, 10] rfl (by decide +kernel)
set_option maxRecDepth 20000 in
theorem gX0_subtract_X0_dropZeros : GoodIn wsX0_subtract (wsV RX0 40 RX0 yX0_dropZeros wsX0_dropZeros) := goodIn_app (goodIn_of _ (by decide +kernel)) ggX0_subtract_X0_dropZeros
theorem dX0_subtract_0 : decode cX0_subtract 0 = .ok (.lconst 0, 1) := by decide +kernel
theorem dX0_subtract_1 : decode cX0_subtract 1 = .ok (.lstore_n 2, 1) := by decide +kernel
theorem dX0_subtract_2 : decode cX0_subtract 2 = .ok (.iconst 0, 1) := by decide +kernel
theorem dX0_subtract_3 : decode cX0_subtract 3 = .ok (.istore 4, 2) := by decide +kernel
theorem dX0_subtract_5 : decode cX0_subtract 5 = .ok (.iload 4, 2) := by decide +kernel
theorem dX0_subtract_7 : decode cX0_subtract 7 = .ok (.aload_n 0, 1) := by decide +kernel
theorem dX0_subtract_8 : decode cX0_subtract 8 = .ok (.getfield 13, 3) := by decide +kernel
theorem dX0_subtract_11 : decode cX0_subtract 11 = .ok (.if_icmp .ge 67, 3) := by decide +kernel
theorem dX0_subtract_14 : decode cX0_subtract 14 = .ok (.aload_n 0, 1) := by decide +kernel
theorem dX0_subtract_15 : decode cX0_subtract 15 = .ok (.getfield 9, 3) := by decide +kernel
theorem dX0_subtract_18 : decode cX0_subtract 18 = .ok (.iload 4, 2) := by decide +kernel
theorem dX0_subtract_20 : decode cX0_subtract 20 = .ok (.iaload, 1) := by decide +kernel
theorem dX0_subtract_21 : decode cX0_subtract 21 = .ok (.i2l, 1) := by decide +kernel
theorem dX0_subtract_22 : decode cX0_subtract 22 = .ok (.ldc2_w 17, 3) := by decide +kernel
theorem dX0_subtract_25 : decode cX0_subtract 25 = .ok (.land, 1) := by decide +kernel
theorem dX0_subtract_26 : decode cX0_subtract 26 = .ok (.iload 4, 2) := by decide +kernel
theorem dX0_subtract_28 : decode cX0_subtract 28 = .ok (.aload_n 1, 1) := by decide +kernel
theorem dX0_subtract_29 : decode cX0_subtract 29 = .ok (.getfield 13, 3) := by decide +kernel
theorem dX0_subtract_32 : decode cX0_subtract 32 = .ok (.if_icmp .ge 18, 3) := by decide +kernel
theorem dX0_subtract_35 : decode cX0_subtract 35 = .ok (.aload_n 1, 1) := by decide +kernel
theorem dX0_subtract_36 : decode cX0_subtract 36 = .ok (.getfield 9, 3) := by decide +kernel
theorem dX0_subtract_39 : decode cX0_subtract 39 = .ok (.iload 4, 2) := by decide +kernel
theorem dX0_subtract_41 : decode cX0_subtract 41 = .ok (.iaload, 1) := by decide +kernel
theorem dX0_subtract_42 : decode cX0_subtract 42 = .ok (.i2l, 1) := by decide +kernel
theorem dX0_subtract_43 : decode cX0_subtract 43 = .ok (.ldc2_w 17, 3) := by decide +kernel
theorem dX0_subtract_46 : decode cX0_subtract 46 = .ok (.land, 1) := by decide +kernel
theorem dX0_subtract_47 : decode cX0_subtract 47 = .ok (.goto 4, 3) := by decide +kernel
theorem dX0_subtract_50 : decode cX0_subtract 50 = .ok (.lconst 0, 1) := by decide +kernel
theorem dX0_subtract_51 : decode cX0_subtract 51 = .ok (.lsub, 1) := by decide +kernel
theorem dX0_subtract_52 : decode cX0_subtract 52 = .ok (.lload_n 2, 1) := by decide +kernel
theorem dX0_subtract_53 : decode cX0_subtract 53 = .ok (.ladd, 1) := by decide +kernel
theorem dX0_subtract_54 : decode cX0_subtract 54 = .ok (.lstore 5, 2) := by decide +kernel
theorem dX0_subtract_56 : decode cX0_subtract 56 = .ok (.aload_n 0, 1) := by decide +kernel
theorem dX0_subtract_57 : decode cX0_subtract 57 = .ok (.getfield 9, 3) := by decide +kernel
theorem dX0_subtract_60 : decode cX0_subtract 60 = .ok (.iload 4, 2) := by decide +kernel
theorem dX0_subtract_62 : decode cX0_subtract 62 = .ok (.lload 5, 2) := by decide +kernel
theorem dX0_subtract_64 : decode cX0_subtract 64 = .ok (.l2i, 1) := by decide +kernel
theorem dX0_subtract_65 : decode cX0_subtract 65 = .ok (.iastore, 1) := by decide +kernel
theorem dX0_subtract_66 : decode cX0_subtract 66 = .ok (.lload 5, 2) := by decide +kernel
theorem dX0_subtract_68 : decode cX0_subtract 68 = .ok (.bipush 32, 2) := by decide +kernel
theorem dX0_subtract_70 : decode cX0_subtract 70 = .ok (.lshr, 1) := by decide +kernel
theorem dX0_subtract_71 : decode cX0_subtract 71 = .ok (.lstore_n 2, 1) := by decide +kernel
theorem dX0_subtract_72 : decode cX0_subtract 72 = .ok (.iinc 4 1, 3) := by decide +kernel
theorem dX0_subtract_75 : decode cX0_subtract 75 = .ok (.goto (-70), 3) := by decide +kernel
theorem dX0_subtract_78 : decode cX0_subtract 78 = .ok (.aload_n 0, 1) := by decide +kernel
theorem dX0_subtract_79 : decode cX0_subtract 79 = .ok (.invokevirtual 40, 3) := by decide +kernel
theorem dX0_subtract_82 : decode cX0_subtract 82 = .ok (.return_, 1) := by decide +kernel
theorem dX1_init_0 : decode cX1_init 0 = .ok (.aload_n 0, 1) := by decide +kernel
theorem dX1_init_1 : decode cX1_init 1 = .ok (.invokespecial 1, 3) := by decide +kernel
theorem dX1_init_4 : decode cX1_init 4 = .ok (.return_, 1) := by decide +kernel
theorem dX1_set_0 : decode cX1_set 0 = .ok (.aload_n 0, 1) := by decide +kernel
theorem dX1_set_1 : decode cX1_set 1 = .ok (.iload_n 1, 1) := by decide +kernel
theorem dX1_set_2 : decode cX1_set 2 = .ok (.putfield 7, 3) := by decide +kernel
theorem dX1_set_5 : decode cX1_set 5 = .ok (.aload_n 0, 1) := by decide +kernel
theorem dX1_set_6 : decode cX1_set 6 = .ok (.lload_n 2, 1) := by decide +kernel
theorem dX1_set_7 : decode cX1_set 7 = .ok (.putfield 13, 3) := by decide +kernel
theorem dX1_set_10 : decode cX1_set 10 = .ok (.aload_n 0, 1) := by decide +kernel
theorem dX1_set_11 : decode cX1_set 11 = .ok (.iload 4, 2) := by decide +kernel
theorem dX1_set_13 : decode cX1_set 13 = .ok (.putfield 17, 3) := by decide +kernel
theorem dX1_set_16 : decode cX1_set 16 = .ok (.aload_n 0, 1) := by decide +kernel
theorem dX1_set_17 : decode cX1_set 17 = .ok (.iload 5, 2) := by decide +kernel
theorem dX1_set_19 : decode cX1_set 19 = .ok (.putfield 20, 3) := by decide +kernel
theorem dX1_set_22 : decode cX1_set 22 = .ok (.return_, 1) := by decide +kernel
set_option maxRecDepth 20000 in
theorem ggX2_init_X0_init : GoodIn wsX2_init wsX0_init := goodIn_r _ [15, 16, 2, 3, 17, 18, 34, 35] rfl (by decide +kernel)
set_option maxRecDepth 20000 in
theorem gX2_init_X0_init_n21 : GoodIn wsX2_init (wsX0_init) := ggX2_init_X0_init
set_option maxRecDepth 20000 in
theorem ggX2_init_X5_init : GoodIn wsX2_init wsX5_init := goodIn_r _ [21, 22, 2, 3, 23, 24, 7, 8, 25, 14, 15, 16, 17, 18, 36, 37, 38, 34, 35] rfl (by decide +kernel)
set_option maxRecDepth 20000 in
theorem gX2_init_X5_init : GoodIn wsX2_init (wsX5_init) := ggX2_init_X5_init
theorem dX2_init_0 : decode cX2_init 0 = .ok (.aload_n 0, 1) := by decide +kernel
theorem dX2_init_1 : decode cX2_init 1 = .ok (.invokespecial 3, 3) := by decide +kernel
theorem dX2_init_4 : decode cX2_init 4 = .ok (.aload_n 0, 1) := by decide +kernel
theorem dX2_init_5 : decode cX2_init 5 = .ok (.aload_n 1, 1) := by decide +kernel
theorem dX2_init_6 : decode cX2_init 6 = .ok (.putfield 9, 3) := by decide +kernel
theorem dX2_init_9 : decode cX2_init 9 = .ok (.aload_n 0, 1) := by decide +kernel
theorem dX2_init_10 : decode cX2_init 10 = .ok (.aload_n 2, 1) := by decide +kernel
theorem dX2_init_11 : decode cX2_init 11 = .ok (.putfield 15, 3) := by decide +kernel
theorem dX2_init_14 : decode cX2_init 14 = .ok (.aload_n 0, 1) := by decide +kernel
theorem dX2_init_15 : decode cX2_init 15 = .ok (.new 19, 3) := by decide +kernel
theorem dX2_init_18 : decode cX2_init 18 = .ok (.dup, 1) := by decide +kernel
theorem dX2_init_19 : decode cX2_init 19 = .ok (.invokespecial 21, 3) := by decide +kernel
theorem dX2_init_22 : decode cX2_init 22 = .ok (.putfield 22, 3) := by decide +kernel
theorem dX2_init_25 : decode cX2_init 25 = .ok (.aload_n 0, 1) := by decide +kernel
theorem dX2_init_26 : decode cX2_init 26 = .ok (.new 26, 3) := by decide +kernel
theorem dX2_init_29 : decode cX2_init 29 = .ok (.dup, 1) := by decide +kernel
theorem dX2_init_30 : decode cX2_init 30 = .ok (.aload_n 0, 1) := by decide +kernel
theorem dX2_init_31 : decode cX2_init 31 = .ok (.getfield 22, 3) := by decide +kernel
theorem dX2_init_34 : decode cX2_init 34 = .ok (.invokespecial 28, 3) := by decide +kernel
theorem dX2_init_37 : decode cX2_init 37 = .ok (.putfield 31, 3) := by decide +kernel
theorem dX2_init_40 : decode cX2_init 40 = .ok (.return_, 1) := by decide +kernel
set_option maxRecDepth 20000 in
theorem ggX2_measureBroken_X2_hasMark : GoodIn wsX2_measureBroken wsX2_hasMark := goodIn_r _ [10, 3, 11, 12, 13, 14, 15, 16, 17, 18, 19, 20, 9, 21, 45, 46, 47, 48, 49, 50, 51, 52, 53, 54, 55] rfl (by decide +kernel)
set_option maxRecDepth 20000 in
theorem gX2_measureBroken_X2_hasMark : GoodIn wsX2_measureBroken (wsV RX2 35 RX2 yX2_hasMark wsX2_hasMark) := goodIn_app (goodIn_of _ (by decide +kernel)) ggX2_measureBroken_X2_hasMark
set_option maxRecDepth 20000 in
theorem ggX2_measureBroken_X2_behindDigits : GoodIn wsX2_measureBroken wsX2_behindDigits := goodIn_r _ [25, 3, 26, 27, 28, 14, 29, 16, 11, 12, 13, 15, 17, 30, 31, 32, 45, 46, 47, 48, 49, 50, 51, 52, 53, 54, 55] rfl (by decide +kernel)
set_option maxRecDepth 20000 in
theorem gX2_measureBroken_X2_behindDigits : GoodIn wsX2_measureBroken (wsV RX2 46 RX2 yX2_behindDigits wsX2_behindDigits) := goodIn_app (goodIn_of _ (by decide +kernel)) ggX2_measureBroken_X2_behindDigits
set_option maxRecDepth 20000 in
theorem ggX2_measureBroken_X6_look : GoodIn wsX2_measureBroken wsX6_look := goodIn_r _ [15, 16, 17, 53, 54, 55] rfl (by decide +kernel)
set_option maxRecDepth 20000 in
theorem gX2_measureBroken_X6_look : GoodIn wsX2_measureBroken (wsV RX2 50 RX6 yX6_look wsX6_look) := goodIn_app (goodIn_of _ (by decide +kernel)) ggX2_measureBroken_X6_look
set_option maxRecDepth 20000 in
theorem ggX2_measureBroken_X2_behindExponent : GoodIn wsX2_measureBroken wsX2_behindExponent := goodIn_r _ [36, 18, 19, 20, 9, 21, 3, 11, 12, 13, 14, 15, 16, 17, 22, 23, 24, 25, 26, 27, 28, 29, 30, 31, 32, 45, 46, 47, 48, 49, 50, 51, 52, 53, 54, 55] rfl (by decide +kernel)
set_option maxRecDepth 20000 in
theorem gX2_measureBroken_X2_behindExponent : GoodIn wsX2_measureBroken (wsV RX2 59 RX2 yX2_behindExponent wsX2_behindExponent) := goodIn_app (goodIn_of _ (by decide +kernel)) ggX2_measureBroken_X2_behindExponent
set_option maxRecDepth 20000 in
theorem ggX2_measureBroken_X2_isFloatLetter : GoodIn wsX2_measureBroken wsX2_isFloatLetter := goodIn_r _ [40, 18, 19, 20, 9, 21, 3, 11, 12, 13, 14, 15, 16, 17, 45, 46, 47, 48, 49, 50, 51, 52, 53, 54, 55] rfl (by decide +kernel)
set_option maxRecDepth 20000 in
theorem gX2_measureBroken_X2_isFloatLetter : GoodIn wsX2_measureBroken (wsV RX2 66 RX2 yX2_isFloatLetter wsX2_isFloatLetter) := goodIn_app (goodIn_of _ (by decide +kernel)) ggX2_measureBroken_X2_isFloatLetter
set_option maxRecDepth 20000 in
theorem ggX2_measureBroken_X2_isDoubleLetter : GoodIn wsX2_measureBroken wsX2_isDoubleLetter := goodIn_r _ [44, 18, 19, 20, 9, 21, 3, 11, 12, 13, 14, 15, 16, 17, 45, 46, 47, 48, 49, 50, 51, 52, 53, 54, 55] rfl (by decide +kernel)
set_option maxRecDepth 20000 in
theorem gX2_measureBroken_X2_isDoubleLetter : GoodIn wsX2_measureBroken (wsV RX2 70 RX2 yX2_isDoubleLetter wsX2_isDoubleLetter) := goodIn_app (goodIn_of _ (by decide +kernel)) ggX2_measureBroken_X2_isDoubleLetter
theorem dX2_measureBroken_0 : decode cX2_measureBroken 0 = .ok (.aload_n 0, 1) := by decide +kernel
theorem dX2_measureBroken_1 : decode cX2_measureBroken 1 = .ok (.iload_n 1, 1) := by decide +kernel
theorem dX2_measureBroken_2 : decode cX2_measureBroken 2 = .ok (.bipush 120, 2) := by decide +kernel
theorem dX2_measureBroken_4 : decode cX2_measureBroken 4 = .ok (.bipush 88, 2) := by decide +kernel
theorem dX2_measureBroken_6 : decode cX2_measureBroken 6 = .ok (.invokevirtual 35, 3) := by decide +kernel
theorem dX2_measureBroken_9 : decode cX2_measureBroken 9 = .ok (.istore_n 2, 1) := by decide +kernel
theorem dX2_measureBroken_10 : decode cX2_measureBroken 10 = .ok (.aload_n 0, 1) := by decide +kernel
theorem dX2_measureBroken_11 : decode cX2_measureBroken 11 = .ok (.iload_n 2, 1) := by decide +kernel
theorem dX2_measureBroken_12 : decode cX2_measureBroken 12 = .ok (.ifCond .eq 8, 3) := by decide +kernel
theorem dX2_measureBroken_15 : decode cX2_measureBroken 15 = .ok (.bipush 16, 2) := by decide +kernel
theorem dX2_measureBroken_17 : decode cX2_measureBroken 17 = .ok (.goto 5, 3) := by decide +kernel
theorem dX2_measureBroken_20 : decode cX2_measureBroken 20 = .ok (.bipush 10, 2) := by decide +kernel
theorem dX2_measureBroken_22 : decode cX2_measureBroken 22 = .ok (.putfield 39, 3) := by decide +kernel
theorem dX2_measureBroken_25 : decode cX2_measureBroken 25 = .ok (.aload_n 0, 1) := by decide +kernel
theorem dX2_measureBroken_26 : decode cX2_measureBroken 26 = .ok (.iload_n 2, 1) := by decide +kernel
theorem dX2_measureBroken_27 : decode cX2_measureBroken 27 = .ok (.ifCond .eq 9, 3) := by decide +kernel
theorem dX2_measureBroken_30 : decode cX2_measureBroken 30 = .ok (.iload_n 1, 1) := by decide +kernel
theorem dX2_measureBroken_31 : decode cX2_measureBroken 31 = .ok (.iconst 2, 1) := by decide +kernel
theorem dX2_measureBroken_32 : decode cX2_measureBroken 32 = .ok (.iadd, 1) := by decide +kernel
theorem dX2_measureBroken_33 : decode cX2_measureBroken 33 = .ok (.goto 4, 3) := by decide +kernel
theorem dX2_measureBroken_36 : decode cX2_measureBroken 36 = .ok (.iload_n 1, 1) := by decide +kernel
theorem dX2_measureBroken_37 : decode cX2_measureBroken 37 = .ok (.putfield 43, 3) := by decide +kernel
theorem dX2_measureBroken_40 : decode cX2_measureBroken 40 = .ok (.aload_n 0, 1) := by decide +kernel
theorem dX2_measureBroken_41 : decode cX2_measureBroken 41 = .ok (.aload_n 0, 1) := by decide +kernel
theorem dX2_measureBroken_42 : decode cX2_measureBroken 42 = .ok (.getfield 43, 3) := by decide +kernel
theorem dX2_measureBroken_45 : decode cX2_measureBroken 45 = .ok (.aload_n 0, 1) := by decide +kernel
theorem dX2_measureBroken_46 : decode cX2_measureBroken 46 = .ok (.getfield 39, 3) := by decide +kernel
theorem dX2_measureBroken_49 : decode cX2_measureBroken 49 = .ok (.invokevirtual 46, 3) := by decide +kernel
theorem dX2_measureBroken_52 : decode cX2_measureBroken 52 = .ok (.istore_n 3, 1) := by decide +kernel
theorem dX2_measureBroken_53 : decode cX2_measureBroken 53 = .ok (.aload_n 0, 1) := by decide +kernel
theorem dX2_measureBroken_54 : decode cX2_measureBroken 54 = .ok (.getfield 9, 3) := by decide +kernel
theorem dX2_measureBroken_57 : decode cX2_measureBroken 57 = .ok (.iload_n 3, 1) := by decide +kernel
theorem dX2_measureBroken_58 : decode cX2_measureBroken 58 = .ok (.invokevirtual 50, 3) := by decide +kernel
theorem dX2_measureBroken_61 : decode cX2_measureBroken 61 = .ok (.bipush 46, 2) := by decide +kernel
theorem dX2_measureBroken_63 : decode cX2_measureBroken 63 = .ok (.if_icmp .ne 7, 3) := by decide +kernel
theorem dX2_measureBroken_66 : decode cX2_measureBroken 66 = .ok (.iconst 1, 1) := by decide +kernel
theorem dX2_measureBroken_67 : decode cX2_measureBroken 67 = .ok (.goto 4, 3) := by decide +kernel
theorem dX2_measureBroken_70 : decode cX2_measureBroken 70 = .ok (.iconst 0, 1) := by decide +kernel
theorem dX2_measureBroken_71 : decode cX2_measureBroken 71 = .ok (.istore 4, 2) := by decide +kernel
theorem dX2_measureBroken_73 : decode cX2_measureBroken 73 = .ok (.aload_n 0, 1) := by decide +kernel
theorem dX2_measureBroken_74 : decode cX2_measureBroken 74 = .ok (.iload 4, 2) := by decide +kernel
theorem dX2_measureBroken_76 : decode cX2_measureBroken 76 = .ok (.ifCond .eq 17, 3) := by decide +kernel
theorem dX2_measureBroken_79 : decode cX2_measureBroken 79 = .ok (.aload_n 0, 1) := by decide +kernel
theorem dX2_measureBroken_80 : decode cX2_measureBroken 80 = .ok (.iload_n 3, 1) := by decide +kernel
theorem dX2_measureBroken_81 : decode cX2_measureBroken 81 = .ok (.iconst 1, 1) := by decide +kernel
theorem dX2_measureBroken_82 : decode cX2_measureBroken 82 = .ok (.iadd, 1) := by decide +kernel
theorem dX2_measureBroken_83 : decode cX2_measureBroken 83 = .ok (.aload_n 0, 1) := by decide +kernel
theorem dX2_measureBroken_84 : decode cX2_measureBroken 84 = .ok (.getfield 39, 3) := by decide +kernel
theorem dX2_measureBroken_87 : decode cX2_measureBroken 87 = .ok (.invokevirtual 46, 3) := by decide +kernel
theorem dX2_measureBroken_90 : decode cX2_measureBroken 90 = .ok (.goto 4, 3) := by decide +kernel
theorem dX2_measureBroken_93 : decode cX2_measureBroken 93 = .ok (.iload_n 3, 1) := by decide +kernel
theorem dX2_measureBroken_94 : decode cX2_measureBroken 94 = .ok (.putfield 56, 3) := by decide +kernel
theorem dX2_measureBroken_97 : decode cX2_measureBroken 97 = .ok (.aload_n 0, 1) := by decide +kernel
theorem dX2_measureBroken_98 : decode cX2_measureBroken 98 = .ok (.aload_n 0, 1) := by decide +kernel
theorem dX2_measureBroken_99 : decode cX2_measureBroken 99 = .ok (.aload_n 0, 1) := by decide +kernel
theorem dX2_measureBroken_100 : decode cX2_measureBroken 100 = .ok (.getfield 56, 3) := by decide +kernel
theorem dX2_measureBroken_103 : decode cX2_measureBroken 103 = .ok (.iload_n 2, 1) := by decide +kernel
theorem dX2_measureBroken_104 : decode cX2_measureBroken 104 = .ok (.ifCond .eq 8, 3) := by decide +kernel
theorem dX2_measureBroken_107 : decode cX2_measureBroken 107 = .ok (.bipush 112, 2) := by decide +kernel
theorem dX2_measureBroken_109 : decode cX2_measureBroken 109 = .ok (.goto 5, 3) := by decide +kernel
theorem dX2_measureBroken_112 : decode cX2_measureBroken 112 = .ok (.bipush 101, 2) := by decide +kernel
theorem dX2_measureBroken_114 : decode cX2_measureBroken 114 = .ok (.iload_n 2, 1) := by decide +kernel
theorem dX2_measureBroken_115 : decode cX2_measureBroken 115 = .ok (.ifCond .eq 8, 3) := by decide +kernel
theorem dX2_measureBroken_118 : decode cX2_measureBroken 118 = .ok (.bipush 80, 2) := by decide +kernel
theorem dX2_measureBroken_120 : decode cX2_measureBroken 120 = .ok (.goto 5, 3) := by decide +kernel
theorem dX2_measureBroken_123 : decode cX2_measureBroken 123 = .ok (.bipush 69, 2) := by decide +kernel
theorem dX2_measureBroken_125 : decode cX2_measureBroken 125 = .ok (.invokevirtual 59, 3) := by decide +kernel
theorem dX2_measureBroken_128 : decode cX2_measureBroken 128 = .ok (.putfield 63, 3) := by decide +kernel
theorem dX2_measureBroken_131 : decode cX2_measureBroken 131 = .ok (.aload_n 0, 1) := by decide +kernel
theorem dX2_measureBroken_132 : decode cX2_measureBroken 132 = .ok (.getfield 63, 3) := by decide +kernel
theorem dX2_measureBroken_135 : decode cX2_measureBroken 135 = .ok (.aload_n 0, 1) := by decide +kernel
theorem dX2_measureBroken_136 : decode cX2_measureBroken 136 = .ok (.getfield 56, 3) := by decide +kernel
theorem dX2_measureBroken_139 : decode cX2_measureBroken 139 = .ok (.if_icmp .le 7, 3) := by decide +kernel
theorem dX2_measureBroken_142 : decode cX2_measureBroken 142 = .ok (.iconst 1, 1) := by decide +kernel
theorem dX2_measureBroken_143 : decode cX2_measureBroken 143 = .ok (.goto 4, 3) := by decide +kernel
theorem dX2_measureBroken_146 : decode cX2_measureBroken 146 = .ok (.iconst 0, 1) := by decide +kernel
theorem dX2_measureBroken_147 : decode cX2_measureBroken 147 = .ok (.istore 5, 2) := by decide +kernel
theorem dX2_measureBroken_149 : decode cX2_measureBroken 149 = .ok (.iload_n 2, 1) := by decide +kernel
theorem dX2_measureBroken_150 : decode cX2_measureBroken 150 = .ok (.ifCond .eq 48, 3) := by decide +kernel
theorem dX2_measureBroken_153 : decode cX2_measureBroken 153 = .ok (.aload_n 0, 1) := by decide +kernel
theorem dX2_measureBroken_154 : decode cX2_measureBroken 154 = .ok (.getfield 56, 3) := by decide +kernel
theorem dX2_measureBroken_157 : decode cX2_measureBroken 157 = .ok (.aload_n 0, 1) := by decide +kernel
theorem dX2_measureBroken_158 : decode cX2_measureBroken 158 = .ok (.getfield 43, 3) := by decide +kernel
theorem dX2_measureBroken_161 : decode cX2_measureBroken 161 = .ok (.isub, 1) := by decide +kernel
theorem dX2_measureBroken_162 : decode cX2_measureBroken 162 = .ok (.iload 4, 2) := by decide +kernel
theorem dX2_measureBroken_164 : decode cX2_measureBroken 164 = .ok (.ifCond .eq 7, 3) := by decide +kernel
theorem dX2_measureBroken_167 : decode cX2_measureBroken 167 = .ok (.iconst 1, 1) := by decide +kernel
theorem dX2_measureBroken_168 : decode cX2_measureBroken 168 = .ok (.goto 4, 3) := by decide +kernel
theorem dX2_measureBroken_171 : decode cX2_measureBroken 171 = .ok (.iconst 0, 1) := by decide +kernel
theorem dX2_measureBroken_172 : decode cX2_measureBroken 172 = .ok (.if_icmp .le 7, 3) := by decide +kernel
theorem dX2_measureBroken_175 : decode cX2_measureBroken 175 = .ok (.iconst 1, 1) := by decide +kernel
theorem dX2_measureBroken_176 : decode cX2_measureBroken 176 = .ok (.goto 4, 3) := by decide +kernel
theorem dX2_measureBroken_179 : decode cX2_measureBroken 179 = .ok (.iconst 0, 1) := by decide +kernel
theorem dX2_measureBroken_180 : decode cX2_measureBroken 180 = .ok (.istore 6, 2) := by decide +kernel
theorem dX2_measureBroken_182 : decode cX2_measureBroken 182 = .ok (.iload 6, 2) := by decide +kernel
theorem dX2_measureBroken_184 : decode cX2_measureBroken 184 = .ok (.ifCond .eq 12, 3) := by decide +kernel
theorem dX2_measureBroken_187 : decode cX2_measureBroken 187 = .ok (.iload 5, 2) := by decide +kernel
theorem dX2_measureBroken_189 : decode cX2_measureBroken 189 = .ok (.ifCond .eq 7, 3) := by decide +kernel
theorem dX2_measureBroken_192 : decode cX2_measureBroken 192 = .ok (.iconst 1, 1) := by decide +kernel
theorem dX2_measureBroken_193 : decode cX2_measureBroken 193 = .ok (.goto 4, 3) := by decide +kernel
theorem dX2_measureBroken_196 : decode cX2_measureBroken 196 = .ok (.iconst 0, 1) := by decide +kernel
theorem dX2_measureBroken_197 : decode cX2_measureBroken 197 = .ok (.ireturn, 1) := by decide +kernel
theorem dX2_measureBroken_198 : decode cX2_measureBroken 198 = .ok (.iload 4, 2) := by decide +kernel
theorem dX2_measureBroken_200 : decode cX2_measureBroken 200 = .ok (.ifCond .ne 30, 3) := by decide +kernel
theorem dX2_measureBroken_203 : decode cX2_measureBroken 203 = .ok (.iload 5, 2) := by decide +kernel
theorem dX2_measureBroken_205 : decode cX2_measureBroken 205 = .ok (.ifCond .ne 25, 3) := by decide +kernel
theorem dX2_measureBroken_208 : decode cX2_measureBroken 208 = .ok (.aload_n 0, 1) := by decide +kernel
theorem dX2_measureBroken_209 : decode cX2_measureBroken 209 = .ok (.aload_n 0, 1) := by decide +kernel
theorem dX2_measureBroken_210 : decode cX2_measureBroken 210 = .ok (.getfield 63, 3) := by decide +kernel
theorem dX2_measureBroken_213 : decode cX2_measureBroken 213 = .ok (.invokevirtual 66, 3) := by decide +kernel
theorem dX2_measureBroken_216 : decode cX2_measureBroken 216 = .ok (.ifCond .ne 14, 3) := by decide +kernel
theorem dX2_measureBroken_219 : decode cX2_measureBroken 219 = .ok (.aload_n 0, 1) := by decide +kernel
theorem dX2_measureBroken_220 : decode cX2_measureBroken 220 = .ok (.aload_n 0, 1) := by decide +kernel
theorem dX2_measureBroken_221 : decode cX2_measureBroken 221 = .ok (.getfield 63, 3) := by decide +kernel
theorem dX2_measureBroken_224 : decode cX2_measureBroken 224 = .ok (.invokevirtual 70, 3) := by decide +kernel
theorem dX2_measureBroken_227 : decode cX2_measureBroken 227 = .ok (.ifCond .eq 7, 3) := by decide +kernel
theorem dX2_measureBroken_230 : decode cX2_measureBroken 230 = .ok (.iconst 1, 1) := by decide +kernel
theorem dX2_measureBroken_231 : decode cX2_measureBroken 231 = .ok (.goto 4, 3) := by decide +kernel
theorem dX2_measureBroken_234 : decode cX2_measureBroken 234 = .ok (.iconst 0, 1) := by decide +kernel
theorem dX2_measureBroken_235 : decode cX2_measureBroken 235 = .ok (.ireturn, 1) := by decide +kernel
set_option maxRecDepth 20000 in
theorem ggX2_takeBroken_X2_isFloatLetter : GoodIn wsX2_takeBroken wsX2_isFloatLetter := goodIn_r _ [11, 12, 13, 14, 10, 15, 16, 17, 18, 19, 20, 21, 22, 23, 143, 144, 145, 146, 147, 148, 149, 150, 151, 152, 153] rfl (by decide +kernel)
set_option maxRecDepth 20000 in
theorem gX2_takeBroken_X2_isFloatLetter : GoodIn wsX2_takeBroken (wsV RX2 66 RX2 yX2_isFloatLetter wsX2_isFloatLetter) := goodIn_app (goodIn_of _ (by decide +kernel)) ggX2_takeBroken_X2_isFloatLetter
set_option maxRecDepth 20000 in
theorem ggX2_takeBroken_X2_isDoubleLetter : GoodIn wsX2_takeBroken wsX2_isDoubleLetter := goodIn_r _ [27, 12, 13, 14, 10, 15, 16, 17, 18, 19, 20, 21, 22, 23, 143, 144, 145, 146, 147, 148, 149, 150, 151, 152, 153] rfl (by decide +kernel)
set_option maxRecDepth 20000 in
theorem gX2_takeBroken_X2_isDoubleLetter : GoodIn wsX2_takeBroken (wsV RX2 70 RX2 yX2_isDoubleLetter wsX2_isDoubleLetter) := goodIn_app (goodIn_of _ (by decide +kernel)) ggX2_takeBroken_X2_isDoubleLetter
set_option maxRecDepth 20000 in
theorem ggX2_takeBroken_X2_sumUp : GoodIn wsX2_takeBroken wsX2_sumUp := goodIn_r _ [31, 32, 16, 4, 33, 34, 35, 36, 37, 38, 39, 17, 18, 19, 20, 21, 22, 23, 40, 41, 42, 43, 44, 45, 46, 47, 143, 144, 145, 146, 147, 148, 149, 150, 154, 155, 151, 152, 153] rfl (by decide +kernel)
set_option maxRecDepth 20000 in
theorem gX2_takeBroken_X2_sumUp : GoodIn wsX2_takeBroken (wsV RX2 73 RX2 yX2_sumUp wsX2_sumUp) := goodIn_app (goodIn_of _ (by decide +kernel)) ggX2_takeBroken_X2_sumUp
set_option maxRecDepth 20000 in
theorem ggX2_takeBroken_X2_readExponent : GoodIn wsX2_takeBroken wsX2_readExponent := goodIn_r _ [51, 3, 1, 16, 52, 17, 18, 19, 20, 21, 22, 23, 53, 41, 54, 55, 40, 42, 143, 144, 145, 146, 147, 148, 149, 150, 151, 152, 153] rfl (by decide +kernel)
set_option maxRecDepth 20000 in
theorem gX2_takeBroken_X2_readExponent : GoodIn wsX2_takeBroken (wsV RX2 76 RX2 yX2_readExponent wsX2_readExponent) := goodIn_app (goodIn_of _ (by decide +kernel)) ggX2_takeBroken_X2_readExponent
set_option maxRecDepth 20000 in
theorem ggX2_takeBroken_X2_bounded : GoodIn wsX2_takeBroken wsX2_bounded := goodIn_r _ [58, 59, 60, 61, 62, 63, 64, 65] rfl (by decide +kernel)
set_option maxRecDepth 20000 in
theorem gX2_takeBroken_X2_bounded : GoodIn wsX2_takeBroken (va_wsS RX2 80 yX2_bounded wsX2_bounded) := goodIn_app (goodIn_of _ (by decide +kernel)) ggX2_takeBroken_X2_bounded
set_option maxRecDepth 20000 in
theorem ggX2_takeBroken_X5_scaleByFive : GoodIn wsX2_takeBroken wsX5_scaleByFive := goodIn_r _ [70, 71, 72, 73, 34, 35, 36, 37, 38, 39, 74, 75, 76, 77, 78, 79, 44, 45, 46, 47, 156, 157, 158, 154, 155] rfl (by decide +kernel)
set_option maxRecDepth 20000 in
theorem gX2_takeBroken_X5_scaleByFive : GoodIn wsX2_takeBroken (wsV RX2 83 RX5 yX5_scaleByFive wsX5_scaleByFive) := goodIn_app (goodIn_of _ (by decide +kernel)) ggX2_takeBroken_X5_scaleByFive
set_option maxRecDepth 20000 in
theorem ggX2_takeBroken_X5_round : GoodIn wsX2_takeBroken wsX5_round := goodIn_r _ [83, 84, 72, 85, 64, 61, 65, 86, 87, 88, 36, 89, 39, 90, 91, 92, 69, 93, 71, 94, 95, 96, 97, 38, 98, 99, 100, 101, 102, 103, 104, 105, 106, 107, 60, 62, 108, 109, 110, 111, 47, 112, 113, 114, 115, 116, 117, 118, 119, 120, 121, 122, 123, 124, 125, 126, 127, 128, 129, 44, 45, 46, 156, 157, 158, 154, 155] rfl (by decide +kernel)
set_option maxRecDepth 20000 in
theorem gX2_takeBroken_X5_round : GoodIn wsX2_takeBroken (wsV RX2 87 RX5 yX5_round wsX5_round) := goodIn_app (goodIn_of _ (by decide +kernel)) ggX2_takeBroken_X5_round
set_option maxRecDepth 20000 in
theorem ggX2_takeBroken_X5_bits : GoodIn wsX2_takeBroken wsX5_bits := goodIn_r _ [133, 84, 156, 157, 158] rfl (by decide +kernel)
set_option maxRecDepth 20000 in
theorem gX2_takeBroken_X5_bits : GoodIn wsX2_takeBroken (wsV RX2 91 RX5 yX5_bits wsX5_bits) := goodIn_app (goodIn_of _ (by decide +kernel)) ggX2_takeBroken_X5_bits
set_option maxRecDepth 20000 in
theorem ggX2_takeBroken_X1_set : GoodIn wsX2_takeBroken wsX1_set := goodIn_r _ [138, 139, 140, 141, 142, 159, 160, 161, 162] rfl (by decide +kernel)
set_option maxRecDepth 20000 in
theorem gX2_takeBroken_X1_set : GoodIn wsX2_takeBroken (wsV RX2 95 RX1 yX1_set wsX1_set) := goodIn_app (goodIn_of _ (by decide +kernel)) ggX2_takeBroken_X1_set
theorem dX2_takeBroken_0 : decode cX2_takeBroken 0 = .ok (.aload_n 0, 1) := by decide +kernel
theorem dX2_takeBroken_1 : decode cX2_takeBroken 1 = .ok (.aload_n 0, 1) := by decide +kernel
theorem dX2_takeBroken_2 : decode cX2_takeBroken 2 = .ok (.getfield 63, 3) := by decide +kernel
theorem dX2_takeBroken_5 : decode cX2_takeBroken 5 = .ok (.invokevirtual 66, 3) := by decide +kernel
theorem dX2_takeBroken_8 : decode cX2_takeBroken 8 = .ok (.istore_n 2, 1) := by decide +kernel
theorem dX2_takeBroken_9 : decode cX2_takeBroken 9 = .ok (.iload_n 2, 1) := by decide +kernel
theorem dX2_takeBroken_10 : decode cX2_takeBroken 10 = .ok (.ifCond .ne 14, 3) := by decide +kernel
theorem dX2_takeBroken_13 : decode cX2_takeBroken 13 = .ok (.aload_n 0, 1) := by decide +kernel
theorem dX2_takeBroken_14 : decode cX2_takeBroken 14 = .ok (.aload_n 0, 1) := by decide +kernel
theorem dX2_takeBroken_15 : decode cX2_takeBroken 15 = .ok (.getfield 63, 3) := by decide +kernel
theorem dX2_takeBroken_18 : decode cX2_takeBroken 18 = .ok (.invokevirtual 70, 3) := by decide +kernel
theorem dX2_takeBroken_21 : decode cX2_takeBroken 21 = .ok (.ifCond .eq 12, 3) := by decide +kernel
theorem dX2_takeBroken_24 : decode cX2_takeBroken 24 = .ok (.aload_n 0, 1) := by decide +kernel
theorem dX2_takeBroken_25 : decode cX2_takeBroken 25 = .ok (.getfield 63, 3) := by decide +kernel
theorem dX2_takeBroken_28 : decode cX2_takeBroken 28 = .ok (.iconst 1, 1) := by decide +kernel
theorem dX2_takeBroken_29 : decode cX2_takeBroken 29 = .ok (.iadd, 1) := by decide +kernel
theorem dX2_takeBroken_30 : decode cX2_takeBroken 30 = .ok (.goto 7, 3) := by decide +kernel
theorem dX2_takeBroken_33 : decode cX2_takeBroken 33 = .ok (.aload_n 0, 1) := by decide +kernel
theorem dX2_takeBroken_34 : decode cX2_takeBroken 34 = .ok (.getfield 63, 3) := by decide +kernel
theorem dX2_takeBroken_37 : decode cX2_takeBroken 37 = .ok (.istore_n 3, 1) := by decide +kernel
theorem dX2_takeBroken_38 : decode cX2_takeBroken 38 = .ok (.iload_n 3, 1) := by decide +kernel
theorem dX2_takeBroken_39 : decode cX2_takeBroken 39 = .ok (.iload_n 1, 1) := by decide +kernel
theorem dX2_takeBroken_40 : decode cX2_takeBroken 40 = .ok (.isub, 1) := by decide +kernel
theorem dX2_takeBroken_41 : decode cX2_takeBroken 41 = .ok (.sipush 1000, 3) := by decide +kernel
theorem dX2_takeBroken_44 : decode cX2_takeBroken 44 = .ok (.if_icmp .le 5, 3) := by decide +kernel
theorem dX2_takeBroken_47 : decode cX2_takeBroken 47 = .ok (.iconst 0, 1) := by decide +kernel
theorem dX2_takeBroken_48 : decode cX2_takeBroken 48 = .ok (.ireturn, 1) := by decide +kernel
theorem dX2_takeBroken_49 : decode cX2_takeBroken 49 = .ok (.aload_n 0, 1) := by decide +kernel
theorem dX2_takeBroken_50 : decode cX2_takeBroken 50 = .ok (.aload_n 0, 1) := by decide +kernel
theorem dX2_takeBroken_51 : decode cX2_takeBroken 51 = .ok (.getfield 43, 3) := by decide +kernel
theorem dX2_takeBroken_54 : decode cX2_takeBroken 54 = .ok (.aload_n 0, 1) := by decide +kernel
theorem dX2_takeBroken_55 : decode cX2_takeBroken 55 = .ok (.getfield 56, 3) := by decide +kernel
theorem dX2_takeBroken_58 : decode cX2_takeBroken 58 = .ok (.invokevirtual 73, 3) := by decide +kernel
theorem dX2_takeBroken_61 : decode cX2_takeBroken 61 = .ok (.istore 4, 2) := by decide +kernel
theorem dX2_takeBroken_63 : decode cX2_takeBroken 63 = .ok (.aload_n 0, 1) := by decide +kernel
theorem dX2_takeBroken_64 : decode cX2_takeBroken 64 = .ok (.getfield 39, 3) := by decide +kernel
theorem dX2_takeBroken_67 : decode cX2_takeBroken 67 = .ok (.bipush 16, 2) := by decide +kernel
theorem dX2_takeBroken_69 : decode cX2_takeBroken 69 = .ok (.if_icmp .ne 15, 3) := by decide +kernel
theorem dX2_takeBroken_72 : decode cX2_takeBroken 72 = .ok (.aload_n 0, 1) := by decide +kernel
theorem dX2_takeBroken_73 : decode cX2_takeBroken 73 = .ok (.invokevirtual 76, 3) := by decide +kernel
theorem dX2_takeBroken_76 : decode cX2_takeBroken 76 = .ok (.iconst 4, 1) := by decide +kernel
theorem dX2_takeBroken_77 : decode cX2_takeBroken 77 = .ok (.iload 4, 2) := by decide +kernel
theorem dX2_takeBroken_79 : decode cX2_takeBroken 79 = .ok (.imul, 1) := by decide +kernel
theorem dX2_takeBroken_80 : decode cX2_takeBroken 80 = .ok (.isub, 1) := by decide +kernel
theorem dX2_takeBroken_81 : decode cX2_takeBroken 81 = .ok (.goto 13, 3) := by decide +kernel
theorem dX2_takeBroken_84 : decode cX2_takeBroken 84 = .ok (.aload_n 0, 1) := by decide +kernel
theorem dX2_takeBroken_85 : decode cX2_takeBroken 85 = .ok (.invokevirtual 76, 3) := by decide +kernel
theorem dX2_takeBroken_88 : decode cX2_takeBroken 88 = .ok (.iload 4, 2) := by decide +kernel
theorem dX2_takeBroken_90 : decode cX2_takeBroken 90 = .ok (.isub, 1) := by decide +kernel
theorem dX2_takeBroken_91 : decode cX2_takeBroken 91 = .ok (.invokestatic 80, 3) := by decide +kernel
theorem dX2_takeBroken_94 : decode cX2_takeBroken 94 = .ok (.istore 5, 2) := by decide +kernel
theorem dX2_takeBroken_96 : decode cX2_takeBroken 96 = .ok (.aload_n 0, 1) := by decide +kernel
theorem dX2_takeBroken_97 : decode cX2_takeBroken 97 = .ok (.getfield 31, 3) := by decide +kernel
theorem dX2_takeBroken_100 : decode cX2_takeBroken 100 = .ok (.aload_n 0, 1) := by decide +kernel
theorem dX2_takeBroken_101 : decode cX2_takeBroken 101 = .ok (.getfield 39, 3) := by decide +kernel
theorem dX2_takeBroken_104 : decode cX2_takeBroken 104 = .ok (.bipush 16, 2) := by decide +kernel
theorem dX2_takeBroken_106 : decode cX2_takeBroken 106 = .ok (.if_icmp .ne 7, 3) := by decide +kernel
theorem dX2_takeBroken_109 : decode cX2_takeBroken 109 = .ok (.iconst 0, 1) := by decide +kernel
theorem dX2_takeBroken_110 : decode cX2_takeBroken 110 = .ok (.goto 5, 3) := by decide +kernel
theorem dX2_takeBroken_113 : decode cX2_takeBroken 113 = .ok (.iload 5, 2) := by decide +kernel
theorem dX2_takeBroken_115 : decode cX2_takeBroken 115 = .ok (.invokevirtual 83, 3) := by decide +kernel
theorem dX2_takeBroken_118 : decode cX2_takeBroken 118 = .ok (.aload_n 0, 1) := by decide +kernel
theorem dX2_takeBroken_119 : decode cX2_takeBroken 119 = .ok (.getfield 31, 3) := by decide +kernel
theorem dX2_takeBroken_122 : decode cX2_takeBroken 122 = .ok (.iload 5, 2) := by decide +kernel
theorem dX2_takeBroken_124 : decode cX2_takeBroken 124 = .ok (.iload_n 2, 1) := by decide +kernel
theorem dX2_takeBroken_125 : decode cX2_takeBroken 125 = .ok (.invokevirtual 87, 3) := by decide +kernel
theorem dX2_takeBroken_128 : decode cX2_takeBroken 128 = .ok (.istore 6, 2) := by decide +kernel
theorem dX2_takeBroken_130 : decode cX2_takeBroken 130 = .ok (.aload_n 0, 1) := by decide +kernel
theorem dX2_takeBroken_131 : decode cX2_takeBroken 131 = .ok (.getfield 15, 3) := by decide +kernel
theorem dX2_takeBroken_134 : decode cX2_takeBroken 134 = .ok (.iload_n 2, 1) := by decide +kernel
theorem dX2_takeBroken_135 : decode cX2_takeBroken 135 = .ok (.ifCond .eq 8, 3) := by decide +kernel
theorem dX2_takeBroken_138 : decode cX2_takeBroken 138 = .ok (.bipush 63, 2) := by decide +kernel
theorem dX2_takeBroken_140 : decode cX2_takeBroken 140 = .ok (.goto 5, 3) := by decide +kernel
theorem dX2_takeBroken_143 : decode cX2_takeBroken 143 = .ok (.bipush 64, 2) := by decide +kernel
theorem dX2_takeBroken_145 : decode cX2_takeBroken 145 = .ok (.aload_n 0, 1) := by decide +kernel
theorem dX2_takeBroken_146 : decode cX2_takeBroken 146 = .ok (.getfield 31, 3) := by decide +kernel
theorem dX2_takeBroken_149 : decode cX2_takeBroken 149 = .ok (.invokevirtual 91, 3) := by decide +kernel
theorem dX2_takeBroken_152 : decode cX2_takeBroken 152 = .ok (.iload_n 1, 1) := by decide +kernel
theorem dX2_takeBroken_153 : decode cX2_takeBroken 153 = .ok (.iload_n 3, 1) := by decide +kernel
theorem dX2_takeBroken_154 : decode cX2_takeBroken 154 = .ok (.invokevirtual 95, 3) := by decide +kernel
theorem dX2_takeBroken_157 : decode cX2_takeBroken 157 = .ok (.iload 6, 2) := by decide +kernel
theorem dX2_takeBroken_159 : decode cX2_takeBroken 159 = .ok (.ireturn, 1) := by decide +kernel
set_option maxRecDepth 20000 in
theorem ggX2_takeWhole_X2_chooseBase : GoodIn wsX2_takeWhole wsX2_chooseBase := goodIn_r _ [9, 10, 1, 2, 11, 12, 13, 8, 14, 15, 16, 17, 18, 19, 20, 21, 22, 23, 24, 25, 26, 27, 28, 80, 81, 82, 83, 84, 85, 86, 87, 88, 89, 90] rfl (by decide +kernel)
set_option maxRecDepth 20000 in
theorem gX2_takeWhole_X2_chooseBase : GoodIn wsX2_takeWhole (wsV RX2 101 RX2 yX2_chooseBase wsX2_chooseBase) := goodIn_app (goodIn_of _ (by decide +kernel)) ggX2_takeWhole_X2_chooseBase
set_option maxRecDepth 20000 in
theorem ggX2_takeWhole_X2_behindDigits : GoodIn wsX2_takeWhole wsX2_behindDigits := goodIn_r _ [32, 10, 33, 34, 35, 18, 36, 20, 15, 16, 17, 19, 21, 26, 27, 28, 80, 81, 82, 83, 84, 85, 86, 87, 88, 89, 90] rfl (by decide +kernel)
set_option maxRecDepth 20000 in
theorem gX2_takeWhole_X2_behindDigits : GoodIn wsX2_takeWhole (wsV RX2 46 RX2 yX2_behindDigits wsX2_behindDigits) := goodIn_app (goodIn_of _ (by decide +kernel)) ggX2_takeWhole_X2_behindDigits
set_option maxRecDepth 20000 in
theorem ggX2_takeWhole_X2_isEither : GoodIn wsX2_takeWhole wsX2_isEither := goodIn_r _ [25, 10, 15, 16, 17, 18, 19, 20, 21, 80, 81, 82, 83, 84, 85, 86, 87, 88, 89, 90] rfl (by decide +kernel)
set_option maxRecDepth 20000 in
theorem gX2_takeWhole_X2_isEither : GoodIn wsX2_takeWhole (wsV RX2 104 RX2 yX2_isEither wsX2_isEither) := goodIn_app (goodIn_of _ (by decide +kernel)) ggX2_takeWhole_X2_isEither
set_option maxRecDepth 20000 in
theorem ggX2_takeWhole_X2_sumUp : GoodIn wsX2_takeWhole wsX2_sumUp := goodIn_r _ [40, 3, 10, 2, 41, 42, 43, 44, 45, 46, 47, 15, 16, 17, 18, 19, 20, 21, 26, 27, 28, 48, 49, 50, 51, 52, 80, 81, 82, 83, 84, 85, 86, 87, 91, 92, 88, 89, 90] rfl (by decide +kernel)
set_option maxRecDepth 20000 in
theorem gX2_takeWhole_X2_sumUp : GoodIn wsX2_takeWhole (wsV RX2 73 RX2 yX2_sumUp wsX2_sumUp) := goodIn_app (goodIn_of _ (by decide +kernel)) ggX2_takeWhole_X2_sumUp
set_option maxRecDepth 20000 in
theorem ggX2_takeWhole_X0_low : GoodIn wsX2_takeWhole wsX0_low := goodIn_r _ [56, 47, 46, 52, 91, 92] rfl (by decide +kernel)
set_option maxRecDepth 20000 in
theorem gX2_takeWhole_X0_low : GoodIn wsX2_takeWhole (wsV RX2 107 RX0 yX0_low wsX0_low) := goodIn_app (goodIn_of _ (by decide +kernel)) ggX2_takeWhole_X0_low
set_option maxRecDepth 20000 in
theorem ggX2_takeWhole_X1_set : GoodIn wsX2_takeWhole wsX1_set := goodIn_r _ [61, 62, 63, 64, 65, 93, 94, 95, 96] rfl (by decide +kernel)
set_option maxRecDepth 20000 in
theorem gX2_takeWhole_X1_set : GoodIn wsX2_takeWhole (wsV RX2 95 RX1 yX1_set wsX1_set) := goodIn_app (goodIn_of _ (by decide +kernel)) ggX2_takeWhole_X1_set
set_option maxRecDepth 20000 in
theorem ggX2_takeWhole_X0_bitLength : GoodIn wsX2_takeWhole wsX0_bitLength := goodIn_r _ [69, 47, 46, 70, 71, 72, 73, 74, 91, 92] rfl (by decide +kernel)
set_option maxRecDepth 20000 in
theorem gX2_takeWhole_X0_bitLength : GoodIn wsX2_takeWhole (wsV RX2 110 RX0 yX0_bitLength wsX0_bitLength) := goodIn_app (goodIn_of _ (by decide +kernel)) ggX2_takeWhole_X0_bitLength
set_option maxRecDepth 20000 in
theorem ggX2_takeWhole_X2_isAtMostMinimum : GoodIn wsX2_takeWhole wsX2_isAtMostMinimum := goodIn_r _ [77, 78, 79] rfl (by decide +kernel)
set_option maxRecDepth 20000 in
theorem gX2_takeWhole_X2_isAtMostMinimum : GoodIn wsX2_takeWhole (va_wsS RX2 113 yX2_isAtMostMinimum wsX2_isAtMostMinimum) := goodIn_app (goodIn_of _ (by decide +kernel)) ggX2_takeWhole_X2_isAtMostMinimum
theorem dX2_takeWhole_0 : decode cX2_takeWhole 0 = .ok (.aload_n 0, 1) := by decide +kernel
theorem dX2_takeWhole_1 : decode cX2_takeWhole 1 = .ok (.iload_n 1, 1) := by decide +kernel
theorem dX2_takeWhole_2 : decode cX2_takeWhole 2 = .ok (.invokevirtual 101, 3) := by decide +kernel
theorem dX2_takeWhole_5 : decode cX2_takeWhole 5 = .ok (.aload_n 0, 1) := by decide +kernel
theorem dX2_takeWhole_6 : decode cX2_takeWhole 6 = .ok (.aload_n 0, 1) := by decide +kernel
theorem dX2_takeWhole_7 : decode cX2_takeWhole 7 = .ok (.getfield 43, 3) := by decide +kernel
theorem dX2_takeWhole_10 : decode cX2_takeWhole 10 = .ok (.aload_n 0, 1) := by decide +kernel
theorem dX2_takeWhole_11 : decode cX2_takeWhole 11 = .ok (.getfield 39, 3) := by decide +kernel
theorem dX2_takeWhole_14 : decode cX2_takeWhole 14 = .ok (.invokevirtual 46, 3) := by decide +kernel
theorem dX2_takeWhole_17 : decode cX2_takeWhole 17 = .ok (.istore_n 2, 1) := by decide +kernel
theorem dX2_takeWhole_18 : decode cX2_takeWhole 18 = .ok (.aload_n 0, 1) := by decide +kernel
theorem dX2_takeWhole_19 : decode cX2_takeWhole 19 = .ok (.iload_n 2, 1) := by decide +kernel
theorem dX2_takeWhole_20 : decode cX2_takeWhole 20 = .ok (.bipush 108, 2) := by decide +kernel
theorem dX2_takeWhole_22 : decode cX2_takeWhole 22 = .ok (.bipush 76, 2) := by decide +kernel
theorem dX2_takeWhole_24 : decode cX2_takeWhole 24 = .ok (.invokevirtual 104, 3) := by decide +kernel
theorem dX2_takeWhole_27 : decode cX2_takeWhole 27 = .ok (.istore_n 3, 1) := by decide +kernel
theorem dX2_takeWhole_28 : decode cX2_takeWhole 28 = .ok (.iload_n 3, 1) := by decide +kernel
theorem dX2_takeWhole_29 : decode cX2_takeWhole 29 = .ok (.ifCond .eq 9, 3) := by decide +kernel
theorem dX2_takeWhole_32 : decode cX2_takeWhole 32 = .ok (.iload_n 2, 1) := by decide +kernel
theorem dX2_takeWhole_33 : decode cX2_takeWhole 33 = .ok (.iconst 1, 1) := by decide +kernel
theorem dX2_takeWhole_34 : decode cX2_takeWhole 34 = .ok (.iadd, 1) := by decide +kernel
theorem dX2_takeWhole_35 : decode cX2_takeWhole 35 = .ok (.goto 4, 3) := by decide +kernel
theorem dX2_takeWhole_38 : decode cX2_takeWhole 38 = .ok (.iload_n 2, 1) := by decide +kernel
theorem dX2_takeWhole_39 : decode cX2_takeWhole 39 = .ok (.istore 4, 2) := by decide +kernel
theorem dX2_takeWhole_41 : decode cX2_takeWhole 41 = .ok (.iload 4, 2) := by decide +kernel
theorem dX2_takeWhole_43 : decode cX2_takeWhole 43 = .ok (.iload_n 1, 1) := by decide +kernel
theorem dX2_takeWhole_44 : decode cX2_takeWhole 44 = .ok (.isub, 1) := by decide +kernel
theorem dX2_takeWhole_45 : decode cX2_takeWhole 45 = .ok (.sipush 1000, 3) := by decide +kernel
theorem dX2_takeWhole_48 : decode cX2_takeWhole 48 = .ok (.if_icmp .le 5, 3) := by decide +kernel
theorem dX2_takeWhole_51 : decode cX2_takeWhole 51 = .ok (.iconst 0, 1) := by decide +kernel
theorem dX2_takeWhole_52 : decode cX2_takeWhole 52 = .ok (.ireturn, 1) := by decide +kernel
theorem dX2_takeWhole_53 : decode cX2_takeWhole 53 = .ok (.aload_n 0, 1) := by decide +kernel
theorem dX2_takeWhole_54 : decode cX2_takeWhole 54 = .ok (.aload_n 0, 1) := by decide +kernel
theorem dX2_takeWhole_55 : decode cX2_takeWhole 55 = .ok (.getfield 43, 3) := by decide +kernel
theorem dX2_takeWhole_58 : decode cX2_takeWhole 58 = .ok (.iload_n 2, 1) := by decide +kernel
theorem dX2_takeWhole_59 : decode cX2_takeWhole 59 = .ok (.invokevirtual 73, 3) := by decide +kernel
theorem dX2_takeWhole_62 : decode cX2_takeWhole 62 = .ok (.pop, 1) := by decide +kernel
theorem dX2_takeWhole_63 : decode cX2_takeWhole 63 = .ok (.aload_n 0, 1) := by decide +kernel
theorem dX2_takeWhole_64 : decode cX2_takeWhole 64 = .ok (.getfield 22, 3) := by decide +kernel
theorem dX2_takeWhole_67 : decode cX2_takeWhole 67 = .ok (.invokevirtual 107, 3) := by decide +kernel
theorem dX2_takeWhole_70 : decode cX2_takeWhole 70 = .ok (.lstore 5, 2) := by decide +kernel
theorem dX2_takeWhole_72 : decode cX2_takeWhole 72 = .ok (.aload_n 0, 1) := by decide +kernel
theorem dX2_takeWhole_73 : decode cX2_takeWhole 73 = .ok (.getfield 15, 3) := by decide +kernel
theorem dX2_takeWhole_76 : decode cX2_takeWhole 76 = .ok (.iload_n 3, 1) := by decide +kernel
theorem dX2_takeWhole_77 : decode cX2_takeWhole 77 = .ok (.ifCond .eq 8, 3) := by decide +kernel
theorem dX2_takeWhole_80 : decode cX2_takeWhole 80 = .ok (.bipush 62, 2) := by decide +kernel
theorem dX2_takeWhole_82 : decode cX2_takeWhole 82 = .ok (.goto 5, 3) := by decide +kernel
theorem dX2_takeWhole_85 : decode cX2_takeWhole 85 = .ok (.bipush 61, 2) := by decide +kernel
theorem dX2_takeWhole_87 : decode cX2_takeWhole 87 = .ok (.iload_n 3, 1) := by decide +kernel
theorem dX2_takeWhole_88 : decode cX2_takeWhole 88 = .ok (.ifCond .eq 8, 3) := by decide +kernel
theorem dX2_takeWhole_91 : decode cX2_takeWhole 91 = .ok (.lload 5, 2) := by decide +kernel
theorem dX2_takeWhole_93 : decode cX2_takeWhole 93 = .ok (.goto 7, 3) := by decide +kernel
theorem dX2_takeWhole_96 : decode cX2_takeWhole 96 = .ok (.lload 5, 2) := by decide +kernel
theorem dX2_takeWhole_98 : decode cX2_takeWhole 98 = .ok (.l2i, 1) := by decide +kernel
theorem dX2_takeWhole_99 : decode cX2_takeWhole 99 = .ok (.i2l, 1) := by decide +kernel
theorem dX2_takeWhole_100 : decode cX2_takeWhole 100 = .ok (.iload_n 1, 1) := by decide +kernel
theorem dX2_takeWhole_101 : decode cX2_takeWhole 101 = .ok (.iload 4, 2) := by decide +kernel
theorem dX2_takeWhole_103 : decode cX2_takeWhole 103 = .ok (.invokevirtual 95, 3) := by decide +kernel
theorem dX2_takeWhole_106 : decode cX2_takeWhole 106 = .ok (.aload_n 0, 1) := by decide +kernel
theorem dX2_takeWhole_107 : decode cX2_takeWhole 107 = .ok (.getfield 22, 3) := by decide +kernel
theorem dX2_takeWhole_110 : decode cX2_takeWhole 110 = .ok (.invokevirtual 110, 3) := by decide +kernel
theorem dX2_takeWhole_113 : decode cX2_takeWhole 113 = .ok (.iload_n 3, 1) := by decide +kernel
theorem dX2_takeWhole_114 : decode cX2_takeWhole 114 = .ok (.ifCond .eq 8, 3) := by decide +kernel
theorem dX2_takeWhole_117 : decode cX2_takeWhole 117 = .ok (.bipush 64, 2) := by decide +kernel
theorem dX2_takeWhole_119 : decode cX2_takeWhole 119 = .ok (.goto 5, 3) := by decide +kernel
theorem dX2_takeWhole_122 : decode cX2_takeWhole 122 = .ok (.bipush 32, 2) := by decide +kernel
theorem dX2_takeWhole_124 : decode cX2_takeWhole 124 = .ok (.if_icmp .gt 25, 3) := by decide +kernel
theorem dX2_takeWhole_127 : decode cX2_takeWhole 127 = .ok (.aload_n 0, 1) := by decide +kernel
theorem dX2_takeWhole_128 : decode cX2_takeWhole 128 = .ok (.getfield 39, 3) := by decide +kernel
theorem dX2_takeWhole_131 : decode cX2_takeWhole 131 = .ok (.bipush 10, 2) := by decide +kernel
theorem dX2_takeWhole_133 : decode cX2_takeWhole 133 = .ok (.if_icmp .ne 12, 3) := by decide +kernel
theorem dX2_takeWhole_136 : decode cX2_takeWhole 136 = .ok (.lload 5, 2) := by decide +kernel
theorem dX2_takeWhole_138 : decode cX2_takeWhole 138 = .ok (.iload_n 3, 1) := by decide +kernel
theorem dX2_takeWhole_139 : decode cX2_takeWhole 139 = .ok (.invokestatic 113, 3) := by decide +kernel
theorem dX2_takeWhole_142 : decode cX2_takeWhole 142 = .ok (.ifCond .eq 7, 3) := by decide +kernel
theorem dX2_takeWhole_145 : decode cX2_takeWhole 145 = .ok (.iconst 1, 1) := by decide +kernel
theorem dX2_takeWhole_146 : decode cX2_takeWhole 146 = .ok (.goto 4, 3) := by decide +kernel
theorem dX2_takeWhole_149 : decode cX2_takeWhole 149 = .ok (.iconst 0, 1) := by decide +kernel
theorem dX2_takeWhole_150 : decode cX2_takeWhole 150 = .ok (.ireturn, 1) := by decide +kernel
set_option maxRecDepth 20000 in
theorem ggX2_chooseBase_X2_hasMark : GoodIn wsX2_chooseBase wsX2_hasMark := goodIn_r _ [8, 1, 9, 10, 11, 12, 13, 14, 15, 16, 17, 18, 7, 19, 23, 24, 25, 26, 27, 28, 29, 30, 31, 32, 33] rfl (by decide +kernel)
set_option maxRecDepth 20000 in
theorem gX2_chooseBase_X2_hasMark : GoodIn wsX2_chooseBase (wsV RX2 35 RX2 yX2_hasMark wsX2_hasMark) := goodIn_app (goodIn_of _ (by decide +kernel)) ggX2_chooseBase_X2_hasMark
set_option maxRecDepth 20000 in
theorem ggX2_chooseBase_X6_look : GoodIn wsX2_chooseBase wsX6_look := goodIn_r _ [13, 14, 15, 31, 32, 33] rfl (by decide +kernel)
set_option maxRecDepth 20000 in
theorem gX2_chooseBase_X6_look : GoodIn wsX2_chooseBase (wsV RX2 50 RX6 yX6_look wsX6_look) := goodIn_app (goodIn_of _ (by decide +kernel)) ggX2_chooseBase_X6_look
set_option maxRecDepth 20000 in
theorem ggX2_chooseBase_X9_digitOf : GoodIn wsX2_chooseBase wsX9_digitOf := goodIn_r _ [22] rfl (by decide +kernel)
set_option maxRecDepth 20000 in
theorem gX2_chooseBase_X9_digitOf_n117 : GoodIn wsX2_chooseBase (wsX9_digitOf) := ggX2_chooseBase_X9_digitOf
theorem dX2_chooseBase_0 : decode cX2_chooseBase 0 = .ok (.aload_n 0, 1) := by decide +kernel
theorem dX2_chooseBase_1 : decode cX2_chooseBase 1 = .ok (.iload_n 1, 1) := by decide +kernel
theorem dX2_chooseBase_2 : decode cX2_chooseBase 2 = .ok (.bipush 120, 2) := by decide +kernel
theorem dX2_chooseBase_4 : decode cX2_chooseBase 4 = .ok (.bipush 88, 2) := by decide +kernel
theorem dX2_chooseBase_6 : decode cX2_chooseBase 6 = .ok (.invokevirtual 35, 3) := by decide +kernel
theorem dX2_chooseBase_9 : decode cX2_chooseBase 9 = .ok (.ifCond .eq 25, 3) := by decide +kernel
theorem dX2_chooseBase_12 : decode cX2_chooseBase 12 = .ok (.aload_n 0, 1) := by decide +kernel
theorem dX2_chooseBase_13 : decode cX2_chooseBase 13 = .ok (.getfield 9, 3) := by decide +kernel
theorem dX2_chooseBase_16 : decode cX2_chooseBase 16 = .ok (.iload_n 1, 1) := by decide +kernel
theorem dX2_chooseBase_17 : decode cX2_chooseBase 17 = .ok (.iconst 2, 1) := by decide +kernel
theorem dX2_chooseBase_18 : decode cX2_chooseBase 18 = .ok (.iadd, 1) := by decide +kernel
theorem dX2_chooseBase_19 : decode cX2_chooseBase 19 = .ok (.invokevirtual 50, 3) := by decide +kernel
theorem dX2_chooseBase_22 : decode cX2_chooseBase 22 = .ok (.invokestatic 117, 3) := by decide +kernel
theorem dX2_chooseBase_25 : decode cX2_chooseBase 25 = .ok (.bipush 16, 2) := by decide +kernel
theorem dX2_chooseBase_27 : decode cX2_chooseBase 27 = .ok (.if_icmp .ge 7, 3) := by decide +kernel
theorem dX2_chooseBase_30 : decode cX2_chooseBase 30 = .ok (.iconst 1, 1) := by decide +kernel
theorem dX2_chooseBase_31 : decode cX2_chooseBase 31 = .ok (.goto 4, 3) := by decide +kernel
theorem dX2_chooseBase_34 : decode cX2_chooseBase 34 = .ok (.iconst 0, 1) := by decide +kernel
theorem dX2_chooseBase_35 : decode cX2_chooseBase 35 = .ok (.istore_n 2, 1) := by decide +kernel
theorem dX2_chooseBase_36 : decode cX2_chooseBase 36 = .ok (.aload_n 0, 1) := by decide +kernel
theorem dX2_chooseBase_37 : decode cX2_chooseBase 37 = .ok (.iload_n 1, 1) := by decide +kernel
theorem dX2_chooseBase_38 : decode cX2_chooseBase 38 = .ok (.bipush 98, 2) := by decide +kernel
theorem dX2_chooseBase_40 : decode cX2_chooseBase 40 = .ok (.bipush 66, 2) := by decide +kernel
theorem dX2_chooseBase_42 : decode cX2_chooseBase 42 = .ok (.invokevirtual 35, 3) := by decide +kernel
theorem dX2_chooseBase_45 : decode cX2_chooseBase 45 = .ok (.ifCond .eq 24, 3) := by decide +kernel
theorem dX2_chooseBase_48 : decode cX2_chooseBase 48 = .ok (.aload_n 0, 1) := by decide +kernel
theorem dX2_chooseBase_49 : decode cX2_chooseBase 49 = .ok (.getfield 9, 3) := by decide +kernel
theorem dX2_chooseBase_52 : decode cX2_chooseBase 52 = .ok (.iload_n 1, 1) := by decide +kernel
theorem dX2_chooseBase_53 : decode cX2_chooseBase 53 = .ok (.iconst 2, 1) := by decide +kernel
theorem dX2_chooseBase_54 : decode cX2_chooseBase 54 = .ok (.iadd, 1) := by decide +kernel
theorem dX2_chooseBase_55 : decode cX2_chooseBase 55 = .ok (.invokevirtual 50, 3) := by decide +kernel
theorem dX2_chooseBase_58 : decode cX2_chooseBase 58 = .ok (.invokestatic 117, 3) := by decide +kernel
theorem dX2_chooseBase_61 : decode cX2_chooseBase 61 = .ok (.iconst 2, 1) := by decide +kernel
theorem dX2_chooseBase_62 : decode cX2_chooseBase 62 = .ok (.if_icmp .ge 7, 3) := by decide +kernel
theorem dX2_chooseBase_65 : decode cX2_chooseBase 65 = .ok (.iconst 1, 1) := by decide +kernel
theorem dX2_chooseBase_66 : decode cX2_chooseBase 66 = .ok (.goto 4, 3) := by decide +kernel
theorem dX2_chooseBase_69 : decode cX2_chooseBase 69 = .ok (.iconst 0, 1) := by decide +kernel
theorem dX2_chooseBase_70 : decode cX2_chooseBase 70 = .ok (.istore_n 3, 1) := by decide +kernel
theorem dX2_chooseBase_71 : decode cX2_chooseBase 71 = .ok (.aload_n 0, 1) := by decide +kernel
theorem dX2_chooseBase_72 : decode cX2_chooseBase 72 = .ok (.iload_n 2, 1) := by decide +kernel
theorem dX2_chooseBase_73 : decode cX2_chooseBase 73 = .ok (.ifCond .ne 7, 3) := by decide +kernel
theorem dX2_chooseBase_76 : decode cX2_chooseBase 76 = .ok (.iload_n 3, 1) := by decide +kernel
theorem dX2_chooseBase_77 : decode cX2_chooseBase 77 = .ok (.ifCond .eq 9, 3) := by decide +kernel
theorem dX2_chooseBase_80 : decode cX2_chooseBase 80 = .ok (.iload_n 1, 1) := by decide +kernel
theorem dX2_chooseBase_81 : decode cX2_chooseBase 81 = .ok (.iconst 2, 1) := by decide +kernel
theorem dX2_chooseBase_82 : decode cX2_chooseBase 82 = .ok (.iadd, 1) := by decide +kernel
theorem dX2_chooseBase_83 : decode cX2_chooseBase 83 = .ok (.goto 4, 3) := by decide +kernel
theorem dX2_chooseBase_86 : decode cX2_chooseBase 86 = .ok (.iload_n 1, 1) := by decide +kernel
theorem dX2_chooseBase_87 : decode cX2_chooseBase 87 = .ok (.putfield 43, 3) := by decide +kernel
theorem dX2_chooseBase_90 : decode cX2_chooseBase 90 = .ok (.aload_n 0, 1) := by decide +kernel
theorem dX2_chooseBase_91 : decode cX2_chooseBase 91 = .ok (.iload_n 2, 1) := by decide +kernel
theorem dX2_chooseBase_92 : decode cX2_chooseBase 92 = .ok (.ifCond .eq 8, 3) := by decide +kernel
theorem dX2_chooseBase_95 : decode cX2_chooseBase 95 = .ok (.bipush 16, 2) := by decide +kernel
theorem dX2_chooseBase_97 : decode cX2_chooseBase 97 = .ok (.goto 31, 3) := by decide +kernel
theorem dX2_chooseBase_100 : decode cX2_chooseBase 100 = .ok (.iload_n 3, 1) := by decide +kernel
theorem dX2_chooseBase_101 : decode cX2_chooseBase 101 = .ok (.ifCond .eq 7, 3) := by decide +kernel
theorem dX2_chooseBase_104 : decode cX2_chooseBase 104 = .ok (.iconst 2, 1) := by decide +kernel
theorem dX2_chooseBase_105 : decode cX2_chooseBase 105 = .ok (.goto 23, 3) := by decide +kernel
theorem dX2_chooseBase_108 : decode cX2_chooseBase 108 = .ok (.aload_n 0, 1) := by decide +kernel
theorem dX2_chooseBase_109 : decode cX2_chooseBase 109 = .ok (.getfield 9, 3) := by decide +kernel
theorem dX2_chooseBase_112 : decode cX2_chooseBase 112 = .ok (.iload_n 1, 1) := by decide +kernel
theorem dX2_chooseBase_113 : decode cX2_chooseBase 113 = .ok (.invokevirtual 50, 3) := by decide +kernel
theorem dX2_chooseBase_116 : decode cX2_chooseBase 116 = .ok (.bipush 48, 2) := by decide +kernel
theorem dX2_chooseBase_118 : decode cX2_chooseBase 118 = .ok (.if_icmp .ne 8, 3) := by decide +kernel
theorem dX2_chooseBase_121 : decode cX2_chooseBase 121 = .ok (.bipush 8, 2) := by decide +kernel
theorem dX2_chooseBase_123 : decode cX2_chooseBase 123 = .ok (.goto 5, 3) := by decide +kernel
theorem dX2_chooseBase_126 : decode cX2_chooseBase 126 = .ok (.bipush 10, 2) := by decide +kernel
theorem dX2_chooseBase_128 : decode cX2_chooseBase 128 = .ok (.putfield 39, 3) := by decide +kernel
theorem dX2_chooseBase_131 : decode cX2_chooseBase 131 = .ok (.return_, 1) := by decide +kernel
theorem dX2_isAtMostMinimum_0 : decode cX2_isAtMostMinimum 0 = .ok (.iload_n 2, 1) := by decide +kernel
theorem dX2_isAtMostMinimum_1 : decode cX2_isAtMostMinimum 1 = .ok (.ifCond .eq 25, 3) := by decide +kernel
theorem dX2_isAtMostMinimum_4 : decode cX2_isAtMostMinimum 4 = .ok (.lload_n 0, 1) := by decide +kernel
theorem dX2_isAtMostMinimum_5 : decode cX2_isAtMostMinimum 5 = .ok (.lconst 0, 1) := by decide +kernel
theorem dX2_isAtMostMinimum_6 : decode cX2_isAtMostMinimum 6 = .ok (.lcmp, 1) := by decide +kernel
theorem dX2_isAtMostMinimum_7 : decode cX2_isAtMostMinimum 7 = .ok (.ifCond .ge 11, 3) := by decide +kernel
theorem dX2_isAtMostMinimum_10 : decode cX2_isAtMostMinimum 10 = .ok (.lload_n 0, 1) := by decide +kernel
theorem dX2_isAtMostMinimum_11 : decode cX2_isAtMostMinimum 11 = .ok (.ldc2_w 120, 3) := by decide +kernel
theorem dX2_isAtMostMinimum_14 : decode cX2_isAtMostMinimum 14 = .ok (.lcmp, 1) := by decide +kernel
theorem dX2_isAtMostMinimum_15 : decode cX2_isAtMostMinimum 15 = .ok (.ifCond .ne 7, 3) := by decide +kernel
theorem dX2_isAtMostMinimum_18 : decode cX2_isAtMostMinimum 18 = .ok (.iconst 1, 1) := by decide +kernel
theorem dX2_isAtMostMinimum_19 : decode cX2_isAtMostMinimum 19 = .ok (.goto 20, 3) := by decide +kernel
theorem dX2_isAtMostMinimum_22 : decode cX2_isAtMostMinimum 22 = .ok (.iconst 0, 1) := by decide +kernel
theorem dX2_isAtMostMinimum_23 : decode cX2_isAtMostMinimum 23 = .ok (.goto 16, 3) := by decide +kernel
theorem dX2_isAtMostMinimum_26 : decode cX2_isAtMostMinimum 26 = .ok (.lload_n 0, 1) := by decide +kernel
theorem dX2_isAtMostMinimum_27 : decode cX2_isAtMostMinimum 27 = .ok (.ldc2_w 122, 3) := by decide +kernel
theorem dX2_isAtMostMinimum_30 : decode cX2_isAtMostMinimum 30 = .ok (.lcmp, 1) := by decide +kernel
theorem dX2_isAtMostMinimum_31 : decode cX2_isAtMostMinimum 31 = .ok (.ifCond .gt 7, 3) := by decide +kernel
theorem dX2_isAtMostMinimum_34 : decode cX2_isAtMostMinimum 34 = .ok (.iconst 1, 1) := by decide +kernel
theorem dX2_isAtMostMinimum_35 : decode cX2_isAtMostMinimum 35 = .ok (.goto 4, 3) := by decide +kernel
theorem dX2_isAtMostMinimum_38 : decode cX2_isAtMostMinimum 38 = .ok (.iconst 0, 1) := by decide +kernel
theorem dX2_isAtMostMinimum_39 : decode cX2_isAtMostMinimum 39 = .ok (.ireturn, 1) := by decide +kernel
set_option maxRecDepth 20000 in
theorem ggX2_hasMark_X6_look : GoodIn wsX2_hasMark wsX6_look := goodIn_r _ [6, 7, 8, 22, 23, 24] rfl (by decide +kernel)
set_option maxRecDepth 20000 in
theorem gX2_hasMark_X6_look : GoodIn wsX2_hasMark (wsV RX2 50 RX6 yX6_look wsX6_look) := goodIn_app (goodIn_of _ (by decide +kernel)) ggX2_hasMark_X6_look
set_option maxRecDepth 20000 in
theorem ggX2_hasMark_X2_isEither : GoodIn wsX2_hasMark wsX2_isEither := goodIn_r _ [13, 1, 2, 3, 4, 5, 6, 7, 8, 14, 15, 16, 17, 18, 19, 20, 21, 22, 23, 24] rfl (by decide +kernel)
set_option maxRecDepth 20000 in
theorem gX2_hasMark_X2_isEither : GoodIn wsX2_hasMark (wsV RX2 104 RX2 yX2_isEither wsX2_isEither) := goodIn_app (goodIn_of _ (by decide +kernel)) ggX2_hasMark_X2_isEither
theorem dX2_hasMark_0 : decode cX2_hasMark 0 = .ok (.aload_n 0, 1) := by decide +kernel
theorem dX2_hasMark_1 : decode cX2_hasMark 1 = .ok (.getfield 9, 3) := by decide +kernel
theorem dX2_hasMark_4 : decode cX2_hasMark 4 = .ok (.iload_n 1, 1) := by decide +kernel
theorem dX2_hasMark_5 : decode cX2_hasMark 5 = .ok (.invokevirtual 50, 3) := by decide +kernel
theorem dX2_hasMark_8 : decode cX2_hasMark 8 = .ok (.bipush 48, 2) := by decide +kernel
theorem dX2_hasMark_10 : decode cX2_hasMark 10 = .ok (.if_icmp .ne 19, 3) := by decide +kernel
theorem dX2_hasMark_13 : decode cX2_hasMark 13 = .ok (.aload_n 0, 1) := by decide +kernel
theorem dX2_hasMark_14 : decode cX2_hasMark 14 = .ok (.iload_n 1, 1) := by decide +kernel
theorem dX2_hasMark_15 : decode cX2_hasMark 15 = .ok (.iconst 1, 1) := by decide +kernel
theorem dX2_hasMark_16 : decode cX2_hasMark 16 = .ok (.iadd, 1) := by decide +kernel
theorem dX2_hasMark_17 : decode cX2_hasMark 17 = .ok (.iload_n 2, 1) := by decide +kernel
theorem dX2_hasMark_18 : decode cX2_hasMark 18 = .ok (.iload_n 3, 1) := by decide +kernel
theorem dX2_hasMark_19 : decode cX2_hasMark 19 = .ok (.invokevirtual 104, 3) := by decide +kernel
theorem dX2_hasMark_22 : decode cX2_hasMark 22 = .ok (.ifCond .eq 7, 3) := by decide +kernel
theorem dX2_hasMark_25 : decode cX2_hasMark 25 = .ok (.iconst 1, 1) := by decide +kernel
theorem dX2_hasMark_26 : decode cX2_hasMark 26 = .ok (.goto 4, 3) := by decide +kernel
theorem dX2_hasMark_29 : decode cX2_hasMark 29 = .ok (.iconst 0, 1) := by decide +kernel
theorem dX2_hasMark_30 : decode cX2_hasMark 30 = .ok (.ireturn, 1) := by decide +kernel
set_option maxRecDepth 20000 in
theorem ggX2_isFloatLetter_X2_isEither : GoodIn wsX2_isFloatLetter wsX2_isEither := goodIn_r _ [5, 6, 7, 8, 9, 10, 11, 12, 13, 14, 15, 16, 17, 18, 19, 20, 21, 22, 23, 24] rfl (by decide +kernel)
set_option maxRecDepth 20000 in
theorem gX2_isFloatLetter_X2_isEither : GoodIn wsX2_isFloatLetter (wsV RX2 104 RX2 yX2_isEither wsX2_isEither) := goodIn_app (goodIn_of _ (by decide +kernel)) ggX2_isFloatLetter_X2_isEither
theorem dX2_isFloatLetter_0 : decode cX2_isFloatLetter 0 = .ok (.aload_n 0, 1) := by decide +kernel
theorem dX2_isFloatLetter_1 : decode cX2_isFloatLetter 1 = .ok (.iload_n 1, 1) := by decide +kernel
theorem dX2_isFloatLetter_2 : decode cX2_isFloatLetter 2 = .ok (.bipush 102, 2) := by decide +kernel
theorem dX2_isFloatLetter_4 : decode cX2_isFloatLetter 4 = .ok (.bipush 70, 2) := by decide +kernel
theorem dX2_isFloatLetter_6 : decode cX2_isFloatLetter 6 = .ok (.invokevirtual 104, 3) := by decide +kernel
theorem dX2_isFloatLetter_9 : decode cX2_isFloatLetter 9 = .ok (.ireturn, 1) := by decide +kernel
set_option maxRecDepth 20000 in
theorem ggX2_isDoubleLetter_X2_isEither : GoodIn wsX2_isDoubleLetter wsX2_isEither := goodIn_r _ [5, 6, 7, 8, 9, 10, 11, 12, 13, 14, 15, 16, 17, 18, 19, 20, 21, 22, 23, 24] rfl (by decide +kernel)
set_option maxRecDepth 20000 in
theorem gX2_isDoubleLetter_X2_isEither : GoodIn wsX2_isDoubleLetter (wsV RX2 104 RX2 yX2_isEither wsX2_isEither) := goodIn_app (goodIn_of _ (by decide +kernel)) ggX2_isDoubleLetter_X2_isEither
theorem dX2_isDoubleLetter_0 : decode cX2_isDoubleLetter 0 = .ok (.aload_n 0, 1) := by decide +kernel
theorem dX2_isDoubleLetter_1 : decode cX2_isDoubleLetter 1 = .ok (.iload_n 1, 1) := by decide +kernel
theorem dX2_isDoubleLetter_2 : decode cX2_isDoubleLetter 2 = .ok (.bipush 100, 2) := by decide +kernel
theorem dX2_isDoubleLetter_4 : decode cX2_isDoubleLetter 4 = .ok (.bipush 68, 2) := by decide +kernel
theorem dX2_isDoubleLetter_6 : decode cX2_isDoubleLetter 6 = .ok (.invokevirtual 104, 3) := by decide +kernel
theorem dX2_isDoubleLetter_9 : decode cX2_isDoubleLetter 9 = .ok (.ireturn, 1) := by decide +kernel
set_option maxRecDepth 20000 in
theorem ggX2_isEither_X6_look : GoodIn wsX2_isEither wsX6_look := goodIn_r _ [6, 7, 8, 17, 18, 19] rfl (by decide +kernel)
set_option maxRecDepth 20000 in
theorem gX2_isEither_X6_look : GoodIn wsX2_isEither (wsV RX2 50 RX6 yX6_look wsX6_look) := goodIn_app (goodIn_of _ (by decide +kernel)) ggX2_isEither_X6_look
theorem dX2_isEither_0 : decode cX2_isEither 0 = .ok (.aload_n 0, 1) := by decide +kernel
theorem dX2_isEither_1 : decode cX2_isEither 1 = .ok (.getfield 9, 3) := by decide +kernel
theorem dX2_isEither_4 : decode cX2_isEither 4 = .ok (.iload_n 1, 1) := by decide +kernel
theorem dX2_isEither_5 : decode cX2_isEither 5 = .ok (.invokevirtual 50, 3) := by decide +kernel
theorem dX2_isEither_8 : decode cX2_isEither 8 = .ok (.iload_n 2, 1) := by decide +kernel
theorem dX2_isEither_9 : decode cX2_isEither 9 = .ok (.if_icmp .eq 15, 3) := by decide +kernel
theorem dX2_isEither_12 : decode cX2_isEither 12 = .ok (.aload_n 0, 1) := by decide +kernel
theorem dX2_isEither_13 : decode cX2_isEither 13 = .ok (.getfield 9, 3) := by decide +kernel
theorem dX2_isEither_16 : decode cX2_isEither 16 = .ok (.iload_n 1, 1) := by decide +kernel
theorem dX2_isEither_17 : decode cX2_isEither 17 = .ok (.invokevirtual 50, 3) := by decide +kernel
theorem dX2_isEither_20 : decode cX2_isEither 20 = .ok (.iload_n 3, 1) := by decide +kernel
theorem dX2_isEither_21 : decode cX2_isEither 21 = .ok (.if_icmp .ne 7, 3) := by decide +kernel
theorem dX2_isEither_24 : decode cX2_isEither 24 = .ok (.iconst 1, 1) := by decide +kernel
theorem dX2_isEither_25 : decode cX2_isEither 25 = .ok (.goto 4, 3) := by decide +kernel
theorem dX2_isEither_28 : decode cX2_isEither 28 = .ok (.iconst 0, 1) := by decide +kernel
theorem dX2_isEither_29 : decode cX2_isEither 29 = .ok (.ireturn, 1) := by decide +kernel
set_option maxRecDepth 20000 in
theorem ggX2_behindDigits_X6_count : GoodIn wsX2_behindDigits wsX6_count := goodIn_r _ [6, 7, 24, 25, 26] rfl (by decide +kernel)
set_option maxRecDepth 20000 in
theorem gX2_behindDigits_X6_count : GoodIn wsX2_behindDigits (wsV RX2 124 RX6 yX6_count wsX6_count) := goodIn_app (goodIn_of _ (by decide +kernel)) ggX2_behindDigits_X6_count
set_option maxRecDepth 20000 in
theorem ggX2_behindDigits_X6_look : GoodIn wsX2_behindDigits wsX6_look := goodIn_r _ [11, 7, 12, 24, 25, 26] rfl (by decide +kernel)
set_option maxRecDepth 20000 in
theorem gX2_behindDigits_X6_look : GoodIn wsX2_behindDigits (wsV RX2 50 RX6 yX6_look wsX6_look) := goodIn_app (goodIn_of _ (by decide +kernel)) ggX2_behindDigits_X6_look
set_option maxRecDepth 20000 in
theorem ggX2_behindDigits_X9_digitOf : GoodIn wsX2_behindDigits wsX9_digitOf := goodIn_r _ [15] rfl (by decide +kernel)
set_option maxRecDepth 20000 in
theorem gX2_behindDigits_X9_digitOf_n117 : GoodIn wsX2_behindDigits (wsX9_digitOf) := ggX2_behindDigits_X9_digitOf
theorem dX2_behindDigits_0 : decode cX2_behindDigits 0 = .ok (.iload_n 1, 1) := by decide +kernel
theorem dX2_behindDigits_1 : decode cX2_behindDigits 1 = .ok (.istore_n 3, 1) := by decide +kernel
theorem dX2_behindDigits_2 : decode cX2_behindDigits 2 = .ok (.iload_n 1, 1) := by decide +kernel
theorem dX2_behindDigits_3 : decode cX2_behindDigits 3 = .ok (.istore 4, 2) := by decide +kernel
theorem dX2_behindDigits_5 : decode cX2_behindDigits 5 = .ok (.iload 4, 2) := by decide +kernel
theorem dX2_behindDigits_7 : decode cX2_behindDigits 7 = .ok (.aload_n 0, 1) := by decide +kernel
theorem dX2_behindDigits_8 : decode cX2_behindDigits 8 = .ok (.getfield 9, 3) := by decide +kernel
theorem dX2_behindDigits_11 : decode cX2_behindDigits 11 = .ok (.invokevirtual 124, 3) := by decide +kernel
theorem dX2_behindDigits_14 : decode cX2_behindDigits 14 = .ok (.if_icmp .ge 55, 3) := by decide +kernel
theorem dX2_behindDigits_17 : decode cX2_behindDigits 17 = .ok (.aload_n 0, 1) := by decide +kernel
theorem dX2_behindDigits_18 : decode cX2_behindDigits 18 = .ok (.getfield 9, 3) := by decide +kernel
theorem dX2_behindDigits_21 : decode cX2_behindDigits 21 = .ok (.iload 4, 2) := by decide +kernel
theorem dX2_behindDigits_23 : decode cX2_behindDigits 23 = .ok (.invokevirtual 50, 3) := by decide +kernel
theorem dX2_behindDigits_26 : decode cX2_behindDigits 26 = .ok (.invokestatic 117, 3) := by decide +kernel
theorem dX2_behindDigits_29 : decode cX2_behindDigits 29 = .ok (.iload_n 2, 1) := by decide +kernel
theorem dX2_behindDigits_30 : decode cX2_behindDigits 30 = .ok (.if_icmp .ge 11, 3) := by decide +kernel
theorem dX2_behindDigits_33 : decode cX2_behindDigits 33 = .ok (.iload 4, 2) := by decide +kernel
theorem dX2_behindDigits_35 : decode cX2_behindDigits 35 = .ok (.iconst 1, 1) := by decide +kernel
theorem dX2_behindDigits_36 : decode cX2_behindDigits 36 = .ok (.iadd, 1) := by decide +kernel
theorem dX2_behindDigits_37 : decode cX2_behindDigits 37 = .ok (.istore_n 3, 1) := by decide +kernel
theorem dX2_behindDigits_38 : decode cX2_behindDigits 38 = .ok (.goto 25, 3) := by decide +kernel
theorem dX2_behindDigits_41 : decode cX2_behindDigits 41 = .ok (.aload_n 0, 1) := by decide +kernel
theorem dX2_behindDigits_42 : decode cX2_behindDigits 42 = .ok (.getfield 9, 3) := by decide +kernel
theorem dX2_behindDigits_45 : decode cX2_behindDigits 45 = .ok (.iload 4, 2) := by decide +kernel
theorem dX2_behindDigits_47 : decode cX2_behindDigits 47 = .ok (.invokevirtual 50, 3) := by decide +kernel
theorem dX2_behindDigits_50 : decode cX2_behindDigits 50 = .ok (.bipush 95, 2) := by decide +kernel
theorem dX2_behindDigits_52 : decode cX2_behindDigits 52 = .ok (.if_icmp .ne 9, 3) := by decide +kernel
theorem dX2_behindDigits_55 : decode cX2_behindDigits 55 = .ok (.iload 4, 2) := by decide +kernel
theorem dX2_behindDigits_57 : decode cX2_behindDigits 57 = .ok (.iload_n 1, 1) := by decide +kernel
theorem dX2_behindDigits_58 : decode cX2_behindDigits 58 = .ok (.if_icmp .ne 5, 3) := by decide +kernel
theorem dX2_behindDigits_61 : decode cX2_behindDigits 61 = .ok (.iload_n 3, 1) := by decide +kernel
theorem dX2_behindDigits_62 : decode cX2_behindDigits 62 = .ok (.ireturn, 1) := by decide +kernel
theorem dX2_behindDigits_63 : decode cX2_behindDigits 63 = .ok (.iinc 4 1, 3) := by decide +kernel
theorem dX2_behindDigits_66 : decode cX2_behindDigits 66 = .ok (.goto (-61), 3) := by decide +kernel
theorem dX2_behindDigits_69 : decode cX2_behindDigits 69 = .ok (.iload_n 3, 1) := by decide +kernel
theorem dX2_behindDigits_70 : decode cX2_behindDigits 70 = .ok (.ireturn, 1) := by decide +kernel
set_option maxRecDepth 20000 in
theorem ggX2_behindExponent_X2_isEither : GoodIn wsX2_behindExponent wsX2_isEither := goodIn_r _ [5, 6, 7, 8, 9, 10, 11, 12, 13, 25, 26, 27, 28, 29, 30, 31, 32, 33, 34, 35] rfl (by decide +kernel)
set_option maxRecDepth 20000 in
theorem gX2_behindExponent_X2_isEither : GoodIn wsX2_behindExponent (wsV RX2 104 RX2 yX2_isEither wsX2_isEither) := goodIn_app (goodIn_of _ (by decide +kernel)) ggX2_behindExponent_X2_isEither
set_option maxRecDepth 20000 in
theorem ggX2_behindExponent_X2_behindDigits : GoodIn wsX2_behindExponent wsX2_behindDigits := goodIn_r _ [17, 6, 18, 19, 20, 10, 21, 12, 7, 8, 9, 11, 13, 22, 23, 24, 25, 26, 27, 28, 29, 30, 31, 32, 33, 34, 35] rfl (by decide +kernel)
set_option maxRecDepth 20000 in
theorem gX2_behindExponent_X2_behindDigits : GoodIn wsX2_behindExponent (wsV RX2 46 RX2 yX2_behindDigits wsX2_behindDigits) := goodIn_app (goodIn_of _ (by decide +kernel)) ggX2_behindExponent_X2_behindDigits
theorem dX2_behindExponent_0 : decode cX2_behindExponent 0 = .ok (.aload_n 0, 1) := by decide +kernel
theorem dX2_behindExponent_1 : decode cX2_behindExponent 1 = .ok (.iload_n 1, 1) := by decide +kernel
theorem dX2_behindExponent_2 : decode cX2_behindExponent 2 = .ok (.iload_n 2, 1) := by decide +kernel
theorem dX2_behindExponent_3 : decode cX2_behindExponent 3 = .ok (.iload_n 3, 1) := by decide +kernel
theorem dX2_behindExponent_4 : decode cX2_behindExponent 4 = .ok (.invokevirtual 104, 3) := by decide +kernel
theorem dX2_behindExponent_7 : decode cX2_behindExponent 7 = .ok (.ifCond .ne 5, 3) := by decide +kernel
theorem dX2_behindExponent_10 : decode cX2_behindExponent 10 = .ok (.iload_n 1, 1) := by decide +kernel
theorem dX2_behindExponent_11 : decode cX2_behindExponent 11 = .ok (.ireturn, 1) := by decide +kernel
theorem dX2_behindExponent_12 : decode cX2_behindExponent 12 = .ok (.aload_n 0, 1) := by decide +kernel
theorem dX2_behindExponent_13 : decode cX2_behindExponent 13 = .ok (.iload_n 1, 1) := by decide +kernel
theorem dX2_behindExponent_14 : decode cX2_behindExponent 14 = .ok (.iconst 1, 1) := by decide +kernel
theorem dX2_behindExponent_15 : decode cX2_behindExponent 15 = .ok (.iadd, 1) := by decide +kernel
theorem dX2_behindExponent_16 : decode cX2_behindExponent 16 = .ok (.bipush 43, 2) := by decide +kernel
theorem dX2_behindExponent_18 : decode cX2_behindExponent 18 = .ok (.bipush 45, 2) := by decide +kernel
theorem dX2_behindExponent_20 : decode cX2_behindExponent 20 = .ok (.invokevirtual 104, 3) := by decide +kernel
theorem dX2_behindExponent_23 : decode cX2_behindExponent 23 = .ok (.ifCond .eq 9, 3) := by decide +kernel
theorem dX2_behindExponent_26 : decode cX2_behindExponent 26 = .ok (.iload_n 1, 1) := by decide +kernel
theorem dX2_behindExponent_27 : decode cX2_behindExponent 27 = .ok (.iconst 2, 1) := by decide +kernel
theorem dX2_behindExponent_28 : decode cX2_behindExponent 28 = .ok (.iadd, 1) := by decide +kernel
theorem dX2_behindExponent_29 : decode cX2_behindExponent 29 = .ok (.goto 6, 3) := by decide +kernel
theorem dX2_behindExponent_32 : decode cX2_behindExponent 32 = .ok (.iload_n 1, 1) := by decide +kernel
theorem dX2_behindExponent_33 : decode cX2_behindExponent 33 = .ok (.iconst 1, 1) := by decide +kernel
theorem dX2_behindExponent_34 : decode cX2_behindExponent 34 = .ok (.iadd, 1) := by decide +kernel
theorem dX2_behindExponent_35 : decode cX2_behindExponent 35 = .ok (.istore 4, 2) := by decide +kernel
theorem dX2_behindExponent_37 : decode cX2_behindExponent 37 = .ok (.aload_n 0, 1) := by decide +kernel
theorem dX2_behindExponent_38 : decode cX2_behindExponent 38 = .ok (.iload 4, 2) := by decide +kernel
theorem dX2_behindExponent_40 : decode cX2_behindExponent 40 = .ok (.bipush 10, 2) := by decide +kernel
theorem dX2_behindExponent_42 : decode cX2_behindExponent 42 = .ok (.invokevirtual 46, 3) := by decide +kernel
theorem dX2_behindExponent_45 : decode cX2_behindExponent 45 = .ok (.istore 5, 2) := by decide +kernel
theorem dX2_behindExponent_47 : decode cX2_behindExponent 47 = .ok (.iload 5, 2) := by decide +kernel
theorem dX2_behindExponent_49 : decode cX2_behindExponent 49 = .ok (.iload 4, 2) := by decide +kernel
theorem dX2_behindExponent_51 : decode cX2_behindExponent 51 = .ok (.if_icmp .le 8, 3) := by decide +kernel
theorem dX2_behindExponent_54 : decode cX2_behindExponent 54 = .ok (.iload 5, 2) := by decide +kernel
theorem dX2_behindExponent_56 : decode cX2_behindExponent 56 = .ok (.goto 4, 3) := by decide +kernel
theorem dX2_behindExponent_59 : decode cX2_behindExponent 59 = .ok (.iload_n 1, 1) := by decide +kernel
theorem dX2_behindExponent_60 : decode cX2_behindExponent 60 = .ok (.ireturn, 1) := by decide +kernel
set_option maxRecDepth 20000 in
theorem ggX2_sumUp_X0_set : GoodIn wsX2_sumUp wsX0_set := goodIn_r _ [8, 9, 10, 34, 35] rfl (by decide +kernel)
set_option maxRecDepth 20000 in
theorem gX2_sumUp_X0_set : GoodIn wsX2_sumUp (wsV RX2 127 RX0 yX0_set wsX0_set) := goodIn_app (goodIn_of _ (by decide +kernel)) ggX2_sumUp_X0_set
set_option maxRecDepth 20000 in
theorem ggX2_sumUp_X6_look : GoodIn wsX2_sumUp wsX6_look := goodIn_r _ [15, 16, 17, 36, 37, 38] rfl (by decide +kernel)
set_option maxRecDepth 20000 in
theorem gX2_sumUp_X6_look : GoodIn wsX2_sumUp (wsV RX2 50 RX6 yX6_look wsX6_look) := goodIn_app (goodIn_of _ (by decide +kernel)) ggX2_sumUp_X6_look
set_option maxRecDepth 20000 in
theorem ggX2_sumUp_X9_digitOf : GoodIn wsX2_sumUp wsX9_digitOf := goodIn_r _ [20] rfl (by decide +kernel)
set_option maxRecDepth 20000 in
theorem gX2_sumUp_X9_digitOf_n117 : GoodIn wsX2_sumUp (wsX9_digitOf) := ggX2_sumUp_X9_digitOf
set_option maxRecDepth 20000 in
theorem ggX2_sumUp_X0_timesPlus : GoodIn wsX2_sumUp wsX0_timesPlus := goodIn_r _ [24, 10, 9, 25, 34, 35] rfl (by decide +kernel)
set_option maxRecDepth 20000 in
theorem gX2_sumUp_X0_timesPlus : GoodIn wsX2_sumUp (wsV RX2 129 RX0 yX0_timesPlus wsX0_timesPlus) := goodIn_app (goodIn_of _ (by decide +kernel)) ggX2_sumUp_X0_timesPlus
theorem dX2_sumUp_0 : decode cX2_sumUp 0 = .ok (.aload_n 0, 1) := by decide +kernel
theorem dX2_sumUp_1 : decode cX2_sumUp 1 = .ok (.getfield 22, 3) := by decide +kernel
theorem dX2_sumUp_4 : decode cX2_sumUp 4 = .ok (.iconst 0, 1) := by decide +kernel
theorem dX2_sumUp_5 : decode cX2_sumUp 5 = .ok (.invokevirtual 127, 3) := by decide +kernel
theorem dX2_sumUp_8 : decode cX2_sumUp 8 = .ok (.iconst 0, 1) := by decide +kernel
theorem dX2_sumUp_9 : decode cX2_sumUp 9 = .ok (.istore_n 3, 1) := by decide +kernel
theorem dX2_sumUp_10 : decode cX2_sumUp 10 = .ok (.iconst 0, 1) := by decide +kernel
theorem dX2_sumUp_11 : decode cX2_sumUp 11 = .ok (.istore 4, 2) := by decide +kernel
theorem dX2_sumUp_13 : decode cX2_sumUp 13 = .ok (.iload_n 1, 1) := by decide +kernel
theorem dX2_sumUp_14 : decode cX2_sumUp 14 = .ok (.istore 5, 2) := by decide +kernel
theorem dX2_sumUp_16 : decode cX2_sumUp 16 = .ok (.iload 5, 2) := by decide +kernel
theorem dX2_sumUp_18 : decode cX2_sumUp 18 = .ok (.iload_n 2, 1) := by decide +kernel
theorem dX2_sumUp_19 : decode cX2_sumUp 19 = .ok (.if_icmp .ge 69, 3) := by decide +kernel
theorem dX2_sumUp_22 : decode cX2_sumUp 22 = .ok (.aload_n 0, 1) := by decide +kernel
theorem dX2_sumUp_23 : decode cX2_sumUp 23 = .ok (.getfield 9, 3) := by decide +kernel
theorem dX2_sumUp_26 : decode cX2_sumUp 26 = .ok (.iload 5, 2) := by decide +kernel
theorem dX2_sumUp_28 : decode cX2_sumUp 28 = .ok (.invokevirtual 50, 3) := by decide +kernel
theorem dX2_sumUp_31 : decode cX2_sumUp 31 = .ok (.istore 6, 2) := by decide +kernel
theorem dX2_sumUp_33 : decode cX2_sumUp 33 = .ok (.iload 6, 2) := by decide +kernel
theorem dX2_sumUp_35 : decode cX2_sumUp 35 = .ok (.bipush 46, 2) := by decide +kernel
theorem dX2_sumUp_37 : decode cX2_sumUp 37 = .ok (.if_icmp .ne 9, 3) := by decide +kernel
theorem dX2_sumUp_40 : decode cX2_sumUp 40 = .ok (.iconst 1, 1) := by decide +kernel
theorem dX2_sumUp_41 : decode cX2_sumUp 41 = .ok (.istore 4, 2) := by decide +kernel
theorem dX2_sumUp_43 : decode cX2_sumUp 43 = .ok (.goto 39, 3) := by decide +kernel
theorem dX2_sumUp_46 : decode cX2_sumUp 46 = .ok (.iload 6, 2) := by decide +kernel
theorem dX2_sumUp_48 : decode cX2_sumUp 48 = .ok (.bipush 95, 2) := by decide +kernel
theorem dX2_sumUp_50 : decode cX2_sumUp 50 = .ok (.if_icmp .eq 32, 3) := by decide +kernel
theorem dX2_sumUp_53 : decode cX2_sumUp 53 = .ok (.aload_n 0, 1) := by decide +kernel
theorem dX2_sumUp_54 : decode cX2_sumUp 54 = .ok (.getfield 22, 3) := by decide +kernel
theorem dX2_sumUp_57 : decode cX2_sumUp 57 = .ok (.aload_n 0, 1) := by decide +kernel
theorem dX2_sumUp_58 : decode cX2_sumUp 58 = .ok (.getfield 39, 3) := by decide +kernel
theorem dX2_sumUp_61 : decode cX2_sumUp 61 = .ok (.iload 6, 2) := by decide +kernel
theorem dX2_sumUp_63 : decode cX2_sumUp 63 = .ok (.invokestatic 117, 3) := by decide +kernel
theorem dX2_sumUp_66 : decode cX2_sumUp 66 = .ok (.invokevirtual 129, 3) := by decide +kernel
theorem dX2_sumUp_69 : decode cX2_sumUp 69 = .ok (.iload_n 3, 1) := by decide +kernel
theorem dX2_sumUp_70 : decode cX2_sumUp 70 = .ok (.iload 4, 2) := by decide +kernel
theorem dX2_sumUp_72 : decode cX2_sumUp 72 = .ok (.ifCond .eq 7, 3) := by decide +kernel
theorem dX2_sumUp_75 : decode cX2_sumUp 75 = .ok (.iconst 1, 1) := by decide +kernel
theorem dX2_sumUp_76 : decode cX2_sumUp 76 = .ok (.goto 4, 3) := by decide +kernel
theorem dX2_sumUp_79 : decode cX2_sumUp 79 = .ok (.iconst 0, 1) := by decide +kernel
theorem dX2_sumUp_80 : decode cX2_sumUp 80 = .ok (.iadd, 1) := by decide +kernel
theorem dX2_sumUp_81 : decode cX2_sumUp 81 = .ok (.istore_n 3, 1) := by decide +kernel
theorem dX2_sumUp_82 : decode cX2_sumUp 82 = .ok (.iinc 5 1, 3) := by decide +kernel
theorem dX2_sumUp_85 : decode cX2_sumUp 85 = .ok (.goto (-69), 3) := by decide +kernel
theorem dX2_sumUp_88 : decode cX2_sumUp 88 = .ok (.iload_n 3, 1) := by decide +kernel
theorem dX2_sumUp_89 : decode cX2_sumUp 89 = .ok (.ireturn, 1) := by decide +kernel
theorem dX2_bounded_0 : decode cX2_bounded 0 = .ok (.sipush (-1400), 3) := by decide +kernel
theorem dX2_bounded_3 : decode cX2_bounded 3 = .ok (.iload_n 0, 1) := by decide +kernel
theorem dX2_bounded_4 : decode cX2_bounded 4 = .ok (.sipush 309, 3) := by decide +kernel
theorem dX2_bounded_7 : decode cX2_bounded 7 = .ok (.invokestatic 133, 3) := by decide +kernel
theorem dX2_bounded_10 : decode cX2_bounded 10 = .ok (.invokestatic 138, 3) := by decide +kernel
theorem dX2_bounded_13 : decode cX2_bounded 13 = .ok (.ireturn, 1) := by decide +kernel
set_option maxRecDepth 20000 in
theorem ggX2_readExponent_X6_look : GoodIn wsX2_readExponent wsX6_look := goodIn_r _ [9, 10, 11, 26, 27, 28] rfl (by decide +kernel)
set_option maxRecDepth 20000 in
theorem gX2_readExponent_X6_look : GoodIn wsX2_readExponent (wsV RX2 50 RX6 yX6_look wsX6_look) := goodIn_app (goodIn_of _ (by decide +kernel)) ggX2_readExponent_X6_look
set_option maxRecDepth 20000 in
theorem ggX2_readExponent_X9_isDecimal : GoodIn wsX2_readExponent wsX9_isDecimal := goodIn_r _ [14, 15, 16, 13, 17] rfl (by decide +kernel)
set_option maxRecDepth 20000 in
theorem gX2_readExponent_X9_isDecimal_n141 : GoodIn wsX2_readExponent (wsX9_isDecimal) := ggX2_readExponent_X9_isDecimal
set_option maxRecDepth 20000 in
theorem ggX2_readExponent_X9_digitOf : GoodIn wsX2_readExponent wsX9_digitOf := goodIn_r _ [17] rfl (by decide +kernel)
set_option maxRecDepth 20000 in
theorem gX2_readExponent_X9_digitOf_n117 : GoodIn wsX2_readExponent (wsX9_digitOf) := ggX2_readExponent_X9_digitOf
theorem dX2_readExponent_0 : decode cX2_readExponent 0 = .ok (.iconst 0, 1) := by decide +kernel
theorem dX2_readExponent_1 : decode cX2_readExponent 1 = .ok (.istore_n 1, 1) := by decide +kernel
theorem dX2_readExponent_2 : decode cX2_readExponent 2 = .ok (.aload_n 0, 1) := by decide +kernel
theorem dX2_readExponent_3 : decode cX2_readExponent 3 = .ok (.getfield 56, 3) := by decide +kernel
theorem dX2_readExponent_6 : decode cX2_readExponent 6 = .ok (.iconst 1, 1) := by decide +kernel
theorem dX2_readExponent_7 : decode cX2_readExponent 7 = .ok (.iadd, 1) := by decide +kernel
theorem dX2_readExponent_8 : decode cX2_readExponent 8 = .ok (.istore_n 2, 1) := by decide +kernel
theorem dX2_readExponent_9 : decode cX2_readExponent 9 = .ok (.iload_n 2, 1) := by decide +kernel
theorem dX2_readExponent_10 : decode cX2_readExponent 10 = .ok (.aload_n 0, 1) := by decide +kernel
theorem dX2_readExponent_11 : decode cX2_readExponent 11 = .ok (.getfield 63, 3) := by decide +kernel
theorem dX2_readExponent_14 : decode cX2_readExponent 14 = .ok (.if_icmp .ge 46, 3) := by decide +kernel
theorem dX2_readExponent_17 : decode cX2_readExponent 17 = .ok (.aload_n 0, 1) := by decide +kernel
theorem dX2_readExponent_18 : decode cX2_readExponent 18 = .ok (.getfield 9, 3) := by decide +kernel
theorem dX2_readExponent_21 : decode cX2_readExponent 21 = .ok (.iload_n 2, 1) := by decide +kernel
theorem dX2_readExponent_22 : decode cX2_readExponent 22 = .ok (.invokevirtual 50, 3) := by decide +kernel
theorem dX2_readExponent_25 : decode cX2_readExponent 25 = .ok (.invokestatic 141, 3) := by decide +kernel
theorem dX2_readExponent_28 : decode cX2_readExponent 28 = .ok (.ifCond .eq 26, 3) := by decide +kernel
theorem dX2_readExponent_31 : decode cX2_readExponent 31 = .ok (.iload_n 1, 1) := by decide +kernel
theorem dX2_readExponent_32 : decode cX2_readExponent 32 = .ok (.ldc 144, 2) := by decide +kernel
theorem dX2_readExponent_34 : decode cX2_readExponent 34 = .ok (.if_icmp .ge 20, 3) := by decide +kernel
theorem dX2_readExponent_37 : decode cX2_readExponent 37 = .ok (.iload_n 1, 1) := by decide +kernel
theorem dX2_readExponent_38 : decode cX2_readExponent 38 = .ok (.bipush 10, 2) := by decide +kernel
theorem dX2_readExponent_40 : decode cX2_readExponent 40 = .ok (.imul, 1) := by decide +kernel
theorem dX2_readExponent_41 : decode cX2_readExponent 41 = .ok (.aload_n 0, 1) := by decide +kernel
theorem dX2_readExponent_42 : decode cX2_readExponent 42 = .ok (.getfield 9, 3) := by decide +kernel
theorem dX2_readExponent_45 : decode cX2_readExponent 45 = .ok (.iload_n 2, 1) := by decide +kernel
theorem dX2_readExponent_46 : decode cX2_readExponent 46 = .ok (.invokevirtual 50, 3) := by decide +kernel
theorem dX2_readExponent_49 : decode cX2_readExponent 49 = .ok (.invokestatic 117, 3) := by decide +kernel
theorem dX2_readExponent_52 : decode cX2_readExponent 52 = .ok (.iadd, 1) := by decide +kernel
theorem dX2_readExponent_53 : decode cX2_readExponent 53 = .ok (.istore_n 1, 1) := by decide +kernel
theorem dX2_readExponent_54 : decode cX2_readExponent 54 = .ok (.iinc 2 1, 3) := by decide +kernel
theorem dX2_readExponent_57 : decode cX2_readExponent 57 = .ok (.goto (-48), 3) := by decide +kernel
theorem dX2_readExponent_60 : decode cX2_readExponent 60 = .ok (.aload_n 0, 1) := by decide +kernel
theorem dX2_readExponent_61 : decode cX2_readExponent 61 = .ok (.getfield 9, 3) := by decide +kernel
theorem dX2_readExponent_64 : decode cX2_readExponent 64 = .ok (.aload_n 0, 1) := by decide +kernel
theorem dX2_readExponent_65 : decode cX2_readExponent 65 = .ok (.getfield 56, 3) := by decide +kernel
theorem dX2_readExponent_68 : decode cX2_readExponent 68 = .ok (.iconst 1, 1) := by decide +kernel
theorem dX2_readExponent_69 : decode cX2_readExponent 69 = .ok (.iadd, 1) := by decide +kernel
theorem dX2_readExponent_70 : decode cX2_readExponent 70 = .ok (.invokevirtual 50, 3) := by decide +kernel
theorem dX2_readExponent_73 : decode cX2_readExponent 73 = .ok (.bipush 45, 2) := by decide +kernel
theorem dX2_readExponent_75 : decode cX2_readExponent 75 = .ok (.if_icmp .ne 8, 3) := by decide +kernel
theorem dX2_readExponent_78 : decode cX2_readExponent 78 = .ok (.iload_n 1, 1) := by decide +kernel
theorem dX2_readExponent_79 : decode cX2_readExponent 79 = .ok (.ineg, 1) := by decide +kernel
theorem dX2_readExponent_80 : decode cX2_readExponent 80 = .ok (.goto 4, 3) := by decide +kernel
theorem dX2_readExponent_83 : decode cX2_readExponent 83 = .ok (.iload_n 1, 1) := by decide +kernel
theorem dX2_readExponent_84 : decode cX2_readExponent 84 = .ok (.ireturn, 1) := by decide +kernel
theorem dX3_init_0 : decode cX3_init 0 = .ok (.aload_n 0, 1) := by decide +kernel
theorem dX3_init_1 : decode cX3_init 1 = .ok (.invokespecial 3, 3) := by decide +kernel
theorem dX3_init_4 : decode cX3_init 4 = .ok (.aload_n 0, 1) := by decide +kernel
theorem dX3_init_5 : decode cX3_init 5 = .ok (.aload_n 1, 1) := by decide +kernel
theorem dX3_init_6 : decode cX3_init 6 = .ok (.putfield 9, 3) := by decide +kernel
theorem dX3_init_9 : decode cX3_init 9 = .ok (.aload_n 0, 1) := by decide +kernel
theorem dX3_init_10 : decode cX3_init 10 = .ok (.aload_n 2, 1) := by decide +kernel
theorem dX3_init_11 : decode cX3_init 11 = .ok (.putfield 15, 3) := by decide +kernel
theorem dX3_init_14 : decode cX3_init 14 = .ok (.return_, 1) := by decide +kernel
set_option maxRecDepth 20000 in
theorem ggX3_takeCharacter_X6_look : GoodIn wsX3_takeCharacter wsX6_look := goodIn_r _ [8, 9, 10, 44, 45, 46] rfl (by decide +kernel)
set_option maxRecDepth 20000 in
theorem gX3_takeCharacter_X6_look : GoodIn wsX3_takeCharacter (wsV RX3 19 RX6 yX6_look wsX6_look) := goodIn_app (goodIn_of _ (by decide +kernel)) ggX3_takeCharacter_X6_look
set_option maxRecDepth 20000 in
theorem ggX3_takeCharacter_X3_behindOne : GoodIn wsX3_takeCharacter wsX3_behindOne := goodIn_r _ [15, 1, 3, 4, 5, 6, 7, 8, 9, 10, 16, 17, 18, 19, 20, 21, 14, 22, 23, 24, 25, 26, 27, 28, 29, 30, 31, 41, 42, 43, 44, 45, 46] rfl (by decide +kernel)
set_option maxRecDepth 20000 in
theorem gX3_takeCharacter_X3_behindOne : GoodIn wsX3_takeCharacter (wsV RX3 25 RX3 yX3_behindOne wsX3_behindOne) := goodIn_app (goodIn_of _ (by decide +kernel)) ggX3_takeCharacter_X3_behindOne
set_option maxRecDepth 20000 in
theorem ggX3_takeCharacter_X1_set : GoodIn wsX3_takeCharacter wsX1_set := goodIn_r _ [36, 37, 38, 39, 40, 47, 48, 49, 50] rfl (by decide +kernel)
set_option maxRecDepth 20000 in
theorem gX3_takeCharacter_X1_set : GoodIn wsX3_takeCharacter (wsV RX3 32 RX1 yX1_set wsX1_set) := goodIn_app (goodIn_of _ (by decide +kernel)) ggX3_takeCharacter_X1_set
theorem dX3_takeCharacter_0 : decode cX3_takeCharacter 0 = .ok (.aload_n 0, 1) := by decide +kernel
theorem dX3_takeCharacter_1 : decode cX3_takeCharacter 1 = .ok (.getfield 9, 3) := by decide +kernel
theorem dX3_takeCharacter_4 : decode cX3_takeCharacter 4 = .ok (.iload_n 1, 1) := by decide +kernel
theorem dX3_takeCharacter_5 : decode cX3_takeCharacter 5 = .ok (.iconst 1, 1) := by decide +kernel
theorem dX3_takeCharacter_6 : decode cX3_takeCharacter 6 = .ok (.iadd, 1) := by decide +kernel
theorem dX3_takeCharacter_7 : decode cX3_takeCharacter 7 = .ok (.invokevirtual 19, 3) := by decide +kernel
theorem dX3_takeCharacter_10 : decode cX3_takeCharacter 10 = .ok (.bipush 39, 2) := by decide +kernel
theorem dX3_takeCharacter_12 : decode cX3_takeCharacter 12 = .ok (.if_icmp .ne 5, 3) := by decide +kernel
theorem dX3_takeCharacter_15 : decode cX3_takeCharacter 15 = .ok (.iconst 0, 1) := by decide +kernel
theorem dX3_takeCharacter_16 : decode cX3_takeCharacter 16 = .ok (.ireturn, 1) := by decide +kernel
theorem dX3_takeCharacter_17 : decode cX3_takeCharacter 17 = .ok (.aload_n 0, 1) := by decide +kernel
theorem dX3_takeCharacter_18 : decode cX3_takeCharacter 18 = .ok (.iload_n 1, 1) := by decide +kernel
theorem dX3_takeCharacter_19 : decode cX3_takeCharacter 19 = .ok (.iconst 1, 1) := by decide +kernel
theorem dX3_takeCharacter_20 : decode cX3_takeCharacter 20 = .ok (.iadd, 1) := by decide +kernel
theorem dX3_takeCharacter_21 : decode cX3_takeCharacter 21 = .ok (.invokevirtual 25, 3) := by decide +kernel
theorem dX3_takeCharacter_24 : decode cX3_takeCharacter 24 = .ok (.istore_n 2, 1) := by decide +kernel
theorem dX3_takeCharacter_25 : decode cX3_takeCharacter 25 = .ok (.iload_n 2, 1) := by decide +kernel
theorem dX3_takeCharacter_26 : decode cX3_takeCharacter 26 = .ok (.iconst (-1), 1) := by decide +kernel
theorem dX3_takeCharacter_27 : decode cX3_takeCharacter 27 = .ok (.if_icmp .eq 16, 3) := by decide +kernel
theorem dX3_takeCharacter_30 : decode cX3_takeCharacter 30 = .ok (.aload_n 0, 1) := by decide +kernel
theorem dX3_takeCharacter_31 : decode cX3_takeCharacter 31 = .ok (.getfield 9, 3) := by decide +kernel
theorem dX3_takeCharacter_34 : decode cX3_takeCharacter 34 = .ok (.iload_n 2, 1) := by decide +kernel
theorem dX3_takeCharacter_35 : decode cX3_takeCharacter 35 = .ok (.invokevirtual 19, 3) := by decide +kernel
theorem dX3_takeCharacter_38 : decode cX3_takeCharacter 38 = .ok (.bipush 39, 2) := by decide +kernel
theorem dX3_takeCharacter_40 : decode cX3_takeCharacter 40 = .ok (.if_icmp .eq 5, 3) := by decide +kernel
theorem dX3_takeCharacter_43 : decode cX3_takeCharacter 43 = .ok (.iconst 0, 1) := by decide +kernel
theorem dX3_takeCharacter_44 : decode cX3_takeCharacter 44 = .ok (.ireturn, 1) := by decide +kernel
theorem dX3_takeCharacter_45 : decode cX3_takeCharacter 45 = .ok (.aload_n 0, 1) := by decide +kernel
theorem dX3_takeCharacter_46 : decode cX3_takeCharacter 46 = .ok (.getfield 15, 3) := by decide +kernel
theorem dX3_takeCharacter_49 : decode cX3_takeCharacter 49 = .ok (.bipush 65, 2) := by decide +kernel
theorem dX3_takeCharacter_51 : decode cX3_takeCharacter 51 = .ok (.aload_n 0, 1) := by decide +kernel
theorem dX3_takeCharacter_52 : decode cX3_takeCharacter 52 = .ok (.getfield 28, 3) := by decide +kernel
theorem dX3_takeCharacter_55 : decode cX3_takeCharacter 55 = .ok (.i2l, 1) := by decide +kernel
theorem dX3_takeCharacter_56 : decode cX3_takeCharacter 56 = .ok (.iload_n 1, 1) := by decide +kernel
theorem dX3_takeCharacter_57 : decode cX3_takeCharacter 57 = .ok (.iload_n 2, 1) := by decide +kernel
theorem dX3_takeCharacter_58 : decode cX3_takeCharacter 58 = .ok (.iconst 1, 1) := by decide +kernel
theorem dX3_takeCharacter_59 : decode cX3_takeCharacter 59 = .ok (.iadd, 1) := by decide +kernel
theorem dX3_takeCharacter_60 : decode cX3_takeCharacter 60 = .ok (.invokevirtual 32, 3) := by decide +kernel
theorem dX3_takeCharacter_63 : decode cX3_takeCharacter 63 = .ok (.iconst 1, 1) := by decide +kernel
theorem dX3_takeCharacter_64 : decode cX3_takeCharacter 64 = .ok (.ireturn, 1) := by decide +kernel
set_option maxRecDepth 20000 in
theorem ggX3_takeString_X6_look : GoodIn wsX3_takeString wsX6_look := goodIn_r _ [8, 9, 10, 48, 49, 50] rfl (by decide +kernel)
set_option maxRecDepth 20000 in
theorem gX3_takeString_X6_look : GoodIn wsX3_takeString (wsV RX3 19 RX6 yX6_look wsX6_look) := goodIn_app (goodIn_of _ (by decide +kernel)) ggX3_takeString_X6_look
set_option maxRecDepth 20000 in
theorem ggX3_takeString_X1_set : GoodIn wsX3_takeString wsX1_set := goodIn_r _ [15, 16, 17, 18, 19, 51, 52, 53, 54] rfl (by decide +kernel)
set_option maxRecDepth 20000 in
theorem gX3_takeString_X1_set : GoodIn wsX3_takeString (wsV RX3 32 RX1 yX1_set wsX1_set) := goodIn_app (goodIn_of _ (by decide +kernel)) ggX3_takeString_X1_set
set_option maxRecDepth 20000 in
theorem ggX3_takeString_X3_behindOne : GoodIn wsX3_takeString wsX3_behindOne := goodIn_r _ [24, 1, 3, 4, 5, 6, 7, 8, 9, 10, 25, 26, 27, 28, 29, 30, 23, 31, 32, 33, 34, 35, 36, 37, 38, 39, 40, 45, 46, 47, 48, 49, 50] rfl (by decide +kernel)
set_option maxRecDepth 20000 in
theorem gX3_takeString_X3_behindOne : GoodIn wsX3_takeString (wsV RX3 25 RX3 yX3_behindOne wsX3_behindOne) := goodIn_app (goodIn_of _ (by decide +kernel)) ggX3_takeString_X3_behindOne
set_option maxRecDepth 20000 in
theorem ggX3_takeString_X6_put : GoodIn wsX3_takeString wsX6_put := goodIn_r _ [44, 9, 10, 48, 49, 50] rfl (by decide +kernel)
set_option maxRecDepth 20000 in
theorem gX3_takeString_X6_put : GoodIn wsX3_takeString (wsV RX3 38 RX6 yX6_put wsX6_put) := goodIn_app (goodIn_of _ (by decide +kernel)) ggX3_takeString_X6_put
theorem dX3_takeString_0 : decode cX3_takeString 0 = .ok (.iload_n 1, 1) := by decide +kernel
theorem dX3_takeString_1 : decode cX3_takeString 1 = .ok (.iconst 1, 1) := by decide +kernel
theorem dX3_takeString_2 : decode cX3_takeString 2 = .ok (.iadd, 1) := by decide +kernel
theorem dX3_takeString_3 : decode cX3_takeString 3 = .ok (.istore_n 2, 1) := by decide +kernel
theorem dX3_takeString_4 : decode cX3_takeString 4 = .ok (.iload_n 2, 1) := by decide +kernel
theorem dX3_takeString_5 : decode cX3_takeString 5 = .ok (.istore_n 3, 1) := by decide +kernel
theorem dX3_takeString_6 : decode cX3_takeString 6 = .ok (.iconst 0, 1) := by decide +kernel
theorem dX3_takeString_7 : decode cX3_takeString 7 = .ok (.istore 4, 2) := by decide +kernel
theorem dX3_takeString_9 : decode cX3_takeString 9 = .ok (.iload 4, 2) := by decide +kernel
theorem dX3_takeString_11 : decode cX3_takeString 11 = .ok (.sipush 4000, 3) := by decide +kernel
theorem dX3_takeString_14 : decode cX3_takeString 14 = .ok (.if_icmp .gt 68, 3) := by decide +kernel
theorem dX3_takeString_17 : decode cX3_takeString 17 = .ok (.aload_n 0, 1) := by decide +kernel
theorem dX3_takeString_18 : decode cX3_takeString 18 = .ok (.getfield 9, 3) := by decide +kernel
theorem dX3_takeString_21 : decode cX3_takeString 21 = .ok (.iload_n 3, 1) := by decide +kernel
theorem dX3_takeString_22 : decode cX3_takeString 22 = .ok (.invokevirtual 19, 3) := by decide +kernel
theorem dX3_takeString_25 : decode cX3_takeString 25 = .ok (.bipush 34, 2) := by decide +kernel
theorem dX3_takeString_27 : decode cX3_takeString 27 = .ok (.if_icmp .ne 21, 3) := by decide +kernel
theorem dX3_takeString_30 : decode cX3_takeString 30 = .ok (.aload_n 0, 1) := by decide +kernel
theorem dX3_takeString_31 : decode cX3_takeString 31 = .ok (.getfield 15, 3) := by decide +kernel
theorem dX3_takeString_34 : decode cX3_takeString 34 = .ok (.bipush 66, 2) := by decide +kernel
theorem dX3_takeString_36 : decode cX3_takeString 36 = .ok (.iload 4, 2) := by decide +kernel
theorem dX3_takeString_38 : decode cX3_takeString 38 = .ok (.i2l, 1) := by decide +kernel
theorem dX3_takeString_39 : decode cX3_takeString 39 = .ok (.iload_n 2, 1) := by decide +kernel
theorem dX3_takeString_40 : decode cX3_takeString 40 = .ok (.iload_n 3, 1) := by decide +kernel
theorem dX3_takeString_41 : decode cX3_takeString 41 = .ok (.iconst 1, 1) := by decide +kernel
theorem dX3_takeString_42 : decode cX3_takeString 42 = .ok (.iadd, 1) := by decide +kernel
theorem dX3_takeString_43 : decode cX3_takeString 43 = .ok (.invokevirtual 32, 3) := by decide +kernel
theorem dX3_takeString_46 : decode cX3_takeString 46 = .ok (.iconst 1, 1) := by decide +kernel
theorem dX3_takeString_47 : decode cX3_takeString 47 = .ok (.ireturn, 1) := by decide +kernel
theorem dX3_takeString_48 : decode cX3_takeString 48 = .ok (.aload_n 0, 1) := by decide +kernel
theorem dX3_takeString_49 : decode cX3_takeString 49 = .ok (.iload_n 3, 1) := by decide +kernel
theorem dX3_takeString_50 : decode cX3_takeString 50 = .ok (.invokevirtual 25, 3) := by decide +kernel
theorem dX3_takeString_53 : decode cX3_takeString 53 = .ok (.istore_n 3, 1) := by decide +kernel
theorem dX3_takeString_54 : decode cX3_takeString 54 = .ok (.iload_n 3, 1) := by decide +kernel
theorem dX3_takeString_55 : decode cX3_takeString 55 = .ok (.iconst (-1), 1) := by decide +kernel
theorem dX3_takeString_56 : decode cX3_takeString 56 = .ok (.if_icmp .ne 5, 3) := by decide +kernel
theorem dX3_takeString_59 : decode cX3_takeString 59 = .ok (.iconst 0, 1) := by decide +kernel
theorem dX3_takeString_60 : decode cX3_takeString 60 = .ok (.ireturn, 1) := by decide +kernel
theorem dX3_takeString_61 : decode cX3_takeString 61 = .ok (.aload_n 0, 1) := by decide +kernel
theorem dX3_takeString_62 : decode cX3_takeString 62 = .ok (.getfield 9, 3) := by decide +kernel
theorem dX3_takeString_65 : decode cX3_takeString 65 = .ok (.iload_n 2, 1) := by decide +kernel
theorem dX3_takeString_66 : decode cX3_takeString 66 = .ok (.iload 4, 2) := by decide +kernel
theorem dX3_takeString_68 : decode cX3_takeString 68 = .ok (.iadd, 1) := by decide +kernel
theorem dX3_takeString_69 : decode cX3_takeString 69 = .ok (.aload_n 0, 1) := by decide +kernel
theorem dX3_takeString_70 : decode cX3_takeString 70 = .ok (.getfield 28, 3) := by decide +kernel
theorem dX3_takeString_73 : decode cX3_takeString 73 = .ok (.invokevirtual 38, 3) := by decide +kernel
theorem dX3_takeString_76 : decode cX3_takeString 76 = .ok (.iinc 4 1, 3) := by decide +kernel
theorem dX3_takeString_79 : decode cX3_takeString 79 = .ok (.goto (-70), 3) := by decide +kernel
theorem dX3_takeString_82 : decode cX3_takeString 82 = .ok (.iconst 0, 1) := by decide +kernel
theorem dX3_takeString_83 : decode cX3_takeString 83 = .ok (.ireturn, 1) := by decide +kernel
set_option maxRecDepth 20000 in
theorem ggX3_behindOne_X6_look : GoodIn wsX3_behindOne wsX6_look := goodIn_r _ [7, 8, 9, 30, 31, 32] rfl (by decide +kernel)
set_option maxRecDepth 20000 in
theorem gX3_behindOne_X6_look : GoodIn wsX3_behindOne (wsV RX3 19 RX6 yX6_look wsX6_look) := goodIn_app (goodIn_of _ (by decide +kernel)) ggX3_behindOne_X6_look
set_option maxRecDepth 20000 in
theorem ggX3_behindOne_X9_isLineEnd : GoodIn wsX3_behindOne wsX9_isLineEnd := goodIn_r _ [12] rfl (by decide +kernel)
set_option maxRecDepth 20000 in
theorem gX3_behindOne_X9_isLineEnd_n42 : GoodIn wsX3_behindOne (wsX9_isLineEnd) := ggX3_behindOne_X9_isLineEnd
set_option maxRecDepth 20000 in
theorem ggX3_behindOne_X3_behindEscape : GoodIn wsX3_behindOne wsX3_behindEscape := goodIn_r _ [17, 1, 2, 3, 4, 5, 6, 7, 8, 9, 18, 11, 19, 20, 21, 22, 16, 23, 24, 25, 26, 27, 28, 29, 30, 31, 32] rfl (by decide +kernel)
set_option maxRecDepth 20000 in
theorem gX3_behindOne_X3_behindEscape : GoodIn wsX3_behindOne (wsV RX3 46 RX3 yX3_behindEscape wsX3_behindEscape) := goodIn_app (goodIn_of _ (by decide +kernel)) ggX3_behindOne_X3_behindEscape
theorem dX3_behindOne_0 : decode cX3_behindOne 0 = .ok (.aload_n 0, 1) := by decide +kernel
theorem dX3_behindOne_1 : decode cX3_behindOne 1 = .ok (.aload_n 0, 1) := by decide +kernel
theorem dX3_behindOne_2 : decode cX3_behindOne 2 = .ok (.getfield 9, 3) := by decide +kernel
theorem dX3_behindOne_5 : decode cX3_behindOne 5 = .ok (.iload_n 1, 1) := by decide +kernel
theorem dX3_behindOne_6 : decode cX3_behindOne 6 = .ok (.invokevirtual 19, 3) := by decide +kernel
theorem dX3_behindOne_9 : decode cX3_behindOne 9 = .ok (.putfield 28, 3) := by decide +kernel
theorem dX3_behindOne_12 : decode cX3_behindOne 12 = .ok (.aload_n 0, 1) := by decide +kernel
theorem dX3_behindOne_13 : decode cX3_behindOne 13 = .ok (.getfield 28, 3) := by decide +kernel
theorem dX3_behindOne_16 : decode cX3_behindOne 16 = .ok (.iconst (-1), 1) := by decide +kernel
theorem dX3_behindOne_17 : decode cX3_behindOne 17 = .ok (.if_icmp .eq 13, 3) := by decide +kernel
theorem dX3_behindOne_20 : decode cX3_behindOne 20 = .ok (.aload_n 0, 1) := by decide +kernel
theorem dX3_behindOne_21 : decode cX3_behindOne 21 = .ok (.getfield 28, 3) := by decide +kernel
theorem dX3_behindOne_24 : decode cX3_behindOne 24 = .ok (.invokestatic 42, 3) := by decide +kernel
theorem dX3_behindOne_27 : decode cX3_behindOne 27 = .ok (.ifCond .eq 5, 3) := by decide +kernel
theorem dX3_behindOne_30 : decode cX3_behindOne 30 = .ok (.iconst (-1), 1) := by decide +kernel
theorem dX3_behindOne_31 : decode cX3_behindOne 31 = .ok (.ireturn, 1) := by decide +kernel
theorem dX3_behindOne_32 : decode cX3_behindOne 32 = .ok (.aload_n 0, 1) := by decide +kernel
theorem dX3_behindOne_33 : decode cX3_behindOne 33 = .ok (.getfield 28, 3) := by decide +kernel
theorem dX3_behindOne_36 : decode cX3_behindOne 36 = .ok (.bipush 92, 2) := by decide +kernel
theorem dX3_behindOne_38 : decode cX3_behindOne 38 = .ok (.if_icmp .ne 13, 3) := by decide +kernel
theorem dX3_behindOne_41 : decode cX3_behindOne 41 = .ok (.aload_n 0, 1) := by decide +kernel
theorem dX3_behindOne_42 : decode cX3_behindOne 42 = .ok (.iload_n 1, 1) := by decide +kernel
theorem dX3_behindOne_43 : decode cX3_behindOne 43 = .ok (.iconst 1, 1) := by decide +kernel
theorem dX3_behindOne_44 : decode cX3_behindOne 44 = .ok (.iadd, 1) := by decide +kernel
theorem dX3_behindOne_45 : decode cX3_behindOne 45 = .ok (.invokevirtual 46, 3) := by decide +kernel
theorem dX3_behindOne_48 : decode cX3_behindOne 48 = .ok (.goto 6, 3) := by decide +kernel
theorem dX3_behindOne_51 : decode cX3_behindOne 51 = .ok (.iload_n 1, 1) := by decide +kernel
theorem dX3_behindOne_52 : decode cX3_behindOne 52 = .ok (.iconst 1, 1) := by decide +kernel
theorem dX3_behindOne_53 : decode cX3_behindOne 53 = .ok (.iadd, 1) := by decide +kernel
theorem dX3_behindOne_54 : decode cX3_behindOne 54 = .ok (.ireturn, 1) := by decide +kernel
set_option maxRecDepth 20000 in
theorem ggX3_behindEscape_X6_look : GoodIn wsX3_behindEscape wsX6_look := goodIn_r _ [7, 8, 9, 24, 25, 26] rfl (by decide +kernel)
set_option maxRecDepth 20000 in
theorem gX3_behindEscape_X6_look : GoodIn wsX3_behindEscape (wsV RX3 19 RX6 yX6_look wsX6_look) := goodIn_app (goodIn_of _ (by decide +kernel)) ggX3_behindEscape_X6_look
set_option maxRecDepth 20000 in
theorem ggX3_behindEscape_X9_digitOf : GoodIn wsX3_behindEscape wsX9_digitOf := goodIn_r _ [12] rfl (by decide +kernel)
set_option maxRecDepth 20000 in
theorem gX3_behindEscape_X9_digitOf_n49 : GoodIn wsX3_behindEscape (wsX9_digitOf) := ggX3_behindEscape_X9_digitOf
set_option maxRecDepth 20000 in
theorem ggX3_behindEscape_X3_behindOctal : GoodIn wsX3_behindEscape wsX3_behindOctal := goodIn_r _ [17, 1, 2, 3, 4, 5, 6, 7, 8, 9, 10, 11, 12, 21, 22, 23, 24, 25, 26] rfl (by decide +kernel)
set_option maxRecDepth 20000 in
theorem gX3_behindEscape_X3_behindOctal : GoodIn wsX3_behindEscape (wsV RX3 52 RX3 yX3_behindOctal wsX3_behindOctal) := goodIn_app (goodIn_of _ (by decide +kernel)) ggX3_behindEscape_X3_behindOctal
set_option maxRecDepth 20000 in
theorem ggX3_behindEscape_X3_escaped : GoodIn wsX3_behindEscape wsX3_escaped := goodIn_r _ [20] rfl (by decide +kernel)
set_option maxRecDepth 20000 in
theorem gX3_behindEscape_X3_escaped : GoodIn wsX3_behindEscape (va_wsS RX3 55 yX3_escaped wsX3_escaped) := goodIn_app (goodIn_of _ (by decide +kernel)) ggX3_behindEscape_X3_escaped
theorem dX3_behindEscape_0 : decode cX3_behindEscape 0 = .ok (.aload_n 0, 1) := by decide +kernel
theorem dX3_behindEscape_1 : decode cX3_behindEscape 1 = .ok (.getfield 9, 3) := by decide +kernel
theorem dX3_behindEscape_4 : decode cX3_behindEscape 4 = .ok (.iload_n 1, 1) := by decide +kernel
theorem dX3_behindEscape_5 : decode cX3_behindEscape 5 = .ok (.invokevirtual 19, 3) := by decide +kernel
theorem dX3_behindEscape_8 : decode cX3_behindEscape 8 = .ok (.istore_n 2, 1) := by decide +kernel
theorem dX3_behindEscape_9 : decode cX3_behindEscape 9 = .ok (.iload_n 2, 1) := by decide +kernel
theorem dX3_behindEscape_10 : decode cX3_behindEscape 10 = .ok (.invokestatic 49, 3) := by decide +kernel
theorem dX3_behindEscape_13 : decode cX3_behindEscape 13 = .ok (.bipush 8, 2) := by decide +kernel
theorem dX3_behindEscape_15 : decode cX3_behindEscape 15 = .ok (.if_icmp .ge 9, 3) := by decide +kernel
theorem dX3_behindEscape_18 : decode cX3_behindEscape 18 = .ok (.aload_n 0, 1) := by decide +kernel
theorem dX3_behindEscape_19 : decode cX3_behindEscape 19 = .ok (.iload_n 1, 1) := by decide +kernel
theorem dX3_behindEscape_20 : decode cX3_behindEscape 20 = .ok (.invokevirtual 52, 3) := by decide +kernel
theorem dX3_behindEscape_23 : decode cX3_behindEscape 23 = .ok (.ireturn, 1) := by decide +kernel
theorem dX3_behindEscape_24 : decode cX3_behindEscape 24 = .ok (.aload_n 0, 1) := by decide +kernel
theorem dX3_behindEscape_25 : decode cX3_behindEscape 25 = .ok (.iload_n 2, 1) := by decide +kernel
theorem dX3_behindEscape_26 : decode cX3_behindEscape 26 = .ok (.invokestatic 55, 3) := by decide +kernel
theorem dX3_behindEscape_29 : decode cX3_behindEscape 29 = .ok (.putfield 28, 3) := by decide +kernel
theorem dX3_behindEscape_32 : decode cX3_behindEscape 32 = .ok (.aload_n 0, 1) := by decide +kernel
theorem dX3_behindEscape_33 : decode cX3_behindEscape 33 = .ok (.getfield 28, 3) := by decide +kernel
theorem dX3_behindEscape_36 : decode cX3_behindEscape 36 = .ok (.iconst (-1), 1) := by decide +kernel
theorem dX3_behindEscape_37 : decode cX3_behindEscape 37 = .ok (.if_icmp .ne 7, 3) := by decide +kernel
theorem dX3_behindEscape_40 : decode cX3_behindEscape 40 = .ok (.iconst (-1), 1) := by decide +kernel
theorem dX3_behindEscape_41 : decode cX3_behindEscape 41 = .ok (.goto 6, 3) := by decide +kernel
theorem dX3_behindEscape_44 : decode cX3_behindEscape 44 = .ok (.iload_n 1, 1) := by decide +kernel
theorem dX3_behindEscape_45 : decode cX3_behindEscape 45 = .ok (.iconst 1, 1) := by decide +kernel
theorem dX3_behindEscape_46 : decode cX3_behindEscape 46 = .ok (.iadd, 1) := by decide +kernel
theorem dX3_behindEscape_47 : decode cX3_behindEscape 47 = .ok (.ireturn, 1) := by decide +kernel
set_option maxRecDepth 20000 in
theorem ggX3_behindOctal_X6_look : GoodIn wsX3_behindOctal wsX6_look := goodIn_r _ [7, 8, 9, 16, 17, 18] rfl (by decide +kernel)
set_option maxRecDepth 20000 in
theorem gX3_behindOctal_X6_look : GoodIn wsX3_behindOctal (wsV RX3 19 RX6 yX6_look wsX6_look) := goodIn_app (goodIn_of _ (by decide +kernel)) ggX3_behindOctal_X6_look
set_option maxRecDepth 20000 in
theorem ggX3_behindOctal_X9_digitOf : GoodIn wsX3_behindOctal wsX9_digitOf := goodIn_r _ [12] rfl (by decide +kernel)
set_option maxRecDepth 20000 in
theorem gX3_behindOctal_X9_digitOf_n49 : GoodIn wsX3_behindOctal (wsX9_digitOf) := ggX3_behindOctal_X9_digitOf
theorem dX3_behindOctal_0 : decode cX3_behindOctal 0 = .ok (.aload_n 0, 1) := by decide +kernel
theorem dX3_behindOctal_1 : decode cX3_behindOctal 1 = .ok (.getfield 9, 3) := by decide +kernel
theorem dX3_behindOctal_4 : decode cX3_behindOctal 4 = .ok (.iload_n 1, 1) := by decide +kernel
theorem dX3_behindOctal_5 : decode cX3_behindOctal 5 = .ok (.invokevirtual 19, 3) := by decide +kernel
theorem dX3_behindOctal_8 : decode cX3_behindOctal 8 = .ok (.bipush 51, 2) := by decide +kernel
theorem dX3_behindOctal_10 : decode cX3_behindOctal 10 = .ok (.if_icmp .gt 7, 3) := by decide +kernel
theorem dX3_behindOctal_13 : decode cX3_behindOctal 13 = .ok (.iconst 3, 1) := by decide +kernel
theorem dX3_behindOctal_14 : decode cX3_behindOctal 14 = .ok (.goto 4, 3) := by decide +kernel
theorem dX3_behindOctal_17 : decode cX3_behindOctal 17 = .ok (.iconst 2, 1) := by decide +kernel
theorem dX3_behindOctal_18 : decode cX3_behindOctal 18 = .ok (.istore_n 2, 1) := by decide +kernel
theorem dX3_behindOctal_19 : decode cX3_behindOctal 19 = .ok (.aload_n 0, 1) := by decide +kernel
theorem dX3_behindOctal_20 : decode cX3_behindOctal 20 = .ok (.iconst 0, 1) := by decide +kernel
theorem dX3_behindOctal_21 : decode cX3_behindOctal 21 = .ok (.putfield 28, 3) := by decide +kernel
theorem dX3_behindOctal_24 : decode cX3_behindOctal 24 = .ok (.iload_n 1, 1) := by decide +kernel
theorem dX3_behindOctal_25 : decode cX3_behindOctal 25 = .ok (.istore_n 3, 1) := by decide +kernel
theorem dX3_behindOctal_26 : decode cX3_behindOctal 26 = .ok (.iload_n 3, 1) := by decide +kernel
theorem dX3_behindOctal_27 : decode cX3_behindOctal 27 = .ok (.iload_n 1, 1) := by decide +kernel
theorem dX3_behindOctal_28 : decode cX3_behindOctal 28 = .ok (.iload_n 2, 1) := by decide +kernel
theorem dX3_behindOctal_29 : decode cX3_behindOctal 29 = .ok (.iadd, 1) := by decide +kernel
theorem dX3_behindOctal_30 : decode cX3_behindOctal 30 = .ok (.if_icmp .ge 48, 3) := by decide +kernel
theorem dX3_behindOctal_33 : decode cX3_behindOctal 33 = .ok (.aload_n 0, 1) := by decide +kernel
theorem dX3_behindOctal_34 : decode cX3_behindOctal 34 = .ok (.getfield 9, 3) := by decide +kernel
theorem dX3_behindOctal_37 : decode cX3_behindOctal 37 = .ok (.iload_n 3, 1) := by decide +kernel
theorem dX3_behindOctal_38 : decode cX3_behindOctal 38 = .ok (.invokevirtual 19, 3) := by decide +kernel
theorem dX3_behindOctal_41 : decode cX3_behindOctal 41 = .ok (.invokestatic 49, 3) := by decide +kernel
theorem dX3_behindOctal_44 : decode cX3_behindOctal 44 = .ok (.bipush 8, 2) := by decide +kernel
theorem dX3_behindOctal_46 : decode cX3_behindOctal 46 = .ok (.if_icmp .ge 32, 3) := by decide +kernel
theorem dX3_behindOctal_49 : decode cX3_behindOctal 49 = .ok (.aload_n 0, 1) := by decide +kernel
theorem dX3_behindOctal_50 : decode cX3_behindOctal 50 = .ok (.aload_n 0, 1) := by decide +kernel
theorem dX3_behindOctal_51 : decode cX3_behindOctal 51 = .ok (.getfield 28, 3) := by decide +kernel
theorem dX3_behindOctal_54 : decode cX3_behindOctal 54 = .ok (.bipush 8, 2) := by decide +kernel
theorem dX3_behindOctal_56 : decode cX3_behindOctal 56 = .ok (.imul, 1) := by decide +kernel
theorem dX3_behindOctal_57 : decode cX3_behindOctal 57 = .ok (.aload_n 0, 1) := by decide +kernel
theorem dX3_behindOctal_58 : decode cX3_behindOctal 58 = .ok (.getfield 9, 3) := by decide +kernel
theorem dX3_behindOctal_61 : decode cX3_behindOctal 61 = .ok (.iload_n 3, 1) := by decide +kernel
theorem dX3_behindOctal_62 : decode cX3_behindOctal 62 = .ok (.invokevirtual 19, 3) := by decide +kernel
theorem dX3_behindOctal_65 : decode cX3_behindOctal 65 = .ok (.invokestatic 49, 3) := by decide +kernel
theorem dX3_behindOctal_68 : decode cX3_behindOctal 68 = .ok (.iadd, 1) := by decide +kernel
theorem dX3_behindOctal_69 : decode cX3_behindOctal 69 = .ok (.putfield 28, 3) := by decide +kernel
theorem dX3_behindOctal_72 : decode cX3_behindOctal 72 = .ok (.iinc 3 1, 3) := by decide +kernel
theorem dX3_behindOctal_75 : decode cX3_behindOctal 75 = .ok (.goto (-49), 3) := by decide +kernel
theorem dX3_behindOctal_78 : decode cX3_behindOctal 78 = .ok (.iload_n 3, 1) := by decide +kernel
theorem dX3_behindOctal_79 : decode cX3_behindOctal 79 = .ok (.ireturn, 1) := by decide +kernel
theorem dX3_escaped_0 : decode cX3_escaped 0 = .ok (.iload_n 0, 1) := by decide +kernel
theorem dX3_escaped_1 : decode cX3_escaped 1 = .ok (.lookupswitch 92 #[(34, 90), (39, 90), (92, 90), (98, 75), (102, 84), (110, 81), (114, 87), (116, 78)], 75) := by decide +kernel
theorem dX3_escaped_76 : decode cX3_escaped 76 = .ok (.bipush 8, 2) := by decide +kernel
theorem dX3_escaped_78 : decode cX3_escaped 78 = .ok (.ireturn, 1) := by decide +kernel
theorem dX3_escaped_79 : decode cX3_escaped 79 = .ok (.bipush 9, 2) := by decide +kernel
theorem dX3_escaped_81 : decode cX3_escaped 81 = .ok (.ireturn, 1) := by decide +kernel
theorem dX3_escaped_82 : decode cX3_escaped 82 = .ok (.bipush 10, 2) := by decide +kernel
theorem dX3_escaped_84 : decode cX3_escaped 84 = .ok (.ireturn, 1) := by decide +kernel
theorem dX3_escaped_85 : decode cX3_escaped 85 = .ok (.bipush 12, 2) := by decide +kernel
theorem dX3_escaped_87 : decode cX3_escaped 87 = .ok (.ireturn, 1) := by decide +kernel
theorem dX3_escaped_88 : decode cX3_escaped 88 = .ok (.bipush 13, 2) := by decide +kernel
theorem dX3_escaped_90 : decode cX3_escaped 90 = .ok (.ireturn, 1) := by decide +kernel
theorem dX3_escaped_91 : decode cX3_escaped 91 = .ok (.iload_n 0, 1) := by decide +kernel
theorem dX3_escaped_92 : decode cX3_escaped 92 = .ok (.ireturn, 1) := by decide +kernel
theorem dX3_escaped_93 : decode cX3_escaped 93 = .ok (.iconst (-1), 1) := by decide +kernel
theorem dX3_escaped_94 : decode cX3_escaped 94 = .ok (.ireturn, 1) := by decide +kernel
set_option maxRecDepth 20000 in
theorem ggX4_init_X1_init : GoodIn wsX4_init wsX1_init := goodIn_r _ [24, 25, 2, 3] rfl (by decide +kernel)
set_option maxRecDepth 20000 in
theorem gX4_init_X1_init_n21 : GoodIn wsX4_init (wsX1_init) := ggX4_init_X1_init
set_option maxRecDepth 20000 in
theorem ggX4_init_X7_init : GoodIn wsX4_init wsX7_init := goodIn_r _ [27, 28, 2, 3, 29, 30, 31, 32, 133, 134, 135] rfl (by decide +kernel)
set_option maxRecDepth 20000 in
theorem gX4_init_X7_init_n28 : GoodIn wsX4_init (wsX7_init) := ggX4_init_X7_init
set_option maxRecDepth 20000 in
theorem ggX4_init_X7_addAll : GoodIn wsX4_init wsX7_addAll := goodIn_r _ [36, 32, 37, 30, 38, 39, 40, 41, 42, 43, 44, 45, 46, 47, 48, 49, 50, 51, 52, 53, 54, 55, 56, 57, 58, 59, 60, 61, 62, 63, 64, 65, 66, 67, 68, 69, 70, 71, 72, 73, 74, 75, 76, 77, 78, 79, 80, 81, 82, 83, 84, 85, 86, 87, 88, 89, 12, 90, 133, 134, 135] rfl (by decide +kernel)
set_option maxRecDepth 20000 in
theorem gX4_init_X7_addAll : GoodIn wsX4_init (wsV RX4 35 RX7 yX7_addAll wsX7_addAll) := goodIn_app (goodIn_of _ (by decide +kernel)) ggX4_init_X7_addAll
set_option maxRecDepth 20000 in
theorem ggX4_init_X2_init : GoodIn wsX4_init wsX2_init := goodIn_r _ [93, 94, 2, 3, 95, 96, 97, 98, 99, 100, 101, 102, 103, 104, 105, 106, 107, 31, 108, 109, 110, 111, 112, 113, 114, 115, 136, 137, 138, 139, 140, 141, 142, 143, 147, 148, 149, 150, 151] rfl (by decide +kernel)
set_option maxRecDepth 20000 in
theorem gX4_init_X2_init : GoodIn wsX4_init (wsX2_init) := ggX4_init_X2_init
set_option maxRecDepth 20000 in
theorem ggX4_init_X3_init : GoodIn wsX4_init wsX3_init := goodIn_r _ [118, 119, 2, 3, 120, 121, 144, 145, 146] rfl (by decide +kernel)
set_option maxRecDepth 20000 in
theorem gX4_init_X3_init : GoodIn wsX4_init (wsX3_init) := ggX4_init_X3_init
theorem dX4_init_0 : decode cX4_init 0 = .ok (.aload_n 0, 1) := by decide +kernel
theorem dX4_init_1 : decode cX4_init 1 = .ok (.invokespecial 3, 3) := by decide +kernel
theorem dX4_init_4 : decode cX4_init 4 = .ok (.aload_n 0, 1) := by decide +kernel
theorem dX4_init_5 : decode cX4_init 5 = .ok (.aload_n 1, 1) := by decide +kernel
theorem dX4_init_6 : decode cX4_init 6 = .ok (.putfield 9, 3) := by decide +kernel
theorem dX4_init_9 : decode cX4_init 9 = .ok (.aload_n 0, 1) := by decide +kernel
theorem dX4_init_10 : decode cX4_init 10 = .ok (.aload_n 2, 1) := by decide +kernel
theorem dX4_init_11 : decode cX4_init 11 = .ok (.putfield 15, 3) := by decide +kernel
theorem dX4_init_14 : decode cX4_init 14 = .ok (.aload_n 0, 1) := by decide +kernel
theorem dX4_init_15 : decode cX4_init 15 = .ok (.new 19, 3) := by decide +kernel
theorem dX4_init_18 : decode cX4_init 18 = .ok (.dup, 1) := by decide +kernel
theorem dX4_init_19 : decode cX4_init 19 = .ok (.invokespecial 21, 3) := by decide +kernel
