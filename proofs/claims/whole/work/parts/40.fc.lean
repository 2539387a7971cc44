theorem wd_492 : Cond.fieldLink "PoetFines" 13 "PoetFines" "taped" "I" ∈ kG := kG_of kch2 141 rfl rfl
theorem wd_491 : Cond.fieldLink "PoetFines" 9 "PoetFines" "tape" "[B" ∈ kG := kG_of kch2 140 rfl rfl
theorem wd_532 : Cond.methodLink "PoetFines" 85 ⟨"PoetFines", "putBytes", "(I)V"⟩ ∈ kG := kG_of kch2 181 rfl rfl
theorem wd_112 : Cond.initialized "PoetFines" ∈ kG := kG_of kch1 1 rfl rfl
theorem wd_535 : Cond.code ⟨"PoetFines", "putBytes", "(I)V"⟩ prog_1_method_40_code 3 none ∈ kG := kG_of kch2 184 rfl rfl
theorem wd_534 : Cond.instanceMethod ⟨"PoetFines", "putBytes", "(I)V"⟩ ∈ kG := kG_of kch2 183 rfl rfl
theorem wd_0 : Cond.selects "PoetFines" ⟨"PoetFines", "putBytes", "(I)V"⟩ ⟨"PoetFines", "putBytes", "(I)V"⟩ ∈ kG := kG_of kch0 0 rfl rfl
theorem wd_687 : Cond.classLink "PoetFines" 89 "java/lang/IllegalArgumentException" ∈ kG := kG_of kch3 96 rfl rfl
theorem wd_127 : Cond.initialized "java/lang/IllegalArgumentException" ∈ kG := kG_of kch1 16 rfl rfl
theorem wd_496 : Cond.fieldLink "PoetFines" 36 "PoetFines" "parser" "LPoetFines$Parser;" ∈ kG := kG_of kch2 145 rfl rfl
theorem wd_277 : Cond.fieldLink "PoetFines$Parser" 29 "PoetFines$Parser" "found" "I" ∈ kG := kG_of kch1 166 rfl rfl
theorem wd_275 : Cond.fieldLink "PoetFines$Parser" 25 "PoetFines$Parser" "faultAt" "I" ∈ kG := kG_of kch1 164 rfl rfl
theorem wd_271 : Cond.fieldLink "PoetFines$Parser" 12 "PoetFines$Parser" "law" "LPoetFines$Law;" ∈ kG := kG_of kch1 160 rfl rfl
theorem wd_178 : Cond.fieldLink "PoetFines$Law" 11 "PoetFines$Law" "topics" "I" ∈ kG := kG_of kch1 67 rfl rfl
theorem wd_182 : Cond.fieldLink "PoetFines$Law" 15 "PoetFines$Law" "people" "I" ∈ kG := kG_of kch1 71 rfl rfl
theorem wd_188 : Cond.fieldLink "PoetFines$Law" 18 "PoetFines$Law" "poets" "I" ∈ kG := kG_of kch1 77 rfl rfl
theorem wd_194 : Cond.fieldLink "PoetFines$Law" 21 "PoetFines$Law" "lines" "[I" ∈ kG := kG_of kch1 83 rfl rfl
theorem wd_201 : Cond.fieldLink "PoetFines$Law" 34 "PoetFines$Law" "rules" "LPoetFines$Rules;" ∈ kG := kG_of kch1 90 rfl rfl
theorem wd_161 : Cond.fieldLink "PoetFines$Rules" 15 "PoetFines$Rules" "written" "I" ∈ kG := kG_of kch1 50 rfl rfl
theorem wd_162 : Cond.fieldLink "PoetFines$Rules" 19 "PoetFines$Rules" "from" "[I" ∈ kG := kG_of kch1 51 rfl rfl
theorem wd_163 : Cond.fieldLink "PoetFines$Rules" 22 "PoetFines$Rules" "to" "[I" ∈ kG := kG_of kch1 52 rfl rfl
theorem wd_761 : Cond.methodLink "PoetFines$Law" 38 ⟨"PoetFines$Rules", "clear", "()V"⟩ ∈ kG := kG_of kch3 170 rfl rfl
theorem wd_114 : Cond.initialized "PoetFines$Rules" ∈ kG := kG_of kch1 3 rfl rfl
theorem wd_764 : Cond.code ⟨"PoetFines$Rules", "clear", "()V"⟩ prog_7_method_2_code 2 none ∈ kG := kG_of kch3 173 rfl rfl
theorem wd_762 : Cond.instanceMethod ⟨"PoetFines$Rules", "clear", "()V"⟩ ∈ kG := kG_of kch3 171 rfl rfl
theorem wd_763 : Cond.selects "PoetFines$Rules" ⟨"PoetFines$Rules", "clear", "()V"⟩ ⟨"PoetFines$Rules", "clear", "()V"⟩ ∈ kG := kG_of kch3 172 rfl rfl
theorem wd_273 : Cond.fieldLink "PoetFines$Parser" 21 "PoetFines$Parser" "world" "LPoetFines$World;" ∈ kG := kG_of kch1 162 rfl rfl
theorem wd_233 : Cond.fieldLink "PoetFines$World" 11 "PoetFines$World" "cells" "[I" ∈ kG := kG_of kch1 122 rfl rfl
theorem wd_279 : Cond.fieldLink "PoetFines$Parser" 40 "PoetFines$Parser" "tokens" "LPoetFines$Tokens;" ∈ kG := kG_of kch1 168 rfl rfl
theorem wd_773 : Cond.methodLink "PoetFines$Tokens" 35 ⟨"java/lang/Math", "min", "(II)I"⟩ ∈ kG := kG_of kch3 182 rfl rfl
theorem wd_607 : Cond.static ⟨"java/lang/Math", "min", "(II)I"⟩ ∈ kG := kG_of kch3 16 rfl rfl
theorem wd_128 : Cond.initialized "java/lang/Math" ∈ kG := kG_of kch1 17 rfl rfl
theorem wd_254 : Cond.fieldLink "PoetFines$Tokens" 24 "PoetFines$Tokens" "many" "I" ∈ kG := kG_of kch1 143 rfl rfl
theorem wd_255 : Cond.fieldLink "PoetFines$Tokens" 28 "PoetFines$Tokens" "at" "I" ∈ kG := kG_of kch1 144 rfl rfl
theorem wd_249 : Cond.fieldLink "PoetFines$Tokens" 31 "PoetFines$Tokens" "tape" "[B" ∈ kG := kG_of kch1 138 rfl rfl
theorem wd_781 : Cond.methodLink "PoetFines$Tokens" 62 ⟨"PoetFines$Tokens", "isDigit", "(B)Z"⟩ ∈ kG := kG_of kch3 190 rfl rfl
theorem wd_117 : Cond.initialized "PoetFines$Tokens" ∈ kG := kG_of kch1 6 rfl rfl
theorem wd_783 : Cond.code ⟨"PoetFines$Tokens", "isDigit", "(B)Z"⟩ prog_10_method_16_code 1 (some .boolean) ∈ kG := kG_of kch3 192 rfl rfl
theorem wd_782 : Cond.static ⟨"PoetFines$Tokens", "isDigit", "(B)Z"⟩ ∈ kG := kG_of kch3 191 rfl rfl
theorem wd_778 : Cond.methodLink "PoetFines$Tokens" 58 ⟨"PoetFines$Tokens", "isLetter", "(B)Z"⟩ ∈ kG := kG_of kch3 187 rfl rfl
theorem wd_780 : Cond.code ⟨"PoetFines$Tokens", "isLetter", "(B)Z"⟩ prog_10_method_15_code 1 (some .boolean) ∈ kG := kG_of kch3 189 rfl rfl
theorem wd_779 : Cond.static ⟨"PoetFines$Tokens", "isLetter", "(B)Z"⟩ ∈ kG := kG_of kch3 188 rfl rfl
theorem wd_251 : Cond.fieldLink "PoetFines$Tokens" 15 "PoetFines$Tokens" "starts" "[I" ∈ kG := kG_of kch1 140 rfl rfl
theorem wd_252 : Cond.fieldLink "PoetFines$Tokens" 18 "PoetFines$Tokens" "lengths" "[I" ∈ kG := kG_of kch1 141 rfl rfl
theorem wd_250 : Cond.fieldLink "PoetFines$Tokens" 9 "PoetFines$Tokens" "kinds" "[I" ∈ kG := kG_of kch1 139 rfl rfl
theorem wd_806 : Cond.fieldLink "java/lang/String" 38 "java/lang/String" "COMPACT_STRINGS" "Z" ∈ kG := kG_of kch3 215 rfl rfl
theorem wd_2221 : Cond.fieldLink "java/lang/String" 15 "java/lang/String" "coder" "B" ∈ kG := kG_of kch9 190 rfl rfl
theorem wd_2220 : Cond.fieldLink "java/lang/String" 9 "java/lang/String" "value" "[B" ∈ kG := kG_of kch9 189 rfl rfl
theorem wd_802 : Cond.methodLink "java/lang/String" 335 ⟨"java/lang/String", "coder", "()B"⟩ ∈ kG := kG_of kch3 211 rfl rfl
theorem wd_131 : Cond.initialized "java/lang/String" ∈ kG := kG_of kch1 20 rfl rfl
theorem wd_805 : Cond.code ⟨"java/lang/String", "coder", "()B"⟩ prog_26_method_152_code 1 (some .byte) ∈ kG := kG_of kch3 214 rfl rfl
theorem wd_803 : Cond.instanceMethod ⟨"java/lang/String", "coder", "()B"⟩ ∈ kG := kG_of kch3 212 rfl rfl
theorem wd_804 : Cond.selects "java/lang/String" ⟨"java/lang/String", "coder", "()B"⟩ ⟨"java/lang/String", "coder", "()B"⟩ ∈ kG := kG_of kch3 213 rfl rfl
theorem wd_859 : Cond.methodLink "java/lang/String" 505 ⟨"java/lang/String", "length", "()I"⟩ ∈ kG := kG_of kch4 28 rfl rfl
theorem wd_801 : Cond.code ⟨"java/lang/String", "length", "()I"⟩ prog_26_method_54_code 1 (some .int) ∈ kG := kG_of kch3 210 rfl rfl
theorem wd_799 : Cond.instanceMethod ⟨"java/lang/String", "length", "()I"⟩ ∈ kG := kG_of kch3 208 rfl rfl
theorem wd_800 : Cond.selects "java/lang/String" ⟨"java/lang/String", "length", "()I"⟩ ⟨"java/lang/String", "length", "()I"⟩ ∈ kG := kG_of kch3 209 rfl rfl
theorem wd_866 : Cond.methodLink "java/lang/StringLatin1" 92 ⟨"java/lang/Math", "max", "(II)I"⟩ ∈ kG := kG_of kch4 35 rfl rfl
theorem wd_621 : Cond.static ⟨"java/lang/Math", "max", "(II)I"⟩ ∈ kG := kG_of kch3 30 rfl rfl
theorem wd_867 : Cond.methodLink "java/lang/StringLatin1" 38 ⟨"java/lang/Math", "min", "(II)I"⟩ ∈ kG := kG_of kch4 36 rfl rfl
theorem wd_868 : Cond.methodLink "java/lang/StringLatin1" 95 ⟨"java/lang/StringLatin1", "indexOfChar", "([BIII)I"⟩ ∈ kG := kG_of kch4 37 rfl rfl
theorem wd_132 : Cond.initialized "java/lang/StringLatin1" ∈ kG := kG_of kch1 21 rfl rfl
theorem wd_870 : Cond.code ⟨"java/lang/StringLatin1", "indexOfChar", "([BIII)I"⟩ prog_27_method_23_code 6 (some .int) ∈ kG := kG_of kch4 39 rfl rfl
theorem wd_869 : Cond.static ⟨"java/lang/StringLatin1", "indexOfChar", "([BIII)I"⟩ ∈ kG := kG_of kch4 38 rfl rfl
theorem wd_863 : Cond.methodLink "java/lang/StringLatin1" 88 ⟨"java/lang/StringLatin1", "canEncode", "(I)Z"⟩ ∈ kG := kG_of kch4 32 rfl rfl
theorem wd_865 : Cond.code ⟨"java/lang/StringLatin1", "canEncode", "(I)Z"⟩ prog_27_method_4_code 1 (some .boolean) ∈ kG := kG_of kch4 34 rfl rfl
theorem wd_864 : Cond.static ⟨"java/lang/StringLatin1", "canEncode", "(I)Z"⟩ ∈ kG := kG_of kch4 33 rfl rfl
theorem wd_860 : Cond.methodLink "java/lang/String" 637 ⟨"java/lang/StringLatin1", "indexOf", "([BIII)I"⟩ ∈ kG := kG_of kch4 29 rfl rfl
theorem wd_862 : Cond.code ⟨"java/lang/StringLatin1", "indexOf", "([BIII)I"⟩ prog_27_method_22_code 4 (some .int) ∈ kG := kG_of kch4 31 rfl rfl
theorem wd_861 : Cond.static ⟨"java/lang/StringLatin1", "indexOf", "([BIII)I"⟩ ∈ kG := kG_of kch4 30 rfl rfl
theorem wd_812 : Cond.methodLink "java/lang/String" 492 ⟨"java/lang/String", "isLatin1", "()Z"⟩ ∈ kG := kG_of kch3 221 rfl rfl
theorem wd_815 : Cond.code ⟨"java/lang/String", "isLatin1", "()Z"⟩ prog_26_method_154_code 1 (some .boolean) ∈ kG := kG_of kch3 224 rfl rfl
theorem wd_813 : Cond.instanceMethod ⟨"java/lang/String", "isLatin1", "()Z"⟩ ∈ kG := kG_of kch3 222 rfl rfl
theorem wd_814 : Cond.selects "java/lang/String" ⟨"java/lang/String", "isLatin1", "()Z"⟩ ⟨"java/lang/String", "isLatin1", "()Z"⟩ ∈ kG := kG_of kch3 223 rfl rfl
theorem wd_855 : Cond.methodLink "java/lang/String" 633 ⟨"java/lang/String", "indexOf", "(II)I"⟩ ∈ kG := kG_of kch4 24 rfl rfl
theorem wd_858 : Cond.code ⟨"java/lang/String", "indexOf", "(II)I"⟩ prog_26_method_80_code 3 (some .int) ∈ kG := kG_of kch4 27 rfl rfl
theorem wd_856 : Cond.instanceMethod ⟨"java/lang/String", "indexOf", "(II)I"⟩ ∈ kG := kG_of kch4 25 rfl rfl
theorem wd_857 : Cond.selects "java/lang/String" ⟨"java/lang/String", "indexOf", "(II)I"⟩ ⟨"java/lang/String", "indexOf", "(II)I"⟩ ∈ kG := kG_of kch4 26 rfl rfl
theorem wd_253 : Cond.fieldLink "PoetFines$Tokens" 21 "PoetFines$Tokens" "meanings" "[I" ∈ kG := kG_of kch1 142 rfl rfl
theorem wd_851 : Cond.methodLink "PoetFines$Tokens" 74 ⟨"java/lang/String", "indexOf", "(I)I"⟩ ∈ kG := kG_of kch4 20 rfl rfl
theorem wd_854 : Cond.code ⟨"java/lang/String", "indexOf", "(I)I"⟩ prog_26_method_79_code 2 (some .int) ∈ kG := kG_of kch4 23 rfl rfl
theorem wd_852 : Cond.instanceMethod ⟨"java/lang/String", "indexOf", "(I)I"⟩ ∈ kG := kG_of kch4 21 rfl rfl
theorem wd_853 : Cond.selects "java/lang/String" ⟨"java/lang/String", "indexOf", "(I)I"⟩ ⟨"java/lang/String", "indexOf", "(I)I"⟩ ∈ kG := kG_of kch4 22 rfl rfl
theorem wd_846 : Cond.methodLink "PoetFines$Tokens" 69 ⟨"PoetFines$Tokens", "valueOf", "(II)I"⟩ ∈ kG := kG_of kch4 15 rfl rfl
theorem wd_849 : Cond.code ⟨"PoetFines$Tokens", "valueOf", "(II)I"⟩ prog_10_method_14_code 5 (some .int) ∈ kG := kG_of kch4 18 rfl rfl
theorem wd_848 : Cond.instanceMethod ⟨"PoetFines$Tokens", "valueOf", "(II)I"⟩ ∈ kG := kG_of kch4 17 rfl rfl
theorem wd_12 : Cond.selects "PoetFines$Tokens" ⟨"PoetFines$Tokens", "valueOf", "(II)I"⟩ ⟨"PoetFines$Tokens", "valueOf", "(II)I"⟩ ∈ kG := kG_of kch0 12 rfl rfl
theorem wd_791 : Cond.fieldLink "PoetFines$Word" 90 "PoetFines$Word" "ALL" "[LPoetFines$Word;" ∈ kG := kG_of kch3 200 rfl rfl
theorem wd_2219 : Cond.fieldLink "PoetFines$Word" 79 "PoetFines$Word" "text" "Ljava/lang/String;" ∈ kG := kG_of kch9 188 rfl rfl
theorem wd_822 : Cond.fieldLink "java/lang/String" 1053 "jdk/internal/util/Preconditions" "SIOOBE_FORMATTER" "Ljava/util/function/BiFunction;" ∈ kG := kG_of kch3 231 rfl rfl
theorem wd_824 : Cond.methodLink "java/lang/String" 1059 ⟨"jdk/internal/util/Preconditions", "checkIndex", "(IILjava/util/function/BiFunction;)I"⟩ ∈ kG := kG_of kch3 233 rfl rfl
theorem wd_133 : Cond.initialized "jdk/internal/util/Preconditions" ∈ kG := kG_of kch1 22 rfl rfl
theorem wd_826 : Cond.code ⟨"jdk/internal/util/Preconditions", "checkIndex", "(IILjava/util/function/BiFunction;)I"⟩ prog_34_method_11_code 3 (some .int) ∈ kG := kG_of kch3 235 rfl rfl
theorem wd_825 : Cond.static ⟨"jdk/internal/util/Preconditions", "checkIndex", "(IILjava/util/function/BiFunction;)I"⟩ ∈ kG := kG_of kch3 234 rfl rfl
theorem wd_819 : Cond.methodLink "java/lang/StringLatin1" 9 ⟨"java/lang/String", "checkIndex", "(II)V"⟩ ∈ kG := kG_of kch3 228 rfl rfl
theorem wd_821 : Cond.code ⟨"java/lang/String", "checkIndex", "(II)V"⟩ prog_26_method_155_code 2 none ∈ kG := kG_of kch3 230 rfl rfl
theorem wd_820 : Cond.static ⟨"java/lang/String", "checkIndex", "(II)V"⟩ ∈ kG := kG_of kch3 229 rfl rfl
theorem wd_816 : Cond.methodLink "java/lang/String" 495 ⟨"java/lang/StringLatin1", "charAt", "([BI)C"⟩ ∈ kG := kG_of kch3 225 rfl rfl
theorem wd_818 : Cond.code ⟨"java/lang/StringLatin1", "charAt", "([BI)C"⟩ prog_27_method_2_code 2 (some .char) ∈ kG := kG_of kch3 227 rfl rfl
theorem wd_817 : Cond.static ⟨"java/lang/StringLatin1", "charAt", "([BI)C"⟩ ∈ kG := kG_of kch3 226 rfl rfl
theorem wd_808 : Cond.methodLink "PoetFines$Word" 103 ⟨"java/lang/String", "charAt", "(I)C"⟩ ∈ kG := kG_of kch3 217 rfl rfl
theorem wd_811 : Cond.code ⟨"java/lang/String", "charAt", "(I)C"⟩ prog_26_method_56_code 2 (some .char) ∈ kG := kG_of kch3 220 rfl rfl
theorem wd_809 : Cond.instanceMethod ⟨"java/lang/String", "charAt", "(I)C"⟩ ∈ kG := kG_of kch3 218 rfl rfl
theorem wd_810 : Cond.selects "java/lang/String" ⟨"java/lang/String", "charAt", "(I)C"⟩ ⟨"java/lang/String", "charAt", "(I)C"⟩ ∈ kG := kG_of kch3 219 rfl rfl
theorem wd_798 : Cond.methodLink "PoetFines$Word" 97 ⟨"java/lang/String", "length", "()I"⟩ ∈ kG := kG_of kch3 207 rfl rfl
theorem wd_793 : Cond.methodLink "PoetFines$Word" 93 ⟨"PoetFines$Word", "isSpelt", "([BII)Z"⟩ ∈ kG := kG_of kch3 202 rfl rfl
theorem wd_130 : Cond.initialized "PoetFines$Word" ∈ kG := kG_of kch1 19 rfl rfl
theorem wd_797 : Cond.code ⟨"PoetFines$Word", "isSpelt", "([BII)Z"⟩ prog_11_method_6_code 5 (some .boolean) ∈ kG := kG_of kch3 206 rfl rfl
theorem wd_795 : Cond.instanceMethod ⟨"PoetFines$Word", "isSpelt", "([BII)Z"⟩ ∈ kG := kG_of kch3 204 rfl rfl
theorem wd_11 : Cond.selects "PoetFines$Word" ⟨"PoetFines$Word", "isSpelt", "([BII)Z"⟩ ⟨"PoetFines$Word", "isSpelt", "([BII)Z"⟩ ∈ kG := kG_of kch0 11 rfl rfl
theorem wd_788 : Cond.methodLink "PoetFines$Tokens" 65 ⟨"PoetFines$Word", "spelt", "([BII)I"⟩ ∈ kG := kG_of kch3 197 rfl rfl
theorem wd_790 : Cond.code ⟨"PoetFines$Word", "spelt", "([BII)I"⟩ prog_11_method_5_code 4 (some .int) ∈ kG := kG_of kch3 199 rfl rfl
theorem wd_789 : Cond.static ⟨"PoetFines$Word", "spelt", "([BII)I"⟩ ∈ kG := kG_of kch3 198 rfl rfl
theorem wd_784 : Cond.methodLink "PoetFines$Tokens" 44 ⟨"PoetFines$Tokens", "addToken", "(II)V"⟩ ∈ kG := kG_of kch3 193 rfl rfl
theorem wd_787 : Cond.code ⟨"PoetFines$Tokens", "addToken", "(II)V"⟩ prog_10_method_13_code 4 none ∈ kG := kG_of kch3 196 rfl rfl
theorem wd_786 : Cond.instanceMethod ⟨"PoetFines$Tokens", "addToken", "(II)V"⟩ ∈ kG := kG_of kch3 195 rfl rfl
theorem wd_10 : Cond.selects "PoetFines$Tokens" ⟨"PoetFines$Tokens", "addToken", "(II)V"⟩ ⟨"PoetFines$Tokens", "addToken", "(II)V"⟩ ∈ kG := kG_of kch0 10 rfl rfl
theorem wd_774 : Cond.methodLink "PoetFines$Tokens" 41 ⟨"PoetFines$Tokens", "endOf", "(II)I"⟩ ∈ kG := kG_of kch3 183 rfl rfl
theorem wd_777 : Cond.code ⟨"PoetFines$Tokens", "endOf", "(II)I"⟩ prog_10_method_12_code 4 (some .int) ∈ kG := kG_of kch3 186 rfl rfl
theorem wd_776 : Cond.instanceMethod ⟨"PoetFines$Tokens", "endOf", "(II)I"⟩ ∈ kG := kG_of kch3 185 rfl rfl
theorem wd_9 : Cond.selects "PoetFines$Tokens" ⟨"PoetFines$Tokens", "endOf", "(II)I"⟩ ⟨"PoetFines$Tokens", "endOf", "(II)I"⟩ ∈ kG := kG_of kch0 9 rfl rfl
theorem wd_906 : Cond.fieldLink "PoetFines$Parser" 52 "PoetFines$Word" "TOPICS" "LPoetFines$Word;" ∈ kG := kG_of kch4 75 rfl rfl
theorem wd_957 : Cond.fieldLink "PoetFines$Tokens" 54 "PoetFines$Word" "UNKNOWN" "LPoetFines$Word;" ∈ kG := kG_of kch4 126 rfl rfl
theorem wd_959 : Cond.fieldLink "PoetFines$Parser" 84 "PoetFines$Word" "PERSON" "LPoetFines$Word;" ∈ kG := kG_of kch4 128 rfl rfl
theorem wd_969 : Cond.fieldLink "PoetFines$Parser" 90 "PoetFines$Word" "POET" "LPoetFines$Word;" ∈ kG := kG_of kch4 138 rfl rfl
theorem wd_991 : Cond.fieldLink "PoetFines$Parser" 96 "PoetFines$Word" "HITS" "LPoetFines$Word;" ∈ kG := kG_of kch4 160 rfl rfl
theorem wd_1048 : Cond.fieldLink "PoetFines$Parser" 104 "PoetFines$Word" "FINES" "LPoetFines$Word;" ∈ kG := kG_of kch4 217 rfl rfl
theorem wd_1050 : Cond.fieldLink "PoetFines$Parser" 107 "PoetFines$Word" "BUYS" "LPoetFines$Word;" ∈ kG := kG_of kch4 219 rfl rfl
theorem wd_933 : Cond.methodLink "PoetFines$Parser" 116 ⟨"PoetFines$Tokens", "stop", "()V"⟩ ∈ kG := kG_of kch4 102 rfl rfl
theorem wd_936 : Cond.code ⟨"PoetFines$Tokens", "stop", "()V"⟩ prog_10_method_11_code 1 none ∈ kG := kG_of kch4 105 rfl rfl
theorem wd_934 : Cond.instanceMethod ⟨"PoetFines$Tokens", "stop", "()V"⟩ ∈ kG := kG_of kch4 103 rfl rfl
theorem wd_935 : Cond.selects "PoetFines$Tokens" ⟨"PoetFines$Tokens", "stop", "()V"⟩ ⟨"PoetFines$Tokens", "stop", "()V"⟩ ∈ kG := kG_of kch4 104 rfl rfl
theorem wd_929 : Cond.methodLink "PoetFines$Parser" 113 ⟨"PoetFines$Tokens", "start", "()I"⟩ ∈ kG := kG_of kch4 98 rfl rfl
theorem wd_932 : Cond.code ⟨"PoetFines$Tokens", "start", "()I"⟩ prog_10_method_4_code 1 (some .int) ∈ kG := kG_of kch4 101 rfl rfl
theorem wd_930 : Cond.instanceMethod ⟨"PoetFines$Tokens", "start", "()I"⟩ ∈ kG := kG_of kch4 99 rfl rfl
theorem wd_931 : Cond.selects "PoetFines$Tokens" ⟨"PoetFines$Tokens", "start", "()I"⟩ ⟨"PoetFines$Tokens", "start", "()I"⟩ ∈ kG := kG_of kch4 100 rfl rfl
theorem wd_925 : Cond.methodLink "PoetFines$Parser" 110 ⟨"PoetFines$Parser", "refuse", "(I)V"⟩ ∈ kG := kG_of kch4 94 rfl rfl
theorem wd_115 : Cond.initialized "PoetFines$Parser" ∈ kG := kG_of kch1 4 rfl rfl
theorem wd_928 : Cond.code ⟨"PoetFines$Parser", "refuse", "(I)V"⟩ prog_6_method_3_code 2 none ∈ kG := kG_of kch4 97 rfl rfl
theorem wd_927 : Cond.instanceMethod ⟨"PoetFines$Parser", "refuse", "(I)V"⟩ ∈ kG := kG_of kch4 96 rfl rfl
theorem wd_14 : Cond.selects "PoetFines$Parser" ⟨"PoetFines$Parser", "refuse", "(I)V"⟩ ⟨"PoetFines$Parser", "refuse", "(I)V"⟩ ∈ kG := kG_of kch0 14 rfl rfl
theorem wd_203 : Cond.fieldLink "PoetFines$Parser" 159 "PoetFines$Law" "rules" "LPoetFines$Rules;" ∈ kG := kG_of kch1 92 rfl rfl
theorem wd_278 : Cond.fieldLink "PoetFines$Parser" 32 "PoetFines$Parser" "rule" "I" ∈ kG := kG_of kch1 167 rfl rfl
theorem wd_1036 : Cond.fieldLink "PoetFines$Parser" 189 "PoetFines$Word" "OR" "LPoetFines$Word;" ∈ kG := kG_of kch4 205 rfl rfl
theorem wd_908 : Cond.methodLink "PoetFines$Parser" 58 ⟨"PoetFines$Tokens", "isWord", "(LPoetFines$Word;)Z"⟩ ∈ kG := kG_of kch4 77 rfl rfl
theorem wd_911 : Cond.code ⟨"PoetFines$Tokens", "isWord", "(LPoetFines$Word;)Z"⟩ prog_10_method_9_code 2 (some .boolean) ∈ kG := kG_of kch4 80 rfl rfl
theorem wd_909 : Cond.instanceMethod ⟨"PoetFines$Tokens", "isWord", "(LPoetFines$Word;)Z"⟩ ∈ kG := kG_of kch4 78 rfl rfl
theorem wd_910 : Cond.selects "PoetFines$Tokens" ⟨"PoetFines$Tokens", "isWord", "(LPoetFines$Word;)Z"⟩ ⟨"PoetFines$Tokens", "isWord", "(LPoetFines$Word;)Z"⟩ ∈ kG := kG_of kch4 79 rfl rfl
theorem wd_1038 : Cond.fieldLink "PoetFines$Parser" 192 "PoetFines$Word" "AND" "LPoetFines$Word;" ∈ kG := kG_of kch4 207 rfl rfl
theorem wd_949 : Cond.methodLink "PoetFines$Parser" 155 ⟨"PoetFines$Tokens", "isSign", "(C)Z"⟩ ∈ kG := kG_of kch4 118 rfl rfl
theorem wd_952 : Cond.code ⟨"PoetFines$Tokens", "isSign", "(C)Z"⟩ prog_10_method_8_code 2 (some .boolean) ∈ kG := kG_of kch4 121 rfl rfl
theorem wd_950 : Cond.instanceMethod ⟨"PoetFines$Tokens", "isSign", "(C)Z"⟩ ∈ kG := kG_of kch4 119 rfl rfl
theorem wd_951 : Cond.selects "PoetFines$Tokens" ⟨"PoetFines$Tokens", "isSign", "(C)Z"⟩ ⟨"PoetFines$Tokens", "isSign", "(C)Z"⟩ ∈ kG := kG_of kch4 120 rfl rfl
theorem wd_1040 : Cond.methodLink "PoetFines$Parser" 195 ⟨"PoetFines$Parser", "oneOf", "(CICI)I"⟩ ∈ kG := kG_of kch4 209 rfl rfl
theorem wd_1043 : Cond.code ⟨"PoetFines$Parser", "oneOf", "(CICI)I"⟩ prog_6_method_13_code 5 (some .int) ∈ kG := kG_of kch4 212 rfl rfl
theorem wd_1042 : Cond.instanceMethod ⟨"PoetFines$Parser", "oneOf", "(CICI)I"⟩ ∈ kG := kG_of kch4 211 rfl rfl
theorem wd_27 : Cond.selects "PoetFines$Parser" ⟨"PoetFines$Parser", "oneOf", "(CICI)I"⟩ ⟨"PoetFines$Parser", "oneOf", "(CICI)I"⟩ ∈ kG := kG_of kch0 27 rfl rfl
theorem wd_160 : Cond.fieldLink "PoetFines$Rules" 11 "PoetFines$Rules" "code" "[I" ∈ kG := kG_of kch1 49 rfl rfl
theorem wd_1010 : Cond.methodLink "PoetFines$Parser" 186 ⟨"PoetFines$Rules", "emit", "(I)V"⟩ ∈ kG := kG_of kch4 179 rfl rfl
theorem wd_1013 : Cond.code ⟨"PoetFines$Rules", "emit", "(I)V"⟩ prog_7_method_7_code 2 none ∈ kG := kG_of kch4 182 rfl rfl
theorem wd_1011 : Cond.instanceMethod ⟨"PoetFines$Rules", "emit", "(I)V"⟩ ∈ kG := kG_of kch4 180 rfl rfl
theorem wd_1012 : Cond.selects "PoetFines$Rules" ⟨"PoetFines$Rules", "emit", "(I)V"⟩ ⟨"PoetFines$Rules", "emit", "(I)V"⟩ ∈ kG := kG_of kch4 181 rfl rfl
theorem wd_1002 : Cond.methodLink "PoetFines$Parser" 170 ⟨"PoetFines$Parser", "takeLevel", "(II)V"⟩ ∈ kG := kG_of kch4 171 rfl rfl
theorem wd_1005 : Cond.code ⟨"PoetFines$Parser", "takeLevel", "(II)V"⟩ prog_6_method_11_code 7 none ∈ kG := kG_of kch4 174 rfl rfl
theorem wd_1004 : Cond.instanceMethod ⟨"PoetFines$Parser", "takeLevel", "(II)V"⟩ ∈ kG := kG_of kch4 173 rfl rfl
theorem wd_21 : Cond.selects "PoetFines$Parser" ⟨"PoetFines$Parser", "takeLevel", "(II)V"⟩ ⟨"PoetFines$Parser", "takeLevel", "(II)V"⟩ ∈ kG := kG_of kch0 21 rfl rfl
theorem wd_913 : Cond.methodLink "PoetFines$Parser" 62 ⟨"PoetFines$Tokens", "advance", "()V"⟩ ∈ kG := kG_of kch4 82 rfl rfl
theorem wd_916 : Cond.code ⟨"PoetFines$Tokens", "advance", "()V"⟩ prog_10_method_10_code 1 none ∈ kG := kG_of kch4 85 rfl rfl
theorem wd_914 : Cond.instanceMethod ⟨"PoetFines$Tokens", "advance", "()V"⟩ ∈ kG := kG_of kch4 83 rfl rfl
theorem wd_915 : Cond.selects "PoetFines$Tokens" ⟨"PoetFines$Tokens", "advance", "()V"⟩ ⟨"PoetFines$Tokens", "advance", "()V"⟩ ∈ kG := kG_of kch4 84 rfl rfl
theorem wd_1032 : Cond.methodLink "PoetFines$Parser" 182 ⟨"PoetFines$Parser", "operatorOf", "(I)I"⟩ ∈ kG := kG_of kch4 201 rfl rfl
theorem wd_1035 : Cond.code ⟨"PoetFines$Parser", "operatorOf", "(I)I"⟩ prog_6_method_12_code 2 (some .int) ∈ kG := kG_of kch4 204 rfl rfl
theorem wd_1034 : Cond.instanceMethod ⟨"PoetFines$Parser", "operatorOf", "(I)I"⟩ ∈ kG := kG_of kch4 203 rfl rfl
theorem wd_26 : Cond.selects "PoetFines$Parser" ⟨"PoetFines$Parser", "operatorOf", "(I)I"⟩ ⟨"PoetFines$Parser", "operatorOf", "(I)I"⟩ ∈ kG := kG_of kch0 26 rfl rfl
theorem wd_1030 : Cond.fieldLink "PoetFines$Parser" 199 "PoetFines$Word" "NOT" "LPoetFines$Word;" ∈ kG := kG_of kch4 199 rfl rfl
theorem wd_1026 : Cond.methodLink "PoetFines$Parser" 179 ⟨"PoetFines$Parser", "takeNots", "()I"⟩ ∈ kG := kG_of kch4 195 rfl rfl
theorem wd_1029 : Cond.code ⟨"PoetFines$Parser", "takeNots", "()I"⟩ prog_6_method_14_code 3 (some .int) ∈ kG := kG_of kch4 198 rfl rfl
theorem wd_1028 : Cond.instanceMethod ⟨"PoetFines$Parser", "takeNots", "()I"⟩ ∈ kG := kG_of kch4 197 rfl rfl
theorem wd_25 : Cond.selects "PoetFines$Parser" ⟨"PoetFines$Parser", "takeNots", "()I"⟩ ⟨"PoetFines$Parser", "takeNots", "()I"⟩ ∈ kG := kG_of kch0 25 rfl rfl
theorem wd_1006 : Cond.methodLink "PoetFines$Parser" 176 ⟨"PoetFines$Parser", "takePart", "(I)V"⟩ ∈ kG := kG_of kch4 175 rfl rfl
theorem wd_1009 : Cond.code ⟨"PoetFines$Parser", "takePart", "(I)V"⟩ prog_6_method_15_code 2 none ∈ kG := kG_of kch4 178 rfl rfl
theorem wd_1008 : Cond.instanceMethod ⟨"PoetFines$Parser", "takePart", "(I)V"⟩ ∈ kG := kG_of kch4 177 rfl rfl
theorem wd_22 : Cond.selects "PoetFines$Parser" ⟨"PoetFines$Parser", "takePart", "(I)V"⟩ ⟨"PoetFines$Parser", "takePart", "(I)V"⟩ ∈ kG := kG_of kch0 22 rfl rfl
theorem wd_921 : Cond.methodLink "PoetFines$Parser" 76 ⟨"PoetFines$Tokens", "kind", "()I"⟩ ∈ kG := kG_of kch4 90 rfl rfl
theorem wd_924 : Cond.code ⟨"PoetFines$Tokens", "kind", "()I"⟩ prog_10_method_3_code 1 (some .int) ∈ kG := kG_of kch4 93 rfl rfl
theorem wd_922 : Cond.instanceMethod ⟨"PoetFines$Tokens", "kind", "()I"⟩ ∈ kG := kG_of kch4 91 rfl rfl
theorem wd_923 : Cond.selects "PoetFines$Tokens" ⟨"PoetFines$Tokens", "kind", "()I"⟩ ⟨"PoetFines$Tokens", "kind", "()I"⟩ ∈ kG := kG_of kch4 92 rfl rfl
theorem wd_945 : Cond.methodLink "PoetFines$Parser" 72 ⟨"PoetFines$Parser", "takeSign", "(C)V"⟩ ∈ kG := kG_of kch4 114 rfl rfl
theorem wd_948 : Cond.code ⟨"PoetFines$Parser", "takeSign", "(C)V"⟩ prog_6_method_9_code 2 none ∈ kG := kG_of kch4 117 rfl rfl
theorem wd_947 : Cond.instanceMethod ⟨"PoetFines$Parser", "takeSign", "(C)V"⟩ ∈ kG := kG_of kch4 116 rfl rfl
theorem wd_15 : Cond.selects "PoetFines$Parser" ⟨"PoetFines$Parser", "takeSign", "(C)V"⟩ ⟨"PoetFines$Parser", "takeSign", "(C)V"⟩ ∈ kG := kG_of kch0 15 rfl rfl
theorem wd_1022 : Cond.methodLink "PoetFines$Parser" 205 ⟨"PoetFines$Parser", "couldBePart", "()Z"⟩ ∈ kG := kG_of kch4 191 rfl rfl
theorem wd_1025 : Cond.code ⟨"PoetFines$Parser", "couldBePart", "()Z"⟩ prog_6_method_16_code 1 (some .boolean) ∈ kG := kG_of kch4 194 rfl rfl
theorem wd_1024 : Cond.instanceMethod ⟨"PoetFines$Parser", "couldBePart", "()Z"⟩ ∈ kG := kG_of kch4 193 rfl rfl
theorem wd_24 : Cond.selects "PoetFines$Parser" ⟨"PoetFines$Parser", "couldBePart", "()Z"⟩ ⟨"PoetFines$Parser", "couldBePart", "()Z"⟩ ∈ kG := kG_of kch0 24 rfl rfl
theorem wd_2222 : Cond.fieldLink "PoetFines$Word" 87 "PoetFines$Word" "rules" "I" ∈ kG := kG_of kch9 191 rfl rfl
theorem wd_2223 : Cond.fieldLink "PoetFines$Parser" 212 "PoetFines$Word" "place" "I" ∈ kG := kG_of kch9 192 rfl rfl
theorem wd_1018 : Cond.methodLink "PoetFines$Parser" 209 ⟨"PoetFines$Word", "isValueOf", "(I)Z"⟩ ∈ kG := kG_of kch4 187 rfl rfl
theorem wd_1021 : Cond.code ⟨"PoetFines$Word", "isValueOf", "(I)Z"⟩ prog_11_method_4_code 2 (some .boolean) ∈ kG := kG_of kch4 190 rfl rfl
theorem wd_1019 : Cond.instanceMethod ⟨"PoetFines$Word", "isValueOf", "(I)Z"⟩ ∈ kG := kG_of kch4 188 rfl rfl
theorem wd_1020 : Cond.selects "PoetFines$Word" ⟨"PoetFines$Word", "isValueOf", "(I)Z"⟩ ⟨"PoetFines$Word", "isValueOf", "(I)Z"⟩ ∈ kG := kG_of kch4 189 rfl rfl
theorem wd_953 : Cond.methodLink "PoetFines$Parser" 80 ⟨"PoetFines$Tokens", "word", "()LPoetFines$Word;"⟩ ∈ kG := kG_of kch4 122 rfl rfl
theorem wd_956 : Cond.code ⟨"PoetFines$Tokens", "word", "()LPoetFines$Word;"⟩ prog_10_method_7_code 1 (some (.object "PoetFines$Word")) ∈ kG := kG_of kch4 125 rfl rfl
theorem wd_954 : Cond.instanceMethod ⟨"PoetFines$Tokens", "word", "()LPoetFines$Word;"⟩ ∈ kG := kG_of kch4 123 rfl rfl
theorem wd_955 : Cond.selects "PoetFines$Tokens" ⟨"PoetFines$Tokens", "word", "()LPoetFines$Word;"⟩ ⟨"PoetFines$Tokens", "word", "()LPoetFines$Word;"⟩ ∈ kG := kG_of kch4 124 rfl rfl
theorem wd_1014 : Cond.methodLink "PoetFines$Parser" 202 ⟨"PoetFines$Parser", "takeValue", "()V"⟩ ∈ kG := kG_of kch4 183 rfl rfl
theorem wd_1017 : Cond.code ⟨"PoetFines$Parser", "takeValue", "()V"⟩ prog_6_method_17_code 2 none ∈ kG := kG_of kch4 186 rfl rfl
theorem wd_1016 : Cond.instanceMethod ⟨"PoetFines$Parser", "takeValue", "()V"⟩ ∈ kG := kG_of kch4 185 rfl rfl
theorem wd_23 : Cond.selects "PoetFines$Parser" ⟨"PoetFines$Parser", "takeValue", "()V"⟩ ⟨"PoetFines$Parser", "takeValue", "()V"⟩ ∈ kG := kG_of kch0 23 rfl rfl
theorem wd_941 : Cond.methodLink "PoetFines$Parser" 149 ⟨"PoetFines$Tokens", "length", "()I"⟩ ∈ kG := kG_of kch4 110 rfl rfl
theorem wd_944 : Cond.code ⟨"PoetFines$Tokens", "length", "()I"⟩ prog_10_method_5_code 1 (some .int) ∈ kG := kG_of kch4 113 rfl rfl
theorem wd_942 : Cond.instanceMethod ⟨"PoetFines$Tokens", "length", "()I"⟩ ∈ kG := kG_of kch4 111 rfl rfl
theorem wd_943 : Cond.selects "PoetFines$Tokens" ⟨"PoetFines$Tokens", "length", "()I"⟩ ⟨"PoetFines$Tokens", "length", "()I"⟩ ∈ kG := kG_of kch4 112 rfl rfl
theorem wd_937 : Cond.methodLink "PoetFines$Parser" 152 ⟨"PoetFines$Tokens", "number", "()I"⟩ ∈ kG := kG_of kch4 106 rfl rfl
theorem wd_940 : Cond.code ⟨"PoetFines$Tokens", "number", "()I"⟩ prog_10_method_6_code 1 (some .int) ∈ kG := kG_of kch4 109 rfl rfl
theorem wd_938 : Cond.instanceMethod ⟨"PoetFines$Tokens", "number", "()I"⟩ ∈ kG := kG_of kch4 107 rfl rfl
theorem wd_939 : Cond.selects "PoetFines$Tokens" ⟨"PoetFines$Tokens", "number", "()I"⟩ ⟨"PoetFines$Tokens", "number", "()I"⟩ ∈ kG := kG_of kch4 108 rfl rfl
theorem wd_917 : Cond.methodLink "PoetFines$Parser" 65 ⟨"PoetFines$Parser", "takeNumber", "(II)I"⟩ ∈ kG := kG_of kch4 86 rfl rfl
theorem wd_920 : Cond.code ⟨"PoetFines$Parser", "takeNumber", "(II)I"⟩ prog_6_method_8_code 4 (some .int) ∈ kG := kG_of kch4 89 rfl rfl
theorem wd_919 : Cond.instanceMethod ⟨"PoetFines$Parser", "takeNumber", "(II)I"⟩ ∈ kG := kG_of kch4 88 rfl rfl
theorem wd_13 : Cond.selects "PoetFines$Parser" ⟨"PoetFines$Parser", "takeNumber", "(II)I"⟩ ⟨"PoetFines$Parser", "takeNumber", "(II)I"⟩ ∈ kG := kG_of kch0 13 rfl rfl
theorem wd_1044 : Cond.methodLink "PoetFines$Parser" 173 ⟨"PoetFines$Rules", "end", "(I)V"⟩ ∈ kG := kG_of kch4 213 rfl rfl
theorem wd_1047 : Cond.code ⟨"PoetFines$Rules", "end", "(I)V"⟩ prog_7_method_8_code 2 none ∈ kG := kG_of kch4 216 rfl rfl
theorem wd_1045 : Cond.instanceMethod ⟨"PoetFines$Rules", "end", "(I)V"⟩ ∈ kG := kG_of kch4 214 rfl rfl
theorem wd_1046 : Cond.selects "PoetFines$Rules" ⟨"PoetFines$Rules", "end", "(I)V"⟩ ⟨"PoetFines$Rules", "end", "(I)V"⟩ ∈ kG := kG_of kch4 215 rfl rfl
theorem wd_998 : Cond.methodLink "PoetFines$Parser" 167 ⟨"PoetFines$Rules", "begin", "(I)V"⟩ ∈ kG := kG_of kch4 167 rfl rfl
theorem wd_1001 : Cond.code ⟨"PoetFines$Rules", "begin", "(I)V"⟩ prog_7_method_6_code 2 none ∈ kG := kG_of kch4 170 rfl rfl
theorem wd_999 : Cond.instanceMethod ⟨"PoetFines$Rules", "begin", "(I)V"⟩ ∈ kG := kG_of kch4 168 rfl rfl
theorem wd_1000 : Cond.selects "PoetFines$Rules" ⟨"PoetFines$Rules", "begin", "(I)V"⟩ ⟨"PoetFines$Rules", "begin", "(I)V"⟩ ∈ kG := kG_of kch4 169 rfl rfl
theorem wd_997 : Cond.methodLink "PoetFines$Parser" 163 ⟨"PoetFines$Rules", "has", "(I)Z"⟩ ∈ kG := kG_of kch4 166 rfl rfl
theorem wd_570 : Cond.code ⟨"PoetFines$Rules", "has", "(I)Z"⟩ prog_7_method_4_code 2 (some .boolean) ∈ kG := kG_of kch2 219 rfl rfl
theorem wd_568 : Cond.instanceMethod ⟨"PoetFines$Rules", "has", "(I)Z"⟩ ∈ kG := kG_of kch2 217 rfl rfl
theorem wd_569 : Cond.selects "PoetFines$Rules" ⟨"PoetFines$Rules", "has", "(I)Z"⟩ ⟨"PoetFines$Rules", "has", "(I)Z"⟩ ∈ kG := kG_of kch2 218 rfl rfl
theorem wd_993 : Cond.methodLink "PoetFines$Parser" 101 ⟨"PoetFines$Parser", "takeRule", "(I)V"⟩ ∈ kG := kG_of kch4 162 rfl rfl
theorem wd_996 : Cond.code ⟨"PoetFines$Parser", "takeRule", "(I)V"⟩ prog_6_method_10_code 2 none ∈ kG := kG_of kch4 165 rfl rfl
theorem wd_995 : Cond.instanceMethod ⟨"PoetFines$Parser", "takeRule", "(I)V"⟩ ∈ kG := kG_of kch4 164 rfl rfl
theorem wd_20 : Cond.selects "PoetFines$Parser" ⟨"PoetFines$Parser", "takeRule", "(I)V"⟩ ⟨"PoetFines$Parser", "takeRule", "(I)V"⟩ ∈ kG := kG_of kch0 20 rfl rfl
theorem wd_190 : Cond.fieldLink "PoetFines$Parser" 130 "PoetFines$Law" "poets" "I" ∈ kG := kG_of kch1 79 rfl rfl
theorem wd_238 : Cond.fieldLink "PoetFines$Parser" 122 "PoetFines$World" "cells" "[I" ∈ kG := kG_of kch1 127 rfl rfl
theorem wd_195 : Cond.fieldLink "PoetFines$Parser" 136 "PoetFines$Law" "lines" "[I" ∈ kG := kG_of kch1 84 rfl rfl
theorem wd_179 : Cond.fieldLink "PoetFines$Parser" 69 "PoetFines$Law" "topics" "I" ∈ kG := kG_of kch1 68 rfl rfl
theorem wd_200 : Cond.fieldLink "PoetFines$Law" 28 "PoetFines$Law" "topic" "[I" ∈ kG := kG_of kch1 89 rfl rfl
theorem wd_987 : Cond.methodLink "PoetFines$Parser" 146 ⟨"PoetFines$World", "setDepth", "(III)V"⟩ ∈ kG := kG_of kch4 156 rfl rfl
theorem wd_116 : Cond.initialized "PoetFines$World" ∈ kG := kG_of kch1 5 rfl rfl
theorem wd_990 : Cond.code ⟨"PoetFines$World", "setDepth", "(III)V"⟩ prog_12_method_5_code 4 none ∈ kG := kG_of kch4 159 rfl rfl
theorem wd_988 : Cond.instanceMethod ⟨"PoetFines$World", "setDepth", "(III)V"⟩ ∈ kG := kG_of kch4 157 rfl rfl
theorem wd_989 : Cond.selects "PoetFines$World" ⟨"PoetFines$World", "setDepth", "(III)V"⟩ ⟨"PoetFines$World", "setDepth", "(III)V"⟩ ∈ kG := kG_of kch4 158 rfl rfl
theorem wd_983 : Cond.methodLink "PoetFines$Parser" 142 ⟨"PoetFines$Law", "addLine", "(II)V"⟩ ∈ kG := kG_of kch4 152 rfl rfl
theorem wd_113 : Cond.initialized "PoetFines$Law" ∈ kG := kG_of kch1 2 rfl rfl
theorem wd_986 : Cond.code ⟨"PoetFines$Law", "addLine", "(II)V"⟩ prog_4_method_4_code 3 none ∈ kG := kG_of kch4 155 rfl rfl
theorem wd_984 : Cond.instanceMethod ⟨"PoetFines$Law", "addLine", "(II)V"⟩ ∈ kG := kG_of kch4 153 rfl rfl
theorem wd_985 : Cond.selects "PoetFines$Law" ⟨"PoetFines$Law", "addLine", "(II)V"⟩ ⟨"PoetFines$Law", "addLine", "(II)V"⟩ ∈ kG := kG_of kch4 154 rfl rfl
theorem wd_979 : Cond.methodLink "PoetFines$Parser" 139 ⟨"PoetFines$Parser", "takeTopic", "()I"⟩ ∈ kG := kG_of kch4 148 rfl rfl
theorem wd_982 : Cond.code ⟨"PoetFines$Parser", "takeTopic", "()I"⟩ prog_6_method_7_code 2 (some .int) ∈ kG := kG_of kch4 151 rfl rfl
theorem wd_981 : Cond.instanceMethod ⟨"PoetFines$Parser", "takeTopic", "()I"⟩ ∈ kG := kG_of kch4 150 rfl rfl
theorem wd_19 : Cond.selects "PoetFines$Parser" ⟨"PoetFines$Parser", "takeTopic", "()I"⟩ ⟨"PoetFines$Parser", "takeTopic", "()I"⟩ ∈ kG := kG_of kch0 19 rfl rfl
theorem wd_975 : Cond.methodLink "PoetFines$Parser" 133 ⟨"PoetFines$Parser", "takeLine", "(I)V"⟩ ∈ kG := kG_of kch4 144 rfl rfl
theorem wd_978 : Cond.code ⟨"PoetFines$Parser", "takeLine", "(I)V"⟩ prog_6_method_6_code 3 none ∈ kG := kG_of kch4 147 rfl rfl
theorem wd_977 : Cond.instanceMethod ⟨"PoetFines$Parser", "takeLine", "(I)V"⟩ ∈ kG := kG_of kch4 146 rfl rfl
theorem wd_18 : Cond.selects "PoetFines$Parser" ⟨"PoetFines$Parser", "takeLine", "(I)V"⟩ ⟨"PoetFines$Parser", "takeLine", "(I)V"⟩ ∈ kG := kG_of kch0 18 rfl rfl
theorem wd_971 : Cond.methodLink "PoetFines$Parser" 93 ⟨"PoetFines$Parser", "takePoet", "()V"⟩ ∈ kG := kG_of kch4 140 rfl rfl
theorem wd_974 : Cond.code ⟨"PoetFines$Parser", "takePoet", "()V"⟩ prog_6_method_5_code 3 none ∈ kG := kG_of kch4 143 rfl rfl
theorem wd_973 : Cond.instanceMethod ⟨"PoetFines$Parser", "takePoet", "()V"⟩ ∈ kG := kG_of kch4 142 rfl rfl
theorem wd_17 : Cond.selects "PoetFines$Parser" ⟨"PoetFines$Parser", "takePoet", "()V"⟩ ⟨"PoetFines$Parser", "takePoet", "()V"⟩ ∈ kG := kG_of kch0 17 rfl rfl
theorem wd_184 : Cond.fieldLink "PoetFines$Parser" 119 "PoetFines$Law" "people" "I" ∈ kG := kG_of kch1 73 rfl rfl
theorem wd_199 : Cond.fieldLink "PoetFines$Law" 25 "PoetFines$Law" "truth" "[I" ∈ kG := kG_of kch1 88 rfl rfl
theorem wd_965 : Cond.methodLink "PoetFines$Parser" 126 ⟨"PoetFines$Law", "suppose", "(III)V"⟩ ∈ kG := kG_of kch4 134 rfl rfl
theorem wd_968 : Cond.code ⟨"PoetFines$Law", "suppose", "(III)V"⟩ prog_4_method_6_code 4 none ∈ kG := kG_of kch4 137 rfl rfl
theorem wd_966 : Cond.instanceMethod ⟨"PoetFines$Law", "suppose", "(III)V"⟩ ∈ kG := kG_of kch4 135 rfl rfl
theorem wd_967 : Cond.selects "PoetFines$Law" ⟨"PoetFines$Law", "suppose", "(III)V"⟩ ⟨"PoetFines$Law", "suppose", "(III)V"⟩ ∈ kG := kG_of kch4 136 rfl rfl
theorem wd_961 : Cond.methodLink "PoetFines$Parser" 87 ⟨"PoetFines$Parser", "takePerson", "()V"⟩ ∈ kG := kG_of kch4 130 rfl rfl
theorem wd_964 : Cond.code ⟨"PoetFines$Parser", "takePerson", "()V"⟩ prog_6_method_4_code 3 none ∈ kG := kG_of kch4 133 rfl rfl
theorem wd_963 : Cond.instanceMethod ⟨"PoetFines$Parser", "takePerson", "()V"⟩ ∈ kG := kG_of kch4 132 rfl rfl
theorem wd_16 : Cond.selects "PoetFines$Parser" ⟨"PoetFines$Parser", "takePerson", "()V"⟩ ⟨"PoetFines$Parser", "takePerson", "()V"⟩ ∈ kG := kG_of kch0 16 rfl rfl
theorem wd_769 : Cond.methodLink "PoetFines$Parser" 48 ⟨"PoetFines$Tokens", "scan", "(I)V"⟩ ∈ kG := kG_of kch3 178 rfl rfl
theorem wd_772 : Cond.code ⟨"PoetFines$Tokens", "scan", "(I)V"⟩ prog_10_method_2_code 5 none ∈ kG := kG_of kch3 181 rfl rfl
theorem wd_770 : Cond.instanceMethod ⟨"PoetFines$Tokens", "scan", "(I)V"⟩ ∈ kG := kG_of kch3 179 rfl rfl
theorem wd_771 : Cond.selects "PoetFines$Tokens" ⟨"PoetFines$Tokens", "scan", "(I)V"⟩ ⟨"PoetFines$Tokens", "scan", "(I)V"⟩ ∈ kG := kG_of kch3 180 rfl rfl
theorem wd_765 : Cond.methodLink "PoetFines$Parser" 47 ⟨"PoetFines$World", "clear", "()V"⟩ ∈ kG := kG_of kch3 174 rfl rfl
theorem wd_768 : Cond.code ⟨"PoetFines$World", "clear", "()V"⟩ prog_12_method_2_code 2 none ∈ kG := kG_of kch3 177 rfl rfl
theorem wd_766 : Cond.instanceMethod ⟨"PoetFines$World", "clear", "()V"⟩ ∈ kG := kG_of kch3 175 rfl rfl
theorem wd_767 : Cond.selects "PoetFines$World" ⟨"PoetFines$World", "clear", "()V"⟩ ⟨"PoetFines$World", "clear", "()V"⟩ ∈ kG := kG_of kch3 176 rfl rfl
theorem wd_757 : Cond.methodLink "PoetFines$Parser" 44 ⟨"PoetFines$Law", "clear", "()V"⟩ ∈ kG := kG_of kch3 166 rfl rfl
theorem wd_760 : Cond.code ⟨"PoetFines$Law", "clear", "()V"⟩ prog_4_method_2_code 2 none ∈ kG := kG_of kch3 169 rfl rfl
theorem wd_758 : Cond.instanceMethod ⟨"PoetFines$Law", "clear", "()V"⟩ ∈ kG := kG_of kch3 167 rfl rfl
theorem wd_759 : Cond.selects "PoetFines$Law" ⟨"PoetFines$Law", "clear", "()V"⟩ ⟨"PoetFines$Law", "clear", "()V"⟩ ∈ kG := kG_of kch3 168 rfl rfl
theorem wd_276 : Cond.fieldLink "PoetFines" 100 "PoetFines$Parser" "faultAt" "I" ∈ kG := kG_of kch1 165 rfl rfl
theorem wd_493 : Cond.fieldLink "PoetFines" 17 "PoetFines" "faultAt" "I" ∈ kG := kG_of kch2 142 rfl rfl
theorem wd_495 : Cond.fieldLink "PoetFines" 27 "PoetFines" "law" "LPoetFines$Law;" ∈ kG := kG_of kch2 144 rfl rfl
theorem wd_272 : Cond.fieldLink "PoetFines" 101 "PoetFines$Parser" "law" "LPoetFines$Law;" ∈ kG := kG_of kch1 161 rfl rfl
theorem wd_1056 : Cond.methodLink "PoetFines$Law" 41 ⟨"java/lang/System", "arraycopy", "(Ljava/lang/Object;ILjava/lang/Object;II)V"⟩ ∈ kG := kG_of kch4 225 rfl rfl
theorem wd_554 : Cond.native ⟨"java/lang/System", "arraycopy", "(Ljava/lang/Object;ILjava/lang/Object;II)V"⟩ ∈ kG := kG_of kch2 203 rfl rfl
theorem wd_553 : Cond.static ⟨"java/lang/System", "arraycopy", "(Ljava/lang/Object;ILjava/lang/Object;II)V"⟩ ∈ kG := kG_of kch2 202 rfl rfl
theorem wd_136 : Cond.initialized "java/lang/System" ∈ kG := kG_of kch1 25 rfl rfl
theorem wd_1061 : Cond.methodLink "PoetFines$Rules" 28 ⟨"java/lang/System", "arraycopy", "(Ljava/lang/Object;ILjava/lang/Object;II)V"⟩ ∈ kG := kG_of kch4 230 rfl rfl
theorem wd_1057 : Cond.methodLink "PoetFines$Law" 47 ⟨"PoetFines$Rules", "copyFrom", "(LPoetFines$Rules;)V"⟩ ∈ kG := kG_of kch4 226 rfl rfl
theorem wd_1060 : Cond.code ⟨"PoetFines$Rules", "copyFrom", "(LPoetFines$Rules;)V"⟩ prog_7_method_3_code 3 none ∈ kG := kG_of kch4 229 rfl rfl
theorem wd_1058 : Cond.instanceMethod ⟨"PoetFines$Rules", "copyFrom", "(LPoetFines$Rules;)V"⟩ ∈ kG := kG_of kch4 227 rfl rfl
theorem wd_1059 : Cond.selects "PoetFines$Rules" ⟨"PoetFines$Rules", "copyFrom", "(LPoetFines$Rules;)V"⟩ ⟨"PoetFines$Rules", "copyFrom", "(LPoetFines$Rules;)V"⟩ ∈ kG := kG_of kch4 228 rfl rfl
theorem wd_497 : Cond.fieldLink "PoetFines" 43 "PoetFines" "chronicle" "LPoetFines$Chronicle;" ∈ kG := kG_of kch2 146 rfl rfl
theorem wd_274 : Cond.fieldLink "PoetFines" 106 "PoetFines$Parser" "world" "LPoetFines$World;" ∈ kG := kG_of kch1 163 rfl rfl
theorem wd_301 : Cond.fieldLink "PoetFines$Chronicle" 12 "PoetFines$Chronicle" "now" "LPoetFines$World;" ∈ kG := kG_of kch1 190 rfl rfl
theorem wd_674 : Cond.methodLink "PoetFines$World" 15 ⟨"java/lang/System", "arraycopy", "(Ljava/lang/Object;ILjava/lang/Object;II)V"⟩ ∈ kG := kG_of kch3 83 rfl rfl
theorem wd_304 : Cond.fieldLink "PoetFines$Chronicle" 18 "PoetFines$Chronicle" "acts" "I" ∈ kG := kG_of kch1 193 rfl rfl
theorem wd_307 : Cond.fieldLink "PoetFines$Chronicle" 26 "PoetFines$Chronicle" "oldest" "I" ∈ kG := kG_of kch1 196 rfl rfl
theorem wd_308 : Cond.fieldLink "PoetFines$Chronicle" 29 "PoetFines$Chronicle" "felt" "I" ∈ kG := kG_of kch1 197 rfl rfl
theorem wd_670 : Cond.methodLink "PoetFines$Chronicle" 41 ⟨"PoetFines$World", "copyFrom", "(LPoetFines$World;)V"⟩ ∈ kG := kG_of kch3 79 rfl rfl
theorem wd_673 : Cond.code ⟨"PoetFines$World", "copyFrom", "(LPoetFines$World;)V"⟩ prog_12_method_3_code 2 none ∈ kG := kG_of kch3 82 rfl rfl
theorem wd_671 : Cond.instanceMethod ⟨"PoetFines$World", "copyFrom", "(LPoetFines$World;)V"⟩ ∈ kG := kG_of kch3 80 rfl rfl
theorem wd_672 : Cond.selects "PoetFines$World" ⟨"PoetFines$World", "copyFrom", "(LPoetFines$World;)V"⟩ ⟨"PoetFines$World", "copyFrom", "(LPoetFines$World;)V"⟩ ∈ kG := kG_of kch3 81 rfl rfl
theorem wd_499 : Cond.fieldLink "PoetFines" 50 "PoetFines" "isKept" "Z" ∈ kG := kG_of kch2 148 rfl rfl
theorem wd_1062 : Cond.methodLink "PoetFines" 109 ⟨"PoetFines$Chronicle", "beginWith", "(LPoetFines$World;)V"⟩ ∈ kG := kG_of kch4 231 rfl rfl
theorem wd_118 : Cond.initialized "PoetFines$Chronicle" ∈ kG := kG_of kch1 7 rfl rfl
theorem wd_1065 : Cond.code ⟨"PoetFines$Chronicle", "beginWith", "(LPoetFines$World;)V"⟩ prog_2_method_2_code 2 none ∈ kG := kG_of kch4 234 rfl rfl
theorem wd_1063 : Cond.instanceMethod ⟨"PoetFines$Chronicle", "beginWith", "(LPoetFines$World;)V"⟩ ∈ kG := kG_of kch4 232 rfl rfl
theorem wd_1064 : Cond.selects "PoetFines$Chronicle" ⟨"PoetFines$Chronicle", "beginWith", "(LPoetFines$World;)V"⟩ ⟨"PoetFines$Chronicle", "beginWith", "(LPoetFines$World;)V"⟩ ∈ kG := kG_of kch4 233 rfl rfl
theorem wd_1052 : Cond.methodLink "PoetFines" 102 ⟨"PoetFines$Law", "copyFrom", "(LPoetFines$Law;)V"⟩ ∈ kG := kG_of kch4 221 rfl rfl
theorem wd_1055 : Cond.code ⟨"PoetFines$Law", "copyFrom", "(LPoetFines$Law;)V"⟩ prog_4_method_3_code 2 none ∈ kG := kG_of kch4 224 rfl rfl
theorem wd_1053 : Cond.instanceMethod ⟨"PoetFines$Law", "copyFrom", "(LPoetFines$Law;)V"⟩ ∈ kG := kG_of kch4 222 rfl rfl
theorem wd_1054 : Cond.selects "PoetFines$Law" ⟨"PoetFines$Law", "copyFrom", "(LPoetFines$Law;)V"⟩ ⟨"PoetFines$Law", "copyFrom", "(LPoetFines$Law;)V"⟩ ∈ kG := kG_of kch4 223 rfl rfl
theorem wd_494 : Cond.fieldLink "PoetFines" 20 "PoetFines" "refused" "[I" ∈ kG := kG_of kch2 143 rfl rfl
theorem wd_753 : Cond.methodLink "PoetFines" 96 ⟨"PoetFines$Parser", "parse", "(I)I"⟩ ∈ kG := kG_of kch3 162 rfl rfl
theorem wd_756 : Cond.code ⟨"PoetFines$Parser", "parse", "(I)I"⟩ prog_6_method_2_code 4 (some .int) ∈ kG := kG_of kch3 165 rfl rfl
theorem wd_754 : Cond.instanceMethod ⟨"PoetFines$Parser", "parse", "(I)I"⟩ ∈ kG := kG_of kch3 163 rfl rfl
theorem wd_755 : Cond.selects "PoetFines$Parser" ⟨"PoetFines$Parser", "parse", "(I)I"⟩ ⟨"PoetFines$Parser", "parse", "(I)I"⟩ ∈ kG := kG_of kch3 164 rfl rfl
theorem wd_302 : Cond.fieldLink "PoetFines" 56 "PoetFines$Chronicle" "now" "LPoetFines$World;" ∈ kG := kG_of kch1 191 rfl rfl
theorem wd_180 : Cond.fieldLink "PoetFines" 113 "PoetFines$Law" "topics" "I" ∈ kG := kG_of kch1 69 rfl rfl
theorem wd_186 : Cond.fieldLink "PoetFines" 116 "PoetFines$Law" "people" "I" ∈ kG := kG_of kch1 75 rfl rfl
theorem wd_192 : Cond.fieldLink "PoetFines" 119 "PoetFines$Law" "poets" "I" ∈ kG := kG_of kch1 81 rfl rfl
theorem wd_239 : Cond.fieldLink "PoetFines" 122 "PoetFines$World" "cells" "[I" ∈ kG := kG_of kch1 128 rfl rfl
theorem wd_1074 : Cond.methodLink "PoetFines" 127 ⟨"PoetFines$World", "total", "(II)I"⟩ ∈ kG := kG_of kch5 3 rfl rfl
theorem wd_1077 : Cond.code ⟨"PoetFines$World", "total", "(II)I"⟩ prog_12_method_8_code 5 (some .int) ∈ kG := kG_of kch5 6 rfl rfl
theorem wd_1075 : Cond.instanceMethod ⟨"PoetFines$World", "total", "(II)I"⟩ ∈ kG := kG_of kch5 4 rfl rfl
theorem wd_1076 : Cond.selects "PoetFines$World" ⟨"PoetFines$World", "total", "(II)I"⟩ ⟨"PoetFines$World", "total", "(II)I"⟩ ∈ kG := kG_of kch5 5 rfl rfl
theorem wd_1078 : Cond.methodLink "PoetFines" 131 ⟨"PoetFines$World", "unscarred", "(I)I"⟩ ∈ kG := kG_of kch5 7 rfl rfl
theorem wd_1081 : Cond.code ⟨"PoetFines$World", "unscarred", "(I)I"⟩ prog_12_method_9_code 4 (some .int) ∈ kG := kG_of kch5 10 rfl rfl
theorem wd_1079 : Cond.instanceMethod ⟨"PoetFines$World", "unscarred", "(I)I"⟩ ∈ kG := kG_of kch5 8 rfl rfl
theorem wd_1080 : Cond.selects "PoetFines$World" ⟨"PoetFines$World", "unscarred", "(I)I"⟩ ⟨"PoetFines$World", "unscarred", "(I)I"⟩ ∈ kG := kG_of kch5 9 rfl rfl
theorem wd_1082 : Cond.methodLink "PoetFines" 134 ⟨"PoetFines$World", "sitting", "(I)I"⟩ ∈ kG := kG_of kch5 11 rfl rfl
theorem wd_1085 : Cond.code ⟨"PoetFines$World", "sitting", "(I)I"⟩ prog_12_method_10_code 4 (some .int) ∈ kG := kG_of kch5 14 rfl rfl
theorem wd_1083 : Cond.instanceMethod ⟨"PoetFines$World", "sitting", "(I)I"⟩ ∈ kG := kG_of kch5 12 rfl rfl
theorem wd_1084 : Cond.selects "PoetFines$World" ⟨"PoetFines$World", "sitting", "(I)I"⟩ ⟨"PoetFines$World", "sitting", "(I)I"⟩ ∈ kG := kG_of kch5 13 rfl rfl
theorem wd_305 : Cond.fieldLink "PoetFines" 137 "PoetFines$Chronicle" "acts" "I" ∈ kG := kG_of kch1 194 rfl rfl
theorem wd_309 : Cond.fieldLink "PoetFines" 140 "PoetFines$Chronicle" "felt" "I" ∈ kG := kG_of kch1 198 rfl rfl
theorem wd_1086 : Cond.classLink "PoetFines" 143 "java/util/NoSuchElementException" ∈ kG := kG_of kch5 15 rfl rfl
theorem wd_137 : Cond.initialized "java/util/NoSuchElementException" ∈ kG := kG_of kch1 26 rfl rfl
theorem wd_1124 : Cond.methodLink "PoetFines$World" 21 ⟨"PoetFines$World", "hitsBy", "(II)I"⟩ ∈ kG := kG_of kch5 53 rfl rfl
theorem wd_578 : Cond.code ⟨"PoetFines$World", "hitsBy", "(II)I"⟩ prog_12_method_6_code 3 (some .int) ∈ kG := kG_of kch2 227 rfl rfl
theorem wd_576 : Cond.instanceMethod ⟨"PoetFines$World", "hitsBy", "(II)I"⟩ ∈ kG := kG_of kch2 225 rfl rfl
theorem wd_577 : Cond.selects "PoetFines$World" ⟨"PoetFines$World", "hitsBy", "(II)I"⟩ ⟨"PoetFines$World", "hitsBy", "(II)I"⟩ ∈ kG := kG_of kch2 226 rfl rfl
theorem wd_1120 : Cond.methodLink "PoetFines" 158 ⟨"PoetFines$World", "ofPerson", "(III)I"⟩ ∈ kG := kG_of kch5 49 rfl rfl
theorem wd_1123 : Cond.code ⟨"PoetFines$World", "ofPerson", "(III)I"⟩ prog_12_method_7_code 6 (some .int) ∈ kG := kG_of kch5 52 rfl rfl
theorem wd_1121 : Cond.instanceMethod ⟨"PoetFines$World", "ofPerson", "(III)I"⟩ ∈ kG := kG_of kch5 50 rfl rfl
theorem wd_1122 : Cond.selects "PoetFines$World" ⟨"PoetFines$World", "ofPerson", "(III)I"⟩ ⟨"PoetFines$World", "ofPerson", "(III)I"⟩ ∈ kG := kG_of kch5 51 rfl rfl
theorem wd_1115 : Cond.methodLink "PoetFines" 154 ⟨"PoetFines", "needWhat", "(II)V"⟩ ∈ kG := kG_of kch5 44 rfl rfl
theorem wd_1118 : Cond.code ⟨"PoetFines", "needWhat", "(II)V"⟩ prog_1_method_45_code 3 none ∈ kG := kG_of kch5 47 rfl rfl
theorem wd_1117 : Cond.instanceMethod ⟨"PoetFines", "needWhat", "(II)V"⟩ ∈ kG := kG_of kch5 46 rfl rfl
theorem wd_29 : Cond.selects "PoetFines" ⟨"PoetFines", "needWhat", "(II)V"⟩ ⟨"PoetFines", "needWhat", "(II)V"⟩ ∈ kG := kG_of kch0 29 rfl rfl
theorem wd_1114 : Cond.methodLink "PoetFines" 151 ⟨"PoetFines$Law", "truthOf", "(II)I"⟩ ∈ kG := kG_of kch5 43 rfl rfl
theorem wd_605 : Cond.code ⟨"PoetFines$Law", "truthOf", "(II)I"⟩ prog_4_method_5_code 3 (some .int) ∈ kG := kG_of kch3 14 rfl rfl
theorem wd_603 : Cond.instanceMethod ⟨"PoetFines$Law", "truthOf", "(II)I"⟩ ∈ kG := kG_of kch3 12 rfl rfl
theorem wd_604 : Cond.selects "PoetFines$Law" ⟨"PoetFines$Law", "truthOf", "(II)I"⟩ ⟨"PoetFines$Law", "truthOf", "(II)I"⟩ ∈ kG := kG_of kch3 13 rfl rfl
theorem wd_1109 : Cond.methodLink "PoetFines" 148 ⟨"PoetFines", "needPerson", "(I)V"⟩ ∈ kG := kG_of kch5 38 rfl rfl
theorem wd_1112 : Cond.code ⟨"PoetFines", "needPerson", "(I)V"⟩ prog_1_method_42_code 2 none ∈ kG := kG_of kch5 41 rfl rfl
theorem wd_1111 : Cond.instanceMethod ⟨"PoetFines", "needPerson", "(I)V"⟩ ∈ kG := kG_of kch5 40 rfl rfl
theorem wd_28 : Cond.selects "PoetFines" ⟨"PoetFines", "needPerson", "(I)V"⟩ ⟨"PoetFines", "needPerson", "(I)V"⟩ ∈ kG := kG_of kch0 28 rfl rfl
theorem wd_197 : Cond.fieldLink "PoetFines" 165 "PoetFines$Law" "lines" "[I" ∈ kG := kG_of kch1 86 rfl rfl
theorem wd_501 : Cond.fieldLink "PoetFines" 72 "PoetFines" "court" "LPoetFines$Court;" ∈ kG := kG_of kch2 150 rfl rfl
theorem wd_410 : Cond.fieldLink "PoetFines$Court" 38 "PoetFines$Court" "stage" "LPoetFines$Stage;" ∈ kG := kG_of kch2 59 rfl rfl
theorem wd_389 : Cond.fieldLink "PoetFines$Court" 42 "PoetFines$Stage" "world" "LPoetFines$World;" ∈ kG := kG_of kch2 38 rfl rfl
theorem wd_234 : Cond.fieldLink "PoetFines$Court" 48 "PoetFines$World" "cells" "[I" ∈ kG := kG_of kch1 123 rfl rfl
theorem wd_409 : Cond.fieldLink "PoetFines$Court" 34 "PoetFines$Court" "law" "LPoetFines$Law;" ∈ kG := kG_of kch2 58 rfl rfl
theorem wd_183 : Cond.fieldLink "PoetFines$Court" 53 "PoetFines$Law" "people" "I" ∈ kG := kG_of kch1 72 rfl rfl
theorem wd_392 : Cond.fieldLink "PoetFines$Stage" 24 "PoetFines$Stage" "law" "LPoetFines$Law;" ∈ kG := kG_of kch2 41 rfl rfl
theorem wd_202 : Cond.fieldLink "PoetFines$Stage" 38 "PoetFines$Law" "rules" "LPoetFines$Rules;" ∈ kG := kG_of kch1 91 rfl rfl
theorem wd_388 : Cond.fieldLink "PoetFines$Stage" 28 "PoetFines$Stage" "world" "LPoetFines$World;" ∈ kG := kG_of kch2 37 rfl rfl
theorem wd_235 : Cond.fieldLink "PoetFines$Stage" 51 "PoetFines$World" "cells" "[I" ∈ kG := kG_of kch1 124 rfl rfl
theorem wd_393 : Cond.fieldLink "PoetFines$Stage" 20 "PoetFines$Stage" "values" "[I" ∈ kG := kG_of kch2 42 rfl rfl
theorem wd_575 : Cond.methodLink "PoetFines$Stage" 136 ⟨"PoetFines$World", "hitsBy", "(II)I"⟩ ∈ kG := kG_of kch2 224 rfl rfl
theorem wd_164 : Cond.fieldLink "PoetFines$Rules" 25 "PoetFines$Rules" "stack" "[I" ∈ kG := kG_of kch1 53 rfl rfl
theorem wd_583 : Cond.methodLink "PoetFines$Rules" 34 ⟨"PoetFines$Rules", "combined", "(III)I"⟩ ∈ kG := kG_of kch2 232 rfl rfl
theorem wd_585 : Cond.code ⟨"PoetFines$Rules", "combined", "(III)I"⟩ prog_7_method_10_code 3 (some .int) ∈ kG := kG_of kch2 234 rfl rfl
theorem wd_584 : Cond.static ⟨"PoetFines$Rules", "combined", "(III)I"⟩ ∈ kG := kG_of kch2 233 rfl rfl
theorem wd_609 : Cond.methodLink "PoetFines$Stage" 64 ⟨"PoetFines$Stage", "within", "(II)I"⟩ ∈ kG := kG_of kch3 18 rfl rfl
theorem wd_119 : Cond.initialized "PoetFines$Stage" ∈ kG := kG_of kch1 8 rfl rfl
theorem wd_611 : Cond.code ⟨"PoetFines$Stage", "within", "(II)I"⟩ prog_8_method_12_code 2 (some .int) ∈ kG := kG_of kch3 20 rfl rfl
theorem wd_610 : Cond.static ⟨"PoetFines$Stage", "within", "(II)I"⟩ ∈ kG := kG_of kch3 19 rfl rfl
theorem wd_579 : Cond.methodLink "PoetFines$Stage" 60 ⟨"PoetFines$Rules", "worth", "(I[I)I"⟩ ∈ kG := kG_of kch2 228 rfl rfl
theorem wd_582 : Cond.code ⟨"PoetFines$Rules", "worth", "(I[I)I"⟩ prog_7_method_9_code 6 (some .int) ∈ kG := kG_of kch2 231 rfl rfl
theorem wd_580 : Cond.instanceMethod ⟨"PoetFines$Rules", "worth", "(I[I)I"⟩ ∈ kG := kG_of kch2 229 rfl rfl
theorem wd_581 : Cond.selects "PoetFines$Rules" ⟨"PoetFines$Rules", "worth", "(I[I)I"⟩ ⟨"PoetFines$Rules", "worth", "(I[I)I"⟩ ∈ kG := kG_of kch2 230 rfl rfl
theorem wd_571 : Cond.methodLink "PoetFines$Stage" 56 ⟨"PoetFines$Stage", "setValues", "(III)V"⟩ ∈ kG := kG_of kch2 220 rfl rfl
theorem wd_574 : Cond.code ⟨"PoetFines$Stage", "setValues", "(III)V"⟩ prog_8_method_11_code 4 none ∈ kG := kG_of kch2 223 rfl rfl
theorem wd_573 : Cond.instanceMethod ⟨"PoetFines$Stage", "setValues", "(III)V"⟩ ∈ kG := kG_of kch2 222 rfl rfl
theorem wd_4 : Cond.selects "PoetFines$Stage" ⟨"PoetFines$Stage", "setValues", "(III)V"⟩ ⟨"PoetFines$Stage", "setValues", "(III)V"⟩ ∈ kG := kG_of kch0 4 rfl rfl
theorem wd_606 : Cond.methodLink "PoetFines$Stage" 46 ⟨"java/lang/Math", "min", "(II)I"⟩ ∈ kG := kG_of kch3 15 rfl rfl
theorem wd_567 : Cond.methodLink "PoetFines$Stage" 42 ⟨"PoetFines$Rules", "has", "(I)Z"⟩ ∈ kG := kG_of kch2 216 rfl rfl
theorem wd_602 : Cond.methodLink "PoetFines$Stage" 32 ⟨"PoetFines$Law", "truthOf", "(II)I"⟩ ∈ kG := kG_of kch3 11 rfl rfl
theorem wd_1147 : Cond.methodLink "PoetFines$Court" 65 ⟨"PoetFines$Stage", "inchesInto", "(IIII)I"⟩ ∈ kG := kG_of kch5 76 rfl rfl
theorem wd_601 : Cond.code ⟨"PoetFines$Stage", "inchesInto", "(IIII)I"⟩ prog_8_method_2_code 6 (some .int) ∈ kG := kG_of kch3 10 rfl rfl
theorem wd_599 : Cond.instanceMethod ⟨"PoetFines$Stage", "inchesInto", "(IIII)I"⟩ ∈ kG := kG_of kch3 8 rfl rfl
theorem wd_600 : Cond.selects "PoetFines$Stage" ⟨"PoetFines$Stage", "inchesInto", "(IIII)I"⟩ ⟨"PoetFines$Stage", "inchesInto", "(IIII)I"⟩ ∈ kG := kG_of kch3 9 rfl rfl
theorem wd_1146 : Cond.methodLink "PoetFines$Court" 124 ⟨"PoetFines$World", "depthOf", "(II)I"⟩ ∈ kG := kG_of kch5 75 rfl rfl
theorem wd_597 : Cond.code ⟨"PoetFines$World", "depthOf", "(II)I"⟩ prog_12_method_4_code 3 (some .int) ∈ kG := kG_of kch3 6 rfl rfl
theorem wd_595 : Cond.instanceMethod ⟨"PoetFines$World", "depthOf", "(II)I"⟩ ∈ kG := kG_of kch3 4 rfl rfl
theorem wd_596 : Cond.selects "PoetFines$World" ⟨"PoetFines$World", "depthOf", "(II)I"⟩ ⟨"PoetFines$World", "depthOf", "(II)I"⟩ ∈ kG := kG_of kch3 5 rfl rfl
theorem wd_1145 : Cond.methodLink "PoetFines$Court" 121 ⟨"PoetFines$Law", "topicOf", "(II)I"⟩ ∈ kG := kG_of kch5 74 rfl rfl
theorem wd_593 : Cond.code ⟨"PoetFines$Law", "topicOf", "(II)I"⟩ prog_4_method_7_code 3 (some .int) ∈ kG := kG_of kch3 2 rfl rfl
theorem wd_591 : Cond.instanceMethod ⟨"PoetFines$Law", "topicOf", "(II)I"⟩ ∈ kG := kG_of kch3 0 rfl rfl
theorem wd_592 : Cond.selects "PoetFines$Law" ⟨"PoetFines$Law", "topicOf", "(II)I"⟩ ⟨"PoetFines$Law", "topicOf", "(II)I"⟩ ∈ kG := kG_of kch3 1 rfl rfl
theorem wd_1141 : Cond.methodLink "PoetFines$Court" 58 ⟨"PoetFines$Court", "inchesNow", "(III)I"⟩ ∈ kG := kG_of kch5 70 rfl rfl
theorem wd_121 : Cond.initialized "PoetFines$Court" ∈ kG := kG_of kch1 10 rfl rfl
theorem wd_1144 : Cond.code ⟨"PoetFines$Court", "inchesNow", "(III)I"⟩ prog_3_method_14_code 4 (some .int) ∈ kG := kG_of kch5 73 rfl rfl
theorem wd_1143 : Cond.instanceMethod ⟨"PoetFines$Court", "inchesNow", "(III)I"⟩ ∈ kG := kG_of kch5 72 rfl rfl
theorem wd_31 : Cond.selects "PoetFines$Court" ⟨"PoetFines$Court", "inchesNow", "(III)I"⟩ ⟨"PoetFines$Court", "inchesNow", "(III)I"⟩ ∈ kG := kG_of kch0 31 rfl rfl
theorem wd_1137 : Cond.methodLink "PoetFines" 168 ⟨"PoetFines$Court", "nextHits", "(I)I"⟩ ∈ kG := kG_of kch5 66 rfl rfl
theorem wd_1140 : Cond.code ⟨"PoetFines$Court", "nextHits", "(I)I"⟩ prog_3_method_2_code 5 (some .int) ∈ kG := kG_of kch5 69 rfl rfl
theorem wd_1138 : Cond.instanceMethod ⟨"PoetFines$Court", "nextHits", "(I)I"⟩ ∈ kG := kG_of kch5 67 rfl rfl
theorem wd_1139 : Cond.selects "PoetFines$Court" ⟨"PoetFines$Court", "nextHits", "(I)I"⟩ ⟨"PoetFines$Court", "nextHits", "(I)I"⟩ ∈ kG := kG_of kch5 68 rfl rfl
theorem wd_1132 : Cond.methodLink "PoetFines" 162 ⟨"PoetFines", "needPoet", "(I)V"⟩ ∈ kG := kG_of kch5 61 rfl rfl
theorem wd_1135 : Cond.code ⟨"PoetFines", "needPoet", "(I)V"⟩ prog_1_method_43_code 2 none ∈ kG := kG_of kch5 64 rfl rfl
theorem wd_1134 : Cond.instanceMethod ⟨"PoetFines", "needPoet", "(I)V"⟩ ∈ kG := kG_of kch5 63 rfl rfl
theorem wd_30 : Cond.selects "PoetFines" ⟨"PoetFines", "needPoet", "(I)V"⟩ ⟨"PoetFines", "needPoet", "(I)V"⟩ ∈ kG := kG_of kch0 30 rfl rfl
theorem wd_1160 : Cond.methodLink "PoetFines" 174 ⟨"PoetFines$Law", "topicOf", "(II)I"⟩ ∈ kG := kG_of kch5 89 rfl rfl
theorem wd_1161 : Cond.methodLink "PoetFines" 177 ⟨"PoetFines$World", "depthOf", "(II)I"⟩ ∈ kG := kG_of kch5 90 rfl rfl
theorem wd_620 : Cond.methodLink "PoetFines$Law" 51 ⟨"java/lang/Math", "max", "(II)I"⟩ ∈ kG := kG_of kch3 29 rfl rfl
theorem wd_623 : Cond.methodLink "PoetFines$Law" 57 ⟨"PoetFines$Law", "topicOf", "(II)I"⟩ ∈ kG := kG_of kch3 32 rfl rfl
theorem wd_1162 : Cond.methodLink "PoetFines" 180 ⟨"PoetFines$Law", "rhymes", "(II)I"⟩ ∈ kG := kG_of kch5 91 rfl rfl
theorem wd_619 : Cond.code ⟨"PoetFines$Law", "rhymes", "(II)I"⟩ prog_4_method_9_code 4 (some .int) ∈ kG := kG_of kch3 28 rfl rfl
theorem wd_617 : Cond.instanceMethod ⟨"PoetFines$Law", "rhymes", "(II)I"⟩ ∈ kG := kG_of kch3 26 rfl rfl
theorem wd_618 : Cond.selects "PoetFines$Law" ⟨"PoetFines$Law", "rhymes", "(II)I"⟩ ⟨"PoetFines$Law", "rhymes", "(II)I"⟩ ∈ kG := kG_of kch3 27 rfl rfl
theorem wd_616 : Cond.methodLink "PoetFines$Stage" 67 ⟨"PoetFines$Law", "rhymes", "(II)I"⟩ ∈ kG := kG_of kch3 25 rfl rfl
theorem wd_1171 : Cond.methodLink "PoetFines$Court" 127 ⟨"PoetFines$Stage", "fineFor", "(IIII)I"⟩ ∈ kG := kG_of kch5 100 rfl rfl
theorem wd_615 : Cond.code ⟨"PoetFines$Stage", "fineFor", "(IIII)I"⟩ prog_8_method_3_code 5 (some .int) ∈ kG := kG_of kch3 24 rfl rfl
theorem wd_613 : Cond.instanceMethod ⟨"PoetFines$Stage", "fineFor", "(IIII)I"⟩ ∈ kG := kG_of kch3 22 rfl rfl
theorem wd_614 : Cond.selects "PoetFines$Stage" ⟨"PoetFines$Stage", "fineFor", "(IIII)I"⟩ ⟨"PoetFines$Stage", "fineFor", "(IIII)I"⟩ ∈ kG := kG_of kch3 23 rfl rfl
theorem wd_1167 : Cond.methodLink "PoetFines$Court" 62 ⟨"PoetFines$Court", "fineNow", "(III)I"⟩ ∈ kG := kG_of kch5 96 rfl rfl
theorem wd_1170 : Cond.code ⟨"PoetFines$Court", "fineNow", "(III)I"⟩ prog_3_method_15_code 5 (some .int) ∈ kG := kG_of kch5 99 rfl rfl
theorem wd_1169 : Cond.instanceMethod ⟨"PoetFines$Court", "fineNow", "(III)I"⟩ ∈ kG := kG_of kch5 98 rfl rfl
theorem wd_33 : Cond.selects "PoetFines$Court" ⟨"PoetFines$Court", "fineNow", "(III)I"⟩ ⟨"PoetFines$Court", "fineNow", "(III)I"⟩ ∈ kG := kG_of kch0 33 rfl rfl
theorem wd_1163 : Cond.methodLink "PoetFines" 183 ⟨"PoetFines$Court", "fineOfLine", "(II)I"⟩ ∈ kG := kG_of kch5 92 rfl rfl
theorem wd_1166 : Cond.code ⟨"PoetFines$Court", "fineOfLine", "(II)I"⟩ prog_3_method_4_code 5 (some .int) ∈ kG := kG_of kch5 95 rfl rfl
theorem wd_1164 : Cond.instanceMethod ⟨"PoetFines$Court", "fineOfLine", "(II)I"⟩ ∈ kG := kG_of kch5 93 rfl rfl
theorem wd_1165 : Cond.selects "PoetFines$Court" ⟨"PoetFines$Court", "fineOfLine", "(II)I"⟩ ⟨"PoetFines$Court", "fineOfLine", "(II)I"⟩ ∈ kG := kG_of kch5 94 rfl rfl
theorem wd_1172 : Cond.methodLink "PoetFines" 186 ⟨"PoetFines$Court", "inchesOfLine", "(II)I"⟩ ∈ kG := kG_of kch5 101 rfl rfl
theorem wd_1175 : Cond.code ⟨"PoetFines$Court", "inchesOfLine", "(II)I"⟩ prog_3_method_3_code 5 (some .int) ∈ kG := kG_of kch5 104 rfl rfl
theorem wd_1173 : Cond.instanceMethod ⟨"PoetFines$Court", "inchesOfLine", "(II)I"⟩ ∈ kG := kG_of kch5 102 rfl rfl
theorem wd_1174 : Cond.selects "PoetFines$Court" ⟨"PoetFines$Court", "inchesOfLine", "(II)I"⟩ ⟨"PoetFines$Court", "inchesOfLine", "(II)I"⟩ ∈ kG := kG_of kch5 103 rfl rfl
theorem wd_1155 : Cond.methodLink "PoetFines" 171 ⟨"PoetFines", "needLine", "(II)V"⟩ ∈ kG := kG_of kch5 84 rfl rfl
theorem wd_1158 : Cond.code ⟨"PoetFines", "needLine", "(II)V"⟩ prog_1_method_44_code 3 none ∈ kG := kG_of kch5 87 rfl rfl
theorem wd_1157 : Cond.instanceMethod ⟨"PoetFines", "needLine", "(II)V"⟩ ∈ kG := kG_of kch5 86 rfl rfl
theorem wd_32 : Cond.selects "PoetFines" ⟨"PoetFines", "needLine", "(II)V"⟩ ⟨"PoetFines", "needLine", "(II)V"⟩ ∈ kG := kG_of kch0 32 rfl rfl
theorem wd_544 : Cond.methodLink "PoetFines" 189 ⟨"PoetFines", "refusedAct", "()I"⟩ ∈ kG := kG_of kch2 193 rfl rfl
theorem wd_547 : Cond.code ⟨"PoetFines", "refusedAct", "()I"⟩ prog_1_method_41_code 1 (some .int) ∈ kG := kG_of kch2 196 rfl rfl
theorem wd_546 : Cond.instanceMethod ⟨"PoetFines", "refusedAct", "()I"⟩ ∈ kG := kG_of kch2 195 rfl rfl
theorem wd_1 : Cond.selects "PoetFines" ⟨"PoetFines", "refusedAct", "()I"⟩ ⟨"PoetFines", "refusedAct", "()I"⟩ ∈ kG := kG_of kch0 1 rfl rfl
theorem wd_236 : Cond.fieldLink "PoetFines$Chronicle" 51 "PoetFines$World" "cells" "[I" ∈ kG := kG_of kch1 125 rfl rfl
theorem wd_306 : Cond.fieldLink "PoetFines$Chronicle" 22 "PoetFines$Chronicle" "ahead" "[I" ∈ kG := kG_of kch1 195 rfl rfl
theorem wd_552 : Cond.methodLink "PoetFines$Chronicle" 45 ⟨"java/lang/System", "arraycopy", "(Ljava/lang/Object;ILjava/lang/Object;II)V"⟩ ∈ kG := kG_of kch2 201 rfl rfl
theorem wd_500 : Cond.fieldLink "PoetFines" 63 "PoetFines" "stage" "LPoetFines$Stage;" ∈ kG := kG_of kch2 149 rfl rfl
theorem wd_390 : Cond.fieldLink "PoetFines$Stage" 12 "PoetFines$Stage" "tally" "LPoetFines$Tally;" ∈ kG := kG_of kch2 39 rfl rfl
theorem wd_359 : Cond.fieldLink "PoetFines$Stage" 70 "PoetFines$Tally" "hitThisYear" "I" ∈ kG := kG_of kch2 8 rfl rfl
theorem wd_189 : Cond.fieldLink "PoetFines$Stage" 74 "PoetFines$Law" "poets" "I" ∈ kG := kG_of kch1 78 rfl rfl
theorem wd_187 : Cond.fieldLink "PoetFines$Stage" 91 "PoetFines$Law" "people" "I" ∈ kG := kG_of kch1 76 rfl rfl
theorem wd_347 : Cond.fieldLink "PoetFines$Stage" 98 "PoetFines$Tally" "earned" "[I" ∈ kG := kG_of kch1 236 rfl rfl
theorem wd_563 : Cond.methodLink "PoetFines$Stage" 94 ⟨"PoetFines$Stage", "wouldBuy", "(II)Z"⟩ ∈ kG := kG_of kch2 212 rfl rfl
theorem wd_566 : Cond.code ⟨"PoetFines$Stage", "wouldBuy", "(II)Z"⟩ prog_8_method_7_code 3 (some .boolean) ∈ kG := kG_of kch2 215 rfl rfl
theorem wd_565 : Cond.instanceMethod ⟨"PoetFines$Stage", "wouldBuy", "(II)Z"⟩ ∈ kG := kG_of kch2 214 rfl rfl
theorem wd_3 : Cond.selects "PoetFines$Stage" ⟨"PoetFines$Stage", "wouldBuy", "(II)Z"⟩ ⟨"PoetFines$Stage", "wouldBuy", "(II)Z"⟩ ∈ kG := kG_of kch0 3 rfl rfl
theorem wd_344 : Cond.fieldLink "PoetFines$Stage" 130 "PoetFines$Tally" "paid" "[I" ∈ kG := kG_of kch1 233 rfl rfl
theorem wd_628 : Cond.methodLink "PoetFines$Stage" 118 ⟨"java/lang/Math", "max", "(II)I"⟩ ∈ kG := kG_of kch3 37 rfl rfl
theorem wd_352 : Cond.fieldLink "PoetFines$Tally" 21 "PoetFines$Tally" "inches" "[I" ∈ kG := kG_of kch2 1 rfl rfl
theorem wd_354 : Cond.fieldLink "PoetFines$Tally" 24 "PoetFines$Tally" "allInches" "I" ∈ kG := kG_of kch2 3 rfl rfl
theorem wd_356 : Cond.fieldLink "PoetFines$Tally" 28 "PoetFines$Tally" "hits" "I" ∈ kG := kG_of kch2 5 rfl rfl
theorem wd_358 : Cond.fieldLink "PoetFines$Tally" 31 "PoetFines$Tally" "hitThisYear" "I" ∈ kG := kG_of kch2 7 rfl rfl
theorem wd_363 : Cond.fieldLink "PoetFines$Tally" 37 "PoetFines$Tally" "deepest" "I" ∈ kG := kG_of kch2 12 rfl rfl
theorem wd_637 : Cond.methodLink "PoetFines$Tally" 43 ⟨"java/lang/Math", "max", "(II)I"⟩ ∈ kG := kG_of kch3 46 rfl rfl
theorem wd_633 : Cond.methodLink "PoetFines$Stage" 133 ⟨"PoetFines$Tally", "addHit", "(III)V"⟩ ∈ kG := kG_of kch3 42 rfl rfl
theorem wd_120 : Cond.initialized "PoetFines$Tally" ∈ kG := kG_of kch1 9 rfl rfl
theorem wd_636 : Cond.code ⟨"PoetFines$Tally", "addHit", "(III)V"⟩ prog_9_method_3_code 4 none ∈ kG := kG_of kch3 45 rfl rfl
theorem wd_634 : Cond.instanceMethod ⟨"PoetFines$Tally", "addHit", "(III)V"⟩ ∈ kG := kG_of kch3 43 rfl rfl
theorem wd_635 : Cond.selects "PoetFines$Tally" ⟨"PoetFines$Tally", "addHit", "(III)V"⟩ ⟨"PoetFines$Tally", "addHit", "(III)V"⟩ ∈ kG := kG_of kch3 44 rfl rfl
theorem wd_629 : Cond.methodLink "PoetFines$Stage" 121 ⟨"PoetFines$Stage", "leaveScars", "(III)V"⟩ ∈ kG := kG_of kch3 38 rfl rfl
theorem wd_632 : Cond.code ⟨"PoetFines$Stage", "leaveScars", "(III)V"⟩ prog_8_method_10_code 5 none ∈ kG := kG_of kch3 41 rfl rfl
theorem wd_631 : Cond.instanceMethod ⟨"PoetFines$Stage", "leaveScars", "(III)V"⟩ ∈ kG := kG_of kch3 40 rfl rfl
theorem wd_7 : Cond.selects "PoetFines$Stage" ⟨"PoetFines$Stage", "leaveScars", "(III)V"⟩ ⟨"PoetFines$Stage", "leaveScars", "(III)V"⟩ ∈ kG := kG_of kch0 7 rfl rfl
theorem wd_624 : Cond.methodLink "PoetFines$Stage" 114 ⟨"PoetFines$Stage", "payFine", "(III)I"⟩ ∈ kG := kG_of kch3 33 rfl rfl
theorem wd_627 : Cond.code ⟨"PoetFines$Stage", "payFine", "(III)I"⟩ prog_8_method_9_code 6 (some .int) ∈ kG := kG_of kch3 36 rfl rfl
theorem wd_626 : Cond.instanceMethod ⟨"PoetFines$Stage", "payFine", "(III)I"⟩ ∈ kG := kG_of kch3 35 rfl rfl
theorem wd_6 : Cond.selects "PoetFines$Stage" ⟨"PoetFines$Stage", "payFine", "(III)I"⟩ ⟨"PoetFines$Stage", "payFine", "(III)I"⟩ ∈ kG := kG_of kch0 6 rfl rfl
theorem wd_612 : Cond.methodLink "PoetFines$Stage" 111 ⟨"PoetFines$Stage", "fineFor", "(IIII)I"⟩ ∈ kG := kG_of kch3 21 rfl rfl
theorem wd_598 : Cond.methodLink "PoetFines$Stage" 107 ⟨"PoetFines$Stage", "inchesInto", "(IIII)I"⟩ ∈ kG := kG_of kch3 7 rfl rfl
theorem wd_350 : Cond.fieldLink "PoetFines$Stage" 124 "PoetFines$Tally" "read" "[I" ∈ kG := kG_of kch1 239 rfl rfl
theorem wd_642 : Cond.methodLink "PoetFines$Stage" 88 ⟨"PoetFines$Law", "behind", "(II)I"⟩ ∈ kG := kG_of kch3 51 rfl rfl
theorem wd_645 : Cond.code ⟨"PoetFines$Law", "behind", "(II)I"⟩ prog_4_method_8_code 3 (some .int) ∈ kG := kG_of kch3 54 rfl rfl
theorem wd_643 : Cond.instanceMethod ⟨"PoetFines$Law", "behind", "(II)I"⟩ ∈ kG := kG_of kch3 52 rfl rfl
theorem wd_644 : Cond.selects "PoetFines$Law" ⟨"PoetFines$Law", "behind", "(II)I"⟩ ⟨"PoetFines$Law", "behind", "(II)I"⟩ ∈ kG := kG_of kch3 53 rfl rfl
theorem wd_638 : Cond.methodLink "PoetFines$Stage" 127 ⟨"PoetFines$Stage", "turnPage", "(I)V"⟩ ∈ kG := kG_of kch3 47 rfl rfl
theorem wd_641 : Cond.code ⟨"PoetFines$Stage", "turnPage", "(I)V"⟩ prog_8_method_5_code 2 none ∈ kG := kG_of kch3 50 rfl rfl
theorem wd_639 : Cond.instanceMethod ⟨"PoetFines$Stage", "turnPage", "(I)V"⟩ ∈ kG := kG_of kch3 48 rfl rfl
theorem wd_640 : Cond.selects "PoetFines$Stage" ⟨"PoetFines$Stage", "turnPage", "(I)V"⟩ ⟨"PoetFines$Stage", "turnPage", "(I)V"⟩ ∈ kG := kG_of kch3 49 rfl rfl
theorem wd_594 : Cond.methodLink "PoetFines$Stage" 104 ⟨"PoetFines$World", "depthOf", "(II)I"⟩ ∈ kG := kG_of kch3 3 rfl rfl
theorem wd_590 : Cond.methodLink "PoetFines$Stage" 101 ⟨"PoetFines$Law", "topicOf", "(II)I"⟩ ∈ kG := kG_of kch2 239 rfl rfl
theorem wd_586 : Cond.methodLink "PoetFines$Stage" 81 ⟨"PoetFines$Stage", "readNext", "(IZ)V"⟩ ∈ kG := kG_of kch2 235 rfl rfl
theorem wd_589 : Cond.code ⟨"PoetFines$Stage", "readNext", "(IZ)V"⟩ prog_8_method_8_code 10 none ∈ kG := kG_of kch2 238 rfl rfl
theorem wd_588 : Cond.instanceMethod ⟨"PoetFines$Stage", "readNext", "(IZ)V"⟩ ∈ kG := kG_of kch2 237 rfl rfl
theorem wd_5 : Cond.selects "PoetFines$Stage" ⟨"PoetFines$Stage", "readNext", "(IZ)V"⟩ ⟨"PoetFines$Stage", "readNext", "(IZ)V"⟩ ∈ kG := kG_of kch0 5 rfl rfl
theorem wd_559 : Cond.methodLink "PoetFines$Stage" 77 ⟨"PoetFines$Stage", "sellVolumes", "(I)V"⟩ ∈ kG := kG_of kch2 208 rfl rfl
theorem wd_562 : Cond.code ⟨"PoetFines$Stage", "sellVolumes", "(I)V"⟩ prog_8_method_6_code 4 none ∈ kG := kG_of kch2 211 rfl rfl
theorem wd_561 : Cond.instanceMethod ⟨"PoetFines$Stage", "sellVolumes", "(I)V"⟩ ∈ kG := kG_of kch2 210 rfl rfl
theorem wd_2 : Cond.selects "PoetFines$Stage" ⟨"PoetFines$Stage", "sellVolumes", "(I)V"⟩ ⟨"PoetFines$Stage", "sellVolumes", "(I)V"⟩ ∈ kG := kG_of kch0 2 rfl rfl
theorem wd_361 : Cond.fieldLink "PoetFines$Tally" 34 "PoetFines$Tally" "injured" "I" ∈ kG := kG_of kch2 10 rfl rfl
theorem wd_365 : Cond.fieldLink "PoetFines$Tally" 40 "PoetFines$Tally" "quiet" "I" ∈ kG := kG_of kch2 14 rfl rfl
theorem wd_646 : Cond.methodLink "PoetFines$Stage" 85 ⟨"PoetFines$Tally", "closeYear", "()V"⟩ ∈ kG := kG_of kch3 55 rfl rfl
theorem wd_649 : Cond.code ⟨"PoetFines$Tally", "closeYear", "()V"⟩ prog_9_method_4_code 1 none ∈ kG := kG_of kch3 58 rfl rfl
theorem wd_647 : Cond.instanceMethod ⟨"PoetFines$Tally", "closeYear", "()V"⟩ ∈ kG := kG_of kch3 56 rfl rfl
theorem wd_648 : Cond.selects "PoetFines$Tally" ⟨"PoetFines$Tally", "closeYear", "()V"⟩ ⟨"PoetFines$Tally", "closeYear", "()V"⟩ ∈ kG := kG_of kch3 57 rfl rfl
theorem wd_555 : Cond.methodLink "PoetFines" 196 ⟨"PoetFines$Stage", "passYear", "(Z)V"⟩ ∈ kG := kG_of kch2 204 rfl rfl
theorem wd_558 : Cond.code ⟨"PoetFines$Stage", "passYear", "(Z)V"⟩ prog_8_method_4_code 3 none ∈ kG := kG_of kch2 207 rfl rfl
theorem wd_556 : Cond.instanceMethod ⟨"PoetFines$Stage", "passYear", "(Z)V"⟩ ∈ kG := kG_of kch2 205 rfl rfl
theorem wd_557 : Cond.selects "PoetFines$Stage" ⟨"PoetFines$Stage", "passYear", "(Z)V"⟩ ⟨"PoetFines$Stage", "passYear", "(Z)V"⟩ ∈ kG := kG_of kch2 206 rfl rfl
theorem wd_548 : Cond.methodLink "PoetFines" 193 ⟨"PoetFines$Chronicle", "remember", "()V"⟩ ∈ kG := kG_of kch2 197 rfl rfl
theorem wd_551 : Cond.code ⟨"PoetFines$Chronicle", "remember", "()V"⟩ prog_2_method_4_code 2 none ∈ kG := kG_of kch2 200 rfl rfl
theorem wd_549 : Cond.instanceMethod ⟨"PoetFines$Chronicle", "remember", "()V"⟩ ∈ kG := kG_of kch2 198 rfl rfl
theorem wd_550 : Cond.selects "PoetFines$Chronicle" ⟨"PoetFines$Chronicle", "remember", "()V"⟩ ⟨"PoetFines$Chronicle", "remember", "()V"⟩ ∈ kG := kG_of kch2 199 rfl rfl
theorem wd_1183 : Cond.methodLink "PoetFines" 200 ⟨"PoetFines$Stage", "turnPage", "(I)V"⟩ ∈ kG := kG_of kch5 112 rfl rfl
theorem wd_1191 : Cond.methodLink "PoetFines" 203 ⟨"PoetFines$World", "setDepth", "(III)V"⟩ ∈ kG := kG_of kch5 120 rfl rfl
theorem wd_654 : Cond.methodLink "PoetFines" 207 ⟨"PoetFines$Chronicle", "recall", "()V"⟩ ∈ kG := kG_of kch3 63 rfl rfl
theorem wd_657 : Cond.code ⟨"PoetFines$Chronicle", "recall", "()V"⟩ prog_2_method_5_code 2 none ∈ kG := kG_of kch3 66 rfl rfl
theorem wd_655 : Cond.instanceMethod ⟨"PoetFines$Chronicle", "recall", "()V"⟩ ∈ kG := kG_of kch3 64 rfl rfl
theorem wd_656 : Cond.selects "PoetFines$Chronicle" ⟨"PoetFines$Chronicle", "recall", "()V"⟩ ⟨"PoetFines$Chronicle", "recall", "()V"⟩ ∈ kG := kG_of kch3 65 rfl rfl
theorem wd_502 : Cond.fieldLink "PoetFines" 81 "PoetFines" "oracle" "LPoetFines$Oracle;" ∈ kG := kG_of kch2 151 rfl rfl
theorem wd_449 : Cond.fieldLink "PoetFines$Oracle" 12 "PoetFines$Oracle" "trial" "LPoetFines$World;" ∈ kG := kG_of kch2 98 rfl rfl
theorem wd_458 : Cond.fieldLink "PoetFines$Oracle" 46 "PoetFines$Oracle" "chronicle" "LPoetFines$Chronicle;" ∈ kG := kG_of kch2 107 rfl rfl
theorem wd_303 : Cond.fieldLink "PoetFines$Oracle" 98 "PoetFines$Chronicle" "now" "LPoetFines$World;" ∈ kG := kG_of kch1 192 rfl rfl
theorem wd_451 : Cond.fieldLink "PoetFines$Oracle" 63 "PoetFines$Oracle" "tally" "LPoetFines$Tally;" ∈ kG := kG_of kch2 100 rfl rfl
theorem wd_342 : Cond.fieldLink "PoetFines$Tally" 9 "PoetFines$Tally" "paid" "[I" ∈ kG := kG_of kch1 231 rfl rfl
theorem wd_346 : Cond.fieldLink "PoetFines$Tally" 15 "PoetFines$Tally" "earned" "[I" ∈ kG := kG_of kch1 235 rfl rfl
theorem wd_349 : Cond.fieldLink "PoetFines$Tally" 18 "PoetFines$Tally" "read" "[I" ∈ kG := kG_of kch1 238 rfl rfl
theorem wd_1234 : Cond.methodLink "PoetFines$Oracle" 179 ⟨"PoetFines$Tally", "clear", "()V"⟩ ∈ kG := kG_of kch5 163 rfl rfl
theorem wd_1237 : Cond.code ⟨"PoetFines$Tally", "clear", "()V"⟩ prog_9_method_2_code 2 none ∈ kG := kG_of kch5 166 rfl rfl
theorem wd_1235 : Cond.instanceMethod ⟨"PoetFines$Tally", "clear", "()V"⟩ ∈ kG := kG_of kch5 164 rfl rfl
theorem wd_1236 : Cond.selects "PoetFines$Tally" ⟨"PoetFines$Tally", "clear", "()V"⟩ ⟨"PoetFines$Tally", "clear", "()V"⟩ ∈ kG := kG_of kch5 165 rfl rfl
theorem wd_1233 : Cond.methodLink "PoetFines$Oracle" 175 ⟨"PoetFines$World", "copyFrom", "(LPoetFines$World;)V"⟩ ∈ kG := kG_of kch5 162 rfl rfl
theorem wd_459 : Cond.fieldLink "PoetFines$Oracle" 55 "PoetFines$Oracle" "stage" "LPoetFines$Stage;" ∈ kG := kG_of kch2 108 rfl rfl
theorem wd_1242 : Cond.methodLink "PoetFines$Oracle" 75 ⟨"PoetFines$Stage", "passYear", "(Z)V"⟩ ∈ kG := kG_of kch5 171 rfl rfl
theorem wd_1238 : Cond.methodLink "PoetFines$Oracle" 67 ⟨"PoetFines$Oracle", "letGoBy", "(I)V"⟩ ∈ kG := kG_of kch5 167 rfl rfl
theorem wd_122 : Cond.initialized "PoetFines$Oracle" ∈ kG := kG_of kch1 11 rfl rfl
theorem wd_1241 : Cond.code ⟨"PoetFines$Oracle", "letGoBy", "(I)V"⟩ prog_5_method_23_code 3 none ∈ kG := kG_of kch5 170 rfl rfl
theorem wd_1240 : Cond.instanceMethod ⟨"PoetFines$Oracle", "letGoBy", "(I)V"⟩ ∈ kG := kG_of kch5 169 rfl rfl
theorem wd_36 : Cond.selects "PoetFines$Oracle" ⟨"PoetFines$Oracle", "letGoBy", "(I)V"⟩ ⟨"PoetFines$Oracle", "letGoBy", "(I)V"⟩ ∈ kG := kG_of kch0 36 rfl rfl
theorem wd_1229 : Cond.methodLink "PoetFines$Oracle" 64 ⟨"PoetFines$Oracle", "begin", "()V"⟩ ∈ kG := kG_of kch5 158 rfl rfl
theorem wd_1232 : Cond.code ⟨"PoetFines$Oracle", "begin", "()V"⟩ prog_5_method_22_code 1 none ∈ kG := kG_of kch5 161 rfl rfl
theorem wd_1231 : Cond.instanceMethod ⟨"PoetFines$Oracle", "begin", "()V"⟩ ∈ kG := kG_of kch5 160 rfl rfl
theorem wd_35 : Cond.selects "PoetFines$Oracle" ⟨"PoetFines$Oracle", "begin", "()V"⟩ ⟨"PoetFines$Oracle", "begin", "()V"⟩ ∈ kG := kG_of kch0 35 rfl rfl
theorem wd_450 : Cond.fieldLink "PoetFines" 216 "PoetFines$Oracle" "trial" "LPoetFines$World;" ∈ kG := kG_of kch2 99 rfl rfl
theorem wd_1225 : Cond.methodLink "PoetFines" 213 ⟨"PoetFines$Oracle", "foresee", "(I)V"⟩ ∈ kG := kG_of kch5 154 rfl rfl
theorem wd_1228 : Cond.code ⟨"PoetFines$Oracle", "foresee", "(I)V"⟩ prog_5_method_2_code 2 none ∈ kG := kG_of kch5 157 rfl rfl
theorem wd_1226 : Cond.instanceMethod ⟨"PoetFines$Oracle", "foresee", "(I)V"⟩ ∈ kG := kG_of kch5 155 rfl rfl
theorem wd_1227 : Cond.selects "PoetFines$Oracle" ⟨"PoetFines$Oracle", "foresee", "(I)V"⟩ ⟨"PoetFines$Oracle", "foresee", "(I)V"⟩ ∈ kG := kG_of kch5 156 rfl rfl
theorem wd_1220 : Cond.methodLink "PoetFines" 210 ⟨"PoetFines", "needWithin", "(III)V"⟩ ∈ kG := kG_of kch5 149 rfl rfl
theorem wd_1223 : Cond.code ⟨"PoetFines", "needWithin", "(III)V"⟩ prog_1_method_46_code 4 none ∈ kG := kG_of kch5 152 rfl rfl
theorem wd_1222 : Cond.instanceMethod ⟨"PoetFines", "needWithin", "(III)V"⟩ ∈ kG := kG_of kch5 151 rfl rfl
theorem wd_34 : Cond.selects "PoetFines" ⟨"PoetFines", "needWithin", "(III)V"⟩ ⟨"PoetFines", "needWithin", "(III)V"⟩ ∈ kG := kG_of kch0 34 rfl rfl
theorem wd_452 : Cond.fieldLink "PoetFines" 219 "PoetFines$Oracle" "tally" "LPoetFines$Tally;" ∈ kG := kG_of kch2 101 rfl rfl
theorem wd_345 : Cond.fieldLink "PoetFines" 223 "PoetFines$Tally" "paid" "[I" ∈ kG := kG_of kch1 234 rfl rfl
theorem wd_348 : Cond.fieldLink "PoetFines" 228 "PoetFines$Tally" "earned" "[I" ∈ kG := kG_of kch1 237 rfl rfl
theorem wd_351 : Cond.fieldLink "PoetFines" 231 "PoetFines$Tally" "read" "[I" ∈ kG := kG_of kch2 0 rfl rfl
theorem wd_1261 : Cond.methodLink "PoetFines$Oracle" 71 ⟨"PoetFines$World", "hitsBy", "(II)I"⟩ ∈ kG := kG_of kch5 190 rfl rfl
theorem wd_1257 : Cond.methodLink "PoetFines" 234 ⟨"PoetFines$Oracle", "firstHit", "(II)I"⟩ ∈ kG := kG_of kch5 186 rfl rfl
theorem wd_1260 : Cond.code ⟨"PoetFines$Oracle", "firstHit", "(II)I"⟩ prog_5_method_3_code 5 (some .int) ∈ kG := kG_of kch5 189 rfl rfl
theorem wd_1258 : Cond.instanceMethod ⟨"PoetFines$Oracle", "firstHit", "(II)I"⟩ ∈ kG := kG_of kch5 187 rfl rfl
theorem wd_1259 : Cond.selects "PoetFines$Oracle" ⟨"PoetFines$Oracle", "firstHit", "(II)I"⟩ ⟨"PoetFines$Oracle", "firstHit", "(II)I"⟩ ∈ kG := kG_of kch5 188 rfl rfl
theorem wd_457 : Cond.fieldLink "PoetFines$Oracle" 42 "PoetFines$Oracle" "law" "LPoetFines$Law;" ∈ kG := kG_of kch2 106 rfl rfl
theorem wd_185 : Cond.fieldLink "PoetFines$Oracle" 79 "PoetFines$Law" "people" "I" ∈ kG := kG_of kch1 74 rfl rfl
theorem wd_237 : Cond.fieldLink "PoetFines$Oracle" 84 "PoetFines$World" "cells" "[I" ∈ kG := kG_of kch1 126 rfl rfl
theorem wd_1269 : Cond.methodLink "PoetFines" 237 ⟨"PoetFines$Oracle", "richest", "()I"⟩ ∈ kG := kG_of kch5 198 rfl rfl
theorem wd_1272 : Cond.code ⟨"PoetFines$Oracle", "richest", "()I"⟩ prog_5_method_4_code 3 (some .int) ∈ kG := kG_of kch5 201 rfl rfl
theorem wd_1270 : Cond.instanceMethod ⟨"PoetFines$Oracle", "richest", "()I"⟩ ∈ kG := kG_of kch5 199 rfl rfl
theorem wd_1271 : Cond.selects "PoetFines$Oracle" ⟨"PoetFines$Oracle", "richest", "()I"⟩ ⟨"PoetFines$Oracle", "richest", "()I"⟩ ∈ kG := kG_of kch5 200 rfl rfl
theorem wd_191 : Cond.fieldLink "PoetFines$Oracle" 87 "PoetFines$Law" "poets" "I" ∈ kG := kG_of kch1 80 rfl rfl
theorem wd_1273 : Cond.methodLink "PoetFines" 240 ⟨"PoetFines$Oracle", "poorestPoet", "()I"⟩ ∈ kG := kG_of kch5 202 rfl rfl
theorem wd_1276 : Cond.code ⟨"PoetFines$Oracle", "poorestPoet", "()I"⟩ prog_5_method_5_code 3 (some .int) ∈ kG := kG_of kch5 205 rfl rfl
theorem wd_1274 : Cond.instanceMethod ⟨"PoetFines$Oracle", "poorestPoet", "()I"⟩ ∈ kG := kG_of kch5 203 rfl rfl
theorem wd_1275 : Cond.selects "PoetFines$Oracle" ⟨"PoetFines$Oracle", "poorestPoet", "()I"⟩ ⟨"PoetFines$Oracle", "poorestPoet", "()I"⟩ ∈ kG := kG_of kch5 204 rfl rfl
theorem wd_362 : Cond.fieldLink "PoetFines" 243 "PoetFines$Tally" "injured" "I" ∈ kG := kG_of kch2 11 rfl rfl
theorem wd_366 : Cond.fieldLink "PoetFines" 249 "PoetFines$Tally" "quiet" "I" ∈ kG := kG_of kch2 15 rfl rfl
theorem wd_364 : Cond.fieldLink "PoetFines" 246 "PoetFines$Tally" "deepest" "I" ∈ kG := kG_of kch2 13 rfl rfl
theorem wd_1291 : Cond.methodLink "PoetFines" 252 ⟨"PoetFines$Stage", "inchesInto", "(IIII)I"⟩ ∈ kG := kG_of kch5 220 rfl rfl
theorem wd_1299 : Cond.methodLink "PoetFines" 256 ⟨"PoetFines$Court", "safeDepth", "(II)I"⟩ ∈ kG := kG_of kch5 228 rfl rfl
theorem wd_1302 : Cond.code ⟨"PoetFines$Court", "safeDepth", "(II)I"⟩ prog_3_method_5_code 5 (some .int) ∈ kG := kG_of kch5 231 rfl rfl
theorem wd_1300 : Cond.instanceMethod ⟨"PoetFines$Court", "safeDepth", "(II)I"⟩ ∈ kG := kG_of kch5 229 rfl rfl
theorem wd_1301 : Cond.selects "PoetFines$Court" ⟨"PoetFines$Court", "safeDepth", "(II)I"⟩ ⟨"PoetFines$Court", "safeDepth", "(II)I"⟩ ∈ kG := kG_of kch5 230 rfl rfl
theorem wd_196 : Cond.fieldLink "PoetFines$Court" 69 "PoetFines$Law" "lines" "[I" ∈ kG := kG_of kch1 85 rfl rfl
theorem wd_411 : Cond.fieldLink "PoetFines$Court" 9 "PoetFines$Court" "lineFine" "[I" ∈ kG := kG_of kch2 60 rfl rfl
theorem wd_412 : Cond.fieldLink "PoetFines$Court" 15 "PoetFines$Court" "lineInches" "[I" ∈ kG := kG_of kch2 61 rfl rfl
theorem wd_1315 : Cond.methodLink "PoetFines$Court" 76 ⟨"PoetFines$Court", "inchesOfLine", "(II)I"⟩ ∈ kG := kG_of kch6 4 rfl rfl
theorem wd_1314 : Cond.methodLink "PoetFines$Court" 72 ⟨"PoetFines$Court", "fineOfLine", "(II)I"⟩ ∈ kG := kG_of kch6 3 rfl rfl
theorem wd_1316 : Cond.methodLink "PoetFines$Court" 79 ⟨"PoetFines$Court", "sumOf", "([II)I"⟩ ∈ kG := kG_of kch6 5 rfl rfl
theorem wd_1318 : Cond.code ⟨"PoetFines$Court", "sumOf", "([II)I"⟩ prog_3_method_17_code 4 (some .int) ∈ kG := kG_of kch6 7 rfl rfl
theorem wd_1317 : Cond.static ⟨"PoetFines$Court", "sumOf", "([II)I"⟩ ∈ kG := kG_of kch6 6 rfl rfl
theorem wd_1319 : Cond.methodLink "PoetFines$Court" 83 ⟨"PoetFines$Court", "inchesOf", "(I)I"⟩ ∈ kG := kG_of kch6 8 rfl rfl
theorem wd_1322 : Cond.code ⟨"PoetFines$Court", "inchesOf", "(I)I"⟩ prog_3_method_7_code 2 (some .int) ∈ kG := kG_of kch6 11 rfl rfl
theorem wd_1320 : Cond.instanceMethod ⟨"PoetFines$Court", "inchesOf", "(I)I"⟩ ∈ kG := kG_of kch6 9 rfl rfl
theorem wd_1321 : Cond.selects "PoetFines$Court" ⟨"PoetFines$Court", "inchesOf", "(I)I"⟩ ⟨"PoetFines$Court", "inchesOf", "(I)I"⟩ ∈ kG := kG_of kch6 10 rfl rfl
theorem wd_1323 : Cond.methodLink "PoetFines" 262 ⟨"PoetFines$Court", "inchesOf", "(I)I"⟩ ∈ kG := kG_of kch6 12 rfl rfl
theorem wd_1310 : Cond.methodLink "PoetFines" 259 ⟨"PoetFines$Court", "sonnetLines", "(I)I"⟩ ∈ kG := kG_of kch5 239 rfl rfl
theorem wd_1313 : Cond.code ⟨"PoetFines$Court", "sonnetLines", "(I)I"⟩ prog_3_method_6_code 6 (some .int) ∈ kG := kG_of kch6 2 rfl rfl
theorem wd_1311 : Cond.instanceMethod ⟨"PoetFines$Court", "sonnetLines", "(I)I"⟩ ∈ kG := kG_of kch6 0 rfl rfl
theorem wd_1312 : Cond.selects "PoetFines$Court" ⟨"PoetFines$Court", "sonnetLines", "(I)I"⟩ ⟨"PoetFines$Court", "sonnetLines", "(I)I"⟩ ∈ kG := kG_of kch6 1 rfl rfl
theorem wd_413 : Cond.fieldLink "PoetFines$Court" 18 "PoetFines$Court" "due" "[I" ∈ kG := kG_of kch2 62 rfl rfl
theorem wd_1335 : Cond.methodLink "PoetFines$Court" 87 ⟨"PoetFines$Court", "dueFrom", "(II)I"⟩ ∈ kG := kG_of kch6 24 rfl rfl
theorem wd_1338 : Cond.code ⟨"PoetFines$Court", "dueFrom", "(II)I"⟩ prog_3_method_16_code 5 (some .int) ∈ kG := kG_of kch6 27 rfl rfl
theorem wd_1337 : Cond.instanceMethod ⟨"PoetFines$Court", "dueFrom", "(II)I"⟩ ∈ kG := kG_of kch6 26 rfl rfl
theorem wd_37 : Cond.selects "PoetFines$Court" ⟨"PoetFines$Court", "dueFrom", "(II)I"⟩ ⟨"PoetFines$Court", "dueFrom", "(II)I"⟩ ∈ kG := kG_of kch0 37 rfl rfl
theorem wd_1342 : Cond.constant "java/lang/Integer" 265 1431655765 ∈ kG := kG_of kch6 31 rfl rfl
theorem wd_1343 : Cond.constant "java/lang/Integer" 266 858993459 ∈ kG := kG_of kch6 32 rfl rfl
theorem wd_1344 : Cond.constant "java/lang/Integer" 267 252645135 ∈ kG := kG_of kch6 33 rfl rfl
theorem wd_1339 : Cond.methodLink "PoetFines$Court" 90 ⟨"java/lang/Integer", "bitCount", "(I)I"⟩ ∈ kG := kG_of kch6 28 rfl rfl
theorem wd_138 : Cond.initialized "java/lang/Integer" ∈ kG := kG_of kch1 27 rfl rfl
theorem wd_1341 : Cond.code ⟨"java/lang/Integer", "bitCount", "(I)I"⟩ prog_22_method_49_code 1 (some .int) ∈ kG := kG_of kch6 30 rfl rfl
theorem wd_1340 : Cond.static ⟨"java/lang/Integer", "bitCount", "(I)I"⟩ ∈ kG := kG_of kch6 29 rfl rfl
theorem wd_1331 : Cond.methodLink "PoetFines" 265 ⟨"PoetFines$Court", "classAction", "(I)I"⟩ ∈ kG := kG_of kch6 20 rfl rfl
theorem wd_1334 : Cond.code ⟨"PoetFines$Court", "classAction", "(I)I"⟩ prog_3_method_8_code 6 (some .int) ∈ kG := kG_of kch6 23 rfl rfl
theorem wd_1332 : Cond.instanceMethod ⟨"PoetFines$Court", "classAction", "(I)I"⟩ ∈ kG := kG_of kch6 21 rfl rfl
theorem wd_1333 : Cond.selects "PoetFines$Court" ⟨"PoetFines$Court", "classAction", "(I)I"⟩ ⟨"PoetFines$Court", "classAction", "(I)I"⟩ ∈ kG := kG_of kch6 22 rfl rfl
theorem wd_193 : Cond.fieldLink "PoetFines$Court" 95 "PoetFines$Law" "poets" "I" ∈ kG := kG_of kch1 82 rfl rfl
theorem wd_415 : Cond.fieldLink "PoetFines$Court" 24 "PoetFines$Court" "row" "[I" ∈ kG := kG_of kch2 64 rfl rfl
theorem wd_416 : Cond.fieldLink "PoetFines$Court" 27 "PoetFines$Court" "bestRow" "[I" ∈ kG := kG_of kch2 65 rfl rfl
theorem wd_414 : Cond.fieldLink "PoetFines$Court" 21 "PoetFines$Court" "reach" "[I" ∈ kG := kG_of kch2 63 rfl rfl
theorem wd_1356 : Cond.methodLink "PoetFines$Court" 98 ⟨"PoetFines$Court", "sits", "(I)Z"⟩ ∈ kG := kG_of kch6 45 rfl rfl
theorem wd_1359 : Cond.code ⟨"PoetFines$Court", "sits", "(I)Z"⟩ prog_3_method_13_code 2 (some .boolean) ∈ kG := kG_of kch6 48 rfl rfl
theorem wd_1358 : Cond.instanceMethod ⟨"PoetFines$Court", "sits", "(I)Z"⟩ ∈ kG := kG_of kch6 47 rfl rfl
theorem wd_38 : Cond.selects "PoetFines$Court" ⟨"PoetFines$Court", "sits", "(I)Z"⟩ ⟨"PoetFines$Court", "sits", "(I)Z"⟩ ∈ kG := kG_of kch0 38 rfl rfl
theorem wd_418 : Cond.fieldLink "PoetFines$Court" 30 "PoetFines$Court" "bestSum" "I" ∈ kG := kG_of kch2 67 rfl rfl
theorem wd_1360 : Cond.methodLink "PoetFines$Court" 102 ⟨"java/lang/Math", "max", "(II)I"⟩ ∈ kG := kG_of kch6 49 rfl rfl
theorem wd_1361 : Cond.methodLink "PoetFines$Court" 107 ⟨"PoetFines$Court", "assignFrom", "(IIII)V"⟩ ∈ kG := kG_of kch6 50 rfl rfl
theorem wd_1364 : Cond.code ⟨"PoetFines$Court", "assignFrom", "(IIII)V"⟩ prog_3_method_11_code 6 none ∈ kG := kG_of kch6 53 rfl rfl
theorem wd_1363 : Cond.instanceMethod ⟨"PoetFines$Court", "assignFrom", "(IIII)V"⟩ ∈ kG := kG_of kch6 52 rfl rfl
theorem wd_39 : Cond.selects "PoetFines$Court" ⟨"PoetFines$Court", "assignFrom", "(IIII)V"⟩ ⟨"PoetFines$Court", "assignFrom", "(IIII)V"⟩ ∈ kG := kG_of kch0 39 rfl rfl
theorem wd_1369 : Cond.methodLink "PoetFines$Court" 115 ⟨"java/lang/System", "arraycopy", "(Ljava/lang/Object;ILjava/lang/Object;II)V"⟩ ∈ kG := kG_of kch6 58 rfl rfl
theorem wd_1365 : Cond.methodLink "PoetFines$Court" 111 ⟨"PoetFines$Court", "keepRow", "(I)V"⟩ ∈ kG := kG_of kch6 54 rfl rfl
theorem wd_1368 : Cond.code ⟨"PoetFines$Court", "keepRow", "(I)V"⟩ prog_3_method_12_code 2 none ∈ kG := kG_of kch6 57 rfl rfl
theorem wd_1367 : Cond.instanceMethod ⟨"PoetFines$Court", "keepRow", "(I)V"⟩ ∈ kG := kG_of kch6 56 rfl rfl
theorem wd_40 : Cond.selects "PoetFines$Court" ⟨"PoetFines$Court", "keepRow", "(I)V"⟩ ⟨"PoetFines$Court", "keepRow", "(I)V"⟩ ∈ kG := kG_of kch0 40 rfl rfl
theorem wd_417 : Cond.fieldLink "PoetFines" 274 "PoetFines$Court" "bestRow" "[I" ∈ kG := kG_of kch2 66 rfl rfl
theorem wd_419 : Cond.fieldLink "PoetFines" 271 "PoetFines$Court" "bestSum" "I" ∈ kG := kG_of kch2 68 rfl rfl
theorem wd_1352 : Cond.methodLink "PoetFines" 268 ⟨"PoetFines$Court", "assignReadings", "()V"⟩ ∈ kG := kG_of kch6 41 rfl rfl
theorem wd_1355 : Cond.code ⟨"PoetFines$Court", "assignReadings", "()V"⟩ prog_3_method_10_code 5 none ∈ kG := kG_of kch6 44 rfl rfl
theorem wd_1353 : Cond.instanceMethod ⟨"PoetFines$Court", "assignReadings", "()V"⟩ ∈ kG := kG_of kch6 42 rfl rfl
theorem wd_1354 : Cond.selects "PoetFines$Court" ⟨"PoetFines$Court", "assignReadings", "()V"⟩ ⟨"PoetFines$Court", "assignReadings", "()V"⟩ ∈ kG := kG_of kch6 43 rfl rfl
theorem wd_355 : Cond.fieldLink "PoetFines$Oracle" 103 "PoetFines$Tally" "allInches" "I" ∈ kG := kG_of kch2 4 rfl rfl
theorem wd_198 : Cond.fieldLink "PoetFines$Oracle" 106 "PoetFines$Law" "lines" "[I" ∈ kG := kG_of kch1 87 rfl rfl
theorem wd_1386 : Cond.methodLink "PoetFines$Oracle" 109 ⟨"PoetFines$Stage", "turnPage", "(I)V"⟩ ∈ kG := kG_of kch6 75 rfl rfl
theorem wd_1382 : Cond.methodLink "PoetFines" 280 ⟨"PoetFines$Oracle", "bestBurner", "(I)I"⟩ ∈ kG := kG_of kch6 71 rfl rfl
theorem wd_1385 : Cond.code ⟨"PoetFines$Oracle", "bestBurner", "(I)I"⟩ prog_5_method_8_code 5 (some .int) ∈ kG := kG_of kch6 74 rfl rfl
theorem wd_1383 : Cond.instanceMethod ⟨"PoetFines$Oracle", "bestBurner", "(I)I"⟩ ∈ kG := kG_of kch6 72 rfl rfl
theorem wd_1384 : Cond.selects "PoetFines$Oracle" ⟨"PoetFines$Oracle", "bestBurner", "(I)I"⟩ ⟨"PoetFines$Oracle", "bestBurner", "(I)I"⟩ ∈ kG := kG_of kch6 73 rfl rfl
theorem wd_1381 : Cond.methodLink "PoetFines$Oracle" 95 ⟨"PoetFines$World", "total", "(II)I"⟩ ∈ kG := kG_of kch6 70 rfl rfl
theorem wd_1377 : Cond.methodLink "PoetFines" 277 ⟨"PoetFines$Oracle", "bestPardon", "(I)I"⟩ ∈ kG := kG_of kch6 66 rfl rfl
theorem wd_1380 : Cond.code ⟨"PoetFines$Oracle", "bestPardon", "(I)I"⟩ prog_5_method_7_code 6 (some .int) ∈ kG := kG_of kch6 69 rfl rfl
theorem wd_1378 : Cond.instanceMethod ⟨"PoetFines$Oracle", "bestPardon", "(I)I"⟩ ∈ kG := kG_of kch6 67 rfl rfl
theorem wd_1379 : Cond.selects "PoetFines$Oracle" ⟨"PoetFines$Oracle", "bestPardon", "(I)I"⟩ ⟨"PoetFines$Oracle", "bestPardon", "(I)I"⟩ ∈ kG := kG_of kch6 68 rfl rfl
theorem wd_310 : Cond.fieldLink "PoetFines$Chronicle" 32 "PoetFines$Chronicle" "feltBy" "[I" ∈ kG := kG_of kch1 199 rfl rfl
theorem wd_311 : Cond.fieldLink "PoetFines$Chronicle" 35 "PoetFines$Chronicle" "feltIn" "[I" ∈ kG := kG_of kch1 200 rfl rfl
theorem wd_312 : Cond.fieldLink "PoetFines$Chronicle" 38 "PoetFines$Chronicle" "feltHit" "[I" ∈ kG := kG_of kch1 201 rfl rfl
theorem wd_1394 : Cond.methodLink "PoetFines" 283 ⟨"PoetFines$Chronicle", "addFelt", "(IIZ)V"⟩ ∈ kG := kG_of kch6 83 rfl rfl
theorem wd_1397 : Cond.code ⟨"PoetFines$Chronicle", "addFelt", "(IIZ)V"⟩ prog_2_method_6_code 4 none ∈ kG := kG_of kch6 86 rfl rfl
theorem wd_1395 : Cond.instanceMethod ⟨"PoetFines$Chronicle", "addFelt", "(IIZ)V"⟩ ∈ kG := kG_of kch6 84 rfl rfl
theorem wd_1396 : Cond.selects "PoetFines$Chronicle" ⟨"PoetFines$Chronicle", "addFelt", "(IIZ)V"⟩ ⟨"PoetFines$Chronicle", "addFelt", "(IIZ)V"⟩ ∈ kG := kG_of kch6 85 rfl rfl
theorem wd_1409 : Cond.methodLink "PoetFines$Chronicle" 54 ⟨"java/lang/Math", "max", "(II)I"⟩ ∈ kG := kG_of kch6 98 rfl rfl
theorem wd_453 : Cond.fieldLink "PoetFines$Oracle" 18 "PoetFines$Oracle" "found" "I" ∈ kG := kG_of kch2 102 rfl rfl
theorem wd_455 : Cond.fieldLink "PoetFines$Oracle" 22 "PoetFines$Oracle" "firstFound" "I" ∈ kG := kG_of kch2 104 rfl rfl
theorem wd_461 : Cond.fieldLink "PoetFines$Oracle" 29 "PoetFines$Oracle" "scarsSeen" "[J" ∈ kG := kG_of kch2 110 rfl rfl
theorem wd_181 : Cond.fieldLink "PoetFines$Oracle" 125 "PoetFines$Law" "topics" "I" ∈ kG := kG_of kch1 70 rfl rfl
theorem wd_460 : Cond.fieldLink "PoetFines$Oracle" 25 "PoetFines$Oracle" "scarsHeard" "[I" ∈ kG := kG_of kch2 109 rfl rfl
theorem wd_1439 : Cond.methodLink "PoetFines$Oracle" 145 ⟨"PoetFines$Oracle", "seeScars", "()V"⟩ ∈ kG := kG_of kch6 128 rfl rfl
theorem wd_1442 : Cond.code ⟨"PoetFines$Oracle", "seeScars", "()V"⟩ prog_5_method_12_code 3 none ∈ kG := kG_of kch6 131 rfl rfl
theorem wd_1441 : Cond.instanceMethod ⟨"PoetFines$Oracle", "seeScars", "()V"⟩ ∈ kG := kG_of kch6 130 rfl rfl
theorem wd_42 : Cond.selects "PoetFines$Oracle" ⟨"PoetFines$Oracle", "seeScars", "()V"⟩ ⟨"PoetFines$Oracle", "seeScars", "()V"⟩ ∈ kG := kG_of kch0 42 rfl rfl
theorem wd_1435 : Cond.methodLink "PoetFines$Oracle" 142 ⟨"PoetFines$Oracle", "addFound", "(I)V"⟩ ∈ kG := kG_of kch6 124 rfl rfl
theorem wd_1438 : Cond.code ⟨"PoetFines$Oracle", "addFound", "(I)V"⟩ prog_5_method_11_code 2 none ∈ kG := kG_of kch6 127 rfl rfl
theorem wd_1437 : Cond.instanceMethod ⟨"PoetFines$Oracle", "addFound", "(I)V"⟩ ∈ kG := kG_of kch6 126 rfl rfl
theorem wd_41 : Cond.selects "PoetFines$Oracle" ⟨"PoetFines$Oracle", "addFound", "(I)V"⟩ ⟨"PoetFines$Oracle", "addFound", "(I)V"⟩ ∈ kG := kG_of kch0 41 rfl rfl
theorem wd_360 : Cond.fieldLink "PoetFines$Oracle" 112 "PoetFines$Tally" "hitThisYear" "I" ∈ kG := kG_of kch2 9 rfl rfl
theorem wd_1418 : Cond.methodLink "PoetFines$Oracle" 119 ⟨"java/lang/System", "arraycopy", "(Ljava/lang/Object;ILjava/lang/Object;II)V"⟩ ∈ kG := kG_of kch6 107 rfl rfl
theorem wd_1414 : Cond.methodLink "PoetFines$Oracle" 115 ⟨"PoetFines$Chronicle", "agrees", "(II)Z"⟩ ∈ kG := kG_of kch6 103 rfl rfl
theorem wd_1417 : Cond.code ⟨"PoetFines$Chronicle", "agrees", "(II)Z"⟩ prog_2_method_8_code 4 (some .boolean) ∈ kG := kG_of kch6 106 rfl rfl
theorem wd_1415 : Cond.instanceMethod ⟨"PoetFines$Chronicle", "agrees", "(II)Z"⟩ ∈ kG := kG_of kch6 104 rfl rfl
theorem wd_1416 : Cond.selects "PoetFines$Chronicle" ⟨"PoetFines$Chronicle", "agrees", "(II)Z"⟩ ⟨"PoetFines$Chronicle", "agrees", "(II)Z"⟩ ∈ kG := kG_of kch6 105 rfl rfl
theorem wd_1431 : Cond.methodLink "PoetFines$Law" 64 ⟨"PoetFines$Rules", "mentions", "(II)Z"⟩ ∈ kG := kG_of kch6 120 rfl rfl
theorem wd_1434 : Cond.code ⟨"PoetFines$Rules", "mentions", "(II)Z"⟩ prog_7_method_5_code 4 (some .boolean) ∈ kG := kG_of kch6 123 rfl rfl
theorem wd_1432 : Cond.instanceMethod ⟨"PoetFines$Rules", "mentions", "(II)Z"⟩ ∈ kG := kG_of kch6 121 rfl rfl
theorem wd_1433 : Cond.selects "PoetFines$Rules" ⟨"PoetFines$Rules", "mentions", "(II)Z"⟩ ⟨"PoetFines$Rules", "mentions", "(II)Z"⟩ ∈ kG := kG_of kch6 122 rfl rfl
theorem wd_1430 : Cond.methodLink "PoetFines$Law" 60 ⟨"PoetFines$Rules", "has", "(I)Z"⟩ ∈ kG := kG_of kch6 119 rfl rfl
theorem wd_1426 : Cond.methodLink "PoetFines$Oracle" 139 ⟨"PoetFines$Law", "matters", "(I)Z"⟩ ∈ kG := kG_of kch6 115 rfl rfl
theorem wd_1429 : Cond.code ⟨"PoetFines$Law", "matters", "(I)Z"⟩ prog_4_method_10_code 4 (some .boolean) ∈ kG := kG_of kch6 118 rfl rfl
theorem wd_1427 : Cond.instanceMethod ⟨"PoetFines$Law", "matters", "(I)Z"⟩ ∈ kG := kG_of kch6 116 rfl rfl
theorem wd_1428 : Cond.selects "PoetFines$Law" ⟨"PoetFines$Law", "matters", "(I)Z"⟩ ⟨"PoetFines$Law", "matters", "(I)Z"⟩ ∈ kG := kG_of kch6 117 rfl rfl
theorem wd_1425 : Cond.methodLink "PoetFines$Oracle" 135 ⟨"PoetFines$Oracle", "allFelt", "(I)Z"⟩ ∈ kG := kG_of kch6 114 rfl rfl
theorem wd_1413 : Cond.code ⟨"PoetFines$Oracle", "allFelt", "(I)Z"⟩ prog_5_method_9_code 3 (some .boolean) ∈ kG := kG_of kch6 102 rfl rfl
theorem wd_1411 : Cond.instanceMethod ⟨"PoetFines$Oracle", "allFelt", "(I)Z"⟩ ∈ kG := kG_of kch6 100 rfl rfl
theorem wd_1412 : Cond.selects "PoetFines$Oracle" ⟨"PoetFines$Oracle", "allFelt", "(I)Z"⟩ ⟨"PoetFines$Oracle", "allFelt", "(I)Z"⟩ ∈ kG := kG_of kch6 101 rfl rfl
theorem wd_1424 : Cond.methodLink "PoetFines$Oracle" 131 ⟨"PoetFines$Law", "suppose", "(III)V"⟩ ∈ kG := kG_of kch6 113 rfl rfl
theorem wd_1423 : Cond.methodLink "PoetFines$Oracle" 128 ⟨"PoetFines$Law", "truthOf", "(II)I"⟩ ∈ kG := kG_of kch6 112 rfl rfl
theorem wd_456 : Cond.fieldLink "PoetFines" 300 "PoetFines$Oracle" "firstFound" "I" ∈ kG := kG_of kch2 105 rfl rfl
theorem wd_454 : Cond.fieldLink "PoetFines" 297 "PoetFines$Oracle" "found" "I" ∈ kG := kG_of kch2 103 rfl rfl
theorem wd_1419 : Cond.methodLink "PoetFines" 294 ⟨"PoetFines$Oracle", "tryTruths", "(I)V"⟩ ∈ kG := kG_of kch6 108 rfl rfl
theorem wd_1422 : Cond.code ⟨"PoetFines$Oracle", "tryTruths", "(I)V"⟩ prog_5_method_10_code 8 none ∈ kG := kG_of kch6 111 rfl rfl
theorem wd_1420 : Cond.instanceMethod ⟨"PoetFines$Oracle", "tryTruths", "(I)V"⟩ ∈ kG := kG_of kch6 109 rfl rfl
theorem wd_1421 : Cond.selects "PoetFines$Oracle" ⟨"PoetFines$Oracle", "tryTruths", "(I)V"⟩ ⟨"PoetFines$Oracle", "tryTruths", "(I)V"⟩ ∈ kG := kG_of kch6 110 rfl rfl
theorem wd_1410 : Cond.methodLink "PoetFines" 290 ⟨"PoetFines$Oracle", "allFelt", "(I)Z"⟩ ∈ kG := kG_of kch6 99 rfl rfl
theorem wd_1405 : Cond.methodLink "PoetFines" 287 ⟨"PoetFines$Chronicle", "lastFelt", "()I"⟩ ∈ kG := kG_of kch6 94 rfl rfl
theorem wd_1408 : Cond.code ⟨"PoetFines$Chronicle", "lastFelt", "()I"⟩ prog_2_method_7_code 3 (some .int) ∈ kG := kG_of kch6 97 rfl rfl
theorem wd_1406 : Cond.instanceMethod ⟨"PoetFines$Chronicle", "lastFelt", "()I"⟩ ∈ kG := kG_of kch6 95 rfl rfl
theorem wd_1407 : Cond.selects "PoetFines$Chronicle" ⟨"PoetFines$Chronicle", "lastFelt", "()I"⟩ ⟨"PoetFines$Chronicle", "lastFelt", "()I"⟩ ∈ kG := kG_of kch6 96 rfl rfl
theorem wd_1450 : Cond.methodLink "PoetFines" 303 ⟨"java/lang/Math", "max", "(II)I"⟩ ∈ kG := kG_of kch6 139 rfl rfl
theorem wd_1462 : Cond.constantLong "java/lang/Long" 314 6148914691236517205 ∈ kG := kG_of kch6 151 rfl rfl
theorem wd_1463 : Cond.constantLong "java/lang/Long" 316 3689348814741910323 ∈ kG := kG_of kch6 152 rfl rfl
theorem wd_1464 : Cond.constantLong "java/lang/Long" 318 1085102592571150095 ∈ kG := kG_of kch6 153 rfl rfl
theorem wd_1459 : Cond.methodLink "PoetFines$Oracle" 148 ⟨"java/lang/Long", "bitCount", "(J)I"⟩ ∈ kG := kG_of kch6 148 rfl rfl
theorem wd_139 : Cond.initialized "java/lang/Long" ∈ kG := kG_of kch1 28 rfl rfl
theorem wd_1461 : Cond.code ⟨"java/lang/Long", "bitCount", "(J)I"⟩ prog_23_method_50_code 2 (some .int) ∈ kG := kG_of kch6 150 rfl rfl
theorem wd_1460 : Cond.static ⟨"java/lang/Long", "bitCount", "(J)I"⟩ ∈ kG := kG_of kch6 149 rfl rfl
theorem wd_1455 : Cond.methodLink "PoetFines$Oracle" 154 ⟨"PoetFines$Oracle", "unlikeScars", "(I)I"⟩ ∈ kG := kG_of kch6 144 rfl rfl
theorem wd_1458 : Cond.code ⟨"PoetFines$Oracle", "unlikeScars", "(I)I"⟩ prog_5_method_13_code 2 (some .int) ∈ kG := kG_of kch6 147 rfl rfl
theorem wd_1456 : Cond.instanceMethod ⟨"PoetFines$Oracle", "unlikeScars", "(I)I"⟩ ∈ kG := kG_of kch6 145 rfl rfl
theorem wd_1457 : Cond.selects "PoetFines$Oracle" ⟨"PoetFines$Oracle", "unlikeScars", "(I)I"⟩ ⟨"PoetFines$Oracle", "unlikeScars", "(I)I"⟩ ∈ kG := kG_of kch6 146 rfl rfl
theorem wd_1465 : Cond.methodLink "PoetFines" 311 ⟨"PoetFines$Oracle", "unlikeScars", "(I)I"⟩ ∈ kG := kG_of kch6 154 rfl rfl
theorem wd_1451 : Cond.methodLink "PoetFines" 308 ⟨"PoetFines$Oracle", "mostUnlike", "()I"⟩ ∈ kG := kG_of kch6 140 rfl rfl
theorem wd_1454 : Cond.code ⟨"PoetFines$Oracle", "mostUnlike", "()I"⟩ prog_5_method_14_code 5 (some .int) ∈ kG := kG_of kch6 143 rfl rfl
theorem wd_1452 : Cond.instanceMethod ⟨"PoetFines$Oracle", "mostUnlike", "()I"⟩ ∈ kG := kG_of kch6 141 rfl rfl
theorem wd_1453 : Cond.selects "PoetFines$Oracle" ⟨"PoetFines$Oracle", "mostUnlike", "()I"⟩ ⟨"PoetFines$Oracle", "mostUnlike", "()I"⟩ ∈ kG := kG_of kch6 142 rfl rfl
theorem wd_1477 : Cond.methodLink "PoetFines$Oracle" 158 ⟨"PoetFines$Oracle", "staysWhole", "(III)Z"⟩ ∈ kG := kG_of kch6 166 rfl rfl
theorem wd_1480 : Cond.code ⟨"PoetFines$Oracle", "staysWhole", "(III)Z"⟩ prog_5_method_16_code 5 (some .boolean) ∈ kG := kG_of kch6 169 rfl rfl
theorem wd_1479 : Cond.instanceMethod ⟨"PoetFines$Oracle", "staysWhole", "(III)Z"⟩ ∈ kG := kG_of kch6 168 rfl rfl
theorem wd_43 : Cond.selects "PoetFines$Oracle" ⟨"PoetFines$Oracle", "staysWhole", "(III)Z"⟩ ⟨"PoetFines$Oracle", "staysWhole", "(III)Z"⟩ ∈ kG := kG_of kch0 43 rfl rfl
theorem wd_1473 : Cond.methodLink "PoetFines" 314 ⟨"PoetFines$Oracle", "chanceWhole", "(III)I"⟩ ∈ kG := kG_of kch6 162 rfl rfl
theorem wd_1476 : Cond.code ⟨"PoetFines$Oracle", "chanceWhole", "(III)I"⟩ prog_5_method_15_code 8 (some .int) ∈ kG := kG_of kch6 165 rfl rfl
theorem wd_1474 : Cond.instanceMethod ⟨"PoetFines$Oracle", "chanceWhole", "(III)I"⟩ ∈ kG := kG_of kch6 163 rfl rfl
theorem wd_1475 : Cond.selects "PoetFines$Oracle" ⟨"PoetFines$Oracle", "chanceWhole", "(III)I"⟩ ⟨"PoetFines$Oracle", "chanceWhole", "(III)I"⟩ ∈ kG := kG_of kch6 164 rfl rfl
theorem wd_462 : Cond.fieldLink "PoetFines$Oracle" 33 "PoetFines$Oracle" "gain" "[I" ∈ kG := kG_of kch2 111 rfl rfl
theorem wd_463 : Cond.fieldLink "PoetFines$Oracle" 36 "PoetFines$Oracle" "otherGain" "[I" ∈ kG := kG_of kch2 112 rfl rfl
theorem wd_1493 : Cond.methodLink "PoetFines$Oracle" 162 ⟨"PoetFines$Oracle", "gainOf", "(I)I"⟩ ∈ kG := kG_of kch6 182 rfl rfl
theorem wd_1496 : Cond.code ⟨"PoetFines$Oracle", "gainOf", "(I)I"⟩ prog_5_method_18_code 2 (some .int) ∈ kG := kG_of kch6 185 rfl rfl
theorem wd_1495 : Cond.instanceMethod ⟨"PoetFines$Oracle", "gainOf", "(I)I"⟩ ∈ kG := kG_of kch6 184 rfl rfl
theorem wd_44 : Cond.selects "PoetFines$Oracle" ⟨"PoetFines$Oracle", "gainOf", "(I)I"⟩ ⟨"PoetFines$Oracle", "gainOf", "(I)I"⟩ ∈ kG := kG_of kch0 44 rfl rfl
theorem wd_1489 : Cond.methodLink "PoetFines" 319 ⟨"PoetFines$Oracle", "playGame", "(II)V"⟩ ∈ kG := kG_of kch6 178 rfl rfl
theorem wd_1492 : Cond.code ⟨"PoetFines$Oracle", "playGame", "(II)V"⟩ prog_5_method_17_code 4 none ∈ kG := kG_of kch6 181 rfl rfl
theorem wd_1490 : Cond.instanceMethod ⟨"PoetFines$Oracle", "playGame", "(II)V"⟩ ∈ kG := kG_of kch6 179 rfl rfl
theorem wd_1491 : Cond.selects "PoetFines$Oracle" ⟨"PoetFines$Oracle", "playGame", "(II)V"⟩ ⟨"PoetFines$Oracle", "playGame", "(II)V"⟩ ∈ kG := kG_of kch6 180 rfl rfl
theorem wd_464 : Cond.fieldLink "PoetFines$Oracle" 39 "PoetFines$Oracle" "seed" "I" ∈ kG := kG_of kch2 113 rfl rfl
theorem wd_1516 : Cond.constant "PoetFines$Oracle" 174 1103515245 ∈ kG := kG_of kch6 205 rfl rfl
theorem wd_1517 : Cond.methodLink "PoetFines$Oracle" 171 ⟨"PoetFines$World", "setDepth", "(III)V"⟩ ∈ kG := kG_of kch6 206 rfl rfl
theorem wd_1512 : Cond.methodLink "PoetFines$Oracle" 168 ⟨"PoetFines$Oracle", "draw", "(I)I"⟩ ∈ kG := kG_of kch6 201 rfl rfl
theorem wd_1515 : Cond.code ⟨"PoetFines$Oracle", "draw", "(I)I"⟩ prog_5_method_21_code 3 (some .int) ∈ kG := kG_of kch6 204 rfl rfl
theorem wd_1514 : Cond.instanceMethod ⟨"PoetFines$Oracle", "draw", "(I)I"⟩ ∈ kG := kG_of kch6 203 rfl rfl
theorem wd_46 : Cond.selects "PoetFines$Oracle" ⟨"PoetFines$Oracle", "draw", "(I)I"⟩ ⟨"PoetFines$Oracle", "draw", "(I)I"⟩ ∈ kG := kG_of kch0 46 rfl rfl
theorem wd_1508 : Cond.methodLink "PoetFines$Oracle" 165 ⟨"PoetFines$Oracle", "drawEvent", "()V"⟩ ∈ kG := kG_of kch6 197 rfl rfl
theorem wd_1511 : Cond.code ⟨"PoetFines$Oracle", "drawEvent", "()V"⟩ prog_5_method_20_code 3 none ∈ kG := kG_of kch6 200 rfl rfl
theorem wd_1510 : Cond.instanceMethod ⟨"PoetFines$Oracle", "drawEvent", "()V"⟩ ∈ kG := kG_of kch6 199 rfl rfl
theorem wd_45 : Cond.selects "PoetFines$Oracle" ⟨"PoetFines$Oracle", "drawEvent", "()V"⟩ ⟨"PoetFines$Oracle", "drawEvent", "()V"⟩ ∈ kG := kG_of kch0 45 rfl rfl
theorem wd_357 : Cond.fieldLink "PoetFines" 325 "PoetFines$Tally" "hits" "I" ∈ kG := kG_of kch2 6 rfl rfl
theorem wd_1504 : Cond.methodLink "PoetFines" 322 ⟨"PoetFines$Oracle", "drawYears", "(II)V"⟩ ∈ kG := kG_of kch6 193 rfl rfl
theorem wd_1507 : Cond.code ⟨"PoetFines$Oracle", "drawYears", "(II)V"⟩ prog_5_method_19_code 4 none ∈ kG := kG_of kch6 196 rfl rfl
theorem wd_1505 : Cond.instanceMethod ⟨"PoetFines$Oracle", "drawYears", "(II)V"⟩ ∈ kG := kG_of kch6 194 rfl rfl
theorem wd_1506 : Cond.selects "PoetFines$Oracle" ⟨"PoetFines$Oracle", "drawYears", "(II)V"⟩ ⟨"PoetFines$Oracle", "drawYears", "(II)V"⟩ ∈ kG := kG_of kch6 195 rfl rfl
theorem wd_353 : Cond.fieldLink "PoetFines" 328 "PoetFines$Tally" "inches" "[I" ∈ kG := kG_of kch2 2 rfl rfl
theorem wd_343 : Cond.fieldLink "PoetFines$Oracle" 90 "PoetFines$Tally" "paid" "[I" ∈ kG := kG_of kch1 232 rfl rfl
theorem wd_1539 : Cond.methodLink "PoetFines" 331 ⟨"PoetFines$Oracle", "leastPaying", "()I"⟩ ∈ kG := kG_of kch6 228 rfl rfl
theorem wd_1542 : Cond.code ⟨"PoetFines$Oracle", "leastPaying", "()I"⟩ prog_5_method_6_code 3 (some .int) ∈ kG := kG_of kch6 231 rfl rfl
theorem wd_1540 : Cond.instanceMethod ⟨"PoetFines$Oracle", "leastPaying", "()I"⟩ ∈ kG := kG_of kch6 229 rfl rfl
theorem wd_1541 : Cond.selects "PoetFines$Oracle" ⟨"PoetFines$Oracle", "leastPaying", "()I"⟩ ⟨"PoetFines$Oracle", "leastPaying", "()I"⟩ ∈ kG := kG_of kch6 230 rfl rfl
theorem wd_1550 : Cond.methodLink "PoetFines" 334 ⟨"PoetFines$Court", "bestDebtor", "(I)I"⟩ ∈ kG := kG_of kch6 239 rfl rfl
theorem wd_1553 : Cond.code ⟨"PoetFines$Court", "bestDebtor", "(I)I"⟩ prog_3_method_9_code 6 (some .int) ∈ kG := kG_of kch7 2 rfl rfl
theorem wd_1551 : Cond.instanceMethod ⟨"PoetFines$Court", "bestDebtor", "(I)I"⟩ ∈ kG := kG_of kch7 0 rfl rfl
theorem wd_1552 : Cond.selects "PoetFines$Court" ⟨"PoetFines$Court", "bestDebtor", "(I)I"⟩ ⟨"PoetFines$Court", "bestDebtor", "(I)I"⟩ ∈ kG := kG_of kch7 1 rfl rfl
theorem wd_498 : Cond.fieldLink "PoetFines" 47 "PoetFines" "kept" "LPoetFines$Chronicle;" ∈ kG := kG_of kch2 147 rfl rfl
theorem wd_666 : Cond.methodLink "PoetFines" 337 ⟨"PoetFines$Chronicle", "copyFrom", "(LPoetFines$Chronicle;)V"⟩ ∈ kG := kG_of kch3 75 rfl rfl
theorem wd_669 : Cond.code ⟨"PoetFines$Chronicle", "copyFrom", "(LPoetFines$Chronicle;)V"⟩ prog_2_method_3_code 2 none ∈ kG := kG_of kch3 78 rfl rfl
theorem wd_667 : Cond.instanceMethod ⟨"PoetFines$Chronicle", "copyFrom", "(LPoetFines$Chronicle;)V"⟩ ∈ kG := kG_of kch3 76 rfl rfl
theorem wd_668 : Cond.selects "PoetFines$Chronicle" ⟨"PoetFines$Chronicle", "copyFrom", "(LPoetFines$Chronicle;)V"⟩ ⟨"PoetFines$Chronicle", "copyFrom", "(LPoetFines$Chronicle;)V"⟩ ∈ kG := kG_of kch3 77 rfl rfl
def dl_P_feed : List (Nat × Instr × Nat) := [(0, .aload_n 0, 1), (1, .getfield 13, 3), (4, .bipush 20, 2), (6, .iadd, 1), (7, .sipush 700, 3), (10, .if_icmp .le 5, 3), (13, .iconst (-1), 1), (14, .ireturn, 1), (15, .aload_n 0, 1), (16, .iload_n 1, 1), (17, .invokevirtual 85, 3), (20, .aload_n 0, 1), (21, .iload_n 2, 1), (22, .invokevirtual 85, 3), (25, .aload_n 0, 1), (26, .iload_n 3, 1), (27, .invokevirtual 85, 3), (30, .aload_n 0, 1), (31, .iload 4, 2), (33, .invokevirtual 85, 3), (36, .aload_n 0, 1), (37, .iload 5, 2), (39, .invokevirtual 85, 3), (42, .aload_n 0, 1), (43, .getfield 13, 3), (46, .ireturn, 1)]
theorem dc_P_feed : kdecs prog_1_method_2_code dl_P_feed = true := by decide +kernel
abbrev ky_P_feed : MethodName := ⟨"PoetFines", "feed", "(IIIII)I"⟩
theorem fd_C_P_13_0 : kFd "PoetFines" 13 kcl yC 0 1 (.inl false) := ⟨10, _, _, _, _, rfl, rfl, rfl, by decide, kin10, wd_492⟩
def dl_P_putBytes : List (Nat × Instr × Nat) := [(0, .bipush 24, 2), (2, .istore_n 2, 1), (3, .iload_n 2, 1), (4, .ifCond .lt 42, 3), (7, .aload_n 0, 1), (8, .getfield 13, 3), (11, .sipush 700, 3), (14, .if_icmp .ge 32, 3), (17, .aload_n 0, 1), (18, .getfield 9, 3), (21, .aload_n 0, 1), (22, .getfield 13, 3), (25, .iload_n 1, 1), (26, .iload_n 2, 1), (27, .iushr, 1), (28, .i2b, 1), (29, .bastore, 1), (30, .aload_n 0, 1), (31, .dup, 1), (32, .getfield 13, 3), (35, .iconst 1, 1), (36, .iadd, 1), (37, .putfield 13, 3), (40, .iinc 2 (-8), 3), (43, .goto (-40), 3), (46, .return_, 1)]
theorem dc_P_putBytes : kdecs prog_1_method_40_code dl_P_putBytes = true := by decide +kernel
abbrev ky_P_putBytes : MethodName := ⟨"PoetFines", "putBytes", "(I)V"⟩
theorem fd_C_P_9_0 : kFd "PoetFines" 9 kcl yC 0 0 (.inr 1) := ⟨10, _, _, _, _, rfl, rfl, rfl, by decide, kin10, wd_491⟩
theorem fp_C_P_13_0 : kFp "PoetFines" 13 kcl yC 0 1 (.inl false) .int := ⟨10, _, _, _, _, kty10, rfl, rfl, rfl, by decide, kin10, wd_492, kty10_ok, knm10, rfl, by decide +kernel⟩
theorem cv_P_85 : kCv "PoetFines" 85 ky_P_putBytes prog_1_method_40_code 3 none 1 "PoetFines" := ⟨⟨wd_532, wd_112, wd_535, ⟨by decide, by decide⟩, by decide +kernel⟩, wd_534, wd_0⟩
def dl_P_state : List (Nat × Instr × Nat) := [(0, .iload_n 1, 1), (1, .ifCond .lt 11, 3), (4, .iload_n 1, 1), (5, .aload_n 0, 1), (6, .getfield 13, 3), (9, .if_icmp .le 13, 3), (12, .new 89, 3), (15, .dup, 1), (16, .ldc 91, 2), (18, .invokespecial 93, 3), (21, .athrow, 1), (22, .aload_n 0, 1), (23, .iconst 0, 1), (24, .putfield 13, 3), (27, .aload_n 0, 1), (28, .getfield 36, 3), (31, .iload_n 1, 1), (32, .invokevirtual 96, 3), (35, .istore_n 2, 1), (36, .aload_n 0, 1), (37, .aload_n 0, 1), (38, .getfield 36, 3), (41, .getfield 100, 3), (44, .putfield 17, 3), (47, .iload_n 2, 1), (48, .ifCond .eq 15, 3), (51, .aload_n 0, 1), (52, .getfield 20, 3), (55, .iconst 0, 1), (56, .dup2, 1), (57, .iaload, 1), (58, .iconst 1, 1), (59, .iadd, 1), (60, .iastore, 1), (61, .iload_n 2, 1), (62, .ireturn, 1), (63, .aload_n 0, 1), (64, .getfield 27, 3), (67, .aload_n 0, 1), (68, .getfield 36, 3), (71, .getfield 101, 3), (74, .invokevirtual 102, 3), (77, .aload_n 0, 1), (78, .getfield 43, 3), (81, .aload_n 0, 1), (82, .getfield 36, 3), (85, .getfield 106, 3), (88, .invokevirtual 109, 3), (91, .aload_n 0, 1), (92, .iconst 0, 1), (93, .putfield 50, 3), (96, .iconst 0, 1), (97, .ireturn, 1)]
theorem dc_P_state : kdecs prog_1_method_3_code dl_P_state = true := by decide +kernel
abbrev ky_P_state : MethodName := ⟨"PoetFines", "state", "(I)I"⟩
theorem tha_P_93_1 : ∀ w ∈ Bundle.throwableAtoms, vx_no w = true → w ∈ kG ∨ w ∈ kB := List.forall_mem_cons.mpr ⟨fun _ => Or.inl (kG_of kch1 13 rfl rfl), List.forall_mem_cons.mpr ⟨fun _ => Or.inl (kG_of kch3 118 rfl rfl), List.forall_mem_cons.mpr ⟨fun _ => Or.inl (kG_of kch3 127 rfl rfl), List.forall_mem_cons.mpr ⟨fun _ => Or.inl (kG_of kch3 130 rfl rfl), List.forall_mem_cons.mpr ⟨fun _ => Or.inl (kG_of kch3 133 rfl rfl), List.forall_mem_cons.mpr ⟨fun _ => Or.inl (kG_of kch3 135 rfl rfl), List.forall_mem_cons.mpr ⟨fun _ => Or.inl (kG_of kch3 119 rfl rfl), List.forall_mem_cons.mpr ⟨fun _ => Or.inl (kG_of kch3 120 rfl rfl), List.forall_mem_cons.mpr ⟨fun _ => Or.inl (kG_of kch1 35 rfl rfl), List.forall_mem_cons.mpr ⟨fun _ => Or.inl (kG_of kch1 36 rfl rfl), List.forall_mem_cons.mpr ⟨fun _ => Or.inl (kG_of kch3 121 rfl rfl), List.forall_mem_cons.mpr ⟨fun _ => Or.inl (kG_of kch3 126 rfl rfl), List.forall_mem_cons.mpr ⟨fun _ => Or.inl (kG_of kch3 131 rfl rfl), List.forall_mem_cons.mpr ⟨fun _ => Or.inl (kG_of kch3 151 rfl rfl), List.forall_mem_cons.mpr ⟨fun _ => Or.inl (kG_of kch3 108 rfl rfl), List.forall_mem_cons.mpr ⟨fun _ => Or.inl (kG_of kch3 152 rfl rfl), List.forall_mem_cons.mpr ⟨fun _ => Or.inl (kG_of kch3 110 rfl rfl), List.forall_mem_cons.mpr ⟨fun _ => Or.inl (kG_of kch3 153 rfl rfl), List.forall_mem_cons.mpr ⟨fun _ => Or.inl (kG_of kch3 112 rfl rfl), List.forall_mem_cons.mpr ⟨fun _ => Or.inl (kG_of kch3 122 rfl rfl), List.forall_mem_cons.mpr ⟨fun h => absurd h (by decide +kernel), List.forall_mem_cons.mpr ⟨fun _ => Or.inl (kG_of kch3 124 rfl rfl), List.forall_mem_cons.mpr ⟨fun h => absurd h (by decide +kernel), List.forall_mem_cons.mpr ⟨fun _ => Or.inl (kG_of kch3 114 rfl rfl), List.forall_mem_nil _⟩⟩⟩⟩⟩⟩⟩⟩⟩⟩⟩⟩⟩⟩⟩⟩⟩⟩⟩⟩⟩⟩⟩⟩
theorem tha_P_93_2 : ∀ w ∈ Bundle.throwableSAtoms, vx_no w = true → w ∈ kG ∨ w ∈ kB := List.forall_mem_cons.mpr ⟨fun _ => Or.inl (kG_of kch3 147 rfl rfl), List.forall_mem_cons.mpr ⟨fun _ => Or.inl (kG_of kch3 148 rfl rfl), List.forall_mem_cons.mpr ⟨fun _ => Or.inl (kG_of kch3 150 rfl rfl), List.forall_mem_cons.mpr ⟨fun _ => Or.inl (kG_of kch3 114 rfl rfl), List.forall_mem_nil _⟩⟩⟩⟩
theorem tha_P_93_30 : ∀ w ∈ Bundle.passSAtoms "java/lang/IllegalArgumentException" "java/lang/RuntimeException" 7 prog_21_method_2_code, vx_no w = true → w ∈ kG ∨ w ∈ kB := List.forall_mem_cons.mpr ⟨fun _ => Or.inl (kG_of kch3 138 rfl rfl), List.forall_mem_cons.mpr ⟨fun _ => Or.inl (kG_of kch3 139 rfl rfl), List.forall_mem_cons.mpr ⟨fun _ => Or.inl (kG_of kch3 140 rfl rfl), List.forall_mem_cons.mpr ⟨fun _ => Or.inl (kG_of kch3 141 rfl rfl), List.forall_mem_cons.mpr ⟨fun _ => Or.inr (kB_of kch3 100 rfl rfl), List.forall_mem_nil _⟩⟩⟩⟩⟩
theorem tha_P_93_31 : ∀ w ∈ Bundle.passSAtoms "java/lang/RuntimeException" "java/lang/Exception" 7 Bundle.six, vx_no w = true → w ∈ kG ∨ w ∈ kB := List.forall_mem_cons.mpr ⟨fun _ => Or.inl (kG_of kch3 141 rfl rfl), List.forall_mem_cons.mpr ⟨fun _ => Or.inl (kG_of kch3 142 rfl rfl), List.forall_mem_cons.mpr ⟨fun _ => Or.inl (kG_of kch3 143 rfl rfl), List.forall_mem_cons.mpr ⟨fun _ => Or.inl (kG_of kch3 144 rfl rfl), List.forall_mem_cons.mpr ⟨fun _ => Or.inr (kB_of kch3 102 rfl rfl), List.forall_mem_nil _⟩⟩⟩⟩⟩
theorem tha_P_93_32 : ∀ w ∈ Bundle.passSAtoms "java/lang/Exception" "java/lang/Throwable" 7 Bundle.six, vx_no w = true → w ∈ kG ∨ w ∈ kB := List.forall_mem_cons.mpr ⟨fun _ => Or.inl (kG_of kch3 144 rfl rfl), List.forall_mem_cons.mpr ⟨fun _ => Or.inl (kG_of kch3 145 rfl rfl), List.forall_mem_cons.mpr ⟨fun _ => Or.inl (kG_of kch3 146 rfl rfl), List.forall_mem_cons.mpr ⟨fun _ => Or.inl (kG_of kch3 147 rfl rfl), List.forall_mem_cons.mpr ⟨fun _ => Or.inr (kB_of kch3 104 rfl rfl), List.forall_mem_nil _⟩⟩⟩⟩⟩
theorem tha_P_93_3 : ∀ w ∈ Bundle.chainSAtoms "java/lang/RuntimeException" ["java/lang/Exception"], vx_no w = true → w ∈ kG ∨ w ∈ kB := List.forall_mem_append.mpr ⟨tha_P_93_31, tha_P_93_32⟩
theorem tha_P_93_4 : ∀ w ∈ kt_own "PoetFines" 93 "java/lang/IllegalArgumentException", vx_no w = true → w ∈ kG ∨ w ∈ kB := List.forall_mem_cons.mpr ⟨fun _ => Or.inl (kG_of kch3 137 rfl rfl), List.forall_mem_cons.mpr ⟨fun _ => Or.inl (kG_of kch3 97 rfl rfl), List.forall_mem_cons.mpr ⟨fun _ => Or.inr (kB_of kch3 98 rfl rfl), List.forall_mem_cons.mpr ⟨fun _ => Or.inl (kG_of kch3 105 rfl rfl), List.forall_mem_cons.mpr ⟨fun _ => Or.inl (kG_of kch3 106 rfl rfl), List.forall_mem_cons.mpr ⟨fun _ => Or.inl (kG_of kch3 107 rfl rfl), List.forall_mem_cons.mpr ⟨fun _ => Or.inl (kG_of kch3 109 rfl rfl), List.forall_mem_cons.mpr ⟨fun _ => Or.inl (kG_of kch3 111 rfl rfl), List.forall_mem_cons.mpr ⟨fun _ => Or.inl (kG_of kch3 113 rfl rfl), List.forall_mem_cons.mpr ⟨fun h => absurd h (by decide +kernel), List.forall_mem_cons.mpr ⟨fun h => absurd h (by decide +kernel), List.forall_mem_cons.mpr ⟨fun _ => Or.inl (kG_of kch3 117 rfl rfl), List.forall_mem_cons.mpr ⟨fun _ => Or.inl (kG_of kch3 116 rfl rfl), List.forall_mem_cons.mpr ⟨fun _ => Or.inl (kG_of kch3 115 rfl rfl), List.forall_mem_nil _⟩⟩⟩⟩⟩⟩⟩⟩⟩⟩⟩⟩⟩⟩
theorem tha_P_93 : ∀ w ∈ kt_f "PoetFines" 93 "java/lang/IllegalArgumentException" 7 prog_21_method_2_code "java/lang/RuntimeException" ["java/lang/Exception"], w ∈ kG ∨ w ∈ kB := fun w hw => (List.forall_mem_append.mpr ⟨List.forall_mem_append.mpr ⟨tha_P_93_1, tha_P_93_2⟩, List.forall_mem_append.mpr ⟨List.forall_mem_append.mpr ⟨tha_P_93_30, tha_P_93_3⟩, tha_P_93_4⟩⟩ : ∀ w ∈ kt_at "PoetFines" 93 "java/lang/IllegalArgumentException" 7 prog_21_method_2_code "java/lang/RuntimeException" ["java/lang/Exception"], vx_no w = true → w ∈ kG ∨ w ∈ kB) w (List.mem_filter.mp hw).1 (List.mem_filter.mp hw).2
theorem th_P_91_93 : kTh "PoetFines" 89 91 93 "java/lang/IllegalArgumentException" "the tape has not so many bytes" 7 prog_21_method_2_code "java/lang/RuntimeException" ["java/lang/Exception"] := ⟨⟨by decide +kernel, by decide +kernel, by decide +kernel, by decide +kernel, by decide +kernel, by decide +kernel⟩, by decide +kernel, wd_687, wd_127, by decide +kernel, tha_P_93, by decide +kernel⟩
theorem fd_C_P_36_0 : kFd "PoetFines" 36 kcl yC 0 5 (.inr 12) := ⟨10, _, _, _, _, rfl, rfl, rfl, by decide, kin10, wd_496⟩
def dl_Parser_parse : List (Nat × Instr × Nat) := [(0, .aload_n 0, 1), (1, .iconst 0, 1), (2, .putfield 29, 3), (5, .aload_n 0, 1), (6, .iconst (-1), 1), (7, .putfield 25, 3), (10, .aload_n 0, 1), (11, .getfield 12, 3), (14, .invokevirtual 44, 3), (17, .aload_n 0, 1), (18, .getfield 21, 3), (21, .invokevirtual 47, 3), (24, .aload_n 0, 1), (25, .getfield 40, 3), (28, .iload_n 1, 1), (29, .invokevirtual 48, 3), (32, .aload_n 0, 1), (33, .getfield 40, 3), (36, .getstatic 52, 3), (39, .invokevirtual 58, 3), (42, .ifCond .eq 29, 3), (45, .aload_n 0, 1), (46, .getfield 40, 3), (49, .invokevirtual 62, 3), (52, .aload_n 0, 1), (53, .getfield 12, 3), (56, .aload_n 0, 1), (57, .iconst 2, 1), (58, .iconst 4, 1), (59, .invokevirtual 65, 3), (62, .putfield 69, 3), (65, .aload_n 0, 1), (66, .bipush 59, 2), (68, .invokevirtual 72, 3), (71, .iconst 0, 1), (72, .istore_n 2, 1), (73, .iload_n 2, 1), (74, .sipush 700, 3), (77, .if_icmp .ge 105, 3), (80, .aload_n 0, 1), (81, .getfield 40, 3), (84, .invokevirtual 76, 3), (87, .ifCond .eq 95, 3), (90, .aload_n 0, 1), (91, .getfield 40, 3), (94, .invokevirtual 80, 3), (97, .astore_n 3, 1), (98, .aload_n 3, 1), (99, .getstatic 84, 3), (102, .if_acmp .ne 10, 3), (105, .aload_n 0, 1), (106, .invokevirtual 87, 3), (109, .goto 67, 3), (112, .aload_n 3, 1), (113, .getstatic 90, 3), (116, .if_acmp .ne 10, 3), (119, .aload_n 0, 1), (120, .invokevirtual 93, 3), (123, .goto 53, 3), (126, .aload_n 3, 1), (127, .getstatic 96, 3), (130, .if_acmp .ne 11, 3), (133, .aload_n 0, 1), (134, .iconst 0, 1), (135, .invokevirtual 101, 3), (138, .goto 38, 3), (141, .aload_n 3, 1), (142, .getstatic 104, 3), (145, .if_acmp .ne 11, 3), (148, .aload_n 0, 1), (149, .iconst 1, 1), (150, .invokevirtual 101, 3), (153, .goto 23, 3), (156, .aload_n 3, 1), (157, .getstatic 107, 3), (160, .if_acmp .ne 11, 3), (163, .aload_n 0, 1), (164, .iconst 2, 1), (165, .invokevirtual 101, 3), (168, .goto 8, 3), (171, .aload_n 0, 1), (172, .iconst 1, 1), (173, .invokevirtual 110, 3), (176, .iinc 2 1, 3), (179, .goto (-106), 3), (182, .aload_n 0, 1), (183, .getfield 29, 3), (186, .ireturn, 1)]
theorem dc_Parser_parse : kdecs prog_6_method_2_code dl_Parser_parse = true := by decide +kernel
abbrev ky_Parser_parse : MethodName := ⟨"PoetFines$Parser", "parse", "(I)I"⟩
theorem fp_C_Parser_29_12 : kFp "PoetFines$Parser" 29 kcl yC 12 3 (.inl false) .int := ⟨4, _, _, _, _, kty4, rfl, rfl, rfl, by decide, kin4, wd_277, kty4_ok, knm4, rfl, by decide +kernel⟩
theorem fp_C_Parser_25_12 : kFp "PoetFines$Parser" 25 kcl yC 12 2 (.inl false) .int := ⟨4, _, _, _, _, kty4, rfl, rfl, rfl, by decide, kin4, wd_275, kty4_ok, knm4, rfl, by decide +kernel⟩
theorem fd_C_Parser_12_12 : kFd "PoetFines$Parser" 12 kcl yC 12 0 (.inr 13) := ⟨4, _, _, _, _, rfl, rfl, rfl, by decide, kin4, wd_271⟩
def dl_Law_clear : List (Nat × Instr × Nat) := [(0, .aload_n 0, 1), (1, .iconst 3, 1), (2, .putfield 11, 3), (5, .aload_n 0, 1), (6, .iconst 0, 1), (7, .putfield 15, 3), (10, .aload_n 0, 1), (11, .iconst 0, 1), (12, .putfield 18, 3), (15, .iconst 0, 1), (16, .istore_n 1, 1), (17, .iload_n 1, 1), (18, .iconst 4, 1), (19, .if_icmp .ge 16, 3), (22, .aload_n 0, 1), (23, .getfield 21, 3), (26, .iload_n 1, 1), (27, .iconst 0, 1), (28, .iastore, 1), (29, .iinc 1 1, 3), (32, .goto (-15), 3), (35, .aload_n 0, 1), (36, .getfield 34, 3), (39, .invokevirtual 38, 3), (42, .return_, 1)]
theorem dc_Law_clear : kdecs prog_4_method_2_code dl_Law_clear = true := by decide +kernel
abbrev ky_Law_clear : MethodName := ⟨"PoetFines$Law", "clear", "()V"⟩
theorem fp_C_Law_11_13 : kFp "PoetFines$Law" 11 kcl yC 13 0 (.inl false) .int := ⟨2, _, _, _, _, kty2, rfl, rfl, rfl, by decide, kin2, wd_178, kty2_ok, knm2, rfl, by decide +kernel⟩
theorem fp_C_Law_15_13 : kFp "PoetFines$Law" 15 kcl yC 13 1 (.inl false) .int := ⟨2, _, _, _, _, kty2, rfl, rfl, rfl, by decide, kin2, wd_182, kty2_ok, knm2, rfl, by decide +kernel⟩
theorem fp_C_Law_18_13 : kFp "PoetFines$Law" 18 kcl yC 13 2 (.inl false) .int := ⟨2, _, _, _, _, kty2, rfl, rfl, rfl, by decide, kin2, wd_188, kty2_ok, knm2, rfl, by decide +kernel⟩
theorem fd_C_Law_21_13 : kFd "PoetFines$Law" 21 kcl yC 13 3 (.inr 14) := ⟨2, _, _, _, _, rfl, rfl, rfl, by decide, kin2, wd_194⟩
theorem fd_C_Law_34_13 : kFd "PoetFines$Law" 34 kcl yC 13 6 (.inr 17) := ⟨2, _, _, _, _, rfl, rfl, rfl, by decide, kin2, wd_201⟩
def dl_Rules_clear : List (Nat × Instr × Nat) := [(0, .aload_n 0, 1), (1, .iconst 0, 1), (2, .putfield 15, 3), (5, .iconst 0, 1), (6, .istore_n 1, 1), (7, .iload_n 1, 1), (8, .iconst 3, 1), (9, .if_icmp .ge 23, 3), (12, .aload_n 0, 1), (13, .getfield 19, 3), (16, .iload_n 1, 1), (17, .iconst 0, 1), (18, .iastore, 1), (19, .aload_n 0, 1), (20, .getfield 22, 3), (23, .iload_n 1, 1), (24, .iconst 0, 1), (25, .iastore, 1), (26, .iinc 1 1, 3), (29, .goto (-22), 3), (32, .return_, 1)]
theorem dc_Rules_clear : kdecs prog_7_method_2_code dl_Rules_clear = true := by decide +kernel
abbrev ky_Rules_clear : MethodName := ⟨"PoetFines$Rules", "clear", "()V"⟩
theorem fp_C_Rules_15_17 : kFp "PoetFines$Rules" 15 kcl yC 17 1 (.inl false) .int := ⟨5, _, _, _, _, kty5, rfl, rfl, rfl, by decide, kin5, wd_161, kty5_ok, knm5, rfl, by decide +kernel⟩
theorem fd_C_Rules_19_17 : kFd "PoetFines$Rules" 19 kcl yC 17 2 (.inr 19) := ⟨5, _, _, _, _, rfl, rfl, rfl, by decide, kin5, wd_162⟩
theorem fd_C_Rules_22_17 : kFd "PoetFines$Rules" 22 kcl yC 17 3 (.inr 20) := ⟨5, _, _, _, _, rfl, rfl, rfl, by decide, kin5, wd_163⟩
theorem cv_Law_38 : kCv "PoetFines$Law" 38 ky_Rules_clear prog_7_method_2_code 2 none 0 "PoetFines$Rules" := ⟨⟨wd_761, wd_114, wd_764, ⟨by decide, by decide⟩, by decide +kernel⟩, wd_762, wd_763⟩
theorem fd_C_Parser_21_12 : kFd "PoetFines$Parser" 21 kcl yC 12 1 (.inr 22) := ⟨4, _, _, _, _, rfl, rfl, rfl, by decide, kin4, wd_273⟩
def dl_World_clear : List (Nat × Instr × Nat) := [(0, .iconst 0, 1), (1, .istore_n 1, 1), (2, .iload_n 1, 1), (3, .bipush 85, 2), (5, .if_icmp .ge 16, 3), (8, .aload_n 0, 1), (9, .getfield 11, 3), (12, .iload_n 1, 1), (13, .iconst 0, 1), (14, .iastore, 1), (15, .iinc 1 1, 3), (18, .goto (-16), 3), (21, .return_, 1)]
theorem dc_World_clear : kdecs prog_12_method_2_code dl_World_clear = true := by decide +kernel
abbrev ky_World_clear : MethodName := ⟨"PoetFines$World", "clear", "()V"⟩
theorem fd_C_World_11_22 : kFd "PoetFines$World" 11 kcl yC 22 0 (.inr 23) := ⟨9, _, _, _, _, rfl, rfl, rfl, by decide, kin9, wd_233⟩
theorem fd_C_Parser_40_12 : kFd "PoetFines$Parser" 40 kcl yC 12 5 (.inr 24) := ⟨4, _, _, _, _, rfl, rfl, rfl, by decide, kin4, wd_279⟩
def dl_Tokens_scan : List (Nat × Instr × Nat) := [(0, .iload_n 1, 1), (1, .sipush 700, 3), (4, .invokestatic 35, 3), (7, .istore_n 2, 1), (8, .iconst 0, 1), (9, .istore_n 3, 1), (10, .aload_n 0, 1), (11, .iconst 0, 1), (12, .putfield 24, 3), (15, .aload_n 0, 1), (16, .iconst 0, 1), (17, .putfield 28, 3), (20, .iconst 0, 1), (21, .istore 4, 2), (23, .iload 4, 2), (25, .iload_n 2, 1), (26, .if_icmp .ge 54, 3), (29, .iload 4, 2), (31, .iload_n 3, 1), (32, .if_icmp .lt 42, 3), (35, .aload_n 0, 1), (36, .getfield 31, 3), (39, .iload 4, 2), (41, .baload, 1), (42, .bipush 32, 2), (44, .if_icmp .eq 30, 3), (47, .aload_n 0, 1), (48, .getfield 31, 3), (51, .iload 4, 2), (53, .baload, 1), (54, .bipush 10, 2), (56, .if_icmp .eq 18, 3), (59, .aload_n 0, 1), (60, .iload 4, 2), (62, .iload_n 2, 1), (63, .invokevirtual 41, 3), (66, .istore_n 3, 1), (67, .aload_n 0, 1), (68, .iload 4, 2), (70, .iload_n 3, 1), (71, .invokevirtual 44, 3), (74, .iinc 4 1, 3), (77, .goto (-54), 3), (80, .aload_n 0, 1), (81, .getfield 9, 3), (84, .aload_n 0, 1), (85, .getfield 24, 3), (88, .iconst 0, 1), (89, .iastore, 1), (90, .aload_n 0, 1), (91, .getfield 15, 3), (94, .aload_n 0, 1), (95, .getfield 24, 3), (98, .iload_n 2, 1), (99, .iastore, 1), (100, .return_, 1)]
theorem dc_Tokens_scan : kdecs prog_10_method_2_code dl_Tokens_scan = true := by decide +kernel
abbrev ky_Tokens_scan : MethodName := ⟨"PoetFines$Tokens", "scan", "(I)V"⟩
theorem cm_Tokens_35 : Cond.methodLink "PoetFines$Tokens" 35 Lib.Math.min.name ∈ kG ∧ Cond.static Lib.Math.min.name ∈ kG ∧ Cond.initialized "java/lang/Math" ∈ kG ∧ Cond.code Lib.Math.min.name Lib.Math.min.code 2 (some .int) ∈ kG := ⟨wd_773, wd_607, wd_128, kG_of kch3 17 rfl rfl⟩
theorem fp_C_Tokens_24_24 : kFp "PoetFines$Tokens" 24 kcl yC 24 5 (.inl false) .int := ⟨8, _, _, _, _, kty8, rfl, rfl, rfl, by decide, kin8, wd_254, kty8_ok, knm8, rfl, by decide +kernel⟩
theorem fp_C_Tokens_28_24 : kFp "PoetFines$Tokens" 28 kcl yC 24 6 (.inl false) .int := ⟨8, _, _, _, _, kty8, rfl, rfl, rfl, by decide, kin8, wd_255, kty8_ok, knm8, rfl, by decide +kernel⟩
theorem fd_C_Tokens_31_24 : kFd "PoetFines$Tokens" 31 kcl yC 24 0 (.inr 1) := ⟨8, _, _, _, _, rfl, rfl, rfl, by decide, kin8, wd_249⟩
def dl_Tokens_endOf : List (Nat × Instr × Nat) := [(0, .iload_n 1, 1), (1, .iconst 1, 1), (2, .iadd, 1), (3, .istore_n 3, 1), (4, .aload_n 0, 1), (5, .getfield 31, 3), (8, .iload_n 1, 1), (9, .baload, 1), (10, .invokestatic 58, 3), (13, .ifCond .eq 26, 3), (16, .iload_n 3, 1), (17, .iload_n 2, 1), (18, .if_icmp .ge 56, 3), (21, .aload_n 0, 1), (22, .getfield 31, 3), (25, .iload_n 3, 1), (26, .baload, 1), (27, .invokestatic 58, 3), (30, .ifCond .eq 44, 3), (33, .iinc 3 1, 3), (36, .goto (-20), 3), (39, .aload_n 0, 1), (40, .getfield 31, 3), (43, .iload_n 1, 1), (44, .baload, 1), (45, .invokestatic 62, 3), (48, .ifCond .eq 26, 3), (51, .iload_n 3, 1), (52, .iload_n 2, 1), (53, .if_icmp .ge 21, 3), (56, .aload_n 0, 1), (57, .getfield 31, 3), (60, .iload_n 3, 1), (61, .baload, 1), (62, .invokestatic 62, 3), (65, .ifCond .eq 9, 3), (68, .iinc 3 1, 3), (71, .goto (-20), 3), (74, .iload_n 3, 1), (75, .ireturn, 1)]
theorem dc_Tokens_endOf : kdecs prog_10_method_12_code dl_Tokens_endOf = true := by decide +kernel
abbrev ky_Tokens_endOf : MethodName := ⟨"PoetFines$Tokens", "endOf", "(II)I"⟩
def dl_Tokens_isLetter : List (Nat × Instr × Nat) := [(0, .iload_n 0, 1), (1, .bipush 97, 2), (3, .if_icmp .lt 13, 3), (6, .iload_n 0, 1), (7, .bipush 122, 2), (9, .if_icmp .gt 7, 3), (12, .iconst 1, 1), (13, .goto 4, 3), (16, .iconst 0, 1), (17, .ireturn, 1)]
theorem dc_Tokens_isLetter : kdecs prog_10_method_15_code dl_Tokens_isLetter = true := by decide +kernel
abbrev ky_Tokens_isLetter : MethodName := ⟨"PoetFines$Tokens", "isLetter", "(B)Z"⟩
def dl_Tokens_isDigit : List (Nat × Instr × Nat) := [(0, .iload_n 0, 1), (1, .bipush 48, 2), (3, .if_icmp .lt 13, 3), (6, .iload_n 0, 1), (7, .bipush 57, 2), (9, .if_icmp .gt 7, 3), (12, .iconst 1, 1), (13, .goto 4, 3), (16, .iconst 0, 1), (17, .ireturn, 1)]
theorem dc_Tokens_isDigit : kdecs prog_10_method_16_code dl_Tokens_isDigit = true := by decide +kernel
abbrev ky_Tokens_isDigit : MethodName := ⟨"PoetFines$Tokens", "isDigit", "(B)Z"⟩
theorem cs_Tokens_62 : kCs "PoetFines$Tokens" 62 ky_Tokens_isDigit prog_10_method_16_code 1 (some .boolean) 1 := ⟨⟨wd_781, wd_117, wd_783, ⟨by decide, by decide⟩, by decide +kernel⟩, wd_782⟩
theorem cs_Tokens_58 : kCs "PoetFines$Tokens" 58 ky_Tokens_isLetter prog_10_method_15_code 1 (some .boolean) 1 := ⟨⟨wd_778, wd_117, wd_780, ⟨by decide, by decide⟩, by decide +kernel⟩, wd_779⟩
def dl_Tokens_addToken : List (Nat × Instr × Nat) := [(0, .aload_n 0, 1), (1, .getfield 24, 3), (4, .sipush 700, 3), (7, .if_icmp .lt 4, 3), (10, .return_, 1), (11, .aload_n 0, 1), (12, .getfield 15, 3), (15, .aload_n 0, 1), (16, .getfield 24, 3), (19, .iload_n 1, 1), (20, .iastore, 1), (21, .aload_n 0, 1), (22, .getfield 18, 3), (25, .aload_n 0, 1), (26, .getfield 24, 3), (29, .iload_n 2, 1), (30, .iload_n 1, 1), (31, .isub, 1), (32, .iastore, 1), (33, .aload_n 0, 1), (34, .getfield 31, 3), (37, .iload_n 1, 1), (38, .baload, 1), (39, .invokestatic 58, 3), (42, .ifCond .eq 34, 3), (45, .aload_n 0, 1), (46, .getfield 9, 3), (49, .aload_n 0, 1), (50, .getfield 24, 3), (53, .iconst 2, 1), (54, .iastore, 1), (55, .aload_n 0, 1), (56, .getfield 21, 3), (59, .aload_n 0, 1), (60, .getfield 24, 3), (63, .aload_n 0, 1), (64, .getfield 31, 3), (67, .iload_n 1, 1), (68, .iload_n 2, 1), (69, .invokestatic 65, 3), (72, .iastore, 1), (73, .goto 98, 3), (76, .aload_n 0, 1), (77, .getfield 31, 3), (80, .iload_n 1, 1), (81, .baload, 1), (82, .invokestatic 62, 3), (85, .ifCond .eq 31, 3), (88, .aload_n 0, 1), (89, .getfield 9, 3), (92, .aload_n 0, 1), (93, .getfield 24, 3), (96, .iconst 1, 1), (97, .iastore, 1), (98, .aload_n 0, 1), (99, .getfield 21, 3), (102, .aload_n 0, 1), (103, .getfield 24, 3), (106, .aload_n 0, 1), (107, .iload_n 1, 1), (108, .iload_n 2, 1), (109, .invokevirtual 69, 3), (112, .iastore, 1), (113, .goto 58, 3), (116, .aload_n 0, 1), (117, .getfield 31, 3), (120, .iload_n 1, 1), (121, .baload, 1), (122, .ifCond .le 13, 3), (125, .aload_n 0, 1), (126, .getfield 31, 3), (129, .iload_n 1, 1), (130, .baload, 1), (131, .i2c, 1), (132, .goto 5, 3), (135, .bipush 32, 2), (137, .istore_n 3, 1), (138, .aload_n 0, 1), (139, .getfield 9, 3), (142, .aload_n 0, 1), (143, .getfield 24, 3), (146, .ldc 72, 2), (148, .iload_n 3, 1), (149, .invokevirtual 74, 3), (152, .ifCond .lt 7, 3), (155, .iconst 3, 1), (156, .goto 4, 3), (159, .iconst 4, 1), (160, .iastore, 1), (161, .aload_n 0, 1), (162, .getfield 21, 3), (165, .aload_n 0, 1), (166, .getfield 24, 3), (169, .iload_n 3, 1), (170, .iastore, 1), (171, .aload_n 0, 1), (172, .dup, 1), (173, .getfield 24, 3), (176, .iconst 1, 1), (177, .iadd, 1), (178, .putfield 24, 3), (181, .return_, 1)]
theorem dc_Tokens_addToken : kdecs prog_10_method_13_code dl_Tokens_addToken = true := by decide +kernel
abbrev ky_Tokens_addToken : MethodName := ⟨"PoetFines$Tokens", "addToken", "(II)V"⟩
theorem fd_C_Tokens_24_24 : kFd "PoetFines$Tokens" 24 kcl yC 24 5 (.inl false) := ⟨8, _, _, _, _, rfl, rfl, rfl, by decide, kin8, wd_254⟩
theorem fd_C_Tokens_15_24 : kFd "PoetFines$Tokens" 15 kcl yC 24 2 (.inr 26) := ⟨8, _, _, _, _, rfl, rfl, rfl, by decide, kin8, wd_251⟩
theorem fd_C_Tokens_18_24 : kFd "PoetFines$Tokens" 18 kcl yC 24 3 (.inr 27) := ⟨8, _, _, _, _, rfl, rfl, rfl, by decide, kin8, wd_252⟩
theorem fd_C_Tokens_9_24 : kFd "PoetFines$Tokens" 9 kcl yC 24 1 (.inr 25) := ⟨8, _, _, _, _, rfl, rfl, rfl, by decide, kin8, wd_250⟩
def dl_String_indexOf_0f7a4 : List (Nat × Instr × Nat) := [(0, .aload_n 0, 1), (1, .iload_n 1, 1), (2, .iconst 0, 1), (3, .invokevirtual 633, 3), (6, .ireturn, 1)]
theorem dc_String_indexOf_0f7a4 : kdecs prog_26_method_79_code dl_String_indexOf_0f7a4 = true := by decide +kernel
abbrev ky_String_indexOf_0f7a4 : MethodName := ⟨"java/lang/String", "indexOf", "(I)I"⟩
def dl_String_indexOf_7cf53 : List (Nat × Instr × Nat) := [(0, .aload_n 0, 1), (1, .invokevirtual 492, 3), (4, .ifCond .eq 19, 3), (7, .aload_n 0, 1), (8, .getfield 9, 3), (11, .iload_n 1, 1), (12, .iload_n 2, 1), (13, .aload_n 0, 1), (14, .invokevirtual 505, 3), (17, .invokestatic 637, 3), (20, .goto 16, 3), (23, .aload_n 0, 1), (24, .getfield 9, 3), (27, .iload_n 1, 1), (28, .iload_n 2, 1), (29, .aload_n 0, 1), (30, .invokevirtual 505, 3), (33, .invokestatic 640, 3), (36, .ireturn, 1)]
theorem dc_String_indexOf_7cf53 : kdecs prog_26_method_80_code dl_String_indexOf_7cf53 = true := by decide +kernel
abbrev ky_String_indexOf_7cf53 : MethodName := ⟨"java/lang/String", "indexOf", "(II)I"⟩
def dl_String_isLatin1_aae02 : List (Nat × Instr × Nat) := [(0, .getstatic 38, 3), (3, .ifCond .eq 14, 3), (6, .aload_n 0, 1), (7, .getfield 15, 3), (10, .ifCond .ne 7, 3), (13, .iconst 1, 1), (14, .goto 4, 3), (17, .iconst 0, 1), (18, .ireturn, 1)]
theorem dc_String_isLatin1_aae02 : kdecs prog_26_method_154_code dl_String_isLatin1_aae02 = true := by decide +kernel
abbrev ky_String_isLatin1_aae02 : MethodName := ⟨"java/lang/String", "isLatin1", "()Z"⟩
def dl_String_length_8abf5 : List (Nat × Instr × Nat) := [(0, .aload_n 0, 1), (1, .getfield 9, 3), (4, .arraylength, 1), (5, .aload_n 0, 1), (6, .invokevirtual 335, 3), (9, .ishr, 1), (10, .ireturn, 1)]
theorem dc_String_length_8abf5 : kdecs prog_26_method_54_code dl_String_length_8abf5 = true := by decide +kernel
abbrev ky_String_length_8abf5 : MethodName := ⟨"java/lang/String", "length", "()I"⟩
def dl_String_coder_7d493 : List (Nat × Instr × Nat) := [(0, .getstatic 38, 3), (3, .ifCond .eq 10, 3), (6, .aload_n 0, 1), (7, .getfield 15, 3), (10, .goto 4, 3), (13, .iconst 1, 1), (14, .ireturn, 1)]
theorem dc_String_coder_7d493 : kdecs prog_26_method_152_code dl_String_coder_7d493 = true := by decide +kernel
abbrev ky_String_coder_7d493 : MethodName := ⟨"java/lang/String", "coder", "()B"⟩
theorem cv_String_335 : kCv "java/lang/String" 335 ky_String_coder_7d493 prog_26_method_152_code 1 (some .byte) 0 "java/lang/String" := ⟨⟨wd_802, wd_131, wd_805, ⟨by decide, by decide⟩, by decide +kernel⟩, wd_803, wd_804⟩
theorem cv_String_505 : kCv "java/lang/String" 505 ky_String_length_8abf5 prog_26_method_54_code 1 (some .int) 0 "java/lang/String" := ⟨⟨wd_859, wd_131, wd_801, ⟨by decide, by decide⟩, by decide +kernel⟩, wd_799, wd_800⟩
def dl_StringLatin1_indexOf_4cfef : List (Nat × Instr × Nat) := [(0, .iload_n 1, 1), (1, .invokestatic 88, 3), (4, .ifCond .ne 5, 3), (7, .iconst (-1), 1), (8, .ireturn, 1), (9, .iload_n 2, 1), (10, .iconst 0, 1), (11, .invokestatic 92, 3), (14, .istore_n 2, 1), (15, .iload_n 3, 1), (16, .aload_n 0, 1), (17, .arraylength, 1), (18, .invokestatic 38, 3), (21, .istore_n 3, 1), (22, .iload_n 2, 1), (23, .iload_n 3, 1), (24, .if_icmp .lt 5, 3), (27, .iconst (-1), 1), (28, .ireturn, 1), (29, .aload_n 0, 1), (30, .iload_n 1, 1), (31, .iload_n 2, 1), (32, .iload_n 3, 1), (33, .invokestatic 95, 3), (36, .ireturn, 1)]
theorem dc_StringLatin1_indexOf_4cfef : kdecs prog_27_method_22_code dl_StringLatin1_indexOf_4cfef = true := by decide +kernel
abbrev ky_StringLatin1_indexOf_4cfef : MethodName := ⟨"java/lang/StringLatin1", "indexOf", "([BIII)I"⟩
def dl_StringLatin1_canEncode_9a6ad : List (Nat × Instr × Nat) := [(0, .iload_n 0, 1), (1, .ifCond .lt 14, 3), (4, .iload_n 0, 1), (5, .sipush 255, 3), (8, .if_icmp .gt 7, 3), (11, .iconst 1, 1), (12, .goto 4, 3), (15, .iconst 0, 1), (16, .ireturn, 1)]
theorem dc_StringLatin1_canEncode_9a6ad : kdecs prog_27_method_4_code dl_StringLatin1_canEncode_9a6ad = true := by decide +kernel
abbrev ky_StringLatin1_canEncode_9a6ad : MethodName := ⟨"java/lang/StringLatin1", "canEncode", "(I)Z"⟩
theorem cm_StringLatin1_92 : Cond.methodLink "java/lang/StringLatin1" 92 Lib.Math.max.name ∈ kG ∧ Cond.static Lib.Math.max.name ∈ kG ∧ Cond.initialized "java/lang/Math" ∈ kG ∧ Cond.code Lib.Math.max.name Lib.Math.max.code 2 (some .int) ∈ kG := ⟨wd_866, wd_621, wd_128, kG_of kch3 31 rfl rfl⟩
theorem cm_StringLatin1_38 : Cond.methodLink "java/lang/StringLatin1" 38 Lib.Math.min.name ∈ kG ∧ Cond.static Lib.Math.min.name ∈ kG ∧ Cond.initialized "java/lang/Math" ∈ kG ∧ Cond.code Lib.Math.min.name Lib.Math.min.code 2 (some .int) ∈ kG := ⟨wd_867, wd_607, wd_128, kG_of kch3 17 rfl rfl⟩
def dl_StringLatin1_indexOfChar_4cfef : List (Nat × Instr × Nat) := [(0, .iload_n 1, 1), (1, .i2b, 1), (2, .istore 4, 2), (4, .iload_n 2, 1), (5, .istore 5, 2), (7, .iload 5, 2), (9, .iload_n 3, 1), (10, .if_icmp .ge 21, 3), (13, .aload_n 0, 1), (14, .iload 5, 2), (16, .baload, 1), (17, .iload 4, 2), (19, .if_icmp .ne 6, 3), (22, .iload 5, 2), (24, .ireturn, 1), (25, .iinc 5 1, 3), (28, .goto (-21), 3), (31, .iconst (-1), 1), (32, .ireturn, 1)]
theorem dc_StringLatin1_indexOfChar_4cfef : kdecs prog_27_method_23_code dl_StringLatin1_indexOfChar_4cfef = true := by decide +kernel
abbrev ky_StringLatin1_indexOfChar_4cfef : MethodName := ⟨"java/lang/StringLatin1", "indexOfChar", "([BIII)I"⟩
theorem cs_StringLatin1_95 : kCs "java/lang/StringLatin1" 95 ky_StringLatin1_indexOfChar_4cfef prog_27_method_23_code 6 (some .int) 4 := ⟨⟨wd_868, wd_132, wd_870, ⟨by decide, by decide⟩, by decide +kernel⟩, wd_869⟩
theorem cs_StringLatin1_88 : kCs "java/lang/StringLatin1" 88 ky_StringLatin1_canEncode_9a6ad prog_27_method_4_code 1 (some .boolean) 1 := ⟨⟨wd_863, wd_132, wd_865, ⟨by decide, by decide⟩, by decide +kernel⟩, wd_864⟩
theorem cs_String_637 : kCs "java/lang/String" 637 ky_StringLatin1_indexOf_4cfef prog_27_method_22_code 4 (some .int) 4 := ⟨⟨wd_860, wd_132, wd_862, ⟨by decide, by decide⟩, by decide +kernel⟩, wd_861⟩
theorem cv_String_492 : kCv "java/lang/String" 492 ky_String_isLatin1_aae02 prog_26_method_154_code 1 (some .boolean) 0 "java/lang/String" := ⟨⟨wd_812, wd_131, wd_815, ⟨by decide, by decide⟩, by decide +kernel⟩, wd_813, wd_814⟩
theorem cv_String_633 : kCv "java/lang/String" 633 ky_String_indexOf_7cf53 prog_26_method_80_code 3 (some .int) 2 "java/lang/String" := ⟨⟨wd_855, wd_131, wd_858, ⟨by decide, by decide⟩, by decide +kernel⟩, wd_856, wd_857⟩
theorem fd_C_Tokens_21_24 : kFd "PoetFines$Tokens" 21 kcl yC 24 4 (.inr 28) := ⟨8, _, _, _, _, rfl, rfl, rfl, by decide, kin8, wd_253⟩
theorem cv_Tokens_74 : kCv "PoetFines$Tokens" 74 ky_String_indexOf_0f7a4 prog_26_method_79_code 2 (some .int) 1 "java/lang/String" := ⟨⟨wd_851, wd_131, wd_854, ⟨by decide, by decide⟩, by decide +kernel⟩, wd_852, wd_853⟩
def dl_Tokens_valueOf : List (Nat × Instr × Nat) := [(0, .iconst 0, 1), (1, .istore_n 3, 1), (2, .iload_n 1, 1), (3, .istore 4, 2), (5, .iload 4, 2), (7, .iload_n 2, 1), (8, .if_icmp .ge 31, 3), (11, .iload_n 3, 1), (12, .bipush 10, 2), (14, .imul, 1), (15, .aload_n 0, 1), (16, .getfield 31, 3), (19, .iload 4, 2), (21, .baload, 1), (22, .iadd, 1), (23, .bipush 48, 2), (25, .isub, 1), (26, .sipush 10000, 3), (29, .invokestatic 35, 3), (32, .istore_n 3, 1), (33, .iinc 4 1, 3), (36, .goto (-31), 3), (39, .iload_n 3, 1), (40, .ireturn, 1)]
theorem dc_Tokens_valueOf : kdecs prog_10_method_14_code dl_Tokens_valueOf = true := by decide +kernel
abbrev ky_Tokens_valueOf : MethodName := ⟨"PoetFines$Tokens", "valueOf", "(II)I"⟩
theorem cv_Tokens_69 : kCv "PoetFines$Tokens" 69 ky_Tokens_valueOf prog_10_method_14_code 5 (some .int) 2 "PoetFines$Tokens" := ⟨⟨wd_846, wd_117, wd_849, ⟨by decide, by decide⟩, by decide +kernel⟩, wd_848, wd_12⟩
def dl_Word_spelt : List (Nat × Instr × Nat) := [(0, .iconst 0, 1), (1, .istore_n 3, 1), (2, .iload_n 3, 1), (3, .getstatic 90, 3), (6, .arraylength, 1), (7, .if_icmp .ge 25, 3), (10, .getstatic 90, 3), (13, .iload_n 3, 1), (14, .aaload, 1), (15, .aload_n 0, 1), (16, .iload_n 1, 1), (17, .iload_n 2, 1), (18, .invokevirtual 93, 3), (21, .ifCond .eq 5, 3), (24, .iload_n 3, 1), (25, .ireturn, 1), (26, .iinc 3 1, 3), (29, .goto (-27), 3), (32, .getstatic 90, 3), (35, .arraylength, 1), (36, .iconst 1, 1), (37, .isub, 1), (38, .ireturn, 1)]
theorem dc_Word_spelt : kdecs prog_11_method_5_code dl_Word_spelt = true := by decide +kernel
abbrev ky_Word_spelt : MethodName := ⟨"PoetFines$Word", "spelt", "([BII)I"⟩
def dl_Word_isSpelt : List (Nat × Instr × Nat) := [(0, .iload_n 3, 1), (1, .iload_n 2, 1), (2, .isub, 1), (3, .aload_n 0, 1), (4, .getfield 79, 3), (7, .invokevirtual 97, 3), (10, .if_icmp .eq 5, 3), (13, .iconst 0, 1), (14, .ireturn, 1), (15, .iconst 0, 1), (16, .istore 4, 2), (18, .iload 4, 2), (20, .aload_n 0, 1), (21, .getfield 79, 3), (24, .invokevirtual 97, 3), (27, .if_icmp .ge 38, 3), (30, .iload_n 2, 1), (31, .iload 4, 2), (33, .iadd, 1), (34, .aload_n 1, 1), (35, .arraylength, 1), (36, .if_icmp .ge 21, 3), (39, .aload_n 1, 1), (40, .iload_n 2, 1), (41, .iload 4, 2), (43, .iadd, 1), (44, .baload, 1), (45, .aload_n 0, 1), (46, .getfield 79, 3), (49, .iload 4, 2), (51, .invokevirtual 103, 3), (54, .if_icmp .eq 5, 3), (57, .iconst 0, 1), (58, .ireturn, 1), (59, .iinc 4 1, 3), (62, .goto (-44), 3), (65, .iconst 1, 1), (66, .ireturn, 1)]
theorem dc_Word_isSpelt : kdecs prog_11_method_6_code dl_Word_isSpelt = true := by decide +kernel
abbrev ky_Word_isSpelt : MethodName := ⟨"PoetFines$Word", "isSpelt", "([BII)Z"⟩
def dl_String_charAt_5068e : List (Nat × Instr × Nat) := [(0, .aload_n 0, 1), (1, .invokevirtual 492, 3), (4, .ifCond .eq 12, 3), (7, .aload_n 0, 1), (8, .getfield 9, 3), (11, .iload_n 1, 1), (12, .invokestatic 495, 3), (15, .ireturn, 1), (16, .aload_n 0, 1), (17, .getfield 9, 3), (20, .iload_n 1, 1), (21, .invokestatic 498, 3), (24, .ireturn, 1)]
theorem dc_String_charAt_5068e : kdecs prog_26_method_56_code dl_String_charAt_5068e = true := by decide +kernel
abbrev ky_String_charAt_5068e : MethodName := ⟨"java/lang/String", "charAt", "(I)C"⟩
def dl_StringLatin1_charAt_3b067 : List (Nat × Instr × Nat) := [(0, .iload_n 1, 1), (1, .aload_n 0, 1), (2, .arraylength, 1), (3, .invokestatic 9, 3), (6, .aload_n 0, 1), (7, .iload_n 1, 1), (8, .baload, 1), (9, .sipush 255, 3), (12, .iand, 1), (13, .i2c, 1), (14, .ireturn, 1)]
theorem dc_StringLatin1_charAt_3b067 : kdecs prog_27_method_2_code dl_StringLatin1_charAt_3b067 = true := by decide +kernel
abbrev ky_StringLatin1_charAt_3b067 : MethodName := ⟨"java/lang/StringLatin1", "charAt", "([BI)C"⟩
def dl_String_checkIndex_df160 : List (Nat × Instr × Nat) := [(0, .iload_n 0, 1), (1, .iload_n 1, 1), (2, .getstatic 1053, 3), (5, .invokestatic 1059, 3), (8, .pop, 1), (9, .return_, 1)]
theorem dc_String_checkIndex_df160 : kdecs prog_26_method_155_code dl_String_checkIndex_df160 = true := by decide +kernel
abbrev ky_String_checkIndex_df160 : MethodName := ⟨"java/lang/String", "checkIndex", "(II)V"⟩
def dl_Preconditions_checkIndex_8e157 : List (Nat × Instr × Nat) := [(0, .iload_n 0, 1), (1, .ifCond .lt 8, 3), (4, .iload_n 0, 1), (5, .iload_n 1, 1), (6, .if_icmp .lt 10, 3), (9, .aload_n 2, 1), (10, .iload_n 0, 1), (11, .iload_n 1, 1), (12, .invokestatic 95, 3), (15, .athrow, 1), (16, .iload_n 0, 1), (17, .ireturn, 1)]
theorem dc_Preconditions_checkIndex_8e157 : kdecs prog_34_method_11_code dl_Preconditions_checkIndex_8e157 = true := by decide +kernel
abbrev ky_Preconditions_checkIndex_8e157 : MethodName := ⟨"jdk/internal/util/Preconditions", "checkIndex", "(IILjava/util/function/BiFunction;)I"⟩
theorem cs_String_1059 : kCs "java/lang/String" 1059 ky_Preconditions_checkIndex_8e157 prog_34_method_11_code 3 (some .int) 3 := ⟨⟨wd_824, wd_133, wd_826, ⟨by decide, by decide⟩, by decide +kernel⟩, wd_825⟩
theorem cs_StringLatin1_9 : kCs "java/lang/StringLatin1" 9 ky_String_checkIndex_df160 prog_26_method_155_code 2 none 2 := ⟨⟨wd_819, wd_131, wd_821, ⟨by decide, by decide⟩, by decide +kernel⟩, wd_820⟩
theorem cs_String_495 : kCs "java/lang/String" 495 ky_StringLatin1_charAt_3b067 prog_27_method_2_code 2 (some .char) 2 := ⟨⟨wd_816, wd_132, wd_818, ⟨by decide, by decide⟩, by decide +kernel⟩, wd_817⟩
theorem cv_Word_103 : kCv "PoetFines$Word" 103 ky_String_charAt_5068e prog_26_method_56_code 2 (some .char) 1 "java/lang/String" := ⟨⟨wd_808, wd_131, wd_811, ⟨by decide, by decide⟩, by decide +kernel⟩, wd_809, wd_810⟩
theorem cv_Word_97 : kCv "PoetFines$Word" 97 ky_String_length_8abf5 prog_26_method_54_code 1 (some .int) 0 "java/lang/String" := ⟨⟨wd_798, wd_131, wd_801, ⟨by decide, by decide⟩, by decide +kernel⟩, wd_799, wd_800⟩
theorem cv_Word_93 : kCv "PoetFines$Word" 93 ky_Word_isSpelt prog_11_method_6_code 5 (some .boolean) 3 "PoetFines$Word" := ⟨⟨wd_793, wd_130, wd_797, ⟨by decide, by decide⟩, by decide +kernel⟩, wd_795, wd_11⟩
theorem cs_Tokens_65 : kCs "PoetFines$Tokens" 65 ky_Word_spelt prog_11_method_5_code 4 (some .int) 3 := ⟨⟨wd_788, wd_130, wd_790, ⟨by decide, by decide⟩, by decide +kernel⟩, wd_789⟩
theorem cv_Tokens_44 : kCv "PoetFines$Tokens" 44 ky_Tokens_addToken prog_10_method_13_code 4 none 2 "PoetFines$Tokens" := ⟨⟨wd_784, wd_117, wd_787, ⟨by decide, by decide⟩, by decide +kernel⟩, wd_786, wd_10⟩
theorem cv_Tokens_41 : kCv "PoetFines$Tokens" 41 ky_Tokens_endOf prog_10_method_12_code 4 (some .int) 2 "PoetFines$Tokens" := ⟨⟨wd_774, wd_117, wd_777, ⟨by decide, by decide⟩, by decide +kernel⟩, wd_776, wd_9⟩
def dl_Tokens_isWord : List (Nat × Instr × Nat) := [(0, .aload_n 0, 1), (1, .getfield 9, 3), (4, .aload_n 0, 1), (5, .getfield 28, 3), (8, .iaload, 1), (9, .iconst 2, 1), (10, .if_icmp .ne 24, 3), (13, .getstatic 48, 3), (16, .aload_n 0, 1), (17, .getfield 21, 3), (20, .aload_n 0, 1), (21, .getfield 28, 3), (24, .iaload, 1), (25, .aaload, 1), (26, .aload_n 1, 1), (27, .if_acmp .ne 7, 3), (30, .iconst 1, 1), (31, .goto 4, 3), (34, .iconst 0, 1), (35, .ireturn, 1)]
theorem dc_Tokens_isWord : kdecs prog_10_method_9_code dl_Tokens_isWord = true := by decide +kernel
abbrev ky_Tokens_isWord : MethodName := ⟨"PoetFines$Tokens", "isWord", "(LPoetFines$Word;)Z"⟩
theorem fd_C_Tokens_28_24 : kFd "PoetFines$Tokens" 28 kcl yC 24 6 (.inl false) := ⟨8, _, _, _, _, rfl, rfl, rfl, by decide, kin8, wd_255⟩
def dl_Tokens_kind : List (Nat × Instr × Nat) := [(0, .aload_n 0, 1), (1, .getfield 9, 3), (4, .aload_n 0, 1), (5, .getfield 28, 3), (8, .iaload, 1), (9, .ireturn, 1)]
theorem dc_Tokens_kind : kdecs prog_10_method_3_code dl_Tokens_kind = true := by decide +kernel
abbrev ky_Tokens_kind : MethodName := ⟨"PoetFines$Tokens", "kind", "()I"⟩
def dl_Tokens_word : List (Nat × Instr × Nat) := [(0, .aload_n 0, 1), (1, .getfield 9, 3), (4, .aload_n 0, 1), (5, .getfield 28, 3), (8, .iaload, 1), (9, .iconst 2, 1), (10, .if_icmp .ne 19, 3), (13, .getstatic 48, 3), (16, .aload_n 0, 1), (17, .getfield 21, 3), (20, .aload_n 0, 1), (21, .getfield 28, 3), (24, .iaload, 1), (25, .aaload, 1), (26, .goto 6, 3), (29, .getstatic 54, 3), (32, .areturn, 1)]
theorem dc_Tokens_word : kdecs prog_10_method_7_code dl_Tokens_word = true := by decide +kernel
abbrev ky_Tokens_word : MethodName := ⟨"PoetFines$Tokens", "word", "()LPoetFines$Word;"⟩
def dl_Parser_refuse : List (Nat × Instr × Nat) := [(0, .aload_n 0, 1), (1, .getfield 29, 3), (4, .ifCond .ne 19, 3), (7, .aload_n 0, 1), (8, .iload_n 1, 1), (9, .putfield 29, 3), (12, .aload_n 0, 1), (13, .aload_n 0, 1), (14, .getfield 40, 3), (17, .invokevirtual 113, 3), (20, .putfield 25, 3), (23, .aload_n 0, 1), (24, .getfield 40, 3), (27, .invokevirtual 116, 3), (30, .return_, 1)]
theorem dc_Parser_refuse : kdecs prog_6_method_3_code dl_Parser_refuse = true := by decide +kernel
abbrev ky_Parser_refuse : MethodName := ⟨"PoetFines$Parser", "refuse", "(I)V"⟩
theorem fd_C_Parser_29_12 : kFd "PoetFines$Parser" 29 kcl yC 12 3 (.inl false) := ⟨4, _, _, _, _, rfl, rfl, rfl, by decide, kin4, wd_277⟩
def dl_Tokens_stop : List (Nat × Instr × Nat) := [(0, .aload_n 0, 1), (1, .aload_n 0, 1), (2, .getfield 24, 3), (5, .putfield 28, 3), (8, .return_, 1)]
theorem dc_Tokens_stop : kdecs prog_10_method_11_code dl_Tokens_stop = true := by decide +kernel
abbrev ky_Tokens_stop : MethodName := ⟨"PoetFines$Tokens", "stop", "()V"⟩
theorem cv_Parser_116 : kCv "PoetFines$Parser" 116 ky_Tokens_stop prog_10_method_11_code 1 none 0 "PoetFines$Tokens" := ⟨⟨wd_933, wd_117, wd_936, ⟨by decide, by decide⟩, by decide +kernel⟩, wd_934, wd_935⟩
def dl_Tokens_start : List (Nat × Instr × Nat) := [(0, .aload_n 0, 1), (1, .getfield 15, 3), (4, .aload_n 0, 1), (5, .getfield 28, 3), (8, .iaload, 1), (9, .ireturn, 1)]
theorem dc_Tokens_start : kdecs prog_10_method_4_code dl_Tokens_start = true := by decide +kernel
abbrev ky_Tokens_start : MethodName := ⟨"PoetFines$Tokens", "start", "()I"⟩
theorem cv_Parser_113 : kCv "PoetFines$Parser" 113 ky_Tokens_start prog_10_method_4_code 1 (some .int) 0 "PoetFines$Tokens" := ⟨⟨wd_929, wd_117, wd_932, ⟨by decide, by decide⟩, by decide +kernel⟩, wd_930, wd_931⟩
theorem cv_Parser_110 : kCv "PoetFines$Parser" 110 ky_Parser_refuse prog_6_method_3_code 2 none 1 "PoetFines$Parser" := ⟨⟨wd_925, wd_115, wd_928, ⟨by decide, by decide⟩, by decide +kernel⟩, wd_927, wd_14⟩
def dl_Parser_takeRule : List (Nat × Instr × Nat) := [(0, .aload_n 0, 1), (1, .getfield 12, 3), (4, .getfield 159, 3), (7, .iload_n 1, 1), (8, .invokevirtual 163, 3), (11, .ifCond .eq 9, 3), (14, .aload_n 0, 1), (15, .iconst 5, 1), (16, .invokevirtual 110, 3), (19, .return_, 1), (20, .aload_n 0, 1), (21, .iload_n 1, 1), (22, .putfield 32, 3), (25, .aload_n 0, 1), (26, .getfield 40, 3), (29, .invokevirtual 62, 3), (32, .aload_n 0, 1), (33, .getfield 12, 3), (36, .getfield 159, 3), (39, .aload_n 0, 1), (40, .getfield 32, 3), (43, .invokevirtual 167, 3), (46, .aload_n 0, 1), (47, .iconst 0, 1), (48, .iconst 0, 1), (49, .invokevirtual 170, 3), (52, .aload_n 0, 1), (53, .getfield 12, 3), (56, .getfield 159, 3), (59, .aload_n 0, 1), (60, .getfield 32, 3), (63, .invokevirtual 173, 3), (66, .aload_n 0, 1), (67, .bipush 59, 2), (69, .invokevirtual 72, 3), (72, .return_, 1)]
theorem dc_Parser_takeRule : kdecs prog_6_method_10_code dl_Parser_takeRule = true := by decide +kernel
abbrev ky_Parser_takeRule : MethodName := ⟨"PoetFines$Parser", "takeRule", "(I)V"⟩
theorem fd_C_Parser_159_13 : kFd "PoetFines$Parser" 159 kcl yC 13 6 (.inr 17) := ⟨2, _, _, _, _, rfl, rfl, rfl, by decide, kin2, wd_203⟩
def dl_Rules_has : List (Nat × Instr × Nat) := [(0, .aload_n 0, 1), (1, .getfield 22, 3), (4, .iload_n 1, 1), (5, .iaload, 1), (6, .aload_n 0, 1), (7, .getfield 19, 3), (10, .iload_n 1, 1), (11, .iaload, 1), (12, .if_icmp .le 7, 3), (15, .iconst 1, 1), (16, .goto 4, 3), (19, .iconst 0, 1), (20, .ireturn, 1)]
theorem dc_Rules_has : kdecs prog_7_method_4_code dl_Rules_has = true := by decide +kernel
abbrev ky_Rules_has : MethodName := ⟨"PoetFines$Rules", "has", "(I)Z"⟩
theorem fp_C_Parser_32_12 : kFp "PoetFines$Parser" 32 kcl yC 12 4 (.inl false) .int := ⟨4, _, _, _, _, kty4, rfl, rfl, rfl, by decide, kin4, wd_278, kty4_ok, knm4, rfl, by decide +kernel⟩
def dl_Tokens_advance : List (Nat × Instr × Nat) := [(0, .aload_n 0, 1), (1, .getfield 28, 3), (4, .aload_n 0, 1), (5, .getfield 24, 3), (8, .if_icmp .ge 13, 3), (11, .aload_n 0, 1), (12, .dup, 1), (13, .getfield 28, 3), (16, .iconst 1, 1), (17, .iadd, 1), (18, .putfield 28, 3), (21, .return_, 1)]
theorem dc_Tokens_advance : kdecs prog_10_method_10_code dl_Tokens_advance = true := by decide +kernel
abbrev ky_Tokens_advance : MethodName := ⟨"PoetFines$Tokens", "advance", "()V"⟩
theorem fd_C_Parser_32_12 : kFd "PoetFines$Parser" 32 kcl yC 12 4 (.inl false) := ⟨4, _, _, _, _, rfl, rfl, rfl, by decide, kin4, wd_278⟩
def dl_Rules_begin : List (Nat × Instr × Nat) := [(0, .aload_n 0, 1), (1, .getfield 19, 3), (4, .iload_n 1, 1), (5, .aload_n 0, 1), (6, .getfield 15, 3), (9, .iastore, 1), (10, .return_, 1)]
theorem dc_Rules_begin : kdecs prog_7_method_6_code dl_Rules_begin = true := by decide +kernel
abbrev ky_Rules_begin : MethodName := ⟨"PoetFines$Rules", "begin", "(I)V"⟩
theorem fd_C_Rules_15_17 : kFd "PoetFines$Rules" 15 kcl yC 17 1 (.inl false) := ⟨5, _, _, _, _, rfl, rfl, rfl, by decide, kin5, wd_161⟩
def dl_Parser_takeLevel : List (Nat × Instr × Nat) := [(0, .iload_n 1, 1), (1, .iconst 5, 1), (2, .if_icmp .le 9, 3), (5, .aload_n 0, 1), (6, .iload_n 2, 1), (7, .invokevirtual 176, 3), (10, .return_, 1), (11, .iload_n 1, 1), (12, .iconst 2, 1), (13, .if_icmp .ne 10, 3), (16, .aload_n 0, 1), (17, .invokevirtual 179, 3), (20, .goto 4, 3), (23, .iconst 0, 1), (24, .istore_n 3, 1), (25, .aload_n 0, 1), (26, .iload_n 1, 1), (27, .iconst 1, 1), (28, .iadd, 1), (29, .iload_n 2, 1), (30, .invokevirtual 170, 3), (33, .iload_n 1, 1), (34, .iconst 3, 1), (35, .if_icmp .ne 7, 3), (38, .iconst 1, 1), (39, .goto 6, 3), (42, .sipush 700, 3), (45, .istore 4, 2), (47, .iconst 0, 1), (48, .istore 5, 2), (50, .iload 5, 2), (52, .iload 4, 2), (54, .if_icmp .ge 52, 3), (57, .aload_n 0, 1), (58, .iload_n 1, 1), (59, .invokevirtual 182, 3), (62, .iconst (-1), 1), (63, .if_icmp .eq 43, 3), (66, .aload_n 0, 1), (67, .iload_n 1, 1), (68, .invokevirtual 182, 3), (71, .istore 6, 2), (73, .aload_n 0, 1), (74, .getfield 40, 3), (77, .invokevirtual 62, 3), (80, .aload_n 0, 1), (81, .iload_n 1, 1), (82, .iconst 1, 1), (83, .iadd, 1), (84, .iload_n 2, 1), (85, .invokevirtual 170, 3), (88, .aload_n 0, 1), (89, .getfield 12, 3), (92, .getfield 159, 3), (95, .iload 6, 2), (97, .invokevirtual 186, 3), (100, .iinc 5 1, 3), (103, .goto (-53), 3), (106, .iconst 0, 1), (107, .istore 5, 2), (109, .iload 5, 2), (111, .iload_n 3, 1), (112, .if_icmp .ge 21, 3), (115, .aload_n 0, 1), (116, .getfield 12, 3), (119, .getfield 159, 3), (122, .bipush (-9), 2), (124, .invokevirtual 186, 3), (127, .iinc 5 1, 3), (130, .goto (-21), 3), (133, .return_, 1)]
theorem dc_Parser_takeLevel : kdecs prog_6_method_11_code dl_Parser_takeLevel = true := by decide +kernel
abbrev ky_Parser_takeLevel : MethodName := ⟨"PoetFines$Parser", "takeLevel", "(II)V"⟩
def dl_Parser_operatorOf : List (Nat × Instr × Nat) := [(0, .iload_n 1, 1), (1, .tableswitch 118 0 5 #[39, 59, 118, 79, 92, 105], 39), (40, .aload_n 0, 1), (41, .getfield 40, 3), (44, .getstatic 189, 3), (47, .invokevirtual 58, 3), (50, .ifCond .eq 8, 3), (53, .bipush (-10), 2), (55, .goto 4, 3), (58, .iconst (-1), 1), (59, .ireturn, 1), (60, .aload_n 0, 1), (61, .getfield 40, 3), (64, .getstatic 192, 3), (67, .invokevirtual 58, 3), (70, .ifCond .eq 8, 3), (73, .bipush (-11), 2), (75, .goto 4, 3), (78, .iconst (-1), 1), (79, .ireturn, 1), (80, .aload_n 0, 1), (81, .bipush 60, 2), (83, .bipush (-12), 2), (85, .bipush 61, 2), (87, .bipush (-13), 2), (89, .invokevirtual 195, 3), (92, .ireturn, 1), (93, .aload_n 0, 1), (94, .bipush 43, 2), (96, .bipush (-14), 2), (98, .bipush 45, 2), (100, .bipush (-15), 2), (102, .invokevirtual 195, 3), (105, .ireturn, 1), (106, .aload_n 0, 1), (107, .bipush 42, 2), (109, .bipush (-16), 2), (111, .bipush 47, 2), (113, .bipush (-17), 2), (115, .invokevirtual 195, 3), (118, .ireturn, 1), (119, .iconst (-1), 1), (120, .ireturn, 1)]
theorem dc_Parser_operatorOf : kdecs prog_6_method_12_code dl_Parser_operatorOf = true := by decide +kernel
abbrev ky_Parser_operatorOf : MethodName := ⟨"PoetFines$Parser", "operatorOf", "(I)I"⟩
theorem cv_Parser_58 : kCv "PoetFines$Parser" 58 ky_Tokens_isWord prog_10_method_9_code 2 (some .boolean) 1 "PoetFines$Tokens" := ⟨⟨wd_908, wd_117, wd_911, ⟨by decide, by decide⟩, by decide +kernel⟩, wd_909, wd_910⟩
def dl_Parser_oneOf : List (Nat × Instr × Nat) := [(0, .aload_n 0, 1), (1, .getfield 40, 3), (4, .iload_n 1, 1), (5, .invokevirtual 155, 3), (8, .ifCond .eq 5, 3), (11, .iload_n 2, 1), (12, .ireturn, 1), (13, .aload_n 0, 1), (14, .getfield 40, 3), (17, .iload_n 3, 1), (18, .invokevirtual 155, 3), (21, .ifCond .eq 8, 3), (24, .iload 4, 2), (26, .goto 4, 3), (29, .iconst (-1), 1), (30, .ireturn, 1)]
theorem dc_Parser_oneOf : kdecs prog_6_method_13_code dl_Parser_oneOf = true := by decide +kernel
abbrev ky_Parser_oneOf : MethodName := ⟨"PoetFines$Parser", "oneOf", "(CICI)I"⟩
def dl_Tokens_isSign : List (Nat × Instr × Nat) := [(0, .aload_n 0, 1), (1, .getfield 9, 3), (4, .aload_n 0, 1), (5, .getfield 28, 3), (8, .iaload, 1), (9, .iconst 3, 1), (10, .if_icmp .ne 20, 3), (13, .aload_n 0, 1), (14, .getfield 21, 3), (17, .aload_n 0, 1), (18, .getfield 28, 3), (21, .iaload, 1), (22, .iload_n 1, 1), (23, .if_icmp .ne 7, 3), (26, .iconst 1, 1), (27, .goto 4, 3), (30, .iconst 0, 1), (31, .ireturn, 1)]
theorem dc_Tokens_isSign : kdecs prog_10_method_8_code dl_Tokens_isSign = true := by decide +kernel
abbrev ky_Tokens_isSign : MethodName := ⟨"PoetFines$Tokens", "isSign", "(C)Z"⟩
theorem cv_Parser_155 : kCv "PoetFines$Parser" 155 ky_Tokens_isSign prog_10_method_8_code 2 (some .boolean) 1 "PoetFines$Tokens" := ⟨⟨wd_949, wd_117, wd_952, ⟨by decide, by decide⟩, by decide +kernel⟩, wd_950, wd_951⟩
theorem cv_Parser_195 : kCv "PoetFines$Parser" 195 ky_Parser_oneOf prog_6_method_13_code 5 (some .int) 4 "PoetFines$Parser" := ⟨⟨wd_1040, wd_115, wd_1043, ⟨by decide, by decide⟩, by decide +kernel⟩, wd_1042, wd_27⟩
def dl_Rules_emit : List (Nat × Instr × Nat) := [(0, .aload_n 0, 1), (1, .getfield 15, 3), (4, .sipush 700, 3), (7, .if_icmp .ge 23, 3), (10, .aload_n 0, 1), (11, .getfield 11, 3), (14, .aload_n 0, 1), (15, .getfield 15, 3), (18, .iload_n 1, 1), (19, .iastore, 1), (20, .aload_n 0, 1), (21, .dup, 1), (22, .getfield 15, 3), (25, .iconst 1, 1), (26, .iadd, 1), (27, .putfield 15, 3), (30, .return_, 1)]
theorem dc_Rules_emit : kdecs prog_7_method_7_code dl_Rules_emit = true := by decide +kernel
abbrev ky_Rules_emit : MethodName := ⟨"PoetFines$Rules", "emit", "(I)V"⟩
theorem fd_C_Rules_11_17 : kFd "PoetFines$Rules" 11 kcl yC 17 0 (.inr 18) := ⟨5, _, _, _, _, rfl, rfl, rfl, by decide, kin5, wd_160⟩
theorem cv_Parser_186 : kCv "PoetFines$Parser" 186 ky_Rules_emit prog_7_method_7_code 2 none 1 "PoetFines$Rules" := ⟨⟨wd_1010, wd_114, wd_1013, ⟨by decide, by decide⟩, by decide +kernel⟩, wd_1011, wd_1012⟩
theorem cv_Parser_170 : kCv "PoetFines$Parser" 170 ky_Parser_takeLevel prog_6_method_11_code 7 none 2 "PoetFines$Parser" := ⟨⟨wd_1002, wd_115, wd_1005, ⟨by decide, by decide⟩, by decide +kernel⟩, wd_1004, wd_21⟩
theorem cv_Parser_62 : kCv "PoetFines$Parser" 62 ky_Tokens_advance prog_10_method_10_code 1 none 0 "PoetFines$Tokens" := ⟨⟨wd_913, wd_117, wd_916, ⟨by decide, by decide⟩, by decide +kernel⟩, wd_914, wd_915⟩
theorem cv_Parser_182 : kCv "PoetFines$Parser" 182 ky_Parser_operatorOf prog_6_method_12_code 2 (some .int) 1 "PoetFines$Parser" := ⟨⟨wd_1032, wd_115, wd_1035, ⟨by decide, by decide⟩, by decide +kernel⟩, wd_1034, wd_26⟩
abbrev ky_Parser_takePart : MethodName := ⟨"PoetFines$Parser", "takePart", "(I)V"⟩
def dl_Parser_takeNots : List (Nat × Instr × Nat) := [(0, .iconst 0, 1), (1, .istore_n 1, 1), (2, .iconst 0, 1), (3, .istore_n 2, 1), (4, .iload_n 2, 1), (5, .bipush 6, 2), (7, .if_icmp .ge 32, 3), (10, .aload_n 0, 1), (11, .getfield 40, 3), (14, .getstatic 199, 3), (17, .invokevirtual 58, 3), (20, .ifCond .eq 19, 3), (23, .iinc 1 1, 3), (26, .aload_n 0, 1), (27, .getfield 40, 3), (30, .invokevirtual 62, 3), (33, .iinc 2 1, 3), (36, .goto (-32), 3), (39, .aload_n 0, 1), (40, .getfield 40, 3), (43, .getstatic 199, 3), (46, .invokevirtual 58, 3), (49, .ifCond .eq 8, 3), (52, .aload_n 0, 1), (53, .iconst 2, 1), (54, .invokevirtual 110, 3), (57, .iload_n 1, 1), (58, .ireturn, 1)]
theorem dc_Parser_takeNots : kdecs prog_6_method_14_code dl_Parser_takeNots = true := by decide +kernel
abbrev ky_Parser_takeNots : MethodName := ⟨"PoetFines$Parser", "takeNots", "()I"⟩
theorem cv_Parser_179 : kCv "PoetFines$Parser" 179 ky_Parser_takeNots prog_6_method_14_code 3 (some .int) 0 "PoetFines$Parser" := ⟨⟨wd_1026, wd_115, wd_1029, ⟨by decide, by decide⟩, by decide +kernel⟩, wd_1028, wd_25⟩
theorem cv_Parser_176 : kCv "PoetFines$Parser" 176 ky_Parser_takePart prog_6_method_15_code 2 none 1 "PoetFines$Parser" := ⟨⟨wd_1006, wd_115, wd_1009, ⟨by decide, by decide⟩, by decide +kernel⟩, wd_1008, wd_22⟩
def dl_Parser_takePart : List (Nat × Instr × Nat) := [(0, .aload_n 0, 1), (1, .getfield 40, 3), (4, .invokevirtual 76, 3), (7, .iconst 1, 1), (8, .if_icmp .ne 24, 3), (11, .aload_n 0, 1), (12, .getfield 12, 3), (15, .getfield 159, 3), (18, .aload_n 0, 1), (19, .iconst 0, 1), (20, .sipush 9999, 3), (23, .invokevirtual 65, 3), (26, .invokevirtual 186, 3), (29, .goto 86, 3), (32, .aload_n 0, 1), (33, .getfield 40, 3), (36, .invokevirtual 76, 3), (39, .iconst 2, 1), (40, .if_icmp .ne 10, 3), (43, .aload_n 0, 1), (44, .invokevirtual 202, 3), (47, .goto 68, 3), (50, .aload_n 0, 1), (51, .getfield 40, 3), (54, .bipush 40, 2), (56, .invokevirtual 155, 3), (59, .ifCond .ne 11, 3), (62, .aload_n 0, 1), (63, .iconst 1, 1), (64, .invokevirtual 110, 3), (67, .goto 48, 3), (70, .aload_n 0, 1), (71, .getfield 40, 3), (74, .invokevirtual 62, 3), (77, .iload_n 1, 1), (78, .iconst 5, 1), (79, .if_icmp .ge 14, 3), (82, .aload_n 0, 1), (83, .iconst 0, 1), (84, .iload_n 1, 1), (85, .iconst 1, 1), (86, .iadd, 1), (87, .invokevirtual 170, 3), (90, .goto 19, 3), (93, .aload_n 0, 1), (94, .aload_n 0, 1), (95, .invokevirtual 205, 3), (98, .ifCond .eq 7, 3), (101, .iconst 2, 1), (102, .goto 4, 3), (105, .iconst 1, 1), (106, .invokevirtual 110, 3), (109, .aload_n 0, 1), (110, .bipush 41, 2), (112, .invokevirtual 72, 3), (115, .return_, 1)]
theorem dc_Parser_takePart : kdecs prog_6_method_15_code dl_Parser_takePart = true := by decide +kernel
def dl_Parser_couldBePart : List (Nat × Instr × Nat) := [(0, .aload_n 0, 1), (1, .getfield 40, 3), (4, .invokevirtual 76, 3), (7, .iconst 1, 1), (8, .if_icmp .eq 26, 3), (11, .aload_n 0, 1), (12, .getfield 40, 3), (15, .invokevirtual 76, 3), (18, .iconst 2, 1), (19, .if_icmp .eq 15, 3), (22, .aload_n 0, 1), (23, .getfield 40, 3), (26, .bipush 40, 2), (28, .invokevirtual 155, 3), (31, .ifCond .eq 7, 3), (34, .iconst 1, 1), (35, .goto 4, 3), (38, .iconst 0, 1), (39, .ireturn, 1)]
theorem dc_Parser_couldBePart : kdecs prog_6_method_16_code dl_Parser_couldBePart = true := by decide +kernel
abbrev ky_Parser_couldBePart : MethodName := ⟨"PoetFines$Parser", "couldBePart", "()Z"⟩
theorem cv_Parser_76 : kCv "PoetFines$Parser" 76 ky_Tokens_kind prog_10_method_3_code 1 (some .int) 0 "PoetFines$Tokens" := ⟨⟨wd_921, wd_117, wd_924, ⟨by decide, by decide⟩, by decide +kernel⟩, wd_922, wd_923⟩
def dl_Parser_takeSign : List (Nat × Instr × Nat) := [(0, .aload_n 0, 1), (1, .getfield 40, 3), (4, .iload_n 1, 1), (5, .invokevirtual 155, 3), (8, .ifCond .eq 13, 3), (11, .aload_n 0, 1), (12, .getfield 40, 3), (15, .invokevirtual 62, 3), (18, .goto 8, 3), (21, .aload_n 0, 1), (22, .iconst 1, 1), (23, .invokevirtual 110, 3), (26, .return_, 1)]
theorem dc_Parser_takeSign : kdecs prog_6_method_9_code dl_Parser_takeSign = true := by decide +kernel
abbrev ky_Parser_takeSign : MethodName := ⟨"PoetFines$Parser", "takeSign", "(C)V"⟩
theorem cv_Parser_72 : kCv "PoetFines$Parser" 72 ky_Parser_takeSign prog_6_method_9_code 2 none 1 "PoetFines$Parser" := ⟨⟨wd_945, wd_115, wd_948, ⟨by decide, by decide⟩, by decide +kernel⟩, wd_947, wd_15⟩
theorem cv_Parser_205 : kCv "PoetFines$Parser" 205 ky_Parser_couldBePart prog_6_method_16_code 1 (some .boolean) 0 "PoetFines$Parser" := ⟨⟨wd_1022, wd_115, wd_1025, ⟨by decide, by decide⟩, by decide +kernel⟩, wd_1024, wd_24⟩
def dl_Parser_takeValue : List (Nat × Instr × Nat) := [(0, .aload_n 0, 1), (1, .getfield 40, 3), (4, .invokevirtual 80, 3), (7, .astore_n 1, 1), (8, .aload_n 1, 1), (9, .aload_n 0, 1), (10, .getfield 32, 3), (13, .invokevirtual 209, 3), (16, .ifCond .eq 29, 3), (19, .aload_n 0, 1), (20, .getfield 12, 3), (23, .getfield 159, 3), (26, .iconst (-1), 1), (27, .aload_n 1, 1), (28, .getfield 212, 3), (31, .isub, 1), (32, .invokevirtual 186, 3), (35, .aload_n 0, 1), (36, .getfield 40, 3), (39, .invokevirtual 62, 3), (42, .goto 8, 3), (45, .aload_n 0, 1), (46, .iconst 3, 1), (47, .invokevirtual 110, 3), (50, .return_, 1)]
theorem dc_Parser_takeValue : kdecs prog_6_method_17_code dl_Parser_takeValue = true := by decide +kernel
abbrev ky_Parser_takeValue : MethodName := ⟨"PoetFines$Parser", "takeValue", "()V"⟩
def dl_Word_isValueOf : List (Nat × Instr × Nat) := [(0, .aload_n 0, 1), (1, .getfield 87, 3), (4, .iload_n 1, 1), (5, .ishr, 1), (6, .iconst 1, 1), (7, .iand, 1), (8, .iconst 1, 1), (9, .if_icmp .ne 7, 3), (12, .iconst 1, 1), (13, .goto 4, 3), (16, .iconst 0, 1), (17, .ireturn, 1)]
theorem dc_Word_isValueOf : kdecs prog_11_method_4_code dl_Word_isValueOf = true := by decide +kernel
abbrev ky_Word_isValueOf : MethodName := ⟨"PoetFines$Word", "isValueOf", "(I)Z"⟩
theorem cv_Parser_209 : kCv "PoetFines$Parser" 209 ky_Word_isValueOf prog_11_method_4_code 2 (some .boolean) 1 "PoetFines$Word" := ⟨⟨wd_1018, wd_130, wd_1021, ⟨by decide, by decide⟩, by decide +kernel⟩, wd_1019, wd_1020⟩
theorem cv_Parser_80 : kCv "PoetFines$Parser" 80 ky_Tokens_word prog_10_method_7_code 1 (some (.object "PoetFines$Word")) 0 "PoetFines$Tokens" := ⟨⟨wd_953, wd_117, wd_956, ⟨by decide, by decide⟩, by decide +kernel⟩, wd_954, wd_955⟩
theorem cv_Parser_202 : kCv "PoetFines$Parser" 202 ky_Parser_takeValue prog_6_method_17_code 2 none 0 "PoetFines$Parser" := ⟨⟨wd_1014, wd_115, wd_1017, ⟨by decide, by decide⟩, by decide +kernel⟩, wd_1016, wd_23⟩
def dl_Parser_takeNumber : List (Nat × Instr × Nat) := [(0, .aload_n 0, 1), (1, .getfield 40, 3), (4, .invokevirtual 76, 3), (7, .iconst 1, 1), (8, .if_icmp .eq 10, 3), (11, .aload_n 0, 1), (12, .iconst 1, 1), (13, .invokevirtual 110, 3), (16, .iload_n 1, 1), (17, .ireturn, 1), (18, .aload_n 0, 1), (19, .getfield 40, 3), (22, .invokevirtual 152, 3), (25, .istore_n 3, 1), (26, .aload_n 0, 1), (27, .getfield 40, 3), (30, .invokevirtual 149, 3), (33, .iconst 4, 1), (34, .if_icmp .gt 13, 3), (37, .iload_n 3, 1), (38, .iload_n 1, 1), (39, .if_icmp .lt 8, 3), (42, .iload_n 3, 1), (43, .iload_n 2, 1), (44, .if_icmp .le 10, 3), (47, .aload_n 0, 1), (48, .iconst 2, 1), (49, .invokevirtual 110, 3), (52, .iload_n 1, 1), (53, .ireturn, 1), (54, .aload_n 0, 1), (55, .getfield 40, 3), (58, .invokevirtual 62, 3), (61, .iload_n 3, 1), (62, .ireturn, 1)]
theorem dc_Parser_takeNumber : kdecs prog_6_method_8_code dl_Parser_takeNumber = true := by decide +kernel
abbrev ky_Parser_takeNumber : MethodName := ⟨"PoetFines$Parser", "takeNumber", "(II)I"⟩
def dl_Tokens_number : List (Nat × Instr × Nat) := [(0, .aload_n 0, 1), (1, .getfield 21, 3), (4, .aload_n 0, 1), (5, .getfield 28, 3), (8, .iaload, 1), (9, .ireturn, 1)]
theorem dc_Tokens_number : kdecs prog_10_method_6_code dl_Tokens_number = true := by decide +kernel
abbrev ky_Tokens_number : MethodName := ⟨"PoetFines$Tokens", "number", "()I"⟩
def dl_Tokens_length : List (Nat × Instr × Nat) := [(0, .aload_n 0, 1), (1, .getfield 18, 3), (4, .aload_n 0, 1), (5, .getfield 28, 3), (8, .iaload, 1), (9, .ireturn, 1)]
theorem dc_Tokens_length : kdecs prog_10_method_5_code dl_Tokens_length = true := by decide +kernel
abbrev ky_Tokens_length : MethodName := ⟨"PoetFines$Tokens", "length", "()I"⟩
theorem cv_Parser_149 : kCv "PoetFines$Parser" 149 ky_Tokens_length prog_10_method_5_code 1 (some .int) 0 "PoetFines$Tokens" := ⟨⟨wd_941, wd_117, wd_944, ⟨by decide, by decide⟩, by decide +kernel⟩, wd_942, wd_943⟩
theorem cv_Parser_152 : kCv "PoetFines$Parser" 152 ky_Tokens_number prog_10_method_6_code 1 (some .int) 0 "PoetFines$Tokens" := ⟨⟨wd_937, wd_117, wd_940, ⟨by decide, by decide⟩, by decide +kernel⟩, wd_938, wd_939⟩
theorem cv_Parser_65 : kCv "PoetFines$Parser" 65 ky_Parser_takeNumber prog_6_method_8_code 4 (some .int) 2 "PoetFines$Parser" := ⟨⟨wd_917, wd_115, wd_920, ⟨by decide, by decide⟩, by decide +kernel⟩, wd_919, wd_13⟩
def dl_Rules_end : List (Nat × Instr × Nat) := [(0, .aload_n 0, 1), (1, .getfield 22, 3), (4, .iload_n 1, 1), (5, .aload_n 0, 1), (6, .getfield 15, 3), (9, .iastore, 1), (10, .return_, 1)]
theorem dc_Rules_end : kdecs prog_7_method_8_code dl_Rules_end = true := by decide +kernel
abbrev ky_Rules_end : MethodName := ⟨"PoetFines$Rules", "end", "(I)V"⟩
theorem cv_Parser_173 : kCv "PoetFines$Parser" 173 ky_Rules_end prog_7_method_8_code 2 none 1 "PoetFines$Rules" := ⟨⟨wd_1044, wd_114, wd_1047, ⟨by decide, by decide⟩, by decide +kernel⟩, wd_1045, wd_1046⟩
theorem cv_Parser_167 : kCv "PoetFines$Parser" 167 ky_Rules_begin prog_7_method_6_code 2 none 1 "PoetFines$Rules" := ⟨⟨wd_998, wd_114, wd_1001, ⟨by decide, by decide⟩, by decide +kernel⟩, wd_999, wd_1000⟩
theorem cv_Parser_163 : kCv "PoetFines$Parser" 163 ky_Rules_has prog_7_method_4_code 2 (some .boolean) 1 "PoetFines$Rules" := ⟨⟨wd_997, wd_114, wd_570, ⟨by decide, by decide⟩, by decide +kernel⟩, wd_568, wd_569⟩
theorem cv_Parser_101 : kCv "PoetFines$Parser" 101 ky_Parser_takeRule prog_6_method_10_code 2 none 1 "PoetFines$Parser" := ⟨⟨wd_993, wd_115, wd_996, ⟨by decide, by decide⟩, by decide +kernel⟩, wd_995, wd_20⟩
def dl_Parser_takePoet : List (Nat × Instr × Nat) := [(0, .aload_n 0, 1), (1, .getfield 12, 3), (4, .getfield 130, 3), (7, .iconst 4, 1), (8, .if_icmp .lt 9, 3), (11, .aload_n 0, 1), (12, .iconst 2, 1), (13, .invokevirtual 110, 3), (16, .return_, 1), (17, .aload_n 0, 1), (18, .getfield 12, 3), (21, .getfield 130, 3), (24, .istore_n 1, 1), (25, .aload_n 0, 1), (26, .getfield 12, 3), (29, .dup, 1), (30, .getfield 130, 3), (33, .iconst 1, 1), (34, .iadd, 1), (35, .putfield 130, 3), (38, .aload_n 0, 1), (39, .getfield 40, 3), (42, .invokevirtual 62, 3), (45, .aload_n 0, 1), (46, .getfield 21, 3), (49, .getfield 122, 3), (52, .bipush 49, 2), (54, .iload_n 1, 1), (55, .iadd, 1), (56, .aload_n 0, 1), (57, .iconst 0, 1), (58, .bipush 99, 2), (60, .invokevirtual 65, 3), (63, .iastore, 1), (64, .aload_n 0, 1), (65, .iload_n 1, 1), (66, .invokevirtual 133, 3), (69, .iconst 0, 1), (70, .istore_n 2, 1), (71, .iload_n 2, 1), (72, .bipush 6, 2), (74, .if_icmp .ge 25, 3), (77, .aload_n 0, 1), (78, .getfield 40, 3), (81, .invokevirtual 76, 3), (84, .iconst 1, 1), (85, .if_icmp .ne 14, 3), (88, .aload_n 0, 1), (89, .iload_n 1, 1), (90, .invokevirtual 133, 3), (93, .iinc 2 1, 3), (96, .goto (-25), 3), (99, .aload_n 0, 1), (100, .bipush 59, 2), (102, .invokevirtual 72, 3), (105, .return_, 1)]
theorem dc_Parser_takePoet : kdecs prog_6_method_5_code dl_Parser_takePoet = true := by decide +kernel
abbrev ky_Parser_takePoet : MethodName := ⟨"PoetFines$Parser", "takePoet", "()V"⟩
theorem fd_C_Parser_130_13 : kFd "PoetFines$Parser" 130 kcl yC 13 2 (.inl false) := ⟨2, _, _, _, _, rfl, rfl, rfl, by decide, kin2, wd_190⟩
theorem fp_C_Parser_130_13 : kFp "PoetFines$Parser" 130 kcl yC 13 2 (.inl false) .int := ⟨2, _, _, _, _, kty2, rfl, rfl, rfl, by decide, kin2, wd_190, kty2_ok, knm2, rfl, by decide +kernel⟩
theorem fd_C_Parser_122_22 : kFd "PoetFines$Parser" 122 kcl yC 22 0 (.inr 23) := ⟨9, _, _, _, _, rfl, rfl, rfl, by decide, kin9, wd_238⟩
def dl_Parser_takeLine : List (Nat × Instr × Nat) := [(0, .aload_n 0, 1), (1, .getfield 12, 3), (4, .getfield 136, 3), (7, .iload_n 1, 1), (8, .iaload, 1), (9, .istore_n 2, 1), (10, .aload_n 0, 1), (11, .getfield 40, 3), (14, .invokevirtual 76, 3), (17, .iconst 1, 1), (18, .if_icmp .ne 15, 3), (21, .iload_n 2, 1), (22, .bipush 6, 2), (24, .if_icmp .lt 9, 3), (27, .aload_n 0, 1), (28, .iconst 2, 1), (29, .invokevirtual 110, 3), (32, .return_, 1), (33, .aload_n 0, 1), (34, .getfield 12, 3), (37, .iload_n 1, 1), (38, .aload_n 0, 1), (39, .invokevirtual 139, 3), (42, .invokevirtual 142, 3), (45, .aload_n 0, 1), (46, .getfield 21, 3), (49, .iload_n 1, 1), (50, .iload_n 2, 1), (51, .aload_n 0, 1), (52, .iconst 0, 1), (53, .bipush 9, 2), (55, .invokevirtual 65, 3), (58, .invokevirtual 146, 3), (61, .return_, 1)]
theorem dc_Parser_takeLine : kdecs prog_6_method_6_code dl_Parser_takeLine = true := by decide +kernel
abbrev ky_Parser_takeLine : MethodName := ⟨"PoetFines$Parser", "takeLine", "(I)V"⟩
theorem fd_C_Parser_136_13 : kFd "PoetFines$Parser" 136 kcl yC 13 3 (.inr 14) := ⟨2, _, _, _, _, rfl, rfl, rfl, by decide, kin2, wd_195⟩
def dl_Parser_takeTopic : List (Nat × Instr × Nat) := [(0, .aload_n 0, 1), (1, .getfield 40, 3), (4, .invokevirtual 76, 3), (7, .iconst 1, 1), (8, .if_icmp .ne 18, 3), (11, .aload_n 0, 1), (12, .getfield 40, 3), (15, .invokevirtual 149, 3), (18, .iconst 4, 1), (19, .if_icmp .gt 7, 3), (22, .iconst 1, 1), (23, .goto 4, 3), (26, .iconst 0, 1), (27, .istore_n 1, 1), (28, .iload_n 1, 1), (29, .ifCond .eq 27, 3), (32, .aload_n 0, 1), (33, .getfield 40, 3), (36, .invokevirtual 152, 3), (39, .aload_n 0, 1), (40, .getfield 12, 3), (43, .getfield 69, 3), (46, .if_icmp .lt 10, 3), (49, .aload_n 0, 1), (50, .iconst 3, 1), (51, .invokevirtual 110, 3), (54, .iconst 0, 1), (55, .ireturn, 1), (56, .aload_n 0, 1), (57, .iconst 0, 1), (58, .aload_n 0, 1), (59, .getfield 12, 3), (62, .getfield 69, 3), (65, .iconst 1, 1), (66, .isub, 1), (67, .invokevirtual 65, 3), (70, .ireturn, 1)]
theorem dc_Parser_takeTopic : kdecs prog_6_method_7_code dl_Parser_takeTopic = true := by decide +kernel
abbrev ky_Parser_takeTopic : MethodName := ⟨"PoetFines$Parser", "takeTopic", "()I"⟩
theorem fd_C_Parser_69_13 : kFd "PoetFines$Parser" 69 kcl yC 13 0 (.inl false) := ⟨2, _, _, _, _, rfl, rfl, rfl, by decide, kin2, wd_179⟩
def dl_Law_addLine : List (Nat × Instr × Nat) := [(0, .aload_n 0, 1), (1, .getfield 21, 3), (4, .iload_n 1, 1), (5, .iaload, 1), (6, .bipush 6, 2), (8, .if_icmp .ge 30, 3), (11, .aload_n 0, 1), (12, .getfield 28, 3), (15, .iload_n 1, 1), (16, .bipush 6, 2), (18, .imul, 1), (19, .aload_n 0, 1), (20, .getfield 21, 3), (23, .iload_n 1, 1), (24, .iaload, 1), (25, .iadd, 1), (26, .iload_n 2, 1), (27, .iastore, 1), (28, .aload_n 0, 1), (29, .getfield 21, 3), (32, .iload_n 1, 1), (33, .dup2, 1), (34, .iaload, 1), (35, .iconst 1, 1), (36, .iadd, 1), (37, .iastore, 1), (38, .return_, 1)]
theorem dc_Law_addLine : kdecs prog_4_method_4_code dl_Law_addLine = true := by decide +kernel
abbrev ky_Law_addLine : MethodName := ⟨"PoetFines$Law", "addLine", "(II)V"⟩
theorem fd_C_Law_28_13 : kFd "PoetFines$Law" 28 kcl yC 13 5 (.inr 16) := ⟨2, _, _, _, _, rfl, rfl, rfl, by decide, kin2, wd_200⟩
def dl_World_setDepth : List (Nat × Instr × Nat) := [(0, .iload_n 2, 1), (1, .bipush 6, 2), (3, .if_icmp .ge 18, 3), (6, .aload_n 0, 1), (7, .getfield 11, 3), (10, .bipush 61, 2), (12, .iload_n 1, 1), (13, .bipush 6, 2), (15, .imul, 1), (16, .iadd, 1), (17, .iload_n 2, 1), (18, .iadd, 1), (19, .iload_n 3, 1), (20, .iastore, 1), (21, .return_, 1)]
theorem dc_World_setDepth : kdecs prog_12_method_5_code dl_World_setDepth = true := by decide +kernel
abbrev ky_World_setDepth : MethodName := ⟨"PoetFines$World", "setDepth", "(III)V"⟩
theorem cv_Parser_146 : kCv "PoetFines$Parser" 146 ky_World_setDepth prog_12_method_5_code 4 none 3 "PoetFines$World" := ⟨⟨wd_987, wd_116, wd_990, ⟨by decide, by decide⟩, by decide +kernel⟩, wd_988, wd_989⟩
theorem cv_Parser_142 : kCv "PoetFines$Parser" 142 ky_Law_addLine prog_4_method_4_code 3 none 2 "PoetFines$Law" := ⟨⟨wd_983, wd_113, wd_986, ⟨by decide, by decide⟩, by decide +kernel⟩, wd_984, wd_985⟩
theorem cv_Parser_139 : kCv "PoetFines$Parser" 139 ky_Parser_takeTopic prog_6_method_7_code 2 (some .int) 0 "PoetFines$Parser" := ⟨⟨wd_979, wd_115, wd_982, ⟨by decide, by decide⟩, by decide +kernel⟩, wd_981, wd_19⟩
theorem cv_Parser_133 : kCv "PoetFines$Parser" 133 ky_Parser_takeLine prog_6_method_6_code 3 none 1 "PoetFines$Parser" := ⟨⟨wd_975, wd_115, wd_978, ⟨by decide, by decide⟩, by decide +kernel⟩, wd_977, wd_18⟩
theorem cv_Parser_93 : kCv "PoetFines$Parser" 93 ky_Parser_takePoet prog_6_method_5_code 3 none 0 "PoetFines$Parser" := ⟨⟨wd_971, wd_115, wd_974, ⟨by decide, by decide⟩, by decide +kernel⟩, wd_973, wd_17⟩
def dl_Parser_takePerson : List (Nat × Instr × Nat) := [(0, .aload_n 0, 1), (1, .getfield 12, 3), (4, .getfield 119, 3), (7, .bipush 8, 2), (9, .if_icmp .lt 9, 3), (12, .aload_n 0, 1), (13, .iconst 2, 1), (14, .invokevirtual 110, 3), (17, .return_, 1), (18, .aload_n 0, 1), (19, .getfield 12, 3), (22, .getfield 119, 3), (25, .istore_n 1, 1), (26, .aload_n 0, 1), (27, .getfield 12, 3), (30, .dup, 1), (31, .getfield 119, 3), (34, .iconst 1, 1), (35, .iadd, 1), (36, .putfield 119, 3), (39, .aload_n 0, 1), (40, .getfield 40, 3), (43, .invokevirtual 62, 3), (46, .aload_n 0, 1), (47, .getfield 21, 3), (50, .getfield 122, 3), (53, .iconst 1, 1), (54, .iload_n 1, 1), (55, .iadd, 1), (56, .aload_n 0, 1), (57, .iconst 0, 1), (58, .bipush 99, 2), (60, .invokevirtual 65, 3), (63, .iastore, 1), (64, .iconst 0, 1), (65, .istore_n 2, 1), (66, .iload_n 2, 1), (67, .aload_n 0, 1), (68, .getfield 12, 3), (71, .getfield 69, 3), (74, .if_icmp .ge 25, 3), (77, .aload_n 0, 1), (78, .getfield 12, 3), (81, .iload_n 1, 1), (82, .iload_n 2, 1), (83, .aload_n 0, 1), (84, .iconst 0, 1), (85, .bipush 9, 2), (87, .invokevirtual 65, 3), (90, .invokevirtual 126, 3), (93, .iinc 2 1, 3), (96, .goto (-30), 3), (99, .aload_n 0, 1), (100, .bipush 59, 2), (102, .invokevirtual 72, 3), (105, .return_, 1)]
theorem dc_Parser_takePerson : kdecs prog_6_method_4_code dl_Parser_takePerson = true := by decide +kernel
abbrev ky_Parser_takePerson : MethodName := ⟨"PoetFines$Parser", "takePerson", "()V"⟩
theorem fd_C_Parser_119_13 : kFd "PoetFines$Parser" 119 kcl yC 13 1 (.inl false) := ⟨2, _, _, _, _, rfl, rfl, rfl, by decide, kin2, wd_184⟩
theorem fp_C_Parser_119_13 : kFp "PoetFines$Parser" 119 kcl yC 13 1 (.inl false) .int := ⟨2, _, _, _, _, kty2, rfl, rfl, rfl, by decide, kin2, wd_184, kty2_ok, knm2, rfl, by decide +kernel⟩
def dl_Law_suppose : List (Nat × Instr × Nat) := [(0, .aload_n 0, 1), (1, .getfield 25, 3), (4, .iload_n 1, 1), (5, .iconst 4, 1), (6, .imul, 1), (7, .iload_n 2, 1), (8, .iadd, 1), (9, .iload_n 3, 1), (10, .iastore, 1), (11, .return_, 1)]
theorem dc_Law_suppose : kdecs prog_4_method_6_code dl_Law_suppose = true := by decide +kernel
abbrev ky_Law_suppose : MethodName := ⟨"PoetFines$Law", "suppose", "(III)V"⟩
theorem fd_C_Law_25_13 : kFd "PoetFines$Law" 25 kcl yC 13 4 (.inr 15) := ⟨2, _, _, _, _, rfl, rfl, rfl, by decide, kin2, wd_199⟩
theorem cv_Parser_126 : kCv "PoetFines$Parser" 126 ky_Law_suppose prog_4_method_6_code 4 none 3 "PoetFines$Law" := ⟨⟨wd_965, wd_113, wd_968, ⟨by decide, by decide⟩, by decide +kernel⟩, wd_966, wd_967⟩
theorem cv_Parser_87 : kCv "PoetFines$Parser" 87 ky_Parser_takePerson prog_6_method_4_code 3 none 0 "PoetFines$Parser" := ⟨⟨wd_961, wd_115, wd_964, ⟨by decide, by decide⟩, by decide +kernel⟩, wd_963, wd_16⟩
theorem fp_C_Parser_69_13 : kFp "PoetFines$Parser" 69 kcl yC 13 0 (.inl false) .int := ⟨2, _, _, _, _, kty2, rfl, rfl, rfl, by decide, kin2, wd_179, kty2_ok, knm2, rfl, by decide +kernel⟩
theorem cv_Parser_48 : kCv "PoetFines$Parser" 48 ky_Tokens_scan prog_10_method_2_code 5 none 1 "PoetFines$Tokens" := ⟨⟨wd_769, wd_117, wd_772, ⟨by decide, by decide⟩, by decide +kernel⟩, wd_770, wd_771⟩
theorem cv_Parser_47 : kCv "PoetFines$Parser" 47 ky_World_clear prog_12_method_2_code 2 none 0 "PoetFines$World" := ⟨⟨wd_765, wd_116, wd_768, ⟨by decide, by decide⟩, by decide +kernel⟩, wd_766, wd_767⟩
theorem cv_Parser_44 : kCv "PoetFines$Parser" 44 ky_Law_clear prog_4_method_2_code 2 none 0 "PoetFines$Law" := ⟨⟨wd_757, wd_113, wd_760, ⟨by decide, by decide⟩, by decide +kernel⟩, wd_758, wd_759⟩
theorem fd_C_P_100_12 : kFd "PoetFines" 100 kcl yC 12 2 (.inl false) := ⟨4, _, _, _, _, rfl, rfl, rfl, by decide, kin4, wd_276⟩
theorem fp_C_P_17_0 : kFp "PoetFines" 17 kcl yC 0 2 (.inl false) .int := ⟨10, _, _, _, _, kty10, rfl, rfl, rfl, by decide, kin10, wd_493, kty10_ok, knm10, rfl, by decide +kernel⟩
theorem fd_C_P_27_0 : kFd "PoetFines" 27 kcl yC 0 4 (.inr 3) := ⟨10, _, _, _, _, rfl, rfl, rfl, by decide, kin10, wd_495⟩
theorem fd_C_P_101_12 : kFd "PoetFines" 101 kcl yC 12 0 (.inr 13) := ⟨4, _, _, _, _, rfl, rfl, rfl, by decide, kin4, wd_272⟩
def dl_Law_copyFrom : List (Nat × Instr × Nat) := [(0, .aload_n 0, 1), (1, .aload_n 1, 1), (2, .getfield 11, 3), (5, .putfield 11, 3), (8, .aload_n 0, 1), (9, .aload_n 1, 1), (10, .getfield 15, 3), (13, .putfield 15, 3), (16, .aload_n 0, 1), (17, .aload_n 1, 1), (18, .getfield 18, 3), (21, .putfield 18, 3), (24, .aload_n 1, 1), (25, .getfield 21, 3), (28, .iconst 0, 1), (29, .aload_n 0, 1), (30, .getfield 21, 3), (33, .iconst 0, 1), (34, .aload_n 0, 1), (35, .getfield 21, 3), (38, .arraylength, 1), (39, .invokestatic 41, 3), (42, .aload_n 1, 1), (43, .getfield 25, 3), (46, .iconst 0, 1), (47, .aload_n 0, 1), (48, .getfield 25, 3), (51, .iconst 0, 1), (52, .aload_n 0, 1), (53, .getfield 25, 3), (56, .arraylength, 1), (57, .invokestatic 41, 3), (60, .aload_n 1, 1), (61, .getfield 28, 3), (64, .iconst 0, 1), (65, .aload_n 0, 1), (66, .getfield 28, 3), (69, .iconst 0, 1), (70, .aload_n 0, 1), (71, .getfield 28, 3), (74, .arraylength, 1), (75, .invokestatic 41, 3), (78, .aload_n 0, 1), (79, .getfield 34, 3), (82, .aload_n 1, 1), (83, .getfield 34, 3), (86, .invokevirtual 47, 3), (89, .return_, 1)]
theorem dc_Law_copyFrom : kdecs prog_4_method_3_code dl_Law_copyFrom = true := by decide +kernel
abbrev ky_Law_copyFrom : MethodName := ⟨"PoetFines$Law", "copyFrom", "(LPoetFines$Law;)V"⟩
theorem fd_C_Law_11_13 : kFd "PoetFines$Law" 11 kcl yC 13 0 (.inl false) := ⟨2, _, _, _, _, rfl, rfl, rfl, by decide, kin2, wd_178⟩
theorem fp_C_Law_11_3 : kFp "PoetFines$Law" 11 kcl yC 3 0 (.inl false) .int := ⟨2, _, _, _, _, kty2, rfl, rfl, rfl, by decide, kin2, wd_178, kty2_ok, knm2, rfl, by decide +kernel⟩
theorem fd_C_Law_15_13 : kFd "PoetFines$Law" 15 kcl yC 13 1 (.inl false) := ⟨2, _, _, _, _, rfl, rfl, rfl, by decide, kin2, wd_182⟩
theorem fp_C_Law_15_3 : kFp "PoetFines$Law" 15 kcl yC 3 1 (.inl false) .int := ⟨2, _, _, _, _, kty2, rfl, rfl, rfl, by decide, kin2, wd_182, kty2_ok, knm2, rfl, by decide +kernel⟩
theorem fd_C_Law_18_13 : kFd "PoetFines$Law" 18 kcl yC 13 2 (.inl false) := ⟨2, _, _, _, _, rfl, rfl, rfl, by decide, kin2, wd_188⟩
theorem fp_C_Law_18_3 : kFp "PoetFines$Law" 18 kcl yC 3 2 (.inl false) .int := ⟨2, _, _, _, _, kty2, rfl, rfl, rfl, by decide, kin2, wd_188, kty2_ok, knm2, rfl, by decide +kernel⟩
theorem fd_C_Law_21_3 : kFd "PoetFines$Law" 21 kcl yC 3 3 (.inr 4) := ⟨2, _, _, _, _, rfl, rfl, rfl, by decide, kin2, wd_194⟩
theorem ca_Law_41 : Cond.methodLink "PoetFines$Law" 41 arraycopyName ∈ kG ∧ Cond.native arraycopyName ∈ kG ∧ Cond.static arraycopyName ∈ kG ∧ Cond.initialized "java/lang/System" ∈ kG := ⟨wd_1056, wd_554, wd_553, wd_136⟩
theorem fd_C_Law_25_3 : kFd "PoetFines$Law" 25 kcl yC 3 4 (.inr 5) := ⟨2, _, _, _, _, rfl, rfl, rfl, by decide, kin2, wd_199⟩
theorem fd_C_Law_28_3 : kFd "PoetFines$Law" 28 kcl yC 3 5 (.inr 6) := ⟨2, _, _, _, _, rfl, rfl, rfl, by decide, kin2, wd_200⟩
theorem fd_C_Law_34_3 : kFd "PoetFines$Law" 34 kcl yC 3 6 (.inr 7) := ⟨2, _, _, _, _, rfl, rfl, rfl, by decide, kin2, wd_201⟩
def dl_Rules_copyFrom : List (Nat × Instr × Nat) := [(0, .aload_n 0, 1), (1, .aload_n 1, 1), (2, .getfield 15, 3), (5, .putfield 15, 3), (8, .aload_n 1, 1), (9, .getfield 11, 3), (12, .iconst 0, 1), (13, .aload_n 0, 1), (14, .getfield 11, 3), (17, .iconst 0, 1), (18, .aload_n 0, 1), (19, .getfield 15, 3), (22, .invokestatic 28, 3), (25, .iconst 0, 1), (26, .istore_n 2, 1), (27, .iload_n 2, 1), (28, .iconst 3, 1), (29, .if_icmp .ge 33, 3), (32, .aload_n 0, 1), (33, .getfield 19, 3), (36, .iload_n 2, 1), (37, .aload_n 1, 1), (38, .getfield 19, 3), (41, .iload_n 2, 1), (42, .iaload, 1), (43, .iastore, 1), (44, .aload_n 0, 1), (45, .getfield 22, 3), (48, .iload_n 2, 1), (49, .aload_n 1, 1), (50, .getfield 22, 3), (53, .iload_n 2, 1), (54, .iaload, 1), (55, .iastore, 1), (56, .iinc 2 1, 3), (59, .goto (-32), 3), (62, .return_, 1)]
theorem dc_Rules_copyFrom : kdecs prog_7_method_3_code dl_Rules_copyFrom = true := by decide +kernel
abbrev ky_Rules_copyFrom : MethodName := ⟨"PoetFines$Rules", "copyFrom", "(LPoetFines$Rules;)V"⟩
theorem fp_C_Rules_15_7 : kFp "PoetFines$Rules" 15 kcl yC 7 1 (.inl false) .int := ⟨5, _, _, _, _, kty5, rfl, rfl, rfl, by decide, kin5, wd_161, kty5_ok, knm5, rfl, by decide +kernel⟩
theorem fd_C_Rules_11_7 : kFd "PoetFines$Rules" 11 kcl yC 7 0 (.inr 8) := ⟨5, _, _, _, _, rfl, rfl, rfl, by decide, kin5, wd_160⟩
theorem fd_C_Rules_15_7 : kFd "PoetFines$Rules" 15 kcl yC 7 1 (.inl false) := ⟨5, _, _, _, _, rfl, rfl, rfl, by decide, kin5, wd_161⟩
theorem ca_Rules_28 : Cond.methodLink "PoetFines$Rules" 28 arraycopyName ∈ kG ∧ Cond.native arraycopyName ∈ kG ∧ Cond.static arraycopyName ∈ kG ∧ Cond.initialized "java/lang/System" ∈ kG := ⟨wd_1061, wd_554, wd_553, wd_136⟩
theorem fd_C_Rules_19_7 : kFd "PoetFines$Rules" 19 kcl yC 7 2 (.inr 9) := ⟨5, _, _, _, _, rfl, rfl, rfl, by decide, kin5, wd_162⟩
theorem fd_C_Rules_22_7 : kFd "PoetFines$Rules" 22 kcl yC 7 3 (.inr 10) := ⟨5, _, _, _, _, rfl, rfl, rfl, by decide, kin5, wd_163⟩
theorem cv_Law_47 : kCv "PoetFines$Law" 47 ky_Rules_copyFrom prog_7_method_3_code 3 none 1 "PoetFines$Rules" := ⟨⟨wd_1057, wd_114, wd_1060, ⟨by decide, by decide⟩, by decide +kernel⟩, wd_1058, wd_1059⟩
theorem fd_C_P_43_0 : kFd "PoetFines" 43 kcl yC 0 6 (.inr 29) := ⟨10, _, _, _, _, rfl, rfl, rfl, by decide, kin10, wd_497⟩
theorem fd_C_P_106_12 : kFd "PoetFines" 106 kcl yC 12 1 (.inr 22) := ⟨4, _, _, _, _, rfl, rfl, rfl, by decide, kin4, wd_274⟩
def dl_Chronicle_beginWith : List (Nat × Instr × Nat) := [(0, .aload_n 0, 1), (1, .getfield 12, 3), (4, .aload_n 1, 1), (5, .invokevirtual 41, 3), (8, .aload_n 0, 1), (9, .iconst 0, 1), (10, .putfield 18, 3), (13, .aload_n 0, 1), (14, .iconst 0, 1), (15, .putfield 26, 3), (18, .aload_n 0, 1), (19, .iconst 0, 1), (20, .putfield 29, 3), (23, .return_, 1)]
theorem dc_Chronicle_beginWith : kdecs prog_2_method_2_code dl_Chronicle_beginWith = true := by decide +kernel
abbrev ky_Chronicle_beginWith : MethodName := ⟨"PoetFines$Chronicle", "beginWith", "(LPoetFines$World;)V"⟩
theorem fd_C_Chronicle_12_29 : kFd "PoetFines$Chronicle" 12 kcl yC 29 0 (.inr 30) := ⟨0, _, _, _, _, rfl, rfl, rfl, by decide, kin0, wd_301⟩
def dl_World_copyFrom : List (Nat × Instr × Nat) := [(0, .aload_n 1, 1), (1, .getfield 11, 3), (4, .iconst 0, 1), (5, .aload_n 0, 1), (6, .getfield 11, 3), (9, .iconst 0, 1), (10, .bipush 85, 2), (12, .invokestatic 15, 3), (15, .return_, 1)]
theorem dc_World_copyFrom : kdecs prog_12_method_3_code dl_World_copyFrom = true := by decide +kernel
abbrev ky_World_copyFrom : MethodName := ⟨"PoetFines$World", "copyFrom", "(LPoetFines$World;)V"⟩
theorem fd_C_World_11_30 : kFd "PoetFines$World" 11 kcl yC 30 0 (.inr 31) := ⟨9, _, _, _, _, rfl, rfl, rfl, by decide, kin9, wd_233⟩
theorem ca_World_15 : Cond.methodLink "PoetFines$World" 15 arraycopyName ∈ kG ∧ Cond.native arraycopyName ∈ kG ∧ Cond.static arraycopyName ∈ kG ∧ Cond.initialized "java/lang/System" ∈ kG := ⟨wd_674, wd_554, wd_553, wd_136⟩
theorem fp_C_Chronicle_18_29 : kFp "PoetFines$Chronicle" 18 kcl yC 29 1 (.inl false) .int := ⟨0, _, _, _, _, kty0, rfl, rfl, rfl, by decide, kin0, wd_304, kty0_ok, knm0, rfl, by decide +kernel⟩
theorem fp_C_Chronicle_26_29 : kFp "PoetFines$Chronicle" 26 kcl yC 29 3 (.inl false) .int := ⟨0, _, _, _, _, kty0, rfl, rfl, rfl, by decide, kin0, wd_307, kty0_ok, knm0, rfl, by decide +kernel⟩
theorem fp_C_Chronicle_29_29 : kFp "PoetFines$Chronicle" 29 kcl yC 29 4 (.inl false) .int := ⟨0, _, _, _, _, kty0, rfl, rfl, rfl, by decide, kin0, wd_308, kty0_ok, knm0, rfl, by decide +kernel⟩
theorem cv_Chronicle_41 : kCv "PoetFines$Chronicle" 41 ky_World_copyFrom prog_12_method_3_code 2 none 1 "PoetFines$World" := ⟨⟨wd_670, wd_116, wd_673, ⟨by decide, by decide⟩, by decide +kernel⟩, wd_671, wd_672⟩
theorem fp_C_P_50_0 : kFp "PoetFines" 50 kcl yC 0 8 (.inl false) .boolean := ⟨10, _, _, _, _, kty10, rfl, rfl, rfl, by decide, kin10, wd_499, kty10_ok, knm10, rfl, by decide +kernel⟩
theorem cv_P_109 : kCv "PoetFines" 109 ky_Chronicle_beginWith prog_2_method_2_code 2 none 1 "PoetFines$Chronicle" := ⟨⟨wd_1062, wd_118, wd_1065, ⟨by decide, by decide⟩, by decide +kernel⟩, wd_1063, wd_1064⟩
theorem cv_P_102 : kCv "PoetFines" 102 ky_Law_copyFrom prog_4_method_3_code 2 none 1 "PoetFines$Law" := ⟨⟨wd_1052, wd_113, wd_1055, ⟨by decide, by decide⟩, by decide +kernel⟩, wd_1053, wd_1054⟩
theorem fd_C_P_20_0 : kFd "PoetFines" 20 kcl yC 0 3 (.inr 2) := ⟨10, _, _, _, _, rfl, rfl, rfl, by decide, kin10, wd_494⟩
theorem cv_P_96 : kCv "PoetFines" 96 ky_Parser_parse prog_6_method_2_code 4 (some .int) 1 "PoetFines$Parser" := ⟨⟨wd_753, wd_115, wd_756, ⟨by decide, by decide⟩, by decide +kernel⟩, wd_754, wd_755⟩
def dl_P_fault : List (Nat × Instr × Nat) := [(0, .aload_n 0, 1), (1, .getfield 17, 3), (4, .ireturn, 1)]
theorem dc_P_fault : kdecs prog_1_method_4_code dl_P_fault = true := by decide +kernel
abbrev ky_P_fault : MethodName := ⟨"PoetFines", "fault", "()I"⟩
theorem fd_C_P_17_0 : kFd "PoetFines" 17 kcl yC 0 2 (.inl false) := ⟨10, _, _, _, _, rfl, rfl, rfl, by decide, kin10, wd_493⟩
def dl_P_count : List (Nat × Instr × Nat) := [(0, .aload_n 0, 1), (1, .getfield 43, 3), (4, .getfield 56, 3), (7, .astore_n 2, 1), (8, .iload_n 1, 1), (9, .tableswitch 213 0 14 #[75, 83, 91, 99, 106, 119, 133, 147, 159, 171, 179, 187, 192, 199, 206], 75), (84, .aload_n 0, 1), (85, .getfield 27, 3), (88, .getfield 113, 3), (91, .ireturn, 1), (92, .aload_n 0, 1), (93, .getfield 27, 3), (96, .getfield 116, 3), (99, .ireturn, 1), (100, .aload_n 0, 1), (101, .getfield 27, 3), (104, .getfield 119, 3), (107, .ireturn, 1), (108, .aload_n 2, 1), (109, .getfield 122, 3), (112, .iconst 0, 1), (113, .iaload, 1), (114, .ireturn, 1), (115, .aload_n 2, 1), (116, .iconst 1, 1), (117, .aload_n 0, 1), (118, .getfield 27, 3), (121, .getfield 116, 3), (124, .invokevirtual 127, 3), (127, .ireturn, 1), (128, .aload_n 2, 1), (129, .bipush 49, 2), (131, .aload_n 0, 1), (132, .getfield 27, 3), (135, .getfield 119, 3), (138, .invokevirtual 127, 3), (141, .ireturn, 1), (142, .aload_n 2, 1), (143, .bipush 9, 2), (145, .aload_n 0, 1), (146, .getfield 27, 3), (149, .getfield 116, 3), (152, .invokevirtual 127, 3), (155, .ireturn, 1), (156, .aload_n 2, 1), (157, .aload_n 0, 1), (158, .getfield 27, 3), (161, .getfield 116, 3), (164, .invokevirtual 131, 3), (167, .ireturn, 1), (168, .aload_n 2, 1), (169, .aload_n 0, 1), (170, .getfield 27, 3), (173, .getfield 119, 3), (176, .invokevirtual 134, 3), (179, .ireturn, 1), (180, .aload_n 0, 1), (181, .getfield 43, 3), (184, .getfield 137, 3), (187, .ireturn, 1), (188, .aload_n 0, 1), (189, .getfield 43, 3), (192, .getfield 140, 3), (195, .ireturn, 1), (196, .aload_n 0, 1), (197, .getfield 13, 3), (200, .ireturn, 1), (201, .aload_n 0, 1), (202, .getfield 20, 3), (205, .iconst 0, 1), (206, .iaload, 1), (207, .ireturn, 1), (208, .aload_n 0, 1), (209, .getfield 20, 3), (212, .iconst 1, 1), (213, .iaload, 1), (214, .ireturn, 1), (215, .aload_n 0, 1), (216, .getfield 20, 3), (219, .iconst 2, 1), (220, .iaload, 1), (221, .ireturn, 1), (222, .new 143, 3), (225, .dup, 1), (226, .ldc 145, 2), (228, .invokespecial 147, 3), (231, .athrow, 1)]
theorem dc_P_count : kdecs prog_1_method_5_code dl_P_count = true := by decide +kernel
abbrev ky_P_count : MethodName := ⟨"PoetFines", "count", "(I)I"⟩
theorem fd_C_P_56_29 : kFd "PoetFines" 56 kcl yC 29 0 (.inr 30) := ⟨0, _, _, _, _, rfl, rfl, rfl, by decide, kin0, wd_302⟩
theorem fd_C_P_113_3 : kFd "PoetFines" 113 kcl yC 3 0 (.inl false) := ⟨2, _, _, _, _, rfl, rfl, rfl, by decide, kin2, wd_180⟩
theorem fd_C_P_116_3 : kFd "PoetFines" 116 kcl yC 3 1 (.inl false) := ⟨2, _, _, _, _, rfl, rfl, rfl, by decide, kin2, wd_186⟩
theorem fd_C_P_119_3 : kFd "PoetFines" 119 kcl yC 3 2 (.inl false) := ⟨2, _, _, _, _, rfl, rfl, rfl, by decide, kin2, wd_192⟩
theorem fd_C_P_122_30 : kFd "PoetFines" 122 kcl yC 30 0 (.inr 31) := ⟨9, _, _, _, _, rfl, rfl, rfl, by decide, kin9, wd_239⟩
def dl_World_total : List (Nat × Instr × Nat) := [(0, .iconst 0, 1), (1, .istore_n 3, 1), (2, .iconst 0, 1), (3, .istore 4, 2), (5, .iload 4, 2), (7, .iload_n 2, 1), (8, .if_icmp .ge 21, 3), (11, .iload_n 3, 1), (12, .aload_n 0, 1), (13, .getfield 11, 3), (16, .iload_n 1, 1), (17, .iload 4, 2), (19, .iadd, 1), (20, .iaload, 1), (21, .iadd, 1), (22, .istore_n 3, 1), (23, .iinc 4 1, 3), (26, .goto (-21), 3), (29, .iload_n 3, 1), (30, .ireturn, 1)]
theorem dc_World_total : kdecs prog_12_method_8_code dl_World_total = true := by decide +kernel
abbrev ky_World_total : MethodName := ⟨"PoetFines$World", "total", "(II)I"⟩
theorem cv_P_127 : kCv "PoetFines" 127 ky_World_total prog_12_method_8_code 5 (some .int) 2 "PoetFines$World" := ⟨⟨wd_1074, wd_116, wd_1077, ⟨by decide, by decide⟩, by decide +kernel⟩, wd_1075, wd_1076⟩
def dl_World_unscarred : List (Nat × Instr × Nat) := [(0, .iconst 0, 1), (1, .istore_n 2, 1), (2, .iconst 0, 1), (3, .istore_n 3, 1), (4, .iload_n 3, 1), (5, .iload_n 1, 1), (6, .if_icmp .ge 31, 3), (9, .iload_n 2, 1), (10, .aload_n 0, 1), (11, .getfield 11, 3), (14, .bipush 9, 2), (16, .iload_n 3, 1), (17, .iadd, 1), (18, .iaload, 1), (19, .ifCond .ne 9, 3), (22, .iconst 1, 1), (23, .iload_n 3, 1), (24, .ishl, 1), (25, .goto 4, 3), (28, .iconst 0, 1), (29, .ior, 1), (30, .istore_n 2, 1), (31, .iinc 3 1, 3), (34, .goto (-30), 3), (37, .iload_n 2, 1), (38, .ireturn, 1)]
theorem dc_World_unscarred : kdecs prog_12_method_9_code dl_World_unscarred = true := by decide +kernel
abbrev ky_World_unscarred : MethodName := ⟨"PoetFines$World", "unscarred", "(I)I"⟩
theorem cv_P_131 : kCv "PoetFines" 131 ky_World_unscarred prog_12_method_9_code 4 (some .int) 1 "PoetFines$World" := ⟨⟨wd_1078, wd_116, wd_1081, ⟨by decide, by decide⟩, by decide +kernel⟩, wd_1079, wd_1080⟩
def dl_World_sitting : List (Nat × Instr × Nat) := [(0, .iconst 0, 1), (1, .istore_n 2, 1), (2, .iconst 0, 1), (3, .istore_n 3, 1), (4, .iload_n 3, 1), (5, .iload_n 1, 1), (6, .if_icmp .ge 31, 3), (9, .iload_n 2, 1), (10, .aload_n 0, 1), (11, .getfield 11, 3), (14, .bipush 57, 2), (16, .iload_n 3, 1), (17, .iadd, 1), (18, .iaload, 1), (19, .ifCond .le 9, 3), (22, .iconst 1, 1), (23, .iload_n 3, 1), (24, .ishl, 1), (25, .goto 4, 3), (28, .iconst 0, 1), (29, .ior, 1), (30, .istore_n 2, 1), (31, .iinc 3 1, 3), (34, .goto (-30), 3), (37, .iload_n 2, 1), (38, .ireturn, 1)]
theorem dc_World_sitting : kdecs prog_12_method_10_code dl_World_sitting = true := by decide +kernel
abbrev ky_World_sitting : MethodName := ⟨"PoetFines$World", "sitting", "(I)I"⟩
theorem cv_P_134 : kCv "PoetFines" 134 ky_World_sitting prog_12_method_10_code 4 (some .int) 1 "PoetFines$World" := ⟨⟨wd_1082, wd_116, wd_1085, ⟨by decide, by decide⟩, by decide +kernel⟩, wd_1083, wd_1084⟩
theorem fd_C_P_137_29 : kFd "PoetFines" 137 kcl yC 29 1 (.inl false) := ⟨0, _, _, _, _, rfl, rfl, rfl, by decide, kin0, wd_305⟩
theorem fd_C_P_140_29 : kFd "PoetFines" 140 kcl yC 29 4 (.inl false) := ⟨0, _, _, _, _, rfl, rfl, rfl, by decide, kin0, wd_309⟩
theorem tha_P_147_1 : ∀ w ∈ Bundle.throwableAtoms, vx_no w = true → w ∈ kG ∨ w ∈ kB := List.forall_mem_cons.mpr ⟨fun _ => Or.inl (kG_of kch1 13 rfl rfl), List.forall_mem_cons.mpr ⟨fun _ => Or.inl (kG_of kch3 118 rfl rfl), List.forall_mem_cons.mpr ⟨fun _ => Or.inl (kG_of kch3 127 rfl rfl), List.forall_mem_cons.mpr ⟨fun _ => Or.inl (kG_of kch3 130 rfl rfl), List.forall_mem_cons.mpr ⟨fun _ => Or.inl (kG_of kch3 133 rfl rfl), List.forall_mem_cons.mpr ⟨fun _ => Or.inl (kG_of kch3 135 rfl rfl), List.forall_mem_cons.mpr ⟨fun _ => Or.inl (kG_of kch3 119 rfl rfl), List.forall_mem_cons.mpr ⟨fun _ => Or.inl (kG_of kch3 120 rfl rfl), List.forall_mem_cons.mpr ⟨fun _ => Or.inl (kG_of kch1 35 rfl rfl), List.forall_mem_cons.mpr ⟨fun _ => Or.inl (kG_of kch1 36 rfl rfl), List.forall_mem_cons.mpr ⟨fun _ => Or.inl (kG_of kch3 121 rfl rfl), List.forall_mem_cons.mpr ⟨fun _ => Or.inl (kG_of kch3 126 rfl rfl), List.forall_mem_cons.mpr ⟨fun _ => Or.inl (kG_of kch3 131 rfl rfl), List.forall_mem_cons.mpr ⟨fun _ => Or.inl (kG_of kch3 151 rfl rfl), List.forall_mem_cons.mpr ⟨fun _ => Or.inl (kG_of kch3 108 rfl rfl), List.forall_mem_cons.mpr ⟨fun _ => Or.inl (kG_of kch3 152 rfl rfl), List.forall_mem_cons.mpr ⟨fun _ => Or.inl (kG_of kch3 110 rfl rfl), List.forall_mem_cons.mpr ⟨fun _ => Or.inl (kG_of kch3 153 rfl rfl), List.forall_mem_cons.mpr ⟨fun _ => Or.inl (kG_of kch3 112 rfl rfl), List.forall_mem_cons.mpr ⟨fun _ => Or.inl (kG_of kch3 122 rfl rfl), List.forall_mem_cons.mpr ⟨fun h => absurd h (by decide +kernel), List.forall_mem_cons.mpr ⟨fun _ => Or.inl (kG_of kch3 124 rfl rfl), List.forall_mem_cons.mpr ⟨fun h => absurd h (by decide +kernel), List.forall_mem_cons.mpr ⟨fun _ => Or.inl (kG_of kch3 114 rfl rfl), List.forall_mem_nil _⟩⟩⟩⟩⟩⟩⟩⟩⟩⟩⟩⟩⟩⟩⟩⟩⟩⟩⟩⟩⟩⟩⟩⟩
theorem tha_P_147_2 : ∀ w ∈ Bundle.throwableSAtoms, vx_no w = true → w ∈ kG ∨ w ∈ kB := List.forall_mem_cons.mpr ⟨fun _ => Or.inl (kG_of kch3 147 rfl rfl), List.forall_mem_cons.mpr ⟨fun _ => Or.inl (kG_of kch3 148 rfl rfl), List.forall_mem_cons.mpr ⟨fun _ => Or.inl (kG_of kch3 150 rfl rfl), List.forall_mem_cons.mpr ⟨fun _ => Or.inl (kG_of kch3 114 rfl rfl), List.forall_mem_nil _⟩⟩⟩⟩
theorem tha_P_147_30 : ∀ w ∈ Bundle.passSAtoms "java/util/NoSuchElementException" "java/lang/RuntimeException" 13 prog_33_method_4_code, vx_no w = true → w ∈ kG ∨ w ∈ kB := List.forall_mem_cons.mpr ⟨fun _ => Or.inl (kG_of kch5 26 rfl rfl), List.forall_mem_cons.mpr ⟨fun _ => Or.inl (kG_of kch5 27 rfl rfl), List.forall_mem_cons.mpr ⟨fun _ => Or.inl (kG_of kch5 28 rfl rfl), List.forall_mem_cons.mpr ⟨fun _ => Or.inl (kG_of kch3 141 rfl rfl), List.forall_mem_cons.mpr ⟨fun _ => Or.inr (kB_of kch3 100 rfl rfl), List.forall_mem_nil _⟩⟩⟩⟩⟩
theorem tha_P_147_31 : ∀ w ∈ Bundle.passSAtoms "java/lang/RuntimeException" "java/lang/Exception" 7 Bundle.six, vx_no w = true → w ∈ kG ∨ w ∈ kB := List.forall_mem_cons.mpr ⟨fun _ => Or.inl (kG_of kch3 141 rfl rfl), List.forall_mem_cons.mpr ⟨fun _ => Or.inl (kG_of kch3 142 rfl rfl), List.forall_mem_cons.mpr ⟨fun _ => Or.inl (kG_of kch3 143 rfl rfl), List.forall_mem_cons.mpr ⟨fun _ => Or.inl (kG_of kch3 144 rfl rfl), List.forall_mem_cons.mpr ⟨fun _ => Or.inr (kB_of kch3 102 rfl rfl), List.forall_mem_nil _⟩⟩⟩⟩⟩
theorem tha_P_147_32 : ∀ w ∈ Bundle.passSAtoms "java/lang/Exception" "java/lang/Throwable" 7 Bundle.six, vx_no w = true → w ∈ kG ∨ w ∈ kB := List.forall_mem_cons.mpr ⟨fun _ => Or.inl (kG_of kch3 144 rfl rfl), List.forall_mem_cons.mpr ⟨fun _ => Or.inl (kG_of kch3 145 rfl rfl), List.forall_mem_cons.mpr ⟨fun _ => Or.inl (kG_of kch3 146 rfl rfl), List.forall_mem_cons.mpr ⟨fun _ => Or.inl (kG_of kch3 147 rfl rfl), List.forall_mem_cons.mpr ⟨fun _ => Or.inr (kB_of kch3 104 rfl rfl), List.forall_mem_nil _⟩⟩⟩⟩⟩
theorem tha_P_147_3 : ∀ w ∈ Bundle.chainSAtoms "java/lang/RuntimeException" ["java/lang/Exception"], vx_no w = true → w ∈ kG ∨ w ∈ kB := List.forall_mem_append.mpr ⟨tha_P_147_31, tha_P_147_32⟩
theorem tha_P_147_4 : ∀ w ∈ kt_own "PoetFines" 147 "java/util/NoSuchElementException", vx_no w = true → w ∈ kG ∨ w ∈ kB := List.forall_mem_cons.mpr ⟨fun _ => Or.inl (kG_of kch5 25 rfl rfl), List.forall_mem_cons.mpr ⟨fun _ => Or.inl (kG_of kch5 16 rfl rfl), List.forall_mem_cons.mpr ⟨fun _ => Or.inr (kB_of kch5 17 rfl rfl), List.forall_mem_cons.mpr ⟨fun _ => Or.inl (kG_of kch5 18 rfl rfl), List.forall_mem_cons.mpr ⟨fun _ => Or.inl (kG_of kch3 129 rfl rfl), List.forall_mem_cons.mpr ⟨fun _ => Or.inl (kG_of kch5 19 rfl rfl), List.forall_mem_cons.mpr ⟨fun _ => Or.inl (kG_of kch5 20 rfl rfl), List.forall_mem_cons.mpr ⟨fun _ => Or.inl (kG_of kch5 21 rfl rfl), List.forall_mem_cons.mpr ⟨fun _ => Or.inl (kG_of kch5 22 rfl rfl), List.forall_mem_cons.mpr ⟨fun h => absurd h (by decide +kernel), List.forall_mem_cons.mpr ⟨fun h => absurd h (by decide +kernel), List.forall_mem_cons.mpr ⟨fun _ => Or.inl (kG_of kch3 117 rfl rfl), List.forall_mem_cons.mpr ⟨fun _ => Or.inl (kG_of kch3 116 rfl rfl), List.forall_mem_cons.mpr ⟨fun _ => Or.inl (kG_of kch5 23 rfl rfl), List.forall_mem_nil _⟩⟩⟩⟩⟩⟩⟩⟩⟩⟩⟩⟩⟩⟩
theorem tha_P_147 : ∀ w ∈ kt_f "PoetFines" 147 "java/util/NoSuchElementException" 13 prog_33_method_4_code "java/lang/RuntimeException" ["java/lang/Exception"], w ∈ kG ∨ w ∈ kB := fun w hw => (List.forall_mem_append.mpr ⟨List.forall_mem_append.mpr ⟨tha_P_147_1, tha_P_147_2⟩, List.forall_mem_append.mpr ⟨List.forall_mem_append.mpr ⟨tha_P_147_30, tha_P_147_3⟩, tha_P_147_4⟩⟩ : ∀ w ∈ kt_at "PoetFines" 147 "java/util/NoSuchElementException" 13 prog_33_method_4_code "java/lang/RuntimeException" ["java/lang/Exception"], vx_no w = true → w ∈ kG ∨ w ∈ kB) w (List.mem_filter.mp hw).1 (List.mem_filter.mp hw).2
theorem th_P_145_147 : kTh "PoetFines" 143 145 147 "java/util/NoSuchElementException" "no such count" 13 prog_33_method_4_code "java/lang/RuntimeException" ["java/lang/Exception"] := ⟨⟨by decide +kernel, by decide +kernel, by decide +kernel, by decide +kernel, by decide +kernel, by decide +kernel⟩, by decide +kernel, wd_1086, wd_137, by decide +kernel, tha_P_147, by decide +kernel⟩
def dl_P_person : List (Nat × Instr × Nat) := [(0, .aload_n 0, 1), (1, .iload_n 1, 1), (2, .invokevirtual 148, 3), (5, .iload_n 2, 1), (6, .bipush 10, 2), (8, .if_icmp .lt 30, 3), (11, .iload_n 2, 1), (12, .bipush 10, 2), (14, .isub, 1), (15, .aload_n 0, 1), (16, .getfield 27, 3), (19, .getfield 113, 3), (22, .if_icmp .ge 16, 3), (25, .aload_n 0, 1), (26, .getfield 27, 3), (29, .iload_n 1, 1), (30, .iload_n 2, 1), (31, .bipush 10, 2), (33, .isub, 1), (34, .invokevirtual 151, 3), (37, .ireturn, 1), (38, .aload_n 0, 1), (39, .iload_n 2, 1), (40, .iconst 2, 1), (41, .invokevirtual 154, 3), (44, .aload_n 0, 1), (45, .getfield 43, 3), (48, .getfield 56, 3), (51, .iload_n 1, 1), (52, .iload_n 2, 1), (53, .aload_n 0, 1), (54, .getfield 27, 3), (57, .getfield 119, 3), (60, .invokevirtual 158, 3), (63, .ireturn, 1)]
theorem dc_P_person : kdecs prog_1_method_6_code dl_P_person = true := by decide +kernel
abbrev ky_P_person : MethodName := ⟨"PoetFines", "person", "(II)I"⟩
def dl_P_needPerson : List (Nat × Instr × Nat) := [(0, .iload_n 1, 1), (1, .ifCond .lt 14, 3), (4, .iload_n 1, 1), (5, .aload_n 0, 1), (6, .getfield 27, 3), (9, .getfield 116, 3), (12, .if_icmp .lt 14, 3), (15, .new 143, 3), (18, .dup, 1), (19, .ldc_w 340, 3), (22, .invokespecial 147, 3), (25, .athrow, 1), (26, .return_, 1)]
theorem dc_P_needPerson : kdecs prog_1_method_42_code dl_P_needPerson = true := by decide +kernel
abbrev ky_P_needPerson : MethodName := ⟨"PoetFines", "needPerson", "(I)V"⟩
theorem th_P_340_147 : kTh "PoetFines" 143 340 147 "java/util/NoSuchElementException" "no such person" 13 prog_33_method_4_code "java/lang/RuntimeException" ["java/lang/Exception"] := ⟨⟨by decide +kernel, by decide +kernel, by decide +kernel, by decide +kernel, by decide +kernel, by decide +kernel⟩, by decide +kernel, wd_1086, wd_137, by decide +kernel, tha_P_147, by decide +kernel⟩
def dl_P_needWhat : List (Nat × Instr × Nat) := [(0, .iload_n 1, 1), (1, .ifCond .lt 8, 3), (4, .iload_n 1, 1), (5, .iload_n 2, 1), (6, .if_icmp .le 14, 3), (9, .new 143, 3), (12, .dup, 1), (13, .ldc_w 346, 3), (16, .invokespecial 147, 3), (19, .athrow, 1), (20, .return_, 1)]
theorem dc_P_needWhat : kdecs prog_1_method_45_code dl_P_needWhat = true := by decide +kernel
abbrev ky_P_needWhat : MethodName := ⟨"PoetFines", "needWhat", "(II)V"⟩
theorem th_P_346_147 : kTh "PoetFines" 143 346 147 "java/util/NoSuchElementException" "no such what" 13 prog_33_method_4_code "java/lang/RuntimeException" ["java/lang/Exception"] := ⟨⟨by decide +kernel, by decide +kernel, by decide +kernel, by decide +kernel, by decide +kernel, by decide +kernel⟩, by decide +kernel, wd_1086, wd_137, by decide +kernel, tha_P_147, by decide +kernel⟩
def dl_World_ofPerson : List (Nat × Instr × Nat) := [(0, .iload_n 2, 1), (1, .ifCond .ne 12, 3), (4, .aload_n 0, 1), (5, .getfield 11, 3), (8, .iconst 1, 1), (9, .iload_n 1, 1), (10, .iadd, 1), (11, .iaload, 1), (12, .ireturn, 1), (13, .iload_n 2, 1), (14, .iconst 1, 1), (15, .if_icmp .ne 13, 3), (18, .aload_n 0, 1), (19, .getfield 11, 3), (22, .bipush 9, 2), (24, .iload_n 1, 1), (25, .iadd, 1), (26, .iaload, 1), (27, .ireturn, 1), (28, .iconst 0, 1), (29, .istore 4, 2), (31, .iconst 0, 1), (32, .istore 5, 2), (34, .iload 5, 2), (36, .iload_n 3, 1), (37, .if_icmp .ge 21, 3), (40, .iload 4, 2), (42, .aload_n 0, 1), (43, .iload 5, 2), (45, .iload_n 1, 1), (46, .invokevirtual 21, 3), (49, .iadd, 1), (50, .istore 4, 2), (52, .iinc 5 1, 3), (55, .goto (-21), 3), (58, .iload 4, 2), (60, .ireturn, 1)]
theorem dc_World_ofPerson : kdecs prog_12_method_7_code dl_World_ofPerson = true := by decide +kernel
abbrev ky_World_ofPerson : MethodName := ⟨"PoetFines$World", "ofPerson", "(III)I"⟩
def dl_World_hitsBy : List (Nat × Instr × Nat) := [(0, .aload_n 0, 1), (1, .getfield 11, 3), (4, .bipush 17, 2), (6, .iload_n 1, 1), (7, .bipush 8, 2), (9, .imul, 1), (10, .iadd, 1), (11, .iload_n 2, 1), (12, .iadd, 1), (13, .iaload, 1), (14, .ireturn, 1)]
theorem dc_World_hitsBy : kdecs prog_12_method_6_code dl_World_hitsBy = true := by decide +kernel
abbrev ky_World_hitsBy : MethodName := ⟨"PoetFines$World", "hitsBy", "(II)I"⟩
theorem cv_World_21 : kCv "PoetFines$World" 21 ky_World_hitsBy prog_12_method_6_code 3 (some .int) 2 "PoetFines$World" := ⟨⟨wd_1124, wd_116, wd_578, ⟨by decide, by decide⟩, by decide +kernel⟩, wd_576, wd_577⟩
theorem cv_P_158 : kCv "PoetFines" 158 ky_World_ofPerson prog_12_method_7_code 6 (some .int) 3 "PoetFines$World" := ⟨⟨wd_1120, wd_116, wd_1123, ⟨by decide, by decide⟩, by decide +kernel⟩, wd_1121, wd_1122⟩
theorem cv_P_154 : kCv "PoetFines" 154 ky_P_needWhat prog_1_method_45_code 3 none 2 "PoetFines" := ⟨⟨wd_1115, wd_112, wd_1118, ⟨by decide, by decide⟩, by decide +kernel⟩, wd_1117, wd_29⟩
def dl_Law_truthOf : List (Nat × Instr × Nat) := [(0, .aload_n 0, 1), (1, .getfield 25, 3), (4, .iload_n 1, 1), (5, .iconst 4, 1), (6, .imul, 1), (7, .iload_n 2, 1), (8, .iadd, 1), (9, .iaload, 1), (10, .ireturn, 1)]
theorem dc_Law_truthOf : kdecs prog_4_method_5_code dl_Law_truthOf = true := by decide +kernel
abbrev ky_Law_truthOf : MethodName := ⟨"PoetFines$Law", "truthOf", "(II)I"⟩
theorem cv_P_151 : kCv "PoetFines" 151 ky_Law_truthOf prog_4_method_5_code 3 (some .int) 2 "PoetFines$Law" := ⟨⟨wd_1114, wd_113, wd_605, ⟨by decide, by decide⟩, by decide +kernel⟩, wd_603, wd_604⟩
theorem cv_P_148 : kCv "PoetFines" 148 ky_P_needPerson prog_1_method_42_code 2 none 1 "PoetFines" := ⟨⟨wd_1109, wd_112, wd_1112, ⟨by decide, by decide⟩, by decide +kernel⟩, wd_1111, wd_28⟩
def dl_P_poet : List (Nat × Instr × Nat) := [(0, .aload_n 0, 1), (1, .iload_n 1, 1), (2, .invokevirtual 162, 3), (5, .aload_n 0, 1), (6, .iload_n 2, 1), (7, .iconst 4, 1), (8, .invokevirtual 154, 3), (11, .iload_n 2, 1), (12, .tableswitch 90 0 3 #[32, 48, 58, 74], 32), (44, .aload_n 0, 1), (45, .getfield 43, 3), (48, .getfield 56, 3), (51, .getfield 122, 3), (54, .bipush 49, 2), (56, .iload_n 1, 1), (57, .iadd, 1), (58, .iaload, 1), (59, .ireturn, 1), (60, .aload_n 0, 1), (61, .getfield 27, 3), (64, .getfield 165, 3), (67, .iload_n 1, 1), (68, .iaload, 1), (69, .ireturn, 1), (70, .aload_n 0, 1), (71, .getfield 43, 3), (74, .getfield 56, 3), (77, .getfield 122, 3), (80, .bipush 53, 2), (82, .iload_n 1, 1), (83, .iadd, 1), (84, .iaload, 1), (85, .ireturn, 1), (86, .aload_n 0, 1), (87, .getfield 43, 3), (90, .getfield 56, 3), (93, .getfield 122, 3), (96, .bipush 57, 2), (98, .iload_n 1, 1), (99, .iadd, 1), (100, .iaload, 1), (101, .ireturn, 1), (102, .aload_n 0, 1), (103, .getfield 72, 3), (106, .iload_n 1, 1), (107, .invokevirtual 168, 3), (110, .ireturn, 1)]
theorem dc_P_poet : kdecs prog_1_method_7_code dl_P_poet = true := by decide +kernel
abbrev ky_P_poet : MethodName := ⟨"PoetFines", "poet", "(II)I"⟩
def dl_P_needPoet : List (Nat × Instr × Nat) := [(0, .iload_n 1, 1), (1, .ifCond .lt 14, 3), (4, .iload_n 1, 1), (5, .aload_n 0, 1), (6, .getfield 27, 3), (9, .getfield 119, 3), (12, .if_icmp .lt 14, 3), (15, .new 143, 3), (18, .dup, 1), (19, .ldc_w 342, 3), (22, .invokespecial 147, 3), (25, .athrow, 1), (26, .return_, 1)]
theorem dc_P_needPoet : kdecs prog_1_method_43_code dl_P_needPoet = true := by decide +kernel
abbrev ky_P_needPoet : MethodName := ⟨"PoetFines", "needPoet", "(I)V"⟩
theorem th_P_342_147 : kTh "PoetFines" 143 342 147 "java/util/NoSuchElementException" "no such poet" 13 prog_33_method_4_code "java/lang/RuntimeException" ["java/lang/Exception"] := ⟨⟨by decide +kernel, by decide +kernel, by decide +kernel, by decide +kernel, by decide +kernel, by decide +kernel⟩, by decide +kernel, wd_1086, wd_137, by decide +kernel, tha_P_147, by decide +kernel⟩
theorem fd_C_P_165_3 : kFd "PoetFines" 165 kcl yC 3 3 (.inr 4) := ⟨2, _, _, _, _, rfl, rfl, rfl, by decide, kin2, wd_197⟩
theorem fd_C_P_72_0 : kFd "PoetFines" 72 kcl yC 0 10 (.inr 50) := ⟨10, _, _, _, _, rfl, rfl, rfl, by decide, kin10, wd_501⟩
def dl_Court_nextHits : List (Nat × Instr × Nat) := [(0, .aload_n 0, 1), (1, .getfield 38, 3), (4, .getfield 42, 3), (7, .getfield 48, 3), (10, .bipush 53, 2), (12, .iload_n 1, 1), (13, .iadd, 1), (14, .iaload, 1), (15, .istore_n 2, 1), (16, .iconst 0, 1), (17, .istore_n 3, 1), (18, .iconst 0, 1), (19, .istore 4, 2), (21, .iload 4, 2), (23, .aload_n 0, 1), (24, .getfield 34, 3), (27, .getfield 53, 3), (30, .if_icmp .ge 31, 3), (33, .iload_n 3, 1), (34, .aload_n 0, 1), (35, .iload_n 1, 1), (36, .iload 4, 2), (38, .iload_n 2, 1), (39, .invokevirtual 58, 3), (42, .ifCond .le 10, 3), (45, .iconst 1, 1), (46, .iload 4, 2), (48, .ishl, 1), (49, .goto 4, 3), (52, .iconst 0, 1), (53, .ior, 1), (54, .istore_n 3, 1), (55, .iinc 4 1, 3), (58, .goto (-37), 3), (61, .iload_n 3, 1), (62, .ireturn, 1)]
theorem dc_Court_nextHits : kdecs prog_3_method_2_code dl_Court_nextHits = true := by decide +kernel
abbrev ky_Court_nextHits : MethodName := ⟨"PoetFines$Court", "nextHits", "(I)I"⟩
theorem fd_C_Court_38_50 : kFd "PoetFines$Court" 38 kcl yC 50 1 (.inr 43) := ⟨1, _, _, _, _, rfl, rfl, rfl, by decide, kin1, wd_410⟩
theorem fd_C_Court_42_43 : kFd "PoetFines$Court" 42 kcl yC 43 0 (.inr 30) := ⟨6, _, _, _, _, rfl, rfl, rfl, by decide, kin6, wd_389⟩
theorem fd_C_Court_48_30 : kFd "PoetFines$Court" 48 kcl yC 30 0 (.inr 31) := ⟨9, _, _, _, _, rfl, rfl, rfl, by decide, kin9, wd_234⟩
theorem fd_C_Court_34_50 : kFd "PoetFines$Court" 34 kcl yC 50 0 (.inr 3) := ⟨1, _, _, _, _, rfl, rfl, rfl, by decide, kin1, wd_409⟩
theorem fd_C_Court_53_3 : kFd "PoetFines$Court" 53 kcl yC 3 1 (.inl false) := ⟨2, _, _, _, _, rfl, rfl, rfl, by decide, kin2, wd_183⟩
def dl_Court_inchesNow : List (Nat × Instr × Nat) := [(0, .aload_n 0, 1), (1, .getfield 38, 3), (4, .iload_n 1, 1), (5, .iload_n 2, 1), (6, .aload_n 0, 1), (7, .getfield 34, 3), (10, .iload_n 1, 1), (11, .iload_n 3, 1), (12, .invokevirtual 121, 3), (15, .aload_n 0, 1), (16, .getfield 38, 3), (19, .getfield 42, 3), (22, .iload_n 1, 1), (23, .iload_n 3, 1), (24, .invokevirtual 124, 3), (27, .invokevirtual 65, 3), (30, .ireturn, 1)]
theorem dc_Court_inchesNow : kdecs prog_3_method_14_code dl_Court_inchesNow = true := by decide +kernel
abbrev ky_Court_inchesNow : MethodName := ⟨"PoetFines$Court", "inchesNow", "(III)I"⟩
def dl_Law_topicOf : List (Nat × Instr × Nat) := [(0, .aload_n 0, 1), (1, .getfield 28, 3), (4, .iload_n 1, 1), (5, .bipush 6, 2), (7, .imul, 1), (8, .iload_n 2, 1), (9, .iadd, 1), (10, .iaload, 1), (11, .ireturn, 1)]
theorem dc_Law_topicOf : kdecs prog_4_method_7_code dl_Law_topicOf = true := by decide +kernel
abbrev ky_Law_topicOf : MethodName := ⟨"PoetFines$Law", "topicOf", "(II)I"⟩
def dl_World_depthOf : List (Nat × Instr × Nat) := [(0, .aload_n 0, 1), (1, .getfield 11, 3), (4, .bipush 61, 2), (6, .iload_n 1, 1), (7, .bipush 6, 2), (9, .imul, 1), (10, .iadd, 1), (11, .iload_n 2, 1), (12, .iadd, 1), (13, .iaload, 1), (14, .ireturn, 1)]
theorem dc_World_depthOf : kdecs prog_12_method_4_code dl_World_depthOf = true := by decide +kernel
abbrev ky_World_depthOf : MethodName := ⟨"PoetFines$World", "depthOf", "(II)I"⟩
def dl_Stage_inchesInto : List (Nat × Instr × Nat) := [(0, .aload_n 0, 1), (1, .getfield 24, 3), (4, .iload_n 2, 1), (5, .iload_n 3, 1), (6, .invokevirtual 32, 3), (9, .istore 5, 2), (11, .aload_n 0, 1), (12, .getfield 24, 3), (15, .getfield 38, 3), (18, .iconst 0, 1), (19, .invokevirtual 42, 3), (22, .ifCond .ne 11, 3), (25, .iload 4, 2), (27, .iload 5, 2), (29, .invokestatic 46, 3), (32, .ireturn, 1), (33, .aload_n 0, 1), (34, .iload_n 1, 1), (35, .iload_n 2, 1), (36, .aload_n 0, 1), (37, .getfield 28, 3), (40, .getfield 51, 3), (43, .bipush 49, 2), (45, .iload_n 1, 1), (46, .iadd, 1), (47, .iaload, 1), (48, .invokevirtual 56, 3), (51, .aload_n 0, 1), (52, .getfield 20, 3), (55, .iconst 4, 1), (56, .iload 4, 2), (58, .iastore, 1), (59, .aload_n 0, 1), (60, .getfield 20, 3), (63, .iconst 5, 1), (64, .iload 5, 2), (66, .iastore, 1), (67, .aload_n 0, 1), (68, .getfield 24, 3), (71, .getfield 38, 3), (74, .iconst 0, 1), (75, .aload_n 0, 1), (76, .getfield 20, 3), (79, .invokevirtual 60, 3), (82, .bipush 9, 2), (84, .invokestatic 64, 3), (87, .ireturn, 1)]
theorem dc_Stage_inchesInto : kdecs prog_8_method_2_code dl_Stage_inchesInto = true := by decide +kernel
abbrev ky_Stage_inchesInto : MethodName := ⟨"PoetFines$Stage", "inchesInto", "(IIII)I"⟩
theorem fd_C_Stage_24_43 : kFd "PoetFines$Stage" 24 kcl yC 43 2 (.inr 3) := ⟨6, _, _, _, _, rfl, rfl, rfl, by decide, kin6, wd_392⟩
theorem fd_C_Stage_38_3 : kFd "PoetFines$Stage" 38 kcl yC 3 6 (.inr 7) := ⟨2, _, _, _, _, rfl, rfl, rfl, by decide, kin2, wd_202⟩
theorem fd_C_Stage_28_43 : kFd "PoetFines$Stage" 28 kcl yC 43 0 (.inr 30) := ⟨6, _, _, _, _, rfl, rfl, rfl, by decide, kin6, wd_388⟩
theorem fd_C_Stage_51_30 : kFd "PoetFines$Stage" 51 kcl yC 30 0 (.inr 31) := ⟨9, _, _, _, _, rfl, rfl, rfl, by decide, kin9, wd_235⟩
def dl_Stage_setValues : List (Nat × Instr × Nat) := [(0, .aload_n 0, 1), (1, .getfield 20, 3), (4, .iconst 0, 1), (5, .aload_n 0, 1), (6, .getfield 28, 3), (9, .getfield 51, 3), (12, .bipush 9, 2), (14, .iload_n 2, 1), (15, .iadd, 1), (16, .iaload, 1), (17, .iastore, 1), (18, .aload_n 0, 1), (19, .getfield 20, 3), (22, .iconst 1, 1), (23, .iload_n 3, 1), (24, .iastore, 1), (25, .aload_n 0, 1), (26, .getfield 20, 3), (29, .iconst 2, 1), (30, .aload_n 0, 1), (31, .getfield 28, 3), (34, .iload_n 1, 1), (35, .iload_n 2, 1), (36, .invokevirtual 136, 3), (39, .iastore, 1), (40, .aload_n 0, 1), (41, .getfield 20, 3), (44, .iconst 3, 1), (45, .aload_n 0, 1), (46, .getfield 28, 3), (49, .getfield 51, 3), (52, .iconst 0, 1), (53, .iaload, 1), (54, .iastore, 1), (55, .return_, 1)]
theorem dc_Stage_setValues : kdecs prog_8_method_11_code dl_Stage_setValues = true := by decide +kernel
abbrev ky_Stage_setValues : MethodName := ⟨"PoetFines$Stage", "setValues", "(III)V"⟩
theorem fd_C_Stage_20_43 : kFd "PoetFines$Stage" 20 kcl yC 43 3 (.inr 49) := ⟨6, _, _, _, _, rfl, rfl, rfl, by decide, kin6, wd_393⟩
theorem cv_Stage_136 : kCv "PoetFines$Stage" 136 ky_World_hitsBy prog_12_method_6_code 3 (some .int) 2 "PoetFines$World" := ⟨⟨wd_575, wd_116, wd_578, ⟨by decide, by decide⟩, by decide +kernel⟩, wd_576, wd_577⟩
def dl_Rules_worth : List (Nat × Instr × Nat) := [(0, .iconst 0, 1), (1, .istore_n 3, 1), (2, .aload_n 0, 1), (3, .getfield 19, 3), (6, .iload_n 1, 1), (7, .iaload, 1), (8, .istore 4, 2), (10, .iload 4, 2), (12, .aload_n 0, 1), (13, .getfield 22, 3), (16, .iload_n 1, 1), (17, .iaload, 1), (18, .if_icmp .ge 132, 3), (21, .aload_n 0, 1), (22, .getfield 11, 3), (25, .iload 4, 2), (27, .iaload, 1), (28, .istore 5, 2), (30, .iload 5, 2), (32, .bipush (-9), 2), (34, .if_icmp .le 37, 3), (37, .iload_n 3, 1), (38, .bipush 64, 2), (40, .if_icmp .ge 104, 3), (43, .aload_n 0, 1), (44, .getfield 25, 3), (47, .iload_n 3, 1), (48, .iload 5, 2), (50, .ifCond .lt 8, 3), (53, .iload 5, 2), (55, .goto 9, 3), (58, .aload_n 2, 1), (59, .iconst (-1), 1), (60, .iload 5, 2), (62, .isub, 1), (63, .iaload, 1), (64, .iastore, 1), (65, .iinc 3 1, 3), (68, .goto 76, 3), (71, .iload 5, 2), (73, .bipush (-9), 2), (75, .if_icmp .ne 34, 3), (78, .iload_n 3, 1), (79, .ifCond .le 65, 3), (82, .aload_n 0, 1), (83, .getfield 25, 3), (86, .iload_n 3, 1), (87, .iconst 1, 1), (88, .isub, 1), (89, .aload_n 0, 1), (90, .getfield 25, 3), (93, .iload_n 3, 1), (94, .iconst 1, 1), (95, .isub, 1), (96, .iaload, 1), (97, .ifCond .ne 7, 3), (100, .iconst 1, 1), (101, .goto 4, 3), (104, .iconst 0, 1), (105, .iastore, 1), (106, .goto 38, 3), (109, .iload_n 3, 1), (110, .iconst 1, 1), (111, .if_icmp .le 33, 3), (114, .iinc 3 (-1), 3), (117, .aload_n 0, 1), (118, .getfield 25, 3), (121, .iload_n 3, 1), (122, .iconst 1, 1), (123, .isub, 1), (124, .iload 5, 2), (126, .aload_n 0, 1), (127, .getfield 25, 3), (130, .iload_n 3, 1), (131, .iconst 1, 1), (132, .isub, 1), (133, .iaload, 1), (134, .aload_n 0, 1), (135, .getfield 25, 3), (138, .iload_n 3, 1), (139, .iaload, 1), (140, .invokestatic 34, 3), (143, .iastore, 1), (144, .iinc 4 1, 3), (147, .goto (-137), 3), (150, .iload_n 3, 1), (151, .ifCond .le 14, 3), (154, .aload_n 0, 1), (155, .getfield 25, 3), (158, .iload_n 3, 1), (159, .iconst 1, 1), (160, .isub, 1), (161, .iaload, 1), (162, .goto 4, 3), (165, .iconst 0, 1), (166, .ireturn, 1)]
theorem dc_Rules_worth : kdecs prog_7_method_9_code dl_Rules_worth = true := by decide +kernel
abbrev ky_Rules_worth : MethodName := ⟨"PoetFines$Rules", "worth", "(I[I)I"⟩
theorem fd_C_Rules_25_7 : kFd "PoetFines$Rules" 25 kcl yC 7 4 (.inr 11) := ⟨5, _, _, _, _, rfl, rfl, rfl, by decide, kin5, wd_164⟩
def dl_Rules_combined : List (Nat × Instr × Nat) := [(0, .iload_n 0, 1), (1, .tableswitch 105 (-16) (-10) #[101, 97, 93, 82, 71, 57, 43], 43), (44, .iload_n 1, 1), (45, .ifCond .ne 7, 3), (48, .iload_n 2, 1), (49, .ifCond .eq 7, 3), (52, .iconst 1, 1), (53, .goto 4, 3), (56, .iconst 0, 1), (57, .ireturn, 1), (58, .iload_n 1, 1), (59, .ifCond .eq 11, 3), (62, .iload_n 2, 1), (63, .ifCond .eq 7, 3), (66, .iconst 1, 1), (67, .goto 4, 3), (70, .iconst 0, 1), (71, .ireturn, 1), (72, .iload_n 1, 1), (73, .iload_n 2, 1), (74, .if_icmp .ge 7, 3), (77, .iconst 1, 1), (78, .goto 4, 3), (81, .iconst 0, 1), (82, .ireturn, 1), (83, .iload_n 1, 1), (84, .iload_n 2, 1), (85, .if_icmp .ne 7, 3), (88, .iconst 1, 1), (89, .goto 4, 3), (92, .iconst 0, 1), (93, .ireturn, 1), (94, .iload_n 1, 1), (95, .iload_n 2, 1), (96, .iadd, 1), (97, .ireturn, 1), (98, .iload_n 1, 1), (99, .iload_n 2, 1), (100, .isub, 1), (101, .ireturn, 1), (102, .iload_n 1, 1), (103, .iload_n 2, 1), (104, .imul, 1), (105, .ireturn, 1), (106, .iload_n 2, 1), (107, .ifCond .ne 7, 3), (110, .iconst 0, 1), (111, .goto 6, 3), (114, .iload_n 1, 1), (115, .iload_n 2, 1), (116, .idiv, 1), (117, .ireturn, 1)]
theorem dc_Rules_combined : kdecs prog_7_method_10_code dl_Rules_combined = true := by decide +kernel
abbrev ky_Rules_combined : MethodName := ⟨"PoetFines$Rules", "combined", "(III)I"⟩
theorem cs_Rules_34 : kCs "PoetFines$Rules" 34 ky_Rules_combined prog_7_method_10_code 3 (some .int) 3 := ⟨⟨wd_583, wd_114, wd_585, ⟨by decide, by decide⟩, by decide +kernel⟩, wd_584⟩
def dl_Stage_within : List (Nat × Instr × Nat) := [(0, .iload_n 0, 1), (1, .ifCond .ge 5, 3), (4, .iconst 0, 1), (5, .ireturn, 1), (6, .iload_n 0, 1), (7, .iload_n 1, 1), (8, .if_icmp .le 7, 3), (11, .iload_n 1, 1), (12, .goto 4, 3), (15, .iload_n 0, 1), (16, .ireturn, 1)]
theorem dc_Stage_within : kdecs prog_8_method_12_code dl_Stage_within = true := by decide +kernel
abbrev ky_Stage_within : MethodName := ⟨"PoetFines$Stage", "within", "(II)I"⟩
theorem cs_Stage_64 : kCs "PoetFines$Stage" 64 ky_Stage_within prog_8_method_12_code 2 (some .int) 2 := ⟨⟨wd_609, wd_119, wd_611, ⟨by decide, by decide⟩, by decide +kernel⟩, wd_610⟩
theorem cv_Stage_60 : kCv "PoetFines$Stage" 60 ky_Rules_worth prog_7_method_9_code 6 (some .int) 2 "PoetFines$Rules" := ⟨⟨wd_579, wd_114, wd_582, ⟨by decide, by decide⟩, by decide +kernel⟩, wd_580, wd_581⟩
theorem cv_Stage_56 : kCv "PoetFines$Stage" 56 ky_Stage_setValues prog_8_method_11_code 4 none 3 "PoetFines$Stage" := ⟨⟨wd_571, wd_119, wd_574, ⟨by decide, by decide⟩, by decide +kernel⟩, wd_573, wd_4⟩
theorem cm_Stage_46 : Cond.methodLink "PoetFines$Stage" 46 Lib.Math.min.name ∈ kG ∧ Cond.static Lib.Math.min.name ∈ kG ∧ Cond.initialized "java/lang/Math" ∈ kG ∧ Cond.code Lib.Math.min.name Lib.Math.min.code 2 (some .int) ∈ kG := ⟨wd_606, wd_607, wd_128, kG_of kch3 17 rfl rfl⟩
theorem cv_Stage_42 : kCv "PoetFines$Stage" 42 ky_Rules_has prog_7_method_4_code 2 (some .boolean) 1 "PoetFines$Rules" := ⟨⟨wd_567, wd_114, wd_570, ⟨by decide, by decide⟩, by decide +kernel⟩, wd_568, wd_569⟩
theorem cv_Stage_32 : kCv "PoetFines$Stage" 32 ky_Law_truthOf prog_4_method_5_code 3 (some .int) 2 "PoetFines$Law" := ⟨⟨wd_602, wd_113, wd_605, ⟨by decide, by decide⟩, by decide +kernel⟩, wd_603, wd_604⟩
theorem cv_Court_65 : kCv "PoetFines$Court" 65 ky_Stage_inchesInto prog_8_method_2_code 6 (some .int) 4 "PoetFines$Stage" := ⟨⟨wd_1147, wd_119, wd_601, ⟨by decide, by decide⟩, by decide +kernel⟩, wd_599, wd_600⟩
theorem cv_Court_124 : kCv "PoetFines$Court" 124 ky_World_depthOf prog_12_method_4_code 3 (some .int) 2 "PoetFines$World" := ⟨⟨wd_1146, wd_116, wd_597, ⟨by decide, by decide⟩, by decide +kernel⟩, wd_595, wd_596⟩
theorem cv_Court_121 : kCv "PoetFines$Court" 121 ky_Law_topicOf prog_4_method_7_code 3 (some .int) 2 "PoetFines$Law" := ⟨⟨wd_1145, wd_113, wd_593, ⟨by decide, by decide⟩, by decide +kernel⟩, wd_591, wd_592⟩
theorem cv_Court_58 : kCv "PoetFines$Court" 58 ky_Court_inchesNow prog_3_method_14_code 4 (some .int) 3 "PoetFines$Court" := ⟨⟨wd_1141, wd_121, wd_1144, ⟨by decide, by decide⟩, by decide +kernel⟩, wd_1143, wd_31⟩
theorem cv_P_168 : kCv "PoetFines" 168 ky_Court_nextHits prog_3_method_2_code 5 (some .int) 1 "PoetFines$Court" := ⟨⟨wd_1137, wd_121, wd_1140, ⟨by decide, by decide⟩, by decide +kernel⟩, wd_1138, wd_1139⟩
theorem cv_P_162 : kCv "PoetFines" 162 ky_P_needPoet prog_1_method_43_code 2 none 1 "PoetFines" := ⟨⟨wd_1132, wd_112, wd_1135, ⟨by decide, by decide⟩, by decide +kernel⟩, wd_1134, wd_30⟩
def dl_P_line : List (Nat × Instr × Nat) := [(0, .aload_n 0, 1), (1, .iload_n 1, 1), (2, .iload_n 2, 1), (3, .invokevirtual 171, 3), (6, .aload_n 0, 1), (7, .iload_n 3, 1), (8, .iconst 4, 1), (9, .invokevirtual 154, 3), (12, .iload_n 3, 1), (13, .tableswitch 74 0 3 #[31, 41, 54, 64], 31), (44, .aload_n 0, 1), (45, .getfield 27, 3), (48, .iload_n 1, 1), (49, .iload_n 2, 1), (50, .invokevirtual 174, 3), (53, .ireturn, 1), (54, .aload_n 0, 1), (55, .getfield 43, 3), (58, .getfield 56, 3), (61, .iload_n 1, 1), (62, .iload_n 2, 1), (63, .invokevirtual 177, 3), (66, .ireturn, 1), (67, .aload_n 0, 1), (68, .getfield 27, 3), (71, .iload_n 1, 1), (72, .iload_n 2, 1), (73, .invokevirtual 180, 3), (76, .ireturn, 1), (77, .aload_n 0, 1), (78, .getfield 72, 3), (81, .iload_n 1, 1), (82, .iload_n 2, 1), (83, .invokevirtual 183, 3), (86, .ireturn, 1), (87, .aload_n 0, 1), (88, .getfield 72, 3), (91, .iload_n 1, 1), (92, .iload_n 2, 1), (93, .invokevirtual 186, 3), (96, .ireturn, 1)]
theorem dc_P_line : kdecs prog_1_method_8_code dl_P_line = true := by decide +kernel
abbrev ky_P_line : MethodName := ⟨"PoetFines", "line", "(III)I"⟩
def dl_P_needLine : List (Nat × Instr × Nat) := [(0, .aload_n 0, 1), (1, .iload_n 1, 1), (2, .invokevirtual 162, 3), (5, .iload_n 2, 1), (6, .ifCond .lt 16, 3), (9, .iload_n 2, 1), (10, .aload_n 0, 1), (11, .getfield 27, 3), (14, .getfield 165, 3), (17, .iload_n 1, 1), (18, .iaload, 1), (19, .if_icmp .lt 14, 3), (22, .new 143, 3), (25, .dup, 1), (26, .ldc_w 344, 3), (29, .invokespecial 147, 3), (32, .athrow, 1), (33, .return_, 1)]
theorem dc_P_needLine : kdecs prog_1_method_44_code dl_P_needLine = true := by decide +kernel
abbrev ky_P_needLine : MethodName := ⟨"PoetFines", "needLine", "(II)V"⟩
theorem th_P_344_147 : kTh "PoetFines" 143 344 147 "java/util/NoSuchElementException" "no such line" 13 prog_33_method_4_code "java/lang/RuntimeException" ["java/lang/Exception"] := ⟨⟨by decide +kernel, by decide +kernel, by decide +kernel, by decide +kernel, by decide +kernel, by decide +kernel⟩, by decide +kernel, wd_1086, wd_137, by decide +kernel, tha_P_147, by decide +kernel⟩
theorem cv_P_174 : kCv "PoetFines" 174 ky_Law_topicOf prog_4_method_7_code 3 (some .int) 2 "PoetFines$Law" := ⟨⟨wd_1160, wd_113, wd_593, ⟨by decide, by decide⟩, by decide +kernel⟩, wd_591, wd_592⟩
theorem cv_P_177 : kCv "PoetFines" 177 ky_World_depthOf prog_12_method_4_code 3 (some .int) 2 "PoetFines$World" := ⟨⟨wd_1161, wd_116, wd_597, ⟨by decide, by decide⟩, by decide +kernel⟩, wd_595, wd_596⟩
def dl_Law_rhymes : List (Nat × Instr × Nat) := [(0, .iload_n 2, 1), (1, .ifCond .le 9, 3), (4, .iload_n 2, 1), (5, .iconst 1, 1), (6, .isub, 1), (7, .goto 15, 3), (10, .aload_n 0, 1), (11, .getfield 21, 3), (14, .iload_n 1, 1), (15, .iaload, 1), (16, .iconst 1, 1), (17, .isub, 1), (18, .iconst 0, 1), (19, .invokestatic 51, 3), (22, .istore_n 3, 1), (23, .aload_n 0, 1), (24, .iload_n 1, 1), (25, .iload_n 2, 1), (26, .invokevirtual 57, 3), (29, .aload_n 0, 1), (30, .iload_n 1, 1), (31, .iload_n 3, 1), (32, .invokevirtual 57, 3), (35, .if_icmp .ne 7, 3), (38, .iconst 1, 1), (39, .goto 4, 3), (42, .iconst 0, 1), (43, .ireturn, 1)]
theorem dc_Law_rhymes : kdecs prog_4_method_9_code dl_Law_rhymes = true := by decide +kernel
abbrev ky_Law_rhymes : MethodName := ⟨"PoetFines$Law", "rhymes", "(II)I"⟩
theorem cm_Law_51 : Cond.methodLink "PoetFines$Law" 51 Lib.Math.max.name ∈ kG ∧ Cond.static Lib.Math.max.name ∈ kG ∧ Cond.initialized "java/lang/Math" ∈ kG ∧ Cond.code Lib.Math.max.name Lib.Math.max.code 2 (some .int) ∈ kG := ⟨wd_620, wd_621, wd_128, kG_of kch3 31 rfl rfl⟩
theorem cv_Law_57 : kCv "PoetFines$Law" 57 ky_Law_topicOf prog_4_method_7_code 3 (some .int) 2 "PoetFines$Law" := ⟨⟨wd_623, wd_113, wd_593, ⟨by decide, by decide⟩, by decide +kernel⟩, wd_591, wd_592⟩
theorem cv_P_180 : kCv "PoetFines" 180 ky_Law_rhymes prog_4_method_9_code 4 (some .int) 2 "PoetFines$Law" := ⟨⟨wd_1162, wd_113, wd_619, ⟨by decide, by decide⟩, by decide +kernel⟩, wd_617, wd_618⟩
def dl_Court_fineOfLine : List (Nat × Instr × Nat) := [(0, .iconst 0, 1), (1, .istore_n 3, 1), (2, .iconst 0, 1), (3, .istore 4, 2), (5, .iload 4, 2), (7, .aload_n 0, 1), (8, .getfield 34, 3), (11, .getfield 53, 3), (14, .if_icmp .ge 20, 3), (17, .iload_n 3, 1), (18, .aload_n 0, 1), (19, .iload_n 1, 1), (20, .iload 4, 2), (22, .iload_n 2, 1), (23, .invokevirtual 62, 3), (26, .iadd, 1), (27, .istore_n 3, 1), (28, .iinc 4 1, 3), (31, .goto (-26), 3), (34, .iload_n 3, 1), (35, .ireturn, 1)]
theorem dc_Court_fineOfLine : kdecs prog_3_method_4_code dl_Court_fineOfLine = true := by decide +kernel
abbrev ky_Court_fineOfLine : MethodName := ⟨"PoetFines$Court", "fineOfLine", "(II)I"⟩
def dl_Court_fineNow : List (Nat × Instr × Nat) := [(0, .aload_n 0, 1), (1, .iload_n 1, 1), (2, .iload_n 2, 1), (3, .iload_n 3, 1), (4, .invokevirtual 58, 3), (7, .istore 4, 2), (9, .iload 4, 2), (11, .ifCond .le 18, 3), (14, .aload_n 0, 1), (15, .getfield 38, 3), (18, .iload_n 1, 1), (19, .iload_n 2, 1), (20, .iload_n 3, 1), (21, .iload 4, 2), (23, .invokevirtual 127, 3), (26, .goto 4, 3), (29, .iconst 0, 1), (30, .ireturn, 1)]
theorem dc_Court_fineNow : kdecs prog_3_method_15_code dl_Court_fineNow = true := by decide +kernel
abbrev ky_Court_fineNow : MethodName := ⟨"PoetFines$Court", "fineNow", "(III)I"⟩
def dl_Stage_fineFor : List (Nat × Instr × Nat) := [(0, .aload_n 0, 1), (1, .getfield 24, 3), (4, .getfield 38, 3), (7, .iconst 1, 1), (8, .invokevirtual 42, 3), (11, .ifCond .ne 6, 3), (14, .iload 4, 2), (16, .ireturn, 1), (17, .aload_n 0, 1), (18, .iload_n 1, 1), (19, .iload_n 2, 1), (20, .aload_n 0, 1), (21, .getfield 28, 3), (24, .getfield 51, 3), (27, .bipush 49, 2), (29, .iload_n 1, 1), (30, .iadd, 1), (31, .iaload, 1), (32, .invokevirtual 56, 3), (35, .aload_n 0, 1), (36, .getfield 20, 3), (39, .bipush 6, 2), (41, .iload 4, 2), (43, .iastore, 1), (44, .aload_n 0, 1), (45, .getfield 20, 3), (48, .bipush 7, 2), (50, .aload_n 0, 1), (51, .getfield 24, 3), (54, .iload_n 1, 1), (55, .iload_n 3, 1), (56, .invokevirtual 67, 3), (59, .iastore, 1), (60, .aload_n 0, 1), (61, .getfield 24, 3), (64, .getfield 38, 3), (67, .iconst 1, 1), (68, .aload_n 0, 1), (69, .getfield 20, 3), (72, .invokevirtual 60, 3), (75, .bipush 20, 2), (77, .invokestatic 64, 3), (80, .ireturn, 1)]
theorem dc_Stage_fineFor : kdecs prog_8_method_3_code dl_Stage_fineFor = true := by decide +kernel
abbrev ky_Stage_fineFor : MethodName := ⟨"PoetFines$Stage", "fineFor", "(IIII)I"⟩
theorem cv_Stage_67 : kCv "PoetFines$Stage" 67 ky_Law_rhymes prog_4_method_9_code 4 (some .int) 2 "PoetFines$Law" := ⟨⟨wd_616, wd_113, wd_619, ⟨by decide, by decide⟩, by decide +kernel⟩, wd_617, wd_618⟩
theorem cv_Court_127 : kCv "PoetFines$Court" 127 ky_Stage_fineFor prog_8_method_3_code 5 (some .int) 4 "PoetFines$Stage" := ⟨⟨wd_1171, wd_119, wd_615, ⟨by decide, by decide⟩, by decide +kernel⟩, wd_613, wd_614⟩
theorem cv_Court_62 : kCv "PoetFines$Court" 62 ky_Court_fineNow prog_3_method_15_code 5 (some .int) 3 "PoetFines$Court" := ⟨⟨wd_1167, wd_121, wd_1170, ⟨by decide, by decide⟩, by decide +kernel⟩, wd_1169, wd_33⟩
theorem cv_P_183 : kCv "PoetFines" 183 ky_Court_fineOfLine prog_3_method_4_code 5 (some .int) 2 "PoetFines$Court" := ⟨⟨wd_1163, wd_121, wd_1166, ⟨by decide, by decide⟩, by decide +kernel⟩, wd_1164, wd_1165⟩
def dl_Court_inchesOfLine : List (Nat × Instr × Nat) := [(0, .iconst 0, 1), (1, .istore_n 3, 1), (2, .iconst 0, 1), (3, .istore 4, 2), (5, .iload 4, 2), (7, .aload_n 0, 1), (8, .getfield 34, 3), (11, .getfield 53, 3), (14, .if_icmp .ge 20, 3), (17, .iload_n 3, 1), (18, .aload_n 0, 1), (19, .iload_n 1, 1), (20, .iload 4, 2), (22, .iload_n 2, 1), (23, .invokevirtual 58, 3), (26, .iadd, 1), (27, .istore_n 3, 1), (28, .iinc 4 1, 3), (31, .goto (-26), 3), (34, .iload_n 3, 1), (35, .ireturn, 1)]
theorem dc_Court_inchesOfLine : kdecs prog_3_method_3_code dl_Court_inchesOfLine = true := by decide +kernel
abbrev ky_Court_inchesOfLine : MethodName := ⟨"PoetFines$Court", "inchesOfLine", "(II)I"⟩
theorem cv_P_186 : kCv "PoetFines" 186 ky_Court_inchesOfLine prog_3_method_3_code 5 (some .int) 2 "PoetFines$Court" := ⟨⟨wd_1172, wd_121, wd_1175, ⟨by decide, by decide⟩, by decide +kernel⟩, wd_1173, wd_1174⟩
theorem cv_P_171 : kCv "PoetFines" 171 ky_P_needLine prog_1_method_44_code 3 none 2 "PoetFines" := ⟨⟨wd_1155, wd_112, wd_1158, ⟨by decide, by decide⟩, by decide +kernel⟩, wd_1157, wd_32⟩
def dl_P_years : List (Nat × Instr × Nat) := [(0, .aload_n 0, 1), (1, .getfield 43, 3), (4, .getfield 56, 3), (7, .getfield 122, 3), (10, .iconst 0, 1), (11, .iaload, 1), (12, .istore_n 2, 1), (13, .iload_n 1, 1), (14, .iconst 1, 1), (15, .if_icmp .lt 18, 3), (18, .iload_n 1, 1), (19, .bipush 20, 2), (21, .if_icmp .gt 12, 3), (24, .iload_n 2, 1), (25, .iload_n 1, 1), (26, .iadd, 1), (27, .sipush 9999, 3), (30, .if_icmp .le 8, 3), (33, .aload_n 0, 1), (34, .invokevirtual 189, 3), (37, .ireturn, 1), (38, .aload_n 0, 1), (39, .getfield 43, 3), (42, .invokevirtual 193, 3), (45, .iconst 0, 1), (46, .istore_n 3, 1), (47, .iload_n 3, 1), (48, .iload_n 1, 1), (49, .if_icmp .ge 17, 3), (52, .aload_n 0, 1), (53, .getfield 63, 3), (56, .iconst 0, 1), (57, .invokevirtual 196, 3), (60, .iinc 3 1, 3), (63, .goto (-16), 3), (66, .aload_n 0, 1), (67, .getfield 43, 3), (70, .getfield 56, 3), (73, .getfield 122, 3), (76, .iconst 0, 1), (77, .iaload, 1), (78, .ireturn, 1)]
theorem dc_P_years : kdecs prog_1_method_9_code dl_P_years = true := by decide +kernel
abbrev ky_P_years : MethodName := ⟨"PoetFines", "years", "(I)I"⟩
def dl_P_refusedAct : List (Nat × Instr × Nat) := [(0, .aload_n 0, 1), (1, .getfield 20, 3), (4, .iconst 1, 1), (5, .dup2, 1), (6, .iaload, 1), (7, .iconst 1, 1), (8, .iadd, 1), (9, .iastore, 1), (10, .iconst (-1), 1), (11, .ireturn, 1)]
theorem dc_P_refusedAct : kdecs prog_1_method_41_code dl_P_refusedAct = true := by decide +kernel
abbrev ky_P_refusedAct : MethodName := ⟨"PoetFines", "refusedAct", "()I"⟩
theorem cv_P_189 : kCv "PoetFines" 189 ky_P_refusedAct prog_1_method_41_code 1 (some .int) 0 "PoetFines" := ⟨⟨wd_544, wd_112, wd_547, ⟨by decide, by decide⟩, by decide +kernel⟩, wd_546, wd_1⟩
def dl_Chronicle_remember : List (Nat × Instr × Nat) := [(0, .aload_n 0, 1), (1, .getfield 26, 3), (4, .aload_n 0, 1), (5, .getfield 18, 3), (8, .iadd, 1), (9, .bipush 40, 2), (11, .irem, 1), (12, .istore_n 1, 1), (13, .aload_n 0, 1), (14, .getfield 12, 3), (17, .getfield 51, 3), (20, .iconst 0, 1), (21, .aload_n 0, 1), (22, .getfield 22, 3), (25, .iload_n 1, 1), (26, .bipush 85, 2), (28, .imul, 1), (29, .bipush 85, 2), (31, .invokestatic 45, 3), (34, .aload_n 0, 1), (35, .getfield 18, 3), (38, .bipush 40, 2), (40, .if_icmp .ge 16, 3), (43, .aload_n 0, 1), (44, .dup, 1), (45, .getfield 18, 3), (48, .iconst 1, 1), (49, .iadd, 1), (50, .putfield 18, 3), (53, .goto 16, 3), (56, .aload_n 0, 1), (57, .aload_n 0, 1), (58, .getfield 26, 3), (61, .iconst 1, 1), (62, .iadd, 1), (63, .bipush 40, 2), (65, .irem, 1), (66, .putfield 26, 3), (69, .return_, 1)]
theorem dc_Chronicle_remember : kdecs prog_2_method_4_code dl_Chronicle_remember = true := by decide +kernel
abbrev ky_Chronicle_remember : MethodName := ⟨"PoetFines$Chronicle", "remember", "()V"⟩
theorem fd_C_Chronicle_26_29 : kFd "PoetFines$Chronicle" 26 kcl yC 29 3 (.inl false) := ⟨0, _, _, _, _, rfl, rfl, rfl, by decide, kin0, wd_307⟩
theorem fd_C_Chronicle_18_29 : kFd "PoetFines$Chronicle" 18 kcl yC 29 1 (.inl false) := ⟨0, _, _, _, _, rfl, rfl, rfl, by decide, kin0, wd_304⟩
theorem fd_C_Chronicle_51_30 : kFd "PoetFines$Chronicle" 51 kcl yC 30 0 (.inr 31) := ⟨9, _, _, _, _, rfl, rfl, rfl, by decide, kin9, wd_236⟩
theorem fd_C_Chronicle_22_29 : kFd "PoetFines$Chronicle" 22 kcl yC 29 2 (.inr 32) := ⟨0, _, _, _, _, rfl, rfl, rfl, by decide, kin0, wd_306⟩
theorem ca_Chronicle_45 : Cond.methodLink "PoetFines$Chronicle" 45 arraycopyName ∈ kG ∧ Cond.native arraycopyName ∈ kG ∧ Cond.static arraycopyName ∈ kG ∧ Cond.initialized "java/lang/System" ∈ kG := ⟨wd_552, wd_554, wd_553, wd_136⟩
theorem fd_C_P_63_0 : kFd "PoetFines" 63 kcl yC 0 9 (.inr 43) := ⟨10, _, _, _, _, rfl, rfl, rfl, by decide, kin10, wd_500⟩
def dl_Stage_passYear : List (Nat × Instr × Nat) := [(0, .aload_n 0, 1), (1, .getfield 12, 3), (4, .iconst 0, 1), (5, .putfield 70, 3), (8, .iconst 0, 1), (9, .istore_n 2, 1), (10, .iload_n 2, 1), (11, .aload_n 0, 1), (12, .getfield 24, 3), (15, .getfield 74, 3), (18, .if_icmp .ge 54, 3), (21, .aload_n 0, 1), (22, .getfield 28, 3), (25, .getfield 51, 3), (28, .bipush 57, 2), (30, .iload_n 2, 1), (31, .iadd, 1), (32, .iaload, 1), (33, .ifCond .le 22, 3), (36, .aload_n 0, 1), (37, .getfield 28, 3), (40, .getfield 51, 3), (43, .bipush 57, 2), (45, .iload_n 2, 1), (46, .iadd, 1), (47, .dup2, 1), (48, .iaload, 1), (49, .iconst 1, 1), (50, .isub, 1), (51, .iastore, 1), (52, .goto 14, 3), (55, .aload_n 0, 1), (56, .iload_n 2, 1), (57, .invokevirtual 77, 3), (60, .aload_n 0, 1), (61, .iload_n 2, 1), (62, .iload_n 1, 1), (63, .invokevirtual 81, 3), (66, .iinc 2 1, 3), (69, .goto (-59), 3), (72, .aload_n 0, 1), (73, .getfield 28, 3), (76, .getfield 51, 3), (79, .iconst 0, 1), (80, .dup2, 1), (81, .iaload, 1), (82, .iconst 1, 1), (83, .iadd, 1), (84, .iastore, 1), (85, .aload_n 0, 1), (86, .getfield 12, 3), (89, .invokevirtual 85, 3), (92, .return_, 1)]
theorem dc_Stage_passYear : kdecs prog_8_method_4_code dl_Stage_passYear = true := by decide +kernel
abbrev ky_Stage_passYear : MethodName := ⟨"PoetFines$Stage", "passYear", "(Z)V"⟩
theorem fd_C_Stage_12_43 : kFd "PoetFines$Stage" 12 kcl yC 43 1 (.inr 44) := ⟨6, _, _, _, _, rfl, rfl, rfl, by decide, kin6, wd_390⟩
theorem fp_C_Stage_70_44 : kFp "PoetFines$Stage" 70 kcl yC 44 6 (.inl false) .int := ⟨7, _, _, _, _, kty7, rfl, rfl, rfl, by decide, kin7, wd_359, kty7_ok, knm7, rfl, by decide +kernel⟩
theorem fd_C_Stage_74_3 : kFd "PoetFines$Stage" 74 kcl yC 3 2 (.inl false) := ⟨2, _, _, _, _, rfl, rfl, rfl, by decide, kin2, wd_189⟩
def dl_Stage_sellVolumes : List (Nat × Instr × Nat) := [(0, .aload_n 0, 1), (1, .getfield 28, 3), (4, .getfield 51, 3), (7, .astore_n 2, 1), (8, .iconst 0, 1), (9, .istore_n 3, 1), (10, .iload_n 3, 1), (11, .aload_n 0, 1), (12, .getfield 24, 3), (15, .getfield 91, 3), (18, .if_icmp .ge 70, 3), (21, .aload_n 2, 1), (22, .iconst 1, 1), (23, .iload_n 3, 1), (24, .iadd, 1), (25, .iaload, 1), (26, .ifCond .le 56, 3), (29, .aload_n 0, 1), (30, .iload_n 1, 1), (31, .iload_n 3, 1), (32, .invokevirtual 94, 3), (35, .ifCond .eq 47, 3), (38, .aload_n 2, 1), (39, .iconst 1, 1), (40, .iload_n 3, 1), (41, .iadd, 1), (42, .dup2, 1), (43, .iaload, 1), (44, .iconst 1, 1), (45, .isub, 1), (46, .iastore, 1), (47, .aload_n 2, 1), (48, .bipush 49, 2), (50, .iload_n 1, 1), (51, .iadd, 1), (52, .iaload, 1), (53, .sipush 999, 3), (56, .if_icmp .ge 26, 3), (59, .aload_n 2, 1), (60, .bipush 49, 2), (62, .iload_n 1, 1), (63, .iadd, 1), (64, .dup2, 1), (65, .iaload, 1), (66, .iconst 1, 1), (67, .iadd, 1), (68, .iastore, 1), (69, .aload_n 0, 1), (70, .getfield 12, 3), (73, .getfield 98, 3), (76, .iload_n 1, 1), (77, .dup2, 1), (78, .iaload, 1), (79, .iconst 1, 1), (80, .iadd, 1), (81, .iastore, 1), (82, .iinc 3 1, 3), (85, .goto (-75), 3), (88, .return_, 1)]
theorem dc_Stage_sellVolumes : kdecs prog_8_method_6_code dl_Stage_sellVolumes = true := by decide +kernel
abbrev ky_Stage_sellVolumes : MethodName := ⟨"PoetFines$Stage", "sellVolumes", "(I)V"⟩
theorem fd_C_Stage_91_3 : kFd "PoetFines$Stage" 91 kcl yC 3 1 (.inl false) := ⟨2, _, _, _, _, rfl, rfl, rfl, by decide, kin2, wd_187⟩
def dl_Stage_wouldBuy : List (Nat × Instr × Nat) := [(0, .aload_n 0, 1), (1, .getfield 24, 3), (4, .getfield 38, 3), (7, .iconst 2, 1), (8, .invokevirtual 42, 3), (11, .ifCond .ne 5, 3), (14, .iconst 1, 1), (15, .ireturn, 1), (16, .aload_n 0, 1), (17, .iload_n 1, 1), (18, .iload_n 2, 1), (19, .aload_n 0, 1), (20, .getfield 28, 3), (23, .getfield 51, 3), (26, .iconst 1, 1), (27, .iload_n 2, 1), (28, .iadd, 1), (29, .iaload, 1), (30, .invokevirtual 56, 3), (33, .aload_n 0, 1), (34, .getfield 24, 3), (37, .getfield 38, 3), (40, .iconst 2, 1), (41, .aload_n 0, 1), (42, .getfield 20, 3), (45, .invokevirtual 60, 3), (48, .ifCond .le 7, 3), (51, .iconst 1, 1), (52, .goto 4, 3), (55, .iconst 0, 1), (56, .ireturn, 1)]
theorem dc_Stage_wouldBuy : kdecs prog_8_method_7_code dl_Stage_wouldBuy = true := by decide +kernel
abbrev ky_Stage_wouldBuy : MethodName := ⟨"PoetFines$Stage", "wouldBuy", "(II)Z"⟩
theorem fd_C_Stage_98_44 : kFd "PoetFines$Stage" 98 kcl yC 44 1 (.inr 46) := ⟨7, _, _, _, _, rfl, rfl, rfl, by decide, kin7, wd_347⟩
theorem cv_Stage_94 : kCv "PoetFines$Stage" 94 ky_Stage_wouldBuy prog_8_method_7_code 3 (some .boolean) 2 "PoetFines$Stage" := ⟨⟨wd_563, wd_119, wd_566, ⟨by decide, by decide⟩, by decide +kernel⟩, wd_565, wd_3⟩
def dl_Stage_readNext : List (Nat × Instr × Nat) := [(0, .aload_n 0, 1), (1, .getfield 28, 3), (4, .getfield 51, 3), (7, .bipush 53, 2), (9, .iload_n 1, 1), (10, .iadd, 1), (11, .iaload, 1), (12, .istore_n 3, 1), (13, .aload_n 0, 1), (14, .getfield 24, 3), (17, .iload_n 1, 1), (18, .iload_n 3, 1), (19, .invokevirtual 101, 3), (22, .istore 4, 2), (24, .iload_n 2, 1), (25, .ifCond .eq 8, 3), (28, .bipush 9, 2), (30, .goto 12, 3), (33, .aload_n 0, 1), (34, .getfield 28, 3), (37, .iload_n 1, 1), (38, .iload_n 3, 1), (39, .invokevirtual 104, 3), (42, .istore 5, 2), (44, .iconst 0, 1), (45, .istore 6, 2), (47, .iconst 0, 1), (48, .istore 7, 2), (50, .iload 7, 2), (52, .aload_n 0, 1), (53, .getfield 24, 3), (56, .getfield 91, 3), (59, .if_icmp .ge 67, 3), (62, .aload_n 0, 1), (63, .iload_n 1, 1), (64, .iload 7, 2), (66, .iload 4, 2), (68, .iload 5, 2), (70, .invokevirtual 107, 3), (73, .istore 8, 2), (75, .iload 8, 2), (77, .ifCond .le 43, 3), (80, .aload_n 0, 1), (81, .iload_n 1, 1), (82, .iload 7, 2), (84, .iload_n 3, 1), (85, .iload 8, 2), (87, .invokevirtual 111, 3), (90, .istore 9, 2), (92, .iload 6, 2), (94, .iload 9, 2), (96, .aload_n 0, 1), (97, .iload_n 1, 1), (98, .iload 7, 2), (100, .iload 9, 2), (102, .invokevirtual 114, 3), (105, .isub, 1), (106, .invokestatic 118, 3), (109, .istore 6, 2), (111, .aload_n 0, 1), (112, .iload_n 1, 1), (113, .iload 7, 2), (115, .iload 8, 2), (117, .invokevirtual 121, 3), (120, .iinc 7 1, 3), (123, .goto (-73), 3), (126, .aload_n 0, 1), (127, .getfield 28, 3), (130, .getfield 51, 3), (133, .bipush 57, 2), (135, .iload_n 1, 1), (136, .iadd, 1), (137, .iload 6, 2), (139, .bipush 9, 2), (141, .invokestatic 46, 3), (144, .iastore, 1), (145, .aload_n 0, 1), (146, .getfield 12, 3), (149, .getfield 124, 3), (152, .iload_n 1, 1), (153, .dup2, 1), (154, .iaload, 1), (155, .iconst 1, 1), (156, .iadd, 1), (157, .iastore, 1), (158, .aload_n 0, 1), (159, .iload_n 1, 1), (160, .invokevirtual 127, 3), (163, .return_, 1)]
theorem dc_Stage_readNext : kdecs prog_8_method_8_code dl_Stage_readNext = true := by decide +kernel
abbrev ky_Stage_readNext : MethodName := ⟨"PoetFines$Stage", "readNext", "(IZ)V"⟩
def dl_Stage_payFine : List (Nat × Instr × Nat) := [(0, .aload_n 0, 1), (1, .getfield 28, 3), (4, .getfield 51, 3), (7, .astore 4, 2), (9, .iload_n 3, 1), (10, .aload 4, 2), (12, .bipush 49, 2), (14, .iload_n 1, 1), (15, .iadd, 1), (16, .iaload, 1), (17, .invokestatic 46, 3), (20, .istore 5, 2), (22, .aload 4, 2), (24, .bipush 49, 2), (26, .iload_n 1, 1), (27, .iadd, 1), (28, .dup2, 1), (29, .iaload, 1), (30, .iload 5, 2), (32, .isub, 1), (33, .iastore, 1), (34, .aload 4, 2), (36, .iconst 1, 1), (37, .iload_n 2, 1), (38, .iadd, 1), (39, .aload 4, 2), (41, .iconst 1, 1), (42, .iload_n 2, 1), (43, .iadd, 1), (44, .iaload, 1), (45, .iload 5, 2), (47, .iadd, 1), (48, .sipush 999, 3), (51, .invokestatic 46, 3), (54, .iastore, 1), (55, .aload_n 0, 1), (56, .getfield 12, 3), (59, .getfield 130, 3), (62, .iload_n 1, 1), (63, .dup2, 1), (64, .iaload, 1), (65, .iload 5, 2), (67, .iadd, 1), (68, .iastore, 1), (69, .iload 5, 2), (71, .ireturn, 1)]
theorem dc_Stage_payFine : kdecs prog_8_method_9_code dl_Stage_payFine = true := by decide +kernel
abbrev ky_Stage_payFine : MethodName := ⟨"PoetFines$Stage", "payFine", "(III)I"⟩
theorem fd_C_Stage_130_44 : kFd "PoetFines$Stage" 130 kcl yC 44 0 (.inr 45) := ⟨7, _, _, _, _, rfl, rfl, rfl, by decide, kin7, wd_344⟩
theorem cm_Stage_118 : Cond.methodLink "PoetFines$Stage" 118 Lib.Math.max.name ∈ kG ∧ Cond.static Lib.Math.max.name ∈ kG ∧ Cond.initialized "java/lang/Math" ∈ kG ∧ Cond.code Lib.Math.max.name Lib.Math.max.code 2 (some .int) ∈ kG := ⟨wd_628, wd_621, wd_128, kG_of kch3 31 rfl rfl⟩
def dl_Stage_leaveScars : List (Nat × Instr × Nat) := [(0, .aload_n 0, 1), (1, .getfield 28, 3), (4, .getfield 51, 3), (7, .astore 4, 2), (9, .aload 4, 2), (11, .bipush 9, 2), (13, .iload_n 2, 1), (14, .iadd, 1), (15, .aload 4, 2), (17, .bipush 9, 2), (19, .iload_n 2, 1), (20, .iadd, 1), (21, .iaload, 1), (22, .iload_n 3, 1), (23, .iadd, 1), (24, .bipush 99, 2), (26, .invokestatic 46, 3), (29, .iastore, 1), (30, .aload 4, 2), (32, .bipush 17, 2), (34, .iload_n 1, 1), (35, .bipush 8, 2), (37, .imul, 1), (38, .iadd, 1), (39, .iload_n 2, 1), (40, .iadd, 1), (41, .dup2, 1), (42, .iaload, 1), (43, .iconst 1, 1), (44, .iadd, 1), (45, .iastore, 1), (46, .aload_n 0, 1), (47, .getfield 12, 3), (50, .iload_n 1, 1), (51, .iload_n 2, 1), (52, .iload_n 3, 1), (53, .invokevirtual 133, 3), (56, .return_, 1)]
theorem dc_Stage_leaveScars : kdecs prog_8_method_10_code dl_Stage_leaveScars = true := by decide +kernel
abbrev ky_Stage_leaveScars : MethodName := ⟨"PoetFines$Stage", "leaveScars", "(III)V"⟩
def dl_Tally_addHit : List (Nat × Instr × Nat) := [(0, .aload_n 0, 1), (1, .getfield 21, 3), (4, .iload_n 1, 1), (5, .bipush 8, 2), (7, .imul, 1), (8, .iload_n 2, 1), (9, .iadd, 1), (10, .dup2, 1), (11, .iaload, 1), (12, .iload_n 3, 1), (13, .iadd, 1), (14, .iastore, 1), (15, .aload_n 0, 1), (16, .dup, 1), (17, .getfield 24, 3), (20, .iload_n 3, 1), (21, .iadd, 1), (22, .putfield 24, 3), (25, .aload_n 0, 1), (26, .dup, 1), (27, .getfield 28, 3), (30, .iconst 1, 1), (31, .iadd, 1), (32, .putfield 28, 3), (35, .aload_n 0, 1), (36, .dup, 1), (37, .getfield 31, 3), (40, .iconst 1, 1), (41, .iload_n 2, 1), (42, .ishl, 1), (43, .ior, 1), (44, .putfield 31, 3), (47, .aload_n 0, 1), (48, .aload_n 0, 1), (49, .getfield 37, 3), (52, .iload_n 3, 1), (53, .invokestatic 43, 3), (56, .putfield 37, 3), (59, .return_, 1)]
theorem dc_Tally_addHit : kdecs prog_9_method_3_code dl_Tally_addHit = true := by decide +kernel
abbrev ky_Tally_addHit : MethodName := ⟨"PoetFines$Tally", "addHit", "(III)V"⟩
theorem fd_C_Tally_21_44 : kFd "PoetFines$Tally" 21 kcl yC 44 3 (.inr 48) := ⟨7, _, _, _, _, rfl, rfl, rfl, by decide, kin7, wd_352⟩
theorem fd_C_Tally_24_44 : kFd "PoetFines$Tally" 24 kcl yC 44 4 (.inl false) := ⟨7, _, _, _, _, rfl, rfl, rfl, by decide, kin7, wd_354⟩
theorem fp_C_Tally_24_44 : kFp "PoetFines$Tally" 24 kcl yC 44 4 (.inl false) .int := ⟨7, _, _, _, _, kty7, rfl, rfl, rfl, by decide, kin7, wd_354, kty7_ok, knm7, rfl, by decide +kernel⟩
theorem fd_C_Tally_28_44 : kFd "PoetFines$Tally" 28 kcl yC 44 5 (.inl false) := ⟨7, _, _, _, _, rfl, rfl, rfl, by decide, kin7, wd_356⟩
theorem fp_C_Tally_28_44 : kFp "PoetFines$Tally" 28 kcl yC 44 5 (.inl false) .int := ⟨7, _, _, _, _, kty7, rfl, rfl, rfl, by decide, kin7, wd_356, kty7_ok, knm7, rfl, by decide +kernel⟩
theorem fd_C_Tally_31_44 : kFd "PoetFines$Tally" 31 kcl yC 44 6 (.inl false) := ⟨7, _, _, _, _, rfl, rfl, rfl, by decide, kin7, wd_358⟩
theorem fp_C_Tally_31_44 : kFp "PoetFines$Tally" 31 kcl yC 44 6 (.inl false) .int := ⟨7, _, _, _, _, kty7, rfl, rfl, rfl, by decide, kin7, wd_358, kty7_ok, knm7, rfl, by decide +kernel⟩
theorem fd_C_Tally_37_44 : kFd "PoetFines$Tally" 37 kcl yC 44 8 (.inl false) := ⟨7, _, _, _, _, rfl, rfl, rfl, by decide, kin7, wd_363⟩
theorem cm_Tally_43 : Cond.methodLink "PoetFines$Tally" 43 Lib.Math.max.name ∈ kG ∧ Cond.static Lib.Math.max.name ∈ kG ∧ Cond.initialized "java/lang/Math" ∈ kG ∧ Cond.code Lib.Math.max.name Lib.Math.max.code 2 (some .int) ∈ kG := ⟨wd_637, wd_621, wd_128, kG_of kch3 31 rfl rfl⟩
theorem fp_C_Tally_37_44 : kFp "PoetFines$Tally" 37 kcl yC 44 8 (.inl false) .int := ⟨7, _, _, _, _, kty7, rfl, rfl, rfl, by decide, kin7, wd_363, kty7_ok, knm7, rfl, by decide +kernel⟩
theorem cv_Stage_133 : kCv "PoetFines$Stage" 133 ky_Tally_addHit prog_9_method_3_code 4 none 3 "PoetFines$Tally" := ⟨⟨wd_633, wd_120, wd_636, ⟨by decide, by decide⟩, by decide +kernel⟩, wd_634, wd_635⟩
theorem cv_Stage_121 : kCv "PoetFines$Stage" 121 ky_Stage_leaveScars prog_8_method_10_code 5 none 3 "PoetFines$Stage" := ⟨⟨wd_629, wd_119, wd_632, ⟨by decide, by decide⟩, by decide +kernel⟩, wd_631, wd_7⟩
theorem cv_Stage_114 : kCv "PoetFines$Stage" 114 ky_Stage_payFine prog_8_method_9_code 6 (some .int) 3 "PoetFines$Stage" := ⟨⟨wd_624, wd_119, wd_627, ⟨by decide, by decide⟩, by decide +kernel⟩, wd_626, wd_6⟩
theorem cv_Stage_111 : kCv "PoetFines$Stage" 111 ky_Stage_fineFor prog_8_method_3_code 5 (some .int) 4 "PoetFines$Stage" := ⟨⟨wd_612, wd_119, wd_615, ⟨by decide, by decide⟩, by decide +kernel⟩, wd_613, wd_614⟩
theorem cv_Stage_107 : kCv "PoetFines$Stage" 107 ky_Stage_inchesInto prog_8_method_2_code 6 (some .int) 4 "PoetFines$Stage" := ⟨⟨wd_598, wd_119, wd_601, ⟨by decide, by decide⟩, by decide +kernel⟩, wd_599, wd_600⟩
theorem fd_C_Stage_124_44 : kFd "PoetFines$Stage" 124 kcl yC 44 2 (.inr 47) := ⟨7, _, _, _, _, rfl, rfl, rfl, by decide, kin7, wd_350⟩
def dl_Stage_turnPage : List (Nat × Instr × Nat) := [(0, .aload_n 0, 1), (1, .getfield 28, 3), (4, .getfield 51, 3), (7, .bipush 53, 2), (9, .iload_n 1, 1), (10, .iadd, 1), (11, .aload_n 0, 1), (12, .getfield 24, 3), (15, .iload_n 1, 1), (16, .aload_n 0, 1), (17, .getfield 28, 3), (20, .getfield 51, 3), (23, .bipush 53, 2), (25, .iload_n 1, 1), (26, .iadd, 1), (27, .iaload, 1), (28, .invokevirtual 88, 3), (31, .iastore, 1), (32, .return_, 1)]
theorem dc_Stage_turnPage : kdecs prog_8_method_5_code dl_Stage_turnPage = true := by decide +kernel
abbrev ky_Stage_turnPage : MethodName := ⟨"PoetFines$Stage", "turnPage", "(I)V"⟩
def dl_Law_behind : List (Nat × Instr × Nat) := [(0, .iload_n 2, 1), (1, .iconst 1, 1), (2, .iadd, 1), (3, .aload_n 0, 1), (4, .getfield 21, 3), (7, .iload_n 1, 1), (8, .iaload, 1), (9, .if_icmp .ge 9, 3), (12, .iload_n 2, 1), (13, .iconst 1, 1), (14, .iadd, 1), (15, .goto 4, 3), (18, .iconst 0, 1), (19, .ireturn, 1)]
theorem dc_Law_behind : kdecs prog_4_method_8_code dl_Law_behind = true := by decide +kernel
abbrev ky_Law_behind : MethodName := ⟨"PoetFines$Law", "behind", "(II)I"⟩
theorem cv_Stage_88 : kCv "PoetFines$Stage" 88 ky_Law_behind prog_4_method_8_code 3 (some .int) 2 "PoetFines$Law" := ⟨⟨wd_642, wd_113, wd_645, ⟨by decide, by decide⟩, by decide +kernel⟩, wd_643, wd_644⟩
theorem cv_Stage_127 : kCv "PoetFines$Stage" 127 ky_Stage_turnPage prog_8_method_5_code 2 none 1 "PoetFines$Stage" := ⟨⟨wd_638, wd_119, wd_641, ⟨by decide, by decide⟩, by decide +kernel⟩, wd_639, wd_640⟩
theorem cv_Stage_104 : kCv "PoetFines$Stage" 104 ky_World_depthOf prog_12_method_4_code 3 (some .int) 2 "PoetFines$World" := ⟨⟨wd_594, wd_116, wd_597, ⟨by decide, by decide⟩, by decide +kernel⟩, wd_595, wd_596⟩
theorem cv_Stage_101 : kCv "PoetFines$Stage" 101 ky_Law_topicOf prog_4_method_7_code 3 (some .int) 2 "PoetFines$Law" := ⟨⟨wd_590, wd_113, wd_593, ⟨by decide, by decide⟩, by decide +kernel⟩, wd_591, wd_592⟩
theorem cv_Stage_81 : kCv "PoetFines$Stage" 81 ky_Stage_readNext prog_8_method_8_code 10 none 2 "PoetFines$Stage" := ⟨⟨wd_586, wd_119, wd_589, ⟨by decide, by decide⟩, by decide +kernel⟩, wd_588, wd_5⟩
theorem cv_Stage_77 : kCv "PoetFines$Stage" 77 ky_Stage_sellVolumes prog_8_method_6_code 4 none 1 "PoetFines$Stage" := ⟨⟨wd_559, wd_119, wd_562, ⟨by decide, by decide⟩, by decide +kernel⟩, wd_561, wd_2⟩
def dl_Tally_closeYear : List (Nat × Instr × Nat) := [(0, .aload_n 0, 1), (1, .dup, 1), (2, .getfield 34, 3), (5, .aload_n 0, 1), (6, .getfield 31, 3), (9, .ior, 1), (10, .putfield 34, 3), (13, .aload_n 0, 1), (14, .dup, 1), (15, .getfield 40, 3), (18, .aload_n 0, 1), (19, .getfield 31, 3), (22, .ifCond .ne 7, 3), (25, .iconst 1, 1), (26, .goto 4, 3), (29, .iconst 0, 1), (30, .iadd, 1), (31, .putfield 40, 3), (34, .return_, 1)]
theorem dc_Tally_closeYear : kdecs prog_9_method_4_code dl_Tally_closeYear = true := by decide +kernel
abbrev ky_Tally_closeYear : MethodName := ⟨"PoetFines$Tally", "closeYear", "()V"⟩
theorem fd_C_Tally_34_44 : kFd "PoetFines$Tally" 34 kcl yC 44 7 (.inl false) := ⟨7, _, _, _, _, rfl, rfl, rfl, by decide, kin7, wd_361⟩
theorem fp_C_Tally_34_44 : kFp "PoetFines$Tally" 34 kcl yC 44 7 (.inl false) .int := ⟨7, _, _, _, _, kty7, rfl, rfl, rfl, by decide, kin7, wd_361, kty7_ok, knm7, rfl, by decide +kernel⟩
theorem fd_C_Tally_40_44 : kFd "PoetFines$Tally" 40 kcl yC 44 9 (.inl false) := ⟨7, _, _, _, _, rfl, rfl, rfl, by decide, kin7, wd_365⟩
theorem fp_C_Tally_40_44 : kFp "PoetFines$Tally" 40 kcl yC 44 9 (.inl false) .int := ⟨7, _, _, _, _, kty7, rfl, rfl, rfl, by decide, kin7, wd_365, kty7_ok, knm7, rfl, by decide +kernel⟩
theorem cv_Stage_85 : kCv "PoetFines$Stage" 85 ky_Tally_closeYear prog_9_method_4_code 1 none 0 "PoetFines$Tally" := ⟨⟨wd_646, wd_120, wd_649, ⟨by decide, by decide⟩, by decide +kernel⟩, wd_647, wd_648⟩
theorem cv_P_196 : kCv "PoetFines" 196 ky_Stage_passYear prog_8_method_4_code 3 none 1 "PoetFines$Stage" := ⟨⟨wd_555, wd_119, wd_558, ⟨by decide, by decide⟩, by decide +kernel⟩, wd_556, wd_557⟩
theorem cv_P_193 : kCv "PoetFines" 193 ky_Chronicle_remember prog_2_method_4_code 2 none 0 "PoetFines$Chronicle" := ⟨⟨wd_548, wd_118, wd_551, ⟨by decide, by decide⟩, by decide +kernel⟩, wd_549, wd_550⟩
def dl_P_burn : List (Nat × Instr × Nat) := [(0, .aload_n 0, 1), (1, .iload_n 1, 1), (2, .invokevirtual 162, 3), (5, .aload_n 0, 1), (6, .getfield 27, 3), (9, .getfield 165, 3), (12, .iload_n 1, 1), (13, .iaload, 1), (14, .iconst 2, 1), (15, .if_icmp .ge 8, 3), (18, .aload_n 0, 1), (19, .invokevirtual 189, 3), (22, .ireturn, 1), (23, .aload_n 0, 1), (24, .getfield 43, 3), (27, .invokevirtual 193, 3), (30, .aload_n 0, 1), (31, .getfield 43, 3), (34, .getfield 56, 3), (37, .getfield 122, 3), (40, .bipush 53, 2), (42, .iload_n 1, 1), (43, .iadd, 1), (44, .iaload, 1), (45, .istore_n 2, 1), (46, .aload_n 0, 1), (47, .getfield 63, 3), (50, .iload_n 1, 1), (51, .invokevirtual 200, 3), (54, .iload_n 2, 1), (55, .ireturn, 1)]
theorem dc_P_burn : kdecs prog_1_method_10_code dl_P_burn = true := by decide +kernel
abbrev ky_P_burn : MethodName := ⟨"PoetFines", "burn", "(I)I"⟩
theorem cv_P_200 : kCv "PoetFines" 200 ky_Stage_turnPage prog_8_method_5_code 2 none 1 "PoetFines$Stage" := ⟨⟨wd_1183, wd_119, wd_641, ⟨by decide, by decide⟩, by decide +kernel⟩, wd_639, wd_640⟩
def dl_P_rewrite : List (Nat × Instr × Nat) := [(0, .aload_n 0, 1), (1, .iload_n 1, 1), (2, .iload_n 2, 1), (3, .invokevirtual 171, 3), (6, .aload_n 0, 1), (7, .getfield 43, 3), (10, .getfield 56, 3), (13, .iload_n 1, 1), (14, .iload_n 2, 1), (15, .invokevirtual 177, 3), (18, .istore 4, 2), (20, .iload_n 3, 1), (21, .ifCond .lt 15, 3), (24, .iload_n 3, 1), (25, .bipush 9, 2), (27, .if_icmp .gt 9, 3), (30, .iload_n 3, 1), (31, .iload 4, 2), (33, .if_icmp .ne 8, 3), (36, .aload_n 0, 1), (37, .invokevirtual 189, 3), (40, .ireturn, 1), (41, .aload_n 0, 1), (42, .getfield 43, 3), (45, .invokevirtual 193, 3), (48, .aload_n 0, 1), (49, .getfield 43, 3), (52, .getfield 56, 3), (55, .iload_n 1, 1), (56, .iload_n 2, 1), (57, .iload_n 3, 1), (58, .invokevirtual 203, 3), (61, .iload 4, 2), (63, .ireturn, 1)]
theorem dc_P_rewrite : kdecs prog_1_method_11_code dl_P_rewrite = true := by decide +kernel
abbrev ky_P_rewrite : MethodName := ⟨"PoetFines", "rewrite", "(III)I"⟩
theorem cv_P_203 : kCv "PoetFines" 203 ky_World_setDepth prog_12_method_5_code 4 none 3 "PoetFines$World" := ⟨⟨wd_1191, wd_116, wd_990, ⟨by decide, by decide⟩, by decide +kernel⟩, wd_988, wd_989⟩
def dl_P_pardon : List (Nat × Instr × Nat) := [(0, .aload_n 0, 1), (1, .iload_n 1, 1), (2, .invokevirtual 162, 3), (5, .aload_n 0, 1), (6, .getfield 43, 3), (9, .getfield 56, 3), (12, .getfield 122, 3), (15, .bipush 57, 2), (17, .iload_n 1, 1), (18, .iadd, 1), (19, .iaload, 1), (20, .istore_n 2, 1), (21, .iload_n 2, 1), (22, .ifCond .ne 8, 3), (25, .aload_n 0, 1), (26, .invokevirtual 189, 3), (29, .ireturn, 1), (30, .aload_n 0, 1), (31, .getfield 43, 3), (34, .invokevirtual 193, 3), (37, .aload_n 0, 1), (38, .getfield 43, 3), (41, .getfield 56, 3), (44, .getfield 122, 3), (47, .bipush 57, 2), (49, .iload_n 1, 1), (50, .iadd, 1), (51, .iconst 0, 1), (52, .iastore, 1), (53, .iload_n 2, 1), (54, .ireturn, 1)]
theorem dc_P_pardon : kdecs prog_1_method_12_code dl_P_pardon = true := by decide +kernel
abbrev ky_P_pardon : MethodName := ⟨"PoetFines", "pardon", "(I)I"⟩
def dl_P_fill : List (Nat × Instr × Nat) := [(0, .aload_n 0, 1), (1, .iload_n 1, 1), (2, .invokevirtual 148, 3), (5, .aload_n 0, 1), (6, .getfield 43, 3), (9, .getfield 56, 3), (12, .getfield 122, 3), (15, .iconst 1, 1), (16, .iload_n 1, 1), (17, .iadd, 1), (18, .iaload, 1), (19, .istore_n 3, 1), (20, .iload_n 2, 1), (21, .ifCond .lt 14, 3), (24, .iload_n 2, 1), (25, .bipush 99, 2), (27, .if_icmp .gt 8, 3), (30, .iload_n 2, 1), (31, .iload_n 3, 1), (32, .if_icmp .ne 8, 3), (35, .aload_n 0, 1), (36, .invokevirtual 189, 3), (39, .ireturn, 1), (40, .aload_n 0, 1), (41, .getfield 43, 3), (44, .invokevirtual 193, 3), (47, .aload_n 0, 1), (48, .getfield 43, 3), (51, .getfield 56, 3), (54, .getfield 122, 3), (57, .iconst 1, 1), (58, .iload_n 1, 1), (59, .iadd, 1), (60, .iload_n 2, 1), (61, .iastore, 1), (62, .iload_n 3, 1), (63, .ireturn, 1)]
theorem dc_P_fill : kdecs prog_1_method_13_code dl_P_fill = true := by decide +kernel
abbrev ky_P_fill : MethodName := ⟨"PoetFines", "fill", "(II)I"⟩
def dl_P_heal : List (Nat × Instr × Nat) := [(0, .aload_n 0, 1), (1, .iload_n 1, 1), (2, .invokevirtual 148, 3), (5, .aload_n 0, 1), (6, .getfield 43, 3), (9, .getfield 56, 3), (12, .getfield 122, 3), (15, .bipush 9, 2), (17, .iload_n 1, 1), (18, .iadd, 1), (19, .iaload, 1), (20, .istore_n 2, 1), (21, .iload_n 2, 1), (22, .ifCond .ne 8, 3), (25, .aload_n 0, 1), (26, .invokevirtual 189, 3), (29, .ireturn, 1), (30, .aload_n 0, 1), (31, .getfield 43, 3), (34, .invokevirtual 193, 3), (37, .aload_n 0, 1), (38, .getfield 43, 3), (41, .getfield 56, 3), (44, .getfield 122, 3), (47, .bipush 9, 2), (49, .iload_n 1, 1), (50, .iadd, 1), (51, .iconst 0, 1), (52, .iastore, 1), (53, .iload_n 2, 1), (54, .ireturn, 1)]
theorem dc_P_heal : kdecs prog_1_method_14_code dl_P_heal = true := by decide +kernel
abbrev ky_P_heal : MethodName := ⟨"PoetFines", "heal", "(I)I"⟩
def dl_P_undo : List (Nat × Instr × Nat) := [(0, .aload_n 0, 1), (1, .getfield 43, 3), (4, .getfield 137, 3), (7, .ifCond .ne 5, 3), (10, .iconst (-1), 1), (11, .ireturn, 1), (12, .aload_n 0, 1), (13, .getfield 43, 3), (16, .invokevirtual 207, 3), (19, .aload_n 0, 1), (20, .getfield 43, 3), (23, .getfield 137, 3), (26, .ireturn, 1)]
theorem dc_P_undo : kdecs prog_1_method_15_code dl_P_undo = true := by decide +kernel
abbrev ky_P_undo : MethodName := ⟨"PoetFines", "undo", "()I"⟩
def dl_Chronicle_recall : List (Nat × Instr × Nat) := [(0, .aload_n 0, 1), (1, .getfield 18, 3), (4, .ifCond .le 47, 3), (7, .aload_n 0, 1), (8, .dup, 1), (9, .getfield 18, 3), (12, .iconst 1, 1), (13, .isub, 1), (14, .putfield 18, 3), (17, .aload_n 0, 1), (18, .getfield 26, 3), (21, .aload_n 0, 1), (22, .getfield 18, 3), (25, .iadd, 1), (26, .bipush 40, 2), (28, .irem, 1), (29, .istore_n 1, 1), (30, .aload_n 0, 1), (31, .getfield 22, 3), (34, .iload_n 1, 1), (35, .bipush 85, 2), (37, .imul, 1), (38, .aload_n 0, 1), (39, .getfield 12, 3), (42, .getfield 51, 3), (45, .iconst 0, 1), (46, .bipush 85, 2), (48, .invokestatic 45, 3), (51, .return_, 1)]
theorem dc_Chronicle_recall : kdecs prog_2_method_5_code dl_Chronicle_recall = true := by decide +kernel
abbrev ky_Chronicle_recall : MethodName := ⟨"PoetFines$Chronicle", "recall", "()V"⟩
theorem cv_P_207 : kCv "PoetFines" 207 ky_Chronicle_recall prog_2_method_5_code 2 none 0 "PoetFines$Chronicle" := ⟨⟨wd_654, wd_118, wd_657, ⟨by decide, by decide⟩, by decide +kernel⟩, wd_655, wd_656⟩
def dl_P_then : List (Nat × Instr × Nat) := [(0, .aload_n 0, 1), (1, .iload_n 1, 1), (2, .invokevirtual 148, 3), (5, .aload_n 0, 1), (6, .iload_n 3, 1), (7, .iconst 2, 1), (8, .invokevirtual 154, 3), (11, .aload_n 0, 1), (12, .iload_n 2, 1), (13, .iconst 0, 1), (14, .bipush 60, 2), (16, .invokevirtual 210, 3), (19, .aload_n 0, 1), (20, .getfield 81, 3), (23, .iload_n 2, 1), (24, .invokevirtual 213, 3), (27, .aload_n 0, 1), (28, .getfield 81, 3), (31, .getfield 216, 3), (34, .iload_n 1, 1), (35, .iload_n 3, 1), (36, .aload_n 0, 1), (37, .getfield 27, 3), (40, .getfield 119, 3), (43, .invokevirtual 158, 3), (46, .ireturn, 1)]
theorem dc_P_then : kdecs prog_1_method_16_code dl_P_then = true := by decide +kernel
abbrev ky_P_then : MethodName := ⟨"PoetFines", "then", "(III)I"⟩
def dl_P_needWithin : List (Nat × Instr × Nat) := [(0, .iload_n 1, 1), (1, .iload_n 2, 1), (2, .if_icmp .lt 8, 3), (5, .iload_n 1, 1), (6, .iload_n 3, 1), (7, .if_icmp .le 14, 3), (10, .new 89, 3), (13, .dup, 1), (14, .ldc_w 348, 3), (17, .invokespecial 93, 3), (20, .athrow, 1), (21, .return_, 1)]
theorem dc_P_needWithin : kdecs prog_1_method_46_code dl_P_needWithin = true := by decide +kernel
abbrev ky_P_needWithin : MethodName := ⟨"PoetFines", "needWithin", "(III)V"⟩
theorem th_P_348_93 : kTh "PoetFines" 89 348 93 "java/lang/IllegalArgumentException" "a number beyond its bounds" 7 prog_21_method_2_code "java/lang/RuntimeException" ["java/lang/Exception"] := ⟨⟨by decide +kernel, by decide +kernel, by decide +kernel, by decide +kernel, by decide +kernel, by decide +kernel⟩, by decide +kernel, wd_687, wd_127, by decide +kernel, tha_P_93, by decide +kernel⟩
theorem fd_C_P_81_0 : kFd "PoetFines" 81 kcl yC 0 11 (.inr 57) := ⟨10, _, _, _, _, rfl, rfl, rfl, by decide, kin10, wd_502⟩
def dl_Oracle_foresee : List (Nat × Instr × Nat) := [(0, .aload_n 0, 1), (1, .invokevirtual 64, 3), (4, .aload_n 0, 1), (5, .iload_n 1, 1), (6, .invokevirtual 67, 3), (9, .return_, 1)]
theorem dc_Oracle_foresee : kdecs prog_5_method_2_code dl_Oracle_foresee = true := by decide +kernel
abbrev ky_Oracle_foresee : MethodName := ⟨"PoetFines$Oracle", "foresee", "(I)V"⟩
def dl_Oracle_begin : List (Nat × Instr × Nat) := [(0, .aload_n 0, 1), (1, .getfield 12, 3), (4, .aload_n 0, 1), (5, .getfield 46, 3), (8, .getfield 98, 3), (11, .invokevirtual 175, 3), (14, .aload_n 0, 1), (15, .getfield 63, 3), (18, .invokevirtual 179, 3), (21, .return_, 1)]
theorem dc_Oracle_begin : kdecs prog_5_method_22_code dl_Oracle_begin = true := by decide +kernel
abbrev ky_Oracle_begin : MethodName := ⟨"PoetFines$Oracle", "begin", "()V"⟩
theorem fd_C_Oracle_12_57 : kFd "PoetFines$Oracle" 12 kcl yC 57 0 (.inr 58) := ⟨3, _, _, _, _, rfl, rfl, rfl, by decide, kin3, wd_449⟩
theorem fd_C_Oracle_46_57 : kFd "PoetFines$Oracle" 46 kcl yC 57 5 (.inr 29) := ⟨3, _, _, _, _, rfl, rfl, rfl, by decide, kin3, wd_458⟩
theorem fd_C_Oracle_98_29 : kFd "PoetFines$Oracle" 98 kcl yC 29 0 (.inr 30) := ⟨0, _, _, _, _, rfl, rfl, rfl, by decide, kin0, wd_303⟩
theorem fd_C_World_11_58 : kFd "PoetFines$World" 11 kcl yC 58 0 (.inr 59) := ⟨9, _, _, _, _, rfl, rfl, rfl, by decide, kin9, wd_233⟩
theorem fd_C_Oracle_63_57 : kFd "PoetFines$Oracle" 63 kcl yC 57 1 (.inr 65) := ⟨3, _, _, _, _, rfl, rfl, rfl, by decide, kin3, wd_451⟩
def dl_Tally_clear : List (Nat × Instr × Nat) := [(0, .iconst 0, 1), (1, .istore_n 1, 1), (2, .iload_n 1, 1), (3, .iconst 4, 1), (4, .if_icmp .ge 30, 3), (7, .aload_n 0, 1), (8, .getfield 9, 3), (11, .iload_n 1, 1), (12, .iconst 0, 1), (13, .iastore, 1), (14, .aload_n 0, 1), (15, .getfield 15, 3), (18, .iload_n 1, 1), (19, .iconst 0, 1), (20, .iastore, 1), (21, .aload_n 0, 1), (22, .getfield 18, 3), (25, .iload_n 1, 1), (26, .iconst 0, 1), (27, .iastore, 1), (28, .iinc 1 1, 3), (31, .goto (-29), 3), (34, .iconst 0, 1), (35, .istore_n 1, 1), (36, .iload_n 1, 1), (37, .aload_n 0, 1), (38, .getfield 21, 3), (41, .arraylength, 1), (42, .if_icmp .ge 16, 3), (45, .aload_n 0, 1), (46, .getfield 21, 3), (49, .iload_n 1, 1), (50, .iconst 0, 1), (51, .iastore, 1), (52, .iinc 1 1, 3), (55, .goto (-19), 3), (58, .aload_n 0, 1), (59, .iconst 0, 1), (60, .putfield 24, 3), (63, .aload_n 0, 1), (64, .iconst 0, 1), (65, .putfield 28, 3), (68, .aload_n 0, 1), (69, .iconst 0, 1), (70, .putfield 31, 3), (73, .aload_n 0, 1), (74, .iconst 0, 1), (75, .putfield 34, 3), (78, .aload_n 0, 1), (79, .iconst 0, 1), (80, .putfield 37, 3), (83, .aload_n 0, 1), (84, .iconst 0, 1), (85, .putfield 40, 3), (88, .return_, 1)]
theorem dc_Tally_clear : kdecs prog_9_method_2_code dl_Tally_clear = true := by decide +kernel
abbrev ky_Tally_clear : MethodName := ⟨"PoetFines$Tally", "clear", "()V"⟩
theorem fd_C_Tally_9_65 : kFd "PoetFines$Tally" 9 kcl yC 65 0 (.inr 66) := ⟨7, _, _, _, _, rfl, rfl, rfl, by decide, kin7, wd_342⟩
theorem fd_C_Tally_15_65 : kFd "PoetFines$Tally" 15 kcl yC 65 1 (.inr 67) := ⟨7, _, _, _, _, rfl, rfl, rfl, by decide, kin7, wd_346⟩
theorem fd_C_Tally_18_65 : kFd "PoetFines$Tally" 18 kcl yC 65 2 (.inr 68) := ⟨7, _, _, _, _, rfl, rfl, rfl, by decide, kin7, wd_349⟩
theorem fd_C_Tally_21_65 : kFd "PoetFines$Tally" 21 kcl yC 65 3 (.inr 69) := ⟨7, _, _, _, _, rfl, rfl, rfl, by decide, kin7, wd_352⟩
theorem fp_C_Tally_24_65 : kFp "PoetFines$Tally" 24 kcl yC 65 4 (.inl false) .int := ⟨7, _, _, _, _, kty7, rfl, rfl, rfl, by decide, kin7, wd_354, kty7_ok, knm7, rfl, by decide +kernel⟩
theorem fp_C_Tally_28_65 : kFp "PoetFines$Tally" 28 kcl yC 65 5 (.inl false) .int := ⟨7, _, _, _, _, kty7, rfl, rfl, rfl, by decide, kin7, wd_356, kty7_ok, knm7, rfl, by decide +kernel⟩
theorem fp_C_Tally_31_65 : kFp "PoetFines$Tally" 31 kcl yC 65 6 (.inl false) .int := ⟨7, _, _, _, _, kty7, rfl, rfl, rfl, by decide, kin7, wd_358, kty7_ok, knm7, rfl, by decide +kernel⟩
theorem fp_C_Tally_34_65 : kFp "PoetFines$Tally" 34 kcl yC 65 7 (.inl false) .int := ⟨7, _, _, _, _, kty7, rfl, rfl, rfl, by decide, kin7, wd_361, kty7_ok, knm7, rfl, by decide +kernel⟩
theorem fp_C_Tally_37_65 : kFp "PoetFines$Tally" 37 kcl yC 65 8 (.inl false) .int := ⟨7, _, _, _, _, kty7, rfl, rfl, rfl, by decide, kin7, wd_363, kty7_ok, knm7, rfl, by decide +kernel⟩
theorem fp_C_Tally_40_65 : kFp "PoetFines$Tally" 40 kcl yC 65 9 (.inl false) .int := ⟨7, _, _, _, _, kty7, rfl, rfl, rfl, by decide, kin7, wd_365, kty7_ok, knm7, rfl, by decide +kernel⟩
theorem cv_Oracle_179 : kCv "PoetFines$Oracle" 179 ky_Tally_clear prog_9_method_2_code 2 none 0 "PoetFines$Tally" := ⟨⟨wd_1234, wd_120, wd_1237, ⟨by decide, by decide⟩, by decide +kernel⟩, wd_1235, wd_1236⟩
theorem cv_Oracle_175 : kCv "PoetFines$Oracle" 175 ky_World_copyFrom prog_12_method_3_code 2 none 1 "PoetFines$World" := ⟨⟨wd_1233, wd_116, wd_673, ⟨by decide, by decide⟩, by decide +kernel⟩, wd_671, wd_672⟩
def dl_Oracle_letGoBy : List (Nat × Instr × Nat) := [(0, .iconst 0, 1), (1, .istore_n 2, 1), (2, .iload_n 2, 1), (3, .iload_n 1, 1), (4, .if_icmp .ge 17, 3), (7, .aload_n 0, 1), (8, .getfield 55, 3), (11, .iconst 0, 1), (12, .invokevirtual 75, 3), (15, .iinc 2 1, 3), (18, .goto (-16), 3), (21, .return_, 1)]
theorem dc_Oracle_letGoBy : kdecs prog_5_method_23_code dl_Oracle_letGoBy = true := by decide +kernel
abbrev ky_Oracle_letGoBy : MethodName := ⟨"PoetFines$Oracle", "letGoBy", "(I)V"⟩
theorem fd_C_Oracle_55_57 : kFd "PoetFines$Oracle" 55 kcl yC 57 6 (.inr 64) := ⟨3, _, _, _, _, rfl, rfl, rfl, by decide, kin3, wd_459⟩
theorem fd_C_Stage_12_64 : kFd "PoetFines$Stage" 12 kcl yC 64 1 (.inr 65) := ⟨6, _, _, _, _, rfl, rfl, rfl, by decide, kin6, wd_390⟩
theorem fp_C_Stage_70_65 : kFp "PoetFines$Stage" 70 kcl yC 65 6 (.inl false) .int := ⟨7, _, _, _, _, kty7, rfl, rfl, rfl, by decide, kin7, wd_359, kty7_ok, knm7, rfl, by decide +kernel⟩
theorem fd_C_Stage_24_64 : kFd "PoetFines$Stage" 24 kcl yC 64 2 (.inr 3) := ⟨6, _, _, _, _, rfl, rfl, rfl, by decide, kin6, wd_392⟩
theorem fd_C_Stage_28_64 : kFd "PoetFines$Stage" 28 kcl yC 64 0 (.inr 58) := ⟨6, _, _, _, _, rfl, rfl, rfl, by decide, kin6, wd_388⟩
theorem fd_C_Stage_51_58 : kFd "PoetFines$Stage" 51 kcl yC 58 0 (.inr 59) := ⟨9, _, _, _, _, rfl, rfl, rfl, by decide, kin9, wd_235⟩
theorem fd_C_Stage_20_64 : kFd "PoetFines$Stage" 20 kcl yC 64 3 (.inr 70) := ⟨6, _, _, _, _, rfl, rfl, rfl, by decide, kin6, wd_393⟩
theorem fd_C_Stage_98_65 : kFd "PoetFines$Stage" 98 kcl yC 65 1 (.inr 67) := ⟨7, _, _, _, _, rfl, rfl, rfl, by decide, kin7, wd_347⟩
theorem fd_C_Stage_130_65 : kFd "PoetFines$Stage" 130 kcl yC 65 0 (.inr 66) := ⟨7, _, _, _, _, rfl, rfl, rfl, by decide, kin7, wd_344⟩
theorem fd_C_Tally_24_65 : kFd "PoetFines$Tally" 24 kcl yC 65 4 (.inl false) := ⟨7, _, _, _, _, rfl, rfl, rfl, by decide, kin7, wd_354⟩
theorem fd_C_Tally_28_65 : kFd "PoetFines$Tally" 28 kcl yC 65 5 (.inl false) := ⟨7, _, _, _, _, rfl, rfl, rfl, by decide, kin7, wd_356⟩
theorem fd_C_Tally_31_65 : kFd "PoetFines$Tally" 31 kcl yC 65 6 (.inl false) := ⟨7, _, _, _, _, rfl, rfl, rfl, by decide, kin7, wd_358⟩
theorem fd_C_Tally_37_65 : kFd "PoetFines$Tally" 37 kcl yC 65 8 (.inl false) := ⟨7, _, _, _, _, rfl, rfl, rfl, by decide, kin7, wd_363⟩
theorem fd_C_Stage_124_65 : kFd "PoetFines$Stage" 124 kcl yC 65 2 (.inr 68) := ⟨7, _, _, _, _, rfl, rfl, rfl, by decide, kin7, wd_350⟩
theorem fd_C_Tally_34_65 : kFd "PoetFines$Tally" 34 kcl yC 65 7 (.inl false) := ⟨7, _, _, _, _, rfl, rfl, rfl, by decide, kin7, wd_361⟩
theorem fd_C_Tally_40_65 : kFd "PoetFines$Tally" 40 kcl yC 65 9 (.inl false) := ⟨7, _, _, _, _, rfl, rfl, rfl, by decide, kin7, wd_365⟩
theorem cv_Oracle_75 : kCv "PoetFines$Oracle" 75 ky_Stage_passYear prog_8_method_4_code 3 none 1 "PoetFines$Stage" := ⟨⟨wd_1242, wd_119, wd_558, ⟨by decide, by decide⟩, by decide +kernel⟩, wd_556, wd_557⟩
theorem cv_Oracle_67 : kCv "PoetFines$Oracle" 67 ky_Oracle_letGoBy prog_5_method_23_code 3 none 1 "PoetFines$Oracle" := ⟨⟨wd_1238, wd_122, wd_1241, ⟨by decide, by decide⟩, by decide +kernel⟩, wd_1240, wd_36⟩
theorem cv_Oracle_64 : kCv "PoetFines$Oracle" 64 ky_Oracle_begin prog_5_method_22_code 1 none 0 "PoetFines$Oracle" := ⟨⟨wd_1229, wd_122, wd_1232, ⟨by decide, by decide⟩, by decide +kernel⟩, wd_1231, wd_35⟩
theorem fd_C_P_216_57 : kFd "PoetFines" 216 kcl yC 57 0 (.inr 58) := ⟨3, _, _, _, _, rfl, rfl, rfl, by decide, kin3, wd_450⟩
theorem cv_P_213 : kCv "PoetFines" 213 ky_Oracle_foresee prog_5_method_2_code 2 none 1 "PoetFines$Oracle" := ⟨⟨wd_1225, wd_122, wd_1228, ⟨by decide, by decide⟩, by decide +kernel⟩, wd_1226, wd_1227⟩
theorem cv_P_210 : kCv "PoetFines" 210 ky_P_needWithin prog_1_method_46_code 4 none 3 "PoetFines" := ⟨⟨wd_1220, wd_112, wd_1223, ⟨by decide, by decide⟩, by decide +kernel⟩, wd_1222, wd_34⟩
def dl_P_poetThen : List (Nat × Instr × Nat) := [(0, .aload_n 0, 1), (1, .iload_n 1, 1), (2, .invokevirtual 162, 3), (5, .aload_n 0, 1), (6, .iload_n 3, 1), (7, .iconst 5, 1), (8, .invokevirtual 154, 3), (11, .aload_n 0, 1), (12, .iload_n 2, 1), (13, .iconst 0, 1), (14, .bipush 60, 2), (16, .invokevirtual 210, 3), (19, .aload_n 0, 1), (20, .getfield 81, 3), (23, .iload_n 2, 1), (24, .invokevirtual 213, 3), (27, .iload_n 3, 1), (28, .tableswitch 110 0 4 #[36, 52, 68, 84, 97], 36), (64, .aload_n 0, 1), (65, .getfield 81, 3), (68, .getfield 216, 3), (71, .getfield 122, 3), (74, .bipush 49, 2), (76, .iload_n 1, 1), (77, .iadd, 1), (78, .iaload, 1), (79, .ireturn, 1), (80, .aload_n 0, 1), (81, .getfield 81, 3), (84, .getfield 216, 3), (87, .getfield 122, 3), (90, .bipush 53, 2), (92, .iload_n 1, 1), (93, .iadd, 1), (94, .iaload, 1), (95, .ireturn, 1), (96, .aload_n 0, 1), (97, .getfield 81, 3), (100, .getfield 216, 3), (103, .getfield 122, 3), (106, .bipush 57, 2), (108, .iload_n 1, 1), (109, .iadd, 1), (110, .iaload, 1), (111, .ireturn, 1), (112, .aload_n 0, 1), (113, .getfield 81, 3), (116, .getfield 219, 3), (119, .getfield 223, 3), (122, .iload_n 1, 1), (123, .iaload, 1), (124, .ireturn, 1), (125, .aload_n 0, 1), (126, .getfield 81, 3), (129, .getfield 219, 3), (132, .getfield 228, 3), (135, .iload_n 1, 1), (136, .iaload, 1), (137, .ireturn, 1), (138, .aload_n 0, 1), (139, .getfield 81, 3), (142, .getfield 219, 3), (145, .getfield 231, 3), (148, .iload_n 1, 1), (149, .iaload, 1), (150, .ireturn, 1)]
theorem dc_P_poetThen : kdecs prog_1_method_17_code dl_P_poetThen = true := by decide +kernel
abbrev ky_P_poetThen : MethodName := ⟨"PoetFines", "poetThen", "(III)I"⟩
theorem fd_C_P_122_58 : kFd "PoetFines" 122 kcl yC 58 0 (.inr 59) := ⟨9, _, _, _, _, rfl, rfl, rfl, by decide, kin9, wd_239⟩
theorem fd_C_P_219_57 : kFd "PoetFines" 219 kcl yC 57 1 (.inr 65) := ⟨3, _, _, _, _, rfl, rfl, rfl, by decide, kin3, wd_452⟩
theorem fd_C_P_223_65 : kFd "PoetFines" 223 kcl yC 65 0 (.inr 66) := ⟨7, _, _, _, _, rfl, rfl, rfl, by decide, kin7, wd_345⟩
theorem fd_C_P_228_65 : kFd "PoetFines" 228 kcl yC 65 1 (.inr 67) := ⟨7, _, _, _, _, rfl, rfl, rfl, by decide, kin7, wd_348⟩
theorem fd_C_P_231_65 : kFd "PoetFines" 231 kcl yC 65 2 (.inr 68) := ⟨7, _, _, _, _, rfl, rfl, rfl, by decide, kin7, wd_351⟩
def dl_P_hurt : List (Nat × Instr × Nat) := [(0, .aload_n 0, 1), (1, .iload_n 1, 1), (2, .invokevirtual 148, 3), (5, .aload_n 0, 1), (6, .iload_n 2, 1), (7, .invokevirtual 162, 3), (10, .aload_n 0, 1), (11, .getfield 81, 3), (14, .iload_n 1, 1), (15, .iload_n 2, 1), (16, .invokevirtual 234, 3), (19, .ireturn, 1)]
theorem dc_P_hurt : kdecs prog_1_method_18_code dl_P_hurt = true := by decide +kernel
abbrev ky_P_hurt : MethodName := ⟨"PoetFines", "hurt", "(II)I"⟩
def dl_Oracle_firstHit : List (Nat × Instr × Nat) := [(0, .aload_n 0, 1), (1, .invokevirtual 64, 3), (4, .aload_n 0, 1), (5, .getfield 12, 3), (8, .iload_n 2, 1), (9, .iload_n 1, 1), (10, .invokevirtual 71, 3), (13, .istore_n 3, 1), (14, .iconst 1, 1), (15, .istore 4, 2), (17, .iload 4, 2), (19, .bipush 60, 2), (21, .if_icmp .gt 33, 3), (24, .aload_n 0, 1), (25, .getfield 55, 3), (28, .iconst 0, 1), (29, .invokevirtual 75, 3), (32, .aload_n 0, 1), (33, .getfield 12, 3), (36, .iload_n 2, 1), (37, .iload_n 1, 1), (38, .invokevirtual 71, 3), (41, .iload_n 3, 1), (42, .if_icmp .le 6, 3), (45, .iload 4, 2), (47, .ireturn, 1), (48, .iinc 4 1, 3), (51, .goto (-34), 3), (54, .iconst (-1), 1), (55, .ireturn, 1)]
theorem dc_Oracle_firstHit : kdecs prog_5_method_3_code dl_Oracle_firstHit = true := by decide +kernel
abbrev ky_Oracle_firstHit : MethodName := ⟨"PoetFines$Oracle", "firstHit", "(II)I"⟩
theorem cv_Oracle_71 : kCv "PoetFines$Oracle" 71 ky_World_hitsBy prog_12_method_6_code 3 (some .int) 2 "PoetFines$World" := ⟨⟨wd_1261, wd_116, wd_578, ⟨by decide, by decide⟩, by decide +kernel⟩, wd_576, wd_577⟩
theorem cv_P_234 : kCv "PoetFines" 234 ky_Oracle_firstHit prog_5_method_3_code 5 (some .int) 2 "PoetFines$Oracle" := ⟨⟨wd_1257, wd_122, wd_1260, ⟨by decide, by decide⟩, by decide +kernel⟩, wd_1258, wd_1259⟩
def dl_P_later : List (Nat × Instr × Nat) := [(0, .aload_n 0, 1), (1, .iload_n 2, 1), (2, .iconst 4, 1), (3, .invokevirtual 154, 3), (6, .aload_n 0, 1), (7, .iload_n 1, 1), (8, .iconst 0, 1), (9, .bipush 60, 2), (11, .invokevirtual 210, 3), (14, .aload_n 0, 1), (15, .getfield 81, 3), (18, .iload_n 1, 1), (19, .invokevirtual 213, 3), (22, .iload_n 2, 1), (23, .tableswitch 81 0 3 #[29, 37, 45, 63], 29), (52, .aload_n 0, 1), (53, .getfield 81, 3), (56, .invokevirtual 237, 3), (59, .ireturn, 1), (60, .aload_n 0, 1), (61, .getfield 81, 3), (64, .invokevirtual 240, 3), (67, .ireturn, 1), (68, .aload_n 0, 1), (69, .getfield 81, 3), (72, .getfield 216, 3), (75, .aload_n 0, 1), (76, .getfield 27, 3), (79, .getfield 119, 3), (82, .invokevirtual 134, 3), (85, .ireturn, 1), (86, .aload_n 0, 1), (87, .getfield 81, 3), (90, .getfield 216, 3), (93, .aload_n 0, 1), (94, .getfield 27, 3), (97, .getfield 116, 3), (100, .invokevirtual 131, 3), (103, .ireturn, 1), (104, .aload_n 0, 1), (105, .getfield 81, 3), (108, .getfield 219, 3), (111, .getfield 243, 3), (114, .ireturn, 1)]
theorem dc_P_later : kdecs prog_1_method_19_code dl_P_later = true := by decide +kernel
abbrev ky_P_later : MethodName := ⟨"PoetFines", "later", "(II)I"⟩
def dl_Oracle_richest : List (Nat × Instr × Nat) := [(0, .iconst (-1), 1), (1, .istore_n 1, 1), (2, .iconst 0, 1), (3, .istore_n 2, 1), (4, .iload_n 2, 1), (5, .aload_n 0, 1), (6, .getfield 42, 3), (9, .getfield 79, 3), (12, .if_icmp .ge 41, 3), (15, .iload_n 1, 1), (16, .iconst (-1), 1), (17, .if_icmp .eq 28, 3), (20, .aload_n 0, 1), (21, .getfield 12, 3), (24, .getfield 84, 3), (27, .iconst 1, 1), (28, .iload_n 2, 1), (29, .iadd, 1), (30, .iaload, 1), (31, .aload_n 0, 1), (32, .getfield 12, 3), (35, .getfield 84, 3), (38, .iconst 1, 1), (39, .iload_n 1, 1), (40, .iadd, 1), (41, .iaload, 1), (42, .if_icmp .le 5, 3), (45, .iload_n 2, 1), (46, .istore_n 1, 1), (47, .iinc 2 1, 3), (50, .goto (-46), 3), (53, .iload_n 1, 1), (54, .ireturn, 1)]
theorem dc_Oracle_richest : kdecs prog_5_method_4_code dl_Oracle_richest = true := by decide +kernel
abbrev ky_Oracle_richest : MethodName := ⟨"PoetFines$Oracle", "richest", "()I"⟩
theorem fd_C_Oracle_42_57 : kFd "PoetFines$Oracle" 42 kcl yC 57 4 (.inr 3) := ⟨3, _, _, _, _, rfl, rfl, rfl, by decide, kin3, wd_457⟩
theorem fd_C_Oracle_79_3 : kFd "PoetFines$Oracle" 79 kcl yC 3 1 (.inl false) := ⟨2, _, _, _, _, rfl, rfl, rfl, by decide, kin2, wd_185⟩
theorem fd_C_Oracle_84_58 : kFd "PoetFines$Oracle" 84 kcl yC 58 0 (.inr 59) := ⟨9, _, _, _, _, rfl, rfl, rfl, by decide, kin9, wd_237⟩
theorem cv_P_237 : kCv "PoetFines" 237 ky_Oracle_richest prog_5_method_4_code 3 (some .int) 0 "PoetFines$Oracle" := ⟨⟨wd_1269, wd_122, wd_1272, ⟨by decide, by decide⟩, by decide +kernel⟩, wd_1270, wd_1271⟩
def dl_Oracle_poorestPoet : List (Nat × Instr × Nat) := [(0, .iconst (-1), 1), (1, .istore_n 1, 1), (2, .iconst 0, 1), (3, .istore_n 2, 1), (4, .iload_n 2, 1), (5, .aload_n 0, 1), (6, .getfield 42, 3), (9, .getfield 87, 3), (12, .if_icmp .ge 43, 3), (15, .iload_n 1, 1), (16, .iconst (-1), 1), (17, .if_icmp .eq 30, 3), (20, .aload_n 0, 1), (21, .getfield 12, 3), (24, .getfield 84, 3), (27, .bipush 49, 2), (29, .iload_n 2, 1), (30, .iadd, 1), (31, .iaload, 1), (32, .aload_n 0, 1), (33, .getfield 12, 3), (36, .getfield 84, 3), (39, .bipush 49, 2), (41, .iload_n 1, 1), (42, .iadd, 1), (43, .iaload, 1), (44, .if_icmp .ge 5, 3), (47, .iload_n 2, 1), (48, .istore_n 1, 1), (49, .iinc 2 1, 3), (52, .goto (-48), 3), (55, .iload_n 1, 1), (56, .ireturn, 1)]
theorem dc_Oracle_poorestPoet : kdecs prog_5_method_5_code dl_Oracle_poorestPoet = true := by decide +kernel
abbrev ky_Oracle_poorestPoet : MethodName := ⟨"PoetFines$Oracle", "poorestPoet", "()I"⟩
theorem fd_C_Oracle_87_3 : kFd "PoetFines$Oracle" 87 kcl yC 3 2 (.inl false) := ⟨2, _, _, _, _, rfl, rfl, rfl, by decide, kin2, wd_191⟩
theorem cv_P_240 : kCv "PoetFines" 240 ky_Oracle_poorestPoet prog_5_method_5_code 3 (some .int) 0 "PoetFines$Oracle" := ⟨⟨wd_1273, wd_122, wd_1276, ⟨by decide, by decide⟩, by decide +kernel⟩, wd_1274, wd_1275⟩
theorem fd_C_P_243_65 : kFd "PoetFines" 243 kcl yC 65 7 (.inl false) := ⟨7, _, _, _, _, rfl, rfl, rfl, by decide, kin7, wd_362⟩
def dl_P_worst : List (Nat × Instr × Nat) := [(0, .aload_n 0, 1), (1, .iload_n 2, 1), (2, .iconst 1, 1), (3, .invokevirtual 154, 3), (6, .aload_n 0, 1), (7, .iload_n 1, 1), (8, .iconst 1, 1), (9, .bipush 60, 2), (11, .invokevirtual 210, 3), (14, .aload_n 0, 1), (15, .getfield 81, 3), (18, .iload_n 1, 1), (19, .invokevirtual 213, 3), (22, .iload_n 2, 1), (23, .ifCond .ne 16, 3), (26, .aload_n 0, 1), (27, .getfield 81, 3), (30, .getfield 219, 3), (33, .getfield 246, 3), (36, .goto 13, 3), (39, .aload_n 0, 1), (40, .getfield 81, 3), (43, .getfield 219, 3), (46, .getfield 249, 3), (49, .ireturn, 1)]
theorem dc_P_worst : kdecs prog_1_method_20_code dl_P_worst = true := by decide +kernel
abbrev ky_P_worst : MethodName := ⟨"PoetFines", "worst", "(II)I"⟩
theorem fd_C_P_249_65 : kFd "PoetFines" 249 kcl yC 65 9 (.inl false) := ⟨7, _, _, _, _, rfl, rfl, rfl, by decide, kin7, wd_366⟩
theorem fd_C_P_246_65 : kFd "PoetFines" 246 kcl yC 65 8 (.inl false) := ⟨7, _, _, _, _, rfl, rfl, rfl, by decide, kin7, wd_364⟩
def dl_P_probe : List (Nat × Instr × Nat) := [(0, .aload_n 0, 1), (1, .iload_n 1, 1), (2, .invokevirtual 162, 3), (5, .aload_n 0, 1), (6, .iload_n 2, 1), (7, .invokevirtual 148, 3), (10, .aload_n 0, 1), (11, .iload_n 3, 1), (12, .iconst 0, 1), (13, .aload_n 0, 1), (14, .getfield 27, 3), (17, .getfield 113, 3), (20, .iconst 1, 1), (21, .isub, 1), (22, .invokevirtual 210, 3), (25, .aload_n 0, 1), (26, .iload 4, 2), (28, .iconst 0, 1), (29, .bipush 9, 2), (31, .invokevirtual 210, 3), (34, .aload_n 0, 1), (35, .getfield 63, 3), (38, .iload_n 1, 1), (39, .iload_n 2, 1), (40, .iload_n 3, 1), (41, .iload 4, 2), (43, .invokevirtual 252, 3), (46, .ireturn, 1)]
theorem dc_P_probe : kdecs prog_1_method_21_code dl_P_probe = true := by decide +kernel
abbrev ky_P_probe : MethodName := ⟨"PoetFines", "probe", "(IIII)I"⟩
theorem cv_P_252 : kCv "PoetFines" 252 ky_Stage_inchesInto prog_8_method_2_code 6 (some .int) 4 "PoetFines$Stage" := ⟨⟨wd_1291, wd_119, wd_601, ⟨by decide, by decide⟩, by decide +kernel⟩, wd_599, wd_600⟩
def dl_P_safe : List (Nat × Instr × Nat) := [(0, .aload_n 0, 1), (1, .iload_n 1, 1), (2, .invokevirtual 162, 3), (5, .aload_n 0, 1), (6, .iload_n 2, 1), (7, .iconst 0, 1), (8, .aload_n 0, 1), (9, .getfield 27, 3), (12, .getfield 113, 3), (15, .iconst 1, 1), (16, .isub, 1), (17, .invokevirtual 210, 3), (20, .aload_n 0, 1), (21, .getfield 72, 3), (24, .iload_n 1, 1), (25, .iload_n 2, 1), (26, .invokevirtual 256, 3), (29, .ireturn, 1)]
theorem dc_P_safe : kdecs prog_1_method_22_code dl_P_safe = true := by decide +kernel
abbrev ky_P_safe : MethodName := ⟨"PoetFines", "safe", "(II)I"⟩
def dl_Court_safeDepth : List (Nat × Instr × Nat) := [(0, .iconst 0, 1), (1, .istore_n 3, 1), (2, .iload_n 3, 1), (3, .bipush 9, 2), (5, .if_icmp .gt 57, 3), (8, .iconst 0, 1), (9, .istore 4, 2), (11, .iload 4, 2), (13, .aload_n 0, 1), (14, .getfield 34, 3), (17, .getfield 53, 3), (20, .if_icmp .ge 36, 3), (23, .aload_n 0, 1), (24, .getfield 38, 3), (27, .iload_n 1, 1), (28, .iload 4, 2), (30, .iload_n 2, 1), (31, .iload_n 3, 1), (32, .invokevirtual 65, 3), (35, .ifCond .le 15, 3), (38, .iload_n 3, 1), (39, .ifCond .le 9, 3), (42, .iload_n 3, 1), (43, .iconst 1, 1), (44, .isub, 1), (45, .goto 4, 3), (48, .iconst (-1), 1), (49, .ireturn, 1), (50, .iinc 4 1, 3), (53, .goto (-42), 3), (56, .iinc 3 1, 3), (59, .goto (-57), 3), (62, .bipush 9, 2), (64, .ireturn, 1)]
theorem dc_Court_safeDepth : kdecs prog_3_method_5_code dl_Court_safeDepth = true := by decide +kernel
abbrev ky_Court_safeDepth : MethodName := ⟨"PoetFines$Court", "safeDepth", "(II)I"⟩
theorem cv_P_256 : kCv "PoetFines" 256 ky_Court_safeDepth prog_3_method_5_code 5 (some .int) 2 "PoetFines$Court" := ⟨⟨wd_1299, wd_121, wd_1302, ⟨by decide, by decide⟩, by decide +kernel⟩, wd_1300, wd_1301⟩
def dl_P_sonnet : List (Nat × Instr × Nat) := [(0, .aload_n 0, 1), (1, .iload_n 1, 1), (2, .invokevirtual 162, 3), (5, .aload_n 0, 1), (6, .iload_n 2, 1), (7, .iconst 1, 1), (8, .invokevirtual 154, 3), (11, .aload_n 0, 1), (12, .getfield 72, 3), (15, .iload_n 1, 1), (16, .invokevirtual 259, 3), (19, .istore_n 3, 1), (20, .iload_n 2, 1), (21, .ifCond .ne 14, 3), (24, .aload_n 0, 1), (25, .getfield 72, 3), (28, .iload_n 3, 1), (29, .invokevirtual 262, 3), (32, .goto 4, 3), (35, .iload_n 3, 1), (36, .ireturn, 1)]
theorem dc_P_sonnet : kdecs prog_1_method_23_code dl_P_sonnet = true := by decide +kernel
abbrev ky_P_sonnet : MethodName := ⟨"PoetFines", "sonnet", "(II)I"⟩
def dl_Court_sonnetLines : List (Nat × Instr × Nat) := [(0, .aload_n 0, 1), (1, .getfield 34, 3), (4, .getfield 69, 3), (7, .iload_n 1, 1), (8, .iaload, 1), (9, .istore_n 2, 1), (10, .iconst 0, 1), (11, .istore_n 3, 1), (12, .iload_n 3, 1), (13, .iload_n 2, 1), (14, .if_icmp .ge 33, 3), (17, .aload_n 0, 1), (18, .getfield 9, 3), (21, .iload_n 3, 1), (22, .aload_n 0, 1), (23, .iload_n 1, 1), (24, .iload_n 3, 1), (25, .invokevirtual 72, 3), (28, .iastore, 1), (29, .aload_n 0, 1), (30, .getfield 15, 3), (33, .iload_n 3, 1), (34, .aload_n 0, 1), (35, .iload_n 1, 1), (36, .iload_n 3, 1), (37, .invokevirtual 76, 3), (40, .iastore, 1), (41, .iinc 3 1, 3), (44, .goto (-32), 3), (47, .aload_n 0, 1), (48, .getfield 38, 3), (51, .getfield 42, 3), (54, .getfield 48, 3), (57, .bipush 49, 2), (59, .iload_n 1, 1), (60, .iadd, 1), (61, .iaload, 1), (62, .istore_n 3, 1), (63, .iconst 0, 1), (64, .istore 4, 2), (66, .iconst 1, 1), (67, .istore 5, 2), (69, .iload 5, 2), (71, .iconst 1, 1), (72, .iload_n 2, 1), (73, .ishl, 1), (74, .if_icmp .ge 41, 3), (77, .aload_n 0, 1), (78, .getfield 9, 3), (81, .iload 5, 2), (83, .invokestatic 79, 3), (86, .iload_n 3, 1), (87, .if_icmp .gt 22, 3), (90, .aload_n 0, 1), (91, .iload 5, 2), (93, .invokevirtual 83, 3), (96, .aload_n 0, 1), (97, .iload 4, 2), (99, .invokevirtual 83, 3), (102, .if_icmp .le 7, 3), (105, .iload 5, 2), (107, .istore 4, 2), (109, .iinc 5 1, 3), (112, .goto (-43), 3), (115, .iload 4, 2), (117, .ireturn, 1)]
theorem dc_Court_sonnetLines : kdecs prog_3_method_6_code dl_Court_sonnetLines = true := by decide +kernel
abbrev ky_Court_sonnetLines : MethodName := ⟨"PoetFines$Court", "sonnetLines", "(I)I"⟩
theorem fd_C_Court_69_3 : kFd "PoetFines$Court" 69 kcl yC 3 3 (.inr 4) := ⟨2, _, _, _, _, rfl, rfl, rfl, by decide, kin2, wd_196⟩
theorem fd_C_Court_9_50 : kFd "PoetFines$Court" 9 kcl yC 50 2 (.inr 51) := ⟨1, _, _, _, _, rfl, rfl, rfl, by decide, kin1, wd_411⟩
theorem fd_C_Court_15_50 : kFd "PoetFines$Court" 15 kcl yC 50 3 (.inr 52) := ⟨1, _, _, _, _, rfl, rfl, rfl, by decide, kin1, wd_412⟩
theorem cv_Court_76 : kCv "PoetFines$Court" 76 ky_Court_inchesOfLine prog_3_method_3_code 5 (some .int) 2 "PoetFines$Court" := ⟨⟨wd_1315, wd_121, wd_1175, ⟨by decide, by decide⟩, by decide +kernel⟩, wd_1173, wd_1174⟩
theorem cv_Court_72 : kCv "PoetFines$Court" 72 ky_Court_fineOfLine prog_3_method_4_code 5 (some .int) 2 "PoetFines$Court" := ⟨⟨wd_1314, wd_121, wd_1166, ⟨by decide, by decide⟩, by decide +kernel⟩, wd_1164, wd_1165⟩
def dl_Court_sumOf : List (Nat × Instr × Nat) := [(0, .iconst 0, 1), (1, .istore_n 2, 1), (2, .iconst 0, 1), (3, .istore_n 3, 1), (4, .iload_n 3, 1), (5, .aload_n 0, 1), (6, .arraylength, 1), (7, .if_icmp .ge 28, 3), (10, .iload_n 2, 1), (11, .iload_n 1, 1), (12, .iload_n 3, 1), (13, .ishr, 1), (14, .iconst 1, 1), (15, .iand, 1), (16, .iconst 1, 1), (17, .if_icmp .ne 9, 3), (20, .aload_n 0, 1), (21, .iload_n 3, 1), (22, .iaload, 1), (23, .goto 4, 3), (26, .iconst 0, 1), (27, .iadd, 1), (28, .istore_n 2, 1), (29, .iinc 3 1, 3), (32, .goto (-28), 3), (35, .iload_n 2, 1), (36, .ireturn, 1)]
theorem dc_Court_sumOf : kdecs prog_3_method_17_code dl_Court_sumOf = true := by decide +kernel
abbrev ky_Court_sumOf : MethodName := ⟨"PoetFines$Court", "sumOf", "([II)I"⟩
def dl_Court_inchesOf : List (Nat × Instr × Nat) := [(0, .aload_n 0, 1), (1, .getfield 15, 3), (4, .iload_n 1, 1), (5, .invokestatic 79, 3), (8, .ireturn, 1)]
theorem dc_Court_inchesOf : kdecs prog_3_method_7_code dl_Court_inchesOf = true := by decide +kernel
abbrev ky_Court_inchesOf : MethodName := ⟨"PoetFines$Court", "inchesOf", "(I)I"⟩
theorem cs_Court_79 : kCs "PoetFines$Court" 79 ky_Court_sumOf prog_3_method_17_code 4 (some .int) 2 := ⟨⟨wd_1316, wd_121, wd_1318, ⟨by decide, by decide⟩, by decide +kernel⟩, wd_1317⟩
theorem cv_Court_83 : kCv "PoetFines$Court" 83 ky_Court_inchesOf prog_3_method_7_code 2 (some .int) 1 "PoetFines$Court" := ⟨⟨wd_1319, wd_121, wd_1322, ⟨by decide, by decide⟩, by decide +kernel⟩, wd_1320, wd_1321⟩
theorem cv_P_262 : kCv "PoetFines" 262 ky_Court_inchesOf prog_3_method_7_code 2 (some .int) 1 "PoetFines$Court" := ⟨⟨wd_1323, wd_121, wd_1322, ⟨by decide, by decide⟩, by decide +kernel⟩, wd_1320, wd_1321⟩
theorem cv_P_259 : kCv "PoetFines" 259 ky_Court_sonnetLines prog_3_method_6_code 6 (some .int) 1 "PoetFines$Court" := ⟨⟨wd_1310, wd_121, wd_1313, ⟨by decide, by decide⟩, by decide +kernel⟩, wd_1311, wd_1312⟩
def dl_P_action : List (Nat × Instr × Nat) := [(0, .aload_n 0, 1), (1, .iload_n 1, 1), (2, .invokevirtual 162, 3), (5, .aload_n 0, 1), (6, .getfield 72, 3), (9, .iload_n 1, 1), (10, .invokevirtual 265, 3), (13, .ireturn, 1)]
theorem dc_P_action : kdecs prog_1_method_24_code dl_P_action = true := by decide +kernel
abbrev ky_P_action : MethodName := ⟨"PoetFines", "action", "(I)I"⟩
def dl_Court_classAction : List (Nat × Instr × Nat) := [(0, .iconst 0, 1), (1, .istore_n 2, 1), (2, .iload_n 2, 1), (3, .aload_n 0, 1), (4, .getfield 34, 3), (7, .getfield 53, 3), (10, .if_icmp .ge 21, 3), (13, .aload_n 0, 1), (14, .getfield 18, 3), (17, .iload_n 2, 1), (18, .aload_n 0, 1), (19, .iload_n 1, 1), (20, .iload_n 2, 1), (21, .invokevirtual 87, 3), (24, .iastore, 1), (25, .iinc 2 1, 3), (28, .goto (-26), 3), (31, .aload_n 0, 1), (32, .getfield 38, 3), (35, .getfield 42, 3), (38, .getfield 48, 3), (41, .bipush 49, 2), (43, .iload_n 1, 1), (44, .iadd, 1), (45, .iaload, 1), (46, .istore_n 2, 1), (47, .iconst (-1), 1), (48, .istore_n 3, 1), (49, .bipush 9, 2), (51, .istore 4, 2), (53, .iconst 1, 1), (54, .istore 5, 2), (56, .iload 5, 2), (58, .iconst 1, 1), (59, .aload_n 0, 1), (60, .getfield 34, 3), (63, .getfield 53, 3), (66, .ishl, 1), (67, .if_icmp .ge 42, 3), (70, .iload 5, 2), (72, .invokestatic 90, 3), (75, .iload 4, 2), (77, .if_icmp .ge 26, 3), (80, .aload_n 0, 1), (81, .getfield 18, 3), (84, .iload 5, 2), (86, .invokestatic 79, 3), (89, .iload_n 2, 1), (90, .if_icmp .le 13, 3), (93, .iload 5, 2), (95, .istore_n 3, 1), (96, .iload 5, 2), (98, .invokestatic 90, 3), (101, .istore 4, 2), (103, .iinc 5 1, 3), (106, .goto (-50), 3), (109, .iload_n 3, 1), (110, .ireturn, 1)]
theorem dc_Court_classAction : kdecs prog_3_method_8_code dl_Court_classAction = true := by decide +kernel
abbrev ky_Court_classAction : MethodName := ⟨"PoetFines$Court", "classAction", "(I)I"⟩
theorem fd_C_Court_18_50 : kFd "PoetFines$Court" 18 kcl yC 50 4 (.inr 53) := ⟨1, _, _, _, _, rfl, rfl, rfl, by decide, kin1, wd_413⟩
def dl_Court_dueFrom : List (Nat × Instr × Nat) := [(0, .iconst 0, 1), (1, .istore_n 3, 1), (2, .iconst 0, 1), (3, .istore 4, 2), (5, .iload 4, 2), (7, .aload_n 0, 1), (8, .getfield 34, 3), (11, .getfield 69, 3), (14, .iload_n 1, 1), (15, .iaload, 1), (16, .if_icmp .ge 20, 3), (19, .iload_n 3, 1), (20, .aload_n 0, 1), (21, .iload_n 1, 1), (22, .iload_n 2, 1), (23, .iload 4, 2), (25, .invokevirtual 62, 3), (28, .iadd, 1), (29, .istore_n 3, 1), (30, .iinc 4 1, 3), (33, .goto (-28), 3), (36, .iload_n 3, 1), (37, .ireturn, 1)]
theorem dc_Court_dueFrom : kdecs prog_3_method_16_code dl_Court_dueFrom = true := by decide +kernel
abbrev ky_Court_dueFrom : MethodName := ⟨"PoetFines$Court", "dueFrom", "(II)I"⟩
theorem cv_Court_87 : kCv "PoetFines$Court" 87 ky_Court_dueFrom prog_3_method_16_code 5 (some .int) 2 "PoetFines$Court" := ⟨⟨wd_1335, wd_121, wd_1338, ⟨by decide, by decide⟩, by decide +kernel⟩, wd_1337, wd_37⟩
def dl_Integer_bitCount_0f7a4 : List (Nat × Instr × Nat) := [(0, .iload_n 0, 1), (1, .iload_n 0, 1), (2, .iconst 1, 1), (3, .iushr, 1), (4, .ldc_w 265, 3), (7, .iand, 1), (8, .isub, 1), (9, .istore_n 0, 1), (10, .iload_n 0, 1), (11, .ldc_w 266, 3), (14, .iand, 1), (15, .iload_n 0, 1), (16, .iconst 2, 1), (17, .iushr, 1), (18, .ldc_w 266, 3), (21, .iand, 1), (22, .iadd, 1), (23, .istore_n 0, 1), (24, .iload_n 0, 1), (25, .iload_n 0, 1), (26, .iconst 4, 1), (27, .iushr, 1), (28, .iadd, 1), (29, .ldc_w 267, 3), (32, .iand, 1), (33, .istore_n 0, 1), (34, .iload_n 0, 1), (35, .iload_n 0, 1), (36, .bipush 8, 2), (38, .iushr, 1), (39, .iadd, 1), (40, .istore_n 0, 1), (41, .iload_n 0, 1), (42, .iload_n 0, 1), (43, .bipush 16, 2), (45, .iushr, 1), (46, .iadd, 1), (47, .istore_n 0, 1), (48, .iload_n 0, 1), (49, .bipush 63, 2), (51, .iand, 1), (52, .ireturn, 1)]
theorem dc_Integer_bitCount_0f7a4 : kdecs prog_22_method_49_code dl_Integer_bitCount_0f7a4 = true := by decide +kernel
abbrev ky_Integer_bitCount_0f7a4 : MethodName := ⟨"java/lang/Integer", "bitCount", "(I)I"⟩
theorem cs_Court_90 : kCs "PoetFines$Court" 90 ky_Integer_bitCount_0f7a4 prog_22_method_49_code 1 (some .int) 1 := ⟨⟨wd_1339, wd_138, wd_1341, ⟨by decide, by decide⟩, by decide +kernel⟩, wd_1340⟩
theorem cv_P_265 : kCv "PoetFines" 265 ky_Court_classAction prog_3_method_8_code 6 (some .int) 1 "PoetFines$Court" := ⟨⟨wd_1331, wd_121, wd_1334, ⟨by decide, by decide⟩, by decide +kernel⟩, wd_1332, wd_1333⟩
def dl_P_readings : List (Nat × Instr × Nat) := [(0, .iload_n 1, 1), (1, .iconst (-1), 1), (2, .if_icmp .eq 8, 3), (5, .aload_n 0, 1), (6, .iload_n 1, 1), (7, .invokevirtual 162, 3), (10, .aload_n 0, 1), (11, .getfield 72, 3), (14, .invokevirtual 268, 3), (17, .iload_n 1, 1), (18, .iconst (-1), 1), (19, .if_icmp .ne 13, 3), (22, .aload_n 0, 1), (23, .getfield 72, 3), (26, .getfield 271, 3), (29, .goto 12, 3), (32, .aload_n 0, 1), (33, .getfield 72, 3), (36, .getfield 274, 3), (39, .iload_n 1, 1), (40, .iaload, 1), (41, .ireturn, 1)]
theorem dc_P_readings : kdecs prog_1_method_25_code dl_P_readings = true := by decide +kernel
abbrev ky_P_readings : MethodName := ⟨"PoetFines", "readings", "(I)I"⟩
def dl_Court_assignReadings : List (Nat × Instr × Nat) := [(0, .iconst 0, 1), (1, .istore_n 1, 1), (2, .iconst 0, 1), (3, .istore_n 2, 1), (4, .iload_n 2, 1), (5, .aload_n 0, 1), (6, .getfield 34, 3), (9, .getfield 95, 3), (12, .if_icmp .ge 94, 3), (15, .aload_n 0, 1), (16, .getfield 24, 3), (19, .iload_n 2, 1), (20, .iconst (-1), 1), (21, .iastore, 1), (22, .aload_n 0, 1), (23, .getfield 27, 3), (26, .iload_n 2, 1), (27, .iconst (-1), 1), (28, .iastore, 1), (29, .iload_n 1, 1), (30, .aload_n 0, 1), (31, .iload_n 2, 1), (32, .invokevirtual 98, 3), (35, .ifCond .eq 7, 3), (38, .iconst 0, 1), (39, .goto 4, 3), (42, .iconst 1, 1), (43, .iadd, 1), (44, .istore_n 1, 1), (45, .iconst 0, 1), (46, .istore_n 3, 1), (47, .iload_n 3, 1), (48, .aload_n 0, 1), (49, .getfield 34, 3), (52, .getfield 53, 3), (55, .if_icmp .ge 45, 3), (58, .aload_n 0, 1), (59, .getfield 38, 3), (62, .getfield 42, 3), (65, .getfield 48, 3), (68, .bipush 53, 2), (70, .iload_n 2, 1), (71, .iadd, 1), (72, .iaload, 1), (73, .istore 4, 2), (75, .aload_n 0, 1), (76, .getfield 21, 3), (79, .iload_n 2, 1), (80, .bipush 8, 2), (82, .imul, 1), (83, .iload_n 3, 1), (84, .iadd, 1), (85, .aload_n 0, 1), (86, .iload_n 2, 1), (87, .iload_n 3, 1), (88, .iload 4, 2), (90, .invokevirtual 58, 3), (93, .iastore, 1), (94, .iinc 3 1, 3), (97, .goto (-50), 3), (100, .iinc 2 1, 3), (103, .goto (-99), 3), (106, .aload_n 0, 1), (107, .iconst (-1), 1), (108, .putfield 30, 3), (111, .aload_n 0, 1), (112, .iconst 0, 1), (113, .iconst 0, 1), (114, .iload_n 1, 1), (115, .aload_n 0, 1), (116, .getfield 34, 3), (119, .getfield 53, 3), (122, .isub, 1), (123, .iconst 0, 1), (124, .invokestatic 102, 3), (127, .iconst 0, 1), (128, .invokevirtual 107, 3), (131, .return_, 1)]
theorem dc_Court_assignReadings : kdecs prog_3_method_10_code dl_Court_assignReadings = true := by decide +kernel
abbrev ky_Court_assignReadings : MethodName := ⟨"PoetFines$Court", "assignReadings", "()V"⟩
theorem fd_C_Court_95_3 : kFd "PoetFines$Court" 95 kcl yC 3 2 (.inl false) := ⟨2, _, _, _, _, rfl, rfl, rfl, by decide, kin2, wd_193⟩
theorem fd_C_Court_24_50 : kFd "PoetFines$Court" 24 kcl yC 50 6 (.inr 55) := ⟨1, _, _, _, _, rfl, rfl, rfl, by decide, kin1, wd_415⟩
theorem fd_C_Court_27_50 : kFd "PoetFines$Court" 27 kcl yC 50 7 (.inr 56) := ⟨1, _, _, _, _, rfl, rfl, rfl, by decide, kin1, wd_416⟩
def dl_Court_sits : List (Nat × Instr × Nat) := [(0, .aload_n 0, 1), (1, .getfield 38, 3), (4, .getfield 42, 3), (7, .getfield 48, 3), (10, .bipush 57, 2), (12, .iload_n 1, 1), (13, .iadd, 1), (14, .iaload, 1), (15, .ifCond .le 7, 3), (18, .iconst 1, 1), (19, .goto 4, 3), (22, .iconst 0, 1), (23, .ireturn, 1)]
theorem dc_Court_sits : kdecs prog_3_method_13_code dl_Court_sits = true := by decide +kernel
abbrev ky_Court_sits : MethodName := ⟨"PoetFines$Court", "sits", "(I)Z"⟩
theorem fd_C_Court_21_50 : kFd "PoetFines$Court" 21 kcl yC 50 5 (.inr 54) := ⟨1, _, _, _, _, rfl, rfl, rfl, by decide, kin1, wd_414⟩
theorem cv_Court_98 : kCv "PoetFines$Court" 98 ky_Court_sits prog_3_method_13_code 2 (some .boolean) 1 "PoetFines$Court" := ⟨⟨wd_1356, wd_121, wd_1359, ⟨by decide, by decide⟩, by decide +kernel⟩, wd_1358, wd_38⟩
theorem fp_C_Court_30_50 : kFp "PoetFines$Court" 30 kcl yC 50 8 (.inl false) .int := ⟨1, _, _, _, _, kty1, rfl, rfl, rfl, by decide, kin1, wd_418, kty1_ok, knm1, rfl, by decide +kernel⟩
theorem cm_Court_102 : Cond.methodLink "PoetFines$Court" 102 Lib.Math.max.name ∈ kG ∧ Cond.static Lib.Math.max.name ∈ kG ∧ Cond.initialized "java/lang/Math" ∈ kG ∧ Cond.code Lib.Math.max.name Lib.Math.max.code 2 (some .int) ∈ kG := ⟨wd_1360, wd_621, wd_128, kG_of kch3 31 rfl rfl⟩
def dl_Court_assignFrom : List (Nat × Instr × Nat) := [(0, .iload_n 1, 1), (1, .aload_n 0, 1), (2, .getfield 34, 3), (5, .getfield 95, 3), (8, .if_icmp .lt 10, 3), (11, .aload_n 0, 1), (12, .iload 4, 2), (14, .invokevirtual 111, 3), (17, .return_, 1), (18, .aload_n 0, 1), (19, .iload_n 1, 1), (20, .invokevirtual 98, 3), (23, .ifCond .eq 15, 3), (26, .aload_n 0, 1), (27, .iload_n 1, 1), (28, .iconst 1, 1), (29, .iadd, 1), (30, .iload_n 2, 1), (31, .iload_n 3, 1), (32, .iload 4, 2), (34, .invokevirtual 107, 3), (37, .return_, 1), (38, .iconst 0, 1), (39, .istore 5, 2), (41, .iload 5, 2), (43, .aload_n 0, 1), (44, .getfield 34, 3), (47, .getfield 53, 3), (50, .if_icmp .ge 55, 3), (53, .iload_n 2, 1), (54, .iload 5, 2), (56, .ishr, 1), (57, .iconst 1, 1), (58, .iand, 1), (59, .ifCond .ne 40, 3), (62, .aload_n 0, 1), (63, .getfield 24, 3), (66, .iload_n 1, 1), (67, .iload 5, 2), (69, .iastore, 1), (70, .aload_n 0, 1), (71, .iload_n 1, 1), (72, .iconst 1, 1), (73, .iadd, 1), (74, .iload_n 2, 1), (75, .iconst 1, 1), (76, .iload 5, 2), (78, .ishl, 1), (79, .ior, 1), (80, .iload_n 3, 1), (81, .iload 4, 2), (83, .aload_n 0, 1), (84, .getfield 21, 3), (87, .iload_n 1, 1), (88, .bipush 8, 2), (90, .imul, 1), (91, .iload 5, 2), (93, .iadd, 1), (94, .iaload, 1), (95, .iadd, 1), (96, .invokevirtual 107, 3), (99, .iinc 5 1, 3), (102, .goto (-61), 3), (105, .aload_n 0, 1), (106, .getfield 24, 3), (109, .iload_n 1, 1), (110, .iconst (-1), 1), (111, .iastore, 1), (112, .iload_n 3, 1), (113, .ifCond .le 16, 3), (116, .aload_n 0, 1), (117, .iload_n 1, 1), (118, .iconst 1, 1), (119, .iadd, 1), (120, .iload_n 2, 1), (121, .iload_n 3, 1), (122, .iconst 1, 1), (123, .isub, 1), (124, .iload 4, 2), (126, .invokevirtual 107, 3), (129, .return_, 1)]
theorem dc_Court_assignFrom : kdecs prog_3_method_11_code dl_Court_assignFrom = true := by decide +kernel
abbrev ky_Court_assignFrom : MethodName := ⟨"PoetFines$Court", "assignFrom", "(IIII)V"⟩
theorem cv_Court_107 : kCv "PoetFines$Court" 107 ky_Court_assignFrom prog_3_method_11_code 6 none 4 "PoetFines$Court" := ⟨⟨wd_1361, wd_121, wd_1364, ⟨by decide, by decide⟩, by decide +kernel⟩, wd_1363, wd_39⟩
def dl_Court_keepRow : List (Nat × Instr × Nat) := [(0, .iload_n 1, 1), (1, .aload_n 0, 1), (2, .getfield 30, 3), (5, .if_icmp .le 22, 3), (8, .aload_n 0, 1), (9, .iload_n 1, 1), (10, .putfield 30, 3), (13, .aload_n 0, 1), (14, .getfield 24, 3), (17, .iconst 0, 1), (18, .aload_n 0, 1), (19, .getfield 27, 3), (22, .iconst 0, 1), (23, .iconst 4, 1), (24, .invokestatic 115, 3), (27, .return_, 1)]
theorem dc_Court_keepRow : kdecs prog_3_method_12_code dl_Court_keepRow = true := by decide +kernel
abbrev ky_Court_keepRow : MethodName := ⟨"PoetFines$Court", "keepRow", "(I)V"⟩
theorem fd_C_Court_30_50 : kFd "PoetFines$Court" 30 kcl yC 50 8 (.inl false) := ⟨1, _, _, _, _, rfl, rfl, rfl, by decide, kin1, wd_418⟩
theorem ca_Court_115 : Cond.methodLink "PoetFines$Court" 115 arraycopyName ∈ kG ∧ Cond.native arraycopyName ∈ kG ∧ Cond.static arraycopyName ∈ kG ∧ Cond.initialized "java/lang/System" ∈ kG := ⟨wd_1369, wd_554, wd_553, wd_136⟩
theorem cv_Court_111 : kCv "PoetFines$Court" 111 ky_Court_keepRow prog_3_method_12_code 2 none 1 "PoetFines$Court" := ⟨⟨wd_1365, wd_121, wd_1368, ⟨by decide, by decide⟩, by decide +kernel⟩, wd_1367, wd_40⟩
theorem fd_C_P_274_50 : kFd "PoetFines" 274 kcl yC 50 7 (.inr 56) := ⟨1, _, _, _, _, rfl, rfl, rfl, by decide, kin1, wd_417⟩
theorem fd_C_P_271_50 : kFd "PoetFines" 271 kcl yC 50 8 (.inl false) := ⟨1, _, _, _, _, rfl, rfl, rfl, by decide, kin1, wd_419⟩
theorem cv_P_268 : kCv "PoetFines" 268 ky_Court_assignReadings prog_3_method_10_code 5 none 0 "PoetFines$Court" := ⟨⟨wd_1352, wd_121, wd_1355, ⟨by decide, by decide⟩, by decide +kernel⟩, wd_1353, wd_1354⟩
def dl_P_best : List (Nat × Instr × Nat) := [(0, .aload_n 0, 1), (1, .iload_n 2, 1), (2, .iconst 1, 1), (3, .invokevirtual 154, 3), (6, .aload_n 0, 1), (7, .iload_n 1, 1), (8, .iconst 1, 1), (9, .bipush 60, 2), (11, .invokevirtual 210, 3), (14, .iload_n 2, 1), (15, .ifCond .ne 14, 3), (18, .aload_n 0, 1), (19, .getfield 81, 3), (22, .iload_n 1, 1), (23, .invokevirtual 277, 3), (26, .goto 11, 3), (29, .aload_n 0, 1), (30, .getfield 81, 3), (33, .iload_n 1, 1), (34, .invokevirtual 280, 3), (37, .ireturn, 1)]
theorem dc_P_best : kdecs prog_1_method_26_code dl_P_best = true := by decide +kernel
abbrev ky_P_best : MethodName := ⟨"PoetFines", "best", "(II)I"⟩
def dl_Oracle_bestBurner : List (Nat × Instr × Nat) := [(0, .aload_n 0, 1), (1, .invokevirtual 64, 3), (4, .aload_n 0, 1), (5, .iload_n 1, 1), (6, .invokevirtual 67, 3), (9, .aload_n 0, 1), (10, .getfield 63, 3), (13, .getfield 103, 3), (16, .istore_n 2, 1), (17, .iconst (-1), 1), (18, .istore_n 3, 1), (19, .iconst 0, 1), (20, .istore 4, 2), (22, .iload 4, 2), (24, .aload_n 0, 1), (25, .getfield 42, 3), (28, .getfield 87, 3), (31, .if_icmp .ge 63, 3), (34, .aload_n 0, 1), (35, .getfield 42, 3), (38, .getfield 106, 3), (41, .iload 4, 2), (43, .iaload, 1), (44, .iconst 1, 1), (45, .if_icmp .le 43, 3), (48, .aload_n 0, 1), (49, .invokevirtual 64, 3), (52, .aload_n 0, 1), (53, .getfield 55, 3), (56, .iload 4, 2), (58, .invokevirtual 109, 3), (61, .aload_n 0, 1), (62, .iload_n 1, 1), (63, .invokevirtual 67, 3), (66, .aload_n 0, 1), (67, .getfield 63, 3), (70, .getfield 103, 3), (73, .iload_n 2, 1), (74, .if_icmp .ge 14, 3), (77, .aload_n 0, 1), (78, .getfield 63, 3), (81, .getfield 103, 3), (84, .istore_n 2, 1), (85, .iload 4, 2), (87, .istore_n 3, 1), (88, .iinc 4 1, 3), (91, .goto (-69), 3), (94, .iload_n 3, 1), (95, .ireturn, 1)]
theorem dc_Oracle_bestBurner : kdecs prog_5_method_8_code dl_Oracle_bestBurner = true := by decide +kernel
abbrev ky_Oracle_bestBurner : MethodName := ⟨"PoetFines$Oracle", "bestBurner", "(I)I"⟩
theorem fd_C_Oracle_103_65 : kFd "PoetFines$Oracle" 103 kcl yC 65 4 (.inl false) := ⟨7, _, _, _, _, rfl, rfl, rfl, by decide, kin7, wd_355⟩
theorem fd_C_Oracle_106_3 : kFd "PoetFines$Oracle" 106 kcl yC 3 3 (.inr 4) := ⟨2, _, _, _, _, rfl, rfl, rfl, by decide, kin2, wd_198⟩
theorem cv_Oracle_109 : kCv "PoetFines$Oracle" 109 ky_Stage_turnPage prog_8_method_5_code 2 none 1 "PoetFines$Stage" := ⟨⟨wd_1386, wd_119, wd_641, ⟨by decide, by decide⟩, by decide +kernel⟩, wd_639, wd_640⟩
theorem cv_P_280 : kCv "PoetFines" 280 ky_Oracle_bestBurner prog_5_method_8_code 5 (some .int) 1 "PoetFines$Oracle" := ⟨⟨wd_1382, wd_122, wd_1385, ⟨by decide, by decide⟩, by decide +kernel⟩, wd_1383, wd_1384⟩
def dl_Oracle_bestPardon : List (Nat × Instr × Nat) := [(0, .aload_n 0, 1), (1, .invokevirtual 64, 3), (4, .aload_n 0, 1), (5, .iload_n 1, 1), (6, .invokevirtual 67, 3), (9, .aload_n 0, 1), (10, .getfield 12, 3), (13, .iconst 1, 1), (14, .aload_n 0, 1), (15, .getfield 42, 3), (18, .getfield 79, 3), (21, .invokevirtual 95, 3), (24, .istore_n 2, 1), (25, .iconst (-1), 1), (26, .istore_n 3, 1), (27, .iconst 0, 1), (28, .istore 4, 2), (30, .iload 4, 2), (32, .aload_n 0, 1), (33, .getfield 42, 3), (36, .getfield 87, 3), (39, .if_icmp .ge 80, 3), (42, .aload_n 0, 1), (43, .getfield 46, 3), (46, .getfield 98, 3), (49, .getfield 84, 3), (52, .bipush 57, 2), (54, .iload 4, 2), (56, .iadd, 1), (57, .iaload, 1), (58, .ifCond .le 55, 3), (61, .aload_n 0, 1), (62, .invokevirtual 64, 3), (65, .aload_n 0, 1), (66, .getfield 12, 3), (69, .getfield 84, 3), (72, .bipush 57, 2), (74, .iload 4, 2), (76, .iadd, 1), (77, .iconst 0, 1), (78, .iastore, 1), (79, .aload_n 0, 1), (80, .iload_n 1, 1), (81, .invokevirtual 67, 3), (84, .aload_n 0, 1), (85, .getfield 12, 3), (88, .iconst 1, 1), (89, .aload_n 0, 1), (90, .getfield 42, 3), (93, .getfield 79, 3), (96, .invokevirtual 95, 3), (99, .istore 5, 2), (101, .iload 5, 2), (103, .iload_n 2, 1), (104, .if_icmp .le 9, 3), (107, .iload 5, 2), (109, .istore_n 2, 1), (110, .iload 4, 2), (112, .istore_n 3, 1), (113, .iinc 4 1, 3), (116, .goto (-86), 3), (119, .iload_n 3, 1), (120, .ireturn, 1)]
theorem dc_Oracle_bestPardon : kdecs prog_5_method_7_code dl_Oracle_bestPardon = true := by decide +kernel
abbrev ky_Oracle_bestPardon : MethodName := ⟨"PoetFines$Oracle", "bestPardon", "(I)I"⟩
theorem fd_C_Oracle_84_30 : kFd "PoetFines$Oracle" 84 kcl yC 30 0 (.inr 31) := ⟨9, _, _, _, _, rfl, rfl, rfl, by decide, kin9, wd_237⟩
theorem cv_Oracle_95 : kCv "PoetFines$Oracle" 95 ky_World_total prog_12_method_8_code 5 (some .int) 2 "PoetFines$World" := ⟨⟨wd_1381, wd_116, wd_1077, ⟨by decide, by decide⟩, by decide +kernel⟩, wd_1075, wd_1076⟩
theorem cv_P_277 : kCv "PoetFines" 277 ky_Oracle_bestPardon prog_5_method_7_code 6 (some .int) 1 "PoetFines$Oracle" := ⟨⟨wd_1377, wd_122, wd_1380, ⟨by decide, by decide⟩, by decide +kernel⟩, wd_1378, wd_1379⟩
def dl_P_feel : List (Nat × Instr × Nat) := [(0, .aload_n 0, 1), (1, .iload_n 1, 1), (2, .invokevirtual 148, 3), (5, .aload_n 0, 1), (6, .getfield 43, 3), (9, .getfield 140, 3), (12, .bipush 8, 2), (14, .if_icmp .ge 14, 3), (17, .iload_n 2, 1), (18, .iconst 1, 1), (19, .if_icmp .lt 9, 3), (22, .iload_n 2, 1), (23, .bipush 20, 2), (25, .if_icmp .le 15, 3), (28, .aload_n 0, 1), (29, .getfield 20, 3), (32, .iconst 2, 1), (33, .dup2, 1), (34, .iaload, 1), (35, .iconst 1, 1), (36, .iadd, 1), (37, .iastore, 1), (38, .iconst (-1), 1), (39, .ireturn, 1), (40, .aload_n 0, 1), (41, .getfield 43, 3), (44, .iload_n 1, 1), (45, .iload_n 2, 1), (46, .iload_n 3, 1), (47, .invokevirtual 283, 3), (50, .aload_n 0, 1), (51, .getfield 43, 3), (54, .getfield 140, 3), (57, .ireturn, 1)]
theorem dc_P_feel : kdecs prog_1_method_27_code dl_P_feel = true := by decide +kernel
abbrev ky_P_feel : MethodName := ⟨"PoetFines", "feel", "(IIZ)I"⟩
def dl_Chronicle_addFelt : List (Nat × Instr × Nat) := [(0, .aload_n 0, 1), (1, .getfield 29, 3), (4, .bipush 8, 2), (6, .if_icmp .ge 51, 3), (9, .aload_n 0, 1), (10, .getfield 32, 3), (13, .aload_n 0, 1), (14, .getfield 29, 3), (17, .iload_n 1, 1), (18, .iastore, 1), (19, .aload_n 0, 1), (20, .getfield 35, 3), (23, .aload_n 0, 1), (24, .getfield 29, 3), (27, .iload_n 2, 1), (28, .iastore, 1), (29, .aload_n 0, 1), (30, .getfield 38, 3), (33, .aload_n 0, 1), (34, .getfield 29, 3), (37, .iload_n 3, 1), (38, .ifCond .eq 7, 3), (41, .iconst 1, 1), (42, .goto 4, 3), (45, .iconst 0, 1), (46, .iastore, 1), (47, .aload_n 0, 1), (48, .dup, 1), (49, .getfield 29, 3), (52, .iconst 1, 1), (53, .iadd, 1), (54, .putfield 29, 3), (57, .return_, 1)]
theorem dc_Chronicle_addFelt : kdecs prog_2_method_6_code dl_Chronicle_addFelt = true := by decide +kernel
abbrev ky_Chronicle_addFelt : MethodName := ⟨"PoetFines$Chronicle", "addFelt", "(IIZ)V"⟩
theorem fd_C_Chronicle_29_29 : kFd "PoetFines$Chronicle" 29 kcl yC 29 4 (.inl false) := ⟨0, _, _, _, _, rfl, rfl, rfl, by decide, kin0, wd_308⟩
theorem fd_C_Chronicle_32_29 : kFd "PoetFines$Chronicle" 32 kcl yC 29 5 (.inr 33) := ⟨0, _, _, _, _, rfl, rfl, rfl, by decide, kin0, wd_310⟩
theorem fd_C_Chronicle_35_29 : kFd "PoetFines$Chronicle" 35 kcl yC 29 6 (.inr 34) := ⟨0, _, _, _, _, rfl, rfl, rfl, by decide, kin0, wd_311⟩
theorem fd_C_Chronicle_38_29 : kFd "PoetFines$Chronicle" 38 kcl yC 29 7 (.inr 35) := ⟨0, _, _, _, _, rfl, rfl, rfl, by decide, kin0, wd_312⟩
theorem cv_P_283 : kCv "PoetFines" 283 ky_Chronicle_addFelt prog_2_method_6_code 4 none 3 "PoetFines$Chronicle" := ⟨⟨wd_1394, wd_118, wd_1397, ⟨by decide, by decide⟩, by decide +kernel⟩, wd_1395, wd_1396⟩
def dl_P_forget : List (Nat × Instr × Nat) := [(0, .aload_n 0, 1), (1, .getfield 43, 3), (4, .iconst 0, 1), (5, .putfield 140, 3), (8, .return_, 1)]
theorem dc_P_forget : kdecs prog_1_method_28_code dl_P_forget = true := by decide +kernel
abbrev ky_P_forget : MethodName := ⟨"PoetFines", "forget", "()V"⟩
theorem fp_C_P_140_29 : kFp "PoetFines" 140 kcl yC 29 4 (.inl false) .int := ⟨0, _, _, _, _, kty0, rfl, rfl, rfl, by decide, kin0, wd_309, kty0_ok, knm0, rfl, by decide +kernel⟩
def dl_P_truths : List (Nat × Instr × Nat) := [(0, .aload_n 0, 1), (1, .iload_n 1, 1), (2, .iconst 2, 1), (3, .invokevirtual 154, 3), (6, .aload_n 0, 1), (7, .getfield 43, 3), (10, .invokevirtual 287, 3), (13, .istore_n 2, 1), (14, .iload_n 1, 1), (15, .iconst 2, 1), (16, .if_icmp .ne 20, 3), (19, .aload_n 0, 1), (20, .getfield 81, 3), (23, .iload_n 2, 1), (24, .invokevirtual 290, 3), (27, .ifCond .eq 7, 3), (30, .iconst 1, 1), (31, .goto 4, 3), (34, .iconst 0, 1), (35, .ireturn, 1), (36, .aload_n 0, 1), (37, .getfield 81, 3), (40, .iload_n 2, 1), (41, .invokevirtual 294, 3), (44, .iload_n 1, 1), (45, .ifCond .ne 13, 3), (48, .aload_n 0, 1), (49, .getfield 81, 3), (52, .getfield 297, 3), (55, .goto 10, 3), (58, .aload_n 0, 1), (59, .getfield 81, 3), (62, .getfield 300, 3), (65, .ireturn, 1)]
theorem dc_P_truths : kdecs prog_1_method_29_code dl_P_truths = true := by decide +kernel
abbrev ky_P_truths : MethodName := ⟨"PoetFines", "truths", "(I)I"⟩
def dl_Chronicle_lastFelt : List (Nat × Instr × Nat) := [(0, .iconst 0, 1), (1, .istore_n 1, 1), (2, .iconst 0, 1), (3, .istore_n 2, 1), (4, .iload_n 2, 1), (5, .aload_n 0, 1), (6, .getfield 29, 3), (9, .if_icmp .ge 20, 3), (12, .iload_n 1, 1), (13, .aload_n 0, 1), (14, .getfield 35, 3), (17, .iload_n 2, 1), (18, .iaload, 1), (19, .invokestatic 54, 3), (22, .istore_n 1, 1), (23, .iinc 2 1, 3), (26, .goto (-22), 3), (29, .iload_n 1, 1), (30, .ireturn, 1)]
theorem dc_Chronicle_lastFelt : kdecs prog_2_method_7_code dl_Chronicle_lastFelt = true := by decide +kernel
abbrev ky_Chronicle_lastFelt : MethodName := ⟨"PoetFines$Chronicle", "lastFelt", "()I"⟩
theorem cm_Chronicle_54 : Cond.methodLink "PoetFines$Chronicle" 54 Lib.Math.max.name ∈ kG ∧ Cond.static Lib.Math.max.name ∈ kG ∧ Cond.initialized "java/lang/Math" ∈ kG ∧ Cond.code Lib.Math.max.name Lib.Math.max.code 2 (some .int) ∈ kG := ⟨wd_1409, wd_621, wd_128, kG_of kch3 31 rfl rfl⟩
def dl_Oracle_tryTruths : List (Nat × Instr × Nat) := [(0, .aload_n 0, 1), (1, .iconst 0, 1), (2, .putfield 18, 3), (5, .aload_n 0, 1), (6, .iconst (-1), 1), (7, .putfield 22, 3), (10, .iconst 0, 1), (11, .istore_n 2, 1), (12, .iload_n 2, 1), (13, .aload_n 0, 1), (14, .getfield 29, 3), (17, .arraylength, 1), (18, .if_icmp .ge 16, 3), (21, .aload_n 0, 1), (22, .getfield 29, 3), (25, .iload_n 2, 1), (26, .lconst 0, 1), (27, .lastore, 1), (28, .iinc 2 1, 3), (31, .goto (-19), 3), (34, .iconst 0, 1), (35, .istore_n 2, 1), (36, .iload_n 2, 1), (37, .aload_n 0, 1), (38, .getfield 42, 3), (41, .getfield 79, 3), (44, .if_icmp .ge 140, 3), (47, .iconst 0, 1), (48, .istore_n 3, 1), (49, .iload_n 3, 1), (50, .aload_n 0, 1), (51, .getfield 42, 3), (54, .getfield 125, 3), (57, .if_icmp .ge 121, 3), (60, .aload_n 0, 1), (61, .getfield 42, 3), (64, .iload_n 2, 1), (65, .iload_n 3, 1), (66, .invokevirtual 128, 3), (69, .istore 4, 2), (71, .iconst 1, 1), (72, .istore 5, 2), (74, .iconst 0, 1), (75, .istore 6, 2), (77, .iconst 0, 1), (78, .istore 7, 2), (80, .iload 7, 2), (82, .bipush 9, 2), (84, .if_icmp .gt 77, 3), (87, .iload 7, 2), (89, .iload 4, 2), (91, .if_icmp .ne 6, 3), (94, .goto 61, 3), (97, .iload 5, 2), (99, .ifCond .eq 31, 3), (102, .aload_n 0, 1), (103, .getfield 42, 3), (106, .iload_n 2, 1), (107, .iload_n 3, 1), (108, .iload 7, 2), (110, .invokevirtual 131, 3), (113, .aload_n 0, 1), (114, .iload_n 1, 1), (115, .invokevirtual 135, 3), (118, .istore 6, 2), (120, .aload_n 0, 1), (121, .getfield 42, 3), (124, .iload_n 3, 1), (125, .invokevirtual 139, 3), (128, .istore 5, 2), (130, .iload 6, 2), (132, .ifCond .eq 23, 3), (135, .aload_n 0, 1), (136, .iload_n 2, 1), (137, .bipush 100, 2), (139, .imul, 1), (140, .iload_n 3, 1), (141, .bipush 10, 2), (143, .imul, 1), (144, .iadd, 1), (145, .iload 7, 2), (147, .iadd, 1), (148, .invokevirtual 142, 3), (151, .aload_n 0, 1), (152, .invokevirtual 145, 3), (155, .iinc 7 1, 3), (158, .goto (-78), 3), (161, .aload_n 0, 1), (162, .getfield 42, 3), (165, .iload_n 2, 1), (166, .iload_n 3, 1), (167, .iload 4, 2), (169, .invokevirtual 131, 3), (172, .iinc 3 1, 3), (175, .goto (-126), 3), (178, .iinc 2 1, 3), (181, .goto (-145), 3), (184, .return_, 1)]
theorem dc_Oracle_tryTruths : kdecs prog_5_method_10_code dl_Oracle_tryTruths = true := by decide +kernel
abbrev ky_Oracle_tryTruths : MethodName := ⟨"PoetFines$Oracle", "tryTruths", "(I)V"⟩
theorem fp_C_Oracle_18_57 : kFp "PoetFines$Oracle" 18 kcl yC 57 2 (.inl false) .int := ⟨3, _, _, _, _, kty3, rfl, rfl, rfl, by decide, kin3, wd_453, kty3_ok, knm3, rfl, by decide +kernel⟩
theorem fp_C_Oracle_22_57 : kFp "PoetFines$Oracle" 22 kcl yC 57 3 (.inl false) .int := ⟨3, _, _, _, _, kty3, rfl, rfl, rfl, by decide, kin3, wd_455, kty3_ok, knm3, rfl, by decide +kernel⟩
theorem fd_C_Oracle_29_57 : kFd "PoetFines$Oracle" 29 kcl yC 57 8 (.inr 61) := ⟨3, _, _, _, _, rfl, rfl, rfl, by decide, kin3, wd_461⟩
theorem fd_C_Oracle_125_3 : kFd "PoetFines$Oracle" 125 kcl yC 3 0 (.inl false) := ⟨2, _, _, _, _, rfl, rfl, rfl, by decide, kin2, wd_181⟩
def dl_Oracle_addFound : List (Nat × Instr × Nat) := [(0, .aload_n 0, 1), (1, .getfield 18, 3), (4, .ifCond .ne 8, 3), (7, .aload_n 0, 1), (8, .iload_n 1, 1), (9, .putfield 22, 3), (12, .aload_n 0, 1), (13, .dup, 1), (14, .getfield 18, 3), (17, .iconst 1, 1), (18, .iadd, 1), (19, .putfield 18, 3), (22, .return_, 1)]
theorem dc_Oracle_addFound : kdecs prog_5_method_11_code dl_Oracle_addFound = true := by decide +kernel
abbrev ky_Oracle_addFound : MethodName := ⟨"PoetFines$Oracle", "addFound", "(I)V"⟩
theorem fd_C_Oracle_18_57 : kFd "PoetFines$Oracle" 18 kcl yC 57 2 (.inl false) := ⟨3, _, _, _, _, rfl, rfl, rfl, by decide, kin3, wd_453⟩
def dl_Oracle_seeScars : List (Nat × Instr × Nat) := [(0, .iconst 0, 1), (1, .istore_n 1, 1), (2, .iload_n 1, 1), (3, .aload_n 0, 1), (4, .getfield 42, 3), (7, .getfield 79, 3), (10, .if_icmp .ge 45, 3), (13, .aload_n 0, 1), (14, .getfield 25, 3), (17, .iload_n 1, 1), (18, .iaload, 1), (19, .istore_n 2, 1), (20, .aload_n 0, 1), (21, .getfield 29, 3), (24, .iload_n 1, 1), (25, .iconst 2, 1), (26, .imul, 1), (27, .iload_n 2, 1), (28, .bipush 64, 2), (30, .if_icmp .lt 7, 3), (33, .iconst 1, 1), (34, .goto 4, 3), (37, .iconst 0, 1), (38, .iadd, 1), (39, .dup2, 1), (40, .laload, 1), (41, .lconst 1, 1), (42, .iload_n 2, 1), (43, .bipush 63, 2), (45, .iand, 1), (46, .lshl, 1), (47, .lor, 1), (48, .lastore, 1), (49, .iinc 1 1, 3), (52, .goto (-50), 3), (55, .return_, 1)]
theorem dc_Oracle_seeScars : kdecs prog_5_method_12_code dl_Oracle_seeScars = true := by decide +kernel
abbrev ky_Oracle_seeScars : MethodName := ⟨"PoetFines$Oracle", "seeScars", "()V"⟩
theorem fd_C_Oracle_25_57 : kFd "PoetFines$Oracle" 25 kcl yC 57 7 (.inr 60) := ⟨3, _, _, _, _, rfl, rfl, rfl, by decide, kin3, wd_460⟩
theorem cv_Oracle_145 : kCv "PoetFines$Oracle" 145 ky_Oracle_seeScars prog_5_method_12_code 3 none 0 "PoetFines$Oracle" := ⟨⟨wd_1439, wd_122, wd_1442, ⟨by decide, by decide⟩, by decide +kernel⟩, wd_1441, wd_42⟩
theorem cv_Oracle_142 : kCv "PoetFines$Oracle" 142 ky_Oracle_addFound prog_5_method_11_code 2 none 1 "PoetFines$Oracle" := ⟨⟨wd_1435, wd_122, wd_1438, ⟨by decide, by decide⟩, by decide +kernel⟩, wd_1437, wd_41⟩
def dl_Oracle_allFelt : List (Nat × Instr × Nat) := [(0, .aload_n 0, 1), (1, .invokevirtual 64, 3), (4, .iconst 1, 1), (5, .istore_n 2, 1), (6, .iload_n 2, 1), (7, .iload_n 1, 1), (8, .if_icmp .gt 61, 3), (11, .aload_n 0, 1), (12, .getfield 55, 3), (15, .iconst 0, 1), (16, .invokevirtual 75, 3), (19, .aload_n 0, 1), (20, .getfield 46, 3), (23, .iload_n 2, 1), (24, .aload_n 0, 1), (25, .getfield 63, 3), (28, .getfield 112, 3), (31, .invokevirtual 115, 3), (34, .ifCond .ne 5, 3), (37, .iconst 0, 1), (38, .ireturn, 1), (39, .iload_n 2, 1), (40, .iconst 5, 1), (41, .if_icmp .ne 22, 3), (44, .aload_n 0, 1), (45, .getfield 12, 3), (48, .getfield 84, 3), (51, .bipush 9, 2), (53, .aload_n 0, 1), (54, .getfield 25, 3), (57, .iconst 0, 1), (58, .bipush 8, 2), (60, .invokestatic 119, 3), (63, .iinc 2 1, 3), (66, .goto (-60), 3), (69, .iconst 1, 1), (70, .ireturn, 1)]
theorem dc_Oracle_allFelt : kdecs prog_5_method_9_code dl_Oracle_allFelt = true := by decide +kernel
abbrev ky_Oracle_allFelt : MethodName := ⟨"PoetFines$Oracle", "allFelt", "(I)Z"⟩
theorem fd_C_Oracle_112_65 : kFd "PoetFines$Oracle" 112 kcl yC 65 6 (.inl false) := ⟨7, _, _, _, _, rfl, rfl, rfl, by decide, kin7, wd_360⟩
def dl_Chronicle_agrees : List (Nat × Instr × Nat) := [(0, .iconst 0, 1), (1, .istore_n 3, 1), (2, .iload_n 3, 1), (3, .aload_n 0, 1), (4, .getfield 29, 3), (7, .if_icmp .ge 40, 3), (10, .aload_n 0, 1), (11, .getfield 35, 3), (14, .iload_n 3, 1), (15, .iaload, 1), (16, .iload_n 1, 1), (17, .if_icmp .ne 24, 3), (20, .aload_n 0, 1), (21, .getfield 38, 3), (24, .iload_n 3, 1), (25, .iaload, 1), (26, .iload_n 2, 1), (27, .aload_n 0, 1), (28, .getfield 32, 3), (31, .iload_n 3, 1), (32, .iaload, 1), (33, .ishr, 1), (34, .iconst 1, 1), (35, .iand, 1), (36, .if_icmp .eq 5, 3), (39, .iconst 0, 1), (40, .ireturn, 1), (41, .iinc 3 1, 3), (44, .goto (-42), 3), (47, .iconst 1, 1), (48, .ireturn, 1)]
theorem dc_Chronicle_agrees : kdecs prog_2_method_8_code dl_Chronicle_agrees = true := by decide +kernel
abbrev ky_Chronicle_agrees : MethodName := ⟨"PoetFines$Chronicle", "agrees", "(II)Z"⟩
theorem ca_Oracle_119 : Cond.methodLink "PoetFines$Oracle" 119 arraycopyName ∈ kG ∧ Cond.native arraycopyName ∈ kG ∧ Cond.static arraycopyName ∈ kG ∧ Cond.initialized "java/lang/System" ∈ kG := ⟨wd_1418, wd_554, wd_553, wd_136⟩
theorem cv_Oracle_115 : kCv "PoetFines$Oracle" 115 ky_Chronicle_agrees prog_2_method_8_code 4 (some .boolean) 2 "PoetFines$Chronicle" := ⟨⟨wd_1414, wd_118, wd_1417, ⟨by decide, by decide⟩, by decide +kernel⟩, wd_1415, wd_1416⟩
def dl_Law_matters : List (Nat × Instr × Nat) := [(0, .aload_n 0, 1), (1, .getfield 34, 3), (4, .iconst 0, 1), (5, .invokevirtual 60, 3), (8, .ifCond .eq 17, 3), (11, .aload_n 0, 1), (12, .getfield 34, 3), (15, .iconst 0, 1), (16, .iconst 5, 1), (17, .invokevirtual 64, 3), (20, .ifCond .ne 5, 3), (23, .iconst 0, 1), (24, .ireturn, 1), (25, .iconst 0, 1), (26, .istore_n 2, 1), (27, .iload_n 2, 1), (28, .aload_n 0, 1), (29, .getfield 18, 3), (32, .if_icmp .ge 39, 3), (35, .iconst 0, 1), (36, .istore_n 3, 1), (37, .iload_n 3, 1), (38, .aload_n 0, 1), (39, .getfield 21, 3), (42, .iload_n 2, 1), (43, .iaload, 1), (44, .if_icmp .ge 21, 3), (47, .aload_n 0, 1), (48, .iload_n 2, 1), (49, .iload_n 3, 1), (50, .invokevirtual 57, 3), (53, .iload_n 1, 1), (54, .if_icmp .ne 5, 3), (57, .iconst 1, 1), (58, .ireturn, 1), (59, .iinc 3 1, 3), (62, .goto (-25), 3), (65, .iinc 2 1, 3), (68, .goto (-41), 3), (71, .iconst 0, 1), (72, .ireturn, 1)]
theorem dc_Law_matters : kdecs prog_4_method_10_code dl_Law_matters = true := by decide +kernel
abbrev ky_Law_matters : MethodName := ⟨"PoetFines$Law", "matters", "(I)Z"⟩
theorem fd_C_Law_18_3 : kFd "PoetFines$Law" 18 kcl yC 3 2 (.inl false) := ⟨2, _, _, _, _, rfl, rfl, rfl, by decide, kin2, wd_188⟩
def dl_Rules_mentions : List (Nat × Instr × Nat) := [(0, .aload_n 0, 1), (1, .getfield 19, 3), (4, .iload_n 1, 1), (5, .iaload, 1), (6, .istore_n 3, 1), (7, .iload_n 3, 1), (8, .aload_n 0, 1), (9, .getfield 22, 3), (12, .iload_n 1, 1), (13, .iaload, 1), (14, .if_icmp .ge 23, 3), (17, .aload_n 0, 1), (18, .getfield 11, 3), (21, .iload_n 3, 1), (22, .iaload, 1), (23, .iconst (-1), 1), (24, .iload_n 2, 1), (25, .isub, 1), (26, .if_icmp .ne 5, 3), (29, .iconst 1, 1), (30, .ireturn, 1), (31, .iinc 3 1, 3), (34, .goto (-27), 3), (37, .iconst 0, 1), (38, .ireturn, 1)]
theorem dc_Rules_mentions : kdecs prog_7_method_5_code dl_Rules_mentions = true := by decide +kernel
abbrev ky_Rules_mentions : MethodName := ⟨"PoetFines$Rules", "mentions", "(II)Z"⟩
theorem cv_Law_64 : kCv "PoetFines$Law" 64 ky_Rules_mentions prog_7_method_5_code 4 (some .boolean) 2 "PoetFines$Rules" := ⟨⟨wd_1431, wd_114, wd_1434, ⟨by decide, by decide⟩, by decide +kernel⟩, wd_1432, wd_1433⟩
theorem cv_Law_60 : kCv "PoetFines$Law" 60 ky_Rules_has prog_7_method_4_code 2 (some .boolean) 1 "PoetFines$Rules" := ⟨⟨wd_1430, wd_114, wd_570, ⟨by decide, by decide⟩, by decide +kernel⟩, wd_568, wd_569⟩
theorem cv_Oracle_139 : kCv "PoetFines$Oracle" 139 ky_Law_matters prog_4_method_10_code 4 (some .boolean) 1 "PoetFines$Law" := ⟨⟨wd_1426, wd_113, wd_1429, ⟨by decide, by decide⟩, by decide +kernel⟩, wd_1427, wd_1428⟩
theorem cv_Oracle_135 : kCv "PoetFines$Oracle" 135 ky_Oracle_allFelt prog_5_method_9_code 3 (some .boolean) 1 "PoetFines$Oracle" := ⟨⟨wd_1425, wd_122, wd_1413, ⟨by decide, by decide⟩, by decide +kernel⟩, wd_1411, wd_1412⟩
theorem cv_Oracle_131 : kCv "PoetFines$Oracle" 131 ky_Law_suppose prog_4_method_6_code 4 none 3 "PoetFines$Law" := ⟨⟨wd_1424, wd_113, wd_968, ⟨by decide, by decide⟩, by decide +kernel⟩, wd_966, wd_967⟩
theorem cv_Oracle_128 : kCv "PoetFines$Oracle" 128 ky_Law_truthOf prog_4_method_5_code 3 (some .int) 2 "PoetFines$Law" := ⟨⟨wd_1423, wd_113, wd_605, ⟨by decide, by decide⟩, by decide +kernel⟩, wd_603, wd_604⟩
theorem fd_C_P_300_57 : kFd "PoetFines" 300 kcl yC 57 3 (.inl false) := ⟨3, _, _, _, _, rfl, rfl, rfl, by decide, kin3, wd_456⟩
theorem fd_C_P_297_57 : kFd "PoetFines" 297 kcl yC 57 2 (.inl false) := ⟨3, _, _, _, _, rfl, rfl, rfl, by decide, kin3, wd_454⟩
theorem cv_P_294 : kCv "PoetFines" 294 ky_Oracle_tryTruths prog_5_method_10_code 8 none 1 "PoetFines$Oracle" := ⟨⟨wd_1419, wd_122, wd_1422, ⟨by decide, by decide⟩, by decide +kernel⟩, wd_1420, wd_1421⟩
theorem cv_P_290 : kCv "PoetFines" 290 ky_Oracle_allFelt prog_5_method_9_code 3 (some .boolean) 1 "PoetFines$Oracle" := ⟨⟨wd_1410, wd_122, wd_1413, ⟨by decide, by decide⟩, by decide +kernel⟩, wd_1411, wd_1412⟩
theorem cv_P_287 : kCv "PoetFines" 287 ky_Chronicle_lastFelt prog_2_method_7_code 3 (some .int) 0 "PoetFines$Chronicle" := ⟨⟨wd_1405, wd_118, wd_1408, ⟨by decide, by decide⟩, by decide +kernel⟩, wd_1406, wd_1407⟩
def dl_P_listen : List (Nat × Instr × Nat) := [(0, .aload_n 0, 1), (1, .iload_n 1, 1), (2, .iconst 1, 1), (3, .invokevirtual 154, 3), (6, .aload_n 0, 1), (7, .getfield 81, 3), (10, .aload_n 0, 1), (11, .getfield 43, 3), (14, .invokevirtual 287, 3), (17, .iconst 5, 1), (18, .invokestatic 303, 3), (21, .invokevirtual 294, 3), (24, .aload_n 0, 1), (25, .getfield 81, 3), (28, .invokevirtual 308, 3), (31, .istore_n 2, 1), (32, .iload_n 1, 1), (33, .ifCond .ne 5, 3), (36, .iload_n 2, 1), (37, .ireturn, 1), (38, .iload_n 2, 1), (39, .iconst (-1), 1), (40, .if_icmp .ne 7, 3), (43, .iconst 0, 1), (44, .goto 11, 3), (47, .aload_n 0, 1), (48, .getfield 81, 3), (51, .iload_n 2, 1), (52, .invokevirtual 311, 3), (55, .ireturn, 1)]
theorem dc_P_listen : kdecs prog_1_method_30_code dl_P_listen = true := by decide +kernel
abbrev ky_P_listen : MethodName := ⟨"PoetFines", "listen", "(I)I"⟩
theorem cm_P_303 : Cond.methodLink "PoetFines" 303 Lib.Math.max.name ∈ kG ∧ Cond.static Lib.Math.max.name ∈ kG ∧ Cond.initialized "java/lang/Math" ∈ kG ∧ Cond.code Lib.Math.max.name Lib.Math.max.code 2 (some .int) ∈ kG := ⟨wd_1450, wd_621, wd_128, kG_of kch3 31 rfl rfl⟩
def dl_Oracle_mostUnlike : List (Nat × Instr × Nat) := [(0, .iconst (-1), 1), (1, .istore_n 1, 1), (2, .iconst 0, 1), (3, .istore_n 2, 1), (4, .iconst 0, 1), (5, .istore_n 3, 1), (6, .iload_n 3, 1), (7, .aload_n 0, 1), (8, .getfield 42, 3), (11, .getfield 79, 3), (14, .if_icmp .ge 27, 3), (17, .aload_n 0, 1), (18, .iload_n 3, 1), (19, .invokevirtual 154, 3), (22, .istore 4, 2), (24, .iload 4, 2), (26, .iload_n 2, 1), (27, .if_icmp .le 8, 3), (30, .iload_n 3, 1), (31, .istore_n 1, 1), (32, .iload 4, 2), (34, .istore_n 2, 1), (35, .iinc 3 1, 3), (38, .goto (-32), 3), (41, .iload_n 1, 1), (42, .ireturn, 1)]
theorem dc_Oracle_mostUnlike : kdecs prog_5_method_14_code dl_Oracle_mostUnlike = true := by decide +kernel
abbrev ky_Oracle_mostUnlike : MethodName := ⟨"PoetFines$Oracle", "mostUnlike", "()I"⟩
def dl_Oracle_unlikeScars : List (Nat × Instr × Nat) := [(0, .aload_n 0, 1), (1, .getfield 29, 3), (4, .iload_n 1, 1), (5, .iconst 2, 1), (6, .imul, 1), (7, .laload, 1), (8, .invokestatic 148, 3), (11, .aload_n 0, 1), (12, .getfield 29, 3), (15, .iload_n 1, 1), (16, .iconst 2, 1), (17, .imul, 1), (18, .iconst 1, 1), (19, .iadd, 1), (20, .laload, 1), (21, .invokestatic 148, 3), (24, .iadd, 1), (25, .ireturn, 1)]
theorem dc_Oracle_unlikeScars : kdecs prog_5_method_13_code dl_Oracle_unlikeScars = true := by decide +kernel
abbrev ky_Oracle_unlikeScars : MethodName := ⟨"PoetFines$Oracle", "unlikeScars", "(I)I"⟩
def dl_Long_bitCount_95d88 : List (Nat × Instr × Nat) := [(0, .lload_n 0, 1), (1, .lload_n 0, 1), (2, .iconst 1, 1), (3, .lushr, 1), (4, .ldc2_w 314, 3), (7, .land, 1), (8, .lsub, 1), (9, .lstore_n 0, 1), (10, .lload_n 0, 1), (11, .ldc2_w 316, 3), (14, .land, 1), (15, .lload_n 0, 1), (16, .iconst 2, 1), (17, .lushr, 1), (18, .ldc2_w 316, 3), (21, .land, 1), (22, .ladd, 1), (23, .lstore_n 0, 1), (24, .lload_n 0, 1), (25, .lload_n 0, 1), (26, .iconst 4, 1), (27, .lushr, 1), (28, .ladd, 1), (29, .ldc2_w 318, 3), (32, .land, 1), (33, .lstore_n 0, 1), (34, .lload_n 0, 1), (35, .lload_n 0, 1), (36, .bipush 8, 2), (38, .lushr, 1), (39, .ladd, 1), (40, .lstore_n 0, 1), (41, .lload_n 0, 1), (42, .lload_n 0, 1), (43, .bipush 16, 2), (45, .lushr, 1), (46, .ladd, 1), (47, .lstore_n 0, 1), (48, .lload_n 0, 1), (49, .lload_n 0, 1), (50, .bipush 32, 2), (52, .lushr, 1), (53, .ladd, 1), (54, .lstore_n 0, 1), (55, .lload_n 0, 1), (56, .l2i, 1), (57, .bipush 127, 2), (59, .iand, 1), (60, .ireturn, 1)]
theorem dc_Long_bitCount_95d88 : kdecs prog_23_method_50_code dl_Long_bitCount_95d88 = true := by decide +kernel
abbrev ky_Long_bitCount_95d88 : MethodName := ⟨"java/lang/Long", "bitCount", "(J)I"⟩
theorem cs_Oracle_148 : kCs "PoetFines$Oracle" 148 ky_Long_bitCount_95d88 prog_23_method_50_code 2 (some .int) 1 := ⟨⟨wd_1459, wd_139, wd_1461, ⟨by decide, by decide⟩, by decide +kernel⟩, wd_1460⟩
theorem cv_Oracle_154 : kCv "PoetFines$Oracle" 154 ky_Oracle_unlikeScars prog_5_method_13_code 2 (some .int) 1 "PoetFines$Oracle" := ⟨⟨wd_1455, wd_122, wd_1458, ⟨by decide, by decide⟩, by decide +kernel⟩, wd_1456, wd_1457⟩
theorem cv_P_311 : kCv "PoetFines" 311 ky_Oracle_unlikeScars prog_5_method_13_code 2 (some .int) 1 "PoetFines$Oracle" := ⟨⟨wd_1465, wd_122, wd_1458, ⟨by decide, by decide⟩, by decide +kernel⟩, wd_1456, wd_1457⟩
theorem cv_P_308 : kCv "PoetFines" 308 ky_Oracle_mostUnlike prog_5_method_14_code 5 (some .int) 0 "PoetFines$Oracle" := ⟨⟨wd_1451, wd_122, wd_1454, ⟨by decide, by decide⟩, by decide +kernel⟩, wd_1452, wd_1453⟩
def dl_P_accidents : List (Nat × Instr × Nat) := [(0, .aload_n 0, 1), (1, .iload_n 1, 1), (2, .invokevirtual 148, 3), (5, .aload_n 0, 1), (6, .iload_n 2, 1), (7, .iconst 1, 1), (8, .iconst 5, 1), (9, .invokevirtual 210, 3), (12, .aload_n 0, 1), (13, .iload_n 3, 1), (14, .iconst 0, 1), (15, .bipush 10, 2), (17, .invokevirtual 210, 3), (20, .aload_n 0, 1), (21, .getfield 81, 3), (24, .iload_n 1, 1), (25, .iload_n 2, 1), (26, .iload_n 3, 1), (27, .invokevirtual 314, 3), (30, .ireturn, 1)]
theorem dc_P_accidents : kdecs prog_1_method_31_code dl_P_accidents = true := by decide +kernel
abbrev ky_P_accidents : MethodName := ⟨"PoetFines", "accidents", "(III)I"⟩
def dl_Oracle_chanceWhole : List (Nat × Instr × Nat) := [(0, .iconst 0, 1), (1, .istore 4, 2), (3, .iconst 0, 1), (4, .istore 5, 2), (6, .iload 5, 2), (8, .iconst 1, 1), (9, .iload_n 2, 1), (10, .ishl, 1), (11, .if_icmp .ge 74, 3), (14, .iconst 1, 1), (15, .istore 6, 2), (17, .iconst 0, 1), (18, .istore 7, 2), (20, .iload 7, 2), (22, .iload_n 2, 1), (23, .if_icmp .ge 33, 3), (26, .iload 6, 2), (28, .iload 5, 2), (30, .iload 7, 2), (32, .ishr, 1), (33, .iconst 1, 1), (34, .iand, 1), (35, .iconst 1, 1), (36, .if_icmp .ne 7, 3), (39, .iload_n 3, 1), (40, .goto 7, 3), (43, .bipush 10, 2), (45, .iload_n 3, 1), (46, .isub, 1), (47, .imul, 1), (48, .istore 6, 2), (50, .iinc 7 1, 3), (53, .goto (-33), 3), (56, .iload 6, 2), (58, .ifCond .le 21, 3), (61, .aload_n 0, 1), (62, .iload_n 1, 1), (63, .iload_n 2, 1), (64, .iload 5, 2), (66, .invokevirtual 158, 3), (69, .ifCond .eq 10, 3), (72, .iload 4, 2), (74, .iload 6, 2), (76, .iadd, 1), (77, .istore 4, 2), (79, .iinc 5 1, 3), (82, .goto (-76), 3), (85, .iload 4, 2), (87, .ireturn, 1)]
theorem dc_Oracle_chanceWhole : kdecs prog_5_method_15_code dl_Oracle_chanceWhole = true := by decide +kernel
abbrev ky_Oracle_chanceWhole : MethodName := ⟨"PoetFines$Oracle", "chanceWhole", "(III)I"⟩
def dl_Oracle_staysWhole : List (Nat × Instr × Nat) := [(0, .aload_n 0, 1), (1, .invokevirtual 64, 3), (4, .iconst 0, 1), (5, .istore 4, 2), (7, .iload 4, 2), (9, .iload_n 2, 1), (10, .if_icmp .ge 31, 3), (13, .aload_n 0, 1), (14, .getfield 55, 3), (17, .iload_n 3, 1), (18, .iload 4, 2), (20, .ishr, 1), (21, .iconst 1, 1), (22, .iand, 1), (23, .iconst 1, 1), (24, .if_icmp .ne 7, 3), (27, .iconst 1, 1), (28, .goto 4, 3), (31, .iconst 0, 1), (32, .invokevirtual 75, 3), (35, .iinc 4 1, 3), (38, .goto (-31), 3), (41, .aload_n 0, 1), (42, .getfield 12, 3), (45, .getfield 84, 3), (48, .bipush 9, 2), (50, .iload_n 1, 1), (51, .iadd, 1), (52, .iaload, 1), (53, .ifCond .ne 7, 3), (56, .iconst 1, 1), (57, .goto 4, 3), (60, .iconst 0, 1), (61, .ireturn, 1)]
theorem dc_Oracle_staysWhole : kdecs prog_5_method_16_code dl_Oracle_staysWhole = true := by decide +kernel
abbrev ky_Oracle_staysWhole : MethodName := ⟨"PoetFines$Oracle", "staysWhole", "(III)Z"⟩
theorem cv_Oracle_158 : kCv "PoetFines$Oracle" 158 ky_Oracle_staysWhole prog_5_method_16_code 5 (some .boolean) 3 "PoetFines$Oracle" := ⟨⟨wd_1477, wd_122, wd_1480, ⟨by decide, by decide⟩, by decide +kernel⟩, wd_1479, wd_43⟩
theorem cv_P_314 : kCv "PoetFines" 314 ky_Oracle_chanceWhole prog_5_method_15_code 8 (some .int) 3 "PoetFines$Oracle" := ⟨⟨wd_1473, wd_122, wd_1476, ⟨by decide, by decide⟩, by decide +kernel⟩, wd_1474, wd_1475⟩
def dl_P_game : List (Nat × Instr × Nat) := [(0, .aload_n 0, 1), (1, .iload_n 1, 1), (2, .invokevirtual 162, 3), (5, .aload_n 0, 1), (6, .iload_n 2, 1), (7, .invokevirtual 162, 3), (10, .aload_n 0, 1), (11, .iload_n 3, 1), (12, .iconst 1, 1), (13, .invokevirtual 154, 3), (16, .iload_n 1, 1), (17, .iload_n 2, 1), (18, .if_icmp .ne 14, 3), (21, .new 89, 3), (24, .dup, 1), (25, .ldc_w 317, 3), (28, .invokespecial 93, 3), (31, .athrow, 1), (32, .aload_n 0, 1), (33, .getfield 81, 3), (36, .iload_n 1, 1), (37, .iload_n 2, 1), (38, .invokevirtual 319, 3), (41, .iload_n 3, 1), (42, .ifCond .ne 13, 3), (45, .aload_n 0, 1), (46, .getfield 81, 3), (49, .getfield 297, 3), (52, .goto 10, 3), (55, .aload_n 0, 1), (56, .getfield 81, 3), (59, .getfield 300, 3), (62, .ireturn, 1)]
theorem dc_P_game : kdecs prog_1_method_32_code dl_P_game = true := by decide +kernel
abbrev ky_P_game : MethodName := ⟨"PoetFines", "game", "(III)I"⟩
def dl_Oracle_playGame : List (Nat × Instr × Nat) := [(0, .iconst 0, 1), (1, .istore_n 3, 1), (2, .iload_n 3, 1), (3, .iconst 4, 1), (4, .if_icmp .ge 68, 3), (7, .aload_n 0, 1), (8, .invokevirtual 64, 3), (11, .iload_n 3, 1), (12, .iconst 2, 1), (13, .if_icmp .lt 11, 3), (16, .aload_n 0, 1), (17, .getfield 55, 3), (20, .iload_n 1, 1), (21, .invokevirtual 109, 3), (24, .iload_n 3, 1), (25, .iconst 2, 1), (26, .irem, 1), (27, .iconst 1, 1), (28, .if_icmp .ne 11, 3), (31, .aload_n 0, 1), (32, .getfield 55, 3), (35, .iload_n 2, 1), (36, .invokevirtual 109, 3), (39, .aload_n 0, 1), (40, .iconst 4, 1), (41, .invokevirtual 67, 3), (44, .aload_n 0, 1), (45, .getfield 33, 3), (48, .iload_n 3, 1), (49, .aload_n 0, 1), (50, .iload_n 1, 1), (51, .invokevirtual 162, 3), (54, .iastore, 1), (55, .aload_n 0, 1), (56, .getfield 36, 3), (59, .iload_n 3, 1), (60, .aload_n 0, 1), (61, .iload_n 2, 1), (62, .invokevirtual 162, 3), (65, .iastore, 1), (66, .iinc 3 1, 3), (69, .goto (-67), 3), (72, .aload_n 0, 1), (73, .iconst 0, 1), (74, .putfield 18, 3), (77, .aload_n 0, 1), (78, .iconst (-1), 1), (79, .putfield 22, 3), (82, .iconst 0, 1), (83, .istore_n 3, 1), (84, .iload_n 3, 1), (85, .iconst 4, 1), (86, .if_icmp .ge 57, 3), (89, .aload_n 0, 1), (90, .getfield 33, 3), (93, .iload_n 3, 1), (94, .iaload, 1), (95, .aload_n 0, 1), (96, .getfield 33, 3), (99, .iload_n 3, 1), (100, .iconst 2, 1), (101, .ixor, 1), (102, .iaload, 1), (103, .if_icmp .lt 34, 3), (106, .aload_n 0, 1), (107, .getfield 36, 3), (110, .iload_n 3, 1), (111, .iaload, 1), (112, .aload_n 0, 1), (113, .getfield 36, 3), (116, .iload_n 3, 1), (117, .iconst 1, 1), (118, .ixor, 1), (119, .iaload, 1), (120, .if_icmp .lt 17, 3), (123, .aload_n 0, 1), (124, .iload_n 3, 1), (125, .iconst 2, 1), (126, .idiv, 1), (127, .bipush 10, 2), (129, .imul, 1), (130, .iload_n 3, 1), (131, .iconst 2, 1), (132, .irem, 1), (133, .iadd, 1), (134, .invokevirtual 142, 3), (137, .iinc 3 1, 3), (140, .goto (-56), 3), (143, .return_, 1)]
theorem dc_Oracle_playGame : kdecs prog_5_method_17_code dl_Oracle_playGame = true := by decide +kernel
abbrev ky_Oracle_playGame : MethodName := ⟨"PoetFines$Oracle", "playGame", "(II)V"⟩
theorem fd_C_Oracle_33_57 : kFd "PoetFines$Oracle" 33 kcl yC 57 9 (.inr 62) := ⟨3, _, _, _, _, rfl, rfl, rfl, by decide, kin3, wd_462⟩
def dl_Oracle_gainOf : List (Nat × Instr × Nat) := [(0, .aload_n 0, 1), (1, .getfield 12, 3), (4, .getfield 84, 3), (7, .bipush 49, 2), (9, .iload_n 1, 1), (10, .iadd, 1), (11, .iaload, 1), (12, .iconst 3, 1), (13, .aload_n 0, 1), (14, .getfield 12, 3), (17, .getfield 84, 3), (20, .bipush 57, 2), (22, .iload_n 1, 1), (23, .iadd, 1), (24, .iaload, 1), (25, .imul, 1), (26, .isub, 1), (27, .ireturn, 1)]
theorem dc_Oracle_gainOf : kdecs prog_5_method_18_code dl_Oracle_gainOf = true := by decide +kernel
abbrev ky_Oracle_gainOf : MethodName := ⟨"PoetFines$Oracle", "gainOf", "(I)I"⟩
theorem fd_C_Oracle_36_57 : kFd "PoetFines$Oracle" 36 kcl yC 57 10 (.inr 63) := ⟨3, _, _, _, _, rfl, rfl, rfl, by decide, kin3, wd_463⟩
theorem cv_Oracle_162 : kCv "PoetFines$Oracle" 162 ky_Oracle_gainOf prog_5_method_18_code 2 (some .int) 1 "PoetFines$Oracle" := ⟨⟨wd_1493, wd_122, wd_1496, ⟨by decide, by decide⟩, by decide +kernel⟩, wd_1495, wd_44⟩
theorem cv_P_319 : kCv "PoetFines" 319 ky_Oracle_playGame prog_5_method_17_code 4 none 2 "PoetFines$Oracle" := ⟨⟨wd_1489, wd_122, wd_1492, ⟨by decide, by decide⟩, by decide +kernel⟩, wd_1490, wd_1491⟩
theorem th_P_317_93 : kTh "PoetFines" 89 317 93 "java/lang/IllegalArgumentException" "both are one" 7 prog_21_method_2_code "java/lang/RuntimeException" ["java/lang/Exception"] := ⟨⟨by decide +kernel, by decide +kernel, by decide +kernel, by decide +kernel, by decide +kernel, by decide +kernel⟩, by decide +kernel, wd_687, wd_127, by decide +kernel, tha_P_93, by decide +kernel⟩
def dl_P_decades : List (Nat × Instr × Nat) := [(0, .aload_n 0, 1), (1, .iload_n 3, 1), (2, .iconst 2, 1), (3, .invokevirtual 154, 3), (6, .aload_n 0, 1), (7, .iload_n 2, 1), (8, .iconst 0, 1), (9, .bipush 60, 2), (11, .invokevirtual 210, 3), (14, .aload_n 0, 1), (15, .getfield 81, 3), (18, .iload_n 1, 1), (19, .iload_n 2, 1), (20, .invokevirtual 322, 3), (23, .iload_n 3, 1), (24, .lookupswitch 59 #[(0, 28), (1, 39)], 28), (52, .aload_n 0, 1), (53, .getfield 81, 3), (56, .getfield 219, 3), (59, .getfield 325, 3), (62, .ireturn, 1), (63, .aload_n 0, 1), (64, .getfield 81, 3), (67, .getfield 216, 3), (70, .bipush 9, 2), (72, .aload_n 0, 1), (73, .getfield 27, 3), (76, .getfield 116, 3), (79, .invokevirtual 127, 3), (82, .ireturn, 1), (83, .aload_n 0, 1), (84, .getfield 81, 3), (87, .getfield 216, 3), (90, .iconst 1, 1), (91, .aload_n 0, 1), (92, .getfield 27, 3), (95, .getfield 116, 3), (98, .invokevirtual 127, 3), (101, .ireturn, 1)]
theorem dc_P_decades : kdecs prog_1_method_33_code dl_P_decades = true := by decide +kernel
abbrev ky_P_decades : MethodName := ⟨"PoetFines", "decades", "(III)I"⟩
def dl_Oracle_drawYears : List (Nat × Instr × Nat) := [(0, .aload_n 0, 1), (1, .invokevirtual 64, 3), (4, .aload_n 0, 1), (5, .iload_n 1, 1), (6, .putfield 39, 3), (9, .iconst 0, 1), (10, .istore_n 3, 1), (11, .iload_n 3, 1), (12, .iload_n 2, 1), (13, .if_icmp .ge 21, 3), (16, .aload_n 0, 1), (17, .invokevirtual 165, 3), (20, .aload_n 0, 1), (21, .getfield 55, 3), (24, .iconst 0, 1), (25, .invokevirtual 75, 3), (28, .iinc 3 1, 3), (31, .goto (-20), 3), (34, .return_, 1)]
theorem dc_Oracle_drawYears : kdecs prog_5_method_19_code dl_Oracle_drawYears = true := by decide +kernel
abbrev ky_Oracle_drawYears : MethodName := ⟨"PoetFines$Oracle", "drawYears", "(II)V"⟩
theorem fp_C_Oracle_39_57 : kFp "PoetFines$Oracle" 39 kcl yC 57 11 (.inl false) .int := ⟨3, _, _, _, _, kty3, rfl, rfl, rfl, by decide, kin3, wd_464, kty3_ok, knm3, rfl, by decide +kernel⟩
def dl_Oracle_drawEvent : List (Nat × Instr × Nat) := [(0, .aload_n 0, 1), (1, .bipush 6, 2), (3, .invokevirtual 168, 3), (6, .istore_n 1, 1), (7, .iload_n 1, 1), (8, .ifCond .ne 39, 3), (11, .aload_n 0, 1), (12, .getfield 42, 3), (15, .getfield 87, 3), (18, .ifCond .le 29, 3), (21, .aload_n 0, 1), (22, .getfield 12, 3), (25, .getfield 84, 3), (28, .bipush 57, 2), (30, .aload_n 0, 1), (31, .aload_n 0, 1), (32, .getfield 42, 3), (35, .getfield 87, 3), (38, .invokevirtual 168, 3), (41, .iadd, 1), (42, .iconst 0, 1), (43, .iastore, 1), (44, .goto 97, 3), (47, .iload_n 1, 1), (48, .iconst 1, 1), (49, .if_icmp .ne 39, 3), (52, .aload_n 0, 1), (53, .getfield 42, 3), (56, .getfield 79, 3), (59, .ifCond .le 29, 3), (62, .aload_n 0, 1), (63, .getfield 12, 3), (66, .getfield 84, 3), (69, .bipush 9, 2), (71, .aload_n 0, 1), (72, .aload_n 0, 1), (73, .getfield 42, 3), (76, .getfield 79, 3), (79, .invokevirtual 168, 3), (82, .iadd, 1), (83, .iconst 0, 1), (84, .iastore, 1), (85, .goto 56, 3), (88, .iload_n 1, 1), (89, .iconst 2, 1), (90, .if_icmp .ne 51, 3), (93, .aload_n 0, 1), (94, .getfield 42, 3), (97, .getfield 87, 3), (100, .ifCond .le 41, 3), (103, .aload_n 0, 1), (104, .aload_n 0, 1), (105, .getfield 42, 3), (108, .getfield 87, 3), (111, .invokevirtual 168, 3), (114, .istore_n 2, 1), (115, .aload_n 0, 1), (116, .getfield 12, 3), (119, .iload_n 2, 1), (120, .aload_n 0, 1), (121, .getfield 12, 3), (124, .getfield 84, 3), (127, .bipush 53, 2), (129, .iload_n 2, 1), (130, .iadd, 1), (131, .iaload, 1), (132, .aload_n 0, 1), (133, .bipush 10, 2), (135, .invokevirtual 168, 3), (138, .invokevirtual 171, 3), (141, .return_, 1)]
theorem dc_Oracle_drawEvent : kdecs prog_5_method_20_code dl_Oracle_drawEvent = true := by decide +kernel
abbrev ky_Oracle_drawEvent : MethodName := ⟨"PoetFines$Oracle", "drawEvent", "()V"⟩
def dl_Oracle_draw : List (Nat × Instr × Nat) := [(0, .aload_n 0, 1), (1, .aload_n 0, 1), (2, .getfield 39, 3), (5, .ldc 174, 2), (7, .imul, 1), (8, .sipush 12345, 3), (11, .iadd, 1), (12, .putfield 39, 3), (15, .aload_n 0, 1), (16, .getfield 39, 3), (19, .bipush 16, 2), (21, .iushr, 1), (22, .sipush 32767, 3), (25, .iand, 1), (26, .istore_n 2, 1), (27, .iload_n 1, 1), (28, .ifCond .le 9, 3), (31, .iload_n 2, 1), (32, .iload_n 1, 1), (33, .irem, 1), (34, .goto 4, 3), (37, .iconst 0, 1), (38, .ireturn, 1)]
theorem dc_Oracle_draw : kdecs prog_5_method_21_code dl_Oracle_draw = true := by decide +kernel
abbrev ky_Oracle_draw : MethodName := ⟨"PoetFines$Oracle", "draw", "(I)I"⟩
theorem fd_C_Oracle_39_57 : kFd "PoetFines$Oracle" 39 kcl yC 57 11 (.inl false) := ⟨3, _, _, _, _, rfl, rfl, rfl, by decide, kin3, wd_464⟩
theorem cv_Oracle_171 : kCv "PoetFines$Oracle" 171 ky_World_setDepth prog_12_method_5_code 4 none 3 "PoetFines$World" := ⟨⟨wd_1517, wd_116, wd_990, ⟨by decide, by decide⟩, by decide +kernel⟩, wd_988, wd_989⟩
theorem cv_Oracle_168 : kCv "PoetFines$Oracle" 168 ky_Oracle_draw prog_5_method_21_code 3 (some .int) 1 "PoetFines$Oracle" := ⟨⟨wd_1512, wd_122, wd_1515, ⟨by decide, by decide⟩, by decide +kernel⟩, wd_1514, wd_46⟩
theorem cv_Oracle_165 : kCv "PoetFines$Oracle" 165 ky_Oracle_drawEvent prog_5_method_20_code 3 none 0 "PoetFines$Oracle" := ⟨⟨wd_1508, wd_122, wd_1511, ⟨by decide, by decide⟩, by decide +kernel⟩, wd_1510, wd_45⟩
theorem fd_C_P_325_65 : kFd "PoetFines" 325 kcl yC 65 5 (.inl false) := ⟨7, _, _, _, _, rfl, rfl, rfl, by decide, kin7, wd_357⟩
theorem cv_P_322 : kCv "PoetFines" 322 ky_Oracle_drawYears prog_5_method_19_code 4 none 2 "PoetFines$Oracle" := ⟨⟨wd_1504, wd_122, wd_1507, ⟨by decide, by decide⟩, by decide +kernel⟩, wd_1505, wd_1506⟩
def dl_P_jailed : List (Nat × Instr × Nat) := [(0, .aload_n 0, 1), (1, .iload_n 1, 1), (2, .invokevirtual 162, 3), (5, .aload_n 0, 1), (6, .iload_n 2, 1), (7, .iconst 0, 1), (8, .bipush 60, 2), (10, .invokevirtual 210, 3), (13, .aload_n 0, 1), (14, .getfield 81, 3), (17, .iload_n 2, 1), (18, .invokevirtual 213, 3), (21, .iload_n 2, 1), (22, .aload_n 0, 1), (23, .getfield 81, 3), (26, .getfield 219, 3), (29, .getfield 231, 3), (32, .iload_n 1, 1), (33, .iaload, 1), (34, .isub, 1), (35, .ireturn, 1)]
theorem dc_P_jailed : kdecs prog_1_method_34_code dl_P_jailed = true := by decide +kernel
abbrev ky_P_jailed : MethodName := ⟨"PoetFines", "jailed", "(II)I"⟩
def dl_P_into : List (Nat × Instr × Nat) := [(0, .aload_n 0, 1), (1, .iload_n 1, 1), (2, .invokevirtual 148, 3), (5, .aload_n 0, 1), (6, .iload_n 2, 1), (7, .invokevirtual 162, 3), (10, .aload_n 0, 1), (11, .iload_n 3, 1), (12, .iconst 0, 1), (13, .bipush 60, 2), (15, .invokevirtual 210, 3), (18, .aload_n 0, 1), (19, .getfield 81, 3), (22, .iload_n 3, 1), (23, .invokevirtual 213, 3), (26, .aload_n 0, 1), (27, .getfield 81, 3), (30, .getfield 219, 3), (33, .getfield 328, 3), (36, .iload_n 2, 1), (37, .bipush 8, 2), (39, .imul, 1), (40, .iload_n 1, 1), (41, .iadd, 1), (42, .iaload, 1), (43, .ireturn, 1)]
theorem dc_P_into : kdecs prog_1_method_35_code dl_P_into = true := by decide +kernel
abbrev ky_P_into : MethodName := ⟨"PoetFines", "into", "(III)I"⟩
theorem fd_C_P_328_65 : kFd "PoetFines" 328 kcl yC 65 3 (.inr 69) := ⟨7, _, _, _, _, rfl, rfl, rfl, by decide, kin7, wd_353⟩
def dl_P_laureate : List (Nat × Instr × Nat) := [(0, .aload_n 0, 1), (1, .iload_n 1, 1), (2, .iconst 0, 1), (3, .bipush 60, 2), (5, .invokevirtual 210, 3), (8, .aload_n 0, 1), (9, .getfield 81, 3), (12, .iload_n 1, 1), (13, .invokevirtual 213, 3), (16, .aload_n 0, 1), (17, .getfield 81, 3), (20, .invokevirtual 331, 3), (23, .ireturn, 1)]
theorem dc_P_laureate : kdecs prog_1_method_36_code dl_P_laureate = true := by decide +kernel
abbrev ky_P_laureate : MethodName := ⟨"PoetFines", "laureate", "(I)I"⟩
def dl_Oracle_leastPaying : List (Nat × Instr × Nat) := [(0, .iconst (-1), 1), (1, .istore_n 1, 1), (2, .iconst 0, 1), (3, .istore_n 2, 1), (4, .iload_n 2, 1), (5, .aload_n 0, 1), (6, .getfield 42, 3), (9, .getfield 87, 3), (12, .if_icmp .ge 37, 3), (15, .iload_n 1, 1), (16, .iconst (-1), 1), (17, .if_icmp .eq 24, 3), (20, .aload_n 0, 1), (21, .getfield 63, 3), (24, .getfield 90, 3), (27, .iload_n 2, 1), (28, .iaload, 1), (29, .aload_n 0, 1), (30, .getfield 63, 3), (33, .getfield 90, 3), (36, .iload_n 1, 1), (37, .iaload, 1), (38, .if_icmp .ge 5, 3), (41, .iload_n 2, 1), (42, .istore_n 1, 1), (43, .iinc 2 1, 3), (46, .goto (-42), 3), (49, .iload_n 1, 1), (50, .ireturn, 1)]
theorem dc_Oracle_leastPaying : kdecs prog_5_method_6_code dl_Oracle_leastPaying = true := by decide +kernel
abbrev ky_Oracle_leastPaying : MethodName := ⟨"PoetFines$Oracle", "leastPaying", "()I"⟩
theorem fd_C_Oracle_90_65 : kFd "PoetFines$Oracle" 90 kcl yC 65 0 (.inr 66) := ⟨7, _, _, _, _, rfl, rfl, rfl, by decide, kin7, wd_343⟩
theorem cv_P_331 : kCv "PoetFines" 331 ky_Oracle_leastPaying prog_5_method_6_code 3 (some .int) 0 "PoetFines$Oracle" := ⟨⟨wd_1539, wd_122, wd_1542, ⟨by decide, by decide⟩, by decide +kernel⟩, wd_1540, wd_1541⟩
def dl_P_plaintiff : List (Nat × Instr × Nat) := [(0, .aload_n 0, 1), (1, .iload_n 1, 1), (2, .invokevirtual 148, 3), (5, .aload_n 0, 1), (6, .getfield 72, 3), (9, .iload_n 1, 1), (10, .invokevirtual 334, 3), (13, .ireturn, 1)]
theorem dc_P_plaintiff : kdecs prog_1_method_37_code dl_P_plaintiff = true := by decide +kernel
abbrev ky_P_plaintiff : MethodName := ⟨"PoetFines", "plaintiff", "(I)I"⟩
def dl_Court_bestDebtor : List (Nat × Instr × Nat) := [(0, .iconst (-1), 1), (1, .istore_n 2, 1), (2, .iconst 0, 1), (3, .istore_n 3, 1), (4, .iconst 0, 1), (5, .istore 4, 2), (7, .iload 4, 2), (9, .aload_n 0, 1), (10, .getfield 34, 3), (13, .getfield 95, 3), (16, .if_icmp .ge 30, 3), (19, .aload_n 0, 1), (20, .iload 4, 2), (22, .iload_n 1, 1), (23, .invokevirtual 87, 3), (26, .istore 5, 2), (28, .iload 5, 2), (30, .iload_n 3, 1), (31, .if_icmp .le 9, 3), (34, .iload 4, 2), (36, .istore_n 2, 1), (37, .iload 5, 2), (39, .istore_n 3, 1), (40, .iinc 4 1, 3), (43, .goto (-36), 3), (46, .iload_n 2, 1), (47, .ireturn, 1)]
theorem dc_Court_bestDebtor : kdecs prog_3_method_9_code dl_Court_bestDebtor = true := by decide +kernel
abbrev ky_Court_bestDebtor : MethodName := ⟨"PoetFines$Court", "bestDebtor", "(I)I"⟩
theorem cv_P_334 : kCv "PoetFines" 334 ky_Court_bestDebtor prog_3_method_9_code 6 (some .int) 1 "PoetFines$Court" := ⟨⟨wd_1550, wd_121, wd_1553, ⟨by decide, by decide⟩, by decide +kernel⟩, wd_1551, wd_1552⟩
def dl_P_image : List (Nat × Instr × Nat) := [(0, .aload_n 0, 1), (1, .getfield 47, 3), (4, .aload_n 0, 1), (5, .getfield 43, 3), (8, .invokevirtual 337, 3), (11, .aload_n 0, 1), (12, .iconst 1, 1), (13, .putfield 50, 3), (16, .return_, 1)]
theorem dc_P_image : kdecs prog_1_method_38_code dl_P_image = true := by decide +kernel
abbrev ky_P_image : MethodName := ⟨"PoetFines", "image", "()V"⟩
theorem fd_C_P_47_0 : kFd "PoetFines" 47 kcl yC 0 7 (.inr 36) := ⟨10, _, _, _, _, rfl, rfl, rfl, by decide, kin10, wd_498⟩
def dl_Chronicle_copyFrom : List (Nat × Instr × Nat) := [(0, .aload_n 0, 1), (1, .getfield 12, 3), (4, .aload_n 1, 1), (5, .getfield 12, 3), (8, .invokevirtual 41, 3), (11, .aload_n 0, 1), (12, .aload_n 1, 1), (13, .getfield 18, 3), (16, .putfield 18, 3), (19, .aload_n 0, 1), (20, .aload_n 1, 1), (21, .getfield 26, 3), (24, .putfield 26, 3), (27, .aload_n 1, 1), (28, .getfield 22, 3), (31, .iconst 0, 1), (32, .aload_n 0, 1), (33, .getfield 22, 3), (36, .iconst 0, 1), (37, .aload_n 0, 1), (38, .getfield 22, 3), (41, .arraylength, 1), (42, .invokestatic 45, 3), (45, .aload_n 0, 1), (46, .aload_n 1, 1), (47, .getfield 29, 3), (50, .putfield 29, 3), (53, .aload_n 1, 1), (54, .getfield 32, 3), (57, .iconst 0, 1), (58, .aload_n 0, 1), (59, .getfield 32, 3), (62, .iconst 0, 1), (63, .bipush 8, 2), (65, .invokestatic 45, 3), (68, .aload_n 1, 1), (69, .getfield 35, 3), (72, .iconst 0, 1), (73, .aload_n 0, 1), (74, .getfield 35, 3), (77, .iconst 0, 1), (78, .bipush 8, 2), (80, .invokestatic 45, 3), (83, .aload_n 1, 1), (84, .getfield 38, 3), (87, .iconst 0, 1), (88, .aload_n 0, 1), (89, .getfield 38, 3), (92, .iconst 0, 1), (93, .bipush 8, 2), (95, .invokestatic 45, 3), (98, .return_, 1)]
theorem dc_Chronicle_copyFrom : kdecs prog_2_method_3_code dl_Chronicle_copyFrom = true := by decide +kernel
abbrev ky_Chronicle_copyFrom : MethodName := ⟨"PoetFines$Chronicle", "copyFrom", "(LPoetFines$Chronicle;)V"⟩
theorem fd_C_Chronicle_12_36 : kFd "PoetFines$Chronicle" 12 kcl yC 36 0 (.inr 37) := ⟨0, _, _, _, _, rfl, rfl, rfl, by decide, kin0, wd_301⟩
theorem fd_C_World_11_37 : kFd "PoetFines$World" 11 kcl yC 37 0 (.inr 38) := ⟨9, _, _, _, _, rfl, rfl, rfl, by decide, kin9, wd_233⟩
theorem fp_C_Chronicle_18_36 : kFp "PoetFines$Chronicle" 18 kcl yC 36 1 (.inl false) .int := ⟨0, _, _, _, _, kty0, rfl, rfl, rfl, by decide, kin0, wd_304, kty0_ok, knm0, rfl, by decide +kernel⟩
theorem fp_C_Chronicle_26_36 : kFp "PoetFines$Chronicle" 26 kcl yC 36 3 (.inl false) .int := ⟨0, _, _, _, _, kty0, rfl, rfl, rfl, by decide, kin0, wd_307, kty0_ok, knm0, rfl, by decide +kernel⟩
theorem fd_C_Chronicle_22_36 : kFd "PoetFines$Chronicle" 22 kcl yC 36 2 (.inr 39) := ⟨0, _, _, _, _, rfl, rfl, rfl, by decide, kin0, wd_306⟩
theorem fp_C_Chronicle_29_36 : kFp "PoetFines$Chronicle" 29 kcl yC 36 4 (.inl false) .int := ⟨0, _, _, _, _, kty0, rfl, rfl, rfl, by decide, kin0, wd_308, kty0_ok, knm0, rfl, by decide +kernel⟩
theorem fd_C_Chronicle_32_36 : kFd "PoetFines$Chronicle" 32 kcl yC 36 5 (.inr 40) := ⟨0, _, _, _, _, rfl, rfl, rfl, by decide, kin0, wd_310⟩
theorem fd_C_Chronicle_35_36 : kFd "PoetFines$Chronicle" 35 kcl yC 36 6 (.inr 41) := ⟨0, _, _, _, _, rfl, rfl, rfl, by decide, kin0, wd_311⟩
theorem fd_C_Chronicle_38_36 : kFd "PoetFines$Chronicle" 38 kcl yC 36 7 (.inr 42) := ⟨0, _, _, _, _, rfl, rfl, rfl, by decide, kin0, wd_312⟩
theorem cv_P_337 : kCv "PoetFines" 337 ky_Chronicle_copyFrom prog_2_method_3_code 2 none 1 "PoetFines$Chronicle" := ⟨⟨wd_666, wd_118, wd_669, ⟨by decide, by decide⟩, by decide +kernel⟩, wd_667, wd_668⟩
def dl_P_restore : List (Nat × Instr × Nat) := [(0, .aload_n 0, 1), (1, .getfield 50, 3), (4, .ifCond .eq 14, 3), (7, .aload_n 0, 1), (8, .getfield 43, 3), (11, .aload_n 0, 1), (12, .getfield 47, 3), (15, .invokevirtual 337, 3), (18, .aload_n 0, 1), (19, .getfield 50, 3), (22, .ireturn, 1)]
theorem dc_P_restore : kdecs prog_1_method_39_code dl_P_restore = true := by decide +kernel
abbrev ky_P_restore : MethodName := ⟨"PoetFines", "restore", "()Z"⟩
theorem fd_C_P_50_0 : kFd "PoetFines" 50 kcl yC 0 8 (.inl false) := ⟨10, _, _, _, _, rfl, rfl, rfl, by decide, kin10, wd_499⟩
theorem fd_C_Chronicle_18_36 : kFd "PoetFines$Chronicle" 18 kcl yC 36 1 (.inl false) := ⟨0, _, _, _, _, rfl, rfl, rfl, by decide, kin0, wd_304⟩
theorem fd_C_Chronicle_26_36 : kFd "PoetFines$Chronicle" 26 kcl yC 36 3 (.inl false) := ⟨0, _, _, _, _, rfl, rfl, rfl, by decide, kin0, wd_307⟩
theorem fd_C_Chronicle_29_36 : kFd "PoetFines$Chronicle" 29 kcl yC 36 4 (.inl false) := ⟨0, _, _, _, _, rfl, rfl, rfl, by decide, kin0, wd_308⟩
