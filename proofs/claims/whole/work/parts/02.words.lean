theorem wt0 : Cond.initialized RL ∈ WA := wa_t (i := 0) (by decide +kernel) rfl
theorem wt1 : Cond.initialized RX8 ∈ WA := wa_t (i := 1) (by decide +kernel) rfl
theorem wt2 : Cond.initialized RX6 ∈ WA := wa_t (i := 2) (by decide +kernel) rfl
theorem wt3 : Cond.initialized RX4 ∈ WA := wa_t (i := 3) (by decide +kernel) rfl
theorem wt4 : Cond.initialized RX1 ∈ WA := wa_t (i := 4) (by decide +kernel) rfl
theorem wt5 : Cond.initialized RX2 ∈ WA := wa_t (i := 5) (by decide +kernel) rfl
theorem wt6 : Cond.initialized RX7 ∈ WA := wa_t (i := 6) (by decide +kernel) rfl
theorem wt7 : Cond.initialized RX3 ∈ WA := wa_t (i := 7) (by decide +kernel) rfl
theorem wt8 : Cond.initialized RJ0 ∈ WA := wa_t (i := 8) (by decide +kernel) rfl
theorem wt9 : Cond.initialized RJ1 ∈ WA := wa_t (i := 9) (by decide +kernel) rfl
theorem wt10 : Cond.initialized RJ3 ∈ WA := wa_t (i := 10) (by decide +kernel) rfl
theorem wt11 : Cond.initialized RJ2 ∈ WA := wa_t (i := 11) (by decide +kernel) rfl
theorem wt12 : Cond.initialized RX9 ∈ WA := wa_t (i := 12) (by decide +kernel) rfl
theorem wt13 : Cond.initialized RJ6 ∈ WA := wa_t (i := 13) (by decide +kernel) rfl
theorem wt14 : Cond.initialized RX0 ∈ WA := wa_t (i := 14) (by decide +kernel) rfl
theorem wt15 : Cond.initialized RX5 ∈ WA := wa_t (i := 15) (by decide +kernel) rfl
theorem wt16 : Cond.classLink RL 7 RX8 ∈ WA := wa_t (i := 16) (by decide +kernel) rfl
theorem wt17 : Cond.instantiable RX8 12 ∈ WA := wa_t (i := 17) (by decide +kernel) rfl
theorem wt18 : Cond.methodLink RL 9 yX8_init ∈ WA := wa_t (i := 18) (by decide +kernel) rfl
theorem wt19 : Cond.instanceMethod yX8_init ∈ WA := wa_t (i := 19) (by decide +kernel) rfl
theorem wt20 : Cond.code yX8_init prog_1_method_1_code 1 (none : Option Jvm.ClassFile.FieldType) ∈ WA := wa_t (i := 20) (by decide +kernel) rfl
theorem wt21 : Cond.methodLink RX8 3 Jvm.Lib.objectInit ∈ WA := wa_t (i := 21) (by decide +kernel) rfl
theorem wt22 : Cond.instanceMethod Jvm.Lib.objectInit ∈ WA := wa_t (i := 22) (by decide +kernel) rfl
theorem wt23 : Cond.code Jvm.Lib.objectInit object_method_1_code 1 (none : Option Jvm.ClassFile.FieldType) ∈ WA := wa_t (i := 23) (by decide +kernel) rfl
theorem wt24 : Cond.classLink RX8 9 RX6 ∈ WA := wa_t (i := 24) (by decide +kernel) rfl
theorem wt25 : Cond.instantiable RX6 2 ∈ WA := wa_t (i := 25) (by decide +kernel) rfl
theorem wt27 : Cond.instanceMethod yX6_init ∈ WA := wa_t (i := 27) (by decide +kernel) rfl
theorem wt28 : Cond.code yX6_init prog_8_method_1_code 1 (none : Option Jvm.ClassFile.FieldType) ∈ WA := wa_t (i := 28) (by decide +kernel) rfl
theorem wt29 : Cond.methodLink RX6 3 Jvm.Lib.objectInit ∈ WA := wa_t (i := 29) (by decide +kernel) rfl
theorem wt30 : Cond.fieldLink "FloorOfProofs$Text" 9 "FloorOfProofs$Text" "bytes" "[I" ∈ WA := wa_t (i := 30) (by decide +kernel) rfl
theorem wt31 : Cond.fieldLink "FloorOfProofs$Text" 15 "FloorOfProofs$Text" "size" "I" ∈ WA := wa_t (i := 31) (by decide +kernel) rfl
theorem wt37 : Cond.arrayClass .int ∈ WA := wa_t (i := 37) (by decide +kernel) rfl
theorem wt38 : Cond.classLink RX8 16 RX4 ∈ WA := wa_t (i := 38) (by decide +kernel) rfl
theorem wt39 : Cond.instantiable RX4 2 ∈ WA := wa_t (i := 39) (by decide +kernel) rfl
theorem wt41 : Cond.instanceMethod yX4_init ∈ WA := wa_t (i := 41) (by decide +kernel) rfl
theorem wt42 : Cond.code yX4_init prog_6_method_1_code 1 (none : Option Jvm.ClassFile.FieldType) ∈ WA := wa_t (i := 42) (by decide +kernel) rfl
theorem wt43 : Cond.methodLink RX4 3 Jvm.Lib.objectInit ∈ WA := wa_t (i := 43) (by decide +kernel) rfl
theorem wt44 : Cond.fieldLink "FloorOfProofs$Reader" 11 "FloorOfProofs$Reader" "numbers" "[I" ∈ WA := wa_t (i := 44) (by decide +kernel) rfl
theorem wt45 : Cond.fieldLink "FloorOfProofs$Reader" 20 "FloorOfProofs$Reader" "onlyStonesTold" "Z" ∈ WA := wa_t (i := 45) (by decide +kernel) rfl
theorem wt51 : Cond.classLink RX8 23 RX1 ∈ WA := wa_t (i := 51) (by decide +kernel) rfl
theorem wt52 : Cond.instantiable RX1 11 ∈ WA := wa_t (i := 52) (by decide +kernel) rfl
theorem wt54 : Cond.instanceMethod yX1_init ∈ WA := wa_t (i := 54) (by decide +kernel) rfl
theorem wt55 : Cond.code yX1_init prog_3_method_1_code 1 (none : Option Jvm.ClassFile.FieldType) ∈ WA := wa_t (i := 55) (by decide +kernel) rfl
theorem wt56 : Cond.methodLink RX1 3 Jvm.Lib.objectInit ∈ WA := wa_t (i := 56) (by decide +kernel) rfl
theorem wt57 : Cond.fieldLink "FloorOfProofs$Floor" 9 "FloorOfProofs$Floor" "firsts" "[I" ∈ WA := wa_t (i := 57) (by decide +kernel) rfl
theorem wt58 : Cond.fieldLink "FloorOfProofs$Floor" 15 "FloorOfProofs$Floor" "seconds" "[I" ∈ WA := wa_t (i := 58) (by decide +kernel) rfl
theorem wt59 : Cond.fieldLink "FloorOfProofs$Floor" 18 "FloorOfProofs$Floor" "ends" "[I" ∈ WA := wa_t (i := 59) (by decide +kernel) rfl
theorem wt60 : Cond.fieldLink "FloorOfProofs$Floor" 21 "FloorOfProofs$Floor" "origins" "[I" ∈ WA := wa_t (i := 60) (by decide +kernel) rfl
theorem wt61 : Cond.fieldLink "FloorOfProofs$Floor" 24 "FloorOfProofs$Floor" "gainsayers" "[I" ∈ WA := wa_t (i := 61) (by decide +kernel) rfl
theorem wt62 : Cond.fieldLink "FloorOfProofs$Floor" 27 "FloorOfProofs$Floor" "wear" "[I" ∈ WA := wa_t (i := 62) (by decide +kernel) rfl
theorem wt63 : Cond.fieldLink "FloorOfProofs$Floor" 52 "FloorOfProofs$Floor" "stoneCount" "I" ∈ WA := wa_t (i := 63) (by decide +kernel) rfl
theorem wt64 : Cond.fieldLink "FloorOfProofs$Floor" 34 "FloorOfProofs$Floor" "stepCount" "I" ∈ WA := wa_t (i := 64) (by decide +kernel) rfl
theorem wt65 : Cond.fieldLink "FloorOfProofs$Floor" 38 "FloorOfProofs$Floor" "begins" "I" ∈ WA := wa_t (i := 65) (by decide +kernel) rfl
theorem wt66 : Cond.fieldLink "FloorOfProofs$Floor" 55 "FloorOfProofs$Floor" "there" "I" ∈ WA := wa_t (i := 66) (by decide +kernel) rfl
theorem wt67 : Cond.fieldLink "FloorOfProofs$Floor" 41 "FloorOfProofs$Floor" "stood" "I" ∈ WA := wa_t (i := 67) (by decide +kernel) rfl
theorem wt91 : Cond.classLink RX8 39 RX2 ∈ WA := wa_t (i := 91) (by decide +kernel) rfl
theorem wt92 : Cond.instantiable RX2 3 ∈ WA := wa_t (i := 92) (by decide +kernel) rfl
theorem wt94 : Cond.instanceMethod yX2_init ∈ WA := wa_t (i := 94) (by decide +kernel) rfl
theorem wt95 : Cond.code yX2_init prog_4_method_1_code 1 (none : Option Jvm.ClassFile.FieldType) ∈ WA := wa_t (i := 95) (by decide +kernel) rfl
theorem wt96 : Cond.methodLink RX2 3 Jvm.Lib.objectInit ∈ WA := wa_t (i := 96) (by decide +kernel) rfl
theorem wt97 : Cond.fieldLink "FloorOfProofs$Past" 9 "FloorOfProofs$Past" "kinds" "[I" ∈ WA := wa_t (i := 97) (by decide +kernel) rfl
theorem wt98 : Cond.fieldLink "FloorOfProofs$Past" 15 "FloorOfProofs$Past" "stones" "[I" ∈ WA := wa_t (i := 98) (by decide +kernel) rfl
theorem wt99 : Cond.fieldLink "FloorOfProofs$Past" 18 "FloorOfProofs$Past" "size" "I" ∈ WA := wa_t (i := 99) (by decide +kernel) rfl
theorem wt107 : Cond.classLink RX8 46 RX7 ∈ WA := wa_t (i := 107) (by decide +kernel) rfl
theorem wt108 : Cond.instantiable RX7 2 ∈ WA := wa_t (i := 108) (by decide +kernel) rfl
theorem wt110 : Cond.instanceMethod yX7_init ∈ WA := wa_t (i := 110) (by decide +kernel) rfl
theorem wt111 : Cond.code yX7_init prog_9_method_1_code 1 (none : Option Jvm.ClassFile.FieldType) ∈ WA := wa_t (i := 111) (by decide +kernel) rfl
theorem wt112 : Cond.methodLink RX7 3 Jvm.Lib.objectInit ∈ WA := wa_t (i := 112) (by decide +kernel) rfl
theorem wt113 : Cond.fieldLink "FloorOfProofs$Walks" 9 "FloorOfProofs$Walks" "fewest" "[I" ∈ WA := wa_t (i := 113) (by decide +kernel) rfl
theorem wt114 : Cond.fieldLink "FloorOfProofs$Walks" 15 "FloorOfProofs$Walks" "rows" "[I" ∈ WA := wa_t (i := 114) (by decide +kernel) rfl
theorem wt120 : Cond.classLink RX8 53 RX3 ∈ WA := wa_t (i := 120) (by decide +kernel) rfl
theorem wt121 : Cond.instantiable RX3 2 ∈ WA := wa_t (i := 121) (by decide +kernel) rfl
theorem wt123 : Cond.instanceMethod yX3_init ∈ WA := wa_t (i := 123) (by decide +kernel) rfl
theorem wt124 : Cond.code yX3_init prog_5_method_1_code 1 (none : Option Jvm.ClassFile.FieldType) ∈ WA := wa_t (i := 124) (by decide +kernel) rfl
theorem wt125 : Cond.methodLink RX3 3 Jvm.Lib.objectInit ∈ WA := wa_t (i := 125) (by decide +kernel) rfl
theorem wt126 : Cond.fieldLink "FloorOfProofs$ProofRows" 9 "FloorOfProofs$ProofRows" "reaches" "[I" ∈ WA := wa_t (i := 126) (by decide +kernel) rfl
theorem wt127 : Cond.fieldLink "FloorOfProofs$ProofRows" 21 "FloorOfProofs$ProofRows" "sets" "I" ∈ WA := wa_t (i := 127) (by decide +kernel) rfl
theorem wt134 : Cond.methodLink RX8 66 yX6_addSigns ∈ WA := wa_t (i := 134) (by decide +kernel) rfl
theorem wt135 : Cond.instanceMethod yX6_addSigns ∈ WA := wa_t (i := 135) (by decide +kernel) rfl
theorem wt136 : Cond.selects RX6 yX6_addSigns yX6_addSigns ∈ WA := wa_t (i := 136) (by decide +kernel) rfl
theorem wt137 : Cond.code yX6_addSigns prog_8_method_5_code 3 (none : Option Jvm.ClassFile.FieldType) ∈ WA := wa_t (i := 137) (by decide +kernel) rfl
theorem wt138 : Cond.methodLink RX6 23 yJ0_length_8abf5 ∈ WA := wa_t (i := 138) (by decide +kernel) rfl
theorem wt139 : Cond.instanceMethod yJ0_length_8abf5 ∈ WA := wa_t (i := 139) (by decide +kernel) rfl
theorem wt140 : Cond.selects RJ0 yJ0_length_8abf5 yJ0_length_8abf5 ∈ WA := wa_t (i := 140) (by decide +kernel) rfl
theorem wt141 : Cond.code yJ0_length_8abf5 prog_13_method_54_code 1 (some .int) ∈ WA := wa_t (i := 141) (by decide +kernel) rfl
theorem wt142 : Cond.methodLink RJ0 335 yJ0_coder_7d493 ∈ WA := wa_t (i := 142) (by decide +kernel) rfl
theorem wt143 : Cond.instanceMethod yJ0_coder_7d493 ∈ WA := wa_t (i := 143) (by decide +kernel) rfl
theorem wt144 : Cond.selects RJ0 yJ0_coder_7d493 yJ0_coder_7d493 ∈ WA := wa_t (i := 144) (by decide +kernel) rfl
theorem wt145 : Cond.code yJ0_coder_7d493 prog_13_method_152_code 1 (some .byte) ∈ WA := wa_t (i := 145) (by decide +kernel) rfl
theorem wt146 : Cond.fieldLink "java/lang/String" 38 "java/lang/String" "COMPACT_STRINGS" "Z" ∈ WA := wa_t (i := 146) (by decide +kernel) rfl
theorem wt148 : Cond.methodLink RX6 29 yJ0_charAt_5068e ∈ WA := wa_t (i := 148) (by decide +kernel) rfl
theorem wt149 : Cond.instanceMethod yJ0_charAt_5068e ∈ WA := wa_t (i := 149) (by decide +kernel) rfl
theorem wt150 : Cond.selects RJ0 yJ0_charAt_5068e yJ0_charAt_5068e ∈ WA := wa_t (i := 150) (by decide +kernel) rfl
theorem wt151 : Cond.code yJ0_charAt_5068e prog_13_method_56_code 2 (some .char) ∈ WA := wa_t (i := 151) (by decide +kernel) rfl
theorem wt152 : Cond.methodLink RJ0 492 yJ0_isLatin1_aae02 ∈ WA := wa_t (i := 152) (by decide +kernel) rfl
theorem wt153 : Cond.instanceMethod yJ0_isLatin1_aae02 ∈ WA := wa_t (i := 153) (by decide +kernel) rfl
theorem wt154 : Cond.selects RJ0 yJ0_isLatin1_aae02 yJ0_isLatin1_aae02 ∈ WA := wa_t (i := 154) (by decide +kernel) rfl
theorem wt155 : Cond.code yJ0_isLatin1_aae02 prog_13_method_154_code 1 (some .boolean) ∈ WA := wa_t (i := 155) (by decide +kernel) rfl
theorem wt156 : Cond.methodLink RJ0 495 yJ1_charAt_3b067 ∈ WA := wa_t (i := 156) (by decide +kernel) rfl
theorem wt157 : Cond.static yJ1_charAt_3b067 ∈ WA := wa_t (i := 157) (by decide +kernel) rfl
theorem wt158 : Cond.code yJ1_charAt_3b067 prog_14_method_2_code 2 (some .char) ∈ WA := wa_t (i := 158) (by decide +kernel) rfl
theorem wt159 : Cond.methodLink RJ1 9 yJ0_checkIndex_df160 ∈ WA := wa_t (i := 159) (by decide +kernel) rfl
theorem wt160 : Cond.static yJ0_checkIndex_df160 ∈ WA := wa_t (i := 160) (by decide +kernel) rfl
theorem wt161 : Cond.code yJ0_checkIndex_df160 prog_13_method_155_code 2 (none : Option Jvm.ClassFile.FieldType) ∈ WA := wa_t (i := 161) (by decide +kernel) rfl
theorem wt162 : Cond.fieldLink "java/lang/String" 1053 "jdk/internal/util/Preconditions" "SIOOBE_FORMATTER" "Ljava/util/function/BiFunction;" ∈ WA := wa_t (i := 162) (by decide +kernel) rfl
theorem wt164 : Cond.methodLink RJ0 1059 yJ3_checkIndex_8e157 ∈ WA := wa_t (i := 164) (by decide +kernel) rfl
theorem wt165 : Cond.static yJ3_checkIndex_8e157 ∈ WA := wa_t (i := 165) (by decide +kernel) rfl
theorem wt166 : Cond.code yJ3_checkIndex_8e157 prog_16_method_11_code 3 (some .int) ∈ WA := wa_t (i := 166) (by decide +kernel) rfl
theorem wt167 : Cond.methodLink RJ0 498 yJ2_charAt_3b067 ∈ WA := wa_t (i := 167) (by decide +kernel) rfl
theorem wt168 : Cond.static yJ2_charAt_3b067 ∈ WA := wa_t (i := 168) (by decide +kernel) rfl
theorem wt169 : Cond.code yJ2_charAt_3b067 prog_15_method_83_code 2 (some .char) ∈ WA := wa_t (i := 169) (by decide +kernel) rfl
theorem wt170 : Cond.methodLink RJ2 67 yJ2_checkIndex_2214a ∈ WA := wa_t (i := 170) (by decide +kernel) rfl
theorem wt171 : Cond.static yJ2_checkIndex_2214a ∈ WA := wa_t (i := 171) (by decide +kernel) rfl
theorem wt172 : Cond.code yJ2_checkIndex_2214a prog_15_method_91_code 2 (none : Option Jvm.ClassFile.FieldType) ∈ WA := wa_t (i := 172) (by decide +kernel) rfl
theorem wt173 : Cond.methodLink RJ2 48 yJ2_length_9d52b ∈ WA := wa_t (i := 173) (by decide +kernel) rfl
theorem wt174 : Cond.static yJ2_length_9d52b ∈ WA := wa_t (i := 174) (by decide +kernel) rfl
theorem wt175 : Cond.code yJ2_length_9d52b prog_15_method_6_code 1 (some .int) ∈ WA := wa_t (i := 175) (by decide +kernel) rfl
theorem wt176 : Cond.methodLink RJ2 414 yJ0_checkIndex_df160 ∈ WA := wa_t (i := 176) (by decide +kernel) rfl
theorem wt177 : Cond.methodLink RJ2 71 yJ2_getChar_3b067 ∈ WA := wa_t (i := 177) (by decide +kernel) rfl
theorem wt178 : Cond.static yJ2_getChar_3b067 ∈ WA := wa_t (i := 178) (by decide +kernel) rfl
theorem wt179 : Cond.code yJ2_getChar_3b067 prog_15_method_5_code 2 (some .char) ∈ WA := wa_t (i := 179) (by decide +kernel) rfl
theorem wt180 : Cond.fieldLink "java/lang/StringUTF16" 44 "java/lang/StringUTF16" "$assertionsDisabled" "Z" ∈ WA := wa_t (i := 180) (by decide +kernel) rfl
theorem wt182 : Cond.fieldLink "java/lang/StringUTF16" 59 "java/lang/StringUTF16" "HI_BYTE_SHIFT" "I" ∈ WA := wa_t (i := 182) (by decide +kernel) rfl
theorem wt184 : Cond.fieldLink "java/lang/StringUTF16" 63 "java/lang/StringUTF16" "LO_BYTE_SHIFT" "I" ∈ WA := wa_t (i := 184) (by decide +kernel) rfl
theorem wt186 : Cond.methodLink RX6 33 yX6_addByte ∈ WA := wa_t (i := 186) (by decide +kernel) rfl
theorem wt187 : Cond.instanceMethod yX6_addByte ∈ WA := wa_t (i := 187) (by decide +kernel) rfl
theorem wt188 : Cond.selects RX6 yX6_addByte yX6_addByte ∈ WA := wa_t (i := 188) (by decide +kernel) rfl
theorem wt189 : Cond.code yX6_addByte prog_8_method_4_code 2 (none : Option Jvm.ClassFile.FieldType) ∈ WA := wa_t (i := 189) (by decide +kernel) rfl
theorem wt191 : Cond.static yX8_put ∈ WA := wa_t (i := 191) (by decide +kernel) rfl
theorem wt192 : Cond.code yX8_put prog_1_method_42_code 3 (none : Option Jvm.ClassFile.FieldType) ∈ WA := wa_t (i := 192) (by decide +kernel) rfl
theorem wt193 : Cond.methodLink RX8 70 yX4_readOnto ∈ WA := wa_t (i := 193) (by decide +kernel) rfl
theorem wt194 : Cond.instanceMethod yX4_readOnto ∈ WA := wa_t (i := 194) (by decide +kernel) rfl
theorem wt195 : Cond.selects RX4 yX4_readOnto yX4_readOnto ∈ WA := wa_t (i := 195) (by decide +kernel) rfl
theorem wt196 : Cond.code yX4_readOnto prog_6_method_2_code 6 (some .int) ∈ WA := wa_t (i := 196) (by decide +kernel) rfl
theorem wt197 : Cond.methodLink RX4 15 yX1_empty ∈ WA := wa_t (i := 197) (by decide +kernel) rfl
theorem wt198 : Cond.instanceMethod yX1_empty ∈ WA := wa_t (i := 198) (by decide +kernel) rfl
theorem wt199 : Cond.selects RX1 yX1_empty yX1_empty ∈ WA := wa_t (i := 199) (by decide +kernel) rfl
theorem wt200 : Cond.code yX1_empty prog_3_method_2_code 1 (none : Option Jvm.ClassFile.FieldType) ∈ WA := wa_t (i := 200) (by decide +kernel) rfl
theorem wt202 : Cond.static yX8_clearRow ∈ WA := wa_t (i := 202) (by decide +kernel) rfl
theorem wt203 : Cond.code yX8_clearRow prog_1_method_44_code 2 (none : Option Jvm.ClassFile.FieldType) ∈ WA := wa_t (i := 203) (by decide +kernel) rfl
theorem wt204 : Cond.methodLink RX1 44 yX1_setStones ∈ WA := wa_t (i := 204) (by decide +kernel) rfl
theorem wt205 : Cond.instanceMethod yX1_setStones ∈ WA := wa_t (i := 205) (by decide +kernel) rfl
theorem wt206 : Cond.selects RX1 yX1_setStones yX1_setStones ∈ WA := wa_t (i := 206) (by decide +kernel) rfl
theorem wt207 : Cond.code yX1_setStones prog_3_method_4_code 2 (some .boolean) ∈ WA := wa_t (i := 207) (by decide +kernel) rfl
theorem wt208 : Cond.methodLink RX1 58 yX1_allStones ∈ WA := wa_t (i := 208) (by decide +kernel) rfl
theorem wt209 : Cond.instanceMethod yX1_allStones ∈ WA := wa_t (i := 209) (by decide +kernel) rfl
theorem wt210 : Cond.selects RX1 yX1_allStones yX1_allStones ∈ WA := wa_t (i := 210) (by decide +kernel) rfl
theorem wt211 : Cond.code yX1_allStones prog_3_method_17_code 1 (some .int) ∈ WA := wa_t (i := 211) (by decide +kernel) rfl
theorem wt212 : Cond.methodLink RX4 24 yX6_size ∈ WA := wa_t (i := 212) (by decide +kernel) rfl
theorem wt213 : Cond.instanceMethod yX6_size ∈ WA := wa_t (i := 213) (by decide +kernel) rfl
theorem wt214 : Cond.selects RX6 yX6_size yX6_size ∈ WA := wa_t (i := 214) (by decide +kernel) rfl
theorem wt215 : Cond.code yX6_size prog_8_method_2_code 1 (some .int) ∈ WA := wa_t (i := 215) (by decide +kernel) rfl
theorem wt216 : Cond.methodLink RX4 30 yX4_itemsEnd ∈ WA := wa_t (i := 216) (by decide +kernel) rfl
theorem wt218 : Cond.instanceMethod yX4_itemsEnd ∈ WA := wa_t (i := 218) (by decide +kernel) rfl
theorem wt219 : Cond.code yX4_itemsEnd prog_6_method_4_code 8 (some .int) ∈ WA := wa_t (i := 219) (by decide +kernel) rfl
theorem wt220 : Cond.methodLink RX4 34 yX6_byteAt ∈ WA := wa_t (i := 220) (by decide +kernel) rfl
theorem wt221 : Cond.instanceMethod yX6_byteAt ∈ WA := wa_t (i := 221) (by decide +kernel) rfl
theorem wt222 : Cond.selects RX6 yX6_byteAt yX6_byteAt ∈ WA := wa_t (i := 222) (by decide +kernel) rfl
theorem wt223 : Cond.code yX6_byteAt prog_8_method_6_code 2 (some .int) ∈ WA := wa_t (i := 223) (by decide +kernel) rfl
theorem wt225 : Cond.static yX8_at ∈ WA := wa_t (i := 225) (by decide +kernel) rfl
theorem wt226 : Cond.code yX8_at prog_1_method_41_code 2 (some .int) ∈ WA := wa_t (i := 226) (by decide +kernel) rfl
theorem wt227 : Cond.methodLink RX4 45 yX4_numbersOf ∈ WA := wa_t (i := 227) (by decide +kernel) rfl
theorem wt228 : Cond.static yX4_numbersOf ∈ WA := wa_t (i := 228) (by decide +kernel) rfl
theorem wt229 : Cond.code yX4_numbersOf prog_6_method_3_code 1 (some .int) ∈ WA := wa_t (i := 229) (by decide +kernel) rfl
theorem wt230 : Cond.methodLink RX4 48 yX4_figuresAt ∈ WA := wa_t (i := 230) (by decide +kernel) rfl
theorem wt231 : Cond.static yX4_figuresAt ∈ WA := wa_t (i := 231) (by decide +kernel) rfl
theorem wt232 : Cond.code yX4_figuresAt prog_6_method_6_code 2 (some .int) ∈ WA := wa_t (i := 232) (by decide +kernel) rfl
theorem wt233 : Cond.methodLink RX4 59 yX4_isFigure ∈ WA := wa_t (i := 233) (by decide +kernel) rfl
theorem wt234 : Cond.static yX4_isFigure ∈ WA := wa_t (i := 234) (by decide +kernel) rfl
theorem wt235 : Cond.code yX4_isFigure prog_6_method_5_code 1 (some .boolean) ∈ WA := wa_t (i := 235) (by decide +kernel) rfl
theorem wt236 : Cond.methodLink RX4 51 yX4_numberAt ∈ WA := wa_t (i := 236) (by decide +kernel) rfl
theorem wt237 : Cond.static yX4_numberAt ∈ WA := wa_t (i := 237) (by decide +kernel) rfl
theorem wt238 : Cond.code yX4_numberAt prog_6_method_7_code 5 (some .int) ∈ WA := wa_t (i := 238) (by decide +kernel) rfl
theorem wt240 : Cond.methodLink RX4 38 yX4_takeItem ∈ WA := wa_t (i := 240) (by decide +kernel) rfl
theorem wt242 : Cond.instanceMethod yX4_takeItem ∈ WA := wa_t (i := 242) (by decide +kernel) rfl
theorem wt243 : Cond.code yX4_takeItem prog_6_method_8_code 5 (some .boolean) ∈ WA := wa_t (i := 243) (by decide +kernel) rfl
theorem wt245 : Cond.methodLink RX4 67 yX1_setStones ∈ WA := wa_t (i := 245) (by decide +kernel) rfl
theorem wt246 : Cond.methodLink RX4 70 yX1_beginOn ∈ WA := wa_t (i := 246) (by decide +kernel) rfl
theorem wt247 : Cond.instanceMethod yX1_beginOn ∈ WA := wa_t (i := 247) (by decide +kernel) rfl
theorem wt248 : Cond.selects RX1 yX1_beginOn yX1_beginOn ∈ WA := wa_t (i := 248) (by decide +kernel) rfl
theorem wt249 : Cond.code yX1_beginOn prog_3_method_5_code 2 (some .boolean) ∈ WA := wa_t (i := 249) (by decide +kernel) rfl
theorem wt250 : Cond.methodLink RX1 62 yX1_hasStone ∈ WA := wa_t (i := 250) (by decide +kernel) rfl
theorem wt251 : Cond.instanceMethod yX1_hasStone ∈ WA := wa_t (i := 251) (by decide +kernel) rfl
theorem wt252 : Cond.selects RX1 yX1_hasStone yX1_hasStone ∈ WA := wa_t (i := 252) (by decide +kernel) rfl
theorem wt253 : Cond.code yX1_hasStone prog_3_method_18_code 2 (some .boolean) ∈ WA := wa_t (i := 253) (by decide +kernel) rfl
theorem wt254 : Cond.methodLink RX4 73 yX1_addStep ∈ WA := wa_t (i := 254) (by decide +kernel) rfl
theorem wt255 : Cond.instanceMethod yX1_addStep ∈ WA := wa_t (i := 255) (by decide +kernel) rfl
theorem wt256 : Cond.selects RX1 yX1_addStep yX1_addStep ∈ WA := wa_t (i := 256) (by decide +kernel) rfl
theorem wt257 : Cond.code yX1_addStep prog_3_method_8_code 4 (some .boolean) ∈ WA := wa_t (i := 257) (by decide +kernel) rfl
theorem wt258 : Cond.methodLink RX1 68 yX1_couldBeStep ∈ WA := wa_t (i := 258) (by decide +kernel) rfl
theorem wt259 : Cond.instanceMethod yX1_couldBeStep ∈ WA := wa_t (i := 259) (by decide +kernel) rfl
theorem wt260 : Cond.selects RX1 yX1_couldBeStep yX1_couldBeStep ∈ WA := wa_t (i := 260) (by decide +kernel) rfl
theorem wt261 : Cond.code yX1_couldBeStep prog_3_method_7_code 4 (some .boolean) ∈ WA := wa_t (i := 261) (by decide +kernel) rfl
theorem wt263 : Cond.methodLink RX4 77 yX1_setGainsay ∈ WA := wa_t (i := 263) (by decide +kernel) rfl
theorem wt264 : Cond.instanceMethod yX1_setGainsay ∈ WA := wa_t (i := 264) (by decide +kernel) rfl
theorem wt265 : Cond.selects RX1 yX1_setGainsay yX1_setGainsay ∈ WA := wa_t (i := 265) (by decide +kernel) rfl
theorem wt266 : Cond.code yX1_setGainsay prog_3_method_9_code 3 (some .boolean) ∈ WA := wa_t (i := 266) (by decide +kernel) rfl
theorem wt268 : Cond.methodLink RX4 81 yX1_setWear ∈ WA := wa_t (i := 268) (by decide +kernel) rfl
theorem wt269 : Cond.instanceMethod yX1_setWear ∈ WA := wa_t (i := 269) (by decide +kernel) rfl
theorem wt270 : Cond.selects RX1 yX1_setWear yX1_setWear ∈ WA := wa_t (i := 270) (by decide +kernel) rfl
theorem wt271 : Cond.code yX1_setWear prog_3_method_10_code 3 (some .boolean) ∈ WA := wa_t (i := 271) (by decide +kernel) rfl
theorem wt272 : Cond.methodLink RX4 42 yX1_standOnBeginnings ∈ WA := wa_t (i := 272) (by decide +kernel) rfl
theorem wt273 : Cond.instanceMethod yX1_standOnBeginnings ∈ WA := wa_t (i := 273) (by decide +kernel) rfl
theorem wt274 : Cond.selects RX1 yX1_standOnBeginnings yX1_standOnBeginnings ∈ WA := wa_t (i := 274) (by decide +kernel) rfl
theorem wt275 : Cond.code yX1_standOnBeginnings prog_3_method_6_code 1 (none : Option Jvm.ClassFile.FieldType) ∈ WA := wa_t (i := 275) (by decide +kernel) rfl
theorem wt276 : Cond.methodLink RX1 65 yX1_beginnings ∈ WA := wa_t (i := 276) (by decide +kernel) rfl
theorem wt277 : Cond.instanceMethod yX1_beginnings ∈ WA := wa_t (i := 277) (by decide +kernel) rfl
theorem wt278 : Cond.selects RX1 yX1_beginnings yX1_beginnings ∈ WA := wa_t (i := 278) (by decide +kernel) rfl
theorem wt279 : Cond.code yX1_beginnings prog_3_method_14_code 1 (some .int) ∈ WA := wa_t (i := 279) (by decide +kernel) rfl
theorem wt280 : Cond.methodLink RX8 74 yX6_clear ∈ WA := wa_t (i := 280) (by decide +kernel) rfl
theorem wt281 : Cond.instanceMethod yX6_clear ∈ WA := wa_t (i := 281) (by decide +kernel) rfl
theorem wt282 : Cond.selects RX6 yX6_clear yX6_clear ∈ WA := wa_t (i := 282) (by decide +kernel) rfl
theorem wt283 : Cond.code yX6_clear prog_8_method_3_code 1 (none : Option Jvm.ClassFile.FieldType) ∈ WA := wa_t (i := 283) (by decide +kernel) rfl
theorem wt284 : Cond.fieldLink "FloorOfProofs" 12 "FloorOfProofs" "text" "LFloorOfProofs$Text;" ∈ WA := wa_t (i := 284) (by decide +kernel) rfl
theorem wt285 : Cond.fieldLink "FloorOfProofs" 19 "FloorOfProofs" "reader" "LFloorOfProofs$Reader;" ∈ WA := wa_t (i := 285) (by decide +kernel) rfl
theorem wt286 : Cond.fieldLink "FloorOfProofs" 26 "FloorOfProofs" "draft" "LFloorOfProofs$Floor;" ∈ WA := wa_t (i := 286) (by decide +kernel) rfl
theorem wt287 : Cond.fieldLink "FloorOfProofs" 30 "FloorOfProofs" "floor" "LFloorOfProofs$Floor;" ∈ WA := wa_t (i := 287) (by decide +kernel) rfl
theorem wt288 : Cond.fieldLink "FloorOfProofs" 33 "FloorOfProofs" "keptFirst" "LFloorOfProofs$Floor;" ∈ WA := wa_t (i := 288) (by decide +kernel) rfl
theorem wt289 : Cond.fieldLink "FloorOfProofs" 36 "FloorOfProofs" "keptSecond" "LFloorOfProofs$Floor;" ∈ WA := wa_t (i := 289) (by decide +kernel) rfl
theorem wt290 : Cond.fieldLink "FloorOfProofs" 42 "FloorOfProofs" "past" "LFloorOfProofs$Past;" ∈ WA := wa_t (i := 290) (by decide +kernel) rfl
theorem wt291 : Cond.fieldLink "FloorOfProofs" 49 "FloorOfProofs" "walks" "LFloorOfProofs$Walks;" ∈ WA := wa_t (i := 291) (by decide +kernel) rfl
theorem wt292 : Cond.fieldLink "FloorOfProofs" 56 "FloorOfProofs" "proofRows" "LFloorOfProofs$ProofRows;" ∈ WA := wa_t (i := 292) (by decide +kernel) rfl
theorem wt293 : Cond.fieldLink "FloorOfProofs" 60 "FloorOfProofs" "told" "[I" ∈ WA := wa_t (i := 293) (by decide +kernel) rfl
theorem wt294 : Cond.fieldLink "FloorOfProofs" 176 "FloorOfProofs" "toldCount" "I" ∈ WA := wa_t (i := 294) (by decide +kernel) rfl
theorem wt295 : Cond.fieldLink "FloorOfProofs" 92 "FloorOfProofs" "keptCount" "I" ∈ WA := wa_t (i := 295) (by decide +kernel) rfl
theorem wt321 : Cond.arrayClass .byte ∈ WA := wa_t (i := 321) (by decide +kernel) rfl
theorem wt322 : Cond.methodLink RL 15 yX8_write ∈ WA := wa_t (i := 322) (by decide +kernel) rfl
theorem wt323 : Cond.instanceMethod yX8_write ∈ WA := wa_t (i := 323) (by decide +kernel) rfl
theorem wt324 : Cond.selects RX8 yX8_write yX8_write ∈ WA := wa_t (i := 324) (by decide +kernel) rfl
theorem wt325 : Cond.code yX8_write prog_1_method_2_code 5 (some .int) ∈ WA := wa_t (i := 325) (by decide +kernel) rfl
theorem wt326 : Cond.methodLink RX8 77 yX6_size ∈ WA := wa_t (i := 326) (by decide +kernel) rfl
theorem wt327 : Cond.methodLink RX8 81 yX6_addByte ∈ WA := wa_t (i := 327) (by decide +kernel) rfl
theorem wt328 : Cond.methodLink RL 20 yX8_wipe ∈ WA := wa_t (i := 328) (by decide +kernel) rfl
theorem wt329 : Cond.instanceMethod yX8_wipe ∈ WA := wa_t (i := 329) (by decide +kernel) rfl
theorem wt330 : Cond.selects RX8 yX8_wipe yX8_wipe ∈ WA := wa_t (i := 330) (by decide +kernel) rfl
theorem wt331 : Cond.code yX8_wipe prog_1_method_3_code 2 (some .int) ∈ WA := wa_t (i := 331) (by decide +kernel) rfl
theorem wt332 : Cond.methodLink RL 25 yX8_fault ∈ WA := wa_t (i := 332) (by decide +kernel) rfl
theorem wt333 : Cond.instanceMethod yX8_fault ∈ WA := wa_t (i := 333) (by decide +kernel) rfl
theorem wt334 : Cond.selects RX8 yX8_fault yX8_fault ∈ WA := wa_t (i := 334) (by decide +kernel) rfl
theorem wt335 : Cond.code yX8_fault prog_1_method_4_code 1 (some .int) ∈ WA := wa_t (i := 335) (by decide +kernel) rfl
theorem wt336 : Cond.methodLink RL 29 yX8_layFloor ∈ WA := wa_t (i := 336) (by decide +kernel) rfl
theorem wt337 : Cond.instanceMethod yX8_layFloor ∈ WA := wa_t (i := 337) (by decide +kernel) rfl
theorem wt338 : Cond.selects RX8 yX8_layFloor yX8_layFloor ∈ WA := wa_t (i := 338) (by decide +kernel) rfl
theorem wt339 : Cond.code yX8_layFloor prog_1_method_5_code 1 (some .int) ∈ WA := wa_t (i := 339) (by decide +kernel) rfl
theorem wt340 : Cond.methodLink RX8 85 yX1_stepCount ∈ WA := wa_t (i := 340) (by decide +kernel) rfl
theorem wt341 : Cond.instanceMethod yX1_stepCount ∈ WA := wa_t (i := 341) (by decide +kernel) rfl
theorem wt342 : Cond.selects RX1 yX1_stepCount yX1_stepCount ∈ WA := wa_t (i := 342) (by decide +kernel) rfl
theorem wt343 : Cond.code yX1_stepCount prog_3_method_12_code 1 (some .int) ∈ WA := wa_t (i := 343) (by decide +kernel) rfl
theorem wt344 : Cond.methodLink RX8 88 yX1_copyFrom ∈ WA := wa_t (i := 344) (by decide +kernel) rfl
theorem wt345 : Cond.instanceMethod yX1_copyFrom ∈ WA := wa_t (i := 345) (by decide +kernel) rfl
theorem wt346 : Cond.selects RX1 yX1_copyFrom yX1_copyFrom ∈ WA := wa_t (i := 346) (by decide +kernel) rfl
theorem wt347 : Cond.code yX1_copyFrom prog_3_method_3_code 2 (none : Option Jvm.ClassFile.FieldType) ∈ WA := wa_t (i := 347) (by decide +kernel) rfl
theorem wt349 : Cond.static yX8_copy ∈ WA := wa_t (i := 349) (by decide +kernel) rfl
theorem wt350 : Cond.code yX8_copy prog_1_method_43_code 3 (none : Option Jvm.ClassFile.FieldType) ∈ WA := wa_t (i := 350) (by decide +kernel) rfl
theorem wt351 : Cond.methodLink RX8 96 yX8_forgetRowAndPast ∈ WA := wa_t (i := 351) (by decide +kernel) rfl
theorem wt353 : Cond.instanceMethod yX8_forgetRowAndPast ∈ WA := wa_t (i := 353) (by decide +kernel) rfl
theorem wt354 : Cond.code yX8_forgetRowAndPast prog_1_method_35_code 1 (none : Option Jvm.ClassFile.FieldType) ∈ WA := wa_t (i := 354) (by decide +kernel) rfl
theorem wt355 : Cond.methodLink RX8 284 yX2_clear ∈ WA := wa_t (i := 355) (by decide +kernel) rfl
theorem wt356 : Cond.instanceMethod yX2_clear ∈ WA := wa_t (i := 356) (by decide +kernel) rfl
theorem wt357 : Cond.selects RX2 yX2_clear yX2_clear ∈ WA := wa_t (i := 357) (by decide +kernel) rfl
theorem wt358 : Cond.code yX2_clear prog_4_method_3_code 1 (none : Option Jvm.ClassFile.FieldType) ∈ WA := wa_t (i := 358) (by decide +kernel) rfl
theorem wt359 : Cond.methodLink RX8 99 yX1_stoneCount ∈ WA := wa_t (i := 359) (by decide +kernel) rfl
theorem wt360 : Cond.instanceMethod yX1_stoneCount ∈ WA := wa_t (i := 360) (by decide +kernel) rfl
theorem wt361 : Cond.selects RX1 yX1_stoneCount yX1_stoneCount ∈ WA := wa_t (i := 361) (by decide +kernel) rfl
theorem wt362 : Cond.code yX1_stoneCount prog_3_method_11_code 1 (some .int) ∈ WA := wa_t (i := 362) (by decide +kernel) rfl
theorem wt363 : Cond.methodLink RL 33 yX8_stone ∈ WA := wa_t (i := 363) (by decide +kernel) rfl
theorem wt364 : Cond.instanceMethod yX8_stone ∈ WA := wa_t (i := 364) (by decide +kernel) rfl
theorem wt365 : Cond.selects RX8 yX8_stone yX8_stone ∈ WA := wa_t (i := 365) (by decide +kernel) rfl
theorem wt366 : Cond.code yX8_stone prog_1_method_6_code 3 (some .int) ∈ WA := wa_t (i := 366) (by decide +kernel) rfl
theorem wt367 : Cond.methodLink RX8 102 yX8_isStone ∈ WA := wa_t (i := 367) (by decide +kernel) rfl
theorem wt369 : Cond.instanceMethod yX8_isStone ∈ WA := wa_t (i := 369) (by decide +kernel) rfl
theorem wt370 : Cond.code yX8_isStone prog_1_method_32_code 2 (some .boolean) ∈ WA := wa_t (i := 370) (by decide +kernel) rfl
theorem wt371 : Cond.methodLink RX8 278 yX1_hasStone ∈ WA := wa_t (i := 371) (by decide +kernel) rfl
theorem wt372 : Cond.methodLink RX8 106 yX1_there ∈ WA := wa_t (i := 372) (by decide +kernel) rfl
theorem wt373 : Cond.instanceMethod yX1_there ∈ WA := wa_t (i := 373) (by decide +kernel) rfl
theorem wt374 : Cond.selects RX1 yX1_there yX1_there ∈ WA := wa_t (i := 374) (by decide +kernel) rfl
theorem wt375 : Cond.code yX1_there prog_3_method_15_code 1 (some .int) ∈ WA := wa_t (i := 375) (by decide +kernel) rfl
theorem wt376 : Cond.methodLink RX8 109 yX8_bitOf ∈ WA := wa_t (i := 376) (by decide +kernel) rfl
theorem wt377 : Cond.static yX8_bitOf ∈ WA := wa_t (i := 377) (by decide +kernel) rfl
theorem wt378 : Cond.code yX8_bitOf prog_1_method_38_code 2 (some .int) ∈ WA := wa_t (i := 378) (by decide +kernel) rfl
theorem wt379 : Cond.methodLink RX8 113 yX1_stood ∈ WA := wa_t (i := 379) (by decide +kernel) rfl
theorem wt380 : Cond.instanceMethod yX1_stood ∈ WA := wa_t (i := 380) (by decide +kernel) rfl
theorem wt381 : Cond.selects RX1 yX1_stood yX1_stood ∈ WA := wa_t (i := 381) (by decide +kernel) rfl
theorem wt382 : Cond.code yX1_stood prog_3_method_16_code 1 (some .int) ∈ WA := wa_t (i := 382) (by decide +kernel) rfl
theorem wt383 : Cond.methodLink RX8 116 yX1_begins ∈ WA := wa_t (i := 383) (by decide +kernel) rfl
theorem wt384 : Cond.instanceMethod yX1_begins ∈ WA := wa_t (i := 384) (by decide +kernel) rfl
theorem wt385 : Cond.selects RX1 yX1_begins yX1_begins ∈ WA := wa_t (i := 385) (by decide +kernel) rfl
theorem wt386 : Cond.code yX1_begins prog_3_method_13_code 1 (some .int) ∈ WA := wa_t (i := 386) (by decide +kernel) rfl
theorem wt387 : Cond.methodLink RX8 119 yX1_wearOf ∈ WA := wa_t (i := 387) (by decide +kernel) rfl
theorem wt388 : Cond.instanceMethod yX1_wearOf ∈ WA := wa_t (i := 388) (by decide +kernel) rfl
theorem wt389 : Cond.selects RX1 yX1_wearOf yX1_wearOf ∈ WA := wa_t (i := 389) (by decide +kernel) rfl
theorem wt390 : Cond.code yX1_wearOf prog_3_method_20_code 2 (some .int) ∈ WA := wa_t (i := 390) (by decide +kernel) rfl
theorem wt391 : Cond.methodLink RX8 123 yX1_gainsayersOf ∈ WA := wa_t (i := 391) (by decide +kernel) rfl
theorem wt392 : Cond.instanceMethod yX1_gainsayersOf ∈ WA := wa_t (i := 392) (by decide +kernel) rfl
theorem wt393 : Cond.selects RX1 yX1_gainsayersOf yX1_gainsayersOf ∈ WA := wa_t (i := 393) (by decide +kernel) rfl
theorem wt394 : Cond.code yX1_gainsayersOf prog_3_method_21_code 2 (some .int) ∈ WA := wa_t (i := 394) (by decide +kernel) rfl
theorem wt395 : Cond.methodLink RL 38 yX8_step ∈ WA := wa_t (i := 395) (by decide +kernel) rfl
theorem wt396 : Cond.instanceMethod yX8_step ∈ WA := wa_t (i := 396) (by decide +kernel) rfl
theorem wt397 : Cond.selects RX8 yX8_step yX8_step ∈ WA := wa_t (i := 397) (by decide +kernel) rfl
theorem wt398 : Cond.code yX8_step prog_1_method_7_code 3 (some .int) ∈ WA := wa_t (i := 398) (by decide +kernel) rfl
theorem wt399 : Cond.methodLink RX8 126 yX8_isStep ∈ WA := wa_t (i := 399) (by decide +kernel) rfl
theorem wt401 : Cond.instanceMethod yX8_isStep ∈ WA := wa_t (i := 401) (by decide +kernel) rfl
theorem wt402 : Cond.code yX8_isStep prog_1_method_33_code 2 (some .boolean) ∈ WA := wa_t (i := 402) (by decide +kernel) rfl
theorem wt403 : Cond.methodLink RX8 129 yX1_firstOf ∈ WA := wa_t (i := 403) (by decide +kernel) rfl
theorem wt404 : Cond.instanceMethod yX1_firstOf ∈ WA := wa_t (i := 404) (by decide +kernel) rfl
theorem wt405 : Cond.selects RX1 yX1_firstOf yX1_firstOf ∈ WA := wa_t (i := 405) (by decide +kernel) rfl
theorem wt406 : Cond.code yX1_firstOf prog_3_method_22_code 2 (some .int) ∈ WA := wa_t (i := 406) (by decide +kernel) rfl
theorem wt407 : Cond.methodLink RX8 132 yX1_secondOf ∈ WA := wa_t (i := 407) (by decide +kernel) rfl
theorem wt408 : Cond.instanceMethod yX1_secondOf ∈ WA := wa_t (i := 408) (by decide +kernel) rfl
theorem wt409 : Cond.selects RX1 yX1_secondOf yX1_secondOf ∈ WA := wa_t (i := 409) (by decide +kernel) rfl
theorem wt410 : Cond.code yX1_secondOf prog_3_method_23_code 2 (some .int) ∈ WA := wa_t (i := 410) (by decide +kernel) rfl
theorem wt411 : Cond.methodLink RX8 135 yX1_endOf ∈ WA := wa_t (i := 411) (by decide +kernel) rfl
theorem wt412 : Cond.instanceMethod yX1_endOf ∈ WA := wa_t (i := 412) (by decide +kernel) rfl
theorem wt413 : Cond.selects RX1 yX1_endOf yX1_endOf ∈ WA := wa_t (i := 413) (by decide +kernel) rfl
theorem wt414 : Cond.code yX1_endOf prog_3_method_24_code 2 (some .int) ∈ WA := wa_t (i := 414) (by decide +kernel) rfl
theorem wt415 : Cond.methodLink RX8 138 yX1_mayBeGone ∈ WA := wa_t (i := 415) (by decide +kernel) rfl
theorem wt416 : Cond.instanceMethod yX1_mayBeGone ∈ WA := wa_t (i := 416) (by decide +kernel) rfl
theorem wt417 : Cond.selects RX1 yX1_mayBeGone yX1_mayBeGone ∈ WA := wa_t (i := 417) (by decide +kernel) rfl
theorem wt418 : Cond.code yX1_mayBeGone prog_3_method_26_code 2 (some .boolean) ∈ WA := wa_t (i := 418) (by decide +kernel) rfl
theorem wt419 : Cond.methodLink RX1 84 yX1_after ∈ WA := wa_t (i := 419) (by decide +kernel) rfl
theorem wt420 : Cond.instanceMethod yX1_after ∈ WA := wa_t (i := 420) (by decide +kernel) rfl
theorem wt421 : Cond.selects RX1 yX1_after yX1_after ∈ WA := wa_t (i := 421) (by decide +kernel) rfl
theorem wt422 : Cond.code yX1_after prog_3_method_27_code 3 (some .int) ∈ WA := wa_t (i := 422) (by decide +kernel) rfl
theorem wt423 : Cond.methodLink RX1 88 yX1_afterAmong ∈ WA := wa_t (i := 423) (by decide +kernel) rfl
theorem wt425 : Cond.instanceMethod yX1_afterAmong ∈ WA := wa_t (i := 425) (by decide +kernel) rfl
theorem wt426 : Cond.code yX1_afterAmong prog_3_method_28_code 5 (some .int) ∈ WA := wa_t (i := 426) (by decide +kernel) rfl
theorem wt428 : Cond.static yX8_holdsAll ∈ WA := wa_t (i := 428) (by decide +kernel) rfl
theorem wt429 : Cond.code yX8_holdsAll prog_1_method_40_code 2 (some .boolean) ∈ WA := wa_t (i := 429) (by decide +kernel) rfl
theorem wt430 : Cond.methodLink RL 42 yX8_go ∈ WA := wa_t (i := 430) (by decide +kernel) rfl
theorem wt431 : Cond.instanceMethod yX8_go ∈ WA := wa_t (i := 431) (by decide +kernel) rfl
theorem wt432 : Cond.selects RX8 yX8_go yX8_go ∈ WA := wa_t (i := 432) (by decide +kernel) rfl
theorem wt433 : Cond.code yX8_go prog_1_method_8_code 2 (some .int) ∈ WA := wa_t (i := 433) (by decide +kernel) rfl
theorem wt434 : Cond.methodLink RX8 141 yX1_tread ∈ WA := wa_t (i := 434) (by decide +kernel) rfl
theorem wt435 : Cond.instanceMethod yX1_tread ∈ WA := wa_t (i := 435) (by decide +kernel) rfl
theorem wt436 : Cond.selects RX1 yX1_tread yX1_tread ∈ WA := wa_t (i := 436) (by decide +kernel) rfl
theorem wt437 : Cond.code yX1_tread prog_3_method_29_code 3 (none : Option Jvm.ClassFile.FieldType) ∈ WA := wa_t (i := 437) (by decide +kernel) rfl
theorem wt438 : Cond.methodLink RX1 95 yX1_endOf ∈ WA := wa_t (i := 438) (by decide +kernel) rfl
theorem wt439 : Cond.methodLink RX8 144 yX2_noteGone ∈ WA := wa_t (i := 439) (by decide +kernel) rfl
theorem wt440 : Cond.instanceMethod yX2_noteGone ∈ WA := wa_t (i := 440) (by decide +kernel) rfl
theorem wt441 : Cond.selects RX2 yX2_noteGone yX2_noteGone ∈ WA := wa_t (i := 441) (by decide +kernel) rfl
theorem wt442 : Cond.code yX2_noteGone prog_4_method_4_code 2 (none : Option Jvm.ClassFile.FieldType) ∈ WA := wa_t (i := 442) (by decide +kernel) rfl
theorem wt443 : Cond.methodLink RX2 22 yX2_note ∈ WA := wa_t (i := 443) (by decide +kernel) rfl
theorem wt445 : Cond.instanceMethod yX2_note ∈ WA := wa_t (i := 445) (by decide +kernel) rfl
theorem wt446 : Cond.code yX2_note prog_4_method_7_code 3 (none : Option Jvm.ClassFile.FieldType) ∈ WA := wa_t (i := 446) (by decide +kernel) rfl
theorem wt447 : Cond.methodLink RX2 26 yX2_forgetOldest ∈ WA := wa_t (i := 447) (by decide +kernel) rfl
theorem wt449 : Cond.instanceMethod yX2_forgetOldest ∈ WA := wa_t (i := 449) (by decide +kernel) rfl
theorem wt450 : Cond.code yX2_forgetOldest prog_4_method_8_code 2 (none : Option Jvm.ClassFile.FieldType) ∈ WA := wa_t (i := 450) (by decide +kernel) rfl
theorem wt453 : Cond.methodLink RX8 147 yJ6_bitCount_0f7a4 ∈ WA := wa_t (i := 453) (by decide +kernel) rfl
theorem wt454 : Cond.static yJ6_bitCount_0f7a4 ∈ WA := wa_t (i := 454) (by decide +kernel) rfl
theorem wt455 : Cond.code yJ6_bitCount_0f7a4 prog_12_method_49_code 1 (some .int) ∈ WA := wa_t (i := 455) (by decide +kernel) rfl
theorem wt456 : Cond.constant RJ6 265 (1431655765) ∈ WA := wa_t (i := 456) (by decide +kernel) rfl
theorem wt457 : Cond.constant RJ6 266 (858993459) ∈ WA := wa_t (i := 457) (by decide +kernel) rfl
theorem wt458 : Cond.constant RJ6 267 (252645135) ∈ WA := wa_t (i := 458) (by decide +kernel) rfl
theorem wt459 : Cond.methodLink RL 47 yX8_takeOut ∈ WA := wa_t (i := 459) (by decide +kernel) rfl
theorem wt460 : Cond.instanceMethod yX8_takeOut ∈ WA := wa_t (i := 460) (by decide +kernel) rfl
theorem wt461 : Cond.selects RX8 yX8_takeOut yX8_takeOut ∈ WA := wa_t (i := 461) (by decide +kernel) rfl
theorem wt462 : Cond.code yX8_takeOut prog_1_method_9_code 2 (some .int) ∈ WA := wa_t (i := 462) (by decide +kernel) rfl
theorem wt463 : Cond.methodLink RX8 152 yX1_isThere ∈ WA := wa_t (i := 463) (by decide +kernel) rfl
theorem wt464 : Cond.instanceMethod yX1_isThere ∈ WA := wa_t (i := 464) (by decide +kernel) rfl
theorem wt465 : Cond.selects RX1 yX1_isThere yX1_isThere ∈ WA := wa_t (i := 465) (by decide +kernel) rfl
theorem wt466 : Cond.code yX1_isThere prog_3_method_19_code 2 (some .boolean) ∈ WA := wa_t (i := 466) (by decide +kernel) rfl
theorem wt468 : Cond.static yX8_has ∈ WA := wa_t (i := 468) (by decide +kernel) rfl
theorem wt469 : Cond.code yX8_has prog_1_method_39_code 2 (some .boolean) ∈ WA := wa_t (i := 469) (by decide +kernel) rfl
theorem wt470 : Cond.methodLink RX8 155 yX2_noteOut ∈ WA := wa_t (i := 470) (by decide +kernel) rfl
theorem wt471 : Cond.instanceMethod yX2_noteOut ∈ WA := wa_t (i := 471) (by decide +kernel) rfl
theorem wt472 : Cond.selects RX2 yX2_noteOut yX2_noteOut ∈ WA := wa_t (i := 472) (by decide +kernel) rfl
theorem wt473 : Cond.code yX2_noteOut prog_4_method_5_code 3 (none : Option Jvm.ClassFile.FieldType) ∈ WA := wa_t (i := 473) (by decide +kernel) rfl
theorem wt474 : Cond.methodLink RX8 159 yX1_removeSlab ∈ WA := wa_t (i := 474) (by decide +kernel) rfl
theorem wt475 : Cond.instanceMethod yX1_removeSlab ∈ WA := wa_t (i := 475) (by decide +kernel) rfl
theorem wt476 : Cond.selects RX1 yX1_removeSlab yX1_removeSlab ∈ WA := wa_t (i := 476) (by decide +kernel) rfl
theorem wt477 : Cond.code yX1_removeSlab prog_3_method_31_code 2 (none : Option Jvm.ClassFile.FieldType) ∈ WA := wa_t (i := 477) (by decide +kernel) rfl
theorem wt478 : Cond.methodLink RL 51 yX8_lay ∈ WA := wa_t (i := 478) (by decide +kernel) rfl
theorem wt479 : Cond.instanceMethod yX8_lay ∈ WA := wa_t (i := 479) (by decide +kernel) rfl
theorem wt480 : Cond.selects RX8 yX8_lay yX8_lay ∈ WA := wa_t (i := 480) (by decide +kernel) rfl
theorem wt481 : Cond.code yX8_lay prog_1_method_10_code 4 (some .int) ∈ WA := wa_t (i := 481) (by decide +kernel) rfl
theorem wt482 : Cond.methodLink RX8 162 yX1_couldBeStep ∈ WA := wa_t (i := 482) (by decide +kernel) rfl
theorem wt483 : Cond.methodLink RX8 166 yX1_addStep ∈ WA := wa_t (i := 483) (by decide +kernel) rfl
theorem wt484 : Cond.methodLink RX8 169 yX2_noteLaid ∈ WA := wa_t (i := 484) (by decide +kernel) rfl
theorem wt485 : Cond.instanceMethod yX2_noteLaid ∈ WA := wa_t (i := 485) (by decide +kernel) rfl
theorem wt486 : Cond.selects RX2 yX2_noteLaid yX2_noteLaid ∈ WA := wa_t (i := 486) (by decide +kernel) rfl
theorem wt487 : Cond.code yX2_noteLaid prog_4_method_6_code 1 (none : Option Jvm.ClassFile.FieldType) ∈ WA := wa_t (i := 487) (by decide +kernel) rfl
theorem wt488 : Cond.methodLink RL 56 yX8_undo ∈ WA := wa_t (i := 488) (by decide +kernel) rfl
theorem wt489 : Cond.instanceMethod yX8_undo ∈ WA := wa_t (i := 489) (by decide +kernel) rfl
theorem wt490 : Cond.selects RX8 yX8_undo yX8_undo ∈ WA := wa_t (i := 490) (by decide +kernel) rfl
theorem wt491 : Cond.code yX8_undo prog_1_method_11_code 1 (some .int) ∈ WA := wa_t (i := 491) (by decide +kernel) rfl
theorem wt492 : Cond.methodLink RX8 172 yX2_size ∈ WA := wa_t (i := 492) (by decide +kernel) rfl
theorem wt493 : Cond.instanceMethod yX2_size ∈ WA := wa_t (i := 493) (by decide +kernel) rfl
theorem wt494 : Cond.selects RX2 yX2_size yX2_size ∈ WA := wa_t (i := 494) (by decide +kernel) rfl
theorem wt495 : Cond.code yX2_size prog_4_method_2_code 1 (some .int) ∈ WA := wa_t (i := 495) (by decide +kernel) rfl
theorem wt496 : Cond.methodLink RX8 173 yX2_takeBackLatest ∈ WA := wa_t (i := 496) (by decide +kernel) rfl
theorem wt497 : Cond.instanceMethod yX2_takeBackLatest ∈ WA := wa_t (i := 497) (by decide +kernel) rfl
theorem wt498 : Cond.selects RX2 yX2_takeBackLatest yX2_takeBackLatest ∈ WA := wa_t (i := 498) (by decide +kernel) rfl
theorem wt499 : Cond.code yX2_takeBackLatest prog_4_method_9_code 4 (none : Option Jvm.ClassFile.FieldType) ∈ WA := wa_t (i := 499) (by decide +kernel) rfl
theorem wt500 : Cond.methodLink RX2 37 yX1_untread ∈ WA := wa_t (i := 500) (by decide +kernel) rfl
theorem wt501 : Cond.instanceMethod yX1_untread ∈ WA := wa_t (i := 501) (by decide +kernel) rfl
theorem wt502 : Cond.selects RX1 yX1_untread yX1_untread ∈ WA := wa_t (i := 502) (by decide +kernel) rfl
theorem wt503 : Cond.code yX1_untread prog_3_method_30_code 2 (none : Option Jvm.ClassFile.FieldType) ∈ WA := wa_t (i := 503) (by decide +kernel) rfl
theorem wt504 : Cond.methodLink RX2 43 yX1_removeLatestStep ∈ WA := wa_t (i := 504) (by decide +kernel) rfl
theorem wt505 : Cond.instanceMethod yX1_removeLatestStep ∈ WA := wa_t (i := 505) (by decide +kernel) rfl
theorem wt506 : Cond.selects RX1 yX1_removeLatestStep yX1_removeLatestStep ∈ WA := wa_t (i := 506) (by decide +kernel) rfl
theorem wt507 : Cond.code yX1_removeLatestStep prog_3_method_33_code 1 (none : Option Jvm.ClassFile.FieldType) ∈ WA := wa_t (i := 507) (by decide +kernel) rfl
theorem wt508 : Cond.methodLink RX2 46 yX1_putSlabBack ∈ WA := wa_t (i := 508) (by decide +kernel) rfl
theorem wt509 : Cond.instanceMethod yX1_putSlabBack ∈ WA := wa_t (i := 509) (by decide +kernel) rfl
theorem wt510 : Cond.selects RX1 yX1_putSlabBack yX1_putSlabBack ∈ WA := wa_t (i := 510) (by decide +kernel) rfl
theorem wt511 : Cond.code yX1_putSlabBack prog_3_method_32_code 3 (none : Option Jvm.ClassFile.FieldType) ∈ WA := wa_t (i := 511) (by decide +kernel) rfl
theorem wt512 : Cond.methodLink RL 60 yX8_reach ∈ WA := wa_t (i := 512) (by decide +kernel) rfl
theorem wt513 : Cond.instanceMethod yX8_reach ∈ WA := wa_t (i := 513) (by decide +kernel) rfl
theorem wt514 : Cond.selects RX8 yX8_reach yX8_reach ∈ WA := wa_t (i := 514) (by decide +kernel) rfl
theorem wt515 : Cond.code yX8_reach prog_1_method_12_code 2 (some .int) ∈ WA := wa_t (i := 515) (by decide +kernel) rfl
theorem wt516 : Cond.methodLink RX8 179 yX8_isSetOfStones ∈ WA := wa_t (i := 516) (by decide +kernel) rfl
theorem wt518 : Cond.instanceMethod yX8_isSetOfStones ∈ WA := wa_t (i := 518) (by decide +kernel) rfl
theorem wt519 : Cond.code yX8_isSetOfStones prog_1_method_34_code 2 (some .boolean) ∈ WA := wa_t (i := 519) (by decide +kernel) rfl
theorem wt520 : Cond.methodLink RX8 281 yX1_allStones ∈ WA := wa_t (i := 520) (by decide +kernel) rfl
theorem wt521 : Cond.methodLink RX8 182 yX1_reachOf ∈ WA := wa_t (i := 521) (by decide +kernel) rfl
theorem wt522 : Cond.instanceMethod yX1_reachOf ∈ WA := wa_t (i := 522) (by decide +kernel) rfl
theorem wt523 : Cond.selects RX1 yX1_reachOf yX1_reachOf ∈ WA := wa_t (i := 523) (by decide +kernel) rfl
theorem wt524 : Cond.code yX1_reachOf prog_3_method_34_code 2 (some .int) ∈ WA := wa_t (i := 524) (by decide +kernel) rfl
theorem wt525 : Cond.methodLink RX1 99 yX1_reachBy ∈ WA := wa_t (i := 525) (by decide +kernel) rfl
theorem wt526 : Cond.instanceMethod yX1_reachBy ∈ WA := wa_t (i := 526) (by decide +kernel) rfl
theorem wt527 : Cond.selects RX1 yX1_reachBy yX1_reachBy ∈ WA := wa_t (i := 527) (by decide +kernel) rfl
theorem wt528 : Cond.code yX1_reachBy prog_3_method_35_code 8 (some .int) ∈ WA := wa_t (i := 528) (by decide +kernel) rfl
theorem wt529 : Cond.methodLink RL 64 yX8_walk ∈ WA := wa_t (i := 529) (by decide +kernel) rfl
theorem wt530 : Cond.instanceMethod yX8_walk ∈ WA := wa_t (i := 530) (by decide +kernel) rfl
theorem wt531 : Cond.selects RX8 yX8_walk yX8_walk ∈ WA := wa_t (i := 531) (by decide +kernel) rfl
theorem wt532 : Cond.code yX8_walk prog_1_method_13_code 3 (some .long) ∈ WA := wa_t (i := 532) (by decide +kernel) rfl
theorem wt533 : Cond.constantLong RX8 185 (-1) ∈ WA := wa_t (i := 533) (by decide +kernel) rfl
theorem wt534 : Cond.methodLink RX8 187 yX7_measure ∈ WA := wa_t (i := 534) (by decide +kernel) rfl
theorem wt535 : Cond.instanceMethod yX7_measure ∈ WA := wa_t (i := 535) (by decide +kernel) rfl
theorem wt536 : Cond.selects RX7 yX7_measure yX7_measure ∈ WA := wa_t (i := 536) (by decide +kernel) rfl
theorem wt537 : Cond.code yX7_measure prog_9_method_2_code 5 (none : Option Jvm.ClassFile.FieldType) ∈ WA := wa_t (i := 537) (by decide +kernel) rfl
theorem wt538 : Cond.methodLink RX7 18 yX1_stood ∈ WA := wa_t (i := 538) (by decide +kernel) rfl
theorem wt539 : Cond.methodLink RX7 24 yX1_there ∈ WA := wa_t (i := 539) (by decide +kernel) rfl
theorem wt541 : Cond.methodLink RX7 31 yX7_measureFrom ∈ WA := wa_t (i := 541) (by decide +kernel) rfl
theorem wt543 : Cond.instanceMethod yX7_measureFrom ∈ WA := wa_t (i := 543) (by decide +kernel) rfl
theorem wt544 : Cond.code yX7_measureFrom prog_9_method_3_code 9 (none : Option Jvm.ClassFile.FieldType) ∈ WA := wa_t (i := 544) (by decide +kernel) rfl
theorem wt546 : Cond.methodLink RX7 38 yX1_stepCount ∈ WA := wa_t (i := 546) (by decide +kernel) rfl
theorem wt547 : Cond.methodLink RX7 41 yX1_after ∈ WA := wa_t (i := 547) (by decide +kernel) rfl
theorem wt550 : Cond.methodLink RX8 191 yX7_fewestSteps ∈ WA := wa_t (i := 550) (by decide +kernel) rfl
theorem wt551 : Cond.instanceMethod yX7_fewestSteps ∈ WA := wa_t (i := 551) (by decide +kernel) rfl
theorem wt552 : Cond.selects RX7 yX7_fewestSteps yX7_fewestSteps ∈ WA := wa_t (i := 552) (by decide +kernel) rfl
theorem wt553 : Cond.code yX7_fewestSteps prog_9_method_4_code 3 (some .int) ∈ WA := wa_t (i := 553) (by decide +kernel) rfl
theorem wt554 : Cond.methodLink RX8 195 yX7_lowestFirstStep ∈ WA := wa_t (i := 554) (by decide +kernel) rfl
theorem wt555 : Cond.instanceMethod yX7_lowestFirstStep ∈ WA := wa_t (i := 555) (by decide +kernel) rfl
theorem wt556 : Cond.selects RX7 yX7_lowestFirstStep yX7_lowestFirstStep ∈ WA := wa_t (i := 556) (by decide +kernel) rfl
theorem wt557 : Cond.code yX7_lowestFirstStep prog_9_method_5_code 6 (some .int) ∈ WA := wa_t (i := 557) (by decide +kernel) rfl
theorem wt558 : Cond.methodLink RX7 53 yX7_fewestSteps ∈ WA := wa_t (i := 558) (by decide +kernel) rfl
theorem wt559 : Cond.methodLink RX8 198 yX7_howManyRows ∈ WA := wa_t (i := 559) (by decide +kernel) rfl
theorem wt560 : Cond.instanceMethod yX7_howManyRows ∈ WA := wa_t (i := 560) (by decide +kernel) rfl
theorem wt561 : Cond.selects RX7 yX7_howManyRows yX7_howManyRows ∈ WA := wa_t (i := 561) (by decide +kernel) rfl
theorem wt562 : Cond.code yX7_howManyRows prog_9_method_6_code 2 (some .int) ∈ WA := wa_t (i := 562) (by decide +kernel) rfl
theorem wt563 : Cond.methodLink RL 69 yX8_round ∈ WA := wa_t (i := 563) (by decide +kernel) rfl
theorem wt564 : Cond.instanceMethod yX8_round ∈ WA := wa_t (i := 564) (by decide +kernel) rfl
theorem wt565 : Cond.selects RX8 yX8_round yX8_round ∈ WA := wa_t (i := 565) (by decide +kernel) rfl
theorem wt566 : Cond.code yX8_round prog_1_method_14_code 2 (some .int) ∈ WA := wa_t (i := 566) (by decide +kernel) rfl
theorem wt567 : Cond.methodLink RX8 201 yX7_rounds ∈ WA := wa_t (i := 567) (by decide +kernel) rfl
theorem wt568 : Cond.static yX7_rounds ∈ WA := wa_t (i := 568) (by decide +kernel) rfl
theorem wt569 : Cond.code yX7_rounds prog_9_method_7_code 4 (some .int) ∈ WA := wa_t (i := 569) (by decide +kernel) rfl
theorem wt570 : Cond.methodLink RX7 57 yX7_afterAllAtOnce ∈ WA := wa_t (i := 570) (by decide +kernel) rfl
theorem wt571 : Cond.static yX7_afterAllAtOnce ∈ WA := wa_t (i := 571) (by decide +kernel) rfl
theorem wt572 : Cond.code yX7_afterAllAtOnce prog_9_method_8_code 4 (some .int) ∈ WA := wa_t (i := 572) (by decide +kernel) rfl
theorem wt573 : Cond.methodLink RL 73 yX8_needs ∈ WA := wa_t (i := 573) (by decide +kernel) rfl
theorem wt574 : Cond.instanceMethod yX8_needs ∈ WA := wa_t (i := 574) (by decide +kernel) rfl
theorem wt575 : Cond.selects RX8 yX8_needs yX8_needs ∈ WA := wa_t (i := 575) (by decide +kernel) rfl
theorem wt576 : Cond.code yX8_needs prog_1_method_15_code 3 (some .int) ∈ WA := wa_t (i := 576) (by decide +kernel) rfl
theorem wt577 : Cond.methodLink RX8 205 yX0_leadTo ∈ WA := wa_t (i := 577) (by decide +kernel) rfl
theorem wt578 : Cond.static yX0_leadTo ∈ WA := wa_t (i := 578) (by decide +kernel) rfl
theorem wt579 : Cond.code yX0_leadTo prog_2_method_2_code 2 (some .boolean) ∈ WA := wa_t (i := 579) (by decide +kernel) rfl
theorem wt580 : Cond.methodLink RX0 9 yX1_beginnings ∈ WA := wa_t (i := 580) (by decide +kernel) rfl
theorem wt581 : Cond.methodLink RX0 15 yX0_isMet ∈ WA := wa_t (i := 581) (by decide +kernel) rfl
theorem wt582 : Cond.static yX0_isMet ∈ WA := wa_t (i := 582) (by decide +kernel) rfl
theorem wt583 : Cond.code yX0_isMet prog_2_method_11_code 4 (some .boolean) ∈ WA := wa_t (i := 583) (by decide +kernel) rfl
theorem wt584 : Cond.methodLink RX0 32 yX1_there ∈ WA := wa_t (i := 584) (by decide +kernel) rfl
theorem wt585 : Cond.methodLink RX0 35 yX1_reachBy ∈ WA := wa_t (i := 585) (by decide +kernel) rfl
theorem wt586 : Cond.methodLink RX0 51 yX1_hasGainsayersIn ∈ WA := wa_t (i := 586) (by decide +kernel) rfl
theorem wt587 : Cond.instanceMethod yX1_hasGainsayersIn ∈ WA := wa_t (i := 587) (by decide +kernel) rfl
theorem wt588 : Cond.selects RX1 yX1_hasGainsayersIn yX1_hasGainsayersIn ∈ WA := wa_t (i := 588) (by decide +kernel) rfl
theorem wt589 : Cond.code yX1_hasGainsayersIn prog_3_method_36_code 3 (some .boolean) ∈ WA := wa_t (i := 589) (by decide +kernel) rfl
theorem wt590 : Cond.methodLink RX1 102 yX1_gainsayersOf ∈ WA := wa_t (i := 590) (by decide +kernel) rfl
theorem wt592 : Cond.methodLink RX8 211 yX0_neededFor ∈ WA := wa_t (i := 592) (by decide +kernel) rfl
theorem wt593 : Cond.static yX0_neededFor ∈ WA := wa_t (i := 593) (by decide +kernel) rfl
theorem wt594 : Cond.code yX0_neededFor prog_2_method_4_code 5 (some .int) ∈ WA := wa_t (i := 594) (by decide +kernel) rfl
theorem wt595 : Cond.methodLink RX0 21 yX1_stoneCount ∈ WA := wa_t (i := 595) (by decide +kernel) rfl
theorem wt596 : Cond.methodLink RX8 214 yX0_fewestFor ∈ WA := wa_t (i := 596) (by decide +kernel) rfl
theorem wt597 : Cond.static yX0_fewestFor ∈ WA := wa_t (i := 597) (by decide +kernel) rfl
theorem wt598 : Cond.code yX0_fewestFor prog_2_method_5_code 2 (some .int) ∈ WA := wa_t (i := 598) (by decide +kernel) rfl
theorem wt599 : Cond.methodLink RX0 28 yX0_fewestTurned ∈ WA := wa_t (i := 599) (by decide +kernel) rfl
theorem wt600 : Cond.static yX0_fewestTurned ∈ WA := wa_t (i := 600) (by decide +kernel) rfl
theorem wt601 : Cond.code yX0_fewestTurned prog_2_method_10_code 8 (some .int) ∈ WA := wa_t (i := 601) (by decide +kernel) rfl
theorem wt602 : Cond.methodLink RX0 43 yJ6_bitCount_0f7a4 ∈ WA := wa_t (i := 602) (by decide +kernel) rfl
theorem wt604 : Cond.methodLink RL 77 yX8_lost ∈ WA := wa_t (i := 604) (by decide +kernel) rfl
theorem wt605 : Cond.instanceMethod yX8_lost ∈ WA := wa_t (i := 605) (by decide +kernel) rfl
theorem wt606 : Cond.selects RX8 yX8_lost yX8_lost ∈ WA := wa_t (i := 606) (by decide +kernel) rfl
theorem wt607 : Cond.code yX8_lost prog_1_method_16_code 2 (some .int) ∈ WA := wa_t (i := 607) (by decide +kernel) rfl
theorem wt608 : Cond.methodLink RX8 217 yX0_lostBy ∈ WA := wa_t (i := 608) (by decide +kernel) rfl
theorem wt609 : Cond.static yX0_lostBy ∈ WA := wa_t (i := 609) (by decide +kernel) rfl
theorem wt610 : Cond.code yX0_lostBy prog_2_method_6_code 4 (some .int) ∈ WA := wa_t (i := 610) (by decide +kernel) rfl
theorem wt611 : Cond.methodLink RX0 39 yX1_reachOf ∈ WA := wa_t (i := 611) (by decide +kernel) rfl
theorem wt612 : Cond.methodLink RL 81 yX8_begin ∈ WA := wa_t (i := 612) (by decide +kernel) rfl
theorem wt613 : Cond.instanceMethod yX8_begin ∈ WA := wa_t (i := 613) (by decide +kernel) rfl
theorem wt614 : Cond.selects RX8 yX8_begin yX8_begin ∈ WA := wa_t (i := 614) (by decide +kernel) rfl
theorem wt615 : Cond.code yX8_begin prog_1_method_17_code 2 (some .int) ∈ WA := wa_t (i := 615) (by decide +kernel) rfl
theorem wt616 : Cond.methodLink RX8 220 yX0_fewestMoreFor ∈ WA := wa_t (i := 616) (by decide +kernel) rfl
theorem wt617 : Cond.static yX0_fewestMoreFor ∈ WA := wa_t (i := 617) (by decide +kernel) rfl
theorem wt618 : Cond.code yX0_fewestMoreFor prog_2_method_7_code 3 (some .int) ∈ WA := wa_t (i := 618) (by decide +kernel) rfl
theorem wt619 : Cond.methodLink RL 85 yX8_hall ∈ WA := wa_t (i := 619) (by decide +kernel) rfl
theorem wt620 : Cond.instanceMethod yX8_hall ∈ WA := wa_t (i := 620) (by decide +kernel) rfl
theorem wt621 : Cond.selects RX8 yX8_hall yX8_hall ∈ WA := wa_t (i := 621) (by decide +kernel) rfl
theorem wt622 : Cond.code yX8_hall prog_1_method_18_code 2 (some .int) ∈ WA := wa_t (i := 622) (by decide +kernel) rfl
theorem wt623 : Cond.methodLink RX8 223 yX0_leadIntoHall ∈ WA := wa_t (i := 623) (by decide +kernel) rfl
theorem wt624 : Cond.static yX0_leadIntoHall ∈ WA := wa_t (i := 624) (by decide +kernel) rfl
theorem wt625 : Cond.code yX0_leadIntoHall prog_2_method_3_code 1 (some .boolean) ∈ WA := wa_t (i := 625) (by decide +kernel) rfl
theorem wt626 : Cond.methodLink RX8 227 yX0_fewestIntoHall ∈ WA := wa_t (i := 626) (by decide +kernel) rfl
theorem wt627 : Cond.static yX0_fewestIntoHall ∈ WA := wa_t (i := 627) (by decide +kernel) rfl
theorem wt628 : Cond.code yX0_fewestIntoHall prog_2_method_8_code 1 (some .int) ∈ WA := wa_t (i := 628) (by decide +kernel) rfl
theorem wt629 : Cond.methodLink RL 89 yX8_rope ∈ WA := wa_t (i := 629) (by decide +kernel) rfl
theorem wt630 : Cond.instanceMethod yX8_rope ∈ WA := wa_t (i := 630) (by decide +kernel) rfl
theorem wt631 : Cond.selects RX8 yX8_rope yX8_rope ∈ WA := wa_t (i := 631) (by decide +kernel) rfl
theorem wt632 : Cond.code yX8_rope prog_1_method_19_code 1 (some .int) ∈ WA := wa_t (i := 632) (by decide +kernel) rfl
theorem wt633 : Cond.methodLink RX8 230 yX0_fewestToRopeOff ∈ WA := wa_t (i := 633) (by decide +kernel) rfl
theorem wt634 : Cond.static yX0_fewestToRopeOff ∈ WA := wa_t (i := 634) (by decide +kernel) rfl
theorem wt635 : Cond.code yX0_fewestToRopeOff prog_2_method_9_code 1 (some .int) ∈ WA := wa_t (i := 635) (by decide +kernel) rfl
theorem wt636 : Cond.methodLink RL 93 yX8_idle ∈ WA := wa_t (i := 636) (by decide +kernel) rfl
theorem wt637 : Cond.instanceMethod yX8_idle ∈ WA := wa_t (i := 637) (by decide +kernel) rfl
theorem wt638 : Cond.selects RX8 yX8_idle yX8_idle ∈ WA := wa_t (i := 638) (by decide +kernel) rfl
theorem wt639 : Cond.code yX8_idle prog_1_method_20_code 1 (some .int) ∈ WA := wa_t (i := 639) (by decide +kernel) rfl
theorem wt640 : Cond.methodLink RX8 233 yX5_idleSteps ∈ WA := wa_t (i := 640) (by decide +kernel) rfl
theorem wt641 : Cond.static yX5_idleSteps ∈ WA := wa_t (i := 641) (by decide +kernel) rfl
theorem wt642 : Cond.code yX5_idleSteps prog_7_method_2_code 5 (some .int) ∈ WA := wa_t (i := 642) (by decide +kernel) rfl
theorem wt643 : Cond.methodLink RX5 9 yX1_stepCount ∈ WA := wa_t (i := 643) (by decide +kernel) rfl
theorem wt644 : Cond.methodLink RX5 15 yX1_originsOf ∈ WA := wa_t (i := 644) (by decide +kernel) rfl
theorem wt645 : Cond.instanceMethod yX1_originsOf ∈ WA := wa_t (i := 645) (by decide +kernel) rfl
theorem wt646 : Cond.selects RX1 yX1_originsOf yX1_originsOf ∈ WA := wa_t (i := 646) (by decide +kernel) rfl
theorem wt647 : Cond.code yX1_originsOf prog_3_method_25_code 2 (some .int) ∈ WA := wa_t (i := 647) (by decide +kernel) rfl
theorem wt648 : Cond.methodLink RX5 19 yX1_allStones ∈ WA := wa_t (i := 648) (by decide +kernel) rfl
theorem wt649 : Cond.methodLink RX5 22 yX1_reachBy ∈ WA := wa_t (i := 649) (by decide +kernel) rfl
theorem wt650 : Cond.methodLink RX5 26 yX1_endOf ∈ WA := wa_t (i := 650) (by decide +kernel) rfl
theorem wt652 : Cond.methodLink RL 97 yX8_circle ∈ WA := wa_t (i := 652) (by decide +kernel) rfl
theorem wt653 : Cond.instanceMethod yX8_circle ∈ WA := wa_t (i := 653) (by decide +kernel) rfl
theorem wt654 : Cond.selects RX8 yX8_circle yX8_circle ∈ WA := wa_t (i := 654) (by decide +kernel) rfl
theorem wt655 : Cond.code yX8_circle prog_1_method_21_code 1 (some .int) ∈ WA := wa_t (i := 655) (by decide +kernel) rfl
theorem wt656 : Cond.methodLink RX8 238 yX5_lowestInCircle ∈ WA := wa_t (i := 656) (by decide +kernel) rfl
theorem wt657 : Cond.static yX5_lowestInCircle ∈ WA := wa_t (i := 657) (by decide +kernel) rfl
theorem wt658 : Cond.code yX5_lowestInCircle prog_7_method_3_code 2 (some .int) ∈ WA := wa_t (i := 658) (by decide +kernel) rfl
theorem wt659 : Cond.methodLink RX5 33 yX1_stoneCount ∈ WA := wa_t (i := 659) (by decide +kernel) rfl
theorem wt660 : Cond.methodLink RX5 36 yX5_everBehind ∈ WA := wa_t (i := 660) (by decide +kernel) rfl
theorem wt661 : Cond.static yX5_everBehind ∈ WA := wa_t (i := 661) (by decide +kernel) rfl
theorem wt662 : Cond.code yX5_everBehind prog_7_method_4_code 4 (some .int) ∈ WA := wa_t (i := 662) (by decide +kernel) rfl
theorem wt663 : Cond.methodLink RX5 42 yX1_directlyBehind ∈ WA := wa_t (i := 663) (by decide +kernel) rfl
theorem wt664 : Cond.instanceMethod yX1_directlyBehind ∈ WA := wa_t (i := 664) (by decide +kernel) rfl
theorem wt665 : Cond.selects RX1 yX1_directlyBehind yX1_directlyBehind ∈ WA := wa_t (i := 665) (by decide +kernel) rfl
theorem wt666 : Cond.code yX1_directlyBehind prog_3_method_37_code 4 (some .int) ∈ WA := wa_t (i := 666) (by decide +kernel) rfl
theorem wt667 : Cond.methodLink RX1 105 yX1_originsOf ∈ WA := wa_t (i := 667) (by decide +kernel) rfl
theorem wt668 : Cond.methodLink RL 101 yX8_deep ∈ WA := wa_t (i := 668) (by decide +kernel) rfl
theorem wt669 : Cond.instanceMethod yX8_deep ∈ WA := wa_t (i := 669) (by decide +kernel) rfl
theorem wt670 : Cond.selects RX8 yX8_deep yX8_deep ∈ WA := wa_t (i := 670) (by decide +kernel) rfl
theorem wt671 : Cond.code yX8_deep prog_1_method_22_code 1 (some .int) ∈ WA := wa_t (i := 671) (by decide +kernel) rfl
theorem wt672 : Cond.methodLink RX8 241 yX5_depth ∈ WA := wa_t (i := 672) (by decide +kernel) rfl
theorem wt673 : Cond.static yX5_depth ∈ WA := wa_t (i := 673) (by decide +kernel) rfl
theorem wt674 : Cond.code yX5_depth prog_7_method_5_code 3 (some .int) ∈ WA := wa_t (i := 674) (by decide +kernel) rfl
theorem wt675 : Cond.methodLink RL 105 yX8_proofs ∈ WA := wa_t (i := 675) (by decide +kernel) rfl
theorem wt676 : Cond.instanceMethod yX8_proofs ∈ WA := wa_t (i := 676) (by decide +kernel) rfl
theorem wt677 : Cond.selects RX8 yX8_proofs yX8_proofs ∈ WA := wa_t (i := 677) (by decide +kernel) rfl
theorem wt678 : Cond.code yX8_proofs prog_1_method_23_code 3 (some .int) ∈ WA := wa_t (i := 678) (by decide +kernel) rfl
theorem wt679 : Cond.methodLink RX8 244 yX3_reckon ∈ WA := wa_t (i := 679) (by decide +kernel) rfl
theorem wt680 : Cond.instanceMethod yX3_reckon ∈ WA := wa_t (i := 680) (by decide +kernel) rfl
theorem wt681 : Cond.selects RX3 yX3_reckon yX3_reckon ∈ WA := wa_t (i := 681) (by decide +kernel) rfl
theorem wt682 : Cond.code yX3_reckon prog_5_method_2_code 6 (none : Option Jvm.ClassFile.FieldType) ∈ WA := wa_t (i := 682) (by decide +kernel) rfl
theorem wt683 : Cond.methodLink RX3 15 yX1_stepCount ∈ WA := wa_t (i := 683) (by decide +kernel) rfl
theorem wt684 : Cond.methodLink RX3 25 yX1_beginnings ∈ WA := wa_t (i := 684) (by decide +kernel) rfl
theorem wt687 : Cond.methodLink RX3 36 yJ6_numberOfTrailingZeros_0f7a4 ∈ WA := wa_t (i := 687) (by decide +kernel) rfl
theorem wt688 : Cond.static yJ6_numberOfTrailingZeros_0f7a4 ∈ WA := wa_t (i := 688) (by decide +kernel) rfl
theorem wt689 : Cond.code yJ6_numberOfTrailingZeros_0f7a4 prog_12_method_48_code 2 (some .int) ∈ WA := wa_t (i := 689) (by decide +kernel) rfl
theorem wt690 : Cond.constant RJ6 264 (65536) ∈ WA := wa_t (i := 690) (by decide +kernel) rfl
theorem wt691 : Cond.methodLink RX3 42 yX1_after ∈ WA := wa_t (i := 691) (by decide +kernel) rfl
theorem wt692 : Cond.methodLink RX3 46 yX1_there ∈ WA := wa_t (i := 692) (by decide +kernel) rfl
theorem wt693 : Cond.methodLink RX3 49 yX1_reachBy ∈ WA := wa_t (i := 693) (by decide +kernel) rfl
theorem wt694 : Cond.methodLink RX8 247 yX3_howMany ∈ WA := wa_t (i := 694) (by decide +kernel) rfl
theorem wt695 : Cond.instanceMethod yX3_howMany ∈ WA := wa_t (i := 695) (by decide +kernel) rfl
theorem wt696 : Cond.selects RX3 yX3_howMany yX3_howMany ∈ WA := wa_t (i := 696) (by decide +kernel) rfl
theorem wt697 : Cond.code yX3_howMany prog_5_method_4_code 4 (some .int) ∈ WA := wa_t (i := 697) (by decide +kernel) rfl
theorem wt698 : Cond.methodLink RX3 57 yX3_isProof ∈ WA := wa_t (i := 698) (by decide +kernel) rfl
theorem wt700 : Cond.instanceMethod yX3_isProof ∈ WA := wa_t (i := 700) (by decide +kernel) rfl
theorem wt701 : Cond.code yX3_isProof prog_5_method_3_code 4 (some .boolean) ∈ WA := wa_t (i := 701) (by decide +kernel) rfl
theorem wt703 : Cond.methodLink RX8 250 yX3_shortest ∈ WA := wa_t (i := 703) (by decide +kernel) rfl
theorem wt704 : Cond.instanceMethod yX3_shortest ∈ WA := wa_t (i := 704) (by decide +kernel) rfl
theorem wt705 : Cond.selects RX3 yX3_shortest yX3_shortest ∈ WA := wa_t (i := 705) (by decide +kernel) rfl
theorem wt706 : Cond.code yX3_shortest prog_5_method_5_code 5 (some .int) ∈ WA := wa_t (i := 706) (by decide +kernel) rfl
theorem wt707 : Cond.methodLink RX3 60 yJ6_bitCount_0f7a4 ∈ WA := wa_t (i := 707) (by decide +kernel) rfl
theorem wt708 : Cond.methodLink RX8 253 yX3_inAll ∈ WA := wa_t (i := 708) (by decide +kernel) rfl
theorem wt709 : Cond.instanceMethod yX3_inAll ∈ WA := wa_t (i := 709) (by decide +kernel) rfl
theorem wt710 : Cond.selects RX3 yX3_inAll yX3_inAll ∈ WA := wa_t (i := 710) (by decide +kernel) rfl
theorem wt711 : Cond.code yX3_inAll prog_5_method_6_code 5 (some .int) ∈ WA := wa_t (i := 711) (by decide +kernel) rfl
theorem wt712 : Cond.methodLink RL 109 yX8_worn ∈ WA := wa_t (i := 712) (by decide +kernel) rfl
theorem wt713 : Cond.instanceMethod yX8_worn ∈ WA := wa_t (i := 713) (by decide +kernel) rfl
theorem wt714 : Cond.selects RX8 yX8_worn yX8_worn ∈ WA := wa_t (i := 714) (by decide +kernel) rfl
theorem wt715 : Cond.code yX8_worn prog_1_method_24_code 3 (some .int) ∈ WA := wa_t (i := 715) (by decide +kernel) rfl
theorem wt716 : Cond.methodLink RX8 256 yX3_howManyWear ∈ WA := wa_t (i := 716) (by decide +kernel) rfl
theorem wt717 : Cond.instanceMethod yX3_howManyWear ∈ WA := wa_t (i := 717) (by decide +kernel) rfl
theorem wt718 : Cond.selects RX3 yX3_howManyWear yX3_howManyWear ∈ WA := wa_t (i := 718) (by decide +kernel) rfl
theorem wt719 : Cond.code yX3_howManyWear prog_5_method_7_code 6 (some .int) ∈ WA := wa_t (i := 719) (by decide +kernel) rfl
theorem wt720 : Cond.methodLink RX3 63 yX3_endsOf ∈ WA := wa_t (i := 720) (by decide +kernel) rfl
theorem wt721 : Cond.static yX3_endsOf ∈ WA := wa_t (i := 721) (by decide +kernel) rfl
theorem wt722 : Cond.code yX3_endsOf prog_5_method_8_code 4 (some .int) ∈ WA := wa_t (i := 722) (by decide +kernel) rfl
theorem wt723 : Cond.methodLink RX3 67 yX1_endOf ∈ WA := wa_t (i := 723) (by decide +kernel) rfl
theorem wt724 : Cond.methodLink RL 113 yX8_tell ∈ WA := wa_t (i := 724) (by decide +kernel) rfl
theorem wt725 : Cond.instanceMethod yX8_tell ∈ WA := wa_t (i := 725) (by decide +kernel) rfl
theorem wt726 : Cond.selects RX8 yX8_tell yX8_tell ∈ WA := wa_t (i := 726) (by decide +kernel) rfl
theorem wt727 : Cond.code yX8_tell prog_1_method_25_code 2 (some .int) ∈ WA := wa_t (i := 727) (by decide +kernel) rfl
theorem wt728 : Cond.methodLink RX8 260 yX8_put ∈ WA := wa_t (i := 728) (by decide +kernel) rfl
theorem wt729 : Cond.methodLink RL 117 yX8_noRow ∈ WA := wa_t (i := 729) (by decide +kernel) rfl
theorem wt730 : Cond.instanceMethod yX8_noRow ∈ WA := wa_t (i := 730) (by decide +kernel) rfl
theorem wt731 : Cond.selects RX8 yX8_noRow yX8_noRow ∈ WA := wa_t (i := 731) (by decide +kernel) rfl
theorem wt732 : Cond.code yX8_noRow prog_1_method_26_code 2 (some .int) ∈ WA := wa_t (i := 732) (by decide +kernel) rfl
theorem wt733 : Cond.methodLink RL 121 yX8_judge ∈ WA := wa_t (i := 733) (by decide +kernel) rfl
theorem wt734 : Cond.instanceMethod yX8_judge ∈ WA := wa_t (i := 734) (by decide +kernel) rfl
theorem wt735 : Cond.selects RX8 yX8_judge yX8_judge ∈ WA := wa_t (i := 735) (by decide +kernel) rfl
theorem wt736 : Cond.code yX8_judge prog_1_method_27_code 4 (some .int) ∈ WA := wa_t (i := 736) (by decide +kernel) rfl
theorem wt737 : Cond.methodLink RX8 264 yX8_at ∈ WA := wa_t (i := 737) (by decide +kernel) rfl
theorem wt738 : Cond.methodLink RX8 268 yX1_after ∈ WA := wa_t (i := 738) (by decide +kernel) rfl
theorem wt739 : Cond.methodLink RL 125 yX8_year ∈ WA := wa_t (i := 739) (by decide +kernel) rfl
theorem wt740 : Cond.instanceMethod yX8_year ∈ WA := wa_t (i := 740) (by decide +kernel) rfl
theorem wt741 : Cond.selects RX8 yX8_year yX8_year ∈ WA := wa_t (i := 741) (by decide +kernel) rfl
theorem wt742 : Cond.code yX8_year prog_1_method_28_code 6 (some .int) ∈ WA := wa_t (i := 742) (by decide +kernel) rfl
theorem wt743 : Cond.methodLink RX8 271 yX8_drawnStep ∈ WA := wa_t (i := 743) (by decide +kernel) rfl
theorem wt745 : Cond.instanceMethod yX8_drawnStep ∈ WA := wa_t (i := 745) (by decide +kernel) rfl
theorem wt746 : Cond.code yX8_drawnStep prog_1_method_37_code 6 (some .int) ∈ WA := wa_t (i := 746) (by decide +kernel) rfl
theorem wt747 : Cond.constantLong RX8 285 (7919) ∈ WA := wa_t (i := 747) (by decide +kernel) rfl
theorem wt748 : Cond.constantLong RX8 287 (6151) ∈ WA := wa_t (i := 748) (by decide +kernel) rfl
theorem wt749 : Cond.constantLong RX8 289 (65521) ∈ WA := wa_t (i := 749) (by decide +kernel) rfl
theorem wt750 : Cond.methodLink RL 129 yX8_keep ∈ WA := wa_t (i := 750) (by decide +kernel) rfl
theorem wt751 : Cond.instanceMethod yX8_keep ∈ WA := wa_t (i := 751) (by decide +kernel) rfl
theorem wt752 : Cond.selects RX8 yX8_keep yX8_keep ∈ WA := wa_t (i := 752) (by decide +kernel) rfl
theorem wt753 : Cond.code yX8_keep prog_1_method_29_code 1 (some .int) ∈ WA := wa_t (i := 753) (by decide +kernel) rfl
theorem wt754 : Cond.methodLink RX8 274 yX8_keeperOf ∈ WA := wa_t (i := 754) (by decide +kernel) rfl
theorem wt756 : Cond.instanceMethod yX8_keeperOf ∈ WA := wa_t (i := 756) (by decide +kernel) rfl
theorem wt757 : Cond.code yX8_keeperOf prog_1_method_36_code 2 (some (.object "FloorOfProofs$Floor")) ∈ WA := wa_t (i := 757) (by decide +kernel) rfl
theorem wt758 : Cond.methodLink RL 133 yX8_back ∈ WA := wa_t (i := 758) (by decide +kernel) rfl
theorem wt759 : Cond.instanceMethod yX8_back ∈ WA := wa_t (i := 759) (by decide +kernel) rfl
theorem wt760 : Cond.selects RX8 yX8_back yX8_back ∈ WA := wa_t (i := 760) (by decide +kernel) rfl
theorem wt761 : Cond.code yX8_back prog_1_method_30_code 1 (some .int) ∈ WA := wa_t (i := 761) (by decide +kernel) rfl
theorem wt762 : Cond.methodLink RL 137 yX8_count ∈ WA := wa_t (i := 762) (by decide +kernel) rfl
theorem wt763 : Cond.instanceMethod yX8_count ∈ WA := wa_t (i := 763) (by decide +kernel) rfl
theorem wt764 : Cond.selects RX8 yX8_count yX8_count ∈ WA := wa_t (i := 764) (by decide +kernel) rfl
theorem wt765 : Cond.code yX8_count prog_1_method_31_code 2 (some .int) ∈ WA := wa_t (i := 765) (by decide +kernel) rfl
theorem wt766 : Cond.classLink RL 10 RX9 ∈ WA := wa_t (i := 766) (by decide +kernel) rfl
theorem wt767 : Cond.instantiable RX9 13 ∈ WA := wa_t (i := 767) (by decide +kernel) rfl
theorem wt768 : Cond.methodLink RL 12 yX9_init ∈ WA := wa_t (i := 768) (by decide +kernel) rfl
theorem wt769 : Cond.instanceMethod yX9_init ∈ WA := wa_t (i := 769) (by decide +kernel) rfl
theorem wt770 : Cond.code yX9_init prog_11_method_1_code 1 (none : Option Jvm.ClassFile.FieldType) ∈ WA := wa_t (i := 770) (by decide +kernel) rfl
theorem wt771 : Cond.methodLink RX9 1 Jvm.Lib.objectInit ∈ WA := wa_t (i := 771) (by decide +kernel) rfl
theorem wt772 : Cond.methodLink RX9 32 yX9_makeAnew ∈ WA := wa_t (i := 772) (by decide +kernel) rfl
theorem wt774 : Cond.instanceMethod yX9_makeAnew ∈ WA := wa_t (i := 774) (by decide +kernel) rfl
theorem wt775 : Cond.code yX9_makeAnew prog_11_method_7_code 3 (none : Option Jvm.ClassFile.FieldType) ∈ WA := wa_t (i := 775) (by decide +kernel) rfl
theorem wt776 : Cond.methodLink RX9 36 yX9_layStep ∈ WA := wa_t (i := 776) (by decide +kernel) rfl
theorem wt778 : Cond.instanceMethod yX9_layStep ∈ WA := wa_t (i := 778) (by decide +kernel) rfl
theorem wt779 : Cond.code yX9_layStep prog_11_method_8_code 6 (none : Option Jvm.ClassFile.FieldType) ∈ WA := wa_t (i := 779) (by decide +kernel) rfl
theorem wt780 : Cond.methodLink RX9 40 yX9_settle ∈ WA := wa_t (i := 780) (by decide +kernel) rfl
theorem wt782 : Cond.instanceMethod yX9_settle ∈ WA := wa_t (i := 782) (by decide +kernel) rfl
theorem wt783 : Cond.code yX9_settle prog_11_method_9_code 2 (none : Option Jvm.ClassFile.FieldType) ∈ WA := wa_t (i := 783) (by decide +kernel) rfl
theorem wt784 : Cond.fieldLink "FloorOfProofsModel" 7 "FloorOfProofsModel" "w" "[I" ∈ WA := wa_t (i := 784) (by decide +kernel) rfl
theorem wt785 : Cond.fieldLink "FloorOfProofsModel" 99 "FloorOfProofsModel" "kept" "I" ∈ WA := wa_t (i := 785) (by decide +kernel) rfl
theorem wt786 : Cond.fieldLink "FloorOfProofsModel" 96 "FloorOfProofsModel" "undoes" "I" ∈ WA := wa_t (i := 786) (by decide +kernel) rfl
theorem wt787 : Cond.fieldLink "FloorOfProofsModel" 13 "FloorOfProofsModel" "text" "[I" ∈ WA := wa_t (i := 787) (by decide +kernel) rfl
theorem wt788 : Cond.fieldLink "FloorOfProofsModel" 49 "FloorOfProofsModel" "texted" "I" ∈ WA := wa_t (i := 788) (by decide +kernel) rfl
theorem wt789 : Cond.fieldLink "FloorOfProofsModel" 16 "FloorOfProofsModel" "told" "[I" ∈ WA := wa_t (i := 789) (by decide +kernel) rfl
theorem wt790 : Cond.fieldLink "FloorOfProofsModel" 93 "FloorOfProofsModel" "toldMany" "I" ∈ WA := wa_t (i := 790) (by decide +kernel) rfl
theorem wt791 : Cond.fieldLink "FloorOfProofsModel" 55 "FloorOfProofsModel" "at" "I" ∈ WA := wa_t (i := 791) (by decide +kernel) rfl
theorem wt792 : Cond.fieldLink "FloorOfProofsModel" 19 "FloorOfProofsModel" "numbers" "[I" ∈ WA := wa_t (i := 792) (by decide +kernel) rfl
theorem wt793 : Cond.fieldLink "FloorOfProofsModel" 69 "FloorOfProofsModel" "others" "Z" ∈ WA := wa_t (i := 793) (by decide +kernel) rfl
theorem wt794 : Cond.fieldLink "FloorOfProofsModel" 22 "FloorOfProofsModel" "rows" "[J" ∈ WA := wa_t (i := 794) (by decide +kernel) rfl
theorem wt795 : Cond.fieldLink "FloorOfProofsModel" 26 "FloorOfProofsModel" "fewest" "[I" ∈ WA := wa_t (i := 795) (by decide +kernel) rfl
theorem wt796 : Cond.fieldLink "FloorOfProofsModel" 29 "FloorOfProofsModel" "deeps" "[I" ∈ WA := wa_t (i := 796) (by decide +kernel) rfl
theorem wt824 : Cond.arrayClass .long ∈ WA := wa_t (i := 824) (by decide +kernel) rfl
theorem wt825 : Cond.methodLink RL 19 yX9_write ∈ WA := wa_t (i := 825) (by decide +kernel) rfl
theorem wt826 : Cond.instanceMethod yX9_write ∈ WA := wa_t (i := 826) (by decide +kernel) rfl
theorem wt827 : Cond.selects RX9 yX9_write yX9_write ∈ WA := wa_t (i := 827) (by decide +kernel) rfl
theorem wt828 : Cond.code yX9_write prog_11_method_13_code 5 (some .int) ∈ WA := wa_t (i := 828) (by decide +kernel) rfl
theorem wt829 : Cond.constantLong RX9 47 (8) ∈ WA := wa_t (i := 829) (by decide +kernel) rfl
theorem wt830 : Cond.methodLink RX9 43 yX9_in ∈ WA := wa_t (i := 830) (by decide +kernel) rfl
theorem wt831 : Cond.static yX9_in ∈ WA := wa_t (i := 831) (by decide +kernel) rfl
theorem wt832 : Cond.code yX9_in prog_11_method_3_code 6 (some .boolean) ∈ WA := wa_t (i := 832) (by decide +kernel) rfl
theorem wt833 : Cond.constantLong RX9 53 (255) ∈ WA := wa_t (i := 833) (by decide +kernel) rfl
theorem wt834 : Cond.methodLink RL 24 yX9_wipe ∈ WA := wa_t (i := 834) (by decide +kernel) rfl
theorem wt835 : Cond.instanceMethod yX9_wipe ∈ WA := wa_t (i := 835) (by decide +kernel) rfl
theorem wt836 : Cond.selects RX9 yX9_wipe yX9_wipe ∈ WA := wa_t (i := 836) (by decide +kernel) rfl
theorem wt837 : Cond.code yX9_wipe prog_11_method_14_code 2 (some .int) ∈ WA := wa_t (i := 837) (by decide +kernel) rfl
theorem wt838 : Cond.methodLink RL 28 yX9_fault ∈ WA := wa_t (i := 838) (by decide +kernel) rfl
theorem wt839 : Cond.instanceMethod yX9_fault ∈ WA := wa_t (i := 839) (by decide +kernel) rfl
theorem wt840 : Cond.selects RX9 yX9_fault yX9_fault ∈ WA := wa_t (i := 840) (by decide +kernel) rfl
theorem wt841 : Cond.code yX9_fault prog_11_method_20_code 2 (some .int) ∈ WA := wa_t (i := 841) (by decide +kernel) rfl
theorem wt842 : Cond.methodLink RX9 82 yX9_readItem ∈ WA := wa_t (i := 842) (by decide +kernel) rfl
theorem wt844 : Cond.instanceMethod yX9_readItem ∈ WA := wa_t (i := 844) (by decide +kernel) rfl
theorem wt845 : Cond.code yX9_readItem prog_11_method_19_code 3 (some .boolean) ∈ WA := wa_t (i := 845) (by decide +kernel) rfl
theorem wt846 : Cond.methodLink RX9 62 yX9_takes ∈ WA := wa_t (i := 846) (by decide +kernel) rfl
theorem wt848 : Cond.instanceMethod yX9_takes ∈ WA := wa_t (i := 848) (by decide +kernel) rfl
theorem wt849 : Cond.code yX9_takes prog_11_method_15_code 5 (some .boolean) ∈ WA := wa_t (i := 849) (by decide +kernel) rfl
theorem wt850 : Cond.constantLong RX9 58 (48) ∈ WA := wa_t (i := 850) (by decide +kernel) rfl
theorem wt851 : Cond.constantLong RX9 60 (57) ∈ WA := wa_t (i := 851) (by decide +kernel) rfl
theorem wt852 : Cond.constantLong RX9 73 (10) ∈ WA := wa_t (i := 852) (by decide +kernel) rfl
theorem wt853 : Cond.methodLink RX9 66 yX9_isRead ∈ WA := wa_t (i := 853) (by decide +kernel) rfl
theorem wt855 : Cond.instanceMethod yX9_isRead ∈ WA := wa_t (i := 855) (by decide +kernel) rfl
theorem wt856 : Cond.code yX9_isRead prog_11_method_16_code 2 (some .boolean) ∈ WA := wa_t (i := 856) (by decide +kernel) rfl
theorem wt857 : Cond.methodLink RX9 75 yX9_readStep ∈ WA := wa_t (i := 857) (by decide +kernel) rfl
theorem wt859 : Cond.instanceMethod yX9_readStep ∈ WA := wa_t (i := 859) (by decide +kernel) rfl
theorem wt860 : Cond.code yX9_readStep prog_11_method_17_code 2 (some .boolean) ∈ WA := wa_t (i := 860) (by decide +kernel) rfl
theorem wt861 : Cond.methodLink RX9 79 yX9_readPair ∈ WA := wa_t (i := 861) (by decide +kernel) rfl
theorem wt863 : Cond.instanceMethod yX9_readPair ∈ WA := wa_t (i := 863) (by decide +kernel) rfl
theorem wt864 : Cond.code yX9_readPair prog_11_method_18_code 2 (some .boolean) ∈ WA := wa_t (i := 864) (by decide +kernel) rfl
theorem wt865 : Cond.methodLink RL 32 yX9_layFloor ∈ WA := wa_t (i := 865) (by decide +kernel) rfl
theorem wt866 : Cond.instanceMethod yX9_layFloor ∈ WA := wa_t (i := 866) (by decide +kernel) rfl
theorem wt867 : Cond.selects RX9 yX9_layFloor yX9_layFloor ∈ WA := wa_t (i := 867) (by decide +kernel) rfl
theorem wt868 : Cond.code yX9_layFloor prog_11_method_21_code 1 (some .int) ∈ WA := wa_t (i := 868) (by decide +kernel) rfl
theorem wt869 : Cond.methodLink RX9 85 yX9_fault ∈ WA := wa_t (i := 869) (by decide +kernel) rfl
theorem wt870 : Cond.methodLink RX9 89 yX9_copy ∈ WA := wa_t (i := 870) (by decide +kernel) rfl
theorem wt872 : Cond.instanceMethod yX9_copy ∈ WA := wa_t (i := 872) (by decide +kernel) rfl
theorem wt873 : Cond.code yX9_copy prog_11_method_6_code 4 (none : Option Jvm.ClassFile.FieldType) ∈ WA := wa_t (i := 873) (by decide +kernel) rfl
theorem wt874 : Cond.methodLink RL 37 yX9_stone ∈ WA := wa_t (i := 874) (by decide +kernel) rfl
theorem wt875 : Cond.instanceMethod yX9_stone ∈ WA := wa_t (i := 875) (by decide +kernel) rfl
theorem wt876 : Cond.selects RX9 yX9_stone yX9_stone ∈ WA := wa_t (i := 876) (by decide +kernel) rfl
theorem wt877 : Cond.code yX9_stone prog_11_method_23_code 3 (some .int) ∈ WA := wa_t (i := 877) (by decide +kernel) rfl
theorem wt878 : Cond.methodLink RX9 106 yX9_isStone ∈ WA := wa_t (i := 878) (by decide +kernel) rfl
theorem wt880 : Cond.instanceMethod yX9_isStone ∈ WA := wa_t (i := 880) (by decide +kernel) rfl
theorem wt881 : Cond.code yX9_isStone prog_11_method_10_code 2 (some .boolean) ∈ WA := wa_t (i := 881) (by decide +kernel) rfl
theorem wt882 : Cond.constantLong RX9 109 (4) ∈ WA := wa_t (i := 882) (by decide +kernel) rfl
theorem wt883 : Cond.methodLink RL 41 yX9_step ∈ WA := wa_t (i := 883) (by decide +kernel) rfl
theorem wt884 : Cond.instanceMethod yX9_step ∈ WA := wa_t (i := 884) (by decide +kernel) rfl
theorem wt885 : Cond.selects RX9 yX9_step yX9_step ∈ WA := wa_t (i := 885) (by decide +kernel) rfl
theorem wt886 : Cond.code yX9_step prog_11_method_24_code 3 (some .int) ∈ WA := wa_t (i := 886) (by decide +kernel) rfl
theorem wt887 : Cond.methodLink RX9 111 yX9_isStep ∈ WA := wa_t (i := 887) (by decide +kernel) rfl
theorem wt889 : Cond.instanceMethod yX9_isStep ∈ WA := wa_t (i := 889) (by decide +kernel) rfl
theorem wt890 : Cond.code yX9_isStep prog_11_method_12_code 2 (some .boolean) ∈ WA := wa_t (i := 890) (by decide +kernel) rfl
theorem wt891 : Cond.constantLong RX9 114 (3) ∈ WA := wa_t (i := 891) (by decide +kernel) rfl
theorem wt892 : Cond.methodLink RX9 116 yX9_may ∈ WA := wa_t (i := 892) (by decide +kernel) rfl
theorem wt894 : Cond.instanceMethod yX9_may ∈ WA := wa_t (i := 894) (by decide +kernel) rfl
theorem wt895 : Cond.code yX9_may prog_11_method_22_code 3 (some .boolean) ∈ WA := wa_t (i := 895) (by decide +kernel) rfl
theorem wt896 : Cond.methodLink RX9 102 yX9_has ∈ WA := wa_t (i := 896) (by decide +kernel) rfl
theorem wt897 : Cond.static yX9_has ∈ WA := wa_t (i := 897) (by decide +kernel) rfl
theorem wt898 : Cond.code yX9_has prog_11_method_4_code 2 (some .boolean) ∈ WA := wa_t (i := 898) (by decide +kernel) rfl
theorem wt899 : Cond.methodLink RL 46 yX9_go ∈ WA := wa_t (i := 899) (by decide +kernel) rfl
theorem wt900 : Cond.instanceMethod yX9_go ∈ WA := wa_t (i := 900) (by decide +kernel) rfl
theorem wt901 : Cond.selects RX9 yX9_go yX9_go ∈ WA := wa_t (i := 901) (by decide +kernel) rfl
theorem wt902 : Cond.code yX9_go prog_11_method_26_code 2 (some .int) ∈ WA := wa_t (i := 902) (by decide +kernel) rfl
theorem wt903 : Cond.methodLink RX9 119 yX9_minds ∈ WA := wa_t (i := 903) (by decide +kernel) rfl
theorem wt905 : Cond.instanceMethod yX9_minds ∈ WA := wa_t (i := 905) (by decide +kernel) rfl
theorem wt906 : Cond.code yX9_minds prog_11_method_25_code 2 (none : Option Jvm.ClassFile.FieldType) ∈ WA := wa_t (i := 906) (by decide +kernel) rfl
theorem wt907 : Cond.methodLink RX9 122 yX9_ones ∈ WA := wa_t (i := 907) (by decide +kernel) rfl
theorem wt908 : Cond.static yX9_ones ∈ WA := wa_t (i := 908) (by decide +kernel) rfl
theorem wt909 : Cond.code yX9_ones prog_11_method_5_code 3 (some .int) ∈ WA := wa_t (i := 909) (by decide +kernel) rfl
theorem wt910 : Cond.methodLink RL 50 yX9_takeOut ∈ WA := wa_t (i := 910) (by decide +kernel) rfl
theorem wt911 : Cond.instanceMethod yX9_takeOut ∈ WA := wa_t (i := 911) (by decide +kernel) rfl
theorem wt912 : Cond.selects RX9 yX9_takeOut yX9_takeOut ∈ WA := wa_t (i := 912) (by decide +kernel) rfl
theorem wt913 : Cond.code yX9_takeOut prog_11_method_27_code 2 (some .int) ∈ WA := wa_t (i := 913) (by decide +kernel) rfl
theorem wt914 : Cond.methodLink RL 55 yX9_lay ∈ WA := wa_t (i := 914) (by decide +kernel) rfl
theorem wt915 : Cond.instanceMethod yX9_lay ∈ WA := wa_t (i := 915) (by decide +kernel) rfl
theorem wt916 : Cond.selects RX9 yX9_lay yX9_lay ∈ WA := wa_t (i := 916) (by decide +kernel) rfl
theorem wt917 : Cond.code yX9_lay prog_11_method_28_code 4 (some .int) ∈ WA := wa_t (i := 917) (by decide +kernel) rfl
theorem wt918 : Cond.methodLink RL 59 yX9_undo ∈ WA := wa_t (i := 918) (by decide +kernel) rfl
theorem wt919 : Cond.instanceMethod yX9_undo ∈ WA := wa_t (i := 919) (by decide +kernel) rfl
theorem wt920 : Cond.selects RX9 yX9_undo yX9_undo ∈ WA := wa_t (i := 920) (by decide +kernel) rfl
theorem wt921 : Cond.code yX9_undo prog_11_method_29_code 1 (some .int) ∈ WA := wa_t (i := 921) (by decide +kernel) rfl
theorem wt922 : Cond.methodLink RL 63 yX9_reach ∈ WA := wa_t (i := 922) (by decide +kernel) rfl
theorem wt923 : Cond.instanceMethod yX9_reach ∈ WA := wa_t (i := 923) (by decide +kernel) rfl
theorem wt924 : Cond.selects RX9 yX9_reach yX9_reach ∈ WA := wa_t (i := 924) (by decide +kernel) rfl
theorem wt925 : Cond.code yX9_reach prog_11_method_34_code 2 (some .int) ∈ WA := wa_t (i := 925) (by decide +kernel) rfl
theorem wt926 : Cond.methodLink RX9 133 yX9_isSet ∈ WA := wa_t (i := 926) (by decide +kernel) rfl
theorem wt928 : Cond.instanceMethod yX9_isSet ∈ WA := wa_t (i := 928) (by decide +kernel) rfl
theorem wt929 : Cond.code yX9_isSet prog_11_method_11_code 2 (some .boolean) ∈ WA := wa_t (i := 929) (by decide +kernel) rfl
theorem wt930 : Cond.methodLink RX9 136 yX9_reachOf ∈ WA := wa_t (i := 930) (by decide +kernel) rfl
theorem wt932 : Cond.instanceMethod yX9_reachOf ∈ WA := wa_t (i := 932) (by decide +kernel) rfl
theorem wt933 : Cond.code yX9_reachOf prog_11_method_32_code 2 (some .int) ∈ WA := wa_t (i := 933) (by decide +kernel) rfl
theorem wt934 : Cond.methodLink RX9 126 yX9_allSteps ∈ WA := wa_t (i := 934) (by decide +kernel) rfl
theorem wt936 : Cond.instanceMethod yX9_allSteps ∈ WA := wa_t (i := 936) (by decide +kernel) rfl
theorem wt937 : Cond.code yX9_allSteps prog_11_method_31_code 1 (some .int) ∈ WA := wa_t (i := 937) (by decide +kernel) rfl
theorem wt938 : Cond.methodLink RX9 129 yX9_closure ∈ WA := wa_t (i := 938) (by decide +kernel) rfl
theorem wt940 : Cond.instanceMethod yX9_closure ∈ WA := wa_t (i := 940) (by decide +kernel) rfl
theorem wt941 : Cond.code yX9_closure prog_11_method_30_code 8 (some .int) ∈ WA := wa_t (i := 941) (by decide +kernel) rfl
theorem wt942 : Cond.methodLink RL 68 yX9_walk ∈ WA := wa_t (i := 942) (by decide +kernel) rfl
theorem wt943 : Cond.instanceMethod yX9_walk ∈ WA := wa_t (i := 943) (by decide +kernel) rfl
theorem wt944 : Cond.selects RX9 yX9_walk yX9_walk ∈ WA := wa_t (i := 944) (by decide +kernel) rfl
theorem wt945 : Cond.code yX9_walk prog_11_method_37_code 7 (some .long) ∈ WA := wa_t (i := 945) (by decide +kernel) rfl
theorem wt946 : Cond.constantLong RX9 142 (2) ∈ WA := wa_t (i := 946) (by decide +kernel) rfl
theorem wt947 : Cond.constantLong RX9 144 (-1) ∈ WA := wa_t (i := 947) (by decide +kernel) rfl
theorem wt948 : Cond.methodLink RX9 146 yX9_layWalks ∈ WA := wa_t (i := 948) (by decide +kernel) rfl
theorem wt950 : Cond.instanceMethod yX9_layWalks ∈ WA := wa_t (i := 950) (by decide +kernel) rfl
theorem wt951 : Cond.code yX9_layWalks prog_11_method_36_code 5 (none : Option Jvm.ClassFile.FieldType) ∈ WA := wa_t (i := 951) (by decide +kernel) rfl
theorem wt952 : Cond.methodLink RX9 139 yX9_mayFrom ∈ WA := wa_t (i := 952) (by decide +kernel) rfl
theorem wt954 : Cond.instanceMethod yX9_mayFrom ∈ WA := wa_t (i := 954) (by decide +kernel) rfl
theorem wt955 : Cond.code yX9_mayFrom prog_11_method_35_code 3 (some .boolean) ∈ WA := wa_t (i := 955) (by decide +kernel) rfl
theorem wt956 : Cond.constantLong RX9 149 (-4) ∈ WA := wa_t (i := 956) (by decide +kernel) rfl
theorem wt957 : Cond.methodLink RL 72 yX9_round ∈ WA := wa_t (i := 957) (by decide +kernel) rfl
theorem wt958 : Cond.instanceMethod yX9_round ∈ WA := wa_t (i := 958) (by decide +kernel) rfl
theorem wt959 : Cond.selects RX9 yX9_round yX9_round ∈ WA := wa_t (i := 959) (by decide +kernel) rfl
theorem wt960 : Cond.code yX9_round prog_11_method_38_code 6 (some .int) ∈ WA := wa_t (i := 960) (by decide +kernel) rfl
theorem wt961 : Cond.methodLink RL 76 yX9_needs ∈ WA := wa_t (i := 961) (by decide +kernel) rfl
theorem wt962 : Cond.instanceMethod yX9_needs ∈ WA := wa_t (i := 962) (by decide +kernel) rfl
theorem wt963 : Cond.selects RX9 yX9_needs yX9_needs ∈ WA := wa_t (i := 963) (by decide +kernel) rfl
theorem wt964 : Cond.code yX9_needs prog_11_method_39_code 8 (some .int) ∈ WA := wa_t (i := 964) (by decide +kernel) rfl
theorem wt965 : Cond.methodLink RX9 151 yX9_beginnings ∈ WA := wa_t (i := 965) (by decide +kernel) rfl
theorem wt967 : Cond.instanceMethod yX9_beginnings ∈ WA := wa_t (i := 967) (by decide +kernel) rfl
theorem wt968 : Cond.code yX9_beginnings prog_11_method_33_code 1 (some .int) ∈ WA := wa_t (i := 968) (by decide +kernel) rfl
theorem wt969 : Cond.methodLink RL 80 yX9_lost ∈ WA := wa_t (i := 969) (by decide +kernel) rfl
theorem wt970 : Cond.instanceMethod yX9_lost ∈ WA := wa_t (i := 970) (by decide +kernel) rfl
theorem wt971 : Cond.selects RX9 yX9_lost yX9_lost ∈ WA := wa_t (i := 971) (by decide +kernel) rfl
theorem wt972 : Cond.code yX9_lost prog_11_method_40_code 4 (some .int) ∈ WA := wa_t (i := 972) (by decide +kernel) rfl
theorem wt973 : Cond.methodLink RL 84 yX9_begin ∈ WA := wa_t (i := 973) (by decide +kernel) rfl
theorem wt974 : Cond.instanceMethod yX9_begin ∈ WA := wa_t (i := 974) (by decide +kernel) rfl
theorem wt975 : Cond.selects RX9 yX9_begin yX9_begin ∈ WA := wa_t (i := 975) (by decide +kernel) rfl
theorem wt976 : Cond.code yX9_begin prog_11_method_42_code 2 (some .int) ∈ WA := wa_t (i := 976) (by decide +kernel) rfl
theorem wt977 : Cond.methodLink RX9 154 yX9_begins ∈ WA := wa_t (i := 977) (by decide +kernel) rfl
theorem wt979 : Cond.instanceMethod yX9_begins ∈ WA := wa_t (i := 979) (by decide +kernel) rfl
theorem wt980 : Cond.code yX9_begins prog_11_method_41_code 5 (some .int) ∈ WA := wa_t (i := 980) (by decide +kernel) rfl
theorem wt981 : Cond.methodLink RL 88 yX9_hall ∈ WA := wa_t (i := 981) (by decide +kernel) rfl
theorem wt982 : Cond.instanceMethod yX9_hall ∈ WA := wa_t (i := 982) (by decide +kernel) rfl
theorem wt983 : Cond.selects RX9 yX9_hall yX9_hall ∈ WA := wa_t (i := 983) (by decide +kernel) rfl
theorem wt984 : Cond.code yX9_hall prog_11_method_44_code 5 (some .int) ∈ WA := wa_t (i := 984) (by decide +kernel) rfl
theorem wt985 : Cond.methodLink RX9 157 yX9_isHall ∈ WA := wa_t (i := 985) (by decide +kernel) rfl
theorem wt987 : Cond.instanceMethod yX9_isHall ∈ WA := wa_t (i := 987) (by decide +kernel) rfl
theorem wt988 : Cond.code yX9_isHall prog_11_method_43_code 5 (some .boolean) ∈ WA := wa_t (i := 988) (by decide +kernel) rfl
theorem wt989 : Cond.methodLink RL 92 yX9_rope ∈ WA := wa_t (i := 989) (by decide +kernel) rfl
theorem wt990 : Cond.instanceMethod yX9_rope ∈ WA := wa_t (i := 990) (by decide +kernel) rfl
theorem wt991 : Cond.selects RX9 yX9_rope yX9_rope ∈ WA := wa_t (i := 991) (by decide +kernel) rfl
theorem wt992 : Cond.code yX9_rope prog_11_method_45_code 4 (some .int) ∈ WA := wa_t (i := 992) (by decide +kernel) rfl
theorem wt993 : Cond.methodLink RL 96 yX9_idle ∈ WA := wa_t (i := 993) (by decide +kernel) rfl
theorem wt994 : Cond.instanceMethod yX9_idle ∈ WA := wa_t (i := 994) (by decide +kernel) rfl
theorem wt995 : Cond.selects RX9 yX9_idle yX9_idle ∈ WA := wa_t (i := 995) (by decide +kernel) rfl
theorem wt996 : Cond.code yX9_idle prog_11_method_46_code 4 (some .int) ∈ WA := wa_t (i := 996) (by decide +kernel) rfl
theorem wt997 : Cond.methodLink RL 100 yX9_circle ∈ WA := wa_t (i := 997) (by decide +kernel) rfl
theorem wt998 : Cond.instanceMethod yX9_circle ∈ WA := wa_t (i := 998) (by decide +kernel) rfl
theorem wt999 : Cond.selects RX9 yX9_circle yX9_circle ∈ WA := wa_t (i := 999) (by decide +kernel) rfl
theorem wt1000 : Cond.code yX9_circle prog_11_method_48_code 3 (some .int) ∈ WA := wa_t (i := 1000) (by decide +kernel) rfl
theorem wt1001 : Cond.methodLink RX9 160 yX9_leads ∈ WA := wa_t (i := 1001) (by decide +kernel) rfl
theorem wt1003 : Cond.instanceMethod yX9_leads ∈ WA := wa_t (i := 1003) (by decide +kernel) rfl
theorem wt1004 : Cond.code yX9_leads prog_11_method_47_code 6 (some .int) ∈ WA := wa_t (i := 1004) (by decide +kernel) rfl
theorem wt1005 : Cond.methodLink RL 104 yX9_deep ∈ WA := wa_t (i := 1005) (by decide +kernel) rfl
theorem wt1006 : Cond.instanceMethod yX9_deep ∈ WA := wa_t (i := 1006) (by decide +kernel) rfl
theorem wt1007 : Cond.selects RX9 yX9_deep yX9_deep ∈ WA := wa_t (i := 1007) (by decide +kernel) rfl
theorem wt1008 : Cond.code yX9_deep prog_11_method_49_code 5 (some .int) ∈ WA := wa_t (i := 1008) (by decide +kernel) rfl
theorem wt1009 : Cond.methodLink RX9 163 yX9_circle ∈ WA := wa_t (i := 1009) (by decide +kernel) rfl
theorem wt1010 : Cond.methodLink RL 108 yX9_proofs ∈ WA := wa_t (i := 1010) (by decide +kernel) rfl
theorem wt1011 : Cond.instanceMethod yX9_proofs ∈ WA := wa_t (i := 1011) (by decide +kernel) rfl
theorem wt1012 : Cond.selects RX9 yX9_proofs yX9_proofs ∈ WA := wa_t (i := 1012) (by decide +kernel) rfl
theorem wt1013 : Cond.code yX9_proofs prog_11_method_52_code 7 (some .int) ∈ WA := wa_t (i := 1013) (by decide +kernel) rfl
theorem wt1014 : Cond.methodLink RX9 169 yX9_isProof ∈ WA := wa_t (i := 1014) (by decide +kernel) rfl
theorem wt1016 : Cond.instanceMethod yX9_isProof ∈ WA := wa_t (i := 1016) (by decide +kernel) rfl
theorem wt1017 : Cond.code yX9_isProof prog_11_method_51_code 5 (some .boolean) ∈ WA := wa_t (i := 1017) (by decide +kernel) rfl
theorem wt1018 : Cond.methodLink RX9 166 yX9_proves ∈ WA := wa_t (i := 1018) (by decide +kernel) rfl
theorem wt1020 : Cond.instanceMethod yX9_proves ∈ WA := wa_t (i := 1020) (by decide +kernel) rfl
theorem wt1021 : Cond.code yX9_proves prog_11_method_50_code 3 (some .boolean) ∈ WA := wa_t (i := 1021) (by decide +kernel) rfl
theorem wt1022 : Cond.methodLink RL 112 yX9_worn ∈ WA := wa_t (i := 1022) (by decide +kernel) rfl
theorem wt1023 : Cond.instanceMethod yX9_worn ∈ WA := wa_t (i := 1023) (by decide +kernel) rfl
theorem wt1024 : Cond.selects RX9 yX9_worn yX9_worn ∈ WA := wa_t (i := 1024) (by decide +kernel) rfl
theorem wt1025 : Cond.code yX9_worn prog_11_method_53_code 7 (some .int) ∈ WA := wa_t (i := 1025) (by decide +kernel) rfl
theorem wt1026 : Cond.methodLink RL 116 yX9_tell ∈ WA := wa_t (i := 1026) (by decide +kernel) rfl
theorem wt1027 : Cond.instanceMethod yX9_tell ∈ WA := wa_t (i := 1027) (by decide +kernel) rfl
theorem wt1028 : Cond.selects RX9 yX9_tell yX9_tell ∈ WA := wa_t (i := 1028) (by decide +kernel) rfl
theorem wt1029 : Cond.code yX9_tell prog_11_method_54_code 2 (some .int) ∈ WA := wa_t (i := 1029) (by decide +kernel) rfl
theorem wt1030 : Cond.methodLink RL 120 yX9_noRow ∈ WA := wa_t (i := 1030) (by decide +kernel) rfl
theorem wt1031 : Cond.instanceMethod yX9_noRow ∈ WA := wa_t (i := 1031) (by decide +kernel) rfl
theorem wt1032 : Cond.selects RX9 yX9_noRow yX9_noRow ∈ WA := wa_t (i := 1032) (by decide +kernel) rfl
theorem wt1033 : Cond.code yX9_noRow prog_11_method_55_code 2 (some .int) ∈ WA := wa_t (i := 1033) (by decide +kernel) rfl
theorem wt1034 : Cond.methodLink RL 124 yX9_judge ∈ WA := wa_t (i := 1034) (by decide +kernel) rfl
theorem wt1035 : Cond.instanceMethod yX9_judge ∈ WA := wa_t (i := 1035) (by decide +kernel) rfl
theorem wt1036 : Cond.selects RX9 yX9_judge yX9_judge ∈ WA := wa_t (i := 1036) (by decide +kernel) rfl
theorem wt1037 : Cond.code yX9_judge prog_11_method_56_code 3 (some .int) ∈ WA := wa_t (i := 1037) (by decide +kernel) rfl
theorem wt1038 : Cond.methodLink RL 128 yX9_year ∈ WA := wa_t (i := 1038) (by decide +kernel) rfl
theorem wt1039 : Cond.instanceMethod yX9_year ∈ WA := wa_t (i := 1039) (by decide +kernel) rfl
theorem wt1040 : Cond.selects RX9 yX9_year yX9_year ∈ WA := wa_t (i := 1040) (by decide +kernel) rfl
theorem wt1041 : Cond.code yX9_year prog_11_method_57_code 10 (some .int) ∈ WA := wa_t (i := 1041) (by decide +kernel) rfl
theorem wt1042 : Cond.constantLong RX9 172 (9999) ∈ WA := wa_t (i := 1042) (by decide +kernel) rfl
theorem wt1043 : Cond.constantLong RX9 174 (99) ∈ WA := wa_t (i := 1043) (by decide +kernel) rfl
theorem wt1044 : Cond.constantLong RX9 176 (7919) ∈ WA := wa_t (i := 1044) (by decide +kernel) rfl
theorem wt1045 : Cond.constantLong RX9 178 (6151) ∈ WA := wa_t (i := 1045) (by decide +kernel) rfl
theorem wt1046 : Cond.constantLong RX9 180 (65521) ∈ WA := wa_t (i := 1046) (by decide +kernel) rfl
theorem wt1047 : Cond.methodLink RL 132 yX9_keep ∈ WA := wa_t (i := 1047) (by decide +kernel) rfl
theorem wt1048 : Cond.instanceMethod yX9_keep ∈ WA := wa_t (i := 1048) (by decide +kernel) rfl
theorem wt1049 : Cond.selects RX9 yX9_keep yX9_keep ∈ WA := wa_t (i := 1049) (by decide +kernel) rfl
theorem wt1050 : Cond.code yX9_keep prog_11_method_58_code 1 (some .int) ∈ WA := wa_t (i := 1050) (by decide +kernel) rfl
theorem wt1051 : Cond.methodLink RL 136 yX9_back ∈ WA := wa_t (i := 1051) (by decide +kernel) rfl
theorem wt1052 : Cond.instanceMethod yX9_back ∈ WA := wa_t (i := 1052) (by decide +kernel) rfl
theorem wt1053 : Cond.selects RX9 yX9_back yX9_back ∈ WA := wa_t (i := 1053) (by decide +kernel) rfl
theorem wt1054 : Cond.code yX9_back prog_11_method_59_code 1 (some .int) ∈ WA := wa_t (i := 1054) (by decide +kernel) rfl
theorem wt1055 : Cond.methodLink RL 140 yX9_count ∈ WA := wa_t (i := 1055) (by decide +kernel) rfl
theorem wt1056 : Cond.instanceMethod yX9_count ∈ WA := wa_t (i := 1056) (by decide +kernel) rfl
theorem wt1057 : Cond.selects RX9 yX9_count yX9_count ∈ WA := wa_t (i := 1057) (by decide +kernel) rfl
theorem wt1058 : Cond.code yX9_count prog_11_method_60_code 2 (some .int) ∈ WA := wa_t (i := 1058) (by decide +kernel) rfl
theorem wt1059 : Cond.constantLong RL 13 (4294967295) ∈ WA := wa_t (i := 1059) (by decide +kernel) rfl
theorem wt1060 : Cond.fieldLink "java/lang/String" 9 "java/lang/String" "value" "[B" ∈ WA := wa_t (i := 1060) (by decide +kernel) rfl
theorem wt1061 : Cond.fieldLink "java/lang/String" 15 "java/lang/String" "coder" "B" ∈ WA := wa_t (i := 1061) (by decide +kernel) rfl
theorem wp0 : Cond.selects RX4 yX4_itemsEnd yX4_itemsEnd ∈ WA := wa_s (i := 0) (by decide +kernel) rfl
theorem wp1 : Cond.selects RX4 yX4_takeItem yX4_takeItem ∈ WA := wa_s (i := 1) (by decide +kernel) rfl
theorem wp2 : Cond.selects RX8 yX8_forgetRowAndPast yX8_forgetRowAndPast ∈ WA := wa_s (i := 2) (by decide +kernel) rfl
theorem wp3 : Cond.selects RX8 yX8_isStone yX8_isStone ∈ WA := wa_s (i := 3) (by decide +kernel) rfl
theorem wp4 : Cond.selects RX8 yX8_isStep yX8_isStep ∈ WA := wa_s (i := 4) (by decide +kernel) rfl
theorem wp5 : Cond.selects RX1 yX1_afterAmong yX1_afterAmong ∈ WA := wa_s (i := 5) (by decide +kernel) rfl
theorem wp6 : Cond.selects RX2 yX2_note yX2_note ∈ WA := wa_s (i := 6) (by decide +kernel) rfl
theorem wp7 : Cond.selects RX2 yX2_forgetOldest yX2_forgetOldest ∈ WA := wa_s (i := 7) (by decide +kernel) rfl
theorem wp8 : Cond.selects RX8 yX8_isSetOfStones yX8_isSetOfStones ∈ WA := wa_s (i := 8) (by decide +kernel) rfl
theorem wp9 : Cond.selects RX7 yX7_measureFrom yX7_measureFrom ∈ WA := wa_s (i := 9) (by decide +kernel) rfl
theorem wp10 : Cond.selects RX3 yX3_isProof yX3_isProof ∈ WA := wa_s (i := 10) (by decide +kernel) rfl
theorem wp11 : Cond.selects RX8 yX8_drawnStep yX8_drawnStep ∈ WA := wa_s (i := 11) (by decide +kernel) rfl
theorem wp12 : Cond.selects RX8 yX8_keeperOf yX8_keeperOf ∈ WA := wa_s (i := 12) (by decide +kernel) rfl
theorem wp13 : Cond.selects RX9 yX9_makeAnew yX9_makeAnew ∈ WA := wa_s (i := 13) (by decide +kernel) rfl
theorem wp14 : Cond.selects RX9 yX9_layStep yX9_layStep ∈ WA := wa_s (i := 14) (by decide +kernel) rfl
theorem wp15 : Cond.selects RX9 yX9_settle yX9_settle ∈ WA := wa_s (i := 15) (by decide +kernel) rfl
theorem wp16 : Cond.selects RX9 yX9_readItem yX9_readItem ∈ WA := wa_s (i := 16) (by decide +kernel) rfl
theorem wp17 : Cond.selects RX9 yX9_takes yX9_takes ∈ WA := wa_s (i := 17) (by decide +kernel) rfl
theorem wp18 : Cond.selects RX9 yX9_isRead yX9_isRead ∈ WA := wa_s (i := 18) (by decide +kernel) rfl
theorem wp19 : Cond.selects RX9 yX9_readStep yX9_readStep ∈ WA := wa_s (i := 19) (by decide +kernel) rfl
theorem wp20 : Cond.selects RX9 yX9_readPair yX9_readPair ∈ WA := wa_s (i := 20) (by decide +kernel) rfl
theorem wp21 : Cond.selects RX9 yX9_copy yX9_copy ∈ WA := wa_s (i := 21) (by decide +kernel) rfl
theorem wp22 : Cond.selects RX9 yX9_isStone yX9_isStone ∈ WA := wa_s (i := 22) (by decide +kernel) rfl
theorem wp23 : Cond.selects RX9 yX9_isStep yX9_isStep ∈ WA := wa_s (i := 23) (by decide +kernel) rfl
theorem wp24 : Cond.selects RX9 yX9_may yX9_may ∈ WA := wa_s (i := 24) (by decide +kernel) rfl
theorem wp25 : Cond.selects RX9 yX9_minds yX9_minds ∈ WA := wa_s (i := 25) (by decide +kernel) rfl
theorem wp26 : Cond.selects RX9 yX9_isSet yX9_isSet ∈ WA := wa_s (i := 26) (by decide +kernel) rfl
theorem wp27 : Cond.selects RX9 yX9_reachOf yX9_reachOf ∈ WA := wa_s (i := 27) (by decide +kernel) rfl
theorem wp28 : Cond.selects RX9 yX9_allSteps yX9_allSteps ∈ WA := wa_s (i := 28) (by decide +kernel) rfl
theorem wp29 : Cond.selects RX9 yX9_closure yX9_closure ∈ WA := wa_s (i := 29) (by decide +kernel) rfl
theorem wp30 : Cond.selects RX9 yX9_layWalks yX9_layWalks ∈ WA := wa_s (i := 30) (by decide +kernel) rfl
theorem wp31 : Cond.selects RX9 yX9_mayFrom yX9_mayFrom ∈ WA := wa_s (i := 31) (by decide +kernel) rfl
theorem wp32 : Cond.selects RX9 yX9_beginnings yX9_beginnings ∈ WA := wa_s (i := 32) (by decide +kernel) rfl
theorem wp33 : Cond.selects RX9 yX9_begins yX9_begins ∈ WA := wa_s (i := 33) (by decide +kernel) rfl
theorem wp34 : Cond.selects RX9 yX9_isHall yX9_isHall ∈ WA := wa_s (i := 34) (by decide +kernel) rfl
theorem wp35 : Cond.selects RX9 yX9_leads yX9_leads ∈ WA := wa_s (i := 35) (by decide +kernel) rfl
theorem wp36 : Cond.selects RX9 yX9_isProof yX9_isProof ∈ WA := wa_s (i := 36) (by decide +kernel) rfl
theorem wp37 : Cond.selects RX9 yX9_proves yX9_proves ∈ WA := wa_s (i := 37) (by decide +kernel) rfl
theorem inWX1 : ∀ w ∈ wsX10, w ∈ WA := fun w h => wa_in (by revert w; decide +kernel) (by revert w; decide +kernel)
theorem inWX2 : ∀ w ∈ wsX20, w ∈ WA := fun w h => wa_in (by revert w; decide +kernel) (by revert w; decide +kernel)
theorem inWX3 : ∀ w ∈ wsX30, w ∈ WA := fun w h => wa_in (by revert w; decide +kernel) (by revert w; decide +kernel)
theorem inWX4 : ∀ w ∈ wsX40, w ∈ WA := fun w h => wa_in (by revert w; decide +kernel) (by revert w; decide +kernel)
theorem inWX6 : ∀ w ∈ wsX60, w ∈ WA := fun w h => wa_in (by revert w; decide +kernel) (by revert w; decide +kernel)
theorem inWX7 : ∀ w ∈ wsX70, w ∈ WA := fun w h => wa_in (by revert w; decide +kernel) (by revert w; decide +kernel)
theorem inWX8 : ∀ w ∈ wsX80, w ∈ WA := fun w h => wa_in (by revert w; decide +kernel) (by revert w; decide +kernel)
theorem inWX9 : ∀ w ∈ wsX90, w ∈ WA := fun w h => wa_in (by revert w; decide +kernel) (by revert w; decide +kernel)
