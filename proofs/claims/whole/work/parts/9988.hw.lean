/-! HELPERS: words, code -/
def ky_L_state : MethodName := ⟨"PoetFinesLaw", "state", "(LPoetFines;I[J)I"⟩
def dl_L_state : List (Nat × Instr × Nat) := [(0, .aload_n 2, 1), (1, .iconst 0, 1), (2, .aload_n 0, 1), (3, .iload_n 1, 1), (4, .invokevirtual 7, 3), (7, .i2l, 1), (8, .lastore, 1), (9, .goto 6, 3), (12, .astore_n 3, 1), (13, .iconst 1, 1), (14, .ireturn, 1), (15, .iconst 0, 1), (16, .ireturn, 1)]
theorem dc_L_state : kdecs method_3_code dl_L_state = true := by decide +kernel
theorem wl_683 : Cond.methodLink "PoetFinesLaw" 7 ⟨"PoetFines", "state", "(I)I"⟩ ∈ kG := kG_of kch3 92 rfl rfl
theorem wl_112 : Cond.initialized "PoetFines" ∈ kG := kG_of kch1 1 rfl rfl
theorem wl_686 : Cond.code ⟨"PoetFines", "state", "(I)I"⟩ prog_1_method_3_code 3 (some .int) ∈ kG := kG_of kch3 95 rfl rfl
theorem wl_684 : Cond.instanceMethod ⟨"PoetFines", "state", "(I)I"⟩ ∈ kG := kG_of kch3 93 rfl rfl
theorem wl_685 : Cond.selects "PoetFines" ⟨"PoetFines", "state", "(I)I"⟩ ⟨"PoetFines", "state", "(I)I"⟩ ∈ kG := kG_of kch3 94 rfl rfl
theorem cv_L_7 : kCv "PoetFinesLaw" 7 ky_P_state prog_1_method_3_code 3 (some .int) 1 "PoetFines" := ⟨⟨wl_683, wl_112, wl_686, ⟨by decide, by decide⟩, by decide +kernel⟩, wl_684, wl_685⟩
def R0_L_state : Room := ({ frames := 88, cells := 1, slots := 6, locals := 2238 } : Room)
theorem wl_682 : Cond.classLink "PoetFinesLaw" 13 "java/lang/IllegalArgumentException" ∈ kG := kG_of kch3 91 rfl rfl
def ky_L_count : MethodName := ⟨"PoetFinesLaw", "count", "(LPoetFines;I[J)I"⟩
def dl_L_count : List (Nat × Instr × Nat) := [(0, .aload_n 2, 1), (1, .iconst 0, 1), (2, .aload_n 0, 1), (3, .iload_n 1, 1), (4, .invokevirtual 15, 3), (7, .i2l, 1), (8, .lastore, 1), (9, .goto 6, 3), (12, .astore_n 3, 1), (13, .iconst 1, 1), (14, .ireturn, 1), (15, .iconst 0, 1), (16, .ireturn, 1)]
theorem dc_L_count : kdecs method_4_code dl_L_count = true := by decide +kernel
theorem wl_1070 : Cond.methodLink "PoetFinesLaw" 15 ⟨"PoetFines", "count", "(I)I"⟩ ∈ kG := kG_of kch4 239 rfl rfl
theorem wl_1073 : Cond.code ⟨"PoetFines", "count", "(I)I"⟩ prog_1_method_5_code 3 (some .int) ∈ kG := kG_of kch5 2 rfl rfl
theorem wl_1071 : Cond.instanceMethod ⟨"PoetFines", "count", "(I)I"⟩ ∈ kG := kG_of kch5 0 rfl rfl
theorem wl_1072 : Cond.selects "PoetFines" ⟨"PoetFines", "count", "(I)I"⟩ ⟨"PoetFines", "count", "(I)I"⟩ ∈ kG := kG_of kch5 1 rfl rfl
theorem cv_L_15 : kCv "PoetFinesLaw" 15 ky_P_count prog_1_method_5_code 3 (some .int) 1 "PoetFines" := ⟨⟨wl_1070, wl_112, wl_1073, ⟨by decide, by decide⟩, by decide +kernel⟩, wl_1071, wl_1072⟩
def R0_L_count : Room := ({ frames := 7, cells := 1, slots := 6, locals := 122 } : Room)
theorem wl_1069 : Cond.classLink "PoetFinesLaw" 18 "java/util/NoSuchElementException" ∈ kG := kG_of kch4 238 rfl rfl
def ky_L_person : MethodName := ⟨"PoetFinesLaw", "person", "(LPoetFines;II[J)I"⟩
def dl_L_person : List (Nat × Instr × Nat) := [(0, .aload_n 3, 1), (1, .iconst 0, 1), (2, .aload_n 0, 1), (3, .iload_n 1, 1), (4, .iload_n 2, 1), (5, .invokevirtual 20, 3), (8, .i2l, 1), (9, .lastore, 1), (10, .goto 7, 3), (13, .astore 4, 2), (15, .iconst 1, 1), (16, .ireturn, 1), (17, .iconst 0, 1), (18, .ireturn, 1)]
theorem dc_L_person : kdecs method_5_code dl_L_person = true := by decide +kernel
theorem wl_1105 : Cond.methodLink "PoetFinesLaw" 20 ⟨"PoetFines", "person", "(II)I"⟩ ∈ kG := kG_of kch5 34 rfl rfl
theorem wl_1108 : Cond.code ⟨"PoetFines", "person", "(II)I"⟩ prog_1_method_6_code 3 (some .int) ∈ kG := kG_of kch5 37 rfl rfl
theorem wl_1106 : Cond.instanceMethod ⟨"PoetFines", "person", "(II)I"⟩ ∈ kG := kG_of kch5 35 rfl rfl
theorem wl_1107 : Cond.selects "PoetFines" ⟨"PoetFines", "person", "(II)I"⟩ ⟨"PoetFines", "person", "(II)I"⟩ ∈ kG := kG_of kch5 36 rfl rfl
theorem cv_L_20 : kCv "PoetFinesLaw" 20 ky_P_person prog_1_method_6_code 3 (some .int) 2 "PoetFines" := ⟨⟨wl_1105, wl_112, wl_1108, ⟨by decide, by decide⟩, by decide +kernel⟩, wl_1106, wl_1107⟩
def R0_L_person : Room := ({ frames := 8, cells := 2, slots := 12, locals := 144 } : Room)
def ky_L_poet : MethodName := ⟨"PoetFinesLaw", "poet", "(LPoetFines;II[J)I"⟩
def dl_L_poet : List (Nat × Instr × Nat) := [(0, .aload_n 3, 1), (1, .iconst 0, 1), (2, .aload_n 0, 1), (3, .iload_n 1, 1), (4, .iload_n 2, 1), (5, .invokevirtual 24, 3), (8, .i2l, 1), (9, .lastore, 1), (10, .goto 7, 3), (13, .astore 4, 2), (15, .iconst 1, 1), (16, .ireturn, 1), (17, .iconst 0, 1), (18, .ireturn, 1)]
theorem dc_L_poet : kdecs method_6_code dl_L_poet = true := by decide +kernel
theorem wl_1128 : Cond.methodLink "PoetFinesLaw" 24 ⟨"PoetFines", "poet", "(II)I"⟩ ∈ kG := kG_of kch5 57 rfl rfl
theorem wl_1131 : Cond.code ⟨"PoetFines", "poet", "(II)I"⟩ prog_1_method_7_code 3 (some .int) ∈ kG := kG_of kch5 60 rfl rfl
theorem wl_1129 : Cond.instanceMethod ⟨"PoetFines", "poet", "(II)I"⟩ ∈ kG := kG_of kch5 58 rfl rfl
theorem wl_1130 : Cond.selects "PoetFines" ⟨"PoetFines", "poet", "(II)I"⟩ ⟨"PoetFines", "poet", "(II)I"⟩ ∈ kG := kG_of kch5 59 rfl rfl
theorem cv_L_24 : kCv "PoetFinesLaw" 24 ky_P_poet prog_1_method_7_code 3 (some .int) 2 "PoetFines" := ⟨⟨wl_1128, wl_112, wl_1131, ⟨by decide, by decide⟩, by decide +kernel⟩, wl_1129, wl_1130⟩
def R0_L_poet : Room := ({ frames := 8, cells := 2, slots := 12, locals := 144 } : Room)
def ky_L_line : MethodName := ⟨"PoetFinesLaw", "line", "(LPoetFines;III[J)I"⟩
def dl_L_line : List (Nat × Instr × Nat) := [(0, .aload 4, 2), (2, .iconst 0, 1), (3, .aload_n 0, 1), (4, .iload_n 1, 1), (5, .iload_n 2, 1), (6, .iload_n 3, 1), (7, .invokevirtual 27, 3), (10, .i2l, 1), (11, .lastore, 1), (12, .goto 7, 3), (15, .astore 5, 2), (17, .iconst 1, 1), (18, .ireturn, 1), (19, .iconst 0, 1), (20, .ireturn, 1)]
theorem dc_L_line : kdecs method_7_code dl_L_line = true := by decide +kernel
theorem wl_1151 : Cond.methodLink "PoetFinesLaw" 27 ⟨"PoetFines", "line", "(III)I"⟩ ∈ kG := kG_of kch5 80 rfl rfl
theorem wl_1154 : Cond.code ⟨"PoetFines", "line", "(III)I"⟩ prog_1_method_8_code 4 (some .int) ∈ kG := kG_of kch5 83 rfl rfl
theorem wl_1152 : Cond.instanceMethod ⟨"PoetFines", "line", "(III)I"⟩ ∈ kG := kG_of kch5 81 rfl rfl
theorem wl_1153 : Cond.selects "PoetFines" ⟨"PoetFines", "line", "(III)I"⟩ ⟨"PoetFines", "line", "(III)I"⟩ ∈ kG := kG_of kch5 82 rfl rfl
theorem cv_L_27 : kCv "PoetFinesLaw" 27 ky_P_line prog_1_method_8_code 4 (some .int) 3 "PoetFines" := ⟨⟨wl_1151, wl_112, wl_1154, ⟨by decide, by decide⟩, by decide +kernel⟩, wl_1152, wl_1153⟩
def R0_L_line : Room := ({ frames := 9, cells := 3, slots := 18, locals := 166 } : Room)
def ky_L_burn : MethodName := ⟨"PoetFinesLaw", "burn", "(LPoetFines;I[J)I"⟩
def dl_L_burn : List (Nat × Instr × Nat) := [(0, .aload_n 2, 1), (1, .iconst 0, 1), (2, .aload_n 0, 1), (3, .iload_n 1, 1), (4, .invokevirtual 31, 3), (7, .i2l, 1), (8, .lastore, 1), (9, .goto 6, 3), (12, .astore_n 3, 1), (13, .iconst 1, 1), (14, .ireturn, 1), (15, .iconst 0, 1), (16, .ireturn, 1)]
theorem dc_L_burn : kdecs method_8_code dl_L_burn = true := by decide +kernel
theorem wl_1179 : Cond.methodLink "PoetFinesLaw" 31 ⟨"PoetFines", "burn", "(I)I"⟩ ∈ kG := kG_of kch5 108 rfl rfl
theorem wl_1182 : Cond.code ⟨"PoetFines", "burn", "(I)I"⟩ prog_1_method_10_code 3 (some .int) ∈ kG := kG_of kch5 111 rfl rfl
theorem wl_1180 : Cond.instanceMethod ⟨"PoetFines", "burn", "(I)I"⟩ ∈ kG := kG_of kch5 109 rfl rfl
theorem wl_1181 : Cond.selects "PoetFines" ⟨"PoetFines", "burn", "(I)I"⟩ ⟨"PoetFines", "burn", "(I)I"⟩ ∈ kG := kG_of kch5 110 rfl rfl
theorem cv_L_31 : kCv "PoetFinesLaw" 31 ky_P_burn prog_1_method_10_code 3 (some .int) 1 "PoetFines" := ⟨⟨wl_1179, wl_112, wl_1182, ⟨by decide, by decide⟩, by decide +kernel⟩, wl_1180, wl_1181⟩
def R0_L_burn : Room := ({ frames := 8, cells := 1, slots := 6, locals := 143 } : Room)
def ky_L_rewrite : MethodName := ⟨"PoetFinesLaw", "rewrite", "(LPoetFines;III[J)I"⟩
def dl_L_rewrite : List (Nat × Instr × Nat) := [(0, .aload 4, 2), (2, .iconst 0, 1), (3, .aload_n 0, 1), (4, .iload_n 1, 1), (5, .iload_n 2, 1), (6, .iload_n 3, 1), (7, .invokevirtual 34, 3), (10, .i2l, 1), (11, .lastore, 1), (12, .goto 7, 3), (15, .astore 5, 2), (17, .iconst 1, 1), (18, .ireturn, 1), (19, .iconst 0, 1), (20, .ireturn, 1)]
theorem dc_L_rewrite : kdecs method_9_code dl_L_rewrite = true := by decide +kernel
theorem wl_1187 : Cond.methodLink "PoetFinesLaw" 34 ⟨"PoetFines", "rewrite", "(III)I"⟩ ∈ kG := kG_of kch5 116 rfl rfl
theorem wl_1190 : Cond.code ⟨"PoetFines", "rewrite", "(III)I"⟩ prog_1_method_11_code 5 (some .int) ∈ kG := kG_of kch5 119 rfl rfl
theorem wl_1188 : Cond.instanceMethod ⟨"PoetFines", "rewrite", "(III)I"⟩ ∈ kG := kG_of kch5 117 rfl rfl
theorem wl_1189 : Cond.selects "PoetFines" ⟨"PoetFines", "rewrite", "(III)I"⟩ ⟨"PoetFines", "rewrite", "(III)I"⟩ ∈ kG := kG_of kch5 118 rfl rfl
theorem cv_L_34 : kCv "PoetFinesLaw" 34 ky_P_rewrite prog_1_method_11_code 5 (some .int) 3 "PoetFines" := ⟨⟨wl_1187, wl_112, wl_1190, ⟨by decide, by decide⟩, by decide +kernel⟩, wl_1188, wl_1189⟩
def R0_L_rewrite : Room := ({ frames := 9, cells := 2, slots := 12, locals := 167 } : Room)
def ky_L_pardon : MethodName := ⟨"PoetFinesLaw", "pardon", "(LPoetFines;I[J)I"⟩
def dl_L_pardon : List (Nat × Instr × Nat) := [(0, .aload_n 2, 1), (1, .iconst 0, 1), (2, .aload_n 0, 1), (3, .iload_n 1, 1), (4, .invokevirtual 37, 3), (7, .i2l, 1), (8, .lastore, 1), (9, .goto 6, 3), (12, .astore_n 3, 1), (13, .iconst 1, 1), (14, .ireturn, 1), (15, .iconst 0, 1), (16, .ireturn, 1)]
theorem dc_L_pardon : kdecs method_10_code dl_L_pardon = true := by decide +kernel
theorem wl_1195 : Cond.methodLink "PoetFinesLaw" 37 ⟨"PoetFines", "pardon", "(I)I"⟩ ∈ kG := kG_of kch5 124 rfl rfl
theorem wl_1198 : Cond.code ⟨"PoetFines", "pardon", "(I)I"⟩ prog_1_method_12_code 3 (some .int) ∈ kG := kG_of kch5 127 rfl rfl
theorem wl_1196 : Cond.instanceMethod ⟨"PoetFines", "pardon", "(I)I"⟩ ∈ kG := kG_of kch5 125 rfl rfl
theorem wl_1197 : Cond.selects "PoetFines" ⟨"PoetFines", "pardon", "(I)I"⟩ ⟨"PoetFines", "pardon", "(I)I"⟩ ∈ kG := kG_of kch5 126 rfl rfl
theorem cv_L_37 : kCv "PoetFinesLaw" 37 ky_P_pardon prog_1_method_12_code 3 (some .int) 1 "PoetFines" := ⟨⟨wl_1195, wl_112, wl_1198, ⟨by decide, by decide⟩, by decide +kernel⟩, wl_1196, wl_1197⟩
def R0_L_pardon : Room := ({ frames := 8, cells := 1, slots := 6, locals := 143 } : Room)
def ky_L_fill : MethodName := ⟨"PoetFinesLaw", "fill", "(LPoetFines;II[J)I"⟩
def dl_L_fill : List (Nat × Instr × Nat) := [(0, .aload_n 3, 1), (1, .iconst 0, 1), (2, .aload_n 0, 1), (3, .iload_n 1, 1), (4, .iload_n 2, 1), (5, .invokevirtual 40, 3), (8, .i2l, 1), (9, .lastore, 1), (10, .goto 7, 3), (13, .astore 4, 2), (15, .iconst 1, 1), (16, .ireturn, 1), (17, .iconst 0, 1), (18, .ireturn, 1)]
theorem dc_L_fill : kdecs method_11_code dl_L_fill = true := by decide +kernel
theorem wl_1202 : Cond.methodLink "PoetFinesLaw" 40 ⟨"PoetFines", "fill", "(II)I"⟩ ∈ kG := kG_of kch5 131 rfl rfl
theorem wl_1205 : Cond.code ⟨"PoetFines", "fill", "(II)I"⟩ prog_1_method_13_code 4 (some .int) ∈ kG := kG_of kch5 134 rfl rfl
theorem wl_1203 : Cond.instanceMethod ⟨"PoetFines", "fill", "(II)I"⟩ ∈ kG := kG_of kch5 132 rfl rfl
theorem wl_1204 : Cond.selects "PoetFines" ⟨"PoetFines", "fill", "(II)I"⟩ ⟨"PoetFines", "fill", "(II)I"⟩ ∈ kG := kG_of kch5 133 rfl rfl
theorem cv_L_40 : kCv "PoetFinesLaw" 40 ky_P_fill prog_1_method_13_code 4 (some .int) 2 "PoetFines" := ⟨⟨wl_1202, wl_112, wl_1205, ⟨by decide, by decide⟩, by decide +kernel⟩, wl_1203, wl_1204⟩
def R0_L_fill : Room := ({ frames := 8, cells := 1, slots := 6, locals := 144 } : Room)
def ky_L_heal : MethodName := ⟨"PoetFinesLaw", "heal", "(LPoetFines;I[J)I"⟩
def dl_L_heal : List (Nat × Instr × Nat) := [(0, .aload_n 2, 1), (1, .iconst 0, 1), (2, .aload_n 0, 1), (3, .iload_n 1, 1), (4, .invokevirtual 43, 3), (7, .i2l, 1), (8, .lastore, 1), (9, .goto 6, 3), (12, .astore_n 3, 1), (13, .iconst 1, 1), (14, .ireturn, 1), (15, .iconst 0, 1), (16, .ireturn, 1)]
theorem dc_L_heal : kdecs method_12_code dl_L_heal = true := by decide +kernel
theorem wl_1209 : Cond.methodLink "PoetFinesLaw" 43 ⟨"PoetFines", "heal", "(I)I"⟩ ∈ kG := kG_of kch5 138 rfl rfl
theorem wl_1212 : Cond.code ⟨"PoetFines", "heal", "(I)I"⟩ prog_1_method_14_code 3 (some .int) ∈ kG := kG_of kch5 141 rfl rfl
theorem wl_1210 : Cond.instanceMethod ⟨"PoetFines", "heal", "(I)I"⟩ ∈ kG := kG_of kch5 139 rfl rfl
theorem wl_1211 : Cond.selects "PoetFines" ⟨"PoetFines", "heal", "(I)I"⟩ ⟨"PoetFines", "heal", "(I)I"⟩ ∈ kG := kG_of kch5 140 rfl rfl
theorem cv_L_43 : kCv "PoetFinesLaw" 43 ky_P_heal prog_1_method_14_code 3 (some .int) 1 "PoetFines" := ⟨⟨wl_1209, wl_112, wl_1212, ⟨by decide, by decide⟩, by decide +kernel⟩, wl_1210, wl_1211⟩
def R0_L_heal : Room := ({ frames := 8, cells := 1, slots := 6, locals := 143 } : Room)
def ky_L_then : MethodName := ⟨"PoetFinesLaw", "then", "(LPoetFines;III[J)I"⟩
def dl_L_then : List (Nat × Instr × Nat) := [(0, .aload 4, 2), (2, .iconst 0, 1), (3, .aload_n 0, 1), (4, .iload_n 1, 1), (5, .iload_n 2, 1), (6, .iload_n 3, 1), (7, .invokevirtual 46, 3), (10, .i2l, 1), (11, .lastore, 1), (12, .goto 11, 3), (15, .astore 5, 2), (17, .iconst 1, 1), (18, .ireturn, 1), (19, .astore 5, 2), (21, .iconst 2, 1), (22, .ireturn, 1), (23, .iconst 0, 1), (24, .ireturn, 1)]
theorem dc_L_then : kdecs method_13_code dl_L_then = true := by decide +kernel
theorem wl_1216 : Cond.methodLink "PoetFinesLaw" 46 ⟨"PoetFines", "then", "(III)I"⟩ ∈ kG := kG_of kch5 145 rfl rfl
theorem wl_1219 : Cond.code ⟨"PoetFines", "then", "(III)I"⟩ prog_1_method_16_code 4 (some .int) ∈ kG := kG_of kch5 148 rfl rfl
theorem wl_1217 : Cond.instanceMethod ⟨"PoetFines", "then", "(III)I"⟩ ∈ kG := kG_of kch5 146 rfl rfl
theorem wl_1218 : Cond.selects "PoetFines" ⟨"PoetFines", "then", "(III)I"⟩ ⟨"PoetFines", "then", "(III)I"⟩ ∈ kG := kG_of kch5 147 rfl rfl
theorem cv_L_46 : kCv "PoetFinesLaw" 46 ky_P_then prog_1_method_16_code 4 (some .int) 3 "PoetFines" := ⟨⟨wl_1216, wl_112, wl_1219, ⟨by decide, by decide⟩, by decide +kernel⟩, wl_1217, wl_1218⟩
def R0_L_then : Room := ({ frames := 8, cells := 3, slots := 18, locals := 189 } : Room)
def ky_L_poetThen : MethodName := ⟨"PoetFinesLaw", "poetThen", "(LPoetFines;III[J)I"⟩
def dl_L_poetThen : List (Nat × Instr × Nat) := [(0, .aload 4, 2), (2, .iconst 0, 1), (3, .aload_n 0, 1), (4, .iload_n 1, 1), (5, .iload_n 2, 1), (6, .iload_n 3, 1), (7, .invokevirtual 49, 3), (10, .i2l, 1), (11, .lastore, 1), (12, .goto 11, 3), (15, .astore 5, 2), (17, .iconst 1, 1), (18, .ireturn, 1), (19, .astore 5, 2), (21, .iconst 2, 1), (22, .ireturn, 1), (23, .iconst 0, 1), (24, .ireturn, 1)]
theorem dc_L_poetThen : kdecs method_14_code dl_L_poetThen = true := by decide +kernel
theorem wl_1246 : Cond.methodLink "PoetFinesLaw" 49 ⟨"PoetFines", "poetThen", "(III)I"⟩ ∈ kG := kG_of kch5 175 rfl rfl
theorem wl_1249 : Cond.code ⟨"PoetFines", "poetThen", "(III)I"⟩ prog_1_method_17_code 4 (some .int) ∈ kG := kG_of kch5 178 rfl rfl
theorem wl_1247 : Cond.instanceMethod ⟨"PoetFines", "poetThen", "(III)I"⟩ ∈ kG := kG_of kch5 176 rfl rfl
theorem wl_1248 : Cond.selects "PoetFines" ⟨"PoetFines", "poetThen", "(III)I"⟩ ⟨"PoetFines", "poetThen", "(III)I"⟩ ∈ kG := kG_of kch5 177 rfl rfl
theorem cv_L_49 : kCv "PoetFinesLaw" 49 ky_P_poetThen prog_1_method_17_code 4 (some .int) 3 "PoetFines" := ⟨⟨wl_1246, wl_112, wl_1249, ⟨by decide, by decide⟩, by decide +kernel⟩, wl_1247, wl_1248⟩
def R0_L_poetThen : Room := ({ frames := 8, cells := 3, slots := 18, locals := 189 } : Room)
def ky_L_hurt : MethodName := ⟨"PoetFinesLaw", "hurt", "(LPoetFines;II[J)I"⟩
def dl_L_hurt : List (Nat × Instr × Nat) := [(0, .aload_n 3, 1), (1, .iconst 0, 1), (2, .aload_n 0, 1), (3, .iload_n 1, 1), (4, .iload_n 2, 1), (5, .invokevirtual 52, 3), (8, .i2l, 1), (9, .lastore, 1), (10, .goto 7, 3), (13, .astore 4, 2), (15, .iconst 1, 1), (16, .ireturn, 1), (17, .iconst 0, 1), (18, .ireturn, 1)]
theorem dc_L_hurt : kdecs method_15_code dl_L_hurt = true := by decide +kernel
theorem wl_1253 : Cond.methodLink "PoetFinesLaw" 52 ⟨"PoetFines", "hurt", "(II)I"⟩ ∈ kG := kG_of kch5 182 rfl rfl
theorem wl_1256 : Cond.code ⟨"PoetFines", "hurt", "(II)I"⟩ prog_1_method_18_code 3 (some .int) ∈ kG := kG_of kch5 185 rfl rfl
theorem wl_1254 : Cond.instanceMethod ⟨"PoetFines", "hurt", "(II)I"⟩ ∈ kG := kG_of kch5 183 rfl rfl
theorem wl_1255 : Cond.selects "PoetFines" ⟨"PoetFines", "hurt", "(II)I"⟩ ⟨"PoetFines", "hurt", "(II)I"⟩ ∈ kG := kG_of kch5 184 rfl rfl
theorem cv_L_52 : kCv "PoetFinesLaw" 52 ky_P_hurt prog_1_method_18_code 3 (some .int) 2 "PoetFines" := ⟨⟨wl_1253, wl_112, wl_1256, ⟨by decide, by decide⟩, by decide +kernel⟩, wl_1254, wl_1255⟩
def R0_L_hurt : Room := ({ frames := 8, cells := 2, slots := 12, locals := 169 } : Room)
def ky_L_later : MethodName := ⟨"PoetFinesLaw", "later", "(LPoetFines;II[J)I"⟩
def dl_L_later : List (Nat × Instr × Nat) := [(0, .aload_n 3, 1), (1, .iconst 0, 1), (2, .aload_n 0, 1), (3, .iload_n 1, 1), (4, .iload_n 2, 1), (5, .invokevirtual 55, 3), (8, .i2l, 1), (9, .lastore, 1), (10, .goto 11, 3), (13, .astore 4, 2), (15, .iconst 1, 1), (16, .ireturn, 1), (17, .astore 4, 2), (19, .iconst 2, 1), (20, .ireturn, 1), (21, .iconst 0, 1), (22, .ireturn, 1)]
theorem dc_L_later : kdecs method_16_code dl_L_later = true := by decide +kernel
theorem wl_1265 : Cond.methodLink "PoetFinesLaw" 55 ⟨"PoetFines", "later", "(II)I"⟩ ∈ kG := kG_of kch5 194 rfl rfl
theorem wl_1268 : Cond.code ⟨"PoetFines", "later", "(II)I"⟩ prog_1_method_19_code 3 (some .int) ∈ kG := kG_of kch5 197 rfl rfl
theorem wl_1266 : Cond.instanceMethod ⟨"PoetFines", "later", "(II)I"⟩ ∈ kG := kG_of kch5 195 rfl rfl
theorem wl_1267 : Cond.selects "PoetFines" ⟨"PoetFines", "later", "(II)I"⟩ ⟨"PoetFines", "later", "(II)I"⟩ ∈ kG := kG_of kch5 196 rfl rfl
theorem cv_L_55 : kCv "PoetFinesLaw" 55 ky_P_later prog_1_method_19_code 3 (some .int) 2 "PoetFines" := ⟨⟨wl_1265, wl_112, wl_1268, ⟨by decide, by decide⟩, by decide +kernel⟩, wl_1266, wl_1267⟩
def R0_L_later : Room := ({ frames := 8, cells := 2, slots := 12, locals := 188 } : Room)
def ky_L_worst : MethodName := ⟨"PoetFinesLaw", "worst", "(LPoetFines;II[J)I"⟩
def dl_L_worst : List (Nat × Instr × Nat) := [(0, .aload_n 3, 1), (1, .iconst 0, 1), (2, .aload_n 0, 1), (3, .iload_n 1, 1), (4, .iload_n 2, 1), (5, .invokevirtual 58, 3), (8, .i2l, 1), (9, .lastore, 1), (10, .goto 11, 3), (13, .astore 4, 2), (15, .iconst 1, 1), (16, .ireturn, 1), (17, .astore 4, 2), (19, .iconst 2, 1), (20, .ireturn, 1), (21, .iconst 0, 1), (22, .ireturn, 1)]
theorem dc_L_worst : kdecs method_17_code dl_L_worst = true := by decide +kernel
theorem wl_1280 : Cond.methodLink "PoetFinesLaw" 58 ⟨"PoetFines", "worst", "(II)I"⟩ ∈ kG := kG_of kch5 209 rfl rfl
theorem wl_1283 : Cond.code ⟨"PoetFines", "worst", "(II)I"⟩ prog_1_method_20_code 3 (some .int) ∈ kG := kG_of kch5 212 rfl rfl
theorem wl_1281 : Cond.instanceMethod ⟨"PoetFines", "worst", "(II)I"⟩ ∈ kG := kG_of kch5 210 rfl rfl
theorem wl_1282 : Cond.selects "PoetFines" ⟨"PoetFines", "worst", "(II)I"⟩ ⟨"PoetFines", "worst", "(II)I"⟩ ∈ kG := kG_of kch5 211 rfl rfl
theorem cv_L_58 : kCv "PoetFinesLaw" 58 ky_P_worst prog_1_method_20_code 3 (some .int) 2 "PoetFines" := ⟨⟨wl_1280, wl_112, wl_1283, ⟨by decide, by decide⟩, by decide +kernel⟩, wl_1281, wl_1282⟩
def R0_L_worst : Room := ({ frames := 8, cells := 2, slots := 12, locals := 188 } : Room)
def ky_L_probe : MethodName := ⟨"PoetFinesLaw", "probe", "(LPoetFines;IIII[J)I"⟩
def dl_L_probe : List (Nat × Instr × Nat) := [(0, .aload 5, 2), (2, .iconst 0, 1), (3, .aload_n 0, 1), (4, .iload_n 1, 1), (5, .iload_n 2, 1), (6, .iload_n 3, 1), (7, .iload 4, 2), (9, .invokevirtual 61, 3), (12, .i2l, 1), (13, .lastore, 1), (14, .goto 11, 3), (17, .astore 6, 2), (19, .iconst 1, 1), (20, .ireturn, 1), (21, .astore 6, 2), (23, .iconst 2, 1), (24, .ireturn, 1), (25, .iconst 0, 1), (26, .ireturn, 1)]
theorem dc_L_probe : kdecs method_18_code dl_L_probe = true := by decide +kernel
theorem wl_1287 : Cond.methodLink "PoetFinesLaw" 61 ⟨"PoetFines", "probe", "(IIII)I"⟩ ∈ kG := kG_of kch5 216 rfl rfl
theorem wl_1290 : Cond.code ⟨"PoetFines", "probe", "(IIII)I"⟩ prog_1_method_21_code 5 (some .int) ∈ kG := kG_of kch5 219 rfl rfl
theorem wl_1288 : Cond.instanceMethod ⟨"PoetFines", "probe", "(IIII)I"⟩ ∈ kG := kG_of kch5 217 rfl rfl
theorem wl_1289 : Cond.selects "PoetFines" ⟨"PoetFines", "probe", "(IIII)I"⟩ ⟨"PoetFines", "probe", "(IIII)I"⟩ ∈ kG := kG_of kch5 218 rfl rfl
theorem cv_L_61 : kCv "PoetFinesLaw" 61 ky_P_probe prog_1_method_21_code 5 (some .int) 4 "PoetFines" := ⟨⟨wl_1287, wl_112, wl_1290, ⟨by decide, by decide⟩, by decide +kernel⟩, wl_1288, wl_1289⟩
def R0_L_probe : Room := ({ frames := 8, cells := 4, slots := 24, locals := 147 } : Room)
def ky_L_safe : MethodName := ⟨"PoetFinesLaw", "safe", "(LPoetFines;II[J)I"⟩
def dl_L_safe : List (Nat × Instr × Nat) := [(0, .aload_n 3, 1), (1, .iconst 0, 1), (2, .aload_n 0, 1), (3, .iload_n 1, 1), (4, .iload_n 2, 1), (5, .invokevirtual 65, 3), (8, .i2l, 1), (9, .lastore, 1), (10, .goto 11, 3), (13, .astore 4, 2), (15, .iconst 1, 1), (16, .ireturn, 1), (17, .astore 4, 2), (19, .iconst 2, 1), (20, .ireturn, 1), (21, .iconst 0, 1), (22, .ireturn, 1)]
theorem dc_L_safe : kdecs method_19_code dl_L_safe = true := by decide +kernel
theorem wl_1295 : Cond.methodLink "PoetFinesLaw" 65 ⟨"PoetFines", "safe", "(II)I"⟩ ∈ kG := kG_of kch5 224 rfl rfl
theorem wl_1298 : Cond.code ⟨"PoetFines", "safe", "(II)I"⟩ prog_1_method_22_code 3 (some .int) ∈ kG := kG_of kch5 227 rfl rfl
theorem wl_1296 : Cond.instanceMethod ⟨"PoetFines", "safe", "(II)I"⟩ ∈ kG := kG_of kch5 225 rfl rfl
theorem wl_1297 : Cond.selects "PoetFines" ⟨"PoetFines", "safe", "(II)I"⟩ ⟨"PoetFines", "safe", "(II)I"⟩ ∈ kG := kG_of kch5 226 rfl rfl
theorem cv_L_65 : kCv "PoetFinesLaw" 65 ky_P_safe prog_1_method_22_code 3 (some .int) 2 "PoetFines" := ⟨⟨wl_1295, wl_112, wl_1298, ⟨by decide, by decide⟩, by decide +kernel⟩, wl_1296, wl_1297⟩
def R0_L_safe : Room := ({ frames := 8, cells := 2, slots := 12, locals := 145 } : Room)
def ky_L_sonnet : MethodName := ⟨"PoetFinesLaw", "sonnet", "(LPoetFines;II[J)I"⟩
def dl_L_sonnet : List (Nat × Instr × Nat) := [(0, .aload_n 3, 1), (1, .iconst 0, 1), (2, .aload_n 0, 1), (3, .iload_n 1, 1), (4, .iload_n 2, 1), (5, .invokevirtual 68, 3), (8, .i2l, 1), (9, .lastore, 1), (10, .goto 7, 3), (13, .astore 4, 2), (15, .iconst 1, 1), (16, .ireturn, 1), (17, .iconst 0, 1), (18, .ireturn, 1)]
theorem dc_L_sonnet : kdecs method_20_code dl_L_sonnet = true := by decide +kernel
theorem wl_1306 : Cond.methodLink "PoetFinesLaw" 68 ⟨"PoetFines", "sonnet", "(II)I"⟩ ∈ kG := kG_of kch5 235 rfl rfl
theorem wl_1309 : Cond.code ⟨"PoetFines", "sonnet", "(II)I"⟩ prog_1_method_23_code 4 (some .int) ∈ kG := kG_of kch5 238 rfl rfl
theorem wl_1307 : Cond.instanceMethod ⟨"PoetFines", "sonnet", "(II)I"⟩ ∈ kG := kG_of kch5 236 rfl rfl
theorem wl_1308 : Cond.selects "PoetFines" ⟨"PoetFines", "sonnet", "(II)I"⟩ ⟨"PoetFines", "sonnet", "(II)I"⟩ ∈ kG := kG_of kch5 237 rfl rfl
theorem cv_L_68 : kCv "PoetFinesLaw" 68 ky_P_sonnet prog_1_method_23_code 4 (some .int) 2 "PoetFines" := ⟨⟨wl_1306, wl_112, wl_1309, ⟨by decide, by decide⟩, by decide +kernel⟩, wl_1307, wl_1308⟩
def R0_L_sonnet : Room := ({ frames := 8, cells := 2, slots := 12, locals := 191 } : Room)
def ky_L_action : MethodName := ⟨"PoetFinesLaw", "action", "(LPoetFines;I[J)I"⟩
def dl_L_action : List (Nat × Instr × Nat) := [(0, .aload_n 2, 1), (1, .iconst 0, 1), (2, .aload_n 0, 1), (3, .iload_n 1, 1), (4, .invokevirtual 71, 3), (7, .i2l, 1), (8, .lastore, 1), (9, .goto 6, 3), (12, .astore_n 3, 1), (13, .iconst 1, 1), (14, .ireturn, 1), (15, .iconst 0, 1), (16, .ireturn, 1)]
theorem dc_L_action : kdecs method_21_code dl_L_action = true := by decide +kernel
theorem wl_1327 : Cond.methodLink "PoetFinesLaw" 71 ⟨"PoetFines", "action", "(I)I"⟩ ∈ kG := kG_of kch6 16 rfl rfl
theorem wl_1330 : Cond.code ⟨"PoetFines", "action", "(I)I"⟩ prog_1_method_24_code 2 (some .int) ∈ kG := kG_of kch6 19 rfl rfl
theorem wl_1328 : Cond.instanceMethod ⟨"PoetFines", "action", "(I)I"⟩ ∈ kG := kG_of kch6 17 rfl rfl
theorem wl_1329 : Cond.selects "PoetFines" ⟨"PoetFines", "action", "(I)I"⟩ ⟨"PoetFines", "action", "(I)I"⟩ ∈ kG := kG_of kch6 18 rfl rfl
theorem cv_L_71 : kCv "PoetFinesLaw" 71 ky_P_action prog_1_method_24_code 2 (some .int) 1 "PoetFines" := ⟨⟨wl_1327, wl_112, wl_1330, ⟨by decide, by decide⟩, by decide +kernel⟩, wl_1328, wl_1329⟩
def R0_L_action : Room := ({ frames := 8, cells := 1, slots := 6, locals := 189 } : Room)
def ky_L_readings : MethodName := ⟨"PoetFinesLaw", "readings", "(LPoetFines;I[J)I"⟩
def dl_L_readings : List (Nat × Instr × Nat) := [(0, .aload_n 2, 1), (1, .iconst 0, 1), (2, .aload_n 0, 1), (3, .iload_n 1, 1), (4, .invokevirtual 74, 3), (7, .i2l, 1), (8, .lastore, 1), (9, .goto 6, 3), (12, .astore_n 3, 1), (13, .iconst 1, 1), (14, .ireturn, 1), (15, .iconst 0, 1), (16, .ireturn, 1)]
theorem dc_L_readings : kdecs method_22_code dl_L_readings = true := by decide +kernel
theorem wl_1348 : Cond.methodLink "PoetFinesLaw" 74 ⟨"PoetFines", "readings", "(I)I"⟩ ∈ kG := kG_of kch6 37 rfl rfl
theorem wl_1351 : Cond.code ⟨"PoetFines", "readings", "(I)I"⟩ prog_1_method_25_code 2 (some .int) ∈ kG := kG_of kch6 40 rfl rfl
theorem wl_1349 : Cond.instanceMethod ⟨"PoetFines", "readings", "(I)I"⟩ ∈ kG := kG_of kch6 38 rfl rfl
theorem wl_1350 : Cond.selects "PoetFines" ⟨"PoetFines", "readings", "(I)I"⟩ ⟨"PoetFines", "readings", "(I)I"⟩ ∈ kG := kG_of kch6 39 rfl rfl
theorem cv_L_74 : kCv "PoetFinesLaw" 74 ky_P_readings prog_1_method_25_code 2 (some .int) 1 "PoetFines" := ⟨⟨wl_1348, wl_112, wl_1351, ⟨by decide, by decide⟩, by decide +kernel⟩, wl_1349, wl_1350⟩
def R0_L_readings : Room := ({ frames := 14, cells := 1, slots := 6, locals := 351 } : Room)
def ky_L_best : MethodName := ⟨"PoetFinesLaw", "best", "(LPoetFines;II[J)I"⟩
def dl_L_best : List (Nat × Instr × Nat) := [(0, .aload_n 3, 1), (1, .iconst 0, 1), (2, .aload_n 0, 1), (3, .iload_n 1, 1), (4, .iload_n 2, 1), (5, .invokevirtual 77, 3), (8, .i2l, 1), (9, .lastore, 1), (10, .goto 11, 3), (13, .astore 4, 2), (15, .iconst 1, 1), (16, .ireturn, 1), (17, .astore 4, 2), (19, .iconst 2, 1), (20, .ireturn, 1), (21, .iconst 0, 1), (22, .ireturn, 1)]
theorem dc_L_best : kdecs method_23_code dl_L_best = true := by decide +kernel
theorem wl_1373 : Cond.methodLink "PoetFinesLaw" 77 ⟨"PoetFines", "best", "(II)I"⟩ ∈ kG := kG_of kch6 62 rfl rfl
theorem wl_1376 : Cond.code ⟨"PoetFines", "best", "(II)I"⟩ prog_1_method_26_code 3 (some .int) ∈ kG := kG_of kch6 65 rfl rfl
theorem wl_1374 : Cond.instanceMethod ⟨"PoetFines", "best", "(II)I"⟩ ∈ kG := kG_of kch6 63 rfl rfl
theorem wl_1375 : Cond.selects "PoetFines" ⟨"PoetFines", "best", "(II)I"⟩ ⟨"PoetFines", "best", "(II)I"⟩ ∈ kG := kG_of kch6 64 rfl rfl
theorem cv_L_77 : kCv "PoetFinesLaw" 77 ky_P_best prog_1_method_26_code 3 (some .int) 2 "PoetFines" := ⟨⟨wl_1373, wl_112, wl_1376, ⟨by decide, by decide⟩, by decide +kernel⟩, wl_1374, wl_1375⟩
def R0_L_best : Room := ({ frames := 8, cells := 2, slots := 12, locals := 192 } : Room)
def ky_L_feel : MethodName := ⟨"PoetFinesLaw", "feel", "(LPoetFines;IIZ[J)I"⟩
def dl_L_feel : List (Nat × Instr × Nat) := [(0, .aload 4, 2), (2, .iconst 0, 1), (3, .aload_n 0, 1), (4, .iload_n 1, 1), (5, .iload_n 2, 1), (6, .iload_n 3, 1), (7, .invokevirtual 80, 3), (10, .i2l, 1), (11, .lastore, 1), (12, .goto 7, 3), (15, .astore 5, 2), (17, .iconst 1, 1), (18, .ireturn, 1), (19, .iconst 0, 1), (20, .ireturn, 1)]
theorem dc_L_feel : kdecs method_24_code dl_L_feel = true := by decide +kernel
theorem wl_1390 : Cond.methodLink "PoetFinesLaw" 80 ⟨"PoetFines", "feel", "(IIZ)I"⟩ ∈ kG := kG_of kch6 79 rfl rfl
theorem wl_1393 : Cond.code ⟨"PoetFines", "feel", "(IIZ)I"⟩ prog_1_method_27_code 4 (some .int) ∈ kG := kG_of kch6 82 rfl rfl
theorem wl_1391 : Cond.instanceMethod ⟨"PoetFines", "feel", "(IIZ)I"⟩ ∈ kG := kG_of kch6 80 rfl rfl
theorem wl_1392 : Cond.selects "PoetFines" ⟨"PoetFines", "feel", "(IIZ)I"⟩ ⟨"PoetFines", "feel", "(IIZ)I"⟩ ∈ kG := kG_of kch6 81 rfl rfl
theorem cv_L_80 : kCv "PoetFinesLaw" 80 ky_P_feel prog_1_method_27_code 4 (some .int) 3 "PoetFines" := ⟨⟨wl_1390, wl_112, wl_1393, ⟨by decide, by decide⟩, by decide +kernel⟩, wl_1391, wl_1392⟩
def R0_L_feel : Room := ({ frames := 8, cells := 1, slots := 6, locals := 144 } : Room)
def ky_L_truths : MethodName := ⟨"PoetFinesLaw", "truths", "(LPoetFines;I[J)I"⟩
def dl_L_truths : List (Nat × Instr × Nat) := [(0, .aload_n 2, 1), (1, .iconst 0, 1), (2, .aload_n 0, 1), (3, .iload_n 1, 1), (4, .invokevirtual 84, 3), (7, .i2l, 1), (8, .lastore, 1), (9, .goto 6, 3), (12, .astore_n 3, 1), (13, .iconst 1, 1), (14, .ireturn, 1), (15, .iconst 0, 1), (16, .ireturn, 1)]
theorem dc_L_truths : kdecs method_25_code dl_L_truths = true := by decide +kernel
theorem wl_1401 : Cond.methodLink "PoetFinesLaw" 84 ⟨"PoetFines", "truths", "(I)I"⟩ ∈ kG := kG_of kch6 90 rfl rfl
theorem wl_1404 : Cond.code ⟨"PoetFines", "truths", "(I)I"⟩ prog_1_method_29_code 3 (some .int) ∈ kG := kG_of kch6 93 rfl rfl
theorem wl_1402 : Cond.instanceMethod ⟨"PoetFines", "truths", "(I)I"⟩ ∈ kG := kG_of kch6 91 rfl rfl
theorem wl_1403 : Cond.selects "PoetFines" ⟨"PoetFines", "truths", "(I)I"⟩ ⟨"PoetFines", "truths", "(I)I"⟩ ∈ kG := kG_of kch6 92 rfl rfl
theorem cv_L_84 : kCv "PoetFinesLaw" 84 ky_P_truths prog_1_method_29_code 3 (some .int) 1 "PoetFines" := ⟨⟨wl_1401, wl_112, wl_1404, ⟨by decide, by decide⟩, by decide +kernel⟩, wl_1402, wl_1403⟩
def R0_L_truths : Room := ({ frames := 8, cells := 1, slots := 6, locals := 194 } : Room)
def ky_L_listen : MethodName := ⟨"PoetFinesLaw", "listen", "(LPoetFines;I[J)I"⟩
def dl_L_listen : List (Nat × Instr × Nat) := [(0, .aload_n 2, 1), (1, .iconst 0, 1), (2, .aload_n 0, 1), (3, .iload_n 1, 1), (4, .invokevirtual 87, 3), (7, .i2l, 1), (8, .lastore, 1), (9, .goto 6, 3), (12, .astore_n 3, 1), (13, .iconst 1, 1), (14, .ireturn, 1), (15, .iconst 0, 1), (16, .ireturn, 1)]
theorem dc_L_listen : kdecs method_26_code dl_L_listen = true := by decide +kernel
theorem wl_1446 : Cond.methodLink "PoetFinesLaw" 87 ⟨"PoetFines", "listen", "(I)I"⟩ ∈ kG := kG_of kch6 135 rfl rfl
theorem wl_1449 : Cond.code ⟨"PoetFines", "listen", "(I)I"⟩ prog_1_method_30_code 3 (some .int) ∈ kG := kG_of kch6 138 rfl rfl
theorem wl_1447 : Cond.instanceMethod ⟨"PoetFines", "listen", "(I)I"⟩ ∈ kG := kG_of kch6 136 rfl rfl
theorem wl_1448 : Cond.selects "PoetFines" ⟨"PoetFines", "listen", "(I)I"⟩ ⟨"PoetFines", "listen", "(I)I"⟩ ∈ kG := kG_of kch6 137 rfl rfl
theorem cv_L_87 : kCv "PoetFinesLaw" 87 ky_P_listen prog_1_method_30_code 3 (some .int) 1 "PoetFines" := ⟨⟨wl_1446, wl_112, wl_1449, ⟨by decide, by decide⟩, by decide +kernel⟩, wl_1447, wl_1448⟩
def R0_L_listen : Room := ({ frames := 8, cells := 1, slots := 6, locals := 194 } : Room)
def ky_L_accidents : MethodName := ⟨"PoetFinesLaw", "accidents", "(LPoetFines;III[J)I"⟩
def dl_L_accidents : List (Nat × Instr × Nat) := [(0, .aload 4, 2), (2, .iconst 0, 1), (3, .aload_n 0, 1), (4, .iload_n 1, 1), (5, .iload_n 2, 1), (6, .iload_n 3, 1), (7, .invokevirtual 90, 3), (10, .i2l, 1), (11, .lastore, 1), (12, .goto 11, 3), (15, .astore 5, 2), (17, .iconst 1, 1), (18, .ireturn, 1), (19, .astore 5, 2), (21, .iconst 2, 1), (22, .ireturn, 1), (23, .iconst 0, 1), (24, .ireturn, 1)]
theorem dc_L_accidents : kdecs method_27_code dl_L_accidents = true := by decide +kernel
theorem wl_1469 : Cond.methodLink "PoetFinesLaw" 90 ⟨"PoetFines", "accidents", "(III)I"⟩ ∈ kG := kG_of kch6 158 rfl rfl
theorem wl_1472 : Cond.code ⟨"PoetFines", "accidents", "(III)I"⟩ prog_1_method_31_code 4 (some .int) ∈ kG := kG_of kch6 161 rfl rfl
theorem wl_1470 : Cond.instanceMethod ⟨"PoetFines", "accidents", "(III)I"⟩ ∈ kG := kG_of kch6 159 rfl rfl
theorem wl_1471 : Cond.selects "PoetFines" ⟨"PoetFines", "accidents", "(III)I"⟩ ⟨"PoetFines", "accidents", "(III)I"⟩ ∈ kG := kG_of kch6 160 rfl rfl
theorem cv_L_90 : kCv "PoetFinesLaw" 90 ky_P_accidents prog_1_method_31_code 4 (some .int) 3 "PoetFines" := ⟨⟨wl_1469, wl_112, wl_1472, ⟨by decide, by decide⟩, by decide +kernel⟩, wl_1470, wl_1471⟩
def R0_L_accidents : Room := ({ frames := 8, cells := 3, slots := 18, locals := 197 } : Room)
def ky_L_game : MethodName := ⟨"PoetFinesLaw", "game", "(LPoetFines;III[J)I"⟩
def dl_L_game : List (Nat × Instr × Nat) := [(0, .aload 4, 2), (2, .iconst 0, 1), (3, .aload_n 0, 1), (4, .iload_n 1, 1), (5, .iload_n 2, 1), (6, .iload_n 3, 1), (7, .invokevirtual 93, 3), (10, .i2l, 1), (11, .lastore, 1), (12, .goto 11, 3), (15, .astore 5, 2), (17, .iconst 1, 1), (18, .ireturn, 1), (19, .astore 5, 2), (21, .iconst 2, 1), (22, .ireturn, 1), (23, .iconst 0, 1), (24, .ireturn, 1)]
theorem dc_L_game : kdecs method_28_code dl_L_game = true := by decide +kernel
theorem wl_1484 : Cond.methodLink "PoetFinesLaw" 93 ⟨"PoetFines", "game", "(III)I"⟩ ∈ kG := kG_of kch6 173 rfl rfl
theorem wl_1487 : Cond.code ⟨"PoetFines", "game", "(III)I"⟩ prog_1_method_32_code 4 (some .int) ∈ kG := kG_of kch6 176 rfl rfl
theorem wl_1485 : Cond.instanceMethod ⟨"PoetFines", "game", "(III)I"⟩ ∈ kG := kG_of kch6 174 rfl rfl
theorem wl_1486 : Cond.selects "PoetFines" ⟨"PoetFines", "game", "(III)I"⟩ ⟨"PoetFines", "game", "(III)I"⟩ ∈ kG := kG_of kch6 175 rfl rfl
theorem cv_L_93 : kCv "PoetFinesLaw" 93 ky_P_game prog_1_method_32_code 4 (some .int) 3 "PoetFines" := ⟨⟨wl_1484, wl_112, wl_1487, ⟨by decide, by decide⟩, by decide +kernel⟩, wl_1485, wl_1486⟩
def R0_L_game : Room := ({ frames := 8, cells := 4, slots := 24, locals := 191 } : Room)
def ky_L_decades : MethodName := ⟨"PoetFinesLaw", "decades", "(LPoetFines;III[J)I"⟩
def dl_L_decades : List (Nat × Instr × Nat) := [(0, .aload 4, 2), (2, .iconst 0, 1), (3, .aload_n 0, 1), (4, .iload_n 1, 1), (5, .iload_n 2, 1), (6, .iload_n 3, 1), (7, .invokevirtual 96, 3), (10, .i2l, 1), (11, .lastore, 1), (12, .goto 11, 3), (15, .astore 5, 2), (17, .iconst 1, 1), (18, .ireturn, 1), (19, .astore 5, 2), (21, .iconst 2, 1), (22, .ireturn, 1), (23, .iconst 0, 1), (24, .ireturn, 1)]
theorem dc_L_decades : kdecs method_29_code dl_L_decades = true := by decide +kernel
theorem wl_1500 : Cond.methodLink "PoetFinesLaw" 96 ⟨"PoetFines", "decades", "(III)I"⟩ ∈ kG := kG_of kch6 189 rfl rfl
theorem wl_1503 : Cond.code ⟨"PoetFines", "decades", "(III)I"⟩ prog_1_method_33_code 4 (some .int) ∈ kG := kG_of kch6 192 rfl rfl
theorem wl_1501 : Cond.instanceMethod ⟨"PoetFines", "decades", "(III)I"⟩ ∈ kG := kG_of kch6 190 rfl rfl
theorem wl_1502 : Cond.selects "PoetFines" ⟨"PoetFines", "decades", "(III)I"⟩ ⟨"PoetFines", "decades", "(III)I"⟩ ∈ kG := kG_of kch6 191 rfl rfl
theorem cv_L_96 : kCv "PoetFinesLaw" 96 ky_P_decades prog_1_method_33_code 4 (some .int) 3 "PoetFines" := ⟨⟨wl_1500, wl_112, wl_1503, ⟨by decide, by decide⟩, by decide +kernel⟩, wl_1501, wl_1502⟩
def R0_L_decades : Room := ({ frames := 8, cells := 2, slots := 12, locals := 169 } : Room)
def ky_L_jailed : MethodName := ⟨"PoetFinesLaw", "jailed", "(LPoetFines;II[J)I"⟩
def dl_L_jailed : List (Nat × Instr × Nat) := [(0, .aload_n 3, 1), (1, .iconst 0, 1), (2, .aload_n 0, 1), (3, .iload_n 1, 1), (4, .iload_n 2, 1), (5, .invokevirtual 99, 3), (8, .i2l, 1), (9, .lastore, 1), (10, .goto 11, 3), (13, .astore 4, 2), (15, .iconst 1, 1), (16, .ireturn, 1), (17, .astore 4, 2), (19, .iconst 2, 1), (20, .ireturn, 1), (21, .iconst 0, 1), (22, .ireturn, 1)]
theorem dc_L_jailed : kdecs method_30_code dl_L_jailed = true := by decide +kernel
theorem wl_1521 : Cond.methodLink "PoetFinesLaw" 99 ⟨"PoetFines", "jailed", "(II)I"⟩ ∈ kG := kG_of kch6 210 rfl rfl
theorem wl_1524 : Cond.code ⟨"PoetFines", "jailed", "(II)I"⟩ prog_1_method_34_code 3 (some .int) ∈ kG := kG_of kch6 213 rfl rfl
theorem wl_1522 : Cond.instanceMethod ⟨"PoetFines", "jailed", "(II)I"⟩ ∈ kG := kG_of kch6 211 rfl rfl
theorem wl_1523 : Cond.selects "PoetFines" ⟨"PoetFines", "jailed", "(II)I"⟩ ⟨"PoetFines", "jailed", "(II)I"⟩ ∈ kG := kG_of kch6 212 rfl rfl
theorem cv_L_99 : kCv "PoetFinesLaw" 99 ky_P_jailed prog_1_method_34_code 3 (some .int) 2 "PoetFines" := ⟨⟨wl_1521, wl_112, wl_1524, ⟨by decide, by decide⟩, by decide +kernel⟩, wl_1522, wl_1523⟩
def R0_L_jailed : Room := ({ frames := 8, cells := 2, slots := 12, locals := 188 } : Room)
def ky_L_into : MethodName := ⟨"PoetFinesLaw", "into", "(LPoetFines;III[J)I"⟩
def dl_L_into : List (Nat × Instr × Nat) := [(0, .aload 4, 2), (2, .iconst 0, 1), (3, .aload_n 0, 1), (4, .iload_n 1, 1), (5, .iload_n 2, 1), (6, .iload_n 3, 1), (7, .invokevirtual 102, 3), (10, .i2l, 1), (11, .lastore, 1), (12, .goto 11, 3), (15, .astore 5, 2), (17, .iconst 1, 1), (18, .ireturn, 1), (19, .astore 5, 2), (21, .iconst 2, 1), (22, .ireturn, 1), (23, .iconst 0, 1), (24, .ireturn, 1)]
theorem dc_L_into : kdecs method_31_code dl_L_into = true := by decide +kernel
theorem wl_1528 : Cond.methodLink "PoetFinesLaw" 102 ⟨"PoetFines", "into", "(III)I"⟩ ∈ kG := kG_of kch6 217 rfl rfl
theorem wl_1531 : Cond.code ⟨"PoetFines", "into", "(III)I"⟩ prog_1_method_35_code 4 (some .int) ∈ kG := kG_of kch6 220 rfl rfl
theorem wl_1529 : Cond.instanceMethod ⟨"PoetFines", "into", "(III)I"⟩ ∈ kG := kG_of kch6 218 rfl rfl
theorem wl_1530 : Cond.selects "PoetFines" ⟨"PoetFines", "into", "(III)I"⟩ ⟨"PoetFines", "into", "(III)I"⟩ ∈ kG := kG_of kch6 219 rfl rfl
theorem cv_L_102 : kCv "PoetFinesLaw" 102 ky_P_into prog_1_method_35_code 4 (some .int) 3 "PoetFines" := ⟨⟨wl_1528, wl_112, wl_1531, ⟨by decide, by decide⟩, by decide +kernel⟩, wl_1529, wl_1530⟩
def R0_L_into : Room := ({ frames := 8, cells := 3, slots := 18, locals := 189 } : Room)
def ky_L_laureate : MethodName := ⟨"PoetFinesLaw", "laureate", "(LPoetFines;I[J)I"⟩
def dl_L_laureate : List (Nat × Instr × Nat) := [(0, .aload_n 2, 1), (1, .iconst 0, 1), (2, .aload_n 0, 1), (3, .iload_n 1, 1), (4, .invokevirtual 105, 3), (7, .i2l, 1), (8, .lastore, 1), (9, .goto 6, 3), (12, .astore_n 3, 1), (13, .iconst 1, 1), (14, .ireturn, 1), (15, .iconst 0, 1), (16, .ireturn, 1)]
theorem dc_L_laureate : kdecs method_32_code dl_L_laureate = true := by decide +kernel
theorem wl_1535 : Cond.methodLink "PoetFinesLaw" 105 ⟨"PoetFines", "laureate", "(I)I"⟩ ∈ kG := kG_of kch6 224 rfl rfl
theorem wl_1538 : Cond.code ⟨"PoetFines", "laureate", "(I)I"⟩ prog_1_method_36_code 2 (some .int) ∈ kG := kG_of kch6 227 rfl rfl
theorem wl_1536 : Cond.instanceMethod ⟨"PoetFines", "laureate", "(I)I"⟩ ∈ kG := kG_of kch6 225 rfl rfl
theorem wl_1537 : Cond.selects "PoetFines" ⟨"PoetFines", "laureate", "(I)I"⟩ ⟨"PoetFines", "laureate", "(I)I"⟩ ∈ kG := kG_of kch6 226 rfl rfl
theorem cv_L_105 : kCv "PoetFinesLaw" 105 ky_P_laureate prog_1_method_36_code 2 (some .int) 1 "PoetFines" := ⟨⟨wl_1535, wl_112, wl_1538, ⟨by decide, by decide⟩, by decide +kernel⟩, wl_1536, wl_1537⟩
def R0_L_laureate : Room := ({ frames := 8, cells := 1, slots := 6, locals := 187 } : Room)
def ky_L_plaintiff : MethodName := ⟨"PoetFinesLaw", "plaintiff", "(LPoetFines;I[J)I"⟩
def dl_L_plaintiff : List (Nat × Instr × Nat) := [(0, .aload_n 2, 1), (1, .iconst 0, 1), (2, .aload_n 0, 1), (3, .iload_n 1, 1), (4, .invokevirtual 108, 3), (7, .i2l, 1), (8, .lastore, 1), (9, .goto 6, 3), (12, .astore_n 3, 1), (13, .iconst 1, 1), (14, .ireturn, 1), (15, .iconst 0, 1), (16, .ireturn, 1)]
theorem dc_L_plaintiff : kdecs method_33_code dl_L_plaintiff = true := by decide +kernel
theorem wl_1546 : Cond.methodLink "PoetFinesLaw" 108 ⟨"PoetFines", "plaintiff", "(I)I"⟩ ∈ kG := kG_of kch6 235 rfl rfl
theorem wl_1549 : Cond.code ⟨"PoetFines", "plaintiff", "(I)I"⟩ prog_1_method_37_code 2 (some .int) ∈ kG := kG_of kch6 238 rfl rfl
theorem wl_1547 : Cond.instanceMethod ⟨"PoetFines", "plaintiff", "(I)I"⟩ ∈ kG := kG_of kch6 236 rfl rfl
theorem wl_1548 : Cond.selects "PoetFines" ⟨"PoetFines", "plaintiff", "(I)I"⟩ ⟨"PoetFines", "plaintiff", "(I)I"⟩ ∈ kG := kG_of kch6 237 rfl rfl
theorem cv_L_108 : kCv "PoetFinesLaw" 108 ky_P_plaintiff prog_1_method_37_code 2 (some .int) 1 "PoetFines" := ⟨⟨wl_1546, wl_112, wl_1549, ⟨by decide, by decide⟩, by decide +kernel⟩, wl_1547, wl_1548⟩
def R0_L_plaintiff : Room := ({ frames := 8, cells := 1, slots := 6, locals := 189 } : Room)
