/-! THE START: what the statement says of constants, by places in its flat list (program wip/whole/gen/envn.py) -/
def nfl : List Cond := flatC narrow_1
def nS (i : Nat) : Term := .static "PoetFines$Word" (kNm.getD i "") "LPoetFines$Word;"
def nA : Term := .static "PoetFines$Word" "ALL" "[LPoetFines$Word;"
def nT (i : Nat) : Term := if i < 18 then .string "PoetFines$Word" ([108, 114, 117, 120, 123, 126, 129, 132, 135, 138, 143, 146, 149, 152, 155, 158, 161, 164].getD i 0) else .string "PoetFines$Tokens" 72
def nV (i : Nat) : Term := .field (nT i) "java/lang/String" "value" "[B"
theorem nx_ex : ∀ i : Nat, i < 18 → nfl[([32, 43, 50, 58, 100, 113, 77, 88, 67, 127, 142, 158, 175, 193, 212, 232, 253, 37] : List Nat).getD i 0]? = some (Cond.exactly (nS i) "PoetFines$Word") := by decide +kernel
theorem nx_pl : ∀ i : Nat, i < 18 → nfl[([35, 46, 53, 61, 103, 116, 80, 91, 70, 130, 145, 161, 178, 196, 215, 235, 256, 40] : List Nat).getD i 0]? = some (Cond.eq (.field (nS i) "PoetFines$Word" "place" "I") (.int (kPlL.getD i 0))) := by decide +kernel
theorem nx_ru : ∀ i : Nat, i < 18 → nfl[([36, 47, 54, 62, 104, 117, 81, 92, 71, 131, 146, 162, 179, 197, 216, 236, 257, 41] : List Nat).getD i 0]? = some (Cond.eq (.field (nS i) "PoetFines$Word" "rules" "I") (.int (kRuL.getD i 0))) := by decide +kernel
theorem nx_tx : ∀ i : Nat, i < 18 → nfl[([34, 45, 52, 60, 102, 115, 79, 90, 69, 129, 144, 160, 177, 195, 214, 234, 255, 39] : List Nat).getD i 0]? = some (Cond.eq (.field (nS i) "PoetFines$Word" "text" "Ljava/lang/String;") (nT i)) := by decide +kernel
theorem nx_al : ∀ i : Nat, i < 18 → nfl[([9, 10, 11, 12, 13, 14, 15, 16, 17, 18, 19, 20, 21, 22, 23, 24, 25, 26] : List Nat).getD i 0]? = some (Cond.eq (.elem nA (.int (Int32.ofNat i))) (nS i)) := by decide +kernel
theorem nx_ne : ∀ i : Nat, i < 18 → ∀ j : Nat, j < 18 → i ≠ j → nfl[([0, 48, 55, 63, 105, 118, 82, 93, 72, 132, 147, 163, 180, 198, 217, 237, 258, 42, 48, 0, 57, 65, 107, 120, 84, 95, 74, 134, 149, 165, 182, 200, 219, 239, 260, 49, 55, 57, 0, 66, 108, 121, 85, 96, 75, 135, 150, 166, 183, 201, 220, 240, 261, 56, 63, 65, 66, 0, 109, 122, 86, 97, 76, 136, 151, 167, 184, 202, 221, 241, 262, 64, 105, 107, 108, 109, 0, 126, 111, 112, 110, 140, 155, 171, 188, 206, 225, 245, 266, 106, 118, 120, 121, 122, 126, 0, 124, 125, 123, 141, 156, 172, 189, 207, 226, 246, 267, 119, 82, 84, 85, 86, 111, 124, 0, 99, 87, 138, 153, 169, 186, 204, 223, 243, 264, 83, 93, 95, 96, 97, 112, 125, 99, 0, 98, 139, 154, 170, 187, 205, 224, 244, 265, 94, 72, 74, 75, 76, 110, 123, 87, 98, 0, 137, 152, 168, 185, 203, 222, 242, 263, 73, 132, 134, 135, 136, 140, 141, 138, 139, 137, 0, 157, 173, 190, 208, 227, 247, 268, 133, 147, 149, 150, 151, 155, 156, 153, 154, 152, 157, 0, 174, 191, 209, 228, 248, 269, 148, 163, 165, 166, 167, 171, 172, 169, 170, 168, 173, 174, 0, 192, 210, 229, 249, 270, 164, 180, 182, 183, 184, 188, 189, 186, 187, 185, 190, 191, 192, 0, 211, 230, 250, 271, 181, 198, 200, 201, 202, 206, 207, 204, 205, 203, 208, 209, 210, 211, 0, 231, 251, 272, 199, 217, 219, 220, 221, 225, 226, 223, 224, 222, 227, 228, 229, 230, 231, 0, 252, 273, 218, 237, 239, 240, 241, 245, 246, 243, 244, 242, 247, 248, 249, 250, 251, 252, 0, 274, 238, 258, 260, 261, 262, 266, 267, 264, 265, 263, 268, 269, 270, 271, 272, 273, 274, 0, 259, 42, 49, 56, 64, 106, 119, 83, 94, 73, 133, 148, 164, 181, 199, 218, 238, 259, 0] : List Nat).getD (18 * i + j) 0]? = some (Cond.not (.eq (nS i) (nS j))) ∨ nfl[([0, 48, 55, 63, 105, 118, 82, 93, 72, 132, 147, 163, 180, 198, 217, 237, 258, 42, 48, 0, 57, 65, 107, 120, 84, 95, 74, 134, 149, 165, 182, 200, 219, 239, 260, 49, 55, 57, 0, 66, 108, 121, 85, 96, 75, 135, 150, 166, 183, 201, 220, 240, 261, 56, 63, 65, 66, 0, 109, 122, 86, 97, 76, 136, 151, 167, 184, 202, 221, 241, 262, 64, 105, 107, 108, 109, 0, 126, 111, 112, 110, 140, 155, 171, 188, 206, 225, 245, 266, 106, 118, 120, 121, 122, 126, 0, 124, 125, 123, 141, 156, 172, 189, 207, 226, 246, 267, 119, 82, 84, 85, 86, 111, 124, 0, 99, 87, 138, 153, 169, 186, 204, 223, 243, 264, 83, 93, 95, 96, 97, 112, 125, 99, 0, 98, 139, 154, 170, 187, 205, 224, 244, 265, 94, 72, 74, 75, 76, 110, 123, 87, 98, 0, 137, 152, 168, 185, 203, 222, 242, 263, 73, 132, 134, 135, 136, 140, 141, 138, 139, 137, 0, 157, 173, 190, 208, 227, 247, 268, 133, 147, 149, 150, 151, 155, 156, 153, 154, 152, 157, 0, 174, 191, 209, 228, 248, 269, 148, 163, 165, 166, 167, 171, 172, 169, 170, 168, 173, 174, 0, 192, 210, 229, 249, 270, 164, 180, 182, 183, 184, 188, 189, 186, 187, 185, 190, 191, 192, 0, 211, 230, 250, 271, 181, 198, 200, 201, 202, 206, 207, 204, 205, 203, 208, 209, 210, 211, 0, 231, 251, 272, 199, 217, 219, 220, 221, 225, 226, 223, 224, 222, 227, 228, 229, 230, 231, 0, 252, 273, 218, 237, 239, 240, 241, 245, 246, 243, 244, 242, 247, 248, 249, 250, 251, 252, 0, 274, 238, 258, 260, 261, 262, 266, 267, 264, 265, 263, 268, 269, 270, 271, 272, 273, 274, 0, 259, 42, 49, 56, 64, 106, 119, 83, 94, 73, 133, 148, 164, 181, 199, 218, 238, 259, 0] : List Nat).getD (18 * i + j) 0]? = some (Cond.not (.eq (nS j) (nS i))) := by decide +kernel
theorem nx_sx : ∀ i : Nat, i < 19 → nfl[([479, 493, 503, 511, 539, 548, 526, 532, 519, 556, 565, 574, 584, 592, 601, 609, 619, 489, 337] : List Nat).getD i 0]? = some (Cond.exactly (nT i) "java/lang/String") := by decide +kernel
theorem nx_sc : ∀ i : Nat, i < 19 → nfl[([480, 494, 504, 512, 540, 549, 527, 533, 520, 557, 566, 575, 585, 593, 602, 610, 620, 490, 338] : List Nat).getD i 0]? = some (Cond.eq (.field (nT i) "java/lang/String" "coder" "B") (.int 0)) := by decide +kernel
theorem nx_sa : ∀ i : Nat, i < 19 → nfl[([481, 495, 505, 513, 541, 550, 528, 534, 521, 558, 567, 576, 586, 594, 603, 611, 621, 491, 339] : List Nat).getD i 0]? = some (Cond.arrayOf (nV i) .byte) := by decide +kernel
theorem nx_sl : ∀ i : Nat, i < 19 → nfl[([482, 496, 506, 514, 542, 551, 529, 535, 522, 559, 568, 577, 587, 595, 604, 612, 622, 492, 340] : List Nat).getD i 0]? = some (Cond.eq (.length (nV i)) (.int (Int32.ofNat (kLen.getD i 0)))) := by decide +kernel
theorem nx_se : ∀ i : Nat, i < 19 → ∀ j : Nat, j < kLen.getD i 0 → nfl[(([[483, 484, 485, 486, 487, 488], [497, 498, 499, 500, 501, 502], [507, 508, 509, 510], [515, 516, 517, 518], [543, 544, 545, 546, 547], [552, 553, 554, 555], [530, 531], [536, 537, 538], [523, 524, 525], [560, 561, 562, 563, 564], [569, 570, 571, 572, 573], [578, 579, 580, 581, 582, 583], [588, 589, 590, 591], [596, 597, 598, 599, 600], [605, 606, 607, 608], [613, 614, 615, 616, 617, 618], [623, 624, 625, 626, 627, 628], [], [341, 342, 343, 344, 345, 346, 347, 348, 349]] : List (List Nat)).getD i []).getD j 0]? = some (Cond.eq (.elem (nV i) (.int (Int32.ofNat j))) (.int ((kByt.getD i []).getD j 0))) := by decide +kernel
theorem nx_st : ∀ i : Nat, i < 8 → nfl[([303, 350, 367, 385, 401, 417, 433, 463] : List Nat).getD i 0]? = some (Cond.exactly (.string (kSt.getD i ("", 0, "")).1 (kSt.getD i ("", 0, "")).2.1) "java/lang/String") := by decide +kernel
theorem nx_us : nfl[2]? = some (Cond.isRef (.static "java/lang/Throwable" "UNASSIGNED_STACK" "[Ljava/lang/StackTraceElement;")) := by decide +kernel
theorem nx_ss : nfl[3]? = some (Cond.isRef (.static "java/lang/Throwable" "SUPPRESSED_SENTINEL" "Ljava/util/List;")) := by decide +kernel
theorem nx_aa : nfl[6]? = some (Cond.arrayOf nA (.object "PoetFines$Word")) := by decide +kernel
theorem nx_an : nfl[7]? = some (Cond.eq (.length nA) (.int 18)) := by decide +kernel
theorem nx_cs : nfl[27]? = some (Cond.eq (.static "java/lang/String" "COMPACT_STRINGS" "Z") (.int 1)) := by decide +kernel
theorem nx_si : nfl[28]? = some (Cond.isRef (.static "jdk/internal/util/Preconditions" "SIOOBE_FORMATTER" "Ljava/util/function/BiFunction;")) := by decide +kernel
theorem nx_ci : nfl[301]? = some (Cond.not (.castable "java/lang/IllegalArgumentException" "java/util/NoSuchElementException")) := by decide +kernel
theorem nw_lu : Cond.laysStatic "java/lang/Throwable" "UNASSIGNED_STACK" "[Ljava/lang/StackTraceElement;" ∈ lw_tbl := kch3 _ (List.mem_of_getElem? (i := 123) rfl)
theorem nw_ls : Cond.laysStatic "java/lang/Throwable" "SUPPRESSED_SENTINEL" "Ljava/util/List;" ∈ lw_tbl := kch3 _ (List.mem_of_getElem? (i := 125) rfl)
theorem nw_it : Cond.initialized "java/lang/Throwable" ∈ lw_tbl := kch1 _ (List.mem_of_getElem? (i := 13) rfl)
theorem nw_iw : Cond.initialized "PoetFines$Word" ∈ lw_tbl := kch1 _ (List.mem_of_getElem? (i := 19) rfl)
theorem nw_is : Cond.initialized "java/lang/String" ∈ lw_tbl := kch1 _ (List.mem_of_getElem? (i := 20) rfl)
theorem nw_ip : Cond.initialized "jdk/internal/util/Preconditions" ∈ lw_tbl := kch1 _ (List.mem_of_getElem? (i := 22) rfl)
theorem nw_la : Cond.laysStatic "PoetFines$Word" "ALL" "[LPoetFines$Word;" ∈ lw_tbl := kch3 _ (List.mem_of_getElem? (i := 201) rfl)
theorem nw_lc : Cond.laysStatic "java/lang/String" "COMPACT_STRINGS" "Z" ∈ lw_tbl := kch3 _ (List.mem_of_getElem? (i := 216) rfl)
theorem nw_lp : Cond.laysStatic "jdk/internal/util/Preconditions" "SIOOBE_FORMATTER" "Ljava/util/function/BiFunction;" ∈ lw_tbl := kch3 _ (List.mem_of_getElem? (i := 232) rfl)
theorem nw_fn : Cond.fieldLinkNest "PoetFines$Tokens" 48 "PoetFines$Word" "ALL" "[LPoetFines$Word;" "PoetFines" ∈ lw_tbl := kch4 _ (List.mem_of_getElem? (i := 81) rfl)
theorem nw_si : Cond.stringRef "PoetFines$Tokens" 72 ";()+-*/<=" ∈ lw_tbl := kch4 _ (List.mem_of_getElem? (i := 19) rfl)
theorem nw_cn : Cond.castable "java/util/NoSuchElementException" "java/util/NoSuchElementException" ∈ lw_tbl := kch5 _ (List.mem_of_getElem? (i := 17) rfl)
theorem nw_ci : Cond.castable "java/lang/IllegalArgumentException" "java/lang/IllegalArgumentException" ∈ lw_tbl := kch3 _ (List.mem_of_getElem? (i := 98) rfl)
theorem nw_ln : ∀ i : Nat, i < 18 → Cond.laysStatic "PoetFines$Word" (kNm.getD i "") "LPoetFines$Word;" ∈ lw_tbl
  | 0, _ => (kch4 _ (List.mem_of_getElem? (i := 76) rfl))
  | 1, _ => (kch4 _ (List.mem_of_getElem? (i := 129) rfl))
  | 2, _ => (kch4 _ (List.mem_of_getElem? (i := 139) rfl))
  | 3, _ => (kch4 _ (List.mem_of_getElem? (i := 161) rfl))
  | 4, _ => (kch4 _ (List.mem_of_getElem? (i := 218) rfl))
  | 5, _ => (kch4 _ (List.mem_of_getElem? (i := 220) rfl))
  | 6, _ => (kch4 _ (List.mem_of_getElem? (i := 206) rfl))
  | 7, _ => (kch4 _ (List.mem_of_getElem? (i := 208) rfl))
  | 8, _ => (kch4 _ (List.mem_of_getElem? (i := 200) rfl))
  | 9, _ => (kch9 _ (List.mem_of_getElem? (i := 193) rfl))
  | 10, _ => (kch9 _ (List.mem_of_getElem? (i := 194) rfl))
  | 11, _ => (kch9 _ (List.mem_of_getElem? (i := 195) rfl))
  | 12, _ => (kch9 _ (List.mem_of_getElem? (i := 196) rfl))
  | 13, _ => (kch9 _ (List.mem_of_getElem? (i := 197) rfl))
  | 14, _ => (kch9 _ (List.mem_of_getElem? (i := 198) rfl))
  | 15, _ => (kch9 _ (List.mem_of_getElem? (i := 199) rfl))
  | 16, _ => (kch9 _ (List.mem_of_getElem? (i := 200) rfl))
  | 17, _ => (kch4 _ (List.mem_of_getElem? (i := 127) rfl))
  | n + 18, h => absurd h (by omega)
theorem nw_st : ∀ i : Nat, i < 8 → Cond.stringRef (kSt.getD i ("", 0, "")).1 (kSt.getD i ("", 0, "")).2.1 (kSt.getD i ("", 0, "")).2.2 ∈ lw_tbl
  | 0, _ => (kch3 _ (List.mem_of_getElem? (i := 136) rfl))
  | 1, _ => (kch5 _ (List.mem_of_getElem? (i := 24) rfl))
  | 2, _ => (kch5 _ (List.mem_of_getElem? (i := 42) rfl))
  | 3, _ => (kch5 _ (List.mem_of_getElem? (i := 48) rfl))
  | 4, _ => (kch5 _ (List.mem_of_getElem? (i := 65) rfl))
  | 5, _ => (kch5 _ (List.mem_of_getElem? (i := 88) rfl))
  | 6, _ => (kch5 _ (List.mem_of_getElem? (i := 153) rfl))
  | 7, _ => (kch6 _ (List.mem_of_getElem? (i := 177) rfl))
  | n + 8, h => absurd h (by omega)
