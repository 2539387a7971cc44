/-! THE LAW: words, code -/
theorem kw_bool {x : kX} {cc : ByteArray} {own : String} {ret : Option FieldType} {Y0 : List kD} {n0 : Nat} {l0 : Launch} {R0 : Room} {cells slots : Nat} {Q : State → Prop} {σ : kM} {pc : Nat} {L : List (Option kV)} {S : List kV} {a v : Int} (C : kCx x cc own ret kcl Y0 n0 l0 R0) (hv : v = if a = 0 then 0 else 1) (d0 : decode cc pc = .ok (.ifCond .eq 7, 3)) (d1 : decode cc (pc + 3) = .ok (.iconst 1, 1)) (d2 : decode cc (pc + 4) = .ok (.goto 4, 3)) (d3 : decode cc (pc + 7) = .ok (.iconst 0, 1)) (pc' : Nat) (hpc : pc + 8 = pc') (k : KW x cells slots Q σ pc' L (ki v :: S)) : KW x cells slots Q σ pc L (ki a :: S) := by
  subst hpc
  refine kw_if_eq C d0 (pc + 7) (pc + 3) (by omega) rfl (fun h => ?_) (fun h => ?_)
  · refine kw_iconst (v := 0) C d3 (pc + 8) rfl rfl ⟨by decide, by decide⟩ ?_
    rw [if_pos h] at hv
    exact kw_top hv k
  · refine kw_iconst (v := 1) C d1 (pc + 4) rfl rfl ⟨by decide, by decide⟩ ?_
    refine kw_goto C d2 (pc + 8) (by omega) ?_
    rw [if_neg h] at hv
    exact kw_top hv k
theorem wl_1754 : Cond.methodLink "PoetFinesLaw" 126 ⟨"PoetFinesModel", "thrown", "()I"⟩ ∈ kG := kG_of kch7 203 rfl rfl
theorem wl_123 : Cond.initialized "PoetFinesModel" ∈ kG := kG_of kch1 12 rfl rfl
theorem wl_1757 : Cond.code ⟨"PoetFinesModel", "thrown", "()I"⟩ prog_14_method_2_code 1 (some .int) ∈ kG := kG_of kch7 206 rfl rfl
theorem wl_1755 : Cond.instanceMethod ⟨"PoetFinesModel", "thrown", "()I"⟩ ∈ kG := kG_of kch7 204 rfl rfl
theorem wl_1756 : Cond.selects "PoetFinesModel" ⟨"PoetFinesModel", "thrown", "()I"⟩ ⟨"PoetFinesModel", "thrown", "()I"⟩ ∈ kG := kG_of kch7 205 rfl rfl
theorem cv_L_126 : kCv "PoetFinesLaw" 126 ky_M_thrown prog_14_method_2_code 1 (some .int) 0 "PoetFinesModel" := ⟨⟨wl_1754, wl_123, wl_1757, ⟨by decide, by decide⟩, by decide +kernel⟩, wl_1755, wl_1756⟩
theorem wl_528 : Cond.methodLink "PoetFinesLaw" 115 ⟨"PoetFines", "feed", "(IIIII)I"⟩ ∈ kG := kG_of kch2 177 rfl rfl
theorem wl_531 : Cond.code ⟨"PoetFines", "feed", "(IIIII)I"⟩ prog_1_method_2_code 6 (some .int) ∈ kG := kG_of kch2 180 rfl rfl
theorem wl_529 : Cond.instanceMethod ⟨"PoetFines", "feed", "(IIIII)I"⟩ ∈ kG := kG_of kch2 178 rfl rfl
theorem wl_530 : Cond.selects "PoetFines" ⟨"PoetFines", "feed", "(IIIII)I"⟩ ⟨"PoetFines", "feed", "(IIIII)I"⟩ ∈ kG := kG_of kch2 179 rfl rfl
theorem cv_L_115 : kCv "PoetFinesLaw" 115 ky_P_feed prog_1_method_2_code 6 (some .int) 5 "PoetFines" := ⟨⟨wl_528, wl_112, wl_531, ⟨by decide, by decide⟩, by decide +kernel⟩, wl_529, wl_530⟩
theorem wl_1758 : Cond.methodLink "PoetFinesLaw" 119 ⟨"PoetFinesModel", "feed", "(IIIII)I"⟩ ∈ kG := kG_of kch7 207 rfl rfl
theorem wl_1761 : Cond.code ⟨"PoetFinesModel", "feed", "(IIIII)I"⟩ prog_14_method_9_code 6 (some .int) ∈ kG := kG_of kch7 210 rfl rfl
theorem wl_1759 : Cond.instanceMethod ⟨"PoetFinesModel", "feed", "(IIIII)I"⟩ ∈ kG := kG_of kch7 208 rfl rfl
theorem wl_1760 : Cond.selects "PoetFinesModel" ⟨"PoetFinesModel", "feed", "(IIIII)I"⟩ ⟨"PoetFinesModel", "feed", "(IIIII)I"⟩ ∈ kG := kG_of kch7 209 rfl rfl
theorem cv_L_119 : kCv "PoetFinesLaw" 119 ky_M_feed prog_14_method_9_code 6 (some .int) 5 "PoetFinesModel" := ⟨⟨wl_1758, wl_123, wl_1761, ⟨by decide, by decide⟩, by decide +kernel⟩, wl_1759, wl_1760⟩
def dl_K_0 : List (Nat × Instr × Nat) := [(208, .aload_n 1, 1), (209, .aload_n 0, 1), (210, .iload 4, 2), (212, .iconst 1, 1), (213, .iadd, 1), (214, .iaload, 1), (215, .aload_n 0, 1), (216, .iload 4, 2), (218, .iconst 2, 1), (219, .iadd, 1), (220, .iaload, 1), (221, .aload_n 0, 1), (222, .iload 4, 2), (224, .iconst 3, 1), (225, .iadd, 1), (226, .iaload, 1), (227, .aload_n 0, 1), (228, .iload 4, 2), (230, .iconst 4, 1), (231, .iadd, 1), (232, .iaload, 1), (233, .aload_n 0, 1), (234, .iload 4, 2), (236, .iconst 5, 1), (237, .iadd, 1), (238, .iaload, 1), (239, .invokevirtual 115, 3), (242, .aload_n 2, 1), (243, .aload_n 0, 1), (244, .iload 4, 2), (246, .iconst 1, 1), (247, .iadd, 1), (248, .iaload, 1), (249, .aload_n 0, 1), (250, .iload 4, 2), (252, .iconst 2, 1), (253, .iadd, 1), (254, .iaload, 1), (255, .aload_n 0, 1), (256, .iload 4, 2), (258, .iconst 3, 1), (259, .iadd, 1), (260, .iaload, 1), (261, .aload_n 0, 1), (262, .iload 4, 2), (264, .iconst 4, 1), (265, .iadd, 1), (266, .iaload, 1), (267, .aload_n 0, 1), (268, .iload 4, 2), (270, .iconst 5, 1), (271, .iadd, 1), (272, .iaload, 1), (273, .invokevirtual 119, 3), (276, .if_icmp .eq 2215, 3), (279, .iconst 0, 1), (280, .ireturn, 1)]
theorem dc_K_0 : kdecs code dl_K_0 = true := by decide +kernel
theorem wl_681 : Cond.codeWith ky_L_state method_3_code 4 (some .int) [(0, 9, 12, 13)] ∈ kG := kG_of kch3 90 rfl rfl
theorem wl_679 : Cond.methodLink "PoetFinesLaw" 120 ⟨"PoetFinesLaw", "state", "(LPoetFines;I[J)I"⟩ ∈ kG := kG_of kch3 88 rfl rfl
theorem wl_111 : Cond.initialized "PoetFinesLaw" ∈ kG := kG_of kch1 0 rfl rfl
theorem wl_680 : Cond.static ⟨"PoetFinesLaw", "state", "(LPoetFines;I[J)I"⟩ ∈ kG := kG_of kch3 89 rfl rfl
theorem ch_L_120 : kCh "PoetFinesLaw" 120 ky_L_state method_3_code 4 [(0, 9, 12, 13)] 3 := ⟨wl_679, wl_111, wl_681, ⟨by decide, by decide⟩, by decide +kernel, wl_680⟩
theorem wl_1766 : Cond.methodLink "PoetFinesLaw" 125 ⟨"PoetFinesModel", "state", "(I)I"⟩ ∈ kG := kG_of kch7 215 rfl rfl
theorem wl_1769 : Cond.code ⟨"PoetFinesModel", "state", "(I)I"⟩ prog_14_method_39_code 3 (some .int) ∈ kG := kG_of kch7 218 rfl rfl
theorem wl_1767 : Cond.instanceMethod ⟨"PoetFinesModel", "state", "(I)I"⟩ ∈ kG := kG_of kch7 216 rfl rfl
theorem wl_1768 : Cond.selects "PoetFinesModel" ⟨"PoetFinesModel", "state", "(I)I"⟩ ⟨"PoetFinesModel", "state", "(I)I"⟩ ∈ kG := kG_of kch7 217 rfl rfl
theorem cv_L_125 : kCv "PoetFinesLaw" 125 ky_M_state prog_14_method_39_code 3 (some .int) 1 "PoetFinesModel" := ⟨⟨wl_1766, wl_123, wl_1769, ⟨by decide, by decide⟩, by decide +kernel⟩, wl_1767, wl_1768⟩
def dl_K_1 : List (Nat × Instr × Nat) := [(281, .aload_n 1, 1), (282, .aload_n 0, 1), (283, .iload 4, 2), (285, .iconst 1, 1), (286, .iadd, 1), (287, .iaload, 1), (288, .aload_n 3, 1), (289, .invokestatic 120, 3), (292, .istore 5, 2), (294, .aload_n 2, 1), (295, .aload_n 0, 1), (296, .iload 4, 2), (298, .iconst 1, 1), (299, .iadd, 1), (300, .iaload, 1), (301, .invokevirtual 125, 3), (304, .istore 6, 2), (306, .aload_n 2, 1), (307, .invokevirtual 126, 3), (310, .iload 5, 2), (312, .if_icmp .eq 5, 3), (315, .iconst 0, 1), (316, .ireturn, 1), (317, .iload 5, 2), (319, .ifCond .ne 15, 3), (322, .aload_n 3, 1), (323, .iconst 0, 1), (324, .laload, 1), (325, .iload 6, 2), (327, .i2l, 1), (328, .lcmp, 1), (329, .ifCond .eq 5, 3), (332, .iconst 0, 1), (333, .ireturn, 1), (334, .goto 2157, 3)]
theorem dc_K_1 : kdecs code dl_K_1 = true := by decide +kernel
theorem wl_536 : Cond.methodLink "PoetFinesLaw" 130 ⟨"PoetFines", "fault", "()I"⟩ ∈ kG := kG_of kch2 185 rfl rfl
theorem wl_539 : Cond.code ⟨"PoetFines", "fault", "()I"⟩ prog_1_method_4_code 1 (some .int) ∈ kG := kG_of kch2 188 rfl rfl
theorem wl_537 : Cond.instanceMethod ⟨"PoetFines", "fault", "()I"⟩ ∈ kG := kG_of kch2 186 rfl rfl
theorem wl_538 : Cond.selects "PoetFines" ⟨"PoetFines", "fault", "()I"⟩ ⟨"PoetFines", "fault", "()I"⟩ ∈ kG := kG_of kch2 187 rfl rfl
theorem cv_L_130 : kCv "PoetFinesLaw" 130 ky_P_fault prog_1_method_4_code 1 (some .int) 0 "PoetFines" := ⟨⟨wl_536, wl_112, wl_539, ⟨by decide, by decide⟩, by decide +kernel⟩, wl_537, wl_538⟩
theorem wl_1885 : Cond.methodLink "PoetFinesLaw" 133 ⟨"PoetFinesModel", "fault", "()I"⟩ ∈ kG := kG_of kch8 94 rfl rfl
theorem wl_1888 : Cond.code ⟨"PoetFinesModel", "fault", "()I"⟩ prog_14_method_40_code 1 (some .int) ∈ kG := kG_of kch8 97 rfl rfl
theorem wl_1886 : Cond.instanceMethod ⟨"PoetFinesModel", "fault", "()I"⟩ ∈ kG := kG_of kch8 95 rfl rfl
theorem wl_1887 : Cond.selects "PoetFinesModel" ⟨"PoetFinesModel", "fault", "()I"⟩ ⟨"PoetFinesModel", "fault", "()I"⟩ ∈ kG := kG_of kch8 96 rfl rfl
theorem cv_L_133 : kCv "PoetFinesLaw" 133 ky_M_fault prog_14_method_40_code 1 (some .int) 0 "PoetFinesModel" := ⟨⟨wl_1885, wl_123, wl_1888, ⟨by decide, by decide⟩, by decide +kernel⟩, wl_1886, wl_1887⟩
def dl_K_2 : List (Nat × Instr × Nat) := [(337, .aload_n 1, 1), (338, .invokevirtual 130, 3), (341, .aload_n 2, 1), (342, .invokevirtual 133, 3), (345, .if_icmp .eq 2146, 3), (348, .iconst 0, 1), (349, .ireturn, 1)]
theorem dc_K_2 : kdecs code dl_K_2 = true := by decide +kernel
theorem wl_1068 : Cond.codeWith ky_L_count method_4_code 4 (some .int) [(0, 9, 12, 18)] ∈ kG := kG_of kch4 237 rfl rfl
theorem wl_1066 : Cond.methodLink "PoetFinesLaw" 134 ⟨"PoetFinesLaw", "count", "(LPoetFines;I[J)I"⟩ ∈ kG := kG_of kch4 235 rfl rfl
theorem wl_1067 : Cond.static ⟨"PoetFinesLaw", "count", "(LPoetFines;I[J)I"⟩ ∈ kG := kG_of kch4 236 rfl rfl
theorem ch_L_134 : kCh "PoetFinesLaw" 134 ky_L_count method_4_code 4 [(0, 9, 12, 18)] 3 := ⟨wl_1066, wl_111, wl_1068, ⟨by decide, by decide⟩, by decide +kernel, wl_1067⟩
theorem wl_1893 : Cond.methodLink "PoetFinesLaw" 136 ⟨"PoetFinesModel", "count", "(I)I"⟩ ∈ kG := kG_of kch8 102 rfl rfl
theorem wl_1896 : Cond.code ⟨"PoetFinesModel", "count", "(I)I"⟩ prog_14_method_61_code 2 (some .int) ∈ kG := kG_of kch8 105 rfl rfl
theorem wl_1894 : Cond.instanceMethod ⟨"PoetFinesModel", "count", "(I)I"⟩ ∈ kG := kG_of kch8 103 rfl rfl
theorem wl_1895 : Cond.selects "PoetFinesModel" ⟨"PoetFinesModel", "count", "(I)I"⟩ ⟨"PoetFinesModel", "count", "(I)I"⟩ ∈ kG := kG_of kch8 104 rfl rfl
theorem cv_L_136 : kCv "PoetFinesLaw" 136 ky_M_count prog_14_method_61_code 2 (some .int) 1 "PoetFinesModel" := ⟨⟨wl_1893, wl_123, wl_1896, ⟨by decide, by decide⟩, by decide +kernel⟩, wl_1894, wl_1895⟩
def dl_K_3 : List (Nat × Instr × Nat) := [(350, .aload_n 1, 1), (351, .aload_n 0, 1), (352, .iload 4, 2), (354, .iconst 1, 1), (355, .iadd, 1), (356, .iaload, 1), (357, .aload_n 3, 1), (358, .invokestatic 134, 3), (361, .istore 5, 2), (363, .aload_n 2, 1), (364, .aload_n 0, 1), (365, .iload 4, 2), (367, .iconst 1, 1), (368, .iadd, 1), (369, .iaload, 1), (370, .invokevirtual 136, 3), (373, .istore 6, 2), (375, .aload_n 2, 1), (376, .invokevirtual 126, 3), (379, .iload 5, 2), (381, .if_icmp .eq 5, 3), (384, .iconst 0, 1), (385, .ireturn, 1), (386, .iload 5, 2), (388, .ifCond .ne 15, 3), (391, .aload_n 3, 1), (392, .iconst 0, 1), (393, .laload, 1), (394, .iload 6, 2), (396, .i2l, 1), (397, .lcmp, 1), (398, .ifCond .eq 5, 3), (401, .iconst 0, 1), (402, .ireturn, 1), (403, .goto 2088, 3)]
theorem dc_K_3 : kdecs code dl_K_3 = true := by decide +kernel
theorem wl_1104 : Cond.codeWith ky_L_person method_5_code 5 (some .int) [(0, 10, 13, 18)] ∈ kG := kG_of kch5 33 rfl rfl
theorem wl_1102 : Cond.methodLink "PoetFinesLaw" 137 ⟨"PoetFinesLaw", "person", "(LPoetFines;II[J)I"⟩ ∈ kG := kG_of kch5 31 rfl rfl
theorem wl_1103 : Cond.static ⟨"PoetFinesLaw", "person", "(LPoetFines;II[J)I"⟩ ∈ kG := kG_of kch5 32 rfl rfl
theorem ch_L_137 : kCh "PoetFinesLaw" 137 ky_L_person method_5_code 5 [(0, 10, 13, 18)] 4 := ⟨wl_1102, wl_111, wl_1104, ⟨by decide, by decide⟩, by decide +kernel, wl_1103⟩
theorem wl_1912 : Cond.methodLink "PoetFinesLaw" 140 ⟨"PoetFinesModel", "person", "(II)I"⟩ ∈ kG := kG_of kch8 121 rfl rfl
theorem wl_1915 : Cond.code ⟨"PoetFinesModel", "person", "(II)I"⟩ prog_14_method_68_code 3 (some .int) ∈ kG := kG_of kch8 124 rfl rfl
theorem wl_1913 : Cond.instanceMethod ⟨"PoetFinesModel", "person", "(II)I"⟩ ∈ kG := kG_of kch8 122 rfl rfl
theorem wl_1914 : Cond.selects "PoetFinesModel" ⟨"PoetFinesModel", "person", "(II)I"⟩ ⟨"PoetFinesModel", "person", "(II)I"⟩ ∈ kG := kG_of kch8 123 rfl rfl
theorem cv_L_140 : kCv "PoetFinesLaw" 140 ky_M_person prog_14_method_68_code 3 (some .int) 2 "PoetFinesModel" := ⟨⟨wl_1912, wl_123, wl_1915, ⟨by decide, by decide⟩, by decide +kernel⟩, wl_1913, wl_1914⟩
def dl_K_4 : List (Nat × Instr × Nat) := [(406, .aload_n 1, 1), (407, .aload_n 0, 1), (408, .iload 4, 2), (410, .iconst 1, 1), (411, .iadd, 1), (412, .iaload, 1), (413, .aload_n 0, 1), (414, .iload 4, 2), (416, .iconst 2, 1), (417, .iadd, 1), (418, .iaload, 1), (419, .aload_n 3, 1), (420, .invokestatic 137, 3), (423, .istore 5, 2), (425, .aload_n 2, 1), (426, .aload_n 0, 1), (427, .iload 4, 2), (429, .iconst 1, 1), (430, .iadd, 1), (431, .iaload, 1), (432, .aload_n 0, 1), (433, .iload 4, 2), (435, .iconst 2, 1), (436, .iadd, 1), (437, .iaload, 1), (438, .invokevirtual 140, 3), (441, .istore 6, 2), (443, .aload_n 2, 1), (444, .invokevirtual 126, 3), (447, .iload 5, 2), (449, .if_icmp .eq 5, 3), (452, .iconst 0, 1), (453, .ireturn, 1), (454, .iload 5, 2), (456, .ifCond .ne 15, 3), (459, .aload_n 3, 1), (460, .iconst 0, 1), (461, .laload, 1), (462, .iload 6, 2), (464, .i2l, 1), (465, .lcmp, 1), (466, .ifCond .eq 5, 3), (469, .iconst 0, 1), (470, .ireturn, 1), (471, .goto 2020, 3)]
theorem dc_K_4 : kdecs code dl_K_4 = true := by decide +kernel
theorem wl_1127 : Cond.codeWith ky_L_poet method_6_code 5 (some .int) [(0, 10, 13, 18)] ∈ kG := kG_of kch5 56 rfl rfl
theorem wl_1125 : Cond.methodLink "PoetFinesLaw" 141 ⟨"PoetFinesLaw", "poet", "(LPoetFines;II[J)I"⟩ ∈ kG := kG_of kch5 54 rfl rfl
theorem wl_1126 : Cond.static ⟨"PoetFinesLaw", "poet", "(LPoetFines;II[J)I"⟩ ∈ kG := kG_of kch5 55 rfl rfl
theorem ch_L_141 : kCh "PoetFinesLaw" 141 ky_L_poet method_6_code 5 [(0, 10, 13, 18)] 4 := ⟨wl_1125, wl_111, wl_1127, ⟨by decide, by decide⟩, by decide +kernel, wl_1126⟩
theorem wl_1924 : Cond.methodLink "PoetFinesLaw" 143 ⟨"PoetFinesModel", "poet", "(II)I"⟩ ∈ kG := kG_of kch8 133 rfl rfl
theorem wl_1927 : Cond.code ⟨"PoetFinesModel", "poet", "(II)I"⟩ prog_14_method_70_code 3 (some .int) ∈ kG := kG_of kch8 136 rfl rfl
theorem wl_1925 : Cond.instanceMethod ⟨"PoetFinesModel", "poet", "(II)I"⟩ ∈ kG := kG_of kch8 134 rfl rfl
theorem wl_1926 : Cond.selects "PoetFinesModel" ⟨"PoetFinesModel", "poet", "(II)I"⟩ ⟨"PoetFinesModel", "poet", "(II)I"⟩ ∈ kG := kG_of kch8 135 rfl rfl
theorem cv_L_143 : kCv "PoetFinesLaw" 143 ky_M_poet prog_14_method_70_code 3 (some .int) 2 "PoetFinesModel" := ⟨⟨wl_1924, wl_123, wl_1927, ⟨by decide, by decide⟩, by decide +kernel⟩, wl_1925, wl_1926⟩
def dl_K_5 : List (Nat × Instr × Nat) := [(474, .aload_n 1, 1), (475, .aload_n 0, 1), (476, .iload 4, 2), (478, .iconst 1, 1), (479, .iadd, 1), (480, .iaload, 1), (481, .aload_n 0, 1), (482, .iload 4, 2), (484, .iconst 2, 1), (485, .iadd, 1), (486, .iaload, 1), (487, .aload_n 3, 1), (488, .invokestatic 141, 3), (491, .istore 5, 2), (493, .aload_n 2, 1), (494, .aload_n 0, 1), (495, .iload 4, 2), (497, .iconst 1, 1), (498, .iadd, 1), (499, .iaload, 1), (500, .aload_n 0, 1), (501, .iload 4, 2), (503, .iconst 2, 1), (504, .iadd, 1), (505, .iaload, 1), (506, .invokevirtual 143, 3), (509, .istore 6, 2), (511, .aload_n 2, 1), (512, .invokevirtual 126, 3), (515, .iload 5, 2), (517, .if_icmp .eq 5, 3), (520, .iconst 0, 1), (521, .ireturn, 1), (522, .iload 5, 2), (524, .ifCond .ne 15, 3), (527, .aload_n 3, 1), (528, .iconst 0, 1), (529, .laload, 1), (530, .iload 6, 2), (532, .i2l, 1), (533, .lcmp, 1), (534, .ifCond .eq 5, 3), (537, .iconst 0, 1), (538, .ireturn, 1), (539, .goto 1952, 3)]
theorem dc_K_5 : kdecs code dl_K_5 = true := by decide +kernel
theorem wl_1150 : Cond.codeWith ky_L_line method_7_code 6 (some .int) [(0, 12, 15, 18)] ∈ kG := kG_of kch5 79 rfl rfl
theorem wl_1148 : Cond.methodLink "PoetFinesLaw" 144 ⟨"PoetFinesLaw", "line", "(LPoetFines;III[J)I"⟩ ∈ kG := kG_of kch5 77 rfl rfl
theorem wl_1149 : Cond.static ⟨"PoetFinesLaw", "line", "(LPoetFines;III[J)I"⟩ ∈ kG := kG_of kch5 78 rfl rfl
theorem ch_L_144 : kCh "PoetFinesLaw" 144 ky_L_line method_7_code 6 [(0, 12, 15, 18)] 5 := ⟨wl_1148, wl_111, wl_1150, ⟨by decide, by decide⟩, by decide +kernel, wl_1149⟩
theorem wl_1969 : Cond.methodLink "PoetFinesLaw" 147 ⟨"PoetFinesModel", "line", "(III)I"⟩ ∈ kG := kG_of kch8 178 rfl rfl
theorem wl_1972 : Cond.code ⟨"PoetFinesModel", "line", "(III)I"⟩ prog_14_method_74_code 4 (some .int) ∈ kG := kG_of kch8 181 rfl rfl
theorem wl_1970 : Cond.instanceMethod ⟨"PoetFinesModel", "line", "(III)I"⟩ ∈ kG := kG_of kch8 179 rfl rfl
theorem wl_1971 : Cond.selects "PoetFinesModel" ⟨"PoetFinesModel", "line", "(III)I"⟩ ⟨"PoetFinesModel", "line", "(III)I"⟩ ∈ kG := kG_of kch8 180 rfl rfl
theorem cv_L_147 : kCv "PoetFinesLaw" 147 ky_M_line prog_14_method_74_code 4 (some .int) 3 "PoetFinesModel" := ⟨⟨wl_1969, wl_123, wl_1972, ⟨by decide, by decide⟩, by decide +kernel⟩, wl_1970, wl_1971⟩
def dl_K_6 : List (Nat × Instr × Nat) := [(542, .aload_n 1, 1), (543, .aload_n 0, 1), (544, .iload 4, 2), (546, .iconst 1, 1), (547, .iadd, 1), (548, .iaload, 1), (549, .aload_n 0, 1), (550, .iload 4, 2), (552, .iconst 2, 1), (553, .iadd, 1), (554, .iaload, 1), (555, .aload_n 0, 1), (556, .iload 4, 2), (558, .iconst 3, 1), (559, .iadd, 1), (560, .iaload, 1), (561, .aload_n 3, 1), (562, .invokestatic 144, 3), (565, .istore 5, 2), (567, .aload_n 2, 1), (568, .aload_n 0, 1), (569, .iload 4, 2), (571, .iconst 1, 1), (572, .iadd, 1), (573, .iaload, 1), (574, .aload_n 0, 1), (575, .iload 4, 2), (577, .iconst 2, 1), (578, .iadd, 1), (579, .iaload, 1), (580, .aload_n 0, 1), (581, .iload 4, 2), (583, .iconst 3, 1), (584, .iadd, 1), (585, .iaload, 1), (586, .invokevirtual 147, 3), (589, .istore 6, 2), (591, .aload_n 2, 1), (592, .invokevirtual 126, 3), (595, .iload 5, 2), (597, .if_icmp .eq 5, 3), (600, .iconst 0, 1), (601, .ireturn, 1), (602, .iload 5, 2), (604, .ifCond .ne 15, 3), (607, .aload_n 3, 1), (608, .iconst 0, 1), (609, .laload, 1), (610, .iload 6, 2), (612, .i2l, 1), (613, .lcmp, 1), (614, .ifCond .eq 5, 3), (617, .iconst 0, 1), (618, .ireturn, 1), (619, .goto 1872, 3)]
theorem dc_K_6 : kdecs code dl_K_6 = true := by decide +kernel
theorem wl_540 : Cond.methodLink "PoetFinesLaw" 148 ⟨"PoetFines", "years", "(I)I"⟩ ∈ kG := kG_of kch2 189 rfl rfl
theorem wl_543 : Cond.code ⟨"PoetFines", "years", "(I)I"⟩ prog_1_method_9_code 4 (some .int) ∈ kG := kG_of kch2 192 rfl rfl
theorem wl_541 : Cond.instanceMethod ⟨"PoetFines", "years", "(I)I"⟩ ∈ kG := kG_of kch2 190 rfl rfl
theorem wl_542 : Cond.selects "PoetFines" ⟨"PoetFines", "years", "(I)I"⟩ ⟨"PoetFines", "years", "(I)I"⟩ ∈ kG := kG_of kch2 191 rfl rfl
theorem cv_L_148 : kCv "PoetFinesLaw" 148 ky_P_years prog_1_method_9_code 4 (some .int) 1 "PoetFines" := ⟨⟨wl_540, wl_112, wl_543, ⟨by decide, by decide⟩, by decide +kernel⟩, wl_541, wl_542⟩
theorem wl_1997 : Cond.methodLink "PoetFinesLaw" 151 ⟨"PoetFinesModel", "years", "(I)I"⟩ ∈ kG := kG_of kch8 206 rfl rfl
theorem wl_2000 : Cond.code ⟨"PoetFinesModel", "years", "(I)I"⟩ prog_14_method_75_code 3 (some .int) ∈ kG := kG_of kch8 209 rfl rfl
theorem wl_1998 : Cond.instanceMethod ⟨"PoetFinesModel", "years", "(I)I"⟩ ∈ kG := kG_of kch8 207 rfl rfl
theorem wl_1999 : Cond.selects "PoetFinesModel" ⟨"PoetFinesModel", "years", "(I)I"⟩ ⟨"PoetFinesModel", "years", "(I)I"⟩ ∈ kG := kG_of kch8 208 rfl rfl
theorem cv_L_151 : kCv "PoetFinesLaw" 151 ky_M_years prog_14_method_75_code 3 (some .int) 1 "PoetFinesModel" := ⟨⟨wl_1997, wl_123, wl_2000, ⟨by decide, by decide⟩, by decide +kernel⟩, wl_1998, wl_1999⟩
def dl_K_7 : List (Nat × Instr × Nat) := [(622, .aload_n 1, 1), (623, .aload_n 0, 1), (624, .iload 4, 2), (626, .iconst 1, 1), (627, .iadd, 1), (628, .iaload, 1), (629, .invokevirtual 148, 3), (632, .aload_n 2, 1), (633, .aload_n 0, 1), (634, .iload 4, 2), (636, .iconst 1, 1), (637, .iadd, 1), (638, .iaload, 1), (639, .invokevirtual 151, 3), (642, .if_icmp .eq 1849, 3), (645, .iconst 0, 1), (646, .ireturn, 1)]
theorem dc_K_7 : kdecs code dl_K_7 = true := by decide +kernel
theorem wl_1178 : Cond.codeWith ky_L_burn method_8_code 4 (some .int) [(0, 9, 12, 18)] ∈ kG := kG_of kch5 107 rfl rfl
theorem wl_1176 : Cond.methodLink "PoetFinesLaw" 152 ⟨"PoetFinesLaw", "burn", "(LPoetFines;I[J)I"⟩ ∈ kG := kG_of kch5 105 rfl rfl
theorem wl_1177 : Cond.static ⟨"PoetFinesLaw", "burn", "(LPoetFines;I[J)I"⟩ ∈ kG := kG_of kch5 106 rfl rfl
theorem ch_L_152 : kCh "PoetFinesLaw" 152 ky_L_burn method_8_code 4 [(0, 9, 12, 18)] 3 := ⟨wl_1176, wl_111, wl_1178, ⟨by decide, by decide⟩, by decide +kernel, wl_1177⟩
theorem wl_2021 : Cond.methodLink "PoetFinesLaw" 154 ⟨"PoetFinesModel", "burn", "(I)I"⟩ ∈ kG := kG_of kch8 230 rfl rfl
theorem wl_2024 : Cond.code ⟨"PoetFinesModel", "burn", "(I)I"⟩ prog_14_method_77_code 3 (some .int) ∈ kG := kG_of kch8 233 rfl rfl
theorem wl_2022 : Cond.instanceMethod ⟨"PoetFinesModel", "burn", "(I)I"⟩ ∈ kG := kG_of kch8 231 rfl rfl
theorem wl_2023 : Cond.selects "PoetFinesModel" ⟨"PoetFinesModel", "burn", "(I)I"⟩ ⟨"PoetFinesModel", "burn", "(I)I"⟩ ∈ kG := kG_of kch8 232 rfl rfl
theorem cv_L_154 : kCv "PoetFinesLaw" 154 ky_M_burn prog_14_method_77_code 3 (some .int) 1 "PoetFinesModel" := ⟨⟨wl_2021, wl_123, wl_2024, ⟨by decide, by decide⟩, by decide +kernel⟩, wl_2022, wl_2023⟩
def dl_K_8 : List (Nat × Instr × Nat) := [(647, .aload_n 1, 1), (648, .aload_n 0, 1), (649, .iload 4, 2), (651, .iconst 1, 1), (652, .iadd, 1), (653, .iaload, 1), (654, .aload_n 3, 1), (655, .invokestatic 152, 3), (658, .istore 5, 2), (660, .aload_n 2, 1), (661, .aload_n 0, 1), (662, .iload 4, 2), (664, .iconst 1, 1), (665, .iadd, 1), (666, .iaload, 1), (667, .invokevirtual 154, 3), (670, .istore 6, 2), (672, .aload_n 2, 1), (673, .invokevirtual 126, 3), (676, .iload 5, 2), (678, .if_icmp .eq 5, 3), (681, .iconst 0, 1), (682, .ireturn, 1), (683, .iload 5, 2), (685, .ifCond .ne 15, 3), (688, .aload_n 3, 1), (689, .iconst 0, 1), (690, .laload, 1), (691, .iload 6, 2), (693, .i2l, 1), (694, .lcmp, 1), (695, .ifCond .eq 5, 3), (698, .iconst 0, 1), (699, .ireturn, 1), (700, .goto 1791, 3)]
theorem dc_K_8 : kdecs code dl_K_8 = true := by decide +kernel
theorem wl_1186 : Cond.codeWith ky_L_rewrite method_9_code 6 (some .int) [(0, 12, 15, 18)] ∈ kG := kG_of kch5 115 rfl rfl
theorem wl_1184 : Cond.methodLink "PoetFinesLaw" 155 ⟨"PoetFinesLaw", "rewrite", "(LPoetFines;III[J)I"⟩ ∈ kG := kG_of kch5 113 rfl rfl
theorem wl_1185 : Cond.static ⟨"PoetFinesLaw", "rewrite", "(LPoetFines;III[J)I"⟩ ∈ kG := kG_of kch5 114 rfl rfl
theorem ch_L_155 : kCh "PoetFinesLaw" 155 ky_L_rewrite method_9_code 6 [(0, 12, 15, 18)] 5 := ⟨wl_1184, wl_111, wl_1186, ⟨by decide, by decide⟩, by decide +kernel, wl_1185⟩
theorem wl_2029 : Cond.methodLink "PoetFinesLaw" 157 ⟨"PoetFinesModel", "rewrite", "(III)I"⟩ ∈ kG := kG_of kch8 238 rfl rfl
theorem wl_2032 : Cond.code ⟨"PoetFinesModel", "rewrite", "(III)I"⟩ prog_14_method_79_code 4 (some .int) ∈ kG := kG_of kch9 1 rfl rfl
theorem wl_2030 : Cond.instanceMethod ⟨"PoetFinesModel", "rewrite", "(III)I"⟩ ∈ kG := kG_of kch8 239 rfl rfl
theorem wl_2031 : Cond.selects "PoetFinesModel" ⟨"PoetFinesModel", "rewrite", "(III)I"⟩ ⟨"PoetFinesModel", "rewrite", "(III)I"⟩ ∈ kG := kG_of kch9 0 rfl rfl
theorem cv_L_157 : kCv "PoetFinesLaw" 157 ky_M_rewrite prog_14_method_79_code 4 (some .int) 3 "PoetFinesModel" := ⟨⟨wl_2029, wl_123, wl_2032, ⟨by decide, by decide⟩, by decide +kernel⟩, wl_2030, wl_2031⟩
def dl_K_9 : List (Nat × Instr × Nat) := [(703, .aload_n 1, 1), (704, .aload_n 0, 1), (705, .iload 4, 2), (707, .iconst 1, 1), (708, .iadd, 1), (709, .iaload, 1), (710, .aload_n 0, 1), (711, .iload 4, 2), (713, .iconst 2, 1), (714, .iadd, 1), (715, .iaload, 1), (716, .aload_n 0, 1), (717, .iload 4, 2), (719, .iconst 3, 1), (720, .iadd, 1), (721, .iaload, 1), (722, .aload_n 3, 1), (723, .invokestatic 155, 3), (726, .istore 5, 2), (728, .aload_n 2, 1), (729, .aload_n 0, 1), (730, .iload 4, 2), (732, .iconst 1, 1), (733, .iadd, 1), (734, .iaload, 1), (735, .aload_n 0, 1), (736, .iload 4, 2), (738, .iconst 2, 1), (739, .iadd, 1), (740, .iaload, 1), (741, .aload_n 0, 1), (742, .iload 4, 2), (744, .iconst 3, 1), (745, .iadd, 1), (746, .iaload, 1), (747, .invokevirtual 157, 3), (750, .istore 6, 2), (752, .aload_n 2, 1), (753, .invokevirtual 126, 3), (756, .iload 5, 2), (758, .if_icmp .eq 5, 3), (761, .iconst 0, 1), (762, .ireturn, 1), (763, .iload 5, 2), (765, .ifCond .ne 15, 3), (768, .aload_n 3, 1), (769, .iconst 0, 1), (770, .laload, 1), (771, .iload 6, 2), (773, .i2l, 1), (774, .lcmp, 1), (775, .ifCond .eq 5, 3), (778, .iconst 0, 1), (779, .ireturn, 1), (780, .goto 1711, 3)]
theorem dc_K_9 : kdecs code dl_K_9 = true := by decide +kernel
theorem wl_1194 : Cond.codeWith ky_L_pardon method_10_code 4 (some .int) [(0, 9, 12, 18)] ∈ kG := kG_of kch5 123 rfl rfl
theorem wl_1192 : Cond.methodLink "PoetFinesLaw" 158 ⟨"PoetFinesLaw", "pardon", "(LPoetFines;I[J)I"⟩ ∈ kG := kG_of kch5 121 rfl rfl
theorem wl_1193 : Cond.static ⟨"PoetFinesLaw", "pardon", "(LPoetFines;I[J)I"⟩ ∈ kG := kG_of kch5 122 rfl rfl
theorem ch_L_158 : kCh "PoetFinesLaw" 158 ky_L_pardon method_10_code 4 [(0, 9, 12, 18)] 3 := ⟨wl_1192, wl_111, wl_1194, ⟨by decide, by decide⟩, by decide +kernel, wl_1193⟩
theorem wl_2037 : Cond.methodLink "PoetFinesLaw" 160 ⟨"PoetFinesModel", "pardon", "(I)I"⟩ ∈ kG := kG_of kch9 6 rfl rfl
theorem wl_2040 : Cond.code ⟨"PoetFinesModel", "pardon", "(I)I"⟩ prog_14_method_80_code 2 (some .int) ∈ kG := kG_of kch9 9 rfl rfl
theorem wl_2038 : Cond.instanceMethod ⟨"PoetFinesModel", "pardon", "(I)I"⟩ ∈ kG := kG_of kch9 7 rfl rfl
theorem wl_2039 : Cond.selects "PoetFinesModel" ⟨"PoetFinesModel", "pardon", "(I)I"⟩ ⟨"PoetFinesModel", "pardon", "(I)I"⟩ ∈ kG := kG_of kch9 8 rfl rfl
theorem cv_L_160 : kCv "PoetFinesLaw" 160 ky_M_pardon prog_14_method_80_code 2 (some .int) 1 "PoetFinesModel" := ⟨⟨wl_2037, wl_123, wl_2040, ⟨by decide, by decide⟩, by decide +kernel⟩, wl_2038, wl_2039⟩
def dl_K_10 : List (Nat × Instr × Nat) := [(783, .aload_n 1, 1), (784, .aload_n 0, 1), (785, .iload 4, 2), (787, .iconst 1, 1), (788, .iadd, 1), (789, .iaload, 1), (790, .aload_n 3, 1), (791, .invokestatic 158, 3), (794, .istore 5, 2), (796, .aload_n 2, 1), (797, .aload_n 0, 1), (798, .iload 4, 2), (800, .iconst 1, 1), (801, .iadd, 1), (802, .iaload, 1), (803, .invokevirtual 160, 3), (806, .istore 6, 2), (808, .aload_n 2, 1), (809, .invokevirtual 126, 3), (812, .iload 5, 2), (814, .if_icmp .eq 5, 3), (817, .iconst 0, 1), (818, .ireturn, 1), (819, .iload 5, 2), (821, .ifCond .ne 15, 3), (824, .aload_n 3, 1), (825, .iconst 0, 1), (826, .laload, 1), (827, .iload 6, 2), (829, .i2l, 1), (830, .lcmp, 1), (831, .ifCond .eq 5, 3), (834, .iconst 0, 1), (835, .ireturn, 1), (836, .goto 1655, 3)]
theorem dc_K_10 : kdecs code dl_K_10 = true := by decide +kernel
theorem wl_1201 : Cond.codeWith ky_L_fill method_11_code 5 (some .int) [(0, 10, 13, 18)] ∈ kG := kG_of kch5 130 rfl rfl
theorem wl_1199 : Cond.methodLink "PoetFinesLaw" 161 ⟨"PoetFinesLaw", "fill", "(LPoetFines;II[J)I"⟩ ∈ kG := kG_of kch5 128 rfl rfl
theorem wl_1200 : Cond.static ⟨"PoetFinesLaw", "fill", "(LPoetFines;II[J)I"⟩ ∈ kG := kG_of kch5 129 rfl rfl
theorem ch_L_161 : kCh "PoetFinesLaw" 161 ky_L_fill method_11_code 5 [(0, 10, 13, 18)] 4 := ⟨wl_1199, wl_111, wl_1201, ⟨by decide, by decide⟩, by decide +kernel, wl_1200⟩
theorem wl_2041 : Cond.methodLink "PoetFinesLaw" 163 ⟨"PoetFinesModel", "fill", "(II)I"⟩ ∈ kG := kG_of kch9 10 rfl rfl
theorem wl_2044 : Cond.code ⟨"PoetFinesModel", "fill", "(II)I"⟩ prog_14_method_81_code 3 (some .int) ∈ kG := kG_of kch9 13 rfl rfl
theorem wl_2042 : Cond.instanceMethod ⟨"PoetFinesModel", "fill", "(II)I"⟩ ∈ kG := kG_of kch9 11 rfl rfl
theorem wl_2043 : Cond.selects "PoetFinesModel" ⟨"PoetFinesModel", "fill", "(II)I"⟩ ⟨"PoetFinesModel", "fill", "(II)I"⟩ ∈ kG := kG_of kch9 12 rfl rfl
theorem cv_L_163 : kCv "PoetFinesLaw" 163 ky_M_fill prog_14_method_81_code 3 (some .int) 2 "PoetFinesModel" := ⟨⟨wl_2041, wl_123, wl_2044, ⟨by decide, by decide⟩, by decide +kernel⟩, wl_2042, wl_2043⟩
def dl_K_11 : List (Nat × Instr × Nat) := [(839, .aload_n 1, 1), (840, .aload_n 0, 1), (841, .iload 4, 2), (843, .iconst 1, 1), (844, .iadd, 1), (845, .iaload, 1), (846, .aload_n 0, 1), (847, .iload 4, 2), (849, .iconst 2, 1), (850, .iadd, 1), (851, .iaload, 1), (852, .aload_n 3, 1), (853, .invokestatic 161, 3), (856, .istore 5, 2), (858, .aload_n 2, 1), (859, .aload_n 0, 1), (860, .iload 4, 2), (862, .iconst 1, 1), (863, .iadd, 1), (864, .iaload, 1), (865, .aload_n 0, 1), (866, .iload 4, 2), (868, .iconst 2, 1), (869, .iadd, 1), (870, .iaload, 1), (871, .invokevirtual 163, 3), (874, .istore 6, 2), (876, .aload_n 2, 1), (877, .invokevirtual 126, 3), (880, .iload 5, 2), (882, .if_icmp .eq 5, 3), (885, .iconst 0, 1), (886, .ireturn, 1), (887, .iload 5, 2), (889, .ifCond .ne 15, 3), (892, .aload_n 3, 1), (893, .iconst 0, 1), (894, .laload, 1), (895, .iload 6, 2), (897, .i2l, 1), (898, .lcmp, 1), (899, .ifCond .eq 5, 3), (902, .iconst 0, 1), (903, .ireturn, 1), (904, .goto 1587, 3)]
theorem dc_K_11 : kdecs code dl_K_11 = true := by decide +kernel
theorem wl_1208 : Cond.codeWith ky_L_heal method_12_code 4 (some .int) [(0, 9, 12, 18)] ∈ kG := kG_of kch5 137 rfl rfl
theorem wl_1206 : Cond.methodLink "PoetFinesLaw" 164 ⟨"PoetFinesLaw", "heal", "(LPoetFines;I[J)I"⟩ ∈ kG := kG_of kch5 135 rfl rfl
theorem wl_1207 : Cond.static ⟨"PoetFinesLaw", "heal", "(LPoetFines;I[J)I"⟩ ∈ kG := kG_of kch5 136 rfl rfl
theorem ch_L_164 : kCh "PoetFinesLaw" 164 ky_L_heal method_12_code 4 [(0, 9, 12, 18)] 3 := ⟨wl_1206, wl_111, wl_1208, ⟨by decide, by decide⟩, by decide +kernel, wl_1207⟩
theorem wl_2045 : Cond.methodLink "PoetFinesLaw" 166 ⟨"PoetFinesModel", "heal", "(I)I"⟩ ∈ kG := kG_of kch9 14 rfl rfl
theorem wl_2048 : Cond.code ⟨"PoetFinesModel", "heal", "(I)I"⟩ prog_14_method_82_code 2 (some .int) ∈ kG := kG_of kch9 17 rfl rfl
theorem wl_2046 : Cond.instanceMethod ⟨"PoetFinesModel", "heal", "(I)I"⟩ ∈ kG := kG_of kch9 15 rfl rfl
theorem wl_2047 : Cond.selects "PoetFinesModel" ⟨"PoetFinesModel", "heal", "(I)I"⟩ ⟨"PoetFinesModel", "heal", "(I)I"⟩ ∈ kG := kG_of kch9 16 rfl rfl
theorem cv_L_166 : kCv "PoetFinesLaw" 166 ky_M_heal prog_14_method_82_code 2 (some .int) 1 "PoetFinesModel" := ⟨⟨wl_2045, wl_123, wl_2048, ⟨by decide, by decide⟩, by decide +kernel⟩, wl_2046, wl_2047⟩
def dl_K_12 : List (Nat × Instr × Nat) := [(907, .aload_n 1, 1), (908, .aload_n 0, 1), (909, .iload 4, 2), (911, .iconst 1, 1), (912, .iadd, 1), (913, .iaload, 1), (914, .aload_n 3, 1), (915, .invokestatic 164, 3), (918, .istore 5, 2), (920, .aload_n 2, 1), (921, .aload_n 0, 1), (922, .iload 4, 2), (924, .iconst 1, 1), (925, .iadd, 1), (926, .iaload, 1), (927, .invokevirtual 166, 3), (930, .istore 6, 2), (932, .aload_n 2, 1), (933, .invokevirtual 126, 3), (936, .iload 5, 2), (938, .if_icmp .eq 5, 3), (941, .iconst 0, 1), (942, .ireturn, 1), (943, .iload 5, 2), (945, .ifCond .ne 15, 3), (948, .aload_n 3, 1), (949, .iconst 0, 1), (950, .laload, 1), (951, .iload 6, 2), (953, .i2l, 1), (954, .lcmp, 1), (955, .ifCond .eq 5, 3), (958, .iconst 0, 1), (959, .ireturn, 1), (960, .goto 1531, 3)]
theorem dc_K_12 : kdecs code dl_K_12 = true := by decide +kernel
theorem wl_650 : Cond.methodLink "PoetFinesLaw" 167 ⟨"PoetFines", "undo", "()I"⟩ ∈ kG := kG_of kch3 59 rfl rfl
theorem wl_653 : Cond.code ⟨"PoetFines", "undo", "()I"⟩ prog_1_method_15_code 1 (some .int) ∈ kG := kG_of kch3 62 rfl rfl
theorem wl_651 : Cond.instanceMethod ⟨"PoetFines", "undo", "()I"⟩ ∈ kG := kG_of kch3 60 rfl rfl
theorem wl_652 : Cond.selects "PoetFines" ⟨"PoetFines", "undo", "()I"⟩ ⟨"PoetFines", "undo", "()I"⟩ ∈ kG := kG_of kch3 61 rfl rfl
theorem cv_L_167 : kCv "PoetFinesLaw" 167 ky_P_undo prog_1_method_15_code 1 (some .int) 0 "PoetFines" := ⟨⟨wl_650, wl_112, wl_653, ⟨by decide, by decide⟩, by decide +kernel⟩, wl_651, wl_652⟩
theorem wl_1889 : Cond.methodLink "PoetFinesLaw" 170 ⟨"PoetFinesModel", "undo", "()I"⟩ ∈ kG := kG_of kch8 98 rfl rfl
theorem wl_1892 : Cond.code ⟨"PoetFinesModel", "undo", "()I"⟩ prog_14_method_43_code 2 (some .int) ∈ kG := kG_of kch8 101 rfl rfl
theorem wl_1890 : Cond.instanceMethod ⟨"PoetFinesModel", "undo", "()I"⟩ ∈ kG := kG_of kch8 99 rfl rfl
theorem wl_1891 : Cond.selects "PoetFinesModel" ⟨"PoetFinesModel", "undo", "()I"⟩ ⟨"PoetFinesModel", "undo", "()I"⟩ ∈ kG := kG_of kch8 100 rfl rfl
theorem cv_L_170 : kCv "PoetFinesLaw" 170 ky_M_undo prog_14_method_43_code 2 (some .int) 0 "PoetFinesModel" := ⟨⟨wl_1889, wl_123, wl_1892, ⟨by decide, by decide⟩, by decide +kernel⟩, wl_1890, wl_1891⟩
def dl_K_13 : List (Nat × Instr × Nat) := [(963, .aload_n 1, 1), (964, .invokevirtual 167, 3), (967, .aload_n 2, 1), (968, .invokevirtual 170, 3), (971, .if_icmp .eq 1520, 3), (974, .iconst 0, 1), (975, .ireturn, 1)]
theorem dc_K_13 : kdecs code dl_K_13 = true := by decide +kernel
theorem wl_1215 : Cond.codeWith ky_L_then method_13_code 6 (some .int) [(0, 12, 15, 18), (0, 12, 19, 13)] ∈ kG := kG_of kch5 144 rfl rfl
theorem wl_1213 : Cond.methodLink "PoetFinesLaw" 171 ⟨"PoetFinesLaw", "then", "(LPoetFines;III[J)I"⟩ ∈ kG := kG_of kch5 142 rfl rfl
theorem wl_1214 : Cond.static ⟨"PoetFinesLaw", "then", "(LPoetFines;III[J)I"⟩ ∈ kG := kG_of kch5 143 rfl rfl
theorem ch_L_171 : kCh "PoetFinesLaw" 171 ky_L_then method_13_code 6 [(0, 12, 15, 18), (0, 12, 19, 13)] 5 := ⟨wl_1213, wl_111, wl_1215, ⟨by decide, by decide⟩, by decide +kernel, wl_1214⟩
theorem wl_2049 : Cond.methodLink "PoetFinesLaw" 173 ⟨"PoetFinesModel", "then", "(III)I"⟩ ∈ kG := kG_of kch9 18 rfl rfl
theorem wl_2052 : Cond.code ⟨"PoetFinesModel", "then", "(III)I"⟩ prog_14_method_83_code 4 (some .int) ∈ kG := kG_of kch9 21 rfl rfl
theorem wl_2050 : Cond.instanceMethod ⟨"PoetFinesModel", "then", "(III)I"⟩ ∈ kG := kG_of kch9 19 rfl rfl
theorem wl_2051 : Cond.selects "PoetFinesModel" ⟨"PoetFinesModel", "then", "(III)I"⟩ ⟨"PoetFinesModel", "then", "(III)I"⟩ ∈ kG := kG_of kch9 20 rfl rfl
theorem cv_L_173 : kCv "PoetFinesLaw" 173 ky_M_then prog_14_method_83_code 4 (some .int) 3 "PoetFinesModel" := ⟨⟨wl_2049, wl_123, wl_2052, ⟨by decide, by decide⟩, by decide +kernel⟩, wl_2050, wl_2051⟩
def dl_K_14 : List (Nat × Instr × Nat) := [(976, .aload_n 1, 1), (977, .aload_n 0, 1), (978, .iload 4, 2), (980, .iconst 1, 1), (981, .iadd, 1), (982, .iaload, 1), (983, .aload_n 0, 1), (984, .iload 4, 2), (986, .iconst 2, 1), (987, .iadd, 1), (988, .iaload, 1), (989, .aload_n 0, 1), (990, .iload 4, 2), (992, .iconst 3, 1), (993, .iadd, 1), (994, .iaload, 1), (995, .aload_n 3, 1), (996, .invokestatic 171, 3), (999, .istore 5, 2), (1001, .aload_n 2, 1), (1002, .aload_n 0, 1), (1003, .iload 4, 2), (1005, .iconst 1, 1), (1006, .iadd, 1), (1007, .iaload, 1), (1008, .aload_n 0, 1), (1009, .iload 4, 2), (1011, .iconst 2, 1), (1012, .iadd, 1), (1013, .iaload, 1), (1014, .aload_n 0, 1), (1015, .iload 4, 2), (1017, .iconst 3, 1), (1018, .iadd, 1), (1019, .iaload, 1), (1020, .invokevirtual 173, 3), (1023, .istore 6, 2), (1025, .aload_n 2, 1), (1026, .invokevirtual 126, 3), (1029, .iload 5, 2), (1031, .if_icmp .eq 5, 3), (1034, .iconst 0, 1), (1035, .ireturn, 1), (1036, .iload 5, 2), (1038, .ifCond .ne 15, 3), (1041, .aload_n 3, 1), (1042, .iconst 0, 1), (1043, .laload, 1), (1044, .iload 6, 2), (1046, .i2l, 1), (1047, .lcmp, 1), (1048, .ifCond .eq 5, 3), (1051, .iconst 0, 1), (1052, .ireturn, 1), (1053, .goto 1438, 3)]
theorem dc_K_14 : kdecs code dl_K_14 = true := by decide +kernel
theorem wl_1245 : Cond.codeWith ky_L_poetThen method_14_code 6 (some .int) [(0, 12, 15, 18), (0, 12, 19, 13)] ∈ kG := kG_of kch5 174 rfl rfl
theorem wl_1243 : Cond.methodLink "PoetFinesLaw" 174 ⟨"PoetFinesLaw", "poetThen", "(LPoetFines;III[J)I"⟩ ∈ kG := kG_of kch5 172 rfl rfl
theorem wl_1244 : Cond.static ⟨"PoetFinesLaw", "poetThen", "(LPoetFines;III[J)I"⟩ ∈ kG := kG_of kch5 173 rfl rfl
theorem ch_L_174 : kCh "PoetFinesLaw" 174 ky_L_poetThen method_14_code 6 [(0, 12, 15, 18), (0, 12, 19, 13)] 5 := ⟨wl_1243, wl_111, wl_1245, ⟨by decide, by decide⟩, by decide +kernel, wl_1244⟩
theorem wl_2069 : Cond.methodLink "PoetFinesLaw" 176 ⟨"PoetFinesModel", "poetThen", "(III)I"⟩ ∈ kG := kG_of kch9 38 rfl rfl
theorem wl_2072 : Cond.code ⟨"PoetFinesModel", "poetThen", "(III)I"⟩ prog_14_method_84_code 4 (some .int) ∈ kG := kG_of kch9 41 rfl rfl
theorem wl_2070 : Cond.instanceMethod ⟨"PoetFinesModel", "poetThen", "(III)I"⟩ ∈ kG := kG_of kch9 39 rfl rfl
theorem wl_2071 : Cond.selects "PoetFinesModel" ⟨"PoetFinesModel", "poetThen", "(III)I"⟩ ⟨"PoetFinesModel", "poetThen", "(III)I"⟩ ∈ kG := kG_of kch9 40 rfl rfl
theorem cv_L_176 : kCv "PoetFinesLaw" 176 ky_M_poetThen prog_14_method_84_code 4 (some .int) 3 "PoetFinesModel" := ⟨⟨wl_2069, wl_123, wl_2072, ⟨by decide, by decide⟩, by decide +kernel⟩, wl_2070, wl_2071⟩
def dl_K_15 : List (Nat × Instr × Nat) := [(1056, .aload_n 1, 1), (1057, .aload_n 0, 1), (1058, .iload 4, 2), (1060, .iconst 1, 1), (1061, .iadd, 1), (1062, .iaload, 1), (1063, .aload_n 0, 1), (1064, .iload 4, 2), (1066, .iconst 2, 1), (1067, .iadd, 1), (1068, .iaload, 1), (1069, .aload_n 0, 1), (1070, .iload 4, 2), (1072, .iconst 3, 1), (1073, .iadd, 1), (1074, .iaload, 1), (1075, .aload_n 3, 1), (1076, .invokestatic 174, 3), (1079, .istore 5, 2), (1081, .aload_n 2, 1), (1082, .aload_n 0, 1), (1083, .iload 4, 2), (1085, .iconst 1, 1), (1086, .iadd, 1), (1087, .iaload, 1), (1088, .aload_n 0, 1), (1089, .iload 4, 2), (1091, .iconst 2, 1), (1092, .iadd, 1), (1093, .iaload, 1), (1094, .aload_n 0, 1), (1095, .iload 4, 2), (1097, .iconst 3, 1), (1098, .iadd, 1), (1099, .iaload, 1), (1100, .invokevirtual 176, 3), (1103, .istore 6, 2), (1105, .aload_n 2, 1), (1106, .invokevirtual 126, 3), (1109, .iload 5, 2), (1111, .if_icmp .eq 5, 3), (1114, .iconst 0, 1), (1115, .ireturn, 1), (1116, .iload 5, 2), (1118, .ifCond .ne 15, 3), (1121, .aload_n 3, 1), (1122, .iconst 0, 1), (1123, .laload, 1), (1124, .iload 6, 2), (1126, .i2l, 1), (1127, .lcmp, 1), (1128, .ifCond .eq 5, 3), (1131, .iconst 0, 1), (1132, .ireturn, 1), (1133, .goto 1358, 3)]
theorem dc_K_15 : kdecs code dl_K_15 = true := by decide +kernel
theorem wl_1252 : Cond.codeWith ky_L_hurt method_15_code 5 (some .int) [(0, 10, 13, 18)] ∈ kG := kG_of kch5 181 rfl rfl
theorem wl_1250 : Cond.methodLink "PoetFinesLaw" 177 ⟨"PoetFinesLaw", "hurt", "(LPoetFines;II[J)I"⟩ ∈ kG := kG_of kch5 179 rfl rfl
theorem wl_1251 : Cond.static ⟨"PoetFinesLaw", "hurt", "(LPoetFines;II[J)I"⟩ ∈ kG := kG_of kch5 180 rfl rfl
theorem ch_L_177 : kCh "PoetFinesLaw" 177 ky_L_hurt method_15_code 5 [(0, 10, 13, 18)] 4 := ⟨wl_1250, wl_111, wl_1252, ⟨by decide, by decide⟩, by decide +kernel, wl_1251⟩
theorem wl_2073 : Cond.methodLink "PoetFinesLaw" 179 ⟨"PoetFinesModel", "hurt", "(II)I"⟩ ∈ kG := kG_of kch9 42 rfl rfl
theorem wl_2076 : Cond.code ⟨"PoetFinesModel", "hurt", "(II)I"⟩ prog_14_method_85_code 4 (some .int) ∈ kG := kG_of kch9 45 rfl rfl
theorem wl_2074 : Cond.instanceMethod ⟨"PoetFinesModel", "hurt", "(II)I"⟩ ∈ kG := kG_of kch9 43 rfl rfl
theorem wl_2075 : Cond.selects "PoetFinesModel" ⟨"PoetFinesModel", "hurt", "(II)I"⟩ ⟨"PoetFinesModel", "hurt", "(II)I"⟩ ∈ kG := kG_of kch9 44 rfl rfl
theorem cv_L_179 : kCv "PoetFinesLaw" 179 ky_M_hurt prog_14_method_85_code 4 (some .int) 2 "PoetFinesModel" := ⟨⟨wl_2073, wl_123, wl_2076, ⟨by decide, by decide⟩, by decide +kernel⟩, wl_2074, wl_2075⟩
def dl_K_16 : List (Nat × Instr × Nat) := [(1136, .aload_n 1, 1), (1137, .aload_n 0, 1), (1138, .iload 4, 2), (1140, .iconst 1, 1), (1141, .iadd, 1), (1142, .iaload, 1), (1143, .aload_n 0, 1), (1144, .iload 4, 2), (1146, .iconst 2, 1), (1147, .iadd, 1), (1148, .iaload, 1), (1149, .aload_n 3, 1), (1150, .invokestatic 177, 3), (1153, .istore 5, 2), (1155, .aload_n 2, 1), (1156, .aload_n 0, 1), (1157, .iload 4, 2), (1159, .iconst 1, 1), (1160, .iadd, 1), (1161, .iaload, 1), (1162, .aload_n 0, 1), (1163, .iload 4, 2), (1165, .iconst 2, 1), (1166, .iadd, 1), (1167, .iaload, 1), (1168, .invokevirtual 179, 3), (1171, .istore 6, 2), (1173, .aload_n 2, 1), (1174, .invokevirtual 126, 3), (1177, .iload 5, 2), (1179, .if_icmp .eq 5, 3), (1182, .iconst 0, 1), (1183, .ireturn, 1), (1184, .iload 5, 2), (1186, .ifCond .ne 15, 3), (1189, .aload_n 3, 1), (1190, .iconst 0, 1), (1191, .laload, 1), (1192, .iload 6, 2), (1194, .i2l, 1), (1195, .lcmp, 1), (1196, .ifCond .eq 5, 3), (1199, .iconst 0, 1), (1200, .ireturn, 1), (1201, .goto 1290, 3)]
theorem dc_K_16 : kdecs code dl_K_16 = true := by decide +kernel
theorem wl_1264 : Cond.codeWith ky_L_later method_16_code 5 (some .int) [(0, 10, 13, 18), (0, 10, 17, 13)] ∈ kG := kG_of kch5 193 rfl rfl
theorem wl_1262 : Cond.methodLink "PoetFinesLaw" 180 ⟨"PoetFinesLaw", "later", "(LPoetFines;II[J)I"⟩ ∈ kG := kG_of kch5 191 rfl rfl
theorem wl_1263 : Cond.static ⟨"PoetFinesLaw", "later", "(LPoetFines;II[J)I"⟩ ∈ kG := kG_of kch5 192 rfl rfl
theorem ch_L_180 : kCh "PoetFinesLaw" 180 ky_L_later method_16_code 5 [(0, 10, 13, 18), (0, 10, 17, 13)] 4 := ⟨wl_1262, wl_111, wl_1264, ⟨by decide, by decide⟩, by decide +kernel, wl_1263⟩
theorem wl_2077 : Cond.methodLink "PoetFinesLaw" 182 ⟨"PoetFinesModel", "later", "(II)I"⟩ ∈ kG := kG_of kch9 46 rfl rfl
theorem wl_2080 : Cond.code ⟨"PoetFinesModel", "later", "(II)I"⟩ prog_14_method_86_code 7 (some .int) ∈ kG := kG_of kch9 49 rfl rfl
theorem wl_2078 : Cond.instanceMethod ⟨"PoetFinesModel", "later", "(II)I"⟩ ∈ kG := kG_of kch9 47 rfl rfl
theorem wl_2079 : Cond.selects "PoetFinesModel" ⟨"PoetFinesModel", "later", "(II)I"⟩ ⟨"PoetFinesModel", "later", "(II)I"⟩ ∈ kG := kG_of kch9 48 rfl rfl
theorem cv_L_182 : kCv "PoetFinesLaw" 182 ky_M_later prog_14_method_86_code 7 (some .int) 2 "PoetFinesModel" := ⟨⟨wl_2077, wl_123, wl_2080, ⟨by decide, by decide⟩, by decide +kernel⟩, wl_2078, wl_2079⟩
def dl_K_17 : List (Nat × Instr × Nat) := [(1204, .aload_n 1, 1), (1205, .aload_n 0, 1), (1206, .iload 4, 2), (1208, .iconst 1, 1), (1209, .iadd, 1), (1210, .iaload, 1), (1211, .aload_n 0, 1), (1212, .iload 4, 2), (1214, .iconst 2, 1), (1215, .iadd, 1), (1216, .iaload, 1), (1217, .aload_n 3, 1), (1218, .invokestatic 180, 3), (1221, .istore 5, 2), (1223, .aload_n 2, 1), (1224, .aload_n 0, 1), (1225, .iload 4, 2), (1227, .iconst 1, 1), (1228, .iadd, 1), (1229, .iaload, 1), (1230, .aload_n 0, 1), (1231, .iload 4, 2), (1233, .iconst 2, 1), (1234, .iadd, 1), (1235, .iaload, 1), (1236, .invokevirtual 182, 3), (1239, .istore 6, 2), (1241, .aload_n 2, 1), (1242, .invokevirtual 126, 3), (1245, .iload 5, 2), (1247, .if_icmp .eq 5, 3), (1250, .iconst 0, 1), (1251, .ireturn, 1), (1252, .iload 5, 2), (1254, .ifCond .ne 15, 3), (1257, .aload_n 3, 1), (1258, .iconst 0, 1), (1259, .laload, 1), (1260, .iload 6, 2), (1262, .i2l, 1), (1263, .lcmp, 1), (1264, .ifCond .eq 5, 3), (1267, .iconst 0, 1), (1268, .ireturn, 1), (1269, .goto 1222, 3)]
theorem dc_K_17 : kdecs code dl_K_17 = true := by decide +kernel
theorem wl_1279 : Cond.codeWith ky_L_worst method_17_code 5 (some .int) [(0, 10, 13, 18), (0, 10, 17, 13)] ∈ kG := kG_of kch5 208 rfl rfl
theorem wl_1277 : Cond.methodLink "PoetFinesLaw" 183 ⟨"PoetFinesLaw", "worst", "(LPoetFines;II[J)I"⟩ ∈ kG := kG_of kch5 206 rfl rfl
theorem wl_1278 : Cond.static ⟨"PoetFinesLaw", "worst", "(LPoetFines;II[J)I"⟩ ∈ kG := kG_of kch5 207 rfl rfl
theorem ch_L_183 : kCh "PoetFinesLaw" 183 ky_L_worst method_17_code 5 [(0, 10, 13, 18), (0, 10, 17, 13)] 4 := ⟨wl_1277, wl_111, wl_1279, ⟨by decide, by decide⟩, by decide +kernel, wl_1278⟩
theorem wl_2081 : Cond.methodLink "PoetFinesLaw" 185 ⟨"PoetFinesModel", "worst", "(II)I"⟩ ∈ kG := kG_of kch9 50 rfl rfl
theorem wl_2084 : Cond.code ⟨"PoetFinesModel", "worst", "(II)I"⟩ prog_14_method_87_code 5 (some .int) ∈ kG := kG_of kch9 53 rfl rfl
theorem wl_2082 : Cond.instanceMethod ⟨"PoetFinesModel", "worst", "(II)I"⟩ ∈ kG := kG_of kch9 51 rfl rfl
theorem wl_2083 : Cond.selects "PoetFinesModel" ⟨"PoetFinesModel", "worst", "(II)I"⟩ ⟨"PoetFinesModel", "worst", "(II)I"⟩ ∈ kG := kG_of kch9 52 rfl rfl
theorem cv_L_185 : kCv "PoetFinesLaw" 185 ky_M_worst prog_14_method_87_code 5 (some .int) 2 "PoetFinesModel" := ⟨⟨wl_2081, wl_123, wl_2084, ⟨by decide, by decide⟩, by decide +kernel⟩, wl_2082, wl_2083⟩
def dl_K_18 : List (Nat × Instr × Nat) := [(1272, .aload_n 1, 1), (1273, .aload_n 0, 1), (1274, .iload 4, 2), (1276, .iconst 1, 1), (1277, .iadd, 1), (1278, .iaload, 1), (1279, .aload_n 0, 1), (1280, .iload 4, 2), (1282, .iconst 2, 1), (1283, .iadd, 1), (1284, .iaload, 1), (1285, .aload_n 3, 1), (1286, .invokestatic 183, 3), (1289, .istore 5, 2), (1291, .aload_n 2, 1), (1292, .aload_n 0, 1), (1293, .iload 4, 2), (1295, .iconst 1, 1), (1296, .iadd, 1), (1297, .iaload, 1), (1298, .aload_n 0, 1), (1299, .iload 4, 2), (1301, .iconst 2, 1), (1302, .iadd, 1), (1303, .iaload, 1), (1304, .invokevirtual 185, 3), (1307, .istore 6, 2), (1309, .aload_n 2, 1), (1310, .invokevirtual 126, 3), (1313, .iload 5, 2), (1315, .if_icmp .eq 5, 3), (1318, .iconst 0, 1), (1319, .ireturn, 1), (1320, .iload 5, 2), (1322, .ifCond .ne 15, 3), (1325, .aload_n 3, 1), (1326, .iconst 0, 1), (1327, .laload, 1), (1328, .iload 6, 2), (1330, .i2l, 1), (1331, .lcmp, 1), (1332, .ifCond .eq 5, 3), (1335, .iconst 0, 1), (1336, .ireturn, 1), (1337, .goto 1154, 3)]
theorem dc_K_18 : kdecs code dl_K_18 = true := by decide +kernel
theorem wl_1286 : Cond.codeWith ky_L_probe method_18_code 7 (some .int) [(0, 14, 17, 18), (0, 14, 21, 13)] ∈ kG := kG_of kch5 215 rfl rfl
theorem wl_1284 : Cond.methodLink "PoetFinesLaw" 186 ⟨"PoetFinesLaw", "probe", "(LPoetFines;IIII[J)I"⟩ ∈ kG := kG_of kch5 213 rfl rfl
theorem wl_1285 : Cond.static ⟨"PoetFinesLaw", "probe", "(LPoetFines;IIII[J)I"⟩ ∈ kG := kG_of kch5 214 rfl rfl
theorem ch_L_186 : kCh "PoetFinesLaw" 186 ky_L_probe method_18_code 7 [(0, 14, 17, 18), (0, 14, 21, 13)] 6 := ⟨wl_1284, wl_111, wl_1286, ⟨by decide, by decide⟩, by decide +kernel, wl_1285⟩
theorem wl_2097 : Cond.methodLink "PoetFinesLaw" 189 ⟨"PoetFinesModel", "probe", "(IIII)I"⟩ ∈ kG := kG_of kch9 66 rfl rfl
theorem wl_2100 : Cond.code ⟨"PoetFinesModel", "probe", "(IIII)I"⟩ prog_14_method_91_code 5 (some .int) ∈ kG := kG_of kch9 69 rfl rfl
theorem wl_2098 : Cond.instanceMethod ⟨"PoetFinesModel", "probe", "(IIII)I"⟩ ∈ kG := kG_of kch9 67 rfl rfl
theorem wl_2099 : Cond.selects "PoetFinesModel" ⟨"PoetFinesModel", "probe", "(IIII)I"⟩ ⟨"PoetFinesModel", "probe", "(IIII)I"⟩ ∈ kG := kG_of kch9 68 rfl rfl
theorem cv_L_189 : kCv "PoetFinesLaw" 189 ky_M_probe prog_14_method_91_code 5 (some .int) 4 "PoetFinesModel" := ⟨⟨wl_2097, wl_123, wl_2100, ⟨by decide, by decide⟩, by decide +kernel⟩, wl_2098, wl_2099⟩
def dl_K_19 : List (Nat × Instr × Nat) := [(1340, .aload_n 1, 1), (1341, .aload_n 0, 1), (1342, .iload 4, 2), (1344, .iconst 1, 1), (1345, .iadd, 1), (1346, .iaload, 1), (1347, .aload_n 0, 1), (1348, .iload 4, 2), (1350, .iconst 2, 1), (1351, .iadd, 1), (1352, .iaload, 1), (1353, .aload_n 0, 1), (1354, .iload 4, 2), (1356, .iconst 3, 1), (1357, .iadd, 1), (1358, .iaload, 1), (1359, .aload_n 0, 1), (1360, .iload 4, 2), (1362, .iconst 4, 1), (1363, .iadd, 1), (1364, .iaload, 1), (1365, .aload_n 3, 1), (1366, .invokestatic 186, 3), (1369, .istore 5, 2), (1371, .aload_n 2, 1), (1372, .aload_n 0, 1), (1373, .iload 4, 2), (1375, .iconst 1, 1), (1376, .iadd, 1), (1377, .iaload, 1), (1378, .aload_n 0, 1), (1379, .iload 4, 2), (1381, .iconst 2, 1), (1382, .iadd, 1), (1383, .iaload, 1), (1384, .aload_n 0, 1), (1385, .iload 4, 2), (1387, .iconst 3, 1), (1388, .iadd, 1), (1389, .iaload, 1), (1390, .aload_n 0, 1), (1391, .iload 4, 2), (1393, .iconst 4, 1), (1394, .iadd, 1), (1395, .iaload, 1), (1396, .invokevirtual 189, 3), (1399, .istore 6, 2), (1401, .aload_n 2, 1), (1402, .invokevirtual 126, 3), (1405, .iload 5, 2), (1407, .if_icmp .eq 5, 3), (1410, .iconst 0, 1), (1411, .ireturn, 1), (1412, .iload 5, 2), (1414, .ifCond .ne 15, 3), (1417, .aload_n 3, 1), (1418, .iconst 0, 1), (1419, .laload, 1), (1420, .iload 6, 2), (1422, .i2l, 1), (1423, .lcmp, 1), (1424, .ifCond .eq 5, 3), (1427, .iconst 0, 1), (1428, .ireturn, 1), (1429, .goto 1062, 3)]
theorem dc_K_19 : kdecs code dl_K_19 = true := by decide +kernel
theorem wl_1294 : Cond.codeWith ky_L_safe method_19_code 5 (some .int) [(0, 10, 13, 18), (0, 10, 17, 13)] ∈ kG := kG_of kch5 223 rfl rfl
theorem wl_1292 : Cond.methodLink "PoetFinesLaw" 190 ⟨"PoetFinesLaw", "safe", "(LPoetFines;II[J)I"⟩ ∈ kG := kG_of kch5 221 rfl rfl
theorem wl_1293 : Cond.static ⟨"PoetFinesLaw", "safe", "(LPoetFines;II[J)I"⟩ ∈ kG := kG_of kch5 222 rfl rfl
theorem ch_L_190 : kCh "PoetFinesLaw" 190 ky_L_safe method_19_code 5 [(0, 10, 13, 18), (0, 10, 17, 13)] 4 := ⟨wl_1292, wl_111, wl_1294, ⟨by decide, by decide⟩, by decide +kernel, wl_1293⟩
theorem wl_2101 : Cond.methodLink "PoetFinesLaw" 192 ⟨"PoetFinesModel", "safe", "(II)I"⟩ ∈ kG := kG_of kch9 70 rfl rfl
theorem wl_2104 : Cond.code ⟨"PoetFinesModel", "safe", "(II)I"⟩ prog_14_method_92_code 5 (some .int) ∈ kG := kG_of kch9 73 rfl rfl
theorem wl_2102 : Cond.instanceMethod ⟨"PoetFinesModel", "safe", "(II)I"⟩ ∈ kG := kG_of kch9 71 rfl rfl
theorem wl_2103 : Cond.selects "PoetFinesModel" ⟨"PoetFinesModel", "safe", "(II)I"⟩ ⟨"PoetFinesModel", "safe", "(II)I"⟩ ∈ kG := kG_of kch9 72 rfl rfl
theorem cv_L_192 : kCv "PoetFinesLaw" 192 ky_M_safe prog_14_method_92_code 5 (some .int) 2 "PoetFinesModel" := ⟨⟨wl_2101, wl_123, wl_2104, ⟨by decide, by decide⟩, by decide +kernel⟩, wl_2102, wl_2103⟩
def dl_K_20 : List (Nat × Instr × Nat) := [(1432, .aload_n 1, 1), (1433, .aload_n 0, 1), (1434, .iload 4, 2), (1436, .iconst 1, 1), (1437, .iadd, 1), (1438, .iaload, 1), (1439, .aload_n 0, 1), (1440, .iload 4, 2), (1442, .iconst 2, 1), (1443, .iadd, 1), (1444, .iaload, 1), (1445, .aload_n 3, 1), (1446, .invokestatic 190, 3), (1449, .istore 5, 2), (1451, .aload_n 2, 1), (1452, .aload_n 0, 1), (1453, .iload 4, 2), (1455, .iconst 1, 1), (1456, .iadd, 1), (1457, .iaload, 1), (1458, .aload_n 0, 1), (1459, .iload 4, 2), (1461, .iconst 2, 1), (1462, .iadd, 1), (1463, .iaload, 1), (1464, .invokevirtual 192, 3), (1467, .istore 6, 2), (1469, .aload_n 2, 1), (1470, .invokevirtual 126, 3), (1473, .iload 5, 2), (1475, .if_icmp .eq 5, 3), (1478, .iconst 0, 1), (1479, .ireturn, 1), (1480, .iload 5, 2), (1482, .ifCond .ne 15, 3), (1485, .aload_n 3, 1), (1486, .iconst 0, 1), (1487, .laload, 1), (1488, .iload 6, 2), (1490, .i2l, 1), (1491, .lcmp, 1), (1492, .ifCond .eq 5, 3), (1495, .iconst 0, 1), (1496, .ireturn, 1), (1497, .goto 994, 3)]
theorem dc_K_20 : kdecs code dl_K_20 = true := by decide +kernel
theorem wl_1305 : Cond.codeWith ky_L_sonnet method_20_code 5 (some .int) [(0, 10, 13, 18)] ∈ kG := kG_of kch5 234 rfl rfl
theorem wl_1303 : Cond.methodLink "PoetFinesLaw" 193 ⟨"PoetFinesLaw", "sonnet", "(LPoetFines;II[J)I"⟩ ∈ kG := kG_of kch5 232 rfl rfl
theorem wl_1304 : Cond.static ⟨"PoetFinesLaw", "sonnet", "(LPoetFines;II[J)I"⟩ ∈ kG := kG_of kch5 233 rfl rfl
theorem ch_L_193 : kCh "PoetFinesLaw" 193 ky_L_sonnet method_20_code 5 [(0, 10, 13, 18)] 4 := ⟨wl_1303, wl_111, wl_1305, ⟨by decide, by decide⟩, by decide +kernel, wl_1304⟩
theorem wl_2105 : Cond.methodLink "PoetFinesLaw" 195 ⟨"PoetFinesModel", "sonnet", "(II)I"⟩ ∈ kG := kG_of kch9 74 rfl rfl
theorem wl_2108 : Cond.code ⟨"PoetFinesModel", "sonnet", "(II)I"⟩ prog_14_method_93_code 9 (some .int) ∈ kG := kG_of kch9 77 rfl rfl
theorem wl_2106 : Cond.instanceMethod ⟨"PoetFinesModel", "sonnet", "(II)I"⟩ ∈ kG := kG_of kch9 75 rfl rfl
theorem wl_2107 : Cond.selects "PoetFinesModel" ⟨"PoetFinesModel", "sonnet", "(II)I"⟩ ⟨"PoetFinesModel", "sonnet", "(II)I"⟩ ∈ kG := kG_of kch9 76 rfl rfl
theorem cv_L_195 : kCv "PoetFinesLaw" 195 ky_M_sonnet prog_14_method_93_code 9 (some .int) 2 "PoetFinesModel" := ⟨⟨wl_2105, wl_123, wl_2108, ⟨by decide, by decide⟩, by decide +kernel⟩, wl_2106, wl_2107⟩
def dl_K_21 : List (Nat × Instr × Nat) := [(1500, .aload_n 1, 1), (1501, .aload_n 0, 1), (1502, .iload 4, 2), (1504, .iconst 1, 1), (1505, .iadd, 1), (1506, .iaload, 1), (1507, .aload_n 0, 1), (1508, .iload 4, 2), (1510, .iconst 2, 1), (1511, .iadd, 1), (1512, .iaload, 1), (1513, .aload_n 3, 1), (1514, .invokestatic 193, 3), (1517, .istore 5, 2), (1519, .aload_n 2, 1), (1520, .aload_n 0, 1), (1521, .iload 4, 2), (1523, .iconst 1, 1), (1524, .iadd, 1), (1525, .iaload, 1), (1526, .aload_n 0, 1), (1527, .iload 4, 2), (1529, .iconst 2, 1), (1530, .iadd, 1), (1531, .iaload, 1), (1532, .invokevirtual 195, 3), (1535, .istore 6, 2), (1537, .aload_n 2, 1), (1538, .invokevirtual 126, 3), (1541, .iload 5, 2), (1543, .if_icmp .eq 5, 3), (1546, .iconst 0, 1), (1547, .ireturn, 1), (1548, .iload 5, 2), (1550, .ifCond .ne 15, 3), (1553, .aload_n 3, 1), (1554, .iconst 0, 1), (1555, .laload, 1), (1556, .iload 6, 2), (1558, .i2l, 1), (1559, .lcmp, 1), (1560, .ifCond .eq 5, 3), (1563, .iconst 0, 1), (1564, .ireturn, 1), (1565, .goto 926, 3)]
theorem dc_K_21 : kdecs code dl_K_21 = true := by decide +kernel
theorem wl_1326 : Cond.codeWith ky_L_action method_21_code 4 (some .int) [(0, 9, 12, 18)] ∈ kG := kG_of kch6 15 rfl rfl
theorem wl_1324 : Cond.methodLink "PoetFinesLaw" 196 ⟨"PoetFinesLaw", "action", "(LPoetFines;I[J)I"⟩ ∈ kG := kG_of kch6 13 rfl rfl
theorem wl_1325 : Cond.static ⟨"PoetFinesLaw", "action", "(LPoetFines;I[J)I"⟩ ∈ kG := kG_of kch6 14 rfl rfl
theorem ch_L_196 : kCh "PoetFinesLaw" 196 ky_L_action method_21_code 4 [(0, 9, 12, 18)] 3 := ⟨wl_1324, wl_111, wl_1326, ⟨by decide, by decide⟩, by decide +kernel, wl_1325⟩
theorem wl_2109 : Cond.methodLink "PoetFinesLaw" 198 ⟨"PoetFinesModel", "action", "(I)I"⟩ ∈ kG := kG_of kch9 78 rfl rfl
theorem wl_2112 : Cond.code ⟨"PoetFinesModel", "action", "(I)I"⟩ prog_14_method_95_code 6 (some .int) ∈ kG := kG_of kch9 81 rfl rfl
theorem wl_2110 : Cond.instanceMethod ⟨"PoetFinesModel", "action", "(I)I"⟩ ∈ kG := kG_of kch9 79 rfl rfl
theorem wl_2111 : Cond.selects "PoetFinesModel" ⟨"PoetFinesModel", "action", "(I)I"⟩ ⟨"PoetFinesModel", "action", "(I)I"⟩ ∈ kG := kG_of kch9 80 rfl rfl
theorem cv_L_198 : kCv "PoetFinesLaw" 198 ky_M_action prog_14_method_95_code 6 (some .int) 1 "PoetFinesModel" := ⟨⟨wl_2109, wl_123, wl_2112, ⟨by decide, by decide⟩, by decide +kernel⟩, wl_2110, wl_2111⟩
def dl_K_22 : List (Nat × Instr × Nat) := [(1568, .aload_n 1, 1), (1569, .aload_n 0, 1), (1570, .iload 4, 2), (1572, .iconst 1, 1), (1573, .iadd, 1), (1574, .iaload, 1), (1575, .aload_n 3, 1), (1576, .invokestatic 196, 3), (1579, .istore 5, 2), (1581, .aload_n 2, 1), (1582, .aload_n 0, 1), (1583, .iload 4, 2), (1585, .iconst 1, 1), (1586, .iadd, 1), (1587, .iaload, 1), (1588, .invokevirtual 198, 3), (1591, .istore 6, 2), (1593, .aload_n 2, 1), (1594, .invokevirtual 126, 3), (1597, .iload 5, 2), (1599, .if_icmp .eq 5, 3), (1602, .iconst 0, 1), (1603, .ireturn, 1), (1604, .iload 5, 2), (1606, .ifCond .ne 15, 3), (1609, .aload_n 3, 1), (1610, .iconst 0, 1), (1611, .laload, 1), (1612, .iload 6, 2), (1614, .i2l, 1), (1615, .lcmp, 1), (1616, .ifCond .eq 5, 3), (1619, .iconst 0, 1), (1620, .ireturn, 1), (1621, .goto 870, 3)]
theorem dc_K_22 : kdecs code dl_K_22 = true := by decide +kernel
theorem wl_1347 : Cond.codeWith ky_L_readings method_22_code 4 (some .int) [(0, 9, 12, 18)] ∈ kG := kG_of kch6 36 rfl rfl
theorem wl_1345 : Cond.methodLink "PoetFinesLaw" 199 ⟨"PoetFinesLaw", "readings", "(LPoetFines;I[J)I"⟩ ∈ kG := kG_of kch6 34 rfl rfl
theorem wl_1346 : Cond.static ⟨"PoetFinesLaw", "readings", "(LPoetFines;I[J)I"⟩ ∈ kG := kG_of kch6 35 rfl rfl
theorem ch_L_199 : kCh "PoetFinesLaw" 199 ky_L_readings method_22_code 4 [(0, 9, 12, 18)] 3 := ⟨wl_1345, wl_111, wl_1347, ⟨by decide, by decide⟩, by decide +kernel, wl_1346⟩
theorem wl_2124 : Cond.methodLink "PoetFinesLaw" 201 ⟨"PoetFinesModel", "readings", "(I)I"⟩ ∈ kG := kG_of kch9 93 rfl rfl
theorem wl_2127 : Cond.code ⟨"PoetFinesModel", "readings", "(I)I"⟩ prog_14_method_100_code 7 (some .int) ∈ kG := kG_of kch9 96 rfl rfl
theorem wl_2125 : Cond.instanceMethod ⟨"PoetFinesModel", "readings", "(I)I"⟩ ∈ kG := kG_of kch9 94 rfl rfl
theorem wl_2126 : Cond.selects "PoetFinesModel" ⟨"PoetFinesModel", "readings", "(I)I"⟩ ⟨"PoetFinesModel", "readings", "(I)I"⟩ ∈ kG := kG_of kch9 95 rfl rfl
theorem cv_L_201 : kCv "PoetFinesLaw" 201 ky_M_readings prog_14_method_100_code 7 (some .int) 1 "PoetFinesModel" := ⟨⟨wl_2124, wl_123, wl_2127, ⟨by decide, by decide⟩, by decide +kernel⟩, wl_2125, wl_2126⟩
def dl_K_23 : List (Nat × Instr × Nat) := [(1624, .aload_n 1, 1), (1625, .aload_n 0, 1), (1626, .iload 4, 2), (1628, .iconst 1, 1), (1629, .iadd, 1), (1630, .iaload, 1), (1631, .aload_n 3, 1), (1632, .invokestatic 199, 3), (1635, .istore 5, 2), (1637, .aload_n 2, 1), (1638, .aload_n 0, 1), (1639, .iload 4, 2), (1641, .iconst 1, 1), (1642, .iadd, 1), (1643, .iaload, 1), (1644, .invokevirtual 201, 3), (1647, .istore 6, 2), (1649, .aload_n 2, 1), (1650, .invokevirtual 126, 3), (1653, .iload 5, 2), (1655, .if_icmp .eq 5, 3), (1658, .iconst 0, 1), (1659, .ireturn, 1), (1660, .iload 5, 2), (1662, .ifCond .ne 15, 3), (1665, .aload_n 3, 1), (1666, .iconst 0, 1), (1667, .laload, 1), (1668, .iload 6, 2), (1670, .i2l, 1), (1671, .lcmp, 1), (1672, .ifCond .eq 5, 3), (1675, .iconst 0, 1), (1676, .ireturn, 1), (1677, .goto 814, 3)]
theorem dc_K_23 : kdecs code dl_K_23 = true := by decide +kernel
theorem wl_1372 : Cond.codeWith ky_L_best method_23_code 5 (some .int) [(0, 10, 13, 18), (0, 10, 17, 13)] ∈ kG := kG_of kch6 61 rfl rfl
theorem wl_1370 : Cond.methodLink "PoetFinesLaw" 202 ⟨"PoetFinesLaw", "best", "(LPoetFines;II[J)I"⟩ ∈ kG := kG_of kch6 59 rfl rfl
theorem wl_1371 : Cond.static ⟨"PoetFinesLaw", "best", "(LPoetFines;II[J)I"⟩ ∈ kG := kG_of kch6 60 rfl rfl
theorem ch_L_202 : kCh "PoetFinesLaw" 202 ky_L_best method_23_code 5 [(0, 10, 13, 18), (0, 10, 17, 13)] 4 := ⟨wl_1370, wl_111, wl_1372, ⟨by decide, by decide⟩, by decide +kernel, wl_1371⟩
theorem wl_2140 : Cond.methodLink "PoetFinesLaw" 204 ⟨"PoetFinesModel", "best", "(II)I"⟩ ∈ kG := kG_of kch9 109 rfl rfl
theorem wl_2143 : Cond.code ⟨"PoetFinesModel", "best", "(II)I"⟩ prog_14_method_101_code 7 (some .int) ∈ kG := kG_of kch9 112 rfl rfl
theorem wl_2141 : Cond.instanceMethod ⟨"PoetFinesModel", "best", "(II)I"⟩ ∈ kG := kG_of kch9 110 rfl rfl
theorem wl_2142 : Cond.selects "PoetFinesModel" ⟨"PoetFinesModel", "best", "(II)I"⟩ ⟨"PoetFinesModel", "best", "(II)I"⟩ ∈ kG := kG_of kch9 111 rfl rfl
theorem cv_L_204 : kCv "PoetFinesLaw" 204 ky_M_best prog_14_method_101_code 7 (some .int) 2 "PoetFinesModel" := ⟨⟨wl_2140, wl_123, wl_2143, ⟨by decide, by decide⟩, by decide +kernel⟩, wl_2141, wl_2142⟩
def dl_K_24 : List (Nat × Instr × Nat) := [(1680, .aload_n 1, 1), (1681, .aload_n 0, 1), (1682, .iload 4, 2), (1684, .iconst 1, 1), (1685, .iadd, 1), (1686, .iaload, 1), (1687, .aload_n 0, 1), (1688, .iload 4, 2), (1690, .iconst 2, 1), (1691, .iadd, 1), (1692, .iaload, 1), (1693, .aload_n 3, 1), (1694, .invokestatic 202, 3), (1697, .istore 5, 2), (1699, .aload_n 2, 1), (1700, .aload_n 0, 1), (1701, .iload 4, 2), (1703, .iconst 1, 1), (1704, .iadd, 1), (1705, .iaload, 1), (1706, .aload_n 0, 1), (1707, .iload 4, 2), (1709, .iconst 2, 1), (1710, .iadd, 1), (1711, .iaload, 1), (1712, .invokevirtual 204, 3), (1715, .istore 6, 2), (1717, .aload_n 2, 1), (1718, .invokevirtual 126, 3), (1721, .iload 5, 2), (1723, .if_icmp .eq 5, 3), (1726, .iconst 0, 1), (1727, .ireturn, 1), (1728, .iload 5, 2), (1730, .ifCond .ne 15, 3), (1733, .aload_n 3, 1), (1734, .iconst 0, 1), (1735, .laload, 1), (1736, .iload 6, 2), (1738, .i2l, 1), (1739, .lcmp, 1), (1740, .ifCond .eq 5, 3), (1743, .iconst 0, 1), (1744, .ireturn, 1), (1745, .goto 746, 3)]
theorem dc_K_24 : kdecs code dl_K_24 = true := by decide +kernel
theorem wl_1389 : Cond.codeWith ky_L_feel method_24_code 6 (some .int) [(0, 12, 15, 18)] ∈ kG := kG_of kch6 78 rfl rfl
theorem wl_1387 : Cond.methodLink "PoetFinesLaw" 205 ⟨"PoetFinesLaw", "feel", "(LPoetFines;IIZ[J)I"⟩ ∈ kG := kG_of kch6 76 rfl rfl
theorem wl_1388 : Cond.static ⟨"PoetFinesLaw", "feel", "(LPoetFines;IIZ[J)I"⟩ ∈ kG := kG_of kch6 77 rfl rfl
theorem ch_L_205 : kCh "PoetFinesLaw" 205 ky_L_feel method_24_code 6 [(0, 12, 15, 18)] 5 := ⟨wl_1387, wl_111, wl_1389, ⟨by decide, by decide⟩, by decide +kernel, wl_1388⟩
theorem wl_2144 : Cond.methodLink "PoetFinesLaw" 208 ⟨"PoetFinesModel", "feel", "(IIZ)I"⟩ ∈ kG := kG_of kch9 113 rfl rfl
theorem wl_2147 : Cond.code ⟨"PoetFinesModel", "feel", "(IIZ)I"⟩ prog_14_method_102_code 4 (some .int) ∈ kG := kG_of kch9 116 rfl rfl
theorem wl_2145 : Cond.instanceMethod ⟨"PoetFinesModel", "feel", "(IIZ)I"⟩ ∈ kG := kG_of kch9 114 rfl rfl
theorem wl_2146 : Cond.selects "PoetFinesModel" ⟨"PoetFinesModel", "feel", "(IIZ)I"⟩ ⟨"PoetFinesModel", "feel", "(IIZ)I"⟩ ∈ kG := kG_of kch9 115 rfl rfl
theorem cv_L_208 : kCv "PoetFinesLaw" 208 ky_M_feel prog_14_method_102_code 4 (some .int) 3 "PoetFinesModel" := ⟨⟨wl_2144, wl_123, wl_2147, ⟨by decide, by decide⟩, by decide +kernel⟩, wl_2145, wl_2146⟩
def dl_K_25 : List (Nat × Instr × Nat) := [(1748, .aload_n 1, 1), (1749, .aload_n 0, 1), (1750, .iload 4, 2), (1752, .iconst 1, 1), (1753, .iadd, 1), (1754, .iaload, 1), (1755, .aload_n 0, 1), (1756, .iload 4, 2), (1758, .iconst 2, 1), (1759, .iadd, 1), (1760, .iaload, 1), (1761, .aload_n 0, 1), (1762, .iload 4, 2), (1764, .iconst 3, 1), (1765, .iadd, 1), (1766, .iaload, 1), (1767, .ifCond .eq 7, 3), (1770, .iconst 1, 1), (1771, .goto 4, 3), (1774, .iconst 0, 1), (1775, .aload_n 3, 1), (1776, .invokestatic 205, 3), (1779, .istore 5, 2), (1781, .aload_n 2, 1), (1782, .aload_n 0, 1), (1783, .iload 4, 2), (1785, .iconst 1, 1), (1786, .iadd, 1), (1787, .iaload, 1), (1788, .aload_n 0, 1), (1789, .iload 4, 2), (1791, .iconst 2, 1), (1792, .iadd, 1), (1793, .iaload, 1), (1794, .aload_n 0, 1), (1795, .iload 4, 2), (1797, .iconst 3, 1), (1798, .iadd, 1), (1799, .iaload, 1), (1800, .ifCond .eq 7, 3), (1803, .iconst 1, 1), (1804, .goto 4, 3), (1807, .iconst 0, 1), (1808, .invokevirtual 208, 3), (1811, .istore 6, 2), (1813, .aload_n 2, 1), (1814, .invokevirtual 126, 3), (1817, .iload 5, 2), (1819, .if_icmp .eq 5, 3), (1822, .iconst 0, 1), (1823, .ireturn, 1), (1824, .iload 5, 2), (1826, .ifCond .ne 15, 3), (1829, .aload_n 3, 1), (1830, .iconst 0, 1), (1831, .laload, 1), (1832, .iload 6, 2), (1834, .i2l, 1), (1835, .lcmp, 1), (1836, .ifCond .eq 5, 3), (1839, .iconst 0, 1), (1840, .ireturn, 1), (1841, .goto 650, 3)]
theorem dc_K_25 : kdecs code dl_K_25 = true := by decide +kernel
theorem wl_658 : Cond.methodLink "PoetFinesLaw" 209 ⟨"PoetFines", "forget", "()V"⟩ ∈ kG := kG_of kch3 67 rfl rfl
theorem wl_661 : Cond.code ⟨"PoetFines", "forget", "()V"⟩ prog_1_method_28_code 1 none ∈ kG := kG_of kch3 70 rfl rfl
theorem wl_659 : Cond.instanceMethod ⟨"PoetFines", "forget", "()V"⟩ ∈ kG := kG_of kch3 68 rfl rfl
theorem wl_660 : Cond.selects "PoetFines" ⟨"PoetFines", "forget", "()V"⟩ ⟨"PoetFines", "forget", "()V"⟩ ∈ kG := kG_of kch3 69 rfl rfl
theorem cv_L_209 : kCv "PoetFinesLaw" 209 ky_P_forget prog_1_method_28_code 1 none 0 "PoetFines" := ⟨⟨wl_658, wl_112, wl_661, ⟨by decide, by decide⟩, by decide +kernel⟩, wl_659, wl_660⟩
theorem wl_2148 : Cond.methodLink "PoetFinesLaw" 212 ⟨"PoetFinesModel", "forget", "()V"⟩ ∈ kG := kG_of kch9 117 rfl rfl
theorem wl_2151 : Cond.code ⟨"PoetFinesModel", "forget", "()V"⟩ prog_14_method_103_code 1 none ∈ kG := kG_of kch9 120 rfl rfl
theorem wl_2149 : Cond.instanceMethod ⟨"PoetFinesModel", "forget", "()V"⟩ ∈ kG := kG_of kch9 118 rfl rfl
theorem wl_2150 : Cond.selects "PoetFinesModel" ⟨"PoetFinesModel", "forget", "()V"⟩ ⟨"PoetFinesModel", "forget", "()V"⟩ ∈ kG := kG_of kch9 119 rfl rfl
theorem cv_L_212 : kCv "PoetFinesLaw" 212 ky_M_forget prog_14_method_103_code 1 none 0 "PoetFinesModel" := ⟨⟨wl_2148, wl_123, wl_2151, ⟨by decide, by decide⟩, by decide +kernel⟩, wl_2149, wl_2150⟩
def dl_K_26 : List (Nat × Instr × Nat) := [(1844, .aload_n 1, 1), (1845, .invokevirtual 209, 3), (1848, .aload_n 2, 1), (1849, .invokevirtual 212, 3), (1852, .goto 639, 3)]
theorem dc_K_26 : kdecs code dl_K_26 = true := by decide +kernel
theorem wl_1400 : Cond.codeWith ky_L_truths method_25_code 4 (some .int) [(0, 9, 12, 18)] ∈ kG := kG_of kch6 89 rfl rfl
theorem wl_1398 : Cond.methodLink "PoetFinesLaw" 213 ⟨"PoetFinesLaw", "truths", "(LPoetFines;I[J)I"⟩ ∈ kG := kG_of kch6 87 rfl rfl
theorem wl_1399 : Cond.static ⟨"PoetFinesLaw", "truths", "(LPoetFines;I[J)I"⟩ ∈ kG := kG_of kch6 88 rfl rfl
theorem ch_L_213 : kCh "PoetFinesLaw" 213 ky_L_truths method_25_code 4 [(0, 9, 12, 18)] 3 := ⟨wl_1398, wl_111, wl_1400, ⟨by decide, by decide⟩, by decide +kernel, wl_1399⟩
theorem wl_2152 : Cond.methodLink "PoetFinesLaw" 215 ⟨"PoetFinesModel", "truths", "(I)I"⟩ ∈ kG := kG_of kch9 121 rfl rfl
theorem wl_2155 : Cond.code ⟨"PoetFinesModel", "truths", "(I)I"⟩ prog_14_method_106_code 5 (some .int) ∈ kG := kG_of kch9 124 rfl rfl
theorem wl_2153 : Cond.instanceMethod ⟨"PoetFinesModel", "truths", "(I)I"⟩ ∈ kG := kG_of kch9 122 rfl rfl
theorem wl_2154 : Cond.selects "PoetFinesModel" ⟨"PoetFinesModel", "truths", "(I)I"⟩ ⟨"PoetFinesModel", "truths", "(I)I"⟩ ∈ kG := kG_of kch9 123 rfl rfl
theorem cv_L_215 : kCv "PoetFinesLaw" 215 ky_M_truths prog_14_method_106_code 5 (some .int) 1 "PoetFinesModel" := ⟨⟨wl_2152, wl_123, wl_2155, ⟨by decide, by decide⟩, by decide +kernel⟩, wl_2153, wl_2154⟩
def dl_K_27 : List (Nat × Instr × Nat) := [(1855, .aload_n 1, 1), (1856, .aload_n 0, 1), (1857, .iload 4, 2), (1859, .iconst 1, 1), (1860, .iadd, 1), (1861, .iaload, 1), (1862, .aload_n 3, 1), (1863, .invokestatic 213, 3), (1866, .istore 5, 2), (1868, .aload_n 2, 1), (1869, .aload_n 0, 1), (1870, .iload 4, 2), (1872, .iconst 1, 1), (1873, .iadd, 1), (1874, .iaload, 1), (1875, .invokevirtual 215, 3), (1878, .istore 6, 2), (1880, .aload_n 2, 1), (1881, .invokevirtual 126, 3), (1884, .iload 5, 2), (1886, .if_icmp .eq 5, 3), (1889, .iconst 0, 1), (1890, .ireturn, 1), (1891, .iload 5, 2), (1893, .ifCond .ne 15, 3), (1896, .aload_n 3, 1), (1897, .iconst 0, 1), (1898, .laload, 1), (1899, .iload 6, 2), (1901, .i2l, 1), (1902, .lcmp, 1), (1903, .ifCond .eq 5, 3), (1906, .iconst 0, 1), (1907, .ireturn, 1), (1908, .goto 583, 3)]
theorem dc_K_27 : kdecs code dl_K_27 = true := by decide +kernel
theorem wl_1445 : Cond.codeWith ky_L_listen method_26_code 4 (some .int) [(0, 9, 12, 18)] ∈ kG := kG_of kch6 134 rfl rfl
theorem wl_1443 : Cond.methodLink "PoetFinesLaw" 216 ⟨"PoetFinesLaw", "listen", "(LPoetFines;I[J)I"⟩ ∈ kG := kG_of kch6 132 rfl rfl
theorem wl_1444 : Cond.static ⟨"PoetFinesLaw", "listen", "(LPoetFines;I[J)I"⟩ ∈ kG := kG_of kch6 133 rfl rfl
theorem ch_L_216 : kCh "PoetFinesLaw" 216 ky_L_listen method_26_code 4 [(0, 9, 12, 18)] 3 := ⟨wl_1443, wl_111, wl_1445, ⟨by decide, by decide⟩, by decide +kernel, wl_1444⟩
theorem wl_2164 : Cond.methodLink "PoetFinesLaw" 218 ⟨"PoetFinesModel", "listen", "(I)I"⟩ ∈ kG := kG_of kch9 133 rfl rfl
theorem wl_2167 : Cond.code ⟨"PoetFinesModel", "listen", "(I)I"⟩ prog_14_method_107_code 10 (some .int) ∈ kG := kG_of kch9 136 rfl rfl
theorem wl_2165 : Cond.instanceMethod ⟨"PoetFinesModel", "listen", "(I)I"⟩ ∈ kG := kG_of kch9 134 rfl rfl
theorem wl_2166 : Cond.selects "PoetFinesModel" ⟨"PoetFinesModel", "listen", "(I)I"⟩ ⟨"PoetFinesModel", "listen", "(I)I"⟩ ∈ kG := kG_of kch9 135 rfl rfl
theorem cv_L_218 : kCv "PoetFinesLaw" 218 ky_M_listen prog_14_method_107_code 10 (some .int) 1 "PoetFinesModel" := ⟨⟨wl_2164, wl_123, wl_2167, ⟨by decide, by decide⟩, by decide +kernel⟩, wl_2165, wl_2166⟩
def dl_K_28 : List (Nat × Instr × Nat) := [(1911, .aload_n 1, 1), (1912, .aload_n 0, 1), (1913, .iload 4, 2), (1915, .iconst 1, 1), (1916, .iadd, 1), (1917, .iaload, 1), (1918, .aload_n 3, 1), (1919, .invokestatic 216, 3), (1922, .istore 5, 2), (1924, .aload_n 2, 1), (1925, .aload_n 0, 1), (1926, .iload 4, 2), (1928, .iconst 1, 1), (1929, .iadd, 1), (1930, .iaload, 1), (1931, .invokevirtual 218, 3), (1934, .istore 6, 2), (1936, .aload_n 2, 1), (1937, .invokevirtual 126, 3), (1940, .iload 5, 2), (1942, .if_icmp .eq 5, 3), (1945, .iconst 0, 1), (1946, .ireturn, 1), (1947, .iload 5, 2), (1949, .ifCond .ne 15, 3), (1952, .aload_n 3, 1), (1953, .iconst 0, 1), (1954, .laload, 1), (1955, .iload 6, 2), (1957, .i2l, 1), (1958, .lcmp, 1), (1959, .ifCond .eq 5, 3), (1962, .iconst 0, 1), (1963, .ireturn, 1), (1964, .goto 527, 3)]
theorem dc_K_28 : kdecs code dl_K_28 = true := by decide +kernel
theorem wl_1468 : Cond.codeWith ky_L_accidents method_27_code 6 (some .int) [(0, 12, 15, 18), (0, 12, 19, 13)] ∈ kG := kG_of kch6 157 rfl rfl
theorem wl_1466 : Cond.methodLink "PoetFinesLaw" 219 ⟨"PoetFinesLaw", "accidents", "(LPoetFines;III[J)I"⟩ ∈ kG := kG_of kch6 155 rfl rfl
theorem wl_1467 : Cond.static ⟨"PoetFinesLaw", "accidents", "(LPoetFines;III[J)I"⟩ ∈ kG := kG_of kch6 156 rfl rfl
theorem ch_L_219 : kCh "PoetFinesLaw" 219 ky_L_accidents method_27_code 6 [(0, 12, 15, 18), (0, 12, 19, 13)] 5 := ⟨wl_1466, wl_111, wl_1468, ⟨by decide, by decide⟩, by decide +kernel, wl_1467⟩
theorem wl_2168 : Cond.methodLink "PoetFinesLaw" 221 ⟨"PoetFinesModel", "accidents", "(III)I"⟩ ∈ kG := kG_of kch9 137 rfl rfl
theorem wl_2171 : Cond.code ⟨"PoetFinesModel", "accidents", "(III)I"⟩ prog_14_method_108_code 8 (some .int) ∈ kG := kG_of kch9 140 rfl rfl
theorem wl_2169 : Cond.instanceMethod ⟨"PoetFinesModel", "accidents", "(III)I"⟩ ∈ kG := kG_of kch9 138 rfl rfl
theorem wl_2170 : Cond.selects "PoetFinesModel" ⟨"PoetFinesModel", "accidents", "(III)I"⟩ ⟨"PoetFinesModel", "accidents", "(III)I"⟩ ∈ kG := kG_of kch9 139 rfl rfl
theorem cv_L_221 : kCv "PoetFinesLaw" 221 ky_M_accidents prog_14_method_108_code 8 (some .int) 3 "PoetFinesModel" := ⟨⟨wl_2168, wl_123, wl_2171, ⟨by decide, by decide⟩, by decide +kernel⟩, wl_2169, wl_2170⟩
def dl_K_29 : List (Nat × Instr × Nat) := [(1967, .aload_n 1, 1), (1968, .aload_n 0, 1), (1969, .iload 4, 2), (1971, .iconst 1, 1), (1972, .iadd, 1), (1973, .iaload, 1), (1974, .aload_n 0, 1), (1975, .iload 4, 2), (1977, .iconst 2, 1), (1978, .iadd, 1), (1979, .iaload, 1), (1980, .aload_n 0, 1), (1981, .iload 4, 2), (1983, .iconst 3, 1), (1984, .iadd, 1), (1985, .iaload, 1), (1986, .aload_n 3, 1), (1987, .invokestatic 219, 3), (1990, .istore 5, 2), (1992, .aload_n 2, 1), (1993, .aload_n 0, 1), (1994, .iload 4, 2), (1996, .iconst 1, 1), (1997, .iadd, 1), (1998, .iaload, 1), (1999, .aload_n 0, 1), (2000, .iload 4, 2), (2002, .iconst 2, 1), (2003, .iadd, 1), (2004, .iaload, 1), (2005, .aload_n 0, 1), (2006, .iload 4, 2), (2008, .iconst 3, 1), (2009, .iadd, 1), (2010, .iaload, 1), (2011, .invokevirtual 221, 3), (2014, .istore 6, 2), (2016, .aload_n 2, 1), (2017, .invokevirtual 126, 3), (2020, .iload 5, 2), (2022, .if_icmp .eq 5, 3), (2025, .iconst 0, 1), (2026, .ireturn, 1), (2027, .iload 5, 2), (2029, .ifCond .ne 15, 3), (2032, .aload_n 3, 1), (2033, .iconst 0, 1), (2034, .laload, 1), (2035, .iload 6, 2), (2037, .i2l, 1), (2038, .lcmp, 1), (2039, .ifCond .eq 5, 3), (2042, .iconst 0, 1), (2043, .ireturn, 1), (2044, .goto 447, 3)]
theorem dc_K_29 : kdecs code dl_K_29 = true := by decide +kernel
theorem wl_1483 : Cond.codeWith ky_L_game method_28_code 6 (some .int) [(0, 12, 15, 18), (0, 12, 19, 13)] ∈ kG := kG_of kch6 172 rfl rfl
theorem wl_1481 : Cond.methodLink "PoetFinesLaw" 222 ⟨"PoetFinesLaw", "game", "(LPoetFines;III[J)I"⟩ ∈ kG := kG_of kch6 170 rfl rfl
theorem wl_1482 : Cond.static ⟨"PoetFinesLaw", "game", "(LPoetFines;III[J)I"⟩ ∈ kG := kG_of kch6 171 rfl rfl
theorem ch_L_222 : kCh "PoetFinesLaw" 222 ky_L_game method_28_code 6 [(0, 12, 15, 18), (0, 12, 19, 13)] 5 := ⟨wl_1481, wl_111, wl_1483, ⟨by decide, by decide⟩, by decide +kernel, wl_1482⟩
theorem wl_2172 : Cond.methodLink "PoetFinesLaw" 224 ⟨"PoetFinesModel", "game", "(III)I"⟩ ∈ kG := kG_of kch9 141 rfl rfl
theorem wl_2175 : Cond.code ⟨"PoetFinesModel", "game", "(III)I"⟩ prog_14_method_110_code 9 (some .int) ∈ kG := kG_of kch9 144 rfl rfl
theorem wl_2173 : Cond.instanceMethod ⟨"PoetFinesModel", "game", "(III)I"⟩ ∈ kG := kG_of kch9 142 rfl rfl
theorem wl_2174 : Cond.selects "PoetFinesModel" ⟨"PoetFinesModel", "game", "(III)I"⟩ ⟨"PoetFinesModel", "game", "(III)I"⟩ ∈ kG := kG_of kch9 143 rfl rfl
theorem cv_L_224 : kCv "PoetFinesLaw" 224 ky_M_game prog_14_method_110_code 9 (some .int) 3 "PoetFinesModel" := ⟨⟨wl_2172, wl_123, wl_2175, ⟨by decide, by decide⟩, by decide +kernel⟩, wl_2173, wl_2174⟩
def dl_K_30 : List (Nat × Instr × Nat) := [(2047, .aload_n 1, 1), (2048, .aload_n 0, 1), (2049, .iload 4, 2), (2051, .iconst 1, 1), (2052, .iadd, 1), (2053, .iaload, 1), (2054, .aload_n 0, 1), (2055, .iload 4, 2), (2057, .iconst 2, 1), (2058, .iadd, 1), (2059, .iaload, 1), (2060, .aload_n 0, 1), (2061, .iload 4, 2), (2063, .iconst 3, 1), (2064, .iadd, 1), (2065, .iaload, 1), (2066, .aload_n 3, 1), (2067, .invokestatic 222, 3), (2070, .istore 5, 2), (2072, .aload_n 2, 1), (2073, .aload_n 0, 1), (2074, .iload 4, 2), (2076, .iconst 1, 1), (2077, .iadd, 1), (2078, .iaload, 1), (2079, .aload_n 0, 1), (2080, .iload 4, 2), (2082, .iconst 2, 1), (2083, .iadd, 1), (2084, .iaload, 1), (2085, .aload_n 0, 1), (2086, .iload 4, 2), (2088, .iconst 3, 1), (2089, .iadd, 1), (2090, .iaload, 1), (2091, .invokevirtual 224, 3), (2094, .istore 6, 2), (2096, .aload_n 2, 1), (2097, .invokevirtual 126, 3), (2100, .iload 5, 2), (2102, .if_icmp .eq 5, 3), (2105, .iconst 0, 1), (2106, .ireturn, 1), (2107, .iload 5, 2), (2109, .ifCond .ne 15, 3), (2112, .aload_n 3, 1), (2113, .iconst 0, 1), (2114, .laload, 1), (2115, .iload 6, 2), (2117, .i2l, 1), (2118, .lcmp, 1), (2119, .ifCond .eq 5, 3), (2122, .iconst 0, 1), (2123, .ireturn, 1), (2124, .goto 367, 3)]
theorem dc_K_30 : kdecs code dl_K_30 = true := by decide +kernel
theorem wl_1499 : Cond.codeWith ky_L_decades method_29_code 6 (some .int) [(0, 12, 15, 18), (0, 12, 19, 13)] ∈ kG := kG_of kch6 188 rfl rfl
theorem wl_1497 : Cond.methodLink "PoetFinesLaw" 225 ⟨"PoetFinesLaw", "decades", "(LPoetFines;III[J)I"⟩ ∈ kG := kG_of kch6 186 rfl rfl
theorem wl_1498 : Cond.static ⟨"PoetFinesLaw", "decades", "(LPoetFines;III[J)I"⟩ ∈ kG := kG_of kch6 187 rfl rfl
theorem ch_L_225 : kCh "PoetFinesLaw" 225 ky_L_decades method_29_code 6 [(0, 12, 15, 18), (0, 12, 19, 13)] 5 := ⟨wl_1497, wl_111, wl_1499, ⟨by decide, by decide⟩, by decide +kernel, wl_1498⟩
theorem wl_2180 : Cond.methodLink "PoetFinesLaw" 227 ⟨"PoetFinesModel", "decades", "(III)I"⟩ ∈ kG := kG_of kch9 149 rfl rfl
theorem wl_2183 : Cond.code ⟨"PoetFinesModel", "decades", "(III)I"⟩ prog_14_method_113_code 6 (some .int) ∈ kG := kG_of kch9 152 rfl rfl
theorem wl_2181 : Cond.instanceMethod ⟨"PoetFinesModel", "decades", "(III)I"⟩ ∈ kG := kG_of kch9 150 rfl rfl
theorem wl_2182 : Cond.selects "PoetFinesModel" ⟨"PoetFinesModel", "decades", "(III)I"⟩ ⟨"PoetFinesModel", "decades", "(III)I"⟩ ∈ kG := kG_of kch9 151 rfl rfl
theorem cv_L_227 : kCv "PoetFinesLaw" 227 ky_M_decades prog_14_method_113_code 6 (some .int) 3 "PoetFinesModel" := ⟨⟨wl_2180, wl_123, wl_2183, ⟨by decide, by decide⟩, by decide +kernel⟩, wl_2181, wl_2182⟩
def dl_K_31 : List (Nat × Instr × Nat) := [(2127, .aload_n 1, 1), (2128, .aload_n 0, 1), (2129, .iload 4, 2), (2131, .iconst 1, 1), (2132, .iadd, 1), (2133, .iaload, 1), (2134, .aload_n 0, 1), (2135, .iload 4, 2), (2137, .iconst 2, 1), (2138, .iadd, 1), (2139, .iaload, 1), (2140, .aload_n 0, 1), (2141, .iload 4, 2), (2143, .iconst 3, 1), (2144, .iadd, 1), (2145, .iaload, 1), (2146, .aload_n 3, 1), (2147, .invokestatic 225, 3), (2150, .istore 5, 2), (2152, .aload_n 2, 1), (2153, .aload_n 0, 1), (2154, .iload 4, 2), (2156, .iconst 1, 1), (2157, .iadd, 1), (2158, .iaload, 1), (2159, .aload_n 0, 1), (2160, .iload 4, 2), (2162, .iconst 2, 1), (2163, .iadd, 1), (2164, .iaload, 1), (2165, .aload_n 0, 1), (2166, .iload 4, 2), (2168, .iconst 3, 1), (2169, .iadd, 1), (2170, .iaload, 1), (2171, .invokevirtual 227, 3), (2174, .istore 6, 2), (2176, .aload_n 2, 1), (2177, .invokevirtual 126, 3), (2180, .iload 5, 2), (2182, .if_icmp .eq 5, 3), (2185, .iconst 0, 1), (2186, .ireturn, 1), (2187, .iload 5, 2), (2189, .ifCond .ne 15, 3), (2192, .aload_n 3, 1), (2193, .iconst 0, 1), (2194, .laload, 1), (2195, .iload 6, 2), (2197, .i2l, 1), (2198, .lcmp, 1), (2199, .ifCond .eq 5, 3), (2202, .iconst 0, 1), (2203, .ireturn, 1), (2204, .goto 287, 3)]
theorem dc_K_31 : kdecs code dl_K_31 = true := by decide +kernel
theorem wl_1520 : Cond.codeWith ky_L_jailed method_30_code 5 (some .int) [(0, 10, 13, 18), (0, 10, 17, 13)] ∈ kG := kG_of kch6 209 rfl rfl
theorem wl_1518 : Cond.methodLink "PoetFinesLaw" 228 ⟨"PoetFinesLaw", "jailed", "(LPoetFines;II[J)I"⟩ ∈ kG := kG_of kch6 207 rfl rfl
theorem wl_1519 : Cond.static ⟨"PoetFinesLaw", "jailed", "(LPoetFines;II[J)I"⟩ ∈ kG := kG_of kch6 208 rfl rfl
theorem ch_L_228 : kCh "PoetFinesLaw" 228 ky_L_jailed method_30_code 5 [(0, 10, 13, 18), (0, 10, 17, 13)] 4 := ⟨wl_1518, wl_111, wl_1520, ⟨by decide, by decide⟩, by decide +kernel, wl_1519⟩
theorem wl_2085 : Cond.methodLink "PoetFinesLaw" 230 ⟨"PoetFinesModel", "jailed", "(II)I"⟩ ∈ kG := kG_of kch9 54 rfl rfl
theorem wl_2088 : Cond.code ⟨"PoetFinesModel", "jailed", "(II)I"⟩ prog_14_method_88_code 3 (some .int) ∈ kG := kG_of kch9 57 rfl rfl
theorem wl_2086 : Cond.instanceMethod ⟨"PoetFinesModel", "jailed", "(II)I"⟩ ∈ kG := kG_of kch9 55 rfl rfl
theorem wl_2087 : Cond.selects "PoetFinesModel" ⟨"PoetFinesModel", "jailed", "(II)I"⟩ ⟨"PoetFinesModel", "jailed", "(II)I"⟩ ∈ kG := kG_of kch9 56 rfl rfl
theorem cv_L_230 : kCv "PoetFinesLaw" 230 ky_M_jailed prog_14_method_88_code 3 (some .int) 2 "PoetFinesModel" := ⟨⟨wl_2085, wl_123, wl_2088, ⟨by decide, by decide⟩, by decide +kernel⟩, wl_2086, wl_2087⟩
def dl_K_32 : List (Nat × Instr × Nat) := [(2207, .aload_n 1, 1), (2208, .aload_n 0, 1), (2209, .iload 4, 2), (2211, .iconst 1, 1), (2212, .iadd, 1), (2213, .iaload, 1), (2214, .aload_n 0, 1), (2215, .iload 4, 2), (2217, .iconst 2, 1), (2218, .iadd, 1), (2219, .iaload, 1), (2220, .aload_n 3, 1), (2221, .invokestatic 228, 3), (2224, .istore 5, 2), (2226, .aload_n 2, 1), (2227, .aload_n 0, 1), (2228, .iload 4, 2), (2230, .iconst 1, 1), (2231, .iadd, 1), (2232, .iaload, 1), (2233, .aload_n 0, 1), (2234, .iload 4, 2), (2236, .iconst 2, 1), (2237, .iadd, 1), (2238, .iaload, 1), (2239, .invokevirtual 230, 3), (2242, .istore 6, 2), (2244, .aload_n 2, 1), (2245, .invokevirtual 126, 3), (2248, .iload 5, 2), (2250, .if_icmp .eq 5, 3), (2253, .iconst 0, 1), (2254, .ireturn, 1), (2255, .iload 5, 2), (2257, .ifCond .ne 15, 3), (2260, .aload_n 3, 1), (2261, .iconst 0, 1), (2262, .laload, 1), (2263, .iload 6, 2), (2265, .i2l, 1), (2266, .lcmp, 1), (2267, .ifCond .eq 5, 3), (2270, .iconst 0, 1), (2271, .ireturn, 1), (2272, .goto 219, 3)]
theorem dc_K_32 : kdecs code dl_K_32 = true := by decide +kernel
theorem wl_1527 : Cond.codeWith ky_L_into method_31_code 6 (some .int) [(0, 12, 15, 18), (0, 12, 19, 13)] ∈ kG := kG_of kch6 216 rfl rfl
theorem wl_1525 : Cond.methodLink "PoetFinesLaw" 231 ⟨"PoetFinesLaw", "into", "(LPoetFines;III[J)I"⟩ ∈ kG := kG_of kch6 214 rfl rfl
theorem wl_1526 : Cond.static ⟨"PoetFinesLaw", "into", "(LPoetFines;III[J)I"⟩ ∈ kG := kG_of kch6 215 rfl rfl
theorem ch_L_231 : kCh "PoetFinesLaw" 231 ky_L_into method_31_code 6 [(0, 12, 15, 18), (0, 12, 19, 13)] 5 := ⟨wl_1525, wl_111, wl_1527, ⟨by decide, by decide⟩, by decide +kernel, wl_1526⟩
theorem wl_2089 : Cond.methodLink "PoetFinesLaw" 233 ⟨"PoetFinesModel", "into", "(III)I"⟩ ∈ kG := kG_of kch9 58 rfl rfl
theorem wl_2092 : Cond.code ⟨"PoetFinesModel", "into", "(III)I"⟩ prog_14_method_89_code 4 (some .int) ∈ kG := kG_of kch9 61 rfl rfl
theorem wl_2090 : Cond.instanceMethod ⟨"PoetFinesModel", "into", "(III)I"⟩ ∈ kG := kG_of kch9 59 rfl rfl
theorem wl_2091 : Cond.selects "PoetFinesModel" ⟨"PoetFinesModel", "into", "(III)I"⟩ ⟨"PoetFinesModel", "into", "(III)I"⟩ ∈ kG := kG_of kch9 60 rfl rfl
theorem cv_L_233 : kCv "PoetFinesLaw" 233 ky_M_into prog_14_method_89_code 4 (some .int) 3 "PoetFinesModel" := ⟨⟨wl_2089, wl_123, wl_2092, ⟨by decide, by decide⟩, by decide +kernel⟩, wl_2090, wl_2091⟩
def dl_K_33 : List (Nat × Instr × Nat) := [(2275, .aload_n 1, 1), (2276, .aload_n 0, 1), (2277, .iload 4, 2), (2279, .iconst 1, 1), (2280, .iadd, 1), (2281, .iaload, 1), (2282, .aload_n 0, 1), (2283, .iload 4, 2), (2285, .iconst 2, 1), (2286, .iadd, 1), (2287, .iaload, 1), (2288, .aload_n 0, 1), (2289, .iload 4, 2), (2291, .iconst 3, 1), (2292, .iadd, 1), (2293, .iaload, 1), (2294, .aload_n 3, 1), (2295, .invokestatic 231, 3), (2298, .istore 5, 2), (2300, .aload_n 2, 1), (2301, .aload_n 0, 1), (2302, .iload 4, 2), (2304, .iconst 1, 1), (2305, .iadd, 1), (2306, .iaload, 1), (2307, .aload_n 0, 1), (2308, .iload 4, 2), (2310, .iconst 2, 1), (2311, .iadd, 1), (2312, .iaload, 1), (2313, .aload_n 0, 1), (2314, .iload 4, 2), (2316, .iconst 3, 1), (2317, .iadd, 1), (2318, .iaload, 1), (2319, .invokevirtual 233, 3), (2322, .istore 6, 2), (2324, .aload_n 2, 1), (2325, .invokevirtual 126, 3), (2328, .iload 5, 2), (2330, .if_icmp .eq 5, 3), (2333, .iconst 0, 1), (2334, .ireturn, 1), (2335, .iload 5, 2), (2337, .ifCond .ne 15, 3), (2340, .aload_n 3, 1), (2341, .iconst 0, 1), (2342, .laload, 1), (2343, .iload 6, 2), (2345, .i2l, 1), (2346, .lcmp, 1), (2347, .ifCond .eq 5, 3), (2350, .iconst 0, 1), (2351, .ireturn, 1), (2352, .goto 139, 3)]
theorem dc_K_33 : kdecs code dl_K_33 = true := by decide +kernel
theorem wl_1534 : Cond.codeWith ky_L_laureate method_32_code 4 (some .int) [(0, 9, 12, 13)] ∈ kG := kG_of kch6 223 rfl rfl
theorem wl_1532 : Cond.methodLink "PoetFinesLaw" 234 ⟨"PoetFinesLaw", "laureate", "(LPoetFines;I[J)I"⟩ ∈ kG := kG_of kch6 221 rfl rfl
theorem wl_1533 : Cond.static ⟨"PoetFinesLaw", "laureate", "(LPoetFines;I[J)I"⟩ ∈ kG := kG_of kch6 222 rfl rfl
theorem ch_L_234 : kCh "PoetFinesLaw" 234 ky_L_laureate method_32_code 4 [(0, 9, 12, 13)] 3 := ⟨wl_1532, wl_111, wl_1534, ⟨by decide, by decide⟩, by decide +kernel, wl_1533⟩
theorem wl_2093 : Cond.methodLink "PoetFinesLaw" 236 ⟨"PoetFinesModel", "laureate", "(I)I"⟩ ∈ kG := kG_of kch9 62 rfl rfl
theorem wl_2096 : Cond.code ⟨"PoetFinesModel", "laureate", "(I)I"⟩ prog_14_method_90_code 4 (some .int) ∈ kG := kG_of kch9 65 rfl rfl
theorem wl_2094 : Cond.instanceMethod ⟨"PoetFinesModel", "laureate", "(I)I"⟩ ∈ kG := kG_of kch9 63 rfl rfl
theorem wl_2095 : Cond.selects "PoetFinesModel" ⟨"PoetFinesModel", "laureate", "(I)I"⟩ ⟨"PoetFinesModel", "laureate", "(I)I"⟩ ∈ kG := kG_of kch9 64 rfl rfl
theorem cv_L_236 : kCv "PoetFinesLaw" 236 ky_M_laureate prog_14_method_90_code 4 (some .int) 1 "PoetFinesModel" := ⟨⟨wl_2093, wl_123, wl_2096, ⟨by decide, by decide⟩, by decide +kernel⟩, wl_2094, wl_2095⟩
def dl_K_34 : List (Nat × Instr × Nat) := [(2355, .aload_n 1, 1), (2356, .aload_n 0, 1), (2357, .iload 4, 2), (2359, .iconst 1, 1), (2360, .iadd, 1), (2361, .iaload, 1), (2362, .aload_n 3, 1), (2363, .invokestatic 234, 3), (2366, .istore 5, 2), (2368, .aload_n 2, 1), (2369, .aload_n 0, 1), (2370, .iload 4, 2), (2372, .iconst 1, 1), (2373, .iadd, 1), (2374, .iaload, 1), (2375, .invokevirtual 236, 3), (2378, .istore 6, 2), (2380, .aload_n 2, 1), (2381, .invokevirtual 126, 3), (2384, .iload 5, 2), (2386, .if_icmp .eq 5, 3), (2389, .iconst 0, 1), (2390, .ireturn, 1), (2391, .iload 5, 2), (2393, .ifCond .ne 15, 3), (2396, .aload_n 3, 1), (2397, .iconst 0, 1), (2398, .laload, 1), (2399, .iload 6, 2), (2401, .i2l, 1), (2402, .lcmp, 1), (2403, .ifCond .eq 5, 3), (2406, .iconst 0, 1), (2407, .ireturn, 1), (2408, .goto 83, 3)]
theorem dc_K_34 : kdecs code dl_K_34 = true := by decide +kernel
theorem wl_1545 : Cond.codeWith ky_L_plaintiff method_33_code 4 (some .int) [(0, 9, 12, 18)] ∈ kG := kG_of kch6 234 rfl rfl
theorem wl_1543 : Cond.methodLink "PoetFinesLaw" 237 ⟨"PoetFinesLaw", "plaintiff", "(LPoetFines;I[J)I"⟩ ∈ kG := kG_of kch6 232 rfl rfl
theorem wl_1544 : Cond.static ⟨"PoetFinesLaw", "plaintiff", "(LPoetFines;I[J)I"⟩ ∈ kG := kG_of kch6 233 rfl rfl
theorem ch_L_237 : kCh "PoetFinesLaw" 237 ky_L_plaintiff method_33_code 4 [(0, 9, 12, 18)] 3 := ⟨wl_1543, wl_111, wl_1545, ⟨by decide, by decide⟩, by decide +kernel, wl_1544⟩
theorem wl_2120 : Cond.methodLink "PoetFinesLaw" 239 ⟨"PoetFinesModel", "plaintiff", "(I)I"⟩ ∈ kG := kG_of kch9 89 rfl rfl
theorem wl_2123 : Cond.code ⟨"PoetFinesModel", "plaintiff", "(I)I"⟩ prog_14_method_96_code 6 (some .int) ∈ kG := kG_of kch9 92 rfl rfl
theorem wl_2121 : Cond.instanceMethod ⟨"PoetFinesModel", "plaintiff", "(I)I"⟩ ∈ kG := kG_of kch9 90 rfl rfl
theorem wl_2122 : Cond.selects "PoetFinesModel" ⟨"PoetFinesModel", "plaintiff", "(I)I"⟩ ⟨"PoetFinesModel", "plaintiff", "(I)I"⟩ ∈ kG := kG_of kch9 91 rfl rfl
theorem cv_L_239 : kCv "PoetFinesLaw" 239 ky_M_plaintiff prog_14_method_96_code 6 (some .int) 1 "PoetFinesModel" := ⟨⟨wl_2120, wl_123, wl_2123, ⟨by decide, by decide⟩, by decide +kernel⟩, wl_2121, wl_2122⟩
def dl_K_35 : List (Nat × Instr × Nat) := [(2411, .aload_n 1, 1), (2412, .aload_n 0, 1), (2413, .iload 4, 2), (2415, .iconst 1, 1), (2416, .iadd, 1), (2417, .iaload, 1), (2418, .aload_n 3, 1), (2419, .invokestatic 237, 3), (2422, .istore 5, 2), (2424, .aload_n 2, 1), (2425, .aload_n 0, 1), (2426, .iload 4, 2), (2428, .iconst 1, 1), (2429, .iadd, 1), (2430, .iaload, 1), (2431, .invokevirtual 239, 3), (2434, .istore 6, 2), (2436, .aload_n 2, 1), (2437, .invokevirtual 126, 3), (2440, .iload 5, 2), (2442, .if_icmp .eq 5, 3), (2445, .iconst 0, 1), (2446, .ireturn, 1), (2447, .iload 5, 2), (2449, .ifCond .ne 15, 3), (2452, .aload_n 3, 1), (2453, .iconst 0, 1), (2454, .laload, 1), (2455, .iload 6, 2), (2457, .i2l, 1), (2458, .lcmp, 1), (2459, .ifCond .eq 5, 3), (2462, .iconst 0, 1), (2463, .ireturn, 1), (2464, .goto 27, 3)]
theorem dc_K_35 : kdecs code dl_K_35 = true := by decide +kernel
theorem wl_662 : Cond.methodLink "PoetFinesLaw" 240 ⟨"PoetFines", "image", "()V"⟩ ∈ kG := kG_of kch3 71 rfl rfl
theorem wl_665 : Cond.code ⟨"PoetFines", "image", "()V"⟩ prog_1_method_38_code 1 none ∈ kG := kG_of kch3 74 rfl rfl
theorem wl_663 : Cond.instanceMethod ⟨"PoetFines", "image", "()V"⟩ ∈ kG := kG_of kch3 72 rfl rfl
theorem wl_664 : Cond.selects "PoetFines" ⟨"PoetFines", "image", "()V"⟩ ⟨"PoetFines", "image", "()V"⟩ ∈ kG := kG_of kch3 73 rfl rfl
theorem cv_L_240 : kCv "PoetFinesLaw" 240 ky_P_image prog_1_method_38_code 1 none 0 "PoetFines" := ⟨⟨wl_662, wl_112, wl_665, ⟨by decide, by decide⟩, by decide +kernel⟩, wl_663, wl_664⟩
theorem wl_2193 : Cond.methodLink "PoetFinesLaw" 243 ⟨"PoetFinesModel", "image", "()V"⟩ ∈ kG := kG_of kch9 162 rfl rfl
theorem wl_2196 : Cond.code ⟨"PoetFinesModel", "image", "()V"⟩ prog_14_method_114_code 2 none ∈ kG := kG_of kch9 165 rfl rfl
theorem wl_2194 : Cond.instanceMethod ⟨"PoetFinesModel", "image", "()V"⟩ ∈ kG := kG_of kch9 163 rfl rfl
theorem wl_2195 : Cond.selects "PoetFinesModel" ⟨"PoetFinesModel", "image", "()V"⟩ ⟨"PoetFinesModel", "image", "()V"⟩ ∈ kG := kG_of kch9 164 rfl rfl
theorem cv_L_243 : kCv "PoetFinesLaw" 243 ky_M_image prog_14_method_114_code 2 none 0 "PoetFinesModel" := ⟨⟨wl_2193, wl_123, wl_2196, ⟨by decide, by decide⟩, by decide +kernel⟩, wl_2194, wl_2195⟩
def dl_K_36 : List (Nat × Instr × Nat) := [(2467, .aload_n 1, 1), (2468, .invokevirtual 240, 3), (2471, .aload_n 2, 1), (2472, .invokevirtual 243, 3), (2475, .goto 16, 3)]
theorem dc_K_36 : kdecs code dl_K_36 = true := by decide +kernel
theorem wl_675 : Cond.methodLink "PoetFinesLaw" 244 ⟨"PoetFines", "restore", "()Z"⟩ ∈ kG := kG_of kch3 84 rfl rfl
theorem wl_678 : Cond.code ⟨"PoetFines", "restore", "()Z"⟩ prog_1_method_39_code 1 (some .boolean) ∈ kG := kG_of kch3 87 rfl rfl
theorem wl_676 : Cond.instanceMethod ⟨"PoetFines", "restore", "()Z"⟩ ∈ kG := kG_of kch3 85 rfl rfl
theorem wl_677 : Cond.selects "PoetFines" ⟨"PoetFines", "restore", "()Z"⟩ ⟨"PoetFines", "restore", "()Z"⟩ ∈ kG := kG_of kch3 86 rfl rfl
theorem cv_L_244 : kCv "PoetFinesLaw" 244 ky_P_restore prog_1_method_39_code 1 (some .boolean) 0 "PoetFines" := ⟨⟨wl_675, wl_112, wl_678, ⟨by decide, by decide⟩, by decide +kernel⟩, wl_676, wl_677⟩
theorem wl_2197 : Cond.methodLink "PoetFinesLaw" 248 ⟨"PoetFinesModel", "restore", "()Z"⟩ ∈ kG := kG_of kch9 166 rfl rfl
theorem wl_2200 : Cond.code ⟨"PoetFinesModel", "restore", "()Z"⟩ prog_14_method_115_code 2 (some .boolean) ∈ kG := kG_of kch9 169 rfl rfl
theorem wl_2198 : Cond.instanceMethod ⟨"PoetFinesModel", "restore", "()Z"⟩ ∈ kG := kG_of kch9 167 rfl rfl
theorem wl_2199 : Cond.selects "PoetFinesModel" ⟨"PoetFinesModel", "restore", "()Z"⟩ ⟨"PoetFinesModel", "restore", "()Z"⟩ ∈ kG := kG_of kch9 168 rfl rfl
theorem cv_L_248 : kCv "PoetFinesLaw" 248 ky_M_restore prog_14_method_115_code 2 (some .boolean) 0 "PoetFinesModel" := ⟨⟨wl_2197, wl_123, wl_2200, ⟨by decide, by decide⟩, by decide +kernel⟩, wl_2198, wl_2199⟩
def dl_K_37 : List (Nat × Instr × Nat) := [(2478, .aload_n 1, 1), (2479, .invokevirtual 244, 3), (2482, .aload_n 2, 1), (2483, .invokevirtual 248, 3), (2486, .if_icmp .eq 5, 3), (2489, .iconst 0, 1), (2490, .ireturn, 1)]
theorem dc_K_37 : kdecs code dl_K_37 = true := by decide +kernel
