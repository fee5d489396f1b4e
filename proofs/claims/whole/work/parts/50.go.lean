/-! ===== rules for runs: one for each instruction (printed by program) ===== -/
def wSH : List sm_S := [.inl (0, [some (some 1), some (some 8), some (some 12), some (some 17), some (some 36), none]), .inl (1, [some (some 2), some (some 3), some (some 4), some (some 5), some (some 6), some (some 7), none]), .inr (.inl (0, 900)), .inr (.inl (0, 900)), .inr (.inl (0, 900)), .inr (.inl (1, 900)), .inr (.inl (0, 901)), .inr (.inl (0, 900)), .inl (2, [some (some 9), some (some 10), some (some 11)]), .inr (.inl (0, 6)), .inr (.inl (0, 12)), .inr (.inl (0, 3)), .inl (3, [some (some 13), some (some 14), some (some 15), some (some 16), none]), .inr (.inl (0, 12)), .inr (.inl (0, 12)), .inr (.inl (0, 12)), .inr (.inl (0, 12)), .inr (.inr (.inr (3, [some 18, some 24, some 30]))), .inl (4, [some (some 19), some (some 23), none, none]), .inl (5, [none, none, none, some (some 20), some (some 21), none, some (some 22)]), .inr (.inl (0, 3)), .inr (.inl (0, 12)), .inr (.inl (0, 24)), .inr (.inl (0, 3)), .inl (4, [some (some 25), some (some 29), none, none]), .inl (5, [none, none, none, some (some 26), some (some 27), none, some (some 28)]), .inr (.inl (0, 3)), .inr (.inl (0, 12)), .inr (.inl (0, 24)), .inr (.inl (0, 3)), .inl (4, [some (some 31), some (some 35), none, none]), .inl (5, [none, none, none, some (some 32), some (some 33), none, some (some 34)]), .inr (.inl (0, 3)), .inr (.inl (0, 12)), .inr (.inl (0, 24)), .inr (.inl (0, 3)), .inl (5, [none, none, none, some (some 37), some (some 38), none, some (some 39)]), .inr (.inl (0, 3)), .inr (.inl (0, 12)), .inr (.inl (0, 24)), .inl (6, [none, none, some (some 41), some (some 42), some (some 43), some (some 44), some (some 45), none, some (some 46), some (some 47), some (some 48), some (some 49), some (some 50), some (some 51), some (some 52), some (some 53), some (some 54), some (some 55), some (some 56), some (some 57), none, some (some 58), some (some 59), some (some 60), some (some 61), none, none, none]), .inr (.inl (0, 900)), .inr (.inl (0, 900)), .inr (.inl (0, 900)), .inr (.inl (1, 900)), .inr (.inl (1, 900)), .inr (.inl (0, 5)), .inr (.inl (0, 5)), .inr (.inl (0, 5)), .inr (.inl (0, 15)), .inr (.inl (0, 5)), .inr (.inl (0, 72)), .inr (.inl (0, 72)), .inr (.inl (0, 72)), .inr (.inl (0, 72)), .inr (.inl (1, 3)), .inr (.inl (0, 9)), .inr (.inl (0, 3)), .inr (.inl (0, 12)), .inr (.inl (0, 12)), .inr (.inl (0, 12)), .inr (.inl (0, 12)), .inr (.inr (.inl 1))]
def cN (n : Int) : Prop := Int32.ofInt n = nI n.toNat
theorem ci_m1 : Int32.ofInt (-1) = -1 := by decide +kernel
theorem ci_0 : Int32.ofInt 0 = nI 0 := by decide +kernel
theorem ci_1 : Int32.ofInt 1 = nI 1 := by decide +kernel
theorem ci_2 : Int32.ofInt 2 = nI 2 := by decide +kernel
theorem ci_3 : Int32.ofInt 3 = nI 3 := by decide +kernel
theorem ci_4 : Int32.ofInt 4 = nI 4 := by decide +kernel
theorem ci_5 : Int32.ofInt 5 = nI 5 := by decide +kernel
theorem cb_m2 : (Int8.ofInt (-2)).toInt32 = -2 := by decide +kernel
theorem cb_6 : (Int8.ofInt 6).toInt32 = nI 6 := by decide +kernel
theorem cb_7 : (Int8.ofInt 7).toInt32 = nI 7 := by decide +kernel
theorem cb_8 : (Int8.ofInt 8).toInt32 = nI 8 := by decide +kernel
theorem cb_9 : (Int8.ofInt 9).toInt32 = nI 9 := by decide +kernel
theorem cb_10 : (Int8.ofInt 10).toInt32 = nI 10 := by decide +kernel
theorem cb_11 : (Int8.ofInt 11).toInt32 = nI 11 := by decide +kernel
theorem cb_12 : (Int8.ofInt 12).toInt32 = nI 12 := by decide +kernel
theorem cb_13 : (Int8.ofInt 13).toInt32 = nI 13 := by decide +kernel
theorem cb_15 : (Int8.ofInt 15).toInt32 = nI 15 := by decide +kernel
theorem cb_24 : (Int8.ofInt 24).toInt32 = nI 24 := by decide +kernel
theorem cb_30 : (Int8.ofInt 30).toInt32 = nI 30 := by decide +kernel
theorem cb_31 : (Int8.ofInt 31).toInt32 = nI 31 := by decide +kernel
theorem cb_36 : (Int8.ofInt 36).toInt32 = nI 36 := by decide +kernel
theorem cb_48 : (Int8.ofInt 48).toInt32 = nI 48 := by decide +kernel
theorem cb_63 : (Int8.ofInt 63).toInt32 = nI 63 := by decide +kernel
theorem cb_64 : (Int8.ofInt 64).toInt32 = nI 64 := by decide +kernel
theorem cb_72 : (Int8.ofInt 72).toInt32 = nI 72 := by decide +kernel
theorem cb_100 : (Int8.ofInt 100).toInt32 = nI 100 := by decide +kernel
theorem cb_127 : (Int8.ofInt 127).toInt32 = nI 127 := by decide +kernel
theorem cs_163 : (Int16.ofInt 163).toInt32 = nI 163 := by decide +kernel
theorem cs_900 : (Int16.ofInt 900).toInt32 = nI 900 := by decide +kernel
theorem cs_901 : (Int16.ofInt 901).toInt32 = nI 901 := by decide +kernel
theorem cs_1000 : (Int16.ofInt 1000).toInt32 = nI 1000 := by decide +kernel
theorem cl_0_1 : tb_fd tb_CL 0 1 = some (0, 0, 1) := by decide +kernel
theorem cl_0_9 : tb_fd tb_CL 0 9 = some (5, 28, 1) := by decide +kernel
theorem cl_0_18 : tb_fd tb_CL 0 18 = some (5, 43, 1) := by decide +kernel
theorem cl_0_25 : tb_fd tb_CL 0 25 = some (5, 54, 1) := by decide +kernel
theorem cl_0_36 : tb_fd tb_CL 0 36 = some (5, 57, 1) := by decide +kernel
theorem cl_0_39 : tb_fd tb_CL 0 39 = some (5, 58, 1) := by decide +kernel
theorem cl_0_48 : tb_fd tb_CL 0 48 = some (3, 2, 2) := by decide +kernel
theorem cl_0_52 : tb_fd tb_CL 0 52 = some (3, 19, 1) := by decide +kernel
theorem cl_0_66 : tb_fd tb_CL 0 66 = some (3, 22, 1) := by decide +kernel
theorem cl_0_77 : tb_fd tb_CL 0 77 = some (4, 69, 2) := by decide +kernel
theorem cl_0_81 : tb_fd tb_CL 0 81 = some (4, 70, 2) := by decide +kernel
theorem cl_0_85 : tb_fd tb_CL 0 85 = some (3, 125, 4) := by decide +kernel
theorem cl_0_91 : tb_fd tb_CL 0 91 = some (4, 62, 2) := by decide +kernel
theorem cl_0_94 : tb_fd tb_CL 0 94 = some (4, 71, 3) := by decide +kernel
theorem cl_0_101 : tb_fd tb_CL 0 101 = some (4, 59, 4) := by decide +kernel
theorem cl_0_105 : tb_fd tb_CL 0 105 = some (4, 56, 5) := by decide +kernel
theorem cl_0_109 : tb_fd tb_CL 0 109 = some (4, 50, 3) := by decide +kernel
theorem cl_0_116 : tb_fd tb_CL 0 116 = some (4, 35, 2) := by decide +kernel
theorem cl_0_132 : tb_fd tb_CL 0 132 = some (4, 55, 2) := by decide +kernel
theorem cl_0_135 : tb_fd tb_CL 0 135 = some (4, 3, 3) := by decide +kernel
theorem cl_0_139 : tb_fd tb_CL 0 139 = some (4, 4, 2) := by decide +kernel
theorem cl_0_142 : tb_fd tb_CL 0 142 = some (4, 38, 2) := by decide +kernel
theorem cl_0_146 : tb_fd tb_CL 0 146 = some (4, 39, 4) := by decide +kernel
theorem cl_0_150 : tb_fd tb_CL 0 150 = some (4, 31, 2) := by decide +kernel
theorem cl_0_153 : tb_fd tb_CL 0 153 = some (4, 33, 2) := by decide +kernel
theorem cl_0_156 : tb_fd tb_CL 0 156 = some (4, 32, 2) := by decide +kernel
theorem cl_0_159 : tb_fd tb_CL 0 159 = some (4, 40, 4) := by decide +kernel
theorem cl_0_168 : tb_fd tb_CL 0 168 = some (4, 44, 4) := by decide +kernel
theorem cl_0_172 : tb_fd tb_CL 0 172 = some (4, 64, 2) := by decide +kernel
theorem cl_0_176 : tb_fd tb_CL 0 176 = some (4, 65, 2) := by decide +kernel
theorem cl_0_180 : tb_fd tb_CL 0 180 = some (2, 0, 5) := by decide +kernel
theorem cl_1_3 : tb_fd tb_CL 1 3 = some (0, 0, 1) := by decide +kernel
theorem cl_1_31 : tb_fd tb_CL 1 31 = some (3, 140, 2) := by decide +kernel
theorem cl_1_41 : tb_fd tb_CL 1 41 = some (3, 2, 2) := by decide +kernel
theorem cl_1_45 : tb_fd tb_CL 1 45 = some (4, 31, 2) := by decide +kernel
theorem cl_1_49 : tb_fd tb_CL 1 49 = some (4, 30, 3) := by decide +kernel
theorem cl_1_53 : tb_fd tb_CL 1 53 = some (4, 40, 4) := by decide +kernel
theorem cl_1_57 : tb_fd tb_CL 1 57 = some (4, 39, 4) := by decide +kernel
theorem cl_1_60 : tb_fd tb_CL 1 60 = some (4, 36, 1) := by decide +kernel
theorem cl_1_63 : tb_fd tb_CL 1 63 = some (4, 37, 2) := by decide +kernel
theorem cl_2_3 : tb_fd tb_CL 2 3 = some (0, 0, 1) := by decide +kernel
theorem cl_2_27 : tb_fd tb_CL 2 27 = some (4, 51, 3) := by decide +kernel
theorem cl_2_36 : tb_fd tb_CL 2 36 = some (4, 39, 4) := by decide +kernel
theorem cl_2_40 : tb_fd tb_CL 2 40 = some (4, 52, 3) := by decide +kernel
theorem cl_2_44 : tb_fd tb_CL 2 44 = some (4, 41, 4) := by decide +kernel
theorem cl_2_48 : tb_fd tb_CL 2 48 = some (4, 42, 2) := by decide +kernel
theorem cl_2_65 : tb_fd tb_CL 2 65 = some (4, 53, 3) := by decide +kernel
theorem cl_2_69 : tb_fd tb_CL 2 69 = some (3, 129, 1) := by decide +kernel
theorem cl_2_75 : tb_fd tb_CL 2 75 = some (3, 127, 1) := by decide +kernel
theorem cl_2_78 : tb_fd tb_CL 2 78 = some (3, 126, 1) := by decide +kernel
theorem cl_2_81 : tb_fd tb_CL 2 81 = some (3, 130, 1) := by decide +kernel
theorem cl_2_84 : tb_fd tb_CL 2 84 = some (4, 29, 3) := by decide +kernel
theorem cl_2_88 : tb_fd tb_CL 2 88 = some (4, 30, 3) := by decide +kernel
theorem cl_2_91 : tb_fd tb_CL 2 91 = some (4, 31, 2) := by decide +kernel
theorem cl_2_94 : tb_fd tb_CL 2 94 = some (4, 32, 2) := by decide +kernel
theorem cl_2_97 : tb_fd tb_CL 2 97 = some (4, 33, 2) := by decide +kernel
theorem cl_2_100 : tb_fd tb_CL 2 100 = some (4, 34, 3) := by decide +kernel
theorem cl_2_103 : tb_fd tb_CL 2 103 = some (3, 45, 3) := by decide +kernel
theorem cl_2_107 : tb_fd tb_CL 2 107 = some (3, 47, 3) := by decide +kernel
theorem cl_2_110 : tb_fd tb_CL 2 110 = some (3, 48, 3) := by decide +kernel
theorem cl_2_113 : tb_fd tb_CL 2 113 = some (3, 46, 2) := by decide +kernel
theorem cl_2_116 : tb_fd tb_CL 2 116 = some (4, 59, 4) := by decide +kernel
theorem cl_2_120 : tb_fd tb_CL 2 120 = some (3, 2, 2) := by decide +kernel
theorem cl_2_124 : tb_fd tb_CL 2 124 = some (3, 49, 2) := by decide +kernel
theorem cl_2_127 : tb_fd tb_CL 2 127 = some (4, 60, 2) := by decide +kernel
theorem cl_2_131 : tb_fd tb_CL 2 131 = some (4, 62, 2) := by decide +kernel
theorem cl_2_134 : tb_fd tb_CL 2 134 = some (3, 125, 4) := by decide +kernel
theorem cl_3_3 : tb_fd tb_CL 3 3 = some (0, 0, 1) := by decide +kernel
theorem cl_4_3 : tb_fd tb_CL 4 3 = some (0, 0, 1) := by decide +kernel
theorem cl_4_11 : tb_fd tb_CL 4 11 = some (5, 58, 1) := by decide +kernel
theorem cl_5_3 : tb_fd tb_CL 5 3 = some (0, 0, 1) := by decide +kernel
theorem cl_5_34 : tb_fd tb_CL 5 34 = some (3, 129, 1) := by decide +kernel
theorem cl_5_40 : tb_fd tb_CL 5 40 = some (3, 130, 1) := by decide +kernel
theorem cl_5_43 : tb_fd tb_CL 5 43 = some (3, 63, 3) := by decide +kernel
theorem cl_5_47 : tb_fd tb_CL 5 47 = some (3, 127, 1) := by decide +kernel
theorem cl_5_50 : tb_fd tb_CL 5 50 = some (3, 2, 2) := by decide +kernel
theorem cl_5_54 : tb_fd tb_CL 5 54 = some (3, 126, 1) := by decide +kernel
theorem cl_5_57 : tb_fd tb_CL 5 57 = some (4, 66, 2) := by decide +kernel
theorem cl_5_61 : tb_fd tb_CL 5 61 = some (4, 61, 2) := by decide +kernel
theorem cl_5_64 : tb_fd tb_CL 5 64 = some (2, 0, 5) := by decide +kernel
theorem cl_5_70 : tb_fd tb_CL 5 70 = some (4, 67, 2) := by decide +kernel
theorem cl_5_74 : tb_fd tb_CL 5 74 = some (4, 68, 2) := by decide +kernel
theorem cl_5_77 : tb_fd tb_CL 5 77 = some (1, 0, 2) := by decide +kernel
theorem cl_5_83 : tb_fd tb_CL 5 83 = some (4, 59, 4) := by decide +kernel
theorem cl_5_87 : tb_fd tb_CL 5 87 = some (3, 128, 1) := by decide +kernel
theorem cl_6_1 : tb_fd tb_CL 6 1 = some (0, 0, 1) := by decide +kernel
theorem cl_6_84 : tb_fd tb_CL 6 84 = some (4, 93, 4) := by decide +kernel
theorem cl_6_92 : tb_fd tb_CL 6 92 = some (4, 92, 4) := by decide +kernel
theorem cl_6_95 : tb_fd tb_CL 6 95 = some (4, 94, 2) := by decide +kernel
theorem cl_6_99 : tb_fd tb_CL 6 99 = some (4, 81, 6) := by decide +kernel
theorem cl_6_103 : tb_fd tb_CL 6 103 = some (4, 83, 3) := by decide +kernel
theorem cl_6_107 : tb_fd tb_CL 6 107 = some (4, 80, 3) := by decide +kernel
theorem cl_6_111 : tb_fd tb_CL 6 111 = some (4, 107, 3) := by decide +kernel
theorem cl_6_114 : tb_fd tb_CL 6 114 = some (4, 105, 4) := by decide +kernel
theorem cl_6_118 : tb_fd tb_CL 6 118 = some (4, 82, 2) := by decide +kernel
theorem cl_6_128 : tb_fd tb_CL 6 128 = some (4, 100, 3) := by decide +kernel
theorem cl_6_131 : tb_fd tb_CL 6 131 = some (4, 102, 1) := by decide +kernel
theorem cl_6_135 : tb_fd tb_CL 6 135 = some (4, 101, 3) := by decide +kernel
theorem cl_6_139 : tb_fd tb_CL 6 139 = some (4, 103, 2) := by decide +kernel
theorem cl_6_142 : tb_fd tb_CL 6 142 = some (4, 104, 2) := by decide +kernel
theorem cl_6_148 : tb_fd tb_CL 6 148 = some (4, 99, 2) := by decide +kernel
theorem cl_6_152 : tb_fd tb_CL 6 152 = some (4, 106, 2) := by decide +kernel
theorem cl_6_155 : tb_fd tb_CL 6 155 = some (4, 108, 2) := by decide +kernel
theorem cl_6_158 : tb_fd tb_CL 6 158 = some (3, 75, 1) := by decide +kernel
theorem cl_6_161 : tb_fd tb_CL 6 161 = some (4, 78, 3) := by decide +kernel
theorem cl_6_165 : tb_fd tb_CL 6 165 = some (4, 79, 4) := by decide +kernel
theorem cl_6_169 : tb_fd tb_CL 6 169 = some (4, 88, 5) := by decide +kernel
theorem cl_6_173 : tb_fd tb_CL 6 173 = some (4, 91, 2) := by decide +kernel
theorem cl_6_176 : tb_fd tb_CL 6 176 = some (4, 95, 3) := by decide +kernel
theorem cl_6_179 : tb_fd tb_CL 6 179 = some (4, 90, 2) := by decide +kernel
theorem cl_6_182 : tb_fd tb_CL 6 182 = some (4, 97, 2) := by decide +kernel
theorem cl_6_185 : tb_fd tb_CL 6 185 = some (4, 98, 3) := by decide +kernel
theorem cl_6_188 : tb_fd tb_CL 6 188 = some (4, 114, 2) := by decide +kernel
theorem cl_6_191 : tb_fd tb_CL 6 191 = some (4, 115, 1) := by decide +kernel
theorem cl_6_194 : tb_fd tb_CL 6 194 = some (4, 113, 2) := by decide +kernel
theorem cl_8_7 : tb_fd tb_CL 8 7 = some (4, 18, 3) := by decide +kernel
theorem cl_8_15 : tb_fd tb_CL 8 15 = some (4, 20, 2) := by decide +kernel
theorem cl_8_19 : tb_fd tb_CL 8 19 = some (4, 21, 4) := by decide +kernel
theorem cl_8_25 : tb_fd tb_CL 8 25 = some (4, 23, 3) := by decide +kernel
theorem cl_8_29 : tb_fd tb_CL 8 29 = some (4, 24, 4) := by decide +kernel
theorem cl_8_32 : tb_fd tb_CL 8 32 = some (4, 25, 3) := by decide +kernel
theorem cl_8_35 : tb_fd tb_CL 8 35 = some (4, 26, 2) := by decide +kernel
theorem cl_8_38 : tb_fd tb_CL 8 38 = some (4, 27, 2) := by decide +kernel
theorem cl_8_42 : tb_fd tb_CL 8 42 = some (5, 0, 1) := by decide +kernel
theorem cl_8_45 : tb_fd tb_CL 8 45 = some (5, 72, 1) := by decide +kernel
theorem cl_8_46 : tb_fd tb_CL 8 46 = some (3, 131, 4) := by decide +kernel
theorem cl_8_51 : tb_fd tb_CL 8 51 = some (4, 74, 3) := by decide +kernel
theorem cl_8_52 : tb_fd tb_CL 8 52 = some (4, 73, 1) := by decide +kernel
theorem cl_8_56 : tb_fd tb_CL 8 56 = some (3, 132, 3) := by decide +kernel
theorem cl_8_59 : tb_fd tb_CL 8 59 = some (4, 76, 2) := by decide +kernel
theorem cl_8_60 : tb_fd tb_CL 8 60 = some (3, 133, 5) := by decide +kernel
theorem cl_8_63 : tb_fd tb_CL 8 63 = some (4, 77, 4) := by decide +kernel
theorem cl_8_64 : tb_fd tb_CL 8 64 = some (3, 134, 4) := by decide +kernel
theorem cl_8_66 : tb_fd tb_CL 8 66 = some (4, 84, 3) := by decide +kernel
theorem cl_8_67 : tb_fd tb_CL 8 67 = some (3, 135, 5) := by decide +kernel
theorem cl_8_69 : tb_fd tb_CL 8 69 = some (4, 85, 4) := by decide +kernel
theorem cl_8_70 : tb_fd tb_CL 8 70 = some (3, 136, 4) := by decide +kernel
theorem cl_8_72 : tb_fd tb_CL 8 72 = some (4, 86, 3) := by decide +kernel
theorem cl_8_73 : tb_fd tb_CL 8 73 = some (3, 137, 3) := by decide +kernel
theorem cl_8_75 : tb_fd tb_CL 8 75 = some (4, 87, 2) := by decide +kernel
theorem cl_8_76 : tb_fd tb_CL 8 76 = some (3, 138, 3) := by decide +kernel
theorem cl_8_78 : tb_fd tb_CL 8 78 = some (4, 89, 2) := by decide +kernel
theorem cl_8_79 : tb_fd tb_CL 8 79 = some (4, 1, 2) := by decide +kernel
theorem cl_8_82 : tb_fd tb_CL 8 82 = some (4, 96, 2) := by decide +kernel
theorem cl_8_83 : tb_fd tb_CL 8 83 = some (4, 5, 2) := by decide +kernel
theorem cl_8_86 : tb_fd tb_CL 8 86 = some (4, 109, 2) := by decide +kernel
theorem cl_8_87 : tb_fd tb_CL 8 87 = some (4, 6, 3) := by decide +kernel
theorem cl_8_90 : tb_fd tb_CL 8 90 = some (4, 110, 3) := by decide +kernel
theorem cl_8_91 : tb_fd tb_CL 8 91 = some (4, 7, 1) := by decide +kernel
theorem cl_8_94 : tb_fd tb_CL 8 94 = some (4, 111, 1) := by decide +kernel
theorem cl_8_95 : tb_fd tb_CL 8 95 = some (4, 8, 3) := by decide +kernel
theorem cl_8_98 : tb_fd tb_CL 8 98 = some (4, 112, 3) := by decide +kernel
theorem cl_8_99 : tb_fd tb_CL 8 99 = some (4, 9, 2) := by decide +kernel
theorem cl_8_102 : tb_fd tb_CL 8 102 = some (4, 116, 2) := by decide +kernel
theorem cl_8_103 : tb_fd tb_CL 8 103 = some (4, 10, 4) := by decide +kernel
theorem cl_8_106 : tb_fd tb_CL 8 106 = some (4, 117, 4) := by decide +kernel
theorem cl_8_107 : tb_fd tb_CL 8 107 = some (4, 11, 2) := by decide +kernel
theorem cl_8_110 : tb_fd tb_CL 8 110 = some (4, 118, 2) := by decide +kernel
theorem cl_8_111 : tb_fd tb_CL 8 111 = some (4, 12, 2) := by decide +kernel
theorem cl_8_114 : tb_fd tb_CL 8 114 = some (4, 119, 2) := by decide +kernel
theorem cl_8_115 : tb_fd tb_CL 8 115 = some (4, 13, 2) := by decide +kernel
theorem cl_8_118 : tb_fd tb_CL 8 118 = some (4, 120, 2) := by decide +kernel
theorem cl_8_119 : tb_fd tb_CL 8 119 = some (4, 14, 3) := by decide +kernel
theorem cl_8_122 : tb_fd tb_CL 8 122 = some (4, 121, 3) := by decide +kernel
theorem cl_8_123 : tb_fd tb_CL 8 123 = some (4, 15, 2) := by decide +kernel
theorem cl_8_126 : tb_fd tb_CL 8 126 = some (4, 122, 2) := by decide +kernel
theorem cl_8_127 : tb_fd tb_CL 8 127 = some (4, 16, 3) := by decide +kernel
theorem cl_8_130 : tb_fd tb_CL 8 130 = some (4, 123, 3) := by decide +kernel
theorem cl_8_131 : tb_fd tb_CL 8 131 = some (4, 17, 1) := by decide +kernel
theorem cl_8_134 : tb_fd tb_CL 8 134 = some (4, 124, 1) := by decide +kernel
theorem fl_0_10 : tb_fd tb_FL 0 10 = some (0, 0, 2) := by decide +kernel
theorem fl_0_19 : tb_fd tb_FL 0 19 = some (0, 1, 2) := by decide +kernel
theorem fl_0_26 : tb_fd tb_FL 0 26 = some (0, 2, 2) := by decide +kernel
theorem fl_0_32 : tb_fd tb_FL 0 32 = some (0, 3, 2) := by decide +kernel
theorem fl_0_40 : tb_fd tb_FL 0 40 = some (0, 4, 2) := by decide +kernel
theorem fl_0_44 : tb_fd tb_FL 0 44 = some (0, 5, 0) := by decide +kernel
theorem fl_0_56 : tb_fd tb_FL 0 56 = some (4, 3, 1) := by decide +kernel
theorem fl_0_60 : tb_fd tb_FL 0 60 = some (4, 0, 2) := by decide +kernel
theorem fl_0_63 : tb_fd tb_FL 0 63 = some (5, 2, 0) := by decide +kernel
theorem fl_0_70 : tb_fd tb_FL 0 70 = some (5, 3, 2) := by decide +kernel
theorem fl_0_74 : tb_fd tb_FL 0 74 = some (5, 5, 0) := by decide +kernel
theorem fl_0_98 : tb_fd tb_FL 0 98 = some (5, 0, 0) := by decide +kernel
theorem fl_0_113 : tb_fd tb_FL 0 113 = some (4, 2, 0) := by decide +kernel
theorem fl_0_119 : tb_fd tb_FL 0 119 = some (3, 4, 0) := by decide +kernel
theorem fl_0_120 : tb_fd tb_FL 0 120 = some (3, 0, 2) := by decide +kernel
theorem fl_0_123 : tb_fd tb_FL 0 123 = some (3, 1, 2) := by decide +kernel
theorem fl_0_126 : tb_fd tb_FL 0 126 = some (3, 2, 2) := by decide +kernel
theorem fl_0_129 : tb_fd tb_FL 0 129 = some (3, 3, 2) := by decide +kernel
theorem fl_0_162 : tb_fd tb_FL 0 162 = some (4, 1, 2) := by decide +kernel
theorem fl_0_165 : tb_fd tb_FL 0 165 = some (5, 1, 0) := by decide +kernel
theorem fl_1_9 : tb_fd tb_FL 1 9 = some (1, 0, 2) := by decide +kernel
theorem fl_1_15 : tb_fd tb_FL 1 15 = some (1, 1, 2) := by decide +kernel
theorem fl_1_18 : tb_fd tb_FL 1 18 = some (1, 2, 2) := by decide +kernel
theorem fl_1_21 : tb_fd tb_FL 1 21 = some (1, 3, 2) := by decide +kernel
theorem fl_1_25 : tb_fd tb_FL 1 25 = some (1, 4, 2) := by decide +kernel
theorem fl_1_28 : tb_fd tb_FL 1 28 = some (1, 5, 2) := by decide +kernel
theorem fl_1_37 : tb_fd tb_FL 1 37 = some (1, 6, 0) := by decide +kernel
theorem fl_2_11 : tb_fd tb_FL 2 11 = some (2, 0, 2) := by decide +kernel
theorem fl_2_15 : tb_fd tb_FL 2 15 = some (2, 1, 2) := by decide +kernel
theorem fl_2_18 : tb_fd tb_FL 2 18 = some (2, 2, 2) := by decide +kernel
theorem fl_2_21 : tb_fd tb_FL 2 21 = some (1, 6, 0) := by decide +kernel
theorem fl_2_31 : tb_fd tb_FL 2 31 = some (5, 3, 2) := by decide +kernel
theorem fl_2_52 : tb_fd tb_FL 2 52 = some (5, 0, 0) := by decide +kernel
theorem fl_2_55 : tb_fd tb_FL 2 55 = some (5, 1, 0) := by decide +kernel
theorem fl_2_58 : tb_fd tb_FL 2 58 = some (5, 2, 0) := by decide +kernel
theorem fl_2_61 : tb_fd tb_FL 2 61 = some (5, 5, 0) := by decide +kernel
theorem fl_2_62 : tb_fd tb_FL 2 62 = some (5, 4, 2) := by decide +kernel
theorem fl_3_9 : tb_fd tb_FL 3 9 = some (3, 0, 2) := by decide +kernel
theorem fl_3_15 : tb_fd tb_FL 3 15 = some (3, 1, 2) := by decide +kernel
theorem fl_3_18 : tb_fd tb_FL 3 18 = some (3, 2, 2) := by decide +kernel
theorem fl_3_21 : tb_fd tb_FL 3 21 = some (3, 3, 2) := by decide +kernel
theorem fl_3_24 : tb_fd tb_FL 3 24 = some (3, 4, 0) := by decide +kernel
theorem fl_4_12 : tb_fd tb_FL 4 12 = some (4, 0, 2) := by decide +kernel
theorem fl_4_18 : tb_fd tb_FL 4 18 = some (4, 1, 2) := by decide +kernel
theorem fl_4_22 : tb_fd tb_FL 4 22 = some (4, 2, 0) := by decide +kernel
theorem fl_4_26 : tb_fd tb_FL 4 26 = some (4, 3, 1) := by decide +kernel
theorem fl_5_9 : tb_fd tb_FL 5 9 = some (5, 3, 2) := by decide +kernel
theorem fl_5_15 : tb_fd tb_FL 5 15 = some (5, 4, 2) := by decide +kernel
theorem fl_5_18 : tb_fd tb_FL 5 18 = some (5, 6, 2) := by decide +kernel
theorem fl_5_21 : tb_fd tb_FL 5 21 = some (5, 0, 0) := by decide +kernel
theorem fl_5_25 : tb_fd tb_FL 5 25 = some (5, 1, 0) := by decide +kernel
theorem fl_5_28 : tb_fd tb_FL 5 28 = some (5, 2, 0) := by decide +kernel
theorem fl_5_31 : tb_fd tb_FL 5 31 = some (5, 5, 0) := by decide +kernel
theorem fl_6_7 : tb_fd tb_FL 6 7 = some (6, 2, 2) := by decide +kernel
theorem fl_6_13 : tb_fd tb_FL 6 13 = some (6, 3, 2) := by decide +kernel
theorem fl_6_16 : tb_fd tb_FL 6 16 = some (6, 4, 2) := by decide +kernel
theorem fl_6_19 : tb_fd tb_FL 6 19 = some (6, 5, 2) := by decide +kernel
theorem fl_6_23 : tb_fd tb_FL 6 23 = some (6, 6, 2) := by decide +kernel
theorem fl_6_26 : tb_fd tb_FL 6 26 = some (6, 8, 2) := by decide +kernel
theorem fl_6_29 : tb_fd tb_FL 6 29 = some (6, 9, 2) := by decide +kernel
theorem fl_6_32 : tb_fd tb_FL 6 32 = some (6, 10, 2) := by decide +kernel
theorem fl_6_35 : tb_fd tb_FL 6 35 = some (6, 11, 2) := by decide +kernel
theorem fl_6_38 : tb_fd tb_FL 6 38 = some (6, 12, 2) := by decide +kernel
theorem fl_6_41 : tb_fd tb_FL 6 41 = some (6, 13, 2) := by decide +kernel
theorem fl_6_44 : tb_fd tb_FL 6 44 = some (6, 14, 2) := by decide +kernel
theorem fl_6_47 : tb_fd tb_FL 6 47 = some (6, 15, 2) := by decide +kernel
theorem fl_6_50 : tb_fd tb_FL 6 50 = some (6, 16, 2) := by decide +kernel
theorem fl_6_53 : tb_fd tb_FL 6 53 = some (6, 17, 2) := by decide +kernel
theorem fl_6_56 : tb_fd tb_FL 6 56 = some (6, 18, 2) := by decide +kernel
theorem fl_6_59 : tb_fd tb_FL 6 59 = some (6, 19, 2) := by decide +kernel
theorem fl_6_62 : tb_fd tb_FL 6 62 = some (6, 21, 2) := by decide +kernel
theorem fl_6_65 : tb_fd tb_FL 6 65 = some (6, 22, 2) := by decide +kernel
theorem fl_6_68 : tb_fd tb_FL 6 68 = some (6, 23, 2) := by decide +kernel
theorem fl_6_71 : tb_fd tb_FL 6 71 = some (6, 24, 2) := by decide +kernel
theorem fl_6_74 : tb_fd tb_FL 6 74 = some (6, 25, 0) := by decide +kernel
theorem fl_6_78 : tb_fd tb_FL 6 78 = some (6, 0, 0) := by decide +kernel
theorem fl_6_81 : tb_fd tb_FL 6 81 = some (6, 1, 0) := by decide +kernel
theorem fl_6_88 : tb_fd tb_FL 6 88 = some (6, 7, 1) := by decide +kernel
theorem fl_6_122 : tb_fd tb_FL 6 122 = some (6, 27, 1) := by decide +kernel
theorem fl_6_125 : tb_fd tb_FL 6 125 = some (6, 26, 0) := by decide +kernel
theorem fl_6_145 : tb_fd tb_FL 6 145 = some (6, 20, 0) := by decide +kernel
theorem nl_0 : sm_nL tb_T 0 = (2, 0, 0) := rfl
theorem hf_0 : sm_ins tb_T 0 = tb_f0 := rfl
theorem ho_0 : tb_on 0 = 0 := rfl
theorem nl_1 : sm_nL tb_T 1 = (6, 2, 0) := rfl
theorem hf_1 : sm_ins tb_T 1 = tb_f1 := rfl
theorem ho_1 : tb_on 1 = 0 := rfl
theorem nl_2 : sm_nL tb_T 2 = (2, 2, 0) := rfl
theorem hf_2 : sm_ins tb_T 2 = tb_f2 := rfl
theorem ho_2 : tb_on 2 = 0 := rfl
theorem nl_3 : sm_nL tb_T 3 = (4, 0, 0) := rfl
theorem hf_3 : sm_ins tb_T 3 = tb_f3 := rfl
theorem ho_3 : tb_on 3 = 0 := rfl
theorem nl_4 : sm_nL tb_T 4 = (2, 0, 0) := rfl
theorem hf_4 : sm_ins tb_T 4 = tb_f4 := rfl
theorem ho_4 : tb_on 4 = 0 := rfl
theorem nl_5 : sm_nL tb_T 5 = (2, 2, 0) := rfl
theorem hf_5 : sm_ins tb_T 5 = tb_f5 := rfl
theorem ho_5 : tb_on 5 = 0 := rfl
theorem nl_6 : sm_nL tb_T 6 = (3, 1, 0) := rfl
theorem hf_6 : sm_ins tb_T 6 = tb_f6 := rfl
theorem ho_6 : tb_on 6 = 0 := rfl
theorem nl_7 : sm_nL tb_T 7 = (1, 1, 0) := rfl
theorem hf_7 : sm_ins tb_T 7 = tb_f7 := rfl
theorem ho_7 : tb_on 7 = 0 := rfl
theorem nl_8 : sm_nL tb_T 8 = (3, 2, 0) := rfl
theorem hf_8 : sm_ins tb_T 8 = tb_f8 := rfl
theorem ho_8 : tb_on 8 = 0 := rfl
theorem nl_9 : sm_nL tb_T 9 = (2, 2, 0) := rfl
theorem hf_9 : sm_ins tb_T 9 = tb_f9 := rfl
theorem ho_9 : tb_on 9 = 0 := rfl
theorem nl_10 : sm_nL tb_T 10 = (5, 1, 0) := rfl
theorem hf_10 : sm_ins tb_T 10 = tb_f10 := rfl
theorem ho_10 : tb_on 10 = 0 := rfl
theorem nl_11 : sm_nL tb_T 11 = (3, 1, 0) := rfl
theorem hf_11 : sm_ins tb_T 11 = tb_f11 := rfl
theorem ho_11 : tb_on 11 = 0 := rfl
theorem nl_12 : sm_nL tb_T 12 = (3, 1, 0) := rfl
theorem hf_12 : sm_ins tb_T 12 = tb_f12 := rfl
theorem ho_12 : tb_on 12 = 0 := rfl
theorem nl_13 : sm_nL tb_T 13 = (2, 2, 0) := rfl
theorem hf_13 : sm_ins tb_T 13 = tb_f13 := rfl
theorem ho_13 : tb_on 13 = 0 := rfl
theorem nl_14 : sm_nL tb_T 14 = (3, 1, 0) := rfl
theorem hf_14 : sm_ins tb_T 14 = tb_f14 := rfl
theorem ho_14 : tb_on 14 = 0 := rfl
theorem nl_15 : sm_nL tb_T 15 = (2, 1, 0) := rfl
theorem hf_15 : sm_ins tb_T 15 = tb_f15 := rfl
theorem ho_15 : tb_on 15 = 0 := rfl
theorem nl_16 : sm_nL tb_T 16 = (4, 1, 0) := rfl
theorem hf_16 : sm_ins tb_T 16 = tb_f16 := rfl
theorem ho_16 : tb_on 16 = 0 := rfl
theorem nl_17 : sm_nL tb_T 17 = (1, 1, 0) := rfl
theorem hf_17 : sm_ins tb_T 17 = tb_f17 := rfl
theorem ho_17 : tb_on 17 = 0 := rfl
theorem nl_18 : sm_nL tb_T 18 = (4, 2, 0) := rfl
theorem hf_18 : sm_ins tb_T 18 = tb_f18 := rfl
theorem ho_18 : tb_on 18 = 0 := rfl
theorem nl_19 : sm_nL tb_T 19 = (1, 0, 0) := rfl
theorem hf_19 : sm_ins tb_T 19 = tb_f19 := rfl
theorem ho_19 : tb_on 19 = 0 := rfl
theorem nl_20 : sm_nL tb_T 20 = (2, 2, 0) := rfl
theorem hf_20 : sm_ins tb_T 20 = tb_f20 := rfl
theorem ho_20 : tb_on 20 = 0 := rfl
theorem nl_21 : sm_nL tb_T 21 = (5, 1, 0) := rfl
theorem hf_21 : sm_ins tb_T 21 = tb_f21 := rfl
theorem ho_21 : tb_on 21 = 0 := rfl
theorem nl_22 : sm_nL tb_T 22 = (1, 0, 0) := rfl
theorem hf_22 : sm_ins tb_T 22 = tb_f22 := rfl
theorem ho_22 : tb_on 22 = 0 := rfl
theorem nl_23 : sm_nL tb_T 23 = (5, 1, 0) := rfl
theorem hf_23 : sm_ins tb_T 23 = tb_f23 := rfl
theorem ho_23 : tb_on 23 = 0 := rfl
theorem nl_24 : sm_nL tb_T 24 = (5, 1, 0) := rfl
theorem hf_24 : sm_ins tb_T 24 = tb_f24 := rfl
theorem ho_24 : tb_on 24 = 0 := rfl
theorem nl_25 : sm_nL tb_T 25 = (4, 1, 0) := rfl
theorem hf_25 : sm_ins tb_T 25 = tb_f25 := rfl
theorem ho_25 : tb_on 25 = 0 := rfl
theorem nl_26 : sm_nL tb_T 26 = (2, 2, 0) := rfl
theorem hf_26 : sm_ins tb_T 26 = tb_f26 := rfl
theorem ho_26 : tb_on 26 = 0 := rfl
theorem nl_27 : sm_nL tb_T 27 = (3, 1, 0) := rfl
theorem hf_27 : sm_ins tb_T 27 = tb_f27 := rfl
theorem ho_27 : tb_on 27 = 0 := rfl
theorem nl_28 : sm_nL tb_T 28 = (1, 0, 1) := rfl
theorem hf_28 : sm_ins tb_T 28 = tb_f28 := rfl
theorem ho_28 : tb_on 28 = 1 := rfl
theorem nl_29 : sm_nL tb_T 29 = (4, 1, 1) := rfl
theorem hf_29 : sm_ins tb_T 29 = tb_f29 := rfl
theorem ho_29 : tb_on 29 = 1 := rfl
theorem nl_30 : sm_nL tb_T 30 = (5, 1, 1) := rfl
theorem hf_30 : sm_ins tb_T 30 = tb_f30 := rfl
theorem ho_30 : tb_on 30 = 1 := rfl
theorem nl_31 : sm_nL tb_T 31 = (2, 1, 1) := rfl
theorem hf_31 : sm_ins tb_T 31 = tb_f31 := rfl
theorem ho_31 : tb_on 31 = 1 := rfl
theorem nl_32 : sm_nL tb_T 32 = (2, 1, 1) := rfl
theorem hf_32 : sm_ins tb_T 32 = tb_f32 := rfl
theorem ho_32 : tb_on 32 = 1 := rfl
theorem nl_33 : sm_nL tb_T 33 = (2, 1, 1) := rfl
theorem hf_33 : sm_ins tb_T 33 = tb_f33 := rfl
theorem ho_33 : tb_on 33 = 1 := rfl
theorem nl_34 : sm_nL tb_T 34 = (3, 1, 1) := rfl
theorem hf_34 : sm_ins tb_T 34 = tb_f34 := rfl
theorem ho_34 : tb_on 34 = 1 := rfl
theorem nl_35 : sm_nL tb_T 35 = (2, 0, 1) := rfl
theorem hf_35 : sm_ins tb_T 35 = tb_f35 := rfl
theorem ho_35 : tb_on 35 = 1 := rfl
theorem nl_36 : sm_nL tb_T 36 = (4, 0, 1) := rfl
theorem hf_36 : sm_ins tb_T 36 = tb_f36 := rfl
theorem ho_36 : tb_on 36 = 1 := rfl
theorem nl_37 : sm_nL tb_T 37 = (6, 2, 1) := rfl
theorem hf_37 : sm_ins tb_T 37 = tb_f37 := rfl
theorem ho_37 : tb_on 37 = 1 := rfl
theorem nl_38 : sm_nL tb_T 38 = (2, 2, 1) := rfl
theorem hf_38 : sm_ins tb_T 38 = tb_f38 := rfl
theorem ho_38 : tb_on 38 = 1 := rfl
theorem nl_39 : sm_nL tb_T 39 = (6, 1, 1) := rfl
theorem hf_39 : sm_ins tb_T 39 = tb_f39 := rfl
theorem ho_39 : tb_on 39 = 1 := rfl
theorem nl_40 : sm_nL tb_T 40 = (6, 1, 1) := rfl
theorem hf_40 : sm_ins tb_T 40 = tb_f40 := rfl
theorem ho_40 : tb_on 40 = 1 := rfl
theorem nl_41 : sm_nL tb_T 41 = (6, 1, 1) := rfl
theorem hf_41 : sm_ins tb_T 41 = tb_f41 := rfl
theorem ho_41 : tb_on 41 = 1 := rfl
theorem nl_42 : sm_nL tb_T 42 = (3, 0, 1) := rfl
theorem hf_42 : sm_ins tb_T 42 = tb_f42 := rfl
theorem ho_42 : tb_on 42 = 1 := rfl
theorem nl_43 : sm_nL tb_T 43 = (1, 0, 2) := rfl
theorem hf_43 : sm_ins tb_T 43 = tb_f43 := rfl
theorem ho_43 : tb_on 43 = 2 := rfl
theorem nl_44 : sm_nL tb_T 44 = (6, 2, 2) := rfl
theorem hf_44 : sm_ins tb_T 44 = tb_f44 := rfl
theorem ho_44 : tb_on 44 = 2 := rfl
theorem nl_45 : sm_nL tb_T 45 = (6, 2, 2) := rfl
theorem hf_45 : sm_ins tb_T 45 = tb_f45 := rfl
theorem ho_45 : tb_on 45 = 2 := rfl
theorem nl_46 : sm_nL tb_T 46 = (4, 1, 2) := rfl
theorem hf_46 : sm_ins tb_T 46 = tb_f46 := rfl
theorem ho_46 : tb_on 46 = 2 := rfl
theorem nl_47 : sm_nL tb_T 47 = (5, 2, 2) := rfl
theorem hf_47 : sm_ins tb_T 47 = tb_f47 := rfl
theorem ho_47 : tb_on 47 = 2 := rfl
theorem nl_48 : sm_nL tb_T 48 = (6, 2, 2) := rfl
theorem hf_48 : sm_ins tb_T 48 = tb_f48 := rfl
theorem ho_48 : tb_on 48 = 2 := rfl
theorem nl_49 : sm_nL tb_T 49 = (8, 1, 2) := rfl
theorem hf_49 : sm_ins tb_T 49 = tb_f49 := rfl
theorem ho_49 : tb_on 49 = 2 := rfl
theorem nl_50 : sm_nL tb_T 50 = (7, 1, 2) := rfl
theorem hf_50 : sm_ins tb_T 50 = tb_f50 := rfl
theorem ho_50 : tb_on 50 = 2 := rfl
theorem nl_51 : sm_nL tb_T 51 = (6, 0, 2) := rfl
theorem hf_51 : sm_ins tb_T 51 = tb_f51 := rfl
theorem ho_51 : tb_on 51 = 2 := rfl
theorem nl_52 : sm_nL tb_T 52 = (4, 1, 2) := rfl
theorem hf_52 : sm_ins tb_T 52 = tb_f52 := rfl
theorem ho_52 : tb_on 52 = 2 := rfl
theorem nl_53 : sm_nL tb_T 53 = (5, 1, 2) := rfl
theorem hf_53 : sm_ins tb_T 53 = tb_f53 := rfl
theorem ho_53 : tb_on 53 = 2 := rfl
theorem nl_54 : sm_nL tb_T 54 = (1, 0, 3) := rfl
theorem hf_54 : sm_ins tb_T 54 = tb_f54 := rfl
theorem ho_54 : tb_on 54 = 3 := rfl
theorem nl_55 : sm_nL tb_T 55 = (3, 0, 3) := rfl
theorem hf_55 : sm_ins tb_T 55 = tb_f55 := rfl
theorem ho_55 : tb_on 55 = 3 := rfl
theorem nl_56 : sm_nL tb_T 56 = (5, 0, 3) := rfl
theorem hf_56 : sm_ins tb_T 56 = tb_f56 := rfl
theorem ho_56 : tb_on 56 = 3 := rfl
theorem nl_57 : sm_nL tb_T 57 = (1, 0, 4) := rfl
theorem hf_57 : sm_ins tb_T 57 = tb_f57 := rfl
theorem ho_57 : tb_on 57 = 4 := rfl
theorem nl_58 : sm_nL tb_T 58 = (1, 0, 5) := rfl
theorem hf_58 : sm_ins tb_T 58 = tb_f58 := rfl
theorem ho_58 : tb_on 58 = 5 := rfl
theorem nl_59 : sm_nL tb_T 59 = (4, 0, 5) := rfl
theorem hf_59 : sm_ins tb_T 59 = tb_f59 := rfl
theorem ho_59 : tb_on 59 = 5 := rfl
theorem nl_60 : sm_nL tb_T 60 = (3, 2, 5) := rfl
theorem hf_60 : sm_ins tb_T 60 = tb_f60 := rfl
theorem ho_60 : tb_on 60 = 5 := rfl
theorem nl_61 : sm_nL tb_T 61 = (3, 2, 5) := rfl
theorem hf_61 : sm_ins tb_T 61 = tb_f61 := rfl
theorem ho_61 : tb_on 61 = 5 := rfl
theorem nl_62 : sm_nL tb_T 62 = (2, 0, 5) := rfl
theorem hf_62 : sm_ins tb_T 62 = tb_f62 := rfl
theorem ho_62 : tb_on 62 = 5 := rfl
theorem nl_63 : sm_nL tb_T 63 = (4, 0, 5) := rfl
theorem hf_63 : sm_ins tb_T 63 = tb_f63 := rfl
theorem ho_63 : tb_on 63 = 5 := rfl
theorem nl_64 : sm_nL tb_T 64 = (3, 2, 5) := rfl
theorem hf_64 : sm_ins tb_T 64 = tb_f64 := rfl
theorem ho_64 : tb_on 64 = 5 := rfl
theorem nl_65 : sm_nL tb_T 65 = (4, 2, 5) := rfl
theorem hf_65 : sm_ins tb_T 65 = tb_f65 := rfl
theorem ho_65 : tb_on 65 = 5 := rfl
theorem nl_66 : sm_nL tb_T 66 = (3, 2, 5) := rfl
theorem hf_66 : sm_ins tb_T 66 = tb_f66 := rfl
theorem ho_66 : tb_on 66 = 5 := rfl
theorem nl_67 : sm_nL tb_T 67 = (3, 0, 5) := rfl
theorem hf_67 : sm_ins tb_T 67 = tb_f67 := rfl
theorem ho_67 : tb_on 67 = 5 := rfl
theorem nl_68 : sm_nL tb_T 68 = (3, 0, 5) := rfl
theorem hf_68 : sm_ins tb_T 68 = tb_f68 := rfl
theorem ho_68 : tb_on 68 = 5 := rfl
theorem nl_69 : sm_nL tb_T 69 = (4, 1, 5) := rfl
theorem hf_69 : sm_ins tb_T 69 = tb_f69 := rfl
theorem ho_69 : tb_on 69 = 5 := rfl
theorem nl_70 : sm_nL tb_T 70 = (4, 0, 5) := rfl
theorem hf_70 : sm_ins tb_T 70 = tb_f70 := rfl
theorem ho_70 : tb_on 70 = 5 := rfl
theorem nl_71 : sm_nL tb_T 71 = (5, 1, 5) := rfl
theorem hf_71 : sm_ins tb_T 71 = tb_f71 := rfl
theorem ho_71 : tb_on 71 = 5 := rfl
theorem nl_72 : sm_nL tb_T 72 = (2, 0, 6) := rfl
theorem hf_72 : sm_ins tb_T 72 = tb_f72 := rfl
theorem ho_72 : tb_on 72 = 6 := rfl
theorem nl_73 : sm_nL tb_T 73 = (1, 1, 6) := rfl
theorem hf_73 : sm_ins tb_T 73 = tb_f73 := rfl
theorem ho_73 : tb_on 73 = 6 := rfl
theorem nl_74 : sm_nL tb_T 74 = (3, 2, 6) := rfl
theorem hf_74 : sm_ins tb_T 74 = tb_f74 := rfl
theorem ho_74 : tb_on 74 = 6 := rfl
theorem nl_75 : sm_nL tb_T 75 = (1, 2, 6) := rfl
theorem hf_75 : sm_ins tb_T 75 = tb_f75 := rfl
theorem ho_75 : tb_on 75 = 6 := rfl
theorem nl_76 : sm_nL tb_T 76 = (3, 2, 6) := rfl
theorem hf_76 : sm_ins tb_T 76 = tb_f76 := rfl
theorem ho_76 : tb_on 76 = 6 := rfl
theorem nl_77 : sm_nL tb_T 77 = (7, 1, 6) := rfl
theorem hf_77 : sm_ins tb_T 77 = tb_f77 := rfl
theorem ho_77 : tb_on 77 = 6 := rfl
theorem nl_78 : sm_nL tb_T 78 = (3, 2, 6) := rfl
theorem hf_78 : sm_ins tb_T 78 = tb_f78 := rfl
theorem ho_78 : tb_on 78 = 6 := rfl
theorem nl_79 : sm_nL tb_T 79 = (7, 1, 6) := rfl
theorem hf_79 : sm_ins tb_T 79 = tb_f79 := rfl
theorem ho_79 : tb_on 79 = 6 := rfl
theorem nl_80 : sm_nL tb_T 80 = (3, 0, 6) := rfl
theorem hf_80 : sm_ins tb_T 80 = tb_f80 := rfl
theorem ho_80 : tb_on 80 = 6 := rfl
theorem nl_81 : sm_nL tb_T 81 = (6, 0, 6) := rfl
theorem hf_81 : sm_ins tb_T 81 = tb_f81 := rfl
theorem ho_81 : tb_on 81 = 6 := rfl
theorem nl_82 : sm_nL tb_T 82 = (7, 0, 6) := rfl
theorem hf_82 : sm_ins tb_T 82 = tb_f82 := rfl
theorem ho_82 : tb_on 82 = 6 := rfl
theorem nl_83 : sm_nL tb_T 83 = (3, 2, 6) := rfl
theorem hf_83 : sm_ins tb_T 83 = tb_f83 := rfl
theorem ho_83 : tb_on 83 = 6 := rfl
theorem nl_84 : sm_nL tb_T 84 = (4, 1, 6) := rfl
theorem hf_84 : sm_ins tb_T 84 = tb_f84 := rfl
theorem ho_84 : tb_on 84 = 6 := rfl
theorem nl_85 : sm_nL tb_T 85 = (6, 1, 6) := rfl
theorem hf_85 : sm_ins tb_T 85 = tb_f85 := rfl
theorem ho_85 : tb_on 85 = 6 := rfl
theorem nl_86 : sm_nL tb_T 86 = (3, 1, 6) := rfl
theorem hf_86 : sm_ins tb_T 86 = tb_f86 := rfl
theorem ho_86 : tb_on 86 = 6 := rfl
theorem nl_87 : sm_nL tb_T 87 = (3, 2, 6) := rfl
theorem hf_87 : sm_ins tb_T 87 = tb_f87 := rfl
theorem ho_87 : tb_on 87 = 6 := rfl
theorem nl_88 : sm_nL tb_T 88 = (5, 2, 6) := rfl
theorem hf_88 : sm_ins tb_T 88 = tb_f88 := rfl
theorem ho_88 : tb_on 88 = 6 := rfl
theorem nl_89 : sm_nL tb_T 89 = (4, 1, 6) := rfl
theorem hf_89 : sm_ins tb_T 89 = tb_f89 := rfl
theorem ho_89 : tb_on 89 = 6 := rfl
theorem nl_90 : sm_nL tb_T 90 = (4, 1, 6) := rfl
theorem hf_90 : sm_ins tb_T 90 = tb_f90 := rfl
theorem ho_90 : tb_on 90 = 6 := rfl
theorem nl_91 : sm_nL tb_T 91 = (15, 1, 6) := rfl
theorem hf_91 : sm_ins tb_T 91 = tb_f91 := rfl
theorem ho_91 : tb_on 91 = 6 := rfl
theorem nl_92 : sm_nL tb_T 92 = (5, 1, 6) := rfl
theorem hf_92 : sm_ins tb_T 92 = tb_f92 := rfl
theorem ho_92 : tb_on 92 = 6 := rfl
theorem nl_93 : sm_nL tb_T 93 = (5, 1, 6) := rfl
theorem hf_93 : sm_ins tb_T 93 = tb_f93 := rfl
theorem ho_93 : tb_on 93 = 6 := rfl
theorem nl_94 : sm_nL tb_T 94 = (9, 1, 6) := rfl
theorem hf_94 : sm_ins tb_T 94 = tb_f94 := rfl
theorem ho_94 : tb_on 94 = 6 := rfl
theorem nl_95 : sm_nL tb_T 95 = (3, 1, 6) := rfl
theorem hf_95 : sm_ins tb_T 95 = tb_f95 := rfl
theorem ho_95 : tb_on 95 = 6 := rfl
theorem nl_96 : sm_nL tb_T 96 = (7, 2, 6) := rfl
theorem hf_96 : sm_ins tb_T 96 = tb_f96 := rfl
theorem ho_96 : tb_on 96 = 6 := rfl
theorem nl_97 : sm_nL tb_T 97 = (3, 0, 6) := rfl
theorem hf_97 : sm_ins tb_T 97 = tb_f97 := rfl
theorem ho_97 : tb_on 97 = 6 := rfl
theorem nl_98 : sm_nL tb_T 98 = (5, 0, 6) := rfl
theorem hf_98 : sm_ins tb_T 98 = tb_f98 := rfl
theorem ho_98 : tb_on 98 = 6 := rfl
theorem nl_99 : sm_nL tb_T 99 = (5, 2, 6) := rfl
theorem hf_99 : sm_ins tb_T 99 = tb_f99 := rfl
theorem ho_99 : tb_on 99 = 6 := rfl
theorem nl_100 : sm_nL tb_T 100 = (3, 2, 6) := rfl
theorem hf_100 : sm_ins tb_T 100 = tb_f100 := rfl
theorem ho_100 : tb_on 100 = 6 := rfl
theorem nl_101 : sm_nL tb_T 101 = (4, 1, 6) := rfl
theorem hf_101 : sm_ins tb_T 101 = tb_f101 := rfl
theorem ho_101 : tb_on 101 = 6 := rfl
theorem nl_102 : sm_nL tb_T 102 = (2, 1, 6) := rfl
theorem hf_102 : sm_ins tb_T 102 = tb_f102 := rfl
theorem ho_102 : tb_on 102 = 6 := rfl
theorem nl_103 : sm_nL tb_T 103 = (7, 1, 6) := rfl
theorem hf_103 : sm_ins tb_T 103 = tb_f103 := rfl
theorem ho_103 : tb_on 103 = 6 := rfl
theorem nl_104 : sm_nL tb_T 104 = (10, 0, 6) := rfl
theorem hf_104 : sm_ins tb_T 104 = tb_f104 := rfl
theorem ho_104 : tb_on 104 = 6 := rfl
theorem nl_105 : sm_nL tb_T 105 = (4, 2, 6) := rfl
theorem hf_105 : sm_ins tb_T 105 = tb_f105 := rfl
theorem ho_105 : tb_on 105 = 6 := rfl
theorem nl_106 : sm_nL tb_T 106 = (3, 2, 6) := rfl
theorem hf_106 : sm_ins tb_T 106 = tb_f106 := rfl
theorem ho_106 : tb_on 106 = 6 := rfl
theorem nl_107 : sm_nL tb_T 107 = (4, 2, 6) := rfl
theorem hf_107 : sm_ins tb_T 107 = tb_f107 := rfl
theorem ho_107 : tb_on 107 = 6 := rfl
theorem nl_108 : sm_nL tb_T 108 = (4, 0, 6) := rfl
theorem hf_108 : sm_ins tb_T 108 = tb_f108 := rfl
theorem ho_108 : tb_on 108 = 6 := rfl
theorem nl_109 : sm_nL tb_T 109 = (2, 2, 6) := rfl
theorem hf_109 : sm_ins tb_T 109 = tb_f109 := rfl
theorem ho_109 : tb_on 109 = 6 := rfl
theorem nl_110 : sm_nL tb_T 110 = (3, 1, 6) := rfl
theorem hf_110 : sm_ins tb_T 110 = tb_f110 := rfl
theorem ho_110 : tb_on 110 = 6 := rfl
theorem nl_111 : sm_nL tb_T 111 = (1, 1, 6) := rfl
theorem hf_111 : sm_ins tb_T 111 = tb_f111 := rfl
theorem ho_111 : tb_on 111 = 6 := rfl
theorem nl_112 : sm_nL tb_T 112 = (3, 2, 6) := rfl
theorem hf_112 : sm_ins tb_T 112 = tb_f112 := rfl
theorem ho_112 : tb_on 112 = 6 := rfl
theorem nl_113 : sm_nL tb_T 113 = (2, 2, 6) := rfl
theorem hf_113 : sm_ins tb_T 113 = tb_f113 := rfl
theorem ho_113 : tb_on 113 = 6 := rfl
theorem nl_114 : sm_nL tb_T 114 = (2, 2, 6) := rfl
theorem hf_114 : sm_ins tb_T 114 = tb_f114 := rfl
theorem ho_114 : tb_on 114 = 6 := rfl
theorem nl_115 : sm_nL tb_T 115 = (9, 0, 6) := rfl
theorem hf_115 : sm_ins tb_T 115 = tb_f115 := rfl
theorem ho_115 : tb_on 115 = 6 := rfl
theorem nl_116 : sm_nL tb_T 116 = (2, 2, 6) := rfl
theorem hf_116 : sm_ins tb_T 116 = tb_f116 := rfl
theorem ho_116 : tb_on 116 = 6 := rfl
theorem nl_117 : sm_nL tb_T 117 = (6, 1, 6) := rfl
theorem hf_117 : sm_ins tb_T 117 = tb_f117 := rfl
theorem ho_117 : tb_on 117 = 6 := rfl
theorem nl_118 : sm_nL tb_T 118 = (4, 1, 6) := rfl
theorem hf_118 : sm_ins tb_T 118 = tb_f118 := rfl
theorem ho_118 : tb_on 118 = 6 := rfl
theorem nl_119 : sm_nL tb_T 119 = (3, 1, 6) := rfl
theorem hf_119 : sm_ins tb_T 119 = tb_f119 := rfl
theorem ho_119 : tb_on 119 = 6 := rfl
theorem nl_120 : sm_nL tb_T 120 = (2, 2, 6) := rfl
theorem hf_120 : sm_ins tb_T 120 = tb_f120 := rfl
theorem ho_120 : tb_on 120 = 6 := rfl
theorem nl_121 : sm_nL tb_T 121 = (3, 1, 6) := rfl
theorem hf_121 : sm_ins tb_T 121 = tb_f121 := rfl
theorem ho_121 : tb_on 121 = 6 := rfl
theorem nl_122 : sm_nL tb_T 122 = (2, 1, 6) := rfl
theorem hf_122 : sm_ins tb_T 122 = tb_f122 := rfl
theorem ho_122 : tb_on 122 = 6 := rfl
theorem nl_123 : sm_nL tb_T 123 = (3, 1, 6) := rfl
theorem hf_123 : sm_ins tb_T 123 = tb_f123 := rfl
theorem ho_123 : tb_on 123 = 6 := rfl
theorem nl_124 : sm_nL tb_T 124 = (1, 1, 6) := rfl
theorem hf_124 : sm_ins tb_T 124 = tb_f124 := rfl
theorem ho_124 : tb_on 124 = 6 := rfl
theorem nl_125 : sm_nL tb_T 125 = (5, 1, 99) := rfl
theorem hf_125 : sm_ins tb_T 125 = tb_f125 := rfl
theorem ho_125 : tb_on 125 = 7 := rfl
theorem nl_126 : sm_nL tb_T 126 = (1, 1, 99) := rfl
theorem hf_126 : sm_ins tb_T 126 = tb_f126 := rfl
theorem ho_126 : tb_on 126 = 7 := rfl
theorem nl_127 : sm_nL tb_T 127 = (1, 1, 99) := rfl
theorem hf_127 : sm_ins tb_T 127 = tb_f127 := rfl
theorem ho_127 : tb_on 127 = 7 := rfl
theorem nl_128 : sm_nL tb_T 128 = (1, 1, 99) := rfl
theorem hf_128 : sm_ins tb_T 128 = tb_f128 := rfl
theorem ho_128 : tb_on 128 = 7 := rfl
theorem nl_129 : sm_nL tb_T 129 = (1, 1, 99) := rfl
theorem hf_129 : sm_ins tb_T 129 = tb_f129 := rfl
theorem ho_129 : tb_on 129 = 7 := rfl
theorem nl_130 : sm_nL tb_T 130 = (1, 1, 99) := rfl
theorem hf_130 : sm_ins tb_T 130 = tb_f130 := rfl
theorem ho_130 : tb_on 130 = 7 := rfl
theorem nl_131 : sm_nL tb_T 131 = (5, 1, 99) := rfl
theorem hf_131 : sm_ins tb_T 131 = tb_f131 := rfl
theorem ho_131 : tb_on 131 = 8 := rfl
theorem nl_132 : sm_nL tb_T 132 = (4, 1, 99) := rfl
theorem hf_132 : sm_ins tb_T 132 = tb_f132 := rfl
theorem ho_132 : tb_on 132 = 8 := rfl
theorem nl_133 : sm_nL tb_T 133 = (6, 1, 99) := rfl
theorem hf_133 : sm_ins tb_T 133 = tb_f133 := rfl
theorem ho_133 : tb_on 133 = 8 := rfl
theorem nl_134 : sm_nL tb_T 134 = (5, 1, 99) := rfl
theorem hf_134 : sm_ins tb_T 134 = tb_f134 := rfl
theorem ho_134 : tb_on 134 = 8 := rfl
theorem nl_135 : sm_nL tb_T 135 = (6, 1, 99) := rfl
theorem hf_135 : sm_ins tb_T 135 = tb_f135 := rfl
theorem ho_135 : tb_on 135 = 8 := rfl
theorem nl_136 : sm_nL tb_T 136 = (5, 1, 99) := rfl
theorem hf_136 : sm_ins tb_T 136 = tb_f136 := rfl
theorem ho_136 : tb_on 136 = 8 := rfl
theorem nl_137 : sm_nL tb_T 137 = (4, 1, 99) := rfl
theorem hf_137 : sm_ins tb_T 137 = tb_f137 := rfl
theorem ho_137 : tb_on 137 = 8 := rfl
theorem nl_138 : sm_nL tb_T 138 = (4, 1, 99) := rfl
theorem hf_138 : sm_ins tb_T 138 = tb_f138 := rfl
theorem ho_138 : tb_on 138 = 8 := rfl
theorem nl_139 : sm_nL tb_T 139 = (7, 2, 99) := rfl
theorem hf_139 : sm_ins tb_T 139 = tb_f139 := rfl
theorem ho_139 : tb_on 139 = 8 := rfl
theorem nl_140 : sm_nL tb_T 140 = (4, 0, 99) := rfl
theorem hf_140 : sm_ins tb_T 140 = tb_f140 := rfl
theorem ho_140 : tb_on 140 = 9 := rfl
theorem inc1 (i : Nat) : nI i + Int32.ofInt 1 = nI (i + 1) := nI_1 i
theorem dec1 {i : Nat} (h : 1 ≤ i) : nI i + Int32.ofInt (-1) = nI (i - 1) := by
  obtain ⟨j, rfl⟩ : ∃ j, i = j + 1 := ⟨i - 1, by omega⟩
  have e : nI (j + 1) + Int32.ofInt (-1) = nI (j + 1) - 1 := by
    rw [Int32.sub_eq_add_neg]
    congr 1
  rw [e, nI_pred]
  rfl
theorem subn {a b : Nat} (h : b ≤ a) : nI a - nI b = nI (a - b) := by
  obtain ⟨c, rfl⟩ : ∃ c, a = b + c := ⟨a - b, by omega⟩
  rw [← nI_add, Nat.add_sub_cancel_left]
  rw [Int32.add_comm, Int32.add_sub_cancel]
theorem muln (a b : Nat) : nI a * nI b = nI (a * b) := by
  unfold nI
  exact (Int32.ofNat_mul a b).symm
theorem up_s {M : sm_M} {k i : Nat} {v : Int32} : sm_up M k i v k i = v := by simp [sm_up, upd]
theorem up_k {M : sm_M} {k i a j : Nat} {v : Int32} (h : a ≠ k) : sm_up M k i v a j = M a j := by simp [sm_up, h]
theorem up_i {M : sm_M} {k i a j : Nat} {v : Int32} (h : j ≠ i) : sm_up M k i v a j = M a j := by
  unfold sm_up
  split
  · next e => subst e; simp [upd, h]
  · rfl
theorem up_o {M : sm_M} {k i a j : Nat} {v : Int32} (h : a ≠ k ∨ j ≠ i) : sm_up M k i v a j = M a j := by
  rcases h with h | h
  · exact up_k h
  · exact up_i h
theorem up_e {M : sm_M} {k i a j : Nat} {v : Int32} (h : a = k ∧ j = i) : sm_up M k i v a j = v := by
  obtain ⟨rfl, rfl⟩ := h
  exact up_s
/-- a method by its contract: it answers, and the memory is another; no new cells -/
def cr (z D B : Nat) (As : List Value) (M : sm_M) (R : Option Value → sm_M → Prop) : Prop := ∀ (X : Nat × (Nat → Int32)) (J : sm_J) (rc rs d lw : Nat), D ≤ d → B ≤ lw → sm_wp tb_T X tb_ok d lw z 0 (sm_ent (sm_nL tb_T z).1 As) [] (wSH, M, J, rc, rs) (fun o h' => ∃ v M1, o = .inl v ∧ h' = (wSH, M1, J, rc, rs) ∧ R v M1)
theorem cr_mono {z D B : Nat} {As : List Value} {M : sm_M} {R R' : Option Value → sm_M → Prop} (h : cr z D B As M R) (hr : ∀ v M1, R v M1 → R' v M1) : cr z D B As M R' := by
  intro X J rc rs d lw hd hw
  refine wp_mono (h X J rc rs d lw hd hw) (fun o h' q => ?_)
  obtain ⟨v, M1, e1, e2, e3⟩ := q
  exact ⟨v, M1, e1, e2, hr v M1 e3⟩
section GO
variable {X : Nat × (Nat → Int32)} {d lw y c pc p : Nat} {f : Nat → Option Instr} {L L' : sm_L} {S : List Value} {sh : List sm_S} {M : sm_M} {J : sm_J} {rc rs : Nat} {h : sm_H} {Q : sm_O → sm_H → Prop}
theorem go_i {i : Instr} {r : sm_P} (hf : sm_ins tb_T y = f) (hins : f pc = some i) (hr : sm_isret i = false) (hv : sm_inv tb_T y i = none) (hi : sm_i tb_T X tb_ok y i pc L S h = some r) (k : sm_wp tb_T X tb_ok d lw y r.1 r.2.1 r.2.2.1 r.2.2.2 Q) : sm_wp tb_T X tb_ok d lw y pc L S h Q :=
  wp_i (by rw [hf]; exact hins) hr hv hi k
theorem go_iconst {n : Int} {v : Int32} (hf : sm_ins tb_T y = f) (hins : f pc = some (.iconst n)) (hp : pc + 1 = p) (hv : Int32.ofInt n = v) (k : sm_wp tb_T X tb_ok d lw y p L (.int v :: S) h Q) : sm_wp tb_T X tb_ok d lw y pc L S h Q := by
  subst hp
  exact go_i (r := (pc + 1, L, .int (Int32.ofInt n) :: S, h)) hf hins rfl rfl rfl (by rw [hv]; exact k)
theorem go_bipush {n : Int} {v : Int32} (hf : sm_ins tb_T y = f) (hins : f pc = some (.bipush n)) (hp : pc + 2 = p) (hv : (Int8.ofInt n).toInt32 = v) (k : sm_wp tb_T X tb_ok d lw y p L (.int v :: S) h Q) : sm_wp tb_T X tb_ok d lw y pc L S h Q := by
  subst hp
  exact go_i (r := (pc + 2, L, .int (Int8.ofInt n).toInt32 :: S, h)) hf hins rfl rfl rfl (by rw [hv]; exact k)
theorem go_sipush {n : Int} {v : Int32} (hf : sm_ins tb_T y = f) (hins : f pc = some (.sipush n)) (hp : pc + 3 = p) (hv : (Int16.ofInt n).toInt32 = v) (k : sm_wp tb_T X tb_ok d lw y p L (.int v :: S) h Q) : sm_wp tb_T X tb_ok d lw y pc L S h Q := by
  subst hp
  exact go_i (r := (pc + 3, L, .int (Int16.ofInt n).toInt32 :: S, h)) hf hins rfl rfl rfl (by rw [hv]; exact k)
theorem go_lconst {n : Fin 2} (hf : sm_ins tb_T y = f) (hins : f pc = some (.lconst n)) (hp : pc + 1 = p) (k : sm_wp tb_T X tb_ok d lw y p L (.long (Int64.ofNat n.val) :: S) h Q) : sm_wp tb_T X tb_ok d lw y pc L S h Q := by
  subst hp
  exact go_i (r := (pc + 1, L, .long (Int64.ofNat n.val) :: S, h)) hf hins rfl rfl rfl k
theorem go_il0 {x : Int32} {r : sm_L} (hf : sm_ins tb_T y = f) (hins : f pc = some (.iload_n 0)) (hp : pc + 1 = p) (k : sm_wp tb_T X tb_ok d lw y p (some (.int x) :: r) (.int x :: S) h Q) : sm_wp tb_T X tb_ok d lw y pc (some (.int x) :: r) S h Q := by
  subst hp
  exact go_i (r := (pc + 1, some (.int x) :: r, .int x :: S, h)) hf hins rfl rfl rfl k
theorem go_al0 {x : Nat} {r : sm_L} (hf : sm_ins tb_T y = f) (hins : f pc = some (.aload_n 0)) (hp : pc + 1 = p) (k : sm_wp tb_T X tb_ok d lw y p (some (.ref x) :: r) (.ref x :: S) h Q) : sm_wp tb_T X tb_ok d lw y pc (some (.ref x) :: r) S h Q := by
  subst hp
  exact go_i (r := (pc + 1, some (.ref x) :: r, .ref x :: S, h)) hf hins rfl rfl rfl k
theorem go_is0 {a0 : Option Value} {x : Int32} {r : sm_L} (hf : sm_ins tb_T y = f) (hins : f pc = some (.istore_n 0)) (hp : pc + 1 = p) (k : sm_wp tb_T X tb_ok d lw y p (some (.int x) :: r) S h Q) : sm_wp tb_T X tb_ok d lw y pc (a0 :: r) (.int x :: S) h Q := by
  subst hp
  exact go_i (r := (pc + 1, some (.int x) :: r, S, h)) hf hins rfl rfl rfl k
theorem go_as0 {a0 : Option Value} {x : Nat} {r : sm_L} (hf : sm_ins tb_T y = f) (hins : f pc = some (.astore_n 0)) (hp : pc + 1 = p) (k : sm_wp tb_T X tb_ok d lw y p (some (.ref x) :: r) S h Q) : sm_wp tb_T X tb_ok d lw y pc (a0 :: r) (.ref x :: S) h Q := by
  subst hp
  exact go_i (r := (pc + 1, some (.ref x) :: r, S, h)) hf hins rfl rfl rfl k
theorem go_ic0 {n : Int} {x v : Int32} {r : sm_L} (hf : sm_ins tb_T y = f) (hins : f pc = some (.iinc 0 n)) (hp : pc + 3 = p) (hv : x + Int32.ofInt n = v) (k : sm_wp tb_T X tb_ok d lw y p (some (.int v) :: r) S h Q) : sm_wp tb_T X tb_ok d lw y pc (some (.int x) :: r) S h Q := by
  subst hp
  subst hv
  exact go_i (r := (pc + 3, some (.int (x + Int32.ofInt n)) :: r, S, h)) hf hins rfl rfl rfl k
theorem go_il1 {a0 : Option Value} {x : Int32} {r : sm_L} (hf : sm_ins tb_T y = f) (hins : f pc = some (.iload_n 1)) (hp : pc + 1 = p) (k : sm_wp tb_T X tb_ok d lw y p (a0 :: some (.int x) :: r) (.int x :: S) h Q) : sm_wp tb_T X tb_ok d lw y pc (a0 :: some (.int x) :: r) S h Q := by
  subst hp
  exact go_i (r := (pc + 1, a0 :: some (.int x) :: r, .int x :: S, h)) hf hins rfl rfl rfl k
theorem go_al1 {a0 : Option Value} {x : Nat} {r : sm_L} (hf : sm_ins tb_T y = f) (hins : f pc = some (.aload_n 1)) (hp : pc + 1 = p) (k : sm_wp tb_T X tb_ok d lw y p (a0 :: some (.ref x) :: r) (.ref x :: S) h Q) : sm_wp tb_T X tb_ok d lw y pc (a0 :: some (.ref x) :: r) S h Q := by
  subst hp
  exact go_i (r := (pc + 1, a0 :: some (.ref x) :: r, .ref x :: S, h)) hf hins rfl rfl rfl k
theorem go_is1 {a0 a1 : Option Value} {x : Int32} {r : sm_L} (hf : sm_ins tb_T y = f) (hins : f pc = some (.istore_n 1)) (hp : pc + 1 = p) (k : sm_wp tb_T X tb_ok d lw y p (a0 :: some (.int x) :: r) S h Q) : sm_wp tb_T X tb_ok d lw y pc (a0 :: a1 :: r) (.int x :: S) h Q := by
  subst hp
  exact go_i (r := (pc + 1, a0 :: some (.int x) :: r, S, h)) hf hins rfl rfl rfl k
theorem go_as1 {a0 a1 : Option Value} {x : Nat} {r : sm_L} (hf : sm_ins tb_T y = f) (hins : f pc = some (.astore_n 1)) (hp : pc + 1 = p) (k : sm_wp tb_T X tb_ok d lw y p (a0 :: some (.ref x) :: r) S h Q) : sm_wp tb_T X tb_ok d lw y pc (a0 :: a1 :: r) (.ref x :: S) h Q := by
  subst hp
  exact go_i (r := (pc + 1, a0 :: some (.ref x) :: r, S, h)) hf hins rfl rfl rfl k
theorem go_ic1 {a0 : Option Value} {n : Int} {x v : Int32} {r : sm_L} (hf : sm_ins tb_T y = f) (hins : f pc = some (.iinc 1 n)) (hp : pc + 3 = p) (hv : x + Int32.ofInt n = v) (k : sm_wp tb_T X tb_ok d lw y p (a0 :: some (.int v) :: r) S h Q) : sm_wp tb_T X tb_ok d lw y pc (a0 :: some (.int x) :: r) S h Q := by
  subst hp
  subst hv
  exact go_i (r := (pc + 3, a0 :: some (.int (x + Int32.ofInt n)) :: r, S, h)) hf hins rfl rfl rfl k
theorem go_il2 {a0 a1 : Option Value} {x : Int32} {r : sm_L} (hf : sm_ins tb_T y = f) (hins : f pc = some (.iload_n 2)) (hp : pc + 1 = p) (k : sm_wp tb_T X tb_ok d lw y p (a0 :: a1 :: some (.int x) :: r) (.int x :: S) h Q) : sm_wp tb_T X tb_ok d lw y pc (a0 :: a1 :: some (.int x) :: r) S h Q := by
  subst hp
  exact go_i (r := (pc + 1, a0 :: a1 :: some (.int x) :: r, .int x :: S, h)) hf hins rfl rfl rfl k
theorem go_al2 {a0 a1 : Option Value} {x : Nat} {r : sm_L} (hf : sm_ins tb_T y = f) (hins : f pc = some (.aload_n 2)) (hp : pc + 1 = p) (k : sm_wp tb_T X tb_ok d lw y p (a0 :: a1 :: some (.ref x) :: r) (.ref x :: S) h Q) : sm_wp tb_T X tb_ok d lw y pc (a0 :: a1 :: some (.ref x) :: r) S h Q := by
  subst hp
  exact go_i (r := (pc + 1, a0 :: a1 :: some (.ref x) :: r, .ref x :: S, h)) hf hins rfl rfl rfl k
theorem go_is2 {a0 a1 a2 : Option Value} {x : Int32} {r : sm_L} (hf : sm_ins tb_T y = f) (hins : f pc = some (.istore_n 2)) (hp : pc + 1 = p) (k : sm_wp tb_T X tb_ok d lw y p (a0 :: a1 :: some (.int x) :: r) S h Q) : sm_wp tb_T X tb_ok d lw y pc (a0 :: a1 :: a2 :: r) (.int x :: S) h Q := by
  subst hp
  exact go_i (r := (pc + 1, a0 :: a1 :: some (.int x) :: r, S, h)) hf hins rfl rfl rfl k
theorem go_as2 {a0 a1 a2 : Option Value} {x : Nat} {r : sm_L} (hf : sm_ins tb_T y = f) (hins : f pc = some (.astore_n 2)) (hp : pc + 1 = p) (k : sm_wp tb_T X tb_ok d lw y p (a0 :: a1 :: some (.ref x) :: r) S h Q) : sm_wp tb_T X tb_ok d lw y pc (a0 :: a1 :: a2 :: r) (.ref x :: S) h Q := by
  subst hp
  exact go_i (r := (pc + 1, a0 :: a1 :: some (.ref x) :: r, S, h)) hf hins rfl rfl rfl k
theorem go_ic2 {a0 a1 : Option Value} {n : Int} {x v : Int32} {r : sm_L} (hf : sm_ins tb_T y = f) (hins : f pc = some (.iinc 2 n)) (hp : pc + 3 = p) (hv : x + Int32.ofInt n = v) (k : sm_wp tb_T X tb_ok d lw y p (a0 :: a1 :: some (.int v) :: r) S h Q) : sm_wp tb_T X tb_ok d lw y pc (a0 :: a1 :: some (.int x) :: r) S h Q := by
  subst hp
  subst hv
  exact go_i (r := (pc + 3, a0 :: a1 :: some (.int (x + Int32.ofInt n)) :: r, S, h)) hf hins rfl rfl rfl k
theorem go_il3 {a0 a1 a2 : Option Value} {x : Int32} {r : sm_L} (hf : sm_ins tb_T y = f) (hins : f pc = some (.iload_n 3)) (hp : pc + 1 = p) (k : sm_wp tb_T X tb_ok d lw y p (a0 :: a1 :: a2 :: some (.int x) :: r) (.int x :: S) h Q) : sm_wp tb_T X tb_ok d lw y pc (a0 :: a1 :: a2 :: some (.int x) :: r) S h Q := by
  subst hp
  exact go_i (r := (pc + 1, a0 :: a1 :: a2 :: some (.int x) :: r, .int x :: S, h)) hf hins rfl rfl rfl k
theorem go_al3 {a0 a1 a2 : Option Value} {x : Nat} {r : sm_L} (hf : sm_ins tb_T y = f) (hins : f pc = some (.aload_n 3)) (hp : pc + 1 = p) (k : sm_wp tb_T X tb_ok d lw y p (a0 :: a1 :: a2 :: some (.ref x) :: r) (.ref x :: S) h Q) : sm_wp tb_T X tb_ok d lw y pc (a0 :: a1 :: a2 :: some (.ref x) :: r) S h Q := by
  subst hp
  exact go_i (r := (pc + 1, a0 :: a1 :: a2 :: some (.ref x) :: r, .ref x :: S, h)) hf hins rfl rfl rfl k
theorem go_is3 {a0 a1 a2 a3 : Option Value} {x : Int32} {r : sm_L} (hf : sm_ins tb_T y = f) (hins : f pc = some (.istore_n 3)) (hp : pc + 1 = p) (k : sm_wp tb_T X tb_ok d lw y p (a0 :: a1 :: a2 :: some (.int x) :: r) S h Q) : sm_wp tb_T X tb_ok d lw y pc (a0 :: a1 :: a2 :: a3 :: r) (.int x :: S) h Q := by
  subst hp
  exact go_i (r := (pc + 1, a0 :: a1 :: a2 :: some (.int x) :: r, S, h)) hf hins rfl rfl rfl k
theorem go_as3 {a0 a1 a2 a3 : Option Value} {x : Nat} {r : sm_L} (hf : sm_ins tb_T y = f) (hins : f pc = some (.astore_n 3)) (hp : pc + 1 = p) (k : sm_wp tb_T X tb_ok d lw y p (a0 :: a1 :: a2 :: some (.ref x) :: r) S h Q) : sm_wp tb_T X tb_ok d lw y pc (a0 :: a1 :: a2 :: a3 :: r) (.ref x :: S) h Q := by
  subst hp
  exact go_i (r := (pc + 1, a0 :: a1 :: a2 :: some (.ref x) :: r, S, h)) hf hins rfl rfl rfl k
theorem go_ic3 {a0 a1 a2 : Option Value} {n : Int} {x v : Int32} {r : sm_L} (hf : sm_ins tb_T y = f) (hins : f pc = some (.iinc 3 n)) (hp : pc + 3 = p) (hv : x + Int32.ofInt n = v) (k : sm_wp tb_T X tb_ok d lw y p (a0 :: a1 :: a2 :: some (.int v) :: r) S h Q) : sm_wp tb_T X tb_ok d lw y pc (a0 :: a1 :: a2 :: some (.int x) :: r) S h Q := by
  subst hp
  subst hv
  exact go_i (r := (pc + 3, a0 :: a1 :: a2 :: some (.int (x + Int32.ofInt n)) :: r, S, h)) hf hins rfl rfl rfl k
theorem go_il4 {a0 a1 a2 a3 : Option Value} {x : Int32} {r : sm_L} (hf : sm_ins tb_T y = f) (hins : f pc = some (.iload 4)) (hp : pc + 2 = p) (k : sm_wp tb_T X tb_ok d lw y p (a0 :: a1 :: a2 :: a3 :: some (.int x) :: r) (.int x :: S) h Q) : sm_wp tb_T X tb_ok d lw y pc (a0 :: a1 :: a2 :: a3 :: some (.int x) :: r) S h Q := by
  subst hp
  exact go_i (r := (pc + 2, a0 :: a1 :: a2 :: a3 :: some (.int x) :: r, .int x :: S, h)) hf hins rfl rfl rfl k
theorem go_al4 {a0 a1 a2 a3 : Option Value} {x : Nat} {r : sm_L} (hf : sm_ins tb_T y = f) (hins : f pc = some (.aload 4)) (hp : pc + 2 = p) (k : sm_wp tb_T X tb_ok d lw y p (a0 :: a1 :: a2 :: a3 :: some (.ref x) :: r) (.ref x :: S) h Q) : sm_wp tb_T X tb_ok d lw y pc (a0 :: a1 :: a2 :: a3 :: some (.ref x) :: r) S h Q := by
  subst hp
  exact go_i (r := (pc + 2, a0 :: a1 :: a2 :: a3 :: some (.ref x) :: r, .ref x :: S, h)) hf hins rfl rfl rfl k
theorem go_is4 {a0 a1 a2 a3 a4 : Option Value} {x : Int32} {r : sm_L} (hf : sm_ins tb_T y = f) (hins : f pc = some (.istore 4)) (hp : pc + 2 = p) (k : sm_wp tb_T X tb_ok d lw y p (a0 :: a1 :: a2 :: a3 :: some (.int x) :: r) S h Q) : sm_wp tb_T X tb_ok d lw y pc (a0 :: a1 :: a2 :: a3 :: a4 :: r) (.int x :: S) h Q := by
  subst hp
  exact go_i (r := (pc + 2, a0 :: a1 :: a2 :: a3 :: some (.int x) :: r, S, h)) hf hins rfl rfl rfl k
theorem go_as4 {a0 a1 a2 a3 a4 : Option Value} {x : Nat} {r : sm_L} (hf : sm_ins tb_T y = f) (hins : f pc = some (.astore 4)) (hp : pc + 2 = p) (k : sm_wp tb_T X tb_ok d lw y p (a0 :: a1 :: a2 :: a3 :: some (.ref x) :: r) S h Q) : sm_wp tb_T X tb_ok d lw y pc (a0 :: a1 :: a2 :: a3 :: a4 :: r) (.ref x :: S) h Q := by
  subst hp
  exact go_i (r := (pc + 2, a0 :: a1 :: a2 :: a3 :: some (.ref x) :: r, S, h)) hf hins rfl rfl rfl k
theorem go_ic4 {a0 a1 a2 a3 : Option Value} {n : Int} {x v : Int32} {r : sm_L} (hf : sm_ins tb_T y = f) (hins : f pc = some (.iinc 4 n)) (hp : pc + 3 = p) (hv : x + Int32.ofInt n = v) (k : sm_wp tb_T X tb_ok d lw y p (a0 :: a1 :: a2 :: a3 :: some (.int v) :: r) S h Q) : sm_wp tb_T X tb_ok d lw y pc (a0 :: a1 :: a2 :: a3 :: some (.int x) :: r) S h Q := by
  subst hp
  subst hv
  exact go_i (r := (pc + 3, a0 :: a1 :: a2 :: a3 :: some (.int (x + Int32.ofInt n)) :: r, S, h)) hf hins rfl rfl rfl k
theorem go_il5 {a0 a1 a2 a3 a4 : Option Value} {x : Int32} {r : sm_L} (hf : sm_ins tb_T y = f) (hins : f pc = some (.iload 5)) (hp : pc + 2 = p) (k : sm_wp tb_T X tb_ok d lw y p (a0 :: a1 :: a2 :: a3 :: a4 :: some (.int x) :: r) (.int x :: S) h Q) : sm_wp tb_T X tb_ok d lw y pc (a0 :: a1 :: a2 :: a3 :: a4 :: some (.int x) :: r) S h Q := by
  subst hp
  exact go_i (r := (pc + 2, a0 :: a1 :: a2 :: a3 :: a4 :: some (.int x) :: r, .int x :: S, h)) hf hins rfl rfl rfl k
theorem go_al5 {a0 a1 a2 a3 a4 : Option Value} {x : Nat} {r : sm_L} (hf : sm_ins tb_T y = f) (hins : f pc = some (.aload 5)) (hp : pc + 2 = p) (k : sm_wp tb_T X tb_ok d lw y p (a0 :: a1 :: a2 :: a3 :: a4 :: some (.ref x) :: r) (.ref x :: S) h Q) : sm_wp tb_T X tb_ok d lw y pc (a0 :: a1 :: a2 :: a3 :: a4 :: some (.ref x) :: r) S h Q := by
  subst hp
  exact go_i (r := (pc + 2, a0 :: a1 :: a2 :: a3 :: a4 :: some (.ref x) :: r, .ref x :: S, h)) hf hins rfl rfl rfl k
theorem go_is5 {a0 a1 a2 a3 a4 a5 : Option Value} {x : Int32} {r : sm_L} (hf : sm_ins tb_T y = f) (hins : f pc = some (.istore 5)) (hp : pc + 2 = p) (k : sm_wp tb_T X tb_ok d lw y p (a0 :: a1 :: a2 :: a3 :: a4 :: some (.int x) :: r) S h Q) : sm_wp tb_T X tb_ok d lw y pc (a0 :: a1 :: a2 :: a3 :: a4 :: a5 :: r) (.int x :: S) h Q := by
  subst hp
  exact go_i (r := (pc + 2, a0 :: a1 :: a2 :: a3 :: a4 :: some (.int x) :: r, S, h)) hf hins rfl rfl rfl k
theorem go_as5 {a0 a1 a2 a3 a4 a5 : Option Value} {x : Nat} {r : sm_L} (hf : sm_ins tb_T y = f) (hins : f pc = some (.astore 5)) (hp : pc + 2 = p) (k : sm_wp tb_T X tb_ok d lw y p (a0 :: a1 :: a2 :: a3 :: a4 :: some (.ref x) :: r) S h Q) : sm_wp tb_T X tb_ok d lw y pc (a0 :: a1 :: a2 :: a3 :: a4 :: a5 :: r) (.ref x :: S) h Q := by
  subst hp
  exact go_i (r := (pc + 2, a0 :: a1 :: a2 :: a3 :: a4 :: some (.ref x) :: r, S, h)) hf hins rfl rfl rfl k
theorem go_ic5 {a0 a1 a2 a3 a4 : Option Value} {n : Int} {x v : Int32} {r : sm_L} (hf : sm_ins tb_T y = f) (hins : f pc = some (.iinc 5 n)) (hp : pc + 3 = p) (hv : x + Int32.ofInt n = v) (k : sm_wp tb_T X tb_ok d lw y p (a0 :: a1 :: a2 :: a3 :: a4 :: some (.int v) :: r) S h Q) : sm_wp tb_T X tb_ok d lw y pc (a0 :: a1 :: a2 :: a3 :: a4 :: some (.int x) :: r) S h Q := by
  subst hp
  subst hv
  exact go_i (r := (pc + 3, a0 :: a1 :: a2 :: a3 :: a4 :: some (.int (x + Int32.ofInt n)) :: r, S, h)) hf hins rfl rfl rfl k
theorem go_il6 {a0 a1 a2 a3 a4 a5 : Option Value} {x : Int32} {r : sm_L} (hf : sm_ins tb_T y = f) (hins : f pc = some (.iload 6)) (hp : pc + 2 = p) (k : sm_wp tb_T X tb_ok d lw y p (a0 :: a1 :: a2 :: a3 :: a4 :: a5 :: some (.int x) :: r) (.int x :: S) h Q) : sm_wp tb_T X tb_ok d lw y pc (a0 :: a1 :: a2 :: a3 :: a4 :: a5 :: some (.int x) :: r) S h Q := by
  subst hp
  exact go_i (r := (pc + 2, a0 :: a1 :: a2 :: a3 :: a4 :: a5 :: some (.int x) :: r, .int x :: S, h)) hf hins rfl rfl rfl k
theorem go_al6 {a0 a1 a2 a3 a4 a5 : Option Value} {x : Nat} {r : sm_L} (hf : sm_ins tb_T y = f) (hins : f pc = some (.aload 6)) (hp : pc + 2 = p) (k : sm_wp tb_T X tb_ok d lw y p (a0 :: a1 :: a2 :: a3 :: a4 :: a5 :: some (.ref x) :: r) (.ref x :: S) h Q) : sm_wp tb_T X tb_ok d lw y pc (a0 :: a1 :: a2 :: a3 :: a4 :: a5 :: some (.ref x) :: r) S h Q := by
  subst hp
  exact go_i (r := (pc + 2, a0 :: a1 :: a2 :: a3 :: a4 :: a5 :: some (.ref x) :: r, .ref x :: S, h)) hf hins rfl rfl rfl k
theorem go_is6 {a0 a1 a2 a3 a4 a5 a6 : Option Value} {x : Int32} {r : sm_L} (hf : sm_ins tb_T y = f) (hins : f pc = some (.istore 6)) (hp : pc + 2 = p) (k : sm_wp tb_T X tb_ok d lw y p (a0 :: a1 :: a2 :: a3 :: a4 :: a5 :: some (.int x) :: r) S h Q) : sm_wp tb_T X tb_ok d lw y pc (a0 :: a1 :: a2 :: a3 :: a4 :: a5 :: a6 :: r) (.int x :: S) h Q := by
  subst hp
  exact go_i (r := (pc + 2, a0 :: a1 :: a2 :: a3 :: a4 :: a5 :: some (.int x) :: r, S, h)) hf hins rfl rfl rfl k
theorem go_as6 {a0 a1 a2 a3 a4 a5 a6 : Option Value} {x : Nat} {r : sm_L} (hf : sm_ins tb_T y = f) (hins : f pc = some (.astore 6)) (hp : pc + 2 = p) (k : sm_wp tb_T X tb_ok d lw y p (a0 :: a1 :: a2 :: a3 :: a4 :: a5 :: some (.ref x) :: r) S h Q) : sm_wp tb_T X tb_ok d lw y pc (a0 :: a1 :: a2 :: a3 :: a4 :: a5 :: a6 :: r) (.ref x :: S) h Q := by
  subst hp
  exact go_i (r := (pc + 2, a0 :: a1 :: a2 :: a3 :: a4 :: a5 :: some (.ref x) :: r, S, h)) hf hins rfl rfl rfl k
theorem go_ic6 {a0 a1 a2 a3 a4 a5 : Option Value} {n : Int} {x v : Int32} {r : sm_L} (hf : sm_ins tb_T y = f) (hins : f pc = some (.iinc 6 n)) (hp : pc + 3 = p) (hv : x + Int32.ofInt n = v) (k : sm_wp tb_T X tb_ok d lw y p (a0 :: a1 :: a2 :: a3 :: a4 :: a5 :: some (.int v) :: r) S h Q) : sm_wp tb_T X tb_ok d lw y pc (a0 :: a1 :: a2 :: a3 :: a4 :: a5 :: some (.int x) :: r) S h Q := by
  subst hp
  subst hv
  exact go_i (r := (pc + 3, a0 :: a1 :: a2 :: a3 :: a4 :: a5 :: some (.int (x + Int32.ofInt n)) :: r, S, h)) hf hins rfl rfl rfl k
theorem go_il7 {a0 a1 a2 a3 a4 a5 a6 : Option Value} {x : Int32} {r : sm_L} (hf : sm_ins tb_T y = f) (hins : f pc = some (.iload 7)) (hp : pc + 2 = p) (k : sm_wp tb_T X tb_ok d lw y p (a0 :: a1 :: a2 :: a3 :: a4 :: a5 :: a6 :: some (.int x) :: r) (.int x :: S) h Q) : sm_wp tb_T X tb_ok d lw y pc (a0 :: a1 :: a2 :: a3 :: a4 :: a5 :: a6 :: some (.int x) :: r) S h Q := by
  subst hp
  exact go_i (r := (pc + 2, a0 :: a1 :: a2 :: a3 :: a4 :: a5 :: a6 :: some (.int x) :: r, .int x :: S, h)) hf hins rfl rfl rfl k
theorem go_al7 {a0 a1 a2 a3 a4 a5 a6 : Option Value} {x : Nat} {r : sm_L} (hf : sm_ins tb_T y = f) (hins : f pc = some (.aload 7)) (hp : pc + 2 = p) (k : sm_wp tb_T X tb_ok d lw y p (a0 :: a1 :: a2 :: a3 :: a4 :: a5 :: a6 :: some (.ref x) :: r) (.ref x :: S) h Q) : sm_wp tb_T X tb_ok d lw y pc (a0 :: a1 :: a2 :: a3 :: a4 :: a5 :: a6 :: some (.ref x) :: r) S h Q := by
  subst hp
  exact go_i (r := (pc + 2, a0 :: a1 :: a2 :: a3 :: a4 :: a5 :: a6 :: some (.ref x) :: r, .ref x :: S, h)) hf hins rfl rfl rfl k
theorem go_is7 {a0 a1 a2 a3 a4 a5 a6 a7 : Option Value} {x : Int32} {r : sm_L} (hf : sm_ins tb_T y = f) (hins : f pc = some (.istore 7)) (hp : pc + 2 = p) (k : sm_wp tb_T X tb_ok d lw y p (a0 :: a1 :: a2 :: a3 :: a4 :: a5 :: a6 :: some (.int x) :: r) S h Q) : sm_wp tb_T X tb_ok d lw y pc (a0 :: a1 :: a2 :: a3 :: a4 :: a5 :: a6 :: a7 :: r) (.int x :: S) h Q := by
  subst hp
  exact go_i (r := (pc + 2, a0 :: a1 :: a2 :: a3 :: a4 :: a5 :: a6 :: some (.int x) :: r, S, h)) hf hins rfl rfl rfl k
theorem go_as7 {a0 a1 a2 a3 a4 a5 a6 a7 : Option Value} {x : Nat} {r : sm_L} (hf : sm_ins tb_T y = f) (hins : f pc = some (.astore 7)) (hp : pc + 2 = p) (k : sm_wp tb_T X tb_ok d lw y p (a0 :: a1 :: a2 :: a3 :: a4 :: a5 :: a6 :: some (.ref x) :: r) S h Q) : sm_wp tb_T X tb_ok d lw y pc (a0 :: a1 :: a2 :: a3 :: a4 :: a5 :: a6 :: a7 :: r) (.ref x :: S) h Q := by
  subst hp
  exact go_i (r := (pc + 2, a0 :: a1 :: a2 :: a3 :: a4 :: a5 :: a6 :: some (.ref x) :: r, S, h)) hf hins rfl rfl rfl k
theorem go_ic7 {a0 a1 a2 a3 a4 a5 a6 : Option Value} {n : Int} {x v : Int32} {r : sm_L} (hf : sm_ins tb_T y = f) (hins : f pc = some (.iinc 7 n)) (hp : pc + 3 = p) (hv : x + Int32.ofInt n = v) (k : sm_wp tb_T X tb_ok d lw y p (a0 :: a1 :: a2 :: a3 :: a4 :: a5 :: a6 :: some (.int v) :: r) S h Q) : sm_wp tb_T X tb_ok d lw y pc (a0 :: a1 :: a2 :: a3 :: a4 :: a5 :: a6 :: some (.int x) :: r) S h Q := by
  subst hp
  subst hv
  exact go_i (r := (pc + 3, a0 :: a1 :: a2 :: a3 :: a4 :: a5 :: a6 :: some (.int (x + Int32.ofInt n)) :: r, S, h)) hf hins rfl rfl rfl k
theorem go_il8 {a0 a1 a2 a3 a4 a5 a6 a7 : Option Value} {x : Int32} {r : sm_L} (hf : sm_ins tb_T y = f) (hins : f pc = some (.iload 8)) (hp : pc + 2 = p) (k : sm_wp tb_T X tb_ok d lw y p (a0 :: a1 :: a2 :: a3 :: a4 :: a5 :: a6 :: a7 :: some (.int x) :: r) (.int x :: S) h Q) : sm_wp tb_T X tb_ok d lw y pc (a0 :: a1 :: a2 :: a3 :: a4 :: a5 :: a6 :: a7 :: some (.int x) :: r) S h Q := by
  subst hp
  exact go_i (r := (pc + 2, a0 :: a1 :: a2 :: a3 :: a4 :: a5 :: a6 :: a7 :: some (.int x) :: r, .int x :: S, h)) hf hins rfl rfl rfl k
theorem go_al8 {a0 a1 a2 a3 a4 a5 a6 a7 : Option Value} {x : Nat} {r : sm_L} (hf : sm_ins tb_T y = f) (hins : f pc = some (.aload 8)) (hp : pc + 2 = p) (k : sm_wp tb_T X tb_ok d lw y p (a0 :: a1 :: a2 :: a3 :: a4 :: a5 :: a6 :: a7 :: some (.ref x) :: r) (.ref x :: S) h Q) : sm_wp tb_T X tb_ok d lw y pc (a0 :: a1 :: a2 :: a3 :: a4 :: a5 :: a6 :: a7 :: some (.ref x) :: r) S h Q := by
  subst hp
  exact go_i (r := (pc + 2, a0 :: a1 :: a2 :: a3 :: a4 :: a5 :: a6 :: a7 :: some (.ref x) :: r, .ref x :: S, h)) hf hins rfl rfl rfl k
theorem go_is8 {a0 a1 a2 a3 a4 a5 a6 a7 a8 : Option Value} {x : Int32} {r : sm_L} (hf : sm_ins tb_T y = f) (hins : f pc = some (.istore 8)) (hp : pc + 2 = p) (k : sm_wp tb_T X tb_ok d lw y p (a0 :: a1 :: a2 :: a3 :: a4 :: a5 :: a6 :: a7 :: some (.int x) :: r) S h Q) : sm_wp tb_T X tb_ok d lw y pc (a0 :: a1 :: a2 :: a3 :: a4 :: a5 :: a6 :: a7 :: a8 :: r) (.int x :: S) h Q := by
  subst hp
  exact go_i (r := (pc + 2, a0 :: a1 :: a2 :: a3 :: a4 :: a5 :: a6 :: a7 :: some (.int x) :: r, S, h)) hf hins rfl rfl rfl k
theorem go_as8 {a0 a1 a2 a3 a4 a5 a6 a7 a8 : Option Value} {x : Nat} {r : sm_L} (hf : sm_ins tb_T y = f) (hins : f pc = some (.astore 8)) (hp : pc + 2 = p) (k : sm_wp tb_T X tb_ok d lw y p (a0 :: a1 :: a2 :: a3 :: a4 :: a5 :: a6 :: a7 :: some (.ref x) :: r) S h Q) : sm_wp tb_T X tb_ok d lw y pc (a0 :: a1 :: a2 :: a3 :: a4 :: a5 :: a6 :: a7 :: a8 :: r) (.ref x :: S) h Q := by
  subst hp
  exact go_i (r := (pc + 2, a0 :: a1 :: a2 :: a3 :: a4 :: a5 :: a6 :: a7 :: some (.ref x) :: r, S, h)) hf hins rfl rfl rfl k
theorem go_ic8 {a0 a1 a2 a3 a4 a5 a6 a7 : Option Value} {n : Int} {x v : Int32} {r : sm_L} (hf : sm_ins tb_T y = f) (hins : f pc = some (.iinc 8 n)) (hp : pc + 3 = p) (hv : x + Int32.ofInt n = v) (k : sm_wp tb_T X tb_ok d lw y p (a0 :: a1 :: a2 :: a3 :: a4 :: a5 :: a6 :: a7 :: some (.int v) :: r) S h Q) : sm_wp tb_T X tb_ok d lw y pc (a0 :: a1 :: a2 :: a3 :: a4 :: a5 :: a6 :: a7 :: some (.int x) :: r) S h Q := by
  subst hp
  subst hv
  exact go_i (r := (pc + 3, a0 :: a1 :: a2 :: a3 :: a4 :: a5 :: a6 :: a7 :: some (.int (x + Int32.ofInt n)) :: r, S, h)) hf hins rfl rfl rfl k
theorem go_il9 {a0 a1 a2 a3 a4 a5 a6 a7 a8 : Option Value} {x : Int32} {r : sm_L} (hf : sm_ins tb_T y = f) (hins : f pc = some (.iload 9)) (hp : pc + 2 = p) (k : sm_wp tb_T X tb_ok d lw y p (a0 :: a1 :: a2 :: a3 :: a4 :: a5 :: a6 :: a7 :: a8 :: some (.int x) :: r) (.int x :: S) h Q) : sm_wp tb_T X tb_ok d lw y pc (a0 :: a1 :: a2 :: a3 :: a4 :: a5 :: a6 :: a7 :: a8 :: some (.int x) :: r) S h Q := by
  subst hp
  exact go_i (r := (pc + 2, a0 :: a1 :: a2 :: a3 :: a4 :: a5 :: a6 :: a7 :: a8 :: some (.int x) :: r, .int x :: S, h)) hf hins rfl rfl rfl k
theorem go_al9 {a0 a1 a2 a3 a4 a5 a6 a7 a8 : Option Value} {x : Nat} {r : sm_L} (hf : sm_ins tb_T y = f) (hins : f pc = some (.aload 9)) (hp : pc + 2 = p) (k : sm_wp tb_T X tb_ok d lw y p (a0 :: a1 :: a2 :: a3 :: a4 :: a5 :: a6 :: a7 :: a8 :: some (.ref x) :: r) (.ref x :: S) h Q) : sm_wp tb_T X tb_ok d lw y pc (a0 :: a1 :: a2 :: a3 :: a4 :: a5 :: a6 :: a7 :: a8 :: some (.ref x) :: r) S h Q := by
  subst hp
  exact go_i (r := (pc + 2, a0 :: a1 :: a2 :: a3 :: a4 :: a5 :: a6 :: a7 :: a8 :: some (.ref x) :: r, .ref x :: S, h)) hf hins rfl rfl rfl k
theorem go_is9 {a0 a1 a2 a3 a4 a5 a6 a7 a8 a9 : Option Value} {x : Int32} {r : sm_L} (hf : sm_ins tb_T y = f) (hins : f pc = some (.istore 9)) (hp : pc + 2 = p) (k : sm_wp tb_T X tb_ok d lw y p (a0 :: a1 :: a2 :: a3 :: a4 :: a5 :: a6 :: a7 :: a8 :: some (.int x) :: r) S h Q) : sm_wp tb_T X tb_ok d lw y pc (a0 :: a1 :: a2 :: a3 :: a4 :: a5 :: a6 :: a7 :: a8 :: a9 :: r) (.int x :: S) h Q := by
  subst hp
  exact go_i (r := (pc + 2, a0 :: a1 :: a2 :: a3 :: a4 :: a5 :: a6 :: a7 :: a8 :: some (.int x) :: r, S, h)) hf hins rfl rfl rfl k
theorem go_as9 {a0 a1 a2 a3 a4 a5 a6 a7 a8 a9 : Option Value} {x : Nat} {r : sm_L} (hf : sm_ins tb_T y = f) (hins : f pc = some (.astore 9)) (hp : pc + 2 = p) (k : sm_wp tb_T X tb_ok d lw y p (a0 :: a1 :: a2 :: a3 :: a4 :: a5 :: a6 :: a7 :: a8 :: some (.ref x) :: r) S h Q) : sm_wp tb_T X tb_ok d lw y pc (a0 :: a1 :: a2 :: a3 :: a4 :: a5 :: a6 :: a7 :: a8 :: a9 :: r) (.ref x :: S) h Q := by
  subst hp
  exact go_i (r := (pc + 2, a0 :: a1 :: a2 :: a3 :: a4 :: a5 :: a6 :: a7 :: a8 :: some (.ref x) :: r, S, h)) hf hins rfl rfl rfl k
theorem go_ic9 {a0 a1 a2 a3 a4 a5 a6 a7 a8 : Option Value} {n : Int} {x v : Int32} {r : sm_L} (hf : sm_ins tb_T y = f) (hins : f pc = some (.iinc 9 n)) (hp : pc + 3 = p) (hv : x + Int32.ofInt n = v) (k : sm_wp tb_T X tb_ok d lw y p (a0 :: a1 :: a2 :: a3 :: a4 :: a5 :: a6 :: a7 :: a8 :: some (.int v) :: r) S h Q) : sm_wp tb_T X tb_ok d lw y pc (a0 :: a1 :: a2 :: a3 :: a4 :: a5 :: a6 :: a7 :: a8 :: some (.int x) :: r) S h Q := by
  subst hp
  subst hv
  exact go_i (r := (pc + 3, a0 :: a1 :: a2 :: a3 :: a4 :: a5 :: a6 :: a7 :: a8 :: some (.int (x + Int32.ofInt n)) :: r, S, h)) hf hins rfl rfl rfl k
theorem go_il10 {a0 a1 a2 a3 a4 a5 a6 a7 a8 a9 : Option Value} {x : Int32} {r : sm_L} (hf : sm_ins tb_T y = f) (hins : f pc = some (.iload 10)) (hp : pc + 2 = p) (k : sm_wp tb_T X tb_ok d lw y p (a0 :: a1 :: a2 :: a3 :: a4 :: a5 :: a6 :: a7 :: a8 :: a9 :: some (.int x) :: r) (.int x :: S) h Q) : sm_wp tb_T X tb_ok d lw y pc (a0 :: a1 :: a2 :: a3 :: a4 :: a5 :: a6 :: a7 :: a8 :: a9 :: some (.int x) :: r) S h Q := by
  subst hp
  exact go_i (r := (pc + 2, a0 :: a1 :: a2 :: a3 :: a4 :: a5 :: a6 :: a7 :: a8 :: a9 :: some (.int x) :: r, .int x :: S, h)) hf hins rfl rfl rfl k
theorem go_al10 {a0 a1 a2 a3 a4 a5 a6 a7 a8 a9 : Option Value} {x : Nat} {r : sm_L} (hf : sm_ins tb_T y = f) (hins : f pc = some (.aload 10)) (hp : pc + 2 = p) (k : sm_wp tb_T X tb_ok d lw y p (a0 :: a1 :: a2 :: a3 :: a4 :: a5 :: a6 :: a7 :: a8 :: a9 :: some (.ref x) :: r) (.ref x :: S) h Q) : sm_wp tb_T X tb_ok d lw y pc (a0 :: a1 :: a2 :: a3 :: a4 :: a5 :: a6 :: a7 :: a8 :: a9 :: some (.ref x) :: r) S h Q := by
  subst hp
  exact go_i (r := (pc + 2, a0 :: a1 :: a2 :: a3 :: a4 :: a5 :: a6 :: a7 :: a8 :: a9 :: some (.ref x) :: r, .ref x :: S, h)) hf hins rfl rfl rfl k
theorem go_is10 {a0 a1 a2 a3 a4 a5 a6 a7 a8 a9 a10 : Option Value} {x : Int32} {r : sm_L} (hf : sm_ins tb_T y = f) (hins : f pc = some (.istore 10)) (hp : pc + 2 = p) (k : sm_wp tb_T X tb_ok d lw y p (a0 :: a1 :: a2 :: a3 :: a4 :: a5 :: a6 :: a7 :: a8 :: a9 :: some (.int x) :: r) S h Q) : sm_wp tb_T X tb_ok d lw y pc (a0 :: a1 :: a2 :: a3 :: a4 :: a5 :: a6 :: a7 :: a8 :: a9 :: a10 :: r) (.int x :: S) h Q := by
  subst hp
  exact go_i (r := (pc + 2, a0 :: a1 :: a2 :: a3 :: a4 :: a5 :: a6 :: a7 :: a8 :: a9 :: some (.int x) :: r, S, h)) hf hins rfl rfl rfl k
theorem go_as10 {a0 a1 a2 a3 a4 a5 a6 a7 a8 a9 a10 : Option Value} {x : Nat} {r : sm_L} (hf : sm_ins tb_T y = f) (hins : f pc = some (.astore 10)) (hp : pc + 2 = p) (k : sm_wp tb_T X tb_ok d lw y p (a0 :: a1 :: a2 :: a3 :: a4 :: a5 :: a6 :: a7 :: a8 :: a9 :: some (.ref x) :: r) S h Q) : sm_wp tb_T X tb_ok d lw y pc (a0 :: a1 :: a2 :: a3 :: a4 :: a5 :: a6 :: a7 :: a8 :: a9 :: a10 :: r) (.ref x :: S) h Q := by
  subst hp
  exact go_i (r := (pc + 2, a0 :: a1 :: a2 :: a3 :: a4 :: a5 :: a6 :: a7 :: a8 :: a9 :: some (.ref x) :: r, S, h)) hf hins rfl rfl rfl k
theorem go_ic10 {a0 a1 a2 a3 a4 a5 a6 a7 a8 a9 : Option Value} {n : Int} {x v : Int32} {r : sm_L} (hf : sm_ins tb_T y = f) (hins : f pc = some (.iinc 10 n)) (hp : pc + 3 = p) (hv : x + Int32.ofInt n = v) (k : sm_wp tb_T X tb_ok d lw y p (a0 :: a1 :: a2 :: a3 :: a4 :: a5 :: a6 :: a7 :: a8 :: a9 :: some (.int v) :: r) S h Q) : sm_wp tb_T X tb_ok d lw y pc (a0 :: a1 :: a2 :: a3 :: a4 :: a5 :: a6 :: a7 :: a8 :: a9 :: some (.int x) :: r) S h Q := by
  subst hp
  subst hv
  exact go_i (r := (pc + 3, a0 :: a1 :: a2 :: a3 :: a4 :: a5 :: a6 :: a7 :: a8 :: a9 :: some (.int (x + Int32.ofInt n)) :: r, S, h)) hf hins rfl rfl rfl k
theorem go_il11 {a0 a1 a2 a3 a4 a5 a6 a7 a8 a9 a10 : Option Value} {x : Int32} {r : sm_L} (hf : sm_ins tb_T y = f) (hins : f pc = some (.iload 11)) (hp : pc + 2 = p) (k : sm_wp tb_T X tb_ok d lw y p (a0 :: a1 :: a2 :: a3 :: a4 :: a5 :: a6 :: a7 :: a8 :: a9 :: a10 :: some (.int x) :: r) (.int x :: S) h Q) : sm_wp tb_T X tb_ok d lw y pc (a0 :: a1 :: a2 :: a3 :: a4 :: a5 :: a6 :: a7 :: a8 :: a9 :: a10 :: some (.int x) :: r) S h Q := by
  subst hp
  exact go_i (r := (pc + 2, a0 :: a1 :: a2 :: a3 :: a4 :: a5 :: a6 :: a7 :: a8 :: a9 :: a10 :: some (.int x) :: r, .int x :: S, h)) hf hins rfl rfl rfl k
theorem go_al11 {a0 a1 a2 a3 a4 a5 a6 a7 a8 a9 a10 : Option Value} {x : Nat} {r : sm_L} (hf : sm_ins tb_T y = f) (hins : f pc = some (.aload 11)) (hp : pc + 2 = p) (k : sm_wp tb_T X tb_ok d lw y p (a0 :: a1 :: a2 :: a3 :: a4 :: a5 :: a6 :: a7 :: a8 :: a9 :: a10 :: some (.ref x) :: r) (.ref x :: S) h Q) : sm_wp tb_T X tb_ok d lw y pc (a0 :: a1 :: a2 :: a3 :: a4 :: a5 :: a6 :: a7 :: a8 :: a9 :: a10 :: some (.ref x) :: r) S h Q := by
  subst hp
  exact go_i (r := (pc + 2, a0 :: a1 :: a2 :: a3 :: a4 :: a5 :: a6 :: a7 :: a8 :: a9 :: a10 :: some (.ref x) :: r, .ref x :: S, h)) hf hins rfl rfl rfl k
theorem go_is11 {a0 a1 a2 a3 a4 a5 a6 a7 a8 a9 a10 a11 : Option Value} {x : Int32} {r : sm_L} (hf : sm_ins tb_T y = f) (hins : f pc = some (.istore 11)) (hp : pc + 2 = p) (k : sm_wp tb_T X tb_ok d lw y p (a0 :: a1 :: a2 :: a3 :: a4 :: a5 :: a6 :: a7 :: a8 :: a9 :: a10 :: some (.int x) :: r) S h Q) : sm_wp tb_T X tb_ok d lw y pc (a0 :: a1 :: a2 :: a3 :: a4 :: a5 :: a6 :: a7 :: a8 :: a9 :: a10 :: a11 :: r) (.int x :: S) h Q := by
  subst hp
  exact go_i (r := (pc + 2, a0 :: a1 :: a2 :: a3 :: a4 :: a5 :: a6 :: a7 :: a8 :: a9 :: a10 :: some (.int x) :: r, S, h)) hf hins rfl rfl rfl k
theorem go_as11 {a0 a1 a2 a3 a4 a5 a6 a7 a8 a9 a10 a11 : Option Value} {x : Nat} {r : sm_L} (hf : sm_ins tb_T y = f) (hins : f pc = some (.astore 11)) (hp : pc + 2 = p) (k : sm_wp tb_T X tb_ok d lw y p (a0 :: a1 :: a2 :: a3 :: a4 :: a5 :: a6 :: a7 :: a8 :: a9 :: a10 :: some (.ref x) :: r) S h Q) : sm_wp tb_T X tb_ok d lw y pc (a0 :: a1 :: a2 :: a3 :: a4 :: a5 :: a6 :: a7 :: a8 :: a9 :: a10 :: a11 :: r) (.ref x :: S) h Q := by
  subst hp
  exact go_i (r := (pc + 2, a0 :: a1 :: a2 :: a3 :: a4 :: a5 :: a6 :: a7 :: a8 :: a9 :: a10 :: some (.ref x) :: r, S, h)) hf hins rfl rfl rfl k
theorem go_ic11 {a0 a1 a2 a3 a4 a5 a6 a7 a8 a9 a10 : Option Value} {n : Int} {x v : Int32} {r : sm_L} (hf : sm_ins tb_T y = f) (hins : f pc = some (.iinc 11 n)) (hp : pc + 3 = p) (hv : x + Int32.ofInt n = v) (k : sm_wp tb_T X tb_ok d lw y p (a0 :: a1 :: a2 :: a3 :: a4 :: a5 :: a6 :: a7 :: a8 :: a9 :: a10 :: some (.int v) :: r) S h Q) : sm_wp tb_T X tb_ok d lw y pc (a0 :: a1 :: a2 :: a3 :: a4 :: a5 :: a6 :: a7 :: a8 :: a9 :: a10 :: some (.int x) :: r) S h Q := by
  subst hp
  subst hv
  exact go_i (r := (pc + 3, a0 :: a1 :: a2 :: a3 :: a4 :: a5 :: a6 :: a7 :: a8 :: a9 :: a10 :: some (.int (x + Int32.ofInt n)) :: r, S, h)) hf hins rfl rfl rfl k
theorem go_il12 {a0 a1 a2 a3 a4 a5 a6 a7 a8 a9 a10 a11 : Option Value} {x : Int32} {r : sm_L} (hf : sm_ins tb_T y = f) (hins : f pc = some (.iload 12)) (hp : pc + 2 = p) (k : sm_wp tb_T X tb_ok d lw y p (a0 :: a1 :: a2 :: a3 :: a4 :: a5 :: a6 :: a7 :: a8 :: a9 :: a10 :: a11 :: some (.int x) :: r) (.int x :: S) h Q) : sm_wp tb_T X tb_ok d lw y pc (a0 :: a1 :: a2 :: a3 :: a4 :: a5 :: a6 :: a7 :: a8 :: a9 :: a10 :: a11 :: some (.int x) :: r) S h Q := by
  subst hp
  exact go_i (r := (pc + 2, a0 :: a1 :: a2 :: a3 :: a4 :: a5 :: a6 :: a7 :: a8 :: a9 :: a10 :: a11 :: some (.int x) :: r, .int x :: S, h)) hf hins rfl rfl rfl k
theorem go_al12 {a0 a1 a2 a3 a4 a5 a6 a7 a8 a9 a10 a11 : Option Value} {x : Nat} {r : sm_L} (hf : sm_ins tb_T y = f) (hins : f pc = some (.aload 12)) (hp : pc + 2 = p) (k : sm_wp tb_T X tb_ok d lw y p (a0 :: a1 :: a2 :: a3 :: a4 :: a5 :: a6 :: a7 :: a8 :: a9 :: a10 :: a11 :: some (.ref x) :: r) (.ref x :: S) h Q) : sm_wp tb_T X tb_ok d lw y pc (a0 :: a1 :: a2 :: a3 :: a4 :: a5 :: a6 :: a7 :: a8 :: a9 :: a10 :: a11 :: some (.ref x) :: r) S h Q := by
  subst hp
  exact go_i (r := (pc + 2, a0 :: a1 :: a2 :: a3 :: a4 :: a5 :: a6 :: a7 :: a8 :: a9 :: a10 :: a11 :: some (.ref x) :: r, .ref x :: S, h)) hf hins rfl rfl rfl k
theorem go_is12 {a0 a1 a2 a3 a4 a5 a6 a7 a8 a9 a10 a11 a12 : Option Value} {x : Int32} {r : sm_L} (hf : sm_ins tb_T y = f) (hins : f pc = some (.istore 12)) (hp : pc + 2 = p) (k : sm_wp tb_T X tb_ok d lw y p (a0 :: a1 :: a2 :: a3 :: a4 :: a5 :: a6 :: a7 :: a8 :: a9 :: a10 :: a11 :: some (.int x) :: r) S h Q) : sm_wp tb_T X tb_ok d lw y pc (a0 :: a1 :: a2 :: a3 :: a4 :: a5 :: a6 :: a7 :: a8 :: a9 :: a10 :: a11 :: a12 :: r) (.int x :: S) h Q := by
  subst hp
  exact go_i (r := (pc + 2, a0 :: a1 :: a2 :: a3 :: a4 :: a5 :: a6 :: a7 :: a8 :: a9 :: a10 :: a11 :: some (.int x) :: r, S, h)) hf hins rfl rfl rfl k
theorem go_as12 {a0 a1 a2 a3 a4 a5 a6 a7 a8 a9 a10 a11 a12 : Option Value} {x : Nat} {r : sm_L} (hf : sm_ins tb_T y = f) (hins : f pc = some (.astore 12)) (hp : pc + 2 = p) (k : sm_wp tb_T X tb_ok d lw y p (a0 :: a1 :: a2 :: a3 :: a4 :: a5 :: a6 :: a7 :: a8 :: a9 :: a10 :: a11 :: some (.ref x) :: r) S h Q) : sm_wp tb_T X tb_ok d lw y pc (a0 :: a1 :: a2 :: a3 :: a4 :: a5 :: a6 :: a7 :: a8 :: a9 :: a10 :: a11 :: a12 :: r) (.ref x :: S) h Q := by
  subst hp
  exact go_i (r := (pc + 2, a0 :: a1 :: a2 :: a3 :: a4 :: a5 :: a6 :: a7 :: a8 :: a9 :: a10 :: a11 :: some (.ref x) :: r, S, h)) hf hins rfl rfl rfl k
theorem go_ic12 {a0 a1 a2 a3 a4 a5 a6 a7 a8 a9 a10 a11 : Option Value} {n : Int} {x v : Int32} {r : sm_L} (hf : sm_ins tb_T y = f) (hins : f pc = some (.iinc 12 n)) (hp : pc + 3 = p) (hv : x + Int32.ofInt n = v) (k : sm_wp tb_T X tb_ok d lw y p (a0 :: a1 :: a2 :: a3 :: a4 :: a5 :: a6 :: a7 :: a8 :: a9 :: a10 :: a11 :: some (.int v) :: r) S h Q) : sm_wp tb_T X tb_ok d lw y pc (a0 :: a1 :: a2 :: a3 :: a4 :: a5 :: a6 :: a7 :: a8 :: a9 :: a10 :: a11 :: some (.int x) :: r) S h Q := by
  subst hp
  subst hv
  exact go_i (r := (pc + 3, a0 :: a1 :: a2 :: a3 :: a4 :: a5 :: a6 :: a7 :: a8 :: a9 :: a10 :: a11 :: some (.int (x + Int32.ofInt n)) :: r, S, h)) hf hins rfl rfl rfl k
theorem go_il13 {a0 a1 a2 a3 a4 a5 a6 a7 a8 a9 a10 a11 a12 : Option Value} {x : Int32} {r : sm_L} (hf : sm_ins tb_T y = f) (hins : f pc = some (.iload 13)) (hp : pc + 2 = p) (k : sm_wp tb_T X tb_ok d lw y p (a0 :: a1 :: a2 :: a3 :: a4 :: a5 :: a6 :: a7 :: a8 :: a9 :: a10 :: a11 :: a12 :: some (.int x) :: r) (.int x :: S) h Q) : sm_wp tb_T X tb_ok d lw y pc (a0 :: a1 :: a2 :: a3 :: a4 :: a5 :: a6 :: a7 :: a8 :: a9 :: a10 :: a11 :: a12 :: some (.int x) :: r) S h Q := by
  subst hp
  exact go_i (r := (pc + 2, a0 :: a1 :: a2 :: a3 :: a4 :: a5 :: a6 :: a7 :: a8 :: a9 :: a10 :: a11 :: a12 :: some (.int x) :: r, .int x :: S, h)) hf hins rfl rfl rfl k
theorem go_al13 {a0 a1 a2 a3 a4 a5 a6 a7 a8 a9 a10 a11 a12 : Option Value} {x : Nat} {r : sm_L} (hf : sm_ins tb_T y = f) (hins : f pc = some (.aload 13)) (hp : pc + 2 = p) (k : sm_wp tb_T X tb_ok d lw y p (a0 :: a1 :: a2 :: a3 :: a4 :: a5 :: a6 :: a7 :: a8 :: a9 :: a10 :: a11 :: a12 :: some (.ref x) :: r) (.ref x :: S) h Q) : sm_wp tb_T X tb_ok d lw y pc (a0 :: a1 :: a2 :: a3 :: a4 :: a5 :: a6 :: a7 :: a8 :: a9 :: a10 :: a11 :: a12 :: some (.ref x) :: r) S h Q := by
  subst hp
  exact go_i (r := (pc + 2, a0 :: a1 :: a2 :: a3 :: a4 :: a5 :: a6 :: a7 :: a8 :: a9 :: a10 :: a11 :: a12 :: some (.ref x) :: r, .ref x :: S, h)) hf hins rfl rfl rfl k
theorem go_is13 {a0 a1 a2 a3 a4 a5 a6 a7 a8 a9 a10 a11 a12 a13 : Option Value} {x : Int32} {r : sm_L} (hf : sm_ins tb_T y = f) (hins : f pc = some (.istore 13)) (hp : pc + 2 = p) (k : sm_wp tb_T X tb_ok d lw y p (a0 :: a1 :: a2 :: a3 :: a4 :: a5 :: a6 :: a7 :: a8 :: a9 :: a10 :: a11 :: a12 :: some (.int x) :: r) S h Q) : sm_wp tb_T X tb_ok d lw y pc (a0 :: a1 :: a2 :: a3 :: a4 :: a5 :: a6 :: a7 :: a8 :: a9 :: a10 :: a11 :: a12 :: a13 :: r) (.int x :: S) h Q := by
  subst hp
  exact go_i (r := (pc + 2, a0 :: a1 :: a2 :: a3 :: a4 :: a5 :: a6 :: a7 :: a8 :: a9 :: a10 :: a11 :: a12 :: some (.int x) :: r, S, h)) hf hins rfl rfl rfl k
theorem go_as13 {a0 a1 a2 a3 a4 a5 a6 a7 a8 a9 a10 a11 a12 a13 : Option Value} {x : Nat} {r : sm_L} (hf : sm_ins tb_T y = f) (hins : f pc = some (.astore 13)) (hp : pc + 2 = p) (k : sm_wp tb_T X tb_ok d lw y p (a0 :: a1 :: a2 :: a3 :: a4 :: a5 :: a6 :: a7 :: a8 :: a9 :: a10 :: a11 :: a12 :: some (.ref x) :: r) S h Q) : sm_wp tb_T X tb_ok d lw y pc (a0 :: a1 :: a2 :: a3 :: a4 :: a5 :: a6 :: a7 :: a8 :: a9 :: a10 :: a11 :: a12 :: a13 :: r) (.ref x :: S) h Q := by
  subst hp
  exact go_i (r := (pc + 2, a0 :: a1 :: a2 :: a3 :: a4 :: a5 :: a6 :: a7 :: a8 :: a9 :: a10 :: a11 :: a12 :: some (.ref x) :: r, S, h)) hf hins rfl rfl rfl k
theorem go_ic13 {a0 a1 a2 a3 a4 a5 a6 a7 a8 a9 a10 a11 a12 : Option Value} {n : Int} {x v : Int32} {r : sm_L} (hf : sm_ins tb_T y = f) (hins : f pc = some (.iinc 13 n)) (hp : pc + 3 = p) (hv : x + Int32.ofInt n = v) (k : sm_wp tb_T X tb_ok d lw y p (a0 :: a1 :: a2 :: a3 :: a4 :: a5 :: a6 :: a7 :: a8 :: a9 :: a10 :: a11 :: a12 :: some (.int v) :: r) S h Q) : sm_wp tb_T X tb_ok d lw y pc (a0 :: a1 :: a2 :: a3 :: a4 :: a5 :: a6 :: a7 :: a8 :: a9 :: a10 :: a11 :: a12 :: some (.int x) :: r) S h Q := by
  subst hp
  subst hv
  exact go_i (r := (pc + 3, a0 :: a1 :: a2 :: a3 :: a4 :: a5 :: a6 :: a7 :: a8 :: a9 :: a10 :: a11 :: a12 :: some (.int (x + Int32.ofInt n)) :: r, S, h)) hf hins rfl rfl rfl k
theorem go_il14 {a0 a1 a2 a3 a4 a5 a6 a7 a8 a9 a10 a11 a12 a13 : Option Value} {x : Int32} {r : sm_L} (hf : sm_ins tb_T y = f) (hins : f pc = some (.iload 14)) (hp : pc + 2 = p) (k : sm_wp tb_T X tb_ok d lw y p (a0 :: a1 :: a2 :: a3 :: a4 :: a5 :: a6 :: a7 :: a8 :: a9 :: a10 :: a11 :: a12 :: a13 :: some (.int x) :: r) (.int x :: S) h Q) : sm_wp tb_T X tb_ok d lw y pc (a0 :: a1 :: a2 :: a3 :: a4 :: a5 :: a6 :: a7 :: a8 :: a9 :: a10 :: a11 :: a12 :: a13 :: some (.int x) :: r) S h Q := by
  subst hp
  exact go_i (r := (pc + 2, a0 :: a1 :: a2 :: a3 :: a4 :: a5 :: a6 :: a7 :: a8 :: a9 :: a10 :: a11 :: a12 :: a13 :: some (.int x) :: r, .int x :: S, h)) hf hins rfl rfl rfl k
theorem go_al14 {a0 a1 a2 a3 a4 a5 a6 a7 a8 a9 a10 a11 a12 a13 : Option Value} {x : Nat} {r : sm_L} (hf : sm_ins tb_T y = f) (hins : f pc = some (.aload 14)) (hp : pc + 2 = p) (k : sm_wp tb_T X tb_ok d lw y p (a0 :: a1 :: a2 :: a3 :: a4 :: a5 :: a6 :: a7 :: a8 :: a9 :: a10 :: a11 :: a12 :: a13 :: some (.ref x) :: r) (.ref x :: S) h Q) : sm_wp tb_T X tb_ok d lw y pc (a0 :: a1 :: a2 :: a3 :: a4 :: a5 :: a6 :: a7 :: a8 :: a9 :: a10 :: a11 :: a12 :: a13 :: some (.ref x) :: r) S h Q := by
  subst hp
  exact go_i (r := (pc + 2, a0 :: a1 :: a2 :: a3 :: a4 :: a5 :: a6 :: a7 :: a8 :: a9 :: a10 :: a11 :: a12 :: a13 :: some (.ref x) :: r, .ref x :: S, h)) hf hins rfl rfl rfl k
theorem go_is14 {a0 a1 a2 a3 a4 a5 a6 a7 a8 a9 a10 a11 a12 a13 a14 : Option Value} {x : Int32} {r : sm_L} (hf : sm_ins tb_T y = f) (hins : f pc = some (.istore 14)) (hp : pc + 2 = p) (k : sm_wp tb_T X tb_ok d lw y p (a0 :: a1 :: a2 :: a3 :: a4 :: a5 :: a6 :: a7 :: a8 :: a9 :: a10 :: a11 :: a12 :: a13 :: some (.int x) :: r) S h Q) : sm_wp tb_T X tb_ok d lw y pc (a0 :: a1 :: a2 :: a3 :: a4 :: a5 :: a6 :: a7 :: a8 :: a9 :: a10 :: a11 :: a12 :: a13 :: a14 :: r) (.int x :: S) h Q := by
  subst hp
  exact go_i (r := (pc + 2, a0 :: a1 :: a2 :: a3 :: a4 :: a5 :: a6 :: a7 :: a8 :: a9 :: a10 :: a11 :: a12 :: a13 :: some (.int x) :: r, S, h)) hf hins rfl rfl rfl k
theorem go_as14 {a0 a1 a2 a3 a4 a5 a6 a7 a8 a9 a10 a11 a12 a13 a14 : Option Value} {x : Nat} {r : sm_L} (hf : sm_ins tb_T y = f) (hins : f pc = some (.astore 14)) (hp : pc + 2 = p) (k : sm_wp tb_T X tb_ok d lw y p (a0 :: a1 :: a2 :: a3 :: a4 :: a5 :: a6 :: a7 :: a8 :: a9 :: a10 :: a11 :: a12 :: a13 :: some (.ref x) :: r) S h Q) : sm_wp tb_T X tb_ok d lw y pc (a0 :: a1 :: a2 :: a3 :: a4 :: a5 :: a6 :: a7 :: a8 :: a9 :: a10 :: a11 :: a12 :: a13 :: a14 :: r) (.ref x :: S) h Q := by
  subst hp
  exact go_i (r := (pc + 2, a0 :: a1 :: a2 :: a3 :: a4 :: a5 :: a6 :: a7 :: a8 :: a9 :: a10 :: a11 :: a12 :: a13 :: some (.ref x) :: r, S, h)) hf hins rfl rfl rfl k
theorem go_ic14 {a0 a1 a2 a3 a4 a5 a6 a7 a8 a9 a10 a11 a12 a13 : Option Value} {n : Int} {x v : Int32} {r : sm_L} (hf : sm_ins tb_T y = f) (hins : f pc = some (.iinc 14 n)) (hp : pc + 3 = p) (hv : x + Int32.ofInt n = v) (k : sm_wp tb_T X tb_ok d lw y p (a0 :: a1 :: a2 :: a3 :: a4 :: a5 :: a6 :: a7 :: a8 :: a9 :: a10 :: a11 :: a12 :: a13 :: some (.int v) :: r) S h Q) : sm_wp tb_T X tb_ok d lw y pc (a0 :: a1 :: a2 :: a3 :: a4 :: a5 :: a6 :: a7 :: a8 :: a9 :: a10 :: a11 :: a12 :: a13 :: some (.int x) :: r) S h Q := by
  subst hp
  subst hv
  exact go_i (r := (pc + 3, a0 :: a1 :: a2 :: a3 :: a4 :: a5 :: a6 :: a7 :: a8 :: a9 :: a10 :: a11 :: a12 :: a13 :: some (.int (x + Int32.ofInt n)) :: r, S, h)) hf hins rfl rfl rfl k
theorem go_alX {x : Nat} {r : sm_L} (hf : sm_ins tb_T y = f) (hins : f pc = some (.aload_n 0)) (hp : pc + 1 = p) (k : sm_wp tb_T X tb_ok d lw y p (some (.retAddr x) :: r) (.retAddr x :: S) h Q) : sm_wp tb_T X tb_ok d lw y pc (some (.retAddr x) :: r) S h Q := by
  subst hp
  exact go_i (r := (pc + 1, some (.retAddr x) :: r, .retAddr x :: S, h)) hf hins rfl rfl rfl k
theorem go_iadd {a b v : Int32} (hf : sm_ins tb_T y = f) (hins : f pc = some .iadd) (hp : pc + 1 = p) (hv : a + b = v) (k : sm_wp tb_T X tb_ok d lw y p L (.int v :: S) h Q) : sm_wp tb_T X tb_ok d lw y pc L (.int b :: .int a :: S) h Q := by
  subst hp
  subst hv
  exact go_i (r := (pc + 1, L, .int (a + b) :: S, h)) hf hins rfl rfl rfl k
theorem go_isub {a b v : Int32} (hf : sm_ins tb_T y = f) (hins : f pc = some .isub) (hp : pc + 1 = p) (hv : a - b = v) (k : sm_wp tb_T X tb_ok d lw y p L (.int v :: S) h Q) : sm_wp tb_T X tb_ok d lw y pc L (.int b :: .int a :: S) h Q := by
  subst hp
  subst hv
  exact go_i (r := (pc + 1, L, .int (a - b) :: S, h)) hf hins rfl rfl rfl k
theorem go_imul {a b v : Int32} (hf : sm_ins tb_T y = f) (hins : f pc = some .imul) (hp : pc + 1 = p) (hv : a * b = v) (k : sm_wp tb_T X tb_ok d lw y p L (.int v :: S) h Q) : sm_wp tb_T X tb_ok d lw y pc L (.int b :: .int a :: S) h Q := by
  subst hp
  subst hv
  exact go_i (r := (pc + 1, L, .int (a * b) :: S, h)) hf hins rfl rfl rfl k
theorem go_iand {a b v : Int32} (hf : sm_ins tb_T y = f) (hins : f pc = some .iand) (hp : pc + 1 = p) (hv : a &&& b = v) (k : sm_wp tb_T X tb_ok d lw y p L (.int v :: S) h Q) : sm_wp tb_T X tb_ok d lw y pc L (.int b :: .int a :: S) h Q := by
  subst hp
  subst hv
  exact go_i (r := (pc + 1, L, .int (a &&& b) :: S, h)) hf hins rfl rfl rfl k
theorem go_ior {a b v : Int32} (hf : sm_ins tb_T y = f) (hins : f pc = some .ior) (hp : pc + 1 = p) (hv : a ||| b = v) (k : sm_wp tb_T X tb_ok d lw y p L (.int v :: S) h Q) : sm_wp tb_T X tb_ok d lw y pc L (.int b :: .int a :: S) h Q := by
  subst hp
  subst hv
  exact go_i (r := (pc + 1, L, .int (a ||| b) :: S, h)) hf hins rfl rfl rfl k
theorem go_ixor {a b v : Int32} (hf : sm_ins tb_T y = f) (hins : f pc = some .ixor) (hp : pc + 1 = p) (hv : a ^^^ b = v) (k : sm_wp tb_T X tb_ok d lw y p L (.int v :: S) h Q) : sm_wp tb_T X tb_ok d lw y pc L (.int b :: .int a :: S) h Q := by
  subst hp
  subst hv
  exact go_i (r := (pc + 1, L, .int (a ^^^ b) :: S, h)) hf hins rfl rfl rfl k
theorem go_ishl {a b v : Int32} (hf : sm_ins tb_T y = f) (hins : f pc = some .ishl) (hp : pc + 1 = p) (hv : a <<< (b &&& 31) = v) (k : sm_wp tb_T X tb_ok d lw y p L (.int v :: S) h Q) : sm_wp tb_T X tb_ok d lw y pc L (.int b :: .int a :: S) h Q := by
  subst hp
  subst hv
  exact go_i (r := (pc + 1, L, .int (a <<< (b &&& 31)) :: S, h)) hf hins rfl rfl rfl k
theorem go_ishr {a b v : Int32} (hf : sm_ins tb_T y = f) (hins : f pc = some .ishr) (hp : pc + 1 = p) (hv : a >>> (b &&& 31) = v) (k : sm_wp tb_T X tb_ok d lw y p L (.int v :: S) h Q) : sm_wp tb_T X tb_ok d lw y pc L (.int b :: .int a :: S) h Q := by
  subst hp
  subst hv
  exact go_i (r := (pc + 1, L, .int (a >>> (b &&& 31)) :: S, h)) hf hins rfl rfl rfl k
theorem go_br {c : ClassFile.Cond} {off : Int} {a : Int32} {p2 : Nat} (hf : sm_ins tb_T y = f) (hins : f pc = some (.ifCond c off)) (hp : pc + 3 = p) (h0 : (pc : Int) + off = p2) (kt : sm_cnd c a 0 → sm_wp tb_T X tb_ok d lw y p2 L S h Q) (kf : ¬ sm_cnd c a 0 → sm_wp tb_T X tb_ok d lw y p L S h Q) : sm_wp tb_T X tb_ok d lw y pc L (.int a :: S) h Q := by
  subst hp
  have e2 : sm_tgt pc off = p2 := by unfold sm_tgt; omega
  refine go_i (r := (sm_sel c a 0 (sm_tgt pc off) (pc + 3), L, S, h)) hf hins rfl rfl (if_pos (by omega)) ?_
  by_cases hc : sm_cnd c a 0
  · rw [sm_sel_t hc, e2]; exact kt hc
  · rw [sm_sel_f hc]; exact kf hc
theorem go_br2 {c : ClassFile.Cond} {off : Int} {a b : Int32} {p2 : Nat} (hf : sm_ins tb_T y = f) (hins : f pc = some (.if_icmp c off)) (hp : pc + 3 = p) (h0 : (pc : Int) + off = p2) (kt : sm_cnd c a b → sm_wp tb_T X tb_ok d lw y p2 L S h Q) (kf : ¬ sm_cnd c a b → sm_wp tb_T X tb_ok d lw y p L S h Q) : sm_wp tb_T X tb_ok d lw y pc L (.int b :: .int a :: S) h Q := by
  subst hp
  have e2 : sm_tgt pc off = p2 := by unfold sm_tgt; omega
  refine go_i (r := (sm_sel c a b (sm_tgt pc off) (pc + 3), L, S, h)) hf hins rfl rfl (if_pos (by omega)) ?_
  by_cases hc : sm_cnd c a b
  · rw [sm_sel_t hc, e2]; exact kt hc
  · rw [sm_sel_f hc]; exact kf hc
theorem go_if_eq {off : Int} {a : Int32} {p2 : Nat} (hf : sm_ins tb_T y = f) (hins : f pc = some (.ifCond .eq off)) (hp : pc + 3 = p) (h0 : (pc : Int) + off = p2) (kt : a = 0 → sm_wp tb_T X tb_ok d lw y p2 L S h Q) (kf : ¬ a = 0 → sm_wp tb_T X tb_ok d lw y p L S h Q) : sm_wp tb_T X tb_ok d lw y pc L (.int a :: S) h Q :=
  go_br hf hins hp h0 kt (fun hc => kf hc)
theorem go_ic_eq {off : Int} {a b : Int32} {p2 : Nat} (hf : sm_ins tb_T y = f) (hins : f pc = some (.if_icmp .eq off)) (hp : pc + 3 = p) (h0 : (pc : Int) + off = p2) (kt : a = b → sm_wp tb_T X tb_ok d lw y p2 L S h Q) (kf : ¬ a = b → sm_wp tb_T X tb_ok d lw y p L S h Q) : sm_wp tb_T X tb_ok d lw y pc L (.int b :: .int a :: S) h Q :=
  go_br2 hf hins hp h0 kt (fun hc => kf hc)
theorem go_nn_eq {off : Int} {a b : Nat} {p2 : Nat} (hf : sm_ins tb_T y = f) (hins : f pc = some (.if_icmp .eq off)) (hp : pc + 3 = p) (h0 : (pc : Int) + off = p2) (ha : a < 2 ^ 31) (hb : b < 2 ^ 31) (kt : a = b → sm_wp tb_T X tb_ok d lw y p2 L S h Q) (kf : ¬ a = b → sm_wp tb_T X tb_ok d lw y p L S h Q) : sm_wp tb_T X tb_ok d lw y pc L (.int (nI b) :: .int (nI a) :: S) h Q :=
  go_ic_eq hf hins hp h0 (fun hc => kt ((nI_eq ha hb).mp hc)) (fun hc => kf (fun h9 => hc ((nI_eq ha hb).mpr h9)))
theorem go_if_ne {off : Int} {a : Int32} {p2 : Nat} (hf : sm_ins tb_T y = f) (hins : f pc = some (.ifCond .ne off)) (hp : pc + 3 = p) (h0 : (pc : Int) + off = p2) (kt : ¬ a = 0 → sm_wp tb_T X tb_ok d lw y p2 L S h Q) (kf : a = 0 → sm_wp tb_T X tb_ok d lw y p L S h Q) : sm_wp tb_T X tb_ok d lw y pc L (.int a :: S) h Q :=
  go_br hf hins hp h0 kt (fun hc => kf (Classical.not_not.mp hc))
theorem go_ic_ne {off : Int} {a b : Int32} {p2 : Nat} (hf : sm_ins tb_T y = f) (hins : f pc = some (.if_icmp .ne off)) (hp : pc + 3 = p) (h0 : (pc : Int) + off = p2) (kt : ¬ a = b → sm_wp tb_T X tb_ok d lw y p2 L S h Q) (kf : a = b → sm_wp tb_T X tb_ok d lw y p L S h Q) : sm_wp tb_T X tb_ok d lw y pc L (.int b :: .int a :: S) h Q :=
  go_br2 hf hins hp h0 kt (fun hc => kf (Classical.not_not.mp hc))
theorem go_nn_ne {off : Int} {a b : Nat} {p2 : Nat} (hf : sm_ins tb_T y = f) (hins : f pc = some (.if_icmp .ne off)) (hp : pc + 3 = p) (h0 : (pc : Int) + off = p2) (ha : a < 2 ^ 31) (hb : b < 2 ^ 31) (kt : ¬ a = b → sm_wp tb_T X tb_ok d lw y p2 L S h Q) (kf : a = b → sm_wp tb_T X tb_ok d lw y p L S h Q) : sm_wp tb_T X tb_ok d lw y pc L (.int (nI b) :: .int (nI a) :: S) h Q :=
  go_ic_ne hf hins hp h0 (fun hc => kt ((not_congr (nI_eq ha hb)).mp hc)) (fun hc => kf ((nI_eq ha hb).mp hc))
theorem go_if_lt {off : Int} {a : Int32} {p2 : Nat} (hf : sm_ins tb_T y = f) (hins : f pc = some (.ifCond .lt off)) (hp : pc + 3 = p) (h0 : (pc : Int) + off = p2) (kt : a < 0 → sm_wp tb_T X tb_ok d lw y p2 L S h Q) (kf : ¬ a < 0 → sm_wp tb_T X tb_ok d lw y p L S h Q) : sm_wp tb_T X tb_ok d lw y pc L (.int a :: S) h Q :=
  go_br hf hins hp h0 kt (fun hc => kf hc)
theorem go_ic_lt {off : Int} {a b : Int32} {p2 : Nat} (hf : sm_ins tb_T y = f) (hins : f pc = some (.if_icmp .lt off)) (hp : pc + 3 = p) (h0 : (pc : Int) + off = p2) (kt : a < b → sm_wp tb_T X tb_ok d lw y p2 L S h Q) (kf : ¬ a < b → sm_wp tb_T X tb_ok d lw y p L S h Q) : sm_wp tb_T X tb_ok d lw y pc L (.int b :: .int a :: S) h Q :=
  go_br2 hf hins hp h0 kt (fun hc => kf hc)
theorem go_nn_lt {off : Int} {a b : Nat} {p2 : Nat} (hf : sm_ins tb_T y = f) (hins : f pc = some (.if_icmp .lt off)) (hp : pc + 3 = p) (h0 : (pc : Int) + off = p2) (ha : a < 2 ^ 31) (hb : b < 2 ^ 31) (kt : a < b → sm_wp tb_T X tb_ok d lw y p2 L S h Q) (kf : ¬ a < b → sm_wp tb_T X tb_ok d lw y p L S h Q) : sm_wp tb_T X tb_ok d lw y pc L (.int (nI b) :: .int (nI a) :: S) h Q :=
  go_ic_lt hf hins hp h0 (fun hc => kt ((nI_ltI ha hb).mp hc)) (fun hc => kf (fun h9 => hc ((nI_ltI ha hb).mpr h9)))
theorem go_if_ge {off : Int} {a : Int32} {p2 : Nat} (hf : sm_ins tb_T y = f) (hins : f pc = some (.ifCond .ge off)) (hp : pc + 3 = p) (h0 : (pc : Int) + off = p2) (kt : 0 ≤ a → sm_wp tb_T X tb_ok d lw y p2 L S h Q) (kf : ¬ 0 ≤ a → sm_wp tb_T X tb_ok d lw y p L S h Q) : sm_wp tb_T X tb_ok d lw y pc L (.int a :: S) h Q :=
  go_br hf hins hp h0 kt (fun hc => kf hc)
theorem go_ic_ge {off : Int} {a b : Int32} {p2 : Nat} (hf : sm_ins tb_T y = f) (hins : f pc = some (.if_icmp .ge off)) (hp : pc + 3 = p) (h0 : (pc : Int) + off = p2) (kt : b ≤ a → sm_wp tb_T X tb_ok d lw y p2 L S h Q) (kf : ¬ b ≤ a → sm_wp tb_T X tb_ok d lw y p L S h Q) : sm_wp tb_T X tb_ok d lw y pc L (.int b :: .int a :: S) h Q :=
  go_br2 hf hins hp h0 kt (fun hc => kf hc)
theorem go_nn_ge {off : Int} {a b : Nat} {p2 : Nat} (hf : sm_ins tb_T y = f) (hins : f pc = some (.if_icmp .ge off)) (hp : pc + 3 = p) (h0 : (pc : Int) + off = p2) (ha : a < 2 ^ 31) (hb : b < 2 ^ 31) (kt : b ≤ a → sm_wp tb_T X tb_ok d lw y p2 L S h Q) (kf : ¬ b ≤ a → sm_wp tb_T X tb_ok d lw y p L S h Q) : sm_wp tb_T X tb_ok d lw y pc L (.int (nI b) :: .int (nI a) :: S) h Q :=
  go_ic_ge hf hins hp h0 (fun hc => kt ((nI_leI hb ha).mp hc)) (fun hc => kf (fun h9 => hc ((nI_leI hb ha).mpr h9)))
theorem go_if_gt {off : Int} {a : Int32} {p2 : Nat} (hf : sm_ins tb_T y = f) (hins : f pc = some (.ifCond .gt off)) (hp : pc + 3 = p) (h0 : (pc : Int) + off = p2) (kt : 0 < a → sm_wp tb_T X tb_ok d lw y p2 L S h Q) (kf : ¬ 0 < a → sm_wp tb_T X tb_ok d lw y p L S h Q) : sm_wp tb_T X tb_ok d lw y pc L (.int a :: S) h Q :=
  go_br hf hins hp h0 kt (fun hc => kf hc)
theorem go_ic_gt {off : Int} {a b : Int32} {p2 : Nat} (hf : sm_ins tb_T y = f) (hins : f pc = some (.if_icmp .gt off)) (hp : pc + 3 = p) (h0 : (pc : Int) + off = p2) (kt : b < a → sm_wp tb_T X tb_ok d lw y p2 L S h Q) (kf : ¬ b < a → sm_wp tb_T X tb_ok d lw y p L S h Q) : sm_wp tb_T X tb_ok d lw y pc L (.int b :: .int a :: S) h Q :=
  go_br2 hf hins hp h0 kt (fun hc => kf hc)
theorem go_nn_gt {off : Int} {a b : Nat} {p2 : Nat} (hf : sm_ins tb_T y = f) (hins : f pc = some (.if_icmp .gt off)) (hp : pc + 3 = p) (h0 : (pc : Int) + off = p2) (ha : a < 2 ^ 31) (hb : b < 2 ^ 31) (kt : b < a → sm_wp tb_T X tb_ok d lw y p2 L S h Q) (kf : ¬ b < a → sm_wp tb_T X tb_ok d lw y p L S h Q) : sm_wp tb_T X tb_ok d lw y pc L (.int (nI b) :: .int (nI a) :: S) h Q :=
  go_ic_gt hf hins hp h0 (fun hc => kt ((nI_ltI hb ha).mp hc)) (fun hc => kf (fun h9 => hc ((nI_ltI hb ha).mpr h9)))
theorem go_if_le {off : Int} {a : Int32} {p2 : Nat} (hf : sm_ins tb_T y = f) (hins : f pc = some (.ifCond .le off)) (hp : pc + 3 = p) (h0 : (pc : Int) + off = p2) (kt : a ≤ 0 → sm_wp tb_T X tb_ok d lw y p2 L S h Q) (kf : ¬ a ≤ 0 → sm_wp tb_T X tb_ok d lw y p L S h Q) : sm_wp tb_T X tb_ok d lw y pc L (.int a :: S) h Q :=
  go_br hf hins hp h0 kt (fun hc => kf hc)
theorem go_ic_le {off : Int} {a b : Int32} {p2 : Nat} (hf : sm_ins tb_T y = f) (hins : f pc = some (.if_icmp .le off)) (hp : pc + 3 = p) (h0 : (pc : Int) + off = p2) (kt : a ≤ b → sm_wp tb_T X tb_ok d lw y p2 L S h Q) (kf : ¬ a ≤ b → sm_wp tb_T X tb_ok d lw y p L S h Q) : sm_wp tb_T X tb_ok d lw y pc L (.int b :: .int a :: S) h Q :=
  go_br2 hf hins hp h0 kt (fun hc => kf hc)
theorem go_nn_le {off : Int} {a b : Nat} {p2 : Nat} (hf : sm_ins tb_T y = f) (hins : f pc = some (.if_icmp .le off)) (hp : pc + 3 = p) (h0 : (pc : Int) + off = p2) (ha : a < 2 ^ 31) (hb : b < 2 ^ 31) (kt : a ≤ b → sm_wp tb_T X tb_ok d lw y p2 L S h Q) (kf : ¬ a ≤ b → sm_wp tb_T X tb_ok d lw y p L S h Q) : sm_wp tb_T X tb_ok d lw y pc L (.int (nI b) :: .int (nI a) :: S) h Q :=
  go_ic_le hf hins hp h0 (fun hc => kt ((nI_leI ha hb).mp hc)) (fun hc => kf (fun h9 => hc ((nI_leI ha hb).mpr h9)))
theorem go_goto {off : Int} {p2 : Nat} (hf : sm_ins tb_T y = f) (hins : f pc = some (.goto off)) (h0 : (pc : Int) + off = p2) (k : sm_wp tb_T X tb_ok d lw y p2 L S h Q) : sm_wp tb_T X tb_ok d lw y pc L S h Q := by
  have e2 : sm_tgt pc off = p2 := by unfold sm_tgt; omega
  exact go_i (r := (sm_tgt pc off, L, S, h)) hf hins rfl rfl (if_pos (by omega)) (by rw [e2]; exact k)
theorem go_get {idx ci j kd q : Nat} {v : Int32} {fs : List (Option (Option Nat))} (hf : sm_ins tb_T y = f) (ho : tb_on y = c) (hins : f pc = some (.getfield idx)) (hfl : tb_fd tb_FL c idx = some (ci, j, kd)) (hp : pc + 3 = p) (hq : sh[q]? = some (.inl (ci, fs))) (hj : fs[j]? = some none) (hv : M q j = v) (k : sm_wp tb_T X tb_ok d lw y p L (.int v :: S) (sh, M, J, rc, rs) Q) : sm_wp tb_T X tb_ok d lw y pc L (.ref q :: S) (sh, M, J, rc, rs) Q := by
  subst hp
  subst hv
  refine go_i (r := (pc + 3, L, .int (M q j) :: S, (sh, M, J, rc, rs))) hf hins rfl rfl ?_ k
  show sm_get (pc + 3) L (.ref q :: S) (sh, M, J, rc, rs) (tb_fd tb_FL (tb_on y) idx) = _
  unfold sm_get
  rw [ho, hfl]
  dsimp only
  rw [hq]
  dsimp only
  rw [if_pos rfl, hj]
theorem go_getr {idx ci j kd q z : Nat} {fs : List (Option (Option Nat))} (hf : sm_ins tb_T y = f) (ho : tb_on y = c) (hins : f pc = some (.getfield idx)) (hfl : tb_fd tb_FL c idx = some (ci, j, kd)) (hp : pc + 3 = p) (hq : sh[q]? = some (.inl (ci, fs))) (hj : fs[j]? = some (some (some z))) (k : sm_wp tb_T X tb_ok d lw y p L (.ref z :: S) (sh, M, J, rc, rs) Q) : sm_wp tb_T X tb_ok d lw y pc L (.ref q :: S) (sh, M, J, rc, rs) Q := by
  subst hp
  refine go_i (r := (pc + 3, L, .ref z :: S, (sh, M, J, rc, rs))) hf hins rfl rfl ?_ k
  show sm_get (pc + 3) L (.ref q :: S) (sh, M, J, rc, rs) (tb_fd tb_FL (tb_on y) idx) = _
  unfold sm_get
  rw [ho, hfl]
  dsimp only
  rw [hq]
  dsimp only
  rw [if_pos rfl, hj]
theorem go_put {idx ci j kd q : Nat} {x : Int32} {fs : List (Option (Option Nat))} (hf : sm_ins tb_T y = f) (ho : tb_on y = c) (hins : f pc = some (.putfield idx)) (hfl : tb_fd tb_FL c idx = some (ci, j, kd)) (hp : pc + 3 = p) (hq : sh[q]? = some (.inl (ci, fs))) (hj : fs[j]? = some none) (hkd : kd = 0 ∨ kd = 1 ∧ (x = 0 ∨ x = 1)) (k : sm_wp tb_T X tb_ok d lw y p L S (sh, sm_up M q j x, J, rc, rs) Q) : sm_wp tb_T X tb_ok d lw y pc L (.int x :: .ref q :: S) (sh, M, J, rc, rs) Q := by
  subst hp
  refine go_i (r := (pc + 3, L, S, (sh, sm_up M q j x, J, rc, rs))) hf hins rfl rfl ?_ k
  show sm_put (pc + 3) L (.int x :: .ref q :: S) (sh, M, J, rc, rs) (tb_fd tb_FL (tb_on y) idx) = _
  unfold sm_put
  rw [ho, hfl]
  dsimp only
  rw [hq]
  dsimp only
  rw [if_pos ⟨rfl, hj, hkd⟩]
theorem go_ix {k n : Nat} (hk : k < n) (hn : n < 2 ^ 31) : 0 ≤ (nI k).toInt ∧ (nI k).toInt < n ∧ (nI k).toNatClampNeg = k := by
  rw [nI_toInt (by omega), nI_clamp (by omega)]
  omega
theorem go_iald {q n k : Nat} {i v : Int32} (hf : sm_ins tb_T y = f) (hins : f pc = some .iaload) (hp : pc + 1 = p) (hq : sh[q]? = some (.inr (.inl (0, n)))) (hn : Nat.blt n 2147483648 = true) (hi : i = nI k) (hk : k < n) (hv : M q k = v) (kk : sm_wp tb_T X tb_ok d lw y p L (.int v :: S) (sh, M, J, rc, rs) Q) : sm_wp tb_T X tb_ok d lw y pc L (.int i :: .ref q :: S) (sh, M, J, rc, rs) Q := by
  subst hi
  subst hp
  subst hv
  obtain ⟨g1, g2, g3⟩ := go_ix hk (Nat.le_of_ble_eq_true hn)
  refine go_i (r := (pc + 1, L, .int (M q k) :: S, (sh, M, J, rc, rs))) hf hins rfl rfl ?_ kk
  show sm_ald (pc + 1) L (.int (nI k) :: .ref q :: S) (sh, M, J, rc, rs) 0 X = _
  unfold sm_ald
  dsimp only
  rw [hq]
  dsimp only
  rw [if_pos ⟨rfl, g1, g2⟩, g3]
theorem go_bald {q n k : Nat} {i v : Int32} (hf : sm_ins tb_T y = f) (hins : f pc = some .baload) (hp : pc + 1 = p) (hq : sh[q]? = some (.inr (.inl (1, n)))) (hn : Nat.blt n 2147483648 = true) (hi : i = nI k) (hk : k < n) (hv : M q k = v) (kk : sm_wp tb_T X tb_ok d lw y p L (.int v :: S) (sh, M, J, rc, rs) Q) : sm_wp tb_T X tb_ok d lw y pc L (.int i :: .ref q :: S) (sh, M, J, rc, rs) Q := by
  subst hi
  subst hp
  subst hv
  obtain ⟨g1, g2, g3⟩ := go_ix hk (Nat.le_of_ble_eq_true hn)
  refine go_i (r := (pc + 1, L, .int (M q k) :: S, (sh, M, J, rc, rs))) hf hins rfl rfl ?_ kk
  show sm_ald (pc + 1) L (.int (nI k) :: .ref q :: S) (sh, M, J, rc, rs) 1 X = _
  unfold sm_ald
  dsimp only
  rw [hq]
  dsimp only
  rw [if_pos ⟨rfl, g1, g2⟩, g3]
theorem go_iast {q n k : Nat} {i x : Int32} (hf : sm_ins tb_T y = f) (hins : f pc = some .iastore) (hp : pc + 1 = p) (hq : sh[q]? = some (.inr (.inl (0, n)))) (hn : Nat.blt n 2147483648 = true) (hi : i = nI k) (hk : k < n) (kk : sm_wp tb_T X tb_ok d lw y p L S (sh, sm_up M q k x, J, rc, rs) Q) : sm_wp tb_T X tb_ok d lw y pc L (.int x :: .int i :: .ref q :: S) (sh, M, J, rc, rs) Q := by
  subst hi
  subst hp
  obtain ⟨g1, g2, g3⟩ := go_ix hk (Nat.le_of_ble_eq_true hn)
  refine go_i (r := (pc + 1, L, S, (sh, sm_up M q k x, J, rc, rs))) hf hins rfl rfl ?_ kk
  show sm_ast (pc + 1) L (.int x :: .int (nI k) :: .ref q :: S) (sh, M, J, rc, rs) 0 = _
  unfold sm_ast
  dsimp only
  rw [hq]
  dsimp only
  rw [if_pos ⟨rfl, g1, g2, Or.inl rfl⟩, g3]
theorem go_bast {q n k : Nat} {i x : Int32} (hf : sm_ins tb_T y = f) (hins : f pc = some .bastore) (hp : pc + 1 = p) (hq : sh[q]? = some (.inr (.inl (1, n)))) (hn : Nat.blt n 2147483648 = true) (hi : i = nI k) (hk : k < n) (h01 : x = 0 ∨ x = 1) (kk : sm_wp tb_T X tb_ok d lw y p L S (sh, sm_up M q k x, J, rc, rs) Q) : sm_wp tb_T X tb_ok d lw y pc L (.int x :: .int i :: .ref q :: S) (sh, M, J, rc, rs) Q := by
  subst hi
  subst hp
  obtain ⟨g1, g2, g3⟩ := go_ix hk (Nat.le_of_ble_eq_true hn)
  refine go_i (r := (pc + 1, L, S, (sh, sm_up M q k x, J, rc, rs))) hf hins rfl rfl ?_ kk
  show sm_ast (pc + 1) L (.int x :: .int (nI k) :: .ref q :: S) (sh, M, J, rc, rs) 1 = _
  unfold sm_ast
  dsimp only
  rw [hq]
  dsimp only
  rw [if_pos ⟨rfl, g1, g2, Or.inr h01⟩, g3]
theorem go_aald {q k z : Nat} {i : Int32} {zs : List (Option Nat)} (hf : sm_ins tb_T y = f) (hins : f pc = some .aaload) (hp : pc + 1 = p) (hq : sh[q]? = some (.inr (.inr (.inr (3, zs))))) (hn : Nat.blt zs.length 2147483648 = true) (hi : i = nI k) (hz : zs[k]? = some (some z)) (kk : sm_wp tb_T X tb_ok d lw y p L (.ref z :: S) (sh, M, J, rc, rs) Q) : sm_wp tb_T X tb_ok d lw y pc L (.int i :: .ref q :: S) (sh, M, J, rc, rs) Q := by
  subst hi
  subst hp
  obtain ⟨g1, g2, g3⟩ := go_ix (List.getElem?_eq_some_iff.mp hz).1 (Nat.le_of_ble_eq_true hn)
  refine go_i (r := (pc + 1, L, .ref z :: S, (sh, M, J, rc, rs))) hf hins rfl rfl ?_ kk
  show sm_aald (pc + 1) L (.int (nI k) :: .ref q :: S) (sh, M, J, rc, rs) = _
  unfold sm_aald
  dsimp only
  rw [hq]
  dsimp only
  rw [if_pos ⟨g1, g2, by decide, by decide⟩, g3, hz]
theorem go_alen {q n : Nat} (hf : sm_ins tb_T y = f) (hins : f pc = some .arraylength) (hp : pc + 1 = p) (hq : sh[q]? = some (.inr (.inl (0, n)))) (kk : sm_wp tb_T X tb_ok d lw y p L (.int (nI n) :: S) (sh, M, J, rc, rs) Q) : sm_wp tb_T X tb_ok d lw y pc L (.ref q :: S) (sh, M, J, rc, rs) Q := by
  subst hp
  refine go_i (r := (pc + 1, L, .int (nI n) :: S, (sh, M, J, rc, rs))) hf hins rfl rfl ?_ kk
  show sm_alen (pc + 1) L (.ref q :: S) (sh, M, J, rc, rs) X = _
  unfold sm_alen
  dsimp only
  rw [hq]
  rfl
theorem go_alenX {q : Nat} (hf : sm_ins tb_T y = f) (hins : f pc = some .arraylength) (hp : pc + 1 = p) (kk : sm_wp tb_T X tb_ok d lw y p L (.int (nI X.1) :: S) h Q) : sm_wp tb_T X tb_ok d lw y pc L (.retAddr q :: S) h Q := by
  subst hp
  exact go_i (r := (pc + 1, L, .int (nI X.1) :: S, h)) hf hins rfl rfl rfl kk
theorem go_ialdX {q k : Nat} {i : Int32} (hf : sm_ins tb_T y = f) (hins : f pc = some .iaload) (hp : pc + 1 = p) (hi : i = nI k) (hk : k < X.1) (hX : X.1 < 2 ^ 31) (kk : sm_wp tb_T X tb_ok d lw y p L (.int (X.2 k) :: S) h Q) : sm_wp tb_T X tb_ok d lw y pc L (.int i :: .retAddr q :: S) h Q := by
  subst hi
  subst hp
  obtain ⟨g1, g2, g3⟩ := go_ix hk hX
  refine go_i (r := (pc + 1, L, .int (X.2 k) :: S, h)) hf hins rfl rfl ?_ kk
  show sm_ald (pc + 1) L (.int (nI k) :: .retAddr q :: S) h 0 X = _
  unfold sm_ald
  dsimp only
  rw [if_pos ⟨rfl, g1, g2⟩, g3]
theorem go_lald {q n k : Nat} {i : Int32} (hf : sm_ins tb_T y = f) (hins : f pc = some .laload) (hp : pc + 1 = p) (hq : sh[q]? = some (.inr (.inr (.inl n)))) (hn : Nat.blt n 2147483648 = true) (hi : i = nI k) (hk : k < n) (kk : sm_wp tb_T X tb_ok d lw y p L (.long (J q k) :: S) (sh, M, J, rc, rs) Q) : sm_wp tb_T X tb_ok d lw y pc L (.int i :: .ref q :: S) (sh, M, J, rc, rs) Q := by
  subst hi
  subst hp
  obtain ⟨g1, g2, g3⟩ := go_ix hk (Nat.le_of_ble_eq_true hn)
  refine go_i (r := (pc + 1, L, .long (J q k) :: S, (sh, M, J, rc, rs))) hf hins rfl rfl ?_ kk
  show sm_lald (pc + 1) L (.int (nI k) :: .ref q :: S) (sh, M, J, rc, rs) = _
  unfold sm_lald
  dsimp only
  rw [hq]
  dsimp only
  rw [if_pos ⟨g1, g2⟩, g3]
theorem go_last {q n k : Nat} {i : Int32} {x : Int64} (hf : sm_ins tb_T y = f) (hins : f pc = some .lastore) (hp : pc + 1 = p) (hq : sh[q]? = some (.inr (.inr (.inl n)))) (hn : Nat.blt n 2147483648 = true) (hi : i = nI k) (hk : k < n) (kk : sm_wp tb_T X tb_ok d lw y p L S (sh, M, sm_uj J q k x, rc, rs) Q) : sm_wp tb_T X tb_ok d lw y pc L (.long x :: .int i :: .ref q :: S) (sh, M, J, rc, rs) Q := by
  subst hi
  subst hp
  obtain ⟨g1, g2, g3⟩ := go_ix hk (Nat.le_of_ble_eq_true hn)
  refine go_i (r := (pc + 1, L, S, (sh, M, sm_uj J q k x, rc, rs))) hf hins rfl rfl ?_ kk
  show sm_last (pc + 1) L (.long x :: .int (nI k) :: .ref q :: S) (sh, M, J, rc, rs) = _
  unfold sm_last
  dsimp only
  rw [hq]
  dsimp only
  rw [if_pos ⟨g1, g2⟩, g3]
theorem go_i2l {x : Int32} (hf : sm_ins tb_T y = f) (hins : f pc = some .i2l) (hp : pc + 1 = p) (kk : sm_wp tb_T X tb_ok d lw y p L (.long x.toInt64 :: S) h Q) : sm_wp tb_T X tb_ok d lw y pc L (.int x :: S) h Q := by
  subst hp
  exact go_i (r := (pc + 1, L, .long x.toInt64 :: S, h)) hf hins rfl rfl rfl kk
theorem go_lcmp {a b : Int64} (hf : sm_ins tb_T y = f) (hins : f pc = some .lcmp) (hp : pc + 1 = p) (kk : sm_wp tb_T X tb_ok d lw y p L (.int (lg_cmp a b) :: S) h Q) : sm_wp tb_T X tb_ok d lw y pc L (.long b :: .long a :: S) h Q := by
  subst hp
  exact go_i (r := (pc + 1, L, .int (lg_cmp a b) :: S, h)) hf hins rfl rfl rfl kk
theorem go_pop {x : Int32} (hf : sm_ins tb_T y = f) (hins : f pc = some .pop) (hp : pc + 1 = p) (kk : sm_wp tb_T X tb_ok d lw y p L S h Q) : sm_wp tb_T X tb_ok d lw y pc L (.int x :: S) h Q := by
  subst hp
  exact go_i (r := (pc + 1, L, S, h)) hf hins rfl rfl rfl kk
theorem go_dup {x : Int32} (hf : sm_ins tb_T y = f) (hins : f pc = some .dup) (hp : pc + 1 = p) (kk : sm_wp tb_T X tb_ok d lw y p L (.int x :: .int x :: S) h Q) : sm_wp tb_T X tb_ok d lw y pc L (.int x :: S) h Q := by
  subst hp
  exact go_i (r := (pc + 1, L, .int x :: .int x :: S, h)) hf hins rfl rfl rfl kk
theorem go_dupr {x : Nat} (hf : sm_ins tb_T y = f) (hins : f pc = some .dup) (hp : pc + 1 = p) (kk : sm_wp tb_T X tb_ok d lw y p L (.ref x :: .ref x :: S) h Q) : sm_wp tb_T X tb_ok d lw y pc L (.ref x :: S) h Q := by
  subst hp
  exact go_i (r := (pc + 1, L, .ref x :: .ref x :: S, h)) hf hins rfl rfl rfl kk
theorem go_dup_x1 {x : Int32} {q : Nat} (hf : sm_ins tb_T y = f) (hins : f pc = some .dup_x1) (hp : pc + 1 = p) (kk : sm_wp tb_T X tb_ok d lw y p L (.int x :: .ref q :: .int x :: S) h Q) : sm_wp tb_T X tb_ok d lw y pc L (.int x :: .ref q :: S) h Q := by
  subst hp
  exact go_i (r := (pc + 1, L, .int x :: .ref q :: .int x :: S, h)) hf hins rfl rfl rfl kk
theorem go_dup_x2 {x i : Int32} {q : Nat} (hf : sm_ins tb_T y = f) (hins : f pc = some .dup_x2) (hp : pc + 1 = p) (kk : sm_wp tb_T X tb_ok d lw y p L (.int x :: .int i :: .ref q :: .int x :: S) h Q) : sm_wp tb_T X tb_ok d lw y pc L (.int x :: .int i :: .ref q :: S) h Q := by
  subst hp
  exact go_i (r := (pc + 1, L, .int x :: .int i :: .ref q :: .int x :: S, h)) hf hins rfl rfl rfl kk
theorem go_dup2 {i : Int32} {q : Nat} (hf : sm_ins tb_T y = f) (hins : f pc = some .dup2) (hp : pc + 1 = p) (kk : sm_wp tb_T X tb_ok d lw y p L (.int i :: .ref q :: .int i :: .ref q :: S) h Q) : sm_wp tb_T X tb_ok d lw y pc L (.int i :: .ref q :: S) h Q := by
  subst hp
  exact go_i (r := (pc + 1, L, .int i :: .ref q :: .int i :: .ref q :: S, h)) hf hins rfl rfl rfl kk
theorem go_tab {dd lo hi : Int} {offs : Array Int} {x : Int32} {pd : Nat} (hf : sm_ins tb_T y = f) (hins : f pc = some (.tableswitch dd lo hi offs)) (h0 : (pc : Int) + dd = pd) (kd : (x.toInt < lo ∨ hi < x.toInt) → sm_wp tb_T X tb_ok d lw y pd L S h Q) (kk : lo ≤ x.toInt → x.toInt ≤ hi → ∃ off p2, offs[(x.toInt - lo).toNat]? = some off ∧ (pc : Int) + off = (p2 : Nat) ∧ sm_wp tb_T X tb_ok d lw y p2 L S h Q) : sm_wp tb_T X tb_ok d lw y pc L (.int x :: S) h Q := by
  by_cases hx : x.toInt < lo ∨ hi < x.toInt
  · have e2 : sm_tgt pc dd = pd := by unfold sm_tgt; omega
    refine go_i (r := (sm_tgt pc dd, L, S, h)) hf hins rfl rfl ?_ (by rw [e2]; exact kd hx)
    show sm_tab pc L (.int x :: S) h dd lo hi offs = _
    unfold sm_tab
    dsimp only
    rw [if_pos hx]
    exact if_pos (by omega)
  · obtain ⟨off, p2, e1, e2, k⟩ := kk (by omega) (by omega)
    have e3 : sm_tgt pc off = p2 := by unfold sm_tgt; omega
    refine go_i (r := (sm_tgt pc off, L, S, h)) hf hins rfl rfl ?_ (by rw [e3]; exact k)
    show sm_tab pc L (.int x :: S) h dd lo hi offs = _
    unfold sm_tab
    dsimp only
    rw [if_neg hx, e1]
    exact if_pos (by omega)
theorem go_ret0 {n ci : Nat} (hf : sm_ins tb_T y = f) (hins : f pc = some .return_) (hn : sm_nL tb_T y = (n, 0, ci)) (hq : Q (.inl none) h) : sm_wp tb_T X tb_ok d lw y pc L [] h Q :=
  wp_ret (i := .return_) (v := none) (by rw [hf]; exact hins) rfl (by rw [hn]; rfl) hq
theorem go_ret1 {n ci : Nat} {x : Int32} (hf : sm_ins tb_T y = f) (hins : f pc = some .ireturn) (hn : sm_nL tb_T y = (n, 1, ci)) (hq : Q (.inl (some (.int x))) h) : sm_wp tb_T X tb_ok d lw y pc L [.int x] h Q :=
  wp_ret (i := .ireturn) (v := some (.int x)) (by rw [hf]; exact hins) rfl (by rw [hn]; rfl) hq
theorem go_ret2 {n ci : Nat} {x : Int32} (hf : sm_ins tb_T y = f) (hins : f pc = some .ireturn) (hn : sm_nL tb_T y = (n, 2, ci)) (h01 : x = 0 ∨ x = 1) (hq : Q (.inl (some (.int x))) h) : sm_wp tb_T X tb_ok d lw y pc L [.int x] h Q :=
  wp_ret (i := .ireturn) (v := some (.int x)) (by rw [hf]; exact hins) rfl (by rw [hn]; exact if_pos h01) hq
theorem inv_s {idx z w : Nat} (ho : tb_on y = c) (hc : tb_fd tb_CL c idx = some (3, z, w)) : sm_inv tb_T y (.invokestatic idx) = some (3, z, w) := by
  show (match tb_fd tb_CL (tb_on y) idx with
    | some (k, z, w) => if k = 1 ∨ k = 2 ∨ k = 3 then some (k, z, w) else none
    | none => none) = _
  rw [ho, hc]
  rfl
theorem inv_v {idx z w : Nat} (ho : tb_on y = c) (hc : tb_fd tb_CL c idx = some (4, z, w)) : sm_inv tb_T y (.invokevirtual idx) = some (4, z, w) := by
  show (match tb_fd tb_CL (tb_on y) idx with
    | some (k, z, w) => if k = 4 then some (k, z, w) else none
    | none => none) = _
  rw [ho, hc]
  rfl
theorem inv_l {idx k z w : Nat} (ho : tb_on y = c) (hc : tb_fd tb_CL c idx = some (k, z, w)) (hk : k = 1 ∨ k = 2) : sm_inv tb_T y (.invokestatic idx) = some (k, z, w) := by
  show (match tb_fd tb_CL (tb_on y) idx with
    | some (k, z, w) => if k = 1 ∨ k = 2 ∨ k = 3 then some (k, z, w) else none
    | none => none) = _
  rw [ho, hc]
  exact if_pos (by omega)
/-- a callee by its contract -/
theorem go_call {i : Instr} {k z w n rk ci D B : Nat} {As S' : List Value} {R : Option Value → sm_M → Prop} (hf : sm_ins tb_T y = f) (hins : f pc = some i) (hp : pc + 3 = p) (hv : sm_inv tb_T y i = some (k, z, w)) (hk : k = 3 ∨ k = 4) (hn : sm_nL tb_T z = (n, rk, ci)) (hr : sm_isret i = false) (hA : (S.take w).reverse = As) (hS : S.drop w = S') (hw : Nat.ble w S.length = true) (hs : Nat.ble (sm_sum S') 8 = true) (hrc : sm_rcv k ci As (wSH, M, J, rc, rs) = true) (hc1 : (S.take w).all sm_c1 = true) (hwn : Nat.ble w n = true)
    (ht : tb_thr z As (wSH, M, J, rc, rs) = none) (hD : D < d) (hB : B + (19 + n) ≤ lw) (hc : cr z D B As M R) (kv : ∀ v M1, R v M1 → sm_wp tb_T X tb_ok d lw y p L (v.toList ++ S') (wSH, M1, J, rc, rs) Q) : sm_wp tb_T X tb_ok d lw y pc L S (wSH, M, J, rc, rs) Q := by
  subst hp
  subst hA
  subst hS
  obtain ⟨d, rfl⟩ : ∃ d', d = d' + 1 := ⟨d - 1, by omega⟩
  have hn1 : (sm_nL tb_T z).1 = n := by rw [hn]
  have hn3 : (sm_nL tb_T z).2.2 = ci := by rw [hn]
  refine wp_call (by rw [hf]; exact hins) hr hv (by omega) ⟨Nat.le_of_ble_eq_true hw, Nat.le_of_ble_eq_true hs, by rw [hn3]; exact hrc, hc1, by rw [hn1]; exact Nat.le_of_ble_eq_true hwn, by rw [hn1]; omega⟩ ht (hc X J rc rs d _ (by omega) (by rw [hn1]; omega)) (fun v' h' hq => ?_) (fun x h' hq => ?_)
  · obtain ⟨v, M1, e1, rfl, hR⟩ := hq
    cases e1
    exact ⟨by unfold sm_ok2; simp, kv _ _ hR⟩
  · obtain ⟨v, M1, e1, -⟩ := hq
    cases e1
/-- Math.max -/
theorem go_max {idx : Nat} {a b : Int32} (hf : sm_ins tb_T y = f) (ho : tb_on y = c) (hins : f pc = some (.invokestatic idx)) (hc : tb_fd tb_CL c idx = some (1, 0, 2)) (hp : pc + 3 = p) (hs : Nat.ble (sm_sum S) 8 = true) (hD : 0 < d) (hB : 100 ≤ lw) (k : sm_wp tb_T X tb_ok d lw y p L (.int (if a < b then b else a) :: S) h Q) : sm_wp tb_T X tb_ok d lw y pc L (.int b :: .int a :: S) h Q := by
  subst hp
  obtain ⟨d, rfl⟩ : ∃ d', d = d' + 1 := ⟨d - 1, by omega⟩
  exact wp_lib (r := (pc + 3, L, .int (if a < b then b else a) :: S, h)) (by rw [hf]; exact hins) rfl (inv_l ho hc (Or.inl rfl)) (by omega) hB (if_pos (Nat.le_of_ble_eq_true hs)) k
theorem go_acp {idx q0 q1 n0 n1 n sp dp : Nat} {in' isp idp : Int32} (hf : sm_ins tb_T y = f) (ho : tb_on y = c) (hins : f pc = some (.invokestatic idx)) (hc : tb_fd tb_CL c idx = some (2, 0, 5)) (hp : pc + 3 = p) (hs : Nat.ble (sm_sum S) 8 = true) (hD : 0 < d) (hB : 100 ≤ lw) (h0 : sh[q0]? = some (.inr (.inl (0, n0)))) (h1 : sh[q1]? = some (.inr (.inl (0, n1)))) (en : in' = nI n) (es : isp = nI sp) (ed : idp = nI dp) (b0 : sp + n ≤ n0) (b1 : dp + n ≤ n1) (c0 : Nat.blt n0 2147483648 = true) (c1 : Nat.blt n1 2147483648 = true)
    (k : sm_wp tb_T X tb_ok d lw y p L S (sh, sm_uf M q1 (va_cpy (M q0) (M q1) sp dp n), J, rc, rs) Q) : sm_wp tb_T X tb_ok d lw y pc L (.int in' :: .int idp :: .ref q1 :: .int isp :: .ref q0 :: S) (sh, M, J, rc, rs) Q := by
  subst hp
  subst en
  subst es
  subst ed
  obtain ⟨d, rfl⟩ : ∃ d', d = d' + 1 := ⟨d - 1, by omega⟩
  have c0 := Nat.le_of_ble_eq_true c0
  have c1 := Nat.le_of_ble_eq_true c1
  refine wp_lib (r := (pc + 3, L, S, (sh, sm_uf M q1 (va_cpy (M q0) (M q1) sp dp n), J, rc, rs))) (by rw [hf]; exact hins) rfl (inv_l ho hc (Or.inr rfl)) (by omega) hB ?_ k
  show sm_lib 2 (pc + 3) L (.int (nI n) :: .int (nI dp) :: .ref q1 :: .int (nI sp) :: .ref q0 :: S) (sh, M, J, rc, rs) = _
  simp only [sm_lib, h0, h1]
  rw [nI_toInt (n := n) (by omega), nI_toInt (n := sp) (by omega), nI_toInt (n := dp) (by omega), nI_clamp (n := n) (by omega), nI_clamp (n := sp) (by omega), nI_clamp (n := dp) (by omega)]
  rw [if_pos ⟨Nat.le_of_ble_eq_true hs, by omega, by omega, by omega, by omega, by omega⟩]
end GO
