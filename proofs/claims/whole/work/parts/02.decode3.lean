theorem dX11_shown_63 : decode cX11_shown 63 = .ok (.iload_n 2, 1) := by decide +kernel
theorem dX11_shown_64 : decode cX11_shown 64 = .ok (.iconst (-1), 1) := by decide +kernel
theorem dX11_shown_65 : decode cX11_shown 65 = .ok (.if_icmp .ne 10, 3) := by decide +kernel
theorem dX11_shown_68 : decode cX11_shown 68 = .ok (.aload_n 0, 1) := by decide +kernel
theorem dX11_shown_69 : decode cX11_shown 69 = .ok (.getfield 172, 3) := by decide +kernel
theorem dX11_shown_72 : decode cX11_shown 72 = .ok (.goto 22, 3) := by decide +kernel
theorem dX11_shown_75 : decode cX11_shown 75 = .ok (.iload_n 2, 1) := by decide +kernel
theorem dX11_shown_76 : decode cX11_shown 76 = .ok (.aload_n 0, 1) := by decide +kernel
theorem dX11_shown_77 : decode cX11_shown 77 = .ok (.getfield 172, 3) := by decide +kernel
theorem dX11_shown_80 : decode cX11_shown 80 = .ok (.if_icmp .ge 12, 3) := by decide +kernel
theorem dX11_shown_83 : decode cX11_shown 83 = .ok (.aload_n 0, 1) := by decide +kernel
theorem dX11_shown_84 : decode cX11_shown 84 = .ok (.getfield 28, 3) := by decide +kernel
theorem dX11_shown_87 : decode cX11_shown 87 = .ok (.iload_n 2, 1) := by decide +kernel
theorem dX11_shown_88 : decode cX11_shown 88 = .ok (.iaload, 1) := by decide +kernel
theorem dX11_shown_89 : decode cX11_shown 89 = .ok (.goto 5, 3) := by decide +kernel
theorem dX11_shown_92 : decode cX11_shown 92 = .ok (.bipush (-5), 2) := by decide +kernel
theorem dX11_shown_94 : decode cX11_shown 94 = .ok (.ireturn, 1) := by decide +kernel
theorem dX11_laysFigures_0 : decode cX11_laysFigures 0 = .ok (.iload_n 1, 1) := by decide +kernel
theorem dX11_laysFigures_1 : decode cX11_laysFigures 1 = .ok (.istore_n 3, 1) := by decide +kernel
theorem dX11_laysFigures_2 : decode cX11_laysFigures 2 = .ok (.iload_n 1, 1) := by decide +kernel
theorem dX11_laysFigures_3 : decode cX11_laysFigures 3 = .ok (.ifCond .lt 7, 3) := by decide +kernel
theorem dX11_laysFigures_6 : decode cX11_laysFigures 6 = .ok (.iconst 1, 1) := by decide +kernel
theorem dX11_laysFigures_7 : decode cX11_laysFigures 7 = .ok (.goto 4, 3) := by decide +kernel
theorem dX11_laysFigures_10 : decode cX11_laysFigures 10 = .ok (.iconst 0, 1) := by decide +kernel
theorem dX11_laysFigures_11 : decode cX11_laysFigures 11 = .ok (.istore 4, 2) := by decide +kernel
theorem dX11_laysFigures_13 : decode cX11_laysFigures 13 = .ok (.bipush 6, 2) := by decide +kernel
theorem dX11_laysFigures_15 : decode cX11_laysFigures 15 = .ok (.istore 5, 2) := by decide +kernel
theorem dX11_laysFigures_17 : decode cX11_laysFigures 17 = .ok (.iload 5, 2) := by decide +kernel
theorem dX11_laysFigures_19 : decode cX11_laysFigures 19 = .ok (.ifCond .lt 48, 3) := by decide +kernel
theorem dX11_laysFigures_22 : decode cX11_laysFigures 22 = .ok (.aload_n 0, 1) := by decide +kernel
theorem dX11_laysFigures_23 : decode cX11_laysFigures 23 = .ok (.getfield 31, 3) := by decide +kernel
theorem dX11_laysFigures_26 : decode cX11_laysFigures 26 = .ok (.iload 5, 2) := by decide +kernel
theorem dX11_laysFigures_28 : decode cX11_laysFigures 28 = .ok (.iload_n 3, 1) := by decide +kernel
theorem dX11_laysFigures_29 : decode cX11_laysFigures 29 = .ok (.bipush 10, 2) := by decide +kernel
theorem dX11_laysFigures_31 : decode cX11_laysFigures 31 = .ok (.irem, 1) := by decide +kernel
theorem dX11_laysFigures_32 : decode cX11_laysFigures 32 = .ok (.iastore, 1) := by decide +kernel
theorem dX11_laysFigures_33 : decode cX11_laysFigures 33 = .ok (.iload_n 3, 1) := by decide +kernel
theorem dX11_laysFigures_34 : decode cX11_laysFigures 34 = .ok (.bipush 10, 2) := by decide +kernel
theorem dX11_laysFigures_36 : decode cX11_laysFigures 36 = .ok (.idiv, 1) := by decide +kernel
theorem dX11_laysFigures_37 : decode cX11_laysFigures 37 = .ok (.istore_n 3, 1) := by decide +kernel
theorem dX11_laysFigures_38 : decode cX11_laysFigures 38 = .ok (.iload 4, 2) := by decide +kernel
theorem dX11_laysFigures_40 : decode cX11_laysFigures 40 = .ok (.ifCond .eq 18, 3) := by decide +kernel
theorem dX11_laysFigures_43 : decode cX11_laysFigures 43 = .ok (.aload_n 0, 1) := by decide +kernel
theorem dX11_laysFigures_44 : decode cX11_laysFigures 44 = .ok (.getfield 31, 3) := by decide +kernel
theorem dX11_laysFigures_47 : decode cX11_laysFigures 47 = .ok (.iload 5, 2) := by decide +kernel
theorem dX11_laysFigures_49 : decode cX11_laysFigures 49 = .ok (.iaload, 1) := by decide +kernel
theorem dX11_laysFigures_50 : decode cX11_laysFigures 50 = .ok (.iload_n 2, 1) := by decide +kernel
theorem dX11_laysFigures_51 : decode cX11_laysFigures 51 = .ok (.if_icmp .gt 7, 3) := by decide +kernel
theorem dX11_laysFigures_54 : decode cX11_laysFigures 54 = .ok (.iconst 1, 1) := by decide +kernel
theorem dX11_laysFigures_55 : decode cX11_laysFigures 55 = .ok (.goto 4, 3) := by decide +kernel
theorem dX11_laysFigures_58 : decode cX11_laysFigures 58 = .ok (.iconst 0, 1) := by decide +kernel
theorem dX11_laysFigures_59 : decode cX11_laysFigures 59 = .ok (.istore 4, 2) := by decide +kernel
theorem dX11_laysFigures_61 : decode cX11_laysFigures 61 = .ok (.iinc 5 (-1), 3) := by decide +kernel
theorem dX11_laysFigures_64 : decode cX11_laysFigures 64 = .ok (.goto (-47), 3) := by decide +kernel
theorem dX11_laysFigures_67 : decode cX11_laysFigures 67 = .ok (.iload 4, 2) := by decide +kernel
theorem dX11_laysFigures_69 : decode cX11_laysFigures 69 = .ok (.ifCond .eq 11, 3) := by decide +kernel
theorem dX11_laysFigures_72 : decode cX11_laysFigures 72 = .ok (.iload_n 3, 1) := by decide +kernel
theorem dX11_laysFigures_73 : decode cX11_laysFigures 73 = .ok (.ifCond .ne 7, 3) := by decide +kernel
theorem dX11_laysFigures_76 : decode cX11_laysFigures 76 = .ok (.iconst 1, 1) := by decide +kernel
theorem dX11_laysFigures_77 : decode cX11_laysFigures 77 = .ok (.goto 4, 3) := by decide +kernel
theorem dX11_laysFigures_80 : decode cX11_laysFigures 80 = .ok (.iconst 0, 1) := by decide +kernel
theorem dX11_laysFigures_81 : decode cX11_laysFigures 81 = .ok (.ireturn, 1) := by decide +kernel
theorem dX11_weighsTerm_0 : decode cX11_weighsTerm 0 = .ok (.iconst 0, 1) := by decide +kernel
theorem dX11_weighsTerm_1 : decode cX11_weighsTerm 1 = .ok (.istore 4, 2) := by decide +kernel
theorem dX11_weighsTerm_3 : decode cX11_weighsTerm 3 = .ok (.iload_n 3, 1) := by decide +kernel
theorem dX11_weighsTerm_4 : decode cX11_weighsTerm 4 = .ok (.iconst 1, 1) := by decide +kernel
theorem dX11_weighsTerm_5 : decode cX11_weighsTerm 5 = .ok (.isub, 1) := by decide +kernel
theorem dX11_weighsTerm_6 : decode cX11_weighsTerm 6 = .ok (.istore 5, 2) := by decide +kernel
theorem dX11_weighsTerm_8 : decode cX11_weighsTerm 8 = .ok (.iload 5, 2) := by decide +kernel
theorem dX11_weighsTerm_10 : decode cX11_weighsTerm 10 = .ok (.ifCond .lt 376, 3) := by decide +kernel
theorem dX11_weighsTerm_13 : decode cX11_weighsTerm 13 = .ok (.aload_n 1, 1) := by decide +kernel
theorem dX11_weighsTerm_14 : decode cX11_weighsTerm 14 = .ok (.iload_n 2, 1) := by decide +kernel
theorem dX11_weighsTerm_15 : decode cX11_weighsTerm 15 = .ok (.iload 5, 2) := by decide +kernel
theorem dX11_weighsTerm_17 : decode cX11_weighsTerm 17 = .ok (.iadd, 1) := by decide +kernel
theorem dX11_weighsTerm_18 : decode cX11_weighsTerm 18 = .ok (.iaload, 1) := by decide +kernel
theorem dX11_weighsTerm_19 : decode cX11_weighsTerm 19 = .ok (.istore 6, 2) := by decide +kernel
theorem dX11_weighsTerm_21 : decode cX11_weighsTerm 21 = .ok (.iload 6, 2) := by decide +kernel
theorem dX11_weighsTerm_23 : decode cX11_weighsTerm 23 = .ok (.bipush 102, 2) := by decide +kernel
theorem dX11_weighsTerm_25 : decode cX11_weighsTerm 25 = .ok (.if_icmp .ne 104, 3) := by decide +kernel
theorem dX11_weighsTerm_28 : decode cX11_weighsTerm 28 = .ok (.aload_n 0, 1) := by decide +kernel
theorem dX11_weighsTerm_29 : decode cX11_weighsTerm 29 = .ok (.getfield 34, 3) := by decide +kernel
theorem dX11_weighsTerm_32 : decode cX11_weighsTerm 32 = .ok (.iload 4, 2) := by decide +kernel
theorem dX11_weighsTerm_34 : decode cX11_weighsTerm 34 = .ok (.iconst 1, 1) := by decide +kernel
theorem dX11_weighsTerm_35 : decode cX11_weighsTerm 35 = .ok (.isub, 1) := by decide +kernel
theorem dX11_weighsTerm_36 : decode cX11_weighsTerm 36 = .ok (.aload_n 0, 1) := by decide +kernel
theorem dX11_weighsTerm_37 : decode cX11_weighsTerm 37 = .ok (.getfield 31, 3) := by decide +kernel
theorem dX11_weighsTerm_40 : decode cX11_weighsTerm 40 = .ok (.iconst 2, 1) := by decide +kernel
theorem dX11_weighsTerm_41 : decode cX11_weighsTerm 41 = .ok (.iaload, 1) := by decide +kernel
theorem dX11_weighsTerm_42 : decode cX11_weighsTerm 42 = .ok (.i2l, 1) := by decide +kernel
theorem dX11_weighsTerm_43 : decode cX11_weighsTerm 43 = .ok (.aload_n 0, 1) := by decide +kernel
theorem dX11_weighsTerm_44 : decode cX11_weighsTerm 44 = .ok (.getfield 31, 3) := by decide +kernel
theorem dX11_weighsTerm_47 : decode cX11_weighsTerm 47 = .ok (.iconst 4, 1) := by decide +kernel
theorem dX11_weighsTerm_48 : decode cX11_weighsTerm 48 = .ok (.iaload, 1) := by decide +kernel
theorem dX11_weighsTerm_49 : decode cX11_weighsTerm 49 = .ok (.i2l, 1) := by decide +kernel
theorem dX11_weighsTerm_50 : decode cX11_weighsTerm 50 = .ok (.aload_n 0, 1) := by decide +kernel
theorem dX11_weighsTerm_51 : decode cX11_weighsTerm 51 = .ok (.getfield 34, 3) := by decide +kernel
theorem dX11_weighsTerm_54 : decode cX11_weighsTerm 54 = .ok (.iload 4, 2) := by decide +kernel
theorem dX11_weighsTerm_56 : decode cX11_weighsTerm 56 = .ok (.iconst 1, 1) := by decide +kernel
theorem dX11_weighsTerm_57 : decode cX11_weighsTerm 57 = .ok (.isub, 1) := by decide +kernel
theorem dX11_weighsTerm_58 : decode cX11_weighsTerm 58 = .ok (.laload, 1) := by decide +kernel
theorem dX11_weighsTerm_59 : decode cX11_weighsTerm 59 = .ok (.lmul, 1) := by decide +kernel
theorem dX11_weighsTerm_60 : decode cX11_weighsTerm 60 = .ok (.ladd, 1) := by decide +kernel
theorem dX11_weighsTerm_61 : decode cX11_weighsTerm 61 = .ok (.ldc2_w 181, 3) := by decide +kernel
theorem dX11_weighsTerm_64 : decode cX11_weighsTerm 64 = .ok (.lrem, 1) := by decide +kernel
theorem dX11_weighsTerm_65 : decode cX11_weighsTerm 65 = .ok (.lastore, 1) := by decide +kernel
theorem dX11_weighsTerm_66 : decode cX11_weighsTerm 66 = .ok (.aload_n 0, 1) := by decide +kernel
theorem dX11_weighsTerm_67 : decode cX11_weighsTerm 67 = .ok (.getfield 38, 3) := by decide +kernel
theorem dX11_weighsTerm_70 : decode cX11_weighsTerm 70 = .ok (.iload 4, 2) := by decide +kernel
theorem dX11_weighsTerm_72 : decode cX11_weighsTerm 72 = .ok (.iconst 1, 1) := by decide +kernel
theorem dX11_weighsTerm_73 : decode cX11_weighsTerm 73 = .ok (.isub, 1) := by decide +kernel
theorem dX11_weighsTerm_74 : decode cX11_weighsTerm 74 = .ok (.aload_n 0, 1) := by decide +kernel
theorem dX11_weighsTerm_75 : decode cX11_weighsTerm 75 = .ok (.getfield 31, 3) := by decide +kernel
theorem dX11_weighsTerm_78 : decode cX11_weighsTerm 78 = .ok (.iconst 4, 1) := by decide +kernel
theorem dX11_weighsTerm_79 : decode cX11_weighsTerm 79 = .ok (.iaload, 1) := by decide +kernel
theorem dX11_weighsTerm_80 : decode cX11_weighsTerm 80 = .ok (.i2l, 1) := by decide +kernel
theorem dX11_weighsTerm_81 : decode cX11_weighsTerm 81 = .ok (.aload_n 0, 1) := by decide +kernel
theorem dX11_weighsTerm_82 : decode cX11_weighsTerm 82 = .ok (.getfield 38, 3) := by decide +kernel
theorem dX11_weighsTerm_85 : decode cX11_weighsTerm 85 = .ok (.iload 4, 2) := by decide +kernel
theorem dX11_weighsTerm_87 : decode cX11_weighsTerm 87 = .ok (.iconst 1, 1) := by decide +kernel
theorem dX11_weighsTerm_88 : decode cX11_weighsTerm 88 = .ok (.isub, 1) := by decide +kernel
theorem dX11_weighsTerm_89 : decode cX11_weighsTerm 89 = .ok (.laload, 1) := by decide +kernel
theorem dX11_weighsTerm_90 : decode cX11_weighsTerm 90 = .ok (.lmul, 1) := by decide +kernel
theorem dX11_weighsTerm_91 : decode cX11_weighsTerm 91 = .ok (.ldc2_w 181, 3) := by decide +kernel
theorem dX11_weighsTerm_94 : decode cX11_weighsTerm 94 = .ok (.lrem, 1) := by decide +kernel
theorem dX11_weighsTerm_95 : decode cX11_weighsTerm 95 = .ok (.lastore, 1) := by decide +kernel
theorem dX11_weighsTerm_96 : decode cX11_weighsTerm 96 = .ok (.aload_n 0, 1) := by decide +kernel
theorem dX11_weighsTerm_97 : decode cX11_weighsTerm 97 = .ok (.getfield 41, 3) := by decide +kernel
theorem dX11_weighsTerm_100 : decode cX11_weighsTerm 100 = .ok (.iload 4, 2) := by decide +kernel
theorem dX11_weighsTerm_102 : decode cX11_weighsTerm 102 = .ok (.iconst 1, 1) := by decide +kernel
theorem dX11_weighsTerm_103 : decode cX11_weighsTerm 103 = .ok (.isub, 1) := by decide +kernel
theorem dX11_weighsTerm_104 : decode cX11_weighsTerm 104 = .ok (.aload_n 0, 1) := by decide +kernel
theorem dX11_weighsTerm_105 : decode cX11_weighsTerm 105 = .ok (.getfield 31, 3) := by decide +kernel
theorem dX11_weighsTerm_108 : decode cX11_weighsTerm 108 = .ok (.iconst 4, 1) := by decide +kernel
theorem dX11_weighsTerm_109 : decode cX11_weighsTerm 109 = .ok (.iaload, 1) := by decide +kernel
theorem dX11_weighsTerm_110 : decode cX11_weighsTerm 110 = .ok (.i2l, 1) := by decide +kernel
theorem dX11_weighsTerm_111 : decode cX11_weighsTerm 111 = .ok (.aload_n 0, 1) := by decide +kernel
theorem dX11_weighsTerm_112 : decode cX11_weighsTerm 112 = .ok (.getfield 41, 3) := by decide +kernel
theorem dX11_weighsTerm_115 : decode cX11_weighsTerm 115 = .ok (.iload 4, 2) := by decide +kernel
theorem dX11_weighsTerm_117 : decode cX11_weighsTerm 117 = .ok (.iconst 1, 1) := by decide +kernel
theorem dX11_weighsTerm_118 : decode cX11_weighsTerm 118 = .ok (.isub, 1) := by decide +kernel
theorem dX11_weighsTerm_119 : decode cX11_weighsTerm 119 = .ok (.laload, 1) := by decide +kernel
theorem dX11_weighsTerm_120 : decode cX11_weighsTerm 120 = .ok (.lmul, 1) := by decide +kernel
theorem dX11_weighsTerm_121 : decode cX11_weighsTerm 121 = .ok (.ldc2_w 181, 3) := by decide +kernel
theorem dX11_weighsTerm_124 : decode cX11_weighsTerm 124 = .ok (.lrem, 1) := by decide +kernel
theorem dX11_weighsTerm_125 : decode cX11_weighsTerm 125 = .ok (.lastore, 1) := by decide +kernel
theorem dX11_weighsTerm_126 : decode cX11_weighsTerm 126 = .ok (.goto 254, 3) := by decide +kernel
theorem dX11_weighsTerm_129 : decode cX11_weighsTerm 129 = .ok (.iload 6, 2) := by decide +kernel
theorem dX11_weighsTerm_131 : decode cX11_weighsTerm 131 = .ok (.bipush 103, 2) := by decide +kernel
theorem dX11_weighsTerm_133 : decode cX11_weighsTerm 133 = .ok (.if_icmp .ne 164, 3) := by decide +kernel
theorem dX11_weighsTerm_136 : decode cX11_weighsTerm 136 = .ok (.aload_n 0, 1) := by decide +kernel
theorem dX11_weighsTerm_137 : decode cX11_weighsTerm 137 = .ok (.getfield 34, 3) := by decide +kernel
theorem dX11_weighsTerm_140 : decode cX11_weighsTerm 140 = .ok (.iload 4, 2) := by decide +kernel
theorem dX11_weighsTerm_142 : decode cX11_weighsTerm 142 = .ok (.iconst 2, 1) := by decide +kernel
theorem dX11_weighsTerm_143 : decode cX11_weighsTerm 143 = .ok (.isub, 1) := by decide +kernel
theorem dX11_weighsTerm_144 : decode cX11_weighsTerm 144 = .ok (.aload_n 0, 1) := by decide +kernel
theorem dX11_weighsTerm_145 : decode cX11_weighsTerm 145 = .ok (.getfield 31, 3) := by decide +kernel
theorem dX11_weighsTerm_148 : decode cX11_weighsTerm 148 = .ok (.iconst 3, 1) := by decide +kernel
theorem dX11_weighsTerm_149 : decode cX11_weighsTerm 149 = .ok (.iaload, 1) := by decide +kernel
theorem dX11_weighsTerm_150 : decode cX11_weighsTerm 150 = .ok (.i2l, 1) := by decide +kernel
theorem dX11_weighsTerm_151 : decode cX11_weighsTerm 151 = .ok (.aload_n 0, 1) := by decide +kernel
theorem dX11_weighsTerm_152 : decode cX11_weighsTerm 152 = .ok (.getfield 31, 3) := by decide +kernel
theorem dX11_weighsTerm_155 : decode cX11_weighsTerm 155 = .ok (.iconst 5, 1) := by decide +kernel
theorem dX11_weighsTerm_156 : decode cX11_weighsTerm 156 = .ok (.iaload, 1) := by decide +kernel
theorem dX11_weighsTerm_157 : decode cX11_weighsTerm 157 = .ok (.i2l, 1) := by decide +kernel
theorem dX11_weighsTerm_158 : decode cX11_weighsTerm 158 = .ok (.aload_n 0, 1) := by decide +kernel
theorem dX11_weighsTerm_159 : decode cX11_weighsTerm 159 = .ok (.getfield 34, 3) := by decide +kernel
theorem dX11_weighsTerm_162 : decode cX11_weighsTerm 162 = .ok (.iload 4, 2) := by decide +kernel
theorem dX11_weighsTerm_164 : decode cX11_weighsTerm 164 = .ok (.iconst 1, 1) := by decide +kernel
theorem dX11_weighsTerm_165 : decode cX11_weighsTerm 165 = .ok (.isub, 1) := by decide +kernel
theorem dX11_weighsTerm_166 : decode cX11_weighsTerm 166 = .ok (.laload, 1) := by decide +kernel
theorem dX11_weighsTerm_167 : decode cX11_weighsTerm 167 = .ok (.lmul, 1) := by decide +kernel
theorem dX11_weighsTerm_168 : decode cX11_weighsTerm 168 = .ok (.ladd, 1) := by decide +kernel
theorem dX11_weighsTerm_169 : decode cX11_weighsTerm 169 = .ok (.aload_n 0, 1) := by decide +kernel
theorem dX11_weighsTerm_170 : decode cX11_weighsTerm 170 = .ok (.getfield 31, 3) := by decide +kernel
theorem dX11_weighsTerm_173 : decode cX11_weighsTerm 173 = .ok (.bipush 6, 2) := by decide +kernel
theorem dX11_weighsTerm_175 : decode cX11_weighsTerm 175 = .ok (.iaload, 1) := by decide +kernel
theorem dX11_weighsTerm_176 : decode cX11_weighsTerm 176 = .ok (.i2l, 1) := by decide +kernel
theorem dX11_weighsTerm_177 : decode cX11_weighsTerm 177 = .ok (.aload_n 0, 1) := by decide +kernel
theorem dX11_weighsTerm_178 : decode cX11_weighsTerm 178 = .ok (.getfield 34, 3) := by decide +kernel
theorem dX11_weighsTerm_181 : decode cX11_weighsTerm 181 = .ok (.iload 4, 2) := by decide +kernel
theorem dX11_weighsTerm_183 : decode cX11_weighsTerm 183 = .ok (.iconst 2, 1) := by decide +kernel
theorem dX11_weighsTerm_184 : decode cX11_weighsTerm 184 = .ok (.isub, 1) := by decide +kernel
theorem dX11_weighsTerm_185 : decode cX11_weighsTerm 185 = .ok (.laload, 1) := by decide +kernel
theorem dX11_weighsTerm_186 : decode cX11_weighsTerm 186 = .ok (.lmul, 1) := by decide +kernel
theorem dX11_weighsTerm_187 : decode cX11_weighsTerm 187 = .ok (.ladd, 1) := by decide +kernel
theorem dX11_weighsTerm_188 : decode cX11_weighsTerm 188 = .ok (.ldc2_w 181, 3) := by decide +kernel
theorem dX11_weighsTerm_191 : decode cX11_weighsTerm 191 = .ok (.lrem, 1) := by decide +kernel
theorem dX11_weighsTerm_192 : decode cX11_weighsTerm 192 = .ok (.lastore, 1) := by decide +kernel
theorem dX11_weighsTerm_193 : decode cX11_weighsTerm 193 = .ok (.aload_n 0, 1) := by decide +kernel
theorem dX11_weighsTerm_194 : decode cX11_weighsTerm 194 = .ok (.getfield 38, 3) := by decide +kernel
theorem dX11_weighsTerm_197 : decode cX11_weighsTerm 197 = .ok (.iload 4, 2) := by decide +kernel
theorem dX11_weighsTerm_199 : decode cX11_weighsTerm 199 = .ok (.iconst 2, 1) := by decide +kernel
theorem dX11_weighsTerm_200 : decode cX11_weighsTerm 200 = .ok (.isub, 1) := by decide +kernel
theorem dX11_weighsTerm_201 : decode cX11_weighsTerm 201 = .ok (.aload_n 0, 1) := by decide +kernel
theorem dX11_weighsTerm_202 : decode cX11_weighsTerm 202 = .ok (.getfield 31, 3) := by decide +kernel
theorem dX11_weighsTerm_205 : decode cX11_weighsTerm 205 = .ok (.iconst 5, 1) := by decide +kernel
theorem dX11_weighsTerm_206 : decode cX11_weighsTerm 206 = .ok (.iaload, 1) := by decide +kernel
theorem dX11_weighsTerm_207 : decode cX11_weighsTerm 207 = .ok (.i2l, 1) := by decide +kernel
theorem dX11_weighsTerm_208 : decode cX11_weighsTerm 208 = .ok (.aload_n 0, 1) := by decide +kernel
theorem dX11_weighsTerm_209 : decode cX11_weighsTerm 209 = .ok (.getfield 38, 3) := by decide +kernel
theorem dX11_weighsTerm_212 : decode cX11_weighsTerm 212 = .ok (.iload 4, 2) := by decide +kernel
theorem dX11_weighsTerm_214 : decode cX11_weighsTerm 214 = .ok (.iconst 1, 1) := by decide +kernel
theorem dX11_weighsTerm_215 : decode cX11_weighsTerm 215 = .ok (.isub, 1) := by decide +kernel
theorem dX11_weighsTerm_216 : decode cX11_weighsTerm 216 = .ok (.laload, 1) := by decide +kernel
theorem dX11_weighsTerm_217 : decode cX11_weighsTerm 217 = .ok (.lmul, 1) := by decide +kernel
theorem dX11_weighsTerm_218 : decode cX11_weighsTerm 218 = .ok (.aload_n 0, 1) := by decide +kernel
theorem dX11_weighsTerm_219 : decode cX11_weighsTerm 219 = .ok (.getfield 31, 3) := by decide +kernel
theorem dX11_weighsTerm_222 : decode cX11_weighsTerm 222 = .ok (.bipush 6, 2) := by decide +kernel
theorem dX11_weighsTerm_224 : decode cX11_weighsTerm 224 = .ok (.iaload, 1) := by decide +kernel
theorem dX11_weighsTerm_225 : decode cX11_weighsTerm 225 = .ok (.i2l, 1) := by decide +kernel
theorem dX11_weighsTerm_226 : decode cX11_weighsTerm 226 = .ok (.aload_n 0, 1) := by decide +kernel
theorem dX11_weighsTerm_227 : decode cX11_weighsTerm 227 = .ok (.getfield 38, 3) := by decide +kernel
theorem dX11_weighsTerm_230 : decode cX11_weighsTerm 230 = .ok (.iload 4, 2) := by decide +kernel
theorem dX11_weighsTerm_232 : decode cX11_weighsTerm 232 = .ok (.iconst 2, 1) := by decide +kernel
theorem dX11_weighsTerm_233 : decode cX11_weighsTerm 233 = .ok (.isub, 1) := by decide +kernel
theorem dX11_weighsTerm_234 : decode cX11_weighsTerm 234 = .ok (.laload, 1) := by decide +kernel
theorem dX11_weighsTerm_235 : decode cX11_weighsTerm 235 = .ok (.lmul, 1) := by decide +kernel
theorem dX11_weighsTerm_236 : decode cX11_weighsTerm 236 = .ok (.ladd, 1) := by decide +kernel
theorem dX11_weighsTerm_237 : decode cX11_weighsTerm 237 = .ok (.ldc2_w 181, 3) := by decide +kernel
theorem dX11_weighsTerm_240 : decode cX11_weighsTerm 240 = .ok (.lrem, 1) := by decide +kernel
theorem dX11_weighsTerm_241 : decode cX11_weighsTerm 241 = .ok (.lastore, 1) := by decide +kernel
theorem dX11_weighsTerm_242 : decode cX11_weighsTerm 242 = .ok (.aload_n 0, 1) := by decide +kernel
theorem dX11_weighsTerm_243 : decode cX11_weighsTerm 243 = .ok (.getfield 41, 3) := by decide +kernel
theorem dX11_weighsTerm_246 : decode cX11_weighsTerm 246 = .ok (.iload 4, 2) := by decide +kernel
theorem dX11_weighsTerm_248 : decode cX11_weighsTerm 248 = .ok (.iconst 2, 1) := by decide +kernel
theorem dX11_weighsTerm_249 : decode cX11_weighsTerm 249 = .ok (.isub, 1) := by decide +kernel
theorem dX11_weighsTerm_250 : decode cX11_weighsTerm 250 = .ok (.aload_n 0, 1) := by decide +kernel
theorem dX11_weighsTerm_251 : decode cX11_weighsTerm 251 = .ok (.getfield 31, 3) := by decide +kernel
theorem dX11_weighsTerm_254 : decode cX11_weighsTerm 254 = .ok (.iconst 5, 1) := by decide +kernel
theorem dX11_weighsTerm_255 : decode cX11_weighsTerm 255 = .ok (.iaload, 1) := by decide +kernel
theorem dX11_weighsTerm_256 : decode cX11_weighsTerm 256 = .ok (.i2l, 1) := by decide +kernel
theorem dX11_weighsTerm_257 : decode cX11_weighsTerm 257 = .ok (.aload_n 0, 1) := by decide +kernel
theorem dX11_weighsTerm_258 : decode cX11_weighsTerm 258 = .ok (.getfield 41, 3) := by decide +kernel
theorem dX11_weighsTerm_261 : decode cX11_weighsTerm 261 = .ok (.iload 4, 2) := by decide +kernel
theorem dX11_weighsTerm_263 : decode cX11_weighsTerm 263 = .ok (.iconst 1, 1) := by decide +kernel
theorem dX11_weighsTerm_264 : decode cX11_weighsTerm 264 = .ok (.isub, 1) := by decide +kernel
theorem dX11_weighsTerm_265 : decode cX11_weighsTerm 265 = .ok (.laload, 1) := by decide +kernel
theorem dX11_weighsTerm_266 : decode cX11_weighsTerm 266 = .ok (.lmul, 1) := by decide +kernel
theorem dX11_weighsTerm_267 : decode cX11_weighsTerm 267 = .ok (.aload_n 0, 1) := by decide +kernel
theorem dX11_weighsTerm_268 : decode cX11_weighsTerm 268 = .ok (.getfield 31, 3) := by decide +kernel
theorem dX11_weighsTerm_271 : decode cX11_weighsTerm 271 = .ok (.bipush 6, 2) := by decide +kernel
theorem dX11_weighsTerm_273 : decode cX11_weighsTerm 273 = .ok (.iaload, 1) := by decide +kernel
theorem dX11_weighsTerm_274 : decode cX11_weighsTerm 274 = .ok (.i2l, 1) := by decide +kernel
theorem dX11_weighsTerm_275 : decode cX11_weighsTerm 275 = .ok (.aload_n 0, 1) := by decide +kernel
theorem dX11_weighsTerm_276 : decode cX11_weighsTerm 276 = .ok (.getfield 41, 3) := by decide +kernel
theorem dX11_weighsTerm_279 : decode cX11_weighsTerm 279 = .ok (.iload 4, 2) := by decide +kernel
theorem dX11_weighsTerm_281 : decode cX11_weighsTerm 281 = .ok (.iconst 2, 1) := by decide +kernel
theorem dX11_weighsTerm_282 : decode cX11_weighsTerm 282 = .ok (.isub, 1) := by decide +kernel
theorem dX11_weighsTerm_283 : decode cX11_weighsTerm 283 = .ok (.laload, 1) := by decide +kernel
theorem dX11_weighsTerm_284 : decode cX11_weighsTerm 284 = .ok (.lmul, 1) := by decide +kernel
theorem dX11_weighsTerm_285 : decode cX11_weighsTerm 285 = .ok (.ladd, 1) := by decide +kernel
theorem dX11_weighsTerm_286 : decode cX11_weighsTerm 286 = .ok (.ldc2_w 181, 3) := by decide +kernel
theorem dX11_weighsTerm_289 : decode cX11_weighsTerm 289 = .ok (.lrem, 1) := by decide +kernel
theorem dX11_weighsTerm_290 : decode cX11_weighsTerm 290 = .ok (.lastore, 1) := by decide +kernel
theorem dX11_weighsTerm_291 : decode cX11_weighsTerm 291 = .ok (.iinc 4 (-1), 3) := by decide +kernel
theorem dX11_weighsTerm_294 : decode cX11_weighsTerm 294 = .ok (.goto 86, 3) := by decide +kernel
theorem dX11_weighsTerm_297 : decode cX11_weighsTerm 297 = .ok (.aload_n 0, 1) := by decide +kernel
theorem dX11_weighsTerm_298 : decode cX11_weighsTerm 298 = .ok (.getfield 34, 3) := by decide +kernel
theorem dX11_weighsTerm_301 : decode cX11_weighsTerm 301 = .ok (.iload 4, 2) := by decide +kernel
theorem dX11_weighsTerm_303 : decode cX11_weighsTerm 303 = .ok (.iload 6, 2) := by decide +kernel
theorem dX11_weighsTerm_305 : decode cX11_weighsTerm 305 = .ok (.bipush 97, 2) := by decide +kernel
theorem dX11_weighsTerm_307 : decode cX11_weighsTerm 307 = .ok (.if_icmp .ne 13, 3) := by decide +kernel
theorem dX11_weighsTerm_310 : decode cX11_weighsTerm 310 = .ok (.aload_n 0, 1) := by decide +kernel
theorem dX11_weighsTerm_311 : decode cX11_weighsTerm 311 = .ok (.getfield 31, 3) := by decide +kernel
theorem dX11_weighsTerm_314 : decode cX11_weighsTerm 314 = .ok (.iconst 0, 1) := by decide +kernel
theorem dX11_weighsTerm_315 : decode cX11_weighsTerm 315 = .ok (.iaload, 1) := by decide +kernel
theorem dX11_weighsTerm_316 : decode cX11_weighsTerm 316 = .ok (.i2l, 1) := by decide +kernel
theorem dX11_weighsTerm_317 : decode cX11_weighsTerm 317 = .ok (.goto 21, 3) := by decide +kernel
theorem dX11_weighsTerm_320 : decode cX11_weighsTerm 320 = .ok (.iload 6, 2) := by decide +kernel
theorem dX11_weighsTerm_322 : decode cX11_weighsTerm 322 = .ok (.bipush 98, 2) := by decide +kernel
theorem dX11_weighsTerm_324 : decode cX11_weighsTerm 324 = .ok (.if_icmp .ne 13, 3) := by decide +kernel
theorem dX11_weighsTerm_327 : decode cX11_weighsTerm 327 = .ok (.aload_n 0, 1) := by decide +kernel
theorem dX11_weighsTerm_328 : decode cX11_weighsTerm 328 = .ok (.getfield 31, 3) := by decide +kernel
theorem dX11_weighsTerm_331 : decode cX11_weighsTerm 331 = .ok (.iconst 1, 1) := by decide +kernel
theorem dX11_weighsTerm_332 : decode cX11_weighsTerm 332 = .ok (.iaload, 1) := by decide +kernel
theorem dX11_weighsTerm_333 : decode cX11_weighsTerm 333 = .ok (.i2l, 1) := by decide +kernel
theorem dX11_weighsTerm_334 : decode cX11_weighsTerm 334 = .ok (.goto 4, 3) := by decide +kernel
theorem dX11_weighsTerm_337 : decode cX11_weighsTerm 337 = .ok (.lconst 0, 1) := by decide +kernel
theorem dX11_weighsTerm_338 : decode cX11_weighsTerm 338 = .ok (.lastore, 1) := by decide +kernel
theorem dX11_weighsTerm_339 : decode cX11_weighsTerm 339 = .ok (.aload_n 0, 1) := by decide +kernel
theorem dX11_weighsTerm_340 : decode cX11_weighsTerm 340 = .ok (.getfield 38, 3) := by decide +kernel
theorem dX11_weighsTerm_343 : decode cX11_weighsTerm 343 = .ok (.iload 4, 2) := by decide +kernel
theorem dX11_weighsTerm_345 : decode cX11_weighsTerm 345 = .ok (.iload 6, 2) := by decide +kernel
theorem dX11_weighsTerm_347 : decode cX11_weighsTerm 347 = .ok (.bipush 120, 2) := by decide +kernel
theorem dX11_weighsTerm_349 : decode cX11_weighsTerm 349 = .ok (.if_icmp .ne 7, 3) := by decide +kernel
theorem dX11_weighsTerm_352 : decode cX11_weighsTerm 352 = .ok (.lconst 1, 1) := by decide +kernel
theorem dX11_weighsTerm_353 : decode cX11_weighsTerm 353 = .ok (.goto 4, 3) := by decide +kernel
theorem dX11_weighsTerm_356 : decode cX11_weighsTerm 356 = .ok (.lconst 0, 1) := by decide +kernel
theorem dX11_weighsTerm_357 : decode cX11_weighsTerm 357 = .ok (.lastore, 1) := by decide +kernel
theorem dX11_weighsTerm_358 : decode cX11_weighsTerm 358 = .ok (.aload_n 0, 1) := by decide +kernel
theorem dX11_weighsTerm_359 : decode cX11_weighsTerm 359 = .ok (.getfield 41, 3) := by decide +kernel
theorem dX11_weighsTerm_362 : decode cX11_weighsTerm 362 = .ok (.iload 4, 2) := by decide +kernel
theorem dX11_weighsTerm_364 : decode cX11_weighsTerm 364 = .ok (.iload 6, 2) := by decide +kernel
theorem dX11_weighsTerm_366 : decode cX11_weighsTerm 366 = .ok (.bipush 121, 2) := by decide +kernel
theorem dX11_weighsTerm_368 : decode cX11_weighsTerm 368 = .ok (.if_icmp .ne 7, 3) := by decide +kernel
theorem dX11_weighsTerm_371 : decode cX11_weighsTerm 371 = .ok (.lconst 1, 1) := by decide +kernel
theorem dX11_weighsTerm_372 : decode cX11_weighsTerm 372 = .ok (.goto 4, 3) := by decide +kernel
theorem dX11_weighsTerm_375 : decode cX11_weighsTerm 375 = .ok (.lconst 0, 1) := by decide +kernel
theorem dX11_weighsTerm_376 : decode cX11_weighsTerm 376 = .ok (.lastore, 1) := by decide +kernel
theorem dX11_weighsTerm_377 : decode cX11_weighsTerm 377 = .ok (.iinc 4 1, 3) := by decide +kernel
theorem dX11_weighsTerm_380 : decode cX11_weighsTerm 380 = .ok (.iinc 5 (-1), 3) := by decide +kernel
theorem dX11_weighsTerm_383 : decode cX11_weighsTerm 383 = .ok (.goto (-375), 3) := by decide +kernel
theorem dX11_weighsTerm_386 : decode cX11_weighsTerm 386 = .ok (.return_, 1) := by decide +kernel
theorem dX11_compares_0 : decode cX11_compares 0 = .ok (.aload_n 0, 1) := by decide +kernel
theorem dX11_compares_1 : decode cX11_compares 1 = .ok (.aload_n 0, 1) := by decide +kernel
theorem dX11_compares_2 : decode cX11_compares 2 = .ok (.getfield 7, 3) := by decide +kernel
theorem dX11_compares_5 : decode cX11_compares 5 = .ok (.iload_n 1, 1) := by decide +kernel
theorem dX11_compares_6 : decode cX11_compares 6 = .ok (.iload_n 2, 1) := by decide +kernel
theorem dX11_compares_7 : decode cX11_compares 7 = .ok (.invokevirtual 183, 3) := by decide +kernel
theorem dX11_compares_10 : decode cX11_compares 10 = .ok (.aload_n 0, 1) := by decide +kernel
theorem dX11_compares_11 : decode cX11_compares 11 = .ok (.getfield 34, 3) := by decide +kernel
theorem dX11_compares_14 : decode cX11_compares 14 = .ok (.iconst 0, 1) := by decide +kernel
theorem dX11_compares_15 : decode cX11_compares 15 = .ok (.laload, 1) := by decide +kernel
theorem dX11_compares_16 : decode cX11_compares 16 = .ok (.lstore 5, 2) := by decide +kernel
theorem dX11_compares_18 : decode cX11_compares 18 = .ok (.aload_n 0, 1) := by decide +kernel
theorem dX11_compares_19 : decode cX11_compares 19 = .ok (.getfield 38, 3) := by decide +kernel
theorem dX11_compares_22 : decode cX11_compares 22 = .ok (.iconst 0, 1) := by decide +kernel
theorem dX11_compares_23 : decode cX11_compares 23 = .ok (.laload, 1) := by decide +kernel
theorem dX11_compares_24 : decode cX11_compares 24 = .ok (.lstore 7, 2) := by decide +kernel
theorem dX11_compares_26 : decode cX11_compares 26 = .ok (.aload_n 0, 1) := by decide +kernel
theorem dX11_compares_27 : decode cX11_compares 27 = .ok (.getfield 41, 3) := by decide +kernel
theorem dX11_compares_30 : decode cX11_compares 30 = .ok (.iconst 0, 1) := by decide +kernel
theorem dX11_compares_31 : decode cX11_compares 31 = .ok (.laload, 1) := by decide +kernel
theorem dX11_compares_32 : decode cX11_compares 32 = .ok (.lstore 9, 2) := by decide +kernel
theorem dX11_compares_34 : decode cX11_compares 34 = .ok (.aload_n 0, 1) := by decide +kernel
theorem dX11_compares_35 : decode cX11_compares 35 = .ok (.aload_n 0, 1) := by decide +kernel
theorem dX11_compares_36 : decode cX11_compares 36 = .ok (.getfield 7, 3) := by decide +kernel
theorem dX11_compares_39 : decode cX11_compares 39 = .ok (.iload_n 3, 1) := by decide +kernel
theorem dX11_compares_40 : decode cX11_compares 40 = .ok (.iload 4, 2) := by decide +kernel
theorem dX11_compares_42 : decode cX11_compares 42 = .ok (.invokevirtual 183, 3) := by decide +kernel
theorem dX11_compares_45 : decode cX11_compares 45 = .ok (.lload 7, 2) := by decide +kernel
theorem dX11_compares_47 : decode cX11_compares 47 = .ok (.aload_n 0, 1) := by decide +kernel
theorem dX11_compares_48 : decode cX11_compares 48 = .ok (.getfield 38, 3) := by decide +kernel
theorem dX11_compares_51 : decode cX11_compares 51 = .ok (.iconst 0, 1) := by decide +kernel
theorem dX11_compares_52 : decode cX11_compares 52 = .ok (.laload, 1) := by decide +kernel
theorem dX11_compares_53 : decode cX11_compares 53 = .ok (.lcmp, 1) := by decide +kernel
theorem dX11_compares_54 : decode cX11_compares 54 = .ok (.ifCond .lt 19, 3) := by decide +kernel
theorem dX11_compares_57 : decode cX11_compares 57 = .ok (.lload 9, 2) := by decide +kernel
theorem dX11_compares_59 : decode cX11_compares 59 = .ok (.aload_n 0, 1) := by decide +kernel
theorem dX11_compares_60 : decode cX11_compares 60 = .ok (.getfield 41, 3) := by decide +kernel
theorem dX11_compares_63 : decode cX11_compares 63 = .ok (.iconst 0, 1) := by decide +kernel
theorem dX11_compares_64 : decode cX11_compares 64 = .ok (.laload, 1) := by decide +kernel
theorem dX11_compares_65 : decode cX11_compares 65 = .ok (.lcmp, 1) := by decide +kernel
theorem dX11_compares_66 : decode cX11_compares 66 = .ok (.ifCond .lt 7, 3) := by decide +kernel
theorem dX11_compares_69 : decode cX11_compares 69 = .ok (.iconst 1, 1) := by decide +kernel
theorem dX11_compares_70 : decode cX11_compares 70 = .ok (.goto 4, 3) := by decide +kernel
theorem dX11_compares_73 : decode cX11_compares 73 = .ok (.iconst 0, 1) := by decide +kernel
theorem dX11_compares_74 : decode cX11_compares 74 = .ok (.istore 11, 2) := by decide +kernel
theorem dX11_compares_76 : decode cX11_compares 76 = .ok (.iload 11, 2) := by decide +kernel
theorem dX11_compares_78 : decode cX11_compares 78 = .ok (.ifCond .eq 15, 3) := by decide +kernel
theorem dX11_compares_81 : decode cX11_compares 81 = .ok (.lload 5, 2) := by decide +kernel
theorem dX11_compares_83 : decode cX11_compares 83 = .ok (.aload_n 0, 1) := by decide +kernel
theorem dX11_compares_84 : decode cX11_compares 84 = .ok (.getfield 34, 3) := by decide +kernel
theorem dX11_compares_87 : decode cX11_compares 87 = .ok (.iconst 0, 1) := by decide +kernel
theorem dX11_compares_88 : decode cX11_compares 88 = .ok (.laload, 1) := by decide +kernel
theorem dX11_compares_89 : decode cX11_compares 89 = .ok (.lcmp, 1) := by decide +kernel
theorem dX11_compares_90 : decode cX11_compares 90 = .ok (.ifCond .ge 7, 3) := by decide +kernel
theorem dX11_compares_93 : decode cX11_compares 93 = .ok (.iconst 0, 1) := by decide +kernel
theorem dX11_compares_94 : decode cX11_compares 94 = .ok (.goto 20, 3) := by decide +kernel
theorem dX11_compares_97 : decode cX11_compares 97 = .ok (.lload 5, 2) := by decide +kernel
theorem dX11_compares_99 : decode cX11_compares 99 = .ok (.aload_n 0, 1) := by decide +kernel
theorem dX11_compares_100 : decode cX11_compares 100 = .ok (.getfield 34, 3) := by decide +kernel
theorem dX11_compares_103 : decode cX11_compares 103 = .ok (.iconst 0, 1) := by decide +kernel
theorem dX11_compares_104 : decode cX11_compares 104 = .ok (.laload, 1) := by decide +kernel
theorem dX11_compares_105 : decode cX11_compares 105 = .ok (.lcmp, 1) := by decide +kernel
theorem dX11_compares_106 : decode cX11_compares 106 = .ok (.ifCond .le 7, 3) := by decide +kernel
theorem dX11_compares_109 : decode cX11_compares 109 = .ok (.iconst 2, 1) := by decide +kernel
theorem dX11_compares_110 : decode cX11_compares 110 = .ok (.goto 4, 3) := by decide +kernel
theorem dX11_compares_113 : decode cX11_compares 113 = .ok (.iconst 1, 1) := by decide +kernel
theorem dX11_compares_114 : decode cX11_compares 114 = .ok (.ireturn, 1) := by decide +kernel
theorem dX11_comparesRule_0 : decode cX11_comparesRule 0 = .ok (.aload_n 0, 1) := by decide +kernel
theorem dX11_comparesRule_1 : decode cX11_comparesRule 1 = .ok (.iload_n 1, 1) := by decide +kernel
theorem dX11_comparesRule_2 : decode cX11_comparesRule 2 = .ok (.invokestatic 117, 3) := by decide +kernel
theorem dX11_comparesRule_5 : decode cX11_comparesRule 5 = .ok (.aload_n 0, 1) := by decide +kernel
theorem dX11_comparesRule_6 : decode cX11_comparesRule 6 = .ok (.getfield 7, 3) := by decide +kernel
theorem dX11_comparesRule_9 : decode cX11_comparesRule 9 = .ok (.iload_n 1, 1) := by decide +kernel
theorem dX11_comparesRule_10 : decode cX11_comparesRule 10 = .ok (.invokestatic 158, 3) := by decide +kernel
theorem dX11_comparesRule_13 : decode cX11_comparesRule 13 = .ok (.iload_n 1, 1) := by decide +kernel
theorem dX11_comparesRule_14 : decode cX11_comparesRule 14 = .ok (.invokestatic 127, 3) := by decide +kernel
theorem dX11_comparesRule_17 : decode cX11_comparesRule 17 = .ok (.aload_n 0, 1) := by decide +kernel
theorem dX11_comparesRule_18 : decode cX11_comparesRule 18 = .ok (.getfield 7, 3) := by decide +kernel
theorem dX11_comparesRule_21 : decode cX11_comparesRule 21 = .ok (.iload_n 1, 1) := by decide +kernel
theorem dX11_comparesRule_22 : decode cX11_comparesRule 22 = .ok (.invokestatic 162, 3) := by decide +kernel
theorem dX11_comparesRule_25 : decode cX11_comparesRule 25 = .ok (.invokevirtual 187, 3) := by decide +kernel
theorem dX11_comparesRule_28 : decode cX11_comparesRule 28 = .ok (.ireturn, 1) := by decide +kernel
theorem dX11_goesOn_0 : decode cX11_goesOn 0 = .ok (.bipush 6, 2) := by decide +kernel
theorem dX11_goesOn_2 : decode cX11_goesOn 2 = .ok (.istore_n 3, 1) := by decide +kernel
theorem dX11_goesOn_3 : decode cX11_goesOn 3 = .ok (.iload_n 3, 1) := by decide +kernel
theorem dX11_goesOn_4 : decode cX11_goesOn 4 = .ok (.ifCond .lt 35, 3) := by decide +kernel
theorem dX11_goesOn_7 : decode cX11_goesOn 7 = .ok (.aload_n 0, 1) := by decide +kernel
theorem dX11_goesOn_8 : decode cX11_goesOn 8 = .ok (.getfield 31, 3) := by decide +kernel
theorem dX11_goesOn_11 : decode cX11_goesOn 11 = .ok (.iload_n 3, 1) := by decide +kernel
theorem dX11_goesOn_12 : decode cX11_goesOn 12 = .ok (.iaload, 1) := by decide +kernel
theorem dX11_goesOn_13 : decode cX11_goesOn 13 = .ok (.iload_n 2, 1) := by decide +kernel
theorem dX11_goesOn_14 : decode cX11_goesOn 14 = .ok (.if_icmp .ne 25, 3) := by decide +kernel
theorem dX11_goesOn_17 : decode cX11_goesOn 17 = .ok (.aload_n 0, 1) := by decide +kernel
theorem dX11_goesOn_18 : decode cX11_goesOn 18 = .ok (.getfield 31, 3) := by decide +kernel
theorem dX11_goesOn_21 : decode cX11_goesOn 21 = .ok (.iload_n 3, 1) := by decide +kernel
theorem dX11_goesOn_22 : decode cX11_goesOn 22 = .ok (.iload_n 3, 1) := by decide +kernel
theorem dX11_goesOn_23 : decode cX11_goesOn 23 = .ok (.iconst 4, 1) := by decide +kernel
theorem dX11_goesOn_24 : decode cX11_goesOn 24 = .ok (.if_icmp .ge 7, 3) := by decide +kernel
theorem dX11_goesOn_27 : decode cX11_goesOn 27 = .ok (.iconst 0, 1) := by decide +kernel
theorem dX11_goesOn_28 : decode cX11_goesOn 28 = .ok (.goto 4, 3) := by decide +kernel
theorem dX11_goesOn_31 : decode cX11_goesOn 31 = .ok (.iload_n 1, 1) := by decide +kernel
theorem dX11_goesOn_32 : decode cX11_goesOn 32 = .ok (.iastore, 1) := by decide +kernel
theorem dX11_goesOn_33 : decode cX11_goesOn 33 = .ok (.iinc 3 (-1), 3) := by decide +kernel
theorem dX11_goesOn_36 : decode cX11_goesOn 36 = .ok (.goto (-33), 3) := by decide +kernel
theorem dX11_goesOn_39 : decode cX11_goesOn 39 = .ok (.iload_n 3, 1) := by decide +kernel
theorem dX11_goesOn_40 : decode cX11_goesOn 40 = .ok (.ifCond .ge 5, 3) := by decide +kernel
theorem dX11_goesOn_43 : decode cX11_goesOn 43 = .ok (.iconst 0, 1) := by decide +kernel
theorem dX11_goesOn_44 : decode cX11_goesOn 44 = .ok (.ireturn, 1) := by decide +kernel
theorem dX11_goesOn_45 : decode cX11_goesOn 45 = .ok (.aload_n 0, 1) := by decide +kernel
theorem dX11_goesOn_46 : decode cX11_goesOn 46 = .ok (.getfield 31, 3) := by decide +kernel
theorem dX11_goesOn_49 : decode cX11_goesOn 49 = .ok (.iload_n 3, 1) := by decide +kernel
theorem dX11_goesOn_50 : decode cX11_goesOn 50 = .ok (.dup2, 1) := by decide +kernel
theorem dX11_goesOn_51 : decode cX11_goesOn 51 = .ok (.iaload, 1) := by decide +kernel
theorem dX11_goesOn_52 : decode cX11_goesOn 52 = .ok (.iconst 1, 1) := by decide +kernel
theorem dX11_goesOn_53 : decode cX11_goesOn 53 = .ok (.iadd, 1) := by decide +kernel
theorem dX11_goesOn_54 : decode cX11_goesOn 54 = .ok (.iastore, 1) := by decide +kernel
theorem dX11_goesOn_55 : decode cX11_goesOn 55 = .ok (.iconst 1, 1) := by decide +kernel
theorem dX11_goesOn_56 : decode cX11_goesOn 56 = .ok (.ireturn, 1) := by decide +kernel
theorem dX11_numberOf_0 : decode cX11_numberOf 0 = .ok (.iconst 0, 1) := by decide +kernel
theorem dX11_numberOf_1 : decode cX11_numberOf 1 = .ok (.istore_n 1, 1) := by decide +kernel
theorem dX11_numberOf_2 : decode cX11_numberOf 2 = .ok (.iconst 0, 1) := by decide +kernel
theorem dX11_numberOf_3 : decode cX11_numberOf 3 = .ok (.istore_n 2, 1) := by decide +kernel
theorem dX11_numberOf_4 : decode cX11_numberOf 4 = .ok (.iload_n 2, 1) := by decide +kernel
theorem dX11_numberOf_5 : decode cX11_numberOf 5 = .ok (.bipush 7, 2) := by decide +kernel
theorem dX11_numberOf_7 : decode cX11_numberOf 7 = .ok (.if_icmp .ge 21, 3) := by decide +kernel
theorem dX11_numberOf_10 : decode cX11_numberOf 10 = .ok (.bipush 10, 2) := by decide +kernel
theorem dX11_numberOf_12 : decode cX11_numberOf 12 = .ok (.iload_n 1, 1) := by decide +kernel
theorem dX11_numberOf_13 : decode cX11_numberOf 13 = .ok (.imul, 1) := by decide +kernel
theorem dX11_numberOf_14 : decode cX11_numberOf 14 = .ok (.aload_n 0, 1) := by decide +kernel
theorem dX11_numberOf_15 : decode cX11_numberOf 15 = .ok (.getfield 31, 3) := by decide +kernel
theorem dX11_numberOf_18 : decode cX11_numberOf 18 = .ok (.iload_n 2, 1) := by decide +kernel
theorem dX11_numberOf_19 : decode cX11_numberOf 19 = .ok (.iaload, 1) := by decide +kernel
theorem dX11_numberOf_20 : decode cX11_numberOf 20 = .ok (.iadd, 1) := by decide +kernel
theorem dX11_numberOf_21 : decode cX11_numberOf 21 = .ok (.istore_n 1, 1) := by decide +kernel
theorem dX11_numberOf_22 : decode cX11_numberOf 22 = .ok (.iinc 2 1, 3) := by decide +kernel
theorem dX11_numberOf_25 : decode cX11_numberOf 25 = .ok (.goto (-21), 3) := by decide +kernel
theorem dX11_numberOf_28 : decode cX11_numberOf 28 = .ok (.iload_n 1, 1) := by decide +kernel
theorem dX11_numberOf_29 : decode cX11_numberOf 29 = .ok (.ireturn, 1) := by decide +kernel
theorem dX11_areAll_0 : decode cX11_areAll 0 = .ok (.iconst 1, 1) := by decide +kernel
theorem dX11_areAll_1 : decode cX11_areAll 1 = .ok (.istore_n 2, 1) := by decide +kernel
theorem dX11_areAll_2 : decode cX11_areAll 2 = .ok (.iconst 0, 1) := by decide +kernel
theorem dX11_areAll_3 : decode cX11_areAll 3 = .ok (.istore_n 3, 1) := by decide +kernel
theorem dX11_areAll_4 : decode cX11_areAll 4 = .ok (.iload_n 3, 1) := by decide +kernel
theorem dX11_areAll_5 : decode cX11_areAll 5 = .ok (.aload_n 0, 1) := by decide +kernel
theorem dX11_areAll_6 : decode cX11_areAll 6 = .ok (.getfield 7, 3) := by decide +kernel
theorem dX11_areAll_9 : decode cX11_areAll 9 = .ok (.iconst 0, 1) := by decide +kernel
theorem dX11_areAll_10 : decode cX11_areAll 10 = .ok (.iaload, 1) := by decide +kernel
theorem dX11_areAll_11 : decode cX11_areAll 11 = .ok (.if_icmp .ge 28, 3) := by decide +kernel
theorem dX11_areAll_14 : decode cX11_areAll 14 = .ok (.iload_n 2, 1) := by decide +kernel
theorem dX11_areAll_15 : decode cX11_areAll 15 = .ok (.ifCond .eq 24, 3) := by decide +kernel
theorem dX11_areAll_18 : decode cX11_areAll 18 = .ok (.aload_n 0, 1) := by decide +kernel
theorem dX11_areAll_19 : decode cX11_areAll 19 = .ok (.iload_n 3, 1) := by decide +kernel
theorem dX11_areAll_20 : decode cX11_areAll 20 = .ok (.invokevirtual 191, 3) := by decide +kernel
theorem dX11_areAll_23 : decode cX11_areAll 23 = .ok (.iload_n 1, 1) := by decide +kernel
theorem dX11_areAll_24 : decode cX11_areAll 24 = .ok (.if_icmp .lt 7, 3) := by decide +kernel
theorem dX11_areAll_27 : decode cX11_areAll 27 = .ok (.iconst 1, 1) := by decide +kernel
theorem dX11_areAll_28 : decode cX11_areAll 28 = .ok (.goto 4, 3) := by decide +kernel
theorem dX11_areAll_31 : decode cX11_areAll 31 = .ok (.iconst 0, 1) := by decide +kernel
theorem dX11_areAll_32 : decode cX11_areAll 32 = .ok (.istore_n 2, 1) := by decide +kernel
theorem dX11_areAll_33 : decode cX11_areAll 33 = .ok (.iinc 3 1, 3) := by decide +kernel
theorem dX11_areAll_36 : decode cX11_areAll 36 = .ok (.goto (-32), 3) := by decide +kernel
theorem dX11_areAll_39 : decode cX11_areAll 39 = .ok (.iload_n 2, 1) := by decide +kernel
theorem dX11_areAll_40 : decode cX11_areAll 40 = .ok (.ireturn, 1) := by decide +kernel
theorem dX11_fall_0 : decode cX11_fall 0 = .ok (.aload_n 0, 1) := by decide +kernel
theorem dX11_fall_1 : decode cX11_fall 1 = .ok (.bipush 111, 2) := by decide +kernel
theorem dX11_fall_3 : decode cX11_fall 3 = .ok (.bipush 9, 2) := by decide +kernel
theorem dX11_fall_5 : decode cX11_fall 5 = .ok (.invokevirtual 194, 3) := by decide +kernel
theorem dX11_fall_8 : decode cX11_fall 8 = .ok (.istore_n 1, 1) := by decide +kernel
theorem dX11_fall_9 : decode cX11_fall 9 = .ok (.iload_n 1, 1) := by decide +kernel
theorem dX11_fall_10 : decode cX11_fall 10 = .ok (.ifCond .eq 26, 3) := by decide +kernel
theorem dX11_fall_13 : decode cX11_fall 13 = .ok (.aload_n 0, 1) := by decide +kernel
theorem dX11_fall_14 : decode cX11_fall 14 = .ok (.iconst 2, 1) := by decide +kernel
theorem dX11_fall_15 : decode cX11_fall 15 = .ok (.invokevirtual 198, 3) := by decide +kernel
theorem dX11_fall_18 : decode cX11_fall 18 = .ok (.ifCond .eq 8, 3) := by decide +kernel
theorem dX11_fall_21 : decode cX11_fall 21 = .ok (.aload_n 0, 1) := by decide +kernel
theorem dX11_fall_22 : decode cX11_fall 22 = .ok (.invokevirtual 201, 3) := by decide +kernel
theorem dX11_fall_25 : decode cX11_fall 25 = .ok (.ireturn, 1) := by decide +kernel
theorem dX11_fall_26 : decode cX11_fall 26 = .ok (.aload_n 0, 1) := by decide +kernel
theorem dX11_fall_27 : decode cX11_fall 27 = .ok (.iconst 1, 1) := by decide +kernel
theorem dX11_fall_28 : decode cX11_fall 28 = .ok (.iconst 3, 1) := by decide +kernel
theorem dX11_fall_29 : decode cX11_fall 29 = .ok (.invokevirtual 204, 3) := by decide +kernel
theorem dX11_fall_32 : decode cX11_fall 32 = .ok (.istore_n 1, 1) := by decide +kernel
theorem dX11_fall_33 : decode cX11_fall 33 = .ok (.goto (-24), 3) := by decide +kernel
theorem dX11_fall_36 : decode cX11_fall 36 = .ok (.iconst (-1), 1) := by decide +kernel
theorem dX11_fall_37 : decode cX11_fall 37 = .ok (.ireturn, 1) := by decide +kernel
theorem dX11_weighs_0 : decode cX11_weighs 0 = .ok (.aload_n 0, 1) := by decide +kernel
theorem dX11_weighs_1 : decode cX11_weighs 1 = .ok (.iload_n 1, 1) := by decide +kernel
theorem dX11_weighs_2 : decode cX11_weighs 2 = .ok (.iconst 3, 1) := by decide +kernel
theorem dX11_weighs_3 : decode cX11_weighs 3 = .ok (.invokevirtual 194, 3) := by decide +kernel
theorem dX11_weighs_6 : decode cX11_weighs 6 = .ok (.ifCond .eq 19, 3) := by decide +kernel
theorem dX11_weighs_9 : decode cX11_weighs 9 = .ok (.aload_n 0, 1) := by decide +kernel
theorem dX11_weighs_10 : decode cX11_weighs 10 = .ok (.iload_n 2, 1) := by decide +kernel
theorem dX11_weighs_11 : decode cX11_weighs 11 = .ok (.invokevirtual 148, 3) := by decide +kernel
theorem dX11_weighs_14 : decode cX11_weighs 14 = .ok (.ifCond .eq 11, 3) := by decide +kernel
theorem dX11_weighs_17 : decode cX11_weighs 17 = .ok (.aload_n 0, 1) := by decide +kernel
theorem dX11_weighs_18 : decode cX11_weighs 18 = .ok (.iload_n 2, 1) := by decide +kernel
theorem dX11_weighs_19 : decode cX11_weighs 19 = .ok (.invokevirtual 191, 3) := by decide +kernel
theorem dX11_weighs_22 : decode cX11_weighs 22 = .ok (.goto 9, 3) := by decide +kernel
theorem dX11_weighs_25 : decode cX11_weighs 25 = .ok (.aload_n 0, 1) := by decide +kernel
theorem dX11_weighs_26 : decode cX11_weighs 26 = .ok (.bipush (-2), 2) := by decide +kernel
theorem dX11_weighs_28 : decode cX11_weighs 28 = .ok (.invokevirtual 80, 3) := by decide +kernel
theorem dX11_weighs_31 : decode cX11_weighs 31 = .ok (.ireturn, 1) := by decide +kernel
theorem dX11_weight_0 : decode cX11_weight 0 = .ok (.aload_n 0, 1) := by decide +kernel
theorem dX11_weight_1 : decode cX11_weight 1 = .ok (.iload_n 1, 1) := by decide +kernel
theorem dX11_weight_2 : decode cX11_weight 2 = .ok (.iconst 3, 1) := by decide +kernel
theorem dX11_weight_3 : decode cX11_weight 3 = .ok (.invokevirtual 194, 3) := by decide +kernel
theorem dX11_weight_6 : decode cX11_weight 6 = .ok (.ifCond .ne 10, 3) := by decide +kernel
theorem dX11_weight_9 : decode cX11_weight 9 = .ok (.aload_n 0, 1) := by decide +kernel
theorem dX11_weight_10 : decode cX11_weight 10 = .ok (.bipush (-2), 2) := by decide +kernel
theorem dX11_weight_12 : decode cX11_weight 12 = .ok (.invokevirtual 80, 3) := by decide +kernel
theorem dX11_weight_15 : decode cX11_weight 15 = .ok (.ireturn, 1) := by decide +kernel
theorem dX11_weight_16 : decode cX11_weight 16 = .ok (.aload_n 0, 1) := by decide +kernel
theorem dX11_weight_17 : decode cX11_weight 17 = .ok (.aload_n 0, 1) := by decide +kernel
theorem dX11_weight_18 : decode cX11_weight 18 = .ok (.getfield 7, 3) := by decide +kernel
theorem dX11_weight_21 : decode cX11_weight 21 = .ok (.sipush 132, 3) := by decide +kernel
theorem dX11_weight_24 : decode cX11_weight 24 = .ok (.aload_n 0, 1) := by decide +kernel
theorem dX11_weight_25 : decode cX11_weight 25 = .ok (.getfield 7, 3) := by decide +kernel
theorem dX11_weight_28 : decode cX11_weight 28 = .ok (.sipush 131, 3) := by decide +kernel
theorem dX11_weight_31 : decode cX11_weight 31 = .ok (.iaload, 1) := by decide +kernel
theorem dX11_weight_32 : decode cX11_weight 32 = .ok (.invokevirtual 183, 3) := by decide +kernel
theorem dX11_weight_35 : decode cX11_weight 35 = .ok (.aload_n 0, 1) := by decide +kernel
theorem dX11_weight_36 : decode cX11_weight 36 = .ok (.getfield 34, 3) := by decide +kernel
theorem dX11_weight_39 : decode cX11_weight 39 = .ok (.iconst 0, 1) := by decide +kernel
theorem dX11_weight_40 : decode cX11_weight 40 = .ok (.laload, 1) := by decide +kernel
theorem dX11_weight_41 : decode cX11_weight 41 = .ok (.l2i, 1) := by decide +kernel
theorem dX11_weight_42 : decode cX11_weight 42 = .ok (.ireturn, 1) := by decide +kernel
theorem dX11_mayFollow_0 : decode cX11_mayFollow 0 = .ok (.aload_n 0, 1) := by decide +kernel
theorem dX11_mayFollow_1 : decode cX11_mayFollow 1 = .ok (.getfield 47, 3) := by decide +kernel
theorem dX11_mayFollow_4 : decode cX11_mayFollow 4 = .ok (.iload_n 1, 1) := by decide +kernel
theorem dX11_mayFollow_5 : decode cX11_mayFollow 5 = .ok (.iaload, 1) := by decide +kernel
theorem dX11_mayFollow_6 : decode cX11_mayFollow 6 = .ok (.istore_n 3, 1) := by decide +kernel
theorem dX11_mayFollow_7 : decode cX11_mayFollow 7 = .ok (.aload_n 0, 1) := by decide +kernel
theorem dX11_mayFollow_8 : decode cX11_mayFollow 8 = .ok (.getfield 44, 3) := by decide +kernel
theorem dX11_mayFollow_11 : decode cX11_mayFollow 11 = .ok (.iload_n 2, 1) := by decide +kernel
theorem dX11_mayFollow_12 : decode cX11_mayFollow 12 = .ok (.iaload, 1) := by decide +kernel
theorem dX11_mayFollow_13 : decode cX11_mayFollow 13 = .ok (.invokestatic 117, 3) := by decide +kernel
theorem dX11_mayFollow_16 : decode cX11_mayFollow 16 = .ok (.istore 4, 2) := by decide +kernel
theorem dX11_mayFollow_18 : decode cX11_mayFollow 18 = .ok (.aload_n 0, 1) := by decide +kernel
theorem dX11_mayFollow_19 : decode cX11_mayFollow 19 = .ok (.getfield 7, 3) := by decide +kernel
theorem dX11_mayFollow_22 : decode cX11_mayFollow 22 = .ok (.iload_n 3, 1) := by decide +kernel
theorem dX11_mayFollow_23 : decode cX11_mayFollow 23 = .ok (.iaload, 1) := by decide +kernel
theorem dX11_mayFollow_24 : decode cX11_mayFollow 24 = .ok (.aload_n 0, 1) := by decide +kernel
theorem dX11_mayFollow_25 : decode cX11_mayFollow 25 = .ok (.getfield 7, 3) := by decide +kernel
theorem dX11_mayFollow_28 : decode cX11_mayFollow 28 = .ok (.iload 4, 2) := by decide +kernel
theorem dX11_mayFollow_30 : decode cX11_mayFollow 30 = .ok (.iaload, 1) := by decide +kernel
theorem dX11_mayFollow_31 : decode cX11_mayFollow 31 = .ok (.if_icmp .eq 5, 3) := by decide +kernel
theorem dX11_mayFollow_34 : decode cX11_mayFollow 34 = .ok (.iconst 0, 1) := by decide +kernel
theorem dX11_mayFollow_35 : decode cX11_mayFollow 35 = .ok (.ireturn, 1) := by decide +kernel
theorem dX11_mayFollow_36 : decode cX11_mayFollow 36 = .ok (.iload 4, 2) := by decide +kernel
theorem dX11_mayFollow_38 : decode cX11_mayFollow 38 = .ok (.aload_n 0, 1) := by decide +kernel
theorem dX11_mayFollow_39 : decode cX11_mayFollow 39 = .ok (.getfield 7, 3) := by decide +kernel
theorem dX11_mayFollow_42 : decode cX11_mayFollow 42 = .ok (.aload_n 0, 1) := by decide +kernel
theorem dX11_mayFollow_43 : decode cX11_mayFollow 43 = .ok (.getfield 44, 3) := by decide +kernel
theorem dX11_mayFollow_46 : decode cX11_mayFollow 46 = .ok (.iload_n 2, 1) := by decide +kernel
theorem dX11_mayFollow_47 : decode cX11_mayFollow 47 = .ok (.iaload, 1) := by decide +kernel
theorem dX11_mayFollow_48 : decode cX11_mayFollow 48 = .ok (.invokestatic 158, 3) := by decide +kernel
theorem dX11_mayFollow_51 : decode cX11_mayFollow 51 = .ok (.iadd, 1) := by decide +kernel
theorem dX11_mayFollow_52 : decode cX11_mayFollow 52 = .ok (.istore 5, 2) := by decide +kernel
theorem dX11_mayFollow_54 : decode cX11_mayFollow 54 = .ok (.iinc 3 1, 3) := by decide +kernel
theorem dX11_mayFollow_57 : decode cX11_mayFollow 57 = .ok (.iinc 4 1, 3) := by decide +kernel
theorem dX11_mayFollow_60 : decode cX11_mayFollow 60 = .ok (.iload 4, 2) := by decide +kernel
theorem dX11_mayFollow_62 : decode cX11_mayFollow 62 = .ok (.iload 5, 2) := by decide +kernel
theorem dX11_mayFollow_64 : decode cX11_mayFollow 64 = .ok (.if_icmp .ge 96, 3) := by decide +kernel
theorem dX11_mayFollow_67 : decode cX11_mayFollow 67 = .ok (.aload_n 0, 1) := by decide +kernel
theorem dX11_mayFollow_68 : decode cX11_mayFollow 68 = .ok (.getfield 7, 3) := by decide +kernel
theorem dX11_mayFollow_71 : decode cX11_mayFollow 71 = .ok (.iload 4, 2) := by decide +kernel
theorem dX11_mayFollow_73 : decode cX11_mayFollow 73 = .ok (.iaload, 1) := by decide +kernel
theorem dX11_mayFollow_74 : decode cX11_mayFollow 74 = .ok (.invokestatic 100, 3) := by decide +kernel
theorem dX11_mayFollow_77 : decode cX11_mayFollow 77 = .ok (.ifCond .ne 28, 3) := by decide +kernel
theorem dX11_mayFollow_80 : decode cX11_mayFollow 80 = .ok (.aload_n 0, 1) := by decide +kernel
theorem dX11_mayFollow_81 : decode cX11_mayFollow 81 = .ok (.getfield 7, 3) := by decide +kernel
theorem dX11_mayFollow_84 : decode cX11_mayFollow 84 = .ok (.iload_n 3, 1) := by decide +kernel
theorem dX11_mayFollow_85 : decode cX11_mayFollow 85 = .ok (.iaload, 1) := by decide +kernel
theorem dX11_mayFollow_86 : decode cX11_mayFollow 86 = .ok (.invokestatic 100, 3) := by decide +kernel
theorem dX11_mayFollow_89 : decode cX11_mayFollow 89 = .ok (.ifCond .ne 16, 3) := by decide +kernel
theorem dX11_mayFollow_92 : decode cX11_mayFollow 92 = .ok (.aload_n 0, 1) := by decide +kernel
theorem dX11_mayFollow_93 : decode cX11_mayFollow 93 = .ok (.aload_n 0, 1) := by decide +kernel
theorem dX11_mayFollow_94 : decode cX11_mayFollow 94 = .ok (.getfield 7, 3) := by decide +kernel
theorem dX11_mayFollow_97 : decode cX11_mayFollow 97 = .ok (.iload_n 3, 1) := by decide +kernel
theorem dX11_mayFollow_98 : decode cX11_mayFollow 98 = .ok (.iaload, 1) := by decide +kernel
theorem dX11_mayFollow_99 : decode cX11_mayFollow 99 = .ok (.invokevirtual 165, 3) := by decide +kernel
theorem dX11_mayFollow_102 : decode cX11_mayFollow 102 = .ok (.ifCond .eq 31, 3) := by decide +kernel
theorem dX11_mayFollow_105 : decode cX11_mayFollow 105 = .ok (.iload_n 3, 1) := by decide +kernel
theorem dX11_mayFollow_106 : decode cX11_mayFollow 106 = .ok (.aload_n 0, 1) := by decide +kernel
theorem dX11_mayFollow_107 : decode cX11_mayFollow 107 = .ok (.getfield 7, 3) := by decide +kernel
theorem dX11_mayFollow_110 : decode cX11_mayFollow 110 = .ok (.iload_n 3, 1) := by decide +kernel
theorem dX11_mayFollow_111 : decode cX11_mayFollow 111 = .ok (.invokestatic 207, 3) := by decide +kernel
theorem dX11_mayFollow_114 : decode cX11_mayFollow 114 = .ok (.iadd, 1) := by decide +kernel
theorem dX11_mayFollow_115 : decode cX11_mayFollow 115 = .ok (.istore_n 3, 1) := by decide +kernel
theorem dX11_mayFollow_116 : decode cX11_mayFollow 116 = .ok (.iload 4, 2) := by decide +kernel
theorem dX11_mayFollow_118 : decode cX11_mayFollow 118 = .ok (.aload_n 0, 1) := by decide +kernel
theorem dX11_mayFollow_119 : decode cX11_mayFollow 119 = .ok (.getfield 7, 3) := by decide +kernel
theorem dX11_mayFollow_122 : decode cX11_mayFollow 122 = .ok (.iload 4, 2) := by decide +kernel
theorem dX11_mayFollow_124 : decode cX11_mayFollow 124 = .ok (.invokestatic 207, 3) := by decide +kernel
theorem dX11_mayFollow_127 : decode cX11_mayFollow 127 = .ok (.iadd, 1) := by decide +kernel
theorem dX11_mayFollow_128 : decode cX11_mayFollow 128 = .ok (.istore 4, 2) := by decide +kernel
theorem dX11_mayFollow_130 : decode cX11_mayFollow 130 = .ok (.goto (-70), 3) := by decide +kernel
theorem dX11_mayFollow_133 : decode cX11_mayFollow 133 = .ok (.aload_n 0, 1) := by decide +kernel
theorem dX11_mayFollow_134 : decode cX11_mayFollow 134 = .ok (.getfield 7, 3) := by decide +kernel
theorem dX11_mayFollow_137 : decode cX11_mayFollow 137 = .ok (.iload_n 3, 1) := by decide +kernel
theorem dX11_mayFollow_138 : decode cX11_mayFollow 138 = .ok (.iaload, 1) := by decide +kernel
theorem dX11_mayFollow_139 : decode cX11_mayFollow 139 = .ok (.aload_n 0, 1) := by decide +kernel
theorem dX11_mayFollow_140 : decode cX11_mayFollow 140 = .ok (.getfield 7, 3) := by decide +kernel
theorem dX11_mayFollow_143 : decode cX11_mayFollow 143 = .ok (.iload 4, 2) := by decide +kernel
theorem dX11_mayFollow_145 : decode cX11_mayFollow 145 = .ok (.iaload, 1) := by decide +kernel
theorem dX11_mayFollow_146 : decode cX11_mayFollow 146 = .ok (.if_icmp .ne 12, 3) := by decide +kernel
theorem dX11_mayFollow_149 : decode cX11_mayFollow 149 = .ok (.iinc 3 1, 3) := by decide +kernel
theorem dX11_mayFollow_152 : decode cX11_mayFollow 152 = .ok (.iinc 4 1, 3) := by decide +kernel
theorem dX11_mayFollow_155 : decode cX11_mayFollow 155 = .ok (.goto (-95), 3) := by decide +kernel
theorem dX11_mayFollow_158 : decode cX11_mayFollow 158 = .ok (.iconst 0, 1) := by decide +kernel
theorem dX11_mayFollow_159 : decode cX11_mayFollow 159 = .ok (.ireturn, 1) := by decide +kernel
theorem dX11_mayFollow_160 : decode cX11_mayFollow 160 = .ok (.iconst 1, 1) := by decide +kernel
theorem dX11_mayFollow_161 : decode cX11_mayFollow 161 = .ok (.ireturn, 1) := by decide +kernel
theorem dX11_laysRings_0 : decode cX11_laysRings 0 = .ok (.aload_n 0, 1) := by decide +kernel
theorem dX11_laysRings_1 : decode cX11_laysRings 1 = .ok (.iconst 0, 1) := by decide +kernel
theorem dX11_laysRings_2 : decode cX11_laysRings 2 = .ok (.putfield 210, 3) := by decide +kernel
theorem dX11_laysRings_5 : decode cX11_laysRings 5 = .ok (.iconst 0, 1) := by decide +kernel
theorem dX11_laysRings_6 : decode cX11_laysRings 6 = .ok (.istore_n 1, 1) := by decide +kernel
theorem dX11_laysRings_7 : decode cX11_laysRings 7 = .ok (.iload_n 1, 1) := by decide +kernel
theorem dX11_laysRings_8 : decode cX11_laysRings 8 = .ok (.aload_n 0, 1) := by decide +kernel
theorem dX11_laysRings_9 : decode cX11_laysRings 9 = .ok (.getfield 213, 3) := by decide +kernel
theorem dX11_laysRings_12 : decode cX11_laysRings 12 = .ok (.if_icmp .ge 16, 3) := by decide +kernel
theorem dX11_laysRings_15 : decode cX11_laysRings 15 = .ok (.aload_n 0, 1) := by decide +kernel
theorem dX11_laysRings_16 : decode cX11_laysRings 16 = .ok (.getfield 57, 3) := by decide +kernel
theorem dX11_laysRings_19 : decode cX11_laysRings 19 = .ok (.iload_n 1, 1) := by decide +kernel
theorem dX11_laysRings_20 : decode cX11_laysRings 20 = .ok (.iconst (-1), 1) := by decide +kernel
theorem dX11_laysRings_21 : decode cX11_laysRings 21 = .ok (.iastore, 1) := by decide +kernel
theorem dX11_laysRings_22 : decode cX11_laysRings 22 = .ok (.iinc 1 1, 3) := by decide +kernel
theorem dX11_laysRings_25 : decode cX11_laysRings 25 = .ok (.goto (-18), 3) := by decide +kernel
theorem dX11_laysRings_28 : decode cX11_laysRings 28 = .ok (.iconst 0, 1) := by decide +kernel
theorem dX11_laysRings_29 : decode cX11_laysRings 29 = .ok (.istore_n 1, 1) := by decide +kernel
theorem dX11_laysRings_30 : decode cX11_laysRings 30 = .ok (.iload_n 1, 1) := by decide +kernel
theorem dX11_laysRings_31 : decode cX11_laysRings 31 = .ok (.aload_n 0, 1) := by decide +kernel
theorem dX11_laysRings_32 : decode cX11_laysRings 32 = .ok (.getfield 213, 3) := by decide +kernel
theorem dX11_laysRings_35 : decode cX11_laysRings 35 = .ok (.if_icmp .ge 106, 3) := by decide +kernel
theorem dX11_laysRings_38 : decode cX11_laysRings 38 = .ok (.aload_n 0, 1) := by decide +kernel
theorem dX11_laysRings_39 : decode cX11_laysRings 39 = .ok (.getfield 57, 3) := by decide +kernel
theorem dX11_laysRings_42 : decode cX11_laysRings 42 = .ok (.iload_n 1, 1) := by decide +kernel
theorem dX11_laysRings_43 : decode cX11_laysRings 43 = .ok (.iaload, 1) := by decide +kernel
theorem dX11_laysRings_44 : decode cX11_laysRings 44 = .ok (.iconst (-1), 1) := by decide +kernel
theorem dX11_laysRings_45 : decode cX11_laysRings 45 = .ok (.if_icmp .ne 90, 3) := by decide +kernel
theorem dX11_laysRings_48 : decode cX11_laysRings 48 = .ok (.aload_n 0, 1) := by decide +kernel
theorem dX11_laysRings_49 : decode cX11_laysRings 49 = .ok (.getfield 54, 3) := by decide +kernel
theorem dX11_laysRings_52 : decode cX11_laysRings 52 = .ok (.bipush 60, 2) := by decide +kernel
theorem dX11_laysRings_54 : decode cX11_laysRings 54 = .ok (.iload_n 1, 1) := by decide +kernel
theorem dX11_laysRings_55 : decode cX11_laysRings 55 = .ok (.imul, 1) := by decide +kernel
theorem dX11_laysRings_56 : decode cX11_laysRings 56 = .ok (.iload_n 1, 1) := by decide +kernel
theorem dX11_laysRings_57 : decode cX11_laysRings 57 = .ok (.iadd, 1) := by decide +kernel
theorem dX11_laysRings_58 : decode cX11_laysRings 58 = .ok (.baload, 1) := by decide +kernel
theorem dX11_laysRings_59 : decode cX11_laysRings 59 = .ok (.ifCond .eq 76, 3) := by decide +kernel
theorem dX11_laysRings_62 : decode cX11_laysRings 62 = .ok (.iload_n 1, 1) := by decide +kernel
theorem dX11_laysRings_63 : decode cX11_laysRings 63 = .ok (.istore_n 2, 1) := by decide +kernel
theorem dX11_laysRings_64 : decode cX11_laysRings 64 = .ok (.iload_n 2, 1) := by decide +kernel
theorem dX11_laysRings_65 : decode cX11_laysRings 65 = .ok (.aload_n 0, 1) := by decide +kernel
theorem dX11_laysRings_66 : decode cX11_laysRings 66 = .ok (.getfield 213, 3) := by decide +kernel
theorem dX11_laysRings_69 : decode cX11_laysRings 69 = .ok (.if_icmp .ge 56, 3) := by decide +kernel
theorem dX11_laysRings_72 : decode cX11_laysRings 72 = .ok (.aload_n 0, 1) := by decide +kernel
theorem dX11_laysRings_73 : decode cX11_laysRings 73 = .ok (.getfield 57, 3) := by decide +kernel
theorem dX11_laysRings_76 : decode cX11_laysRings 76 = .ok (.iload_n 2, 1) := by decide +kernel
theorem dX11_laysRings_77 : decode cX11_laysRings 77 = .ok (.aload_n 0, 1) := by decide +kernel
theorem dX11_laysRings_78 : decode cX11_laysRings 78 = .ok (.getfield 54, 3) := by decide +kernel
theorem dX11_laysRings_81 : decode cX11_laysRings 81 = .ok (.bipush 60, 2) := by decide +kernel
theorem dX11_laysRings_83 : decode cX11_laysRings 83 = .ok (.iload_n 1, 1) := by decide +kernel
theorem dX11_laysRings_84 : decode cX11_laysRings 84 = .ok (.imul, 1) := by decide +kernel
theorem dX11_laysRings_85 : decode cX11_laysRings 85 = .ok (.iload_n 2, 1) := by decide +kernel
theorem dX11_laysRings_86 : decode cX11_laysRings 86 = .ok (.iadd, 1) := by decide +kernel
theorem dX11_laysRings_87 : decode cX11_laysRings 87 = .ok (.baload, 1) := by decide +kernel
theorem dX11_laysRings_88 : decode cX11_laysRings 88 = .ok (.ifCond .eq 24, 3) := by decide +kernel
theorem dX11_laysRings_91 : decode cX11_laysRings 91 = .ok (.aload_n 0, 1) := by decide +kernel
theorem dX11_laysRings_92 : decode cX11_laysRings 92 = .ok (.getfield 54, 3) := by decide +kernel
theorem dX11_laysRings_95 : decode cX11_laysRings 95 = .ok (.bipush 60, 2) := by decide +kernel
theorem dX11_laysRings_97 : decode cX11_laysRings 97 = .ok (.iload_n 2, 1) := by decide +kernel
theorem dX11_laysRings_98 : decode cX11_laysRings 98 = .ok (.imul, 1) := by decide +kernel
theorem dX11_laysRings_99 : decode cX11_laysRings 99 = .ok (.iload_n 1, 1) := by decide +kernel
theorem dX11_laysRings_100 : decode cX11_laysRings 100 = .ok (.iadd, 1) := by decide +kernel
theorem dX11_laysRings_101 : decode cX11_laysRings 101 = .ok (.baload, 1) := by decide +kernel
theorem dX11_laysRings_102 : decode cX11_laysRings 102 = .ok (.ifCond .eq 10, 3) := by decide +kernel
theorem dX11_laysRings_105 : decode cX11_laysRings 105 = .ok (.aload_n 0, 1) := by decide +kernel
theorem dX11_laysRings_106 : decode cX11_laysRings 106 = .ok (.getfield 210, 3) := by decide +kernel
theorem dX11_laysRings_109 : decode cX11_laysRings 109 = .ok (.goto 9, 3) := by decide +kernel
theorem dX11_laysRings_112 : decode cX11_laysRings 112 = .ok (.aload_n 0, 1) := by decide +kernel
theorem dX11_laysRings_113 : decode cX11_laysRings 113 = .ok (.getfield 57, 3) := by decide +kernel
theorem dX11_laysRings_116 : decode cX11_laysRings 116 = .ok (.iload_n 2, 1) := by decide +kernel
theorem dX11_laysRings_117 : decode cX11_laysRings 117 = .ok (.iaload, 1) := by decide +kernel
theorem dX11_laysRings_118 : decode cX11_laysRings 118 = .ok (.iastore, 1) := by decide +kernel
theorem dX11_laysRings_119 : decode cX11_laysRings 119 = .ok (.iinc 2 1, 3) := by decide +kernel
theorem dX11_laysRings_122 : decode cX11_laysRings 122 = .ok (.goto (-58), 3) := by decide +kernel
theorem dX11_laysRings_125 : decode cX11_laysRings 125 = .ok (.aload_n 0, 1) := by decide +kernel
theorem dX11_laysRings_126 : decode cX11_laysRings 126 = .ok (.dup, 1) := by decide +kernel
theorem dX11_laysRings_127 : decode cX11_laysRings 127 = .ok (.getfield 210, 3) := by decide +kernel
theorem dX11_laysRings_130 : decode cX11_laysRings 130 = .ok (.iconst 1, 1) := by decide +kernel
theorem dX11_laysRings_131 : decode cX11_laysRings 131 = .ok (.iadd, 1) := by decide +kernel
theorem dX11_laysRings_132 : decode cX11_laysRings 132 = .ok (.putfield 210, 3) := by decide +kernel
theorem dX11_laysRings_135 : decode cX11_laysRings 135 = .ok (.iinc 1 1, 3) := by decide +kernel
theorem dX11_laysRings_138 : decode cX11_laysRings 138 = .ok (.goto (-108), 3) := by decide +kernel
theorem dX11_laysRings_141 : decode cX11_laysRings 141 = .ok (.return_, 1) := by decide +kernel
theorem dX11_laysCalls_0 : decode cX11_laysCalls 0 = .ok (.aload_n 0, 1) := by decide +kernel
theorem dX11_laysCalls_1 : decode cX11_laysCalls 1 = .ok (.iconst 0, 1) := by decide +kernel
theorem dX11_laysCalls_2 : decode cX11_laysCalls 2 = .ok (.putfield 213, 3) := by decide +kernel
theorem dX11_laysCalls_5 : decode cX11_laysCalls 5 = .ok (.iconst 0, 1) := by decide +kernel
theorem dX11_laysCalls_6 : decode cX11_laysCalls 6 = .ok (.istore_n 1, 1) := by decide +kernel
theorem dX11_laysCalls_7 : decode cX11_laysCalls 7 = .ok (.iload_n 1, 1) := by decide +kernel
theorem dX11_laysCalls_8 : decode cX11_laysCalls 8 = .ok (.aload_n 0, 1) := by decide +kernel
theorem dX11_laysCalls_9 : decode cX11_laysCalls 9 = .ok (.getfield 7, 3) := by decide +kernel
theorem dX11_laysCalls_12 : decode cX11_laysCalls 12 = .ok (.iconst 0, 1) := by decide +kernel
theorem dX11_laysCalls_13 : decode cX11_laysCalls 13 = .ok (.iaload, 1) := by decide +kernel
theorem dX11_laysCalls_14 : decode cX11_laysCalls 14 = .ok (.if_icmp .ge 82, 3) := by decide +kernel
theorem dX11_laysCalls_17 : decode cX11_laysCalls 17 = .ok (.iconst 0, 1) := by decide +kernel
theorem dX11_laysCalls_18 : decode cX11_laysCalls 18 = .ok (.istore_n 2, 1) := by decide +kernel
theorem dX11_laysCalls_19 : decode cX11_laysCalls 19 = .ok (.iload_n 2, 1) := by decide +kernel
theorem dX11_laysCalls_20 : decode cX11_laysCalls 20 = .ok (.aload_n 0, 1) := by decide +kernel
theorem dX11_laysCalls_21 : decode cX11_laysCalls 21 = .ok (.getfield 7, 3) := by decide +kernel
theorem dX11_laysCalls_24 : decode cX11_laysCalls 24 = .ok (.iload_n 1, 1) := by decide +kernel
theorem dX11_laysCalls_25 : decode cX11_laysCalls 25 = .ok (.invokestatic 162, 3) := by decide +kernel
theorem dX11_laysCalls_28 : decode cX11_laysCalls 28 = .ok (.if_icmp .ge 62, 3) := by decide +kernel
theorem dX11_laysCalls_31 : decode cX11_laysCalls 31 = .ok (.aload_n 0, 1) := by decide +kernel
theorem dX11_laysCalls_32 : decode cX11_laysCalls 32 = .ok (.aload_n 0, 1) := by decide +kernel
theorem dX11_laysCalls_33 : decode cX11_laysCalls 33 = .ok (.getfield 7, 3) := by decide +kernel
theorem dX11_laysCalls_36 : decode cX11_laysCalls 36 = .ok (.iload_n 1, 1) := by decide +kernel
theorem dX11_laysCalls_37 : decode cX11_laysCalls 37 = .ok (.invokestatic 127, 3) := by decide +kernel
theorem dX11_laysCalls_40 : decode cX11_laysCalls 40 = .ok (.iload_n 2, 1) := by decide +kernel
theorem dX11_laysCalls_41 : decode cX11_laysCalls 41 = .ok (.iadd, 1) := by decide +kernel
theorem dX11_laysCalls_42 : decode cX11_laysCalls 42 = .ok (.iaload, 1) := by decide +kernel
theorem dX11_laysCalls_43 : decode cX11_laysCalls 43 = .ok (.invokevirtual 165, 3) := by decide +kernel
theorem dX11_laysCalls_46 : decode cX11_laysCalls 46 = .ok (.ifCond .eq 38, 3) := by decide +kernel
theorem dX11_laysCalls_49 : decode cX11_laysCalls 49 = .ok (.aload_n 0, 1) := by decide +kernel
theorem dX11_laysCalls_50 : decode cX11_laysCalls 50 = .ok (.getfield 44, 3) := by decide +kernel
theorem dX11_laysCalls_53 : decode cX11_laysCalls 53 = .ok (.aload_n 0, 1) := by decide +kernel
theorem dX11_laysCalls_54 : decode cX11_laysCalls 54 = .ok (.getfield 213, 3) := by decide +kernel
theorem dX11_laysCalls_57 : decode cX11_laysCalls 57 = .ok (.iload_n 1, 1) := by decide +kernel
theorem dX11_laysCalls_58 : decode cX11_laysCalls 58 = .ok (.iastore, 1) := by decide +kernel
theorem dX11_laysCalls_59 : decode cX11_laysCalls 59 = .ok (.aload_n 0, 1) := by decide +kernel
theorem dX11_laysCalls_60 : decode cX11_laysCalls 60 = .ok (.getfield 47, 3) := by decide +kernel
theorem dX11_laysCalls_63 : decode cX11_laysCalls 63 = .ok (.aload_n 0, 1) := by decide +kernel
theorem dX11_laysCalls_64 : decode cX11_laysCalls 64 = .ok (.getfield 213, 3) := by decide +kernel
theorem dX11_laysCalls_67 : decode cX11_laysCalls 67 = .ok (.iload_n 1, 1) := by decide +kernel
theorem dX11_laysCalls_68 : decode cX11_laysCalls 68 = .ok (.invokestatic 127, 3) := by decide +kernel
theorem dX11_laysCalls_71 : decode cX11_laysCalls 71 = .ok (.iload_n 2, 1) := by decide +kernel
theorem dX11_laysCalls_72 : decode cX11_laysCalls 72 = .ok (.iadd, 1) := by decide +kernel
theorem dX11_laysCalls_73 : decode cX11_laysCalls 73 = .ok (.iastore, 1) := by decide +kernel
theorem dX11_laysCalls_74 : decode cX11_laysCalls 74 = .ok (.aload_n 0, 1) := by decide +kernel
theorem dX11_laysCalls_75 : decode cX11_laysCalls 75 = .ok (.dup, 1) := by decide +kernel
theorem dX11_laysCalls_76 : decode cX11_laysCalls 76 = .ok (.getfield 213, 3) := by decide +kernel
theorem dX11_laysCalls_79 : decode cX11_laysCalls 79 = .ok (.iconst 1, 1) := by decide +kernel
theorem dX11_laysCalls_80 : decode cX11_laysCalls 80 = .ok (.iadd, 1) := by decide +kernel
theorem dX11_laysCalls_81 : decode cX11_laysCalls 81 = .ok (.putfield 213, 3) := by decide +kernel
theorem dX11_laysCalls_84 : decode cX11_laysCalls 84 = .ok (.iinc 2 1, 3) := by decide +kernel
theorem dX11_laysCalls_87 : decode cX11_laysCalls 87 = .ok (.goto (-68), 3) := by decide +kernel
theorem dX11_laysCalls_90 : decode cX11_laysCalls 90 = .ok (.iinc 1 1, 3) := by decide +kernel
theorem dX11_laysCalls_93 : decode cX11_laysCalls 93 = .ok (.goto (-86), 3) := by decide +kernel
theorem dX11_laysCalls_96 : decode cX11_laysCalls 96 = .ok (.iconst 0, 1) := by decide +kernel
theorem dX11_laysCalls_97 : decode cX11_laysCalls 97 = .ok (.istore_n 1, 1) := by decide +kernel
theorem dX11_laysCalls_98 : decode cX11_laysCalls 98 = .ok (.iload_n 1, 1) := by decide +kernel
theorem dX11_laysCalls_99 : decode cX11_laysCalls 99 = .ok (.aload_n 0, 1) := by decide +kernel
theorem dX11_laysCalls_100 : decode cX11_laysCalls 100 = .ok (.getfield 213, 3) := by decide +kernel
theorem dX11_laysCalls_103 : decode cX11_laysCalls 103 = .ok (.if_icmp .ge 64, 3) := by decide +kernel
theorem dX11_laysCalls_106 : decode cX11_laysCalls 106 = .ok (.iconst 0, 1) := by decide +kernel
theorem dX11_laysCalls_107 : decode cX11_laysCalls 107 = .ok (.istore_n 2, 1) := by decide +kernel
theorem dX11_laysCalls_108 : decode cX11_laysCalls 108 = .ok (.iload_n 2, 1) := by decide +kernel
theorem dX11_laysCalls_109 : decode cX11_laysCalls 109 = .ok (.aload_n 0, 1) := by decide +kernel
theorem dX11_laysCalls_110 : decode cX11_laysCalls 110 = .ok (.getfield 213, 3) := by decide +kernel
theorem dX11_laysCalls_113 : decode cX11_laysCalls 113 = .ok (.if_icmp .ge 48, 3) := by decide +kernel
theorem dX11_laysCalls_116 : decode cX11_laysCalls 116 = .ok (.aload_n 0, 1) := by decide +kernel
theorem dX11_laysCalls_117 : decode cX11_laysCalls 117 = .ok (.getfield 50, 3) := by decide +kernel
theorem dX11_laysCalls_120 : decode cX11_laysCalls 120 = .ok (.bipush 60, 2) := by decide +kernel
theorem dX11_laysCalls_122 : decode cX11_laysCalls 122 = .ok (.iload_n 1, 1) := by decide +kernel
theorem dX11_laysCalls_123 : decode cX11_laysCalls 123 = .ok (.imul, 1) := by decide +kernel
theorem dX11_laysCalls_124 : decode cX11_laysCalls 124 = .ok (.iload_n 2, 1) := by decide +kernel
theorem dX11_laysCalls_125 : decode cX11_laysCalls 125 = .ok (.iadd, 1) := by decide +kernel
theorem dX11_laysCalls_126 : decode cX11_laysCalls 126 = .ok (.aload_n 0, 1) := by decide +kernel
theorem dX11_laysCalls_127 : decode cX11_laysCalls 127 = .ok (.iload_n 1, 1) := by decide +kernel
theorem dX11_laysCalls_128 : decode cX11_laysCalls 128 = .ok (.iload_n 2, 1) := by decide +kernel
theorem dX11_laysCalls_129 : decode cX11_laysCalls 129 = .ok (.invokevirtual 216, 3) := by decide +kernel
theorem dX11_laysCalls_132 : decode cX11_laysCalls 132 = .ok (.bastore, 1) := by decide +kernel
theorem dX11_laysCalls_133 : decode cX11_laysCalls 133 = .ok (.aload_n 0, 1) := by decide +kernel
theorem dX11_laysCalls_134 : decode cX11_laysCalls 134 = .ok (.getfield 54, 3) := by decide +kernel
theorem dX11_laysCalls_137 : decode cX11_laysCalls 137 = .ok (.bipush 60, 2) := by decide +kernel
theorem dX11_laysCalls_139 : decode cX11_laysCalls 139 = .ok (.iload_n 1, 1) := by decide +kernel
theorem dX11_laysCalls_140 : decode cX11_laysCalls 140 = .ok (.imul, 1) := by decide +kernel
theorem dX11_laysCalls_141 : decode cX11_laysCalls 141 = .ok (.iload_n 2, 1) := by decide +kernel
theorem dX11_laysCalls_142 : decode cX11_laysCalls 142 = .ok (.iadd, 1) := by decide +kernel
theorem dX11_laysCalls_143 : decode cX11_laysCalls 143 = .ok (.aload_n 0, 1) := by decide +kernel
theorem dX11_laysCalls_144 : decode cX11_laysCalls 144 = .ok (.getfield 50, 3) := by decide +kernel
theorem dX11_laysCalls_147 : decode cX11_laysCalls 147 = .ok (.bipush 60, 2) := by decide +kernel
theorem dX11_laysCalls_149 : decode cX11_laysCalls 149 = .ok (.iload_n 1, 1) := by decide +kernel
theorem dX11_laysCalls_150 : decode cX11_laysCalls 150 = .ok (.imul, 1) := by decide +kernel
theorem dX11_laysCalls_151 : decode cX11_laysCalls 151 = .ok (.iload_n 2, 1) := by decide +kernel
theorem dX11_laysCalls_152 : decode cX11_laysCalls 152 = .ok (.iadd, 1) := by decide +kernel
theorem dX11_laysCalls_153 : decode cX11_laysCalls 153 = .ok (.baload, 1) := by decide +kernel
theorem dX11_laysCalls_154 : decode cX11_laysCalls 154 = .ok (.bastore, 1) := by decide +kernel
theorem dX11_laysCalls_155 : decode cX11_laysCalls 155 = .ok (.iinc 2 1, 3) := by decide +kernel
theorem dX11_laysCalls_158 : decode cX11_laysCalls 158 = .ok (.goto (-50), 3) := by decide +kernel
theorem dX11_laysCalls_161 : decode cX11_laysCalls 161 = .ok (.iinc 1 1, 3) := by decide +kernel
theorem dX11_laysCalls_164 : decode cX11_laysCalls 164 = .ok (.goto (-66), 3) := by decide +kernel
theorem dX11_laysCalls_167 : decode cX11_laysCalls 167 = .ok (.iconst 0, 1) := by decide +kernel
theorem dX11_laysCalls_168 : decode cX11_laysCalls 168 = .ok (.istore_n 1, 1) := by decide +kernel
theorem dX11_laysCalls_169 : decode cX11_laysCalls 169 = .ok (.iload_n 1, 1) := by decide +kernel
theorem dX11_laysCalls_170 : decode cX11_laysCalls 170 = .ok (.aload_n 0, 1) := by decide +kernel
theorem dX11_laysCalls_171 : decode cX11_laysCalls 171 = .ok (.getfield 213, 3) := by decide +kernel
theorem dX11_laysCalls_174 : decode cX11_laysCalls 174 = .ok (.if_icmp .ge 99, 3) := by decide +kernel
theorem dX11_laysCalls_177 : decode cX11_laysCalls 177 = .ok (.iconst 0, 1) := by decide +kernel
theorem dX11_laysCalls_178 : decode cX11_laysCalls 178 = .ok (.istore_n 2, 1) := by decide +kernel
theorem dX11_laysCalls_179 : decode cX11_laysCalls 179 = .ok (.iload_n 2, 1) := by decide +kernel
theorem dX11_laysCalls_180 : decode cX11_laysCalls 180 = .ok (.aload_n 0, 1) := by decide +kernel
theorem dX11_laysCalls_181 : decode cX11_laysCalls 181 = .ok (.getfield 213, 3) := by decide +kernel
theorem dX11_laysCalls_184 : decode cX11_laysCalls 184 = .ok (.if_icmp .ge 83, 3) := by decide +kernel
theorem dX11_laysCalls_187 : decode cX11_laysCalls 187 = .ok (.iconst 0, 1) := by decide +kernel
theorem dX11_laysCalls_188 : decode cX11_laysCalls 188 = .ok (.istore_n 3, 1) := by decide +kernel
theorem dX11_laysCalls_189 : decode cX11_laysCalls 189 = .ok (.iload_n 3, 1) := by decide +kernel
theorem dX11_laysCalls_190 : decode cX11_laysCalls 190 = .ok (.aload_n 0, 1) := by decide +kernel
theorem dX11_laysCalls_191 : decode cX11_laysCalls 191 = .ok (.getfield 213, 3) := by decide +kernel
theorem dX11_laysCalls_194 : decode cX11_laysCalls 194 = .ok (.if_icmp .ge 67, 3) := by decide +kernel
theorem dX11_laysCalls_197 : decode cX11_laysCalls 197 = .ok (.aload_n 0, 1) := by decide +kernel
theorem dX11_laysCalls_198 : decode cX11_laysCalls 198 = .ok (.getfield 54, 3) := by decide +kernel
theorem dX11_laysCalls_201 : decode cX11_laysCalls 201 = .ok (.bipush 60, 2) := by decide +kernel
theorem dX11_laysCalls_203 : decode cX11_laysCalls 203 = .ok (.iload_n 2, 1) := by decide +kernel
theorem dX11_laysCalls_204 : decode cX11_laysCalls 204 = .ok (.imul, 1) := by decide +kernel
theorem dX11_laysCalls_205 : decode cX11_laysCalls 205 = .ok (.iload_n 1, 1) := by decide +kernel
theorem dX11_laysCalls_206 : decode cX11_laysCalls 206 = .ok (.iadd, 1) := by decide +kernel
theorem dX11_laysCalls_207 : decode cX11_laysCalls 207 = .ok (.baload, 1) := by decide +kernel
theorem dX11_laysCalls_208 : decode cX11_laysCalls 208 = .ok (.ifCond .eq 53, 3) := by decide +kernel
theorem dX11_laysCalls_211 : decode cX11_laysCalls 211 = .ok (.aload_n 0, 1) := by decide +kernel
theorem dX11_laysCalls_212 : decode cX11_laysCalls 212 = .ok (.getfield 54, 3) := by decide +kernel
theorem dX11_laysCalls_215 : decode cX11_laysCalls 215 = .ok (.bipush 60, 2) := by decide +kernel
theorem dX11_laysCalls_217 : decode cX11_laysCalls 217 = .ok (.iload_n 2, 1) := by decide +kernel
theorem dX11_laysCalls_218 : decode cX11_laysCalls 218 = .ok (.imul, 1) := by decide +kernel
theorem dX11_laysCalls_219 : decode cX11_laysCalls 219 = .ok (.iload_n 3, 1) := by decide +kernel
theorem dX11_laysCalls_220 : decode cX11_laysCalls 220 = .ok (.iadd, 1) := by decide +kernel
theorem dX11_laysCalls_221 : decode cX11_laysCalls 221 = .ok (.aload_n 0, 1) := by decide +kernel
theorem dX11_laysCalls_222 : decode cX11_laysCalls 222 = .ok (.getfield 54, 3) := by decide +kernel
theorem dX11_laysCalls_225 : decode cX11_laysCalls 225 = .ok (.bipush 60, 2) := by decide +kernel
theorem dX11_laysCalls_227 : decode cX11_laysCalls 227 = .ok (.iload_n 2, 1) := by decide +kernel
theorem dX11_laysCalls_228 : decode cX11_laysCalls 228 = .ok (.imul, 1) := by decide +kernel
theorem dX11_laysCalls_229 : decode cX11_laysCalls 229 = .ok (.iload_n 3, 1) := by decide +kernel
theorem dX11_laysCalls_230 : decode cX11_laysCalls 230 = .ok (.iadd, 1) := by decide +kernel
theorem dX11_laysCalls_231 : decode cX11_laysCalls 231 = .ok (.baload, 1) := by decide +kernel
theorem dX11_laysCalls_232 : decode cX11_laysCalls 232 = .ok (.ifCond .ne 17, 3) := by decide +kernel
theorem dX11_laysCalls_235 : decode cX11_laysCalls 235 = .ok (.aload_n 0, 1) := by decide +kernel
theorem dX11_laysCalls_236 : decode cX11_laysCalls 236 = .ok (.getfield 54, 3) := by decide +kernel
theorem dX11_laysCalls_239 : decode cX11_laysCalls 239 = .ok (.bipush 60, 2) := by decide +kernel
theorem dX11_laysCalls_241 : decode cX11_laysCalls 241 = .ok (.iload_n 1, 1) := by decide +kernel
theorem dX11_laysCalls_242 : decode cX11_laysCalls 242 = .ok (.imul, 1) := by decide +kernel
theorem dX11_laysCalls_243 : decode cX11_laysCalls 243 = .ok (.iload_n 3, 1) := by decide +kernel
theorem dX11_laysCalls_244 : decode cX11_laysCalls 244 = .ok (.iadd, 1) := by decide +kernel
theorem dX11_laysCalls_245 : decode cX11_laysCalls 245 = .ok (.baload, 1) := by decide +kernel
theorem dX11_laysCalls_246 : decode cX11_laysCalls 246 = .ok (.ifCond .eq 7, 3) := by decide +kernel
theorem dX11_laysCalls_249 : decode cX11_laysCalls 249 = .ok (.iconst 1, 1) := by decide +kernel
theorem dX11_laysCalls_250 : decode cX11_laysCalls 250 = .ok (.goto 4, 3) := by decide +kernel
theorem dX11_laysCalls_253 : decode cX11_laysCalls 253 = .ok (.iconst 0, 1) := by decide +kernel
theorem dX11_laysCalls_254 : decode cX11_laysCalls 254 = .ok (.bastore, 1) := by decide +kernel
theorem dX11_laysCalls_255 : decode cX11_laysCalls 255 = .ok (.iinc 3 1, 3) := by decide +kernel
theorem dX11_laysCalls_258 : decode cX11_laysCalls 258 = .ok (.goto (-69), 3) := by decide +kernel
theorem dX11_laysCalls_261 : decode cX11_laysCalls 261 = .ok (.iinc 2 1, 3) := by decide +kernel
theorem dX11_laysCalls_264 : decode cX11_laysCalls 264 = .ok (.goto (-85), 3) := by decide +kernel
theorem dX11_laysCalls_267 : decode cX11_laysCalls 267 = .ok (.iinc 1 1, 3) := by decide +kernel
theorem dX11_laysCalls_270 : decode cX11_laysCalls 270 = .ok (.goto (-101), 3) := by decide +kernel
theorem dX11_laysCalls_273 : decode cX11_laysCalls 273 = .ok (.aload_n 0, 1) := by decide +kernel
theorem dX11_laysCalls_274 : decode cX11_laysCalls 274 = .ok (.invokevirtual 219, 3) := by decide +kernel
theorem dX11_laysCalls_277 : decode cX11_laysCalls 277 = .ok (.return_, 1) := by decide +kernel
theorem dX11_isLighter_0 : decode cX11_isLighter 0 = .ok (.aload_n 0, 1) := by decide +kernel
theorem dX11_isLighter_1 : decode cX11_isLighter 1 = .ok (.iconst 1, 1) := by decide +kernel
theorem dX11_isLighter_2 : decode cX11_isLighter 2 = .ok (.invokevirtual 198, 3) := by decide +kernel
theorem dX11_isLighter_5 : decode cX11_isLighter 5 = .ok (.istore_n 2, 1) := by decide +kernel
theorem dX11_isLighter_6 : decode cX11_isLighter 6 = .ok (.iconst 0, 1) := by decide +kernel
theorem dX11_isLighter_7 : decode cX11_isLighter 7 = .ok (.istore_n 3, 1) := by decide +kernel
theorem dX11_isLighter_8 : decode cX11_isLighter 8 = .ok (.iload_n 3, 1) := by decide +kernel
theorem dX11_isLighter_9 : decode cX11_isLighter 9 = .ok (.aload_n 0, 1) := by decide +kernel
theorem dX11_isLighter_10 : decode cX11_isLighter 10 = .ok (.getfield 213, 3) := by decide +kernel
theorem dX11_isLighter_13 : decode cX11_isLighter 13 = .ok (.if_icmp .ge 78, 3) := by decide +kernel
theorem dX11_isLighter_16 : decode cX11_isLighter 16 = .ok (.iload_n 2, 1) := by decide +kernel
theorem dX11_isLighter_17 : decode cX11_isLighter 17 = .ok (.ifCond .eq 74, 3) := by decide +kernel
theorem dX11_isLighter_20 : decode cX11_isLighter 20 = .ok (.aload_n 0, 1) := by decide +kernel
theorem dX11_isLighter_21 : decode cX11_isLighter 21 = .ok (.getfield 44, 3) := by decide +kernel
theorem dX11_isLighter_24 : decode cX11_isLighter 24 = .ok (.iload_n 3, 1) := by decide +kernel
theorem dX11_isLighter_25 : decode cX11_isLighter 25 = .ok (.iaload, 1) := by decide +kernel
theorem dX11_isLighter_26 : decode cX11_isLighter 26 = .ok (.istore 4, 2) := by decide +kernel
theorem dX11_isLighter_28 : decode cX11_isLighter 28 = .ok (.aload_n 0, 1) := by decide +kernel
theorem dX11_isLighter_29 : decode cX11_isLighter 29 = .ok (.getfield 57, 3) := by decide +kernel
theorem dX11_isLighter_32 : decode cX11_isLighter 32 = .ok (.iload_n 3, 1) := by decide +kernel
theorem dX11_isLighter_33 : decode cX11_isLighter 33 = .ok (.iaload, 1) := by decide +kernel
theorem dX11_isLighter_34 : decode cX11_isLighter 34 = .ok (.iload_n 1, 1) := by decide +kernel
theorem dX11_isLighter_35 : decode cX11_isLighter 35 = .ok (.if_icmp .ne 44, 3) := by decide +kernel
theorem dX11_isLighter_38 : decode cX11_isLighter 38 = .ok (.aload_n 0, 1) := by decide +kernel
theorem dX11_isLighter_39 : decode cX11_isLighter 39 = .ok (.iload 4, 2) := by decide +kernel
theorem dX11_isLighter_41 : decode cX11_isLighter 41 = .ok (.invokestatic 117, 3) := by decide +kernel
theorem dX11_isLighter_44 : decode cX11_isLighter 44 = .ok (.aload_n 0, 1) := by decide +kernel
theorem dX11_isLighter_45 : decode cX11_isLighter 45 = .ok (.getfield 7, 3) := by decide +kernel
theorem dX11_isLighter_48 : decode cX11_isLighter 48 = .ok (.iload 4, 2) := by decide +kernel
theorem dX11_isLighter_50 : decode cX11_isLighter 50 = .ok (.invokestatic 158, 3) := by decide +kernel
theorem dX11_isLighter_53 : decode cX11_isLighter 53 = .ok (.aload_n 0, 1) := by decide +kernel
theorem dX11_isLighter_54 : decode cX11_isLighter 54 = .ok (.getfield 47, 3) := by decide +kernel
theorem dX11_isLighter_57 : decode cX11_isLighter 57 = .ok (.iload_n 3, 1) := by decide +kernel
theorem dX11_isLighter_58 : decode cX11_isLighter 58 = .ok (.iaload, 1) := by decide +kernel
theorem dX11_isLighter_59 : decode cX11_isLighter 59 = .ok (.aload_n 0, 1) := by decide +kernel
theorem dX11_isLighter_60 : decode cX11_isLighter 60 = .ok (.getfield 7, 3) := by decide +kernel
theorem dX11_isLighter_63 : decode cX11_isLighter 63 = .ok (.aload_n 0, 1) := by decide +kernel
theorem dX11_isLighter_64 : decode cX11_isLighter 64 = .ok (.getfield 47, 3) := by decide +kernel
theorem dX11_isLighter_67 : decode cX11_isLighter 67 = .ok (.iload_n 3, 1) := by decide +kernel
theorem dX11_isLighter_68 : decode cX11_isLighter 68 = .ok (.iaload, 1) := by decide +kernel
theorem dX11_isLighter_69 : decode cX11_isLighter 69 = .ok (.invokestatic 207, 3) := by decide +kernel
theorem dX11_isLighter_72 : decode cX11_isLighter 72 = .ok (.invokevirtual 187, 3) := by decide +kernel
theorem dX11_isLighter_75 : decode cX11_isLighter 75 = .ok (.iconst 2, 1) := by decide +kernel
theorem dX11_isLighter_76 : decode cX11_isLighter 76 = .ok (.if_icmp .ne 7, 3) := by decide +kernel
theorem dX11_isLighter_79 : decode cX11_isLighter 79 = .ok (.iconst 1, 1) := by decide +kernel
theorem dX11_isLighter_80 : decode cX11_isLighter 80 = .ok (.goto 4, 3) := by decide +kernel
theorem dX11_isLighter_83 : decode cX11_isLighter 83 = .ok (.iconst 0, 1) := by decide +kernel
theorem dX11_isLighter_84 : decode cX11_isLighter 84 = .ok (.istore_n 2, 1) := by decide +kernel
theorem dX11_isLighter_85 : decode cX11_isLighter 85 = .ok (.iinc 3 1, 3) := by decide +kernel
theorem dX11_isLighter_88 : decode cX11_isLighter 88 = .ok (.goto (-80), 3) := by decide +kernel
theorem dX11_isLighter_91 : decode cX11_isLighter 91 = .ok (.iload_n 2, 1) := by decide +kernel
theorem dX11_isLighter_92 : decode cX11_isLighter 92 = .ok (.ireturn, 1) := by decide +kernel
theorem dX11_lighterOf_0 : decode cX11_lighterOf 0 = .ok (.aload_n 0, 1) := by decide +kernel
theorem dX11_lighterOf_1 : decode cX11_lighterOf 1 = .ok (.iconst 0, 1) := by decide +kernel
theorem dX11_lighterOf_2 : decode cX11_lighterOf 2 = .ok (.bipush 9, 2) := by decide +kernel
theorem dX11_lighterOf_4 : decode cX11_lighterOf 4 = .ok (.invokevirtual 194, 3) := by decide +kernel
theorem dX11_lighterOf_7 : decode cX11_lighterOf 7 = .ok (.istore_n 2, 1) := by decide +kernel
theorem dX11_lighterOf_8 : decode cX11_lighterOf 8 = .ok (.iload_n 2, 1) := by decide +kernel
theorem dX11_lighterOf_9 : decode cX11_lighterOf 9 = .ok (.ifCond .eq 26, 3) := by decide +kernel
theorem dX11_lighterOf_12 : decode cX11_lighterOf 12 = .ok (.aload_n 0, 1) := by decide +kernel
theorem dX11_lighterOf_13 : decode cX11_lighterOf 13 = .ok (.iload_n 1, 1) := by decide +kernel
theorem dX11_lighterOf_14 : decode cX11_lighterOf 14 = .ok (.invokevirtual 222, 3) := by decide +kernel
theorem dX11_lighterOf_17 : decode cX11_lighterOf 17 = .ok (.ifCond .eq 8, 3) := by decide +kernel
theorem dX11_lighterOf_20 : decode cX11_lighterOf 20 = .ok (.aload_n 0, 1) := by decide +kernel
theorem dX11_lighterOf_21 : decode cX11_lighterOf 21 = .ok (.invokevirtual 201, 3) := by decide +kernel
theorem dX11_lighterOf_24 : decode cX11_lighterOf 24 = .ok (.ireturn, 1) := by decide +kernel
theorem dX11_lighterOf_25 : decode cX11_lighterOf 25 = .ok (.aload_n 0, 1) := by decide +kernel
theorem dX11_lighterOf_26 : decode cX11_lighterOf 26 = .ok (.iconst 0, 1) := by decide +kernel
theorem dX11_lighterOf_27 : decode cX11_lighterOf 27 = .ok (.iconst 2, 1) := by decide +kernel
theorem dX11_lighterOf_28 : decode cX11_lighterOf 28 = .ok (.invokevirtual 204, 3) := by decide +kernel
theorem dX11_lighterOf_31 : decode cX11_lighterOf 31 = .ok (.istore_n 2, 1) := by decide +kernel
theorem dX11_lighterOf_32 : decode cX11_lighterOf 32 = .ok (.goto (-24), 3) := by decide +kernel
theorem dX11_lighterOf_35 : decode cX11_lighterOf 35 = .ok (.iconst (-1), 1) := by decide +kernel
theorem dX11_lighterOf_36 : decode cX11_lighterOf 36 = .ok (.ireturn, 1) := by decide +kernel
theorem dX11_callsTold_0 : decode cX11_callsTold 0 = .ok (.iload_n 1, 1) := by decide +kernel
theorem dX11_callsTold_1 : decode cX11_callsTold 1 = .ok (.iconst 2, 1) := by decide +kernel
theorem dX11_callsTold_2 : decode cX11_callsTold 2 = .ok (.if_icmp .ge 19, 3) := by decide +kernel
theorem dX11_callsTold_5 : decode cX11_callsTold 5 = .ok (.iload_n 1, 1) := by decide +kernel
theorem dX11_callsTold_6 : decode cX11_callsTold 6 = .ok (.ifCond .ne 10, 3) := by decide +kernel
theorem dX11_callsTold_9 : decode cX11_callsTold 9 = .ok (.aload_n 0, 1) := by decide +kernel
theorem dX11_callsTold_10 : decode cX11_callsTold 10 = .ok (.getfield 213, 3) := by decide +kernel
theorem dX11_callsTold_13 : decode cX11_callsTold 13 = .ok (.goto 7, 3) := by decide +kernel
theorem dX11_callsTold_16 : decode cX11_callsTold 16 = .ok (.aload_n 0, 1) := by decide +kernel
theorem dX11_callsTold_17 : decode cX11_callsTold 17 = .ok (.getfield 210, 3) := by decide +kernel
theorem dX11_callsTold_20 : decode cX11_callsTold 20 = .ok (.ireturn, 1) := by decide +kernel
theorem dX11_callsTold_21 : decode cX11_callsTold 21 = .ok (.iconst 1, 1) := by decide +kernel
theorem dX11_callsTold_22 : decode cX11_callsTold 22 = .ok (.istore_n 2, 1) := by decide +kernel
theorem dX11_callsTold_23 : decode cX11_callsTold 23 = .ok (.iconst 0, 1) := by decide +kernel
theorem dX11_callsTold_24 : decode cX11_callsTold 24 = .ok (.istore_n 3, 1) := by decide +kernel
theorem dX11_callsTold_25 : decode cX11_callsTold 25 = .ok (.iload_n 3, 1) := by decide +kernel
theorem dX11_callsTold_26 : decode cX11_callsTold 26 = .ok (.aload_n 0, 1) := by decide +kernel
theorem dX11_callsTold_27 : decode cX11_callsTold 27 = .ok (.getfield 210, 3) := by decide +kernel
theorem dX11_callsTold_30 : decode cX11_callsTold 30 = .ok (.if_icmp .ge 28, 3) := by decide +kernel
theorem dX11_callsTold_33 : decode cX11_callsTold 33 = .ok (.iload_n 2, 1) := by decide +kernel
theorem dX11_callsTold_34 : decode cX11_callsTold 34 = .ok (.ifCond .eq 24, 3) := by decide +kernel
theorem dX11_callsTold_37 : decode cX11_callsTold 37 = .ok (.aload_n 0, 1) := by decide +kernel
theorem dX11_callsTold_38 : decode cX11_callsTold 38 = .ok (.iload_n 3, 1) := by decide +kernel
theorem dX11_callsTold_39 : decode cX11_callsTold 39 = .ok (.invokevirtual 225, 3) := by decide +kernel
theorem dX11_callsTold_42 : decode cX11_callsTold 42 = .ok (.iconst (-1), 1) := by decide +kernel
theorem dX11_callsTold_43 : decode cX11_callsTold 43 = .ok (.if_icmp .eq 7, 3) := by decide +kernel
theorem dX11_callsTold_46 : decode cX11_callsTold 46 = .ok (.iconst 1, 1) := by decide +kernel
theorem dX11_callsTold_47 : decode cX11_callsTold 47 = .ok (.goto 4, 3) := by decide +kernel
theorem dX11_callsTold_50 : decode cX11_callsTold 50 = .ok (.iconst 0, 1) := by decide +kernel
theorem dX11_callsTold_51 : decode cX11_callsTold 51 = .ok (.istore_n 2, 1) := by decide +kernel
theorem dX11_callsTold_52 : decode cX11_callsTold 52 = .ok (.iinc 3 1, 3) := by decide +kernel
theorem dX11_callsTold_55 : decode cX11_callsTold 55 = .ok (.goto (-30), 3) := by decide +kernel
theorem dX11_callsTold_58 : decode cX11_callsTold 58 = .ok (.iload_n 2, 1) := by decide +kernel
theorem dX11_callsTold_59 : decode cX11_callsTold 59 = .ok (.ifCond .eq 7, 3) := by decide +kernel
theorem dX11_callsTold_62 : decode cX11_callsTold 62 = .ok (.iconst 1, 1) := by decide +kernel
theorem dX11_callsTold_63 : decode cX11_callsTold 63 = .ok (.goto 4, 3) := by decide +kernel
theorem dX11_callsTold_66 : decode cX11_callsTold 66 = .ok (.iconst 0, 1) := by decide +kernel
theorem dX11_callsTold_67 : decode cX11_callsTold 67 = .ok (.ireturn, 1) := by decide +kernel
theorem dX11_calls_0 : decode cX11_calls 0 = .ok (.iload_n 1, 1) := by decide +kernel
theorem dX11_calls_1 : decode cX11_calls 1 = .ok (.iconst 0, 1) := by decide +kernel
theorem dX11_calls_2 : decode cX11_calls 2 = .ok (.iconst 2, 1) := by decide +kernel
theorem dX11_calls_3 : decode cX11_calls 3 = .ok (.invokestatic 96, 3) := by decide +kernel
theorem dX11_calls_6 : decode cX11_calls 6 = .ok (.ifCond .ne 10, 3) := by decide +kernel
theorem dX11_calls_9 : decode cX11_calls 9 = .ok (.aload_n 0, 1) := by decide +kernel
theorem dX11_calls_10 : decode cX11_calls 10 = .ok (.bipush (-2), 2) := by decide +kernel
theorem dX11_calls_12 : decode cX11_calls 12 = .ok (.invokevirtual 80, 3) := by decide +kernel
theorem dX11_calls_15 : decode cX11_calls 15 = .ok (.ireturn, 1) := by decide +kernel
theorem dX11_calls_16 : decode cX11_calls 16 = .ok (.aload_n 0, 1) := by decide +kernel
theorem dX11_calls_17 : decode cX11_calls 17 = .ok (.invokevirtual 228, 3) := by decide +kernel
theorem dX11_calls_20 : decode cX11_calls 20 = .ok (.aload_n 0, 1) := by decide +kernel
theorem dX11_calls_21 : decode cX11_calls 21 = .ok (.iload_n 1, 1) := by decide +kernel
theorem dX11_calls_22 : decode cX11_calls 22 = .ok (.invokevirtual 231, 3) := by decide +kernel
theorem dX11_calls_25 : decode cX11_calls 25 = .ok (.ireturn, 1) := by decide +kernel
theorem dX11_callTold_0 : decode cX11_callTold 0 = .ok (.iload_n 2, 1) := by decide +kernel
theorem dX11_callTold_1 : decode cX11_callTold 1 = .ok (.tableswitch 55 0 2 #[27, 34, 48], 27) := by decide +kernel
theorem dX11_callTold_28 : decode cX11_callTold 28 = .ok (.aload_n 0, 1) := by decide +kernel
theorem dX11_callTold_29 : decode cX11_callTold 29 = .ok (.getfield 44, 3) := by decide +kernel
theorem dX11_callTold_32 : decode cX11_callTold 32 = .ok (.iload_n 1, 1) := by decide +kernel
theorem dX11_callTold_33 : decode cX11_callTold 33 = .ok (.iaload, 1) := by decide +kernel
theorem dX11_callTold_34 : decode cX11_callTold 34 = .ok (.ireturn, 1) := by decide +kernel
theorem dX11_callTold_35 : decode cX11_callTold 35 = .ok (.aload_n 0, 1) := by decide +kernel
theorem dX11_callTold_36 : decode cX11_callTold 36 = .ok (.getfield 7, 3) := by decide +kernel
theorem dX11_callTold_39 : decode cX11_callTold 39 = .ok (.aload_n 0, 1) := by decide +kernel
theorem dX11_callTold_40 : decode cX11_callTold 40 = .ok (.getfield 47, 3) := by decide +kernel
theorem dX11_callTold_43 : decode cX11_callTold 43 = .ok (.iload_n 1, 1) := by decide +kernel
theorem dX11_callTold_44 : decode cX11_callTold 44 = .ok (.iaload, 1) := by decide +kernel
theorem dX11_callTold_45 : decode cX11_callTold 45 = .ok (.invokestatic 207, 3) := by decide +kernel
theorem dX11_callTold_48 : decode cX11_callTold 48 = .ok (.ireturn, 1) := by decide +kernel
theorem dX11_callTold_49 : decode cX11_callTold 49 = .ok (.aload_n 0, 1) := by decide +kernel
theorem dX11_callTold_50 : decode cX11_callTold 50 = .ok (.getfield 57, 3) := by decide +kernel
theorem dX11_callTold_53 : decode cX11_callTold 53 = .ok (.iload_n 1, 1) := by decide +kernel
theorem dX11_callTold_54 : decode cX11_callTold 54 = .ok (.iaload, 1) := by decide +kernel
theorem dX11_callTold_55 : decode cX11_callTold 55 = .ok (.ireturn, 1) := by decide +kernel
theorem dX11_callTold_56 : decode cX11_callTold 56 = .ok (.iconst 0, 1) := by decide +kernel
theorem dX11_callTold_57 : decode cX11_callTold 57 = .ok (.istore_n 3, 1) := by decide +kernel
theorem dX11_callTold_58 : decode cX11_callTold 58 = .ok (.iconst 0, 1) := by decide +kernel
theorem dX11_callTold_59 : decode cX11_callTold 59 = .ok (.istore 4, 2) := by decide +kernel
theorem dX11_callTold_61 : decode cX11_callTold 61 = .ok (.iload 4, 2) := by decide +kernel
theorem dX11_callTold_63 : decode cX11_callTold 63 = .ok (.aload_n 0, 1) := by decide +kernel
theorem dX11_callTold_64 : decode cX11_callTold 64 = .ok (.getfield 213, 3) := by decide +kernel
theorem dX11_callTold_67 : decode cX11_callTold 67 = .ok (.if_icmp .ge 32, 3) := by decide +kernel
theorem dX11_callTold_70 : decode cX11_callTold 70 = .ok (.iload_n 3, 1) := by decide +kernel
theorem dX11_callTold_71 : decode cX11_callTold 71 = .ok (.aload_n 0, 1) := by decide +kernel
theorem dX11_callTold_72 : decode cX11_callTold 72 = .ok (.getfield 50, 3) := by decide +kernel
theorem dX11_callTold_75 : decode cX11_callTold 75 = .ok (.bipush 60, 2) := by decide +kernel
theorem dX11_callTold_77 : decode cX11_callTold 77 = .ok (.iload_n 1, 1) := by decide +kernel
theorem dX11_callTold_78 : decode cX11_callTold 78 = .ok (.imul, 1) := by decide +kernel
theorem dX11_callTold_79 : decode cX11_callTold 79 = .ok (.iload 4, 2) := by decide +kernel
theorem dX11_callTold_81 : decode cX11_callTold 81 = .ok (.iadd, 1) := by decide +kernel
theorem dX11_callTold_82 : decode cX11_callTold 82 = .ok (.baload, 1) := by decide +kernel
theorem dX11_callTold_83 : decode cX11_callTold 83 = .ok (.ifCond .eq 7, 3) := by decide +kernel
theorem dX11_callTold_86 : decode cX11_callTold 86 = .ok (.iconst 1, 1) := by decide +kernel
theorem dX11_callTold_87 : decode cX11_callTold 87 = .ok (.goto 4, 3) := by decide +kernel
theorem dX11_callTold_90 : decode cX11_callTold 90 = .ok (.iconst 0, 1) := by decide +kernel
theorem dX11_callTold_91 : decode cX11_callTold 91 = .ok (.iadd, 1) := by decide +kernel
theorem dX11_callTold_92 : decode cX11_callTold 92 = .ok (.istore_n 3, 1) := by decide +kernel
theorem dX11_callTold_93 : decode cX11_callTold 93 = .ok (.iinc 4 1, 3) := by decide +kernel
theorem dX11_callTold_96 : decode cX11_callTold 96 = .ok (.goto (-35), 3) := by decide +kernel
theorem dX11_callTold_99 : decode cX11_callTold 99 = .ok (.iload_n 3, 1) := by decide +kernel
theorem dX11_callTold_100 : decode cX11_callTold 100 = .ok (.ireturn, 1) := by decide +kernel
theorem dX11_call_0 : decode cX11_call 0 = .ok (.aload_n 0, 1) := by decide +kernel
theorem dX11_call_1 : decode cX11_call 1 = .ok (.invokevirtual 228, 3) := by decide +kernel
theorem dX11_call_4 : decode cX11_call 4 = .ok (.iload_n 1, 1) := by decide +kernel
theorem dX11_call_5 : decode cX11_call 5 = .ok (.iconst 0, 1) := by decide +kernel
theorem dX11_call_6 : decode cX11_call 6 = .ok (.aload_n 0, 1) := by decide +kernel
theorem dX11_call_7 : decode cX11_call 7 = .ok (.getfield 213, 3) := by decide +kernel
theorem dX11_call_10 : decode cX11_call 10 = .ok (.iconst 1, 1) := by decide +kernel
theorem dX11_call_11 : decode cX11_call 11 = .ok (.isub, 1) := by decide +kernel
theorem dX11_call_12 : decode cX11_call 12 = .ok (.invokestatic 96, 3) := by decide +kernel
theorem dX11_call_15 : decode cX11_call 15 = .ok (.ifCond .eq 21, 3) := by decide +kernel
theorem dX11_call_18 : decode cX11_call 18 = .ok (.iload_n 2, 1) := by decide +kernel
theorem dX11_call_19 : decode cX11_call 19 = .ok (.iconst 0, 1) := by decide +kernel
theorem dX11_call_20 : decode cX11_call 20 = .ok (.iconst 3, 1) := by decide +kernel
theorem dX11_call_21 : decode cX11_call 21 = .ok (.invokestatic 96, 3) := by decide +kernel
theorem dX11_call_24 : decode cX11_call 24 = .ok (.ifCond .eq 12, 3) := by decide +kernel
theorem dX11_call_27 : decode cX11_call 27 = .ok (.aload_n 0, 1) := by decide +kernel
theorem dX11_call_28 : decode cX11_call 28 = .ok (.iload_n 1, 1) := by decide +kernel
theorem dX11_call_29 : decode cX11_call 29 = .ok (.iload_n 2, 1) := by decide +kernel
theorem dX11_call_30 : decode cX11_call 30 = .ok (.invokevirtual 234, 3) := by decide +kernel
theorem dX11_call_33 : decode cX11_call 33 = .ok (.goto 9, 3) := by decide +kernel
theorem dX11_call_36 : decode cX11_call 36 = .ok (.aload_n 0, 1) := by decide +kernel
theorem dX11_call_37 : decode cX11_call 37 = .ok (.bipush (-2), 2) := by decide +kernel
theorem dX11_call_39 : decode cX11_call 39 = .ok (.invokevirtual 80, 3) := by decide +kernel
theorem dX11_call_42 : decode cX11_call 42 = .ok (.ireturn, 1) := by decide +kernel
theorem dX11_follows_0 : decode cX11_follows 0 = .ok (.aload_n 0, 1) := by decide +kernel
theorem dX11_follows_1 : decode cX11_follows 1 = .ok (.invokevirtual 228, 3) := by decide +kernel
theorem dX11_follows_4 : decode cX11_follows 4 = .ok (.iload_n 1, 1) := by decide +kernel
theorem dX11_follows_5 : decode cX11_follows 5 = .ok (.iconst 0, 1) := by decide +kernel
theorem dX11_follows_6 : decode cX11_follows 6 = .ok (.aload_n 0, 1) := by decide +kernel
theorem dX11_follows_7 : decode cX11_follows 7 = .ok (.getfield 213, 3) := by decide +kernel
theorem dX11_follows_10 : decode cX11_follows 10 = .ok (.iconst 1, 1) := by decide +kernel
theorem dX11_follows_11 : decode cX11_follows 11 = .ok (.isub, 1) := by decide +kernel
theorem dX11_follows_12 : decode cX11_follows 12 = .ok (.invokestatic 96, 3) := by decide +kernel
theorem dX11_follows_15 : decode cX11_follows 15 = .ok (.ifCond .eq 17, 3) := by decide +kernel
theorem dX11_follows_18 : decode cX11_follows 18 = .ok (.iload_n 2, 1) := by decide +kernel
theorem dX11_follows_19 : decode cX11_follows 19 = .ok (.iconst 0, 1) := by decide +kernel
theorem dX11_follows_20 : decode cX11_follows 20 = .ok (.aload_n 0, 1) := by decide +kernel
theorem dX11_follows_21 : decode cX11_follows 21 = .ok (.getfield 213, 3) := by decide +kernel
theorem dX11_follows_24 : decode cX11_follows 24 = .ok (.iconst 1, 1) := by decide +kernel
theorem dX11_follows_25 : decode cX11_follows 25 = .ok (.isub, 1) := by decide +kernel
theorem dX11_follows_26 : decode cX11_follows 26 = .ok (.invokestatic 96, 3) := by decide +kernel
theorem dX11_follows_29 : decode cX11_follows 29 = .ok (.ifCond .ne 10, 3) := by decide +kernel
theorem dX11_follows_32 : decode cX11_follows 32 = .ok (.aload_n 0, 1) := by decide +kernel
theorem dX11_follows_33 : decode cX11_follows 33 = .ok (.bipush (-2), 2) := by decide +kernel
theorem dX11_follows_35 : decode cX11_follows 35 = .ok (.invokevirtual 80, 3) := by decide +kernel
theorem dX11_follows_38 : decode cX11_follows 38 = .ok (.ireturn, 1) := by decide +kernel
theorem dX11_follows_39 : decode cX11_follows 39 = .ok (.aload_n 0, 1) := by decide +kernel
theorem dX11_follows_40 : decode cX11_follows 40 = .ok (.getfield 50, 3) := by decide +kernel
theorem dX11_follows_43 : decode cX11_follows 43 = .ok (.bipush 60, 2) := by decide +kernel
theorem dX11_follows_45 : decode cX11_follows 45 = .ok (.iload_n 1, 1) := by decide +kernel
theorem dX11_follows_46 : decode cX11_follows 46 = .ok (.imul, 1) := by decide +kernel
theorem dX11_follows_47 : decode cX11_follows 47 = .ok (.iload_n 2, 1) := by decide +kernel
theorem dX11_follows_48 : decode cX11_follows 48 = .ok (.iadd, 1) := by decide +kernel
theorem dX11_follows_49 : decode cX11_follows 49 = .ok (.baload, 1) := by decide +kernel
theorem dX11_follows_50 : decode cX11_follows 50 = .ok (.ifCond .eq 7, 3) := by decide +kernel
theorem dX11_follows_53 : decode cX11_follows 53 = .ok (.iconst 1, 1) := by decide +kernel
theorem dX11_follows_54 : decode cX11_follows 54 = .ok (.goto 4, 3) := by decide +kernel
theorem dX11_follows_57 : decode cX11_follows 57 = .ok (.iconst 0, 1) := by decide +kernel
theorem dX11_follows_58 : decode cX11_follows 58 = .ok (.ireturn, 1) := by decide +kernel
theorem dX11_lighter_0 : decode cX11_lighter 0 = .ok (.aload_n 0, 1) := by decide +kernel
theorem dX11_lighter_1 : decode cX11_lighter 1 = .ok (.invokevirtual 228, 3) := by decide +kernel
theorem dX11_lighter_4 : decode cX11_lighter 4 = .ok (.iload_n 1, 1) := by decide +kernel
theorem dX11_lighter_5 : decode cX11_lighter 5 = .ok (.iconst 0, 1) := by decide +kernel
theorem dX11_lighter_6 : decode cX11_lighter 6 = .ok (.aload_n 0, 1) := by decide +kernel
theorem dX11_lighter_7 : decode cX11_lighter 7 = .ok (.getfield 210, 3) := by decide +kernel
theorem dX11_lighter_10 : decode cX11_lighter 10 = .ok (.iconst 1, 1) := by decide +kernel
theorem dX11_lighter_11 : decode cX11_lighter 11 = .ok (.isub, 1) := by decide +kernel
theorem dX11_lighter_12 : decode cX11_lighter 12 = .ok (.invokestatic 96, 3) := by decide +kernel
theorem dX11_lighter_15 : decode cX11_lighter 15 = .ok (.ifCond .eq 11, 3) := by decide +kernel
theorem dX11_lighter_18 : decode cX11_lighter 18 = .ok (.aload_n 0, 1) := by decide +kernel
theorem dX11_lighter_19 : decode cX11_lighter 19 = .ok (.iload_n 1, 1) := by decide +kernel
theorem dX11_lighter_20 : decode cX11_lighter 20 = .ok (.invokevirtual 225, 3) := by decide +kernel
theorem dX11_lighter_23 : decode cX11_lighter 23 = .ok (.goto 9, 3) := by decide +kernel
theorem dX11_lighter_26 : decode cX11_lighter 26 = .ok (.aload_n 0, 1) := by decide +kernel
theorem dX11_lighter_27 : decode cX11_lighter 27 = .ok (.bipush (-2), 2) := by decide +kernel
theorem dX11_lighter_29 : decode cX11_lighter 29 = .ok (.invokevirtual 80, 3) := by decide +kernel
theorem dX11_lighter_32 : decode cX11_lighter 32 = .ok (.ireturn, 1) := by decide +kernel
theorem dX11_laysTerm_0 : decode cX11_laysTerm 0 = .ok (.aload_n 0, 1) := by decide +kernel
theorem dX11_laysTerm_1 : decode cX11_laysTerm 1 = .ok (.aload_n 0, 1) := by decide +kernel
theorem dX11_laysTerm_2 : decode cX11_laysTerm 2 = .ok (.getfield 7, 3) := by decide +kernel
theorem dX11_laysTerm_5 : decode cX11_laysTerm 5 = .ok (.sipush 131, 3) := by decide +kernel
theorem dX11_laysTerm_8 : decode cX11_laysTerm 8 = .ok (.iaload, 1) := by decide +kernel
theorem dX11_laysTerm_9 : decode cX11_laysTerm 9 = .ok (.putfield 237, 3) := by decide +kernel
theorem dX11_laysTerm_12 : decode cX11_laysTerm 12 = .ok (.iconst 0, 1) := by decide +kernel
theorem dX11_laysTerm_13 : decode cX11_laysTerm 13 = .ok (.istore_n 1, 1) := by decide +kernel
theorem dX11_laysTerm_14 : decode cX11_laysTerm 14 = .ok (.iload_n 1, 1) := by decide +kernel
theorem dX11_laysTerm_15 : decode cX11_laysTerm 15 = .ok (.aload_n 0, 1) := by decide +kernel
theorem dX11_laysTerm_16 : decode cX11_laysTerm 16 = .ok (.getfield 237, 3) := by decide +kernel
theorem dX11_laysTerm_19 : decode cX11_laysTerm 19 = .ok (.if_icmp .ge 25, 3) := by decide +kernel
theorem dX11_laysTerm_22 : decode cX11_laysTerm 22 = .ok (.aload_n 0, 1) := by decide +kernel
theorem dX11_laysTerm_23 : decode cX11_laysTerm 23 = .ok (.getfield 60, 3) := by decide +kernel
theorem dX11_laysTerm_26 : decode cX11_laysTerm 26 = .ok (.iload_n 1, 1) := by decide +kernel
theorem dX11_laysTerm_27 : decode cX11_laysTerm 27 = .ok (.aload_n 0, 1) := by decide +kernel
theorem dX11_laysTerm_28 : decode cX11_laysTerm 28 = .ok (.getfield 7, 3) := by decide +kernel
theorem dX11_laysTerm_31 : decode cX11_laysTerm 31 = .ok (.sipush 132, 3) := by decide +kernel
theorem dX11_laysTerm_34 : decode cX11_laysTerm 34 = .ok (.iload_n 1, 1) := by decide +kernel
theorem dX11_laysTerm_35 : decode cX11_laysTerm 35 = .ok (.iadd, 1) := by decide +kernel
theorem dX11_laysTerm_36 : decode cX11_laysTerm 36 = .ok (.iaload, 1) := by decide +kernel
theorem dX11_laysTerm_37 : decode cX11_laysTerm 37 = .ok (.iastore, 1) := by decide +kernel
theorem dX11_laysTerm_38 : decode cX11_laysTerm 38 = .ok (.iinc 1 1, 3) := by decide +kernel
theorem dX11_laysTerm_41 : decode cX11_laysTerm 41 = .ok (.goto (-27), 3) := by decide +kernel
theorem dX11_laysTerm_44 : decode cX11_laysTerm 44 = .ok (.return_, 1) := by decide +kernel
theorem dX11_binds_0 : decode cX11_binds 0 = .ok (.aload_n 0, 1) := by decide +kernel
theorem dX11_binds_1 : decode cX11_binds 1 = .ok (.getfield 60, 3) := by decide +kernel
theorem dX11_binds_4 : decode cX11_binds 4 = .ok (.iload_n 2, 1) := by decide +kernel
theorem dX11_binds_5 : decode cX11_binds 5 = .ok (.invokestatic 207, 3) := by decide +kernel
theorem dX11_binds_8 : decode cX11_binds 8 = .ok (.istore_n 3, 1) := by decide +kernel
theorem dX11_binds_9 : decode cX11_binds 9 = .ok (.aload_n 0, 1) := by decide +kernel
theorem dX11_binds_10 : decode cX11_binds 10 = .ok (.getfield 69, 3) := by decide +kernel
theorem dX11_binds_13 : decode cX11_binds 13 = .ok (.iload_n 1, 1) := by decide +kernel
theorem dX11_binds_14 : decode cX11_binds 14 = .ok (.iaload, 1) := by decide +kernel
theorem dX11_binds_15 : decode cX11_binds 15 = .ok (.ifCond .ne 19, 3) := by decide +kernel
theorem dX11_binds_18 : decode cX11_binds 18 = .ok (.aload_n 0, 1) := by decide +kernel
theorem dX11_binds_19 : decode cX11_binds 19 = .ok (.getfield 66, 3) := by decide +kernel
theorem dX11_binds_22 : decode cX11_binds 22 = .ok (.iload_n 1, 1) := by decide +kernel
theorem dX11_binds_23 : decode cX11_binds 23 = .ok (.iload_n 2, 1) := by decide +kernel
theorem dX11_binds_24 : decode cX11_binds 24 = .ok (.iastore, 1) := by decide +kernel
theorem dX11_binds_25 : decode cX11_binds 25 = .ok (.aload_n 0, 1) := by decide +kernel
theorem dX11_binds_26 : decode cX11_binds 26 = .ok (.getfield 69, 3) := by decide +kernel
theorem dX11_binds_29 : decode cX11_binds 29 = .ok (.iload_n 1, 1) := by decide +kernel
theorem dX11_binds_30 : decode cX11_binds 30 = .ok (.iload_n 3, 1) := by decide +kernel
theorem dX11_binds_31 : decode cX11_binds 31 = .ok (.iastore, 1) := by decide +kernel
theorem dX11_binds_32 : decode cX11_binds 32 = .ok (.iconst 1, 1) := by decide +kernel
theorem dX11_binds_33 : decode cX11_binds 33 = .ok (.ireturn, 1) := by decide +kernel
theorem dX11_binds_34 : decode cX11_binds 34 = .ok (.aload_n 0, 1) := by decide +kernel
theorem dX11_binds_35 : decode cX11_binds 35 = .ok (.getfield 69, 3) := by decide +kernel
theorem dX11_binds_38 : decode cX11_binds 38 = .ok (.iload_n 1, 1) := by decide +kernel
theorem dX11_binds_39 : decode cX11_binds 39 = .ok (.iaload, 1) := by decide +kernel
theorem dX11_binds_40 : decode cX11_binds 40 = .ok (.iload_n 3, 1) := by decide +kernel
theorem dX11_binds_41 : decode cX11_binds 41 = .ok (.if_icmp .ne 7, 3) := by decide +kernel
theorem dX11_binds_44 : decode cX11_binds 44 = .ok (.iconst 1, 1) := by decide +kernel
theorem dX11_binds_45 : decode cX11_binds 45 = .ok (.goto 4, 3) := by decide +kernel
theorem dX11_binds_48 : decode cX11_binds 48 = .ok (.iconst 0, 1) := by decide +kernel
theorem dX11_binds_49 : decode cX11_binds 49 = .ok (.istore 4, 2) := by decide +kernel
theorem dX11_binds_51 : decode cX11_binds 51 = .ok (.iconst 0, 1) := by decide +kernel
theorem dX11_binds_52 : decode cX11_binds 52 = .ok (.istore 5, 2) := by decide +kernel
theorem dX11_binds_54 : decode cX11_binds 54 = .ok (.iload 5, 2) := by decide +kernel
theorem dX11_binds_56 : decode cX11_binds 56 = .ok (.iload_n 3, 1) := by decide +kernel
theorem dX11_binds_57 : decode cX11_binds 57 = .ok (.if_icmp .ge 47, 3) := by decide +kernel
theorem dX11_binds_60 : decode cX11_binds 60 = .ok (.iload 4, 2) := by decide +kernel
theorem dX11_binds_62 : decode cX11_binds 62 = .ok (.ifCond .eq 42, 3) := by decide +kernel
theorem dX11_binds_65 : decode cX11_binds 65 = .ok (.aload_n 0, 1) := by decide +kernel
theorem dX11_binds_66 : decode cX11_binds 66 = .ok (.getfield 60, 3) := by decide +kernel
theorem dX11_binds_69 : decode cX11_binds 69 = .ok (.aload_n 0, 1) := by decide +kernel
theorem dX11_binds_70 : decode cX11_binds 70 = .ok (.getfield 66, 3) := by decide +kernel
theorem dX11_binds_73 : decode cX11_binds 73 = .ok (.iload_n 1, 1) := by decide +kernel
theorem dX11_binds_74 : decode cX11_binds 74 = .ok (.iaload, 1) := by decide +kernel
theorem dX11_binds_75 : decode cX11_binds 75 = .ok (.iload 5, 2) := by decide +kernel
theorem dX11_binds_77 : decode cX11_binds 77 = .ok (.iadd, 1) := by decide +kernel
theorem dX11_binds_78 : decode cX11_binds 78 = .ok (.iaload, 1) := by decide +kernel
theorem dX11_binds_79 : decode cX11_binds 79 = .ok (.aload_n 0, 1) := by decide +kernel
theorem dX11_binds_80 : decode cX11_binds 80 = .ok (.getfield 60, 3) := by decide +kernel
theorem dX11_binds_83 : decode cX11_binds 83 = .ok (.iload_n 2, 1) := by decide +kernel
theorem dX11_binds_84 : decode cX11_binds 84 = .ok (.iload 5, 2) := by decide +kernel
theorem dX11_binds_86 : decode cX11_binds 86 = .ok (.iadd, 1) := by decide +kernel
theorem dX11_binds_87 : decode cX11_binds 87 = .ok (.iaload, 1) := by decide +kernel
theorem dX11_binds_88 : decode cX11_binds 88 = .ok (.if_icmp .ne 7, 3) := by decide +kernel
theorem dX11_binds_91 : decode cX11_binds 91 = .ok (.iconst 1, 1) := by decide +kernel
theorem dX11_binds_92 : decode cX11_binds 92 = .ok (.goto 4, 3) := by decide +kernel
theorem dX11_binds_95 : decode cX11_binds 95 = .ok (.iconst 0, 1) := by decide +kernel
theorem dX11_binds_96 : decode cX11_binds 96 = .ok (.istore 4, 2) := by decide +kernel
theorem dX11_binds_98 : decode cX11_binds 98 = .ok (.iinc 5 1, 3) := by decide +kernel
theorem dX11_binds_101 : decode cX11_binds 101 = .ok (.goto (-47), 3) := by decide +kernel
theorem dX11_binds_104 : decode cX11_binds 104 = .ok (.iload 4, 2) := by decide +kernel
theorem dX11_binds_106 : decode cX11_binds 106 = .ok (.ireturn, 1) := by decide +kernel
theorem dX11_fits_0 : decode cX11_fits 0 = .ok (.aload_n 0, 1) := by decide +kernel
theorem dX11_fits_1 : decode cX11_fits 1 = .ok (.getfield 69, 3) := by decide +kernel
theorem dX11_fits_4 : decode cX11_fits 4 = .ok (.iconst 0, 1) := by decide +kernel
theorem dX11_fits_5 : decode cX11_fits 5 = .ok (.iconst 0, 1) := by decide +kernel
theorem dX11_fits_6 : decode cX11_fits 6 = .ok (.iastore, 1) := by decide +kernel
theorem dX11_fits_7 : decode cX11_fits 7 = .ok (.aload_n 0, 1) := by decide +kernel
theorem dX11_fits_8 : decode cX11_fits 8 = .ok (.getfield 69, 3) := by decide +kernel
theorem dX11_fits_11 : decode cX11_fits 11 = .ok (.iconst 1, 1) := by decide +kernel
theorem dX11_fits_12 : decode cX11_fits 12 = .ok (.iconst 0, 1) := by decide +kernel
theorem dX11_fits_13 : decode cX11_fits 13 = .ok (.iastore, 1) := by decide +kernel
theorem dX11_fits_14 : decode cX11_fits 14 = .ok (.iload_n 2, 1) := by decide +kernel
theorem dX11_fits_15 : decode cX11_fits 15 = .ok (.istore_n 3, 1) := by decide +kernel
theorem dX11_fits_16 : decode cX11_fits 16 = .ok (.iconst 0, 1) := by decide +kernel
theorem dX11_fits_17 : decode cX11_fits 17 = .ok (.istore 4, 2) := by decide +kernel
theorem dX11_fits_19 : decode cX11_fits 19 = .ok (.iload 4, 2) := by decide +kernel
theorem dX11_fits_21 : decode cX11_fits 21 = .ok (.aload_n 0, 1) := by decide +kernel
theorem dX11_fits_22 : decode cX11_fits 22 = .ok (.getfield 7, 3) := by decide +kernel
theorem dX11_fits_25 : decode cX11_fits 25 = .ok (.iload_n 1, 1) := by decide +kernel
theorem dX11_fits_26 : decode cX11_fits 26 = .ok (.invokestatic 158, 3) := by decide +kernel
theorem dX11_fits_29 : decode cX11_fits 29 = .ok (.if_icmp .ge 76, 3) := by decide +kernel
theorem dX11_fits_32 : decode cX11_fits 32 = .ok (.aload_n 0, 1) := by decide +kernel
theorem dX11_fits_33 : decode cX11_fits 33 = .ok (.getfield 7, 3) := by decide +kernel
theorem dX11_fits_36 : decode cX11_fits 36 = .ok (.iload_n 1, 1) := by decide +kernel
theorem dX11_fits_37 : decode cX11_fits 37 = .ok (.invokestatic 117, 3) := by decide +kernel
theorem dX11_fits_40 : decode cX11_fits 40 = .ok (.iload 4, 2) := by decide +kernel
theorem dX11_fits_42 : decode cX11_fits 42 = .ok (.iadd, 1) := by decide +kernel
theorem dX11_fits_43 : decode cX11_fits 43 = .ok (.iaload, 1) := by decide +kernel
theorem dX11_fits_44 : decode cX11_fits 44 = .ok (.istore 5, 2) := by decide +kernel
theorem dX11_fits_46 : decode cX11_fits 46 = .ok (.iload 5, 2) := by decide +kernel
theorem dX11_fits_48 : decode cX11_fits 48 = .ok (.invokestatic 100, 3) := by decide +kernel
theorem dX11_fits_51 : decode cX11_fits 51 = .ok (.ifCond .eq 32, 3) := by decide +kernel
theorem dX11_fits_54 : decode cX11_fits 54 = .ok (.aload_n 0, 1) := by decide +kernel
theorem dX11_fits_55 : decode cX11_fits 55 = .ok (.iload 5, 2) := by decide +kernel
theorem dX11_fits_57 : decode cX11_fits 57 = .ok (.bipush 120, 2) := by decide +kernel
theorem dX11_fits_59 : decode cX11_fits 59 = .ok (.isub, 1) := by decide +kernel
theorem dX11_fits_60 : decode cX11_fits 60 = .ok (.iload_n 3, 1) := by decide +kernel
theorem dX11_fits_61 : decode cX11_fits 61 = .ok (.invokevirtual 240, 3) := by decide +kernel
theorem dX11_fits_64 : decode cX11_fits 64 = .ok (.ifCond .ne 5, 3) := by decide +kernel
theorem dX11_fits_67 : decode cX11_fits 67 = .ok (.iconst 0, 1) := by decide +kernel
theorem dX11_fits_68 : decode cX11_fits 68 = .ok (.ireturn, 1) := by decide +kernel
theorem dX11_fits_69 : decode cX11_fits 69 = .ok (.iload_n 3, 1) := by decide +kernel
theorem dX11_fits_70 : decode cX11_fits 70 = .ok (.aload_n 0, 1) := by decide +kernel
theorem dX11_fits_71 : decode cX11_fits 71 = .ok (.getfield 60, 3) := by decide +kernel
theorem dX11_fits_74 : decode cX11_fits 74 = .ok (.iload_n 3, 1) := by decide +kernel
theorem dX11_fits_75 : decode cX11_fits 75 = .ok (.invokestatic 207, 3) := by decide +kernel
theorem dX11_fits_78 : decode cX11_fits 78 = .ok (.iadd, 1) := by decide +kernel
theorem dX11_fits_79 : decode cX11_fits 79 = .ok (.istore_n 3, 1) := by decide +kernel
theorem dX11_fits_80 : decode cX11_fits 80 = .ok (.goto 19, 3) := by decide +kernel
theorem dX11_fits_83 : decode cX11_fits 83 = .ok (.iload 5, 2) := by decide +kernel
theorem dX11_fits_85 : decode cX11_fits 85 = .ok (.aload_n 0, 1) := by decide +kernel
theorem dX11_fits_86 : decode cX11_fits 86 = .ok (.getfield 60, 3) := by decide +kernel
theorem dX11_fits_89 : decode cX11_fits 89 = .ok (.iload_n 3, 1) := by decide +kernel
theorem dX11_fits_90 : decode cX11_fits 90 = .ok (.iaload, 1) := by decide +kernel
theorem dX11_fits_91 : decode cX11_fits 91 = .ok (.if_icmp .eq 5, 3) := by decide +kernel
theorem dX11_fits_94 : decode cX11_fits 94 = .ok (.iconst 0, 1) := by decide +kernel
theorem dX11_fits_95 : decode cX11_fits 95 = .ok (.ireturn, 1) := by decide +kernel
theorem dX11_fits_96 : decode cX11_fits 96 = .ok (.iinc 3 1, 3) := by decide +kernel
theorem dX11_fits_99 : decode cX11_fits 99 = .ok (.iinc 4 1, 3) := by decide +kernel
theorem dX11_fits_102 : decode cX11_fits 102 = .ok (.goto (-83), 3) := by decide +kernel
theorem dX11_fits_105 : decode cX11_fits 105 = .ok (.iconst 1, 1) := by decide +kernel
theorem dX11_fits_106 : decode cX11_fits 106 = .ok (.ireturn, 1) := by decide +kernel
theorem dX11_ruleAt_0 : decode cX11_ruleAt 0 = .ok (.iconst 0, 1) := by decide +kernel
theorem dX11_ruleAt_1 : decode cX11_ruleAt 1 = .ok (.istore_n 2, 1) := by decide +kernel
theorem dX11_ruleAt_2 : decode cX11_ruleAt 2 = .ok (.iload_n 2, 1) := by decide +kernel
theorem dX11_ruleAt_3 : decode cX11_ruleAt 3 = .ok (.aload_n 0, 1) := by decide +kernel
theorem dX11_ruleAt_4 : decode cX11_ruleAt 4 = .ok (.getfield 7, 3) := by decide +kernel
theorem dX11_ruleAt_7 : decode cX11_ruleAt 7 = .ok (.iconst 0, 1) := by decide +kernel
theorem dX11_ruleAt_8 : decode cX11_ruleAt 8 = .ok (.iaload, 1) := by decide +kernel
theorem dX11_ruleAt_9 : decode cX11_ruleAt 9 = .ok (.if_icmp .ge 20, 3) := by decide +kernel
theorem dX11_ruleAt_12 : decode cX11_ruleAt 12 = .ok (.aload_n 0, 1) := by decide +kernel
theorem dX11_ruleAt_13 : decode cX11_ruleAt 13 = .ok (.iload_n 2, 1) := by decide +kernel
theorem dX11_ruleAt_14 : decode cX11_ruleAt 14 = .ok (.iload_n 1, 1) := by decide +kernel
theorem dX11_ruleAt_15 : decode cX11_ruleAt 15 = .ok (.invokevirtual 243, 3) := by decide +kernel
theorem dX11_ruleAt_18 : decode cX11_ruleAt 18 = .ok (.ifCond .eq 5, 3) := by decide +kernel
theorem dX11_ruleAt_21 : decode cX11_ruleAt 21 = .ok (.iload_n 2, 1) := by decide +kernel
theorem dX11_ruleAt_22 : decode cX11_ruleAt 22 = .ok (.ireturn, 1) := by decide +kernel
theorem dX11_ruleAt_23 : decode cX11_ruleAt 23 = .ok (.iinc 2 1, 3) := by decide +kernel
theorem dX11_ruleAt_26 : decode cX11_ruleAt 26 = .ok (.goto (-24), 3) := by decide +kernel
theorem dX11_ruleAt_29 : decode cX11_ruleAt 29 = .ok (.iconst (-1), 1) := by decide +kernel
theorem dX11_ruleAt_30 : decode cX11_ruleAt 30 = .ok (.ireturn, 1) := by decide +kernel
theorem dX11_findsTurn_0 : decode cX11_findsTurn 0 = .ok (.iconst 0, 1) := by decide +kernel
theorem dX11_findsTurn_1 : decode cX11_findsTurn 1 = .ok (.istore_n 1, 1) := by decide +kernel
theorem dX11_findsTurn_2 : decode cX11_findsTurn 2 = .ok (.iload_n 1, 1) := by decide +kernel
theorem dX11_findsTurn_3 : decode cX11_findsTurn 3 = .ok (.aload_n 0, 1) := by decide +kernel
theorem dX11_findsTurn_4 : decode cX11_findsTurn 4 = .ok (.getfield 237, 3) := by decide +kernel
theorem dX11_findsTurn_7 : decode cX11_findsTurn 7 = .ok (.if_icmp .ge 87, 3) := by decide +kernel
theorem dX11_findsTurn_10 : decode cX11_findsTurn 10 = .ok (.aload_n 0, 1) := by decide +kernel
theorem dX11_findsTurn_11 : decode cX11_findsTurn 11 = .ok (.aload_n 0, 1) := by decide +kernel
theorem dX11_findsTurn_12 : decode cX11_findsTurn 12 = .ok (.iload_n 1, 1) := by decide +kernel
theorem dX11_findsTurn_13 : decode cX11_findsTurn 13 = .ok (.invokevirtual 246, 3) := by decide +kernel
theorem dX11_findsTurn_16 : decode cX11_findsTurn 16 = .ok (.putfield 249, 3) := by decide +kernel
theorem dX11_findsTurn_19 : decode cX11_findsTurn 19 = .ok (.aload_n 0, 1) := by decide +kernel
theorem dX11_findsTurn_20 : decode cX11_findsTurn 20 = .ok (.getfield 249, 3) := by decide +kernel
theorem dX11_findsTurn_23 : decode cX11_findsTurn 23 = .ok (.iconst (-1), 1) := by decide +kernel
theorem dX11_findsTurn_24 : decode cX11_findsTurn 24 = .ok (.if_icmp .eq 64, 3) := by decide +kernel
theorem dX11_findsTurn_27 : decode cX11_findsTurn 27 = .ok (.iconst 0, 1) := by decide +kernel
theorem dX11_findsTurn_28 : decode cX11_findsTurn 28 = .ok (.istore_n 2, 1) := by decide +kernel
theorem dX11_findsTurn_29 : decode cX11_findsTurn 29 = .ok (.iload_n 1, 1) := by decide +kernel
theorem dX11_findsTurn_30 : decode cX11_findsTurn 30 = .ok (.aload_n 0, 1) := by decide +kernel
theorem dX11_findsTurn_31 : decode cX11_findsTurn 31 = .ok (.getfield 60, 3) := by decide +kernel
theorem dX11_findsTurn_34 : decode cX11_findsTurn 34 = .ok (.iload_n 1, 1) := by decide +kernel
theorem dX11_findsTurn_35 : decode cX11_findsTurn 35 = .ok (.invokestatic 207, 3) := by decide +kernel
theorem dX11_findsTurn_38 : decode cX11_findsTurn 38 = .ok (.iadd, 1) := by decide +kernel
theorem dX11_findsTurn_39 : decode cX11_findsTurn 39 = .ok (.istore_n 3, 1) := by decide +kernel
theorem dX11_findsTurn_40 : decode cX11_findsTurn 40 = .ok (.iload_n 1, 1) := by decide +kernel
theorem dX11_findsTurn_41 : decode cX11_findsTurn 41 = .ok (.iconst 1, 1) := by decide +kernel
theorem dX11_findsTurn_42 : decode cX11_findsTurn 42 = .ok (.iadd, 1) := by decide +kernel
theorem dX11_findsTurn_43 : decode cX11_findsTurn 43 = .ok (.istore 4, 2) := by decide +kernel
theorem dX11_findsTurn_45 : decode cX11_findsTurn 45 = .ok (.iload 4, 2) := by decide +kernel
theorem dX11_findsTurn_47 : decode cX11_findsTurn 47 = .ok (.iload_n 3, 1) := by decide +kernel
theorem dX11_findsTurn_48 : decode cX11_findsTurn 48 = .ok (.if_icmp .ge 29, 3) := by decide +kernel
theorem dX11_findsTurn_51 : decode cX11_findsTurn 51 = .ok (.iload_n 2, 1) := by decide +kernel
theorem dX11_findsTurn_52 : decode cX11_findsTurn 52 = .ok (.ifCond .ne 13, 3) := by decide +kernel
theorem dX11_findsTurn_55 : decode cX11_findsTurn 55 = .ok (.aload_n 0, 1) := by decide +kernel
theorem dX11_findsTurn_56 : decode cX11_findsTurn 56 = .ok (.iload 4, 2) := by decide +kernel
theorem dX11_findsTurn_58 : decode cX11_findsTurn 58 = .ok (.invokevirtual 246, 3) := by decide +kernel
theorem dX11_findsTurn_61 : decode cX11_findsTurn 61 = .ok (.iconst (-1), 1) := by decide +kernel
theorem dX11_findsTurn_62 : decode cX11_findsTurn 62 = .ok (.if_icmp .eq 7, 3) := by decide +kernel
theorem dX11_findsTurn_65 : decode cX11_findsTurn 65 = .ok (.iconst 1, 1) := by decide +kernel
theorem dX11_findsTurn_66 : decode cX11_findsTurn 66 = .ok (.goto 4, 3) := by decide +kernel
theorem dX11_findsTurn_69 : decode cX11_findsTurn 69 = .ok (.iconst 0, 1) := by decide +kernel
theorem dX11_findsTurn_70 : decode cX11_findsTurn 70 = .ok (.istore_n 2, 1) := by decide +kernel
theorem dX11_findsTurn_71 : decode cX11_findsTurn 71 = .ok (.iinc 4 1, 3) := by decide +kernel
theorem dX11_findsTurn_74 : decode cX11_findsTurn 74 = .ok (.goto (-29), 3) := by decide +kernel
theorem dX11_findsTurn_77 : decode cX11_findsTurn 77 = .ok (.iload_n 2, 1) := by decide +kernel
theorem dX11_findsTurn_78 : decode cX11_findsTurn 78 = .ok (.ifCond .ne 10, 3) := by decide +kernel
theorem dX11_findsTurn_81 : decode cX11_findsTurn 81 = .ok (.aload_n 0, 1) := by decide +kernel
theorem dX11_findsTurn_82 : decode cX11_findsTurn 82 = .ok (.iload_n 1, 1) := by decide +kernel
theorem dX11_findsTurn_83 : decode cX11_findsTurn 83 = .ok (.putfield 252, 3) := by decide +kernel
theorem dX11_findsTurn_86 : decode cX11_findsTurn 86 = .ok (.iconst 1, 1) := by decide +kernel
theorem dX11_findsTurn_87 : decode cX11_findsTurn 87 = .ok (.ireturn, 1) := by decide +kernel
theorem dX11_findsTurn_88 : decode cX11_findsTurn 88 = .ok (.iinc 1 1, 3) := by decide +kernel
theorem dX11_findsTurn_91 : decode cX11_findsTurn 91 = .ok (.goto (-89), 3) := by decide +kernel
theorem dX11_findsTurn_94 : decode cX11_findsTurn 94 = .ok (.aload_n 0, 1) := by decide +kernel
theorem dX11_findsTurn_95 : decode cX11_findsTurn 95 = .ok (.iconst (-1), 1) := by decide +kernel
theorem dX11_findsTurn_96 : decode cX11_findsTurn 96 = .ok (.putfield 249, 3) := by decide +kernel
theorem dX11_findsTurn_99 : decode cX11_findsTurn 99 = .ok (.iconst 0, 1) := by decide +kernel
theorem dX11_findsTurn_100 : decode cX11_findsTurn 100 = .ok (.ireturn, 1) := by decide +kernel
theorem dX11_makes_0 : decode cX11_makes 0 = .ok (.iconst 0, 1) := by decide +kernel
theorem dX11_makes_1 : decode cX11_makes 1 = .ok (.istore_n 3, 1) := by decide +kernel
theorem dX11_makes_2 : decode cX11_makes 2 = .ok (.iload_n 3, 1) := by decide +kernel
theorem dX11_makes_3 : decode cX11_makes 3 = .ok (.iload_n 2, 1) := by decide +kernel
theorem dX11_makes_4 : decode cX11_makes 4 = .ok (.if_icmp .ge 46, 3) := by decide +kernel
theorem dX11_makes_7 : decode cX11_makes 7 = .ok (.aload_n 0, 1) := by decide +kernel
theorem dX11_makes_8 : decode cX11_makes 8 = .ok (.getfield 255, 3) := by decide +kernel
theorem dX11_makes_11 : decode cX11_makes 11 = .ok (.sipush 200, 3) := by decide +kernel
theorem dX11_makes_14 : decode cX11_makes 14 = .ok (.if_icmp .ge 20, 3) := by decide +kernel
theorem dX11_makes_17 : decode cX11_makes 17 = .ok (.aload_n 0, 1) := by decide +kernel
theorem dX11_makes_18 : decode cX11_makes 18 = .ok (.getfield 63, 3) := by decide +kernel
theorem dX11_makes_21 : decode cX11_makes 21 = .ok (.aload_n 0, 1) := by decide +kernel
theorem dX11_makes_22 : decode cX11_makes 22 = .ok (.getfield 255, 3) := by decide +kernel
theorem dX11_makes_25 : decode cX11_makes 25 = .ok (.aload_n 0, 1) := by decide +kernel
theorem dX11_makes_26 : decode cX11_makes 26 = .ok (.getfield 60, 3) := by decide +kernel
theorem dX11_makes_29 : decode cX11_makes 29 = .ok (.iload_n 1, 1) := by decide +kernel
theorem dX11_makes_30 : decode cX11_makes 30 = .ok (.iload_n 3, 1) := by decide +kernel
theorem dX11_makes_31 : decode cX11_makes 31 = .ok (.iadd, 1) := by decide +kernel
theorem dX11_makes_32 : decode cX11_makes 32 = .ok (.iaload, 1) := by decide +kernel
theorem dX11_makes_33 : decode cX11_makes 33 = .ok (.iastore, 1) := by decide +kernel
theorem dX11_makes_34 : decode cX11_makes 34 = .ok (.aload_n 0, 1) := by decide +kernel
theorem dX11_makes_35 : decode cX11_makes 35 = .ok (.dup, 1) := by decide +kernel
theorem dX11_makes_36 : decode cX11_makes 36 = .ok (.getfield 255, 3) := by decide +kernel
theorem dX11_makes_39 : decode cX11_makes 39 = .ok (.iconst 1, 1) := by decide +kernel
theorem dX11_makes_40 : decode cX11_makes 40 = .ok (.iadd, 1) := by decide +kernel
theorem dX11_makes_41 : decode cX11_makes 41 = .ok (.putfield 255, 3) := by decide +kernel
theorem dX11_makes_44 : decode cX11_makes 44 = .ok (.iinc 3 1, 3) := by decide +kernel
theorem dX11_makes_47 : decode cX11_makes 47 = .ok (.goto (-45), 3) := by decide +kernel
theorem dX11_makes_50 : decode cX11_makes 50 = .ok (.return_, 1) := by decide +kernel
theorem dX11_doesTurn_0 : decode cX11_doesTurn 0 = .ok (.aload_n 0, 1) := by decide +kernel
theorem dX11_doesTurn_1 : decode cX11_doesTurn 1 = .ok (.aload_n 0, 1) := by decide +kernel
theorem dX11_doesTurn_2 : decode cX11_doesTurn 2 = .ok (.getfield 249, 3) := by decide +kernel
theorem dX11_doesTurn_5 : decode cX11_doesTurn 5 = .ok (.aload_n 0, 1) := by decide +kernel
theorem dX11_doesTurn_6 : decode cX11_doesTurn 6 = .ok (.getfield 252, 3) := by decide +kernel
theorem dX11_doesTurn_9 : decode cX11_doesTurn 9 = .ok (.invokevirtual 243, 3) := by decide +kernel
theorem dX11_doesTurn_12 : decode cX11_doesTurn 12 = .ok (.istore_n 1, 1) := by decide +kernel
theorem dX11_doesTurn_13 : decode cX11_doesTurn 13 = .ok (.aload_n 0, 1) := by decide +kernel
theorem dX11_doesTurn_14 : decode cX11_doesTurn 14 = .ok (.iconst 0, 1) := by decide +kernel
theorem dX11_doesTurn_15 : decode cX11_doesTurn 15 = .ok (.putfield 255, 3) := by decide +kernel
theorem dX11_doesTurn_18 : decode cX11_doesTurn 18 = .ok (.aload_n 0, 1) := by decide +kernel
theorem dX11_doesTurn_19 : decode cX11_doesTurn 19 = .ok (.iconst 0, 1) := by decide +kernel
theorem dX11_doesTurn_20 : decode cX11_doesTurn 20 = .ok (.aload_n 0, 1) := by decide +kernel
theorem dX11_doesTurn_21 : decode cX11_doesTurn 21 = .ok (.getfield 252, 3) := by decide +kernel
theorem dX11_doesTurn_24 : decode cX11_doesTurn 24 = .ok (.invokevirtual 258, 3) := by decide +kernel
theorem dX11_doesTurn_27 : decode cX11_doesTurn 27 = .ok (.iconst 0, 1) := by decide +kernel
theorem dX11_doesTurn_28 : decode cX11_doesTurn 28 = .ok (.istore_n 2, 1) := by decide +kernel
theorem dX11_doesTurn_29 : decode cX11_doesTurn 29 = .ok (.iload_n 2, 1) := by decide +kernel
theorem dX11_doesTurn_30 : decode cX11_doesTurn 30 = .ok (.aload_n 0, 1) := by decide +kernel
theorem dX11_doesTurn_31 : decode cX11_doesTurn 31 = .ok (.getfield 7, 3) := by decide +kernel
theorem dX11_doesTurn_34 : decode cX11_doesTurn 34 = .ok (.aload_n 0, 1) := by decide +kernel
theorem dX11_doesTurn_35 : decode cX11_doesTurn 35 = .ok (.getfield 249, 3) := by decide +kernel
theorem dX11_doesTurn_38 : decode cX11_doesTurn 38 = .ok (.invokestatic 162, 3) := by decide +kernel
theorem dX11_doesTurn_41 : decode cX11_doesTurn 41 = .ok (.if_icmp .ge 86, 3) := by decide +kernel
theorem dX11_doesTurn_44 : decode cX11_doesTurn 44 = .ok (.aload_n 0, 1) := by decide +kernel
theorem dX11_doesTurn_45 : decode cX11_doesTurn 45 = .ok (.getfield 7, 3) := by decide +kernel
theorem dX11_doesTurn_48 : decode cX11_doesTurn 48 = .ok (.aload_n 0, 1) := by decide +kernel
theorem dX11_doesTurn_49 : decode cX11_doesTurn 49 = .ok (.getfield 249, 3) := by decide +kernel
theorem dX11_doesTurn_52 : decode cX11_doesTurn 52 = .ok (.invokestatic 127, 3) := by decide +kernel
theorem dX11_doesTurn_55 : decode cX11_doesTurn 55 = .ok (.iload_n 2, 1) := by decide +kernel
theorem dX11_doesTurn_56 : decode cX11_doesTurn 56 = .ok (.iadd, 1) := by decide +kernel
theorem dX11_doesTurn_57 : decode cX11_doesTurn 57 = .ok (.iaload, 1) := by decide +kernel
theorem dX11_doesTurn_58 : decode cX11_doesTurn 58 = .ok (.istore_n 3, 1) := by decide +kernel
theorem dX11_doesTurn_59 : decode cX11_doesTurn 59 = .ok (.iload_n 3, 1) := by decide +kernel
theorem dX11_doesTurn_60 : decode cX11_doesTurn 60 = .ok (.invokestatic 100, 3) := by decide +kernel
theorem dX11_doesTurn_63 : decode cX11_doesTurn 63 = .ok (.ifCond .eq 28, 3) := by decide +kernel
theorem dX11_doesTurn_66 : decode cX11_doesTurn 66 = .ok (.aload_n 0, 1) := by decide +kernel
theorem dX11_doesTurn_67 : decode cX11_doesTurn 67 = .ok (.aload_n 0, 1) := by decide +kernel
theorem dX11_doesTurn_68 : decode cX11_doesTurn 68 = .ok (.getfield 66, 3) := by decide +kernel
theorem dX11_doesTurn_71 : decode cX11_doesTurn 71 = .ok (.iload_n 3, 1) := by decide +kernel
theorem dX11_doesTurn_72 : decode cX11_doesTurn 72 = .ok (.bipush 120, 2) := by decide +kernel
theorem dX11_doesTurn_74 : decode cX11_doesTurn 74 = .ok (.isub, 1) := by decide +kernel
theorem dX11_doesTurn_75 : decode cX11_doesTurn 75 = .ok (.iaload, 1) := by decide +kernel
theorem dX11_doesTurn_76 : decode cX11_doesTurn 76 = .ok (.aload_n 0, 1) := by decide +kernel
theorem dX11_doesTurn_77 : decode cX11_doesTurn 77 = .ok (.getfield 69, 3) := by decide +kernel
theorem dX11_doesTurn_80 : decode cX11_doesTurn 80 = .ok (.iload_n 3, 1) := by decide +kernel
theorem dX11_doesTurn_81 : decode cX11_doesTurn 81 = .ok (.bipush 120, 2) := by decide +kernel
theorem dX11_doesTurn_83 : decode cX11_doesTurn 83 = .ok (.isub, 1) := by decide +kernel
theorem dX11_doesTurn_84 : decode cX11_doesTurn 84 = .ok (.iaload, 1) := by decide +kernel
theorem dX11_doesTurn_85 : decode cX11_doesTurn 85 = .ok (.invokevirtual 258, 3) := by decide +kernel
theorem dX11_doesTurn_88 : decode cX11_doesTurn 88 = .ok (.goto 33, 3) := by decide +kernel
theorem dX11_doesTurn_91 : decode cX11_doesTurn 91 = .ok (.aload_n 0, 1) := by decide +kernel
theorem dX11_doesTurn_92 : decode cX11_doesTurn 92 = .ok (.getfield 255, 3) := by decide +kernel
theorem dX11_doesTurn_95 : decode cX11_doesTurn 95 = .ok (.sipush 200, 3) := by decide +kernel
theorem dX11_doesTurn_98 : decode cX11_doesTurn 98 = .ok (.if_icmp .ge 13, 3) := by decide +kernel
theorem dX11_doesTurn_101 : decode cX11_doesTurn 101 = .ok (.aload_n 0, 1) := by decide +kernel
theorem dX11_doesTurn_102 : decode cX11_doesTurn 102 = .ok (.getfield 63, 3) := by decide +kernel
theorem dX11_doesTurn_105 : decode cX11_doesTurn 105 = .ok (.aload_n 0, 1) := by decide +kernel
theorem dX11_doesTurn_106 : decode cX11_doesTurn 106 = .ok (.getfield 255, 3) := by decide +kernel
theorem dX11_doesTurn_109 : decode cX11_doesTurn 109 = .ok (.iload_n 3, 1) := by decide +kernel
theorem dX11_doesTurn_110 : decode cX11_doesTurn 110 = .ok (.iastore, 1) := by decide +kernel
theorem dX11_doesTurn_111 : decode cX11_doesTurn 111 = .ok (.aload_n 0, 1) := by decide +kernel
theorem dX11_doesTurn_112 : decode cX11_doesTurn 112 = .ok (.dup, 1) := by decide +kernel
theorem dX11_doesTurn_113 : decode cX11_doesTurn 113 = .ok (.getfield 255, 3) := by decide +kernel
theorem dX11_doesTurn_116 : decode cX11_doesTurn 116 = .ok (.iconst 1, 1) := by decide +kernel
theorem dX11_doesTurn_117 : decode cX11_doesTurn 117 = .ok (.iadd, 1) := by decide +kernel
theorem dX11_doesTurn_118 : decode cX11_doesTurn 118 = .ok (.putfield 255, 3) := by decide +kernel
theorem dX11_doesTurn_121 : decode cX11_doesTurn 121 = .ok (.iinc 2 1, 3) := by decide +kernel
theorem dX11_doesTurn_124 : decode cX11_doesTurn 124 = .ok (.goto (-95), 3) := by decide +kernel
theorem dX11_doesTurn_127 : decode cX11_doesTurn 127 = .ok (.aload_n 0, 1) := by decide +kernel
theorem dX11_doesTurn_128 : decode cX11_doesTurn 128 = .ok (.getfield 252, 3) := by decide +kernel
theorem dX11_doesTurn_131 : decode cX11_doesTurn 131 = .ok (.aload_n 0, 1) := by decide +kernel
theorem dX11_doesTurn_132 : decode cX11_doesTurn 132 = .ok (.getfield 60, 3) := by decide +kernel
theorem dX11_doesTurn_135 : decode cX11_doesTurn 135 = .ok (.aload_n 0, 1) := by decide +kernel
theorem dX11_doesTurn_136 : decode cX11_doesTurn 136 = .ok (.getfield 252, 3) := by decide +kernel
theorem dX11_doesTurn_139 : decode cX11_doesTurn 139 = .ok (.invokestatic 207, 3) := by decide +kernel
theorem dX11_doesTurn_142 : decode cX11_doesTurn 142 = .ok (.iadd, 1) := by decide +kernel
theorem dX11_doesTurn_143 : decode cX11_doesTurn 143 = .ok (.istore_n 2, 1) := by decide +kernel
theorem dX11_doesTurn_144 : decode cX11_doesTurn 144 = .ok (.aload_n 0, 1) := by decide +kernel
theorem dX11_doesTurn_145 : decode cX11_doesTurn 145 = .ok (.iload_n 2, 1) := by decide +kernel
theorem dX11_doesTurn_146 : decode cX11_doesTurn 146 = .ok (.aload_n 0, 1) := by decide +kernel
theorem dX11_doesTurn_147 : decode cX11_doesTurn 147 = .ok (.getfield 237, 3) := by decide +kernel
theorem dX11_doesTurn_150 : decode cX11_doesTurn 150 = .ok (.iload_n 2, 1) := by decide +kernel
theorem dX11_doesTurn_151 : decode cX11_doesTurn 151 = .ok (.isub, 1) := by decide +kernel
theorem dX11_doesTurn_152 : decode cX11_doesTurn 152 = .ok (.invokevirtual 258, 3) := by decide +kernel
theorem dX11_doesTurn_155 : decode cX11_doesTurn 155 = .ok (.aload_n 0, 1) := by decide +kernel
theorem dX11_doesTurn_156 : decode cX11_doesTurn 156 = .ok (.getfield 255, 3) := by decide +kernel
theorem dX11_doesTurn_159 : decode cX11_doesTurn 159 = .ok (.bipush 60, 2) := by decide +kernel
theorem dX11_doesTurn_161 : decode cX11_doesTurn 161 = .ok (.if_icmp .le 5, 3) := by decide +kernel
theorem dX11_doesTurn_164 : decode cX11_doesTurn 164 = .ok (.iconst 0, 1) := by decide +kernel
theorem dX11_doesTurn_165 : decode cX11_doesTurn 165 = .ok (.ireturn, 1) := by decide +kernel
theorem dX11_doesTurn_166 : decode cX11_doesTurn 166 = .ok (.aload_n 0, 1) := by decide +kernel
theorem dX11_doesTurn_167 : decode cX11_doesTurn 167 = .ok (.aload_n 0, 1) := by decide +kernel
theorem dX11_doesTurn_168 : decode cX11_doesTurn 168 = .ok (.getfield 255, 3) := by decide +kernel
theorem dX11_doesTurn_171 : decode cX11_doesTurn 171 = .ok (.putfield 237, 3) := by decide +kernel
theorem dX11_doesTurn_174 : decode cX11_doesTurn 174 = .ok (.iconst 0, 1) := by decide +kernel
theorem dX11_doesTurn_175 : decode cX11_doesTurn 175 = .ok (.istore_n 3, 1) := by decide +kernel
theorem dX11_doesTurn_176 : decode cX11_doesTurn 176 = .ok (.iload_n 3, 1) := by decide +kernel
theorem dX11_doesTurn_177 : decode cX11_doesTurn 177 = .ok (.aload_n 0, 1) := by decide +kernel
theorem dX11_doesTurn_178 : decode cX11_doesTurn 178 = .ok (.getfield 255, 3) := by decide +kernel
theorem dX11_doesTurn_181 : decode cX11_doesTurn 181 = .ok (.if_icmp .ge 21, 3) := by decide +kernel
theorem dX11_doesTurn_184 : decode cX11_doesTurn 184 = .ok (.aload_n 0, 1) := by decide +kernel
theorem dX11_doesTurn_185 : decode cX11_doesTurn 185 = .ok (.getfield 60, 3) := by decide +kernel
theorem dX11_doesTurn_188 : decode cX11_doesTurn 188 = .ok (.iload_n 3, 1) := by decide +kernel
theorem dX11_doesTurn_189 : decode cX11_doesTurn 189 = .ok (.aload_n 0, 1) := by decide +kernel
theorem dX11_doesTurn_190 : decode cX11_doesTurn 190 = .ok (.getfield 63, 3) := by decide +kernel
theorem dX11_doesTurn_193 : decode cX11_doesTurn 193 = .ok (.iload_n 3, 1) := by decide +kernel
theorem dX11_doesTurn_194 : decode cX11_doesTurn 194 = .ok (.iaload, 1) := by decide +kernel
theorem dX11_doesTurn_195 : decode cX11_doesTurn 195 = .ok (.iastore, 1) := by decide +kernel
theorem dX11_doesTurn_196 : decode cX11_doesTurn 196 = .ok (.iinc 3 1, 3) := by decide +kernel
theorem dX11_doesTurn_199 : decode cX11_doesTurn 199 = .ok (.goto (-23), 3) := by decide +kernel
theorem dX11_doesTurn_202 : decode cX11_doesTurn 202 = .ok (.iconst 1, 1) := by decide +kernel
theorem dX11_doesTurn_203 : decode cX11_doesTurn 203 = .ok (.ireturn, 1) := by decide +kernel
theorem dX11_turns_0 : decode cX11_turns 0 = .ok (.iload_n 1, 1) := by decide +kernel
theorem dX11_turns_1 : decode cX11_turns 1 = .ok (.iconst 0, 1) := by decide +kernel
theorem dX11_turns_2 : decode cX11_turns 2 = .ok (.bipush 30, 2) := by decide +kernel
theorem dX11_turns_4 : decode cX11_turns 4 = .ok (.invokestatic 96, 3) := by decide +kernel
theorem dX11_turns_7 : decode cX11_turns 7 = .ok (.ifCond .ne 10, 3) := by decide +kernel
theorem dX11_turns_10 : decode cX11_turns 10 = .ok (.aload_n 0, 1) := by decide +kernel
theorem dX11_turns_11 : decode cX11_turns 11 = .ok (.bipush (-2), 2) := by decide +kernel
theorem dX11_turns_13 : decode cX11_turns 13 = .ok (.invokevirtual 80, 3) := by decide +kernel
theorem dX11_turns_16 : decode cX11_turns 16 = .ok (.ireturn, 1) := by decide +kernel
theorem dX11_turns_17 : decode cX11_turns 17 = .ok (.aload_n 0, 1) := by decide +kernel
theorem dX11_turns_18 : decode cX11_turns 18 = .ok (.invokevirtual 142, 3) := by decide +kernel
theorem dX11_turns_21 : decode cX11_turns 21 = .ok (.aload_n 0, 1) := by decide +kernel
theorem dX11_turns_22 : decode cX11_turns 22 = .ok (.invokevirtual 261, 3) := by decide +kernel
theorem dX11_turns_25 : decode cX11_turns 25 = .ok (.iconst 0, 1) := by decide +kernel
theorem dX11_turns_26 : decode cX11_turns 26 = .ok (.istore_n 2, 1) := by decide +kernel
theorem dX11_turns_27 : decode cX11_turns 27 = .ok (.iload_n 2, 1) := by decide +kernel
theorem dX11_turns_28 : decode cX11_turns 28 = .ok (.iload_n 1, 1) := by decide +kernel
theorem dX11_turns_29 : decode cX11_turns 29 = .ok (.if_icmp .ge 23, 3) := by decide +kernel
theorem dX11_turns_32 : decode cX11_turns 32 = .ok (.aload_n 0, 1) := by decide +kernel
theorem dX11_turns_33 : decode cX11_turns 33 = .ok (.invokevirtual 264, 3) := by decide +kernel
theorem dX11_turns_36 : decode cX11_turns 36 = .ok (.ifCond .eq 16, 3) := by decide +kernel
theorem dX11_turns_39 : decode cX11_turns 39 = .ok (.aload_n 0, 1) := by decide +kernel
theorem dX11_turns_40 : decode cX11_turns 40 = .ok (.invokevirtual 267, 3) := by decide +kernel
theorem dX11_turns_43 : decode cX11_turns 43 = .ok (.ifCond .eq 9, 3) := by decide +kernel
theorem dX11_turns_46 : decode cX11_turns 46 = .ok (.iinc 2 1, 3) := by decide +kernel
theorem dX11_turns_49 : decode cX11_turns 49 = .ok (.goto (-22), 3) := by decide +kernel
theorem dX11_turns_52 : decode cX11_turns 52 = .ok (.aload_n 0, 1) := by decide +kernel
theorem dX11_turns_53 : decode cX11_turns 53 = .ok (.getfield 7, 3) := by decide +kernel
theorem dX11_turns_56 : decode cX11_turns 56 = .ok (.sipush 131, 3) := by decide +kernel
theorem dX11_turns_59 : decode cX11_turns 59 = .ok (.aload_n 0, 1) := by decide +kernel
theorem dX11_turns_60 : decode cX11_turns 60 = .ok (.getfield 237, 3) := by decide +kernel
theorem dX11_turns_63 : decode cX11_turns 63 = .ok (.iastore, 1) := by decide +kernel
theorem dX11_turns_64 : decode cX11_turns 64 = .ok (.iconst 0, 1) := by decide +kernel
theorem dX11_turns_65 : decode cX11_turns 65 = .ok (.istore_n 3, 1) := by decide +kernel
theorem dX11_turns_66 : decode cX11_turns 66 = .ok (.iload_n 3, 1) := by decide +kernel
theorem dX11_turns_67 : decode cX11_turns 67 = .ok (.bipush 60, 2) := by decide +kernel
theorem dX11_turns_69 : decode cX11_turns 69 = .ok (.if_icmp .ge 37, 3) := by decide +kernel
theorem dX11_turns_72 : decode cX11_turns 72 = .ok (.aload_n 0, 1) := by decide +kernel
theorem dX11_turns_73 : decode cX11_turns 73 = .ok (.getfield 7, 3) := by decide +kernel
theorem dX11_turns_76 : decode cX11_turns 76 = .ok (.sipush 132, 3) := by decide +kernel
theorem dX11_turns_79 : decode cX11_turns 79 = .ok (.iload_n 3, 1) := by decide +kernel
theorem dX11_turns_80 : decode cX11_turns 80 = .ok (.iadd, 1) := by decide +kernel
theorem dX11_turns_81 : decode cX11_turns 81 = .ok (.iload_n 3, 1) := by decide +kernel
theorem dX11_turns_82 : decode cX11_turns 82 = .ok (.aload_n 0, 1) := by decide +kernel
theorem dX11_turns_83 : decode cX11_turns 83 = .ok (.getfield 237, 3) := by decide +kernel
theorem dX11_turns_86 : decode cX11_turns 86 = .ok (.if_icmp .ge 12, 3) := by decide +kernel
theorem dX11_turns_89 : decode cX11_turns 89 = .ok (.aload_n 0, 1) := by decide +kernel
theorem dX11_turns_90 : decode cX11_turns 90 = .ok (.getfield 60, 3) := by decide +kernel
theorem dX11_turns_93 : decode cX11_turns 93 = .ok (.iload_n 3, 1) := by decide +kernel
theorem dX11_turns_94 : decode cX11_turns 94 = .ok (.iaload, 1) := by decide +kernel
theorem dX11_turns_95 : decode cX11_turns 95 = .ok (.goto 4, 3) := by decide +kernel
theorem dX11_turns_98 : decode cX11_turns 98 = .ok (.iconst 0, 1) := by decide +kernel
theorem dX11_turns_99 : decode cX11_turns 99 = .ok (.iastore, 1) := by decide +kernel
theorem dX11_turns_100 : decode cX11_turns 100 = .ok (.iinc 3 1, 3) := by decide +kernel
theorem dX11_turns_103 : decode cX11_turns 103 = .ok (.goto (-37), 3) := by decide +kernel
theorem dX11_turns_106 : decode cX11_turns 106 = .ok (.iload_n 2, 1) := by decide +kernel
theorem dX11_turns_107 : decode cX11_turns 107 = .ok (.ireturn, 1) := by decide +kernel
theorem dX11_settled_0 : decode cX11_settled 0 = .ok (.aload_n 0, 1) := by decide +kernel
theorem dX11_settled_1 : decode cX11_settled 1 = .ok (.invokevirtual 261, 3) := by decide +kernel
theorem dX11_settled_4 : decode cX11_settled 4 = .ok (.iconst 0, 1) := by decide +kernel
theorem dX11_settled_5 : decode cX11_settled 5 = .ok (.istore_n 1, 1) := by decide +kernel
theorem dX11_settled_6 : decode cX11_settled 6 = .ok (.iload_n 1, 1) := by decide +kernel
theorem dX11_settled_7 : decode cX11_settled 7 = .ok (.bipush 30, 2) := by decide +kernel
theorem dX11_settled_9 : decode cX11_settled 9 = .ok (.if_icmp .gt 33, 3) := by decide +kernel
theorem dX11_settled_12 : decode cX11_settled 12 = .ok (.aload_n 0, 1) := by decide +kernel
theorem dX11_settled_13 : decode cX11_settled 13 = .ok (.invokevirtual 264, 3) := by decide +kernel
theorem dX11_settled_16 : decode cX11_settled 16 = .ok (.ifCond .ne 5, 3) := by decide +kernel
theorem dX11_settled_19 : decode cX11_settled 19 = .ok (.iload_n 1, 1) := by decide +kernel
theorem dX11_settled_20 : decode cX11_settled 20 = .ok (.ireturn, 1) := by decide +kernel
theorem dX11_settled_21 : decode cX11_settled 21 = .ok (.iload_n 1, 1) := by decide +kernel
theorem dX11_settled_22 : decode cX11_settled 22 = .ok (.bipush 30, 2) := by decide +kernel
theorem dX11_settled_24 : decode cX11_settled 24 = .ok (.if_icmp .eq 10, 3) := by decide +kernel
theorem dX11_settled_27 : decode cX11_settled 27 = .ok (.aload_n 0, 1) := by decide +kernel
theorem dX11_settled_28 : decode cX11_settled 28 = .ok (.invokevirtual 267, 3) := by decide +kernel
theorem dX11_settled_31 : decode cX11_settled 31 = .ok (.ifCond .ne 5, 3) := by decide +kernel
theorem dX11_settled_34 : decode cX11_settled 34 = .ok (.iconst (-1), 1) := by decide +kernel
theorem dX11_settled_35 : decode cX11_settled 35 = .ok (.ireturn, 1) := by decide +kernel
theorem dX11_settled_36 : decode cX11_settled 36 = .ok (.iinc 1 1, 3) := by decide +kernel
theorem dX11_settled_39 : decode cX11_settled 39 = .ok (.goto (-33), 3) := by decide +kernel
theorem dX11_settled_42 : decode cX11_settled 42 = .ok (.iconst (-1), 1) := by decide +kernel
theorem dX11_settled_43 : decode cX11_settled 43 = .ok (.ireturn, 1) := by decide +kernel
theorem dX11_settles_0 : decode cX11_settles 0 = .ok (.aload_n 0, 1) := by decide +kernel
theorem dX11_settles_1 : decode cX11_settles 1 = .ok (.invokevirtual 270, 3) := by decide +kernel
theorem dX11_settles_4 : decode cX11_settles 4 = .ok (.ireturn, 1) := by decide +kernel
theorem dX11_nextOf_0 : decode cX11_nextOf 0 = .ok (.aload_n 0, 1) := by decide +kernel
theorem dX11_nextOf_1 : decode cX11_nextOf 1 = .ok (.invokevirtual 261, 3) := by decide +kernel
theorem dX11_nextOf_4 : decode cX11_nextOf 4 = .ok (.aload_n 0, 1) := by decide +kernel
theorem dX11_nextOf_5 : decode cX11_nextOf 5 = .ok (.invokevirtual 264, 3) := by decide +kernel
theorem dX11_nextOf_8 : decode cX11_nextOf 8 = .ok (.ifCond .ne 7, 3) := by decide +kernel
theorem dX11_nextOf_11 : decode cX11_nextOf 11 = .ok (.iconst (-1), 1) := by decide +kernel
theorem dX11_nextOf_12 : decode cX11_nextOf 12 = .ok (.goto 18, 3) := by decide +kernel
theorem dX11_nextOf_15 : decode cX11_nextOf 15 = .ok (.iload_n 1, 1) := by decide +kernel
theorem dX11_nextOf_16 : decode cX11_nextOf 16 = .ok (.ifCond .ne 10, 3) := by decide +kernel
theorem dX11_nextOf_19 : decode cX11_nextOf 19 = .ok (.aload_n 0, 1) := by decide +kernel
theorem dX11_nextOf_20 : decode cX11_nextOf 20 = .ok (.getfield 249, 3) := by decide +kernel
theorem dX11_nextOf_23 : decode cX11_nextOf 23 = .ok (.goto 7, 3) := by decide +kernel
theorem dX11_nextOf_26 : decode cX11_nextOf 26 = .ok (.aload_n 0, 1) := by decide +kernel
theorem dX11_nextOf_27 : decode cX11_nextOf 27 = .ok (.getfield 252, 3) := by decide +kernel
theorem dX11_nextOf_30 : decode cX11_nextOf 30 = .ok (.ireturn, 1) := by decide +kernel
theorem dX11_next_0 : decode cX11_next 0 = .ok (.iload_n 1, 1) := by decide +kernel
theorem dX11_next_1 : decode cX11_next 1 = .ok (.iconst 0, 1) := by decide +kernel
theorem dX11_next_2 : decode cX11_next 2 = .ok (.iconst 1, 1) := by decide +kernel
theorem dX11_next_3 : decode cX11_next 3 = .ok (.invokestatic 96, 3) := by decide +kernel
theorem dX11_next_6 : decode cX11_next 6 = .ok (.ifCond .eq 11, 3) := by decide +kernel
theorem dX11_next_9 : decode cX11_next 9 = .ok (.aload_n 0, 1) := by decide +kernel
theorem dX11_next_10 : decode cX11_next 10 = .ok (.iload_n 1, 1) := by decide +kernel
theorem dX11_next_11 : decode cX11_next 11 = .ok (.invokevirtual 273, 3) := by decide +kernel
theorem dX11_next_14 : decode cX11_next 14 = .ok (.goto 9, 3) := by decide +kernel
theorem dX11_next_17 : decode cX11_next 17 = .ok (.aload_n 0, 1) := by decide +kernel
theorem dX11_next_18 : decode cX11_next 18 = .ok (.bipush (-2), 2) := by decide +kernel
theorem dX11_next_20 : decode cX11_next 20 = .ok (.invokevirtual 80, 3) := by decide +kernel
theorem dX11_next_23 : decode cX11_next 23 = .ok (.ireturn, 1) := by decide +kernel
theorem dX11_letter_0 : decode cX11_letter 0 = .ok (.iload_n 1, 1) := by decide +kernel
theorem dX11_letter_1 : decode cX11_letter 1 = .ok (.iconst (-1), 1) := by decide +kernel
theorem dX11_letter_2 : decode cX11_letter 2 = .ok (.if_icmp .ge 10, 3) := by decide +kernel
theorem dX11_letter_5 : decode cX11_letter 5 = .ok (.aload_n 0, 1) := by decide +kernel
theorem dX11_letter_6 : decode cX11_letter 6 = .ok (.bipush (-2), 2) := by decide +kernel
theorem dX11_letter_8 : decode cX11_letter 8 = .ok (.invokevirtual 80, 3) := by decide +kernel
theorem dX11_letter_11 : decode cX11_letter 11 = .ok (.ireturn, 1) := by decide +kernel
theorem dX11_letter_12 : decode cX11_letter 12 = .ok (.iload_n 1, 1) := by decide +kernel
theorem dX11_letter_13 : decode cX11_letter 13 = .ok (.iconst (-1), 1) := by decide +kernel
theorem dX11_letter_14 : decode cX11_letter 14 = .ok (.if_icmp .ne 14, 3) := by decide +kernel
theorem dX11_letter_17 : decode cX11_letter 17 = .ok (.aload_n 0, 1) := by decide +kernel
theorem dX11_letter_18 : decode cX11_letter 18 = .ok (.getfield 7, 3) := by decide +kernel
theorem dX11_letter_21 : decode cX11_letter 21 = .ok (.sipush 131, 3) := by decide +kernel
theorem dX11_letter_24 : decode cX11_letter 24 = .ok (.iaload, 1) := by decide +kernel
theorem dX11_letter_25 : decode cX11_letter 25 = .ok (.goto 30, 3) := by decide +kernel
theorem dX11_letter_28 : decode cX11_letter 28 = .ok (.iload_n 1, 1) := by decide +kernel
theorem dX11_letter_29 : decode cX11_letter 29 = .ok (.aload_n 0, 1) := by decide +kernel
theorem dX11_letter_30 : decode cX11_letter 30 = .ok (.getfield 7, 3) := by decide +kernel
theorem dX11_letter_33 : decode cX11_letter 33 = .ok (.sipush 131, 3) := by decide +kernel
theorem dX11_letter_36 : decode cX11_letter 36 = .ok (.iaload, 1) := by decide +kernel
theorem dX11_letter_37 : decode cX11_letter 37 = .ok (.if_icmp .ge 16, 3) := by decide +kernel
theorem dX11_letter_40 : decode cX11_letter 40 = .ok (.aload_n 0, 1) := by decide +kernel
theorem dX11_letter_41 : decode cX11_letter 41 = .ok (.getfield 7, 3) := by decide +kernel
theorem dX11_letter_44 : decode cX11_letter 44 = .ok (.sipush 132, 3) := by decide +kernel
theorem dX11_letter_47 : decode cX11_letter 47 = .ok (.iload_n 1, 1) := by decide +kernel
theorem dX11_letter_48 : decode cX11_letter 48 = .ok (.iadd, 1) := by decide +kernel
theorem dX11_letter_49 : decode cX11_letter 49 = .ok (.iaload, 1) := by decide +kernel
theorem dX11_letter_50 : decode cX11_letter 50 = .ok (.goto 5, 3) := by decide +kernel
theorem dX11_letter_53 : decode cX11_letter 53 = .ok (.bipush (-5), 2) := by decide +kernel
theorem dX11_letter_55 : decode cX11_letter 55 = .ok (.ireturn, 1) := by decide +kernel
theorem dX11_toldOf_0 : decode cX11_toldOf 0 = .ok (.iload_n 1, 1) := by decide +kernel
theorem dX11_toldOf_1 : decode cX11_toldOf 1 = .ok (.tableswitch 57 3 6 #[31, 36, 43, 52], 31) := by decide +kernel
theorem dX11_toldOf_32 : decode cX11_toldOf 32 = .ok (.aload_n 0, 1) := by decide +kernel
theorem dX11_toldOf_33 : decode cX11_toldOf 33 = .ok (.getfield 93, 3) := by decide +kernel
theorem dX11_toldOf_36 : decode cX11_toldOf 36 = .ok (.ireturn, 1) := by decide +kernel
theorem dX11_toldOf_37 : decode cX11_toldOf 37 = .ok (.aload_n 0, 1) := by decide +kernel
theorem dX11_toldOf_38 : decode cX11_toldOf 38 = .ok (.getfield 7, 3) := by decide +kernel
theorem dX11_toldOf_41 : decode cX11_toldOf 41 = .ok (.iconst 0, 1) := by decide +kernel
theorem dX11_toldOf_42 : decode cX11_toldOf 42 = .ok (.iaload, 1) := by decide +kernel
theorem dX11_toldOf_43 : decode cX11_toldOf 43 = .ok (.ireturn, 1) := by decide +kernel
theorem dX11_toldOf_44 : decode cX11_toldOf 44 = .ok (.aload_n 0, 1) := by decide +kernel
theorem dX11_toldOf_45 : decode cX11_toldOf 45 = .ok (.getfield 7, 3) := by decide +kernel
theorem dX11_toldOf_48 : decode cX11_toldOf 48 = .ok (.sipush 131, 3) := by decide +kernel
theorem dX11_toldOf_51 : decode cX11_toldOf 51 = .ok (.iaload, 1) := by decide +kernel
theorem dX11_toldOf_52 : decode cX11_toldOf 52 = .ok (.ireturn, 1) := by decide +kernel
theorem dX11_toldOf_53 : decode cX11_toldOf 53 = .ok (.aload_n 0, 1) := by decide +kernel
theorem dX11_toldOf_54 : decode cX11_toldOf 54 = .ok (.getfield 72, 3) := by decide +kernel
theorem dX11_toldOf_57 : decode cX11_toldOf 57 = .ok (.ireturn, 1) := by decide +kernel
theorem dX11_toldOf_58 : decode cX11_toldOf 58 = .ok (.aload_n 0, 1) := by decide +kernel
theorem dX11_toldOf_59 : decode cX11_toldOf 59 = .ok (.getfield 19, 3) := by decide +kernel
theorem dX11_toldOf_62 : decode cX11_toldOf 62 = .ok (.iload_n 1, 1) := by decide +kernel
theorem dX11_toldOf_63 : decode cX11_toldOf 63 = .ok (.iaload, 1) := by decide +kernel
theorem dX11_toldOf_64 : decode cX11_toldOf 64 = .ok (.ireturn, 1) := by decide +kernel
theorem dX11_told_0 : decode cX11_told 0 = .ok (.iload_n 1, 1) := by decide +kernel
theorem dX11_told_1 : decode cX11_told 1 = .ok (.iconst 0, 1) := by decide +kernel
theorem dX11_told_2 : decode cX11_told 2 = .ok (.bipush 6, 2) := by decide +kernel
theorem dX11_told_4 : decode cX11_told 4 = .ok (.invokestatic 96, 3) := by decide +kernel
theorem dX11_told_7 : decode cX11_told 7 = .ok (.ifCond .eq 11, 3) := by decide +kernel
theorem dX11_told_10 : decode cX11_told 10 = .ok (.aload_n 0, 1) := by decide +kernel
theorem dX11_told_11 : decode cX11_told 11 = .ok (.iload_n 1, 1) := by decide +kernel
theorem dX11_told_12 : decode cX11_told 12 = .ok (.invokevirtual 276, 3) := by decide +kernel
theorem dX11_told_15 : decode cX11_told 15 = .ok (.goto 9, 3) := by decide +kernel
theorem dX11_told_18 : decode cX11_told 18 = .ok (.aload_n 0, 1) := by decide +kernel
theorem dX11_told_19 : decode cX11_told 19 = .ok (.bipush (-2), 2) := by decide +kernel
theorem dX11_told_21 : decode cX11_told 21 = .ok (.invokevirtual 80, 3) := by decide +kernel
theorem dX11_told_24 : decode cX11_told 24 = .ok (.ireturn, 1) := by decide +kernel
theorem dX11_mix_0 : decode cX11_mix 0 = .ok (.aload_n 0, 1) := by decide +kernel
theorem dX11_mix_1 : decode cX11_mix 1 = .ok (.ldc2_w 279, 3) := by decide +kernel
theorem dX11_mix_4 : decode cX11_mix 4 = .ok (.aload_n 0, 1) := by decide +kernel
theorem dX11_mix_5 : decode cX11_mix 5 = .ok (.getfield 281, 3) := by decide +kernel
theorem dX11_mix_8 : decode cX11_mix 8 = .ok (.lmul, 1) := by decide +kernel
theorem dX11_mix_9 : decode cX11_mix 9 = .ok (.lload_n 1, 1) := by decide +kernel
theorem dX11_mix_10 : decode cX11_mix 10 = .ok (.ladd, 1) := by decide +kernel
theorem dX11_mix_11 : decode cX11_mix 11 = .ok (.putfield 281, 3) := by decide +kernel
theorem dX11_mix_14 : decode cX11_mix 14 = .ok (.return_, 1) := by decide +kernel
theorem dX11_digest_0 : decode cX11_digest 0 = .ok (.aload_n 0, 1) := by decide +kernel
theorem dX11_digest_1 : decode cX11_digest 1 = .ok (.ldc2_w 285, 3) := by decide +kernel
theorem dX11_digest_4 : decode cX11_digest 4 = .ok (.putfield 281, 3) := by decide +kernel
theorem dX11_digest_7 : decode cX11_digest 7 = .ok (.iconst 0, 1) := by decide +kernel
theorem dX11_digest_8 : decode cX11_digest 8 = .ok (.istore_n 1, 1) := by decide +kernel
theorem dX11_digest_9 : decode cX11_digest 9 = .ok (.iload_n 1, 1) := by decide +kernel
theorem dX11_digest_10 : decode cX11_digest 10 = .ok (.bipush 7, 2) := by decide +kernel
theorem dX11_digest_12 : decode cX11_digest 12 = .ok (.if_icmp .ge 19, 3) := by decide +kernel
theorem dX11_digest_15 : decode cX11_digest 15 = .ok (.aload_n 0, 1) := by decide +kernel
theorem dX11_digest_16 : decode cX11_digest 16 = .ok (.aload_n 0, 1) := by decide +kernel
theorem dX11_digest_17 : decode cX11_digest 17 = .ok (.iload_n 1, 1) := by decide +kernel
theorem dX11_digest_18 : decode cX11_digest 18 = .ok (.invokevirtual 276, 3) := by decide +kernel
theorem dX11_digest_21 : decode cX11_digest 21 = .ok (.i2l, 1) := by decide +kernel
theorem dX11_digest_22 : decode cX11_digest 22 = .ok (.invokevirtual 287, 3) := by decide +kernel
theorem dX11_digest_25 : decode cX11_digest 25 = .ok (.iinc 1 1, 3) := by decide +kernel
theorem dX11_digest_28 : decode cX11_digest 28 = .ok (.goto (-19), 3) := by decide +kernel
theorem dX11_digest_31 : decode cX11_digest 31 = .ok (.iconst 0, 1) := by decide +kernel
theorem dX11_digest_32 : decode cX11_digest 32 = .ok (.istore_n 1, 1) := by decide +kernel
theorem dX11_digest_33 : decode cX11_digest 33 = .ok (.iload_n 1, 1) := by decide +kernel
theorem dX11_digest_34 : decode cX11_digest 34 = .ok (.aload_n 0, 1) := by decide +kernel
theorem dX11_digest_35 : decode cX11_digest 35 = .ok (.getfield 7, 3) := by decide +kernel
theorem dX11_digest_38 : decode cX11_digest 38 = .ok (.iconst 0, 1) := by decide +kernel
theorem dX11_digest_39 : decode cX11_digest 39 = .ok (.iaload, 1) := by decide +kernel
theorem dX11_digest_40 : decode cX11_digest 40 = .ok (.if_icmp .ge 53, 3) := by decide +kernel
theorem dX11_digest_43 : decode cX11_digest 43 = .ok (.iconst 0, 1) := by decide +kernel
theorem dX11_digest_44 : decode cX11_digest 44 = .ok (.istore_n 2, 1) := by decide +kernel
theorem dX11_digest_45 : decode cX11_digest 45 = .ok (.iload_n 2, 1) := by decide +kernel
theorem dX11_digest_46 : decode cX11_digest 46 = .ok (.bipush 6, 2) := by decide +kernel
theorem dX11_digest_48 : decode cX11_digest 48 = .ok (.if_icmp .ge 20, 3) := by decide +kernel
theorem dX11_digest_51 : decode cX11_digest 51 = .ok (.aload_n 0, 1) := by decide +kernel
theorem dX11_digest_52 : decode cX11_digest 52 = .ok (.aload_n 0, 1) := by decide +kernel
theorem dX11_digest_53 : decode cX11_digest 53 = .ok (.iload_n 1, 1) := by decide +kernel
theorem dX11_digest_54 : decode cX11_digest 54 = .ok (.iload_n 2, 1) := by decide +kernel
theorem dX11_digest_55 : decode cX11_digest 55 = .ok (.invokevirtual 168, 3) := by decide +kernel
theorem dX11_digest_58 : decode cX11_digest 58 = .ok (.i2l, 1) := by decide +kernel
theorem dX11_digest_59 : decode cX11_digest 59 = .ok (.invokevirtual 287, 3) := by decide +kernel
theorem dX11_digest_62 : decode cX11_digest 62 = .ok (.iinc 2 1, 3) := by decide +kernel
theorem dX11_digest_65 : decode cX11_digest 65 = .ok (.goto (-20), 3) := by decide +kernel
theorem dX11_digest_68 : decode cX11_digest 68 = .ok (.aload_n 0, 1) := by decide +kernel
theorem dX11_digest_69 : decode cX11_digest 69 = .ok (.ldc_w 291, 3) := by decide +kernel
theorem dX11_digest_72 : decode cX11_digest 72 = .ok (.iconst 3, 1) := by decide +kernel
theorem dX11_digest_73 : decode cX11_digest 73 = .ok (.invokevirtual 194, 3) := by decide +kernel
theorem dX11_digest_76 : decode cX11_digest 76 = .ok (.istore_n 2, 1) := by decide +kernel
theorem dX11_digest_77 : decode cX11_digest 77 = .ok (.aload_n 0, 1) := by decide +kernel
theorem dX11_digest_78 : decode cX11_digest 78 = .ok (.aload_n 0, 1) := by decide +kernel
theorem dX11_digest_79 : decode cX11_digest 79 = .ok (.iload_n 1, 1) := by decide +kernel
theorem dX11_digest_80 : decode cX11_digest 80 = .ok (.invokevirtual 191, 3) := by decide +kernel
theorem dX11_digest_83 : decode cX11_digest 83 = .ok (.i2l, 1) := by decide +kernel
theorem dX11_digest_84 : decode cX11_digest 84 = .ok (.invokevirtual 287, 3) := by decide +kernel
theorem dX11_digest_87 : decode cX11_digest 87 = .ok (.iinc 1 1, 3) := by decide +kernel
theorem dX11_digest_90 : decode cX11_digest 90 = .ok (.goto (-57), 3) := by decide +kernel
theorem dX11_digest_93 : decode cX11_digest 93 = .ok (.iconst 0, 1) := by decide +kernel
theorem dX11_digest_94 : decode cX11_digest 94 = .ok (.istore_n 1, 1) := by decide +kernel
theorem dX11_digest_95 : decode cX11_digest 95 = .ok (.iload_n 1, 1) := by decide +kernel
theorem dX11_digest_96 : decode cX11_digest 96 = .ok (.aload_n 0, 1) := by decide +kernel
theorem dX11_digest_97 : decode cX11_digest 97 = .ok (.getfield 7, 3) := by decide +kernel
theorem dX11_digest_100 : decode cX11_digest 100 = .ok (.sipush 131, 3) := by decide +kernel
theorem dX11_digest_103 : decode cX11_digest 103 = .ok (.iaload, 1) := by decide +kernel
theorem dX11_digest_104 : decode cX11_digest 104 = .ok (.if_icmp .ge 24, 3) := by decide +kernel
theorem dX11_digest_107 : decode cX11_digest 107 = .ok (.aload_n 0, 1) := by decide +kernel
theorem dX11_digest_108 : decode cX11_digest 108 = .ok (.aload_n 0, 1) := by decide +kernel
theorem dX11_digest_109 : decode cX11_digest 109 = .ok (.getfield 7, 3) := by decide +kernel
theorem dX11_digest_112 : decode cX11_digest 112 = .ok (.sipush 132, 3) := by decide +kernel
theorem dX11_digest_115 : decode cX11_digest 115 = .ok (.iload_n 1, 1) := by decide +kernel
theorem dX11_digest_116 : decode cX11_digest 116 = .ok (.iadd, 1) := by decide +kernel
theorem dX11_digest_117 : decode cX11_digest 117 = .ok (.iaload, 1) := by decide +kernel
theorem dX11_digest_118 : decode cX11_digest 118 = .ok (.i2l, 1) := by decide +kernel
theorem dX11_digest_119 : decode cX11_digest 119 = .ok (.invokevirtual 287, 3) := by decide +kernel
theorem dX11_digest_122 : decode cX11_digest 122 = .ok (.iinc 1 1, 3) := by decide +kernel
theorem dX11_digest_125 : decode cX11_digest 125 = .ok (.goto (-30), 3) := by decide +kernel
theorem dX11_digest_128 : decode cX11_digest 128 = .ok (.aload_n 0, 1) := by decide +kernel
theorem dX11_digest_129 : decode cX11_digest 129 = .ok (.aload_n 0, 1) := by decide +kernel
theorem dX11_digest_130 : decode cX11_digest 130 = .ok (.invokevirtual 292, 3) := by decide +kernel
theorem dX11_digest_133 : decode cX11_digest 133 = .ok (.i2l, 1) := by decide +kernel
theorem dX11_digest_134 : decode cX11_digest 134 = .ok (.invokevirtual 287, 3) := by decide +kernel
theorem dX11_digest_137 : decode cX11_digest 137 = .ok (.aload_n 0, 1) := by decide +kernel
theorem dX11_digest_138 : decode cX11_digest 138 = .ok (.invokevirtual 228, 3) := by decide +kernel
theorem dX11_digest_141 : decode cX11_digest 141 = .ok (.iconst 0, 1) := by decide +kernel
theorem dX11_digest_142 : decode cX11_digest 142 = .ok (.istore_n 1, 1) := by decide +kernel
theorem dX11_digest_143 : decode cX11_digest 143 = .ok (.iload_n 1, 1) := by decide +kernel
theorem dX11_digest_144 : decode cX11_digest 144 = .ok (.iconst 3, 1) := by decide +kernel
theorem dX11_digest_145 : decode cX11_digest 145 = .ok (.if_icmp .ge 19, 3) := by decide +kernel
theorem dX11_digest_148 : decode cX11_digest 148 = .ok (.aload_n 0, 1) := by decide +kernel
theorem dX11_digest_149 : decode cX11_digest 149 = .ok (.aload_n 0, 1) := by decide +kernel
theorem dX11_digest_150 : decode cX11_digest 150 = .ok (.iload_n 1, 1) := by decide +kernel
theorem dX11_digest_151 : decode cX11_digest 151 = .ok (.invokevirtual 231, 3) := by decide +kernel
theorem dX11_digest_154 : decode cX11_digest 154 = .ok (.i2l, 1) := by decide +kernel
theorem dX11_digest_155 : decode cX11_digest 155 = .ok (.invokevirtual 287, 3) := by decide +kernel
theorem dX11_digest_158 : decode cX11_digest 158 = .ok (.iinc 1 1, 3) := by decide +kernel
theorem dX11_digest_161 : decode cX11_digest 161 = .ok (.goto (-18), 3) := by decide +kernel
theorem dX11_digest_164 : decode cX11_digest 164 = .ok (.iconst 0, 1) := by decide +kernel
theorem dX11_digest_165 : decode cX11_digest 165 = .ok (.istore_n 1, 1) := by decide +kernel
theorem dX11_digest_166 : decode cX11_digest 166 = .ok (.iload_n 1, 1) := by decide +kernel
theorem dX11_digest_167 : decode cX11_digest 167 = .ok (.aload_n 0, 1) := by decide +kernel
theorem dX11_digest_168 : decode cX11_digest 168 = .ok (.getfield 213, 3) := by decide +kernel
theorem dX11_digest_171 : decode cX11_digest 171 = .ok (.if_icmp .ge 33, 3) := by decide +kernel
theorem dX11_digest_174 : decode cX11_digest 174 = .ok (.iconst 0, 1) := by decide +kernel
theorem dX11_digest_175 : decode cX11_digest 175 = .ok (.istore_n 2, 1) := by decide +kernel
theorem dX11_digest_176 : decode cX11_digest 176 = .ok (.iload_n 2, 1) := by decide +kernel
theorem dX11_digest_177 : decode cX11_digest 177 = .ok (.iconst 4, 1) := by decide +kernel
theorem dX11_digest_178 : decode cX11_digest 178 = .ok (.if_icmp .ge 20, 3) := by decide +kernel
theorem dX11_digest_181 : decode cX11_digest 181 = .ok (.aload_n 0, 1) := by decide +kernel
theorem dX11_digest_182 : decode cX11_digest 182 = .ok (.aload_n 0, 1) := by decide +kernel
theorem dX11_digest_183 : decode cX11_digest 183 = .ok (.iload_n 1, 1) := by decide +kernel
theorem dX11_digest_184 : decode cX11_digest 184 = .ok (.iload_n 2, 1) := by decide +kernel
theorem dX11_digest_185 : decode cX11_digest 185 = .ok (.invokevirtual 234, 3) := by decide +kernel
theorem dX11_digest_188 : decode cX11_digest 188 = .ok (.i2l, 1) := by decide +kernel
theorem dX11_digest_189 : decode cX11_digest 189 = .ok (.invokevirtual 287, 3) := by decide +kernel
theorem dX11_digest_192 : decode cX11_digest 192 = .ok (.iinc 2 1, 3) := by decide +kernel
theorem dX11_digest_195 : decode cX11_digest 195 = .ok (.goto (-19), 3) := by decide +kernel
theorem dX11_digest_198 : decode cX11_digest 198 = .ok (.iinc 1 1, 3) := by decide +kernel
theorem dX11_digest_201 : decode cX11_digest 201 = .ok (.goto (-35), 3) := by decide +kernel
theorem dX11_digest_204 : decode cX11_digest 204 = .ok (.aload_n 0, 1) := by decide +kernel
theorem dX11_digest_205 : decode cX11_digest 205 = .ok (.aload_n 0, 1) := by decide +kernel
theorem dX11_digest_206 : decode cX11_digest 206 = .ok (.invokevirtual 270, 3) := by decide +kernel
theorem dX11_digest_209 : decode cX11_digest 209 = .ok (.i2l, 1) := by decide +kernel
theorem dX11_digest_210 : decode cX11_digest 210 = .ok (.invokevirtual 287, 3) := by decide +kernel
theorem dX11_digest_213 : decode cX11_digest 213 = .ok (.aload_n 0, 1) := by decide +kernel
theorem dX11_digest_214 : decode cX11_digest 214 = .ok (.aload_n 0, 1) := by decide +kernel
theorem dX11_digest_215 : decode cX11_digest 215 = .ok (.iconst 0, 1) := by decide +kernel
theorem dX11_digest_216 : decode cX11_digest 216 = .ok (.invokevirtual 273, 3) := by decide +kernel
theorem dX11_digest_219 : decode cX11_digest 219 = .ok (.i2l, 1) := by decide +kernel
theorem dX11_digest_220 : decode cX11_digest 220 = .ok (.invokevirtual 287, 3) := by decide +kernel
theorem dX11_digest_223 : decode cX11_digest 223 = .ok (.aload_n 0, 1) := by decide +kernel
theorem dX11_digest_224 : decode cX11_digest 224 = .ok (.aload_n 0, 1) := by decide +kernel
theorem dX11_digest_225 : decode cX11_digest 225 = .ok (.iconst 1, 1) := by decide +kernel
theorem dX11_digest_226 : decode cX11_digest 226 = .ok (.invokevirtual 273, 3) := by decide +kernel
theorem dX11_digest_229 : decode cX11_digest 229 = .ok (.i2l, 1) := by decide +kernel
theorem dX11_digest_230 : decode cX11_digest 230 = .ok (.invokevirtual 287, 3) := by decide +kernel
theorem dX11_digest_233 : decode cX11_digest 233 = .ok (.aload_n 0, 1) := by decide +kernel
theorem dX11_digest_234 : decode cX11_digest 234 = .ok (.getfield 281, 3) := by decide +kernel
theorem dX11_digest_237 : decode cX11_digest 237 = .ok (.lreturn, 1) := by decide +kernel
theorem dJ13_bitCount_95d88_0 : decode cJ13_bitCount_95d88 0 = .ok (.lload_n 0, 1) := by decide +kernel
theorem dJ13_bitCount_95d88_1 : decode cJ13_bitCount_95d88 1 = .ok (.lload_n 0, 1) := by decide +kernel
theorem dJ13_bitCount_95d88_2 : decode cJ13_bitCount_95d88 2 = .ok (.iconst 1, 1) := by decide +kernel
theorem dJ13_bitCount_95d88_3 : decode cJ13_bitCount_95d88 3 = .ok (.lushr, 1) := by decide +kernel
theorem dJ13_bitCount_95d88_4 : decode cJ13_bitCount_95d88 4 = .ok (.ldc2_w 314, 3) := by decide +kernel
theorem dJ13_bitCount_95d88_7 : decode cJ13_bitCount_95d88 7 = .ok (.land, 1) := by decide +kernel
theorem dJ13_bitCount_95d88_8 : decode cJ13_bitCount_95d88 8 = .ok (.lsub, 1) := by decide +kernel
theorem dJ13_bitCount_95d88_9 : decode cJ13_bitCount_95d88 9 = .ok (.lstore_n 0, 1) := by decide +kernel
theorem dJ13_bitCount_95d88_10 : decode cJ13_bitCount_95d88 10 = .ok (.lload_n 0, 1) := by decide +kernel
theorem dJ13_bitCount_95d88_11 : decode cJ13_bitCount_95d88 11 = .ok (.ldc2_w 316, 3) := by decide +kernel
theorem dJ13_bitCount_95d88_14 : decode cJ13_bitCount_95d88 14 = .ok (.land, 1) := by decide +kernel
theorem dJ13_bitCount_95d88_15 : decode cJ13_bitCount_95d88 15 = .ok (.lload_n 0, 1) := by decide +kernel
theorem dJ13_bitCount_95d88_16 : decode cJ13_bitCount_95d88 16 = .ok (.iconst 2, 1) := by decide +kernel
theorem dJ13_bitCount_95d88_17 : decode cJ13_bitCount_95d88 17 = .ok (.lushr, 1) := by decide +kernel
theorem dJ13_bitCount_95d88_18 : decode cJ13_bitCount_95d88 18 = .ok (.ldc2_w 316, 3) := by decide +kernel
theorem dJ13_bitCount_95d88_21 : decode cJ13_bitCount_95d88 21 = .ok (.land, 1) := by decide +kernel
theorem dJ13_bitCount_95d88_22 : decode cJ13_bitCount_95d88 22 = .ok (.ladd, 1) := by decide +kernel
theorem dJ13_bitCount_95d88_23 : decode cJ13_bitCount_95d88 23 = .ok (.lstore_n 0, 1) := by decide +kernel
theorem dJ13_bitCount_95d88_24 : decode cJ13_bitCount_95d88 24 = .ok (.lload_n 0, 1) := by decide +kernel
theorem dJ13_bitCount_95d88_25 : decode cJ13_bitCount_95d88 25 = .ok (.lload_n 0, 1) := by decide +kernel
theorem dJ13_bitCount_95d88_26 : decode cJ13_bitCount_95d88 26 = .ok (.iconst 4, 1) := by decide +kernel
theorem dJ13_bitCount_95d88_27 : decode cJ13_bitCount_95d88 27 = .ok (.lushr, 1) := by decide +kernel
theorem dJ13_bitCount_95d88_28 : decode cJ13_bitCount_95d88 28 = .ok (.ladd, 1) := by decide +kernel
theorem dJ13_bitCount_95d88_29 : decode cJ13_bitCount_95d88 29 = .ok (.ldc2_w 318, 3) := by decide +kernel
theorem dJ13_bitCount_95d88_32 : decode cJ13_bitCount_95d88 32 = .ok (.land, 1) := by decide +kernel
theorem dJ13_bitCount_95d88_33 : decode cJ13_bitCount_95d88 33 = .ok (.lstore_n 0, 1) := by decide +kernel
theorem dJ13_bitCount_95d88_34 : decode cJ13_bitCount_95d88 34 = .ok (.lload_n 0, 1) := by decide +kernel
theorem dJ13_bitCount_95d88_35 : decode cJ13_bitCount_95d88 35 = .ok (.lload_n 0, 1) := by decide +kernel
theorem dJ13_bitCount_95d88_36 : decode cJ13_bitCount_95d88 36 = .ok (.bipush 8, 2) := by decide +kernel
theorem dJ13_bitCount_95d88_38 : decode cJ13_bitCount_95d88 38 = .ok (.lushr, 1) := by decide +kernel
theorem dJ13_bitCount_95d88_39 : decode cJ13_bitCount_95d88 39 = .ok (.ladd, 1) := by decide +kernel
theorem dJ13_bitCount_95d88_40 : decode cJ13_bitCount_95d88 40 = .ok (.lstore_n 0, 1) := by decide +kernel
theorem dJ13_bitCount_95d88_41 : decode cJ13_bitCount_95d88 41 = .ok (.lload_n 0, 1) := by decide +kernel
theorem dJ13_bitCount_95d88_42 : decode cJ13_bitCount_95d88 42 = .ok (.lload_n 0, 1) := by decide +kernel
theorem dJ13_bitCount_95d88_43 : decode cJ13_bitCount_95d88 43 = .ok (.bipush 16, 2) := by decide +kernel
theorem dJ13_bitCount_95d88_45 : decode cJ13_bitCount_95d88 45 = .ok (.lushr, 1) := by decide +kernel
theorem dJ13_bitCount_95d88_46 : decode cJ13_bitCount_95d88 46 = .ok (.ladd, 1) := by decide +kernel
theorem dJ13_bitCount_95d88_47 : decode cJ13_bitCount_95d88 47 = .ok (.lstore_n 0, 1) := by decide +kernel
theorem dJ13_bitCount_95d88_48 : decode cJ13_bitCount_95d88 48 = .ok (.lload_n 0, 1) := by decide +kernel
theorem dJ13_bitCount_95d88_49 : decode cJ13_bitCount_95d88 49 = .ok (.lload_n 0, 1) := by decide +kernel
theorem dJ13_bitCount_95d88_50 : decode cJ13_bitCount_95d88 50 = .ok (.bipush 32, 2) := by decide +kernel
theorem dJ13_bitCount_95d88_52 : decode cJ13_bitCount_95d88 52 = .ok (.lushr, 1) := by decide +kernel
theorem dJ13_bitCount_95d88_53 : decode cJ13_bitCount_95d88 53 = .ok (.ladd, 1) := by decide +kernel
theorem dJ13_bitCount_95d88_54 : decode cJ13_bitCount_95d88 54 = .ok (.lstore_n 0, 1) := by decide +kernel
theorem dJ13_bitCount_95d88_55 : decode cJ13_bitCount_95d88 55 = .ok (.lload_n 0, 1) := by decide +kernel
theorem dJ13_bitCount_95d88_56 : decode cJ13_bitCount_95d88 56 = .ok (.l2i, 1) := by decide +kernel
theorem dJ13_bitCount_95d88_57 : decode cJ13_bitCount_95d88 57 = .ok (.bipush 127, 2) := by decide +kernel
theorem dJ13_bitCount_95d88_59 : decode cJ13_bitCount_95d88 59 = .ok (.iand, 1) := by decide +kernel
theorem dJ13_bitCount_95d88_60 : decode cJ13_bitCount_95d88 60 = .ok (.ireturn, 1) := by decide +kernel
theorem dJ9_max_7cf53_0 : decode cJ9_max_7cf53 0 = .ok (.iload_n 0, 1) := by decide +kernel
theorem dJ9_max_7cf53_1 : decode cJ9_max_7cf53 1 = .ok (.iload_n 1, 1) := by decide +kernel
theorem dJ9_max_7cf53_2 : decode cJ9_max_7cf53 2 = .ok (.if_icmp .lt 7, 3) := by decide +kernel
theorem dJ9_max_7cf53_5 : decode cJ9_max_7cf53 5 = .ok (.iload_n 0, 1) := by decide +kernel
theorem dJ9_max_7cf53_6 : decode cJ9_max_7cf53 6 = .ok (.goto 4, 3) := by decide +kernel
theorem dJ9_max_7cf53_9 : decode cJ9_max_7cf53 9 = .ok (.iload_n 1, 1) := by decide +kernel
theorem dJ9_max_7cf53_10 : decode cJ9_max_7cf53 10 = .ok (.ireturn, 1) := by decide +kernel
theorem dJ9_min_7cf53_0 : decode cJ9_min_7cf53 0 = .ok (.iload_n 0, 1) := by decide +kernel
theorem dJ9_min_7cf53_1 : decode cJ9_min_7cf53 1 = .ok (.iload_n 1, 1) := by decide +kernel
theorem dJ9_min_7cf53_2 : decode cJ9_min_7cf53 2 = .ok (.if_icmp .gt 7, 3) := by decide +kernel
theorem dJ9_min_7cf53_5 : decode cJ9_min_7cf53 5 = .ok (.iload_n 0, 1) := by decide +kernel
theorem dJ9_min_7cf53_6 : decode cJ9_min_7cf53 6 = .ok (.goto 4, 3) := by decide +kernel
theorem dJ9_min_7cf53_9 : decode cJ9_min_7cf53 9 = .ok (.iload_n 1, 1) := by decide +kernel
theorem dJ9_min_7cf53_10 : decode cJ9_min_7cf53 10 = .ok (.ireturn, 1) := by decide +kernel
theorem dL_law_0 : decode cL_law 0 = .ok (.new 7, 3) := by decide +kernel
theorem dL_law_3 : decode cL_law 3 = .ok (.dup, 1) := by decide +kernel
theorem dL_law_4 : decode cL_law 4 = .ok (.invokespecial 9, 3) := by decide +kernel
theorem dL_law_7 : decode cL_law 7 = .ok (.astore_n 1, 1) := by decide +kernel
theorem dL_law_8 : decode cL_law 8 = .ok (.new 10, 3) := by decide +kernel
theorem dL_law_11 : decode cL_law 11 = .ok (.dup, 1) := by decide +kernel
theorem dL_law_12 : decode cL_law 12 = .ok (.invokespecial 12, 3) := by decide +kernel
theorem dL_law_15 : decode cL_law 15 = .ok (.astore_n 2, 1) := by decide +kernel
theorem dL_law_16 : decode cL_law 16 = .ok (.iconst 0, 1) := by decide +kernel
theorem dL_law_17 : decode cL_law 17 = .ok (.istore_n 3, 1) := by decide +kernel
theorem dL_law_18 : decode cL_law 18 = .ok (.iload_n 3, 1) := by decide +kernel
theorem dL_law_19 : decode cL_law 19 = .ok (.aload_n 0, 1) := by decide +kernel
theorem dL_law_20 : decode cL_law 20 = .ok (.arraylength, 1) := by decide +kernel
theorem dL_law_21 : decode cL_law 21 = .ok (.iconst 3, 1) := by decide +kernel
theorem dL_law_22 : decode cL_law 22 = .ok (.isub, 1) := by decide +kernel
theorem dL_law_23 : decode cL_law 23 = .ok (.if_icmp .gt 606, 3) := by decide +kernel
theorem dL_law_26 : decode cL_law 26 = .ok (.aload_n 0, 1) := by decide +kernel
theorem dL_law_27 : decode cL_law 27 = .ok (.iload_n 3, 1) := by decide +kernel
theorem dL_law_28 : decode cL_law 28 = .ok (.iaload, 1) := by decide +kernel
theorem dL_law_29 : decode cL_law 29 = .ok (.bipush 31, 2) := by decide +kernel
theorem dL_law_31 : decode cL_law 31 = .ok (.iand, 1) := by decide +kernel
theorem dL_law_32 : decode cL_law 32 = .ok (.tableswitch 591 0 21 #[104, 127, 140, 153, 166, 189, 212, 245, 278, 291, 324, 347, 370, 403, 436, 459, 482, 495, 518, 541, 554, 577], 104) := by decide +kernel
theorem dL_law_136 : decode cL_law 136 = .ok (.aload_n 1, 1) := by decide +kernel
theorem dL_law_137 : decode cL_law 137 = .ok (.aload_n 0, 1) := by decide +kernel
theorem dL_law_138 : decode cL_law 138 = .ok (.iload_n 3, 1) := by decide +kernel
theorem dL_law_139 : decode cL_law 139 = .ok (.iconst 1, 1) := by decide +kernel
theorem dL_law_140 : decode cL_law 140 = .ok (.iadd, 1) := by decide +kernel
theorem dL_law_141 : decode cL_law 141 = .ok (.iaload, 1) := by decide +kernel
theorem dL_law_142 : decode cL_law 142 = .ok (.invokevirtual 13, 3) := by decide +kernel
theorem dL_law_145 : decode cL_law 145 = .ok (.aload_n 2, 1) := by decide +kernel
theorem dL_law_146 : decode cL_law 146 = .ok (.aload_n 0, 1) := by decide +kernel
theorem dL_law_147 : decode cL_law 147 = .ok (.iload_n 3, 1) := by decide +kernel
theorem dL_law_148 : decode cL_law 148 = .ok (.iconst 1, 1) := by decide +kernel
theorem dL_law_149 : decode cL_law 149 = .ok (.iadd, 1) := by decide +kernel
theorem dL_law_150 : decode cL_law 150 = .ok (.iaload, 1) := by decide +kernel
theorem dL_law_151 : decode cL_law 151 = .ok (.invokevirtual 17, 3) := by decide +kernel
theorem dL_law_154 : decode cL_law 154 = .ok (.if_icmp .eq 469, 3) := by decide +kernel
theorem dL_law_157 : decode cL_law 157 = .ok (.iconst 0, 1) := by decide +kernel
theorem dL_law_158 : decode cL_law 158 = .ok (.ireturn, 1) := by decide +kernel
theorem dL_law_159 : decode cL_law 159 = .ok (.aload_n 1, 1) := by decide +kernel
theorem dL_law_160 : decode cL_law 160 = .ok (.invokevirtual 18, 3) := by decide +kernel
theorem dL_law_163 : decode cL_law 163 = .ok (.aload_n 2, 1) := by decide +kernel
theorem dL_law_164 : decode cL_law 164 = .ok (.invokevirtual 22, 3) := by decide +kernel
theorem dL_law_167 : decode cL_law 167 = .ok (.if_icmp .eq 456, 3) := by decide +kernel
theorem dL_law_170 : decode cL_law 170 = .ok (.iconst 0, 1) := by decide +kernel
theorem dL_law_171 : decode cL_law 171 = .ok (.ireturn, 1) := by decide +kernel
theorem dL_law_172 : decode cL_law 172 = .ok (.aload_n 1, 1) := by decide +kernel
theorem dL_law_173 : decode cL_law 173 = .ok (.invokevirtual 23, 3) := by decide +kernel
theorem dL_law_176 : decode cL_law 176 = .ok (.aload_n 2, 1) := by decide +kernel
theorem dL_law_177 : decode cL_law 177 = .ok (.invokevirtual 26, 3) := by decide +kernel
theorem dL_law_180 : decode cL_law 180 = .ok (.if_icmp .eq 443, 3) := by decide +kernel
theorem dL_law_183 : decode cL_law 183 = .ok (.iconst 0, 1) := by decide +kernel
theorem dL_law_184 : decode cL_law 184 = .ok (.ireturn, 1) := by decide +kernel
theorem dL_law_185 : decode cL_law 185 = .ok (.aload_n 1, 1) := by decide +kernel
theorem dL_law_186 : decode cL_law 186 = .ok (.invokevirtual 27, 3) := by decide +kernel
theorem dL_law_189 : decode cL_law 189 = .ok (.aload_n 2, 1) := by decide +kernel
theorem dL_law_190 : decode cL_law 190 = .ok (.invokevirtual 30, 3) := by decide +kernel
theorem dL_law_193 : decode cL_law 193 = .ok (.if_icmp .eq 430, 3) := by decide +kernel
theorem dL_law_196 : decode cL_law 196 = .ok (.iconst 0, 1) := by decide +kernel
theorem dL_law_197 : decode cL_law 197 = .ok (.ireturn, 1) := by decide +kernel
theorem dL_law_198 : decode cL_law 198 = .ok (.aload_n 1, 1) := by decide +kernel
theorem dL_law_199 : decode cL_law 199 = .ok (.aload_n 0, 1) := by decide +kernel
theorem dL_law_200 : decode cL_law 200 = .ok (.iload_n 3, 1) := by decide +kernel
theorem dL_law_201 : decode cL_law 201 = .ok (.iconst 1, 1) := by decide +kernel
theorem dL_law_202 : decode cL_law 202 = .ok (.iadd, 1) := by decide +kernel
theorem dL_law_203 : decode cL_law 203 = .ok (.iaload, 1) := by decide +kernel
theorem dL_law_204 : decode cL_law 204 = .ok (.invokevirtual 31, 3) := by decide +kernel
theorem dL_law_207 : decode cL_law 207 = .ok (.aload_n 2, 1) := by decide +kernel
theorem dL_law_208 : decode cL_law 208 = .ok (.aload_n 0, 1) := by decide +kernel
theorem dL_law_209 : decode cL_law 209 = .ok (.iload_n 3, 1) := by decide +kernel
theorem dL_law_210 : decode cL_law 210 = .ok (.iconst 1, 1) := by decide +kernel
theorem dL_law_211 : decode cL_law 211 = .ok (.iadd, 1) := by decide +kernel
theorem dL_law_212 : decode cL_law 212 = .ok (.iaload, 1) := by decide +kernel
theorem dL_law_213 : decode cL_law 213 = .ok (.invokevirtual 34, 3) := by decide +kernel
theorem dL_law_216 : decode cL_law 216 = .ok (.if_icmp .eq 407, 3) := by decide +kernel
theorem dL_law_219 : decode cL_law 219 = .ok (.iconst 0, 1) := by decide +kernel
theorem dL_law_220 : decode cL_law 220 = .ok (.ireturn, 1) := by decide +kernel
theorem dL_law_221 : decode cL_law 221 = .ok (.aload_n 1, 1) := by decide +kernel
theorem dL_law_222 : decode cL_law 222 = .ok (.aload_n 0, 1) := by decide +kernel
theorem dL_law_223 : decode cL_law 223 = .ok (.iload_n 3, 1) := by decide +kernel
theorem dL_law_224 : decode cL_law 224 = .ok (.iconst 1, 1) := by decide +kernel
theorem dL_law_225 : decode cL_law 225 = .ok (.iadd, 1) := by decide +kernel
theorem dL_law_226 : decode cL_law 226 = .ok (.iaload, 1) := by decide +kernel
theorem dL_law_227 : decode cL_law 227 = .ok (.invokevirtual 35, 3) := by decide +kernel
theorem dL_law_230 : decode cL_law 230 = .ok (.aload_n 2, 1) := by decide +kernel
theorem dL_law_231 : decode cL_law 231 = .ok (.aload_n 0, 1) := by decide +kernel
theorem dL_law_232 : decode cL_law 232 = .ok (.iload_n 3, 1) := by decide +kernel
theorem dL_law_233 : decode cL_law 233 = .ok (.iconst 1, 1) := by decide +kernel
theorem dL_law_234 : decode cL_law 234 = .ok (.iadd, 1) := by decide +kernel
theorem dL_law_235 : decode cL_law 235 = .ok (.iaload, 1) := by decide +kernel
theorem dL_law_236 : decode cL_law 236 = .ok (.invokevirtual 38, 3) := by decide +kernel
theorem dL_law_239 : decode cL_law 239 = .ok (.if_icmp .eq 384, 3) := by decide +kernel
theorem dL_law_242 : decode cL_law 242 = .ok (.iconst 0, 1) := by decide +kernel
theorem dL_law_243 : decode cL_law 243 = .ok (.ireturn, 1) := by decide +kernel
theorem dL_law_244 : decode cL_law 244 = .ok (.aload_n 1, 1) := by decide +kernel
theorem dL_law_245 : decode cL_law 245 = .ok (.aload_n 0, 1) := by decide +kernel
theorem dL_law_246 : decode cL_law 246 = .ok (.iload_n 3, 1) := by decide +kernel
theorem dL_law_247 : decode cL_law 247 = .ok (.iconst 1, 1) := by decide +kernel
theorem dL_law_248 : decode cL_law 248 = .ok (.iadd, 1) := by decide +kernel
theorem dL_law_249 : decode cL_law 249 = .ok (.iaload, 1) := by decide +kernel
theorem dL_law_250 : decode cL_law 250 = .ok (.aload_n 0, 1) := by decide +kernel
theorem dL_law_251 : decode cL_law 251 = .ok (.iload_n 3, 1) := by decide +kernel
theorem dL_law_252 : decode cL_law 252 = .ok (.iconst 2, 1) := by decide +kernel
theorem dL_law_253 : decode cL_law 253 = .ok (.iadd, 1) := by decide +kernel
theorem dL_law_254 : decode cL_law 254 = .ok (.iaload, 1) := by decide +kernel
theorem dL_law_255 : decode cL_law 255 = .ok (.invokevirtual 39, 3) := by decide +kernel
theorem dL_law_258 : decode cL_law 258 = .ok (.aload_n 2, 1) := by decide +kernel
theorem dL_law_259 : decode cL_law 259 = .ok (.aload_n 0, 1) := by decide +kernel
theorem dL_law_260 : decode cL_law 260 = .ok (.iload_n 3, 1) := by decide +kernel
theorem dL_law_261 : decode cL_law 261 = .ok (.iconst 1, 1) := by decide +kernel
theorem dL_law_262 : decode cL_law 262 = .ok (.iadd, 1) := by decide +kernel
theorem dL_law_263 : decode cL_law 263 = .ok (.iaload, 1) := by decide +kernel
theorem dL_law_264 : decode cL_law 264 = .ok (.aload_n 0, 1) := by decide +kernel
theorem dL_law_265 : decode cL_law 265 = .ok (.iload_n 3, 1) := by decide +kernel
theorem dL_law_266 : decode cL_law 266 = .ok (.iconst 2, 1) := by decide +kernel
theorem dL_law_267 : decode cL_law 267 = .ok (.iadd, 1) := by decide +kernel
theorem dL_law_268 : decode cL_law 268 = .ok (.iaload, 1) := by decide +kernel
theorem dL_law_269 : decode cL_law 269 = .ok (.invokevirtual 43, 3) := by decide +kernel
theorem dL_law_272 : decode cL_law 272 = .ok (.if_icmp .eq 351, 3) := by decide +kernel
theorem dL_law_275 : decode cL_law 275 = .ok (.iconst 0, 1) := by decide +kernel
theorem dL_law_276 : decode cL_law 276 = .ok (.ireturn, 1) := by decide +kernel
theorem dL_law_277 : decode cL_law 277 = .ok (.aload_n 1, 1) := by decide +kernel
theorem dL_law_278 : decode cL_law 278 = .ok (.aload_n 0, 1) := by decide +kernel
theorem dL_law_279 : decode cL_law 279 = .ok (.iload_n 3, 1) := by decide +kernel
theorem dL_law_280 : decode cL_law 280 = .ok (.iconst 1, 1) := by decide +kernel
theorem dL_law_281 : decode cL_law 281 = .ok (.iadd, 1) := by decide +kernel
theorem dL_law_282 : decode cL_law 282 = .ok (.iaload, 1) := by decide +kernel
theorem dL_law_283 : decode cL_law 283 = .ok (.aload_n 0, 1) := by decide +kernel
theorem dL_law_284 : decode cL_law 284 = .ok (.iload_n 3, 1) := by decide +kernel
theorem dL_law_285 : decode cL_law 285 = .ok (.iconst 2, 1) := by decide +kernel
theorem dL_law_286 : decode cL_law 286 = .ok (.iadd, 1) := by decide +kernel
theorem dL_law_287 : decode cL_law 287 = .ok (.iaload, 1) := by decide +kernel
theorem dL_law_288 : decode cL_law 288 = .ok (.invokevirtual 44, 3) := by decide +kernel
theorem dL_law_291 : decode cL_law 291 = .ok (.aload_n 2, 1) := by decide +kernel
theorem dL_law_292 : decode cL_law 292 = .ok (.aload_n 0, 1) := by decide +kernel
theorem dL_law_293 : decode cL_law 293 = .ok (.iload_n 3, 1) := by decide +kernel
theorem dL_law_294 : decode cL_law 294 = .ok (.iconst 1, 1) := by decide +kernel
theorem dL_law_295 : decode cL_law 295 = .ok (.iadd, 1) := by decide +kernel
theorem dL_law_296 : decode cL_law 296 = .ok (.iaload, 1) := by decide +kernel
theorem dL_law_297 : decode cL_law 297 = .ok (.aload_n 0, 1) := by decide +kernel
theorem dL_law_298 : decode cL_law 298 = .ok (.iload_n 3, 1) := by decide +kernel
theorem dL_law_299 : decode cL_law 299 = .ok (.iconst 2, 1) := by decide +kernel
theorem dL_law_300 : decode cL_law 300 = .ok (.iadd, 1) := by decide +kernel
theorem dL_law_301 : decode cL_law 301 = .ok (.iaload, 1) := by decide +kernel
theorem dL_law_302 : decode cL_law 302 = .ok (.invokevirtual 47, 3) := by decide +kernel
theorem dL_law_305 : decode cL_law 305 = .ok (.if_icmp .eq 318, 3) := by decide +kernel
theorem dL_law_308 : decode cL_law 308 = .ok (.iconst 0, 1) := by decide +kernel
theorem dL_law_309 : decode cL_law 309 = .ok (.ireturn, 1) := by decide +kernel
theorem dL_law_310 : decode cL_law 310 = .ok (.aload_n 1, 1) := by decide +kernel
theorem dL_law_311 : decode cL_law 311 = .ok (.invokevirtual 48, 3) := by decide +kernel
theorem dL_law_314 : decode cL_law 314 = .ok (.aload_n 2, 1) := by decide +kernel
theorem dL_law_315 : decode cL_law 315 = .ok (.invokevirtual 51, 3) := by decide +kernel
theorem dL_law_318 : decode cL_law 318 = .ok (.if_icmp .eq 305, 3) := by decide +kernel
theorem dL_law_321 : decode cL_law 321 = .ok (.iconst 0, 1) := by decide +kernel
theorem dL_law_322 : decode cL_law 322 = .ok (.ireturn, 1) := by decide +kernel
theorem dL_law_323 : decode cL_law 323 = .ok (.aload_n 1, 1) := by decide +kernel
theorem dL_law_324 : decode cL_law 324 = .ok (.aload_n 0, 1) := by decide +kernel
theorem dL_law_325 : decode cL_law 325 = .ok (.iload_n 3, 1) := by decide +kernel
theorem dL_law_326 : decode cL_law 326 = .ok (.iconst 1, 1) := by decide +kernel
theorem dL_law_327 : decode cL_law 327 = .ok (.iadd, 1) := by decide +kernel
theorem dL_law_328 : decode cL_law 328 = .ok (.iaload, 1) := by decide +kernel
theorem dL_law_329 : decode cL_law 329 = .ok (.aload_n 0, 1) := by decide +kernel
theorem dL_law_330 : decode cL_law 330 = .ok (.iload_n 3, 1) := by decide +kernel
theorem dL_law_331 : decode cL_law 331 = .ok (.iconst 2, 1) := by decide +kernel
theorem dL_law_332 : decode cL_law 332 = .ok (.iadd, 1) := by decide +kernel
theorem dL_law_333 : decode cL_law 333 = .ok (.iaload, 1) := by decide +kernel
theorem dL_law_334 : decode cL_law 334 = .ok (.invokevirtual 52, 3) := by decide +kernel
theorem dL_law_337 : decode cL_law 337 = .ok (.aload_n 2, 1) := by decide +kernel
theorem dL_law_338 : decode cL_law 338 = .ok (.aload_n 0, 1) := by decide +kernel
theorem dL_law_339 : decode cL_law 339 = .ok (.iload_n 3, 1) := by decide +kernel
theorem dL_law_340 : decode cL_law 340 = .ok (.iconst 1, 1) := by decide +kernel
theorem dL_law_341 : decode cL_law 341 = .ok (.iadd, 1) := by decide +kernel
theorem dL_law_342 : decode cL_law 342 = .ok (.iaload, 1) := by decide +kernel
theorem dL_law_343 : decode cL_law 343 = .ok (.aload_n 0, 1) := by decide +kernel
theorem dL_law_344 : decode cL_law 344 = .ok (.iload_n 3, 1) := by decide +kernel
theorem dL_law_345 : decode cL_law 345 = .ok (.iconst 2, 1) := by decide +kernel
theorem dL_law_346 : decode cL_law 346 = .ok (.iadd, 1) := by decide +kernel
theorem dL_law_347 : decode cL_law 347 = .ok (.iaload, 1) := by decide +kernel
theorem dL_law_348 : decode cL_law 348 = .ok (.invokevirtual 55, 3) := by decide +kernel
theorem dL_law_351 : decode cL_law 351 = .ok (.if_icmp .eq 272, 3) := by decide +kernel
theorem dL_law_354 : decode cL_law 354 = .ok (.iconst 0, 1) := by decide +kernel
theorem dL_law_355 : decode cL_law 355 = .ok (.ireturn, 1) := by decide +kernel
theorem dL_law_356 : decode cL_law 356 = .ok (.aload_n 1, 1) := by decide +kernel
theorem dL_law_357 : decode cL_law 357 = .ok (.aload_n 0, 1) := by decide +kernel
theorem dL_law_358 : decode cL_law 358 = .ok (.iload_n 3, 1) := by decide +kernel
theorem dL_law_359 : decode cL_law 359 = .ok (.iconst 1, 1) := by decide +kernel
theorem dL_law_360 : decode cL_law 360 = .ok (.iadd, 1) := by decide +kernel
theorem dL_law_361 : decode cL_law 361 = .ok (.iaload, 1) := by decide +kernel
theorem dL_law_362 : decode cL_law 362 = .ok (.invokevirtual 56, 3) := by decide +kernel
theorem dL_law_365 : decode cL_law 365 = .ok (.aload_n 2, 1) := by decide +kernel
theorem dL_law_366 : decode cL_law 366 = .ok (.aload_n 0, 1) := by decide +kernel
theorem dL_law_367 : decode cL_law 367 = .ok (.iload_n 3, 1) := by decide +kernel
theorem dL_law_368 : decode cL_law 368 = .ok (.iconst 1, 1) := by decide +kernel
theorem dL_law_369 : decode cL_law 369 = .ok (.iadd, 1) := by decide +kernel
theorem dL_law_370 : decode cL_law 370 = .ok (.iaload, 1) := by decide +kernel
theorem dL_law_371 : decode cL_law 371 = .ok (.invokevirtual 59, 3) := by decide +kernel
theorem dL_law_374 : decode cL_law 374 = .ok (.if_icmp .eq 249, 3) := by decide +kernel
theorem dL_law_377 : decode cL_law 377 = .ok (.iconst 0, 1) := by decide +kernel
theorem dL_law_378 : decode cL_law 378 = .ok (.ireturn, 1) := by decide +kernel
theorem dL_law_379 : decode cL_law 379 = .ok (.aload_n 1, 1) := by decide +kernel
theorem dL_law_380 : decode cL_law 380 = .ok (.aload_n 0, 1) := by decide +kernel
theorem dL_law_381 : decode cL_law 381 = .ok (.iload_n 3, 1) := by decide +kernel
theorem dL_law_382 : decode cL_law 382 = .ok (.iconst 1, 1) := by decide +kernel
theorem dL_law_383 : decode cL_law 383 = .ok (.iadd, 1) := by decide +kernel
theorem dL_law_384 : decode cL_law 384 = .ok (.iaload, 1) := by decide +kernel
theorem dL_law_385 : decode cL_law 385 = .ok (.invokevirtual 60, 3) := by decide +kernel
theorem dL_law_388 : decode cL_law 388 = .ok (.aload_n 2, 1) := by decide +kernel
theorem dL_law_389 : decode cL_law 389 = .ok (.aload_n 0, 1) := by decide +kernel
theorem dL_law_390 : decode cL_law 390 = .ok (.iload_n 3, 1) := by decide +kernel
theorem dL_law_391 : decode cL_law 391 = .ok (.iconst 1, 1) := by decide +kernel
theorem dL_law_392 : decode cL_law 392 = .ok (.iadd, 1) := by decide +kernel
theorem dL_law_393 : decode cL_law 393 = .ok (.iaload, 1) := by decide +kernel
theorem dL_law_394 : decode cL_law 394 = .ok (.invokevirtual 63, 3) := by decide +kernel
theorem dL_law_397 : decode cL_law 397 = .ok (.if_icmp .eq 226, 3) := by decide +kernel
theorem dL_law_400 : decode cL_law 400 = .ok (.iconst 0, 1) := by decide +kernel
theorem dL_law_401 : decode cL_law 401 = .ok (.ireturn, 1) := by decide +kernel
theorem dL_law_402 : decode cL_law 402 = .ok (.aload_n 1, 1) := by decide +kernel
theorem dL_law_403 : decode cL_law 403 = .ok (.aload_n 0, 1) := by decide +kernel
theorem dL_law_404 : decode cL_law 404 = .ok (.iload_n 3, 1) := by decide +kernel
theorem dL_law_405 : decode cL_law 405 = .ok (.iconst 1, 1) := by decide +kernel
theorem dL_law_406 : decode cL_law 406 = .ok (.iadd, 1) := by decide +kernel
theorem dL_law_407 : decode cL_law 407 = .ok (.iaload, 1) := by decide +kernel
theorem dL_law_408 : decode cL_law 408 = .ok (.aload_n 0, 1) := by decide +kernel
theorem dL_law_409 : decode cL_law 409 = .ok (.iload_n 3, 1) := by decide +kernel
theorem dL_law_410 : decode cL_law 410 = .ok (.iconst 2, 1) := by decide +kernel
theorem dL_law_411 : decode cL_law 411 = .ok (.iadd, 1) := by decide +kernel
theorem dL_law_412 : decode cL_law 412 = .ok (.iaload, 1) := by decide +kernel
theorem dL_law_413 : decode cL_law 413 = .ok (.invokevirtual 64, 3) := by decide +kernel
theorem dL_law_416 : decode cL_law 416 = .ok (.aload_n 2, 1) := by decide +kernel
theorem dL_law_417 : decode cL_law 417 = .ok (.aload_n 0, 1) := by decide +kernel
theorem dL_law_418 : decode cL_law 418 = .ok (.iload_n 3, 1) := by decide +kernel
theorem dL_law_419 : decode cL_law 419 = .ok (.iconst 1, 1) := by decide +kernel
theorem dL_law_420 : decode cL_law 420 = .ok (.iadd, 1) := by decide +kernel
theorem dL_law_421 : decode cL_law 421 = .ok (.iaload, 1) := by decide +kernel
theorem dL_law_422 : decode cL_law 422 = .ok (.aload_n 0, 1) := by decide +kernel
theorem dL_law_423 : decode cL_law 423 = .ok (.iload_n 3, 1) := by decide +kernel
theorem dL_law_424 : decode cL_law 424 = .ok (.iconst 2, 1) := by decide +kernel
theorem dL_law_425 : decode cL_law 425 = .ok (.iadd, 1) := by decide +kernel
theorem dL_law_426 : decode cL_law 426 = .ok (.iaload, 1) := by decide +kernel
theorem dL_law_427 : decode cL_law 427 = .ok (.invokevirtual 67, 3) := by decide +kernel
theorem dL_law_430 : decode cL_law 430 = .ok (.if_icmp .eq 193, 3) := by decide +kernel
theorem dL_law_433 : decode cL_law 433 = .ok (.iconst 0, 1) := by decide +kernel
theorem dL_law_434 : decode cL_law 434 = .ok (.ireturn, 1) := by decide +kernel
theorem dL_law_435 : decode cL_law 435 = .ok (.aload_n 1, 1) := by decide +kernel
theorem dL_law_436 : decode cL_law 436 = .ok (.aload_n 0, 1) := by decide +kernel
theorem dL_law_437 : decode cL_law 437 = .ok (.iload_n 3, 1) := by decide +kernel
theorem dL_law_438 : decode cL_law 438 = .ok (.iconst 1, 1) := by decide +kernel
theorem dL_law_439 : decode cL_law 439 = .ok (.iadd, 1) := by decide +kernel
theorem dL_law_440 : decode cL_law 440 = .ok (.iaload, 1) := by decide +kernel
theorem dL_law_441 : decode cL_law 441 = .ok (.aload_n 0, 1) := by decide +kernel
theorem dL_law_442 : decode cL_law 442 = .ok (.iload_n 3, 1) := by decide +kernel
theorem dL_law_443 : decode cL_law 443 = .ok (.iconst 2, 1) := by decide +kernel
theorem dL_law_444 : decode cL_law 444 = .ok (.iadd, 1) := by decide +kernel
theorem dL_law_445 : decode cL_law 445 = .ok (.iaload, 1) := by decide +kernel
theorem dL_law_446 : decode cL_law 446 = .ok (.invokevirtual 68, 3) := by decide +kernel
theorem dL_law_449 : decode cL_law 449 = .ok (.aload_n 2, 1) := by decide +kernel
theorem dL_law_450 : decode cL_law 450 = .ok (.aload_n 0, 1) := by decide +kernel
theorem dL_law_451 : decode cL_law 451 = .ok (.iload_n 3, 1) := by decide +kernel
theorem dL_law_452 : decode cL_law 452 = .ok (.iconst 1, 1) := by decide +kernel
theorem dL_law_453 : decode cL_law 453 = .ok (.iadd, 1) := by decide +kernel
theorem dL_law_454 : decode cL_law 454 = .ok (.iaload, 1) := by decide +kernel
theorem dL_law_455 : decode cL_law 455 = .ok (.aload_n 0, 1) := by decide +kernel
theorem dL_law_456 : decode cL_law 456 = .ok (.iload_n 3, 1) := by decide +kernel
theorem dL_law_457 : decode cL_law 457 = .ok (.iconst 2, 1) := by decide +kernel
theorem dL_law_458 : decode cL_law 458 = .ok (.iadd, 1) := by decide +kernel
theorem dL_law_459 : decode cL_law 459 = .ok (.iaload, 1) := by decide +kernel
theorem dL_law_460 : decode cL_law 460 = .ok (.invokevirtual 71, 3) := by decide +kernel
theorem dL_law_463 : decode cL_law 463 = .ok (.if_icmp .eq 160, 3) := by decide +kernel
theorem dL_law_466 : decode cL_law 466 = .ok (.iconst 0, 1) := by decide +kernel
theorem dL_law_467 : decode cL_law 467 = .ok (.ireturn, 1) := by decide +kernel
theorem dL_law_468 : decode cL_law 468 = .ok (.aload_n 1, 1) := by decide +kernel
theorem dL_law_469 : decode cL_law 469 = .ok (.aload_n 0, 1) := by decide +kernel
theorem dL_law_470 : decode cL_law 470 = .ok (.iload_n 3, 1) := by decide +kernel
theorem dL_law_471 : decode cL_law 471 = .ok (.iconst 1, 1) := by decide +kernel
theorem dL_law_472 : decode cL_law 472 = .ok (.iadd, 1) := by decide +kernel
theorem dL_law_473 : decode cL_law 473 = .ok (.iaload, 1) := by decide +kernel
theorem dL_law_474 : decode cL_law 474 = .ok (.invokevirtual 72, 3) := by decide +kernel
theorem dL_law_477 : decode cL_law 477 = .ok (.aload_n 2, 1) := by decide +kernel
theorem dL_law_478 : decode cL_law 478 = .ok (.aload_n 0, 1) := by decide +kernel
theorem dL_law_479 : decode cL_law 479 = .ok (.iload_n 3, 1) := by decide +kernel
theorem dL_law_480 : decode cL_law 480 = .ok (.iconst 1, 1) := by decide +kernel
theorem dL_law_481 : decode cL_law 481 = .ok (.iadd, 1) := by decide +kernel
theorem dL_law_482 : decode cL_law 482 = .ok (.iaload, 1) := by decide +kernel
theorem dL_law_483 : decode cL_law 483 = .ok (.invokevirtual 75, 3) := by decide +kernel
theorem dL_law_486 : decode cL_law 486 = .ok (.if_icmp .eq 137, 3) := by decide +kernel
theorem dL_law_489 : decode cL_law 489 = .ok (.iconst 0, 1) := by decide +kernel
theorem dL_law_490 : decode cL_law 490 = .ok (.ireturn, 1) := by decide +kernel
theorem dL_law_491 : decode cL_law 491 = .ok (.aload_n 1, 1) := by decide +kernel
theorem dL_law_492 : decode cL_law 492 = .ok (.aload_n 0, 1) := by decide +kernel
theorem dL_law_493 : decode cL_law 493 = .ok (.iload_n 3, 1) := by decide +kernel
theorem dL_law_494 : decode cL_law 494 = .ok (.iconst 1, 1) := by decide +kernel
theorem dL_law_495 : decode cL_law 495 = .ok (.iadd, 1) := by decide +kernel
theorem dL_law_496 : decode cL_law 496 = .ok (.iaload, 1) := by decide +kernel
theorem dL_law_497 : decode cL_law 497 = .ok (.invokevirtual 76, 3) := by decide +kernel
theorem dL_law_500 : decode cL_law 500 = .ok (.aload_n 2, 1) := by decide +kernel
theorem dL_law_501 : decode cL_law 501 = .ok (.aload_n 0, 1) := by decide +kernel
theorem dL_law_502 : decode cL_law 502 = .ok (.iload_n 3, 1) := by decide +kernel
theorem dL_law_503 : decode cL_law 503 = .ok (.iconst 1, 1) := by decide +kernel
theorem dL_law_504 : decode cL_law 504 = .ok (.iadd, 1) := by decide +kernel
theorem dL_law_505 : decode cL_law 505 = .ok (.iaload, 1) := by decide +kernel
theorem dL_law_506 : decode cL_law 506 = .ok (.invokevirtual 79, 3) := by decide +kernel
theorem dL_law_509 : decode cL_law 509 = .ok (.if_icmp .eq 114, 3) := by decide +kernel
theorem dL_law_512 : decode cL_law 512 = .ok (.iconst 0, 1) := by decide +kernel
theorem dL_law_513 : decode cL_law 513 = .ok (.ireturn, 1) := by decide +kernel
theorem dL_law_514 : decode cL_law 514 = .ok (.aload_n 1, 1) := by decide +kernel
theorem dL_law_515 : decode cL_law 515 = .ok (.invokevirtual 80, 3) := by decide +kernel
theorem dL_law_518 : decode cL_law 518 = .ok (.aload_n 2, 1) := by decide +kernel
theorem dL_law_519 : decode cL_law 519 = .ok (.invokevirtual 83, 3) := by decide +kernel
theorem dL_law_522 : decode cL_law 522 = .ok (.if_icmp .eq 101, 3) := by decide +kernel
theorem dL_law_525 : decode cL_law 525 = .ok (.iconst 0, 1) := by decide +kernel
theorem dL_law_526 : decode cL_law 526 = .ok (.ireturn, 1) := by decide +kernel
theorem dL_law_527 : decode cL_law 527 = .ok (.aload_n 1, 1) := by decide +kernel
theorem dL_law_528 : decode cL_law 528 = .ok (.aload_n 0, 1) := by decide +kernel
theorem dL_law_529 : decode cL_law 529 = .ok (.iload_n 3, 1) := by decide +kernel
theorem dL_law_530 : decode cL_law 530 = .ok (.iconst 1, 1) := by decide +kernel
theorem dL_law_531 : decode cL_law 531 = .ok (.iadd, 1) := by decide +kernel
theorem dL_law_532 : decode cL_law 532 = .ok (.iaload, 1) := by decide +kernel
theorem dL_law_533 : decode cL_law 533 = .ok (.invokevirtual 84, 3) := by decide +kernel
theorem dL_law_536 : decode cL_law 536 = .ok (.aload_n 2, 1) := by decide +kernel
theorem dL_law_537 : decode cL_law 537 = .ok (.aload_n 0, 1) := by decide +kernel
theorem dL_law_538 : decode cL_law 538 = .ok (.iload_n 3, 1) := by decide +kernel
theorem dL_law_539 : decode cL_law 539 = .ok (.iconst 1, 1) := by decide +kernel
theorem dL_law_540 : decode cL_law 540 = .ok (.iadd, 1) := by decide +kernel
theorem dL_law_541 : decode cL_law 541 = .ok (.iaload, 1) := by decide +kernel
theorem dL_law_542 : decode cL_law 542 = .ok (.invokevirtual 87, 3) := by decide +kernel
theorem dL_law_545 : decode cL_law 545 = .ok (.if_icmp .eq 78, 3) := by decide +kernel
theorem dL_law_548 : decode cL_law 548 = .ok (.iconst 0, 1) := by decide +kernel
theorem dL_law_549 : decode cL_law 549 = .ok (.ireturn, 1) := by decide +kernel
theorem dL_law_550 : decode cL_law 550 = .ok (.aload_n 1, 1) := by decide +kernel
theorem dL_law_551 : decode cL_law 551 = .ok (.aload_n 0, 1) := by decide +kernel
theorem dL_law_552 : decode cL_law 552 = .ok (.iload_n 3, 1) := by decide +kernel
theorem dL_law_553 : decode cL_law 553 = .ok (.iconst 1, 1) := by decide +kernel
theorem dL_law_554 : decode cL_law 554 = .ok (.iadd, 1) := by decide +kernel
theorem dL_law_555 : decode cL_law 555 = .ok (.iaload, 1) := by decide +kernel
theorem dL_law_556 : decode cL_law 556 = .ok (.invokevirtual 88, 3) := by decide +kernel
theorem dL_law_559 : decode cL_law 559 = .ok (.aload_n 2, 1) := by decide +kernel
theorem dL_law_560 : decode cL_law 560 = .ok (.aload_n 0, 1) := by decide +kernel
theorem dL_law_561 : decode cL_law 561 = .ok (.iload_n 3, 1) := by decide +kernel
theorem dL_law_562 : decode cL_law 562 = .ok (.iconst 1, 1) := by decide +kernel
theorem dL_law_563 : decode cL_law 563 = .ok (.iadd, 1) := by decide +kernel
theorem dL_law_564 : decode cL_law 564 = .ok (.iaload, 1) := by decide +kernel
theorem dL_law_565 : decode cL_law 565 = .ok (.invokevirtual 91, 3) := by decide +kernel
theorem dL_law_568 : decode cL_law 568 = .ok (.if_icmp .eq 55, 3) := by decide +kernel
theorem dL_law_571 : decode cL_law 571 = .ok (.iconst 0, 1) := by decide +kernel
theorem dL_law_572 : decode cL_law 572 = .ok (.ireturn, 1) := by decide +kernel
theorem dL_law_573 : decode cL_law 573 = .ok (.aload_n 1, 1) := by decide +kernel
theorem dL_law_574 : decode cL_law 574 = .ok (.invokevirtual 92, 3) := by decide +kernel
theorem dL_law_577 : decode cL_law 577 = .ok (.aload_n 2, 1) := by decide +kernel
theorem dL_law_578 : decode cL_law 578 = .ok (.invokevirtual 95, 3) := by decide +kernel
theorem dL_law_581 : decode cL_law 581 = .ok (.if_icmp .eq 42, 3) := by decide +kernel
theorem dL_law_584 : decode cL_law 584 = .ok (.iconst 0, 1) := by decide +kernel
theorem dL_law_585 : decode cL_law 585 = .ok (.ireturn, 1) := by decide +kernel
theorem dL_law_586 : decode cL_law 586 = .ok (.aload_n 1, 1) := by decide +kernel
theorem dL_law_587 : decode cL_law 587 = .ok (.aload_n 0, 1) := by decide +kernel
theorem dL_law_588 : decode cL_law 588 = .ok (.iload_n 3, 1) := by decide +kernel
theorem dL_law_589 : decode cL_law 589 = .ok (.iconst 1, 1) := by decide +kernel
theorem dL_law_590 : decode cL_law 590 = .ok (.iadd, 1) := by decide +kernel
theorem dL_law_591 : decode cL_law 591 = .ok (.iaload, 1) := by decide +kernel
theorem dL_law_592 : decode cL_law 592 = .ok (.invokevirtual 96, 3) := by decide +kernel
theorem dL_law_595 : decode cL_law 595 = .ok (.aload_n 2, 1) := by decide +kernel
theorem dL_law_596 : decode cL_law 596 = .ok (.aload_n 0, 1) := by decide +kernel
theorem dL_law_597 : decode cL_law 597 = .ok (.iload_n 3, 1) := by decide +kernel
theorem dL_law_598 : decode cL_law 598 = .ok (.iconst 1, 1) := by decide +kernel
theorem dL_law_599 : decode cL_law 599 = .ok (.iadd, 1) := by decide +kernel
theorem dL_law_600 : decode cL_law 600 = .ok (.iaload, 1) := by decide +kernel
theorem dL_law_601 : decode cL_law 601 = .ok (.invokevirtual 99, 3) := by decide +kernel
theorem dL_law_604 : decode cL_law 604 = .ok (.if_icmp .eq 19, 3) := by decide +kernel
theorem dL_law_607 : decode cL_law 607 = .ok (.iconst 0, 1) := by decide +kernel
theorem dL_law_608 : decode cL_law 608 = .ok (.ireturn, 1) := by decide +kernel
theorem dL_law_609 : decode cL_law 609 = .ok (.aload_n 1, 1) := by decide +kernel
theorem dL_law_610 : decode cL_law 610 = .ok (.invokevirtual 100, 3) := by decide +kernel
theorem dL_law_613 : decode cL_law 613 = .ok (.aload_n 2, 1) := by decide +kernel
theorem dL_law_614 : decode cL_law 614 = .ok (.invokevirtual 104, 3) := by decide +kernel
theorem dL_law_617 : decode cL_law 617 = .ok (.lcmp, 1) := by decide +kernel
theorem dL_law_618 : decode cL_law 618 = .ok (.ifCond .eq 5, 3) := by decide +kernel
theorem dL_law_621 : decode cL_law 621 = .ok (.iconst 0, 1) := by decide +kernel
theorem dL_law_622 : decode cL_law 622 = .ok (.ireturn, 1) := by decide +kernel
theorem dL_law_623 : decode cL_law 623 = .ok (.iinc 3 3, 3) := by decide +kernel
theorem dL_law_626 : decode cL_law 626 = .ok (.goto (-608), 3) := by decide +kernel
theorem dL_law_629 : decode cL_law 629 = .ok (.iconst 1, 1) := by decide +kernel
theorem dL_law_630 : decode cL_law 630 = .ok (.ireturn, 1) := by decide +kernel
