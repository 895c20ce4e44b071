theorem dX9_fits_140 : decode cX9_fits 140 = .ok (.aload_n 2, 1) := by decide +kernel
theorem dX9_fits_141 : decode cX9_fits 141 = .ok (.getfield 52, 3) := by decide +kernel
theorem dX9_fits_144 : decode cX9_fits 144 = .ok (.iload 4, 2) := by decide +kernel
theorem dX9_fits_146 : decode cX9_fits 146 = .ok (.iaload, 1) := by decide +kernel
theorem dX9_fits_147 : decode cX9_fits 147 = .ok (.istore 4, 2) := by decide +kernel
theorem dX9_fits_149 : decode cX9_fits 149 = .ok (.iinc 5 1, 3) := by decide +kernel
theorem dX9_fits_152 : decode cX9_fits 152 = .ok (.goto (-132), 3) := by decide +kernel
theorem dX9_fits_155 : decode cX9_fits 155 = .ok (.iconst 1, 1) := by decide +kernel
theorem dX9_fits_156 : decode cX9_fits 156 = .ok (.ireturn, 1) := by decide +kernel
theorem dX9_build_0 : decode cX9_build 0 = .ok (.aload_n 0, 1) := by decide +kernel
theorem dX9_build_1 : decode cX9_build 1 = .ok (.aload_n 1, 1) := by decide +kernel
theorem dX9_build_2 : decode cX9_build 2 = .ok (.getfield 62, 3) := by decide +kernel
theorem dX9_build_5 : decode cX9_build 5 = .ok (.aload_n 2, 1) := by decide +kernel
theorem dX9_build_6 : decode cX9_build 6 = .ok (.aload_n 0, 1) := by decide +kernel
theorem dX9_build_7 : decode cX9_build 7 = .ok (.getfield 46, 3) := by decide +kernel
theorem dX9_build_10 : decode cX9_build 10 = .ok (.invokevirtual 67, 3) := by decide +kernel
theorem dX9_build_13 : decode cX9_build 13 = .ok (.ifCond .eq 17, 3) := by decide +kernel
theorem dX9_build_16 : decode cX9_build 16 = .ok (.aload_n 0, 1) := by decide +kernel
theorem dX9_build_17 : decode cX9_build 17 = .ok (.aload_n 1, 1) := by decide +kernel
theorem dX9_build_18 : decode cX9_build 18 = .ok (.getfield 82, 3) := by decide +kernel
theorem dX9_build_21 : decode cX9_build 21 = .ok (.aload_n 2, 1) := by decide +kernel
theorem dX9_build_22 : decode cX9_build 22 = .ok (.invokevirtual 85, 3) := by decide +kernel
theorem dX9_build_25 : decode cX9_build 25 = .ok (.bipush 60, 2) := by decide +kernel
theorem dX9_build_27 : decode cX9_build 27 = .ok (.if_icmp .le 5, 3) := by decide +kernel
theorem dX9_build_30 : decode cX9_build 30 = .ok (.iconst 0, 1) := by decide +kernel
theorem dX9_build_31 : decode cX9_build 31 = .ok (.ireturn, 1) := by decide +kernel
theorem dX9_build_32 : decode cX9_build 32 = .ok (.aload_n 0, 1) := by decide +kernel
theorem dX9_build_33 : decode cX9_build 33 = .ok (.getfield 14, 3) := by decide +kernel
theorem dX9_build_36 : decode cX9_build 36 = .ok (.iconst 0, 1) := by decide +kernel
theorem dX9_build_37 : decode cX9_build 37 = .ok (.putfield 49, 3) := by decide +kernel
theorem dX9_build_40 : decode cX9_build 40 = .ok (.iconst 0, 1) := by decide +kernel
theorem dX9_build_41 : decode cX9_build 41 = .ok (.istore_n 3, 1) := by decide +kernel
theorem dX9_build_42 : decode cX9_build 42 = .ok (.iload_n 3, 1) := by decide +kernel
theorem dX9_build_43 : decode cX9_build 43 = .ok (.aload_n 0, 1) := by decide +kernel
theorem dX9_build_44 : decode cX9_build 44 = .ok (.getfield 46, 3) := by decide +kernel
theorem dX9_build_47 : decode cX9_build 47 = .ok (.if_icmp .ge 22, 3) := by decide +kernel
theorem dX9_build_50 : decode cX9_build 50 = .ok (.aload_n 0, 1) := by decide +kernel
theorem dX9_build_51 : decode cX9_build 51 = .ok (.getfield 14, 3) := by decide +kernel
theorem dX9_build_54 : decode cX9_build 54 = .ok (.aload_n 2, 1) := by decide +kernel
theorem dX9_build_55 : decode cX9_build 55 = .ok (.getfield 71, 3) := by decide +kernel
theorem dX9_build_58 : decode cX9_build 58 = .ok (.iload_n 3, 1) := by decide +kernel
theorem dX9_build_59 : decode cX9_build 59 = .ok (.iaload, 1) := by decide +kernel
theorem dX9_build_60 : decode cX9_build 60 = .ok (.invokevirtual 89, 3) := by decide +kernel
theorem dX9_build_63 : decode cX9_build 63 = .ok (.iinc 3 1, 3) := by decide +kernel
theorem dX9_build_66 : decode cX9_build 66 = .ok (.goto (-24), 3) := by decide +kernel
theorem dX9_build_69 : decode cX9_build 69 = .ok (.iconst 0, 1) := by decide +kernel
theorem dX9_build_70 : decode cX9_build 70 = .ok (.istore_n 3, 1) := by decide +kernel
theorem dX9_build_71 : decode cX9_build 71 = .ok (.iload_n 3, 1) := by decide +kernel
theorem dX9_build_72 : decode cX9_build 72 = .ok (.aload_n 1, 1) := by decide +kernel
theorem dX9_build_73 : decode cX9_build 73 = .ok (.getfield 82, 3) := by decide +kernel
theorem dX9_build_76 : decode cX9_build 76 = .ok (.getfield 49, 3) := by decide +kernel
theorem dX9_build_79 : decode cX9_build 79 = .ok (.if_icmp .ge 58, 3) := by decide +kernel
theorem dX9_build_82 : decode cX9_build 82 = .ok (.aload_n 1, 1) := by decide +kernel
theorem dX9_build_83 : decode cX9_build 83 = .ok (.getfield 82, 3) := by decide +kernel
theorem dX9_build_86 : decode cX9_build 86 = .ok (.getfield 71, 3) := by decide +kernel
theorem dX9_build_89 : decode cX9_build 89 = .ok (.iload_n 3, 1) := by decide +kernel
theorem dX9_build_90 : decode cX9_build 90 = .ok (.iaload, 1) := by decide +kernel
theorem dX9_build_91 : decode cX9_build 91 = .ok (.istore 4, 2) := by decide +kernel
theorem dX9_build_93 : decode cX9_build 93 = .ok (.iload 4, 2) := by decide +kernel
theorem dX9_build_95 : decode cX9_build 95 = .ok (.invokestatic 92, 3) := by decide +kernel
theorem dX9_build_98 : decode cX9_build 98 = .ok (.ifCond .eq 24, 3) := by decide +kernel
theorem dX9_build_101 : decode cX9_build 101 = .ok (.aload_n 0, 1) := by decide +kernel
theorem dX9_build_102 : decode cX9_build 102 = .ok (.getfield 14, 3) := by decide +kernel
theorem dX9_build_105 : decode cX9_build 105 = .ok (.aload_n 2, 1) := by decide +kernel
theorem dX9_build_106 : decode cX9_build 106 = .ok (.aload_n 0, 1) := by decide +kernel
theorem dX9_build_107 : decode cX9_build 107 = .ok (.getfield 20, 3) := by decide +kernel
theorem dX9_build_110 : decode cX9_build 110 = .ok (.iload 4, 2) := by decide +kernel
theorem dX9_build_112 : decode cX9_build 112 = .ok (.invokestatic 74, 3) := by decide +kernel
theorem dX9_build_115 : decode cX9_build 115 = .ok (.iaload, 1) := by decide +kernel
theorem dX9_build_116 : decode cX9_build 116 = .ok (.invokevirtual 96, 3) := by decide +kernel
theorem dX9_build_119 : decode cX9_build 119 = .ok (.goto 12, 3) := by decide +kernel
theorem dX9_build_122 : decode cX9_build 122 = .ok (.aload_n 0, 1) := by decide +kernel
theorem dX9_build_123 : decode cX9_build 123 = .ok (.getfield 14, 3) := by decide +kernel
theorem dX9_build_126 : decode cX9_build 126 = .ok (.iload 4, 2) := by decide +kernel
theorem dX9_build_128 : decode cX9_build 128 = .ok (.invokevirtual 89, 3) := by decide +kernel
theorem dX9_build_131 : decode cX9_build 131 = .ok (.iinc 3 1, 3) := by decide +kernel
theorem dX9_build_134 : decode cX9_build 134 = .ok (.goto (-63), 3) := by decide +kernel
theorem dX9_build_137 : decode cX9_build 137 = .ok (.aload_n 2, 1) := by decide +kernel
theorem dX9_build_138 : decode cX9_build 138 = .ok (.getfield 52, 3) := by decide +kernel
theorem dX9_build_141 : decode cX9_build 141 = .ok (.aload_n 0, 1) := by decide +kernel
theorem dX9_build_142 : decode cX9_build 142 = .ok (.getfield 46, 3) := by decide +kernel
theorem dX9_build_145 : decode cX9_build 145 = .ok (.iaload, 1) := by decide +kernel
theorem dX9_build_146 : decode cX9_build 146 = .ok (.istore_n 3, 1) := by decide +kernel
theorem dX9_build_147 : decode cX9_build 147 = .ok (.iload_n 3, 1) := by decide +kernel
theorem dX9_build_148 : decode cX9_build 148 = .ok (.aload_n 2, 1) := by decide +kernel
theorem dX9_build_149 : decode cX9_build 149 = .ok (.getfield 49, 3) := by decide +kernel
theorem dX9_build_152 : decode cX9_build 152 = .ok (.if_icmp .ge 22, 3) := by decide +kernel
theorem dX9_build_155 : decode cX9_build 155 = .ok (.aload_n 0, 1) := by decide +kernel
theorem dX9_build_156 : decode cX9_build 156 = .ok (.getfield 14, 3) := by decide +kernel
theorem dX9_build_159 : decode cX9_build 159 = .ok (.aload_n 2, 1) := by decide +kernel
theorem dX9_build_160 : decode cX9_build 160 = .ok (.getfield 71, 3) := by decide +kernel
theorem dX9_build_163 : decode cX9_build 163 = .ok (.iload_n 3, 1) := by decide +kernel
theorem dX9_build_164 : decode cX9_build 164 = .ok (.iaload, 1) := by decide +kernel
theorem dX9_build_165 : decode cX9_build 165 = .ok (.invokevirtual 89, 3) := by decide +kernel
theorem dX9_build_168 : decode cX9_build 168 = .ok (.iinc 3 1, 3) := by decide +kernel
theorem dX9_build_171 : decode cX9_build 171 = .ok (.goto (-24), 3) := by decide +kernel
theorem dX9_build_174 : decode cX9_build 174 = .ok (.aload_n 0, 1) := by decide +kernel
theorem dX9_build_175 : decode cX9_build 175 = .ok (.getfield 14, 3) := by decide +kernel
theorem dX9_build_178 : decode cX9_build 178 = .ok (.invokevirtual 100, 3) := by decide +kernel
theorem dX9_build_181 : decode cX9_build 181 = .ok (.iconst 1, 1) := by decide +kernel
theorem dX9_build_182 : decode cX9_build 182 = .ok (.ireturn, 1) := by decide +kernel
theorem dX9_sizeBehind_0 : decode cX9_sizeBehind 0 = .ok (.aload_n 2, 1) := by decide +kernel
theorem dX9_sizeBehind_1 : decode cX9_sizeBehind 1 = .ok (.getfield 49, 3) := by decide +kernel
theorem dX9_sizeBehind_4 : decode cX9_sizeBehind 4 = .ok (.aload_n 2, 1) := by decide +kernel
theorem dX9_sizeBehind_5 : decode cX9_sizeBehind 5 = .ok (.aload_n 0, 1) := by decide +kernel
theorem dX9_sizeBehind_6 : decode cX9_sizeBehind 6 = .ok (.getfield 46, 3) := by decide +kernel
theorem dX9_sizeBehind_9 : decode cX9_sizeBehind 9 = .ok (.invokevirtual 103, 3) := by decide +kernel
theorem dX9_sizeBehind_12 : decode cX9_sizeBehind 12 = .ok (.isub, 1) := by decide +kernel
theorem dX9_sizeBehind_13 : decode cX9_sizeBehind 13 = .ok (.istore_n 3, 1) := by decide +kernel
theorem dX9_sizeBehind_14 : decode cX9_sizeBehind 14 = .ok (.iconst 0, 1) := by decide +kernel
theorem dX9_sizeBehind_15 : decode cX9_sizeBehind 15 = .ok (.istore 4, 2) := by decide +kernel
theorem dX9_sizeBehind_17 : decode cX9_sizeBehind 17 = .ok (.iload 4, 2) := by decide +kernel
theorem dX9_sizeBehind_19 : decode cX9_sizeBehind 19 = .ok (.aload_n 1, 1) := by decide +kernel
theorem dX9_sizeBehind_20 : decode cX9_sizeBehind 20 = .ok (.getfield 49, 3) := by decide +kernel
theorem dX9_sizeBehind_23 : decode cX9_sizeBehind 23 = .ok (.if_icmp .ge 44, 3) := by decide +kernel
theorem dX9_sizeBehind_26 : decode cX9_sizeBehind 26 = .ok (.aload_n 1, 1) := by decide +kernel
theorem dX9_sizeBehind_27 : decode cX9_sizeBehind 27 = .ok (.getfield 71, 3) := by decide +kernel
theorem dX9_sizeBehind_30 : decode cX9_sizeBehind 30 = .ok (.iload 4, 2) := by decide +kernel
theorem dX9_sizeBehind_32 : decode cX9_sizeBehind 32 = .ok (.iaload, 1) := by decide +kernel
theorem dX9_sizeBehind_33 : decode cX9_sizeBehind 33 = .ok (.invokestatic 74, 3) := by decide +kernel
theorem dX9_sizeBehind_36 : decode cX9_sizeBehind 36 = .ok (.istore 5, 2) := by decide +kernel
theorem dX9_sizeBehind_38 : decode cX9_sizeBehind 38 = .ok (.iload_n 3, 1) := by decide +kernel
theorem dX9_sizeBehind_39 : decode cX9_sizeBehind 39 = .ok (.iload 5, 2) := by decide +kernel
theorem dX9_sizeBehind_41 : decode cX9_sizeBehind 41 = .ok (.ifCond .ne 7, 3) := by decide +kernel
theorem dX9_sizeBehind_44 : decode cX9_sizeBehind 44 = .ok (.iconst 1, 1) := by decide +kernel
theorem dX9_sizeBehind_45 : decode cX9_sizeBehind 45 = .ok (.goto 14, 3) := by decide +kernel
theorem dX9_sizeBehind_48 : decode cX9_sizeBehind 48 = .ok (.aload_n 2, 1) := by decide +kernel
theorem dX9_sizeBehind_49 : decode cX9_sizeBehind 49 = .ok (.aload_n 0, 1) := by decide +kernel
theorem dX9_sizeBehind_50 : decode cX9_sizeBehind 50 = .ok (.getfield 20, 3) := by decide +kernel
theorem dX9_sizeBehind_53 : decode cX9_sizeBehind 53 = .ok (.iload 5, 2) := by decide +kernel
theorem dX9_sizeBehind_55 : decode cX9_sizeBehind 55 = .ok (.iaload, 1) := by decide +kernel
theorem dX9_sizeBehind_56 : decode cX9_sizeBehind 56 = .ok (.invokevirtual 103, 3) := by decide +kernel
theorem dX9_sizeBehind_59 : decode cX9_sizeBehind 59 = .ok (.iadd, 1) := by decide +kernel
theorem dX9_sizeBehind_60 : decode cX9_sizeBehind 60 = .ok (.istore_n 3, 1) := by decide +kernel
theorem dX9_sizeBehind_61 : decode cX9_sizeBehind 61 = .ok (.iinc 4 1, 3) := by decide +kernel
theorem dX9_sizeBehind_64 : decode cX9_sizeBehind 64 = .ok (.goto (-47), 3) := by decide +kernel
theorem dX9_sizeBehind_67 : decode cX9_sizeBehind 67 = .ok (.iload_n 3, 1) := by decide +kernel
theorem dX9_sizeBehind_68 : decode cX9_sizeBehind 68 = .ok (.ireturn, 1) := by decide +kernel
theorem dX10_init_0 : decode cX10_init 0 = .ok (.aload_n 0, 1) := by decide +kernel
theorem dX10_init_1 : decode cX10_init 1 = .ok (.invokespecial 1, 3) := by decide +kernel
theorem dX10_init_4 : decode cX10_init 4 = .ok (.aload_n 0, 1) := by decide +kernel
theorem dX10_init_5 : decode cX10_init 5 = .ok (.new 7, 3) := by decide +kernel
theorem dX10_init_8 : decode cX10_init 8 = .ok (.dup, 1) := by decide +kernel
theorem dX10_init_9 : decode cX10_init 9 = .ok (.invokespecial 9, 3) := by decide +kernel
theorem dX10_init_12 : decode cX10_init 12 = .ok (.putfield 10, 3) := by decide +kernel
theorem dX10_init_15 : decode cX10_init 15 = .ok (.aload_n 0, 1) := by decide +kernel
theorem dX10_init_16 : decode cX10_init 16 = .ok (.new 16, 3) := by decide +kernel
theorem dX10_init_19 : decode cX10_init 19 = .ok (.dup, 1) := by decide +kernel
theorem dX10_init_20 : decode cX10_init 20 = .ok (.invokespecial 18, 3) := by decide +kernel
theorem dX10_init_23 : decode cX10_init 23 = .ok (.putfield 19, 3) := by decide +kernel
theorem dX10_init_26 : decode cX10_init 26 = .ok (.aload_n 0, 1) := by decide +kernel
theorem dX10_init_27 : decode cX10_init 27 = .ok (.new 23, 3) := by decide +kernel
theorem dX10_init_30 : decode cX10_init 30 = .ok (.dup, 1) := by decide +kernel
theorem dX10_init_31 : decode cX10_init 31 = .ok (.invokespecial 25, 3) := by decide +kernel
theorem dX10_init_34 : decode cX10_init 34 = .ok (.putfield 26, 3) := by decide +kernel
theorem dX10_init_37 : decode cX10_init 37 = .ok (.aload_n 0, 1) := by decide +kernel
theorem dX10_init_38 : decode cX10_init 38 = .ok (.new 30, 3) := by decide +kernel
theorem dX10_init_41 : decode cX10_init 41 = .ok (.dup, 1) := by decide +kernel
theorem dX10_init_42 : decode cX10_init 42 = .ok (.invokespecial 32, 3) := by decide +kernel
theorem dX10_init_45 : decode cX10_init 45 = .ok (.putfield 33, 3) := by decide +kernel
theorem dX10_init_48 : decode cX10_init 48 = .ok (.aload_n 0, 1) := by decide +kernel
theorem dX10_init_49 : decode cX10_init 49 = .ok (.new 37, 3) := by decide +kernel
theorem dX10_init_52 : decode cX10_init 52 = .ok (.dup, 1) := by decide +kernel
theorem dX10_init_53 : decode cX10_init 53 = .ok (.invokespecial 39, 3) := by decide +kernel
theorem dX10_init_56 : decode cX10_init 56 = .ok (.putfield 40, 3) := by decide +kernel
theorem dX10_init_59 : decode cX10_init 59 = .ok (.aload_n 0, 1) := by decide +kernel
theorem dX10_init_60 : decode cX10_init 60 = .ok (.new 44, 3) := by decide +kernel
theorem dX10_init_63 : decode cX10_init 63 = .ok (.dup, 1) := by decide +kernel
theorem dX10_init_64 : decode cX10_init 64 = .ok (.invokespecial 46, 3) := by decide +kernel
theorem dX10_init_67 : decode cX10_init 67 = .ok (.putfield 47, 3) := by decide +kernel
theorem dX10_init_70 : decode cX10_init 70 = .ok (.aload_n 0, 1) := by decide +kernel
theorem dX10_init_71 : decode cX10_init 71 = .ok (.new 51, 3) := by decide +kernel
theorem dX10_init_74 : decode cX10_init 74 = .ok (.dup, 1) := by decide +kernel
theorem dX10_init_75 : decode cX10_init 75 = .ok (.invokespecial 53, 3) := by decide +kernel
theorem dX10_init_78 : decode cX10_init 78 = .ok (.putfield 54, 3) := by decide +kernel
theorem dX10_init_81 : decode cX10_init 81 = .ok (.aload_n 0, 1) := by decide +kernel
theorem dX10_init_82 : decode cX10_init 82 = .ok (.new 58, 3) := by decide +kernel
theorem dX10_init_85 : decode cX10_init 85 = .ok (.dup, 1) := by decide +kernel
theorem dX10_init_86 : decode cX10_init 86 = .ok (.bipush 60, 2) := by decide +kernel
theorem dX10_init_88 : decode cX10_init 88 = .ok (.invokespecial 60, 3) := by decide +kernel
theorem dX10_init_91 : decode cX10_init 91 = .ok (.putfield 63, 3) := by decide +kernel
theorem dX10_init_94 : decode cX10_init 94 = .ok (.aload_n 0, 1) := by decide +kernel
theorem dX10_init_95 : decode cX10_init 95 = .ok (.bipush 7, 2) := by decide +kernel
theorem dX10_init_97 : decode cX10_init 97 = .ok (.newarray .int, 2) := by decide +kernel
theorem dX10_init_99 : decode cX10_init 99 = .ok (.putfield 67, 3) := by decide +kernel
theorem dX10_init_102 : decode cX10_init 102 = .ok (.aload_n 0, 1) := by decide +kernel
theorem dX10_init_103 : decode cX10_init 103 = .ok (.bipush (-9), 2) := by decide +kernel
theorem dX10_init_105 : decode cX10_init 105 = .ok (.putfield 71, 3) := by decide +kernel
theorem dX10_init_108 : decode cX10_init 108 = .ok (.aload_n 0, 1) := by decide +kernel
theorem dX10_init_109 : decode cX10_init 109 = .ok (.getfield 10, 3) := by decide +kernel
theorem dX10_init_112 : decode cX10_init 112 = .ok (.getfield 75, 3) := by decide +kernel
theorem dX10_init_115 : decode cX10_init 115 = .ok (.bipush 97, 2) := by decide +kernel
theorem dX10_init_117 : decode cX10_init 117 = .ok (.invokevirtual 78, 3) := by decide +kernel
theorem dX10_init_120 : decode cX10_init 120 = .ok (.return_, 1) := by decide +kernel
theorem dX10_type_0 : decode cX10_type 0 = .ok (.iload_n 1, 1) := by decide +kernel
theorem dX10_type_1 : decode cX10_type 1 = .ok (.ifCond .lt 9, 3) := by decide +kernel
theorem dX10_type_4 : decode cX10_type 4 = .ok (.iload_n 1, 1) := by decide +kernel
theorem dX10_type_5 : decode cX10_type 5 = .ok (.bipush 127, 2) := by decide +kernel
theorem dX10_type_7 : decode cX10_type 7 = .ok (.if_icmp .le 8, 3) := by decide +kernel
theorem dX10_type_10 : decode cX10_type 10 = .ok (.aload_n 0, 1) := by decide +kernel
theorem dX10_type_11 : decode cX10_type 11 = .ok (.invokevirtual 81, 3) := by decide +kernel
theorem dX10_type_14 : decode cX10_type 14 = .ok (.ireturn, 1) := by decide +kernel
theorem dX10_type_15 : decode cX10_type 15 = .ok (.aload_n 0, 1) := by decide +kernel
theorem dX10_type_16 : decode cX10_type 16 = .ok (.getfield 26, 3) := by decide +kernel
theorem dX10_type_19 : decode cX10_type 19 = .ok (.getfield 85, 3) := by decide +kernel
theorem dX10_type_22 : decode cX10_type 22 = .ok (.bipush 120, 2) := by decide +kernel
theorem dX10_type_24 : decode cX10_type 24 = .ok (.if_icmp .lt 16, 3) := by decide +kernel
theorem dX10_type_27 : decode cX10_type 27 = .ok (.aload_n 0, 1) := by decide +kernel
theorem dX10_type_28 : decode cX10_type 28 = .ok (.dup, 1) := by decide +kernel
theorem dX10_type_29 : decode cX10_type 29 = .ok (.getfield 88, 3) := by decide +kernel
theorem dX10_type_32 : decode cX10_type 32 = .ok (.iconst 1, 1) := by decide +kernel
theorem dX10_type_33 : decode cX10_type 33 = .ok (.iadd, 1) := by decide +kernel
theorem dX10_type_34 : decode cX10_type 34 = .ok (.putfield 88, 3) := by decide +kernel
theorem dX10_type_37 : decode cX10_type 37 = .ok (.bipush (-4), 2) := by decide +kernel
theorem dX10_type_39 : decode cX10_type 39 = .ok (.ireturn, 1) := by decide +kernel
theorem dX10_type_40 : decode cX10_type 40 = .ok (.aload_n 0, 1) := by decide +kernel
theorem dX10_type_41 : decode cX10_type 41 = .ok (.getfield 26, 3) := by decide +kernel
theorem dX10_type_44 : decode cX10_type 44 = .ok (.iload_n 1, 1) := by decide +kernel
theorem dX10_type_45 : decode cX10_type 45 = .ok (.invokevirtual 91, 3) := by decide +kernel
theorem dX10_type_48 : decode cX10_type 48 = .ok (.aload_n 0, 1) := by decide +kernel
theorem dX10_type_49 : decode cX10_type 49 = .ok (.getfield 26, 3) := by decide +kernel
theorem dX10_type_52 : decode cX10_type 52 = .ok (.getfield 85, 3) := by decide +kernel
theorem dX10_type_55 : decode cX10_type 55 = .ok (.ireturn, 1) := by decide +kernel
theorem dX10_clear_0 : decode cX10_clear 0 = .ok (.aload_n 0, 1) := by decide +kernel
theorem dX10_clear_1 : decode cX10_clear 1 = .ok (.getfield 26, 3) := by decide +kernel
theorem dX10_clear_4 : decode cX10_clear 4 = .ok (.getfield 85, 3) := by decide +kernel
theorem dX10_clear_7 : decode cX10_clear 7 = .ok (.istore_n 1, 1) := by decide +kernel
theorem dX10_clear_8 : decode cX10_clear 8 = .ok (.aload_n 0, 1) := by decide +kernel
theorem dX10_clear_9 : decode cX10_clear 9 = .ok (.getfield 26, 3) := by decide +kernel
theorem dX10_clear_12 : decode cX10_clear 12 = .ok (.iconst 0, 1) := by decide +kernel
theorem dX10_clear_13 : decode cX10_clear 13 = .ok (.putfield 85, 3) := by decide +kernel
theorem dX10_clear_16 : decode cX10_clear 16 = .ok (.iload_n 1, 1) := by decide +kernel
theorem dX10_clear_17 : decode cX10_clear 17 = .ok (.ireturn, 1) := by decide +kernel
theorem dX10_reads_0 : decode cX10_reads 0 = .ok (.aload_n 0, 1) := by decide +kernel
theorem dX10_reads_1 : decode cX10_reads 1 = .ok (.getfield 26, 3) := by decide +kernel
theorem dX10_reads_4 : decode cX10_reads 4 = .ok (.aload_n 0, 1) := by decide +kernel
theorem dX10_reads_5 : decode cX10_reads 5 = .ok (.getfield 10, 3) := by decide +kernel
theorem dX10_reads_8 : decode cX10_reads 8 = .ok (.invokevirtual 94, 3) := by decide +kernel
theorem dX10_reads_11 : decode cX10_reads 11 = .ok (.istore_n 1, 1) := by decide +kernel
theorem dX10_reads_12 : decode cX10_reads 12 = .ok (.iload_n 1, 1) := by decide +kernel
theorem dX10_reads_13 : decode cX10_reads 13 = .ok (.iconst (-1), 1) := by decide +kernel
theorem dX10_reads_14 : decode cX10_reads 14 = .ok (.if_icmp .ne 14, 3) := by decide +kernel
theorem dX10_reads_17 : decode cX10_reads 17 = .ok (.bipush (-10), 2) := by decide +kernel
theorem dX10_reads_19 : decode cX10_reads 19 = .ok (.aload_n 0, 1) := by decide +kernel
theorem dX10_reads_20 : decode cX10_reads 20 = .ok (.getfield 26, 3) := by decide +kernel
theorem dX10_reads_23 : decode cX10_reads 23 = .ok (.getfield 98, 3) := by decide +kernel
theorem dX10_reads_26 : decode cX10_reads 26 = .ok (.isub, 1) := by decide +kernel
theorem dX10_reads_27 : decode cX10_reads 27 = .ok (.ireturn, 1) := by decide +kernel
theorem dX10_reads_28 : decode cX10_reads 28 = .ok (.aload_n 0, 1) := by decide +kernel
theorem dX10_reads_29 : decode cX10_reads 29 = .ok (.getfield 19, 3) := by decide +kernel
theorem dX10_reads_32 : decode cX10_reads 32 = .ok (.aload_n 0, 1) := by decide +kernel
theorem dX10_reads_33 : decode cX10_reads 33 = .ok (.getfield 10, 3) := by decide +kernel
theorem dX10_reads_36 : decode cX10_reads 36 = .ok (.invokevirtual 101, 3) := by decide +kernel
theorem dX10_reads_39 : decode cX10_reads 39 = .ok (.aload_n 0, 1) := by decide +kernel
theorem dX10_reads_40 : decode cX10_reads 40 = .ok (.getfield 10, 3) := by decide +kernel
theorem dX10_reads_43 : decode cX10_reads 43 = .ok (.iload_n 1, 1) := by decide +kernel
theorem dX10_reads_44 : decode cX10_reads 44 = .ok (.putfield 105, 3) := by decide +kernel
theorem dX10_reads_47 : decode cX10_reads 47 = .ok (.aload_n 0, 1) := by decide +kernel
theorem dX10_reads_48 : decode cX10_reads 48 = .ok (.invokevirtual 108, 3) := by decide +kernel
theorem dX10_reads_51 : decode cX10_reads 51 = .ok (.iload_n 1, 1) := by decide +kernel
theorem dX10_reads_52 : decode cX10_reads 52 = .ok (.ireturn, 1) := by decide +kernel
theorem dX10_term_0 : decode cX10_term 0 = .ok (.aload_n 0, 1) := by decide +kernel
theorem dX10_term_1 : decode cX10_term 1 = .ok (.getfield 26, 3) := by decide +kernel
theorem dX10_term_4 : decode cX10_term 4 = .ok (.aload_n 0, 1) := by decide +kernel
theorem dX10_term_5 : decode cX10_term 5 = .ok (.getfield 63, 3) := by decide +kernel
theorem dX10_term_8 : decode cX10_term 8 = .ok (.invokevirtual 111, 3) := by decide +kernel
theorem dX10_term_11 : decode cX10_term 11 = .ok (.ifCond .ne 14, 3) := by decide +kernel
theorem dX10_term_14 : decode cX10_term 14 = .ok (.bipush (-10), 2) := by decide +kernel
theorem dX10_term_16 : decode cX10_term 16 = .ok (.aload_n 0, 1) := by decide +kernel
theorem dX10_term_17 : decode cX10_term 17 = .ok (.getfield 26, 3) := by decide +kernel
theorem dX10_term_20 : decode cX10_term 20 = .ok (.getfield 98, 3) := by decide +kernel
theorem dX10_term_23 : decode cX10_term 23 = .ok (.isub, 1) := by decide +kernel
theorem dX10_term_24 : decode cX10_term 24 = .ok (.ireturn, 1) := by decide +kernel
theorem dX10_term_25 : decode cX10_term 25 = .ok (.aload_n 0, 1) := by decide +kernel
theorem dX10_term_26 : decode cX10_term 26 = .ok (.getfield 19, 3) := by decide +kernel
theorem dX10_term_29 : decode cX10_term 29 = .ok (.aload_n 0, 1) := by decide +kernel
theorem dX10_term_30 : decode cX10_term 30 = .ok (.getfield 10, 3) := by decide +kernel
theorem dX10_term_33 : decode cX10_term 33 = .ok (.invokevirtual 101, 3) := by decide +kernel
theorem dX10_term_36 : decode cX10_term 36 = .ok (.aload_n 0, 1) := by decide +kernel
theorem dX10_term_37 : decode cX10_term 37 = .ok (.getfield 10, 3) := by decide +kernel
theorem dX10_term_40 : decode cX10_term 40 = .ok (.getfield 75, 3) := by decide +kernel
theorem dX10_term_43 : decode cX10_term 43 = .ok (.aload_n 0, 1) := by decide +kernel
theorem dX10_term_44 : decode cX10_term 44 = .ok (.getfield 63, 3) := by decide +kernel
theorem dX10_term_47 : decode cX10_term 47 = .ok (.invokevirtual 115, 3) := by decide +kernel
theorem dX10_term_50 : decode cX10_term 50 = .ok (.aload_n 0, 1) := by decide +kernel
theorem dX10_term_51 : decode cX10_term 51 = .ok (.getfield 10, 3) := by decide +kernel
theorem dX10_term_54 : decode cX10_term 54 = .ok (.getfield 75, 3) := by decide +kernel
theorem dX10_term_57 : decode cX10_term 57 = .ok (.getfield 119, 3) := by decide +kernel
theorem dX10_term_60 : decode cX10_term 60 = .ok (.ireturn, 1) := by decide +kernel
theorem dX10_drops_0 : decode cX10_drops 0 = .ok (.aload_n 0, 1) := by decide +kernel
theorem dX10_drops_1 : decode cX10_drops 1 = .ok (.iload_n 1, 1) := by decide +kernel
theorem dX10_drops_2 : decode cX10_drops 2 = .ok (.invokevirtual 122, 3) := by decide +kernel
theorem dX10_drops_5 : decode cX10_drops 5 = .ok (.ifCond .ne 8, 3) := by decide +kernel
theorem dX10_drops_8 : decode cX10_drops 8 = .ok (.aload_n 0, 1) := by decide +kernel
theorem dX10_drops_9 : decode cX10_drops 9 = .ok (.invokevirtual 81, 3) := by decide +kernel
theorem dX10_drops_12 : decode cX10_drops 12 = .ok (.ireturn, 1) := by decide +kernel
theorem dX10_drops_13 : decode cX10_drops 13 = .ok (.aload_n 0, 1) := by decide +kernel
theorem dX10_drops_14 : decode cX10_drops 14 = .ok (.getfield 19, 3) := by decide +kernel
theorem dX10_drops_17 : decode cX10_drops 17 = .ok (.aload_n 0, 1) := by decide +kernel
theorem dX10_drops_18 : decode cX10_drops 18 = .ok (.getfield 10, 3) := by decide +kernel
theorem dX10_drops_21 : decode cX10_drops 21 = .ok (.invokevirtual 101, 3) := by decide +kernel
theorem dX10_drops_24 : decode cX10_drops 24 = .ok (.aload_n 0, 1) := by decide +kernel
theorem dX10_drops_25 : decode cX10_drops 25 = .ok (.getfield 10, 3) := by decide +kernel
theorem dX10_drops_28 : decode cX10_drops 28 = .ok (.iload_n 1, 1) := by decide +kernel
theorem dX10_drops_29 : decode cX10_drops 29 = .ok (.invokevirtual 126, 3) := by decide +kernel
theorem dX10_drops_32 : decode cX10_drops 32 = .ok (.aload_n 0, 1) := by decide +kernel
theorem dX10_drops_33 : decode cX10_drops 33 = .ok (.invokevirtual 108, 3) := by decide +kernel
theorem dX10_drops_36 : decode cX10_drops 36 = .ok (.aload_n 0, 1) := by decide +kernel
theorem dX10_drops_37 : decode cX10_drops 37 = .ok (.getfield 10, 3) := by decide +kernel
theorem dX10_drops_40 : decode cX10_drops 40 = .ok (.getfield 105, 3) := by decide +kernel
theorem dX10_drops_43 : decode cX10_drops 43 = .ok (.ireturn, 1) := by decide +kernel
theorem dX10_first_0 : decode cX10_first 0 = .ok (.aload_n 0, 1) := by decide +kernel
theorem dX10_first_1 : decode cX10_first 1 = .ok (.iload_n 1, 1) := by decide +kernel
theorem dX10_first_2 : decode cX10_first 2 = .ok (.invokevirtual 122, 3) := by decide +kernel
theorem dX10_first_5 : decode cX10_first 5 = .ok (.ifCond .ne 8, 3) := by decide +kernel
theorem dX10_first_8 : decode cX10_first 8 = .ok (.aload_n 0, 1) := by decide +kernel
theorem dX10_first_9 : decode cX10_first 9 = .ok (.invokevirtual 81, 3) := by decide +kernel
theorem dX10_first_12 : decode cX10_first 12 = .ok (.ireturn, 1) := by decide +kernel
theorem dX10_first_13 : decode cX10_first 13 = .ok (.aload_n 0, 1) := by decide +kernel
theorem dX10_first_14 : decode cX10_first 14 = .ok (.getfield 19, 3) := by decide +kernel
theorem dX10_first_17 : decode cX10_first 17 = .ok (.aload_n 0, 1) := by decide +kernel
theorem dX10_first_18 : decode cX10_first 18 = .ok (.getfield 10, 3) := by decide +kernel
theorem dX10_first_21 : decode cX10_first 21 = .ok (.invokevirtual 101, 3) := by decide +kernel
theorem dX10_first_24 : decode cX10_first 24 = .ok (.aload_n 0, 1) := by decide +kernel
theorem dX10_first_25 : decode cX10_first 25 = .ok (.getfield 10, 3) := by decide +kernel
theorem dX10_first_28 : decode cX10_first 28 = .ok (.iload_n 1, 1) := by decide +kernel
theorem dX10_first_29 : decode cX10_first 29 = .ok (.invokevirtual 129, 3) := by decide +kernel
theorem dX10_first_32 : decode cX10_first 32 = .ok (.aload_n 0, 1) := by decide +kernel
theorem dX10_first_33 : decode cX10_first 33 = .ok (.invokevirtual 108, 3) := by decide +kernel
theorem dX10_first_36 : decode cX10_first 36 = .ok (.iload_n 1, 1) := by decide +kernel
theorem dX10_first_37 : decode cX10_first 37 = .ok (.ireturn, 1) := by decide +kernel
theorem dX10_of_0 : decode cX10_of 0 = .ok (.aload_n 0, 1) := by decide +kernel
theorem dX10_of_1 : decode cX10_of 1 = .ok (.iload_n 1, 1) := by decide +kernel
theorem dX10_of_2 : decode cX10_of 2 = .ok (.invokevirtual 122, 3) := by decide +kernel
theorem dX10_of_5 : decode cX10_of 5 = .ok (.ifCond .eq 12, 3) := by decide +kernel
theorem dX10_of_8 : decode cX10_of 8 = .ok (.iload_n 2, 1) := by decide +kernel
theorem dX10_of_9 : decode cX10_of 9 = .ok (.ifCond .lt 8, 3) := by decide +kernel
theorem dX10_of_12 : decode cX10_of 12 = .ok (.iload_n 2, 1) := by decide +kernel
theorem dX10_of_13 : decode cX10_of 13 = .ok (.iconst 5, 1) := by decide +kernel
theorem dX10_of_14 : decode cX10_of 14 = .ok (.if_icmp .le 8, 3) := by decide +kernel
theorem dX10_of_17 : decode cX10_of 17 = .ok (.aload_n 0, 1) := by decide +kernel
theorem dX10_of_18 : decode cX10_of 18 = .ok (.invokevirtual 81, 3) := by decide +kernel
theorem dX10_of_21 : decode cX10_of 21 = .ok (.ireturn, 1) := by decide +kernel
theorem dX10_of_22 : decode cX10_of 22 = .ok (.aload_n 0, 1) := by decide +kernel
theorem dX10_of_23 : decode cX10_of 23 = .ok (.getfield 10, 3) := by decide +kernel
theorem dX10_of_26 : decode cX10_of 26 = .ok (.getfield 132, 3) := by decide +kernel
theorem dX10_of_29 : decode cX10_of 29 = .ok (.iload_n 1, 1) := by decide +kernel
theorem dX10_of_30 : decode cX10_of 30 = .ok (.aaload, 1) := by decide +kernel
theorem dX10_of_31 : decode cX10_of 31 = .ok (.astore_n 3, 1) := by decide +kernel
theorem dX10_of_32 : decode cX10_of 32 = .ok (.iload_n 2, 1) := by decide +kernel
theorem dX10_of_33 : decode cX10_of 33 = .ok (.tableswitch 77 0 4 #[35, 43, 51, 61, 69], 35) := by decide +kernel
theorem dX10_of_68 : decode cX10_of 68 = .ok (.aload_n 3, 1) := by decide +kernel
theorem dX10_of_69 : decode cX10_of 69 = .ok (.getfield 136, 3) := by decide +kernel
theorem dX10_of_72 : decode cX10_of 72 = .ok (.getfield 119, 3) := by decide +kernel
theorem dX10_of_75 : decode cX10_of 75 = .ok (.ireturn, 1) := by decide +kernel
theorem dX10_of_76 : decode cX10_of 76 = .ok (.aload_n 3, 1) := by decide +kernel
theorem dX10_of_77 : decode cX10_of 77 = .ok (.getfield 141, 3) := by decide +kernel
theorem dX10_of_80 : decode cX10_of 80 = .ok (.getfield 119, 3) := by decide +kernel
theorem dX10_of_83 : decode cX10_of 83 = .ok (.ireturn, 1) := by decide +kernel
theorem dX10_of_84 : decode cX10_of 84 = .ok (.aload_n 3, 1) := by decide +kernel
theorem dX10_of_85 : decode cX10_of 85 = .ok (.getfield 136, 3) := by decide +kernel
theorem dX10_of_88 : decode cX10_of 88 = .ok (.getfield 144, 3) := by decide +kernel
theorem dX10_of_91 : decode cX10_of 91 = .ok (.iconst 0, 1) := by decide +kernel
theorem dX10_of_92 : decode cX10_of 92 = .ok (.iaload, 1) := by decide +kernel
theorem dX10_of_93 : decode cX10_of 93 = .ok (.ireturn, 1) := by decide +kernel
theorem dX10_of_94 : decode cX10_of 94 = .ok (.aload_n 3, 1) := by decide +kernel
theorem dX10_of_95 : decode cX10_of 95 = .ok (.getfield 136, 3) := by decide +kernel
theorem dX10_of_98 : decode cX10_of 98 = .ok (.invokevirtual 147, 3) := by decide +kernel
theorem dX10_of_101 : decode cX10_of 101 = .ok (.ireturn, 1) := by decide +kernel
theorem dX10_of_102 : decode cX10_of 102 = .ok (.aload_n 3, 1) := by decide +kernel
theorem dX10_of_103 : decode cX10_of 103 = .ok (.getfield 141, 3) := by decide +kernel
theorem dX10_of_106 : decode cX10_of 106 = .ok (.invokevirtual 147, 3) := by decide +kernel
theorem dX10_of_109 : decode cX10_of 109 = .ok (.ireturn, 1) := by decide +kernel
theorem dX10_of_110 : decode cX10_of 110 = .ok (.aload_n 0, 1) := by decide +kernel
theorem dX10_of_111 : decode cX10_of 111 = .ok (.invokevirtual 150, 3) := by decide +kernel
theorem dX10_of_114 : decode cX10_of 114 = .ok (.aload_n 0, 1) := by decide +kernel
theorem dX10_of_115 : decode cX10_of 115 = .ok (.getfield 40, 3) := by decide +kernel
theorem dX10_of_118 : decode cX10_of 118 = .ok (.getfield 153, 3) := by decide +kernel
theorem dX10_of_121 : decode cX10_of 121 = .ok (.iload_n 1, 1) := by decide +kernel
theorem dX10_of_122 : decode cX10_of 122 = .ok (.laload, 1) := by decide +kernel
theorem dX10_of_123 : decode cX10_of 123 = .ok (.invokestatic 157, 3) := by decide +kernel
theorem dX10_of_126 : decode cX10_of 126 = .ok (.ireturn, 1) := by decide +kernel
theorem dX10_shown_0 : decode cX10_shown 0 = .ok (.aload_n 0, 1) := by decide +kernel
theorem dX10_shown_1 : decode cX10_shown 1 = .ok (.iload_n 1, 1) := by decide +kernel
theorem dX10_shown_2 : decode cX10_shown 2 = .ok (.invokevirtual 122, 3) := by decide +kernel
theorem dX10_shown_5 : decode cX10_shown 5 = .ok (.ifCond .eq 8, 3) := by decide +kernel
theorem dX10_shown_8 : decode cX10_shown 8 = .ok (.iload_n 2, 1) := by decide +kernel
theorem dX10_shown_9 : decode cX10_shown 9 = .ok (.iconst (-1), 1) := by decide +kernel
theorem dX10_shown_10 : decode cX10_shown 10 = .ok (.if_icmp .ge 8, 3) := by decide +kernel
theorem dX10_shown_13 : decode cX10_shown 13 = .ok (.aload_n 0, 1) := by decide +kernel
theorem dX10_shown_14 : decode cX10_shown 14 = .ok (.invokevirtual 81, 3) := by decide +kernel
theorem dX10_shown_17 : decode cX10_shown 17 = .ok (.ireturn, 1) := by decide +kernel
theorem dX10_shown_18 : decode cX10_shown 18 = .ok (.aload_n 0, 1) := by decide +kernel
theorem dX10_shown_19 : decode cX10_shown 19 = .ok (.getfield 33, 3) := by decide +kernel
theorem dX10_shown_22 : decode cX10_shown 22 = .ok (.aload_n 0, 1) := by decide +kernel
theorem dX10_shown_23 : decode cX10_shown 23 = .ok (.getfield 10, 3) := by decide +kernel
theorem dX10_shown_26 : decode cX10_shown 26 = .ok (.getfield 132, 3) := by decide +kernel
theorem dX10_shown_29 : decode cX10_shown 29 = .ok (.iload_n 1, 1) := by decide +kernel
theorem dX10_shown_30 : decode cX10_shown 30 = .ok (.aaload, 1) := by decide +kernel
theorem dX10_shown_31 : decode cX10_shown 31 = .ok (.invokevirtual 163, 3) := by decide +kernel
theorem dX10_shown_34 : decode cX10_shown 34 = .ok (.iload_n 2, 1) := by decide +kernel
theorem dX10_shown_35 : decode cX10_shown 35 = .ok (.iconst (-1), 1) := by decide +kernel
theorem dX10_shown_36 : decode cX10_shown 36 = .ok (.if_icmp .ne 11, 3) := by decide +kernel
theorem dX10_shown_39 : decode cX10_shown 39 = .ok (.aload_n 0, 1) := by decide +kernel
theorem dX10_shown_40 : decode cX10_shown 40 = .ok (.getfield 33, 3) := by decide +kernel
theorem dX10_shown_43 : decode cX10_shown 43 = .ok (.getfield 167, 3) := by decide +kernel
theorem dX10_shown_46 : decode cX10_shown 46 = .ok (.ireturn, 1) := by decide +kernel
theorem dX10_shown_47 : decode cX10_shown 47 = .ok (.iload_n 2, 1) := by decide +kernel
theorem dX10_shown_48 : decode cX10_shown 48 = .ok (.aload_n 0, 1) := by decide +kernel
theorem dX10_shown_49 : decode cX10_shown 49 = .ok (.getfield 33, 3) := by decide +kernel
theorem dX10_shown_52 : decode cX10_shown 52 = .ok (.getfield 167, 3) := by decide +kernel
theorem dX10_shown_55 : decode cX10_shown 55 = .ok (.if_icmp .ge 15, 3) := by decide +kernel
theorem dX10_shown_58 : decode cX10_shown 58 = .ok (.aload_n 0, 1) := by decide +kernel
theorem dX10_shown_59 : decode cX10_shown 59 = .ok (.getfield 33, 3) := by decide +kernel
theorem dX10_shown_62 : decode cX10_shown 62 = .ok (.getfield 168, 3) := by decide +kernel
theorem dX10_shown_65 : decode cX10_shown 65 = .ok (.iload_n 2, 1) := by decide +kernel
theorem dX10_shown_66 : decode cX10_shown 66 = .ok (.iaload, 1) := by decide +kernel
theorem dX10_shown_67 : decode cX10_shown 67 = .ok (.goto 5, 3) := by decide +kernel
theorem dX10_shown_70 : decode cX10_shown 70 = .ok (.bipush (-5), 2) := by decide +kernel
theorem dX10_shown_72 : decode cX10_shown 72 = .ok (.ireturn, 1) := by decide +kernel
theorem dX10_fall_0 : decode cX10_fall 0 = .ok (.aload_n 0, 1) := by decide +kernel
theorem dX10_fall_1 : decode cX10_fall 1 = .ok (.getfield 71, 3) := by decide +kernel
theorem dX10_fall_4 : decode cX10_fall 4 = .ok (.bipush (-9), 2) := by decide +kernel
theorem dX10_fall_6 : decode cX10_fall 6 = .ok (.if_icmp .ne 23, 3) := by decide +kernel
theorem dX10_fall_9 : decode cX10_fall 9 = .ok (.aload_n 0, 1) := by decide +kernel
theorem dX10_fall_10 : decode cX10_fall 10 = .ok (.aload_n 0, 1) := by decide +kernel
theorem dX10_fall_11 : decode cX10_fall 11 = .ok (.getfield 47, 3) := by decide +kernel
theorem dX10_fall_14 : decode cX10_fall 14 = .ok (.aload_n 0, 1) := by decide +kernel
theorem dX10_fall_15 : decode cX10_fall 15 = .ok (.getfield 10, 3) := by decide +kernel
theorem dX10_fall_18 : decode cX10_fall 18 = .ok (.aload_n 0, 1) := by decide +kernel
theorem dX10_fall_19 : decode cX10_fall 19 = .ok (.getfield 40, 3) := by decide +kernel
theorem dX10_fall_22 : decode cX10_fall 22 = .ok (.iconst (-1), 1) := by decide +kernel
theorem dX10_fall_23 : decode cX10_fall 23 = .ok (.invokevirtual 171, 3) := by decide +kernel
theorem dX10_fall_26 : decode cX10_fall 26 = .ok (.putfield 71, 3) := by decide +kernel
theorem dX10_fall_29 : decode cX10_fall 29 = .ok (.aload_n 0, 1) := by decide +kernel
theorem dX10_fall_30 : decode cX10_fall 30 = .ok (.getfield 71, 3) := by decide +kernel
theorem dX10_fall_33 : decode cX10_fall 33 = .ok (.ireturn, 1) := by decide +kernel
theorem dX10_weighs_0 : decode cX10_weighs 0 = .ok (.aload_n 0, 1) := by decide +kernel
theorem dX10_weighs_1 : decode cX10_weighs 1 = .ok (.iload_n 1, 1) := by decide +kernel
theorem dX10_weighs_2 : decode cX10_weighs 2 = .ok (.invokevirtual 175, 3) := by decide +kernel
theorem dX10_weighs_5 : decode cX10_weighs 5 = .ok (.ifCond .eq 11, 3) := by decide +kernel
theorem dX10_weighs_8 : decode cX10_weighs 8 = .ok (.aload_n 0, 1) := by decide +kernel
theorem dX10_weighs_9 : decode cX10_weighs 9 = .ok (.iload_n 2, 1) := by decide +kernel
theorem dX10_weighs_10 : decode cX10_weighs 10 = .ok (.invokevirtual 122, 3) := by decide +kernel
theorem dX10_weighs_13 : decode cX10_weighs 13 = .ok (.ifCond .ne 8, 3) := by decide +kernel
theorem dX10_weighs_16 : decode cX10_weighs 16 = .ok (.aload_n 0, 1) := by decide +kernel
theorem dX10_weighs_17 : decode cX10_weighs 17 = .ok (.invokevirtual 81, 3) := by decide +kernel
theorem dX10_weighs_20 : decode cX10_weighs 20 = .ok (.ireturn, 1) := by decide +kernel
theorem dX10_weighs_21 : decode cX10_weighs 21 = .ok (.aload_n 0, 1) := by decide +kernel
theorem dX10_weighs_22 : decode cX10_weighs 22 = .ok (.getfield 47, 3) := by decide +kernel
theorem dX10_weighs_25 : decode cX10_weighs 25 = .ok (.aload_n 0, 1) := by decide +kernel
theorem dX10_weighs_26 : decode cX10_weighs 26 = .ok (.getfield 10, 3) := by decide +kernel
theorem dX10_weighs_29 : decode cX10_weighs 29 = .ok (.getfield 132, 3) := by decide +kernel
theorem dX10_weighs_32 : decode cX10_weighs 32 = .ok (.iload_n 2, 1) := by decide +kernel
theorem dX10_weighs_33 : decode cX10_weighs 33 = .ok (.aaload, 1) := by decide +kernel
theorem dX10_weighs_34 : decode cX10_weighs 34 = .ok (.aload_n 0, 1) := by decide +kernel
theorem dX10_weighs_35 : decode cX10_weighs 35 = .ok (.getfield 67, 3) := by decide +kernel
theorem dX10_weighs_38 : decode cX10_weighs 38 = .ok (.invokevirtual 178, 3) := by decide +kernel
theorem dX10_weighs_41 : decode cX10_weighs 41 = .ok (.ireturn, 1) := by decide +kernel
theorem dX10_weight_0 : decode cX10_weight 0 = .ok (.aload_n 0, 1) := by decide +kernel
theorem dX10_weight_1 : decode cX10_weight 1 = .ok (.iload_n 1, 1) := by decide +kernel
theorem dX10_weight_2 : decode cX10_weight 2 = .ok (.invokevirtual 175, 3) := by decide +kernel
theorem dX10_weight_5 : decode cX10_weight 5 = .ok (.ifCond .ne 8, 3) := by decide +kernel
theorem dX10_weight_8 : decode cX10_weight 8 = .ok (.aload_n 0, 1) := by decide +kernel
theorem dX10_weight_9 : decode cX10_weight 9 = .ok (.invokevirtual 81, 3) := by decide +kernel
theorem dX10_weight_12 : decode cX10_weight 12 = .ok (.ireturn, 1) := by decide +kernel
theorem dX10_weight_13 : decode cX10_weight 13 = .ok (.aload_n 0, 1) := by decide +kernel
theorem dX10_weight_14 : decode cX10_weight 14 = .ok (.getfield 47, 3) := by decide +kernel
theorem dX10_weight_17 : decode cX10_weight 17 = .ok (.aload_n 0, 1) := by decide +kernel
theorem dX10_weight_18 : decode cX10_weight 18 = .ok (.getfield 10, 3) := by decide +kernel
theorem dX10_weight_21 : decode cX10_weight 21 = .ok (.getfield 75, 3) := by decide +kernel
theorem dX10_weight_24 : decode cX10_weight 24 = .ok (.aload_n 0, 1) := by decide +kernel
theorem dX10_weight_25 : decode cX10_weight 25 = .ok (.getfield 67, 3) := by decide +kernel
theorem dX10_weight_28 : decode cX10_weight 28 = .ok (.invokevirtual 182, 3) := by decide +kernel
theorem dX10_weight_31 : decode cX10_weight 31 = .ok (.ireturn, 1) := by decide +kernel
theorem dX10_calls_0 : decode cX10_calls 0 = .ok (.iload_n 1, 1) := by decide +kernel
theorem dX10_calls_1 : decode cX10_calls 1 = .ok (.ifCond .lt 8, 3) := by decide +kernel
theorem dX10_calls_4 : decode cX10_calls 4 = .ok (.iload_n 1, 1) := by decide +kernel
theorem dX10_calls_5 : decode cX10_calls 5 = .ok (.iconst 2, 1) := by decide +kernel
theorem dX10_calls_6 : decode cX10_calls 6 = .ok (.if_icmp .le 8, 3) := by decide +kernel
theorem dX10_calls_9 : decode cX10_calls 9 = .ok (.aload_n 0, 1) := by decide +kernel
theorem dX10_calls_10 : decode cX10_calls 10 = .ok (.invokevirtual 81, 3) := by decide +kernel
theorem dX10_calls_13 : decode cX10_calls 13 = .ok (.ireturn, 1) := by decide +kernel
theorem dX10_calls_14 : decode cX10_calls 14 = .ok (.aload_n 0, 1) := by decide +kernel
theorem dX10_calls_15 : decode cX10_calls 15 = .ok (.invokevirtual 150, 3) := by decide +kernel
theorem dX10_calls_18 : decode cX10_calls 18 = .ok (.iload_n 1, 1) := by decide +kernel
theorem dX10_calls_19 : decode cX10_calls 19 = .ok (.ifCond .ne 11, 3) := by decide +kernel
theorem dX10_calls_22 : decode cX10_calls 22 = .ok (.aload_n 0, 1) := by decide +kernel
theorem dX10_calls_23 : decode cX10_calls 23 = .ok (.getfield 40, 3) := by decide +kernel
theorem dX10_calls_26 : decode cX10_calls 26 = .ok (.getfield 186, 3) := by decide +kernel
theorem dX10_calls_29 : decode cX10_calls 29 = .ok (.ireturn, 1) := by decide +kernel
theorem dX10_calls_30 : decode cX10_calls 30 = .ok (.iload_n 1, 1) := by decide +kernel
theorem dX10_calls_31 : decode cX10_calls 31 = .ok (.iconst 1, 1) := by decide +kernel
theorem dX10_calls_32 : decode cX10_calls 32 = .ok (.if_icmp .ne 11, 3) := by decide +kernel
theorem dX10_calls_35 : decode cX10_calls 35 = .ok (.aload_n 0, 1) := by decide +kernel
theorem dX10_calls_36 : decode cX10_calls 36 = .ok (.getfield 40, 3) := by decide +kernel
theorem dX10_calls_39 : decode cX10_calls 39 = .ok (.getfield 187, 3) := by decide +kernel
theorem dX10_calls_42 : decode cX10_calls 42 = .ok (.ireturn, 1) := by decide +kernel
theorem dX10_calls_43 : decode cX10_calls 43 = .ok (.aload_n 0, 1) := by decide +kernel
theorem dX10_calls_44 : decode cX10_calls 44 = .ok (.invokevirtual 190, 3) := by decide +kernel
theorem dX10_calls_47 : decode cX10_calls 47 = .ok (.aload_n 0, 1) := by decide +kernel
theorem dX10_calls_48 : decode cX10_calls 48 = .ok (.getfield 40, 3) := by decide +kernel
theorem dX10_calls_51 : decode cX10_calls 51 = .ok (.getfield 193, 3) := by decide +kernel
theorem dX10_calls_54 : decode cX10_calls 54 = .ok (.ifCond .eq 7, 3) := by decide +kernel
theorem dX10_calls_57 : decode cX10_calls 57 = .ok (.iconst 1, 1) := by decide +kernel
theorem dX10_calls_58 : decode cX10_calls 58 = .ok (.goto 4, 3) := by decide +kernel
theorem dX10_calls_61 : decode cX10_calls 61 = .ok (.iconst 0, 1) := by decide +kernel
theorem dX10_calls_62 : decode cX10_calls 62 = .ok (.ireturn, 1) := by decide +kernel
theorem dX10_call_0 : decode cX10_call 0 = .ok (.aload_n 0, 1) := by decide +kernel
theorem dX10_call_1 : decode cX10_call 1 = .ok (.invokevirtual 150, 3) := by decide +kernel
theorem dX10_call_4 : decode cX10_call 4 = .ok (.aload_n 0, 1) := by decide +kernel
theorem dX10_call_5 : decode cX10_call 5 = .ok (.getfield 40, 3) := by decide +kernel
theorem dX10_call_8 : decode cX10_call 8 = .ok (.iload_n 1, 1) := by decide +kernel
theorem dX10_call_9 : decode cX10_call 9 = .ok (.invokevirtual 197, 3) := by decide +kernel
theorem dX10_call_12 : decode cX10_call 12 = .ok (.ifCond .eq 12, 3) := by decide +kernel
theorem dX10_call_15 : decode cX10_call 15 = .ok (.iload_n 2, 1) := by decide +kernel
theorem dX10_call_16 : decode cX10_call 16 = .ok (.ifCond .lt 8, 3) := by decide +kernel
theorem dX10_call_19 : decode cX10_call 19 = .ok (.iload_n 2, 1) := by decide +kernel
theorem dX10_call_20 : decode cX10_call 20 = .ok (.iconst 3, 1) := by decide +kernel
theorem dX10_call_21 : decode cX10_call 21 = .ok (.if_icmp .le 8, 3) := by decide +kernel
theorem dX10_call_24 : decode cX10_call 24 = .ok (.aload_n 0, 1) := by decide +kernel
theorem dX10_call_25 : decode cX10_call 25 = .ok (.invokevirtual 81, 3) := by decide +kernel
theorem dX10_call_28 : decode cX10_call 28 = .ok (.ireturn, 1) := by decide +kernel
theorem dX10_call_29 : decode cX10_call 29 = .ok (.iload_n 2, 1) := by decide +kernel
theorem dX10_call_30 : decode cX10_call 30 = .ok (.tableswitch 59 0 2 #[26, 36, 49], 26) := by decide +kernel
theorem dX10_call_56 : decode cX10_call 56 = .ok (.aload_n 0, 1) := by decide +kernel
theorem dX10_call_57 : decode cX10_call 57 = .ok (.getfield 40, 3) := by decide +kernel
theorem dX10_call_60 : decode cX10_call 60 = .ok (.getfield 200, 3) := by decide +kernel
theorem dX10_call_63 : decode cX10_call 63 = .ok (.iload_n 1, 1) := by decide +kernel
theorem dX10_call_64 : decode cX10_call 64 = .ok (.iaload, 1) := by decide +kernel
theorem dX10_call_65 : decode cX10_call 65 = .ok (.ireturn, 1) := by decide +kernel
theorem dX10_call_66 : decode cX10_call 66 = .ok (.aload_n 0, 1) := by decide +kernel
theorem dX10_call_67 : decode cX10_call 67 = .ok (.getfield 40, 3) := by decide +kernel
theorem dX10_call_70 : decode cX10_call 70 = .ok (.aload_n 0, 1) := by decide +kernel
theorem dX10_call_71 : decode cX10_call 71 = .ok (.getfield 10, 3) := by decide +kernel
theorem dX10_call_74 : decode cX10_call 74 = .ok (.iload_n 1, 1) := by decide +kernel
theorem dX10_call_75 : decode cX10_call 75 = .ok (.invokevirtual 203, 3) := by decide +kernel
theorem dX10_call_78 : decode cX10_call 78 = .ok (.ireturn, 1) := by decide +kernel
theorem dX10_call_79 : decode cX10_call 79 = .ok (.aload_n 0, 1) := by decide +kernel
theorem dX10_call_80 : decode cX10_call 80 = .ok (.getfield 40, 3) := by decide +kernel
theorem dX10_call_83 : decode cX10_call 83 = .ok (.getfield 207, 3) := by decide +kernel
theorem dX10_call_86 : decode cX10_call 86 = .ok (.iload_n 1, 1) := by decide +kernel
theorem dX10_call_87 : decode cX10_call 87 = .ok (.iaload, 1) := by decide +kernel
theorem dX10_call_88 : decode cX10_call 88 = .ok (.ireturn, 1) := by decide +kernel
theorem dX10_call_89 : decode cX10_call 89 = .ok (.aload_n 0, 1) := by decide +kernel
theorem dX10_call_90 : decode cX10_call 90 = .ok (.getfield 40, 3) := by decide +kernel
theorem dX10_call_93 : decode cX10_call 93 = .ok (.getfield 210, 3) := by decide +kernel
theorem dX10_call_96 : decode cX10_call 96 = .ok (.iload_n 1, 1) := by decide +kernel
theorem dX10_call_97 : decode cX10_call 97 = .ok (.laload, 1) := by decide +kernel
theorem dX10_call_98 : decode cX10_call 98 = .ok (.invokestatic 157, 3) := by decide +kernel
theorem dX10_call_101 : decode cX10_call 101 = .ok (.ireturn, 1) := by decide +kernel
theorem dX10_follows_0 : decode cX10_follows 0 = .ok (.aload_n 0, 1) := by decide +kernel
theorem dX10_follows_1 : decode cX10_follows 1 = .ok (.invokevirtual 150, 3) := by decide +kernel
theorem dX10_follows_4 : decode cX10_follows 4 = .ok (.aload_n 0, 1) := by decide +kernel
theorem dX10_follows_5 : decode cX10_follows 5 = .ok (.getfield 40, 3) := by decide +kernel
theorem dX10_follows_8 : decode cX10_follows 8 = .ok (.iload_n 1, 1) := by decide +kernel
theorem dX10_follows_9 : decode cX10_follows 9 = .ok (.invokevirtual 197, 3) := by decide +kernel
theorem dX10_follows_12 : decode cX10_follows 12 = .ok (.ifCond .eq 14, 3) := by decide +kernel
theorem dX10_follows_15 : decode cX10_follows 15 = .ok (.aload_n 0, 1) := by decide +kernel
theorem dX10_follows_16 : decode cX10_follows 16 = .ok (.getfield 40, 3) := by decide +kernel
theorem dX10_follows_19 : decode cX10_follows 19 = .ok (.iload_n 2, 1) := by decide +kernel
theorem dX10_follows_20 : decode cX10_follows 20 = .ok (.invokevirtual 197, 3) := by decide +kernel
theorem dX10_follows_23 : decode cX10_follows 23 = .ok (.ifCond .ne 8, 3) := by decide +kernel
theorem dX10_follows_26 : decode cX10_follows 26 = .ok (.aload_n 0, 1) := by decide +kernel
theorem dX10_follows_27 : decode cX10_follows 27 = .ok (.invokevirtual 81, 3) := by decide +kernel
theorem dX10_follows_30 : decode cX10_follows 30 = .ok (.ireturn, 1) := by decide +kernel
theorem dX10_follows_31 : decode cX10_follows 31 = .ok (.aload_n 0, 1) := by decide +kernel
theorem dX10_follows_32 : decode cX10_follows 32 = .ok (.getfield 40, 3) := by decide +kernel
theorem dX10_follows_35 : decode cX10_follows 35 = .ok (.getfield 210, 3) := by decide +kernel
theorem dX10_follows_38 : decode cX10_follows 38 = .ok (.iload_n 1, 1) := by decide +kernel
theorem dX10_follows_39 : decode cX10_follows 39 = .ok (.laload, 1) := by decide +kernel
theorem dX10_follows_40 : decode cX10_follows 40 = .ok (.iload_n 2, 1) := by decide +kernel
theorem dX10_follows_41 : decode cX10_follows 41 = .ok (.invokestatic 213, 3) := by decide +kernel
theorem dX10_follows_44 : decode cX10_follows 44 = .ok (.ifCond .eq 7, 3) := by decide +kernel
theorem dX10_follows_47 : decode cX10_follows 47 = .ok (.iconst 1, 1) := by decide +kernel
theorem dX10_follows_48 : decode cX10_follows 48 = .ok (.goto 4, 3) := by decide +kernel
theorem dX10_follows_51 : decode cX10_follows 51 = .ok (.iconst 0, 1) := by decide +kernel
theorem dX10_follows_52 : decode cX10_follows 52 = .ok (.ireturn, 1) := by decide +kernel
theorem dX10_lighter_0 : decode cX10_lighter 0 = .ok (.aload_n 0, 1) := by decide +kernel
theorem dX10_lighter_1 : decode cX10_lighter 1 = .ok (.invokevirtual 150, 3) := by decide +kernel
theorem dX10_lighter_4 : decode cX10_lighter 4 = .ok (.iload_n 1, 1) := by decide +kernel
theorem dX10_lighter_5 : decode cX10_lighter 5 = .ok (.ifCond .lt 14, 3) := by decide +kernel
theorem dX10_lighter_8 : decode cX10_lighter 8 = .ok (.iload_n 1, 1) := by decide +kernel
theorem dX10_lighter_9 : decode cX10_lighter 9 = .ok (.aload_n 0, 1) := by decide +kernel
theorem dX10_lighter_10 : decode cX10_lighter 10 = .ok (.getfield 40, 3) := by decide +kernel
theorem dX10_lighter_13 : decode cX10_lighter 13 = .ok (.getfield 187, 3) := by decide +kernel
theorem dX10_lighter_16 : decode cX10_lighter 16 = .ok (.if_icmp .lt 8, 3) := by decide +kernel
theorem dX10_lighter_19 : decode cX10_lighter 19 = .ok (.aload_n 0, 1) := by decide +kernel
theorem dX10_lighter_20 : decode cX10_lighter 20 = .ok (.invokevirtual 81, 3) := by decide +kernel
theorem dX10_lighter_23 : decode cX10_lighter 23 = .ok (.ireturn, 1) := by decide +kernel
theorem dX10_lighter_24 : decode cX10_lighter 24 = .ok (.aload_n 0, 1) := by decide +kernel
theorem dX10_lighter_25 : decode cX10_lighter 25 = .ok (.invokevirtual 190, 3) := by decide +kernel
theorem dX10_lighter_28 : decode cX10_lighter 28 = .ok (.aload_n 0, 1) := by decide +kernel
theorem dX10_lighter_29 : decode cX10_lighter 29 = .ok (.getfield 40, 3) := by decide +kernel
theorem dX10_lighter_32 : decode cX10_lighter 32 = .ok (.getfield 217, 3) := by decide +kernel
theorem dX10_lighter_35 : decode cX10_lighter 35 = .ok (.iload_n 1, 1) := by decide +kernel
theorem dX10_lighter_36 : decode cX10_lighter 36 = .ok (.iaload, 1) := by decide +kernel
theorem dX10_lighter_37 : decode cX10_lighter 37 = .ok (.ireturn, 1) := by decide +kernel
theorem dX10_turns_0 : decode cX10_turns 0 = .ok (.iload_n 1, 1) := by decide +kernel
theorem dX10_turns_1 : decode cX10_turns 1 = .ok (.ifCond .lt 9, 3) := by decide +kernel
theorem dX10_turns_4 : decode cX10_turns 4 = .ok (.iload_n 1, 1) := by decide +kernel
theorem dX10_turns_5 : decode cX10_turns 5 = .ok (.bipush 30, 2) := by decide +kernel
theorem dX10_turns_7 : decode cX10_turns 7 = .ok (.if_icmp .le 8, 3) := by decide +kernel
theorem dX10_turns_10 : decode cX10_turns 10 = .ok (.aload_n 0, 1) := by decide +kernel
theorem dX10_turns_11 : decode cX10_turns 11 = .ok (.invokevirtual 81, 3) := by decide +kernel
theorem dX10_turns_14 : decode cX10_turns 14 = .ok (.ireturn, 1) := by decide +kernel
theorem dX10_turns_15 : decode cX10_turns 15 = .ok (.aload_n 0, 1) := by decide +kernel
theorem dX10_turns_16 : decode cX10_turns 16 = .ok (.getfield 19, 3) := by decide +kernel
theorem dX10_turns_19 : decode cX10_turns 19 = .ok (.aload_n 0, 1) := by decide +kernel
theorem dX10_turns_20 : decode cX10_turns 20 = .ok (.getfield 10, 3) := by decide +kernel
theorem dX10_turns_23 : decode cX10_turns 23 = .ok (.invokevirtual 101, 3) := by decide +kernel
theorem dX10_turns_26 : decode cX10_turns 26 = .ok (.aload_n 0, 1) := by decide +kernel
theorem dX10_turns_27 : decode cX10_turns 27 = .ok (.getfield 54, 3) := by decide +kernel
theorem dX10_turns_30 : decode cX10_turns 30 = .ok (.aload_n 0, 1) := by decide +kernel
theorem dX10_turns_31 : decode cX10_turns 31 = .ok (.getfield 10, 3) := by decide +kernel
theorem dX10_turns_34 : decode cX10_turns 34 = .ok (.aload_n 0, 1) := by decide +kernel
theorem dX10_turns_35 : decode cX10_turns 35 = .ok (.getfield 10, 3) := by decide +kernel
theorem dX10_turns_38 : decode cX10_turns 38 = .ok (.getfield 75, 3) := by decide +kernel
theorem dX10_turns_41 : decode cX10_turns 41 = .ok (.iload_n 1, 1) := by decide +kernel
theorem dX10_turns_42 : decode cX10_turns 42 = .ok (.invokevirtual 220, 3) := by decide +kernel
theorem dX10_turns_45 : decode cX10_turns 45 = .ok (.ireturn, 1) := by decide +kernel
theorem dX10_settles_0 : decode cX10_settles 0 = .ok (.aload_n 0, 1) := by decide +kernel
theorem dX10_settles_1 : decode cX10_settles 1 = .ok (.getfield 63, 3) := by decide +kernel
theorem dX10_settles_4 : decode cX10_settles 4 = .ok (.aload_n 0, 1) := by decide +kernel
theorem dX10_settles_5 : decode cX10_settles 5 = .ok (.getfield 10, 3) := by decide +kernel
theorem dX10_settles_8 : decode cX10_settles 8 = .ok (.getfield 75, 3) := by decide +kernel
theorem dX10_settles_11 : decode cX10_settles 11 = .ok (.invokevirtual 115, 3) := by decide +kernel
theorem dX10_settles_14 : decode cX10_settles 14 = .ok (.aload_n 0, 1) := by decide +kernel
theorem dX10_settles_15 : decode cX10_settles 15 = .ok (.getfield 54, 3) := by decide +kernel
theorem dX10_settles_18 : decode cX10_settles 18 = .ok (.aload_n 0, 1) := by decide +kernel
theorem dX10_settles_19 : decode cX10_settles 19 = .ok (.getfield 10, 3) := by decide +kernel
theorem dX10_settles_22 : decode cX10_settles 22 = .ok (.aload_n 0, 1) := by decide +kernel
theorem dX10_settles_23 : decode cX10_settles 23 = .ok (.getfield 63, 3) := by decide +kernel
theorem dX10_settles_26 : decode cX10_settles 26 = .ok (.bipush 30, 2) := by decide +kernel
theorem dX10_settles_28 : decode cX10_settles 28 = .ok (.invokevirtual 220, 3) := by decide +kernel
theorem dX10_settles_31 : decode cX10_settles 31 = .ok (.istore_n 1, 1) := by decide +kernel
theorem dX10_settles_32 : decode cX10_settles 32 = .ok (.aload_n 0, 1) := by decide +kernel
theorem dX10_settles_33 : decode cX10_settles 33 = .ok (.getfield 54, 3) := by decide +kernel
theorem dX10_settles_36 : decode cX10_settles 36 = .ok (.aload_n 0, 1) := by decide +kernel
theorem dX10_settles_37 : decode cX10_settles 37 = .ok (.getfield 10, 3) := by decide +kernel
theorem dX10_settles_40 : decode cX10_settles 40 = .ok (.aload_n 0, 1) := by decide +kernel
theorem dX10_settles_41 : decode cX10_settles 41 = .ok (.getfield 63, 3) := by decide +kernel
theorem dX10_settles_44 : decode cX10_settles 44 = .ok (.invokevirtual 224, 3) := by decide +kernel
theorem dX10_settles_47 : decode cX10_settles 47 = .ok (.ifCond .eq 7, 3) := by decide +kernel
theorem dX10_settles_50 : decode cX10_settles 50 = .ok (.iconst (-1), 1) := by decide +kernel
theorem dX10_settles_51 : decode cX10_settles 51 = .ok (.goto 4, 3) := by decide +kernel
theorem dX10_settles_54 : decode cX10_settles 54 = .ok (.iload_n 1, 1) := by decide +kernel
theorem dX10_settles_55 : decode cX10_settles 55 = .ok (.ireturn, 1) := by decide +kernel
theorem dX10_next_0 : decode cX10_next 0 = .ok (.iload_n 1, 1) := by decide +kernel
theorem dX10_next_1 : decode cX10_next 1 = .ok (.ifCond .lt 8, 3) := by decide +kernel
theorem dX10_next_4 : decode cX10_next 4 = .ok (.iload_n 1, 1) := by decide +kernel
theorem dX10_next_5 : decode cX10_next 5 = .ok (.iconst 1, 1) := by decide +kernel
theorem dX10_next_6 : decode cX10_next 6 = .ok (.if_icmp .le 8, 3) := by decide +kernel
theorem dX10_next_9 : decode cX10_next 9 = .ok (.aload_n 0, 1) := by decide +kernel
theorem dX10_next_10 : decode cX10_next 10 = .ok (.invokevirtual 81, 3) := by decide +kernel
theorem dX10_next_13 : decode cX10_next 13 = .ok (.ireturn, 1) := by decide +kernel
theorem dX10_next_14 : decode cX10_next 14 = .ok (.aload_n 0, 1) := by decide +kernel
theorem dX10_next_15 : decode cX10_next 15 = .ok (.getfield 54, 3) := by decide +kernel
theorem dX10_next_18 : decode cX10_next 18 = .ok (.aload_n 0, 1) := by decide +kernel
theorem dX10_next_19 : decode cX10_next 19 = .ok (.getfield 10, 3) := by decide +kernel
theorem dX10_next_22 : decode cX10_next 22 = .ok (.aload_n 0, 1) := by decide +kernel
theorem dX10_next_23 : decode cX10_next 23 = .ok (.getfield 10, 3) := by decide +kernel
theorem dX10_next_26 : decode cX10_next 26 = .ok (.getfield 75, 3) := by decide +kernel
theorem dX10_next_29 : decode cX10_next 29 = .ok (.invokevirtual 224, 3) := by decide +kernel
theorem dX10_next_32 : decode cX10_next 32 = .ok (.ifCond .ne 5, 3) := by decide +kernel
theorem dX10_next_35 : decode cX10_next 35 = .ok (.iconst (-1), 1) := by decide +kernel
theorem dX10_next_36 : decode cX10_next 36 = .ok (.ireturn, 1) := by decide +kernel
theorem dX10_next_37 : decode cX10_next 37 = .ok (.iload_n 1, 1) := by decide +kernel
theorem dX10_next_38 : decode cX10_next 38 = .ok (.ifCond .ne 13, 3) := by decide +kernel
theorem dX10_next_41 : decode cX10_next 41 = .ok (.aload_n 0, 1) := by decide +kernel
theorem dX10_next_42 : decode cX10_next 42 = .ok (.getfield 54, 3) := by decide +kernel
theorem dX10_next_45 : decode cX10_next 45 = .ok (.getfield 228, 3) := by decide +kernel
theorem dX10_next_48 : decode cX10_next 48 = .ok (.goto 10, 3) := by decide +kernel
theorem dX10_next_51 : decode cX10_next 51 = .ok (.aload_n 0, 1) := by decide +kernel
theorem dX10_next_52 : decode cX10_next 52 = .ok (.getfield 54, 3) := by decide +kernel
theorem dX10_next_55 : decode cX10_next 55 = .ok (.getfield 231, 3) := by decide +kernel
theorem dX10_next_58 : decode cX10_next 58 = .ok (.ireturn, 1) := by decide +kernel
theorem dX10_letter_0 : decode cX10_letter 0 = .ok (.iload_n 1, 1) := by decide +kernel
theorem dX10_letter_1 : decode cX10_letter 1 = .ok (.iconst (-1), 1) := by decide +kernel
theorem dX10_letter_2 : decode cX10_letter 2 = .ok (.if_icmp .ge 8, 3) := by decide +kernel
theorem dX10_letter_5 : decode cX10_letter 5 = .ok (.aload_n 0, 1) := by decide +kernel
theorem dX10_letter_6 : decode cX10_letter 6 = .ok (.invokevirtual 81, 3) := by decide +kernel
theorem dX10_letter_9 : decode cX10_letter 9 = .ok (.ireturn, 1) := by decide +kernel
theorem dX10_letter_10 : decode cX10_letter 10 = .ok (.iload_n 1, 1) := by decide +kernel
theorem dX10_letter_11 : decode cX10_letter 11 = .ok (.iconst (-1), 1) := by decide +kernel
theorem dX10_letter_12 : decode cX10_letter 12 = .ok (.if_icmp .ne 14, 3) := by decide +kernel
theorem dX10_letter_15 : decode cX10_letter 15 = .ok (.aload_n 0, 1) := by decide +kernel
theorem dX10_letter_16 : decode cX10_letter 16 = .ok (.getfield 10, 3) := by decide +kernel
theorem dX10_letter_19 : decode cX10_letter 19 = .ok (.getfield 75, 3) := by decide +kernel
theorem dX10_letter_22 : decode cX10_letter 22 = .ok (.getfield 119, 3) := by decide +kernel
theorem dX10_letter_25 : decode cX10_letter 25 = .ok (.ireturn, 1) := by decide +kernel
theorem dX10_letter_26 : decode cX10_letter 26 = .ok (.iload_n 1, 1) := by decide +kernel
theorem dX10_letter_27 : decode cX10_letter 27 = .ok (.aload_n 0, 1) := by decide +kernel
theorem dX10_letter_28 : decode cX10_letter 28 = .ok (.getfield 10, 3) := by decide +kernel
theorem dX10_letter_31 : decode cX10_letter 31 = .ok (.getfield 75, 3) := by decide +kernel
theorem dX10_letter_34 : decode cX10_letter 34 = .ok (.getfield 119, 3) := by decide +kernel
theorem dX10_letter_37 : decode cX10_letter 37 = .ok (.if_icmp .ge 18, 3) := by decide +kernel
theorem dX10_letter_40 : decode cX10_letter 40 = .ok (.aload_n 0, 1) := by decide +kernel
theorem dX10_letter_41 : decode cX10_letter 41 = .ok (.getfield 10, 3) := by decide +kernel
theorem dX10_letter_44 : decode cX10_letter 44 = .ok (.getfield 75, 3) := by decide +kernel
theorem dX10_letter_47 : decode cX10_letter 47 = .ok (.getfield 144, 3) := by decide +kernel
theorem dX10_letter_50 : decode cX10_letter 50 = .ok (.iload_n 1, 1) := by decide +kernel
theorem dX10_letter_51 : decode cX10_letter 51 = .ok (.iaload, 1) := by decide +kernel
theorem dX10_letter_52 : decode cX10_letter 52 = .ok (.goto 5, 3) := by decide +kernel
theorem dX10_letter_55 : decode cX10_letter 55 = .ok (.bipush (-5), 2) := by decide +kernel
theorem dX10_letter_57 : decode cX10_letter 57 = .ok (.ireturn, 1) := by decide +kernel
theorem dX10_back_0 : decode cX10_back 0 = .ok (.aload_n 0, 1) := by decide +kernel
theorem dX10_back_1 : decode cX10_back 1 = .ok (.getfield 19, 3) := by decide +kernel
theorem dX10_back_4 : decode cX10_back 4 = .ok (.getfield 232, 3) := by decide +kernel
theorem dX10_back_7 : decode cX10_back 7 = .ok (.ifCond .ne 16, 3) := by decide +kernel
theorem dX10_back_10 : decode cX10_back 10 = .ok (.aload_n 0, 1) := by decide +kernel
theorem dX10_back_11 : decode cX10_back 11 = .ok (.dup, 1) := by decide +kernel
theorem dX10_back_12 : decode cX10_back 12 = .ok (.getfield 233, 3) := by decide +kernel
theorem dX10_back_15 : decode cX10_back 15 = .ok (.iconst 1, 1) := by decide +kernel
theorem dX10_back_16 : decode cX10_back 16 = .ok (.iadd, 1) := by decide +kernel
theorem dX10_back_17 : decode cX10_back 17 = .ok (.putfield 233, 3) := by decide +kernel
theorem dX10_back_20 : decode cX10_back 20 = .ok (.bipush (-3), 2) := by decide +kernel
theorem dX10_back_22 : decode cX10_back 22 = .ok (.ireturn, 1) := by decide +kernel
theorem dX10_back_23 : decode cX10_back 23 = .ok (.aload_n 0, 1) := by decide +kernel
theorem dX10_back_24 : decode cX10_back 24 = .ok (.getfield 19, 3) := by decide +kernel
theorem dX10_back_27 : decode cX10_back 27 = .ok (.aload_n 0, 1) := by decide +kernel
theorem dX10_back_28 : decode cX10_back 28 = .ok (.getfield 10, 3) := by decide +kernel
theorem dX10_back_31 : decode cX10_back 31 = .ok (.invokevirtual 236, 3) := by decide +kernel
theorem dX10_back_34 : decode cX10_back 34 = .ok (.aload_n 0, 1) := by decide +kernel
theorem dX10_back_35 : decode cX10_back 35 = .ok (.invokevirtual 108, 3) := by decide +kernel
theorem dX10_back_38 : decode cX10_back 38 = .ok (.aload_n 0, 1) := by decide +kernel
theorem dX10_back_39 : decode cX10_back 39 = .ok (.getfield 19, 3) := by decide +kernel
theorem dX10_back_42 : decode cX10_back 42 = .ok (.getfield 232, 3) := by decide +kernel
theorem dX10_back_45 : decode cX10_back 45 = .ok (.ireturn, 1) := by decide +kernel
theorem dX10_told_0 : decode cX10_told 0 = .ok (.iload_n 1, 1) := by decide +kernel
theorem dX10_told_1 : decode cX10_told 1 = .ok (.tableswitch 93 0 6 #[43, 48, 53, 58, 66, 74, 85], 43) := by decide +kernel
theorem dX10_told_44 : decode cX10_told 44 = .ok (.aload_n 0, 1) := by decide +kernel
theorem dX10_told_45 : decode cX10_told 45 = .ok (.getfield 239, 3) := by decide +kernel
theorem dX10_told_48 : decode cX10_told 48 = .ok (.ireturn, 1) := by decide +kernel
theorem dX10_told_49 : decode cX10_told 49 = .ok (.aload_n 0, 1) := by decide +kernel
theorem dX10_told_50 : decode cX10_told 50 = .ok (.getfield 233, 3) := by decide +kernel
theorem dX10_told_53 : decode cX10_told 53 = .ok (.ireturn, 1) := by decide +kernel
theorem dX10_told_54 : decode cX10_told 54 = .ok (.aload_n 0, 1) := by decide +kernel
theorem dX10_told_55 : decode cX10_told 55 = .ok (.getfield 88, 3) := by decide +kernel
theorem dX10_told_58 : decode cX10_told 58 = .ok (.ireturn, 1) := by decide +kernel
theorem dX10_told_59 : decode cX10_told 59 = .ok (.aload_n 0, 1) := by decide +kernel
theorem dX10_told_60 : decode cX10_told 60 = .ok (.getfield 26, 3) := by decide +kernel
theorem dX10_told_63 : decode cX10_told 63 = .ok (.getfield 85, 3) := by decide +kernel
theorem dX10_told_66 : decode cX10_told 66 = .ok (.ireturn, 1) := by decide +kernel
theorem dX10_told_67 : decode cX10_told 67 = .ok (.aload_n 0, 1) := by decide +kernel
theorem dX10_told_68 : decode cX10_told 68 = .ok (.getfield 10, 3) := by decide +kernel
theorem dX10_told_71 : decode cX10_told 71 = .ok (.getfield 105, 3) := by decide +kernel
theorem dX10_told_74 : decode cX10_told 74 = .ok (.ireturn, 1) := by decide +kernel
theorem dX10_told_75 : decode cX10_told 75 = .ok (.aload_n 0, 1) := by decide +kernel
theorem dX10_told_76 : decode cX10_told 76 = .ok (.getfield 10, 3) := by decide +kernel
theorem dX10_told_79 : decode cX10_told 79 = .ok (.getfield 75, 3) := by decide +kernel
theorem dX10_told_82 : decode cX10_told 82 = .ok (.getfield 119, 3) := by decide +kernel
theorem dX10_told_85 : decode cX10_told 85 = .ok (.ireturn, 1) := by decide +kernel
theorem dX10_told_86 : decode cX10_told 86 = .ok (.aload_n 0, 1) := by decide +kernel
theorem dX10_told_87 : decode cX10_told 87 = .ok (.getfield 19, 3) := by decide +kernel
theorem dX10_told_90 : decode cX10_told 90 = .ok (.getfield 232, 3) := by decide +kernel
theorem dX10_told_93 : decode cX10_told 93 = .ok (.ireturn, 1) := by decide +kernel
theorem dX10_told_94 : decode cX10_told 94 = .ok (.aload_n 0, 1) := by decide +kernel
theorem dX10_told_95 : decode cX10_told 95 = .ok (.invokevirtual 81, 3) := by decide +kernel
theorem dX10_told_98 : decode cX10_told 98 = .ok (.ireturn, 1) := by decide +kernel
theorem dX10_digest_0 : decode cX10_digest 0 = .ok (.ldc2_w 242, 3) := by decide +kernel
theorem dX10_digest_3 : decode cX10_digest 3 = .ok (.lstore_n 1, 1) := by decide +kernel
theorem dX10_digest_4 : decode cX10_digest 4 = .ok (.iconst 0, 1) := by decide +kernel
theorem dX10_digest_5 : decode cX10_digest 5 = .ok (.istore_n 3, 1) := by decide +kernel
theorem dX10_digest_6 : decode cX10_digest 6 = .ok (.iload_n 3, 1) := by decide +kernel
theorem dX10_digest_7 : decode cX10_digest 7 = .ok (.bipush 6, 2) := by decide +kernel
theorem dX10_digest_9 : decode cX10_digest 9 = .ok (.if_icmp .gt 22, 3) := by decide +kernel
theorem dX10_digest_12 : decode cX10_digest 12 = .ok (.ldc2_w 244, 3) := by decide +kernel
theorem dX10_digest_15 : decode cX10_digest 15 = .ok (.lload_n 1, 1) := by decide +kernel
theorem dX10_digest_16 : decode cX10_digest 16 = .ok (.lmul, 1) := by decide +kernel
theorem dX10_digest_17 : decode cX10_digest 17 = .ok (.aload_n 0, 1) := by decide +kernel
theorem dX10_digest_18 : decode cX10_digest 18 = .ok (.iload_n 3, 1) := by decide +kernel
theorem dX10_digest_19 : decode cX10_digest 19 = .ok (.invokevirtual 246, 3) := by decide +kernel
theorem dX10_digest_22 : decode cX10_digest 22 = .ok (.i2l, 1) := by decide +kernel
theorem dX10_digest_23 : decode cX10_digest 23 = .ok (.ladd, 1) := by decide +kernel
theorem dX10_digest_24 : decode cX10_digest 24 = .ok (.lstore_n 1, 1) := by decide +kernel
theorem dX10_digest_25 : decode cX10_digest 25 = .ok (.iinc 3 1, 3) := by decide +kernel
theorem dX10_digest_28 : decode cX10_digest 28 = .ok (.goto (-22), 3) := by decide +kernel
theorem dX10_digest_31 : decode cX10_digest 31 = .ok (.iconst 0, 1) := by decide +kernel
theorem dX10_digest_32 : decode cX10_digest 32 = .ok (.istore_n 3, 1) := by decide +kernel
theorem dX10_digest_33 : decode cX10_digest 33 = .ok (.iload_n 3, 1) := by decide +kernel
theorem dX10_digest_34 : decode cX10_digest 34 = .ok (.aload_n 0, 1) := by decide +kernel
theorem dX10_digest_35 : decode cX10_digest 35 = .ok (.getfield 10, 3) := by decide +kernel
theorem dX10_digest_38 : decode cX10_digest 38 = .ok (.getfield 105, 3) := by decide +kernel
theorem dX10_digest_41 : decode cX10_digest 41 = .ok (.if_icmp .ge 54, 3) := by decide +kernel
theorem dX10_digest_44 : decode cX10_digest 44 = .ok (.iconst 0, 1) := by decide +kernel
theorem dX10_digest_45 : decode cX10_digest 45 = .ok (.istore 4, 2) := by decide +kernel
theorem dX10_digest_47 : decode cX10_digest 47 = .ok (.iload 4, 2) := by decide +kernel
theorem dX10_digest_49 : decode cX10_digest 49 = .ok (.iconst 5, 1) := by decide +kernel
theorem dX10_digest_50 : decode cX10_digest 50 = .ok (.if_icmp .gt 24, 3) := by decide +kernel
theorem dX10_digest_53 : decode cX10_digest 53 = .ok (.ldc2_w 244, 3) := by decide +kernel
theorem dX10_digest_56 : decode cX10_digest 56 = .ok (.lload_n 1, 1) := by decide +kernel
theorem dX10_digest_57 : decode cX10_digest 57 = .ok (.lmul, 1) := by decide +kernel
theorem dX10_digest_58 : decode cX10_digest 58 = .ok (.aload_n 0, 1) := by decide +kernel
theorem dX10_digest_59 : decode cX10_digest 59 = .ok (.iload_n 3, 1) := by decide +kernel
theorem dX10_digest_60 : decode cX10_digest 60 = .ok (.iload 4, 2) := by decide +kernel
theorem dX10_digest_62 : decode cX10_digest 62 = .ok (.invokevirtual 250, 3) := by decide +kernel
theorem dX10_digest_65 : decode cX10_digest 65 = .ok (.i2l, 1) := by decide +kernel
theorem dX10_digest_66 : decode cX10_digest 66 = .ok (.ladd, 1) := by decide +kernel
theorem dX10_digest_67 : decode cX10_digest 67 = .ok (.lstore_n 1, 1) := by decide +kernel
theorem dX10_digest_68 : decode cX10_digest 68 = .ok (.iinc 4 1, 3) := by decide +kernel
theorem dX10_digest_71 : decode cX10_digest 71 = .ok (.goto (-24), 3) := by decide +kernel
theorem dX10_digest_74 : decode cX10_digest 74 = .ok (.ldc2_w 244, 3) := by decide +kernel
theorem dX10_digest_77 : decode cX10_digest 77 = .ok (.lload_n 1, 1) := by decide +kernel
theorem dX10_digest_78 : decode cX10_digest 78 = .ok (.lmul, 1) := by decide +kernel
theorem dX10_digest_79 : decode cX10_digest 79 = .ok (.aload_n 0, 1) := by decide +kernel
theorem dX10_digest_80 : decode cX10_digest 80 = .ok (.ldc 254, 2) := by decide +kernel
theorem dX10_digest_82 : decode cX10_digest 82 = .ok (.iload_n 3, 1) := by decide +kernel
theorem dX10_digest_83 : decode cX10_digest 83 = .ok (.invokevirtual 255, 3) := by decide +kernel
theorem dX10_digest_86 : decode cX10_digest 86 = .ok (.i2l, 1) := by decide +kernel
theorem dX10_digest_87 : decode cX10_digest 87 = .ok (.ladd, 1) := by decide +kernel
theorem dX10_digest_88 : decode cX10_digest 88 = .ok (.lstore_n 1, 1) := by decide +kernel
theorem dX10_digest_89 : decode cX10_digest 89 = .ok (.iinc 3 1, 3) := by decide +kernel
theorem dX10_digest_92 : decode cX10_digest 92 = .ok (.goto (-59), 3) := by decide +kernel
theorem dX10_digest_95 : decode cX10_digest 95 = .ok (.iconst 0, 1) := by decide +kernel
theorem dX10_digest_96 : decode cX10_digest 96 = .ok (.istore_n 3, 1) := by decide +kernel
theorem dX10_digest_97 : decode cX10_digest 97 = .ok (.iload_n 3, 1) := by decide +kernel
theorem dX10_digest_98 : decode cX10_digest 98 = .ok (.aload_n 0, 1) := by decide +kernel
theorem dX10_digest_99 : decode cX10_digest 99 = .ok (.getfield 10, 3) := by decide +kernel
theorem dX10_digest_102 : decode cX10_digest 102 = .ok (.getfield 75, 3) := by decide +kernel
theorem dX10_digest_105 : decode cX10_digest 105 = .ok (.getfield 119, 3) := by decide +kernel
theorem dX10_digest_108 : decode cX10_digest 108 = .ok (.if_icmp .ge 29, 3) := by decide +kernel
theorem dX10_digest_111 : decode cX10_digest 111 = .ok (.ldc2_w 244, 3) := by decide +kernel
theorem dX10_digest_114 : decode cX10_digest 114 = .ok (.lload_n 1, 1) := by decide +kernel
theorem dX10_digest_115 : decode cX10_digest 115 = .ok (.lmul, 1) := by decide +kernel
theorem dX10_digest_116 : decode cX10_digest 116 = .ok (.aload_n 0, 1) := by decide +kernel
theorem dX10_digest_117 : decode cX10_digest 117 = .ok (.getfield 10, 3) := by decide +kernel
theorem dX10_digest_120 : decode cX10_digest 120 = .ok (.getfield 75, 3) := by decide +kernel
theorem dX10_digest_123 : decode cX10_digest 123 = .ok (.getfield 144, 3) := by decide +kernel
theorem dX10_digest_126 : decode cX10_digest 126 = .ok (.iload_n 3, 1) := by decide +kernel
theorem dX10_digest_127 : decode cX10_digest 127 = .ok (.iaload, 1) := by decide +kernel
theorem dX10_digest_128 : decode cX10_digest 128 = .ok (.i2l, 1) := by decide +kernel
theorem dX10_digest_129 : decode cX10_digest 129 = .ok (.ladd, 1) := by decide +kernel
theorem dX10_digest_130 : decode cX10_digest 130 = .ok (.lstore_n 1, 1) := by decide +kernel
theorem dX10_digest_131 : decode cX10_digest 131 = .ok (.iinc 3 1, 3) := by decide +kernel
theorem dX10_digest_134 : decode cX10_digest 134 = .ok (.goto (-37), 3) := by decide +kernel
theorem dX10_digest_137 : decode cX10_digest 137 = .ok (.ldc2_w 244, 3) := by decide +kernel
theorem dX10_digest_140 : decode cX10_digest 140 = .ok (.lload_n 1, 1) := by decide +kernel
theorem dX10_digest_141 : decode cX10_digest 141 = .ok (.lmul, 1) := by decide +kernel
theorem dX10_digest_142 : decode cX10_digest 142 = .ok (.aload_n 0, 1) := by decide +kernel
theorem dX10_digest_143 : decode cX10_digest 143 = .ok (.invokevirtual 258, 3) := by decide +kernel
theorem dX10_digest_146 : decode cX10_digest 146 = .ok (.i2l, 1) := by decide +kernel
theorem dX10_digest_147 : decode cX10_digest 147 = .ok (.ladd, 1) := by decide +kernel
theorem dX10_digest_148 : decode cX10_digest 148 = .ok (.lstore_n 1, 1) := by decide +kernel
theorem dX10_digest_149 : decode cX10_digest 149 = .ok (.iconst 0, 1) := by decide +kernel
theorem dX10_digest_150 : decode cX10_digest 150 = .ok (.istore_n 3, 1) := by decide +kernel
theorem dX10_digest_151 : decode cX10_digest 151 = .ok (.iload_n 3, 1) := by decide +kernel
theorem dX10_digest_152 : decode cX10_digest 152 = .ok (.iconst 2, 1) := by decide +kernel
theorem dX10_digest_153 : decode cX10_digest 153 = .ok (.if_icmp .gt 22, 3) := by decide +kernel
theorem dX10_digest_156 : decode cX10_digest 156 = .ok (.ldc2_w 244, 3) := by decide +kernel
theorem dX10_digest_159 : decode cX10_digest 159 = .ok (.lload_n 1, 1) := by decide +kernel
theorem dX10_digest_160 : decode cX10_digest 160 = .ok (.lmul, 1) := by decide +kernel
theorem dX10_digest_161 : decode cX10_digest 161 = .ok (.aload_n 0, 1) := by decide +kernel
theorem dX10_digest_162 : decode cX10_digest 162 = .ok (.iload_n 3, 1) := by decide +kernel
theorem dX10_digest_163 : decode cX10_digest 163 = .ok (.invokevirtual 261, 3) := by decide +kernel
theorem dX10_digest_166 : decode cX10_digest 166 = .ok (.i2l, 1) := by decide +kernel
theorem dX10_digest_167 : decode cX10_digest 167 = .ok (.ladd, 1) := by decide +kernel
theorem dX10_digest_168 : decode cX10_digest 168 = .ok (.lstore_n 1, 1) := by decide +kernel
theorem dX10_digest_169 : decode cX10_digest 169 = .ok (.iinc 3 1, 3) := by decide +kernel
theorem dX10_digest_172 : decode cX10_digest 172 = .ok (.goto (-21), 3) := by decide +kernel
theorem dX10_digest_175 : decode cX10_digest 175 = .ok (.iconst 0, 1) := by decide +kernel
theorem dX10_digest_176 : decode cX10_digest 176 = .ok (.istore_n 3, 1) := by decide +kernel
theorem dX10_digest_177 : decode cX10_digest 177 = .ok (.iload_n 3, 1) := by decide +kernel
theorem dX10_digest_178 : decode cX10_digest 178 = .ok (.aload_n 0, 1) := by decide +kernel
theorem dX10_digest_179 : decode cX10_digest 179 = .ok (.getfield 40, 3) := by decide +kernel
theorem dX10_digest_182 : decode cX10_digest 182 = .ok (.getfield 186, 3) := by decide +kernel
theorem dX10_digest_185 : decode cX10_digest 185 = .ok (.if_icmp .ge 39, 3) := by decide +kernel
theorem dX10_digest_188 : decode cX10_digest 188 = .ok (.iconst 0, 1) := by decide +kernel
theorem dX10_digest_189 : decode cX10_digest 189 = .ok (.istore 4, 2) := by decide +kernel
theorem dX10_digest_191 : decode cX10_digest 191 = .ok (.iload 4, 2) := by decide +kernel
theorem dX10_digest_193 : decode cX10_digest 193 = .ok (.iconst 3, 1) := by decide +kernel
theorem dX10_digest_194 : decode cX10_digest 194 = .ok (.if_icmp .gt 24, 3) := by decide +kernel
theorem dX10_digest_197 : decode cX10_digest 197 = .ok (.ldc2_w 244, 3) := by decide +kernel
theorem dX10_digest_200 : decode cX10_digest 200 = .ok (.lload_n 1, 1) := by decide +kernel
theorem dX10_digest_201 : decode cX10_digest 201 = .ok (.lmul, 1) := by decide +kernel
theorem dX10_digest_202 : decode cX10_digest 202 = .ok (.aload_n 0, 1) := by decide +kernel
theorem dX10_digest_203 : decode cX10_digest 203 = .ok (.iload_n 3, 1) := by decide +kernel
theorem dX10_digest_204 : decode cX10_digest 204 = .ok (.iload 4, 2) := by decide +kernel
theorem dX10_digest_206 : decode cX10_digest 206 = .ok (.invokevirtual 264, 3) := by decide +kernel
theorem dX10_digest_209 : decode cX10_digest 209 = .ok (.i2l, 1) := by decide +kernel
theorem dX10_digest_210 : decode cX10_digest 210 = .ok (.ladd, 1) := by decide +kernel
theorem dX10_digest_211 : decode cX10_digest 211 = .ok (.lstore_n 1, 1) := by decide +kernel
theorem dX10_digest_212 : decode cX10_digest 212 = .ok (.iinc 4 1, 3) := by decide +kernel
theorem dX10_digest_215 : decode cX10_digest 215 = .ok (.goto (-24), 3) := by decide +kernel
theorem dX10_digest_218 : decode cX10_digest 218 = .ok (.iinc 3 1, 3) := by decide +kernel
theorem dX10_digest_221 : decode cX10_digest 221 = .ok (.goto (-44), 3) := by decide +kernel
theorem dX10_digest_224 : decode cX10_digest 224 = .ok (.ldc2_w 244, 3) := by decide +kernel
theorem dX10_digest_227 : decode cX10_digest 227 = .ok (.lload_n 1, 1) := by decide +kernel
theorem dX10_digest_228 : decode cX10_digest 228 = .ok (.lmul, 1) := by decide +kernel
theorem dX10_digest_229 : decode cX10_digest 229 = .ok (.aload_n 0, 1) := by decide +kernel
theorem dX10_digest_230 : decode cX10_digest 230 = .ok (.invokevirtual 267, 3) := by decide +kernel
theorem dX10_digest_233 : decode cX10_digest 233 = .ok (.i2l, 1) := by decide +kernel
theorem dX10_digest_234 : decode cX10_digest 234 = .ok (.ladd, 1) := by decide +kernel
theorem dX10_digest_235 : decode cX10_digest 235 = .ok (.lstore_n 1, 1) := by decide +kernel
theorem dX10_digest_236 : decode cX10_digest 236 = .ok (.ldc2_w 244, 3) := by decide +kernel
theorem dX10_digest_239 : decode cX10_digest 239 = .ok (.lload_n 1, 1) := by decide +kernel
theorem dX10_digest_240 : decode cX10_digest 240 = .ok (.lmul, 1) := by decide +kernel
theorem dX10_digest_241 : decode cX10_digest 241 = .ok (.aload_n 0, 1) := by decide +kernel
theorem dX10_digest_242 : decode cX10_digest 242 = .ok (.iconst 0, 1) := by decide +kernel
theorem dX10_digest_243 : decode cX10_digest 243 = .ok (.invokevirtual 270, 3) := by decide +kernel
theorem dX10_digest_246 : decode cX10_digest 246 = .ok (.i2l, 1) := by decide +kernel
theorem dX10_digest_247 : decode cX10_digest 247 = .ok (.ladd, 1) := by decide +kernel
theorem dX10_digest_248 : decode cX10_digest 248 = .ok (.lstore_n 1, 1) := by decide +kernel
theorem dX10_digest_249 : decode cX10_digest 249 = .ok (.ldc2_w 244, 3) := by decide +kernel
theorem dX10_digest_252 : decode cX10_digest 252 = .ok (.lload_n 1, 1) := by decide +kernel
theorem dX10_digest_253 : decode cX10_digest 253 = .ok (.lmul, 1) := by decide +kernel
theorem dX10_digest_254 : decode cX10_digest 254 = .ok (.aload_n 0, 1) := by decide +kernel
theorem dX10_digest_255 : decode cX10_digest 255 = .ok (.iconst 1, 1) := by decide +kernel
theorem dX10_digest_256 : decode cX10_digest 256 = .ok (.invokevirtual 270, 3) := by decide +kernel
theorem dX10_digest_259 : decode cX10_digest 259 = .ok (.i2l, 1) := by decide +kernel
theorem dX10_digest_260 : decode cX10_digest 260 = .ok (.ladd, 1) := by decide +kernel
theorem dX10_digest_261 : decode cX10_digest 261 = .ok (.lreturn, 1) := by decide +kernel
theorem dX10_refuseBad_0 : decode cX10_refuseBad 0 = .ok (.aload_n 0, 1) := by decide +kernel
theorem dX10_refuseBad_1 : decode cX10_refuseBad 1 = .ok (.dup, 1) := by decide +kernel
theorem dX10_refuseBad_2 : decode cX10_refuseBad 2 = .ok (.getfield 239, 3) := by decide +kernel
theorem dX10_refuseBad_5 : decode cX10_refuseBad 5 = .ok (.iconst 1, 1) := by decide +kernel
theorem dX10_refuseBad_6 : decode cX10_refuseBad 6 = .ok (.iadd, 1) := by decide +kernel
theorem dX10_refuseBad_7 : decode cX10_refuseBad 7 = .ok (.putfield 239, 3) := by decide +kernel
theorem dX10_refuseBad_10 : decode cX10_refuseBad 10 = .ok (.bipush (-2), 2) := by decide +kernel
theorem dX10_refuseBad_12 : decode cX10_refuseBad 12 = .ok (.ireturn, 1) := by decide +kernel
theorem dX10_isRule_0 : decode cX10_isRule 0 = .ok (.iload_n 1, 1) := by decide +kernel
theorem dX10_isRule_1 : decode cX10_isRule 1 = .ok (.ifCond .lt 18, 3) := by decide +kernel
theorem dX10_isRule_4 : decode cX10_isRule 4 = .ok (.iload_n 1, 1) := by decide +kernel
theorem dX10_isRule_5 : decode cX10_isRule 5 = .ok (.aload_n 0, 1) := by decide +kernel
theorem dX10_isRule_6 : decode cX10_isRule 6 = .ok (.getfield 10, 3) := by decide +kernel
theorem dX10_isRule_9 : decode cX10_isRule 9 = .ok (.getfield 105, 3) := by decide +kernel
theorem dX10_isRule_12 : decode cX10_isRule 12 = .ok (.if_icmp .ge 7, 3) := by decide +kernel
theorem dX10_isRule_15 : decode cX10_isRule 15 = .ok (.iconst 1, 1) := by decide +kernel
theorem dX10_isRule_16 : decode cX10_isRule 16 = .ok (.goto 4, 3) := by decide +kernel
theorem dX10_isRule_19 : decode cX10_isRule 19 = .ok (.iconst 0, 1) := by decide +kernel
theorem dX10_isRule_20 : decode cX10_isRule 20 = .ok (.ireturn, 1) := by decide +kernel
theorem dX10_forgetFindings_0 : decode cX10_forgetFindings 0 = .ok (.aload_n 0, 1) := by decide +kernel
theorem dX10_forgetFindings_1 : decode cX10_forgetFindings 1 = .ok (.iconst 0, 1) := by decide +kernel
theorem dX10_forgetFindings_2 : decode cX10_forgetFindings 2 = .ok (.putfield 273, 3) := by decide +kernel
theorem dX10_forgetFindings_5 : decode cX10_forgetFindings 5 = .ok (.aload_n 0, 1) := by decide +kernel
theorem dX10_forgetFindings_6 : decode cX10_forgetFindings 6 = .ok (.iconst 0, 1) := by decide +kernel
theorem dX10_forgetFindings_7 : decode cX10_forgetFindings 7 = .ok (.putfield 276, 3) := by decide +kernel
theorem dX10_forgetFindings_10 : decode cX10_forgetFindings 10 = .ok (.aload_n 0, 1) := by decide +kernel
theorem dX10_forgetFindings_11 : decode cX10_forgetFindings 11 = .ok (.bipush (-9), 2) := by decide +kernel
theorem dX10_forgetFindings_13 : decode cX10_forgetFindings 13 = .ok (.putfield 71, 3) := by decide +kernel
theorem dX10_forgetFindings_16 : decode cX10_forgetFindings 16 = .ok (.return_, 1) := by decide +kernel
theorem dX10_keepBookRight_0 : decode cX10_keepBookRight 0 = .ok (.aload_n 0, 1) := by decide +kernel
theorem dX10_keepBookRight_1 : decode cX10_keepBookRight 1 = .ok (.getfield 273, 3) := by decide +kernel
theorem dX10_keepBookRight_4 : decode cX10_keepBookRight 4 = .ok (.ifCond .ne 19, 3) := by decide +kernel
theorem dX10_keepBookRight_7 : decode cX10_keepBookRight 7 = .ok (.aload_n 0, 1) := by decide +kernel
theorem dX10_keepBookRight_8 : decode cX10_keepBookRight 8 = .ok (.getfield 40, 3) := by decide +kernel
theorem dX10_keepBookRight_11 : decode cX10_keepBookRight 11 = .ok (.aload_n 0, 1) := by decide +kernel
theorem dX10_keepBookRight_12 : decode cX10_keepBookRight 12 = .ok (.getfield 10, 3) := by decide +kernel
theorem dX10_keepBookRight_15 : decode cX10_keepBookRight 15 = .ok (.invokevirtual 279, 3) := by decide +kernel
theorem dX10_keepBookRight_18 : decode cX10_keepBookRight 18 = .ok (.aload_n 0, 1) := by decide +kernel
theorem dX10_keepBookRight_19 : decode cX10_keepBookRight 19 = .ok (.iconst 1, 1) := by decide +kernel
theorem dX10_keepBookRight_20 : decode cX10_keepBookRight 20 = .ok (.putfield 273, 3) := by decide +kernel
theorem dX10_keepBookRight_23 : decode cX10_keepBookRight 23 = .ok (.return_, 1) := by decide +kernel
theorem dX10_weighRings_0 : decode cX10_weighRings 0 = .ok (.aload_n 0, 1) := by decide +kernel
theorem dX10_weighRings_1 : decode cX10_weighRings 1 = .ok (.getfield 276, 3) := by decide +kernel
theorem dX10_weighRings_4 : decode cX10_weighRings 4 = .ok (.ifCond .eq 4, 3) := by decide +kernel
theorem dX10_weighRings_7 : decode cX10_weighRings 7 = .ok (.return_, 1) := by decide +kernel
theorem dX10_weighRings_8 : decode cX10_weighRings 8 = .ok (.aload_n 0, 1) := by decide +kernel
theorem dX10_weighRings_9 : decode cX10_weighRings 9 = .ok (.getfield 40, 3) := by decide +kernel
theorem dX10_weighRings_12 : decode cX10_weighRings 12 = .ok (.iconst 1, 1) := by decide +kernel
theorem dX10_weighRings_13 : decode cX10_weighRings 13 = .ok (.putfield 193, 3) := by decide +kernel
theorem dX10_weighRings_16 : decode cX10_weighRings 16 = .ok (.iconst 0, 1) := by decide +kernel
theorem dX10_weighRings_17 : decode cX10_weighRings 17 = .ok (.istore_n 1, 1) := by decide +kernel
theorem dX10_weighRings_18 : decode cX10_weighRings 18 = .ok (.iload_n 1, 1) := by decide +kernel
theorem dX10_weighRings_19 : decode cX10_weighRings 19 = .ok (.aload_n 0, 1) := by decide +kernel
theorem dX10_weighRings_20 : decode cX10_weighRings 20 = .ok (.getfield 40, 3) := by decide +kernel
theorem dX10_weighRings_23 : decode cX10_weighRings 23 = .ok (.getfield 187, 3) := by decide +kernel
theorem dX10_weighRings_26 : decode cX10_weighRings 26 = .ok (.if_icmp .ge 55, 3) := by decide +kernel
theorem dX10_weighRings_29 : decode cX10_weighRings 29 = .ok (.aload_n 0, 1) := by decide +kernel
theorem dX10_weighRings_30 : decode cX10_weighRings 30 = .ok (.getfield 40, 3) := by decide +kernel
theorem dX10_weighRings_33 : decode cX10_weighRings 33 = .ok (.getfield 217, 3) := by decide +kernel
theorem dX10_weighRings_36 : decode cX10_weighRings 36 = .ok (.iload_n 1, 1) := by decide +kernel
theorem dX10_weighRings_37 : decode cX10_weighRings 37 = .ok (.aload_n 0, 1) := by decide +kernel
theorem dX10_weighRings_38 : decode cX10_weighRings 38 = .ok (.getfield 47, 3) := by decide +kernel
theorem dX10_weighRings_41 : decode cX10_weighRings 41 = .ok (.aload_n 0, 1) := by decide +kernel
theorem dX10_weighRings_42 : decode cX10_weighRings 42 = .ok (.getfield 10, 3) := by decide +kernel
theorem dX10_weighRings_45 : decode cX10_weighRings 45 = .ok (.aload_n 0, 1) := by decide +kernel
theorem dX10_weighRings_46 : decode cX10_weighRings 46 = .ok (.getfield 40, 3) := by decide +kernel
theorem dX10_weighRings_49 : decode cX10_weighRings 49 = .ok (.iload_n 1, 1) := by decide +kernel
theorem dX10_weighRings_50 : decode cX10_weighRings 50 = .ok (.invokevirtual 171, 3) := by decide +kernel
theorem dX10_weighRings_53 : decode cX10_weighRings 53 = .ok (.iastore, 1) := by decide +kernel
theorem dX10_weighRings_54 : decode cX10_weighRings 54 = .ok (.aload_n 0, 1) := by decide +kernel
theorem dX10_weighRings_55 : decode cX10_weighRings 55 = .ok (.getfield 40, 3) := by decide +kernel
theorem dX10_weighRings_58 : decode cX10_weighRings 58 = .ok (.getfield 217, 3) := by decide +kernel
theorem dX10_weighRings_61 : decode cX10_weighRings 61 = .ok (.iload_n 1, 1) := by decide +kernel
theorem dX10_weighRings_62 : decode cX10_weighRings 62 = .ok (.iaload, 1) := by decide +kernel
theorem dX10_weighRings_63 : decode cX10_weighRings 63 = .ok (.iconst (-1), 1) := by decide +kernel
theorem dX10_weighRings_64 : decode cX10_weighRings 64 = .ok (.if_icmp .ne 11, 3) := by decide +kernel
theorem dX10_weighRings_67 : decode cX10_weighRings 67 = .ok (.aload_n 0, 1) := by decide +kernel
theorem dX10_weighRings_68 : decode cX10_weighRings 68 = .ok (.getfield 40, 3) := by decide +kernel
theorem dX10_weighRings_71 : decode cX10_weighRings 71 = .ok (.iconst 0, 1) := by decide +kernel
theorem dX10_weighRings_72 : decode cX10_weighRings 72 = .ok (.putfield 193, 3) := by decide +kernel
theorem dX10_weighRings_75 : decode cX10_weighRings 75 = .ok (.iinc 1 1, 3) := by decide +kernel
theorem dX10_weighRings_78 : decode cX10_weighRings 78 = .ok (.goto (-60), 3) := by decide +kernel
theorem dX10_weighRings_81 : decode cX10_weighRings 81 = .ok (.aload_n 0, 1) := by decide +kernel
theorem dX10_weighRings_82 : decode cX10_weighRings 82 = .ok (.iconst 1, 1) := by decide +kernel
theorem dX10_weighRings_83 : decode cX10_weighRings 83 = .ok (.putfield 276, 3) := by decide +kernel
theorem dX10_weighRings_86 : decode cX10_weighRings 86 = .ok (.return_, 1) := by decide +kernel
theorem dX10_splitFigures_0 : decode cX10_splitFigures 0 = .ok (.iload_n 1, 1) := by decide +kernel
theorem dX10_splitFigures_1 : decode cX10_splitFigures 1 = .ok (.ifCond .ge 5, 3) := by decide +kernel
theorem dX10_splitFigures_4 : decode cX10_splitFigures 4 = .ok (.iconst 0, 1) := by decide +kernel
theorem dX10_splitFigures_5 : decode cX10_splitFigures 5 = .ok (.ireturn, 1) := by decide +kernel
theorem dX10_splitFigures_6 : decode cX10_splitFigures 6 = .ok (.iload_n 1, 1) := by decide +kernel
theorem dX10_splitFigures_7 : decode cX10_splitFigures 7 = .ok (.istore_n 2, 1) := by decide +kernel
theorem dX10_splitFigures_8 : decode cX10_splitFigures 8 = .ok (.bipush 6, 2) := by decide +kernel
theorem dX10_splitFigures_10 : decode cX10_splitFigures 10 = .ok (.istore_n 3, 1) := by decide +kernel
theorem dX10_splitFigures_11 : decode cX10_splitFigures 11 = .ok (.iload_n 3, 1) := by decide +kernel
theorem dX10_splitFigures_12 : decode cX10_splitFigures 12 = .ok (.ifCond .lt 36, 3) := by decide +kernel
theorem dX10_splitFigures_15 : decode cX10_splitFigures 15 = .ok (.aload_n 0, 1) := by decide +kernel
theorem dX10_splitFigures_16 : decode cX10_splitFigures 16 = .ok (.getfield 67, 3) := by decide +kernel
theorem dX10_splitFigures_19 : decode cX10_splitFigures 19 = .ok (.iload_n 3, 1) := by decide +kernel
theorem dX10_splitFigures_20 : decode cX10_splitFigures 20 = .ok (.iload_n 2, 1) := by decide +kernel
theorem dX10_splitFigures_21 : decode cX10_splitFigures 21 = .ok (.bipush 10, 2) := by decide +kernel
theorem dX10_splitFigures_23 : decode cX10_splitFigures 23 = .ok (.irem, 1) := by decide +kernel
theorem dX10_splitFigures_24 : decode cX10_splitFigures 24 = .ok (.iastore, 1) := by decide +kernel
theorem dX10_splitFigures_25 : decode cX10_splitFigures 25 = .ok (.iload_n 2, 1) := by decide +kernel
theorem dX10_splitFigures_26 : decode cX10_splitFigures 26 = .ok (.bipush 10, 2) := by decide +kernel
theorem dX10_splitFigures_28 : decode cX10_splitFigures 28 = .ok (.idiv, 1) := by decide +kernel
theorem dX10_splitFigures_29 : decode cX10_splitFigures 29 = .ok (.istore_n 2, 1) := by decide +kernel
theorem dX10_splitFigures_30 : decode cX10_splitFigures 30 = .ok (.aload_n 0, 1) := by decide +kernel
theorem dX10_splitFigures_31 : decode cX10_splitFigures 31 = .ok (.getfield 67, 3) := by decide +kernel
theorem dX10_splitFigures_34 : decode cX10_splitFigures 34 = .ok (.iload_n 3, 1) := by decide +kernel
theorem dX10_splitFigures_35 : decode cX10_splitFigures 35 = .ok (.iaload, 1) := by decide +kernel
theorem dX10_splitFigures_36 : decode cX10_splitFigures 36 = .ok (.iconst 3, 1) := by decide +kernel
theorem dX10_splitFigures_37 : decode cX10_splitFigures 37 = .ok (.if_icmp .le 5, 3) := by decide +kernel
theorem dX10_splitFigures_40 : decode cX10_splitFigures 40 = .ok (.iconst 0, 1) := by decide +kernel
theorem dX10_splitFigures_41 : decode cX10_splitFigures 41 = .ok (.ireturn, 1) := by decide +kernel
theorem dX10_splitFigures_42 : decode cX10_splitFigures 42 = .ok (.iinc 3 (-1), 3) := by decide +kernel
theorem dX10_splitFigures_45 : decode cX10_splitFigures 45 = .ok (.goto (-34), 3) := by decide +kernel
theorem dX10_splitFigures_48 : decode cX10_splitFigures 48 = .ok (.iload_n 2, 1) := by decide +kernel
theorem dX10_splitFigures_49 : decode cX10_splitFigures 49 = .ok (.ifCond .ne 7, 3) := by decide +kernel
theorem dX10_splitFigures_52 : decode cX10_splitFigures 52 = .ok (.iconst 1, 1) := by decide +kernel
theorem dX10_splitFigures_53 : decode cX10_splitFigures 53 = .ok (.goto 4, 3) := by decide +kernel
theorem dX10_splitFigures_56 : decode cX10_splitFigures 56 = .ok (.iconst 0, 1) := by decide +kernel
theorem dX10_splitFigures_57 : decode cX10_splitFigures 57 = .ok (.ireturn, 1) := by decide +kernel
theorem dX10_hasBit_0 : decode cX10_hasBit 0 = .ok (.lload_n 0, 1) := by decide +kernel
theorem dX10_hasBit_1 : decode cX10_hasBit 1 = .ok (.iload_n 2, 1) := by decide +kernel
theorem dX10_hasBit_2 : decode cX10_hasBit 2 = .ok (.lushr, 1) := by decide +kernel
theorem dX10_hasBit_3 : decode cX10_hasBit 3 = .ok (.lconst 1, 1) := by decide +kernel
theorem dX10_hasBit_4 : decode cX10_hasBit 4 = .ok (.land, 1) := by decide +kernel
theorem dX10_hasBit_5 : decode cX10_hasBit 5 = .ok (.lconst 0, 1) := by decide +kernel
theorem dX10_hasBit_6 : decode cX10_hasBit 6 = .ok (.lcmp, 1) := by decide +kernel
theorem dX10_hasBit_7 : decode cX10_hasBit 7 = .ok (.ifCond .eq 7, 3) := by decide +kernel
theorem dX10_hasBit_10 : decode cX10_hasBit 10 = .ok (.iconst 1, 1) := by decide +kernel
theorem dX10_hasBit_11 : decode cX10_hasBit 11 = .ok (.goto 4, 3) := by decide +kernel
theorem dX10_hasBit_14 : decode cX10_hasBit 14 = .ok (.iconst 0, 1) := by decide +kernel
theorem dX10_hasBit_15 : decode cX10_hasBit 15 = .ok (.ireturn, 1) := by decide +kernel
theorem dX10_unknownBit_0 : decode cX10_unknownBit 0 = .ok (.iload_n 0, 1) := by decide +kernel
theorem dX10_unknownBit_1 : decode cX10_unknownBit 1 = .ok (.bipush 120, 2) := by decide +kernel
theorem dX10_unknownBit_3 : decode cX10_unknownBit 3 = .ok (.if_icmp .ne 5, 3) := by decide +kernel
theorem dX10_unknownBit_6 : decode cX10_unknownBit 6 = .ok (.iconst 1, 1) := by decide +kernel
theorem dX10_unknownBit_7 : decode cX10_unknownBit 7 = .ok (.ireturn, 1) := by decide +kernel
theorem dX10_unknownBit_8 : decode cX10_unknownBit 8 = .ok (.iload_n 0, 1) := by decide +kernel
theorem dX10_unknownBit_9 : decode cX10_unknownBit 9 = .ok (.bipush 121, 2) := by decide +kernel
theorem dX10_unknownBit_11 : decode cX10_unknownBit 11 = .ok (.if_icmp .ne 7, 3) := by decide +kernel
theorem dX10_unknownBit_14 : decode cX10_unknownBit 14 = .ok (.iconst 2, 1) := by decide +kernel
theorem dX10_unknownBit_15 : decode cX10_unknownBit 15 = .ok (.goto 4, 3) := by decide +kernel
theorem dX10_unknownBit_18 : decode cX10_unknownBit 18 = .ok (.iconst 0, 1) := by decide +kernel
theorem dX10_unknownBit_19 : decode cX10_unknownBit 19 = .ok (.ireturn, 1) := by decide +kernel
theorem dX10_isUnknown_0 : decode cX10_isUnknown 0 = .ok (.iload_n 0, 1) := by decide +kernel
theorem dX10_isUnknown_1 : decode cX10_isUnknown 1 = .ok (.bipush 120, 2) := by decide +kernel
theorem dX10_isUnknown_3 : decode cX10_isUnknown 3 = .ok (.if_icmp .eq 9, 3) := by decide +kernel
theorem dX10_isUnknown_6 : decode cX10_isUnknown 6 = .ok (.iload_n 0, 1) := by decide +kernel
theorem dX10_isUnknown_7 : decode cX10_isUnknown 7 = .ok (.bipush 121, 2) := by decide +kernel
theorem dX10_isUnknown_9 : decode cX10_isUnknown 9 = .ok (.if_icmp .ne 7, 3) := by decide +kernel
theorem dX10_isUnknown_12 : decode cX10_isUnknown 12 = .ok (.iconst 1, 1) := by decide +kernel
theorem dX10_isUnknown_13 : decode cX10_isUnknown 13 = .ok (.goto 4, 3) := by decide +kernel
theorem dX10_isUnknown_16 : decode cX10_isUnknown 16 = .ok (.iconst 0, 1) := by decide +kernel
theorem dX10_isUnknown_17 : decode cX10_isUnknown 17 = .ok (.ireturn, 1) := by decide +kernel
theorem dX10_partsBehind_0 : decode cX10_partsBehind 0 = .ok (.iload_n 0, 1) := by decide +kernel
theorem dX10_partsBehind_1 : decode cX10_partsBehind 1 = .ok (.bipush 103, 2) := by decide +kernel
theorem dX10_partsBehind_3 : decode cX10_partsBehind 3 = .ok (.if_icmp .ne 5, 3) := by decide +kernel
theorem dX10_partsBehind_6 : decode cX10_partsBehind 6 = .ok (.iconst 2, 1) := by decide +kernel
theorem dX10_partsBehind_7 : decode cX10_partsBehind 7 = .ok (.ireturn, 1) := by decide +kernel
theorem dX10_partsBehind_8 : decode cX10_partsBehind 8 = .ok (.iload_n 0, 1) := by decide +kernel
theorem dX10_partsBehind_9 : decode cX10_partsBehind 9 = .ok (.bipush 102, 2) := by decide +kernel
theorem dX10_partsBehind_11 : decode cX10_partsBehind 11 = .ok (.if_icmp .ne 7, 3) := by decide +kernel
theorem dX10_partsBehind_14 : decode cX10_partsBehind 14 = .ok (.iconst 1, 1) := by decide +kernel
theorem dX10_partsBehind_15 : decode cX10_partsBehind 15 = .ok (.goto 4, 3) := by decide +kernel
theorem dX10_partsBehind_18 : decode cX10_partsBehind 18 = .ok (.iconst 0, 1) := by decide +kernel
theorem dX10_partsBehind_19 : decode cX10_partsBehind 19 = .ok (.ireturn, 1) := by decide +kernel
theorem dX10_slotOf_0 : decode cX10_slotOf 0 = .ok (.iload_n 0, 1) := by decide +kernel
theorem dX10_slotOf_1 : decode cX10_slotOf 1 = .ok (.lookupswitch 71 #[(97, 59), (98, 61), (102, 63), (103, 65), (120, 67), (121, 69)], 59) := by decide +kernel
theorem dX10_slotOf_60 : decode cX10_slotOf 60 = .ok (.iconst 0, 1) := by decide +kernel
theorem dX10_slotOf_61 : decode cX10_slotOf 61 = .ok (.ireturn, 1) := by decide +kernel
theorem dX10_slotOf_62 : decode cX10_slotOf 62 = .ok (.iconst 1, 1) := by decide +kernel
theorem dX10_slotOf_63 : decode cX10_slotOf 63 = .ok (.ireturn, 1) := by decide +kernel
theorem dX10_slotOf_64 : decode cX10_slotOf 64 = .ok (.iconst 2, 1) := by decide +kernel
theorem dX10_slotOf_65 : decode cX10_slotOf 65 = .ok (.ireturn, 1) := by decide +kernel
theorem dX10_slotOf_66 : decode cX10_slotOf 66 = .ok (.iconst 3, 1) := by decide +kernel
theorem dX10_slotOf_67 : decode cX10_slotOf 67 = .ok (.ireturn, 1) := by decide +kernel
theorem dX10_slotOf_68 : decode cX10_slotOf 68 = .ok (.iconst 4, 1) := by decide +kernel
theorem dX10_slotOf_69 : decode cX10_slotOf 69 = .ok (.ireturn, 1) := by decide +kernel
theorem dX10_slotOf_70 : decode cX10_slotOf 70 = .ok (.iconst 5, 1) := by decide +kernel
theorem dX10_slotOf_71 : decode cX10_slotOf 71 = .ok (.ireturn, 1) := by decide +kernel
theorem dX10_slotOf_72 : decode cX10_slotOf 72 = .ok (.iconst (-1), 1) := by decide +kernel
theorem dX10_slotOf_73 : decode cX10_slotOf 73 = .ok (.ireturn, 1) := by decide +kernel
theorem dX11_init_0 : decode cX11_init 0 = .ok (.aload_n 0, 1) := by decide +kernel
theorem dX11_init_1 : decode cX11_init 1 = .ok (.invokespecial 1, 3) := by decide +kernel
theorem dX11_init_4 : decode cX11_init 4 = .ok (.aload_n 0, 1) := by decide +kernel
theorem dX11_init_5 : decode cX11_init 5 = .ok (.sipush 192, 3) := by decide +kernel
theorem dX11_init_8 : decode cX11_init 8 = .ok (.newarray .int, 2) := by decide +kernel
theorem dX11_init_10 : decode cX11_init 10 = .ok (.putfield 7, 3) := by decide +kernel
theorem dX11_init_13 : decode cX11_init 13 = .ok (.aload_n 0, 1) := by decide +kernel
theorem dX11_init_14 : decode cX11_init 14 = .ok (.sipush 192, 3) := by decide +kernel
theorem dX11_init_17 : decode cX11_init 17 = .ok (.newarray .int, 2) := by decide +kernel
theorem dX11_init_19 : decode cX11_init 19 = .ok (.putfield 13, 3) := by decide +kernel
theorem dX11_init_22 : decode cX11_init 22 = .ok (.aload_n 0, 1) := by decide +kernel
theorem dX11_init_23 : decode cX11_init 23 = .ok (.sipush 960, 3) := by decide +kernel
theorem dX11_init_26 : decode cX11_init 26 = .ok (.newarray .int, 2) := by decide +kernel
theorem dX11_init_28 : decode cX11_init 28 = .ok (.putfield 16, 3) := by decide +kernel
theorem dX11_init_31 : decode cX11_init 31 = .ok (.aload_n 0, 1) := by decide +kernel
theorem dX11_init_32 : decode cX11_init 32 = .ok (.iconst 3, 1) := by decide +kernel
theorem dX11_init_33 : decode cX11_init 33 = .ok (.newarray .int, 2) := by decide +kernel
theorem dX11_init_35 : decode cX11_init 35 = .ok (.putfield 19, 3) := by decide +kernel
theorem dX11_init_38 : decode cX11_init 38 = .ok (.aload_n 0, 1) := by decide +kernel
theorem dX11_init_39 : decode cX11_init 39 = .ok (.bipush 120, 2) := by decide +kernel
theorem dX11_init_41 : decode cX11_init 41 = .ok (.newarray .int, 2) := by decide +kernel
theorem dX11_init_43 : decode cX11_init 43 = .ok (.putfield 22, 3) := by decide +kernel
theorem dX11_init_46 : decode cX11_init 46 = .ok (.aload_n 0, 1) := by decide +kernel
theorem dX11_init_47 : decode cX11_init 47 = .ok (.sipush 300, 3) := by decide +kernel
theorem dX11_init_50 : decode cX11_init 50 = .ok (.newarray .int, 2) := by decide +kernel
theorem dX11_init_52 : decode cX11_init 52 = .ok (.putfield 25, 3) := by decide +kernel
theorem dX11_init_55 : decode cX11_init 55 = .ok (.aload_n 0, 1) := by decide +kernel
theorem dX11_init_56 : decode cX11_init 56 = .ok (.bipush 100, 2) := by decide +kernel
theorem dX11_init_58 : decode cX11_init 58 = .ok (.newarray .int, 2) := by decide +kernel
theorem dX11_init_60 : decode cX11_init 60 = .ok (.putfield 28, 3) := by decide +kernel
theorem dX11_init_63 : decode cX11_init 63 = .ok (.aload_n 0, 1) := by decide +kernel
theorem dX11_init_64 : decode cX11_init 64 = .ok (.bipush 7, 2) := by decide +kernel
theorem dX11_init_66 : decode cX11_init 66 = .ok (.newarray .int, 2) := by decide +kernel
theorem dX11_init_68 : decode cX11_init 68 = .ok (.putfield 31, 3) := by decide +kernel
theorem dX11_init_71 : decode cX11_init 71 = .ok (.aload_n 0, 1) := by decide +kernel
theorem dX11_init_72 : decode cX11_init 72 = .ok (.bipush 64, 2) := by decide +kernel
theorem dX11_init_74 : decode cX11_init 74 = .ok (.newarray .long, 2) := by decide +kernel
theorem dX11_init_76 : decode cX11_init 76 = .ok (.putfield 34, 3) := by decide +kernel
theorem dX11_init_79 : decode cX11_init 79 = .ok (.aload_n 0, 1) := by decide +kernel
theorem dX11_init_80 : decode cX11_init 80 = .ok (.bipush 64, 2) := by decide +kernel
theorem dX11_init_82 : decode cX11_init 82 = .ok (.newarray .long, 2) := by decide +kernel
theorem dX11_init_84 : decode cX11_init 84 = .ok (.putfield 38, 3) := by decide +kernel
theorem dX11_init_87 : decode cX11_init 87 = .ok (.aload_n 0, 1) := by decide +kernel
theorem dX11_init_88 : decode cX11_init 88 = .ok (.bipush 64, 2) := by decide +kernel
theorem dX11_init_90 : decode cX11_init 90 = .ok (.newarray .long, 2) := by decide +kernel
theorem dX11_init_92 : decode cX11_init 92 = .ok (.putfield 41, 3) := by decide +kernel
theorem dX11_init_95 : decode cX11_init 95 = .ok (.aload_n 0, 1) := by decide +kernel
theorem dX11_init_96 : decode cX11_init 96 = .ok (.bipush 60, 2) := by decide +kernel
theorem dX11_init_98 : decode cX11_init 98 = .ok (.newarray .int, 2) := by decide +kernel
theorem dX11_init_100 : decode cX11_init 100 = .ok (.putfield 44, 3) := by decide +kernel
theorem dX11_init_103 : decode cX11_init 103 = .ok (.aload_n 0, 1) := by decide +kernel
theorem dX11_init_104 : decode cX11_init 104 = .ok (.bipush 60, 2) := by decide +kernel
theorem dX11_init_106 : decode cX11_init 106 = .ok (.newarray .int, 2) := by decide +kernel
theorem dX11_init_108 : decode cX11_init 108 = .ok (.putfield 47, 3) := by decide +kernel
theorem dX11_init_111 : decode cX11_init 111 = .ok (.aload_n 0, 1) := by decide +kernel
theorem dX11_init_112 : decode cX11_init 112 = .ok (.sipush 3600, 3) := by decide +kernel
theorem dX11_init_115 : decode cX11_init 115 = .ok (.newarray .boolean, 2) := by decide +kernel
theorem dX11_init_117 : decode cX11_init 117 = .ok (.putfield 50, 3) := by decide +kernel
theorem dX11_init_120 : decode cX11_init 120 = .ok (.aload_n 0, 1) := by decide +kernel
theorem dX11_init_121 : decode cX11_init 121 = .ok (.sipush 3600, 3) := by decide +kernel
theorem dX11_init_124 : decode cX11_init 124 = .ok (.newarray .boolean, 2) := by decide +kernel
theorem dX11_init_126 : decode cX11_init 126 = .ok (.putfield 54, 3) := by decide +kernel
theorem dX11_init_129 : decode cX11_init 129 = .ok (.aload_n 0, 1) := by decide +kernel
theorem dX11_init_130 : decode cX11_init 130 = .ok (.bipush 60, 2) := by decide +kernel
theorem dX11_init_132 : decode cX11_init 132 = .ok (.newarray .int, 2) := by decide +kernel
theorem dX11_init_134 : decode cX11_init 134 = .ok (.putfield 57, 3) := by decide +kernel
theorem dX11_init_137 : decode cX11_init 137 = .ok (.aload_n 0, 1) := by decide +kernel
theorem dX11_init_138 : decode cX11_init 138 = .ok (.sipush 200, 3) := by decide +kernel
theorem dX11_init_141 : decode cX11_init 141 = .ok (.newarray .int, 2) := by decide +kernel
theorem dX11_init_143 : decode cX11_init 143 = .ok (.putfield 60, 3) := by decide +kernel
theorem dX11_init_146 : decode cX11_init 146 = .ok (.aload_n 0, 1) := by decide +kernel
theorem dX11_init_147 : decode cX11_init 147 = .ok (.sipush 200, 3) := by decide +kernel
theorem dX11_init_150 : decode cX11_init 150 = .ok (.newarray .int, 2) := by decide +kernel
theorem dX11_init_152 : decode cX11_init 152 = .ok (.putfield 63, 3) := by decide +kernel
theorem dX11_init_155 : decode cX11_init 155 = .ok (.aload_n 0, 1) := by decide +kernel
theorem dX11_init_156 : decode cX11_init 156 = .ok (.iconst 2, 1) := by decide +kernel
theorem dX11_init_157 : decode cX11_init 157 = .ok (.newarray .int, 2) := by decide +kernel
theorem dX11_init_159 : decode cX11_init 159 = .ok (.putfield 66, 3) := by decide +kernel
theorem dX11_init_162 : decode cX11_init 162 = .ok (.aload_n 0, 1) := by decide +kernel
theorem dX11_init_163 : decode cX11_init 163 = .ok (.iconst 2, 1) := by decide +kernel
theorem dX11_init_164 : decode cX11_init 164 = .ok (.newarray .int, 2) := by decide +kernel
theorem dX11_init_166 : decode cX11_init 166 = .ok (.putfield 69, 3) := by decide +kernel
theorem dX11_init_169 : decode cX11_init 169 = .ok (.aload_n 0, 1) := by decide +kernel
theorem dX11_init_170 : decode cX11_init 170 = .ok (.getfield 7, 3) := by decide +kernel
theorem dX11_init_173 : decode cX11_init 173 = .ok (.sipush 131, 3) := by decide +kernel
theorem dX11_init_176 : decode cX11_init 176 = .ok (.iconst 1, 1) := by decide +kernel
theorem dX11_init_177 : decode cX11_init 177 = .ok (.iastore, 1) := by decide +kernel
theorem dX11_init_178 : decode cX11_init 178 = .ok (.aload_n 0, 1) := by decide +kernel
theorem dX11_init_179 : decode cX11_init 179 = .ok (.getfield 7, 3) := by decide +kernel
theorem dX11_init_182 : decode cX11_init 182 = .ok (.sipush 132, 3) := by decide +kernel
theorem dX11_init_185 : decode cX11_init 185 = .ok (.bipush 97, 2) := by decide +kernel
theorem dX11_init_187 : decode cX11_init 187 = .ok (.iastore, 1) := by decide +kernel
theorem dX11_init_188 : decode cX11_init 188 = .ok (.return_, 1) := by decide +kernel
theorem dX11_in_0 : decode cX11_in 0 = .ok (.iload_n 0, 1) := by decide +kernel
theorem dX11_in_1 : decode cX11_in 1 = .ok (.iload_n 1, 1) := by decide +kernel
theorem dX11_in_2 : decode cX11_in 2 = .ok (.if_icmp .lt 12, 3) := by decide +kernel
theorem dX11_in_5 : decode cX11_in 5 = .ok (.iload_n 0, 1) := by decide +kernel
theorem dX11_in_6 : decode cX11_in 6 = .ok (.iload_n 2, 1) := by decide +kernel
theorem dX11_in_7 : decode cX11_in 7 = .ok (.if_icmp .gt 7, 3) := by decide +kernel
theorem dX11_in_10 : decode cX11_in 10 = .ok (.iconst 1, 1) := by decide +kernel
theorem dX11_in_11 : decode cX11_in 11 = .ok (.goto 4, 3) := by decide +kernel
theorem dX11_in_14 : decode cX11_in 14 = .ok (.iconst 0, 1) := by decide +kernel
theorem dX11_in_15 : decode cX11_in 15 = .ok (.ireturn, 1) := by decide +kernel
theorem dX11_refuses_0 : decode cX11_refuses 0 = .ok (.aload_n 0, 1) := by decide +kernel
theorem dX11_refuses_1 : decode cX11_refuses 1 = .ok (.getfield 19, 3) := by decide +kernel
theorem dX11_refuses_4 : decode cX11_refuses 4 = .ok (.bipush (-2), 2) := by decide +kernel
theorem dX11_refuses_6 : decode cX11_refuses 6 = .ok (.iload_n 1, 1) := by decide +kernel
theorem dX11_refuses_7 : decode cX11_refuses 7 = .ok (.isub, 1) := by decide +kernel
theorem dX11_refuses_8 : decode cX11_refuses 8 = .ok (.dup2, 1) := by decide +kernel
theorem dX11_refuses_9 : decode cX11_refuses 9 = .ok (.iaload, 1) := by decide +kernel
theorem dX11_refuses_10 : decode cX11_refuses 10 = .ok (.iconst 1, 1) := by decide +kernel
theorem dX11_refuses_11 : decode cX11_refuses 11 = .ok (.iadd, 1) := by decide +kernel
theorem dX11_refuses_12 : decode cX11_refuses 12 = .ok (.iastore, 1) := by decide +kernel
theorem dX11_refuses_13 : decode cX11_refuses 13 = .ok (.iload_n 1, 1) := by decide +kernel
theorem dX11_refuses_14 : decode cX11_refuses 14 = .ok (.ireturn, 1) := by decide +kernel
theorem dX11_copies_0 : decode cX11_copies 0 = .ok (.iconst 0, 1) := by decide +kernel
theorem dX11_copies_1 : decode cX11_copies 1 = .ok (.istore 4, 2) := by decide +kernel
theorem dX11_copies_3 : decode cX11_copies 3 = .ok (.iload 4, 2) := by decide +kernel
theorem dX11_copies_5 : decode cX11_copies 5 = .ok (.sipush 192, 3) := by decide +kernel
theorem dX11_copies_8 : decode cX11_copies 8 = .ok (.if_icmp .ge 21, 3) := by decide +kernel
theorem dX11_copies_11 : decode cX11_copies 11 = .ok (.aload_n 2, 1) := by decide +kernel
theorem dX11_copies_12 : decode cX11_copies 12 = .ok (.iload_n 3, 1) := by decide +kernel
theorem dX11_copies_13 : decode cX11_copies 13 = .ok (.iload 4, 2) := by decide +kernel
theorem dX11_copies_15 : decode cX11_copies 15 = .ok (.iadd, 1) := by decide +kernel
theorem dX11_copies_16 : decode cX11_copies 16 = .ok (.aload_n 0, 1) := by decide +kernel
theorem dX11_copies_17 : decode cX11_copies 17 = .ok (.iload_n 1, 1) := by decide +kernel
theorem dX11_copies_18 : decode cX11_copies 18 = .ok (.iload 4, 2) := by decide +kernel
theorem dX11_copies_20 : decode cX11_copies 20 = .ok (.iadd, 1) := by decide +kernel
theorem dX11_copies_21 : decode cX11_copies 21 = .ok (.iaload, 1) := by decide +kernel
theorem dX11_copies_22 : decode cX11_copies 22 = .ok (.iastore, 1) := by decide +kernel
theorem dX11_copies_23 : decode cX11_copies 23 = .ok (.iinc 4 1, 3) := by decide +kernel
theorem dX11_copies_26 : decode cX11_copies 26 = .ok (.goto (-23), 3) := by decide +kernel
theorem dX11_copies_29 : decode cX11_copies 29 = .ok (.return_, 1) := by decide +kernel
theorem dX11_remembers_0 : decode cX11_remembers 0 = .ok (.aload_n 0, 1) := by decide +kernel
theorem dX11_remembers_1 : decode cX11_remembers 1 = .ok (.getfield 72, 3) := by decide +kernel
theorem dX11_remembers_4 : decode cX11_remembers 4 = .ok (.iconst 5, 1) := by decide +kernel
theorem dX11_remembers_5 : decode cX11_remembers 5 = .ok (.if_icmp .ne 44, 3) := by decide +kernel
theorem dX11_remembers_8 : decode cX11_remembers 8 = .ok (.iconst 0, 1) := by decide +kernel
theorem dX11_remembers_9 : decode cX11_remembers 9 = .ok (.istore_n 1, 1) := by decide +kernel
theorem dX11_remembers_10 : decode cX11_remembers 10 = .ok (.iload_n 1, 1) := by decide +kernel
theorem dX11_remembers_11 : decode cX11_remembers 11 = .ok (.sipush 768, 3) := by decide +kernel
theorem dX11_remembers_14 : decode cX11_remembers 14 = .ok (.if_icmp .ge 25, 3) := by decide +kernel
theorem dX11_remembers_17 : decode cX11_remembers 17 = .ok (.aload_n 0, 1) := by decide +kernel
theorem dX11_remembers_18 : decode cX11_remembers 18 = .ok (.getfield 16, 3) := by decide +kernel
theorem dX11_remembers_21 : decode cX11_remembers 21 = .ok (.iload_n 1, 1) := by decide +kernel
theorem dX11_remembers_22 : decode cX11_remembers 22 = .ok (.aload_n 0, 1) := by decide +kernel
theorem dX11_remembers_23 : decode cX11_remembers 23 = .ok (.getfield 16, 3) := by decide +kernel
theorem dX11_remembers_26 : decode cX11_remembers 26 = .ok (.iload_n 1, 1) := by decide +kernel
theorem dX11_remembers_27 : decode cX11_remembers 27 = .ok (.sipush 192, 3) := by decide +kernel
theorem dX11_remembers_30 : decode cX11_remembers 30 = .ok (.iadd, 1) := by decide +kernel
theorem dX11_remembers_31 : decode cX11_remembers 31 = .ok (.iaload, 1) := by decide +kernel
theorem dX11_remembers_32 : decode cX11_remembers 32 = .ok (.iastore, 1) := by decide +kernel
theorem dX11_remembers_33 : decode cX11_remembers 33 = .ok (.iinc 1 1, 3) := by decide +kernel
theorem dX11_remembers_36 : decode cX11_remembers 36 = .ok (.goto (-26), 3) := by decide +kernel
theorem dX11_remembers_39 : decode cX11_remembers 39 = .ok (.aload_n 0, 1) := by decide +kernel
theorem dX11_remembers_40 : decode cX11_remembers 40 = .ok (.dup, 1) := by decide +kernel
theorem dX11_remembers_41 : decode cX11_remembers 41 = .ok (.getfield 72, 3) := by decide +kernel
theorem dX11_remembers_44 : decode cX11_remembers 44 = .ok (.iconst 1, 1) := by decide +kernel
theorem dX11_remembers_45 : decode cX11_remembers 45 = .ok (.isub, 1) := by decide +kernel
theorem dX11_remembers_46 : decode cX11_remembers 46 = .ok (.putfield 72, 3) := by decide +kernel
theorem dX11_remembers_49 : decode cX11_remembers 49 = .ok (.aload_n 0, 1) := by decide +kernel
theorem dX11_remembers_50 : decode cX11_remembers 50 = .ok (.getfield 7, 3) := by decide +kernel
theorem dX11_remembers_53 : decode cX11_remembers 53 = .ok (.iconst 0, 1) := by decide +kernel
theorem dX11_remembers_54 : decode cX11_remembers 54 = .ok (.aload_n 0, 1) := by decide +kernel
theorem dX11_remembers_55 : decode cX11_remembers 55 = .ok (.getfield 16, 3) := by decide +kernel
theorem dX11_remembers_58 : decode cX11_remembers 58 = .ok (.sipush 192, 3) := by decide +kernel
theorem dX11_remembers_61 : decode cX11_remembers 61 = .ok (.aload_n 0, 1) := by decide +kernel
theorem dX11_remembers_62 : decode cX11_remembers 62 = .ok (.getfield 72, 3) := by decide +kernel
theorem dX11_remembers_65 : decode cX11_remembers 65 = .ok (.imul, 1) := by decide +kernel
theorem dX11_remembers_66 : decode cX11_remembers 66 = .ok (.invokestatic 76, 3) := by decide +kernel
theorem dX11_remembers_69 : decode cX11_remembers 69 = .ok (.aload_n 0, 1) := by decide +kernel
theorem dX11_remembers_70 : decode cX11_remembers 70 = .ok (.dup, 1) := by decide +kernel
theorem dX11_remembers_71 : decode cX11_remembers 71 = .ok (.getfield 72, 3) := by decide +kernel
theorem dX11_remembers_74 : decode cX11_remembers 74 = .ok (.iconst 1, 1) := by decide +kernel
theorem dX11_remembers_75 : decode cX11_remembers 75 = .ok (.iadd, 1) := by decide +kernel
theorem dX11_remembers_76 : decode cX11_remembers 76 = .ok (.putfield 72, 3) := by decide +kernel
theorem dX11_remembers_79 : decode cX11_remembers 79 = .ok (.return_, 1) := by decide +kernel
theorem dX11_back_0 : decode cX11_back 0 = .ok (.aload_n 0, 1) := by decide +kernel
theorem dX11_back_1 : decode cX11_back 1 = .ok (.getfield 72, 3) := by decide +kernel
theorem dX11_back_4 : decode cX11_back 4 = .ok (.ifCond .ne 10, 3) := by decide +kernel
theorem dX11_back_7 : decode cX11_back 7 = .ok (.aload_n 0, 1) := by decide +kernel
theorem dX11_back_8 : decode cX11_back 8 = .ok (.bipush (-3), 2) := by decide +kernel
theorem dX11_back_10 : decode cX11_back 10 = .ok (.invokevirtual 80, 3) := by decide +kernel
theorem dX11_back_13 : decode cX11_back 13 = .ok (.ireturn, 1) := by decide +kernel
theorem dX11_back_14 : decode cX11_back 14 = .ok (.aload_n 0, 1) := by decide +kernel
theorem dX11_back_15 : decode cX11_back 15 = .ok (.dup, 1) := by decide +kernel
theorem dX11_back_16 : decode cX11_back 16 = .ok (.getfield 72, 3) := by decide +kernel
theorem dX11_back_19 : decode cX11_back 19 = .ok (.iconst 1, 1) := by decide +kernel
theorem dX11_back_20 : decode cX11_back 20 = .ok (.isub, 1) := by decide +kernel
theorem dX11_back_21 : decode cX11_back 21 = .ok (.putfield 72, 3) := by decide +kernel
theorem dX11_back_24 : decode cX11_back 24 = .ok (.aload_n 0, 1) := by decide +kernel
theorem dX11_back_25 : decode cX11_back 25 = .ok (.getfield 16, 3) := by decide +kernel
theorem dX11_back_28 : decode cX11_back 28 = .ok (.sipush 192, 3) := by decide +kernel
theorem dX11_back_31 : decode cX11_back 31 = .ok (.aload_n 0, 1) := by decide +kernel
theorem dX11_back_32 : decode cX11_back 32 = .ok (.getfield 72, 3) := by decide +kernel
theorem dX11_back_35 : decode cX11_back 35 = .ok (.imul, 1) := by decide +kernel
theorem dX11_back_36 : decode cX11_back 36 = .ok (.aload_n 0, 1) := by decide +kernel
theorem dX11_back_37 : decode cX11_back 37 = .ok (.getfield 7, 3) := by decide +kernel
theorem dX11_back_40 : decode cX11_back 40 = .ok (.iconst 0, 1) := by decide +kernel
theorem dX11_back_41 : decode cX11_back 41 = .ok (.invokestatic 76, 3) := by decide +kernel
theorem dX11_back_44 : decode cX11_back 44 = .ok (.aload_n 0, 1) := by decide +kernel
theorem dX11_back_45 : decode cX11_back 45 = .ok (.getfield 72, 3) := by decide +kernel
theorem dX11_back_48 : decode cX11_back 48 = .ok (.ireturn, 1) := by decide +kernel
theorem dX11_wants_0 : decode cX11_wants 0 = .ok (.iload_n 0, 1) := by decide +kernel
theorem dX11_wants_1 : decode cX11_wants 1 = .ok (.bipush 102, 2) := by decide +kernel
theorem dX11_wants_3 : decode cX11_wants 3 = .ok (.if_icmp .ne 7, 3) := by decide +kernel
theorem dX11_wants_6 : decode cX11_wants 6 = .ok (.iconst 1, 1) := by decide +kernel
theorem dX11_wants_7 : decode cX11_wants 7 = .ok (.goto 14, 3) := by decide +kernel
theorem dX11_wants_10 : decode cX11_wants 10 = .ok (.iload_n 0, 1) := by decide +kernel
theorem dX11_wants_11 : decode cX11_wants 11 = .ok (.bipush 103, 2) := by decide +kernel
theorem dX11_wants_13 : decode cX11_wants 13 = .ok (.if_icmp .ne 7, 3) := by decide +kernel
theorem dX11_wants_16 : decode cX11_wants 16 = .ok (.iconst 2, 1) := by decide +kernel
theorem dX11_wants_17 : decode cX11_wants 17 = .ok (.goto 4, 3) := by decide +kernel
theorem dX11_wants_20 : decode cX11_wants 20 = .ok (.iconst 0, 1) := by decide +kernel
theorem dX11_wants_21 : decode cX11_wants 21 = .ok (.ireturn, 1) := by decide +kernel
theorem dX11_isUnknown_0 : decode cX11_isUnknown 0 = .ok (.iload_n 0, 1) := by decide +kernel
theorem dX11_isUnknown_1 : decode cX11_isUnknown 1 = .ok (.bipush 120, 2) := by decide +kernel
theorem dX11_isUnknown_3 : decode cX11_isUnknown 3 = .ok (.if_icmp .eq 9, 3) := by decide +kernel
theorem dX11_isUnknown_6 : decode cX11_isUnknown 6 = .ok (.iload_n 0, 1) := by decide +kernel
theorem dX11_isUnknown_7 : decode cX11_isUnknown 7 = .ok (.bipush 121, 2) := by decide +kernel
theorem dX11_isUnknown_9 : decode cX11_isUnknown 9 = .ok (.if_icmp .ne 7, 3) := by decide +kernel
theorem dX11_isUnknown_12 : decode cX11_isUnknown 12 = .ok (.iconst 1, 1) := by decide +kernel
theorem dX11_isUnknown_13 : decode cX11_isUnknown 13 = .ok (.goto 4, 3) := by decide +kernel
theorem dX11_isUnknown_16 : decode cX11_isUnknown 16 = .ok (.iconst 0, 1) := by decide +kernel
theorem dX11_isUnknown_17 : decode cX11_isUnknown 17 = .ok (.ireturn, 1) := by decide +kernel
theorem dX11_longAt_0 : decode cX11_longAt 0 = .ok (.iconst 1, 1) := by decide +kernel
theorem dX11_longAt_1 : decode cX11_longAt 1 = .ok (.istore_n 2, 1) := by decide +kernel
theorem dX11_longAt_2 : decode cX11_longAt 2 = .ok (.iconst 0, 1) := by decide +kernel
theorem dX11_longAt_3 : decode cX11_longAt 3 = .ok (.istore_n 3, 1) := by decide +kernel
theorem dX11_longAt_4 : decode cX11_longAt 4 = .ok (.iload_n 2, 1) := by decide +kernel
theorem dX11_longAt_5 : decode cX11_longAt 5 = .ok (.ifCond .le 22, 3) := by decide +kernel
theorem dX11_longAt_8 : decode cX11_longAt 8 = .ok (.iload_n 2, 1) := by decide +kernel
theorem dX11_longAt_9 : decode cX11_longAt 9 = .ok (.aload_n 0, 1) := by decide +kernel
theorem dX11_longAt_10 : decode cX11_longAt 10 = .ok (.iload_n 1, 1) := by decide +kernel
theorem dX11_longAt_11 : decode cX11_longAt 11 = .ok (.iload_n 3, 1) := by decide +kernel
theorem dX11_longAt_12 : decode cX11_longAt 12 = .ok (.iadd, 1) := by decide +kernel
theorem dX11_longAt_13 : decode cX11_longAt 13 = .ok (.iaload, 1) := by decide +kernel
theorem dX11_longAt_14 : decode cX11_longAt 14 = .ok (.invokestatic 84, 3) := by decide +kernel
theorem dX11_longAt_17 : decode cX11_longAt 17 = .ok (.iconst 1, 1) := by decide +kernel
theorem dX11_longAt_18 : decode cX11_longAt 18 = .ok (.isub, 1) := by decide +kernel
theorem dX11_longAt_19 : decode cX11_longAt 19 = .ok (.iadd, 1) := by decide +kernel
theorem dX11_longAt_20 : decode cX11_longAt 20 = .ok (.istore_n 2, 1) := by decide +kernel
theorem dX11_longAt_21 : decode cX11_longAt 21 = .ok (.iinc 3 1, 3) := by decide +kernel
theorem dX11_longAt_24 : decode cX11_longAt 24 = .ok (.goto (-20), 3) := by decide +kernel
theorem dX11_longAt_27 : decode cX11_longAt 27 = .ok (.iload_n 3, 1) := by decide +kernel
theorem dX11_longAt_28 : decode cX11_longAt 28 = .ok (.ireturn, 1) := by decide +kernel
theorem dX11_leftOf_0 : decode cX11_leftOf 0 = .ok (.iconst 1, 1) := by decide +kernel
theorem dX11_leftOf_1 : decode cX11_leftOf 1 = .ok (.bipush 26, 2) := by decide +kernel
theorem dX11_leftOf_3 : decode cX11_leftOf 3 = .ok (.iload_n 0, 1) := by decide +kernel
theorem dX11_leftOf_4 : decode cX11_leftOf 4 = .ok (.imul, 1) := by decide +kernel
theorem dX11_leftOf_5 : decode cX11_leftOf 5 = .ok (.iadd, 1) := by decide +kernel
theorem dX11_leftOf_6 : decode cX11_leftOf 6 = .ok (.iconst 2, 1) := by decide +kernel
theorem dX11_leftOf_7 : decode cX11_leftOf 7 = .ok (.iadd, 1) := by decide +kernel
theorem dX11_leftOf_8 : decode cX11_leftOf 8 = .ok (.ireturn, 1) := by decide +kernel
theorem dX11_rightOf_0 : decode cX11_rightOf 0 = .ok (.iconst 1, 1) := by decide +kernel
theorem dX11_rightOf_1 : decode cX11_rightOf 1 = .ok (.bipush 26, 2) := by decide +kernel
theorem dX11_rightOf_3 : decode cX11_rightOf 3 = .ok (.iload_n 0, 1) := by decide +kernel
theorem dX11_rightOf_4 : decode cX11_rightOf 4 = .ok (.imul, 1) := by decide +kernel
theorem dX11_rightOf_5 : decode cX11_rightOf 5 = .ok (.iadd, 1) := by decide +kernel
theorem dX11_rightOf_6 : decode cX11_rightOf 6 = .ok (.bipush 14, 2) := by decide +kernel
theorem dX11_rightOf_8 : decode cX11_rightOf 8 = .ok (.iadd, 1) := by decide +kernel
theorem dX11_rightOf_9 : decode cX11_rightOf 9 = .ok (.ireturn, 1) := by decide +kernel
theorem dX11_leftLong_0 : decode cX11_leftLong 0 = .ok (.aload_n 0, 1) := by decide +kernel
theorem dX11_leftLong_1 : decode cX11_leftLong 1 = .ok (.iconst 1, 1) := by decide +kernel
theorem dX11_leftLong_2 : decode cX11_leftLong 2 = .ok (.bipush 26, 2) := by decide +kernel
theorem dX11_leftLong_4 : decode cX11_leftLong 4 = .ok (.iload_n 1, 1) := by decide +kernel
theorem dX11_leftLong_5 : decode cX11_leftLong 5 = .ok (.imul, 1) := by decide +kernel
theorem dX11_leftLong_6 : decode cX11_leftLong 6 = .ok (.iadd, 1) := by decide +kernel
theorem dX11_leftLong_7 : decode cX11_leftLong 7 = .ok (.iaload, 1) := by decide +kernel
theorem dX11_leftLong_8 : decode cX11_leftLong 8 = .ok (.ireturn, 1) := by decide +kernel
theorem dX11_rightLong_0 : decode cX11_rightLong 0 = .ok (.aload_n 0, 1) := by decide +kernel
theorem dX11_rightLong_1 : decode cX11_rightLong 1 = .ok (.iconst 1, 1) := by decide +kernel
theorem dX11_rightLong_2 : decode cX11_rightLong 2 = .ok (.bipush 26, 2) := by decide +kernel
theorem dX11_rightLong_4 : decode cX11_rightLong 4 = .ok (.iload_n 1, 1) := by decide +kernel
theorem dX11_rightLong_5 : decode cX11_rightLong 5 = .ok (.imul, 1) := by decide +kernel
theorem dX11_rightLong_6 : decode cX11_rightLong 6 = .ok (.iadd, 1) := by decide +kernel
theorem dX11_rightLong_7 : decode cX11_rightLong 7 = .ok (.iconst 1, 1) := by decide +kernel
theorem dX11_rightLong_8 : decode cX11_rightLong 8 = .ok (.iadd, 1) := by decide +kernel
theorem dX11_rightLong_9 : decode cX11_rightLong 9 = .ok (.iaload, 1) := by decide +kernel
theorem dX11_rightLong_10 : decode cX11_rightLong 10 = .ok (.ireturn, 1) := by decide +kernel
theorem dX11_unknowns_0 : decode cX11_unknowns 0 = .ok (.iconst 0, 1) := by decide +kernel
theorem dX11_unknowns_1 : decode cX11_unknowns 1 = .ok (.istore_n 3, 1) := by decide +kernel
theorem dX11_unknowns_2 : decode cX11_unknowns 2 = .ok (.iconst 0, 1) := by decide +kernel
theorem dX11_unknowns_3 : decode cX11_unknowns 3 = .ok (.istore 4, 2) := by decide +kernel
theorem dX11_unknowns_5 : decode cX11_unknowns 5 = .ok (.iload 4, 2) := by decide +kernel
theorem dX11_unknowns_7 : decode cX11_unknowns 7 = .ok (.iload_n 2, 1) := by decide +kernel
theorem dX11_unknowns_8 : decode cX11_unknowns 8 = .ok (.if_icmp .ge 43, 3) := by decide +kernel
theorem dX11_unknowns_11 : decode cX11_unknowns 11 = .ok (.iload_n 3, 1) := by decide +kernel
theorem dX11_unknowns_12 : decode cX11_unknowns 12 = .ok (.aload_n 0, 1) := by decide +kernel
theorem dX11_unknowns_13 : decode cX11_unknowns 13 = .ok (.iload_n 1, 1) := by decide +kernel
theorem dX11_unknowns_14 : decode cX11_unknowns 14 = .ok (.iload 4, 2) := by decide +kernel
theorem dX11_unknowns_16 : decode cX11_unknowns 16 = .ok (.iadd, 1) := by decide +kernel
theorem dX11_unknowns_17 : decode cX11_unknowns 17 = .ok (.iaload, 1) := by decide +kernel
theorem dX11_unknowns_18 : decode cX11_unknowns 18 = .ok (.bipush 120, 2) := by decide +kernel
theorem dX11_unknowns_20 : decode cX11_unknowns 20 = .ok (.if_icmp .ne 7, 3) := by decide +kernel
theorem dX11_unknowns_23 : decode cX11_unknowns 23 = .ok (.iconst 1, 1) := by decide +kernel
theorem dX11_unknowns_24 : decode cX11_unknowns 24 = .ok (.goto 19, 3) := by decide +kernel
theorem dX11_unknowns_27 : decode cX11_unknowns 27 = .ok (.aload_n 0, 1) := by decide +kernel
theorem dX11_unknowns_28 : decode cX11_unknowns 28 = .ok (.iload_n 1, 1) := by decide +kernel
theorem dX11_unknowns_29 : decode cX11_unknowns 29 = .ok (.iload 4, 2) := by decide +kernel
theorem dX11_unknowns_31 : decode cX11_unknowns 31 = .ok (.iadd, 1) := by decide +kernel
theorem dX11_unknowns_32 : decode cX11_unknowns 32 = .ok (.iaload, 1) := by decide +kernel
theorem dX11_unknowns_33 : decode cX11_unknowns 33 = .ok (.bipush 121, 2) := by decide +kernel
theorem dX11_unknowns_35 : decode cX11_unknowns 35 = .ok (.if_icmp .ne 7, 3) := by decide +kernel
theorem dX11_unknowns_38 : decode cX11_unknowns 38 = .ok (.iconst 2, 1) := by decide +kernel
theorem dX11_unknowns_39 : decode cX11_unknowns 39 = .ok (.goto 4, 3) := by decide +kernel
theorem dX11_unknowns_42 : decode cX11_unknowns 42 = .ok (.iconst 0, 1) := by decide +kernel
theorem dX11_unknowns_43 : decode cX11_unknowns 43 = .ok (.ior, 1) := by decide +kernel
theorem dX11_unknowns_44 : decode cX11_unknowns 44 = .ok (.istore_n 3, 1) := by decide +kernel
theorem dX11_unknowns_45 : decode cX11_unknowns 45 = .ok (.iinc 4 1, 3) := by decide +kernel
theorem dX11_unknowns_48 : decode cX11_unknowns 48 = .ok (.goto (-43), 3) := by decide +kernel
theorem dX11_unknowns_51 : decode cX11_unknowns 51 = .ok (.iload_n 3, 1) := by decide +kernel
theorem dX11_unknowns_52 : decode cX11_unknowns 52 = .ok (.ireturn, 1) := by decide +kernel
theorem dX11_wantsMore_0 : decode cX11_wantsMore 0 = .ok (.aload_n 0, 1) := by decide +kernel
theorem dX11_wantsMore_1 : decode cX11_wantsMore 1 = .ok (.getfield 25, 3) := by decide +kernel
theorem dX11_wantsMore_4 : decode cX11_wantsMore 4 = .ok (.aload_n 0, 1) := by decide +kernel
theorem dX11_wantsMore_5 : decode cX11_wantsMore 5 = .ok (.getfield 87, 3) := by decide +kernel
theorem dX11_wantsMore_8 : decode cX11_wantsMore 8 = .ok (.iload_n 1, 1) := by decide +kernel
theorem dX11_wantsMore_9 : decode cX11_wantsMore 9 = .ok (.iastore, 1) := by decide +kernel
theorem dX11_wantsMore_10 : decode cX11_wantsMore 10 = .ok (.aload_n 0, 1) := by decide +kernel
theorem dX11_wantsMore_11 : decode cX11_wantsMore 11 = .ok (.dup, 1) := by decide +kernel
theorem dX11_wantsMore_12 : decode cX11_wantsMore 12 = .ok (.getfield 87, 3) := by decide +kernel
theorem dX11_wantsMore_15 : decode cX11_wantsMore 15 = .ok (.iconst 1, 1) := by decide +kernel
theorem dX11_wantsMore_16 : decode cX11_wantsMore 16 = .ok (.iadd, 1) := by decide +kernel
theorem dX11_wantsMore_17 : decode cX11_wantsMore 17 = .ok (.putfield 87, 3) := by decide +kernel
theorem dX11_wantsMore_20 : decode cX11_wantsMore 20 = .ok (.return_, 1) := by decide +kernel
theorem dX11_blanks_0 : decode cX11_blanks 0 = .ok (.aload_n 0, 1) := by decide +kernel
theorem dX11_blanks_1 : decode cX11_blanks 1 = .ok (.getfield 90, 3) := by decide +kernel
theorem dX11_blanks_4 : decode cX11_blanks 4 = .ok (.aload_n 0, 1) := by decide +kernel
theorem dX11_blanks_5 : decode cX11_blanks 5 = .ok (.getfield 93, 3) := by decide +kernel
theorem dX11_blanks_8 : decode cX11_blanks 8 = .ok (.if_icmp .ge 30, 3) := by decide +kernel
theorem dX11_blanks_11 : decode cX11_blanks 11 = .ok (.aload_n 0, 1) := by decide +kernel
theorem dX11_blanks_12 : decode cX11_blanks 12 = .ok (.getfield 22, 3) := by decide +kernel
theorem dX11_blanks_15 : decode cX11_blanks 15 = .ok (.aload_n 0, 1) := by decide +kernel
theorem dX11_blanks_16 : decode cX11_blanks 16 = .ok (.getfield 90, 3) := by decide +kernel
theorem dX11_blanks_19 : decode cX11_blanks 19 = .ok (.iaload, 1) := by decide +kernel
theorem dX11_blanks_20 : decode cX11_blanks 20 = .ok (.bipush 32, 2) := by decide +kernel
theorem dX11_blanks_22 : decode cX11_blanks 22 = .ok (.if_icmp .ne 16, 3) := by decide +kernel
theorem dX11_blanks_25 : decode cX11_blanks 25 = .ok (.aload_n 0, 1) := by decide +kernel
theorem dX11_blanks_26 : decode cX11_blanks 26 = .ok (.dup, 1) := by decide +kernel
theorem dX11_blanks_27 : decode cX11_blanks 27 = .ok (.getfield 90, 3) := by decide +kernel
theorem dX11_blanks_30 : decode cX11_blanks 30 = .ok (.iconst 1, 1) := by decide +kernel
theorem dX11_blanks_31 : decode cX11_blanks 31 = .ok (.iadd, 1) := by decide +kernel
theorem dX11_blanks_32 : decode cX11_blanks 32 = .ok (.putfield 90, 3) := by decide +kernel
theorem dX11_blanks_35 : decode cX11_blanks 35 = .ok (.goto (-35), 3) := by decide +kernel
theorem dX11_blanks_38 : decode cX11_blanks 38 = .ok (.return_, 1) := by decide +kernel
theorem dX11_isLetter_0 : decode cX11_isLetter 0 = .ok (.iload_n 0, 1) := by decide +kernel
theorem dX11_isLetter_1 : decode cX11_isLetter 1 = .ok (.bipush 97, 2) := by decide +kernel
theorem dX11_isLetter_3 : decode cX11_isLetter 3 = .ok (.bipush 98, 2) := by decide +kernel
theorem dX11_isLetter_5 : decode cX11_isLetter 5 = .ok (.invokestatic 96, 3) := by decide +kernel
theorem dX11_isLetter_8 : decode cX11_isLetter 8 = .ok (.ifCond .ne 21, 3) := by decide +kernel
theorem dX11_isLetter_11 : decode cX11_isLetter 11 = .ok (.iload_n 0, 1) := by decide +kernel
theorem dX11_isLetter_12 : decode cX11_isLetter 12 = .ok (.bipush 102, 2) := by decide +kernel
theorem dX11_isLetter_14 : decode cX11_isLetter 14 = .ok (.bipush 103, 2) := by decide +kernel
theorem dX11_isLetter_16 : decode cX11_isLetter 16 = .ok (.invokestatic 96, 3) := by decide +kernel
theorem dX11_isLetter_19 : decode cX11_isLetter 19 = .ok (.ifCond .ne 10, 3) := by decide +kernel
theorem dX11_isLetter_22 : decode cX11_isLetter 22 = .ok (.iload_n 0, 1) := by decide +kernel
theorem dX11_isLetter_23 : decode cX11_isLetter 23 = .ok (.invokestatic 100, 3) := by decide +kernel
theorem dX11_isLetter_26 : decode cX11_isLetter 26 = .ok (.ifCond .eq 7, 3) := by decide +kernel
theorem dX11_isLetter_29 : decode cX11_isLetter 29 = .ok (.iconst 1, 1) := by decide +kernel
theorem dX11_isLetter_30 : decode cX11_isLetter 30 = .ok (.goto 4, 3) := by decide +kernel
theorem dX11_isLetter_33 : decode cX11_isLetter 33 = .ok (.iconst 0, 1) := by decide +kernel
theorem dX11_isLetter_34 : decode cX11_isLetter 34 = .ok (.ireturn, 1) := by decide +kernel
theorem dX11_opens_0 : decode cX11_opens 0 = .ok (.iload_n 1, 1) := by decide +kernel
theorem dX11_opens_1 : decode cX11_opens 1 = .ok (.invokestatic 84, 3) := by decide +kernel
theorem dX11_opens_4 : decode cX11_opens 4 = .ok (.ifCond .le 41, 3) := by decide +kernel
theorem dX11_opens_7 : decode cX11_opens 7 = .ok (.aload_n 0, 1) := by decide +kernel
theorem dX11_opens_8 : decode cX11_opens 8 = .ok (.bipush 41, 2) := by decide +kernel
theorem dX11_opens_10 : decode cX11_opens 10 = .ok (.invokevirtual 104, 3) := by decide +kernel
theorem dX11_opens_13 : decode cX11_opens 13 = .ok (.aload_n 0, 1) := by decide +kernel
theorem dX11_opens_14 : decode cX11_opens 14 = .ok (.bipush 84, 2) := by decide +kernel
theorem dX11_opens_16 : decode cX11_opens 16 = .ok (.invokevirtual 104, 3) := by decide +kernel
theorem dX11_opens_19 : decode cX11_opens 19 = .ok (.iload_n 1, 1) := by decide +kernel
theorem dX11_opens_20 : decode cX11_opens 20 = .ok (.invokestatic 84, 3) := by decide +kernel
theorem dX11_opens_23 : decode cX11_opens 23 = .ok (.iconst 1, 1) := by decide +kernel
theorem dX11_opens_24 : decode cX11_opens 24 = .ok (.if_icmp .le 15, 3) := by decide +kernel
theorem dX11_opens_27 : decode cX11_opens 27 = .ok (.aload_n 0, 1) := by decide +kernel
theorem dX11_opens_28 : decode cX11_opens 28 = .ok (.bipush 44, 2) := by decide +kernel
theorem dX11_opens_30 : decode cX11_opens 30 = .ok (.invokevirtual 104, 3) := by decide +kernel
theorem dX11_opens_33 : decode cX11_opens 33 = .ok (.aload_n 0, 1) := by decide +kernel
theorem dX11_opens_34 : decode cX11_opens 34 = .ok (.bipush 84, 2) := by decide +kernel
theorem dX11_opens_36 : decode cX11_opens 36 = .ok (.invokevirtual 104, 3) := by decide +kernel
theorem dX11_opens_39 : decode cX11_opens 39 = .ok (.aload_n 0, 1) := by decide +kernel
theorem dX11_opens_40 : decode cX11_opens 40 = .ok (.bipush 40, 2) := by decide +kernel
theorem dX11_opens_42 : decode cX11_opens 42 = .ok (.invokevirtual 104, 3) := by decide +kernel
theorem dX11_opens_45 : decode cX11_opens 45 = .ok (.return_, 1) := by decide +kernel
theorem dX11_takesTerm_0 : decode cX11_takesTerm 0 = .ok (.iconst 0, 1) := by decide +kernel
theorem dX11_takesTerm_1 : decode cX11_takesTerm 1 = .ok (.istore 4, 2) := by decide +kernel
theorem dX11_takesTerm_3 : decode cX11_takesTerm 3 = .ok (.aload_n 0, 1) := by decide +kernel
theorem dX11_takesTerm_4 : decode cX11_takesTerm 4 = .ok (.iconst 0, 1) := by decide +kernel
theorem dX11_takesTerm_5 : decode cX11_takesTerm 5 = .ok (.putfield 87, 3) := by decide +kernel
theorem dX11_takesTerm_8 : decode cX11_takesTerm 8 = .ok (.aload_n 0, 1) := by decide +kernel
theorem dX11_takesTerm_9 : decode cX11_takesTerm 9 = .ok (.bipush 84, 2) := by decide +kernel
theorem dX11_takesTerm_11 : decode cX11_takesTerm 11 = .ok (.invokevirtual 104, 3) := by decide +kernel
theorem dX11_takesTerm_14 : decode cX11_takesTerm 14 = .ok (.aload_n 0, 1) := by decide +kernel
theorem dX11_takesTerm_15 : decode cX11_takesTerm 15 = .ok (.getfield 87, 3) := by decide +kernel
theorem dX11_takesTerm_18 : decode cX11_takesTerm 18 = .ok (.ifCond .le 156, 3) := by decide +kernel
theorem dX11_takesTerm_21 : decode cX11_takesTerm 21 = .ok (.aload_n 0, 1) := by decide +kernel
theorem dX11_takesTerm_22 : decode cX11_takesTerm 22 = .ok (.invokevirtual 108, 3) := by decide +kernel
theorem dX11_takesTerm_25 : decode cX11_takesTerm 25 = .ok (.aload_n 0, 1) := by decide +kernel
theorem dX11_takesTerm_26 : decode cX11_takesTerm 26 = .ok (.getfield 90, 3) := by decide +kernel
theorem dX11_takesTerm_29 : decode cX11_takesTerm 29 = .ok (.aload_n 0, 1) := by decide +kernel
theorem dX11_takesTerm_30 : decode cX11_takesTerm 30 = .ok (.getfield 93, 3) := by decide +kernel
theorem dX11_takesTerm_33 : decode cX11_takesTerm 33 = .ok (.if_icmp .ne 5, 3) := by decide +kernel
theorem dX11_takesTerm_36 : decode cX11_takesTerm 36 = .ok (.iconst (-1), 1) := by decide +kernel
theorem dX11_takesTerm_37 : decode cX11_takesTerm 37 = .ok (.ireturn, 1) := by decide +kernel
theorem dX11_takesTerm_38 : decode cX11_takesTerm 38 = .ok (.aload_n 0, 1) := by decide +kernel
theorem dX11_takesTerm_39 : decode cX11_takesTerm 39 = .ok (.getfield 22, 3) := by decide +kernel
theorem dX11_takesTerm_42 : decode cX11_takesTerm 42 = .ok (.aload_n 0, 1) := by decide +kernel
theorem dX11_takesTerm_43 : decode cX11_takesTerm 43 = .ok (.getfield 90, 3) := by decide +kernel
theorem dX11_takesTerm_46 : decode cX11_takesTerm 46 = .ok (.iaload, 1) := by decide +kernel
theorem dX11_takesTerm_47 : decode cX11_takesTerm 47 = .ok (.istore 5, 2) := by decide +kernel
theorem dX11_takesTerm_49 : decode cX11_takesTerm 49 = .ok (.aload_n 0, 1) := by decide +kernel
theorem dX11_takesTerm_50 : decode cX11_takesTerm 50 = .ok (.dup, 1) := by decide +kernel
theorem dX11_takesTerm_51 : decode cX11_takesTerm 51 = .ok (.getfield 87, 3) := by decide +kernel
theorem dX11_takesTerm_54 : decode cX11_takesTerm 54 = .ok (.iconst 1, 1) := by decide +kernel
theorem dX11_takesTerm_55 : decode cX11_takesTerm 55 = .ok (.isub, 1) := by decide +kernel
theorem dX11_takesTerm_56 : decode cX11_takesTerm 56 = .ok (.putfield 87, 3) := by decide +kernel
theorem dX11_takesTerm_59 : decode cX11_takesTerm 59 = .ok (.aload_n 0, 1) := by decide +kernel
theorem dX11_takesTerm_60 : decode cX11_takesTerm 60 = .ok (.getfield 25, 3) := by decide +kernel
theorem dX11_takesTerm_63 : decode cX11_takesTerm 63 = .ok (.aload_n 0, 1) := by decide +kernel
theorem dX11_takesTerm_64 : decode cX11_takesTerm 64 = .ok (.getfield 87, 3) := by decide +kernel
theorem dX11_takesTerm_67 : decode cX11_takesTerm 67 = .ok (.iaload, 1) := by decide +kernel
theorem dX11_takesTerm_68 : decode cX11_takesTerm 68 = .ok (.bipush 84, 2) := by decide +kernel
theorem dX11_takesTerm_70 : decode cX11_takesTerm 70 = .ok (.if_icmp .ne 75, 3) := by decide +kernel
theorem dX11_takesTerm_73 : decode cX11_takesTerm 73 = .ok (.iload 5, 2) := by decide +kernel
theorem dX11_takesTerm_75 : decode cX11_takesTerm 75 = .ok (.invokestatic 100, 3) := by decide +kernel
theorem dX11_takesTerm_78 : decode cX11_takesTerm 78 = .ok (.ifCond .eq 16, 3) := by decide +kernel
theorem dX11_takesTerm_81 : decode cX11_takesTerm 81 = .ok (.iload_n 3, 1) := by decide +kernel
theorem dX11_takesTerm_82 : decode cX11_takesTerm 82 = .ok (.iload 5, 2) := by decide +kernel
theorem dX11_takesTerm_84 : decode cX11_takesTerm 84 = .ok (.bipush 120, 2) := by decide +kernel
theorem dX11_takesTerm_86 : decode cX11_takesTerm 86 = .ok (.isub, 1) := by decide +kernel
theorem dX11_takesTerm_87 : decode cX11_takesTerm 87 = .ok (.ishr, 1) := by decide +kernel
theorem dX11_takesTerm_88 : decode cX11_takesTerm 88 = .ok (.iconst 1, 1) := by decide +kernel
theorem dX11_takesTerm_89 : decode cX11_takesTerm 89 = .ok (.iand, 1) := by decide +kernel
theorem dX11_takesTerm_90 : decode cX11_takesTerm 90 = .ok (.iconst 1, 1) := by decide +kernel
theorem dX11_takesTerm_91 : decode cX11_takesTerm 91 = .ok (.if_icmp .ne 7, 3) := by decide +kernel
theorem dX11_takesTerm_94 : decode cX11_takesTerm 94 = .ok (.iconst 1, 1) := by decide +kernel
theorem dX11_takesTerm_95 : decode cX11_takesTerm 95 = .ok (.goto 4, 3) := by decide +kernel
theorem dX11_takesTerm_98 : decode cX11_takesTerm 98 = .ok (.iconst 0, 1) := by decide +kernel
theorem dX11_takesTerm_99 : decode cX11_takesTerm 99 = .ok (.istore 6, 2) := by decide +kernel
theorem dX11_takesTerm_101 : decode cX11_takesTerm 101 = .ok (.iload 5, 2) := by decide +kernel
theorem dX11_takesTerm_103 : decode cX11_takesTerm 103 = .ok (.invokestatic 111, 3) := by decide +kernel
theorem dX11_takesTerm_106 : decode cX11_takesTerm 106 = .ok (.ifCond .eq 14, 3) := by decide +kernel
theorem dX11_takesTerm_109 : decode cX11_takesTerm 109 = .ok (.iload 4, 2) := by decide +kernel
theorem dX11_takesTerm_111 : decode cX11_takesTerm 111 = .ok (.iload_n 2, 1) := by decide +kernel
theorem dX11_takesTerm_112 : decode cX11_takesTerm 112 = .ok (.if_icmp .eq 8, 3) := by decide +kernel
theorem dX11_takesTerm_115 : decode cX11_takesTerm 115 = .ok (.iload 6, 2) := by decide +kernel
theorem dX11_takesTerm_117 : decode cX11_takesTerm 117 = .ok (.ifCond .ne 5, 3) := by decide +kernel
theorem dX11_takesTerm_120 : decode cX11_takesTerm 120 = .ok (.iconst (-1), 1) := by decide +kernel
theorem dX11_takesTerm_121 : decode cX11_takesTerm 121 = .ok (.ireturn, 1) := by decide +kernel
theorem dX11_takesTerm_122 : decode cX11_takesTerm 122 = .ok (.aload_n 0, 1) := by decide +kernel
theorem dX11_takesTerm_123 : decode cX11_takesTerm 123 = .ok (.getfield 13, 3) := by decide +kernel
theorem dX11_takesTerm_126 : decode cX11_takesTerm 126 = .ok (.iload_n 1, 1) := by decide +kernel
theorem dX11_takesTerm_127 : decode cX11_takesTerm 127 = .ok (.iload 4, 2) := by decide +kernel
theorem dX11_takesTerm_129 : decode cX11_takesTerm 129 = .ok (.iadd, 1) := by decide +kernel
theorem dX11_takesTerm_130 : decode cX11_takesTerm 130 = .ok (.iload 5, 2) := by decide +kernel
theorem dX11_takesTerm_132 : decode cX11_takesTerm 132 = .ok (.iastore, 1) := by decide +kernel
theorem dX11_takesTerm_133 : decode cX11_takesTerm 133 = .ok (.iinc 4 1, 3) := by decide +kernel
theorem dX11_takesTerm_136 : decode cX11_takesTerm 136 = .ok (.aload_n 0, 1) := by decide +kernel
theorem dX11_takesTerm_137 : decode cX11_takesTerm 137 = .ok (.iload 5, 2) := by decide +kernel
theorem dX11_takesTerm_139 : decode cX11_takesTerm 139 = .ok (.invokevirtual 114, 3) := by decide +kernel
theorem dX11_takesTerm_142 : decode cX11_takesTerm 142 = .ok (.goto 19, 3) := by decide +kernel
theorem dX11_takesTerm_145 : decode cX11_takesTerm 145 = .ok (.iload 5, 2) := by decide +kernel
theorem dX11_takesTerm_147 : decode cX11_takesTerm 147 = .ok (.aload_n 0, 1) := by decide +kernel
theorem dX11_takesTerm_148 : decode cX11_takesTerm 148 = .ok (.getfield 25, 3) := by decide +kernel
theorem dX11_takesTerm_151 : decode cX11_takesTerm 151 = .ok (.aload_n 0, 1) := by decide +kernel
theorem dX11_takesTerm_152 : decode cX11_takesTerm 152 = .ok (.getfield 87, 3) := by decide +kernel
theorem dX11_takesTerm_155 : decode cX11_takesTerm 155 = .ok (.iaload, 1) := by decide +kernel
theorem dX11_takesTerm_156 : decode cX11_takesTerm 156 = .ok (.if_icmp .eq 5, 3) := by decide +kernel
theorem dX11_takesTerm_159 : decode cX11_takesTerm 159 = .ok (.iconst (-1), 1) := by decide +kernel
theorem dX11_takesTerm_160 : decode cX11_takesTerm 160 = .ok (.ireturn, 1) := by decide +kernel
theorem dX11_takesTerm_161 : decode cX11_takesTerm 161 = .ok (.aload_n 0, 1) := by decide +kernel
theorem dX11_takesTerm_162 : decode cX11_takesTerm 162 = .ok (.dup, 1) := by decide +kernel
theorem dX11_takesTerm_163 : decode cX11_takesTerm 163 = .ok (.getfield 90, 3) := by decide +kernel
theorem dX11_takesTerm_166 : decode cX11_takesTerm 166 = .ok (.iconst 1, 1) := by decide +kernel
theorem dX11_takesTerm_167 : decode cX11_takesTerm 167 = .ok (.iadd, 1) := by decide +kernel
theorem dX11_takesTerm_168 : decode cX11_takesTerm 168 = .ok (.putfield 90, 3) := by decide +kernel
theorem dX11_takesTerm_171 : decode cX11_takesTerm 171 = .ok (.goto (-157), 3) := by decide +kernel
theorem dX11_takesTerm_174 : decode cX11_takesTerm 174 = .ok (.aload_n 0, 1) := by decide +kernel
theorem dX11_takesTerm_175 : decode cX11_takesTerm 175 = .ok (.invokevirtual 108, 3) := by decide +kernel
theorem dX11_takesTerm_178 : decode cX11_takesTerm 178 = .ok (.iload 4, 2) := by decide +kernel
theorem dX11_takesTerm_180 : decode cX11_takesTerm 180 = .ok (.ireturn, 1) := by decide +kernel
theorem dX11_takesSign_0 : decode cX11_takesSign 0 = .ok (.aload_n 0, 1) := by decide +kernel
theorem dX11_takesSign_1 : decode cX11_takesSign 1 = .ok (.getfield 90, 3) := by decide +kernel
theorem dX11_takesSign_4 : decode cX11_takesSign 4 = .ok (.aload_n 0, 1) := by decide +kernel
theorem dX11_takesSign_5 : decode cX11_takesSign 5 = .ok (.getfield 93, 3) := by decide +kernel
theorem dX11_takesSign_8 : decode cX11_takesSign 8 = .ok (.if_icmp .ge 20, 3) := by decide +kernel
theorem dX11_takesSign_11 : decode cX11_takesSign 11 = .ok (.aload_n 0, 1) := by decide +kernel
theorem dX11_takesSign_12 : decode cX11_takesSign 12 = .ok (.getfield 22, 3) := by decide +kernel
theorem dX11_takesSign_15 : decode cX11_takesSign 15 = .ok (.aload_n 0, 1) := by decide +kernel
theorem dX11_takesSign_16 : decode cX11_takesSign 16 = .ok (.getfield 90, 3) := by decide +kernel
theorem dX11_takesSign_19 : decode cX11_takesSign 19 = .ok (.iaload, 1) := by decide +kernel
theorem dX11_takesSign_20 : decode cX11_takesSign 20 = .ok (.iload_n 1, 1) := by decide +kernel
theorem dX11_takesSign_21 : decode cX11_takesSign 21 = .ok (.if_icmp .ne 7, 3) := by decide +kernel
theorem dX11_takesSign_24 : decode cX11_takesSign 24 = .ok (.iconst 1, 1) := by decide +kernel
theorem dX11_takesSign_25 : decode cX11_takesSign 25 = .ok (.goto 4, 3) := by decide +kernel
theorem dX11_takesSign_28 : decode cX11_takesSign 28 = .ok (.iconst 0, 1) := by decide +kernel
theorem dX11_takesSign_29 : decode cX11_takesSign 29 = .ok (.istore_n 2, 1) := by decide +kernel
theorem dX11_takesSign_30 : decode cX11_takesSign 30 = .ok (.aload_n 0, 1) := by decide +kernel
theorem dX11_takesSign_31 : decode cX11_takesSign 31 = .ok (.dup, 1) := by decide +kernel
theorem dX11_takesSign_32 : decode cX11_takesSign 32 = .ok (.getfield 90, 3) := by decide +kernel
theorem dX11_takesSign_35 : decode cX11_takesSign 35 = .ok (.iload_n 2, 1) := by decide +kernel
theorem dX11_takesSign_36 : decode cX11_takesSign 36 = .ok (.ifCond .eq 7, 3) := by decide +kernel
theorem dX11_takesSign_39 : decode cX11_takesSign 39 = .ok (.iconst 1, 1) := by decide +kernel
theorem dX11_takesSign_40 : decode cX11_takesSign 40 = .ok (.goto 4, 3) := by decide +kernel
theorem dX11_takesSign_43 : decode cX11_takesSign 43 = .ok (.iconst 0, 1) := by decide +kernel
theorem dX11_takesSign_44 : decode cX11_takesSign 44 = .ok (.iadd, 1) := by decide +kernel
theorem dX11_takesSign_45 : decode cX11_takesSign 45 = .ok (.putfield 90, 3) := by decide +kernel
theorem dX11_takesSign_48 : decode cX11_takesSign 48 = .ok (.iload_n 2, 1) := by decide +kernel
theorem dX11_takesSign_49 : decode cX11_takesSign 49 = .ok (.ireturn, 1) := by decide +kernel
theorem dX11_takesRule_0 : decode cX11_takesRule 0 = .ok (.aload_n 0, 1) := by decide +kernel
theorem dX11_takesRule_1 : decode cX11_takesRule 1 = .ok (.getfield 13, 3) := by decide +kernel
theorem dX11_takesRule_4 : decode cX11_takesRule 4 = .ok (.iconst 0, 1) := by decide +kernel
theorem dX11_takesRule_5 : decode cX11_takesRule 5 = .ok (.iaload, 1) := by decide +kernel
theorem dX11_takesRule_6 : decode cX11_takesRule 6 = .ok (.istore_n 1, 1) := by decide +kernel
theorem dX11_takesRule_7 : decode cX11_takesRule 7 = .ok (.iload_n 1, 1) := by decide +kernel
theorem dX11_takesRule_8 : decode cX11_takesRule 8 = .ok (.iconst 5, 1) := by decide +kernel
theorem dX11_takesRule_9 : decode cX11_takesRule 9 = .ok (.if_icmp .eq 29, 3) := by decide +kernel
theorem dX11_takesRule_12 : decode cX11_takesRule 12 = .ok (.aload_n 0, 1) := by decide +kernel
theorem dX11_takesRule_13 : decode cX11_takesRule 13 = .ok (.getfield 90, 3) := by decide +kernel
theorem dX11_takesRule_16 : decode cX11_takesRule 16 = .ok (.aload_n 0, 1) := by decide +kernel
theorem dX11_takesRule_17 : decode cX11_takesRule 17 = .ok (.getfield 93, 3) := by decide +kernel
theorem dX11_takesRule_20 : decode cX11_takesRule 20 = .ok (.if_icmp .ge 20, 3) := by decide +kernel
theorem dX11_takesRule_23 : decode cX11_takesRule 23 = .ok (.aload_n 0, 1) := by decide +kernel
theorem dX11_takesRule_24 : decode cX11_takesRule 24 = .ok (.getfield 22, 3) := by decide +kernel
theorem dX11_takesRule_27 : decode cX11_takesRule 27 = .ok (.aload_n 0, 1) := by decide +kernel
theorem dX11_takesRule_28 : decode cX11_takesRule 28 = .ok (.getfield 90, 3) := by decide +kernel
theorem dX11_takesRule_31 : decode cX11_takesRule 31 = .ok (.iaload, 1) := by decide +kernel
theorem dX11_takesRule_32 : decode cX11_takesRule 32 = .ok (.invokestatic 100, 3) := by decide +kernel
theorem dX11_takesRule_35 : decode cX11_takesRule 35 = .ok (.ifCond .eq 5, 3) := by decide +kernel
theorem dX11_takesRule_38 : decode cX11_takesRule 38 = .ok (.iconst 0, 1) := by decide +kernel
theorem dX11_takesRule_39 : decode cX11_takesRule 39 = .ok (.ireturn, 1) := by decide +kernel
theorem dX11_takesRule_40 : decode cX11_takesRule 40 = .ok (.aload_n 0, 1) := by decide +kernel
theorem dX11_takesRule_41 : decode cX11_takesRule 41 = .ok (.iload_n 1, 1) := by decide +kernel
theorem dX11_takesRule_42 : decode cX11_takesRule 42 = .ok (.invokestatic 117, 3) := by decide +kernel
theorem dX11_takesRule_45 : decode cX11_takesRule 45 = .ok (.bipush 12, 2) := by decide +kernel
theorem dX11_takesRule_47 : decode cX11_takesRule 47 = .ok (.iconst 3, 1) := by decide +kernel
theorem dX11_takesRule_48 : decode cX11_takesRule 48 = .ok (.invokevirtual 120, 3) := by decide +kernel
theorem dX11_takesRule_51 : decode cX11_takesRule 51 = .ok (.istore_n 2, 1) := by decide +kernel
theorem dX11_takesRule_52 : decode cX11_takesRule 52 = .ok (.iload_n 2, 1) := by decide +kernel
theorem dX11_takesRule_53 : decode cX11_takesRule 53 = .ok (.iconst (-1), 1) := by decide +kernel
theorem dX11_takesRule_54 : decode cX11_takesRule 54 = .ok (.if_icmp .eq 12, 3) := by decide +kernel
theorem dX11_takesRule_57 : decode cX11_takesRule 57 = .ok (.aload_n 0, 1) := by decide +kernel
theorem dX11_takesRule_58 : decode cX11_takesRule 58 = .ok (.bipush 62, 2) := by decide +kernel
theorem dX11_takesRule_60 : decode cX11_takesRule 60 = .ok (.invokevirtual 124, 3) := by decide +kernel
theorem dX11_takesRule_63 : decode cX11_takesRule 63 = .ok (.ifCond .ne 5, 3) := by decide +kernel
theorem dX11_takesRule_66 : decode cX11_takesRule 66 = .ok (.iconst 0, 1) := by decide +kernel
theorem dX11_takesRule_67 : decode cX11_takesRule 67 = .ok (.ireturn, 1) := by decide +kernel
theorem dX11_takesRule_68 : decode cX11_takesRule 68 = .ok (.aload_n 0, 1) := by decide +kernel
theorem dX11_takesRule_69 : decode cX11_takesRule 69 = .ok (.iload_n 1, 1) := by decide +kernel
theorem dX11_takesRule_70 : decode cX11_takesRule 70 = .ok (.invokestatic 127, 3) := by decide +kernel
theorem dX11_takesRule_73 : decode cX11_takesRule 73 = .ok (.bipush 12, 2) := by decide +kernel
theorem dX11_takesRule_75 : decode cX11_takesRule 75 = .ok (.aload_n 0, 1) := by decide +kernel
theorem dX11_takesRule_76 : decode cX11_takesRule 76 = .ok (.getfield 13, 3) := by decide +kernel
theorem dX11_takesRule_79 : decode cX11_takesRule 79 = .ok (.iload_n 1, 1) := by decide +kernel
theorem dX11_takesRule_80 : decode cX11_takesRule 80 = .ok (.invokestatic 117, 3) := by decide +kernel
theorem dX11_takesRule_83 : decode cX11_takesRule 83 = .ok (.iload_n 2, 1) := by decide +kernel
theorem dX11_takesRule_84 : decode cX11_takesRule 84 = .ok (.invokestatic 130, 3) := by decide +kernel
theorem dX11_takesRule_87 : decode cX11_takesRule 87 = .ok (.invokevirtual 120, 3) := by decide +kernel
theorem dX11_takesRule_90 : decode cX11_takesRule 90 = .ok (.istore_n 3, 1) := by decide +kernel
theorem dX11_takesRule_91 : decode cX11_takesRule 91 = .ok (.iload_n 3, 1) := by decide +kernel
theorem dX11_takesRule_92 : decode cX11_takesRule 92 = .ok (.iconst (-1), 1) := by decide +kernel
theorem dX11_takesRule_93 : decode cX11_takesRule 93 = .ok (.if_icmp .eq 12, 3) := by decide +kernel
theorem dX11_takesRule_96 : decode cX11_takesRule 96 = .ok (.aload_n 0, 1) := by decide +kernel
theorem dX11_takesRule_97 : decode cX11_takesRule 97 = .ok (.bipush 59, 2) := by decide +kernel
theorem dX11_takesRule_99 : decode cX11_takesRule 99 = .ok (.invokevirtual 124, 3) := by decide +kernel
theorem dX11_takesRule_102 : decode cX11_takesRule 102 = .ok (.ifCond .ne 5, 3) := by decide +kernel
theorem dX11_takesRule_105 : decode cX11_takesRule 105 = .ok (.iconst 0, 1) := by decide +kernel
theorem dX11_takesRule_106 : decode cX11_takesRule 106 = .ok (.ireturn, 1) := by decide +kernel
theorem dX11_takesRule_107 : decode cX11_takesRule 107 = .ok (.aload_n 0, 1) := by decide +kernel
theorem dX11_takesRule_108 : decode cX11_takesRule 108 = .ok (.getfield 13, 3) := by decide +kernel
theorem dX11_takesRule_111 : decode cX11_takesRule 111 = .ok (.iconst 1, 1) := by decide +kernel
theorem dX11_takesRule_112 : decode cX11_takesRule 112 = .ok (.bipush 26, 2) := by decide +kernel
theorem dX11_takesRule_114 : decode cX11_takesRule 114 = .ok (.iload_n 1, 1) := by decide +kernel
theorem dX11_takesRule_115 : decode cX11_takesRule 115 = .ok (.imul, 1) := by decide +kernel
theorem dX11_takesRule_116 : decode cX11_takesRule 116 = .ok (.iadd, 1) := by decide +kernel
theorem dX11_takesRule_117 : decode cX11_takesRule 117 = .ok (.iload_n 2, 1) := by decide +kernel
theorem dX11_takesRule_118 : decode cX11_takesRule 118 = .ok (.iastore, 1) := by decide +kernel
theorem dX11_takesRule_119 : decode cX11_takesRule 119 = .ok (.aload_n 0, 1) := by decide +kernel
theorem dX11_takesRule_120 : decode cX11_takesRule 120 = .ok (.getfield 13, 3) := by decide +kernel
theorem dX11_takesRule_123 : decode cX11_takesRule 123 = .ok (.iconst 1, 1) := by decide +kernel
theorem dX11_takesRule_124 : decode cX11_takesRule 124 = .ok (.bipush 26, 2) := by decide +kernel
theorem dX11_takesRule_126 : decode cX11_takesRule 126 = .ok (.iload_n 1, 1) := by decide +kernel
theorem dX11_takesRule_127 : decode cX11_takesRule 127 = .ok (.imul, 1) := by decide +kernel
theorem dX11_takesRule_128 : decode cX11_takesRule 128 = .ok (.iadd, 1) := by decide +kernel
theorem dX11_takesRule_129 : decode cX11_takesRule 129 = .ok (.iconst 1, 1) := by decide +kernel
theorem dX11_takesRule_130 : decode cX11_takesRule 130 = .ok (.iadd, 1) := by decide +kernel
theorem dX11_takesRule_131 : decode cX11_takesRule 131 = .ok (.iload_n 3, 1) := by decide +kernel
theorem dX11_takesRule_132 : decode cX11_takesRule 132 = .ok (.iastore, 1) := by decide +kernel
theorem dX11_takesRule_133 : decode cX11_takesRule 133 = .ok (.aload_n 0, 1) := by decide +kernel
theorem dX11_takesRule_134 : decode cX11_takesRule 134 = .ok (.getfield 13, 3) := by decide +kernel
theorem dX11_takesRule_137 : decode cX11_takesRule 137 = .ok (.iconst 0, 1) := by decide +kernel
theorem dX11_takesRule_138 : decode cX11_takesRule 138 = .ok (.dup2, 1) := by decide +kernel
theorem dX11_takesRule_139 : decode cX11_takesRule 139 = .ok (.iaload, 1) := by decide +kernel
theorem dX11_takesRule_140 : decode cX11_takesRule 140 = .ok (.iconst 1, 1) := by decide +kernel
theorem dX11_takesRule_141 : decode cX11_takesRule 141 = .ok (.iadd, 1) := by decide +kernel
theorem dX11_takesRule_142 : decode cX11_takesRule 142 = .ok (.iastore, 1) := by decide +kernel
theorem dX11_takesRule_143 : decode cX11_takesRule 143 = .ok (.aload_n 0, 1) := by decide +kernel
theorem dX11_takesRule_144 : decode cX11_takesRule 144 = .ok (.invokevirtual 108, 3) := by decide +kernel
theorem dX11_takesRule_147 : decode cX11_takesRule 147 = .ok (.iconst 1, 1) := by decide +kernel
theorem dX11_takesRule_148 : decode cX11_takesRule 148 = .ok (.ireturn, 1) := by decide +kernel
theorem dX11_readsRules_0 : decode cX11_readsRules 0 = .ok (.aload_n 0, 1) := by decide +kernel
theorem dX11_readsRules_1 : decode cX11_readsRules 1 = .ok (.getfield 7, 3) := by decide +kernel
theorem dX11_readsRules_4 : decode cX11_readsRules 4 = .ok (.iconst 0, 1) := by decide +kernel
theorem dX11_readsRules_5 : decode cX11_readsRules 5 = .ok (.aload_n 0, 1) := by decide +kernel
theorem dX11_readsRules_6 : decode cX11_readsRules 6 = .ok (.getfield 13, 3) := by decide +kernel
theorem dX11_readsRules_9 : decode cX11_readsRules 9 = .ok (.iconst 0, 1) := by decide +kernel
theorem dX11_readsRules_10 : decode cX11_readsRules 10 = .ok (.invokestatic 76, 3) := by decide +kernel
theorem dX11_readsRules_13 : decode cX11_readsRules 13 = .ok (.aload_n 0, 1) := by decide +kernel
theorem dX11_readsRules_14 : decode cX11_readsRules 14 = .ok (.iconst 0, 1) := by decide +kernel
theorem dX11_readsRules_15 : decode cX11_readsRules 15 = .ok (.putfield 90, 3) := by decide +kernel
theorem dX11_readsRules_18 : decode cX11_readsRules 18 = .ok (.aload_n 0, 1) := by decide +kernel
theorem dX11_readsRules_19 : decode cX11_readsRules 19 = .ok (.invokevirtual 108, 3) := by decide +kernel
theorem dX11_readsRules_22 : decode cX11_readsRules 22 = .ok (.aload_n 0, 1) := by decide +kernel
theorem dX11_readsRules_23 : decode cX11_readsRules 23 = .ok (.getfield 90, 3) := by decide +kernel
theorem dX11_readsRules_26 : decode cX11_readsRules 26 = .ok (.aload_n 0, 1) := by decide +kernel
theorem dX11_readsRules_27 : decode cX11_readsRules 27 = .ok (.getfield 93, 3) := by decide +kernel
theorem dX11_readsRules_30 : decode cX11_readsRules 30 = .ok (.if_icmp .ge 7, 3) := by decide +kernel
theorem dX11_readsRules_33 : decode cX11_readsRules 33 = .ok (.iconst 1, 1) := by decide +kernel
theorem dX11_readsRules_34 : decode cX11_readsRules 34 = .ok (.goto 4, 3) := by decide +kernel
theorem dX11_readsRules_37 : decode cX11_readsRules 37 = .ok (.iconst 0, 1) := by decide +kernel
theorem dX11_readsRules_38 : decode cX11_readsRules 38 = .ok (.istore_n 1, 1) := by decide +kernel
theorem dX11_readsRules_39 : decode cX11_readsRules 39 = .ok (.iload_n 1, 1) := by decide +kernel
theorem dX11_readsRules_40 : decode cX11_readsRules 40 = .ok (.ifCond .eq 22, 3) := by decide +kernel
theorem dX11_readsRules_43 : decode cX11_readsRules 43 = .ok (.aload_n 0, 1) := by decide +kernel
theorem dX11_readsRules_44 : decode cX11_readsRules 44 = .ok (.getfield 90, 3) := by decide +kernel
theorem dX11_readsRules_47 : decode cX11_readsRules 47 = .ok (.aload_n 0, 1) := by decide +kernel
theorem dX11_readsRules_48 : decode cX11_readsRules 48 = .ok (.getfield 93, 3) := by decide +kernel
theorem dX11_readsRules_51 : decode cX11_readsRules 51 = .ok (.if_icmp .ge 11, 3) := by decide +kernel
theorem dX11_readsRules_54 : decode cX11_readsRules 54 = .ok (.aload_n 0, 1) := by decide +kernel
theorem dX11_readsRules_55 : decode cX11_readsRules 55 = .ok (.invokevirtual 134, 3) := by decide +kernel
theorem dX11_readsRules_58 : decode cX11_readsRules 58 = .ok (.istore_n 1, 1) := by decide +kernel
theorem dX11_readsRules_59 : decode cX11_readsRules 59 = .ok (.goto (-20), 3) := by decide +kernel
theorem dX11_readsRules_62 : decode cX11_readsRules 62 = .ok (.iload_n 1, 1) := by decide +kernel
theorem dX11_readsRules_63 : decode cX11_readsRules 63 = .ok (.ifCond .eq 7, 3) := by decide +kernel
theorem dX11_readsRules_66 : decode cX11_readsRules 66 = .ok (.iconst (-1), 1) := by decide +kernel
theorem dX11_readsRules_67 : decode cX11_readsRules 67 = .ok (.goto 7, 3) := by decide +kernel
theorem dX11_readsRules_70 : decode cX11_readsRules 70 = .ok (.aload_n 0, 1) := by decide +kernel
theorem dX11_readsRules_71 : decode cX11_readsRules 71 = .ok (.getfield 90, 3) := by decide +kernel
theorem dX11_readsRules_74 : decode cX11_readsRules 74 = .ok (.ireturn, 1) := by decide +kernel
theorem dX11_readsTerm_0 : decode cX11_readsTerm 0 = .ok (.aload_n 0, 1) := by decide +kernel
theorem dX11_readsTerm_1 : decode cX11_readsTerm 1 = .ok (.getfield 7, 3) := by decide +kernel
theorem dX11_readsTerm_4 : decode cX11_readsTerm 4 = .ok (.iconst 0, 1) := by decide +kernel
theorem dX11_readsTerm_5 : decode cX11_readsTerm 5 = .ok (.aload_n 0, 1) := by decide +kernel
theorem dX11_readsTerm_6 : decode cX11_readsTerm 6 = .ok (.getfield 13, 3) := by decide +kernel
theorem dX11_readsTerm_9 : decode cX11_readsTerm 9 = .ok (.iconst 0, 1) := by decide +kernel
theorem dX11_readsTerm_10 : decode cX11_readsTerm 10 = .ok (.invokestatic 76, 3) := by decide +kernel
theorem dX11_readsTerm_13 : decode cX11_readsTerm 13 = .ok (.aload_n 0, 1) := by decide +kernel
theorem dX11_readsTerm_14 : decode cX11_readsTerm 14 = .ok (.iconst 0, 1) := by decide +kernel
theorem dX11_readsTerm_15 : decode cX11_readsTerm 15 = .ok (.putfield 90, 3) := by decide +kernel
theorem dX11_readsTerm_18 : decode cX11_readsTerm 18 = .ok (.aload_n 0, 1) := by decide +kernel
theorem dX11_readsTerm_19 : decode cX11_readsTerm 19 = .ok (.sipush 132, 3) := by decide +kernel
theorem dX11_readsTerm_22 : decode cX11_readsTerm 22 = .ok (.bipush 60, 2) := by decide +kernel
theorem dX11_readsTerm_24 : decode cX11_readsTerm 24 = .ok (.iconst 3, 1) := by decide +kernel
theorem dX11_readsTerm_25 : decode cX11_readsTerm 25 = .ok (.invokevirtual 120, 3) := by decide +kernel
theorem dX11_readsTerm_28 : decode cX11_readsTerm 28 = .ok (.istore_n 1, 1) := by decide +kernel
theorem dX11_readsTerm_29 : decode cX11_readsTerm 29 = .ok (.aload_n 0, 1) := by decide +kernel
theorem dX11_readsTerm_30 : decode cX11_readsTerm 30 = .ok (.getfield 13, 3) := by decide +kernel
theorem dX11_readsTerm_33 : decode cX11_readsTerm 33 = .ok (.sipush 131, 3) := by decide +kernel
theorem dX11_readsTerm_36 : decode cX11_readsTerm 36 = .ok (.iload_n 1, 1) := by decide +kernel
theorem dX11_readsTerm_37 : decode cX11_readsTerm 37 = .ok (.iastore, 1) := by decide +kernel
theorem dX11_readsTerm_38 : decode cX11_readsTerm 38 = .ok (.iload_n 1, 1) := by decide +kernel
theorem dX11_readsTerm_39 : decode cX11_readsTerm 39 = .ok (.iconst (-1), 1) := by decide +kernel
theorem dX11_readsTerm_40 : decode cX11_readsTerm 40 = .ok (.if_icmp .eq 14, 3) := by decide +kernel
theorem dX11_readsTerm_43 : decode cX11_readsTerm 43 = .ok (.aload_n 0, 1) := by decide +kernel
theorem dX11_readsTerm_44 : decode cX11_readsTerm 44 = .ok (.getfield 90, 3) := by decide +kernel
theorem dX11_readsTerm_47 : decode cX11_readsTerm 47 = .ok (.aload_n 0, 1) := by decide +kernel
theorem dX11_readsTerm_48 : decode cX11_readsTerm 48 = .ok (.getfield 93, 3) := by decide +kernel
theorem dX11_readsTerm_51 : decode cX11_readsTerm 51 = .ok (.if_icmp .ge 10, 3) := by decide +kernel
theorem dX11_readsTerm_54 : decode cX11_readsTerm 54 = .ok (.aload_n 0, 1) := by decide +kernel
theorem dX11_readsTerm_55 : decode cX11_readsTerm 55 = .ok (.getfield 90, 3) := by decide +kernel
theorem dX11_readsTerm_58 : decode cX11_readsTerm 58 = .ok (.goto 4, 3) := by decide +kernel
theorem dX11_readsTerm_61 : decode cX11_readsTerm 61 = .ok (.iconst (-1), 1) := by decide +kernel
theorem dX11_readsTerm_62 : decode cX11_readsTerm 62 = .ok (.ireturn, 1) := by decide +kernel
theorem dX11_type_0 : decode cX11_type 0 = .ok (.iload_n 1, 1) := by decide +kernel
theorem dX11_type_1 : decode cX11_type 1 = .ok (.iconst 0, 1) := by decide +kernel
theorem dX11_type_2 : decode cX11_type 2 = .ok (.bipush 127, 2) := by decide +kernel
theorem dX11_type_4 : decode cX11_type 4 = .ok (.invokestatic 96, 3) := by decide +kernel
theorem dX11_type_7 : decode cX11_type 7 = .ok (.ifCond .ne 10, 3) := by decide +kernel
theorem dX11_type_10 : decode cX11_type 10 = .ok (.aload_n 0, 1) := by decide +kernel
theorem dX11_type_11 : decode cX11_type 11 = .ok (.bipush (-2), 2) := by decide +kernel
theorem dX11_type_13 : decode cX11_type 13 = .ok (.invokevirtual 80, 3) := by decide +kernel
theorem dX11_type_16 : decode cX11_type 16 = .ok (.ireturn, 1) := by decide +kernel
theorem dX11_type_17 : decode cX11_type 17 = .ok (.aload_n 0, 1) := by decide +kernel
theorem dX11_type_18 : decode cX11_type 18 = .ok (.getfield 93, 3) := by decide +kernel
theorem dX11_type_21 : decode cX11_type 21 = .ok (.bipush 120, 2) := by decide +kernel
theorem dX11_type_23 : decode cX11_type 23 = .ok (.if_icmp .ne 10, 3) := by decide +kernel
theorem dX11_type_26 : decode cX11_type 26 = .ok (.aload_n 0, 1) := by decide +kernel
theorem dX11_type_27 : decode cX11_type 27 = .ok (.bipush (-4), 2) := by decide +kernel
theorem dX11_type_29 : decode cX11_type 29 = .ok (.invokevirtual 80, 3) := by decide +kernel
theorem dX11_type_32 : decode cX11_type 32 = .ok (.ireturn, 1) := by decide +kernel
theorem dX11_type_33 : decode cX11_type 33 = .ok (.aload_n 0, 1) := by decide +kernel
theorem dX11_type_34 : decode cX11_type 34 = .ok (.getfield 22, 3) := by decide +kernel
theorem dX11_type_37 : decode cX11_type 37 = .ok (.aload_n 0, 1) := by decide +kernel
theorem dX11_type_38 : decode cX11_type 38 = .ok (.getfield 93, 3) := by decide +kernel
theorem dX11_type_41 : decode cX11_type 41 = .ok (.iload_n 1, 1) := by decide +kernel
theorem dX11_type_42 : decode cX11_type 42 = .ok (.iastore, 1) := by decide +kernel
theorem dX11_type_43 : decode cX11_type 43 = .ok (.aload_n 0, 1) := by decide +kernel
theorem dX11_type_44 : decode cX11_type 44 = .ok (.dup, 1) := by decide +kernel
theorem dX11_type_45 : decode cX11_type 45 = .ok (.getfield 93, 3) := by decide +kernel
theorem dX11_type_48 : decode cX11_type 48 = .ok (.iconst 1, 1) := by decide +kernel
theorem dX11_type_49 : decode cX11_type 49 = .ok (.iadd, 1) := by decide +kernel
theorem dX11_type_50 : decode cX11_type 50 = .ok (.putfield 93, 3) := by decide +kernel
theorem dX11_type_53 : decode cX11_type 53 = .ok (.aload_n 0, 1) := by decide +kernel
theorem dX11_type_54 : decode cX11_type 54 = .ok (.getfield 93, 3) := by decide +kernel
theorem dX11_type_57 : decode cX11_type 57 = .ok (.ireturn, 1) := by decide +kernel
theorem dX11_clear_0 : decode cX11_clear 0 = .ok (.aload_n 0, 1) := by decide +kernel
theorem dX11_clear_1 : decode cX11_clear 1 = .ok (.getfield 93, 3) := by decide +kernel
theorem dX11_clear_4 : decode cX11_clear 4 = .ok (.istore_n 1, 1) := by decide +kernel
theorem dX11_clear_5 : decode cX11_clear 5 = .ok (.aload_n 0, 1) := by decide +kernel
theorem dX11_clear_6 : decode cX11_clear 6 = .ok (.iconst 0, 1) := by decide +kernel
theorem dX11_clear_7 : decode cX11_clear 7 = .ok (.putfield 93, 3) := by decide +kernel
theorem dX11_clear_10 : decode cX11_clear 10 = .ok (.iload_n 1, 1) := by decide +kernel
theorem dX11_clear_11 : decode cX11_clear 11 = .ok (.ireturn, 1) := by decide +kernel
theorem dX11_reads_0 : decode cX11_reads 0 = .ok (.aload_n 0, 1) := by decide +kernel
theorem dX11_reads_1 : decode cX11_reads 1 = .ok (.invokevirtual 138, 3) := by decide +kernel
theorem dX11_reads_4 : decode cX11_reads 4 = .ok (.istore_n 1, 1) := by decide +kernel
theorem dX11_reads_5 : decode cX11_reads 5 = .ok (.iload_n 1, 1) := by decide +kernel
theorem dX11_reads_6 : decode cX11_reads 6 = .ok (.iconst (-1), 1) := by decide +kernel
theorem dX11_reads_7 : decode cX11_reads 7 = .ok (.if_icmp .eq 8, 3) := by decide +kernel
theorem dX11_reads_10 : decode cX11_reads 10 = .ok (.bipush (-10), 2) := by decide +kernel
theorem dX11_reads_12 : decode cX11_reads 12 = .ok (.iload_n 1, 1) := by decide +kernel
theorem dX11_reads_13 : decode cX11_reads 13 = .ok (.isub, 1) := by decide +kernel
theorem dX11_reads_14 : decode cX11_reads 14 = .ok (.ireturn, 1) := by decide +kernel
theorem dX11_reads_15 : decode cX11_reads 15 = .ok (.aload_n 0, 1) := by decide +kernel
theorem dX11_reads_16 : decode cX11_reads 16 = .ok (.invokevirtual 142, 3) := by decide +kernel
theorem dX11_reads_19 : decode cX11_reads 19 = .ok (.aload_n 0, 1) := by decide +kernel
theorem dX11_reads_20 : decode cX11_reads 20 = .ok (.getfield 13, 3) := by decide +kernel
theorem dX11_reads_23 : decode cX11_reads 23 = .ok (.iconst 0, 1) := by decide +kernel
theorem dX11_reads_24 : decode cX11_reads 24 = .ok (.aload_n 0, 1) := by decide +kernel
theorem dX11_reads_25 : decode cX11_reads 25 = .ok (.getfield 7, 3) := by decide +kernel
theorem dX11_reads_28 : decode cX11_reads 28 = .ok (.iconst 0, 1) := by decide +kernel
theorem dX11_reads_29 : decode cX11_reads 29 = .ok (.invokestatic 76, 3) := by decide +kernel
theorem dX11_reads_32 : decode cX11_reads 32 = .ok (.aload_n 0, 1) := by decide +kernel
theorem dX11_reads_33 : decode cX11_reads 33 = .ok (.getfield 7, 3) := by decide +kernel
theorem dX11_reads_36 : decode cX11_reads 36 = .ok (.iconst 0, 1) := by decide +kernel
theorem dX11_reads_37 : decode cX11_reads 37 = .ok (.iaload, 1) := by decide +kernel
theorem dX11_reads_38 : decode cX11_reads 38 = .ok (.ireturn, 1) := by decide +kernel
theorem dX11_term_0 : decode cX11_term 0 = .ok (.aload_n 0, 1) := by decide +kernel
theorem dX11_term_1 : decode cX11_term 1 = .ok (.invokevirtual 145, 3) := by decide +kernel
theorem dX11_term_4 : decode cX11_term 4 = .ok (.istore_n 1, 1) := by decide +kernel
theorem dX11_term_5 : decode cX11_term 5 = .ok (.iload_n 1, 1) := by decide +kernel
theorem dX11_term_6 : decode cX11_term 6 = .ok (.iconst (-1), 1) := by decide +kernel
theorem dX11_term_7 : decode cX11_term 7 = .ok (.if_icmp .eq 8, 3) := by decide +kernel
theorem dX11_term_10 : decode cX11_term 10 = .ok (.bipush (-10), 2) := by decide +kernel
theorem dX11_term_12 : decode cX11_term 12 = .ok (.iload_n 1, 1) := by decide +kernel
theorem dX11_term_13 : decode cX11_term 13 = .ok (.isub, 1) := by decide +kernel
theorem dX11_term_14 : decode cX11_term 14 = .ok (.ireturn, 1) := by decide +kernel
theorem dX11_term_15 : decode cX11_term 15 = .ok (.aload_n 0, 1) := by decide +kernel
theorem dX11_term_16 : decode cX11_term 16 = .ok (.invokevirtual 142, 3) := by decide +kernel
theorem dX11_term_19 : decode cX11_term 19 = .ok (.aload_n 0, 1) := by decide +kernel
theorem dX11_term_20 : decode cX11_term 20 = .ok (.getfield 13, 3) := by decide +kernel
theorem dX11_term_23 : decode cX11_term 23 = .ok (.iconst 0, 1) := by decide +kernel
theorem dX11_term_24 : decode cX11_term 24 = .ok (.aload_n 0, 1) := by decide +kernel
theorem dX11_term_25 : decode cX11_term 25 = .ok (.getfield 7, 3) := by decide +kernel
theorem dX11_term_28 : decode cX11_term 28 = .ok (.iconst 0, 1) := by decide +kernel
theorem dX11_term_29 : decode cX11_term 29 = .ok (.invokestatic 76, 3) := by decide +kernel
theorem dX11_term_32 : decode cX11_term 32 = .ok (.aload_n 0, 1) := by decide +kernel
theorem dX11_term_33 : decode cX11_term 33 = .ok (.getfield 7, 3) := by decide +kernel
theorem dX11_term_36 : decode cX11_term 36 = .ok (.sipush 131, 3) := by decide +kernel
theorem dX11_term_39 : decode cX11_term 39 = .ok (.iaload, 1) := by decide +kernel
theorem dX11_term_40 : decode cX11_term 40 = .ok (.ireturn, 1) := by decide +kernel
theorem dX11_isRule_0 : decode cX11_isRule 0 = .ok (.iload_n 1, 1) := by decide +kernel
theorem dX11_isRule_1 : decode cX11_isRule 1 = .ok (.iconst 0, 1) := by decide +kernel
theorem dX11_isRule_2 : decode cX11_isRule 2 = .ok (.aload_n 0, 1) := by decide +kernel
theorem dX11_isRule_3 : decode cX11_isRule 3 = .ok (.getfield 7, 3) := by decide +kernel
theorem dX11_isRule_6 : decode cX11_isRule 6 = .ok (.iconst 0, 1) := by decide +kernel
theorem dX11_isRule_7 : decode cX11_isRule 7 = .ok (.iaload, 1) := by decide +kernel
theorem dX11_isRule_8 : decode cX11_isRule 8 = .ok (.iconst 1, 1) := by decide +kernel
theorem dX11_isRule_9 : decode cX11_isRule 9 = .ok (.isub, 1) := by decide +kernel
theorem dX11_isRule_10 : decode cX11_isRule 10 = .ok (.invokestatic 96, 3) := by decide +kernel
theorem dX11_isRule_13 : decode cX11_isRule 13 = .ok (.ireturn, 1) := by decide +kernel
theorem dX11_movesRule_0 : decode cX11_movesRule 0 = .ok (.iconst 0, 1) := by decide +kernel
theorem dX11_movesRule_1 : decode cX11_movesRule 1 = .ok (.istore_n 3, 1) := by decide +kernel
theorem dX11_movesRule_2 : decode cX11_movesRule 2 = .ok (.iload_n 3, 1) := by decide +kernel
theorem dX11_movesRule_3 : decode cX11_movesRule 3 = .ok (.bipush 26, 2) := by decide +kernel
theorem dX11_movesRule_5 : decode cX11_movesRule 5 = .ok (.if_icmp .ge 35, 3) := by decide +kernel
theorem dX11_movesRule_8 : decode cX11_movesRule 8 = .ok (.aload_n 0, 1) := by decide +kernel
theorem dX11_movesRule_9 : decode cX11_movesRule 9 = .ok (.getfield 7, 3) := by decide +kernel
theorem dX11_movesRule_12 : decode cX11_movesRule 12 = .ok (.iconst 1, 1) := by decide +kernel
theorem dX11_movesRule_13 : decode cX11_movesRule 13 = .ok (.bipush 26, 2) := by decide +kernel
theorem dX11_movesRule_15 : decode cX11_movesRule 15 = .ok (.iload_n 2, 1) := by decide +kernel
theorem dX11_movesRule_16 : decode cX11_movesRule 16 = .ok (.imul, 1) := by decide +kernel
theorem dX11_movesRule_17 : decode cX11_movesRule 17 = .ok (.iadd, 1) := by decide +kernel
theorem dX11_movesRule_18 : decode cX11_movesRule 18 = .ok (.iload_n 3, 1) := by decide +kernel
theorem dX11_movesRule_19 : decode cX11_movesRule 19 = .ok (.iadd, 1) := by decide +kernel
theorem dX11_movesRule_20 : decode cX11_movesRule 20 = .ok (.aload_n 0, 1) := by decide +kernel
theorem dX11_movesRule_21 : decode cX11_movesRule 21 = .ok (.getfield 7, 3) := by decide +kernel
theorem dX11_movesRule_24 : decode cX11_movesRule 24 = .ok (.iconst 1, 1) := by decide +kernel
theorem dX11_movesRule_25 : decode cX11_movesRule 25 = .ok (.bipush 26, 2) := by decide +kernel
theorem dX11_movesRule_27 : decode cX11_movesRule 27 = .ok (.iload_n 1, 1) := by decide +kernel
theorem dX11_movesRule_28 : decode cX11_movesRule 28 = .ok (.imul, 1) := by decide +kernel
theorem dX11_movesRule_29 : decode cX11_movesRule 29 = .ok (.iadd, 1) := by decide +kernel
theorem dX11_movesRule_30 : decode cX11_movesRule 30 = .ok (.iload_n 3, 1) := by decide +kernel
theorem dX11_movesRule_31 : decode cX11_movesRule 31 = .ok (.iadd, 1) := by decide +kernel
theorem dX11_movesRule_32 : decode cX11_movesRule 32 = .ok (.iaload, 1) := by decide +kernel
theorem dX11_movesRule_33 : decode cX11_movesRule 33 = .ok (.iastore, 1) := by decide +kernel
theorem dX11_movesRule_34 : decode cX11_movesRule 34 = .ok (.iinc 3 1, 3) := by decide +kernel
theorem dX11_movesRule_37 : decode cX11_movesRule 37 = .ok (.goto (-35), 3) := by decide +kernel
theorem dX11_movesRule_40 : decode cX11_movesRule 40 = .ok (.return_, 1) := by decide +kernel
theorem dX11_drops_0 : decode cX11_drops 0 = .ok (.aload_n 0, 1) := by decide +kernel
theorem dX11_drops_1 : decode cX11_drops 1 = .ok (.iload_n 1, 1) := by decide +kernel
theorem dX11_drops_2 : decode cX11_drops 2 = .ok (.invokevirtual 148, 3) := by decide +kernel
theorem dX11_drops_5 : decode cX11_drops 5 = .ok (.ifCond .ne 10, 3) := by decide +kernel
theorem dX11_drops_8 : decode cX11_drops 8 = .ok (.aload_n 0, 1) := by decide +kernel
theorem dX11_drops_9 : decode cX11_drops 9 = .ok (.bipush (-2), 2) := by decide +kernel
theorem dX11_drops_11 : decode cX11_drops 11 = .ok (.invokevirtual 80, 3) := by decide +kernel
theorem dX11_drops_14 : decode cX11_drops 14 = .ok (.ireturn, 1) := by decide +kernel
theorem dX11_drops_15 : decode cX11_drops 15 = .ok (.aload_n 0, 1) := by decide +kernel
theorem dX11_drops_16 : decode cX11_drops 16 = .ok (.invokevirtual 142, 3) := by decide +kernel
theorem dX11_drops_19 : decode cX11_drops 19 = .ok (.iload_n 1, 1) := by decide +kernel
theorem dX11_drops_20 : decode cX11_drops 20 = .ok (.istore_n 2, 1) := by decide +kernel
theorem dX11_drops_21 : decode cX11_drops 21 = .ok (.iload_n 2, 1) := by decide +kernel
theorem dX11_drops_22 : decode cX11_drops 22 = .ok (.aload_n 0, 1) := by decide +kernel
theorem dX11_drops_23 : decode cX11_drops 23 = .ok (.getfield 7, 3) := by decide +kernel
theorem dX11_drops_26 : decode cX11_drops 26 = .ok (.iconst 0, 1) := by decide +kernel
theorem dX11_drops_27 : decode cX11_drops 27 = .ok (.iaload, 1) := by decide +kernel
theorem dX11_drops_28 : decode cX11_drops 28 = .ok (.iconst 1, 1) := by decide +kernel
theorem dX11_drops_29 : decode cX11_drops 29 = .ok (.isub, 1) := by decide +kernel
theorem dX11_drops_30 : decode cX11_drops 30 = .ok (.if_icmp .ge 17, 3) := by decide +kernel
theorem dX11_drops_33 : decode cX11_drops 33 = .ok (.aload_n 0, 1) := by decide +kernel
theorem dX11_drops_34 : decode cX11_drops 34 = .ok (.iload_n 2, 1) := by decide +kernel
theorem dX11_drops_35 : decode cX11_drops 35 = .ok (.iconst 1, 1) := by decide +kernel
theorem dX11_drops_36 : decode cX11_drops 36 = .ok (.iadd, 1) := by decide +kernel
theorem dX11_drops_37 : decode cX11_drops 37 = .ok (.iload_n 2, 1) := by decide +kernel
theorem dX11_drops_38 : decode cX11_drops 38 = .ok (.invokevirtual 151, 3) := by decide +kernel
theorem dX11_drops_41 : decode cX11_drops 41 = .ok (.iinc 2 1, 3) := by decide +kernel
theorem dX11_drops_44 : decode cX11_drops 44 = .ok (.goto (-23), 3) := by decide +kernel
theorem dX11_drops_47 : decode cX11_drops 47 = .ok (.aload_n 0, 1) := by decide +kernel
theorem dX11_drops_48 : decode cX11_drops 48 = .ok (.getfield 7, 3) := by decide +kernel
theorem dX11_drops_51 : decode cX11_drops 51 = .ok (.iconst 0, 1) := by decide +kernel
theorem dX11_drops_52 : decode cX11_drops 52 = .ok (.dup2, 1) := by decide +kernel
theorem dX11_drops_53 : decode cX11_drops 53 = .ok (.iaload, 1) := by decide +kernel
theorem dX11_drops_54 : decode cX11_drops 54 = .ok (.iconst 1, 1) := by decide +kernel
theorem dX11_drops_55 : decode cX11_drops 55 = .ok (.isub, 1) := by decide +kernel
theorem dX11_drops_56 : decode cX11_drops 56 = .ok (.iastore, 1) := by decide +kernel
theorem dX11_drops_57 : decode cX11_drops 57 = .ok (.aload_n 0, 1) := by decide +kernel
theorem dX11_drops_58 : decode cX11_drops 58 = .ok (.getfield 7, 3) := by decide +kernel
theorem dX11_drops_61 : decode cX11_drops 61 = .ok (.iconst 0, 1) := by decide +kernel
theorem dX11_drops_62 : decode cX11_drops 62 = .ok (.iaload, 1) := by decide +kernel
theorem dX11_drops_63 : decode cX11_drops 63 = .ok (.ireturn, 1) := by decide +kernel
theorem dX11_first_0 : decode cX11_first 0 = .ok (.aload_n 0, 1) := by decide +kernel
theorem dX11_first_1 : decode cX11_first 1 = .ok (.iload_n 1, 1) := by decide +kernel
theorem dX11_first_2 : decode cX11_first 2 = .ok (.invokevirtual 148, 3) := by decide +kernel
theorem dX11_first_5 : decode cX11_first 5 = .ok (.ifCond .ne 10, 3) := by decide +kernel
theorem dX11_first_8 : decode cX11_first 8 = .ok (.aload_n 0, 1) := by decide +kernel
theorem dX11_first_9 : decode cX11_first 9 = .ok (.bipush (-2), 2) := by decide +kernel
theorem dX11_first_11 : decode cX11_first 11 = .ok (.invokevirtual 80, 3) := by decide +kernel
theorem dX11_first_14 : decode cX11_first 14 = .ok (.ireturn, 1) := by decide +kernel
theorem dX11_first_15 : decode cX11_first 15 = .ok (.aload_n 0, 1) := by decide +kernel
theorem dX11_first_16 : decode cX11_first 16 = .ok (.invokevirtual 142, 3) := by decide +kernel
theorem dX11_first_19 : decode cX11_first 19 = .ok (.aload_n 0, 1) := by decide +kernel
theorem dX11_first_20 : decode cX11_first 20 = .ok (.getfield 7, 3) := by decide +kernel
theorem dX11_first_23 : decode cX11_first 23 = .ok (.iconst 0, 1) := by decide +kernel
theorem dX11_first_24 : decode cX11_first 24 = .ok (.aload_n 0, 1) := by decide +kernel
theorem dX11_first_25 : decode cX11_first 25 = .ok (.getfield 13, 3) := by decide +kernel
theorem dX11_first_28 : decode cX11_first 28 = .ok (.iconst 0, 1) := by decide +kernel
theorem dX11_first_29 : decode cX11_first 29 = .ok (.invokestatic 76, 3) := by decide +kernel
theorem dX11_first_32 : decode cX11_first 32 = .ok (.iload_n 1, 1) := by decide +kernel
theorem dX11_first_33 : decode cX11_first 33 = .ok (.istore_n 2, 1) := by decide +kernel
theorem dX11_first_34 : decode cX11_first 34 = .ok (.iload_n 2, 1) := by decide +kernel
theorem dX11_first_35 : decode cX11_first 35 = .ok (.ifCond .le 17, 3) := by decide +kernel
theorem dX11_first_38 : decode cX11_first 38 = .ok (.aload_n 0, 1) := by decide +kernel
theorem dX11_first_39 : decode cX11_first 39 = .ok (.iload_n 2, 1) := by decide +kernel
theorem dX11_first_40 : decode cX11_first 40 = .ok (.iconst 1, 1) := by decide +kernel
theorem dX11_first_41 : decode cX11_first 41 = .ok (.isub, 1) := by decide +kernel
theorem dX11_first_42 : decode cX11_first 42 = .ok (.iload_n 2, 1) := by decide +kernel
theorem dX11_first_43 : decode cX11_first 43 = .ok (.invokevirtual 151, 3) := by decide +kernel
theorem dX11_first_46 : decode cX11_first 46 = .ok (.iinc 2 (-1), 3) := by decide +kernel
theorem dX11_first_49 : decode cX11_first 49 = .ok (.goto (-15), 3) := by decide +kernel
theorem dX11_first_52 : decode cX11_first 52 = .ok (.iconst 0, 1) := by decide +kernel
theorem dX11_first_53 : decode cX11_first 53 = .ok (.istore_n 2, 1) := by decide +kernel
theorem dX11_first_54 : decode cX11_first 54 = .ok (.iload_n 2, 1) := by decide +kernel
theorem dX11_first_55 : decode cX11_first 55 = .ok (.bipush 26, 2) := by decide +kernel
theorem dX11_first_57 : decode cX11_first 57 = .ok (.if_icmp .ge 30, 3) := by decide +kernel
theorem dX11_first_60 : decode cX11_first 60 = .ok (.aload_n 0, 1) := by decide +kernel
theorem dX11_first_61 : decode cX11_first 61 = .ok (.getfield 7, 3) := by decide +kernel
theorem dX11_first_64 : decode cX11_first 64 = .ok (.iconst 1, 1) := by decide +kernel
theorem dX11_first_65 : decode cX11_first 65 = .ok (.iload_n 2, 1) := by decide +kernel
theorem dX11_first_66 : decode cX11_first 66 = .ok (.iadd, 1) := by decide +kernel
theorem dX11_first_67 : decode cX11_first 67 = .ok (.aload_n 0, 1) := by decide +kernel
theorem dX11_first_68 : decode cX11_first 68 = .ok (.getfield 13, 3) := by decide +kernel
theorem dX11_first_71 : decode cX11_first 71 = .ok (.iconst 1, 1) := by decide +kernel
theorem dX11_first_72 : decode cX11_first 72 = .ok (.bipush 26, 2) := by decide +kernel
theorem dX11_first_74 : decode cX11_first 74 = .ok (.iload_n 1, 1) := by decide +kernel
theorem dX11_first_75 : decode cX11_first 75 = .ok (.imul, 1) := by decide +kernel
theorem dX11_first_76 : decode cX11_first 76 = .ok (.iadd, 1) := by decide +kernel
theorem dX11_first_77 : decode cX11_first 77 = .ok (.iload_n 2, 1) := by decide +kernel
theorem dX11_first_78 : decode cX11_first 78 = .ok (.iadd, 1) := by decide +kernel
theorem dX11_first_79 : decode cX11_first 79 = .ok (.iaload, 1) := by decide +kernel
theorem dX11_first_80 : decode cX11_first 80 = .ok (.iastore, 1) := by decide +kernel
theorem dX11_first_81 : decode cX11_first 81 = .ok (.iinc 2 1, 3) := by decide +kernel
theorem dX11_first_84 : decode cX11_first 84 = .ok (.goto (-30), 3) := by decide +kernel
theorem dX11_first_87 : decode cX11_first 87 = .ok (.iload_n 1, 1) := by decide +kernel
theorem dX11_first_88 : decode cX11_first 88 = .ok (.ireturn, 1) := by decide +kernel
theorem dX11_heads_0 : decode cX11_heads 0 = .ok (.iconst 0, 1) := by decide +kernel
theorem dX11_heads_1 : decode cX11_heads 1 = .ok (.istore_n 1, 1) := by decide +kernel
theorem dX11_heads_2 : decode cX11_heads 2 = .ok (.iconst 0, 1) := by decide +kernel
theorem dX11_heads_3 : decode cX11_heads 3 = .ok (.istore_n 2, 1) := by decide +kernel
theorem dX11_heads_4 : decode cX11_heads 4 = .ok (.iload_n 2, 1) := by decide +kernel
theorem dX11_heads_5 : decode cX11_heads 5 = .ok (.aload_n 0, 1) := by decide +kernel
theorem dX11_heads_6 : decode cX11_heads 6 = .ok (.getfield 7, 3) := by decide +kernel
theorem dX11_heads_9 : decode cX11_heads 9 = .ok (.iconst 0, 1) := by decide +kernel
theorem dX11_heads_10 : decode cX11_heads 10 = .ok (.iaload, 1) := by decide +kernel
theorem dX11_heads_11 : decode cX11_heads 11 = .ok (.if_icmp .ge 26, 3) := by decide +kernel
theorem dX11_heads_14 : decode cX11_heads 14 = .ok (.iload_n 1, 1) := by decide +kernel
theorem dX11_heads_15 : decode cX11_heads 15 = .ok (.iconst 1, 1) := by decide +kernel
theorem dX11_heads_16 : decode cX11_heads 16 = .ok (.aload_n 0, 1) := by decide +kernel
theorem dX11_heads_17 : decode cX11_heads 17 = .ok (.getfield 7, 3) := by decide +kernel
theorem dX11_heads_20 : decode cX11_heads 20 = .ok (.iload_n 2, 1) := by decide +kernel
theorem dX11_heads_21 : decode cX11_heads 21 = .ok (.invokestatic 117, 3) := by decide +kernel
theorem dX11_heads_24 : decode cX11_heads 24 = .ok (.iaload, 1) := by decide +kernel
theorem dX11_heads_25 : decode cX11_heads 25 = .ok (.bipush 97, 2) := by decide +kernel
theorem dX11_heads_27 : decode cX11_heads 27 = .ok (.isub, 1) := by decide +kernel
theorem dX11_heads_28 : decode cX11_heads 28 = .ok (.ishl, 1) := by decide +kernel
theorem dX11_heads_29 : decode cX11_heads 29 = .ok (.ior, 1) := by decide +kernel
theorem dX11_heads_30 : decode cX11_heads 30 = .ok (.istore_n 1, 1) := by decide +kernel
theorem dX11_heads_31 : decode cX11_heads 31 = .ok (.iinc 2 1, 3) := by decide +kernel
theorem dX11_heads_34 : decode cX11_heads 34 = .ok (.goto (-30), 3) := by decide +kernel
theorem dX11_heads_37 : decode cX11_heads 37 = .ok (.iload_n 1, 1) := by decide +kernel
theorem dX11_heads_38 : decode cX11_heads 38 = .ok (.ireturn, 1) := by decide +kernel
theorem dX11_isHead_0 : decode cX11_isHead 0 = .ok (.aload_n 0, 1) := by decide +kernel
theorem dX11_isHead_1 : decode cX11_isHead 1 = .ok (.invokevirtual 155, 3) := by decide +kernel
theorem dX11_isHead_4 : decode cX11_isHead 4 = .ok (.iload_n 1, 1) := by decide +kernel
theorem dX11_isHead_5 : decode cX11_isHead 5 = .ok (.bipush 97, 2) := by decide +kernel
theorem dX11_isHead_7 : decode cX11_isHead 7 = .ok (.isub, 1) := by decide +kernel
theorem dX11_isHead_8 : decode cX11_isHead 8 = .ok (.ishr, 1) := by decide +kernel
theorem dX11_isHead_9 : decode cX11_isHead 9 = .ok (.iconst 1, 1) := by decide +kernel
theorem dX11_isHead_10 : decode cX11_isHead 10 = .ok (.iand, 1) := by decide +kernel
theorem dX11_isHead_11 : decode cX11_isHead 11 = .ok (.iconst 1, 1) := by decide +kernel
theorem dX11_isHead_12 : decode cX11_isHead 12 = .ok (.if_icmp .ne 7, 3) := by decide +kernel
theorem dX11_isHead_15 : decode cX11_isHead 15 = .ok (.iconst 1, 1) := by decide +kernel
theorem dX11_isHead_16 : decode cX11_isHead 16 = .ok (.goto 4, 3) := by decide +kernel
theorem dX11_isHead_19 : decode cX11_isHead 19 = .ok (.iconst 0, 1) := by decide +kernel
theorem dX11_isHead_20 : decode cX11_isHead 20 = .ok (.ireturn, 1) := by decide +kernel
theorem dX11_ruleTold_0 : decode cX11_ruleTold 0 = .ok (.iload_n 2, 1) := by decide +kernel
theorem dX11_ruleTold_1 : decode cX11_ruleTold 1 = .ok (.tableswitch 103 0 4 #[35, 44, 53, 63, 83], 35) := by decide +kernel
theorem dX11_ruleTold_36 : decode cX11_ruleTold 36 = .ok (.aload_n 0, 1) := by decide +kernel
theorem dX11_ruleTold_37 : decode cX11_ruleTold 37 = .ok (.getfield 7, 3) := by decide +kernel
theorem dX11_ruleTold_40 : decode cX11_ruleTold 40 = .ok (.iload_n 1, 1) := by decide +kernel
theorem dX11_ruleTold_41 : decode cX11_ruleTold 41 = .ok (.invokestatic 158, 3) := by decide +kernel
theorem dX11_ruleTold_44 : decode cX11_ruleTold 44 = .ok (.ireturn, 1) := by decide +kernel
theorem dX11_ruleTold_45 : decode cX11_ruleTold 45 = .ok (.aload_n 0, 1) := by decide +kernel
theorem dX11_ruleTold_46 : decode cX11_ruleTold 46 = .ok (.getfield 7, 3) := by decide +kernel
theorem dX11_ruleTold_49 : decode cX11_ruleTold 49 = .ok (.iload_n 1, 1) := by decide +kernel
theorem dX11_ruleTold_50 : decode cX11_ruleTold 50 = .ok (.invokestatic 162, 3) := by decide +kernel
theorem dX11_ruleTold_53 : decode cX11_ruleTold 53 = .ok (.ireturn, 1) := by decide +kernel
theorem dX11_ruleTold_54 : decode cX11_ruleTold 54 = .ok (.aload_n 0, 1) := by decide +kernel
theorem dX11_ruleTold_55 : decode cX11_ruleTold 55 = .ok (.getfield 7, 3) := by decide +kernel
theorem dX11_ruleTold_58 : decode cX11_ruleTold 58 = .ok (.iload_n 1, 1) := by decide +kernel
theorem dX11_ruleTold_59 : decode cX11_ruleTold 59 = .ok (.invokestatic 117, 3) := by decide +kernel
theorem dX11_ruleTold_62 : decode cX11_ruleTold 62 = .ok (.iaload, 1) := by decide +kernel
theorem dX11_ruleTold_63 : decode cX11_ruleTold 63 = .ok (.ireturn, 1) := by decide +kernel
theorem dX11_ruleTold_64 : decode cX11_ruleTold 64 = .ok (.aload_n 0, 1) := by decide +kernel
theorem dX11_ruleTold_65 : decode cX11_ruleTold 65 = .ok (.getfield 7, 3) := by decide +kernel
theorem dX11_ruleTold_68 : decode cX11_ruleTold 68 = .ok (.iload_n 1, 1) := by decide +kernel
theorem dX11_ruleTold_69 : decode cX11_ruleTold 69 = .ok (.invokestatic 117, 3) := by decide +kernel
theorem dX11_ruleTold_72 : decode cX11_ruleTold 72 = .ok (.aload_n 0, 1) := by decide +kernel
theorem dX11_ruleTold_73 : decode cX11_ruleTold 73 = .ok (.getfield 7, 3) := by decide +kernel
theorem dX11_ruleTold_76 : decode cX11_ruleTold 76 = .ok (.iload_n 1, 1) := by decide +kernel
theorem dX11_ruleTold_77 : decode cX11_ruleTold 77 = .ok (.invokestatic 158, 3) := by decide +kernel
theorem dX11_ruleTold_80 : decode cX11_ruleTold 80 = .ok (.invokestatic 130, 3) := by decide +kernel
theorem dX11_ruleTold_83 : decode cX11_ruleTold 83 = .ok (.ireturn, 1) := by decide +kernel
theorem dX11_ruleTold_84 : decode cX11_ruleTold 84 = .ok (.aload_n 0, 1) := by decide +kernel
theorem dX11_ruleTold_85 : decode cX11_ruleTold 85 = .ok (.getfield 7, 3) := by decide +kernel
theorem dX11_ruleTold_88 : decode cX11_ruleTold 88 = .ok (.iload_n 1, 1) := by decide +kernel
theorem dX11_ruleTold_89 : decode cX11_ruleTold 89 = .ok (.invokestatic 127, 3) := by decide +kernel
theorem dX11_ruleTold_92 : decode cX11_ruleTold 92 = .ok (.aload_n 0, 1) := by decide +kernel
theorem dX11_ruleTold_93 : decode cX11_ruleTold 93 = .ok (.getfield 7, 3) := by decide +kernel
theorem dX11_ruleTold_96 : decode cX11_ruleTold 96 = .ok (.iload_n 1, 1) := by decide +kernel
theorem dX11_ruleTold_97 : decode cX11_ruleTold 97 = .ok (.invokestatic 162, 3) := by decide +kernel
theorem dX11_ruleTold_100 : decode cX11_ruleTold 100 = .ok (.invokestatic 130, 3) := by decide +kernel
theorem dX11_ruleTold_103 : decode cX11_ruleTold 103 = .ok (.ireturn, 1) := by decide +kernel
theorem dX11_ruleTold_104 : decode cX11_ruleTold 104 = .ok (.iconst 0, 1) := by decide +kernel
theorem dX11_ruleTold_105 : decode cX11_ruleTold 105 = .ok (.istore_n 3, 1) := by decide +kernel
theorem dX11_ruleTold_106 : decode cX11_ruleTold 106 = .ok (.iconst 0, 1) := by decide +kernel
theorem dX11_ruleTold_107 : decode cX11_ruleTold 107 = .ok (.istore 4, 2) := by decide +kernel
theorem dX11_ruleTold_109 : decode cX11_ruleTold 109 = .ok (.iload 4, 2) := by decide +kernel
theorem dX11_ruleTold_111 : decode cX11_ruleTold 111 = .ok (.aload_n 0, 1) := by decide +kernel
theorem dX11_ruleTold_112 : decode cX11_ruleTold 112 = .ok (.getfield 7, 3) := by decide +kernel
theorem dX11_ruleTold_115 : decode cX11_ruleTold 115 = .ok (.iload_n 1, 1) := by decide +kernel
theorem dX11_ruleTold_116 : decode cX11_ruleTold 116 = .ok (.invokestatic 162, 3) := by decide +kernel
theorem dX11_ruleTold_119 : decode cX11_ruleTold 119 = .ok (.if_icmp .ge 36, 3) := by decide +kernel
theorem dX11_ruleTold_122 : decode cX11_ruleTold 122 = .ok (.iload_n 3, 1) := by decide +kernel
theorem dX11_ruleTold_123 : decode cX11_ruleTold 123 = .ok (.aload_n 0, 1) := by decide +kernel
theorem dX11_ruleTold_124 : decode cX11_ruleTold 124 = .ok (.aload_n 0, 1) := by decide +kernel
theorem dX11_ruleTold_125 : decode cX11_ruleTold 125 = .ok (.getfield 7, 3) := by decide +kernel
theorem dX11_ruleTold_128 : decode cX11_ruleTold 128 = .ok (.iload_n 1, 1) := by decide +kernel
theorem dX11_ruleTold_129 : decode cX11_ruleTold 129 = .ok (.invokestatic 127, 3) := by decide +kernel
theorem dX11_ruleTold_132 : decode cX11_ruleTold 132 = .ok (.iload 4, 2) := by decide +kernel
theorem dX11_ruleTold_134 : decode cX11_ruleTold 134 = .ok (.iadd, 1) := by decide +kernel
theorem dX11_ruleTold_135 : decode cX11_ruleTold 135 = .ok (.iaload, 1) := by decide +kernel
theorem dX11_ruleTold_136 : decode cX11_ruleTold 136 = .ok (.invokevirtual 165, 3) := by decide +kernel
theorem dX11_ruleTold_139 : decode cX11_ruleTold 139 = .ok (.ifCond .eq 7, 3) := by decide +kernel
theorem dX11_ruleTold_142 : decode cX11_ruleTold 142 = .ok (.iconst 1, 1) := by decide +kernel
theorem dX11_ruleTold_143 : decode cX11_ruleTold 143 = .ok (.goto 4, 3) := by decide +kernel
theorem dX11_ruleTold_146 : decode cX11_ruleTold 146 = .ok (.iconst 0, 1) := by decide +kernel
theorem dX11_ruleTold_147 : decode cX11_ruleTold 147 = .ok (.iadd, 1) := by decide +kernel
theorem dX11_ruleTold_148 : decode cX11_ruleTold 148 = .ok (.istore_n 3, 1) := by decide +kernel
theorem dX11_ruleTold_149 : decode cX11_ruleTold 149 = .ok (.iinc 4 1, 3) := by decide +kernel
theorem dX11_ruleTold_152 : decode cX11_ruleTold 152 = .ok (.goto (-43), 3) := by decide +kernel
theorem dX11_ruleTold_155 : decode cX11_ruleTold 155 = .ok (.iload_n 3, 1) := by decide +kernel
theorem dX11_ruleTold_156 : decode cX11_ruleTold 156 = .ok (.ireturn, 1) := by decide +kernel
theorem dX11_of_0 : decode cX11_of 0 = .ok (.aload_n 0, 1) := by decide +kernel
theorem dX11_of_1 : decode cX11_of 1 = .ok (.iload_n 1, 1) := by decide +kernel
theorem dX11_of_2 : decode cX11_of 2 = .ok (.invokevirtual 148, 3) := by decide +kernel
theorem dX11_of_5 : decode cX11_of 5 = .ok (.ifCond .eq 21, 3) := by decide +kernel
theorem dX11_of_8 : decode cX11_of 8 = .ok (.iload_n 2, 1) := by decide +kernel
theorem dX11_of_9 : decode cX11_of 9 = .ok (.iconst 0, 1) := by decide +kernel
theorem dX11_of_10 : decode cX11_of 10 = .ok (.iconst 5, 1) := by decide +kernel
theorem dX11_of_11 : decode cX11_of 11 = .ok (.invokestatic 96, 3) := by decide +kernel
theorem dX11_of_14 : decode cX11_of 14 = .ok (.ifCond .eq 12, 3) := by decide +kernel
theorem dX11_of_17 : decode cX11_of 17 = .ok (.aload_n 0, 1) := by decide +kernel
theorem dX11_of_18 : decode cX11_of 18 = .ok (.iload_n 1, 1) := by decide +kernel
theorem dX11_of_19 : decode cX11_of 19 = .ok (.iload_n 2, 1) := by decide +kernel
theorem dX11_of_20 : decode cX11_of 20 = .ok (.invokevirtual 168, 3) := by decide +kernel
theorem dX11_of_23 : decode cX11_of 23 = .ok (.goto 9, 3) := by decide +kernel
theorem dX11_of_26 : decode cX11_of 26 = .ok (.aload_n 0, 1) := by decide +kernel
theorem dX11_of_27 : decode cX11_of 27 = .ok (.bipush (-2), 2) := by decide +kernel
theorem dX11_of_29 : decode cX11_of 29 = .ok (.invokevirtual 80, 3) := by decide +kernel
theorem dX11_of_32 : decode cX11_of 32 = .ok (.ireturn, 1) := by decide +kernel
theorem dX11_writes_0 : decode cX11_writes 0 = .ok (.aload_n 0, 1) := by decide +kernel
theorem dX11_writes_1 : decode cX11_writes 1 = .ok (.getfield 28, 3) := by decide +kernel
theorem dX11_writes_4 : decode cX11_writes 4 = .ok (.aload_n 0, 1) := by decide +kernel
theorem dX11_writes_5 : decode cX11_writes 5 = .ok (.getfield 172, 3) := by decide +kernel
theorem dX11_writes_8 : decode cX11_writes 8 = .ok (.iload_n 1, 1) := by decide +kernel
theorem dX11_writes_9 : decode cX11_writes 9 = .ok (.iastore, 1) := by decide +kernel
theorem dX11_writes_10 : decode cX11_writes 10 = .ok (.aload_n 0, 1) := by decide +kernel
theorem dX11_writes_11 : decode cX11_writes 11 = .ok (.dup, 1) := by decide +kernel
theorem dX11_writes_12 : decode cX11_writes 12 = .ok (.getfield 172, 3) := by decide +kernel
theorem dX11_writes_15 : decode cX11_writes 15 = .ok (.iconst 1, 1) := by decide +kernel
theorem dX11_writes_16 : decode cX11_writes 16 = .ok (.iadd, 1) := by decide +kernel
theorem dX11_writes_17 : decode cX11_writes 17 = .ok (.putfield 172, 3) := by decide +kernel
theorem dX11_writes_20 : decode cX11_writes 20 = .ok (.return_, 1) := by decide +kernel
theorem dX11_writesTerm_0 : decode cX11_writesTerm 0 = .ok (.aload_n 0, 1) := by decide +kernel
theorem dX11_writesTerm_1 : decode cX11_writesTerm 1 = .ok (.iconst 0, 1) := by decide +kernel
theorem dX11_writesTerm_2 : decode cX11_writesTerm 2 = .ok (.putfield 87, 3) := by decide +kernel
theorem dX11_writesTerm_5 : decode cX11_writesTerm 5 = .ok (.iconst 0, 1) := by decide +kernel
theorem dX11_writesTerm_6 : decode cX11_writesTerm 6 = .ok (.istore_n 3, 1) := by decide +kernel
theorem dX11_writesTerm_7 : decode cX11_writesTerm 7 = .ok (.iload_n 3, 1) := by decide +kernel
theorem dX11_writesTerm_8 : decode cX11_writesTerm 8 = .ok (.iload_n 2, 1) := by decide +kernel
theorem dX11_writesTerm_9 : decode cX11_writesTerm 9 = .ok (.if_icmp .ge 103, 3) := by decide +kernel
theorem dX11_writesTerm_12 : decode cX11_writesTerm 12 = .ok (.aload_n 0, 1) := by decide +kernel
theorem dX11_writesTerm_13 : decode cX11_writesTerm 13 = .ok (.getfield 87, 3) := by decide +kernel
theorem dX11_writesTerm_16 : decode cX11_writesTerm 16 = .ok (.ifCond .le 45, 3) := by decide +kernel
theorem dX11_writesTerm_19 : decode cX11_writesTerm 19 = .ok (.aload_n 0, 1) := by decide +kernel
theorem dX11_writesTerm_20 : decode cX11_writesTerm 20 = .ok (.getfield 25, 3) := by decide +kernel
theorem dX11_writesTerm_23 : decode cX11_writesTerm 23 = .ok (.aload_n 0, 1) := by decide +kernel
theorem dX11_writesTerm_24 : decode cX11_writesTerm 24 = .ok (.getfield 87, 3) := by decide +kernel
theorem dX11_writesTerm_27 : decode cX11_writesTerm 27 = .ok (.iconst 1, 1) := by decide +kernel
theorem dX11_writesTerm_28 : decode cX11_writesTerm 28 = .ok (.isub, 1) := by decide +kernel
theorem dX11_writesTerm_29 : decode cX11_writesTerm 29 = .ok (.iaload, 1) := by decide +kernel
theorem dX11_writesTerm_30 : decode cX11_writesTerm 30 = .ok (.bipush 84, 2) := by decide +kernel
theorem dX11_writesTerm_32 : decode cX11_writesTerm 32 = .ok (.if_icmp .eq 29, 3) := by decide +kernel
theorem dX11_writesTerm_35 : decode cX11_writesTerm 35 = .ok (.aload_n 0, 1) := by decide +kernel
theorem dX11_writesTerm_36 : decode cX11_writesTerm 36 = .ok (.dup, 1) := by decide +kernel
theorem dX11_writesTerm_37 : decode cX11_writesTerm 37 = .ok (.getfield 87, 3) := by decide +kernel
theorem dX11_writesTerm_40 : decode cX11_writesTerm 40 = .ok (.iconst 1, 1) := by decide +kernel
theorem dX11_writesTerm_41 : decode cX11_writesTerm 41 = .ok (.isub, 1) := by decide +kernel
theorem dX11_writesTerm_42 : decode cX11_writesTerm 42 = .ok (.putfield 87, 3) := by decide +kernel
theorem dX11_writesTerm_45 : decode cX11_writesTerm 45 = .ok (.aload_n 0, 1) := by decide +kernel
theorem dX11_writesTerm_46 : decode cX11_writesTerm 46 = .ok (.aload_n 0, 1) := by decide +kernel
theorem dX11_writesTerm_47 : decode cX11_writesTerm 47 = .ok (.getfield 25, 3) := by decide +kernel
theorem dX11_writesTerm_50 : decode cX11_writesTerm 50 = .ok (.aload_n 0, 1) := by decide +kernel
theorem dX11_writesTerm_51 : decode cX11_writesTerm 51 = .ok (.getfield 87, 3) := by decide +kernel
theorem dX11_writesTerm_54 : decode cX11_writesTerm 54 = .ok (.iaload, 1) := by decide +kernel
theorem dX11_writesTerm_55 : decode cX11_writesTerm 55 = .ok (.invokevirtual 175, 3) := by decide +kernel
theorem dX11_writesTerm_58 : decode cX11_writesTerm 58 = .ok (.goto (-46), 3) := by decide +kernel
theorem dX11_writesTerm_61 : decode cX11_writesTerm 61 = .ok (.aload_n 0, 1) := by decide +kernel
theorem dX11_writesTerm_62 : decode cX11_writesTerm 62 = .ok (.dup, 1) := by decide +kernel
theorem dX11_writesTerm_63 : decode cX11_writesTerm 63 = .ok (.getfield 87, 3) := by decide +kernel
theorem dX11_writesTerm_66 : decode cX11_writesTerm 66 = .ok (.aload_n 0, 1) := by decide +kernel
theorem dX11_writesTerm_67 : decode cX11_writesTerm 67 = .ok (.getfield 87, 3) := by decide +kernel
theorem dX11_writesTerm_70 : decode cX11_writesTerm 70 = .ok (.ifCond .le 7, 3) := by decide +kernel
theorem dX11_writesTerm_73 : decode cX11_writesTerm 73 = .ok (.iconst 1, 1) := by decide +kernel
theorem dX11_writesTerm_74 : decode cX11_writesTerm 74 = .ok (.goto 4, 3) := by decide +kernel
theorem dX11_writesTerm_77 : decode cX11_writesTerm 77 = .ok (.iconst 0, 1) := by decide +kernel
theorem dX11_writesTerm_78 : decode cX11_writesTerm 78 = .ok (.isub, 1) := by decide +kernel
theorem dX11_writesTerm_79 : decode cX11_writesTerm 79 = .ok (.putfield 87, 3) := by decide +kernel
theorem dX11_writesTerm_82 : decode cX11_writesTerm 82 = .ok (.aload_n 0, 1) := by decide +kernel
theorem dX11_writesTerm_83 : decode cX11_writesTerm 83 = .ok (.aload_n 0, 1) := by decide +kernel
theorem dX11_writesTerm_84 : decode cX11_writesTerm 84 = .ok (.getfield 7, 3) := by decide +kernel
theorem dX11_writesTerm_87 : decode cX11_writesTerm 87 = .ok (.iload_n 1, 1) := by decide +kernel
theorem dX11_writesTerm_88 : decode cX11_writesTerm 88 = .ok (.iload_n 3, 1) := by decide +kernel
theorem dX11_writesTerm_89 : decode cX11_writesTerm 89 = .ok (.iadd, 1) := by decide +kernel
theorem dX11_writesTerm_90 : decode cX11_writesTerm 90 = .ok (.iaload, 1) := by decide +kernel
theorem dX11_writesTerm_91 : decode cX11_writesTerm 91 = .ok (.invokevirtual 175, 3) := by decide +kernel
theorem dX11_writesTerm_94 : decode cX11_writesTerm 94 = .ok (.aload_n 0, 1) := by decide +kernel
theorem dX11_writesTerm_95 : decode cX11_writesTerm 95 = .ok (.aload_n 0, 1) := by decide +kernel
theorem dX11_writesTerm_96 : decode cX11_writesTerm 96 = .ok (.getfield 7, 3) := by decide +kernel
theorem dX11_writesTerm_99 : decode cX11_writesTerm 99 = .ok (.iload_n 1, 1) := by decide +kernel
theorem dX11_writesTerm_100 : decode cX11_writesTerm 100 = .ok (.iload_n 3, 1) := by decide +kernel
theorem dX11_writesTerm_101 : decode cX11_writesTerm 101 = .ok (.iadd, 1) := by decide +kernel
theorem dX11_writesTerm_102 : decode cX11_writesTerm 102 = .ok (.iaload, 1) := by decide +kernel
theorem dX11_writesTerm_103 : decode cX11_writesTerm 103 = .ok (.invokevirtual 114, 3) := by decide +kernel
theorem dX11_writesTerm_106 : decode cX11_writesTerm 106 = .ok (.iinc 3 1, 3) := by decide +kernel
theorem dX11_writesTerm_109 : decode cX11_writesTerm 109 = .ok (.goto (-102), 3) := by decide +kernel
theorem dX11_writesTerm_112 : decode cX11_writesTerm 112 = .ok (.aload_n 0, 1) := by decide +kernel
theorem dX11_writesTerm_113 : decode cX11_writesTerm 113 = .ok (.getfield 87, 3) := by decide +kernel
theorem dX11_writesTerm_116 : decode cX11_writesTerm 116 = .ok (.ifCond .le 29, 3) := by decide +kernel
theorem dX11_writesTerm_119 : decode cX11_writesTerm 119 = .ok (.aload_n 0, 1) := by decide +kernel
theorem dX11_writesTerm_120 : decode cX11_writesTerm 120 = .ok (.dup, 1) := by decide +kernel
theorem dX11_writesTerm_121 : decode cX11_writesTerm 121 = .ok (.getfield 87, 3) := by decide +kernel
theorem dX11_writesTerm_124 : decode cX11_writesTerm 124 = .ok (.iconst 1, 1) := by decide +kernel
theorem dX11_writesTerm_125 : decode cX11_writesTerm 125 = .ok (.isub, 1) := by decide +kernel
theorem dX11_writesTerm_126 : decode cX11_writesTerm 126 = .ok (.putfield 87, 3) := by decide +kernel
theorem dX11_writesTerm_129 : decode cX11_writesTerm 129 = .ok (.aload_n 0, 1) := by decide +kernel
theorem dX11_writesTerm_130 : decode cX11_writesTerm 130 = .ok (.aload_n 0, 1) := by decide +kernel
theorem dX11_writesTerm_131 : decode cX11_writesTerm 131 = .ok (.getfield 25, 3) := by decide +kernel
theorem dX11_writesTerm_134 : decode cX11_writesTerm 134 = .ok (.aload_n 0, 1) := by decide +kernel
theorem dX11_writesTerm_135 : decode cX11_writesTerm 135 = .ok (.getfield 87, 3) := by decide +kernel
theorem dX11_writesTerm_138 : decode cX11_writesTerm 138 = .ok (.iaload, 1) := by decide +kernel
theorem dX11_writesTerm_139 : decode cX11_writesTerm 139 = .ok (.invokevirtual 175, 3) := by decide +kernel
theorem dX11_writesTerm_142 : decode cX11_writesTerm 142 = .ok (.goto (-30), 3) := by decide +kernel
theorem dX11_writesTerm_145 : decode cX11_writesTerm 145 = .ok (.return_, 1) := by decide +kernel
theorem dX11_shown_0 : decode cX11_shown 0 = .ok (.aload_n 0, 1) := by decide +kernel
theorem dX11_shown_1 : decode cX11_shown 1 = .ok (.iload_n 1, 1) := by decide +kernel
theorem dX11_shown_2 : decode cX11_shown 2 = .ok (.invokevirtual 148, 3) := by decide +kernel
theorem dX11_shown_5 : decode cX11_shown 5 = .ok (.ifCond .eq 8, 3) := by decide +kernel
theorem dX11_shown_8 : decode cX11_shown 8 = .ok (.iload_n 2, 1) := by decide +kernel
theorem dX11_shown_9 : decode cX11_shown 9 = .ok (.iconst (-1), 1) := by decide +kernel
theorem dX11_shown_10 : decode cX11_shown 10 = .ok (.if_icmp .ge 10, 3) := by decide +kernel
theorem dX11_shown_13 : decode cX11_shown 13 = .ok (.aload_n 0, 1) := by decide +kernel
theorem dX11_shown_14 : decode cX11_shown 14 = .ok (.bipush (-2), 2) := by decide +kernel
theorem dX11_shown_16 : decode cX11_shown 16 = .ok (.invokevirtual 80, 3) := by decide +kernel
theorem dX11_shown_19 : decode cX11_shown 19 = .ok (.ireturn, 1) := by decide +kernel
theorem dX11_shown_20 : decode cX11_shown 20 = .ok (.aload_n 0, 1) := by decide +kernel
theorem dX11_shown_21 : decode cX11_shown 21 = .ok (.iconst 0, 1) := by decide +kernel
theorem dX11_shown_22 : decode cX11_shown 22 = .ok (.putfield 172, 3) := by decide +kernel
theorem dX11_shown_25 : decode cX11_shown 25 = .ok (.aload_n 0, 1) := by decide +kernel
theorem dX11_shown_26 : decode cX11_shown 26 = .ok (.iload_n 1, 1) := by decide +kernel
theorem dX11_shown_27 : decode cX11_shown 27 = .ok (.invokestatic 117, 3) := by decide +kernel
theorem dX11_shown_30 : decode cX11_shown 30 = .ok (.aload_n 0, 1) := by decide +kernel
theorem dX11_shown_31 : decode cX11_shown 31 = .ok (.getfield 7, 3) := by decide +kernel
theorem dX11_shown_34 : decode cX11_shown 34 = .ok (.iload_n 1, 1) := by decide +kernel
theorem dX11_shown_35 : decode cX11_shown 35 = .ok (.invokestatic 158, 3) := by decide +kernel
theorem dX11_shown_38 : decode cX11_shown 38 = .ok (.invokevirtual 178, 3) := by decide +kernel
theorem dX11_shown_41 : decode cX11_shown 41 = .ok (.aload_n 0, 1) := by decide +kernel
theorem dX11_shown_42 : decode cX11_shown 42 = .ok (.bipush 62, 2) := by decide +kernel
theorem dX11_shown_44 : decode cX11_shown 44 = .ok (.invokevirtual 175, 3) := by decide +kernel
theorem dX11_shown_47 : decode cX11_shown 47 = .ok (.aload_n 0, 1) := by decide +kernel
theorem dX11_shown_48 : decode cX11_shown 48 = .ok (.iload_n 1, 1) := by decide +kernel
theorem dX11_shown_49 : decode cX11_shown 49 = .ok (.invokestatic 127, 3) := by decide +kernel
theorem dX11_shown_52 : decode cX11_shown 52 = .ok (.aload_n 0, 1) := by decide +kernel
theorem dX11_shown_53 : decode cX11_shown 53 = .ok (.getfield 7, 3) := by decide +kernel
theorem dX11_shown_56 : decode cX11_shown 56 = .ok (.iload_n 1, 1) := by decide +kernel
theorem dX11_shown_57 : decode cX11_shown 57 = .ok (.invokestatic 162, 3) := by decide +kernel
theorem dX11_shown_60 : decode cX11_shown 60 = .ok (.invokevirtual 178, 3) := by decide +kernel
