theorem d_md_init_0 : decode b_md_init 0 = .ok (.aload_n 0, 1) := by decide +kernel
theorem d_md_init_1 : decode b_md_init 1 = .ok (.invokespecial 1, 3) := by decide +kernel
theorem d_md_init_4 : decode b_md_init 4 = .ok (.aload_n 0, 1) := by decide +kernel
theorem d_md_init_5 : decode b_md_init 5 = .ok (.sipush 200, 3) := by decide +kernel
theorem d_md_init_8 : decode b_md_init 8 = .ok (.newarray .int, 2) := by decide +kernel
theorem d_md_init_10 : decode b_md_init 10 = .ok (.putfield 7, 3) := by decide +kernel
theorem d_md_init_13 : decode b_md_init 13 = .ok (.aload_n 0, 1) := by decide +kernel
theorem d_md_init_14 : decode b_md_init 14 = .ok (.sipush 8194, 3) := by decide +kernel
theorem d_md_init_17 : decode b_md_init 17 = .ok (.newarray .int, 2) := by decide +kernel
theorem d_md_init_19 : decode b_md_init 19 = .ok (.putfield 13, 3) := by decide +kernel
theorem d_md_init_22 : decode b_md_init 22 = .ok (.aload_n 0, 1) := by decide +kernel
theorem d_md_init_23 : decode b_md_init 23 = .ok (.ldc 16, 2) := by decide +kernel
theorem d_md_init_25 : decode b_md_init 25 = .ok (.newarray .int, 2) := by decide +kernel
theorem d_md_init_27 : decode b_md_init 27 = .ok (.putfield 17, 3) := by decide +kernel
theorem d_md_init_30 : decode b_md_init 30 = .ok (.aload_n 0, 1) := by decide +kernel
theorem d_md_init_31 : decode b_md_init 31 = .ok (.ldc 20, 2) := by decide +kernel
theorem d_md_init_33 : decode b_md_init 33 = .ok (.newarray .int, 2) := by decide +kernel
theorem d_md_init_35 : decode b_md_init 35 = .ok (.putfield 21, 3) := by decide +kernel
theorem d_md_init_38 : decode b_md_init 38 = .ok (.aload_n 0, 1) := by decide +kernel
theorem d_md_init_39 : decode b_md_init 39 = .ok (.sipush 2050, 3) := by decide +kernel
theorem d_md_init_42 : decode b_md_init 42 = .ok (.newarray .int, 2) := by decide +kernel
theorem d_md_init_44 : decode b_md_init 44 = .ok (.putfield 24, 3) := by decide +kernel
theorem d_md_init_47 : decode b_md_init 47 = .ok (.aload_n 0, 1) := by decide +kernel
theorem d_md_init_48 : decode b_md_init 48 = .ok (.ldc 16, 2) := by decide +kernel
theorem d_md_init_50 : decode b_md_init 50 = .ok (.newarray .int, 2) := by decide +kernel
theorem d_md_init_52 : decode b_md_init 52 = .ok (.putfield 27, 3) := by decide +kernel
theorem d_md_init_55 : decode b_md_init 55 = .ok (.aload_n 0, 1) := by decide +kernel
theorem d_md_init_56 : decode b_md_init 56 = .ok (.sipush 2048, 3) := by decide +kernel
theorem d_md_init_59 : decode b_md_init 59 = .ok (.newarray .long, 2) := by decide +kernel
theorem d_md_init_61 : decode b_md_init 61 = .ok (.putfield 30, 3) := by decide +kernel
theorem d_md_init_64 : decode b_md_init 64 = .ok (.aload_n 0, 1) := by decide +kernel
theorem d_md_init_65 : decode b_md_init 65 = .ok (.iconst 2, 1) := by decide +kernel
theorem d_md_init_66 : decode b_md_init 66 = .ok (.putfield 34, 3) := by decide +kernel
theorem d_md_init_69 : decode b_md_init 69 = .ok (.aload_n 0, 1) := by decide +kernel
theorem d_md_init_70 : decode b_md_init 70 = .ok (.iconst 3, 1) := by decide +kernel
theorem d_md_init_71 : decode b_md_init 71 = .ok (.putfield 38, 3) := by decide +kernel
theorem d_md_init_74 : decode b_md_init 74 = .ok (.aload_n 0, 1) := by decide +kernel
theorem d_md_init_75 : decode b_md_init 75 = .ok (.bipush 66, 2) := by decide +kernel
theorem d_md_init_77 : decode b_md_init 77 = .ok (.newarray .int, 2) := by decide +kernel
theorem d_md_init_79 : decode b_md_init 79 = .ok (.putfield 41, 3) := by decide +kernel
theorem d_md_init_82 : decode b_md_init 82 = .ok (.aload_n 0, 1) := by decide +kernel
theorem d_md_init_83 : decode b_md_init 83 = .ok (.bipush 66, 2) := by decide +kernel
theorem d_md_init_85 : decode b_md_init 85 = .ok (.newarray .int, 2) := by decide +kernel
theorem d_md_init_87 : decode b_md_init 87 = .ok (.putfield 44, 3) := by decide +kernel
theorem d_md_init_90 : decode b_md_init 90 = .ok (.return_, 1) := by decide +kernel
theorem d_md_thrown_0 : decode b_md_thrown 0 = .ok (.aload_n 0, 1) := by decide +kernel
theorem d_md_thrown_1 : decode b_md_thrown 1 = .ok (.getfield 47, 3) := by decide +kernel
theorem d_md_thrown_4 : decode b_md_thrown 4 = .ok (.ireturn, 1) := by decide +kernel
theorem d_md_put_0 : decode b_md_put 0 = .ok (.aload_n 0, 1) := by decide +kernel
theorem d_md_put_1 : decode b_md_put 1 = .ok (.iconst 0, 1) := by decide +kernel
theorem d_md_put_2 : decode b_md_put 2 = .ok (.putfield 47, 3) := by decide +kernel
theorem d_md_put_5 : decode b_md_put 5 = .ok (.iload_n 3, 1) := by decide +kernel
theorem d_md_put_6 : decode b_md_put 6 = .ok (.iconst 1, 1) := by decide +kernel
theorem d_md_put_7 : decode b_md_put 7 = .ok (.if_icmp .lt 21, 3) := by decide +kernel
theorem d_md_put_10 : decode b_md_put 10 = .ok (.iload_n 3, 1) := by decide +kernel
theorem d_md_put_11 : decode b_md_put 11 = .ok (.bipush 8, 2) := by decide +kernel
theorem d_md_put_13 : decode b_md_put 13 = .ok (.if_icmp .gt 15, 3) := by decide +kernel
theorem d_md_put_16 : decode b_md_put 16 = .ok (.aload_n 0, 1) := by decide +kernel
theorem d_md_put_17 : decode b_md_put 17 = .ok (.getfield 50, 3) := by decide +kernel
theorem d_md_put_20 : decode b_md_put 20 = .ok (.iload_n 3, 1) := by decide +kernel
theorem d_md_put_21 : decode b_md_put 21 = .ok (.iadd, 1) := by decide +kernel
theorem d_md_put_22 : decode b_md_put 22 = .ok (.sipush 200, 3) := by decide +kernel
theorem d_md_put_25 : decode b_md_put 25 = .ok (.if_icmp .le 5, 3) := by decide +kernel
theorem d_md_put_28 : decode b_md_put 28 = .ok (.iconst 0, 1) := by decide +kernel
theorem d_md_put_29 : decode b_md_put 29 = .ok (.ireturn, 1) := by decide +kernel
theorem d_md_put_30 : decode b_md_put 30 = .ok (.iload_n 3, 1) := by decide +kernel
theorem d_md_put_31 : decode b_md_put 31 = .ok (.iconst 1, 1) := by decide +kernel
theorem d_md_put_32 : decode b_md_put 32 = .ok (.isub, 1) := by decide +kernel
theorem d_md_put_33 : decode b_md_put 33 = .ok (.istore 4, 2) := by decide +kernel
theorem d_md_put_35 : decode b_md_put 35 = .ok (.iload 4, 2) := by decide +kernel
theorem d_md_put_37 : decode b_md_put 37 = .ok (.ifCond .lt 40, 3) := by decide +kernel
theorem d_md_put_40 : decode b_md_put 40 = .ok (.aload_n 0, 1) := by decide +kernel
theorem d_md_put_41 : decode b_md_put 41 = .ok (.getfield 7, 3) := by decide +kernel
theorem d_md_put_44 : decode b_md_put 44 = .ok (.aload_n 0, 1) := by decide +kernel
theorem d_md_put_45 : decode b_md_put 45 = .ok (.getfield 50, 3) := by decide +kernel
theorem d_md_put_48 : decode b_md_put 48 = .ok (.lload_n 1, 1) := by decide +kernel
theorem d_md_put_49 : decode b_md_put 49 = .ok (.bipush 8, 2) := by decide +kernel
theorem d_md_put_51 : decode b_md_put 51 = .ok (.iload 4, 2) := by decide +kernel
theorem d_md_put_53 : decode b_md_put 53 = .ok (.imul, 1) := by decide +kernel
theorem d_md_put_54 : decode b_md_put 54 = .ok (.lshr, 1) := by decide +kernel
theorem d_md_put_55 : decode b_md_put 55 = .ok (.ldc2_w 53, 3) := by decide +kernel
theorem d_md_put_58 : decode b_md_put 58 = .ok (.land, 1) := by decide +kernel
theorem d_md_put_59 : decode b_md_put 59 = .ok (.l2i, 1) := by decide +kernel
theorem d_md_put_60 : decode b_md_put 60 = .ok (.iastore, 1) := by decide +kernel
theorem d_md_put_61 : decode b_md_put 61 = .ok (.aload_n 0, 1) := by decide +kernel
theorem d_md_put_62 : decode b_md_put 62 = .ok (.dup, 1) := by decide +kernel
theorem d_md_put_63 : decode b_md_put 63 = .ok (.getfield 50, 3) := by decide +kernel
theorem d_md_put_66 : decode b_md_put 66 = .ok (.iconst 1, 1) := by decide +kernel
theorem d_md_put_67 : decode b_md_put 67 = .ok (.iadd, 1) := by decide +kernel
theorem d_md_put_68 : decode b_md_put 68 = .ok (.putfield 50, 3) := by decide +kernel
theorem d_md_put_71 : decode b_md_put 71 = .ok (.iinc 4 (-1), 3) := by decide +kernel
theorem d_md_put_74 : decode b_md_put 74 = .ok (.goto (-39), 3) := by decide +kernel
theorem d_md_put_77 : decode b_md_put 77 = .ok (.iconst 1, 1) := by decide +kernel
theorem d_md_put_78 : decode b_md_put 78 = .ok (.ireturn, 1) := by decide +kernel
theorem d_md_pattern_0 : decode b_md_pattern 0 = .ok (.aload_n 0, 1) := by decide +kernel
theorem d_md_pattern_1 : decode b_md_pattern 1 = .ok (.invokevirtual 65, 3) := by decide +kernel
theorem d_md_pattern_4 : decode b_md_pattern 4 = .ok (.istore_n 1, 1) := by decide +kernel
theorem d_md_pattern_5 : decode b_md_pattern 5 = .ok (.iload_n 1, 1) := by decide +kernel
theorem d_md_pattern_6 : decode b_md_pattern 6 = .ok (.ifCond .ne 9, 3) := by decide +kernel
theorem d_md_pattern_9 : decode b_md_pattern 9 = .ok (.aload_n 0, 1) := by decide +kernel
theorem d_md_pattern_10 : decode b_md_pattern 10 = .ok (.iconst 1, 1) := by decide +kernel
theorem d_md_pattern_11 : decode b_md_pattern 11 = .ok (.invokevirtual 69, 3) := by decide +kernel
theorem d_md_pattern_14 : decode b_md_pattern 14 = .ok (.ireturn, 1) := by decide +kernel
theorem d_md_pattern_15 : decode b_md_pattern 15 = .ok (.iconst 0, 1) := by decide +kernel
theorem d_md_pattern_16 : decode b_md_pattern 16 = .ok (.istore_n 2, 1) := by decide +kernel
theorem d_md_pattern_17 : decode b_md_pattern 17 = .ok (.iconst 0, 1) := by decide +kernel
theorem d_md_pattern_18 : decode b_md_pattern 18 = .ok (.istore_n 3, 1) := by decide +kernel
theorem d_md_pattern_19 : decode b_md_pattern 19 = .ok (.iconst 0, 1) := by decide +kernel
theorem d_md_pattern_20 : decode b_md_pattern 20 = .ok (.istore 4, 2) := by decide +kernel
theorem d_md_pattern_22 : decode b_md_pattern 22 = .ok (.iload 4, 2) := by decide +kernel
theorem d_md_pattern_24 : decode b_md_pattern 24 = .ok (.aload_n 0, 1) := by decide +kernel
theorem d_md_pattern_25 : decode b_md_pattern 25 = .ok (.getfield 55, 3) := by decide +kernel
theorem d_md_pattern_28 : decode b_md_pattern 28 = .ok (.if_icmp .ge 77, 3) := by decide +kernel
theorem d_md_pattern_31 : decode b_md_pattern 31 = .ok (.aload_n 0, 1) := by decide +kernel
theorem d_md_pattern_32 : decode b_md_pattern 32 = .ok (.aload_n 0, 1) := by decide +kernel
theorem d_md_pattern_33 : decode b_md_pattern 33 = .ok (.getfield 13, 3) := by decide +kernel
theorem d_md_pattern_36 : decode b_md_pattern 36 = .ok (.aload_n 0, 1) := by decide +kernel
theorem d_md_pattern_37 : decode b_md_pattern 37 = .ok (.getfield 55, 3) := by decide +kernel
theorem d_md_pattern_40 : decode b_md_pattern 40 = .ok (.iaload, 1) := by decide +kernel
theorem d_md_pattern_41 : decode b_md_pattern 41 = .ok (.iload_n 1, 1) := by decide +kernel
theorem d_md_pattern_42 : decode b_md_pattern 42 = .ok (.iload 4, 2) := by decide +kernel
theorem d_md_pattern_44 : decode b_md_pattern 44 = .ok (.invokevirtual 73, 3) := by decide +kernel
theorem d_md_pattern_47 : decode b_md_pattern 47 = .ok (.istore 5, 2) := by decide +kernel
theorem d_md_pattern_49 : decode b_md_pattern 49 = .ok (.iload 5, 2) := by decide +kernel
theorem d_md_pattern_51 : decode b_md_pattern 51 = .ok (.iload_n 2, 1) := by decide +kernel
theorem d_md_pattern_52 : decode b_md_pattern 52 = .ok (.if_icmp .le 8, 3) := by decide +kernel
theorem d_md_pattern_55 : decode b_md_pattern 55 = .ok (.iload 5, 2) := by decide +kernel
theorem d_md_pattern_57 : decode b_md_pattern 57 = .ok (.goto 4, 3) := by decide +kernel
theorem d_md_pattern_60 : decode b_md_pattern 60 = .ok (.iload_n 2, 1) := by decide +kernel
theorem d_md_pattern_61 : decode b_md_pattern 61 = .ok (.istore_n 2, 1) := by decide +kernel
theorem d_md_pattern_62 : decode b_md_pattern 62 = .ok (.iload_n 3, 1) := by decide +kernel
theorem d_md_pattern_63 : decode b_md_pattern 63 = .ok (.ifCond .ne 30, 3) := by decide +kernel
theorem d_md_pattern_66 : decode b_md_pattern 66 = .ok (.iload 5, 2) := by decide +kernel
theorem d_md_pattern_68 : decode b_md_pattern 68 = .ok (.iload_n 1, 1) := by decide +kernel
theorem d_md_pattern_69 : decode b_md_pattern 69 = .ok (.if_icmp .ne 28, 3) := by decide +kernel
theorem d_md_pattern_72 : decode b_md_pattern 72 = .ok (.aload_n 0, 1) := by decide +kernel
theorem d_md_pattern_73 : decode b_md_pattern 73 = .ok (.getfield 13, 3) := by decide +kernel
theorem d_md_pattern_76 : decode b_md_pattern 76 = .ok (.iload 4, 2) := by decide +kernel
theorem d_md_pattern_78 : decode b_md_pattern 78 = .ok (.iconst 1, 1) := by decide +kernel
theorem d_md_pattern_79 : decode b_md_pattern 79 = .ok (.iadd, 1) := by decide +kernel
theorem d_md_pattern_80 : decode b_md_pattern 80 = .ok (.iaload, 1) := by decide +kernel
theorem d_md_pattern_81 : decode b_md_pattern 81 = .ok (.aload_n 0, 1) := by decide +kernel
theorem d_md_pattern_82 : decode b_md_pattern 82 = .ok (.getfield 13, 3) := by decide +kernel
theorem d_md_pattern_85 : decode b_md_pattern 85 = .ok (.iload 4, 2) := by decide +kernel
theorem d_md_pattern_87 : decode b_md_pattern 87 = .ok (.iaload, 1) := by decide +kernel
theorem d_md_pattern_88 : decode b_md_pattern 88 = .ok (.isub, 1) := by decide +kernel
theorem d_md_pattern_89 : decode b_md_pattern 89 = .ok (.iload_n 1, 1) := by decide +kernel
theorem d_md_pattern_90 : decode b_md_pattern 90 = .ok (.if_icmp .ne 7, 3) := by decide +kernel
theorem d_md_pattern_93 : decode b_md_pattern 93 = .ok (.iconst 1, 1) := by decide +kernel
theorem d_md_pattern_94 : decode b_md_pattern 94 = .ok (.goto 4, 3) := by decide +kernel
theorem d_md_pattern_97 : decode b_md_pattern 97 = .ok (.iconst 0, 1) := by decide +kernel
theorem d_md_pattern_98 : decode b_md_pattern 98 = .ok (.istore_n 3, 1) := by decide +kernel
theorem d_md_pattern_99 : decode b_md_pattern 99 = .ok (.iinc 4 1, 3) := by decide +kernel
theorem d_md_pattern_102 : decode b_md_pattern 102 = .ok (.goto (-80), 3) := by decide +kernel
theorem d_md_pattern_105 : decode b_md_pattern 105 = .ok (.iload_n 3, 1) := by decide +kernel
theorem d_md_pattern_106 : decode b_md_pattern 106 = .ok (.ifCond .ne 26, 3) := by decide +kernel
theorem d_md_pattern_109 : decode b_md_pattern 109 = .ok (.aload_n 0, 1) := by decide +kernel
theorem d_md_pattern_110 : decode b_md_pattern 110 = .ok (.getfield 55, 3) := by decide +kernel
theorem d_md_pattern_113 : decode b_md_pattern 113 = .ok (.sipush 8192, 3) := by decide +kernel
theorem d_md_pattern_116 : decode b_md_pattern 116 = .ok (.if_icmp .eq 16, 3) := by decide +kernel
theorem d_md_pattern_119 : decode b_md_pattern 119 = .ok (.aload_n 0, 1) := by decide +kernel
theorem d_md_pattern_120 : decode b_md_pattern 120 = .ok (.getfield 77, 3) := by decide +kernel
theorem d_md_pattern_123 : decode b_md_pattern 123 = .ok (.iload_n 1, 1) := by decide +kernel
theorem d_md_pattern_124 : decode b_md_pattern 124 = .ok (.iadd, 1) := by decide +kernel
theorem d_md_pattern_125 : decode b_md_pattern 125 = .ok (.iload_n 2, 1) := by decide +kernel
theorem d_md_pattern_126 : decode b_md_pattern 126 = .ok (.isub, 1) := by decide +kernel
theorem d_md_pattern_127 : decode b_md_pattern 127 = .ok (.ldc 80, 2) := by decide +kernel
theorem d_md_pattern_129 : decode b_md_pattern 129 = .ok (.if_icmp .le 9, 3) := by decide +kernel
theorem d_md_pattern_132 : decode b_md_pattern 132 = .ok (.aload_n 0, 1) := by decide +kernel
theorem d_md_pattern_133 : decode b_md_pattern 133 = .ok (.iconst 2, 1) := by decide +kernel
theorem d_md_pattern_134 : decode b_md_pattern 134 = .ok (.invokevirtual 69, 3) := by decide +kernel
theorem d_md_pattern_137 : decode b_md_pattern 137 = .ok (.ireturn, 1) := by decide +kernel
theorem d_md_pattern_138 : decode b_md_pattern 138 = .ok (.aload_n 0, 1) := by decide +kernel
theorem d_md_pattern_139 : decode b_md_pattern 139 = .ok (.dup, 1) := by decide +kernel
theorem d_md_pattern_140 : decode b_md_pattern 140 = .ok (.getfield 55, 3) := by decide +kernel
theorem d_md_pattern_143 : decode b_md_pattern 143 = .ok (.iconst 1, 1) := by decide +kernel
theorem d_md_pattern_144 : decode b_md_pattern 144 = .ok (.iadd, 1) := by decide +kernel
theorem d_md_pattern_145 : decode b_md_pattern 145 = .ok (.putfield 55, 3) := by decide +kernel
theorem d_md_pattern_148 : decode b_md_pattern 148 = .ok (.aload_n 0, 1) := by decide +kernel
theorem d_md_pattern_149 : decode b_md_pattern 149 = .ok (.getfield 13, 3) := by decide +kernel
theorem d_md_pattern_152 : decode b_md_pattern 152 = .ok (.aload_n 0, 1) := by decide +kernel
theorem d_md_pattern_153 : decode b_md_pattern 153 = .ok (.getfield 55, 3) := by decide +kernel
theorem d_md_pattern_156 : decode b_md_pattern 156 = .ok (.aload_n 0, 1) := by decide +kernel
theorem d_md_pattern_157 : decode b_md_pattern 157 = .ok (.getfield 13, 3) := by decide +kernel
theorem d_md_pattern_160 : decode b_md_pattern 160 = .ok (.aload_n 0, 1) := by decide +kernel
theorem d_md_pattern_161 : decode b_md_pattern 161 = .ok (.getfield 55, 3) := by decide +kernel
theorem d_md_pattern_164 : decode b_md_pattern 164 = .ok (.iconst 1, 1) := by decide +kernel
theorem d_md_pattern_165 : decode b_md_pattern 165 = .ok (.isub, 1) := by decide +kernel
theorem d_md_pattern_166 : decode b_md_pattern 166 = .ok (.iaload, 1) := by decide +kernel
theorem d_md_pattern_167 : decode b_md_pattern 167 = .ok (.iload_n 1, 1) := by decide +kernel
theorem d_md_pattern_168 : decode b_md_pattern 168 = .ok (.iadd, 1) := by decide +kernel
theorem d_md_pattern_169 : decode b_md_pattern 169 = .ok (.iastore, 1) := by decide +kernel
theorem d_md_pattern_170 : decode b_md_pattern 170 = .ok (.aload_n 0, 1) := by decide +kernel
theorem d_md_pattern_171 : decode b_md_pattern 171 = .ok (.dup, 1) := by decide +kernel
theorem d_md_pattern_172 : decode b_md_pattern 172 = .ok (.getfield 77, 3) := by decide +kernel
theorem d_md_pattern_175 : decode b_md_pattern 175 = .ok (.iload_n 1, 1) := by decide +kernel
theorem d_md_pattern_176 : decode b_md_pattern 176 = .ok (.iload_n 2, 1) := by decide +kernel
theorem d_md_pattern_177 : decode b_md_pattern 177 = .ok (.isub, 1) := by decide +kernel
theorem d_md_pattern_178 : decode b_md_pattern 178 = .ok (.iadd, 1) := by decide +kernel
theorem d_md_pattern_179 : decode b_md_pattern 179 = .ok (.putfield 77, 3) := by decide +kernel
theorem d_md_pattern_182 : decode b_md_pattern 182 = .ok (.aload_n 0, 1) := by decide +kernel
theorem d_md_pattern_183 : decode b_md_pattern 183 = .ok (.iconst 0, 1) := by decide +kernel
theorem d_md_pattern_184 : decode b_md_pattern 184 = .ok (.invokevirtual 69, 3) := by decide +kernel
theorem d_md_pattern_187 : decode b_md_pattern 187 = .ok (.pop, 1) := by decide +kernel
theorem d_md_pattern_188 : decode b_md_pattern 188 = .ok (.aload_n 0, 1) := by decide +kernel
theorem d_md_pattern_189 : decode b_md_pattern 189 = .ok (.getfield 55, 3) := by decide +kernel
theorem d_md_pattern_192 : decode b_md_pattern 192 = .ok (.ireturn, 1) := by decide +kernel
theorem d_md_readPattern_0 : decode b_md_readPattern 0 = .ok (.aload_n 0, 1) := by decide +kernel
theorem d_md_readPattern_1 : decode b_md_readPattern 1 = .ok (.getfield 13, 3) := by decide +kernel
theorem d_md_readPattern_4 : decode b_md_readPattern 4 = .ok (.aload_n 0, 1) := by decide +kernel
theorem d_md_readPattern_5 : decode b_md_readPattern 5 = .ok (.getfield 55, 3) := by decide +kernel
theorem d_md_readPattern_8 : decode b_md_readPattern 8 = .ok (.iaload, 1) := by decide +kernel
theorem d_md_readPattern_9 : decode b_md_readPattern 9 = .ok (.istore_n 1, 1) := by decide +kernel
theorem d_md_readPattern_10 : decode b_md_readPattern 10 = .ok (.iconst 0, 1) := by decide +kernel
theorem d_md_readPattern_11 : decode b_md_readPattern 11 = .ok (.istore_n 2, 1) := by decide +kernel
theorem d_md_readPattern_12 : decode b_md_readPattern 12 = .ok (.iconst 0, 1) := by decide +kernel
theorem d_md_readPattern_13 : decode b_md_readPattern 13 = .ok (.istore_n 3, 1) := by decide +kernel
theorem d_md_readPattern_14 : decode b_md_readPattern 14 = .ok (.iconst 1, 1) := by decide +kernel
theorem d_md_readPattern_15 : decode b_md_readPattern 15 = .ok (.istore 4, 2) := by decide +kernel
theorem d_md_readPattern_17 : decode b_md_readPattern 17 = .ok (.iconst 0, 1) := by decide +kernel
theorem d_md_readPattern_18 : decode b_md_readPattern 18 = .ok (.istore 5, 2) := by decide +kernel
theorem d_md_readPattern_20 : decode b_md_readPattern 20 = .ok (.iload 5, 2) := by decide +kernel
theorem d_md_readPattern_22 : decode b_md_readPattern 22 = .ok (.aload_n 0, 1) := by decide +kernel
theorem d_md_readPattern_23 : decode b_md_readPattern 23 = .ok (.getfield 50, 3) := by decide +kernel
theorem d_md_readPattern_26 : decode b_md_readPattern 26 = .ok (.if_icmp .ge 134, 3) := by decide +kernel
theorem d_md_readPattern_29 : decode b_md_readPattern 29 = .ok (.iload 4, 2) := by decide +kernel
theorem d_md_readPattern_31 : decode b_md_readPattern 31 = .ok (.ifCond .eq 78, 3) := by decide +kernel
theorem d_md_readPattern_34 : decode b_md_readPattern 34 = .ok (.aload_n 0, 1) := by decide +kernel
theorem d_md_readPattern_35 : decode b_md_readPattern 35 = .ok (.getfield 7, 3) := by decide +kernel
theorem d_md_readPattern_38 : decode b_md_readPattern 38 = .ok (.iload 5, 2) := by decide +kernel
theorem d_md_readPattern_40 : decode b_md_readPattern 40 = .ok (.iaload, 1) := by decide +kernel
theorem d_md_readPattern_41 : decode b_md_readPattern 41 = .ok (.invokestatic 58, 3) := by decide +kernel
theorem d_md_readPattern_44 : decode b_md_readPattern 44 = .ok (.ifCond .ne 28, 3) := by decide +kernel
theorem d_md_readPattern_47 : decode b_md_readPattern 47 = .ok (.aload_n 0, 1) := by decide +kernel
theorem d_md_readPattern_48 : decode b_md_readPattern 48 = .ok (.getfield 7, 3) := by decide +kernel
theorem d_md_readPattern_51 : decode b_md_readPattern 51 = .ok (.iload 5, 2) := by decide +kernel
theorem d_md_readPattern_53 : decode b_md_readPattern 53 = .ok (.iaload, 1) := by decide +kernel
theorem d_md_readPattern_54 : decode b_md_readPattern 54 = .ok (.invokestatic 62, 3) := by decide +kernel
theorem d_md_readPattern_57 : decode b_md_readPattern 57 = .ok (.ifCond .ne 15, 3) := by decide +kernel
theorem d_md_readPattern_60 : decode b_md_readPattern 60 = .ok (.aload_n 0, 1) := by decide +kernel
theorem d_md_readPattern_61 : decode b_md_readPattern 61 = .ok (.getfield 7, 3) := by decide +kernel
theorem d_md_readPattern_64 : decode b_md_readPattern 64 = .ok (.iload 5, 2) := by decide +kernel
theorem d_md_readPattern_66 : decode b_md_readPattern 66 = .ok (.iaload, 1) := by decide +kernel
theorem d_md_readPattern_67 : decode b_md_readPattern 67 = .ok (.bipush 46, 2) := by decide +kernel
theorem d_md_readPattern_69 : decode b_md_readPattern 69 = .ok (.if_icmp .ne 40, 3) := by decide +kernel
theorem d_md_readPattern_72 : decode b_md_readPattern 72 = .ok (.iload 5, 2) := by decide +kernel
theorem d_md_readPattern_74 : decode b_md_readPattern 74 = .ok (.ifCond .le 31, 3) := by decide +kernel
theorem d_md_readPattern_77 : decode b_md_readPattern 77 = .ok (.aload_n 0, 1) := by decide +kernel
theorem d_md_readPattern_78 : decode b_md_readPattern 78 = .ok (.getfield 7, 3) := by decide +kernel
theorem d_md_readPattern_81 : decode b_md_readPattern 81 = .ok (.iload 5, 2) := by decide +kernel
theorem d_md_readPattern_83 : decode b_md_readPattern 83 = .ok (.iaload, 1) := by decide +kernel
theorem d_md_readPattern_84 : decode b_md_readPattern 84 = .ok (.invokestatic 62, 3) := by decide +kernel
theorem d_md_readPattern_87 : decode b_md_readPattern 87 = .ok (.ifCond .eq 18, 3) := by decide +kernel
theorem d_md_readPattern_90 : decode b_md_readPattern 90 = .ok (.aload_n 0, 1) := by decide +kernel
theorem d_md_readPattern_91 : decode b_md_readPattern 91 = .ok (.getfield 7, 3) := by decide +kernel
theorem d_md_readPattern_94 : decode b_md_readPattern 94 = .ok (.iload 5, 2) := by decide +kernel
theorem d_md_readPattern_96 : decode b_md_readPattern 96 = .ok (.iconst 1, 1) := by decide +kernel
theorem d_md_readPattern_97 : decode b_md_readPattern 97 = .ok (.isub, 1) := by decide +kernel
theorem d_md_readPattern_98 : decode b_md_readPattern 98 = .ok (.iaload, 1) := by decide +kernel
theorem d_md_readPattern_99 : decode b_md_readPattern 99 = .ok (.invokestatic 62, 3) := by decide +kernel
theorem d_md_readPattern_102 : decode b_md_readPattern 102 = .ok (.ifCond .ne 7, 3) := by decide +kernel
theorem d_md_readPattern_105 : decode b_md_readPattern 105 = .ok (.iconst 1, 1) := by decide +kernel
theorem d_md_readPattern_106 : decode b_md_readPattern 106 = .ok (.goto 4, 3) := by decide +kernel
theorem d_md_readPattern_109 : decode b_md_readPattern 109 = .ok (.iconst 0, 1) := by decide +kernel
theorem d_md_readPattern_110 : decode b_md_readPattern 110 = .ok (.istore 4, 2) := by decide +kernel
theorem d_md_readPattern_112 : decode b_md_readPattern 112 = .ok (.iload_n 2, 1) := by decide +kernel
theorem d_md_readPattern_113 : decode b_md_readPattern 113 = .ok (.aload_n 0, 1) := by decide +kernel
theorem d_md_readPattern_114 : decode b_md_readPattern 114 = .ok (.getfield 7, 3) := by decide +kernel
theorem d_md_readPattern_117 : decode b_md_readPattern 117 = .ok (.iload 5, 2) := by decide +kernel
theorem d_md_readPattern_119 : decode b_md_readPattern 119 = .ok (.iaload, 1) := by decide +kernel
theorem d_md_readPattern_120 : decode b_md_readPattern 120 = .ok (.invokestatic 58, 3) := by decide +kernel
theorem d_md_readPattern_123 : decode b_md_readPattern 123 = .ok (.ifCond .eq 7, 3) := by decide +kernel
theorem d_md_readPattern_126 : decode b_md_readPattern 126 = .ok (.iconst 1, 1) := by decide +kernel
theorem d_md_readPattern_127 : decode b_md_readPattern 127 = .ok (.goto 4, 3) := by decide +kernel
theorem d_md_readPattern_130 : decode b_md_readPattern 130 = .ok (.iconst 0, 1) := by decide +kernel
theorem d_md_readPattern_131 : decode b_md_readPattern 131 = .ok (.iadd, 1) := by decide +kernel
theorem d_md_readPattern_132 : decode b_md_readPattern 132 = .ok (.istore_n 2, 1) := by decide +kernel
theorem d_md_readPattern_133 : decode b_md_readPattern 133 = .ok (.iload_n 3, 1) := by decide +kernel
theorem d_md_readPattern_134 : decode b_md_readPattern 134 = .ok (.aload_n 0, 1) := by decide +kernel
theorem d_md_readPattern_135 : decode b_md_readPattern 135 = .ok (.getfield 7, 3) := by decide +kernel
theorem d_md_readPattern_138 : decode b_md_readPattern 138 = .ok (.iload 5, 2) := by decide +kernel
theorem d_md_readPattern_140 : decode b_md_readPattern 140 = .ok (.iaload, 1) := by decide +kernel
theorem d_md_readPattern_141 : decode b_md_readPattern 141 = .ok (.invokestatic 62, 3) := by decide +kernel
theorem d_md_readPattern_144 : decode b_md_readPattern 144 = .ok (.ifCond .eq 7, 3) := by decide +kernel
theorem d_md_readPattern_147 : decode b_md_readPattern 147 = .ok (.iconst 0, 1) := by decide +kernel
theorem d_md_readPattern_148 : decode b_md_readPattern 148 = .ok (.goto 4, 3) := by decide +kernel
theorem d_md_readPattern_151 : decode b_md_readPattern 151 = .ok (.iconst 1, 1) := by decide +kernel
theorem d_md_readPattern_152 : decode b_md_readPattern 152 = .ok (.iadd, 1) := by decide +kernel
theorem d_md_readPattern_153 : decode b_md_readPattern 153 = .ok (.istore_n 3, 1) := by decide +kernel
theorem d_md_readPattern_154 : decode b_md_readPattern 154 = .ok (.iinc 5 1, 3) := by decide +kernel
theorem d_md_readPattern_157 : decode b_md_readPattern 157 = .ok (.goto (-137), 3) := by decide +kernel
theorem d_md_readPattern_160 : decode b_md_readPattern 160 = .ok (.iload 4, 2) := by decide +kernel
theorem d_md_readPattern_162 : decode b_md_readPattern 162 = .ok (.ifCond .eq 14, 3) := by decide +kernel
theorem d_md_readPattern_165 : decode b_md_readPattern 165 = .ok (.iload_n 2, 1) := by decide +kernel
theorem d_md_readPattern_166 : decode b_md_readPattern 166 = .ok (.iconst 1, 1) := by decide +kernel
theorem d_md_readPattern_167 : decode b_md_readPattern 167 = .ok (.if_icmp .lt 9, 3) := by decide +kernel
theorem d_md_readPattern_170 : decode b_md_readPattern 170 = .ok (.iload_n 2, 1) := by decide +kernel
theorem d_md_readPattern_171 : decode b_md_readPattern 171 = .ok (.bipush 63, 2) := by decide +kernel
theorem d_md_readPattern_173 : decode b_md_readPattern 173 = .ok (.if_icmp .le 5, 3) := by decide +kernel
theorem d_md_readPattern_176 : decode b_md_readPattern 176 = .ok (.iconst 0, 1) := by decide +kernel
theorem d_md_readPattern_177 : decode b_md_readPattern 177 = .ok (.ireturn, 1) := by decide +kernel
theorem d_md_readPattern_178 : decode b_md_readPattern 178 = .ok (.iconst 0, 1) := by decide +kernel
theorem d_md_readPattern_179 : decode b_md_readPattern 179 = .ok (.istore 5, 2) := by decide +kernel
theorem d_md_readPattern_181 : decode b_md_readPattern 181 = .ok (.iconst 0, 1) := by decide +kernel
theorem d_md_readPattern_182 : decode b_md_readPattern 182 = .ok (.istore 6, 2) := by decide +kernel
theorem d_md_readPattern_184 : decode b_md_readPattern 184 = .ok (.iload 6, 2) := by decide +kernel
theorem d_md_readPattern_186 : decode b_md_readPattern 186 = .ok (.aload_n 0, 1) := by decide +kernel
theorem d_md_readPattern_187 : decode b_md_readPattern 187 = .ok (.getfield 50, 3) := by decide +kernel
theorem d_md_readPattern_190 : decode b_md_readPattern 190 = .ok (.if_icmp .ge 128, 3) := by decide +kernel
theorem d_md_readPattern_193 : decode b_md_readPattern 193 = .ok (.aload_n 0, 1) := by decide +kernel
theorem d_md_readPattern_194 : decode b_md_readPattern 194 = .ok (.getfield 7, 3) := by decide +kernel
theorem d_md_readPattern_197 : decode b_md_readPattern 197 = .ok (.iload 6, 2) := by decide +kernel
theorem d_md_readPattern_199 : decode b_md_readPattern 199 = .ok (.iaload, 1) := by decide +kernel
theorem d_md_readPattern_200 : decode b_md_readPattern 200 = .ok (.invokestatic 62, 3) := by decide +kernel
theorem d_md_readPattern_203 : decode b_md_readPattern 203 = .ok (.ifCond .ne 109, 3) := by decide +kernel
theorem d_md_readPattern_206 : decode b_md_readPattern 206 = .ok (.iload 4, 2) := by decide +kernel
theorem d_md_readPattern_208 : decode b_md_readPattern 208 = .ok (.ifCond .eq 32, 3) := by decide +kernel
theorem d_md_readPattern_211 : decode b_md_readPattern 211 = .ok (.aload_n 0, 1) := by decide +kernel
theorem d_md_readPattern_212 : decode b_md_readPattern 212 = .ok (.getfield 7, 3) := by decide +kernel
theorem d_md_readPattern_215 : decode b_md_readPattern 215 = .ok (.iload 6, 2) := by decide +kernel
theorem d_md_readPattern_217 : decode b_md_readPattern 217 = .ok (.iaload, 1) := by decide +kernel
theorem d_md_readPattern_218 : decode b_md_readPattern 218 = .ok (.bipush 46, 2) := by decide +kernel
theorem d_md_readPattern_220 : decode b_md_readPattern 220 = .ok (.if_icmp .ne 16, 3) := by decide +kernel
theorem d_md_readPattern_223 : decode b_md_readPattern 223 = .ok (.iload 5, 2) := by decide +kernel
theorem d_md_readPattern_225 : decode b_md_readPattern 225 = .ok (.ifCond .eq 11, 3) := by decide +kernel
theorem d_md_readPattern_228 : decode b_md_readPattern 228 = .ok (.iload 5, 2) := by decide +kernel
theorem d_md_readPattern_230 : decode b_md_readPattern 230 = .ok (.iload_n 3, 1) := by decide +kernel
theorem d_md_readPattern_231 : decode b_md_readPattern 231 = .ok (.iconst 1, 1) := by decide +kernel
theorem d_md_readPattern_232 : decode b_md_readPattern 232 = .ok (.isub, 1) := by decide +kernel
theorem d_md_readPattern_233 : decode b_md_readPattern 233 = .ok (.if_icmp .ne 7, 3) := by decide +kernel
theorem d_md_readPattern_236 : decode b_md_readPattern 236 = .ok (.iconst 1, 1) := by decide +kernel
theorem d_md_readPattern_237 : decode b_md_readPattern 237 = .ok (.goto 4, 3) := by decide +kernel
theorem d_md_readPattern_240 : decode b_md_readPattern 240 = .ok (.iconst 0, 1) := by decide +kernel
theorem d_md_readPattern_241 : decode b_md_readPattern 241 = .ok (.istore 4, 2) := by decide +kernel
theorem d_md_readPattern_243 : decode b_md_readPattern 243 = .ok (.aload_n 0, 1) := by decide +kernel
theorem d_md_readPattern_244 : decode b_md_readPattern 244 = .ok (.getfield 17, 3) := by decide +kernel
theorem d_md_readPattern_247 : decode b_md_readPattern 247 = .ok (.iload_n 1, 1) := by decide +kernel
theorem d_md_readPattern_248 : decode b_md_readPattern 248 = .ok (.iload 5, 2) := by decide +kernel
theorem d_md_readPattern_250 : decode b_md_readPattern 250 = .ok (.iadd, 1) := by decide +kernel
theorem d_md_readPattern_251 : decode b_md_readPattern 251 = .ok (.aload_n 0, 1) := by decide +kernel
theorem d_md_readPattern_252 : decode b_md_readPattern 252 = .ok (.getfield 7, 3) := by decide +kernel
theorem d_md_readPattern_255 : decode b_md_readPattern 255 = .ok (.iload 6, 2) := by decide +kernel
theorem d_md_readPattern_257 : decode b_md_readPattern 257 = .ok (.iaload, 1) := by decide +kernel
theorem d_md_readPattern_258 : decode b_md_readPattern 258 = .ok (.iastore, 1) := by decide +kernel
theorem d_md_readPattern_259 : decode b_md_readPattern 259 = .ok (.aload_n 0, 1) := by decide +kernel
theorem d_md_readPattern_260 : decode b_md_readPattern 260 = .ok (.getfield 21, 3) := by decide +kernel
theorem d_md_readPattern_263 : decode b_md_readPattern 263 = .ok (.iload_n 1, 1) := by decide +kernel
theorem d_md_readPattern_264 : decode b_md_readPattern 264 = .ok (.aload_n 0, 1) := by decide +kernel
theorem d_md_readPattern_265 : decode b_md_readPattern 265 = .ok (.getfield 55, 3) := by decide +kernel
theorem d_md_readPattern_268 : decode b_md_readPattern 268 = .ok (.iadd, 1) := by decide +kernel
theorem d_md_readPattern_269 : decode b_md_readPattern 269 = .ok (.iload 5, 2) := by decide +kernel
theorem d_md_readPattern_271 : decode b_md_readPattern 271 = .ok (.iadd, 1) := by decide +kernel
theorem d_md_readPattern_272 : decode b_md_readPattern 272 = .ok (.iload 6, 2) := by decide +kernel
theorem d_md_readPattern_274 : decode b_md_readPattern 274 = .ok (.ifCond .le 33, 3) := by decide +kernel
theorem d_md_readPattern_277 : decode b_md_readPattern 277 = .ok (.aload_n 0, 1) := by decide +kernel
theorem d_md_readPattern_278 : decode b_md_readPattern 278 = .ok (.getfield 7, 3) := by decide +kernel
theorem d_md_readPattern_281 : decode b_md_readPattern 281 = .ok (.iload 6, 2) := by decide +kernel
theorem d_md_readPattern_283 : decode b_md_readPattern 283 = .ok (.iconst 1, 1) := by decide +kernel
theorem d_md_readPattern_284 : decode b_md_readPattern 284 = .ok (.isub, 1) := by decide +kernel
theorem d_md_readPattern_285 : decode b_md_readPattern 285 = .ok (.iaload, 1) := by decide +kernel
theorem d_md_readPattern_286 : decode b_md_readPattern 286 = .ok (.invokestatic 62, 3) := by decide +kernel
theorem d_md_readPattern_289 : decode b_md_readPattern 289 = .ok (.ifCond .eq 18, 3) := by decide +kernel
theorem d_md_readPattern_292 : decode b_md_readPattern 292 = .ok (.aload_n 0, 1) := by decide +kernel
theorem d_md_readPattern_293 : decode b_md_readPattern 293 = .ok (.getfield 7, 3) := by decide +kernel
theorem d_md_readPattern_296 : decode b_md_readPattern 296 = .ok (.iload 6, 2) := by decide +kernel
theorem d_md_readPattern_298 : decode b_md_readPattern 298 = .ok (.iconst 1, 1) := by decide +kernel
theorem d_md_readPattern_299 : decode b_md_readPattern 299 = .ok (.isub, 1) := by decide +kernel
theorem d_md_readPattern_300 : decode b_md_readPattern 300 = .ok (.iaload, 1) := by decide +kernel
theorem d_md_readPattern_301 : decode b_md_readPattern 301 = .ok (.bipush 48, 2) := by decide +kernel
theorem d_md_readPattern_303 : decode b_md_readPattern 303 = .ok (.isub, 1) := by decide +kernel
theorem d_md_readPattern_304 : decode b_md_readPattern 304 = .ok (.goto 4, 3) := by decide +kernel
theorem d_md_readPattern_307 : decode b_md_readPattern 307 = .ok (.iconst 0, 1) := by decide +kernel
theorem d_md_readPattern_308 : decode b_md_readPattern 308 = .ok (.iastore, 1) := by decide +kernel
theorem d_md_readPattern_309 : decode b_md_readPattern 309 = .ok (.iinc 5 1, 3) := by decide +kernel
theorem d_md_readPattern_312 : decode b_md_readPattern 312 = .ok (.iinc 6 1, 3) := by decide +kernel
theorem d_md_readPattern_315 : decode b_md_readPattern 315 = .ok (.goto (-131), 3) := by decide +kernel
theorem d_md_readPattern_318 : decode b_md_readPattern 318 = .ok (.aload_n 0, 1) := by decide +kernel
theorem d_md_readPattern_319 : decode b_md_readPattern 319 = .ok (.getfield 21, 3) := by decide +kernel
theorem d_md_readPattern_322 : decode b_md_readPattern 322 = .ok (.iload_n 1, 1) := by decide +kernel
theorem d_md_readPattern_323 : decode b_md_readPattern 323 = .ok (.aload_n 0, 1) := by decide +kernel
theorem d_md_readPattern_324 : decode b_md_readPattern 324 = .ok (.getfield 55, 3) := by decide +kernel
theorem d_md_readPattern_327 : decode b_md_readPattern 327 = .ok (.iadd, 1) := by decide +kernel
theorem d_md_readPattern_328 : decode b_md_readPattern 328 = .ok (.iload_n 3, 1) := by decide +kernel
theorem d_md_readPattern_329 : decode b_md_readPattern 329 = .ok (.iadd, 1) := by decide +kernel
theorem d_md_readPattern_330 : decode b_md_readPattern 330 = .ok (.aload_n 0, 1) := by decide +kernel
theorem d_md_readPattern_331 : decode b_md_readPattern 331 = .ok (.getfield 7, 3) := by decide +kernel
theorem d_md_readPattern_334 : decode b_md_readPattern 334 = .ok (.aload_n 0, 1) := by decide +kernel
theorem d_md_readPattern_335 : decode b_md_readPattern 335 = .ok (.getfield 50, 3) := by decide +kernel
theorem d_md_readPattern_338 : decode b_md_readPattern 338 = .ok (.iconst 1, 1) := by decide +kernel
theorem d_md_readPattern_339 : decode b_md_readPattern 339 = .ok (.isub, 1) := by decide +kernel
theorem d_md_readPattern_340 : decode b_md_readPattern 340 = .ok (.iaload, 1) := by decide +kernel
theorem d_md_readPattern_341 : decode b_md_readPattern 341 = .ok (.invokestatic 62, 3) := by decide +kernel
theorem d_md_readPattern_344 : decode b_md_readPattern 344 = .ok (.ifCond .eq 20, 3) := by decide +kernel
theorem d_md_readPattern_347 : decode b_md_readPattern 347 = .ok (.aload_n 0, 1) := by decide +kernel
theorem d_md_readPattern_348 : decode b_md_readPattern 348 = .ok (.getfield 7, 3) := by decide +kernel
theorem d_md_readPattern_351 : decode b_md_readPattern 351 = .ok (.aload_n 0, 1) := by decide +kernel
theorem d_md_readPattern_352 : decode b_md_readPattern 352 = .ok (.getfield 50, 3) := by decide +kernel
theorem d_md_readPattern_355 : decode b_md_readPattern 355 = .ok (.iconst 1, 1) := by decide +kernel
theorem d_md_readPattern_356 : decode b_md_readPattern 356 = .ok (.isub, 1) := by decide +kernel
theorem d_md_readPattern_357 : decode b_md_readPattern 357 = .ok (.iaload, 1) := by decide +kernel
theorem d_md_readPattern_358 : decode b_md_readPattern 358 = .ok (.bipush 48, 2) := by decide +kernel
theorem d_md_readPattern_360 : decode b_md_readPattern 360 = .ok (.isub, 1) := by decide +kernel
theorem d_md_readPattern_361 : decode b_md_readPattern 361 = .ok (.goto 4, 3) := by decide +kernel
theorem d_md_readPattern_364 : decode b_md_readPattern 364 = .ok (.iconst 0, 1) := by decide +kernel
theorem d_md_readPattern_365 : decode b_md_readPattern 365 = .ok (.iastore, 1) := by decide +kernel
theorem d_md_readPattern_366 : decode b_md_readPattern 366 = .ok (.aload_n 0, 1) := by decide +kernel
theorem d_md_readPattern_367 : decode b_md_readPattern 367 = .ok (.getfield 17, 3) := by decide +kernel
theorem d_md_readPattern_370 : decode b_md_readPattern 370 = .ok (.iload_n 1, 1) := by decide +kernel
theorem d_md_readPattern_371 : decode b_md_readPattern 371 = .ok (.iaload, 1) := by decide +kernel
theorem d_md_readPattern_372 : decode b_md_readPattern 372 = .ok (.bipush 46, 2) := by decide +kernel
theorem d_md_readPattern_374 : decode b_md_readPattern 374 = .ok (.if_icmp .ne 15, 3) := by decide +kernel
theorem d_md_readPattern_377 : decode b_md_readPattern 377 = .ok (.aload_n 0, 1) := by decide +kernel
theorem d_md_readPattern_378 : decode b_md_readPattern 378 = .ok (.getfield 21, 3) := by decide +kernel
theorem d_md_readPattern_381 : decode b_md_readPattern 381 = .ok (.iload_n 1, 1) := by decide +kernel
theorem d_md_readPattern_382 : decode b_md_readPattern 382 = .ok (.aload_n 0, 1) := by decide +kernel
theorem d_md_readPattern_383 : decode b_md_readPattern 383 = .ok (.getfield 55, 3) := by decide +kernel
theorem d_md_readPattern_386 : decode b_md_readPattern 386 = .ok (.iadd, 1) := by decide +kernel
theorem d_md_readPattern_387 : decode b_md_readPattern 387 = .ok (.iconst 0, 1) := by decide +kernel
theorem d_md_readPattern_388 : decode b_md_readPattern 388 = .ok (.iastore, 1) := by decide +kernel
theorem d_md_readPattern_389 : decode b_md_readPattern 389 = .ok (.aload_n 0, 1) := by decide +kernel
theorem d_md_readPattern_390 : decode b_md_readPattern 390 = .ok (.getfield 17, 3) := by decide +kernel
theorem d_md_readPattern_393 : decode b_md_readPattern 393 = .ok (.iload_n 1, 1) := by decide +kernel
theorem d_md_readPattern_394 : decode b_md_readPattern 394 = .ok (.iload_n 3, 1) := by decide +kernel
theorem d_md_readPattern_395 : decode b_md_readPattern 395 = .ok (.iadd, 1) := by decide +kernel
theorem d_md_readPattern_396 : decode b_md_readPattern 396 = .ok (.iconst 1, 1) := by decide +kernel
theorem d_md_readPattern_397 : decode b_md_readPattern 397 = .ok (.isub, 1) := by decide +kernel
theorem d_md_readPattern_398 : decode b_md_readPattern 398 = .ok (.iaload, 1) := by decide +kernel
theorem d_md_readPattern_399 : decode b_md_readPattern 399 = .ok (.bipush 46, 2) := by decide +kernel
theorem d_md_readPattern_401 : decode b_md_readPattern 401 = .ok (.if_icmp .ne 17, 3) := by decide +kernel
theorem d_md_readPattern_404 : decode b_md_readPattern 404 = .ok (.aload_n 0, 1) := by decide +kernel
theorem d_md_readPattern_405 : decode b_md_readPattern 405 = .ok (.getfield 21, 3) := by decide +kernel
theorem d_md_readPattern_408 : decode b_md_readPattern 408 = .ok (.iload_n 1, 1) := by decide +kernel
theorem d_md_readPattern_409 : decode b_md_readPattern 409 = .ok (.aload_n 0, 1) := by decide +kernel
theorem d_md_readPattern_410 : decode b_md_readPattern 410 = .ok (.getfield 55, 3) := by decide +kernel
theorem d_md_readPattern_413 : decode b_md_readPattern 413 = .ok (.iadd, 1) := by decide +kernel
theorem d_md_readPattern_414 : decode b_md_readPattern 414 = .ok (.iload_n 3, 1) := by decide +kernel
theorem d_md_readPattern_415 : decode b_md_readPattern 415 = .ok (.iadd, 1) := by decide +kernel
theorem d_md_readPattern_416 : decode b_md_readPattern 416 = .ok (.iconst 0, 1) := by decide +kernel
theorem d_md_readPattern_417 : decode b_md_readPattern 417 = .ok (.iastore, 1) := by decide +kernel
theorem d_md_readPattern_418 : decode b_md_readPattern 418 = .ok (.iload 4, 2) := by decide +kernel
theorem d_md_readPattern_420 : decode b_md_readPattern 420 = .ok (.ifCond .eq 7, 3) := by decide +kernel
theorem d_md_readPattern_423 : decode b_md_readPattern 423 = .ok (.iload_n 3, 1) := by decide +kernel
theorem d_md_readPattern_424 : decode b_md_readPattern 424 = .ok (.goto 4, 3) := by decide +kernel
theorem d_md_readPattern_427 : decode b_md_readPattern 427 = .ok (.iconst 0, 1) := by decide +kernel
theorem d_md_readPattern_428 : decode b_md_readPattern 428 = .ok (.ireturn, 1) := by decide +kernel
theorem d_md_isLetter_0 : decode b_md_isLetter 0 = .ok (.iload_n 0, 1) := by decide +kernel
theorem d_md_isLetter_1 : decode b_md_isLetter 1 = .ok (.bipush 96, 2) := by decide +kernel
theorem d_md_isLetter_3 : decode b_md_isLetter 3 = .ok (.if_icmp .le 9, 3) := by decide +kernel
theorem d_md_isLetter_6 : decode b_md_isLetter 6 = .ok (.iload_n 0, 1) := by decide +kernel
theorem d_md_isLetter_7 : decode b_md_isLetter 7 = .ok (.bipush 123, 2) := by decide +kernel
theorem d_md_isLetter_9 : decode b_md_isLetter 9 = .ok (.if_icmp .lt 9, 3) := by decide +kernel
theorem d_md_isLetter_12 : decode b_md_isLetter 12 = .ok (.iload_n 0, 1) := by decide +kernel
theorem d_md_isLetter_13 : decode b_md_isLetter 13 = .ok (.bipush 127, 2) := by decide +kernel
theorem d_md_isLetter_15 : decode b_md_isLetter 15 = .ok (.if_icmp .le 7, 3) := by decide +kernel
theorem d_md_isLetter_18 : decode b_md_isLetter 18 = .ok (.iconst 1, 1) := by decide +kernel
theorem d_md_isLetter_19 : decode b_md_isLetter 19 = .ok (.goto 4, 3) := by decide +kernel
theorem d_md_isLetter_22 : decode b_md_isLetter 22 = .ok (.iconst 0, 1) := by decide +kernel
theorem d_md_isLetter_23 : decode b_md_isLetter 23 = .ok (.ireturn, 1) := by decide +kernel
theorem d_md_isDigit_0 : decode b_md_isDigit 0 = .ok (.iload_n 0, 1) := by decide +kernel
theorem d_md_isDigit_1 : decode b_md_isDigit 1 = .ok (.bipush 47, 2) := by decide +kernel
theorem d_md_isDigit_3 : decode b_md_isDigit 3 = .ok (.if_icmp .le 13, 3) := by decide +kernel
theorem d_md_isDigit_6 : decode b_md_isDigit 6 = .ok (.iload_n 0, 1) := by decide +kernel
theorem d_md_isDigit_7 : decode b_md_isDigit 7 = .ok (.bipush 58, 2) := by decide +kernel
theorem d_md_isDigit_9 : decode b_md_isDigit 9 = .ok (.if_icmp .ge 7, 3) := by decide +kernel
theorem d_md_isDigit_12 : decode b_md_isDigit 12 = .ok (.iconst 1, 1) := by decide +kernel
theorem d_md_isDigit_13 : decode b_md_isDigit 13 = .ok (.goto 4, 3) := by decide +kernel
theorem d_md_isDigit_16 : decode b_md_isDigit 16 = .ok (.iconst 0, 1) := by decide +kernel
theorem d_md_isDigit_17 : decode b_md_isDigit 17 = .ok (.ireturn, 1) := by decide +kernel
theorem d_md_fails_0 : decode b_md_fails 0 = .ok (.aload_n 0, 1) := by decide +kernel
theorem d_md_fails_1 : decode b_md_fails 1 = .ok (.iload_n 1, 1) := by decide +kernel
theorem d_md_fails_2 : decode b_md_fails 2 = .ok (.putfield 47, 3) := by decide +kernel
theorem d_md_fails_5 : decode b_md_fails 5 = .ok (.aload_n 0, 1) := by decide +kernel
theorem d_md_fails_6 : decode b_md_fails 6 = .ok (.iconst 0, 1) := by decide +kernel
theorem d_md_fails_7 : decode b_md_fails 7 = .ok (.putfield 50, 3) := by decide +kernel
theorem d_md_fails_10 : decode b_md_fails 10 = .ok (.iconst 0, 1) := by decide +kernel
theorem d_md_fails_11 : decode b_md_fails 11 = .ok (.ireturn, 1) := by decide +kernel
theorem d_md_common_0 : decode b_md_common 0 = .ok (.iconst 0, 1) := by decide +kernel
theorem d_md_common_1 : decode b_md_common 1 = .ok (.istore 4, 2) := by decide +kernel
theorem d_md_common_3 : decode b_md_common 3 = .ok (.iload 4, 2) := by decide +kernel
theorem d_md_common_5 : decode b_md_common 5 = .ok (.iload_n 2, 1) := by decide +kernel
theorem d_md_common_6 : decode b_md_common 6 = .ok (.if_icmp .ge 55, 3) := by decide +kernel
theorem d_md_common_9 : decode b_md_common 9 = .ok (.aload_n 0, 1) := by decide +kernel
theorem d_md_common_10 : decode b_md_common 10 = .ok (.getfield 13, 3) := by decide +kernel
theorem d_md_common_13 : decode b_md_common 13 = .ok (.iload_n 3, 1) := by decide +kernel
theorem d_md_common_14 : decode b_md_common 14 = .ok (.iaload, 1) := by decide +kernel
theorem d_md_common_15 : decode b_md_common 15 = .ok (.iload 4, 2) := by decide +kernel
theorem d_md_common_17 : decode b_md_common 17 = .ok (.iadd, 1) := by decide +kernel
theorem d_md_common_18 : decode b_md_common 18 = .ok (.aload_n 0, 1) := by decide +kernel
theorem d_md_common_19 : decode b_md_common 19 = .ok (.getfield 13, 3) := by decide +kernel
theorem d_md_common_22 : decode b_md_common 22 = .ok (.iload_n 3, 1) := by decide +kernel
theorem d_md_common_23 : decode b_md_common 23 = .ok (.iconst 1, 1) := by decide +kernel
theorem d_md_common_24 : decode b_md_common 24 = .ok (.iadd, 1) := by decide +kernel
theorem d_md_common_25 : decode b_md_common 25 = .ok (.iaload, 1) := by decide +kernel
theorem d_md_common_26 : decode b_md_common 26 = .ok (.if_icmp .ge 35, 3) := by decide +kernel
theorem d_md_common_29 : decode b_md_common 29 = .ok (.aload_n 0, 1) := by decide +kernel
theorem d_md_common_30 : decode b_md_common 30 = .ok (.getfield 17, 3) := by decide +kernel
theorem d_md_common_33 : decode b_md_common 33 = .ok (.aload_n 0, 1) := by decide +kernel
theorem d_md_common_34 : decode b_md_common 34 = .ok (.getfield 13, 3) := by decide +kernel
theorem d_md_common_37 : decode b_md_common 37 = .ok (.iload_n 3, 1) := by decide +kernel
theorem d_md_common_38 : decode b_md_common 38 = .ok (.iaload, 1) := by decide +kernel
theorem d_md_common_39 : decode b_md_common 39 = .ok (.iload 4, 2) := by decide +kernel
theorem d_md_common_41 : decode b_md_common 41 = .ok (.iadd, 1) := by decide +kernel
theorem d_md_common_42 : decode b_md_common 42 = .ok (.iaload, 1) := by decide +kernel
theorem d_md_common_43 : decode b_md_common 43 = .ok (.aload_n 0, 1) := by decide +kernel
theorem d_md_common_44 : decode b_md_common 44 = .ok (.getfield 17, 3) := by decide +kernel
theorem d_md_common_47 : decode b_md_common 47 = .ok (.iload_n 1, 1) := by decide +kernel
theorem d_md_common_48 : decode b_md_common 48 = .ok (.iload 4, 2) := by decide +kernel
theorem d_md_common_50 : decode b_md_common 50 = .ok (.iadd, 1) := by decide +kernel
theorem d_md_common_51 : decode b_md_common 51 = .ok (.iaload, 1) := by decide +kernel
theorem d_md_common_52 : decode b_md_common 52 = .ok (.if_icmp .ne 9, 3) := by decide +kernel
theorem d_md_common_55 : decode b_md_common 55 = .ok (.iinc 4 1, 3) := by decide +kernel
theorem d_md_common_58 : decode b_md_common 58 = .ok (.goto (-55), 3) := by decide +kernel
theorem d_md_common_61 : decode b_md_common 61 = .ok (.iload 4, 2) := by decide +kernel
theorem d_md_common_63 : decode b_md_common 63 = .ok (.ireturn, 1) := by decide +kernel
theorem d_md_exception_0 : decode b_md_exception 0 = .ok (.iconst 0, 1) := by decide +kernel
theorem d_md_exception_1 : decode b_md_exception 1 = .ok (.istore_n 1, 1) := by decide +kernel
theorem d_md_exception_2 : decode b_md_exception 2 = .ok (.lconst 0, 1) := by decide +kernel
theorem d_md_exception_3 : decode b_md_exception 3 = .ok (.lstore_n 2, 1) := by decide +kernel
theorem d_md_exception_4 : decode b_md_exception 4 = .ok (.aload_n 0, 1) := by decide +kernel
theorem d_md_exception_5 : decode b_md_exception 5 = .ok (.getfield 50, 3) := by decide +kernel
theorem d_md_exception_8 : decode b_md_exception 8 = .ok (.ifCond .le 7, 3) := by decide +kernel
theorem d_md_exception_11 : decode b_md_exception 11 = .ok (.iconst 1, 1) := by decide +kernel
theorem d_md_exception_12 : decode b_md_exception 12 = .ok (.goto 4, 3) := by decide +kernel
theorem d_md_exception_15 : decode b_md_exception 15 = .ok (.iconst 0, 1) := by decide +kernel
theorem d_md_exception_16 : decode b_md_exception 16 = .ok (.istore 4, 2) := by decide +kernel
theorem d_md_exception_18 : decode b_md_exception 18 = .ok (.iconst 0, 1) := by decide +kernel
theorem d_md_exception_19 : decode b_md_exception 19 = .ok (.istore 5, 2) := by decide +kernel
theorem d_md_exception_21 : decode b_md_exception 21 = .ok (.iload 5, 2) := by decide +kernel
theorem d_md_exception_23 : decode b_md_exception 23 = .ok (.aload_n 0, 1) := by decide +kernel
theorem d_md_exception_24 : decode b_md_exception 24 = .ok (.getfield 50, 3) := by decide +kernel
theorem d_md_exception_27 : decode b_md_exception 27 = .ok (.if_icmp .ge 127, 3) := by decide +kernel
theorem d_md_exception_30 : decode b_md_exception 30 = .ok (.aload_n 0, 1) := by decide +kernel
theorem d_md_exception_31 : decode b_md_exception 31 = .ok (.getfield 7, 3) := by decide +kernel
theorem d_md_exception_34 : decode b_md_exception 34 = .ok (.iload 5, 2) := by decide +kernel
theorem d_md_exception_36 : decode b_md_exception 36 = .ok (.iaload, 1) := by decide +kernel
theorem d_md_exception_37 : decode b_md_exception 37 = .ok (.invokestatic 58, 3) := by decide +kernel
theorem d_md_exception_40 : decode b_md_exception 40 = .ok (.ifCond .eq 38, 3) := by decide +kernel
theorem d_md_exception_43 : decode b_md_exception 43 = .ok (.iload_n 1, 1) := by decide +kernel
theorem d_md_exception_44 : decode b_md_exception 44 = .ok (.bipush 64, 2) := by decide +kernel
theorem d_md_exception_46 : decode b_md_exception 46 = .ok (.if_icmp .ge 26, 3) := by decide +kernel
theorem d_md_exception_49 : decode b_md_exception 49 = .ok (.aload_n 0, 1) := by decide +kernel
theorem d_md_exception_50 : decode b_md_exception 50 = .ok (.getfield 27, 3) := by decide +kernel
theorem d_md_exception_53 : decode b_md_exception 53 = .ok (.aload_n 0, 1) := by decide +kernel
theorem d_md_exception_54 : decode b_md_exception 54 = .ok (.getfield 24, 3) := by decide +kernel
theorem d_md_exception_57 : decode b_md_exception 57 = .ok (.aload_n 0, 1) := by decide +kernel
theorem d_md_exception_58 : decode b_md_exception 58 = .ok (.getfield 81, 3) := by decide +kernel
theorem d_md_exception_61 : decode b_md_exception 61 = .ok (.iaload, 1) := by decide +kernel
theorem d_md_exception_62 : decode b_md_exception 62 = .ok (.iload_n 1, 1) := by decide +kernel
theorem d_md_exception_63 : decode b_md_exception 63 = .ok (.iadd, 1) := by decide +kernel
theorem d_md_exception_64 : decode b_md_exception 64 = .ok (.aload_n 0, 1) := by decide +kernel
theorem d_md_exception_65 : decode b_md_exception 65 = .ok (.getfield 7, 3) := by decide +kernel
theorem d_md_exception_68 : decode b_md_exception 68 = .ok (.iload 5, 2) := by decide +kernel
theorem d_md_exception_70 : decode b_md_exception 70 = .ok (.iaload, 1) := by decide +kernel
theorem d_md_exception_71 : decode b_md_exception 71 = .ok (.iastore, 1) := by decide +kernel
theorem d_md_exception_72 : decode b_md_exception 72 = .ok (.iinc 1 1, 3) := by decide +kernel
theorem d_md_exception_75 : decode b_md_exception 75 = .ok (.goto 73, 3) := by decide +kernel
theorem d_md_exception_78 : decode b_md_exception 78 = .ok (.iload 4, 2) := by decide +kernel
theorem d_md_exception_80 : decode b_md_exception 80 = .ok (.ifCond .eq 49, 3) := by decide +kernel
theorem d_md_exception_83 : decode b_md_exception 83 = .ok (.aload_n 0, 1) := by decide +kernel
theorem d_md_exception_84 : decode b_md_exception 84 = .ok (.getfield 7, 3) := by decide +kernel
theorem d_md_exception_87 : decode b_md_exception 87 = .ok (.iload 5, 2) := by decide +kernel
theorem d_md_exception_89 : decode b_md_exception 89 = .ok (.iaload, 1) := by decide +kernel
theorem d_md_exception_90 : decode b_md_exception 90 = .ok (.bipush 45, 2) := by decide +kernel
theorem d_md_exception_92 : decode b_md_exception 92 = .ok (.if_icmp .ne 37, 3) := by decide +kernel
theorem d_md_exception_95 : decode b_md_exception 95 = .ok (.iload 5, 2) := by decide +kernel
theorem d_md_exception_97 : decode b_md_exception 97 = .ok (.ifCond .le 32, 3) := by decide +kernel
theorem d_md_exception_100 : decode b_md_exception 100 = .ok (.iload 5, 2) := by decide +kernel
theorem d_md_exception_102 : decode b_md_exception 102 = .ok (.iconst 1, 1) := by decide +kernel
theorem d_md_exception_103 : decode b_md_exception 103 = .ok (.iadd, 1) := by decide +kernel
theorem d_md_exception_104 : decode b_md_exception 104 = .ok (.aload_n 0, 1) := by decide +kernel
theorem d_md_exception_105 : decode b_md_exception 105 = .ok (.getfield 50, 3) := by decide +kernel
theorem d_md_exception_108 : decode b_md_exception 108 = .ok (.if_icmp .ge 21, 3) := by decide +kernel
theorem d_md_exception_111 : decode b_md_exception 111 = .ok (.aload_n 0, 1) := by decide +kernel
theorem d_md_exception_112 : decode b_md_exception 112 = .ok (.getfield 7, 3) := by decide +kernel
theorem d_md_exception_115 : decode b_md_exception 115 = .ok (.iload 5, 2) := by decide +kernel
theorem d_md_exception_117 : decode b_md_exception 117 = .ok (.iconst 1, 1) := by decide +kernel
theorem d_md_exception_118 : decode b_md_exception 118 = .ok (.isub, 1) := by decide +kernel
theorem d_md_exception_119 : decode b_md_exception 119 = .ok (.iaload, 1) := by decide +kernel
theorem d_md_exception_120 : decode b_md_exception 120 = .ok (.bipush 45, 2) := by decide +kernel
theorem d_md_exception_122 : decode b_md_exception 122 = .ok (.if_icmp .eq 7, 3) := by decide +kernel
theorem d_md_exception_125 : decode b_md_exception 125 = .ok (.iconst 1, 1) := by decide +kernel
theorem d_md_exception_126 : decode b_md_exception 126 = .ok (.goto 4, 3) := by decide +kernel
theorem d_md_exception_129 : decode b_md_exception 129 = .ok (.iconst 0, 1) := by decide +kernel
theorem d_md_exception_130 : decode b_md_exception 130 = .ok (.istore 4, 2) := by decide +kernel
theorem d_md_exception_132 : decode b_md_exception 132 = .ok (.iload_n 1, 1) := by decide +kernel
theorem d_md_exception_133 : decode b_md_exception 133 = .ok (.bipush 64, 2) := by decide +kernel
theorem d_md_exception_135 : decode b_md_exception 135 = .ok (.if_icmp .ge 11, 3) := by decide +kernel
theorem d_md_exception_138 : decode b_md_exception 138 = .ok (.lload_n 2, 1) := by decide +kernel
theorem d_md_exception_139 : decode b_md_exception 139 = .ok (.lconst 1, 1) := by decide +kernel
theorem d_md_exception_140 : decode b_md_exception 140 = .ok (.iload_n 1, 1) := by decide +kernel
theorem d_md_exception_141 : decode b_md_exception 141 = .ok (.lshl, 1) := by decide +kernel
theorem d_md_exception_142 : decode b_md_exception 142 = .ok (.lor, 1) := by decide +kernel
theorem d_md_exception_143 : decode b_md_exception 143 = .ok (.goto 4, 3) := by decide +kernel
theorem d_md_exception_146 : decode b_md_exception 146 = .ok (.lload_n 2, 1) := by decide +kernel
theorem d_md_exception_147 : decode b_md_exception 147 = .ok (.lstore_n 2, 1) := by decide +kernel
theorem d_md_exception_148 : decode b_md_exception 148 = .ok (.iinc 5 1, 3) := by decide +kernel
theorem d_md_exception_151 : decode b_md_exception 151 = .ok (.goto (-130), 3) := by decide +kernel
theorem d_md_exception_154 : decode b_md_exception 154 = .ok (.iload 4, 2) := by decide +kernel
theorem d_md_exception_156 : decode b_md_exception 156 = .ok (.ifCond .eq 14, 3) := by decide +kernel
theorem d_md_exception_159 : decode b_md_exception 159 = .ok (.iload_n 1, 1) := by decide +kernel
theorem d_md_exception_160 : decode b_md_exception 160 = .ok (.iconst 1, 1) := by decide +kernel
theorem d_md_exception_161 : decode b_md_exception 161 = .ok (.if_icmp .lt 9, 3) := by decide +kernel
theorem d_md_exception_164 : decode b_md_exception 164 = .ok (.iload_n 1, 1) := by decide +kernel
theorem d_md_exception_165 : decode b_md_exception 165 = .ok (.bipush 63, 2) := by decide +kernel
theorem d_md_exception_167 : decode b_md_exception 167 = .ok (.if_icmp .le 9, 3) := by decide +kernel
theorem d_md_exception_170 : decode b_md_exception 170 = .ok (.aload_n 0, 1) := by decide +kernel
theorem d_md_exception_171 : decode b_md_exception 171 = .ok (.iconst 1, 1) := by decide +kernel
theorem d_md_exception_172 : decode b_md_exception 172 = .ok (.invokevirtual 69, 3) := by decide +kernel
theorem d_md_exception_175 : decode b_md_exception 175 = .ok (.ireturn, 1) := by decide +kernel
theorem d_md_exception_176 : decode b_md_exception 176 = .ok (.aload_n 0, 1) := by decide +kernel
theorem d_md_exception_177 : decode b_md_exception 177 = .ok (.iload_n 1, 1) := by decide +kernel
theorem d_md_exception_178 : decode b_md_exception 178 = .ok (.invokevirtual 84, 3) := by decide +kernel
theorem d_md_exception_181 : decode b_md_exception 181 = .ok (.istore 5, 2) := by decide +kernel
theorem d_md_exception_183 : decode b_md_exception 183 = .ok (.iload 5, 2) := by decide +kernel
theorem d_md_exception_185 : decode b_md_exception 185 = .ok (.sipush 2048, 3) := by decide +kernel
theorem d_md_exception_188 : decode b_md_exception 188 = .ok (.if_icmp .ne 9, 3) := by decide +kernel
theorem d_md_exception_191 : decode b_md_exception 191 = .ok (.aload_n 0, 1) := by decide +kernel
theorem d_md_exception_192 : decode b_md_exception 192 = .ok (.iconst 2, 1) := by decide +kernel
theorem d_md_exception_193 : decode b_md_exception 193 = .ok (.invokevirtual 69, 3) := by decide +kernel
theorem d_md_exception_196 : decode b_md_exception 196 = .ok (.ireturn, 1) := by decide +kernel
theorem d_md_exception_197 : decode b_md_exception 197 = .ok (.aload_n 0, 1) := by decide +kernel
theorem d_md_exception_198 : decode b_md_exception 198 = .ok (.getfield 30, 3) := by decide +kernel
theorem d_md_exception_201 : decode b_md_exception 201 = .ok (.iload 5, 2) := by decide +kernel
theorem d_md_exception_203 : decode b_md_exception 203 = .ok (.lload_n 2, 1) := by decide +kernel
theorem d_md_exception_204 : decode b_md_exception 204 = .ok (.lastore, 1) := by decide +kernel
theorem d_md_exception_205 : decode b_md_exception 205 = .ok (.iload 5, 2) := by decide +kernel
theorem d_md_exception_207 : decode b_md_exception 207 = .ok (.aload_n 0, 1) := by decide +kernel
theorem d_md_exception_208 : decode b_md_exception 208 = .ok (.getfield 81, 3) := by decide +kernel
theorem d_md_exception_211 : decode b_md_exception 211 = .ok (.if_icmp .ne 31, 3) := by decide +kernel
theorem d_md_exception_214 : decode b_md_exception 214 = .ok (.aload_n 0, 1) := by decide +kernel
theorem d_md_exception_215 : decode b_md_exception 215 = .ok (.dup, 1) := by decide +kernel
theorem d_md_exception_216 : decode b_md_exception 216 = .ok (.getfield 81, 3) := by decide +kernel
theorem d_md_exception_219 : decode b_md_exception 219 = .ok (.iconst 1, 1) := by decide +kernel
theorem d_md_exception_220 : decode b_md_exception 220 = .ok (.iadd, 1) := by decide +kernel
theorem d_md_exception_221 : decode b_md_exception 221 = .ok (.putfield 81, 3) := by decide +kernel
theorem d_md_exception_224 : decode b_md_exception 224 = .ok (.aload_n 0, 1) := by decide +kernel
theorem d_md_exception_225 : decode b_md_exception 225 = .ok (.getfield 24, 3) := by decide +kernel
theorem d_md_exception_228 : decode b_md_exception 228 = .ok (.aload_n 0, 1) := by decide +kernel
theorem d_md_exception_229 : decode b_md_exception 229 = .ok (.getfield 81, 3) := by decide +kernel
theorem d_md_exception_232 : decode b_md_exception 232 = .ok (.aload_n 0, 1) := by decide +kernel
theorem d_md_exception_233 : decode b_md_exception 233 = .ok (.getfield 24, 3) := by decide +kernel
theorem d_md_exception_236 : decode b_md_exception 236 = .ok (.iload 5, 2) := by decide +kernel
theorem d_md_exception_238 : decode b_md_exception 238 = .ok (.iaload, 1) := by decide +kernel
theorem d_md_exception_239 : decode b_md_exception 239 = .ok (.iload_n 1, 1) := by decide +kernel
theorem d_md_exception_240 : decode b_md_exception 240 = .ok (.iadd, 1) := by decide +kernel
theorem d_md_exception_241 : decode b_md_exception 241 = .ok (.iastore, 1) := by decide +kernel
theorem d_md_exception_242 : decode b_md_exception 242 = .ok (.aload_n 0, 1) := by decide +kernel
theorem d_md_exception_243 : decode b_md_exception 243 = .ok (.iconst 0, 1) := by decide +kernel
theorem d_md_exception_244 : decode b_md_exception 244 = .ok (.invokevirtual 69, 3) := by decide +kernel
theorem d_md_exception_247 : decode b_md_exception 247 = .ok (.pop, 1) := by decide +kernel
theorem d_md_exception_248 : decode b_md_exception 248 = .ok (.aload_n 0, 1) := by decide +kernel
theorem d_md_exception_249 : decode b_md_exception 249 = .ok (.getfield 81, 3) := by decide +kernel
theorem d_md_exception_252 : decode b_md_exception 252 = .ok (.ireturn, 1) := by decide +kernel
theorem d_md_find_0 : decode b_md_find 0 = .ok (.iconst 0, 1) := by decide +kernel
theorem d_md_find_1 : decode b_md_find 1 = .ok (.istore_n 2, 1) := by decide +kernel
theorem d_md_find_2 : decode b_md_find 2 = .ok (.iload_n 2, 1) := by decide +kernel
theorem d_md_find_3 : decode b_md_find 3 = .ok (.aload_n 0, 1) := by decide +kernel
theorem d_md_find_4 : decode b_md_find 4 = .ok (.getfield 81, 3) := by decide +kernel
theorem d_md_find_7 : decode b_md_find 7 = .ok (.if_icmp .ge 99, 3) := by decide +kernel
theorem d_md_find_10 : decode b_md_find 10 = .ok (.aload_n 0, 1) := by decide +kernel
theorem d_md_find_11 : decode b_md_find 11 = .ok (.getfield 24, 3) := by decide +kernel
theorem d_md_find_14 : decode b_md_find 14 = .ok (.iload_n 2, 1) := by decide +kernel
theorem d_md_find_15 : decode b_md_find 15 = .ok (.iconst 1, 1) := by decide +kernel
theorem d_md_find_16 : decode b_md_find 16 = .ok (.iadd, 1) := by decide +kernel
theorem d_md_find_17 : decode b_md_find 17 = .ok (.iaload, 1) := by decide +kernel
theorem d_md_find_18 : decode b_md_find 18 = .ok (.aload_n 0, 1) := by decide +kernel
theorem d_md_find_19 : decode b_md_find 19 = .ok (.getfield 24, 3) := by decide +kernel
theorem d_md_find_22 : decode b_md_find 22 = .ok (.iload_n 2, 1) := by decide +kernel
theorem d_md_find_23 : decode b_md_find 23 = .ok (.iaload, 1) := by decide +kernel
theorem d_md_find_24 : decode b_md_find 24 = .ok (.isub, 1) := by decide +kernel
theorem d_md_find_25 : decode b_md_find 25 = .ok (.iload_n 1, 1) := by decide +kernel
theorem d_md_find_26 : decode b_md_find 26 = .ok (.if_icmp .ne 7, 3) := by decide +kernel
theorem d_md_find_29 : decode b_md_find 29 = .ok (.iconst 1, 1) := by decide +kernel
theorem d_md_find_30 : decode b_md_find 30 = .ok (.goto 4, 3) := by decide +kernel
theorem d_md_find_33 : decode b_md_find 33 = .ok (.iconst 0, 1) := by decide +kernel
theorem d_md_find_34 : decode b_md_find 34 = .ok (.istore_n 3, 1) := by decide +kernel
theorem d_md_find_35 : decode b_md_find 35 = .ok (.iconst 0, 1) := by decide +kernel
theorem d_md_find_36 : decode b_md_find 36 = .ok (.istore 4, 2) := by decide +kernel
theorem d_md_find_38 : decode b_md_find 38 = .ok (.iload 4, 2) := by decide +kernel
theorem d_md_find_40 : decode b_md_find 40 = .ok (.iload_n 1, 1) := by decide +kernel
theorem d_md_find_41 : decode b_md_find 41 = .ok (.if_icmp .ge 53, 3) := by decide +kernel
theorem d_md_find_44 : decode b_md_find 44 = .ok (.iload_n 3, 1) := by decide +kernel
theorem d_md_find_45 : decode b_md_find 45 = .ok (.ifCond .eq 49, 3) := by decide +kernel
theorem d_md_find_48 : decode b_md_find 48 = .ok (.aload_n 0, 1) := by decide +kernel
theorem d_md_find_49 : decode b_md_find 49 = .ok (.getfield 27, 3) := by decide +kernel
theorem d_md_find_52 : decode b_md_find 52 = .ok (.aload_n 0, 1) := by decide +kernel
theorem d_md_find_53 : decode b_md_find 53 = .ok (.getfield 24, 3) := by decide +kernel
theorem d_md_find_56 : decode b_md_find 56 = .ok (.iload_n 2, 1) := by decide +kernel
theorem d_md_find_57 : decode b_md_find 57 = .ok (.iaload, 1) := by decide +kernel
theorem d_md_find_58 : decode b_md_find 58 = .ok (.iload 4, 2) := by decide +kernel
theorem d_md_find_60 : decode b_md_find 60 = .ok (.iadd, 1) := by decide +kernel
theorem d_md_find_61 : decode b_md_find 61 = .ok (.iaload, 1) := by decide +kernel
theorem d_md_find_62 : decode b_md_find 62 = .ok (.aload_n 0, 1) := by decide +kernel
theorem d_md_find_63 : decode b_md_find 63 = .ok (.getfield 27, 3) := by decide +kernel
theorem d_md_find_66 : decode b_md_find 66 = .ok (.aload_n 0, 1) := by decide +kernel
theorem d_md_find_67 : decode b_md_find 67 = .ok (.getfield 24, 3) := by decide +kernel
theorem d_md_find_70 : decode b_md_find 70 = .ok (.aload_n 0, 1) := by decide +kernel
theorem d_md_find_71 : decode b_md_find 71 = .ok (.getfield 81, 3) := by decide +kernel
theorem d_md_find_74 : decode b_md_find 74 = .ok (.iaload, 1) := by decide +kernel
theorem d_md_find_75 : decode b_md_find 75 = .ok (.iload 4, 2) := by decide +kernel
theorem d_md_find_77 : decode b_md_find 77 = .ok (.iadd, 1) := by decide +kernel
theorem d_md_find_78 : decode b_md_find 78 = .ok (.iaload, 1) := by decide +kernel
theorem d_md_find_79 : decode b_md_find 79 = .ok (.if_icmp .ne 7, 3) := by decide +kernel
theorem d_md_find_82 : decode b_md_find 82 = .ok (.iconst 1, 1) := by decide +kernel
theorem d_md_find_83 : decode b_md_find 83 = .ok (.goto 4, 3) := by decide +kernel
theorem d_md_find_86 : decode b_md_find 86 = .ok (.iconst 0, 1) := by decide +kernel
theorem d_md_find_87 : decode b_md_find 87 = .ok (.istore_n 3, 1) := by decide +kernel
theorem d_md_find_88 : decode b_md_find 88 = .ok (.iinc 4 1, 3) := by decide +kernel
theorem d_md_find_91 : decode b_md_find 91 = .ok (.goto (-53), 3) := by decide +kernel
theorem d_md_find_94 : decode b_md_find 94 = .ok (.iload_n 3, 1) := by decide +kernel
theorem d_md_find_95 : decode b_md_find 95 = .ok (.ifCond .eq 5, 3) := by decide +kernel
theorem d_md_find_98 : decode b_md_find 98 = .ok (.iload_n 2, 1) := by decide +kernel
theorem d_md_find_99 : decode b_md_find 99 = .ok (.ireturn, 1) := by decide +kernel
theorem d_md_find_100 : decode b_md_find 100 = .ok (.iinc 2 1, 3) := by decide +kernel
theorem d_md_find_103 : decode b_md_find 103 = .ok (.goto (-101), 3) := by decide +kernel
theorem d_md_find_106 : decode b_md_find 106 = .ok (.aload_n 0, 1) := by decide +kernel
theorem d_md_find_107 : decode b_md_find 107 = .ok (.getfield 81, 3) := by decide +kernel
theorem d_md_find_110 : decode b_md_find 110 = .ok (.ireturn, 1) := by decide +kernel
theorem d_md_word_0 : decode b_md_word 0 = .ok (.aload_n 0, 1) := by decide +kernel
theorem d_md_word_1 : decode b_md_word 1 = .ok (.getfield 50, 3) := by decide +kernel
theorem d_md_word_4 : decode b_md_word 4 = .ok (.ifCond .le 16, 3) := by decide +kernel
theorem d_md_word_7 : decode b_md_word 7 = .ok (.aload_n 0, 1) := by decide +kernel
theorem d_md_word_8 : decode b_md_word 8 = .ok (.getfield 50, 3) := by decide +kernel
theorem d_md_word_11 : decode b_md_word 11 = .ok (.bipush 64, 2) := by decide +kernel
theorem d_md_word_13 : decode b_md_word 13 = .ok (.if_icmp .ge 7, 3) := by decide +kernel
theorem d_md_word_16 : decode b_md_word 16 = .ok (.iconst 1, 1) := by decide +kernel
theorem d_md_word_17 : decode b_md_word 17 = .ok (.goto 4, 3) := by decide +kernel
theorem d_md_word_20 : decode b_md_word 20 = .ok (.iconst 0, 1) := by decide +kernel
theorem d_md_word_21 : decode b_md_word 21 = .ok (.istore_n 1, 1) := by decide +kernel
theorem d_md_word_22 : decode b_md_word 22 = .ok (.iconst 0, 1) := by decide +kernel
theorem d_md_word_23 : decode b_md_word 23 = .ok (.istore_n 2, 1) := by decide +kernel
theorem d_md_word_24 : decode b_md_word 24 = .ok (.iload_n 2, 1) := by decide +kernel
theorem d_md_word_25 : decode b_md_word 25 = .ok (.aload_n 0, 1) := by decide +kernel
theorem d_md_word_26 : decode b_md_word 26 = .ok (.getfield 50, 3) := by decide +kernel
theorem d_md_word_29 : decode b_md_word 29 = .ok (.if_icmp .ge 31, 3) := by decide +kernel
theorem d_md_word_32 : decode b_md_word 32 = .ok (.iload_n 1, 1) := by decide +kernel
theorem d_md_word_33 : decode b_md_word 33 = .ok (.ifCond .eq 19, 3) := by decide +kernel
theorem d_md_word_36 : decode b_md_word 36 = .ok (.aload_n 0, 1) := by decide +kernel
theorem d_md_word_37 : decode b_md_word 37 = .ok (.getfield 7, 3) := by decide +kernel
theorem d_md_word_40 : decode b_md_word 40 = .ok (.iload_n 2, 1) := by decide +kernel
theorem d_md_word_41 : decode b_md_word 41 = .ok (.iaload, 1) := by decide +kernel
theorem d_md_word_42 : decode b_md_word 42 = .ok (.invokestatic 58, 3) := by decide +kernel
theorem d_md_word_45 : decode b_md_word 45 = .ok (.ifCond .eq 7, 3) := by decide +kernel
theorem d_md_word_48 : decode b_md_word 48 = .ok (.iconst 1, 1) := by decide +kernel
theorem d_md_word_49 : decode b_md_word 49 = .ok (.goto 4, 3) := by decide +kernel
theorem d_md_word_52 : decode b_md_word 52 = .ok (.iconst 0, 1) := by decide +kernel
theorem d_md_word_53 : decode b_md_word 53 = .ok (.istore_n 1, 1) := by decide +kernel
theorem d_md_word_54 : decode b_md_word 54 = .ok (.iinc 2 1, 3) := by decide +kernel
theorem d_md_word_57 : decode b_md_word 57 = .ok (.goto (-33), 3) := by decide +kernel
theorem d_md_word_60 : decode b_md_word 60 = .ok (.iload_n 1, 1) := by decide +kernel
theorem d_md_word_61 : decode b_md_word 61 = .ok (.ifCond .ne 10, 3) := by decide +kernel
theorem d_md_word_64 : decode b_md_word 64 = .ok (.aload_n 0, 1) := by decide +kernel
theorem d_md_word_65 : decode b_md_word 65 = .ok (.iconst 1, 1) := by decide +kernel
theorem d_md_word_66 : decode b_md_word 66 = .ok (.invokevirtual 69, 3) := by decide +kernel
theorem d_md_word_69 : decode b_md_word 69 = .ok (.i2l, 1) := by decide +kernel
theorem d_md_word_70 : decode b_md_word 70 = .ok (.lreturn, 1) := by decide +kernel
theorem d_md_word_71 : decode b_md_word 71 = .ok (.aload_n 0, 1) := by decide +kernel
theorem d_md_word_72 : decode b_md_word 72 = .ok (.aload_n 0, 1) := by decide +kernel
theorem d_md_word_73 : decode b_md_word 73 = .ok (.getfield 50, 3) := by decide +kernel
theorem d_md_word_76 : decode b_md_word 76 = .ok (.putfield 87, 3) := by decide +kernel
theorem d_md_word_79 : decode b_md_word 79 = .ok (.aload_n 0, 1) := by decide +kernel
theorem d_md_word_80 : decode b_md_word 80 = .ok (.iconst 1, 1) := by decide +kernel
theorem d_md_word_81 : decode b_md_word 81 = .ok (.putfield 90, 3) := by decide +kernel
theorem d_md_word_84 : decode b_md_word 84 = .ok (.iconst 0, 1) := by decide +kernel
theorem d_md_word_85 : decode b_md_word 85 = .ok (.istore_n 2, 1) := by decide +kernel
theorem d_md_word_86 : decode b_md_word 86 = .ok (.iload_n 2, 1) := by decide +kernel
theorem d_md_word_87 : decode b_md_word 87 = .ok (.aload_n 0, 1) := by decide +kernel
theorem d_md_word_88 : decode b_md_word 88 = .ok (.getfield 87, 3) := by decide +kernel
theorem d_md_word_91 : decode b_md_word 91 = .ok (.if_icmp .ge 45, 3) := by decide +kernel
theorem d_md_word_94 : decode b_md_word 94 = .ok (.aload_n 0, 1) := by decide +kernel
theorem d_md_word_95 : decode b_md_word 95 = .ok (.getfield 41, 3) := by decide +kernel
theorem d_md_word_98 : decode b_md_word 98 = .ok (.iload_n 2, 1) := by decide +kernel
theorem d_md_word_99 : decode b_md_word 99 = .ok (.iconst 1, 1) := by decide +kernel
theorem d_md_word_100 : decode b_md_word 100 = .ok (.iadd, 1) := by decide +kernel
theorem d_md_word_101 : decode b_md_word 101 = .ok (.aload_n 0, 1) := by decide +kernel
theorem d_md_word_102 : decode b_md_word 102 = .ok (.getfield 7, 3) := by decide +kernel
theorem d_md_word_105 : decode b_md_word 105 = .ok (.iload_n 2, 1) := by decide +kernel
theorem d_md_word_106 : decode b_md_word 106 = .ok (.iaload, 1) := by decide +kernel
theorem d_md_word_107 : decode b_md_word 107 = .ok (.iastore, 1) := by decide +kernel
theorem d_md_word_108 : decode b_md_word 108 = .ok (.aload_n 0, 1) := by decide +kernel
theorem d_md_word_109 : decode b_md_word 109 = .ok (.getfield 27, 3) := by decide +kernel
theorem d_md_word_112 : decode b_md_word 112 = .ok (.aload_n 0, 1) := by decide +kernel
theorem d_md_word_113 : decode b_md_word 113 = .ok (.getfield 24, 3) := by decide +kernel
theorem d_md_word_116 : decode b_md_word 116 = .ok (.aload_n 0, 1) := by decide +kernel
theorem d_md_word_117 : decode b_md_word 117 = .ok (.getfield 81, 3) := by decide +kernel
theorem d_md_word_120 : decode b_md_word 120 = .ok (.iaload, 1) := by decide +kernel
theorem d_md_word_121 : decode b_md_word 121 = .ok (.iload_n 2, 1) := by decide +kernel
theorem d_md_word_122 : decode b_md_word 122 = .ok (.iadd, 1) := by decide +kernel
theorem d_md_word_123 : decode b_md_word 123 = .ok (.aload_n 0, 1) := by decide +kernel
theorem d_md_word_124 : decode b_md_word 124 = .ok (.getfield 7, 3) := by decide +kernel
theorem d_md_word_127 : decode b_md_word 127 = .ok (.iload_n 2, 1) := by decide +kernel
theorem d_md_word_128 : decode b_md_word 128 = .ok (.iaload, 1) := by decide +kernel
theorem d_md_word_129 : decode b_md_word 129 = .ok (.iastore, 1) := by decide +kernel
theorem d_md_word_130 : decode b_md_word 130 = .ok (.iinc 2 1, 3) := by decide +kernel
theorem d_md_word_133 : decode b_md_word 133 = .ok (.goto (-47), 3) := by decide +kernel
theorem d_md_word_136 : decode b_md_word 136 = .ok (.aload_n 0, 1) := by decide +kernel
theorem d_md_word_137 : decode b_md_word 137 = .ok (.getfield 41, 3) := by decide +kernel
theorem d_md_word_140 : decode b_md_word 140 = .ok (.iconst 0, 1) := by decide +kernel
theorem d_md_word_141 : decode b_md_word 141 = .ok (.bipush 46, 2) := by decide +kernel
theorem d_md_word_143 : decode b_md_word 143 = .ok (.iastore, 1) := by decide +kernel
theorem d_md_word_144 : decode b_md_word 144 = .ok (.aload_n 0, 1) := by decide +kernel
theorem d_md_word_145 : decode b_md_word 145 = .ok (.getfield 41, 3) := by decide +kernel
theorem d_md_word_148 : decode b_md_word 148 = .ok (.aload_n 0, 1) := by decide +kernel
theorem d_md_word_149 : decode b_md_word 149 = .ok (.getfield 87, 3) := by decide +kernel
theorem d_md_word_152 : decode b_md_word 152 = .ok (.iconst 1, 1) := by decide +kernel
theorem d_md_word_153 : decode b_md_word 153 = .ok (.iadd, 1) := by decide +kernel
theorem d_md_word_154 : decode b_md_word 154 = .ok (.bipush 46, 2) := by decide +kernel
theorem d_md_word_156 : decode b_md_word 156 = .ok (.iastore, 1) := by decide +kernel
theorem d_md_word_157 : decode b_md_word 157 = .ok (.iconst 0, 1) := by decide +kernel
theorem d_md_word_158 : decode b_md_word 158 = .ok (.istore_n 2, 1) := by decide +kernel
theorem d_md_word_159 : decode b_md_word 159 = .ok (.iload_n 2, 1) := by decide +kernel
theorem d_md_word_160 : decode b_md_word 160 = .ok (.bipush 66, 2) := by decide +kernel
theorem d_md_word_162 : decode b_md_word 162 = .ok (.if_icmp .ge 16, 3) := by decide +kernel
theorem d_md_word_165 : decode b_md_word 165 = .ok (.aload_n 0, 1) := by decide +kernel
theorem d_md_word_166 : decode b_md_word 166 = .ok (.getfield 44, 3) := by decide +kernel
theorem d_md_word_169 : decode b_md_word 169 = .ok (.iload_n 2, 1) := by decide +kernel
theorem d_md_word_170 : decode b_md_word 170 = .ok (.iconst 0, 1) := by decide +kernel
theorem d_md_word_171 : decode b_md_word 171 = .ok (.iastore, 1) := by decide +kernel
theorem d_md_word_172 : decode b_md_word 172 = .ok (.iinc 2 1, 3) := by decide +kernel
theorem d_md_word_175 : decode b_md_word 175 = .ok (.goto (-16), 3) := by decide +kernel
theorem d_md_word_178 : decode b_md_word 178 = .ok (.iconst 0, 1) := by decide +kernel
theorem d_md_word_179 : decode b_md_word 179 = .ok (.istore_n 2, 1) := by decide +kernel
theorem d_md_word_180 : decode b_md_word 180 = .ok (.iload_n 2, 1) := by decide +kernel
theorem d_md_word_181 : decode b_md_word 181 = .ok (.aload_n 0, 1) := by decide +kernel
theorem d_md_word_182 : decode b_md_word 182 = .ok (.getfield 55, 3) := by decide +kernel
theorem d_md_word_185 : decode b_md_word 185 = .ok (.if_icmp .ge 49, 3) := by decide +kernel
theorem d_md_word_188 : decode b_md_word 188 = .ok (.iconst 0, 1) := by decide +kernel
theorem d_md_word_189 : decode b_md_word 189 = .ok (.istore_n 3, 1) := by decide +kernel
theorem d_md_word_190 : decode b_md_word 190 = .ok (.iload_n 3, 1) := by decide +kernel
theorem d_md_word_191 : decode b_md_word 191 = .ok (.aload_n 0, 1) := by decide +kernel
theorem d_md_word_192 : decode b_md_word 192 = .ok (.getfield 13, 3) := by decide +kernel
theorem d_md_word_195 : decode b_md_word 195 = .ok (.iload_n 2, 1) := by decide +kernel
theorem d_md_word_196 : decode b_md_word 196 = .ok (.iconst 1, 1) := by decide +kernel
theorem d_md_word_197 : decode b_md_word 197 = .ok (.iadd, 1) := by decide +kernel
theorem d_md_word_198 : decode b_md_word 198 = .ok (.iaload, 1) := by decide +kernel
theorem d_md_word_199 : decode b_md_word 199 = .ok (.iadd, 1) := by decide +kernel
theorem d_md_word_200 : decode b_md_word 200 = .ok (.aload_n 0, 1) := by decide +kernel
theorem d_md_word_201 : decode b_md_word 201 = .ok (.getfield 13, 3) := by decide +kernel
theorem d_md_word_204 : decode b_md_word 204 = .ok (.iload_n 2, 1) := by decide +kernel
theorem d_md_word_205 : decode b_md_word 205 = .ok (.iaload, 1) := by decide +kernel
theorem d_md_word_206 : decode b_md_word 206 = .ok (.isub, 1) := by decide +kernel
theorem d_md_word_207 : decode b_md_word 207 = .ok (.aload_n 0, 1) := by decide +kernel
theorem d_md_word_208 : decode b_md_word 208 = .ok (.getfield 87, 3) := by decide +kernel
theorem d_md_word_211 : decode b_md_word 211 = .ok (.iconst 2, 1) := by decide +kernel
theorem d_md_word_212 : decode b_md_word 212 = .ok (.iadd, 1) := by decide +kernel
theorem d_md_word_213 : decode b_md_word 213 = .ok (.if_icmp .gt 15, 3) := by decide +kernel
theorem d_md_word_216 : decode b_md_word 216 = .ok (.aload_n 0, 1) := by decide +kernel
theorem d_md_word_217 : decode b_md_word 217 = .ok (.iload_n 2, 1) := by decide +kernel
theorem d_md_word_218 : decode b_md_word 218 = .ok (.iload_n 3, 1) := by decide +kernel
theorem d_md_word_219 : decode b_md_word 219 = .ok (.invokevirtual 94, 3) := by decide +kernel
theorem d_md_word_222 : decode b_md_word 222 = .ok (.iinc 3 1, 3) := by decide +kernel
theorem d_md_word_225 : decode b_md_word 225 = .ok (.goto (-35), 3) := by decide +kernel
theorem d_md_word_228 : decode b_md_word 228 = .ok (.iinc 2 1, 3) := by decide +kernel
theorem d_md_word_231 : decode b_md_word 231 = .ok (.goto (-51), 3) := by decide +kernel
theorem d_md_word_234 : decode b_md_word 234 = .ok (.aload_n 0, 1) := by decide +kernel
theorem d_md_word_235 : decode b_md_word 235 = .ok (.aload_n 0, 1) := by decide +kernel
theorem d_md_word_236 : decode b_md_word 236 = .ok (.getfield 87, 3) := by decide +kernel
theorem d_md_word_239 : decode b_md_word 239 = .ok (.invokevirtual 84, 3) := by decide +kernel
theorem d_md_word_242 : decode b_md_word 242 = .ok (.istore_n 2, 1) := by decide +kernel
theorem d_md_word_243 : decode b_md_word 243 = .ok (.lconst 0, 1) := by decide +kernel
theorem d_md_word_244 : decode b_md_word 244 = .ok (.lstore_n 3, 1) := by decide +kernel
theorem d_md_word_245 : decode b_md_word 245 = .ok (.iconst 1, 1) := by decide +kernel
theorem d_md_word_246 : decode b_md_word 246 = .ok (.istore 5, 2) := by decide +kernel
theorem d_md_word_248 : decode b_md_word 248 = .ok (.iload 5, 2) := by decide +kernel
theorem d_md_word_250 : decode b_md_word 250 = .ok (.aload_n 0, 1) := by decide +kernel
theorem d_md_word_251 : decode b_md_word 251 = .ok (.getfield 87, 3) := by decide +kernel
theorem d_md_word_254 : decode b_md_word 254 = .ok (.if_icmp .ge 102, 3) := by decide +kernel
theorem d_md_word_257 : decode b_md_word 257 = .ok (.iload_n 2, 1) := by decide +kernel
theorem d_md_word_258 : decode b_md_word 258 = .ok (.aload_n 0, 1) := by decide +kernel
theorem d_md_word_259 : decode b_md_word 259 = .ok (.getfield 81, 3) := by decide +kernel
theorem d_md_word_262 : decode b_md_word 262 = .ok (.if_icmp .ge 27, 3) := by decide +kernel
theorem d_md_word_265 : decode b_md_word 265 = .ok (.aload_n 0, 1) := by decide +kernel
theorem d_md_word_266 : decode b_md_word 266 = .ok (.getfield 30, 3) := by decide +kernel
theorem d_md_word_269 : decode b_md_word 269 = .ok (.iload_n 2, 1) := by decide +kernel
theorem d_md_word_270 : decode b_md_word 270 = .ok (.laload, 1) := by decide +kernel
theorem d_md_word_271 : decode b_md_word 271 = .ok (.iload 5, 2) := by decide +kernel
theorem d_md_word_273 : decode b_md_word 273 = .ok (.lshr, 1) := by decide +kernel
theorem d_md_word_274 : decode b_md_word 274 = .ok (.lconst 1, 1) := by decide +kernel
theorem d_md_word_275 : decode b_md_word 275 = .ok (.land, 1) := by decide +kernel
theorem d_md_word_276 : decode b_md_word 276 = .ok (.lconst 1, 1) := by decide +kernel
theorem d_md_word_277 : decode b_md_word 277 = .ok (.lcmp, 1) := by decide +kernel
theorem d_md_word_278 : decode b_md_word 278 = .ok (.ifCond .ne 7, 3) := by decide +kernel
theorem d_md_word_281 : decode b_md_word 281 = .ok (.iconst 1, 1) := by decide +kernel
theorem d_md_word_282 : decode b_md_word 282 = .ok (.goto 27, 3) := by decide +kernel
theorem d_md_word_285 : decode b_md_word 285 = .ok (.iconst 0, 1) := by decide +kernel
theorem d_md_word_286 : decode b_md_word 286 = .ok (.goto 23, 3) := by decide +kernel
theorem d_md_word_289 : decode b_md_word 289 = .ok (.aload_n 0, 1) := by decide +kernel
theorem d_md_word_290 : decode b_md_word 290 = .ok (.getfield 44, 3) := by decide +kernel
theorem d_md_word_293 : decode b_md_word 293 = .ok (.iload 5, 2) := by decide +kernel
theorem d_md_word_295 : decode b_md_word 295 = .ok (.iconst 1, 1) := by decide +kernel
theorem d_md_word_296 : decode b_md_word 296 = .ok (.iadd, 1) := by decide +kernel
theorem d_md_word_297 : decode b_md_word 297 = .ok (.iaload, 1) := by decide +kernel
theorem d_md_word_298 : decode b_md_word 298 = .ok (.iconst 2, 1) := by decide +kernel
theorem d_md_word_299 : decode b_md_word 299 = .ok (.irem, 1) := by decide +kernel
theorem d_md_word_300 : decode b_md_word 300 = .ok (.iconst 1, 1) := by decide +kernel
theorem d_md_word_301 : decode b_md_word 301 = .ok (.if_icmp .ne 7, 3) := by decide +kernel
theorem d_md_word_304 : decode b_md_word 304 = .ok (.iconst 1, 1) := by decide +kernel
theorem d_md_word_305 : decode b_md_word 305 = .ok (.goto 4, 3) := by decide +kernel
theorem d_md_word_308 : decode b_md_word 308 = .ok (.iconst 0, 1) := by decide +kernel
theorem d_md_word_309 : decode b_md_word 309 = .ok (.istore 6, 2) := by decide +kernel
theorem d_md_word_311 : decode b_md_word 311 = .ok (.iload 6, 2) := by decide +kernel
theorem d_md_word_313 : decode b_md_word 313 = .ok (.ifCond .eq 35, 3) := by decide +kernel
theorem d_md_word_316 : decode b_md_word 316 = .ok (.iload 5, 2) := by decide +kernel
theorem d_md_word_318 : decode b_md_word 318 = .ok (.aload_n 0, 1) := by decide +kernel
theorem d_md_word_319 : decode b_md_word 319 = .ok (.getfield 34, 3) := by decide +kernel
theorem d_md_word_322 : decode b_md_word 322 = .ok (.if_icmp .lt 26, 3) := by decide +kernel
theorem d_md_word_325 : decode b_md_word 325 = .ok (.aload_n 0, 1) := by decide +kernel
theorem d_md_word_326 : decode b_md_word 326 = .ok (.getfield 87, 3) := by decide +kernel
theorem d_md_word_329 : decode b_md_word 329 = .ok (.iload 5, 2) := by decide +kernel
theorem d_md_word_331 : decode b_md_word 331 = .ok (.isub, 1) := by decide +kernel
theorem d_md_word_332 : decode b_md_word 332 = .ok (.aload_n 0, 1) := by decide +kernel
theorem d_md_word_333 : decode b_md_word 333 = .ok (.getfield 38, 3) := by decide +kernel
theorem d_md_word_336 : decode b_md_word 336 = .ok (.if_icmp .lt 12, 3) := by decide +kernel
theorem d_md_word_339 : decode b_md_word 339 = .ok (.lload_n 3, 1) := by decide +kernel
theorem d_md_word_340 : decode b_md_word 340 = .ok (.lconst 1, 1) := by decide +kernel
theorem d_md_word_341 : decode b_md_word 341 = .ok (.iload 5, 2) := by decide +kernel
theorem d_md_word_343 : decode b_md_word 343 = .ok (.lshl, 1) := by decide +kernel
theorem d_md_word_344 : decode b_md_word 344 = .ok (.lor, 1) := by decide +kernel
theorem d_md_word_345 : decode b_md_word 345 = .ok (.goto 4, 3) := by decide +kernel
theorem d_md_word_348 : decode b_md_word 348 = .ok (.lload_n 3, 1) := by decide +kernel
theorem d_md_word_349 : decode b_md_word 349 = .ok (.lstore_n 3, 1) := by decide +kernel
theorem d_md_word_350 : decode b_md_word 350 = .ok (.iinc 5 1, 3) := by decide +kernel
theorem d_md_word_353 : decode b_md_word 353 = .ok (.goto (-105), 3) := by decide +kernel
theorem d_md_word_356 : decode b_md_word 356 = .ok (.aload_n 0, 1) := by decide +kernel
theorem d_md_word_357 : decode b_md_word 357 = .ok (.iconst 0, 1) := by decide +kernel
theorem d_md_word_358 : decode b_md_word 358 = .ok (.invokevirtual 69, 3) := by decide +kernel
theorem d_md_word_361 : decode b_md_word 361 = .ok (.pop, 1) := by decide +kernel
theorem d_md_word_362 : decode b_md_word 362 = .ok (.lload_n 3, 1) := by decide +kernel
theorem d_md_word_363 : decode b_md_word 363 = .ok (.lreturn, 1) := by decide +kernel
theorem d_md_attempt_0 : decode b_md_attempt 0 = .ok (.aload_n 0, 1) := by decide +kernel
theorem d_md_attempt_1 : decode b_md_attempt 1 = .ok (.getfield 13, 3) := by decide +kernel
theorem d_md_attempt_4 : decode b_md_attempt 4 = .ok (.iload_n 1, 1) := by decide +kernel
theorem d_md_attempt_5 : decode b_md_attempt 5 = .ok (.iconst 1, 1) := by decide +kernel
theorem d_md_attempt_6 : decode b_md_attempt 6 = .ok (.iadd, 1) := by decide +kernel
theorem d_md_attempt_7 : decode b_md_attempt 7 = .ok (.iaload, 1) := by decide +kernel
theorem d_md_attempt_8 : decode b_md_attempt 8 = .ok (.aload_n 0, 1) := by decide +kernel
theorem d_md_attempt_9 : decode b_md_attempt 9 = .ok (.getfield 13, 3) := by decide +kernel
theorem d_md_attempt_12 : decode b_md_attempt 12 = .ok (.iload_n 1, 1) := by decide +kernel
theorem d_md_attempt_13 : decode b_md_attempt 13 = .ok (.iaload, 1) := by decide +kernel
theorem d_md_attempt_14 : decode b_md_attempt 14 = .ok (.isub, 1) := by decide +kernel
theorem d_md_attempt_15 : decode b_md_attempt 15 = .ok (.istore_n 3, 1) := by decide +kernel
theorem d_md_attempt_16 : decode b_md_attempt 16 = .ok (.iconst 0, 1) := by decide +kernel
theorem d_md_attempt_17 : decode b_md_attempt 17 = .ok (.istore 4, 2) := by decide +kernel
theorem d_md_attempt_19 : decode b_md_attempt 19 = .ok (.iload 4, 2) := by decide +kernel
theorem d_md_attempt_21 : decode b_md_attempt 21 = .ok (.iload_n 3, 1) := by decide +kernel
theorem d_md_attempt_22 : decode b_md_attempt 22 = .ok (.if_icmp .ge 36, 3) := by decide +kernel
theorem d_md_attempt_25 : decode b_md_attempt 25 = .ok (.aload_n 0, 1) := by decide +kernel
theorem d_md_attempt_26 : decode b_md_attempt 26 = .ok (.getfield 17, 3) := by decide +kernel
theorem d_md_attempt_29 : decode b_md_attempt 29 = .ok (.aload_n 0, 1) := by decide +kernel
theorem d_md_attempt_30 : decode b_md_attempt 30 = .ok (.getfield 13, 3) := by decide +kernel
theorem d_md_attempt_33 : decode b_md_attempt 33 = .ok (.iload_n 1, 1) := by decide +kernel
theorem d_md_attempt_34 : decode b_md_attempt 34 = .ok (.iaload, 1) := by decide +kernel
theorem d_md_attempt_35 : decode b_md_attempt 35 = .ok (.iload 4, 2) := by decide +kernel
theorem d_md_attempt_37 : decode b_md_attempt 37 = .ok (.iadd, 1) := by decide +kernel
theorem d_md_attempt_38 : decode b_md_attempt 38 = .ok (.iaload, 1) := by decide +kernel
theorem d_md_attempt_39 : decode b_md_attempt 39 = .ok (.aload_n 0, 1) := by decide +kernel
theorem d_md_attempt_40 : decode b_md_attempt 40 = .ok (.getfield 41, 3) := by decide +kernel
theorem d_md_attempt_43 : decode b_md_attempt 43 = .ok (.iload_n 2, 1) := by decide +kernel
theorem d_md_attempt_44 : decode b_md_attempt 44 = .ok (.iload 4, 2) := by decide +kernel
theorem d_md_attempt_46 : decode b_md_attempt 46 = .ok (.iadd, 1) := by decide +kernel
theorem d_md_attempt_47 : decode b_md_attempt 47 = .ok (.iaload, 1) := by decide +kernel
theorem d_md_attempt_48 : decode b_md_attempt 48 = .ok (.if_icmp .eq 4, 3) := by decide +kernel
theorem d_md_attempt_51 : decode b_md_attempt 51 = .ok (.return_, 1) := by decide +kernel
theorem d_md_attempt_52 : decode b_md_attempt 52 = .ok (.iinc 4 1, 3) := by decide +kernel
theorem d_md_attempt_55 : decode b_md_attempt 55 = .ok (.goto (-36), 3) := by decide +kernel
theorem d_md_attempt_58 : decode b_md_attempt 58 = .ok (.iconst 0, 1) := by decide +kernel
theorem d_md_attempt_59 : decode b_md_attempt 59 = .ok (.istore 4, 2) := by decide +kernel
theorem d_md_attempt_61 : decode b_md_attempt 61 = .ok (.iload 4, 2) := by decide +kernel
theorem d_md_attempt_63 : decode b_md_attempt 63 = .ok (.iload_n 3, 1) := by decide +kernel
theorem d_md_attempt_64 : decode b_md_attempt 64 = .ok (.if_icmp .gt 64, 3) := by decide +kernel
theorem d_md_attempt_67 : decode b_md_attempt 67 = .ok (.aload_n 0, 1) := by decide +kernel
theorem d_md_attempt_68 : decode b_md_attempt 68 = .ok (.getfield 21, 3) := by decide +kernel
theorem d_md_attempt_71 : decode b_md_attempt 71 = .ok (.aload_n 0, 1) := by decide +kernel
theorem d_md_attempt_72 : decode b_md_attempt 72 = .ok (.getfield 13, 3) := by decide +kernel
theorem d_md_attempt_75 : decode b_md_attempt 75 = .ok (.iload_n 1, 1) := by decide +kernel
theorem d_md_attempt_76 : decode b_md_attempt 76 = .ok (.iaload, 1) := by decide +kernel
theorem d_md_attempt_77 : decode b_md_attempt 77 = .ok (.iload_n 1, 1) := by decide +kernel
theorem d_md_attempt_78 : decode b_md_attempt 78 = .ok (.iadd, 1) := by decide +kernel
theorem d_md_attempt_79 : decode b_md_attempt 79 = .ok (.iload 4, 2) := by decide +kernel
theorem d_md_attempt_81 : decode b_md_attempt 81 = .ok (.iadd, 1) := by decide +kernel
theorem d_md_attempt_82 : decode b_md_attempt 82 = .ok (.iaload, 1) := by decide +kernel
theorem d_md_attempt_83 : decode b_md_attempt 83 = .ok (.istore 5, 2) := by decide +kernel
theorem d_md_attempt_85 : decode b_md_attempt 85 = .ok (.aload_n 0, 1) := by decide +kernel
theorem d_md_attempt_86 : decode b_md_attempt 86 = .ok (.getfield 44, 3) := by decide +kernel
theorem d_md_attempt_89 : decode b_md_attempt 89 = .ok (.iload_n 2, 1) := by decide +kernel
theorem d_md_attempt_90 : decode b_md_attempt 90 = .ok (.iload 4, 2) := by decide +kernel
theorem d_md_attempt_92 : decode b_md_attempt 92 = .ok (.iadd, 1) := by decide +kernel
theorem d_md_attempt_93 : decode b_md_attempt 93 = .ok (.iload 5, 2) := by decide +kernel
theorem d_md_attempt_95 : decode b_md_attempt 95 = .ok (.aload_n 0, 1) := by decide +kernel
theorem d_md_attempt_96 : decode b_md_attempt 96 = .ok (.getfield 44, 3) := by decide +kernel
theorem d_md_attempt_99 : decode b_md_attempt 99 = .ok (.iload_n 2, 1) := by decide +kernel
theorem d_md_attempt_100 : decode b_md_attempt 100 = .ok (.iload 4, 2) := by decide +kernel
theorem d_md_attempt_102 : decode b_md_attempt 102 = .ok (.iadd, 1) := by decide +kernel
theorem d_md_attempt_103 : decode b_md_attempt 103 = .ok (.iaload, 1) := by decide +kernel
theorem d_md_attempt_104 : decode b_md_attempt 104 = .ok (.if_icmp .le 8, 3) := by decide +kernel
theorem d_md_attempt_107 : decode b_md_attempt 107 = .ok (.iload 5, 2) := by decide +kernel
theorem d_md_attempt_109 : decode b_md_attempt 109 = .ok (.goto 12, 3) := by decide +kernel
theorem d_md_attempt_112 : decode b_md_attempt 112 = .ok (.aload_n 0, 1) := by decide +kernel
theorem d_md_attempt_113 : decode b_md_attempt 113 = .ok (.getfield 44, 3) := by decide +kernel
theorem d_md_attempt_116 : decode b_md_attempt 116 = .ok (.iload_n 2, 1) := by decide +kernel
theorem d_md_attempt_117 : decode b_md_attempt 117 = .ok (.iload 4, 2) := by decide +kernel
theorem d_md_attempt_119 : decode b_md_attempt 119 = .ok (.iadd, 1) := by decide +kernel
theorem d_md_attempt_120 : decode b_md_attempt 120 = .ok (.iaload, 1) := by decide +kernel
theorem d_md_attempt_121 : decode b_md_attempt 121 = .ok (.iastore, 1) := by decide +kernel
theorem d_md_attempt_122 : decode b_md_attempt 122 = .ok (.iinc 4 1, 3) := by decide +kernel
theorem d_md_attempt_125 : decode b_md_attempt 125 = .ok (.goto (-64), 3) := by decide +kernel
theorem d_md_attempt_128 : decode b_md_attempt 128 = .ok (.return_, 1) := by decide +kernel
theorem d_md_least_0 : decode b_md_least 0 = .ok (.aload_n 0, 1) := by decide +kernel
theorem d_md_least_1 : decode b_md_least 1 = .ok (.iconst 0, 1) := by decide +kernel
theorem d_md_least_2 : decode b_md_least 2 = .ok (.putfield 47, 3) := by decide +kernel
theorem d_md_least_5 : decode b_md_least 5 = .ok (.iload_n 1, 1) := by decide +kernel
theorem d_md_least_6 : decode b_md_least 6 = .ok (.iconst 1, 1) := by decide +kernel
theorem d_md_least_7 : decode b_md_least 7 = .ok (.if_icmp .lt 20, 3) := by decide +kernel
theorem d_md_least_10 : decode b_md_least 10 = .ok (.iload_n 1, 1) := by decide +kernel
theorem d_md_least_11 : decode b_md_least 11 = .ok (.bipush 63, 2) := by decide +kernel
theorem d_md_least_13 : decode b_md_least 13 = .ok (.if_icmp .gt 14, 3) := by decide +kernel
theorem d_md_least_16 : decode b_md_least 16 = .ok (.iload_n 2, 1) := by decide +kernel
theorem d_md_least_17 : decode b_md_least 17 = .ok (.iconst 1, 1) := by decide +kernel
theorem d_md_least_18 : decode b_md_least 18 = .ok (.if_icmp .lt 9, 3) := by decide +kernel
theorem d_md_least_21 : decode b_md_least 21 = .ok (.iload_n 2, 1) := by decide +kernel
theorem d_md_least_22 : decode b_md_least 22 = .ok (.bipush 63, 2) := by decide +kernel
theorem d_md_least_24 : decode b_md_least 24 = .ok (.if_icmp .le 5, 3) := by decide +kernel
theorem d_md_least_27 : decode b_md_least 27 = .ok (.iconst 0, 1) := by decide +kernel
theorem d_md_least_28 : decode b_md_least 28 = .ok (.ireturn, 1) := by decide +kernel
theorem d_md_least_29 : decode b_md_least 29 = .ok (.aload_n 0, 1) := by decide +kernel
theorem d_md_least_30 : decode b_md_least 30 = .ok (.iload_n 1, 1) := by decide +kernel
theorem d_md_least_31 : decode b_md_least 31 = .ok (.putfield 34, 3) := by decide +kernel
theorem d_md_least_34 : decode b_md_least 34 = .ok (.aload_n 0, 1) := by decide +kernel
theorem d_md_least_35 : decode b_md_least 35 = .ok (.iload_n 2, 1) := by decide +kernel
theorem d_md_least_36 : decode b_md_least 36 = .ok (.putfield 38, 3) := by decide +kernel
theorem d_md_least_39 : decode b_md_least 39 = .ok (.iconst 1, 1) := by decide +kernel
theorem d_md_least_40 : decode b_md_least 40 = .ok (.ireturn, 1) := by decide +kernel
theorem d_md_value_0 : decode b_md_value 0 = .ok (.aload_n 0, 1) := by decide +kernel
theorem d_md_value_1 : decode b_md_value 1 = .ok (.iconst 0, 1) := by decide +kernel
theorem d_md_value_2 : decode b_md_value 2 = .ok (.putfield 47, 3) := by decide +kernel
theorem d_md_value_5 : decode b_md_value 5 = .ok (.aload_n 0, 1) := by decide +kernel
theorem d_md_value_6 : decode b_md_value 6 = .ok (.getfield 90, 3) := by decide +kernel
theorem d_md_value_9 : decode b_md_value 9 = .ok (.ifCond .eq 16, 3) := by decide +kernel
theorem d_md_value_12 : decode b_md_value 12 = .ok (.iload_n 1, 1) := by decide +kernel
theorem d_md_value_13 : decode b_md_value 13 = .ok (.iconst 1, 1) := by decide +kernel
theorem d_md_value_14 : decode b_md_value 14 = .ok (.if_icmp .lt 11, 3) := by decide +kernel
theorem d_md_value_17 : decode b_md_value 17 = .ok (.iload_n 1, 1) := by decide +kernel
theorem d_md_value_18 : decode b_md_value 18 = .ok (.aload_n 0, 1) := by decide +kernel
theorem d_md_value_19 : decode b_md_value 19 = .ok (.getfield 87, 3) := by decide +kernel
theorem d_md_value_22 : decode b_md_value 22 = .ok (.if_icmp .lt 7, 3) := by decide +kernel
theorem d_md_value_25 : decode b_md_value 25 = .ok (.iconst (-1), 1) := by decide +kernel
theorem d_md_value_26 : decode b_md_value 26 = .ok (.goto 11, 3) := by decide +kernel
theorem d_md_value_29 : decode b_md_value 29 = .ok (.aload_n 0, 1) := by decide +kernel
theorem d_md_value_30 : decode b_md_value 30 = .ok (.getfield 44, 3) := by decide +kernel
theorem d_md_value_33 : decode b_md_value 33 = .ok (.iload_n 1, 1) := by decide +kernel
theorem d_md_value_34 : decode b_md_value 34 = .ok (.iconst 1, 1) := by decide +kernel
theorem d_md_value_35 : decode b_md_value 35 = .ok (.iadd, 1) := by decide +kernel
theorem d_md_value_36 : decode b_md_value 36 = .ok (.iaload, 1) := by decide +kernel
theorem d_md_value_37 : decode b_md_value 37 = .ok (.ireturn, 1) := by decide +kernel
theorem d_md_count_0 : decode b_md_count 0 = .ok (.aload_n 0, 1) := by decide +kernel
theorem d_md_count_1 : decode b_md_count 1 = .ok (.iconst 0, 1) := by decide +kernel
theorem d_md_count_2 : decode b_md_count 2 = .ok (.putfield 47, 3) := by decide +kernel
theorem d_md_count_5 : decode b_md_count 5 = .ok (.iload_n 1, 1) := by decide +kernel
theorem d_md_count_6 : decode b_md_count 6 = .ok (.ifCond .ne 10, 3) := by decide +kernel
theorem d_md_count_9 : decode b_md_count 9 = .ok (.aload_n 0, 1) := by decide +kernel
theorem d_md_count_10 : decode b_md_count 10 = .ok (.getfield 55, 3) := by decide +kernel
theorem d_md_count_13 : decode b_md_count 13 = .ok (.goto 40, 3) := by decide +kernel
theorem d_md_count_16 : decode b_md_count 16 = .ok (.iload_n 1, 1) := by decide +kernel
theorem d_md_count_17 : decode b_md_count 17 = .ok (.iconst 1, 1) := by decide +kernel
theorem d_md_count_18 : decode b_md_count 18 = .ok (.if_icmp .ne 10, 3) := by decide +kernel
theorem d_md_count_21 : decode b_md_count 21 = .ok (.aload_n 0, 1) := by decide +kernel
theorem d_md_count_22 : decode b_md_count 22 = .ok (.getfield 81, 3) := by decide +kernel
theorem d_md_count_25 : decode b_md_count 25 = .ok (.goto 28, 3) := by decide +kernel
theorem d_md_count_28 : decode b_md_count 28 = .ok (.iload_n 1, 1) := by decide +kernel
theorem d_md_count_29 : decode b_md_count 29 = .ok (.iconst 2, 1) := by decide +kernel
theorem d_md_count_30 : decode b_md_count 30 = .ok (.if_icmp .ne 10, 3) := by decide +kernel
theorem d_md_count_33 : decode b_md_count 33 = .ok (.aload_n 0, 1) := by decide +kernel
theorem d_md_count_34 : decode b_md_count 34 = .ok (.getfield 77, 3) := by decide +kernel
theorem d_md_count_37 : decode b_md_count 37 = .ok (.goto 16, 3) := by decide +kernel
theorem d_md_count_40 : decode b_md_count 40 = .ok (.iload_n 1, 1) := by decide +kernel
theorem d_md_count_41 : decode b_md_count 41 = .ok (.iconst 3, 1) := by decide +kernel
theorem d_md_count_42 : decode b_md_count 42 = .ok (.if_icmp .ne 10, 3) := by decide +kernel
theorem d_md_count_45 : decode b_md_count 45 = .ok (.aload_n 0, 1) := by decide +kernel
theorem d_md_count_46 : decode b_md_count 46 = .ok (.getfield 50, 3) := by decide +kernel
theorem d_md_count_49 : decode b_md_count 49 = .ok (.goto 4, 3) := by decide +kernel
theorem d_md_count_52 : decode b_md_count 52 = .ok (.iconst (-1), 1) := by decide +kernel
theorem d_md_count_53 : decode b_md_count 53 = .ok (.ireturn, 1) := by decide +kernel
