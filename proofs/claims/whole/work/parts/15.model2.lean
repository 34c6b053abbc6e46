-- LitStrangersModel.partOf(Z)J, LitStrangersModel.sumOf(Z)J, LitStrangersModel.termOf(Z)J
theorem dX11_partOf_0 : decode cX11_partOf 0 = .ok (.aload_n 0, 1) := by decide +kernel
theorem dX11_partOf_1 : decode cX11_partOf 1 = .ok (.bipush 91, 2) := by decide +kernel
theorem dX11_partOf_3 : decode cX11_partOf 3 = .ok (.invokestatic 210, 3) := by decide +kernel
theorem dX11_partOf_6 : decode cX11_partOf 6 = .ok (.invokevirtual 272, 3) := by decide +kernel
theorem dX11_partOf_9 : decode cX11_partOf 9 = .ok (.ifCond .eq 21, 3) := by decide +kernel
theorem dX11_partOf_12 : decode cX11_partOf 12 = .ok (.aload_n 0, 1) := by decide +kernel
theorem dX11_partOf_13 : decode cX11_partOf 13 = .ok (.iload_n 1, 1) := by decide +kernel
theorem dX11_partOf_14 : decode cX11_partOf 14 = .ok (.invokevirtual 275, 3) := by decide +kernel
theorem dX11_partOf_17 : decode cX11_partOf 17 = .ok (.lstore_n 2, 1) := by decide +kernel
theorem dX11_partOf_18 : decode cX11_partOf 18 = .ok (.aload_n 0, 1) := by decide +kernel
theorem dX11_partOf_19 : decode cX11_partOf 19 = .ok (.dup, 1) := by decide +kernel
theorem dX11_partOf_20 : decode cX11_partOf 20 = .ok (.getfield 248, 3) := by decide +kernel
theorem dX11_partOf_23 : decode cX11_partOf 23 = .ok (.iconst 1, 1) := by decide +kernel
theorem dX11_partOf_24 : decode cX11_partOf 24 = .ok (.iadd, 1) := by decide +kernel
theorem dX11_partOf_25 : decode cX11_partOf 25 = .ok (.putfield 248, 3) := by decide +kernel
theorem dX11_partOf_28 : decode cX11_partOf 28 = .ok (.lload_n 2, 1) := by decide +kernel
theorem dX11_partOf_29 : decode cX11_partOf 29 = .ok (.lreturn, 1) := by decide +kernel
theorem dX11_partOf_30 : decode cX11_partOf 30 = .ok (.aload_n 0, 1) := by decide +kernel
theorem dX11_partOf_31 : decode cX11_partOf 31 = .ok (.aload_n 0, 1) := by decide +kernel
theorem dX11_partOf_32 : decode cX11_partOf 32 = .ok (.getfield 248, 3) := by decide +kernel
theorem dX11_partOf_35 : decode cX11_partOf 35 = .ok (.invokevirtual 251, 3) := by decide +kernel
theorem dX11_partOf_38 : decode cX11_partOf 38 = .ok (.istore_n 2, 1) := by decide +kernel
theorem dX11_partOf_39 : decode cX11_partOf 39 = .ok (.iconst 0, 1) := by decide +kernel
theorem dX11_partOf_40 : decode cX11_partOf 40 = .ok (.istore_n 3, 1) := by decide +kernel
theorem dX11_partOf_41 : decode cX11_partOf 41 = .ok (.aload_n 0, 1) := by decide +kernel
theorem dX11_partOf_42 : decode cX11_partOf 42 = .ok (.dup, 1) := by decide +kernel
theorem dX11_partOf_43 : decode cX11_partOf 43 = .ok (.getfield 248, 3) := by decide +kernel
theorem dX11_partOf_46 : decode cX11_partOf 46 = .ok (.iconst 1, 1) := by decide +kernel
theorem dX11_partOf_47 : decode cX11_partOf 47 = .ok (.iadd, 1) := by decide +kernel
theorem dX11_partOf_48 : decode cX11_partOf 48 = .ok (.putfield 248, 3) := by decide +kernel
theorem dX11_partOf_51 : decode cX11_partOf 51 = .ok (.iload_n 2, 1) := by decide +kernel
theorem dX11_partOf_52 : decode cX11_partOf 52 = .ok (.bipush 24, 2) := by decide +kernel
theorem dX11_partOf_54 : decode cX11_partOf 54 = .ok (.if_icmp .eq 9, 3) := by decide +kernel
theorem dX11_partOf_57 : decode cX11_partOf 57 = .ok (.iload_n 2, 1) := by decide +kernel
theorem dX11_partOf_58 : decode cX11_partOf 58 = .ok (.bipush 25, 2) := by decide +kernel
theorem dX11_partOf_60 : decode cX11_partOf 60 = .ok (.if_icmp .ne 27, 3) := by decide +kernel
theorem dX11_partOf_63 : decode cX11_partOf 63 = .ok (.aload_n 0, 1) := by decide +kernel
theorem dX11_partOf_64 : decode cX11_partOf 64 = .ok (.getfield 24, 3) := by decide +kernel
theorem dX11_partOf_67 : decode cX11_partOf 67 = .ok (.sipush 3066, 3) := by decide +kernel
theorem dX11_partOf_70 : decode cX11_partOf 70 = .ok (.aload_n 0, 1) := by decide +kernel
theorem dX11_partOf_71 : decode cX11_partOf 71 = .ok (.getfield 248, 3) := by decide +kernel
theorem dX11_partOf_74 : decode cX11_partOf 74 = .ok (.iadd, 1) := by decide +kernel
theorem dX11_partOf_75 : decode cX11_partOf 75 = .ok (.iaload, 1) := by decide +kernel
theorem dX11_partOf_76 : decode cX11_partOf 76 = .ok (.istore_n 3, 1) := by decide +kernel
theorem dX11_partOf_77 : decode cX11_partOf 77 = .ok (.aload_n 0, 1) := by decide +kernel
theorem dX11_partOf_78 : decode cX11_partOf 78 = .ok (.dup, 1) := by decide +kernel
theorem dX11_partOf_79 : decode cX11_partOf 79 = .ok (.getfield 248, 3) := by decide +kernel
theorem dX11_partOf_82 : decode cX11_partOf 82 = .ok (.iconst 1, 1) := by decide +kernel
theorem dX11_partOf_83 : decode cX11_partOf 83 = .ok (.iadd, 1) := by decide +kernel
theorem dX11_partOf_84 : decode cX11_partOf 84 = .ok (.putfield 248, 3) := by decide +kernel
theorem dX11_partOf_87 : decode cX11_partOf 87 = .ok (.iload_n 1, 1) := by decide +kernel
theorem dX11_partOf_88 : decode cX11_partOf 88 = .ok (.ifCond .eq 10, 3) := by decide +kernel
theorem dX11_partOf_91 : decode cX11_partOf 91 = .ok (.aload_n 0, 1) := by decide +kernel
theorem dX11_partOf_92 : decode cX11_partOf 92 = .ok (.getfield 258, 3) := by decide +kernel
theorem dX11_partOf_95 : decode cX11_partOf 95 = .ok (.ifCond .eq 5, 3) := by decide +kernel
theorem dX11_partOf_98 : decode cX11_partOf 98 = .ok (.lconst 0, 1) := by decide +kernel
theorem dX11_partOf_99 : decode cX11_partOf 99 = .ok (.lreturn, 1) := by decide +kernel
theorem dX11_partOf_100 : decode cX11_partOf 100 = .ok (.iload_n 2, 1) := by decide +kernel
theorem dX11_partOf_101 : decode cX11_partOf 101 = .ok (.bipush 24, 2) := by decide +kernel
theorem dX11_partOf_103 : decode cX11_partOf 103 = .ok (.if_icmp .eq 9, 3) := by decide +kernel
theorem dX11_partOf_106 : decode cX11_partOf 106 = .ok (.iload_n 2, 1) := by decide +kernel
theorem dX11_partOf_107 : decode cX11_partOf 107 = .ok (.bipush 25, 2) := by decide +kernel
theorem dX11_partOf_109 : decode cX11_partOf 109 = .ok (.if_icmp .ne 50, 3) := by decide +kernel
theorem dX11_partOf_112 : decode cX11_partOf 112 = .ok (.aload_n 0, 1) := by decide +kernel
theorem dX11_partOf_113 : decode cX11_partOf 113 = .ok (.iload_n 3, 1) := by decide +kernel
theorem dX11_partOf_114 : decode cX11_partOf 114 = .ok (.invokevirtual 128, 3) := by decide +kernel
theorem dX11_partOf_117 : decode cX11_partOf 117 = .ok (.ifCond .ne 9, 3) := by decide +kernel
theorem dX11_partOf_120 : decode cX11_partOf 120 = .ok (.ldc2_w 278, 3) := by decide +kernel
theorem dX11_partOf_123 : decode cX11_partOf 123 = .ok (.goto 35, 3) := by decide +kernel
theorem dX11_partOf_126 : decode cX11_partOf 126 = .ok (.iload_n 2, 1) := by decide +kernel
theorem dX11_partOf_127 : decode cX11_partOf 127 = .ok (.bipush 24, 2) := by decide +kernel
theorem dX11_partOf_129 : decode cX11_partOf 129 = .ok (.if_icmp .ne 12, 3) := by decide +kernel
theorem dX11_partOf_132 : decode cX11_partOf 132 = .ok (.aload_n 0, 1) := by decide +kernel
theorem dX11_partOf_133 : decode cX11_partOf 133 = .ok (.iload_n 3, 1) := by decide +kernel
theorem dX11_partOf_134 : decode cX11_partOf 134 = .ok (.invokevirtual 138, 3) := by decide +kernel
theorem dX11_partOf_137 : decode cX11_partOf 137 = .ok (.i2l, 1) := by decide +kernel
theorem dX11_partOf_138 : decode cX11_partOf 138 = .ok (.goto 20, 3) := by decide +kernel
theorem dX11_partOf_141 : decode cX11_partOf 141 = .ok (.aload_n 0, 1) := by decide +kernel
theorem dX11_partOf_142 : decode cX11_partOf 142 = .ok (.getfield 24, 3) := by decide +kernel
theorem dX11_partOf_145 : decode cX11_partOf 145 = .ok (.iconst 0, 1) := by decide +kernel
theorem dX11_partOf_146 : decode cX11_partOf 146 = .ok (.iload_n 3, 1) := by decide +kernel
theorem dX11_partOf_147 : decode cX11_partOf 147 = .ok (.iadd, 1) := by decide +kernel
theorem dX11_partOf_148 : decode cX11_partOf 148 = .ok (.iaload, 1) := by decide +kernel
theorem dX11_partOf_149 : decode cX11_partOf 149 = .ok (.iconst 2, 1) := by decide +kernel
theorem dX11_partOf_150 : decode cX11_partOf 150 = .ok (.if_icmp .ne 7, 3) := by decide +kernel
theorem dX11_partOf_153 : decode cX11_partOf 153 = .ok (.lconst 1, 1) := by decide +kernel
theorem dX11_partOf_154 : decode cX11_partOf 154 = .ok (.goto 4, 3) := by decide +kernel
theorem dX11_partOf_157 : decode cX11_partOf 157 = .ok (.lconst 0, 1) := by decide +kernel
theorem dX11_partOf_158 : decode cX11_partOf 158 = .ok (.lreturn, 1) := by decide +kernel
theorem dX11_partOf_159 : decode cX11_partOf 159 = .ok (.iload_n 2, 1) := by decide +kernel
theorem dX11_partOf_160 : decode cX11_partOf 160 = .ok (.bipush 50, 2) := by decide +kernel
theorem dX11_partOf_162 : decode cX11_partOf 162 = .ok (.if_icmp .ne 22, 3) := by decide +kernel
theorem dX11_partOf_165 : decode cX11_partOf 165 = .ok (.aload_n 0, 1) := by decide +kernel
theorem dX11_partOf_166 : decode cX11_partOf 166 = .ok (.getfield 24, 3) := by decide +kernel
theorem dX11_partOf_169 : decode cX11_partOf 169 = .ok (.sipush 3066, 3) := by decide +kernel
theorem dX11_partOf_172 : decode cX11_partOf 172 = .ok (.aload_n 0, 1) := by decide +kernel
theorem dX11_partOf_173 : decode cX11_partOf 173 = .ok (.getfield 248, 3) := by decide +kernel
theorem dX11_partOf_176 : decode cX11_partOf 176 = .ok (.iadd, 1) := by decide +kernel
theorem dX11_partOf_177 : decode cX11_partOf 177 = .ok (.iconst 1, 1) := by decide +kernel
theorem dX11_partOf_178 : decode cX11_partOf 178 = .ok (.isub, 1) := by decide +kernel
theorem dX11_partOf_179 : decode cX11_partOf 179 = .ok (.iaload, 1) := by decide +kernel
theorem dX11_partOf_180 : decode cX11_partOf 180 = .ok (.i2l, 1) := by decide +kernel
theorem dX11_partOf_181 : decode cX11_partOf 181 = .ok (.goto 15, 3) := by decide +kernel
theorem dX11_partOf_184 : decode cX11_partOf 184 = .ok (.aload_n 0, 1) := by decide +kernel
theorem dX11_partOf_185 : decode cX11_partOf 185 = .ok (.getfield 59, 3) := by decide +kernel
theorem dX11_partOf_188 : decode cX11_partOf 188 = .ok (.iload_n 2, 1) := by decide +kernel
theorem dX11_partOf_189 : decode cX11_partOf 189 = .ok (.aload_n 0, 1) := by decide +kernel
theorem dX11_partOf_190 : decode cX11_partOf 190 = .ok (.getfield 220, 3) := by decide +kernel
theorem dX11_partOf_193 : decode cX11_partOf 193 = .ok (.isub, 1) := by decide +kernel
theorem dX11_partOf_194 : decode cX11_partOf 194 = .ok (.iaload, 1) := by decide +kernel
theorem dX11_partOf_195 : decode cX11_partOf 195 = .ok (.i2l, 1) := by decide +kernel
theorem dX11_partOf_196 : decode cX11_partOf 196 = .ok (.lreturn, 1) := by decide +kernel
theorem dX11_sumOf_0 : decode cX11_sumOf 0 = .ok (.aload_n 0, 1) := by decide +kernel
theorem dX11_sumOf_1 : decode cX11_sumOf 1 = .ok (.iload_n 1, 1) := by decide +kernel
theorem dX11_sumOf_2 : decode cX11_sumOf 2 = .ok (.invokevirtual 261, 3) := by decide +kernel
theorem dX11_sumOf_5 : decode cX11_sumOf 5 = .ok (.lstore_n 2, 1) := by decide +kernel
theorem dX11_sumOf_6 : decode cX11_sumOf 6 = .ok (.aload_n 0, 1) := by decide +kernel
theorem dX11_sumOf_7 : decode cX11_sumOf 7 = .ok (.aload_n 0, 1) := by decide +kernel
theorem dX11_sumOf_8 : decode cX11_sumOf 8 = .ok (.getfield 248, 3) := by decide +kernel
theorem dX11_sumOf_11 : decode cX11_sumOf 11 = .ok (.invokevirtual 251, 3) := by decide +kernel
theorem dX11_sumOf_14 : decode cX11_sumOf 14 = .ok (.bipush 43, 2) := by decide +kernel
theorem dX11_sumOf_16 : decode cX11_sumOf 16 = .ok (.invokestatic 210, 3) := by decide +kernel
theorem dX11_sumOf_19 : decode cX11_sumOf 19 = .ok (.if_icmp .eq 19, 3) := by decide +kernel
theorem dX11_sumOf_22 : decode cX11_sumOf 22 = .ok (.aload_n 0, 1) := by decide +kernel
theorem dX11_sumOf_23 : decode cX11_sumOf 23 = .ok (.aload_n 0, 1) := by decide +kernel
theorem dX11_sumOf_24 : decode cX11_sumOf 24 = .ok (.getfield 248, 3) := by decide +kernel
theorem dX11_sumOf_27 : decode cX11_sumOf 27 = .ok (.invokevirtual 251, 3) := by decide +kernel
theorem dX11_sumOf_30 : decode cX11_sumOf 30 = .ok (.bipush 45, 2) := by decide +kernel
theorem dX11_sumOf_32 : decode cX11_sumOf 32 = .ok (.invokestatic 210, 3) := by decide +kernel
theorem dX11_sumOf_35 : decode cX11_sumOf 35 = .ok (.if_icmp .ne 68, 3) := by decide +kernel
theorem dX11_sumOf_38 : decode cX11_sumOf 38 = .ok (.aload_n 0, 1) := by decide +kernel
theorem dX11_sumOf_39 : decode cX11_sumOf 39 = .ok (.aload_n 0, 1) := by decide +kernel
theorem dX11_sumOf_40 : decode cX11_sumOf 40 = .ok (.getfield 248, 3) := by decide +kernel
theorem dX11_sumOf_43 : decode cX11_sumOf 43 = .ok (.invokevirtual 251, 3) := by decide +kernel
theorem dX11_sumOf_46 : decode cX11_sumOf 46 = .ok (.bipush 43, 2) := by decide +kernel
theorem dX11_sumOf_48 : decode cX11_sumOf 48 = .ok (.invokestatic 210, 3) := by decide +kernel
theorem dX11_sumOf_51 : decode cX11_sumOf 51 = .ok (.if_icmp .ne 7, 3) := by decide +kernel
theorem dX11_sumOf_54 : decode cX11_sumOf 54 = .ok (.iconst 1, 1) := by decide +kernel
theorem dX11_sumOf_55 : decode cX11_sumOf 55 = .ok (.goto 4, 3) := by decide +kernel
theorem dX11_sumOf_58 : decode cX11_sumOf 58 = .ok (.iconst 0, 1) := by decide +kernel
theorem dX11_sumOf_59 : decode cX11_sumOf 59 = .ok (.istore 4, 2) := by decide +kernel
theorem dX11_sumOf_61 : decode cX11_sumOf 61 = .ok (.aload_n 0, 1) := by decide +kernel
theorem dX11_sumOf_62 : decode cX11_sumOf 62 = .ok (.dup, 1) := by decide +kernel
theorem dX11_sumOf_63 : decode cX11_sumOf 63 = .ok (.getfield 248, 3) := by decide +kernel
theorem dX11_sumOf_66 : decode cX11_sumOf 66 = .ok (.iconst 1, 1) := by decide +kernel
theorem dX11_sumOf_67 : decode cX11_sumOf 67 = .ok (.iadd, 1) := by decide +kernel
theorem dX11_sumOf_68 : decode cX11_sumOf 68 = .ok (.putfield 248, 3) := by decide +kernel
theorem dX11_sumOf_71 : decode cX11_sumOf 71 = .ok (.aload_n 0, 1) := by decide +kernel
theorem dX11_sumOf_72 : decode cX11_sumOf 72 = .ok (.iload_n 1, 1) := by decide +kernel
theorem dX11_sumOf_73 : decode cX11_sumOf 73 = .ok (.invokevirtual 261, 3) := by decide +kernel
theorem dX11_sumOf_76 : decode cX11_sumOf 76 = .ok (.lstore 5, 2) := by decide +kernel
theorem dX11_sumOf_78 : decode cX11_sumOf 78 = .ok (.aload_n 0, 1) := by decide +kernel
theorem dX11_sumOf_79 : decode cX11_sumOf 79 = .ok (.iload 4, 2) := by decide +kernel
theorem dX11_sumOf_81 : decode cX11_sumOf 81 = .ok (.ifCond .eq 10, 3) := by decide +kernel
theorem dX11_sumOf_84 : decode cX11_sumOf 84 = .ok (.lload_n 2, 1) := by decide +kernel
theorem dX11_sumOf_85 : decode cX11_sumOf 85 = .ok (.lload 5, 2) := by decide +kernel
theorem dX11_sumOf_87 : decode cX11_sumOf 87 = .ok (.ladd, 1) := by decide +kernel
theorem dX11_sumOf_88 : decode cX11_sumOf 88 = .ok (.goto 7, 3) := by decide +kernel
theorem dX11_sumOf_91 : decode cX11_sumOf 91 = .ok (.lload_n 2, 1) := by decide +kernel
theorem dX11_sumOf_92 : decode cX11_sumOf 92 = .ok (.lload 5, 2) := by decide +kernel
theorem dX11_sumOf_94 : decode cX11_sumOf 94 = .ok (.lsub, 1) := by decide +kernel
theorem dX11_sumOf_95 : decode cX11_sumOf 95 = .ok (.iload_n 1, 1) := by decide +kernel
theorem dX11_sumOf_96 : decode cX11_sumOf 96 = .ok (.invokevirtual 265, 3) := by decide +kernel
theorem dX11_sumOf_99 : decode cX11_sumOf 99 = .ok (.lstore_n 2, 1) := by decide +kernel
theorem dX11_sumOf_100 : decode cX11_sumOf 100 = .ok (.goto (-94), 3) := by decide +kernel
theorem dX11_sumOf_103 : decode cX11_sumOf 103 = .ok (.lload_n 2, 1) := by decide +kernel
theorem dX11_sumOf_104 : decode cX11_sumOf 104 = .ok (.lreturn, 1) := by decide +kernel
theorem dX11_termOf_0 : decode cX11_termOf 0 = .ok (.aload_n 0, 1) := by decide +kernel
theorem dX11_termOf_1 : decode cX11_termOf 1 = .ok (.iload_n 1, 1) := by decide +kernel
theorem dX11_termOf_2 : decode cX11_termOf 2 = .ok (.invokevirtual 269, 3) := by decide +kernel
theorem dX11_termOf_5 : decode cX11_termOf 5 = .ok (.lstore_n 2, 1) := by decide +kernel
theorem dX11_termOf_6 : decode cX11_termOf 6 = .ok (.aload_n 0, 1) := by decide +kernel
theorem dX11_termOf_7 : decode cX11_termOf 7 = .ok (.aload_n 0, 1) := by decide +kernel
theorem dX11_termOf_8 : decode cX11_termOf 8 = .ok (.getfield 248, 3) := by decide +kernel
theorem dX11_termOf_11 : decode cX11_termOf 11 = .ok (.invokevirtual 251, 3) := by decide +kernel
theorem dX11_termOf_14 : decode cX11_termOf 14 = .ok (.bipush 42, 2) := by decide +kernel
theorem dX11_termOf_16 : decode cX11_termOf 16 = .ok (.invokestatic 210, 3) := by decide +kernel
theorem dX11_termOf_19 : decode cX11_termOf 19 = .ok (.if_icmp .eq 35, 3) := by decide +kernel
theorem dX11_termOf_22 : decode cX11_termOf 22 = .ok (.aload_n 0, 1) := by decide +kernel
theorem dX11_termOf_23 : decode cX11_termOf 23 = .ok (.aload_n 0, 1) := by decide +kernel
theorem dX11_termOf_24 : decode cX11_termOf 24 = .ok (.getfield 248, 3) := by decide +kernel
theorem dX11_termOf_27 : decode cX11_termOf 27 = .ok (.invokevirtual 251, 3) := by decide +kernel
theorem dX11_termOf_30 : decode cX11_termOf 30 = .ok (.bipush 47, 2) := by decide +kernel
theorem dX11_termOf_32 : decode cX11_termOf 32 = .ok (.invokestatic 210, 3) := by decide +kernel
theorem dX11_termOf_35 : decode cX11_termOf 35 = .ok (.if_icmp .eq 19, 3) := by decide +kernel
theorem dX11_termOf_38 : decode cX11_termOf 38 = .ok (.aload_n 0, 1) := by decide +kernel
theorem dX11_termOf_39 : decode cX11_termOf 39 = .ok (.aload_n 0, 1) := by decide +kernel
theorem dX11_termOf_40 : decode cX11_termOf 40 = .ok (.getfield 248, 3) := by decide +kernel
theorem dX11_termOf_43 : decode cX11_termOf 43 = .ok (.invokevirtual 251, 3) := by decide +kernel
theorem dX11_termOf_46 : decode cX11_termOf 46 = .ok (.bipush 37, 2) := by decide +kernel
theorem dX11_termOf_48 : decode cX11_termOf 48 = .ok (.invokestatic 210, 3) := by decide +kernel
theorem dX11_termOf_51 : decode cX11_termOf 51 = .ok (.if_icmp .ne 117, 3) := by decide +kernel
theorem dX11_termOf_54 : decode cX11_termOf 54 = .ok (.aload_n 0, 1) := by decide +kernel
theorem dX11_termOf_55 : decode cX11_termOf 55 = .ok (.aload_n 0, 1) := by decide +kernel
theorem dX11_termOf_56 : decode cX11_termOf 56 = .ok (.getfield 248, 3) := by decide +kernel
theorem dX11_termOf_59 : decode cX11_termOf 59 = .ok (.invokevirtual 251, 3) := by decide +kernel
theorem dX11_termOf_62 : decode cX11_termOf 62 = .ok (.istore 4, 2) := by decide +kernel
theorem dX11_termOf_64 : decode cX11_termOf 64 = .ok (.aload_n 0, 1) := by decide +kernel
theorem dX11_termOf_65 : decode cX11_termOf 65 = .ok (.dup, 1) := by decide +kernel
theorem dX11_termOf_66 : decode cX11_termOf 66 = .ok (.getfield 248, 3) := by decide +kernel
theorem dX11_termOf_69 : decode cX11_termOf 69 = .ok (.iconst 1, 1) := by decide +kernel
theorem dX11_termOf_70 : decode cX11_termOf 70 = .ok (.iadd, 1) := by decide +kernel
theorem dX11_termOf_71 : decode cX11_termOf 71 = .ok (.putfield 248, 3) := by decide +kernel
theorem dX11_termOf_74 : decode cX11_termOf 74 = .ok (.aload_n 0, 1) := by decide +kernel
theorem dX11_termOf_75 : decode cX11_termOf 75 = .ok (.iload_n 1, 1) := by decide +kernel
theorem dX11_termOf_76 : decode cX11_termOf 76 = .ok (.invokevirtual 269, 3) := by decide +kernel
theorem dX11_termOf_79 : decode cX11_termOf 79 = .ok (.lstore 5, 2) := by decide +kernel
theorem dX11_termOf_81 : decode cX11_termOf 81 = .ok (.iload 4, 2) := by decide +kernel
theorem dX11_termOf_83 : decode cX11_termOf 83 = .ok (.bipush 42, 2) := by decide +kernel
theorem dX11_termOf_85 : decode cX11_termOf 85 = .ok (.invokestatic 210, 3) := by decide +kernel
theorem dX11_termOf_88 : decode cX11_termOf 88 = .ok (.if_icmp .eq 33, 3) := by decide +kernel
theorem dX11_termOf_91 : decode cX11_termOf 91 = .ok (.lload 5, 2) := by decide +kernel
theorem dX11_termOf_93 : decode cX11_termOf 93 = .ok (.lconst 0, 1) := by decide +kernel
theorem dX11_termOf_94 : decode cX11_termOf 94 = .ok (.lcmp, 1) := by decide +kernel
theorem dX11_termOf_95 : decode cX11_termOf 95 = .ok (.ifCond .ne 26, 3) := by decide +kernel
theorem dX11_termOf_98 : decode cX11_termOf 98 = .ok (.aload_n 0, 1) := by decide +kernel
theorem dX11_termOf_99 : decode cX11_termOf 99 = .ok (.aload_n 0, 1) := by decide +kernel
theorem dX11_termOf_100 : decode cX11_termOf 100 = .ok (.getfield 258, 3) := by decide +kernel
theorem dX11_termOf_103 : decode cX11_termOf 103 = .ok (.ifCond .ne 7, 3) := by decide +kernel
theorem dX11_termOf_106 : decode cX11_termOf 106 = .ok (.iload_n 1, 1) := by decide +kernel
theorem dX11_termOf_107 : decode cX11_termOf 107 = .ok (.ifCond .eq 7, 3) := by decide +kernel
theorem dX11_termOf_110 : decode cX11_termOf 110 = .ok (.iconst 1, 1) := by decide +kernel
theorem dX11_termOf_111 : decode cX11_termOf 111 = .ok (.goto 4, 3) := by decide +kernel
theorem dX11_termOf_114 : decode cX11_termOf 114 = .ok (.iconst 0, 1) := by decide +kernel
theorem dX11_termOf_115 : decode cX11_termOf 115 = .ok (.putfield 258, 3) := by decide +kernel
theorem dX11_termOf_118 : decode cX11_termOf 118 = .ok (.lconst 1, 1) := by decide +kernel
theorem dX11_termOf_119 : decode cX11_termOf 119 = .ok (.lstore 5, 2) := by decide +kernel
theorem dX11_termOf_121 : decode cX11_termOf 121 = .ok (.aload_n 0, 1) := by decide +kernel
theorem dX11_termOf_122 : decode cX11_termOf 122 = .ok (.iload 4, 2) := by decide +kernel
theorem dX11_termOf_124 : decode cX11_termOf 124 = .ok (.bipush 42, 2) := by decide +kernel
theorem dX11_termOf_126 : decode cX11_termOf 126 = .ok (.invokestatic 210, 3) := by decide +kernel
theorem dX11_termOf_129 : decode cX11_termOf 129 = .ok (.if_icmp .ne 10, 3) := by decide +kernel
theorem dX11_termOf_132 : decode cX11_termOf 132 = .ok (.lload_n 2, 1) := by decide +kernel
theorem dX11_termOf_133 : decode cX11_termOf 133 = .ok (.lload 5, 2) := by decide +kernel
theorem dX11_termOf_135 : decode cX11_termOf 135 = .ok (.lmul, 1) := by decide +kernel
theorem dX11_termOf_136 : decode cX11_termOf 136 = .ok (.goto 24, 3) := by decide +kernel
theorem dX11_termOf_139 : decode cX11_termOf 139 = .ok (.iload 4, 2) := by decide +kernel
theorem dX11_termOf_141 : decode cX11_termOf 141 = .ok (.bipush 47, 2) := by decide +kernel
theorem dX11_termOf_143 : decode cX11_termOf 143 = .ok (.invokestatic 210, 3) := by decide +kernel
theorem dX11_termOf_146 : decode cX11_termOf 146 = .ok (.if_icmp .ne 10, 3) := by decide +kernel
theorem dX11_termOf_149 : decode cX11_termOf 149 = .ok (.lload_n 2, 1) := by decide +kernel
theorem dX11_termOf_150 : decode cX11_termOf 150 = .ok (.lload 5, 2) := by decide +kernel
theorem dX11_termOf_152 : decode cX11_termOf 152 = .ok (.ldiv, 1) := by decide +kernel
theorem dX11_termOf_153 : decode cX11_termOf 153 = .ok (.goto 7, 3) := by decide +kernel
theorem dX11_termOf_156 : decode cX11_termOf 156 = .ok (.lload_n 2, 1) := by decide +kernel
theorem dX11_termOf_157 : decode cX11_termOf 157 = .ok (.lload 5, 2) := by decide +kernel
theorem dX11_termOf_159 : decode cX11_termOf 159 = .ok (.lrem, 1) := by decide +kernel
theorem dX11_termOf_160 : decode cX11_termOf 160 = .ok (.iload_n 1, 1) := by decide +kernel
theorem dX11_termOf_161 : decode cX11_termOf 161 = .ok (.invokevirtual 265, 3) := by decide +kernel
theorem dX11_termOf_164 : decode cX11_termOf 164 = .ok (.lstore_n 2, 1) := by decide +kernel
theorem dX11_termOf_165 : decode cX11_termOf 165 = .ok (.goto (-159), 3) := by decide +kernel
theorem dX11_termOf_168 : decode cX11_termOf 168 = .ok (.lload_n 2, 1) := by decide +kernel
theorem dX11_termOf_169 : decode cX11_termOf 169 = .ok (.lreturn, 1) := by decide +kernel
def B_X11_partOf_98 (Q : Int → st_S → Prop) (rc_X11_partOf : Int → st_S → (Int → st_S → Prop) → Prop) (rc_X11_sumOf : Int → st_S → (Int → st_S → Prop) → Prop) (rc_X11_termOf : Int → st_S → (Int → st_S → Prop) → Prop)   (σ : st_S) : Prop := Q 0 σ
def B_X11_partOf_158 (Q : Int → st_S → Prop) (rc_X11_partOf : Int → st_S → (Int → st_S → Prop) → Prop) (rc_X11_sumOf : Int → st_S → (Int → st_S → Prop) → Prop) (rc_X11_termOf : Int → st_S → (Int → st_S → Prop) → Prop)  (v0 : Int) (σ : st_S) : Prop := Q v0 σ
def B_X11_partOf_112 (Q : Int → st_S → Prop) (rc_X11_partOf : Int → st_S → (Int → st_S → Prop) → Prop) (rc_X11_sumOf : Int → st_S → (Int → st_S → Prop) → Prop) (rc_X11_termOf : Int → st_S → (Int → st_S → Prop) → Prop)  (l2 : Int) (l3 : Int) (σ : st_S) : Prop := wp_X11_isPerson l3 σ (fun r39 s40 => (¬ r39 = 0 → (¬ l2 = 24 → ix (wr (0 + l3)) 5866 ∧ (¬ gI s40 2 (Int.toNat (wr (0 + l3))) = 2 → B_X11_partOf_158 Q rc_X11_partOf rc_X11_sumOf rc_X11_termOf 0 s40) ∧ (gI s40 2 (Int.toNat (wr (0 + l3))) = 2 → B_X11_partOf_158 Q rc_X11_partOf rc_X11_sumOf rc_X11_termOf 1 s40)) ∧ (l2 = 24 → wp_X11_worthOf l3 s40 (fun r44 s45 => B_X11_partOf_158 Q rc_X11_partOf rc_X11_sumOf rc_X11_termOf r44 s45))) ∧ (r39 = 0 → B_X11_partOf_158 Q rc_X11_partOf rc_X11_sumOf rc_X11_termOf (-1) s40))
def B_X11_partOf_196 (Q : Int → st_S → Prop) (rc_X11_partOf : Int → st_S → (Int → st_S → Prop) → Prop) (rc_X11_sumOf : Int → st_S → (Int → st_S → Prop) → Prop) (rc_X11_termOf : Int → st_S → (Int → st_S → Prop) → Prop)  (v0 : Int) (σ : st_S) : Prop := Q v0 σ
def B_X11_partOf_87 (Q : Int → st_S → Prop) (rc_X11_partOf : Int → st_S → (Int → st_S → Prop) → Prop) (rc_X11_sumOf : Int → st_S → (Int → st_S → Prop) → Prop) (rc_X11_termOf : Int → st_S → (Int → st_S → Prop) → Prop)  (l1 : Int) (l2 : Int) (l3 : Int) (σ : st_S) : Prop := (l1 = 0 → B_X11_partOf_98 Q rc_X11_partOf rc_X11_sumOf rc_X11_termOf σ) ∧ (¬ l1 = 0 → (gI σ 0 24 = 0 → (l2 = 24 → B_X11_partOf_112 Q rc_X11_partOf rc_X11_sumOf rc_X11_termOf l2 l3 σ) ∧ (¬ l2 = 24 → (¬ l2 = 25 → (¬ l2 = 50 → ix (wr (l2 - gI σ 0 8)) 10 ∧ B_X11_partOf_196 Q rc_X11_partOf rc_X11_sumOf rc_X11_termOf (gI σ 12 (Int.toNat (wr (l2 - gI σ 0 8)))) σ) ∧ (l2 = 50 → ix (wr ((3066 + gI σ 0 22) - 1)) 5866 ∧ B_X11_partOf_196 Q rc_X11_partOf rc_X11_sumOf rc_X11_termOf (gI σ 2 (Int.toNat (wr ((3066 + gI σ 0 22) - 1)))) σ)) ∧ (l2 = 25 → B_X11_partOf_112 Q rc_X11_partOf rc_X11_sumOf rc_X11_termOf l2 l3 σ))) ∧ (¬ gI σ 0 24 = 0 → B_X11_partOf_98 Q rc_X11_partOf rc_X11_sumOf rc_X11_termOf σ))
def B_X11_partOf_63 (Q : Int → st_S → Prop) (rc_X11_partOf : Int → st_S → (Int → st_S → Prop) → Prop) (rc_X11_sumOf : Int → st_S → (Int → st_S → Prop) → Prop) (rc_X11_termOf : Int → st_S → (Int → st_S → Prop) → Prop)  (l1 : Int) (l2 : Int) (σ : st_S) : Prop := ix (wr (3066 + gI σ 0 22)) 5866 ∧ ∀ x63 : Int, x63 = gI σ 2 (Int.toNat (wr (3066 + gI σ 0 22))) → ∀ x65 : Int, x65 = wr (gI σ 0 22 + 1) → ∀ s66 : st_S, s66 = sI σ 0 22 x65 → B_X11_partOf_87 Q rc_X11_partOf rc_X11_sumOf rc_X11_termOf l1 l2 x63 s66
def e_X11_partOf (rc_X11_partOf : Int → st_S → (Int → st_S → Prop) → Prop) (rc_X11_sumOf : Int → st_S → (Int → st_S → Prop) → Prop) (rc_X11_termOf : Int → st_S → (Int → st_S → Prop) → Prop) (a1 : Int) (σ : st_S) (Q : Int → st_S → Prop) : Prop := wp_X11_sign 91 σ (fun r67 s68 => wp_X11_passes0 r67 s68 (fun r69 s70 => (r69 = 0 → wp_X11_codeAt (gI s70 0 22) s70 (fun r72 s73 => ∀ x75 : Int, x75 = wr (gI s73 0 22 + 1) → ∀ s76 : st_S, s76 = sI s73 0 22 x75 → (r72 = 24 → B_X11_partOf_63 Q rc_X11_partOf rc_X11_sumOf rc_X11_termOf a1 r72 s76) ∧ (¬ r72 = 24 → (¬ r72 = 25 → B_X11_partOf_87 Q rc_X11_partOf rc_X11_sumOf rc_X11_termOf a1 r72 0 s76) ∧ (r72 = 25 → B_X11_partOf_63 Q rc_X11_partOf rc_X11_sumOf rc_X11_termOf a1 r72 s76)))) ∧ (¬ r69 = 0 → rc_X11_sumOf a1 s70 (fun r79 s80 => ∀ x82 : Int, x82 = wr (gI s80 0 22 + 1) → ∀ s83 : st_S, s83 = sI s80 0 22 x82 → Q r79 s83))))
def B_X11_sumOf_95 (Q : Int → st_S → Prop) (rc_X11_partOf : Int → st_S → (Int → st_S → Prop) → Prop) (rc_X11_sumOf : Int → st_S → (Int → st_S → Prop) → Prop) (rc_X11_termOf : Int → st_S → (Int → st_S → Prop) → Prop) (k6 : Int → Int → st_S → Prop) (l1 : Int) (v0 : Int) (σ : st_S) : Prop := wp_X11_bounded v0 l1 σ (fun r29 s30 => k6 l1 r29 s30)
def B_X11_sumOf_59 (Q : Int → st_S → Prop) (rc_X11_partOf : Int → st_S → (Int → st_S → Prop) → Prop) (rc_X11_sumOf : Int → st_S → (Int → st_S → Prop) → Prop) (rc_X11_termOf : Int → st_S → (Int → st_S → Prop) → Prop) (k6 : Int → Int → st_S → Prop) (l1 : Int) (l2 : Int) (v0 : Int) (σ : st_S) : Prop := ∀ x32 : Int, x32 = wr (gI σ 0 22 + 1) → ∀ s33 : st_S, s33 = sI σ 0 22 x32 → rc_X11_termOf l1 s33 (fun r34 s35 => (v0 = 0 → ∀ x36 : Int, x36 = wl (l2 - r34) → B_X11_sumOf_95 Q rc_X11_partOf rc_X11_sumOf rc_X11_termOf k6 l1 x36 s35) ∧ (¬ v0 = 0 → ∀ x37 : Int, x37 = wl (l2 + r34) → B_X11_sumOf_95 Q rc_X11_partOf rc_X11_sumOf rc_X11_termOf k6 l1 x37 s35))
def B_X11_sumOf_38 (Q : Int → st_S → Prop) (rc_X11_partOf : Int → st_S → (Int → st_S → Prop) → Prop) (rc_X11_sumOf : Int → st_S → (Int → st_S → Prop) → Prop) (rc_X11_termOf : Int → st_S → (Int → st_S → Prop) → Prop) (k6 : Int → Int → st_S → Prop) (l1 : Int) (l2 : Int) (σ : st_S) : Prop := wp_X11_codeAt (gI σ 0 22) σ (fun r40 s41 => wp_X11_sign 43 s41 (fun r42 s43 => (¬ r40 = r42 → B_X11_sumOf_59 Q rc_X11_partOf rc_X11_sumOf rc_X11_termOf k6 l1 l2 0 s43) ∧ (r40 = r42 → B_X11_sumOf_59 Q rc_X11_partOf rc_X11_sumOf rc_X11_termOf k6 l1 l2 1 s43)))
def L_X11_sumOf_6 (Q : Int → st_S → Prop) (rc_X11_partOf : Int → st_S → (Int → st_S → Prop) → Prop) (rc_X11_sumOf : Int → st_S → (Int → st_S → Prop) → Prop) (rc_X11_termOf : Int → st_S → (Int → st_S → Prop) → Prop)  : Nat → Int → Int → st_S → Prop
  | 0 => fun _ _ _ => False
  | n + 1 => fun l1 l2 σ => wp_X11_codeAt (gI σ 0 22) σ (fun r46 s47 => wp_X11_sign 43 s47 (fun r48 s49 => (r46 = r48 → B_X11_sumOf_38 Q rc_X11_partOf rc_X11_sumOf rc_X11_termOf (L_X11_sumOf_6 Q rc_X11_partOf rc_X11_sumOf rc_X11_termOf n) l1 l2 s49) ∧ (¬ r46 = r48 → wp_X11_codeAt (gI s49 0 22) s49 (fun r51 s52 => wp_X11_sign 45 s52 (fun r53 s54 => (¬ r51 = r53 → Q l2 s54) ∧ (r51 = r53 → B_X11_sumOf_38 Q rc_X11_partOf rc_X11_sumOf rc_X11_termOf (L_X11_sumOf_6 Q rc_X11_partOf rc_X11_sumOf rc_X11_termOf n) l1 l2 s54))))))
def e_X11_sumOf (rc_X11_partOf : Int → st_S → (Int → st_S → Prop) → Prop) (rc_X11_sumOf : Int → st_S → (Int → st_S → Prop) → Prop) (rc_X11_termOf : Int → st_S → (Int → st_S → Prop) → Prop) (a1 : Int) (σ : st_S) (Q : Int → st_S → Prop) : Prop := rc_X11_termOf a1 σ (fun r57 s58 => ∃ m6 : Nat, L_X11_sumOf_6 Q rc_X11_partOf rc_X11_sumOf rc_X11_termOf m6 a1 r57 s58)
def B_X11_termOf_160 (Q : Int → st_S → Prop) (rc_X11_partOf : Int → st_S → (Int → st_S → Prop) → Prop) (rc_X11_sumOf : Int → st_S → (Int → st_S → Prop) → Prop) (rc_X11_termOf : Int → st_S → (Int → st_S → Prop) → Prop) (k6 : Int → Int → st_S → Prop) (l1 : Int) (v0 : Int) (σ : st_S) : Prop := wp_X11_bounded v0 l1 σ (fun r45 s46 => k6 l1 r45 s46)
def B_X11_termOf_121 (Q : Int → st_S → Prop) (rc_X11_partOf : Int → st_S → (Int → st_S → Prop) → Prop) (rc_X11_sumOf : Int → st_S → (Int → st_S → Prop) → Prop) (rc_X11_termOf : Int → st_S → (Int → st_S → Prop) → Prop) (k6 : Int → Int → st_S → Prop) (l1 : Int) (l2 : Int) (l4 : Int) (l5 : Int) (σ : st_S) : Prop := wp_X11_sign 42 σ (fun r47 s48 => (¬ l4 = r47 → wp_X11_sign 47 s48 (fun r49 s50 => (¬ l4 = r49 → ¬ l5 = 0 ∧ B_X11_termOf_160 Q rc_X11_partOf rc_X11_sumOf rc_X11_termOf k6 l1 (p_rem l2 l5) s50) ∧ (l4 = r49 → ¬ l5 = 0 ∧ B_X11_termOf_160 Q rc_X11_partOf rc_X11_sumOf rc_X11_termOf k6 l1 (p_div l2 l5) s50))) ∧ (l4 = r47 → ∀ x54 : Int, x54 = wl (l2 * l5) → B_X11_termOf_160 Q rc_X11_partOf rc_X11_sumOf rc_X11_termOf k6 l1 x54 s48))
def B_X11_termOf_115 (Q : Int → st_S → Prop) (rc_X11_partOf : Int → st_S → (Int → st_S → Prop) → Prop) (rc_X11_sumOf : Int → st_S → (Int → st_S → Prop) → Prop) (rc_X11_termOf : Int → st_S → (Int → st_S → Prop) → Prop) (k6 : Int → Int → st_S → Prop) (l1 : Int) (l2 : Int) (l4 : Int) (v0 : Int) (σ : st_S) : Prop := (v0 = 0 ∨ v0 = 1) ∧ ∀ s56 : st_S, s56 = sI σ 0 24 v0 → B_X11_termOf_121 Q rc_X11_partOf rc_X11_sumOf rc_X11_termOf k6 l1 l2 l4 1 s56
def B_X11_termOf_110 (Q : Int → st_S → Prop) (rc_X11_partOf : Int → st_S → (Int → st_S → Prop) → Prop) (rc_X11_sumOf : Int → st_S → (Int → st_S → Prop) → Prop) (rc_X11_termOf : Int → st_S → (Int → st_S → Prop) → Prop) (k6 : Int → Int → st_S → Prop) (l1 : Int) (l2 : Int) (l4 : Int) (σ : st_S) : Prop := B_X11_termOf_115 Q rc_X11_partOf rc_X11_sumOf rc_X11_termOf k6 l1 l2 l4 1 σ
def B_X11_termOf_54 (Q : Int → st_S → Prop) (rc_X11_partOf : Int → st_S → (Int → st_S → Prop) → Prop) (rc_X11_sumOf : Int → st_S → (Int → st_S → Prop) → Prop) (rc_X11_termOf : Int → st_S → (Int → st_S → Prop) → Prop) (k6 : Int → Int → st_S → Prop) (l1 : Int) (l2 : Int) (σ : st_S) : Prop := wp_X11_codeAt (gI σ 0 22) σ (fun r59 s60 => ∀ x62 : Int, x62 = wr (gI s60 0 22 + 1) → ∀ s63 : st_S, s63 = sI s60 0 22 x62 → rc_X11_partOf l1 s63 (fun r64 s65 => wp_X11_sign 42 s65 (fun r66 s67 => (r59 = r66 → B_X11_termOf_121 Q rc_X11_partOf rc_X11_sumOf rc_X11_termOf k6 l1 l2 r59 r64 s67) ∧ (¬ r59 = r66 → (¬ p_cmp r64 0 = 0 → B_X11_termOf_121 Q rc_X11_partOf rc_X11_sumOf rc_X11_termOf k6 l1 l2 r59 r64 s67) ∧ (p_cmp r64 0 = 0 → (¬ gI s67 0 24 = 0 → B_X11_termOf_110 Q rc_X11_partOf rc_X11_sumOf rc_X11_termOf k6 l1 l2 r59 s67) ∧ (gI s67 0 24 = 0 → (l1 = 0 → B_X11_termOf_115 Q rc_X11_partOf rc_X11_sumOf rc_X11_termOf k6 l1 l2 r59 0 s67) ∧ (¬ l1 = 0 → B_X11_termOf_110 Q rc_X11_partOf rc_X11_sumOf rc_X11_termOf k6 l1 l2 r59 s67)))))))
def L_X11_termOf_6 (Q : Int → st_S → Prop) (rc_X11_partOf : Int → st_S → (Int → st_S → Prop) → Prop) (rc_X11_sumOf : Int → st_S → (Int → st_S → Prop) → Prop) (rc_X11_termOf : Int → st_S → (Int → st_S → Prop) → Prop)  : Nat → Int → Int → st_S → Prop
  | 0 => fun _ _ _ => False
  | n + 1 => fun l1 l2 σ => wp_X11_codeAt (gI σ 0 22) σ (fun r74 s75 => wp_X11_sign 42 s75 (fun r76 s77 => (r74 = r76 → B_X11_termOf_54 Q rc_X11_partOf rc_X11_sumOf rc_X11_termOf (L_X11_termOf_6 Q rc_X11_partOf rc_X11_sumOf rc_X11_termOf n) l1 l2 s77) ∧ (¬ r74 = r76 → wp_X11_codeAt (gI s77 0 22) s77 (fun r79 s80 => wp_X11_sign 47 s80 (fun r81 s82 => (r79 = r81 → B_X11_termOf_54 Q rc_X11_partOf rc_X11_sumOf rc_X11_termOf (L_X11_termOf_6 Q rc_X11_partOf rc_X11_sumOf rc_X11_termOf n) l1 l2 s82) ∧ (¬ r79 = r81 → wp_X11_codeAt (gI s82 0 22) s82 (fun r84 s85 => wp_X11_sign 37 s85 (fun r86 s87 => (¬ r84 = r86 → Q l2 s87) ∧ (r84 = r86 → B_X11_termOf_54 Q rc_X11_partOf rc_X11_sumOf rc_X11_termOf (L_X11_termOf_6 Q rc_X11_partOf rc_X11_sumOf rc_X11_termOf n) l1 l2 s87)))))))))
def e_X11_termOf (rc_X11_partOf : Int → st_S → (Int → st_S → Prop) → Prop) (rc_X11_sumOf : Int → st_S → (Int → st_S → Prop) → Prop) (rc_X11_termOf : Int → st_S → (Int → st_S → Prop) → Prop) (a1 : Int) (σ : st_S) (Q : Int → st_S → Prop) : Prop := rc_X11_partOf a1 σ (fun r91 s92 => ∃ m6 : Nat, L_X11_termOf_6 Q rc_X11_partOf rc_X11_sumOf rc_X11_termOf m6 a1 r91 s92)
def G_X11_partOf : Nat → (Int → st_S → (Int → st_S → Prop) → Prop) × (Int → st_S → (Int → st_S → Prop) → Prop) × (Int → st_S → (Int → st_S → Prop) → Prop)
  | 0 => (fun _ _ _ => False, fun _ _ _ => False, fun _ _ _ => False)
  | d + 1 => (e_X11_partOf ((G_X11_partOf d).1) ((G_X11_partOf d).2.1) ((G_X11_partOf d).2.2), e_X11_sumOf ((G_X11_partOf d).1) ((G_X11_partOf d).2.1) ((G_X11_partOf d).2.2), e_X11_termOf ((G_X11_partOf d).1) ((G_X11_partOf d).2.1) ((G_X11_partOf d).2.2))
def wp_X11_partOf (d : Nat) : Int → st_S → (Int → st_S → Prop) → Prop := (G_X11_partOf d).1
def wp_X11_sumOf (d : Nat) : Int → st_S → (Int → st_S → Prop) → Prop := (G_X11_partOf d).2.1
def wp_X11_termOf (d : Nat) : Int → st_S → (Int → st_S → Prop) → Prop := (G_X11_partOf d).2.2
set_option maxRecDepth 20000 in
theorem jb_X11_partOf_98 {X : jj_X} {E : ev_E} {n0 hN : Nat} (hc : Cx X E cX11_partOf 4 n0 hN RX11) (hm : eM E = 2) (hr : (xT X).sig.returnType = (some .long)) {d : Nat} (hh : 3 + (d + 1) ≤ hN) {Q : Int → st_S → Prop} {rc_X11_partOf : Int → st_S → (Int → st_S → Prop) → Prop} (hr_X11_partOf : ∀ {l : Launch} {E : ev_E} (hE : Eok E) (hm : eM E = 2) {a1 : Int} (ca1 : wr a1 = a1) {σ : st_S} {Q : Int → st_S → Prop}, rc_X11_partOf a1 σ Q → cM l yX11_partOf cX11_partOf 4 (some .long) E (3 + d) 0 0 [vR E 0, vI a1] σ (qL E (gN σ + 0) Q)) {rc_X11_sumOf : Int → st_S → (Int → st_S → Prop) → Prop} (hr_X11_sumOf : ∀ {l : Launch} {E : ev_E} (hE : Eok E) (hm : eM E = 2) {a1 : Int} (ca1 : wr a1 = a1) {σ : st_S} {Q : Int → st_S → Prop}, rc_X11_sumOf a1 σ Q → cM l yX11_sumOf cX11_sumOf 7 (some .long) E (3 + d) 0 0 [vR E 0, vI a1] σ (qL E (gN σ + 0) Q)) {rc_X11_termOf : Int → st_S → (Int → st_S → Prop) → Prop} (hr_X11_termOf : ∀ {l : Launch} {E : ev_E} (hE : Eok E) (hm : eM E = 2) {a1 : Int} (ca1 : wr a1 = a1) {σ : st_S} {Q : Int → st_S → Prop}, rc_X11_termOf a1 σ Q → cM l yX11_termOf cX11_termOf 7 (some .long) E (3 + d) 0 0 [vR E 0, vI a1] σ (qL E (gN σ + 0) Q)) {σ : st_S} (h : B_X11_partOf_98 Q rc_X11_partOf rc_X11_sumOf rc_X11_termOf σ) : J X E 4 n0 0 0 (MQ (xB X) (qL E (n0 + 0) Q) (xA X) (xS X) 0 0 (eF E)) σ 98 [] [] := by
  have hh1 : 1 ≤ hN := by omega
  replace h : Q 0 σ := h
  refine j_lconst (x := 0) hc dX11_partOf_98 rfl ?_
  exact j_lret hc hr (llit 0 (by decide)) h dX11_partOf_99
set_option maxRecDepth 20000 in
theorem jb_X11_partOf_158 {X : jj_X} {E : ev_E} {n0 hN : Nat} (hc : Cx X E cX11_partOf 4 n0 hN RX11) (hm : eM E = 2) (hr : (xT X).sig.returnType = (some .long)) {d : Nat} (hh : 3 + (d + 1) ≤ hN) {Q : Int → st_S → Prop} {rc_X11_partOf : Int → st_S → (Int → st_S → Prop) → Prop} (hr_X11_partOf : ∀ {l : Launch} {E : ev_E} (hE : Eok E) (hm : eM E = 2) {a1 : Int} (ca1 : wr a1 = a1) {σ : st_S} {Q : Int → st_S → Prop}, rc_X11_partOf a1 σ Q → cM l yX11_partOf cX11_partOf 4 (some .long) E (3 + d) 0 0 [vR E 0, vI a1] σ (qL E (gN σ + 0) Q)) {rc_X11_sumOf : Int → st_S → (Int → st_S → Prop) → Prop} (hr_X11_sumOf : ∀ {l : Launch} {E : ev_E} (hE : Eok E) (hm : eM E = 2) {a1 : Int} (ca1 : wr a1 = a1) {σ : st_S} {Q : Int → st_S → Prop}, rc_X11_sumOf a1 σ Q → cM l yX11_sumOf cX11_sumOf 7 (some .long) E (3 + d) 0 0 [vR E 0, vI a1] σ (qL E (gN σ + 0) Q)) {rc_X11_termOf : Int → st_S → (Int → st_S → Prop) → Prop} (hr_X11_termOf : ∀ {l : Launch} {E : ev_E} (hE : Eok E) (hm : eM E = 2) {a1 : Int} (ca1 : wr a1 = a1) {σ : st_S} {Q : Int → st_S → Prop}, rc_X11_termOf a1 σ Q → cM l yX11_termOf cX11_termOf 7 (some .long) E (3 + d) 0 0 [vR E 0, vI a1] σ (qL E (gN σ + 0) Q)) {v0 : Int} (cv0 : wl v0 = v0) {σ : st_S} (h : B_X11_partOf_158 Q rc_X11_partOf rc_X11_sumOf rc_X11_termOf v0 σ) : J X E 4 n0 0 0 (MQ (xB X) (qL E (n0 + 0) Q) (xA X) (xS X) 0 0 (eF E)) σ 158 [] [vL v0] := by
  have hh1 : 1 ≤ hN := by omega
  replace h : Q v0 σ := h
  exact j_lret hc hr cv0 h dX11_partOf_158
set_option maxRecDepth 20000 in
theorem jb_X11_partOf_112 {X : jj_X} {E : ev_E} {n0 hN : Nat} (hc : Cx X E cX11_partOf 4 n0 hN RX11) (hm : eM E = 2) (hr : (xT X).sig.returnType = (some .long)) {d : Nat} (hh : 3 + (d + 1) ≤ hN) {Q : Int → st_S → Prop} {rc_X11_partOf : Int → st_S → (Int → st_S → Prop) → Prop} (hr_X11_partOf : ∀ {l : Launch} {E : ev_E} (hE : Eok E) (hm : eM E = 2) {a1 : Int} (ca1 : wr a1 = a1) {σ : st_S} {Q : Int → st_S → Prop}, rc_X11_partOf a1 σ Q → cM l yX11_partOf cX11_partOf 4 (some .long) E (3 + d) 0 0 [vR E 0, vI a1] σ (qL E (gN σ + 0) Q)) {rc_X11_sumOf : Int → st_S → (Int → st_S → Prop) → Prop} (hr_X11_sumOf : ∀ {l : Launch} {E : ev_E} (hE : Eok E) (hm : eM E = 2) {a1 : Int} (ca1 : wr a1 = a1) {σ : st_S} {Q : Int → st_S → Prop}, rc_X11_sumOf a1 σ Q → cM l yX11_sumOf cX11_sumOf 7 (some .long) E (3 + d) 0 0 [vR E 0, vI a1] σ (qL E (gN σ + 0) Q)) {rc_X11_termOf : Int → st_S → (Int → st_S → Prop) → Prop} (hr_X11_termOf : ∀ {l : Launch} {E : ev_E} (hE : Eok E) (hm : eM E = 2) {a1 : Int} (ca1 : wr a1 = a1) {σ : st_S} {Q : Int → st_S → Prop}, rc_X11_termOf a1 σ Q → cM l yX11_termOf cX11_termOf 7 (some .long) E (3 + d) 0 0 [vR E 0, vI a1] σ (qL E (gN σ + 0) Q)) {l2 : Int} {l3 : Int} (cl2 : wr l2 = l2) (cl3 : wr l3 = l3) {σ : st_S} (h : B_X11_partOf_112 Q rc_X11_partOf rc_X11_sumOf rc_X11_termOf l2 l3 σ) : J X E 4 n0 0 0 (MQ (xB X) (qL E (n0 + 0) Q) (xA X) (xS X) 0 0 (eF E)) σ 112 [(0, vR E 0), (2, vI l2), (3, vI l3)] [] := by
  have hh1 : 1 ≤ hN := by omega
  replace h : wp_X11_isPerson l3 σ (fun r39 s40 => (¬ r39 = 0 → (¬ l2 = 24 → ix (wr (0 + l3)) 5866 ∧ (¬ gI s40 2 (Int.toNat (wr (0 + l3))) = 2 → B_X11_partOf_158 Q rc_X11_partOf rc_X11_sumOf rc_X11_termOf 0 s40) ∧ (gI s40 2 (Int.toNat (wr (0 + l3))) = 2 → B_X11_partOf_158 Q rc_X11_partOf rc_X11_sumOf rc_X11_termOf 1 s40)) ∧ (l2 = 24 → wp_X11_worthOf l3 s40 (fun r44 s45 => B_X11_partOf_158 Q rc_X11_partOf rc_X11_sumOf rc_X11_termOf r44 s45))) ∧ (r39 = 0 → B_X11_partOf_158 Q rc_X11_partOf rc_X11_sumOf rc_X11_termOf (-1) s40)) := h
  refine j_aload_nR hc 0 dX11_partOf_112 rfl rfl ?_
  refine j_iload_n hc 2 dX11_partOf_113 rfl rfl ?_
  refine j_vI hc (k := 11) (by decide) (fun hv => Or.inl (sv_k hv hm rfl)) ml_RX11_128 mv_X11_isPerson (As := [vI l3]) (c_X11_isPerson (cx_E hc) hm cl3 h) rfl (by omega) (by decide) ⟨Nat.zero_le _, Nat.zero_le _⟩ (Nat.le_of_ble_eq_true rfl) rfl dX11_partOf_114 (fun r39 s40 cr39 h => ?_)
  refine j_if_ne hc cr39 (tgt := 126) dX11_partOf_117 (by decide) (fun q47 => ?_) (fun q47 => ?_)
  · replace h := h.1 q47
    refine j_iload_n hc 1 dX11_partOf_126 rfl rfl ?_
    refine j_bipush hc dX11_partOf_127 (by decide) ?_
    refine j_ic_ne hc cl2 (wlit 24 (by decide)) (tgt := 141) dX11_partOf_129 (by decide) (fun q46 => ?_) (fun q46 => ?_)
    · replace h := h.1 q46
      refine j_aload_nR hc 0 dX11_partOf_141 rfl rfl ?_
      refine j_getR (c' := 2) hc fl_RX11_24 rfl rfl (fun hv => (sv_k hv hm rfl)) dX11_partOf_142 ?_
      refine j_iconst hc dX11_partOf_145 ?_
      refine j_iload_n hc 2 dX11_partOf_146 rfl rfl ?_
      refine j_iadd hc dX11_partOf_147 ?_
      obtain ⟨b41, h⟩ := h
      refine j_iald (jn := (Int.toNat (wr (0 + l3)))) hc (fun hv => sv_kl hv hm rfl) rfl b41 rfl dX11_partOf_148 (fun cn42 => ?_)
      refine j_iconst hc dX11_partOf_149 ?_
      refine j_ic_ne hc cn42 (wlit 2 (by decide)) (tgt := 157) dX11_partOf_150 (by decide) (fun q43 => ?_) (fun q43 => ?_)
      · replace h := h.1 q43
        refine j_lconst (x := 0) hc dX11_partOf_157 rfl ?_
        refine j_sub (lv' := []) [] rfl ?_
        exact jb_X11_partOf_158 hc hm hr hh hr_X11_partOf hr_X11_sumOf hr_X11_termOf (llit 0 (by decide)) h
      · replace h := h.2 q43
        refine j_lconst (x := 1) hc dX11_partOf_153 rfl ?_
        refine j_goto (tgt := 158) hc dX11_partOf_154 (by decide) ?_
        refine j_sub (lv' := []) [] rfl ?_
        exact jb_X11_partOf_158 hc hm hr hh hr_X11_partOf hr_X11_sumOf hr_X11_termOf (llit 1 (by decide)) h
    · replace h := h.2 q46
      refine j_aload_nR hc 0 dX11_partOf_132 rfl rfl ?_
      refine j_iload_n hc 2 dX11_partOf_133 rfl rfl ?_
      refine j_vI hc (k := 11) (by decide) (fun hv => Or.inl (sv_k hv hm rfl)) ml_RX11_138 mv_X11_worthOf (As := [vI l3]) (c_X11_worthOf (cx_E hc) hm cl3 h) rfl (by omega) (by decide) ⟨Nat.zero_le _, Nat.zero_le _⟩ (Nat.le_of_ble_eq_true rfl) rfl dX11_partOf_134 (fun r44 s45 cr44 h => ?_)
      refine j_i2l hc cr44 dX11_partOf_137 ?_
      refine j_goto (tgt := 158) hc dX11_partOf_138 (by decide) ?_
      refine j_sub (lv' := []) [] rfl ?_
      exact jb_X11_partOf_158 hc hm hr hh hr_X11_partOf hr_X11_sumOf hr_X11_termOf (cn_wl cr44) h
  · replace h := h.2 q47
    refine j_ldc2 (x := (-1)) hc (by decide) kl_RX11_278 dX11_partOf_120 ?_
    refine j_goto (tgt := 158) hc dX11_partOf_123 (by decide) ?_
    refine j_sub (lv' := []) [] rfl ?_
    exact jb_X11_partOf_158 hc hm hr hh hr_X11_partOf hr_X11_sumOf hr_X11_termOf (llit (-1) (by decide)) h
set_option maxRecDepth 20000 in
theorem jb_X11_partOf_196 {X : jj_X} {E : ev_E} {n0 hN : Nat} (hc : Cx X E cX11_partOf 4 n0 hN RX11) (hm : eM E = 2) (hr : (xT X).sig.returnType = (some .long)) {d : Nat} (hh : 3 + (d + 1) ≤ hN) {Q : Int → st_S → Prop} {rc_X11_partOf : Int → st_S → (Int → st_S → Prop) → Prop} (hr_X11_partOf : ∀ {l : Launch} {E : ev_E} (hE : Eok E) (hm : eM E = 2) {a1 : Int} (ca1 : wr a1 = a1) {σ : st_S} {Q : Int → st_S → Prop}, rc_X11_partOf a1 σ Q → cM l yX11_partOf cX11_partOf 4 (some .long) E (3 + d) 0 0 [vR E 0, vI a1] σ (qL E (gN σ + 0) Q)) {rc_X11_sumOf : Int → st_S → (Int → st_S → Prop) → Prop} (hr_X11_sumOf : ∀ {l : Launch} {E : ev_E} (hE : Eok E) (hm : eM E = 2) {a1 : Int} (ca1 : wr a1 = a1) {σ : st_S} {Q : Int → st_S → Prop}, rc_X11_sumOf a1 σ Q → cM l yX11_sumOf cX11_sumOf 7 (some .long) E (3 + d) 0 0 [vR E 0, vI a1] σ (qL E (gN σ + 0) Q)) {rc_X11_termOf : Int → st_S → (Int → st_S → Prop) → Prop} (hr_X11_termOf : ∀ {l : Launch} {E : ev_E} (hE : Eok E) (hm : eM E = 2) {a1 : Int} (ca1 : wr a1 = a1) {σ : st_S} {Q : Int → st_S → Prop}, rc_X11_termOf a1 σ Q → cM l yX11_termOf cX11_termOf 7 (some .long) E (3 + d) 0 0 [vR E 0, vI a1] σ (qL E (gN σ + 0) Q)) {v0 : Int} (cv0 : wl v0 = v0) {σ : st_S} (h : B_X11_partOf_196 Q rc_X11_partOf rc_X11_sumOf rc_X11_termOf v0 σ) : J X E 4 n0 0 0 (MQ (xB X) (qL E (n0 + 0) Q) (xA X) (xS X) 0 0 (eF E)) σ 196 [] [vL v0] := by
  have hh1 : 1 ≤ hN := by omega
  replace h : Q v0 σ := h
  exact j_lret hc hr cv0 h dX11_partOf_196
set_option maxRecDepth 20000 in
theorem jb_X11_partOf_87 {X : jj_X} {E : ev_E} {n0 hN : Nat} (hc : Cx X E cX11_partOf 4 n0 hN RX11) (hm : eM E = 2) (hr : (xT X).sig.returnType = (some .long)) {d : Nat} (hh : 3 + (d + 1) ≤ hN) {Q : Int → st_S → Prop} {rc_X11_partOf : Int → st_S → (Int → st_S → Prop) → Prop} (hr_X11_partOf : ∀ {l : Launch} {E : ev_E} (hE : Eok E) (hm : eM E = 2) {a1 : Int} (ca1 : wr a1 = a1) {σ : st_S} {Q : Int → st_S → Prop}, rc_X11_partOf a1 σ Q → cM l yX11_partOf cX11_partOf 4 (some .long) E (3 + d) 0 0 [vR E 0, vI a1] σ (qL E (gN σ + 0) Q)) {rc_X11_sumOf : Int → st_S → (Int → st_S → Prop) → Prop} (hr_X11_sumOf : ∀ {l : Launch} {E : ev_E} (hE : Eok E) (hm : eM E = 2) {a1 : Int} (ca1 : wr a1 = a1) {σ : st_S} {Q : Int → st_S → Prop}, rc_X11_sumOf a1 σ Q → cM l yX11_sumOf cX11_sumOf 7 (some .long) E (3 + d) 0 0 [vR E 0, vI a1] σ (qL E (gN σ + 0) Q)) {rc_X11_termOf : Int → st_S → (Int → st_S → Prop) → Prop} (hr_X11_termOf : ∀ {l : Launch} {E : ev_E} (hE : Eok E) (hm : eM E = 2) {a1 : Int} (ca1 : wr a1 = a1) {σ : st_S} {Q : Int → st_S → Prop}, rc_X11_termOf a1 σ Q → cM l yX11_termOf cX11_termOf 7 (some .long) E (3 + d) 0 0 [vR E 0, vI a1] σ (qL E (gN σ + 0) Q)) {l1 : Int} {l2 : Int} {l3 : Int} (cl1 : wr l1 = l1) (cl2 : wr l2 = l2) (cl3 : wr l3 = l3) {σ : st_S} (h : B_X11_partOf_87 Q rc_X11_partOf rc_X11_sumOf rc_X11_termOf l1 l2 l3 σ) : J X E 4 n0 0 0 (MQ (xB X) (qL E (n0 + 0) Q) (xA X) (xS X) 0 0 (eF E)) σ 87 [(0, vR E 0), (1, vI l1), (2, vI l2), (3, vI l3)] [] := by
  have hh1 : 1 ≤ hN := by omega
  replace h : (l1 = 0 → B_X11_partOf_98 Q rc_X11_partOf rc_X11_sumOf rc_X11_termOf σ) ∧ (¬ l1 = 0 → (gI σ 0 24 = 0 → (l2 = 24 → B_X11_partOf_112 Q rc_X11_partOf rc_X11_sumOf rc_X11_termOf l2 l3 σ) ∧ (¬ l2 = 24 → (¬ l2 = 25 → (¬ l2 = 50 → ix (wr (l2 - gI σ 0 8)) 10 ∧ B_X11_partOf_196 Q rc_X11_partOf rc_X11_sumOf rc_X11_termOf (gI σ 12 (Int.toNat (wr (l2 - gI σ 0 8)))) σ) ∧ (l2 = 50 → ix (wr ((3066 + gI σ 0 22) - 1)) 5866 ∧ B_X11_partOf_196 Q rc_X11_partOf rc_X11_sumOf rc_X11_termOf (gI σ 2 (Int.toNat (wr ((3066 + gI σ 0 22) - 1)))) σ)) ∧ (l2 = 25 → B_X11_partOf_112 Q rc_X11_partOf rc_X11_sumOf rc_X11_termOf l2 l3 σ))) ∧ (¬ gI σ 0 24 = 0 → B_X11_partOf_98 Q rc_X11_partOf rc_X11_sumOf rc_X11_termOf σ)) := h
  refine j_iload_n hc 1 dX11_partOf_87 rfl rfl ?_
  refine j_if_eq hc cl1 (tgt := 98) dX11_partOf_88 (by decide) (fun q59 => ?_) (fun q59 => ?_)
  · replace h := h.1 q59
    refine j_sub (lv' := []) [] rfl ?_
    exact jb_X11_partOf_98 hc hm hr hh hr_X11_partOf hr_X11_sumOf hr_X11_termOf h
  · replace h := h.2 q59
    refine j_aload_nR hc 0 dX11_partOf_91 rfl rfl ?_
    refine j_getI hc fl_RX11_258 (Or.inr rfl) (fun hv => Or.inl (sv_k hv hm rfl)) dX11_partOf_92 (fun cn48 => ?_)
    refine j_if_eq hc cn48 (tgt := 100) dX11_partOf_95 (by decide) (fun q58 => ?_) (fun q58 => ?_)
    · replace h := h.1 q58
      refine j_iload_n hc 2 dX11_partOf_100 rfl rfl ?_
      refine j_bipush hc dX11_partOf_101 (by decide) ?_
      refine j_ic_eq hc cl2 (wlit 24 (by decide)) (tgt := 112) dX11_partOf_103 (by decide) (fun q57 => ?_) (fun q57 => ?_)
      · replace h := h.1 q57
        refine j_sub (lv' := [(0, vR E 0), (2, vI l2), (3, vI l3)]) [0, 2, 3] rfl ?_
        exact jb_X11_partOf_112 hc hm hr hh hr_X11_partOf hr_X11_sumOf hr_X11_termOf cl2 cl3 h
      · replace h := h.2 q57
        refine j_iload_n hc 2 dX11_partOf_106 rfl rfl ?_
        refine j_bipush hc dX11_partOf_107 (by decide) ?_
        refine j_ic_ne hc cl2 (wlit 25 (by decide)) (tgt := 159) dX11_partOf_109 (by decide) (fun q56 => ?_) (fun q56 => ?_)
        · replace h := h.1 q56
          refine j_iload_n hc 2 dX11_partOf_159 rfl rfl ?_
          refine j_bipush hc dX11_partOf_160 (by decide) ?_
          refine j_ic_ne hc cl2 (wlit 50 (by decide)) (tgt := 184) dX11_partOf_162 (by decide) (fun q55 => ?_) (fun q55 => ?_)
          · replace h := h.1 q55
            refine j_aload_nR hc 0 dX11_partOf_184 rfl rfl ?_
            refine j_getR (c' := 12) hc fl_RX11_59 rfl rfl (fun hv => (sv_k hv hm rfl)) dX11_partOf_185 ?_
            refine j_iload_n hc 2 dX11_partOf_188 rfl rfl ?_
            refine j_aload_nR hc 0 dX11_partOf_189 rfl rfl ?_
            refine j_getI hc fl_RX11_220 (Or.inl rfl) (fun hv => Or.inl (sv_k hv hm rfl)) dX11_partOf_190 (fun cn49 => ?_)
            refine j_isub hc dX11_partOf_193 ?_
            obtain ⟨b50, h⟩ := h
            refine j_iald (jn := (Int.toNat (wr (l2 - gI σ 0 8)))) hc (fun hv => sv_kl hv hm rfl) rfl b50 rfl dX11_partOf_194 (fun cn51 => ?_)
            refine j_i2l hc cn51 dX11_partOf_195 ?_
            refine j_sub (lv' := []) [] rfl ?_
            exact jb_X11_partOf_196 hc hm hr hh hr_X11_partOf hr_X11_sumOf hr_X11_termOf (cn_wl cn51) h
          · replace h := h.2 q55
            refine j_aload_nR hc 0 dX11_partOf_165 rfl rfl ?_
            refine j_getR (c' := 2) hc fl_RX11_24 rfl rfl (fun hv => (sv_k hv hm rfl)) dX11_partOf_166 ?_
            refine j_sipush hc dX11_partOf_169 (by decide) ?_
            refine j_aload_nR hc 0 dX11_partOf_172 rfl rfl ?_
            refine j_getI hc fl_RX11_248 (Or.inl rfl) (fun hv => Or.inl (sv_k hv hm rfl)) dX11_partOf_173 (fun cn52 => ?_)
            refine j_iadd hc dX11_partOf_176 ?_
            refine j_iconst hc dX11_partOf_177 ?_
            refine j_isub hc dX11_partOf_178 ?_
            obtain ⟨b53, h⟩ := h
            refine j_iald (jn := (Int.toNat (wr ((3066 + gI σ 0 22) - 1)))) hc (fun hv => sv_kl hv hm rfl) rfl b53 rfl dX11_partOf_179 (fun cn54 => ?_)
            refine j_i2l hc cn54 dX11_partOf_180 ?_
            refine j_goto (tgt := 196) hc dX11_partOf_181 (by decide) ?_
            refine j_sub (lv' := []) [] rfl ?_
            exact jb_X11_partOf_196 hc hm hr hh hr_X11_partOf hr_X11_sumOf hr_X11_termOf (cn_wl cn54) h
        · replace h := h.2 q56
          refine j_sub (lv' := [(0, vR E 0), (2, vI l2), (3, vI l3)]) [0, 2, 3] rfl ?_
          exact jb_X11_partOf_112 hc hm hr hh hr_X11_partOf hr_X11_sumOf hr_X11_termOf cl2 cl3 h
    · replace h := h.2 q58
      refine j_sub (lv' := []) [] rfl ?_
      exact jb_X11_partOf_98 hc hm hr hh hr_X11_partOf hr_X11_sumOf hr_X11_termOf h
set_option maxRecDepth 20000 in
theorem jb_X11_partOf_63 {X : jj_X} {E : ev_E} {n0 hN : Nat} (hc : Cx X E cX11_partOf 4 n0 hN RX11) (hm : eM E = 2) (hr : (xT X).sig.returnType = (some .long)) {d : Nat} (hh : 3 + (d + 1) ≤ hN) {Q : Int → st_S → Prop} {rc_X11_partOf : Int → st_S → (Int → st_S → Prop) → Prop} (hr_X11_partOf : ∀ {l : Launch} {E : ev_E} (hE : Eok E) (hm : eM E = 2) {a1 : Int} (ca1 : wr a1 = a1) {σ : st_S} {Q : Int → st_S → Prop}, rc_X11_partOf a1 σ Q → cM l yX11_partOf cX11_partOf 4 (some .long) E (3 + d) 0 0 [vR E 0, vI a1] σ (qL E (gN σ + 0) Q)) {rc_X11_sumOf : Int → st_S → (Int → st_S → Prop) → Prop} (hr_X11_sumOf : ∀ {l : Launch} {E : ev_E} (hE : Eok E) (hm : eM E = 2) {a1 : Int} (ca1 : wr a1 = a1) {σ : st_S} {Q : Int → st_S → Prop}, rc_X11_sumOf a1 σ Q → cM l yX11_sumOf cX11_sumOf 7 (some .long) E (3 + d) 0 0 [vR E 0, vI a1] σ (qL E (gN σ + 0) Q)) {rc_X11_termOf : Int → st_S → (Int → st_S → Prop) → Prop} (hr_X11_termOf : ∀ {l : Launch} {E : ev_E} (hE : Eok E) (hm : eM E = 2) {a1 : Int} (ca1 : wr a1 = a1) {σ : st_S} {Q : Int → st_S → Prop}, rc_X11_termOf a1 σ Q → cM l yX11_termOf cX11_termOf 7 (some .long) E (3 + d) 0 0 [vR E 0, vI a1] σ (qL E (gN σ + 0) Q)) {l1 : Int} {l2 : Int} (cl1 : wr l1 = l1) (cl2 : wr l2 = l2) {σ : st_S} (h : B_X11_partOf_63 Q rc_X11_partOf rc_X11_sumOf rc_X11_termOf l1 l2 σ) : J X E 4 n0 0 0 (MQ (xB X) (qL E (n0 + 0) Q) (xA X) (xS X) 0 0 (eF E)) σ 63 [(0, vR E 0), (1, vI l1), (2, vI l2)] [] := by
  have hh1 : 1 ≤ hN := by omega
  replace h : ix (wr (3066 + gI σ 0 22)) 5866 ∧ ∀ x63 : Int, x63 = gI σ 2 (Int.toNat (wr (3066 + gI σ 0 22))) → ∀ x65 : Int, x65 = wr (gI σ 0 22 + 1) → ∀ s66 : st_S, s66 = sI σ 0 22 x65 → B_X11_partOf_87 Q rc_X11_partOf rc_X11_sumOf rc_X11_termOf l1 l2 x63 s66 := h
  refine j_aload_nR hc 0 dX11_partOf_63 rfl rfl ?_
  refine j_getR (c' := 2) hc fl_RX11_24 rfl rfl (fun hv => (sv_k hv hm rfl)) dX11_partOf_64 ?_
  refine j_sipush hc dX11_partOf_67 (by decide) ?_
  refine j_aload_nR hc 0 dX11_partOf_70 rfl rfl ?_
  refine j_getI hc fl_RX11_248 (Or.inl rfl) (fun hv => Or.inl (sv_k hv hm rfl)) dX11_partOf_71 (fun cn60 => ?_)
  refine j_iadd hc dX11_partOf_74 ?_
  obtain ⟨b61, h⟩ := h
  refine j_iald (jn := (Int.toNat (wr (3066 + gI σ 0 22)))) hc (fun hv => sv_kl hv hm rfl) rfl b61 rfl dX11_partOf_75 (fun cn62 => ?_)
  refine j_c cn62 (fun x63 ex63 cx63 => ?_)
  replace h := h x63 ex63
  refine j_istore_n (lv' := [(3, vI x63), (0, vR E 0), (1, vI l1), (2, vI l2)]) hc dX11_partOf_76 rfl (by decide) rfl ?_
  refine j_aload_nR hc 1 dX11_partOf_77 rfl rfl ?_
  refine j_dup hc dX11_partOf_78 rfl ?_
  refine j_getI hc fl_RX11_248 (Or.inl rfl) (fun hv => Or.inl (sv_k hv hm rfl)) dX11_partOf_79 (fun cn64 => ?_)
  refine j_iconst hc dX11_partOf_82 ?_
  refine j_iadd hc dX11_partOf_83 ?_
  refine j_w (fun x65 ex65 cx65 => ?_)
  replace h := h x65 ex65
  refine j_putI hc fl_RX11_248 rfl rfl (fun hv => Or.inl (sv_k hv hm rfl)) cx65 dX11_partOf_84 (fun s66 es66 => ?_)
  replace h := h s66 es66
  refine j_sub (lv' := [(0, vR E 0), (1, vI l1), (2, vI l2), (3, vI x63)]) [1, 2, 3, 0] rfl ?_
  exact jb_X11_partOf_87 hc hm hr hh hr_X11_partOf hr_X11_sumOf hr_X11_termOf cl1 cl2 cx63 h
set_option maxRecDepth 20000 in
theorem ce_X11_partOf {d : Nat} {rc_X11_partOf : Int → st_S → (Int → st_S → Prop) → Prop} (hr_X11_partOf : ∀ {l : Launch} {E : ev_E} (hE : Eok E) (hm : eM E = 2) {a1 : Int} (ca1 : wr a1 = a1) {σ : st_S} {Q : Int → st_S → Prop}, rc_X11_partOf a1 σ Q → cM l yX11_partOf cX11_partOf 4 (some .long) E (3 + d) 0 0 [vR E 0, vI a1] σ (qL E (gN σ + 0) Q)) {rc_X11_sumOf : Int → st_S → (Int → st_S → Prop) → Prop} (hr_X11_sumOf : ∀ {l : Launch} {E : ev_E} (hE : Eok E) (hm : eM E = 2) {a1 : Int} (ca1 : wr a1 = a1) {σ : st_S} {Q : Int → st_S → Prop}, rc_X11_sumOf a1 σ Q → cM l yX11_sumOf cX11_sumOf 7 (some .long) E (3 + d) 0 0 [vR E 0, vI a1] σ (qL E (gN σ + 0) Q)) {rc_X11_termOf : Int → st_S → (Int → st_S → Prop) → Prop} (hr_X11_termOf : ∀ {l : Launch} {E : ev_E} (hE : Eok E) (hm : eM E = 2) {a1 : Int} (ca1 : wr a1 = a1) {σ : st_S} {Q : Int → st_S → Prop}, rc_X11_termOf a1 σ Q → cM l yX11_termOf cX11_termOf 7 (some .long) E (3 + d) 0 0 [vR E 0, vI a1] σ (qL E (gN σ + 0) Q)) {l : Launch} {E : ev_E} (hE : Eok E) (hm : eM E = 2) {a1 : Int} (ca1 : wr a1 = a1) {σ : st_S} {Q : Int → st_S → Prop} (h : e_X11_partOf rc_X11_partOf rc_X11_sumOf rc_X11_termOf a1 σ Q) : cM l yX11_partOf cX11_partOf 4 (some .long) E (3 + (d + 1)) 0 0 [vR E 0, vI a1] σ (qL E (gN σ + 0) Q) := by
  refine cM_of (lv := [(0, vR E 0), (1, vI a1)]) (by decide) hE (Nat.le_of_ble_eq_true rfl) (rfl) ?_
  intro X hX hc _ _ hr _ _
  subst hX
  have hh : 3 + (d + 1) ≤ 3 + (d + 1) := Nat.le_refl _
  have hh1 : 1 ≤ 3 + (d + 1) := by omega
  replace h : wp_X11_sign 91 σ (fun r67 s68 => wp_X11_passes0 r67 s68 (fun r69 s70 => (r69 = 0 → wp_X11_codeAt (gI s70 0 22) s70 (fun r72 s73 => ∀ x75 : Int, x75 = wr (gI s73 0 22 + 1) → ∀ s76 : st_S, s76 = sI s73 0 22 x75 → (r72 = 24 → B_X11_partOf_63 Q rc_X11_partOf rc_X11_sumOf rc_X11_termOf a1 r72 s76) ∧ (¬ r72 = 24 → (¬ r72 = 25 → B_X11_partOf_87 Q rc_X11_partOf rc_X11_sumOf rc_X11_termOf a1 r72 0 s76) ∧ (r72 = 25 → B_X11_partOf_63 Q rc_X11_partOf rc_X11_sumOf rc_X11_termOf a1 r72 s76)))) ∧ (¬ r69 = 0 → rc_X11_sumOf a1 s70 (fun r79 s80 => ∀ x82 : Int, x82 = wr (gI s80 0 22 + 1) → ∀ s83 : st_S, s83 = sI s80 0 22 x82 → Q r79 s83)))) := h
  refine j_aload_nR hc 0 dX11_partOf_0 rfl rfl ?_
  refine j_bipush hc dX11_partOf_1 (by decide) ?_
  refine j_sI hc ml_RX11_210 mv_X11_sign (As := [vI 91]) (c_X11_sign (cx_E hc) hm (wlit 91 (by decide)) h) rfl (by omega) (by decide) ⟨Nat.zero_le _, Nat.zero_le _⟩ (Nat.le_of_ble_eq_true rfl) rfl dX11_partOf_3 (fun r67 s68 cr67 h => ?_)
  refine j_vI hc (k := 11) (by decide) (fun hv => Or.inl (sv_k hv hm rfl)) ml_RX11_272 mv_X11_passes0 (As := [vI r67]) (c_X11_passes0 (cx_E hc) hm cr67 h) rfl (by omega) (by decide) ⟨Nat.zero_le _, Nat.zero_le _⟩ (Nat.le_of_ble_eq_true rfl) rfl dX11_partOf_6 (fun r69 s70 cr69 h => ?_)
  refine j_if_eq hc cr69 (tgt := 30) dX11_partOf_9 (by decide) (fun q84 => ?_) (fun q84 => ?_)
  · replace h := h.1 q84
    refine j_aload_nR hc 0 dX11_partOf_30 rfl rfl ?_
    refine j_aload_nR hc 0 dX11_partOf_31 rfl rfl ?_
    refine j_getI hc fl_RX11_248 (Or.inl rfl) (fun hv => Or.inl (sv_k hv hm rfl)) dX11_partOf_32 (fun cn71 => ?_)
    refine j_vI hc (k := 11) (by decide) (fun hv => Or.inl (sv_k hv hm rfl)) ml_RX11_251 mv_X11_codeAt (As := [vI (gI s70 0 22)]) (c_X11_codeAt (cx_E hc) hm cn71 h) rfl (by omega) (by decide) ⟨Nat.zero_le _, Nat.zero_le _⟩ (Nat.le_of_ble_eq_true rfl) rfl dX11_partOf_35 (fun r72 s73 cr72 h => ?_)
    refine j_istore_n (lv' := [(2, vI r72), (0, vR E 0), (1, vI a1)]) hc dX11_partOf_38 rfl (by decide) rfl ?_
    refine j_iconst hc dX11_partOf_39 ?_
    refine j_istore_n (lv' := [(3, vI 0), (2, vI r72), (0, vR E 0), (1, vI a1)]) hc dX11_partOf_40 rfl (by decide) rfl ?_
    refine j_aload_nR hc 2 dX11_partOf_41 rfl rfl ?_
    refine j_dup hc dX11_partOf_42 rfl ?_
    refine j_getI hc fl_RX11_248 (Or.inl rfl) (fun hv => Or.inl (sv_k hv hm rfl)) dX11_partOf_43 (fun cn74 => ?_)
    refine j_iconst hc dX11_partOf_46 ?_
    refine j_iadd hc dX11_partOf_47 ?_
    refine j_w (fun x75 ex75 cx75 => ?_)
    replace h := h x75 ex75
    refine j_putI hc fl_RX11_248 rfl rfl (fun hv => Or.inl (sv_k hv hm rfl)) cx75 dX11_partOf_48 (fun s76 es76 => ?_)
    replace h := h s76 es76
    refine j_iload_n hc 1 dX11_partOf_51 rfl rfl ?_
    refine j_bipush hc dX11_partOf_52 (by decide) ?_
    refine j_ic_eq hc cr72 (wlit 24 (by decide)) (tgt := 63) dX11_partOf_54 (by decide) (fun q78 => ?_) (fun q78 => ?_)
    · replace h := h.1 q78
      refine j_sub (lv' := [(0, vR E 0), (1, vI a1), (2, vI r72)]) [2, 3, 1] rfl ?_
      exact jb_X11_partOf_63 hc hm hr hh hr_X11_partOf hr_X11_sumOf hr_X11_termOf ca1 cr72 h
    · replace h := h.2 q78
      refine j_iload_n hc 1 dX11_partOf_57 rfl rfl ?_
      refine j_bipush hc dX11_partOf_58 (by decide) ?_
      refine j_ic_ne hc cr72 (wlit 25 (by decide)) (tgt := 87) dX11_partOf_60 (by decide) (fun q77 => ?_) (fun q77 => ?_)
      · replace h := h.1 q77
        refine j_sub (lv' := [(0, vR E 0), (1, vI a1), (2, vI r72), (3, vI 0)]) [2, 3, 1, 0] rfl ?_
        exact jb_X11_partOf_87 hc hm hr hh hr_X11_partOf hr_X11_sumOf hr_X11_termOf ca1 cr72 (wlit 0 (by decide)) h
      · replace h := h.2 q77
        refine j_sub (lv' := [(0, vR E 0), (1, vI a1), (2, vI r72)]) [2, 3, 1] rfl ?_
        exact jb_X11_partOf_63 hc hm hr hh hr_X11_partOf hr_X11_sumOf hr_X11_termOf ca1 cr72 h
  · replace h := h.2 q84
    refine j_aload_nR hc 0 dX11_partOf_12 rfl rfl ?_
    refine j_iload_n hc 1 dX11_partOf_13 rfl rfl ?_
    refine j_vL hc (k := 11) (by decide) (fun hv => Or.inl (sv_k hv hm rfl)) ml_RX11_275 mv_X11_sumOf (As := [vI a1]) (hr_X11_sumOf (cx_E hc) hm ca1 h) rfl (by omega) (by decide) ⟨Nat.zero_le _, Nat.zero_le _⟩ (Nat.le_of_ble_eq_true rfl) rfl dX11_partOf_14 (fun r79 s80 cr79 h => ?_)
    refine j_lstore_n (lv' := [(2, vL r79), (0, vR E 0), (1, vI a1)]) hc dX11_partOf_17 rfl (by decide) rfl ?_
    refine j_aload_nR hc 1 dX11_partOf_18 rfl rfl ?_
    refine j_dup hc dX11_partOf_19 rfl ?_
    refine j_getI hc fl_RX11_248 (Or.inl rfl) (fun hv => Or.inl (sv_k hv hm rfl)) dX11_partOf_20 (fun cn81 => ?_)
    refine j_iconst hc dX11_partOf_23 ?_
    refine j_iadd hc dX11_partOf_24 ?_
    refine j_w (fun x82 ex82 cx82 => ?_)
    replace h := h x82 ex82
    refine j_putI hc fl_RX11_248 rfl rfl (fun hv => Or.inl (sv_k hv hm rfl)) cx82 dX11_partOf_25 (fun s83 es83 => ?_)
    replace h := h s83 es83
    refine j_lload_n hc 0 dX11_partOf_28 rfl rfl ?_
    exact j_lret hc hr cr79 h dX11_partOf_29
set_option maxRecDepth 20000 in
theorem jb_X11_sumOf_95 {X : jj_X} {E : ev_E} {n0 hN : Nat} (hc : Cx X E cX11_sumOf 7 n0 hN RX11) (hm : eM E = 2) (hr : (xT X).sig.returnType = (some .long)) {d : Nat} (hh : 3 + (d + 1) ≤ hN) {Q : Int → st_S → Prop} {rc_X11_partOf : Int → st_S → (Int → st_S → Prop) → Prop} (hr_X11_partOf : ∀ {l : Launch} {E : ev_E} (hE : Eok E) (hm : eM E = 2) {a1 : Int} (ca1 : wr a1 = a1) {σ : st_S} {Q : Int → st_S → Prop}, rc_X11_partOf a1 σ Q → cM l yX11_partOf cX11_partOf 4 (some .long) E (3 + d) 0 0 [vR E 0, vI a1] σ (qL E (gN σ + 0) Q)) {rc_X11_sumOf : Int → st_S → (Int → st_S → Prop) → Prop} (hr_X11_sumOf : ∀ {l : Launch} {E : ev_E} (hE : Eok E) (hm : eM E = 2) {a1 : Int} (ca1 : wr a1 = a1) {σ : st_S} {Q : Int → st_S → Prop}, rc_X11_sumOf a1 σ Q → cM l yX11_sumOf cX11_sumOf 7 (some .long) E (3 + d) 0 0 [vR E 0, vI a1] σ (qL E (gN σ + 0) Q)) {rc_X11_termOf : Int → st_S → (Int → st_S → Prop) → Prop} (hr_X11_termOf : ∀ {l : Launch} {E : ev_E} (hE : Eok E) (hm : eM E = 2) {a1 : Int} (ca1 : wr a1 = a1) {σ : st_S} {Q : Int → st_S → Prop}, rc_X11_termOf a1 σ Q → cM l yX11_termOf cX11_termOf 7 (some .long) E (3 + d) 0 0 [vR E 0, vI a1] σ (qL E (gN σ + 0) Q)) {k6 : Int → Int → st_S → Prop} (hk6 : ∀ {l1 : Int} {l2 : Int} (cl1 : wr l1 = l1) (cl2 : wl l2 = l2) {σ : st_S}, k6 l1 l2 σ → J X E 7 n0 0 0 (MQ (xB X) (qL E (n0 + 0) Q) (xA X) (xS X) 0 0 (eF E)) σ 6 [(0, vR E 0), (1, vI l1), (2, vL l2)] []) {l1 : Int} {v0 : Int} (cl1 : wr l1 = l1) (cv0 : wl v0 = v0) {σ : st_S} (h : B_X11_sumOf_95 Q rc_X11_partOf rc_X11_sumOf rc_X11_termOf k6 l1 v0 σ) : J X E 7 n0 0 0 (MQ (xB X) (qL E (n0 + 0) Q) (xA X) (xS X) 0 0 (eF E)) σ 95 [(0, vR E 0), (1, vI l1)] [vL v0, vR E 0] := by
  have hh1 : 1 ≤ hN := by omega
  replace h : wp_X11_bounded v0 l1 σ (fun r29 s30 => k6 l1 r29 s30) := h
  refine j_iload_n hc 1 dX11_sumOf_95 rfl rfl ?_
  refine j_vL hc (k := 11) (by decide) (fun hv => Or.inl (sv_k hv hm rfl)) ml_RX11_265 mv_X11_bounded (As := [vL v0, vI l1]) (c_X11_bounded (cx_E hc) hm cv0 cl1 h) rfl (by omega) (by decide) ⟨Nat.zero_le _, Nat.zero_le _⟩ (Nat.le_of_ble_eq_true rfl) rfl dX11_sumOf_96 (fun r29 s30 cr29 h => ?_)
  refine j_lstore_n (lv' := [(2, vL r29), (0, vR E 0), (1, vI l1)]) hc dX11_sumOf_99 rfl (by decide) rfl ?_
  refine j_goto (tgt := 6) hc dX11_sumOf_100 (by decide) ?_
  refine j_sub (lv' := [(0, vR E 0), (1, vI l1), (2, vL r29)]) [1, 2, 0] rfl ?_
  exact hk6 cl1 cr29 h
set_option maxRecDepth 20000 in
theorem jb_X11_sumOf_59 {X : jj_X} {E : ev_E} {n0 hN : Nat} (hc : Cx X E cX11_sumOf 7 n0 hN RX11) (hm : eM E = 2) (hr : (xT X).sig.returnType = (some .long)) {d : Nat} (hh : 3 + (d + 1) ≤ hN) {Q : Int → st_S → Prop} {rc_X11_partOf : Int → st_S → (Int → st_S → Prop) → Prop} (hr_X11_partOf : ∀ {l : Launch} {E : ev_E} (hE : Eok E) (hm : eM E = 2) {a1 : Int} (ca1 : wr a1 = a1) {σ : st_S} {Q : Int → st_S → Prop}, rc_X11_partOf a1 σ Q → cM l yX11_partOf cX11_partOf 4 (some .long) E (3 + d) 0 0 [vR E 0, vI a1] σ (qL E (gN σ + 0) Q)) {rc_X11_sumOf : Int → st_S → (Int → st_S → Prop) → Prop} (hr_X11_sumOf : ∀ {l : Launch} {E : ev_E} (hE : Eok E) (hm : eM E = 2) {a1 : Int} (ca1 : wr a1 = a1) {σ : st_S} {Q : Int → st_S → Prop}, rc_X11_sumOf a1 σ Q → cM l yX11_sumOf cX11_sumOf 7 (some .long) E (3 + d) 0 0 [vR E 0, vI a1] σ (qL E (gN σ + 0) Q)) {rc_X11_termOf : Int → st_S → (Int → st_S → Prop) → Prop} (hr_X11_termOf : ∀ {l : Launch} {E : ev_E} (hE : Eok E) (hm : eM E = 2) {a1 : Int} (ca1 : wr a1 = a1) {σ : st_S} {Q : Int → st_S → Prop}, rc_X11_termOf a1 σ Q → cM l yX11_termOf cX11_termOf 7 (some .long) E (3 + d) 0 0 [vR E 0, vI a1] σ (qL E (gN σ + 0) Q)) {k6 : Int → Int → st_S → Prop} (hk6 : ∀ {l1 : Int} {l2 : Int} (cl1 : wr l1 = l1) (cl2 : wl l2 = l2) {σ : st_S}, k6 l1 l2 σ → J X E 7 n0 0 0 (MQ (xB X) (qL E (n0 + 0) Q) (xA X) (xS X) 0 0 (eF E)) σ 6 [(0, vR E 0), (1, vI l1), (2, vL l2)] []) {l1 : Int} {l2 : Int} {v0 : Int} (cl1 : wr l1 = l1) (cl2 : wl l2 = l2) (cv0 : wr v0 = v0) {σ : st_S} (h : B_X11_sumOf_59 Q rc_X11_partOf rc_X11_sumOf rc_X11_termOf k6 l1 l2 v0 σ) : J X E 7 n0 0 0 (MQ (xB X) (qL E (n0 + 0) Q) (xA X) (xS X) 0 0 (eF E)) σ 59 [(0, vR E 0), (1, vI l1), (2, vL l2)] [vI v0] := by
  have hh1 : 1 ≤ hN := by omega
  replace h : ∀ x32 : Int, x32 = wr (gI σ 0 22 + 1) → ∀ s33 : st_S, s33 = sI σ 0 22 x32 → rc_X11_termOf l1 s33 (fun r34 s35 => (v0 = 0 → ∀ x36 : Int, x36 = wl (l2 - r34) → B_X11_sumOf_95 Q rc_X11_partOf rc_X11_sumOf rc_X11_termOf k6 l1 x36 s35) ∧ (¬ v0 = 0 → ∀ x37 : Int, x37 = wl (l2 + r34) → B_X11_sumOf_95 Q rc_X11_partOf rc_X11_sumOf rc_X11_termOf k6 l1 x37 s35)) := h
  refine j_istore (lv' := [(4, vI v0), (0, vR E 0), (1, vI l1), (2, vL l2)]) hc dX11_sumOf_59 (by decide) rfl ?_
  refine j_aload_nR hc 1 dX11_sumOf_61 rfl rfl ?_
  refine j_dup hc dX11_sumOf_62 rfl ?_
  refine j_getI hc fl_RX11_248 (Or.inl rfl) (fun hv => Or.inl (sv_k hv hm rfl)) dX11_sumOf_63 (fun cn31 => ?_)
  refine j_iconst hc dX11_sumOf_66 ?_
  refine j_iadd hc dX11_sumOf_67 ?_
  refine j_w (fun x32 ex32 cx32 => ?_)
  replace h := h x32 ex32
  refine j_putI hc fl_RX11_248 rfl rfl (fun hv => Or.inl (sv_k hv hm rfl)) cx32 dX11_sumOf_68 (fun s33 es33 => ?_)
  replace h := h s33 es33
  refine j_aload_nR hc 1 dX11_sumOf_71 rfl rfl ?_
  refine j_iload_n hc 2 dX11_sumOf_72 rfl rfl ?_
  refine j_vL hc (k := 11) (by decide) (fun hv => Or.inl (sv_k hv hm rfl)) ml_RX11_261 mv_X11_termOf (As := [vI l1]) (hr_X11_termOf (cx_E hc) hm cl1 h) rfl (by omega) (by decide) ⟨Nat.zero_le _, Nat.zero_le _⟩ (Nat.le_of_ble_eq_true rfl) rfl dX11_sumOf_73 (fun r34 s35 cr34 h => ?_)
  refine j_lstore (lv' := [(5, vL r34), (4, vI v0), (0, vR E 0), (1, vI l1), (2, vL l2)]) hc dX11_sumOf_76 (by decide) rfl ?_
  refine j_aload_nR hc 2 dX11_sumOf_78 rfl rfl ?_
  refine j_iload hc 1 dX11_sumOf_79 rfl ?_
  refine j_if_eq hc cv0 (tgt := 91) dX11_sumOf_81 (by decide) (fun q38 => ?_) (fun q38 => ?_)
  · replace h := h.1 q38
    refine j_lload_n hc 4 dX11_sumOf_91 rfl rfl ?_
    refine j_lload hc 0 dX11_sumOf_92 rfl ?_
    refine j_lsub hc dX11_sumOf_94 ?_
    refine j_wl (fun x36 ex36 cx36 => ?_)
    replace h := h x36 ex36
    refine j_sub (lv' := [(0, vR E 0), (1, vI l1)]) [2, 3] rfl ?_
    exact jb_X11_sumOf_95 hc hm hr hh hr_X11_partOf hr_X11_sumOf hr_X11_termOf hk6 cl1 cx36 h
  · replace h := h.2 q38
    refine j_lload_n hc 4 dX11_sumOf_84 rfl rfl ?_
    refine j_lload hc 0 dX11_sumOf_85 rfl ?_
    refine j_ladd hc dX11_sumOf_87 ?_
    refine j_goto (tgt := 95) hc dX11_sumOf_88 (by decide) ?_
    refine j_wl (fun x37 ex37 cx37 => ?_)
    replace h := h x37 ex37
    refine j_sub (lv' := [(0, vR E 0), (1, vI l1)]) [2, 3] rfl ?_
    exact jb_X11_sumOf_95 hc hm hr hh hr_X11_partOf hr_X11_sumOf hr_X11_termOf hk6 cl1 cx37 h
set_option maxRecDepth 20000 in
theorem jb_X11_sumOf_38 {X : jj_X} {E : ev_E} {n0 hN : Nat} (hc : Cx X E cX11_sumOf 7 n0 hN RX11) (hm : eM E = 2) (hr : (xT X).sig.returnType = (some .long)) {d : Nat} (hh : 3 + (d + 1) ≤ hN) {Q : Int → st_S → Prop} {rc_X11_partOf : Int → st_S → (Int → st_S → Prop) → Prop} (hr_X11_partOf : ∀ {l : Launch} {E : ev_E} (hE : Eok E) (hm : eM E = 2) {a1 : Int} (ca1 : wr a1 = a1) {σ : st_S} {Q : Int → st_S → Prop}, rc_X11_partOf a1 σ Q → cM l yX11_partOf cX11_partOf 4 (some .long) E (3 + d) 0 0 [vR E 0, vI a1] σ (qL E (gN σ + 0) Q)) {rc_X11_sumOf : Int → st_S → (Int → st_S → Prop) → Prop} (hr_X11_sumOf : ∀ {l : Launch} {E : ev_E} (hE : Eok E) (hm : eM E = 2) {a1 : Int} (ca1 : wr a1 = a1) {σ : st_S} {Q : Int → st_S → Prop}, rc_X11_sumOf a1 σ Q → cM l yX11_sumOf cX11_sumOf 7 (some .long) E (3 + d) 0 0 [vR E 0, vI a1] σ (qL E (gN σ + 0) Q)) {rc_X11_termOf : Int → st_S → (Int → st_S → Prop) → Prop} (hr_X11_termOf : ∀ {l : Launch} {E : ev_E} (hE : Eok E) (hm : eM E = 2) {a1 : Int} (ca1 : wr a1 = a1) {σ : st_S} {Q : Int → st_S → Prop}, rc_X11_termOf a1 σ Q → cM l yX11_termOf cX11_termOf 7 (some .long) E (3 + d) 0 0 [vR E 0, vI a1] σ (qL E (gN σ + 0) Q)) {k6 : Int → Int → st_S → Prop} (hk6 : ∀ {l1 : Int} {l2 : Int} (cl1 : wr l1 = l1) (cl2 : wl l2 = l2) {σ : st_S}, k6 l1 l2 σ → J X E 7 n0 0 0 (MQ (xB X) (qL E (n0 + 0) Q) (xA X) (xS X) 0 0 (eF E)) σ 6 [(0, vR E 0), (1, vI l1), (2, vL l2)] []) {l1 : Int} {l2 : Int} (cl1 : wr l1 = l1) (cl2 : wl l2 = l2) {σ : st_S} (h : B_X11_sumOf_38 Q rc_X11_partOf rc_X11_sumOf rc_X11_termOf k6 l1 l2 σ) : J X E 7 n0 0 0 (MQ (xB X) (qL E (n0 + 0) Q) (xA X) (xS X) 0 0 (eF E)) σ 38 [(0, vR E 0), (1, vI l1), (2, vL l2)] [] := by
  have hh1 : 1 ≤ hN := by omega
  replace h : wp_X11_codeAt (gI σ 0 22) σ (fun r40 s41 => wp_X11_sign 43 s41 (fun r42 s43 => (¬ r40 = r42 → B_X11_sumOf_59 Q rc_X11_partOf rc_X11_sumOf rc_X11_termOf k6 l1 l2 0 s43) ∧ (r40 = r42 → B_X11_sumOf_59 Q rc_X11_partOf rc_X11_sumOf rc_X11_termOf k6 l1 l2 1 s43))) := h
  refine j_aload_nR hc 0 dX11_sumOf_38 rfl rfl ?_
  refine j_aload_nR hc 0 dX11_sumOf_39 rfl rfl ?_
  refine j_getI hc fl_RX11_248 (Or.inl rfl) (fun hv => Or.inl (sv_k hv hm rfl)) dX11_sumOf_40 (fun cn39 => ?_)
  refine j_vI hc (k := 11) (by decide) (fun hv => Or.inl (sv_k hv hm rfl)) ml_RX11_251 mv_X11_codeAt (As := [vI (gI σ 0 22)]) (c_X11_codeAt (cx_E hc) hm cn39 h) rfl (by omega) (by decide) ⟨Nat.zero_le _, Nat.zero_le _⟩ (Nat.le_of_ble_eq_true rfl) rfl dX11_sumOf_43 (fun r40 s41 cr40 h => ?_)
  refine j_bipush hc dX11_sumOf_46 (by decide) ?_
  refine j_sI hc ml_RX11_210 mv_X11_sign (As := [vI 43]) (c_X11_sign (cx_E hc) hm (wlit 43 (by decide)) h) rfl (by omega) (by decide) ⟨Nat.zero_le _, Nat.zero_le _⟩ (Nat.le_of_ble_eq_true rfl) rfl dX11_sumOf_48 (fun r42 s43 cr42 h => ?_)
  refine j_ic_ne hc cr40 cr42 (tgt := 58) dX11_sumOf_51 (by decide) (fun q44 => ?_) (fun q44 => ?_)
  · replace h := h.1 q44
    refine j_iconst hc dX11_sumOf_58 ?_
    refine j_sub (lv' := [(0, vR E 0), (1, vI l1), (2, vL l2)]) [0, 1, 2] rfl ?_
    exact jb_X11_sumOf_59 hc hm hr hh hr_X11_partOf hr_X11_sumOf hr_X11_termOf hk6 cl1 cl2 (wlit 0 (by decide)) h
  · replace h := h.2 q44
    refine j_iconst hc dX11_sumOf_54 ?_
    refine j_goto (tgt := 59) hc dX11_sumOf_55 (by decide) ?_
    refine j_sub (lv' := [(0, vR E 0), (1, vI l1), (2, vL l2)]) [0, 1, 2] rfl ?_
    exact jb_X11_sumOf_59 hc hm hr hh hr_X11_partOf hr_X11_sumOf hr_X11_termOf hk6 cl1 cl2 (wlit 1 (by decide)) h
set_option maxRecDepth 20000 in
theorem jl_X11_sumOf_6 {X : jj_X} {E : ev_E} {n0 hN : Nat} (hc : Cx X E cX11_sumOf 7 n0 hN RX11) (hm : eM E = 2) (hr : (xT X).sig.returnType = (some .long)) {d : Nat} (hh : 3 + (d + 1) ≤ hN) {Q : Int → st_S → Prop} {rc_X11_partOf : Int → st_S → (Int → st_S → Prop) → Prop} (hr_X11_partOf : ∀ {l : Launch} {E : ev_E} (hE : Eok E) (hm : eM E = 2) {a1 : Int} (ca1 : wr a1 = a1) {σ : st_S} {Q : Int → st_S → Prop}, rc_X11_partOf a1 σ Q → cM l yX11_partOf cX11_partOf 4 (some .long) E (3 + d) 0 0 [vR E 0, vI a1] σ (qL E (gN σ + 0) Q)) {rc_X11_sumOf : Int → st_S → (Int → st_S → Prop) → Prop} (hr_X11_sumOf : ∀ {l : Launch} {E : ev_E} (hE : Eok E) (hm : eM E = 2) {a1 : Int} (ca1 : wr a1 = a1) {σ : st_S} {Q : Int → st_S → Prop}, rc_X11_sumOf a1 σ Q → cM l yX11_sumOf cX11_sumOf 7 (some .long) E (3 + d) 0 0 [vR E 0, vI a1] σ (qL E (gN σ + 0) Q)) {rc_X11_termOf : Int → st_S → (Int → st_S → Prop) → Prop} (hr_X11_termOf : ∀ {l : Launch} {E : ev_E} (hE : Eok E) (hm : eM E = 2) {a1 : Int} (ca1 : wr a1 = a1) {σ : st_S} {Q : Int → st_S → Prop}, rc_X11_termOf a1 σ Q → cM l yX11_termOf cX11_termOf 7 (some .long) E (3 + d) 0 0 [vR E 0, vI a1] σ (qL E (gN σ + 0) Q)) : ∀ (n : Nat) {l1 : Int} {l2 : Int} (cl1 : wr l1 = l1) (cl2 : wl l2 = l2) {σ : st_S}, L_X11_sumOf_6 Q rc_X11_partOf rc_X11_sumOf rc_X11_termOf n l1 l2 σ → J X E 7 n0 0 0 (MQ (xB X) (qL E (n0 + 0) Q) (xA X) (xS X) 0 0 (eF E)) σ 6 [(0, vR E 0), (1, vI l1), (2, vL l2)] [] := by
  have hh1 : 1 ≤ hN := by omega
  intro n
  induction n with
  | zero => intro l1 l2 cl1 cl2 σ h; exact h.elim
  | succ n ih =>
    intro l1 l2 cl1 cl2 σ h
    have hk6 : ∀ {l1 : Int} {l2 : Int} (cl1 : wr l1 = l1) (cl2 : wl l2 = l2) {σ : st_S}, L_X11_sumOf_6 Q rc_X11_partOf rc_X11_sumOf rc_X11_termOf n l1 l2 σ → J X E 7 n0 0 0 (MQ (xB X) (qL E (n0 + 0) Q) (xA X) (xS X) 0 0 (eF E)) σ 6 [(0, vR E 0), (1, vI l1), (2, vL l2)] [] := ih
    replace h : wp_X11_codeAt (gI σ 0 22) σ (fun r46 s47 => wp_X11_sign 43 s47 (fun r48 s49 => (r46 = r48 → B_X11_sumOf_38 Q rc_X11_partOf rc_X11_sumOf rc_X11_termOf (L_X11_sumOf_6 Q rc_X11_partOf rc_X11_sumOf rc_X11_termOf n) l1 l2 s49) ∧ (¬ r46 = r48 → wp_X11_codeAt (gI s49 0 22) s49 (fun r51 s52 => wp_X11_sign 45 s52 (fun r53 s54 => (¬ r51 = r53 → Q l2 s54) ∧ (r51 = r53 → B_X11_sumOf_38 Q rc_X11_partOf rc_X11_sumOf rc_X11_termOf (L_X11_sumOf_6 Q rc_X11_partOf rc_X11_sumOf rc_X11_termOf n) l1 l2 s54)))))) := h
    refine j_aload_nR hc 0 dX11_sumOf_6 rfl rfl ?_
    refine j_aload_nR hc 0 dX11_sumOf_7 rfl rfl ?_
    refine j_getI hc fl_RX11_248 (Or.inl rfl) (fun hv => Or.inl (sv_k hv hm rfl)) dX11_sumOf_8 (fun cn45 => ?_)
    refine j_vI hc (k := 11) (by decide) (fun hv => Or.inl (sv_k hv hm rfl)) ml_RX11_251 mv_X11_codeAt (As := [vI (gI σ 0 22)]) (c_X11_codeAt (cx_E hc) hm cn45 h) rfl (by omega) (by decide) ⟨Nat.zero_le _, Nat.zero_le _⟩ (Nat.le_of_ble_eq_true rfl) rfl dX11_sumOf_11 (fun r46 s47 cr46 h => ?_)
    refine j_bipush hc dX11_sumOf_14 (by decide) ?_
    refine j_sI hc ml_RX11_210 mv_X11_sign (As := [vI 43]) (c_X11_sign (cx_E hc) hm (wlit 43 (by decide)) h) rfl (by omega) (by decide) ⟨Nat.zero_le _, Nat.zero_le _⟩ (Nat.le_of_ble_eq_true rfl) rfl dX11_sumOf_16 (fun r48 s49 cr48 h => ?_)
    refine j_ic_eq hc cr46 cr48 (tgt := 38) dX11_sumOf_19 (by decide) (fun q56 => ?_) (fun q56 => ?_)
    · replace h := h.1 q56
      refine j_sub (lv' := [(0, vR E 0), (1, vI l1), (2, vL l2)]) [0, 1, 2] rfl ?_
      exact jb_X11_sumOf_38 hc hm hr hh hr_X11_partOf hr_X11_sumOf hr_X11_termOf hk6 cl1 cl2 h
    · replace h := h.2 q56
      refine j_aload_nR hc 0 dX11_sumOf_22 rfl rfl ?_
      refine j_aload_nR hc 0 dX11_sumOf_23 rfl rfl ?_
      refine j_getI hc fl_RX11_248 (Or.inl rfl) (fun hv => Or.inl (sv_k hv hm rfl)) dX11_sumOf_24 (fun cn50 => ?_)
      refine j_vI hc (k := 11) (by decide) (fun hv => Or.inl (sv_k hv hm rfl)) ml_RX11_251 mv_X11_codeAt (As := [vI (gI s49 0 22)]) (c_X11_codeAt (cx_E hc) hm cn50 h) rfl (by omega) (by decide) ⟨Nat.zero_le _, Nat.zero_le _⟩ (Nat.le_of_ble_eq_true rfl) rfl dX11_sumOf_27 (fun r51 s52 cr51 h => ?_)
      refine j_bipush hc dX11_sumOf_30 (by decide) ?_
      refine j_sI hc ml_RX11_210 mv_X11_sign (As := [vI 45]) (c_X11_sign (cx_E hc) hm (wlit 45 (by decide)) h) rfl (by omega) (by decide) ⟨Nat.zero_le _, Nat.zero_le _⟩ (Nat.le_of_ble_eq_true rfl) rfl dX11_sumOf_32 (fun r53 s54 cr53 h => ?_)
      refine j_ic_ne hc cr51 cr53 (tgt := 103) dX11_sumOf_35 (by decide) (fun q55 => ?_) (fun q55 => ?_)
      · replace h := h.1 q55
        refine j_lload_n hc 2 dX11_sumOf_103 rfl rfl ?_
        exact j_lret hc hr cl2 h dX11_sumOf_104
      · replace h := h.2 q55
        refine j_sub (lv' := [(0, vR E 0), (1, vI l1), (2, vL l2)]) [0, 1, 2] rfl ?_
        exact jb_X11_sumOf_38 hc hm hr hh hr_X11_partOf hr_X11_sumOf hr_X11_termOf hk6 cl1 cl2 h
set_option maxRecDepth 20000 in
theorem ce_X11_sumOf {d : Nat} {rc_X11_partOf : Int → st_S → (Int → st_S → Prop) → Prop} (hr_X11_partOf : ∀ {l : Launch} {E : ev_E} (hE : Eok E) (hm : eM E = 2) {a1 : Int} (ca1 : wr a1 = a1) {σ : st_S} {Q : Int → st_S → Prop}, rc_X11_partOf a1 σ Q → cM l yX11_partOf cX11_partOf 4 (some .long) E (3 + d) 0 0 [vR E 0, vI a1] σ (qL E (gN σ + 0) Q)) {rc_X11_sumOf : Int → st_S → (Int → st_S → Prop) → Prop} (hr_X11_sumOf : ∀ {l : Launch} {E : ev_E} (hE : Eok E) (hm : eM E = 2) {a1 : Int} (ca1 : wr a1 = a1) {σ : st_S} {Q : Int → st_S → Prop}, rc_X11_sumOf a1 σ Q → cM l yX11_sumOf cX11_sumOf 7 (some .long) E (3 + d) 0 0 [vR E 0, vI a1] σ (qL E (gN σ + 0) Q)) {rc_X11_termOf : Int → st_S → (Int → st_S → Prop) → Prop} (hr_X11_termOf : ∀ {l : Launch} {E : ev_E} (hE : Eok E) (hm : eM E = 2) {a1 : Int} (ca1 : wr a1 = a1) {σ : st_S} {Q : Int → st_S → Prop}, rc_X11_termOf a1 σ Q → cM l yX11_termOf cX11_termOf 7 (some .long) E (3 + d) 0 0 [vR E 0, vI a1] σ (qL E (gN σ + 0) Q)) {l : Launch} {E : ev_E} (hE : Eok E) (hm : eM E = 2) {a1 : Int} (ca1 : wr a1 = a1) {σ : st_S} {Q : Int → st_S → Prop} (h : e_X11_sumOf rc_X11_partOf rc_X11_sumOf rc_X11_termOf a1 σ Q) : cM l yX11_sumOf cX11_sumOf 7 (some .long) E (3 + (d + 1)) 0 0 [vR E 0, vI a1] σ (qL E (gN σ + 0) Q) := by
  refine cM_of (lv := [(0, vR E 0), (1, vI a1)]) (by decide) hE (Nat.le_of_ble_eq_true rfl) (rfl) ?_
  intro X hX hc _ _ hr _ _
  subst hX
  have hh : 3 + (d + 1) ≤ 3 + (d + 1) := Nat.le_refl _
  have hh1 : 1 ≤ 3 + (d + 1) := by omega
  replace h : rc_X11_termOf a1 σ (fun r57 s58 => ∃ m6 : Nat, L_X11_sumOf_6 Q rc_X11_partOf rc_X11_sumOf rc_X11_termOf m6 a1 r57 s58) := h
  refine j_aload_nR hc 0 dX11_sumOf_0 rfl rfl ?_
  refine j_iload_n hc 1 dX11_sumOf_1 rfl rfl ?_
  refine j_vL hc (k := 11) (by decide) (fun hv => Or.inl (sv_k hv hm rfl)) ml_RX11_261 mv_X11_termOf (As := [vI a1]) (hr_X11_termOf (cx_E hc) hm ca1 h) rfl (by omega) (by decide) ⟨Nat.zero_le _, Nat.zero_le _⟩ (Nat.le_of_ble_eq_true rfl) rfl dX11_sumOf_2 (fun r57 s58 cr57 h => ?_)
  refine j_lstore_n (lv' := [(2, vL r57), (0, vR E 0), (1, vI a1)]) hc dX11_sumOf_5 rfl (by decide) rfl ?_
  obtain ⟨n6, h⟩ := h
  refine j_sub (lv' := [(0, vR E 0), (1, vI a1), (2, vL r57)]) [1, 2, 0] rfl ?_
  exact jl_X11_sumOf_6 hc hm hr hh hr_X11_partOf hr_X11_sumOf hr_X11_termOf n6 ca1 cr57 h
set_option maxRecDepth 20000 in
theorem jb_X11_termOf_160 {X : jj_X} {E : ev_E} {n0 hN : Nat} (hc : Cx X E cX11_termOf 7 n0 hN RX11) (hm : eM E = 2) (hr : (xT X).sig.returnType = (some .long)) {d : Nat} (hh : 3 + (d + 1) ≤ hN) {Q : Int → st_S → Prop} {rc_X11_partOf : Int → st_S → (Int → st_S → Prop) → Prop} (hr_X11_partOf : ∀ {l : Launch} {E : ev_E} (hE : Eok E) (hm : eM E = 2) {a1 : Int} (ca1 : wr a1 = a1) {σ : st_S} {Q : Int → st_S → Prop}, rc_X11_partOf a1 σ Q → cM l yX11_partOf cX11_partOf 4 (some .long) E (3 + d) 0 0 [vR E 0, vI a1] σ (qL E (gN σ + 0) Q)) {rc_X11_sumOf : Int → st_S → (Int → st_S → Prop) → Prop} (hr_X11_sumOf : ∀ {l : Launch} {E : ev_E} (hE : Eok E) (hm : eM E = 2) {a1 : Int} (ca1 : wr a1 = a1) {σ : st_S} {Q : Int → st_S → Prop}, rc_X11_sumOf a1 σ Q → cM l yX11_sumOf cX11_sumOf 7 (some .long) E (3 + d) 0 0 [vR E 0, vI a1] σ (qL E (gN σ + 0) Q)) {rc_X11_termOf : Int → st_S → (Int → st_S → Prop) → Prop} (hr_X11_termOf : ∀ {l : Launch} {E : ev_E} (hE : Eok E) (hm : eM E = 2) {a1 : Int} (ca1 : wr a1 = a1) {σ : st_S} {Q : Int → st_S → Prop}, rc_X11_termOf a1 σ Q → cM l yX11_termOf cX11_termOf 7 (some .long) E (3 + d) 0 0 [vR E 0, vI a1] σ (qL E (gN σ + 0) Q)) {k6 : Int → Int → st_S → Prop} (hk6 : ∀ {l1 : Int} {l2 : Int} (cl1 : wr l1 = l1) (cl2 : wl l2 = l2) {σ : st_S}, k6 l1 l2 σ → J X E 7 n0 0 0 (MQ (xB X) (qL E (n0 + 0) Q) (xA X) (xS X) 0 0 (eF E)) σ 6 [(0, vR E 0), (1, vI l1), (2, vL l2)] []) {l1 : Int} {v0 : Int} (cl1 : wr l1 = l1) (cv0 : wl v0 = v0) {σ : st_S} (h : B_X11_termOf_160 Q rc_X11_partOf rc_X11_sumOf rc_X11_termOf k6 l1 v0 σ) : J X E 7 n0 0 0 (MQ (xB X) (qL E (n0 + 0) Q) (xA X) (xS X) 0 0 (eF E)) σ 160 [(0, vR E 0), (1, vI l1)] [vL v0, vR E 0] := by
  have hh1 : 1 ≤ hN := by omega
  replace h : wp_X11_bounded v0 l1 σ (fun r45 s46 => k6 l1 r45 s46) := h
  refine j_iload_n hc 1 dX11_termOf_160 rfl rfl ?_
  refine j_vL hc (k := 11) (by decide) (fun hv => Or.inl (sv_k hv hm rfl)) ml_RX11_265 mv_X11_bounded (As := [vL v0, vI l1]) (c_X11_bounded (cx_E hc) hm cv0 cl1 h) rfl (by omega) (by decide) ⟨Nat.zero_le _, Nat.zero_le _⟩ (Nat.le_of_ble_eq_true rfl) rfl dX11_termOf_161 (fun r45 s46 cr45 h => ?_)
  refine j_lstore_n (lv' := [(2, vL r45), (0, vR E 0), (1, vI l1)]) hc dX11_termOf_164 rfl (by decide) rfl ?_
  refine j_goto (tgt := 6) hc dX11_termOf_165 (by decide) ?_
  refine j_sub (lv' := [(0, vR E 0), (1, vI l1), (2, vL r45)]) [1, 2, 0] rfl ?_
  exact hk6 cl1 cr45 h
set_option maxRecDepth 20000 in
theorem jb_X11_termOf_121 {X : jj_X} {E : ev_E} {n0 hN : Nat} (hc : Cx X E cX11_termOf 7 n0 hN RX11) (hm : eM E = 2) (hr : (xT X).sig.returnType = (some .long)) {d : Nat} (hh : 3 + (d + 1) ≤ hN) {Q : Int → st_S → Prop} {rc_X11_partOf : Int → st_S → (Int → st_S → Prop) → Prop} (hr_X11_partOf : ∀ {l : Launch} {E : ev_E} (hE : Eok E) (hm : eM E = 2) {a1 : Int} (ca1 : wr a1 = a1) {σ : st_S} {Q : Int → st_S → Prop}, rc_X11_partOf a1 σ Q → cM l yX11_partOf cX11_partOf 4 (some .long) E (3 + d) 0 0 [vR E 0, vI a1] σ (qL E (gN σ + 0) Q)) {rc_X11_sumOf : Int → st_S → (Int → st_S → Prop) → Prop} (hr_X11_sumOf : ∀ {l : Launch} {E : ev_E} (hE : Eok E) (hm : eM E = 2) {a1 : Int} (ca1 : wr a1 = a1) {σ : st_S} {Q : Int → st_S → Prop}, rc_X11_sumOf a1 σ Q → cM l yX11_sumOf cX11_sumOf 7 (some .long) E (3 + d) 0 0 [vR E 0, vI a1] σ (qL E (gN σ + 0) Q)) {rc_X11_termOf : Int → st_S → (Int → st_S → Prop) → Prop} (hr_X11_termOf : ∀ {l : Launch} {E : ev_E} (hE : Eok E) (hm : eM E = 2) {a1 : Int} (ca1 : wr a1 = a1) {σ : st_S} {Q : Int → st_S → Prop}, rc_X11_termOf a1 σ Q → cM l yX11_termOf cX11_termOf 7 (some .long) E (3 + d) 0 0 [vR E 0, vI a1] σ (qL E (gN σ + 0) Q)) {k6 : Int → Int → st_S → Prop} (hk6 : ∀ {l1 : Int} {l2 : Int} (cl1 : wr l1 = l1) (cl2 : wl l2 = l2) {σ : st_S}, k6 l1 l2 σ → J X E 7 n0 0 0 (MQ (xB X) (qL E (n0 + 0) Q) (xA X) (xS X) 0 0 (eF E)) σ 6 [(0, vR E 0), (1, vI l1), (2, vL l2)] []) {l1 : Int} {l2 : Int} {l4 : Int} {l5 : Int} (cl1 : wr l1 = l1) (cl2 : wl l2 = l2) (cl4 : wr l4 = l4) (cl5 : wl l5 = l5) {σ : st_S} (h : B_X11_termOf_121 Q rc_X11_partOf rc_X11_sumOf rc_X11_termOf k6 l1 l2 l4 l5 σ) : J X E 7 n0 0 0 (MQ (xB X) (qL E (n0 + 0) Q) (xA X) (xS X) 0 0 (eF E)) σ 121 [(0, vR E 0), (1, vI l1), (2, vL l2), (4, vI l4), (5, vL l5)] [] := by
  have hh1 : 1 ≤ hN := by omega
  replace h : wp_X11_sign 42 σ (fun r47 s48 => (¬ l4 = r47 → wp_X11_sign 47 s48 (fun r49 s50 => (¬ l4 = r49 → ¬ l5 = 0 ∧ B_X11_termOf_160 Q rc_X11_partOf rc_X11_sumOf rc_X11_termOf k6 l1 (p_rem l2 l5) s50) ∧ (l4 = r49 → ¬ l5 = 0 ∧ B_X11_termOf_160 Q rc_X11_partOf rc_X11_sumOf rc_X11_termOf k6 l1 (p_div l2 l5) s50))) ∧ (l4 = r47 → ∀ x54 : Int, x54 = wl (l2 * l5) → B_X11_termOf_160 Q rc_X11_partOf rc_X11_sumOf rc_X11_termOf k6 l1 x54 s48)) := h
  refine j_aload_nR hc 0 dX11_termOf_121 rfl rfl ?_
  refine j_iload hc 3 dX11_termOf_122 rfl ?_
  refine j_bipush hc dX11_termOf_124 (by decide) ?_
  refine j_sI hc ml_RX11_210 mv_X11_sign (As := [vI 42]) (c_X11_sign (cx_E hc) hm (wlit 42 (by decide)) h) rfl (by omega) (by decide) ⟨Nat.zero_le _, Nat.zero_le _⟩ (Nat.le_of_ble_eq_true rfl) rfl dX11_termOf_126 (fun r47 s48 cr47 h => ?_)
  refine j_ic_ne hc cl4 cr47 (tgt := 139) dX11_termOf_129 (by decide) (fun q55 => ?_) (fun q55 => ?_)
  · replace h := h.1 q55
    refine j_iload hc 3 dX11_termOf_139 rfl ?_
    refine j_bipush hc dX11_termOf_141 (by decide) ?_
    refine j_sI hc ml_RX11_210 mv_X11_sign (As := [vI 47]) (c_X11_sign (cx_E hc) hm (wlit 47 (by decide)) h) rfl (by omega) (by decide) ⟨Nat.zero_le _, Nat.zero_le _⟩ (Nat.le_of_ble_eq_true rfl) rfl dX11_termOf_143 (fun r49 s50 cr49 h => ?_)
    refine j_ic_ne hc cl4 cr49 (tgt := 156) dX11_termOf_146 (by decide) (fun q53 => ?_) (fun q53 => ?_)
    · replace h := h.1 q53
      refine j_lload_n hc 2 dX11_termOf_156 rfl rfl ?_
      refine j_lload hc 4 dX11_termOf_157 rfl ?_
      obtain ⟨z51, h⟩ := h
      refine j_lrem hc dX11_termOf_159 (by rw [cl5]; exact z51) ?_
      refine j_sub (lv' := [(0, vR E 0), (1, vI l1)]) [0, 1] rfl ?_
      exact jb_X11_termOf_160 hc hm hr hh hr_X11_partOf hr_X11_sumOf hr_X11_termOf hk6 cl1 (cl_rem _ _) h
    · replace h := h.2 q53
      refine j_lload_n hc 2 dX11_termOf_149 rfl rfl ?_
      refine j_lload hc 4 dX11_termOf_150 rfl ?_
      obtain ⟨z52, h⟩ := h
      refine j_ldiv hc dX11_termOf_152 (by rw [cl5]; exact z52) ?_
      refine j_goto (tgt := 160) hc dX11_termOf_153 (by decide) ?_
      refine j_sub (lv' := [(0, vR E 0), (1, vI l1)]) [0, 1] rfl ?_
      exact jb_X11_termOf_160 hc hm hr hh hr_X11_partOf hr_X11_sumOf hr_X11_termOf hk6 cl1 (cl_div _ _) h
  · replace h := h.2 q55
    refine j_lload_n hc 2 dX11_termOf_132 rfl rfl ?_
    refine j_lload hc 4 dX11_termOf_133 rfl ?_
    refine j_lmul hc dX11_termOf_135 ?_
    refine j_goto (tgt := 160) hc dX11_termOf_136 (by decide) ?_
    refine j_wl (fun x54 ex54 cx54 => ?_)
    replace h := h x54 ex54
    refine j_sub (lv' := [(0, vR E 0), (1, vI l1)]) [0, 1] rfl ?_
    exact jb_X11_termOf_160 hc hm hr hh hr_X11_partOf hr_X11_sumOf hr_X11_termOf hk6 cl1 cx54 h
set_option maxRecDepth 20000 in
theorem jb_X11_termOf_115 {X : jj_X} {E : ev_E} {n0 hN : Nat} (hc : Cx X E cX11_termOf 7 n0 hN RX11) (hm : eM E = 2) (hr : (xT X).sig.returnType = (some .long)) {d : Nat} (hh : 3 + (d + 1) ≤ hN) {Q : Int → st_S → Prop} {rc_X11_partOf : Int → st_S → (Int → st_S → Prop) → Prop} (hr_X11_partOf : ∀ {l : Launch} {E : ev_E} (hE : Eok E) (hm : eM E = 2) {a1 : Int} (ca1 : wr a1 = a1) {σ : st_S} {Q : Int → st_S → Prop}, rc_X11_partOf a1 σ Q → cM l yX11_partOf cX11_partOf 4 (some .long) E (3 + d) 0 0 [vR E 0, vI a1] σ (qL E (gN σ + 0) Q)) {rc_X11_sumOf : Int → st_S → (Int → st_S → Prop) → Prop} (hr_X11_sumOf : ∀ {l : Launch} {E : ev_E} (hE : Eok E) (hm : eM E = 2) {a1 : Int} (ca1 : wr a1 = a1) {σ : st_S} {Q : Int → st_S → Prop}, rc_X11_sumOf a1 σ Q → cM l yX11_sumOf cX11_sumOf 7 (some .long) E (3 + d) 0 0 [vR E 0, vI a1] σ (qL E (gN σ + 0) Q)) {rc_X11_termOf : Int → st_S → (Int → st_S → Prop) → Prop} (hr_X11_termOf : ∀ {l : Launch} {E : ev_E} (hE : Eok E) (hm : eM E = 2) {a1 : Int} (ca1 : wr a1 = a1) {σ : st_S} {Q : Int → st_S → Prop}, rc_X11_termOf a1 σ Q → cM l yX11_termOf cX11_termOf 7 (some .long) E (3 + d) 0 0 [vR E 0, vI a1] σ (qL E (gN σ + 0) Q)) {k6 : Int → Int → st_S → Prop} (hk6 : ∀ {l1 : Int} {l2 : Int} (cl1 : wr l1 = l1) (cl2 : wl l2 = l2) {σ : st_S}, k6 l1 l2 σ → J X E 7 n0 0 0 (MQ (xB X) (qL E (n0 + 0) Q) (xA X) (xS X) 0 0 (eF E)) σ 6 [(0, vR E 0), (1, vI l1), (2, vL l2)] []) {l1 : Int} {l2 : Int} {l4 : Int} {v0 : Int} (cl1 : wr l1 = l1) (cl2 : wl l2 = l2) (cl4 : wr l4 = l4) (cv0 : wr v0 = v0) {σ : st_S} (h : B_X11_termOf_115 Q rc_X11_partOf rc_X11_sumOf rc_X11_termOf k6 l1 l2 l4 v0 σ) : J X E 7 n0 0 0 (MQ (xB X) (qL E (n0 + 0) Q) (xA X) (xS X) 0 0 (eF E)) σ 115 [(0, vR E 0), (1, vI l1), (2, vL l2), (4, vI l4)] [vI v0, vR E 0] := by
  have hh1 : 1 ≤ hN := by omega
  replace h : (v0 = 0 ∨ v0 = 1) ∧ ∀ s56 : st_S, s56 = sI σ 0 24 v0 → B_X11_termOf_121 Q rc_X11_partOf rc_X11_sumOf rc_X11_termOf k6 l1 l2 l4 1 s56 := h
  obtain ⟨z57, h⟩ := h
  refine j_putZ hc fl_RX11_258 rfl rfl (fun hv => Or.inl (sv_k hv hm rfl)) z57 dX11_termOf_115 (fun s56 es56 => ?_)
  replace h := h s56 es56
  refine j_lconst (x := 1) hc dX11_termOf_118 rfl ?_
  refine j_lstore (lv' := [(5, vL 1), (0, vR E 0), (1, vI l1), (2, vL l2), (4, vI l4)]) hc dX11_termOf_119 (by decide) rfl ?_
  refine j_sub (lv' := [(0, vR E 0), (1, vI l1), (2, vL l2), (4, vI l4), (5, vL 1)]) [1, 2, 3, 4, 0] rfl ?_
  exact jb_X11_termOf_121 hc hm hr hh hr_X11_partOf hr_X11_sumOf hr_X11_termOf hk6 cl1 cl2 cl4 (llit 1 (by decide)) h
set_option maxRecDepth 20000 in
theorem jb_X11_termOf_110 {X : jj_X} {E : ev_E} {n0 hN : Nat} (hc : Cx X E cX11_termOf 7 n0 hN RX11) (hm : eM E = 2) (hr : (xT X).sig.returnType = (some .long)) {d : Nat} (hh : 3 + (d + 1) ≤ hN) {Q : Int → st_S → Prop} {rc_X11_partOf : Int → st_S → (Int → st_S → Prop) → Prop} (hr_X11_partOf : ∀ {l : Launch} {E : ev_E} (hE : Eok E) (hm : eM E = 2) {a1 : Int} (ca1 : wr a1 = a1) {σ : st_S} {Q : Int → st_S → Prop}, rc_X11_partOf a1 σ Q → cM l yX11_partOf cX11_partOf 4 (some .long) E (3 + d) 0 0 [vR E 0, vI a1] σ (qL E (gN σ + 0) Q)) {rc_X11_sumOf : Int → st_S → (Int → st_S → Prop) → Prop} (hr_X11_sumOf : ∀ {l : Launch} {E : ev_E} (hE : Eok E) (hm : eM E = 2) {a1 : Int} (ca1 : wr a1 = a1) {σ : st_S} {Q : Int → st_S → Prop}, rc_X11_sumOf a1 σ Q → cM l yX11_sumOf cX11_sumOf 7 (some .long) E (3 + d) 0 0 [vR E 0, vI a1] σ (qL E (gN σ + 0) Q)) {rc_X11_termOf : Int → st_S → (Int → st_S → Prop) → Prop} (hr_X11_termOf : ∀ {l : Launch} {E : ev_E} (hE : Eok E) (hm : eM E = 2) {a1 : Int} (ca1 : wr a1 = a1) {σ : st_S} {Q : Int → st_S → Prop}, rc_X11_termOf a1 σ Q → cM l yX11_termOf cX11_termOf 7 (some .long) E (3 + d) 0 0 [vR E 0, vI a1] σ (qL E (gN σ + 0) Q)) {k6 : Int → Int → st_S → Prop} (hk6 : ∀ {l1 : Int} {l2 : Int} (cl1 : wr l1 = l1) (cl2 : wl l2 = l2) {σ : st_S}, k6 l1 l2 σ → J X E 7 n0 0 0 (MQ (xB X) (qL E (n0 + 0) Q) (xA X) (xS X) 0 0 (eF E)) σ 6 [(0, vR E 0), (1, vI l1), (2, vL l2)] []) {l1 : Int} {l2 : Int} {l4 : Int} (cl1 : wr l1 = l1) (cl2 : wl l2 = l2) (cl4 : wr l4 = l4) {σ : st_S} (h : B_X11_termOf_110 Q rc_X11_partOf rc_X11_sumOf rc_X11_termOf k6 l1 l2 l4 σ) : J X E 7 n0 0 0 (MQ (xB X) (qL E (n0 + 0) Q) (xA X) (xS X) 0 0 (eF E)) σ 110 [(0, vR E 0), (1, vI l1), (2, vL l2), (4, vI l4)] [vR E 0] := by
  have hh1 : 1 ≤ hN := by omega
  replace h : B_X11_termOf_115 Q rc_X11_partOf rc_X11_sumOf rc_X11_termOf k6 l1 l2 l4 1 σ := h
  refine j_iconst hc dX11_termOf_110 ?_
  refine j_goto (tgt := 115) hc dX11_termOf_111 (by decide) ?_
  refine j_sub (lv' := [(0, vR E 0), (1, vI l1), (2, vL l2), (4, vI l4)]) [0, 1, 2, 3] rfl ?_
  exact jb_X11_termOf_115 hc hm hr hh hr_X11_partOf hr_X11_sumOf hr_X11_termOf hk6 cl1 cl2 cl4 (wlit 1 (by decide)) h
set_option maxRecDepth 20000 in
theorem jb_X11_termOf_54 {X : jj_X} {E : ev_E} {n0 hN : Nat} (hc : Cx X E cX11_termOf 7 n0 hN RX11) (hm : eM E = 2) (hr : (xT X).sig.returnType = (some .long)) {d : Nat} (hh : 3 + (d + 1) ≤ hN) {Q : Int → st_S → Prop} {rc_X11_partOf : Int → st_S → (Int → st_S → Prop) → Prop} (hr_X11_partOf : ∀ {l : Launch} {E : ev_E} (hE : Eok E) (hm : eM E = 2) {a1 : Int} (ca1 : wr a1 = a1) {σ : st_S} {Q : Int → st_S → Prop}, rc_X11_partOf a1 σ Q → cM l yX11_partOf cX11_partOf 4 (some .long) E (3 + d) 0 0 [vR E 0, vI a1] σ (qL E (gN σ + 0) Q)) {rc_X11_sumOf : Int → st_S → (Int → st_S → Prop) → Prop} (hr_X11_sumOf : ∀ {l : Launch} {E : ev_E} (hE : Eok E) (hm : eM E = 2) {a1 : Int} (ca1 : wr a1 = a1) {σ : st_S} {Q : Int → st_S → Prop}, rc_X11_sumOf a1 σ Q → cM l yX11_sumOf cX11_sumOf 7 (some .long) E (3 + d) 0 0 [vR E 0, vI a1] σ (qL E (gN σ + 0) Q)) {rc_X11_termOf : Int → st_S → (Int → st_S → Prop) → Prop} (hr_X11_termOf : ∀ {l : Launch} {E : ev_E} (hE : Eok E) (hm : eM E = 2) {a1 : Int} (ca1 : wr a1 = a1) {σ : st_S} {Q : Int → st_S → Prop}, rc_X11_termOf a1 σ Q → cM l yX11_termOf cX11_termOf 7 (some .long) E (3 + d) 0 0 [vR E 0, vI a1] σ (qL E (gN σ + 0) Q)) {k6 : Int → Int → st_S → Prop} (hk6 : ∀ {l1 : Int} {l2 : Int} (cl1 : wr l1 = l1) (cl2 : wl l2 = l2) {σ : st_S}, k6 l1 l2 σ → J X E 7 n0 0 0 (MQ (xB X) (qL E (n0 + 0) Q) (xA X) (xS X) 0 0 (eF E)) σ 6 [(0, vR E 0), (1, vI l1), (2, vL l2)] []) {l1 : Int} {l2 : Int} (cl1 : wr l1 = l1) (cl2 : wl l2 = l2) {σ : st_S} (h : B_X11_termOf_54 Q rc_X11_partOf rc_X11_sumOf rc_X11_termOf k6 l1 l2 σ) : J X E 7 n0 0 0 (MQ (xB X) (qL E (n0 + 0) Q) (xA X) (xS X) 0 0 (eF E)) σ 54 [(0, vR E 0), (1, vI l1), (2, vL l2)] [] := by
  have hh1 : 1 ≤ hN := by omega
  replace h : wp_X11_codeAt (gI σ 0 22) σ (fun r59 s60 => ∀ x62 : Int, x62 = wr (gI s60 0 22 + 1) → ∀ s63 : st_S, s63 = sI s60 0 22 x62 → rc_X11_partOf l1 s63 (fun r64 s65 => wp_X11_sign 42 s65 (fun r66 s67 => (r59 = r66 → B_X11_termOf_121 Q rc_X11_partOf rc_X11_sumOf rc_X11_termOf k6 l1 l2 r59 r64 s67) ∧ (¬ r59 = r66 → (¬ p_cmp r64 0 = 0 → B_X11_termOf_121 Q rc_X11_partOf rc_X11_sumOf rc_X11_termOf k6 l1 l2 r59 r64 s67) ∧ (p_cmp r64 0 = 0 → (¬ gI s67 0 24 = 0 → B_X11_termOf_110 Q rc_X11_partOf rc_X11_sumOf rc_X11_termOf k6 l1 l2 r59 s67) ∧ (gI s67 0 24 = 0 → (l1 = 0 → B_X11_termOf_115 Q rc_X11_partOf rc_X11_sumOf rc_X11_termOf k6 l1 l2 r59 0 s67) ∧ (¬ l1 = 0 → B_X11_termOf_110 Q rc_X11_partOf rc_X11_sumOf rc_X11_termOf k6 l1 l2 r59 s67))))))) := h
  refine j_aload_nR hc 0 dX11_termOf_54 rfl rfl ?_
  refine j_aload_nR hc 0 dX11_termOf_55 rfl rfl ?_
  refine j_getI hc fl_RX11_248 (Or.inl rfl) (fun hv => Or.inl (sv_k hv hm rfl)) dX11_termOf_56 (fun cn58 => ?_)
  refine j_vI hc (k := 11) (by decide) (fun hv => Or.inl (sv_k hv hm rfl)) ml_RX11_251 mv_X11_codeAt (As := [vI (gI σ 0 22)]) (c_X11_codeAt (cx_E hc) hm cn58 h) rfl (by omega) (by decide) ⟨Nat.zero_le _, Nat.zero_le _⟩ (Nat.le_of_ble_eq_true rfl) rfl dX11_termOf_59 (fun r59 s60 cr59 h => ?_)
  refine j_istore (lv' := [(4, vI r59), (0, vR E 0), (1, vI l1), (2, vL l2)]) hc dX11_termOf_62 (by decide) rfl ?_
  refine j_aload_nR hc 1 dX11_termOf_64 rfl rfl ?_
  refine j_dup hc dX11_termOf_65 rfl ?_
  refine j_getI hc fl_RX11_248 (Or.inl rfl) (fun hv => Or.inl (sv_k hv hm rfl)) dX11_termOf_66 (fun cn61 => ?_)
  refine j_iconst hc dX11_termOf_69 ?_
  refine j_iadd hc dX11_termOf_70 ?_
  refine j_w (fun x62 ex62 cx62 => ?_)
  replace h := h x62 ex62
  refine j_putI hc fl_RX11_248 rfl rfl (fun hv => Or.inl (sv_k hv hm rfl)) cx62 dX11_termOf_71 (fun s63 es63 => ?_)
  replace h := h s63 es63
  refine j_aload_nR hc 1 dX11_termOf_74 rfl rfl ?_
  refine j_iload_n hc 2 dX11_termOf_75 rfl rfl ?_
  refine j_vL hc (k := 11) (by decide) (fun hv => Or.inl (sv_k hv hm rfl)) ml_RX11_269 mv_X11_partOf (As := [vI l1]) (hr_X11_partOf (cx_E hc) hm cl1 h) rfl (by omega) (by decide) ⟨Nat.zero_le _, Nat.zero_le _⟩ (Nat.le_of_ble_eq_true rfl) rfl dX11_termOf_76 (fun r64 s65 cr64 h => ?_)
  refine j_lstore (lv' := [(5, vL r64), (4, vI r59), (0, vR E 0), (1, vI l1), (2, vL l2)]) hc dX11_termOf_79 (by decide) rfl ?_
  refine j_iload hc 1 dX11_termOf_81 rfl ?_
  refine j_bipush hc dX11_termOf_83 (by decide) ?_
  refine j_sI hc ml_RX11_210 mv_X11_sign (As := [vI 42]) (c_X11_sign (cx_E hc) hm (wlit 42 (by decide)) h) rfl (by omega) (by decide) ⟨Nat.zero_le _, Nat.zero_le _⟩ (Nat.le_of_ble_eq_true rfl) rfl dX11_termOf_85 (fun r66 s67 cr66 h => ?_)
  refine j_ic_eq hc cr59 cr66 (tgt := 121) dX11_termOf_88 (by decide) (fun q72 => ?_) (fun q72 => ?_)
  · replace h := h.1 q72
    refine j_sub (lv' := [(0, vR E 0), (1, vI l1), (2, vL l2), (4, vI r59), (5, vL r64)]) [2, 3, 4, 1, 0] rfl ?_
    exact jb_X11_termOf_121 hc hm hr hh hr_X11_partOf hr_X11_sumOf hr_X11_termOf hk6 cl1 cl2 cr59 cr64 h
  · replace h := h.2 q72
    refine j_lload hc 0 dX11_termOf_91 rfl ?_
    refine j_lconst (x := 0) hc dX11_termOf_93 rfl ?_
    refine j_lcmp hc dX11_termOf_94 ?_
    refine j_if_ne hc (cn_cmp _ _) (tgt := 121) dX11_termOf_95 (by decide) (fun q71 => ?_) (fun q71 => ?_)
    · replace h := h.1 q71
      refine j_sub (lv' := [(0, vR E 0), (1, vI l1), (2, vL l2), (4, vI r59), (5, vL r64)]) [2, 3, 4, 1, 0] rfl ?_
      exact jb_X11_termOf_121 hc hm hr hh hr_X11_partOf hr_X11_sumOf hr_X11_termOf hk6 cl1 cl2 cr59 cr64 h
    · replace h := h.2 q71
      refine j_aload_nR hc 2 dX11_termOf_98 rfl rfl ?_
      refine j_aload_nR hc 2 dX11_termOf_99 rfl rfl ?_
      refine j_getI hc fl_RX11_258 (Or.inr rfl) (fun hv => Or.inl (sv_k hv hm rfl)) dX11_termOf_100 (fun cn68 => ?_)
      refine j_if_ne hc cn68 (tgt := 110) dX11_termOf_103 (by decide) (fun q70 => ?_) (fun q70 => ?_)
      · replace h := h.1 q70
        refine j_sub (lv' := [(0, vR E 0), (1, vI l1), (2, vL l2), (4, vI r59)]) [2, 3, 4, 1] rfl ?_
        exact jb_X11_termOf_110 hc hm hr hh hr_X11_partOf hr_X11_sumOf hr_X11_termOf hk6 cl1 cl2 cr59 h
      · replace h := h.2 q70
        refine j_iload_n hc 3 dX11_termOf_106 rfl rfl ?_
        refine j_if_eq hc cl1 (tgt := 114) dX11_termOf_107 (by decide) (fun q69 => ?_) (fun q69 => ?_)
        · replace h := h.1 q69
          refine j_iconst hc dX11_termOf_114 ?_
          refine j_sub (lv' := [(0, vR E 0), (1, vI l1), (2, vL l2), (4, vI r59)]) [2, 3, 4, 1] rfl ?_
          exact jb_X11_termOf_115 hc hm hr hh hr_X11_partOf hr_X11_sumOf hr_X11_termOf hk6 cl1 cl2 cr59 (wlit 0 (by decide)) h
        · replace h := h.2 q69
          refine j_sub (lv' := [(0, vR E 0), (1, vI l1), (2, vL l2), (4, vI r59)]) [2, 3, 4, 1] rfl ?_
          exact jb_X11_termOf_110 hc hm hr hh hr_X11_partOf hr_X11_sumOf hr_X11_termOf hk6 cl1 cl2 cr59 h
set_option maxRecDepth 20000 in
theorem jl_X11_termOf_6 {X : jj_X} {E : ev_E} {n0 hN : Nat} (hc : Cx X E cX11_termOf 7 n0 hN RX11) (hm : eM E = 2) (hr : (xT X).sig.returnType = (some .long)) {d : Nat} (hh : 3 + (d + 1) ≤ hN) {Q : Int → st_S → Prop} {rc_X11_partOf : Int → st_S → (Int → st_S → Prop) → Prop} (hr_X11_partOf : ∀ {l : Launch} {E : ev_E} (hE : Eok E) (hm : eM E = 2) {a1 : Int} (ca1 : wr a1 = a1) {σ : st_S} {Q : Int → st_S → Prop}, rc_X11_partOf a1 σ Q → cM l yX11_partOf cX11_partOf 4 (some .long) E (3 + d) 0 0 [vR E 0, vI a1] σ (qL E (gN σ + 0) Q)) {rc_X11_sumOf : Int → st_S → (Int → st_S → Prop) → Prop} (hr_X11_sumOf : ∀ {l : Launch} {E : ev_E} (hE : Eok E) (hm : eM E = 2) {a1 : Int} (ca1 : wr a1 = a1) {σ : st_S} {Q : Int → st_S → Prop}, rc_X11_sumOf a1 σ Q → cM l yX11_sumOf cX11_sumOf 7 (some .long) E (3 + d) 0 0 [vR E 0, vI a1] σ (qL E (gN σ + 0) Q)) {rc_X11_termOf : Int → st_S → (Int → st_S → Prop) → Prop} (hr_X11_termOf : ∀ {l : Launch} {E : ev_E} (hE : Eok E) (hm : eM E = 2) {a1 : Int} (ca1 : wr a1 = a1) {σ : st_S} {Q : Int → st_S → Prop}, rc_X11_termOf a1 σ Q → cM l yX11_termOf cX11_termOf 7 (some .long) E (3 + d) 0 0 [vR E 0, vI a1] σ (qL E (gN σ + 0) Q)) : ∀ (n : Nat) {l1 : Int} {l2 : Int} (cl1 : wr l1 = l1) (cl2 : wl l2 = l2) {σ : st_S}, L_X11_termOf_6 Q rc_X11_partOf rc_X11_sumOf rc_X11_termOf n l1 l2 σ → J X E 7 n0 0 0 (MQ (xB X) (qL E (n0 + 0) Q) (xA X) (xS X) 0 0 (eF E)) σ 6 [(0, vR E 0), (1, vI l1), (2, vL l2)] [] := by
  have hh1 : 1 ≤ hN := by omega
  intro n
  induction n with
  | zero => intro l1 l2 cl1 cl2 σ h; exact h.elim
  | succ n ih =>
    intro l1 l2 cl1 cl2 σ h
    have hk6 : ∀ {l1 : Int} {l2 : Int} (cl1 : wr l1 = l1) (cl2 : wl l2 = l2) {σ : st_S}, L_X11_termOf_6 Q rc_X11_partOf rc_X11_sumOf rc_X11_termOf n l1 l2 σ → J X E 7 n0 0 0 (MQ (xB X) (qL E (n0 + 0) Q) (xA X) (xS X) 0 0 (eF E)) σ 6 [(0, vR E 0), (1, vI l1), (2, vL l2)] [] := ih
    replace h : wp_X11_codeAt (gI σ 0 22) σ (fun r74 s75 => wp_X11_sign 42 s75 (fun r76 s77 => (r74 = r76 → B_X11_termOf_54 Q rc_X11_partOf rc_X11_sumOf rc_X11_termOf (L_X11_termOf_6 Q rc_X11_partOf rc_X11_sumOf rc_X11_termOf n) l1 l2 s77) ∧ (¬ r74 = r76 → wp_X11_codeAt (gI s77 0 22) s77 (fun r79 s80 => wp_X11_sign 47 s80 (fun r81 s82 => (r79 = r81 → B_X11_termOf_54 Q rc_X11_partOf rc_X11_sumOf rc_X11_termOf (L_X11_termOf_6 Q rc_X11_partOf rc_X11_sumOf rc_X11_termOf n) l1 l2 s82) ∧ (¬ r79 = r81 → wp_X11_codeAt (gI s82 0 22) s82 (fun r84 s85 => wp_X11_sign 37 s85 (fun r86 s87 => (¬ r84 = r86 → Q l2 s87) ∧ (r84 = r86 → B_X11_termOf_54 Q rc_X11_partOf rc_X11_sumOf rc_X11_termOf (L_X11_termOf_6 Q rc_X11_partOf rc_X11_sumOf rc_X11_termOf n) l1 l2 s87))))))))) := h
    refine j_aload_nR hc 0 dX11_termOf_6 rfl rfl ?_
    refine j_aload_nR hc 0 dX11_termOf_7 rfl rfl ?_
    refine j_getI hc fl_RX11_248 (Or.inl rfl) (fun hv => Or.inl (sv_k hv hm rfl)) dX11_termOf_8 (fun cn73 => ?_)
    refine j_vI hc (k := 11) (by decide) (fun hv => Or.inl (sv_k hv hm rfl)) ml_RX11_251 mv_X11_codeAt (As := [vI (gI σ 0 22)]) (c_X11_codeAt (cx_E hc) hm cn73 h) rfl (by omega) (by decide) ⟨Nat.zero_le _, Nat.zero_le _⟩ (Nat.le_of_ble_eq_true rfl) rfl dX11_termOf_11 (fun r74 s75 cr74 h => ?_)
    refine j_bipush hc dX11_termOf_14 (by decide) ?_
    refine j_sI hc ml_RX11_210 mv_X11_sign (As := [vI 42]) (c_X11_sign (cx_E hc) hm (wlit 42 (by decide)) h) rfl (by omega) (by decide) ⟨Nat.zero_le _, Nat.zero_le _⟩ (Nat.le_of_ble_eq_true rfl) rfl dX11_termOf_16 (fun r76 s77 cr76 h => ?_)
    refine j_ic_eq hc cr74 cr76 (tgt := 54) dX11_termOf_19 (by decide) (fun q90 => ?_) (fun q90 => ?_)
    · replace h := h.1 q90
      refine j_sub (lv' := [(0, vR E 0), (1, vI l1), (2, vL l2)]) [0, 1, 2] rfl ?_
      exact jb_X11_termOf_54 hc hm hr hh hr_X11_partOf hr_X11_sumOf hr_X11_termOf hk6 cl1 cl2 h
    · replace h := h.2 q90
      refine j_aload_nR hc 0 dX11_termOf_22 rfl rfl ?_
      refine j_aload_nR hc 0 dX11_termOf_23 rfl rfl ?_
      refine j_getI hc fl_RX11_248 (Or.inl rfl) (fun hv => Or.inl (sv_k hv hm rfl)) dX11_termOf_24 (fun cn78 => ?_)
      refine j_vI hc (k := 11) (by decide) (fun hv => Or.inl (sv_k hv hm rfl)) ml_RX11_251 mv_X11_codeAt (As := [vI (gI s77 0 22)]) (c_X11_codeAt (cx_E hc) hm cn78 h) rfl (by omega) (by decide) ⟨Nat.zero_le _, Nat.zero_le _⟩ (Nat.le_of_ble_eq_true rfl) rfl dX11_termOf_27 (fun r79 s80 cr79 h => ?_)
      refine j_bipush hc dX11_termOf_30 (by decide) ?_
      refine j_sI hc ml_RX11_210 mv_X11_sign (As := [vI 47]) (c_X11_sign (cx_E hc) hm (wlit 47 (by decide)) h) rfl (by omega) (by decide) ⟨Nat.zero_le _, Nat.zero_le _⟩ (Nat.le_of_ble_eq_true rfl) rfl dX11_termOf_32 (fun r81 s82 cr81 h => ?_)
      refine j_ic_eq hc cr79 cr81 (tgt := 54) dX11_termOf_35 (by decide) (fun q89 => ?_) (fun q89 => ?_)
      · replace h := h.1 q89
        refine j_sub (lv' := [(0, vR E 0), (1, vI l1), (2, vL l2)]) [0, 1, 2] rfl ?_
        exact jb_X11_termOf_54 hc hm hr hh hr_X11_partOf hr_X11_sumOf hr_X11_termOf hk6 cl1 cl2 h
      · replace h := h.2 q89
        refine j_aload_nR hc 0 dX11_termOf_38 rfl rfl ?_
        refine j_aload_nR hc 0 dX11_termOf_39 rfl rfl ?_
        refine j_getI hc fl_RX11_248 (Or.inl rfl) (fun hv => Or.inl (sv_k hv hm rfl)) dX11_termOf_40 (fun cn83 => ?_)
        refine j_vI hc (k := 11) (by decide) (fun hv => Or.inl (sv_k hv hm rfl)) ml_RX11_251 mv_X11_codeAt (As := [vI (gI s82 0 22)]) (c_X11_codeAt (cx_E hc) hm cn83 h) rfl (by omega) (by decide) ⟨Nat.zero_le _, Nat.zero_le _⟩ (Nat.le_of_ble_eq_true rfl) rfl dX11_termOf_43 (fun r84 s85 cr84 h => ?_)
        refine j_bipush hc dX11_termOf_46 (by decide) ?_
        refine j_sI hc ml_RX11_210 mv_X11_sign (As := [vI 37]) (c_X11_sign (cx_E hc) hm (wlit 37 (by decide)) h) rfl (by omega) (by decide) ⟨Nat.zero_le _, Nat.zero_le _⟩ (Nat.le_of_ble_eq_true rfl) rfl dX11_termOf_48 (fun r86 s87 cr86 h => ?_)
        refine j_ic_ne hc cr84 cr86 (tgt := 168) dX11_termOf_51 (by decide) (fun q88 => ?_) (fun q88 => ?_)
        · replace h := h.1 q88
          refine j_lload_n hc 2 dX11_termOf_168 rfl rfl ?_
          exact j_lret hc hr cl2 h dX11_termOf_169
        · replace h := h.2 q88
          refine j_sub (lv' := [(0, vR E 0), (1, vI l1), (2, vL l2)]) [0, 1, 2] rfl ?_
          exact jb_X11_termOf_54 hc hm hr hh hr_X11_partOf hr_X11_sumOf hr_X11_termOf hk6 cl1 cl2 h
set_option maxRecDepth 20000 in
theorem ce_X11_termOf {d : Nat} {rc_X11_partOf : Int → st_S → (Int → st_S → Prop) → Prop} (hr_X11_partOf : ∀ {l : Launch} {E : ev_E} (hE : Eok E) (hm : eM E = 2) {a1 : Int} (ca1 : wr a1 = a1) {σ : st_S} {Q : Int → st_S → Prop}, rc_X11_partOf a1 σ Q → cM l yX11_partOf cX11_partOf 4 (some .long) E (3 + d) 0 0 [vR E 0, vI a1] σ (qL E (gN σ + 0) Q)) {rc_X11_sumOf : Int → st_S → (Int → st_S → Prop) → Prop} (hr_X11_sumOf : ∀ {l : Launch} {E : ev_E} (hE : Eok E) (hm : eM E = 2) {a1 : Int} (ca1 : wr a1 = a1) {σ : st_S} {Q : Int → st_S → Prop}, rc_X11_sumOf a1 σ Q → cM l yX11_sumOf cX11_sumOf 7 (some .long) E (3 + d) 0 0 [vR E 0, vI a1] σ (qL E (gN σ + 0) Q)) {rc_X11_termOf : Int → st_S → (Int → st_S → Prop) → Prop} (hr_X11_termOf : ∀ {l : Launch} {E : ev_E} (hE : Eok E) (hm : eM E = 2) {a1 : Int} (ca1 : wr a1 = a1) {σ : st_S} {Q : Int → st_S → Prop}, rc_X11_termOf a1 σ Q → cM l yX11_termOf cX11_termOf 7 (some .long) E (3 + d) 0 0 [vR E 0, vI a1] σ (qL E (gN σ + 0) Q)) {l : Launch} {E : ev_E} (hE : Eok E) (hm : eM E = 2) {a1 : Int} (ca1 : wr a1 = a1) {σ : st_S} {Q : Int → st_S → Prop} (h : e_X11_termOf rc_X11_partOf rc_X11_sumOf rc_X11_termOf a1 σ Q) : cM l yX11_termOf cX11_termOf 7 (some .long) E (3 + (d + 1)) 0 0 [vR E 0, vI a1] σ (qL E (gN σ + 0) Q) := by
  refine cM_of (lv := [(0, vR E 0), (1, vI a1)]) (by decide) hE (Nat.le_of_ble_eq_true rfl) (rfl) ?_
  intro X hX hc _ _ hr _ _
  subst hX
  have hh : 3 + (d + 1) ≤ 3 + (d + 1) := Nat.le_refl _
  have hh1 : 1 ≤ 3 + (d + 1) := by omega
  replace h : rc_X11_partOf a1 σ (fun r91 s92 => ∃ m6 : Nat, L_X11_termOf_6 Q rc_X11_partOf rc_X11_sumOf rc_X11_termOf m6 a1 r91 s92) := h
  refine j_aload_nR hc 0 dX11_termOf_0 rfl rfl ?_
  refine j_iload_n hc 1 dX11_termOf_1 rfl rfl ?_
  refine j_vL hc (k := 11) (by decide) (fun hv => Or.inl (sv_k hv hm rfl)) ml_RX11_269 mv_X11_partOf (As := [vI a1]) (hr_X11_partOf (cx_E hc) hm ca1 h) rfl (by omega) (by decide) ⟨Nat.zero_le _, Nat.zero_le _⟩ (Nat.le_of_ble_eq_true rfl) rfl dX11_termOf_2 (fun r91 s92 cr91 h => ?_)
  refine j_lstore_n (lv' := [(2, vL r91), (0, vR E 0), (1, vI a1)]) hc dX11_termOf_5 rfl (by decide) rfl ?_
  obtain ⟨n6, h⟩ := h
  refine j_sub (lv' := [(0, vR E 0), (1, vI a1), (2, vL r91)]) [1, 2, 0] rfl ?_
  exact jl_X11_termOf_6 hc hm hr hh hr_X11_partOf hr_X11_sumOf hr_X11_termOf n6 ca1 cr91 h
theorem ca_X11_partOf : ∀ d : Nat, (∀ {l : Launch} {E : ev_E} (hE : Eok E) (hm : eM E = 2) {a1 : Int} (ca1 : wr a1 = a1) {σ : st_S} {Q : Int → st_S → Prop}, wp_X11_partOf d a1 σ Q → cM l yX11_partOf cX11_partOf 4 (some .long) E (3 + d) 0 0 [vR E 0, vI a1] σ (qL E (gN σ + 0) Q)) ∧ (∀ {l : Launch} {E : ev_E} (hE : Eok E) (hm : eM E = 2) {a1 : Int} (ca1 : wr a1 = a1) {σ : st_S} {Q : Int → st_S → Prop}, wp_X11_sumOf d a1 σ Q → cM l yX11_sumOf cX11_sumOf 7 (some .long) E (3 + d) 0 0 [vR E 0, vI a1] σ (qL E (gN σ + 0) Q)) ∧ (∀ {l : Launch} {E : ev_E} (hE : Eok E) (hm : eM E = 2) {a1 : Int} (ca1 : wr a1 = a1) {σ : st_S} {Q : Int → st_S → Prop}, wp_X11_termOf d a1 σ Q → cM l yX11_termOf cX11_termOf 7 (some .long) E (3 + d) 0 0 [vR E 0, vI a1] σ (qL E (gN σ + 0) Q)) := by
  intro d
  induction d with
  | zero => exact ⟨(fun {l} {E} hE hm {a1} ca1 {σ} {Q} h => h.elim), (fun {l} {E} hE hm {a1} ca1 {σ} {Q} h => h.elim), (fun {l} {E} hE hm {a1} ca1 {σ} {Q} h => h.elim)⟩
  | succ d ih =>
    obtain ⟨q0, q1, q2⟩ := ih
    exact ⟨(fun {l} {E} hE hm {a1} ca1 {σ} {Q} h => ce_X11_partOf (d := d) (rc_X11_partOf := wp_X11_partOf d) (rc_X11_sumOf := wp_X11_sumOf d) (rc_X11_termOf := wp_X11_termOf d) @q0 @q1 @q2 hE hm ca1 h), (fun {l} {E} hE hm {a1} ca1 {σ} {Q} h => ce_X11_sumOf (d := d) (rc_X11_partOf := wp_X11_partOf d) (rc_X11_sumOf := wp_X11_sumOf d) (rc_X11_termOf := wp_X11_termOf d) @q0 @q1 @q2 hE hm ca1 h), (fun {l} {E} hE hm {a1} ca1 {σ} {Q} h => ce_X11_termOf (d := d) (rc_X11_partOf := wp_X11_partOf d) (rc_X11_sumOf := wp_X11_sumOf d) (rc_X11_termOf := wp_X11_termOf d) @q0 @q1 @q2 hE hm ca1 h)⟩
theorem c_X11_partOf {l : Launch} {E : ev_E} (hE : Eok E) (hm : eM E = 2) (d : Nat) {a1 : Int} (ca1 : wr a1 = a1) {σ : st_S} {Q : Int → st_S → Prop} : wp_X11_partOf d a1 σ Q → cM l yX11_partOf cX11_partOf 4 (some .long) E (3 + d) 0 0 [vR E 0, vI a1] σ (qL E (gN σ + 0) Q) := fun h => (ca_X11_partOf d).1 hE hm ca1 h
theorem c_X11_sumOf {l : Launch} {E : ev_E} (hE : Eok E) (hm : eM E = 2) (d : Nat) {a1 : Int} (ca1 : wr a1 = a1) {σ : st_S} {Q : Int → st_S → Prop} : wp_X11_sumOf d a1 σ Q → cM l yX11_sumOf cX11_sumOf 7 (some .long) E (3 + d) 0 0 [vR E 0, vI a1] σ (qL E (gN σ + 0) Q) := fun h => (ca_X11_partOf d).2.1 hE hm ca1 h
theorem c_X11_termOf {l : Launch} {E : ev_E} (hE : Eok E) (hm : eM E = 2) (d : Nat) {a1 : Int} (ca1 : wr a1 = a1) {σ : st_S} {Q : Int → st_S → Prop} : wp_X11_termOf d a1 σ Q → cM l yX11_termOf cX11_termOf 7 (some .long) E (3 + d) 0 0 [vR E 0, vI a1] σ (qL E (gN σ + 0) Q) := fun h => (ca_X11_partOf d).2.2 hE hm ca1 h
-- LitStrangersModel.bothOf(Z)Z, LitStrangersModel.plainOf(Z)Z, LitStrangersModel.positiveOf(Z)Z, LitStrangersModel.testOf(Z)Z
theorem dX11_bothOf_0 : decode cX11_bothOf 0 = .ok (.aload_n 0, 1) := by decide +kernel
theorem dX11_bothOf_1 : decode cX11_bothOf 1 = .ok (.iload_n 1, 1) := by decide +kernel
theorem dX11_bothOf_2 : decode cX11_bothOf 2 = .ok (.invokevirtual 283, 3) := by decide +kernel
theorem dX11_bothOf_5 : decode cX11_bothOf 5 = .ok (.istore_n 2, 1) := by decide +kernel
theorem dX11_bothOf_6 : decode cX11_bothOf 6 = .ok (.aload_n 0, 1) := by decide +kernel
theorem dX11_bothOf_7 : decode cX11_bothOf 7 = .ok (.bipush 8, 2) := by decide +kernel
theorem dX11_bothOf_9 : decode cX11_bothOf 9 = .ok (.invokevirtual 272, 3) := by decide +kernel
theorem dX11_bothOf_12 : decode cX11_bothOf 12 = .ok (.ifCond .eq 38, 3) := by decide +kernel
theorem dX11_bothOf_15 : decode cX11_bothOf 15 = .ok (.aload_n 0, 1) := by decide +kernel
theorem dX11_bothOf_16 : decode cX11_bothOf 16 = .ok (.iload_n 1, 1) := by decide +kernel
theorem dX11_bothOf_17 : decode cX11_bothOf 17 = .ok (.ifCond .eq 11, 3) := by decide +kernel
theorem dX11_bothOf_20 : decode cX11_bothOf 20 = .ok (.iload_n 2, 1) := by decide +kernel
theorem dX11_bothOf_21 : decode cX11_bothOf 21 = .ok (.ifCond .eq 7, 3) := by decide +kernel
theorem dX11_bothOf_24 : decode cX11_bothOf 24 = .ok (.iconst 1, 1) := by decide +kernel
theorem dX11_bothOf_25 : decode cX11_bothOf 25 = .ok (.goto 4, 3) := by decide +kernel
theorem dX11_bothOf_28 : decode cX11_bothOf 28 = .ok (.iconst 0, 1) := by decide +kernel
theorem dX11_bothOf_29 : decode cX11_bothOf 29 = .ok (.invokevirtual 283, 3) := by decide +kernel
theorem dX11_bothOf_32 : decode cX11_bothOf 32 = .ok (.istore_n 3, 1) := by decide +kernel
theorem dX11_bothOf_33 : decode cX11_bothOf 33 = .ok (.iload_n 2, 1) := by decide +kernel
theorem dX11_bothOf_34 : decode cX11_bothOf 34 = .ok (.ifCond .eq 11, 3) := by decide +kernel
theorem dX11_bothOf_37 : decode cX11_bothOf 37 = .ok (.iload_n 3, 1) := by decide +kernel
theorem dX11_bothOf_38 : decode cX11_bothOf 38 = .ok (.ifCond .eq 7, 3) := by decide +kernel
theorem dX11_bothOf_41 : decode cX11_bothOf 41 = .ok (.iconst 1, 1) := by decide +kernel
theorem dX11_bothOf_42 : decode cX11_bothOf 42 = .ok (.goto 4, 3) := by decide +kernel
theorem dX11_bothOf_45 : decode cX11_bothOf 45 = .ok (.iconst 0, 1) := by decide +kernel
theorem dX11_bothOf_46 : decode cX11_bothOf 46 = .ok (.istore_n 2, 1) := by decide +kernel
theorem dX11_bothOf_47 : decode cX11_bothOf 47 = .ok (.goto (-41), 3) := by decide +kernel
theorem dX11_bothOf_50 : decode cX11_bothOf 50 = .ok (.iload_n 2, 1) := by decide +kernel
theorem dX11_bothOf_51 : decode cX11_bothOf 51 = .ok (.ireturn, 1) := by decide +kernel
theorem dX11_plainOf_0 : decode cX11_plainOf 0 = .ok (.iconst 0, 1) := by decide +kernel
theorem dX11_plainOf_1 : decode cX11_plainOf 1 = .ok (.istore_n 2, 1) := by decide +kernel
theorem dX11_plainOf_2 : decode cX11_plainOf 2 = .ok (.aload_n 0, 1) := by decide +kernel
theorem dX11_plainOf_3 : decode cX11_plainOf 3 = .ok (.bipush 9, 2) := by decide +kernel
theorem dX11_plainOf_5 : decode cX11_plainOf 5 = .ok (.invokevirtual 272, 3) := by decide +kernel
theorem dX11_plainOf_8 : decode cX11_plainOf 8 = .ok (.ifCond .eq 16, 3) := by decide +kernel
theorem dX11_plainOf_11 : decode cX11_plainOf 11 = .ok (.iload_n 2, 1) := by decide +kernel
theorem dX11_plainOf_12 : decode cX11_plainOf 12 = .ok (.ifCond .ne 7, 3) := by decide +kernel
theorem dX11_plainOf_15 : decode cX11_plainOf 15 = .ok (.iconst 1, 1) := by decide +kernel
theorem dX11_plainOf_16 : decode cX11_plainOf 16 = .ok (.goto 4, 3) := by decide +kernel
theorem dX11_plainOf_19 : decode cX11_plainOf 19 = .ok (.iconst 0, 1) := by decide +kernel
theorem dX11_plainOf_20 : decode cX11_plainOf 20 = .ok (.istore_n 2, 1) := by decide +kernel
theorem dX11_plainOf_21 : decode cX11_plainOf 21 = .ok (.goto (-19), 3) := by decide +kernel
theorem dX11_plainOf_24 : decode cX11_plainOf 24 = .ok (.aload_n 0, 1) := by decide +kernel
theorem dX11_plainOf_25 : decode cX11_plainOf 25 = .ok (.iload_n 1, 1) := by decide +kernel
theorem dX11_plainOf_26 : decode cX11_plainOf 26 = .ok (.invokevirtual 286, 3) := by decide +kernel
theorem dX11_plainOf_29 : decode cX11_plainOf 29 = .ok (.iload_n 2, 1) := by decide +kernel
theorem dX11_plainOf_30 : decode cX11_plainOf 30 = .ok (.if_icmp .eq 7, 3) := by decide +kernel
theorem dX11_plainOf_33 : decode cX11_plainOf 33 = .ok (.iconst 1, 1) := by decide +kernel
theorem dX11_plainOf_34 : decode cX11_plainOf 34 = .ok (.goto 4, 3) := by decide +kernel
theorem dX11_plainOf_37 : decode cX11_plainOf 37 = .ok (.iconst 0, 1) := by decide +kernel
theorem dX11_plainOf_38 : decode cX11_plainOf 38 = .ok (.ireturn, 1) := by decide +kernel
theorem dX11_positiveOf_0 : decode cX11_positiveOf 0 = .ok (.aload_n 0, 1) := by decide +kernel
theorem dX11_positiveOf_1 : decode cX11_positiveOf 1 = .ok (.bipush 40, 2) := by decide +kernel
theorem dX11_positiveOf_3 : decode cX11_positiveOf 3 = .ok (.invokestatic 210, 3) := by decide +kernel
theorem dX11_positiveOf_6 : decode cX11_positiveOf 6 = .ok (.invokevirtual 272, 3) := by decide +kernel
theorem dX11_positiveOf_9 : decode cX11_positiveOf 9 = .ok (.ifCond .eq 21, 3) := by decide +kernel
theorem dX11_positiveOf_12 : decode cX11_positiveOf 12 = .ok (.aload_n 0, 1) := by decide +kernel
theorem dX11_positiveOf_13 : decode cX11_positiveOf 13 = .ok (.iload_n 1, 1) := by decide +kernel
theorem dX11_positiveOf_14 : decode cX11_positiveOf 14 = .ok (.invokevirtual 289, 3) := by decide +kernel
theorem dX11_positiveOf_17 : decode cX11_positiveOf 17 = .ok (.istore_n 2, 1) := by decide +kernel
theorem dX11_positiveOf_18 : decode cX11_positiveOf 18 = .ok (.aload_n 0, 1) := by decide +kernel
theorem dX11_positiveOf_19 : decode cX11_positiveOf 19 = .ok (.dup, 1) := by decide +kernel
theorem dX11_positiveOf_20 : decode cX11_positiveOf 20 = .ok (.getfield 248, 3) := by decide +kernel
theorem dX11_positiveOf_23 : decode cX11_positiveOf 23 = .ok (.iconst 1, 1) := by decide +kernel
theorem dX11_positiveOf_24 : decode cX11_positiveOf 24 = .ok (.iadd, 1) := by decide +kernel
theorem dX11_positiveOf_25 : decode cX11_positiveOf 25 = .ok (.putfield 248, 3) := by decide +kernel
theorem dX11_positiveOf_28 : decode cX11_positiveOf 28 = .ok (.iload_n 2, 1) := by decide +kernel
theorem dX11_positiveOf_29 : decode cX11_positiveOf 29 = .ok (.ireturn, 1) := by decide +kernel
theorem dX11_positiveOf_30 : decode cX11_positiveOf 30 = .ok (.aload_n 0, 1) := by decide +kernel
theorem dX11_positiveOf_31 : decode cX11_positiveOf 31 = .ok (.iload_n 1, 1) := by decide +kernel
theorem dX11_positiveOf_32 : decode cX11_positiveOf 32 = .ok (.invokevirtual 275, 3) := by decide +kernel
theorem dX11_positiveOf_35 : decode cX11_positiveOf 35 = .ok (.lstore_n 2, 1) := by decide +kernel
theorem dX11_positiveOf_36 : decode cX11_positiveOf 36 = .ok (.aload_n 0, 1) := by decide +kernel
theorem dX11_positiveOf_37 : decode cX11_positiveOf 37 = .ok (.aload_n 0, 1) := by decide +kernel
theorem dX11_positiveOf_38 : decode cX11_positiveOf 38 = .ok (.getfield 248, 3) := by decide +kernel
theorem dX11_positiveOf_41 : decode cX11_positiveOf 41 = .ok (.invokevirtual 251, 3) := by decide +kernel
theorem dX11_positiveOf_44 : decode cX11_positiveOf 44 = .ok (.istore 4, 2) := by decide +kernel
theorem dX11_positiveOf_46 : decode cX11_positiveOf 46 = .ok (.aload_n 0, 1) := by decide +kernel
theorem dX11_positiveOf_47 : decode cX11_positiveOf 47 = .ok (.dup, 1) := by decide +kernel
theorem dX11_positiveOf_48 : decode cX11_positiveOf 48 = .ok (.getfield 248, 3) := by decide +kernel
theorem dX11_positiveOf_51 : decode cX11_positiveOf 51 = .ok (.iconst 1, 1) := by decide +kernel
theorem dX11_positiveOf_52 : decode cX11_positiveOf 52 = .ok (.iadd, 1) := by decide +kernel
theorem dX11_positiveOf_53 : decode cX11_positiveOf 53 = .ok (.putfield 248, 3) := by decide +kernel
theorem dX11_positiveOf_56 : decode cX11_positiveOf 56 = .ok (.aload_n 0, 1) := by decide +kernel
theorem dX11_positiveOf_57 : decode cX11_positiveOf 57 = .ok (.iload_n 1, 1) := by decide +kernel
theorem dX11_positiveOf_58 : decode cX11_positiveOf 58 = .ok (.invokevirtual 275, 3) := by decide +kernel
theorem dX11_positiveOf_61 : decode cX11_positiveOf 61 = .ok (.lstore 5, 2) := by decide +kernel
theorem dX11_positiveOf_63 : decode cX11_positiveOf 63 = .ok (.iload_n 1, 1) := by decide +kernel
theorem dX11_positiveOf_64 : decode cX11_positiveOf 64 = .ok (.ifCond .eq 61, 3) := by decide +kernel
theorem dX11_positiveOf_67 : decode cX11_positiveOf 67 = .ok (.aload_n 0, 1) := by decide +kernel
theorem dX11_positiveOf_68 : decode cX11_positiveOf 68 = .ok (.getfield 258, 3) := by decide +kernel
theorem dX11_positiveOf_71 : decode cX11_positiveOf 71 = .ok (.ifCond .ne 54, 3) := by decide +kernel
theorem dX11_positiveOf_74 : decode cX11_positiveOf 74 = .ok (.iload 4, 2) := by decide +kernel
theorem dX11_positiveOf_76 : decode cX11_positiveOf 76 = .ok (.bipush 60, 2) := by decide +kernel
theorem dX11_positiveOf_78 : decode cX11_positiveOf 78 = .ok (.invokestatic 210, 3) := by decide +kernel
theorem dX11_positiveOf_81 : decode cX11_positiveOf 81 = .ok (.if_icmp .ne 13, 3) := by decide +kernel
theorem dX11_positiveOf_84 : decode cX11_positiveOf 84 = .ok (.lload_n 2, 1) := by decide +kernel
theorem dX11_positiveOf_85 : decode cX11_positiveOf 85 = .ok (.lload 5, 2) := by decide +kernel
theorem dX11_positiveOf_87 : decode cX11_positiveOf 87 = .ok (.lcmp, 1) := by decide +kernel
theorem dX11_positiveOf_88 : decode cX11_positiveOf 88 = .ok (.ifCond .ge 37, 3) := by decide +kernel
theorem dX11_positiveOf_91 : decode cX11_positiveOf 91 = .ok (.goto 30, 3) := by decide +kernel
theorem dX11_positiveOf_94 : decode cX11_positiveOf 94 = .ok (.iload 4, 2) := by decide +kernel
theorem dX11_positiveOf_96 : decode cX11_positiveOf 96 = .ok (.bipush 62, 2) := by decide +kernel
theorem dX11_positiveOf_98 : decode cX11_positiveOf 98 = .ok (.invokestatic 210, 3) := by decide +kernel
theorem dX11_positiveOf_101 : decode cX11_positiveOf 101 = .ok (.if_icmp .ne 13, 3) := by decide +kernel
theorem dX11_positiveOf_104 : decode cX11_positiveOf 104 = .ok (.lload_n 2, 1) := by decide +kernel
theorem dX11_positiveOf_105 : decode cX11_positiveOf 105 = .ok (.lload 5, 2) := by decide +kernel
theorem dX11_positiveOf_107 : decode cX11_positiveOf 107 = .ok (.lcmp, 1) := by decide +kernel
theorem dX11_positiveOf_108 : decode cX11_positiveOf 108 = .ok (.ifCond .le 17, 3) := by decide +kernel
theorem dX11_positiveOf_111 : decode cX11_positiveOf 111 = .ok (.goto 10, 3) := by decide +kernel
theorem dX11_positiveOf_114 : decode cX11_positiveOf 114 = .ok (.lload_n 2, 1) := by decide +kernel
theorem dX11_positiveOf_115 : decode cX11_positiveOf 115 = .ok (.lload 5, 2) := by decide +kernel
theorem dX11_positiveOf_117 : decode cX11_positiveOf 117 = .ok (.lcmp, 1) := by decide +kernel
theorem dX11_positiveOf_118 : decode cX11_positiveOf 118 = .ok (.ifCond .ne 7, 3) := by decide +kernel
theorem dX11_positiveOf_121 : decode cX11_positiveOf 121 = .ok (.iconst 1, 1) := by decide +kernel
theorem dX11_positiveOf_122 : decode cX11_positiveOf 122 = .ok (.goto 4, 3) := by decide +kernel
theorem dX11_positiveOf_125 : decode cX11_positiveOf 125 = .ok (.iconst 0, 1) := by decide +kernel
theorem dX11_positiveOf_126 : decode cX11_positiveOf 126 = .ok (.ireturn, 1) := by decide +kernel
theorem dX11_testOf_0 : decode cX11_testOf 0 = .ok (.aload_n 0, 1) := by decide +kernel
theorem dX11_testOf_1 : decode cX11_testOf 1 = .ok (.iload_n 1, 1) := by decide +kernel
theorem dX11_testOf_2 : decode cX11_testOf 2 = .ok (.invokevirtual 280, 3) := by decide +kernel
theorem dX11_testOf_5 : decode cX11_testOf 5 = .ok (.istore_n 2, 1) := by decide +kernel
theorem dX11_testOf_6 : decode cX11_testOf 6 = .ok (.aload_n 0, 1) := by decide +kernel
theorem dX11_testOf_7 : decode cX11_testOf 7 = .ok (.bipush 7, 2) := by decide +kernel
theorem dX11_testOf_9 : decode cX11_testOf 9 = .ok (.invokevirtual 272, 3) := by decide +kernel
theorem dX11_testOf_12 : decode cX11_testOf 12 = .ok (.ifCond .eq 38, 3) := by decide +kernel
theorem dX11_testOf_15 : decode cX11_testOf 15 = .ok (.aload_n 0, 1) := by decide +kernel
theorem dX11_testOf_16 : decode cX11_testOf 16 = .ok (.iload_n 1, 1) := by decide +kernel
theorem dX11_testOf_17 : decode cX11_testOf 17 = .ok (.ifCond .eq 11, 3) := by decide +kernel
theorem dX11_testOf_20 : decode cX11_testOf 20 = .ok (.iload_n 2, 1) := by decide +kernel
theorem dX11_testOf_21 : decode cX11_testOf 21 = .ok (.ifCond .ne 7, 3) := by decide +kernel
theorem dX11_testOf_24 : decode cX11_testOf 24 = .ok (.iconst 1, 1) := by decide +kernel
theorem dX11_testOf_25 : decode cX11_testOf 25 = .ok (.goto 4, 3) := by decide +kernel
theorem dX11_testOf_28 : decode cX11_testOf 28 = .ok (.iconst 0, 1) := by decide +kernel
theorem dX11_testOf_29 : decode cX11_testOf 29 = .ok (.invokevirtual 280, 3) := by decide +kernel
theorem dX11_testOf_32 : decode cX11_testOf 32 = .ok (.istore_n 3, 1) := by decide +kernel
theorem dX11_testOf_33 : decode cX11_testOf 33 = .ok (.iload_n 2, 1) := by decide +kernel
theorem dX11_testOf_34 : decode cX11_testOf 34 = .ok (.ifCond .ne 7, 3) := by decide +kernel
theorem dX11_testOf_37 : decode cX11_testOf 37 = .ok (.iload_n 3, 1) := by decide +kernel
theorem dX11_testOf_38 : decode cX11_testOf 38 = .ok (.ifCond .eq 7, 3) := by decide +kernel
theorem dX11_testOf_41 : decode cX11_testOf 41 = .ok (.iconst 1, 1) := by decide +kernel
theorem dX11_testOf_42 : decode cX11_testOf 42 = .ok (.goto 4, 3) := by decide +kernel
theorem dX11_testOf_45 : decode cX11_testOf 45 = .ok (.iconst 0, 1) := by decide +kernel
theorem dX11_testOf_46 : decode cX11_testOf 46 = .ok (.istore_n 2, 1) := by decide +kernel
theorem dX11_testOf_47 : decode cX11_testOf 47 = .ok (.goto (-41), 3) := by decide +kernel
theorem dX11_testOf_50 : decode cX11_testOf 50 = .ok (.iload_n 2, 1) := by decide +kernel
theorem dX11_testOf_51 : decode cX11_testOf 51 = .ok (.ireturn, 1) := by decide +kernel
def B_X11_bothOf_46 (Q : Int → st_S → Prop) (rc_X11_bothOf : Int → st_S → (Int → st_S → Prop) → Prop) (rc_X11_plainOf : Int → st_S → (Int → st_S → Prop) → Prop) (rc_X11_positiveOf : Int → st_S → (Int → st_S → Prop) → Prop) (rc_X11_testOf : Int → st_S → (Int → st_S → Prop) → Prop) (k6 : Int → Int → st_S → Prop) (l1 : Int) (v0 : Int) (σ : st_S) : Prop := k6 l1 v0 σ
def B_X11_bothOf_45 (Q : Int → st_S → Prop) (rc_X11_bothOf : Int → st_S → (Int → st_S → Prop) → Prop) (rc_X11_plainOf : Int → st_S → (Int → st_S → Prop) → Prop) (rc_X11_positiveOf : Int → st_S → (Int → st_S → Prop) → Prop) (rc_X11_testOf : Int → st_S → (Int → st_S → Prop) → Prop) (k6 : Int → Int → st_S → Prop) (l1 : Int) (σ : st_S) : Prop := B_X11_bothOf_46 Q rc_X11_bothOf rc_X11_plainOf rc_X11_positiveOf rc_X11_testOf k6 l1 0 σ
def B_X11_bothOf_29 (Q : Int → st_S → Prop) (rc_X11_bothOf : Int → st_S → (Int → st_S → Prop) → Prop) (rc_X11_plainOf : Int → st_S → (Int → st_S → Prop) → Prop) (rc_X11_positiveOf : Int → st_S → (Int → st_S → Prop) → Prop) (rc_X11_testOf : Int → st_S → (Int → st_S → Prop) → Prop) (k6 : Int → Int → st_S → Prop) (l1 : Int) (l2 : Int) (v0 : Int) (σ : st_S) : Prop := rc_X11_plainOf v0 σ (fun r10 s11 => (l2 = 0 → B_X11_bothOf_45 Q rc_X11_bothOf rc_X11_plainOf rc_X11_positiveOf rc_X11_testOf k6 l1 s11) ∧ (¬ l2 = 0 → (r10 = 0 → B_X11_bothOf_45 Q rc_X11_bothOf rc_X11_plainOf rc_X11_positiveOf rc_X11_testOf k6 l1 s11) ∧ (¬ r10 = 0 → B_X11_bothOf_46 Q rc_X11_bothOf rc_X11_plainOf rc_X11_positiveOf rc_X11_testOf k6 l1 1 s11)))
def B_X11_bothOf_28 (Q : Int → st_S → Prop) (rc_X11_bothOf : Int → st_S → (Int → st_S → Prop) → Prop) (rc_X11_plainOf : Int → st_S → (Int → st_S → Prop) → Prop) (rc_X11_positiveOf : Int → st_S → (Int → st_S → Prop) → Prop) (rc_X11_testOf : Int → st_S → (Int → st_S → Prop) → Prop) (k6 : Int → Int → st_S → Prop) (l1 : Int) (l2 : Int) (σ : st_S) : Prop := B_X11_bothOf_29 Q rc_X11_bothOf rc_X11_plainOf rc_X11_positiveOf rc_X11_testOf k6 l1 l2 0 σ
def L_X11_bothOf_6 (Q : Int → st_S → Prop) (rc_X11_bothOf : Int → st_S → (Int → st_S → Prop) → Prop) (rc_X11_plainOf : Int → st_S → (Int → st_S → Prop) → Prop) (rc_X11_positiveOf : Int → st_S → (Int → st_S → Prop) → Prop) (rc_X11_testOf : Int → st_S → (Int → st_S → Prop) → Prop)  : Nat → Int → Int → st_S → Prop
  | 0 => fun _ _ _ => False
  | n + 1 => fun l1 l2 σ => wp_X11_passes0 8 σ (fun r14 s15 => (r14 = 0 → (l2 = 0 ∨ l2 = 1) ∧ Q l2 s15) ∧ (¬ r14 = 0 → (l1 = 0 → B_X11_bothOf_28 Q rc_X11_bothOf rc_X11_plainOf rc_X11_positiveOf rc_X11_testOf (L_X11_bothOf_6 Q rc_X11_bothOf rc_X11_plainOf rc_X11_positiveOf rc_X11_testOf n) l1 l2 s15) ∧ (¬ l1 = 0 → (l2 = 0 → B_X11_bothOf_28 Q rc_X11_bothOf rc_X11_plainOf rc_X11_positiveOf rc_X11_testOf (L_X11_bothOf_6 Q rc_X11_bothOf rc_X11_plainOf rc_X11_positiveOf rc_X11_testOf n) l1 l2 s15) ∧ (¬ l2 = 0 → B_X11_bothOf_29 Q rc_X11_bothOf rc_X11_plainOf rc_X11_positiveOf rc_X11_testOf (L_X11_bothOf_6 Q rc_X11_bothOf rc_X11_plainOf rc_X11_positiveOf rc_X11_testOf n) l1 l2 1 s15))))
def e_X11_bothOf (rc_X11_bothOf : Int → st_S → (Int → st_S → Prop) → Prop) (rc_X11_plainOf : Int → st_S → (Int → st_S → Prop) → Prop) (rc_X11_positiveOf : Int → st_S → (Int → st_S → Prop) → Prop) (rc_X11_testOf : Int → st_S → (Int → st_S → Prop) → Prop) (a1 : Int) (σ : st_S) (Q : Int → st_S → Prop) : Prop := rc_X11_plainOf a1 σ (fun r19 s20 => ∃ m6 : Nat, L_X11_bothOf_6 Q rc_X11_bothOf rc_X11_plainOf rc_X11_positiveOf rc_X11_testOf m6 a1 r19 s20)
def B_X11_plainOf_20 (Q : Int → st_S → Prop) (rc_X11_bothOf : Int → st_S → (Int → st_S → Prop) → Prop) (rc_X11_plainOf : Int → st_S → (Int → st_S → Prop) → Prop) (rc_X11_positiveOf : Int → st_S → (Int → st_S → Prop) → Prop) (rc_X11_testOf : Int → st_S → (Int → st_S → Prop) → Prop) (k2 : Int → Int → st_S → Prop) (l1 : Int) (v0 : Int) (σ : st_S) : Prop := k2 l1 v0 σ
def B_X11_plainOf_38 (Q : Int → st_S → Prop) (rc_X11_bothOf : Int → st_S → (Int → st_S → Prop) → Prop) (rc_X11_plainOf : Int → st_S → (Int → st_S → Prop) → Prop) (rc_X11_positiveOf : Int → st_S → (Int → st_S → Prop) → Prop) (rc_X11_testOf : Int → st_S → (Int → st_S → Prop) → Prop)  (v0 : Int) (σ : st_S) : Prop := (v0 = 0 ∨ v0 = 1) ∧ Q v0 σ
def L_X11_plainOf_2 (Q : Int → st_S → Prop) (rc_X11_bothOf : Int → st_S → (Int → st_S → Prop) → Prop) (rc_X11_plainOf : Int → st_S → (Int → st_S → Prop) → Prop) (rc_X11_positiveOf : Int → st_S → (Int → st_S → Prop) → Prop) (rc_X11_testOf : Int → st_S → (Int → st_S → Prop) → Prop)  : Nat → Int → Int → st_S → Prop
  | 0 => fun _ _ _ => False
  | n + 1 => fun l1 l2 σ => wp_X11_passes0 9 σ (fun r7 s8 => (r7 = 0 → rc_X11_positiveOf l1 s8 (fun r9 s10 => (r9 = l2 → B_X11_plainOf_38 Q rc_X11_bothOf rc_X11_plainOf rc_X11_positiveOf rc_X11_testOf 0 s10) ∧ (¬ r9 = l2 → B_X11_plainOf_38 Q rc_X11_bothOf rc_X11_plainOf rc_X11_positiveOf rc_X11_testOf 1 s10))) ∧ (¬ r7 = 0 → (¬ l2 = 0 → B_X11_plainOf_20 Q rc_X11_bothOf rc_X11_plainOf rc_X11_positiveOf rc_X11_testOf (L_X11_plainOf_2 Q rc_X11_bothOf rc_X11_plainOf rc_X11_positiveOf rc_X11_testOf n) l1 0 s8) ∧ (l2 = 0 → B_X11_plainOf_20 Q rc_X11_bothOf rc_X11_plainOf rc_X11_positiveOf rc_X11_testOf (L_X11_plainOf_2 Q rc_X11_bothOf rc_X11_plainOf rc_X11_positiveOf rc_X11_testOf n) l1 1 s8)))
def e_X11_plainOf (rc_X11_bothOf : Int → st_S → (Int → st_S → Prop) → Prop) (rc_X11_plainOf : Int → st_S → (Int → st_S → Prop) → Prop) (rc_X11_positiveOf : Int → st_S → (Int → st_S → Prop) → Prop) (rc_X11_testOf : Int → st_S → (Int → st_S → Prop) → Prop) (a1 : Int) (σ : st_S) (Q : Int → st_S → Prop) : Prop := ∃ m2 : Nat, L_X11_plainOf_2 Q rc_X11_bothOf rc_X11_plainOf rc_X11_positiveOf rc_X11_testOf m2 a1 0 σ
def B_X11_positiveOf_126 (Q : Int → st_S → Prop) (rc_X11_bothOf : Int → st_S → (Int → st_S → Prop) → Prop) (rc_X11_plainOf : Int → st_S → (Int → st_S → Prop) → Prop) (rc_X11_positiveOf : Int → st_S → (Int → st_S → Prop) → Prop) (rc_X11_testOf : Int → st_S → (Int → st_S → Prop) → Prop)  (v0 : Int) (σ : st_S) : Prop := (v0 = 0 ∨ v0 = 1) ∧ Q v0 σ
def B_X11_positiveOf_121 (Q : Int → st_S → Prop) (rc_X11_bothOf : Int → st_S → (Int → st_S → Prop) → Prop) (rc_X11_plainOf : Int → st_S → (Int → st_S → Prop) → Prop) (rc_X11_positiveOf : Int → st_S → (Int → st_S → Prop) → Prop) (rc_X11_testOf : Int → st_S → (Int → st_S → Prop) → Prop)   (σ : st_S) : Prop := B_X11_positiveOf_126 Q rc_X11_bothOf rc_X11_plainOf rc_X11_positiveOf rc_X11_testOf 1 σ
def B_X11_positiveOf_125 (Q : Int → st_S → Prop) (rc_X11_bothOf : Int → st_S → (Int → st_S → Prop) → Prop) (rc_X11_plainOf : Int → st_S → (Int → st_S → Prop) → Prop) (rc_X11_positiveOf : Int → st_S → (Int → st_S → Prop) → Prop) (rc_X11_testOf : Int → st_S → (Int → st_S → Prop) → Prop)   (σ : st_S) : Prop := B_X11_positiveOf_126 Q rc_X11_bothOf rc_X11_plainOf rc_X11_positiveOf rc_X11_testOf 0 σ
def e_X11_positiveOf (rc_X11_bothOf : Int → st_S → (Int → st_S → Prop) → Prop) (rc_X11_plainOf : Int → st_S → (Int → st_S → Prop) → Prop) (rc_X11_positiveOf : Int → st_S → (Int → st_S → Prop) → Prop) (rc_X11_testOf : Int → st_S → (Int → st_S → Prop) → Prop) (a1 : Int) (σ : st_S) (Q : Int → st_S → Prop) : Prop := wp_X11_sign 40 σ (fun r29 s30 => wp_X11_passes0 r29 s30 (fun r31 s32 => (r31 = 0 → wp_X11_sumOf 60 a1 s32 (fun r33 s34 => wp_X11_codeAt (gI s34 0 22) s34 (fun r36 s37 => ∀ x39 : Int, x39 = wr (gI s37 0 22 + 1) → ∀ s40 : st_S, s40 = sI s37 0 22 x39 → wp_X11_sumOf 60 a1 s40 (fun r41 s42 => (a1 = 0 → B_X11_positiveOf_125 Q rc_X11_bothOf rc_X11_plainOf rc_X11_positiveOf rc_X11_testOf s42) ∧ (¬ a1 = 0 → (¬ gI s42 0 24 = 0 → B_X11_positiveOf_125 Q rc_X11_bothOf rc_X11_plainOf rc_X11_positiveOf rc_X11_testOf s42) ∧ (gI s42 0 24 = 0 → wp_X11_sign 60 s42 (fun r44 s45 => (¬ r36 = r44 → wp_X11_sign 62 s45 (fun r46 s47 => (¬ r36 = r46 → (¬ p_cmp r33 r41 = 0 → B_X11_positiveOf_125 Q rc_X11_bothOf rc_X11_plainOf rc_X11_positiveOf rc_X11_testOf s47) ∧ (p_cmp r33 r41 = 0 → B_X11_positiveOf_121 Q rc_X11_bothOf rc_X11_plainOf rc_X11_positiveOf rc_X11_testOf s47)) ∧ (r36 = r46 → (p_cmp r33 r41 ≤ 0 → B_X11_positiveOf_125 Q rc_X11_bothOf rc_X11_plainOf rc_X11_positiveOf rc_X11_testOf s47) ∧ (¬ p_cmp r33 r41 ≤ 0 → B_X11_positiveOf_121 Q rc_X11_bothOf rc_X11_plainOf rc_X11_positiveOf rc_X11_testOf s47)))) ∧ (r36 = r44 → (0 ≤ p_cmp r33 r41 → B_X11_positiveOf_125 Q rc_X11_bothOf rc_X11_plainOf rc_X11_positiveOf rc_X11_testOf s45) ∧ (¬ 0 ≤ p_cmp r33 r41 → B_X11_positiveOf_121 Q rc_X11_bothOf rc_X11_plainOf rc_X11_positiveOf rc_X11_testOf s45))))))))) ∧ (¬ r31 = 0 → rc_X11_testOf a1 s32 (fun r55 s56 => ∀ x58 : Int, x58 = wr (gI s56 0 22 + 1) → ∀ s59 : st_S, s59 = sI s56 0 22 x58 → (r55 = 0 ∨ r55 = 1) ∧ Q r55 s59))))
def B_X11_testOf_46 (Q : Int → st_S → Prop) (rc_X11_bothOf : Int → st_S → (Int → st_S → Prop) → Prop) (rc_X11_plainOf : Int → st_S → (Int → st_S → Prop) → Prop) (rc_X11_positiveOf : Int → st_S → (Int → st_S → Prop) → Prop) (rc_X11_testOf : Int → st_S → (Int → st_S → Prop) → Prop) (k6 : Int → Int → st_S → Prop) (l1 : Int) (v0 : Int) (σ : st_S) : Prop := k6 l1 v0 σ
def B_X11_testOf_41 (Q : Int → st_S → Prop) (rc_X11_bothOf : Int → st_S → (Int → st_S → Prop) → Prop) (rc_X11_plainOf : Int → st_S → (Int → st_S → Prop) → Prop) (rc_X11_positiveOf : Int → st_S → (Int → st_S → Prop) → Prop) (rc_X11_testOf : Int → st_S → (Int → st_S → Prop) → Prop) (k6 : Int → Int → st_S → Prop) (l1 : Int) (σ : st_S) : Prop := B_X11_testOf_46 Q rc_X11_bothOf rc_X11_plainOf rc_X11_positiveOf rc_X11_testOf k6 l1 1 σ
def B_X11_testOf_29 (Q : Int → st_S → Prop) (rc_X11_bothOf : Int → st_S → (Int → st_S → Prop) → Prop) (rc_X11_plainOf : Int → st_S → (Int → st_S → Prop) → Prop) (rc_X11_positiveOf : Int → st_S → (Int → st_S → Prop) → Prop) (rc_X11_testOf : Int → st_S → (Int → st_S → Prop) → Prop) (k6 : Int → Int → st_S → Prop) (l1 : Int) (l2 : Int) (v0 : Int) (σ : st_S) : Prop := rc_X11_bothOf v0 σ (fun r10 s11 => (¬ l2 = 0 → B_X11_testOf_41 Q rc_X11_bothOf rc_X11_plainOf rc_X11_positiveOf rc_X11_testOf k6 l1 s11) ∧ (l2 = 0 → (r10 = 0 → B_X11_testOf_46 Q rc_X11_bothOf rc_X11_plainOf rc_X11_positiveOf rc_X11_testOf k6 l1 0 s11) ∧ (¬ r10 = 0 → B_X11_testOf_41 Q rc_X11_bothOf rc_X11_plainOf rc_X11_positiveOf rc_X11_testOf k6 l1 s11)))
def B_X11_testOf_28 (Q : Int → st_S → Prop) (rc_X11_bothOf : Int → st_S → (Int → st_S → Prop) → Prop) (rc_X11_plainOf : Int → st_S → (Int → st_S → Prop) → Prop) (rc_X11_positiveOf : Int → st_S → (Int → st_S → Prop) → Prop) (rc_X11_testOf : Int → st_S → (Int → st_S → Prop) → Prop) (k6 : Int → Int → st_S → Prop) (l1 : Int) (l2 : Int) (σ : st_S) : Prop := B_X11_testOf_29 Q rc_X11_bothOf rc_X11_plainOf rc_X11_positiveOf rc_X11_testOf k6 l1 l2 0 σ
def L_X11_testOf_6 (Q : Int → st_S → Prop) (rc_X11_bothOf : Int → st_S → (Int → st_S → Prop) → Prop) (rc_X11_plainOf : Int → st_S → (Int → st_S → Prop) → Prop) (rc_X11_positiveOf : Int → st_S → (Int → st_S → Prop) → Prop) (rc_X11_testOf : Int → st_S → (Int → st_S → Prop) → Prop)  : Nat → Int → Int → st_S → Prop
  | 0 => fun _ _ _ => False
  | n + 1 => fun l1 l2 σ => wp_X11_passes0 7 σ (fun r14 s15 => (r14 = 0 → (l2 = 0 ∨ l2 = 1) ∧ Q l2 s15) ∧ (¬ r14 = 0 → (l1 = 0 → B_X11_testOf_28 Q rc_X11_bothOf rc_X11_plainOf rc_X11_positiveOf rc_X11_testOf (L_X11_testOf_6 Q rc_X11_bothOf rc_X11_plainOf rc_X11_positiveOf rc_X11_testOf n) l1 l2 s15) ∧ (¬ l1 = 0 → (¬ l2 = 0 → B_X11_testOf_28 Q rc_X11_bothOf rc_X11_plainOf rc_X11_positiveOf rc_X11_testOf (L_X11_testOf_6 Q rc_X11_bothOf rc_X11_plainOf rc_X11_positiveOf rc_X11_testOf n) l1 l2 s15) ∧ (l2 = 0 → B_X11_testOf_29 Q rc_X11_bothOf rc_X11_plainOf rc_X11_positiveOf rc_X11_testOf (L_X11_testOf_6 Q rc_X11_bothOf rc_X11_plainOf rc_X11_positiveOf rc_X11_testOf n) l1 l2 1 s15))))
def e_X11_testOf (rc_X11_bothOf : Int → st_S → (Int → st_S → Prop) → Prop) (rc_X11_plainOf : Int → st_S → (Int → st_S → Prop) → Prop) (rc_X11_positiveOf : Int → st_S → (Int → st_S → Prop) → Prop) (rc_X11_testOf : Int → st_S → (Int → st_S → Prop) → Prop) (a1 : Int) (σ : st_S) (Q : Int → st_S → Prop) : Prop := rc_X11_bothOf a1 σ (fun r19 s20 => ∃ m6 : Nat, L_X11_testOf_6 Q rc_X11_bothOf rc_X11_plainOf rc_X11_positiveOf rc_X11_testOf m6 a1 r19 s20)
def G_X11_bothOf : Nat → (Int → st_S → (Int → st_S → Prop) → Prop) × (Int → st_S → (Int → st_S → Prop) → Prop) × (Int → st_S → (Int → st_S → Prop) → Prop) × (Int → st_S → (Int → st_S → Prop) → Prop)
  | 0 => (fun _ _ _ => False, fun _ _ _ => False, fun _ _ _ => False, fun _ _ _ => False)
  | d + 1 => (e_X11_bothOf ((G_X11_bothOf d).1) ((G_X11_bothOf d).2.1) ((G_X11_bothOf d).2.2.1) ((G_X11_bothOf d).2.2.2), e_X11_plainOf ((G_X11_bothOf d).1) ((G_X11_bothOf d).2.1) ((G_X11_bothOf d).2.2.1) ((G_X11_bothOf d).2.2.2), e_X11_positiveOf ((G_X11_bothOf d).1) ((G_X11_bothOf d).2.1) ((G_X11_bothOf d).2.2.1) ((G_X11_bothOf d).2.2.2), e_X11_testOf ((G_X11_bothOf d).1) ((G_X11_bothOf d).2.1) ((G_X11_bothOf d).2.2.1) ((G_X11_bothOf d).2.2.2))
def wp_X11_bothOf (d : Nat) : Int → st_S → (Int → st_S → Prop) → Prop := (G_X11_bothOf d).1
def wp_X11_plainOf (d : Nat) : Int → st_S → (Int → st_S → Prop) → Prop := (G_X11_bothOf d).2.1
def wp_X11_positiveOf (d : Nat) : Int → st_S → (Int → st_S → Prop) → Prop := (G_X11_bothOf d).2.2.1
def wp_X11_testOf (d : Nat) : Int → st_S → (Int → st_S → Prop) → Prop := (G_X11_bothOf d).2.2.2
set_option maxRecDepth 20000 in
theorem jb_X11_bothOf_46 {X : jj_X} {E : ev_E} {n0 hN : Nat} (hc : Cx X E cX11_bothOf 4 n0 hN RX11) (hm : eM E = 2) (hr : (xT X).sig.returnType = (some .boolean)) {d : Nat} (hh : 64 + (d + 1) ≤ hN) {Q : Int → st_S → Prop} {rc_X11_bothOf : Int → st_S → (Int → st_S → Prop) → Prop} (hr_X11_bothOf : ∀ {l : Launch} {E : ev_E} (hE : Eok E) (hm : eM E = 2) {a1 : Int} (ca1 : wr a1 = a1) {σ : st_S} {Q : Int → st_S → Prop}, rc_X11_bothOf a1 σ Q → cM l yX11_bothOf cX11_bothOf 4 (some .boolean) E (64 + d) 0 0 [vR E 0, vI a1] σ (qI E (gN σ + 0) Q)) {rc_X11_plainOf : Int → st_S → (Int → st_S → Prop) → Prop} (hr_X11_plainOf : ∀ {l : Launch} {E : ev_E} (hE : Eok E) (hm : eM E = 2) {a1 : Int} (ca1 : wr a1 = a1) {σ : st_S} {Q : Int → st_S → Prop}, rc_X11_plainOf a1 σ Q → cM l yX11_plainOf cX11_plainOf 3 (some .boolean) E (64 + d) 0 0 [vR E 0, vI a1] σ (qI E (gN σ + 0) Q)) {rc_X11_positiveOf : Int → st_S → (Int → st_S → Prop) → Prop} (hr_X11_positiveOf : ∀ {l : Launch} {E : ev_E} (hE : Eok E) (hm : eM E = 2) {a1 : Int} (ca1 : wr a1 = a1) {σ : st_S} {Q : Int → st_S → Prop}, rc_X11_positiveOf a1 σ Q → cM l yX11_positiveOf cX11_positiveOf 7 (some .boolean) E (64 + d) 0 0 [vR E 0, vI a1] σ (qI E (gN σ + 0) Q)) {rc_X11_testOf : Int → st_S → (Int → st_S → Prop) → Prop} (hr_X11_testOf : ∀ {l : Launch} {E : ev_E} (hE : Eok E) (hm : eM E = 2) {a1 : Int} (ca1 : wr a1 = a1) {σ : st_S} {Q : Int → st_S → Prop}, rc_X11_testOf a1 σ Q → cM l yX11_testOf cX11_testOf 4 (some .boolean) E (64 + d) 0 0 [vR E 0, vI a1] σ (qI E (gN σ + 0) Q)) {k6 : Int → Int → st_S → Prop} (hk6 : ∀ {l1 : Int} {l2 : Int} (cl1 : wr l1 = l1) (cl2 : wr l2 = l2) {σ : st_S}, k6 l1 l2 σ → J X E 4 n0 0 0 (MQ (xB X) (qI E (n0 + 0) Q) (xA X) (xS X) 0 0 (eF E)) σ 6 [(0, vR E 0), (1, vI l1), (2, vI l2)] []) {l1 : Int} {v0 : Int} (cl1 : wr l1 = l1) (cv0 : wr v0 = v0) {σ : st_S} (h : B_X11_bothOf_46 Q rc_X11_bothOf rc_X11_plainOf rc_X11_positiveOf rc_X11_testOf k6 l1 v0 σ) : J X E 4 n0 0 0 (MQ (xB X) (qI E (n0 + 0) Q) (xA X) (xS X) 0 0 (eF E)) σ 46 [(0, vR E 0), (1, vI l1)] [vI v0] := by
  have hh1 : 1 ≤ hN := by omega
  replace h : k6 l1 v0 σ := h
  refine j_istore_n (lv' := [(2, vI v0), (0, vR E 0), (1, vI l1)]) hc dX11_bothOf_46 rfl (by decide) rfl ?_
  refine j_goto (tgt := 6) hc dX11_bothOf_47 (by decide) ?_
  refine j_sub (lv' := [(0, vR E 0), (1, vI l1), (2, vI v0)]) [1, 2, 0] rfl ?_
  exact hk6 cl1 cv0 h
set_option maxRecDepth 20000 in
theorem jb_X11_bothOf_45 {X : jj_X} {E : ev_E} {n0 hN : Nat} (hc : Cx X E cX11_bothOf 4 n0 hN RX11) (hm : eM E = 2) (hr : (xT X).sig.returnType = (some .boolean)) {d : Nat} (hh : 64 + (d + 1) ≤ hN) {Q : Int → st_S → Prop} {rc_X11_bothOf : Int → st_S → (Int → st_S → Prop) → Prop} (hr_X11_bothOf : ∀ {l : Launch} {E : ev_E} (hE : Eok E) (hm : eM E = 2) {a1 : Int} (ca1 : wr a1 = a1) {σ : st_S} {Q : Int → st_S → Prop}, rc_X11_bothOf a1 σ Q → cM l yX11_bothOf cX11_bothOf 4 (some .boolean) E (64 + d) 0 0 [vR E 0, vI a1] σ (qI E (gN σ + 0) Q)) {rc_X11_plainOf : Int → st_S → (Int → st_S → Prop) → Prop} (hr_X11_plainOf : ∀ {l : Launch} {E : ev_E} (hE : Eok E) (hm : eM E = 2) {a1 : Int} (ca1 : wr a1 = a1) {σ : st_S} {Q : Int → st_S → Prop}, rc_X11_plainOf a1 σ Q → cM l yX11_plainOf cX11_plainOf 3 (some .boolean) E (64 + d) 0 0 [vR E 0, vI a1] σ (qI E (gN σ + 0) Q)) {rc_X11_positiveOf : Int → st_S → (Int → st_S → Prop) → Prop} (hr_X11_positiveOf : ∀ {l : Launch} {E : ev_E} (hE : Eok E) (hm : eM E = 2) {a1 : Int} (ca1 : wr a1 = a1) {σ : st_S} {Q : Int → st_S → Prop}, rc_X11_positiveOf a1 σ Q → cM l yX11_positiveOf cX11_positiveOf 7 (some .boolean) E (64 + d) 0 0 [vR E 0, vI a1] σ (qI E (gN σ + 0) Q)) {rc_X11_testOf : Int → st_S → (Int → st_S → Prop) → Prop} (hr_X11_testOf : ∀ {l : Launch} {E : ev_E} (hE : Eok E) (hm : eM E = 2) {a1 : Int} (ca1 : wr a1 = a1) {σ : st_S} {Q : Int → st_S → Prop}, rc_X11_testOf a1 σ Q → cM l yX11_testOf cX11_testOf 4 (some .boolean) E (64 + d) 0 0 [vR E 0, vI a1] σ (qI E (gN σ + 0) Q)) {k6 : Int → Int → st_S → Prop} (hk6 : ∀ {l1 : Int} {l2 : Int} (cl1 : wr l1 = l1) (cl2 : wr l2 = l2) {σ : st_S}, k6 l1 l2 σ → J X E 4 n0 0 0 (MQ (xB X) (qI E (n0 + 0) Q) (xA X) (xS X) 0 0 (eF E)) σ 6 [(0, vR E 0), (1, vI l1), (2, vI l2)] []) {l1 : Int} (cl1 : wr l1 = l1) {σ : st_S} (h : B_X11_bothOf_45 Q rc_X11_bothOf rc_X11_plainOf rc_X11_positiveOf rc_X11_testOf k6 l1 σ) : J X E 4 n0 0 0 (MQ (xB X) (qI E (n0 + 0) Q) (xA X) (xS X) 0 0 (eF E)) σ 45 [(0, vR E 0), (1, vI l1)] [] := by
  have hh1 : 1 ≤ hN := by omega
  replace h : B_X11_bothOf_46 Q rc_X11_bothOf rc_X11_plainOf rc_X11_positiveOf rc_X11_testOf k6 l1 0 σ := h
  refine j_iconst hc dX11_bothOf_45 ?_
  refine j_sub (lv' := [(0, vR E 0), (1, vI l1)]) [0, 1] rfl ?_
  exact jb_X11_bothOf_46 hc hm hr hh hr_X11_bothOf hr_X11_plainOf hr_X11_positiveOf hr_X11_testOf hk6 cl1 (wlit 0 (by decide)) h
set_option maxRecDepth 20000 in
theorem jb_X11_bothOf_29 {X : jj_X} {E : ev_E} {n0 hN : Nat} (hc : Cx X E cX11_bothOf 4 n0 hN RX11) (hm : eM E = 2) (hr : (xT X).sig.returnType = (some .boolean)) {d : Nat} (hh : 64 + (d + 1) ≤ hN) {Q : Int → st_S → Prop} {rc_X11_bothOf : Int → st_S → (Int → st_S → Prop) → Prop} (hr_X11_bothOf : ∀ {l : Launch} {E : ev_E} (hE : Eok E) (hm : eM E = 2) {a1 : Int} (ca1 : wr a1 = a1) {σ : st_S} {Q : Int → st_S → Prop}, rc_X11_bothOf a1 σ Q → cM l yX11_bothOf cX11_bothOf 4 (some .boolean) E (64 + d) 0 0 [vR E 0, vI a1] σ (qI E (gN σ + 0) Q)) {rc_X11_plainOf : Int → st_S → (Int → st_S → Prop) → Prop} (hr_X11_plainOf : ∀ {l : Launch} {E : ev_E} (hE : Eok E) (hm : eM E = 2) {a1 : Int} (ca1 : wr a1 = a1) {σ : st_S} {Q : Int → st_S → Prop}, rc_X11_plainOf a1 σ Q → cM l yX11_plainOf cX11_plainOf 3 (some .boolean) E (64 + d) 0 0 [vR E 0, vI a1] σ (qI E (gN σ + 0) Q)) {rc_X11_positiveOf : Int → st_S → (Int → st_S → Prop) → Prop} (hr_X11_positiveOf : ∀ {l : Launch} {E : ev_E} (hE : Eok E) (hm : eM E = 2) {a1 : Int} (ca1 : wr a1 = a1) {σ : st_S} {Q : Int → st_S → Prop}, rc_X11_positiveOf a1 σ Q → cM l yX11_positiveOf cX11_positiveOf 7 (some .boolean) E (64 + d) 0 0 [vR E 0, vI a1] σ (qI E (gN σ + 0) Q)) {rc_X11_testOf : Int → st_S → (Int → st_S → Prop) → Prop} (hr_X11_testOf : ∀ {l : Launch} {E : ev_E} (hE : Eok E) (hm : eM E = 2) {a1 : Int} (ca1 : wr a1 = a1) {σ : st_S} {Q : Int → st_S → Prop}, rc_X11_testOf a1 σ Q → cM l yX11_testOf cX11_testOf 4 (some .boolean) E (64 + d) 0 0 [vR E 0, vI a1] σ (qI E (gN σ + 0) Q)) {k6 : Int → Int → st_S → Prop} (hk6 : ∀ {l1 : Int} {l2 : Int} (cl1 : wr l1 = l1) (cl2 : wr l2 = l2) {σ : st_S}, k6 l1 l2 σ → J X E 4 n0 0 0 (MQ (xB X) (qI E (n0 + 0) Q) (xA X) (xS X) 0 0 (eF E)) σ 6 [(0, vR E 0), (1, vI l1), (2, vI l2)] []) {l1 : Int} {l2 : Int} {v0 : Int} (cl1 : wr l1 = l1) (cl2 : wr l2 = l2) (cv0 : wr v0 = v0) {σ : st_S} (h : B_X11_bothOf_29 Q rc_X11_bothOf rc_X11_plainOf rc_X11_positiveOf rc_X11_testOf k6 l1 l2 v0 σ) : J X E 4 n0 0 0 (MQ (xB X) (qI E (n0 + 0) Q) (xA X) (xS X) 0 0 (eF E)) σ 29 [(0, vR E 0), (1, vI l1), (2, vI l2)] [vI v0, vR E 0] := by
  have hh1 : 1 ≤ hN := by omega
  replace h : rc_X11_plainOf v0 σ (fun r10 s11 => (l2 = 0 → B_X11_bothOf_45 Q rc_X11_bothOf rc_X11_plainOf rc_X11_positiveOf rc_X11_testOf k6 l1 s11) ∧ (¬ l2 = 0 → (r10 = 0 → B_X11_bothOf_45 Q rc_X11_bothOf rc_X11_plainOf rc_X11_positiveOf rc_X11_testOf k6 l1 s11) ∧ (¬ r10 = 0 → B_X11_bothOf_46 Q rc_X11_bothOf rc_X11_plainOf rc_X11_positiveOf rc_X11_testOf k6 l1 1 s11))) := h
  refine j_vI hc (k := 11) (by decide) (fun hv => Or.inl (sv_k hv hm rfl)) ml_RX11_283 mv_X11_plainOf (As := [vI v0]) (hr_X11_plainOf (cx_E hc) hm cv0 h) rfl (by omega) (by decide) ⟨Nat.zero_le _, Nat.zero_le _⟩ (Nat.le_of_ble_eq_true rfl) rfl dX11_bothOf_29 (fun r10 s11 cr10 h => ?_)
  refine j_istore_n (lv' := [(3, vI r10), (0, vR E 0), (1, vI l1), (2, vI l2)]) hc dX11_bothOf_32 rfl (by decide) rfl ?_
  refine j_iload_n hc 3 dX11_bothOf_33 rfl rfl ?_
  refine j_if_eq hc cl2 (tgt := 45) dX11_bothOf_34 (by decide) (fun q13 => ?_) (fun q13 => ?_)
  · replace h := h.1 q13
    refine j_sub (lv' := [(0, vR E 0), (1, vI l1)]) [1, 2] rfl ?_
    exact jb_X11_bothOf_45 hc hm hr hh hr_X11_bothOf hr_X11_plainOf hr_X11_positiveOf hr_X11_testOf hk6 cl1 h
  · replace h := h.2 q13
    refine j_iload_n hc 0 dX11_bothOf_37 rfl rfl ?_
    refine j_if_eq hc cr10 (tgt := 45) dX11_bothOf_38 (by decide) (fun q12 => ?_) (fun q12 => ?_)
    · replace h := h.1 q12
      refine j_sub (lv' := [(0, vR E 0), (1, vI l1)]) [1, 2] rfl ?_
      exact jb_X11_bothOf_45 hc hm hr hh hr_X11_bothOf hr_X11_plainOf hr_X11_positiveOf hr_X11_testOf hk6 cl1 h
    · replace h := h.2 q12
      refine j_iconst hc dX11_bothOf_41 ?_
      refine j_goto (tgt := 46) hc dX11_bothOf_42 (by decide) ?_
      refine j_sub (lv' := [(0, vR E 0), (1, vI l1)]) [1, 2] rfl ?_
      exact jb_X11_bothOf_46 hc hm hr hh hr_X11_bothOf hr_X11_plainOf hr_X11_positiveOf hr_X11_testOf hk6 cl1 (wlit 1 (by decide)) h
set_option maxRecDepth 20000 in
theorem jb_X11_bothOf_28 {X : jj_X} {E : ev_E} {n0 hN : Nat} (hc : Cx X E cX11_bothOf 4 n0 hN RX11) (hm : eM E = 2) (hr : (xT X).sig.returnType = (some .boolean)) {d : Nat} (hh : 64 + (d + 1) ≤ hN) {Q : Int → st_S → Prop} {rc_X11_bothOf : Int → st_S → (Int → st_S → Prop) → Prop} (hr_X11_bothOf : ∀ {l : Launch} {E : ev_E} (hE : Eok E) (hm : eM E = 2) {a1 : Int} (ca1 : wr a1 = a1) {σ : st_S} {Q : Int → st_S → Prop}, rc_X11_bothOf a1 σ Q → cM l yX11_bothOf cX11_bothOf 4 (some .boolean) E (64 + d) 0 0 [vR E 0, vI a1] σ (qI E (gN σ + 0) Q)) {rc_X11_plainOf : Int → st_S → (Int → st_S → Prop) → Prop} (hr_X11_plainOf : ∀ {l : Launch} {E : ev_E} (hE : Eok E) (hm : eM E = 2) {a1 : Int} (ca1 : wr a1 = a1) {σ : st_S} {Q : Int → st_S → Prop}, rc_X11_plainOf a1 σ Q → cM l yX11_plainOf cX11_plainOf 3 (some .boolean) E (64 + d) 0 0 [vR E 0, vI a1] σ (qI E (gN σ + 0) Q)) {rc_X11_positiveOf : Int → st_S → (Int → st_S → Prop) → Prop} (hr_X11_positiveOf : ∀ {l : Launch} {E : ev_E} (hE : Eok E) (hm : eM E = 2) {a1 : Int} (ca1 : wr a1 = a1) {σ : st_S} {Q : Int → st_S → Prop}, rc_X11_positiveOf a1 σ Q → cM l yX11_positiveOf cX11_positiveOf 7 (some .boolean) E (64 + d) 0 0 [vR E 0, vI a1] σ (qI E (gN σ + 0) Q)) {rc_X11_testOf : Int → st_S → (Int → st_S → Prop) → Prop} (hr_X11_testOf : ∀ {l : Launch} {E : ev_E} (hE : Eok E) (hm : eM E = 2) {a1 : Int} (ca1 : wr a1 = a1) {σ : st_S} {Q : Int → st_S → Prop}, rc_X11_testOf a1 σ Q → cM l yX11_testOf cX11_testOf 4 (some .boolean) E (64 + d) 0 0 [vR E 0, vI a1] σ (qI E (gN σ + 0) Q)) {k6 : Int → Int → st_S → Prop} (hk6 : ∀ {l1 : Int} {l2 : Int} (cl1 : wr l1 = l1) (cl2 : wr l2 = l2) {σ : st_S}, k6 l1 l2 σ → J X E 4 n0 0 0 (MQ (xB X) (qI E (n0 + 0) Q) (xA X) (xS X) 0 0 (eF E)) σ 6 [(0, vR E 0), (1, vI l1), (2, vI l2)] []) {l1 : Int} {l2 : Int} (cl1 : wr l1 = l1) (cl2 : wr l2 = l2) {σ : st_S} (h : B_X11_bothOf_28 Q rc_X11_bothOf rc_X11_plainOf rc_X11_positiveOf rc_X11_testOf k6 l1 l2 σ) : J X E 4 n0 0 0 (MQ (xB X) (qI E (n0 + 0) Q) (xA X) (xS X) 0 0 (eF E)) σ 28 [(0, vR E 0), (1, vI l1), (2, vI l2)] [vR E 0] := by
  have hh1 : 1 ≤ hN := by omega
  replace h : B_X11_bothOf_29 Q rc_X11_bothOf rc_X11_plainOf rc_X11_positiveOf rc_X11_testOf k6 l1 l2 0 σ := h
  refine j_iconst hc dX11_bothOf_28 ?_
  refine j_sub (lv' := [(0, vR E 0), (1, vI l1), (2, vI l2)]) [0, 1, 2] rfl ?_
  exact jb_X11_bothOf_29 hc hm hr hh hr_X11_bothOf hr_X11_plainOf hr_X11_positiveOf hr_X11_testOf hk6 cl1 cl2 (wlit 0 (by decide)) h
set_option maxRecDepth 20000 in
theorem jl_X11_bothOf_6 {X : jj_X} {E : ev_E} {n0 hN : Nat} (hc : Cx X E cX11_bothOf 4 n0 hN RX11) (hm : eM E = 2) (hr : (xT X).sig.returnType = (some .boolean)) {d : Nat} (hh : 64 + (d + 1) ≤ hN) {Q : Int → st_S → Prop} {rc_X11_bothOf : Int → st_S → (Int → st_S → Prop) → Prop} (hr_X11_bothOf : ∀ {l : Launch} {E : ev_E} (hE : Eok E) (hm : eM E = 2) {a1 : Int} (ca1 : wr a1 = a1) {σ : st_S} {Q : Int → st_S → Prop}, rc_X11_bothOf a1 σ Q → cM l yX11_bothOf cX11_bothOf 4 (some .boolean) E (64 + d) 0 0 [vR E 0, vI a1] σ (qI E (gN σ + 0) Q)) {rc_X11_plainOf : Int → st_S → (Int → st_S → Prop) → Prop} (hr_X11_plainOf : ∀ {l : Launch} {E : ev_E} (hE : Eok E) (hm : eM E = 2) {a1 : Int} (ca1 : wr a1 = a1) {σ : st_S} {Q : Int → st_S → Prop}, rc_X11_plainOf a1 σ Q → cM l yX11_plainOf cX11_plainOf 3 (some .boolean) E (64 + d) 0 0 [vR E 0, vI a1] σ (qI E (gN σ + 0) Q)) {rc_X11_positiveOf : Int → st_S → (Int → st_S → Prop) → Prop} (hr_X11_positiveOf : ∀ {l : Launch} {E : ev_E} (hE : Eok E) (hm : eM E = 2) {a1 : Int} (ca1 : wr a1 = a1) {σ : st_S} {Q : Int → st_S → Prop}, rc_X11_positiveOf a1 σ Q → cM l yX11_positiveOf cX11_positiveOf 7 (some .boolean) E (64 + d) 0 0 [vR E 0, vI a1] σ (qI E (gN σ + 0) Q)) {rc_X11_testOf : Int → st_S → (Int → st_S → Prop) → Prop} (hr_X11_testOf : ∀ {l : Launch} {E : ev_E} (hE : Eok E) (hm : eM E = 2) {a1 : Int} (ca1 : wr a1 = a1) {σ : st_S} {Q : Int → st_S → Prop}, rc_X11_testOf a1 σ Q → cM l yX11_testOf cX11_testOf 4 (some .boolean) E (64 + d) 0 0 [vR E 0, vI a1] σ (qI E (gN σ + 0) Q)) : ∀ (n : Nat) {l1 : Int} {l2 : Int} (cl1 : wr l1 = l1) (cl2 : wr l2 = l2) {σ : st_S}, L_X11_bothOf_6 Q rc_X11_bothOf rc_X11_plainOf rc_X11_positiveOf rc_X11_testOf n l1 l2 σ → J X E 4 n0 0 0 (MQ (xB X) (qI E (n0 + 0) Q) (xA X) (xS X) 0 0 (eF E)) σ 6 [(0, vR E 0), (1, vI l1), (2, vI l2)] [] := by
  have hh1 : 1 ≤ hN := by omega
  intro n
  induction n with
  | zero => intro l1 l2 cl1 cl2 σ h; exact h.elim
  | succ n ih =>
    intro l1 l2 cl1 cl2 σ h
    have hk6 : ∀ {l1 : Int} {l2 : Int} (cl1 : wr l1 = l1) (cl2 : wr l2 = l2) {σ : st_S}, L_X11_bothOf_6 Q rc_X11_bothOf rc_X11_plainOf rc_X11_positiveOf rc_X11_testOf n l1 l2 σ → J X E 4 n0 0 0 (MQ (xB X) (qI E (n0 + 0) Q) (xA X) (xS X) 0 0 (eF E)) σ 6 [(0, vR E 0), (1, vI l1), (2, vI l2)] [] := ih
    replace h : wp_X11_passes0 8 σ (fun r14 s15 => (r14 = 0 → (l2 = 0 ∨ l2 = 1) ∧ Q l2 s15) ∧ (¬ r14 = 0 → (l1 = 0 → B_X11_bothOf_28 Q rc_X11_bothOf rc_X11_plainOf rc_X11_positiveOf rc_X11_testOf (L_X11_bothOf_6 Q rc_X11_bothOf rc_X11_plainOf rc_X11_positiveOf rc_X11_testOf n) l1 l2 s15) ∧ (¬ l1 = 0 → (l2 = 0 → B_X11_bothOf_28 Q rc_X11_bothOf rc_X11_plainOf rc_X11_positiveOf rc_X11_testOf (L_X11_bothOf_6 Q rc_X11_bothOf rc_X11_plainOf rc_X11_positiveOf rc_X11_testOf n) l1 l2 s15) ∧ (¬ l2 = 0 → B_X11_bothOf_29 Q rc_X11_bothOf rc_X11_plainOf rc_X11_positiveOf rc_X11_testOf (L_X11_bothOf_6 Q rc_X11_bothOf rc_X11_plainOf rc_X11_positiveOf rc_X11_testOf n) l1 l2 1 s15)))) := h
    refine j_aload_nR hc 0 dX11_bothOf_6 rfl rfl ?_
    refine j_bipush hc dX11_bothOf_7 (by decide) ?_
    refine j_vI hc (k := 11) (by decide) (fun hv => Or.inl (sv_k hv hm rfl)) ml_RX11_272 mv_X11_passes0 (As := [vI 8]) (c_X11_passes0 (cx_E hc) hm (wlit 8 (by decide)) h) rfl (by omega) (by decide) ⟨Nat.zero_le _, Nat.zero_le _⟩ (Nat.le_of_ble_eq_true rfl) rfl dX11_bothOf_9 (fun r14 s15 cr14 h => ?_)
    refine j_if_eq hc cr14 (tgt := 50) dX11_bothOf_12 (by decide) (fun q18 => ?_) (fun q18 => ?_)
    · replace h := h.1 q18
      refine j_iload_n hc 2 dX11_bothOf_50 rfl rfl ?_
      exact j_zret hc hr (nar_bool h.1) (by rcases h.1 with e | e <;> (rw [e]; decide)) h.2 dX11_bothOf_51
    · replace h := h.2 q18
      refine j_aload_nR hc 0 dX11_bothOf_15 rfl rfl ?_
      refine j_iload_n hc 1 dX11_bothOf_16 rfl rfl ?_
      refine j_if_eq hc cl1 (tgt := 28) dX11_bothOf_17 (by decide) (fun q17 => ?_) (fun q17 => ?_)
      · replace h := h.1 q17
        refine j_sub (lv' := [(0, vR E 0), (1, vI l1), (2, vI l2)]) [0, 1, 2] rfl ?_
        exact jb_X11_bothOf_28 hc hm hr hh hr_X11_bothOf hr_X11_plainOf hr_X11_positiveOf hr_X11_testOf hk6 cl1 cl2 h
      · replace h := h.2 q17
        refine j_iload_n hc 2 dX11_bothOf_20 rfl rfl ?_
        refine j_if_eq hc cl2 (tgt := 28) dX11_bothOf_21 (by decide) (fun q16 => ?_) (fun q16 => ?_)
        · replace h := h.1 q16
          refine j_sub (lv' := [(0, vR E 0), (1, vI l1), (2, vI l2)]) [0, 1, 2] rfl ?_
          exact jb_X11_bothOf_28 hc hm hr hh hr_X11_bothOf hr_X11_plainOf hr_X11_positiveOf hr_X11_testOf hk6 cl1 cl2 h
        · replace h := h.2 q16
          refine j_iconst hc dX11_bothOf_24 ?_
          refine j_goto (tgt := 29) hc dX11_bothOf_25 (by decide) ?_
          refine j_sub (lv' := [(0, vR E 0), (1, vI l1), (2, vI l2)]) [0, 1, 2] rfl ?_
          exact jb_X11_bothOf_29 hc hm hr hh hr_X11_bothOf hr_X11_plainOf hr_X11_positiveOf hr_X11_testOf hk6 cl1 cl2 (wlit 1 (by decide)) h
set_option maxRecDepth 20000 in
theorem ce_X11_bothOf {d : Nat} {rc_X11_bothOf : Int → st_S → (Int → st_S → Prop) → Prop} (hr_X11_bothOf : ∀ {l : Launch} {E : ev_E} (hE : Eok E) (hm : eM E = 2) {a1 : Int} (ca1 : wr a1 = a1) {σ : st_S} {Q : Int → st_S → Prop}, rc_X11_bothOf a1 σ Q → cM l yX11_bothOf cX11_bothOf 4 (some .boolean) E (64 + d) 0 0 [vR E 0, vI a1] σ (qI E (gN σ + 0) Q)) {rc_X11_plainOf : Int → st_S → (Int → st_S → Prop) → Prop} (hr_X11_plainOf : ∀ {l : Launch} {E : ev_E} (hE : Eok E) (hm : eM E = 2) {a1 : Int} (ca1 : wr a1 = a1) {σ : st_S} {Q : Int → st_S → Prop}, rc_X11_plainOf a1 σ Q → cM l yX11_plainOf cX11_plainOf 3 (some .boolean) E (64 + d) 0 0 [vR E 0, vI a1] σ (qI E (gN σ + 0) Q)) {rc_X11_positiveOf : Int → st_S → (Int → st_S → Prop) → Prop} (hr_X11_positiveOf : ∀ {l : Launch} {E : ev_E} (hE : Eok E) (hm : eM E = 2) {a1 : Int} (ca1 : wr a1 = a1) {σ : st_S} {Q : Int → st_S → Prop}, rc_X11_positiveOf a1 σ Q → cM l yX11_positiveOf cX11_positiveOf 7 (some .boolean) E (64 + d) 0 0 [vR E 0, vI a1] σ (qI E (gN σ + 0) Q)) {rc_X11_testOf : Int → st_S → (Int → st_S → Prop) → Prop} (hr_X11_testOf : ∀ {l : Launch} {E : ev_E} (hE : Eok E) (hm : eM E = 2) {a1 : Int} (ca1 : wr a1 = a1) {σ : st_S} {Q : Int → st_S → Prop}, rc_X11_testOf a1 σ Q → cM l yX11_testOf cX11_testOf 4 (some .boolean) E (64 + d) 0 0 [vR E 0, vI a1] σ (qI E (gN σ + 0) Q)) {l : Launch} {E : ev_E} (hE : Eok E) (hm : eM E = 2) {a1 : Int} (ca1 : wr a1 = a1) {σ : st_S} {Q : Int → st_S → Prop} (h : e_X11_bothOf rc_X11_bothOf rc_X11_plainOf rc_X11_positiveOf rc_X11_testOf a1 σ Q) : cM l yX11_bothOf cX11_bothOf 4 (some .boolean) E (64 + (d + 1)) 0 0 [vR E 0, vI a1] σ (qI E (gN σ + 0) Q) := by
  refine cM_of (lv := [(0, vR E 0), (1, vI a1)]) (by decide) hE (Nat.le_of_ble_eq_true rfl) (rfl) ?_
  intro X hX hc _ _ hr _ _
  subst hX
  have hh : 64 + (d + 1) ≤ 64 + (d + 1) := Nat.le_refl _
  have hh1 : 1 ≤ 64 + (d + 1) := by omega
  replace h : rc_X11_plainOf a1 σ (fun r19 s20 => ∃ m6 : Nat, L_X11_bothOf_6 Q rc_X11_bothOf rc_X11_plainOf rc_X11_positiveOf rc_X11_testOf m6 a1 r19 s20) := h
  refine j_aload_nR hc 0 dX11_bothOf_0 rfl rfl ?_
  refine j_iload_n hc 1 dX11_bothOf_1 rfl rfl ?_
  refine j_vI hc (k := 11) (by decide) (fun hv => Or.inl (sv_k hv hm rfl)) ml_RX11_283 mv_X11_plainOf (As := [vI a1]) (hr_X11_plainOf (cx_E hc) hm ca1 h) rfl (by omega) (by decide) ⟨Nat.zero_le _, Nat.zero_le _⟩ (Nat.le_of_ble_eq_true rfl) rfl dX11_bothOf_2 (fun r19 s20 cr19 h => ?_)
  refine j_istore_n (lv' := [(2, vI r19), (0, vR E 0), (1, vI a1)]) hc dX11_bothOf_5 rfl (by decide) rfl ?_
  obtain ⟨n6, h⟩ := h
  refine j_sub (lv' := [(0, vR E 0), (1, vI a1), (2, vI r19)]) [1, 2, 0] rfl ?_
  exact jl_X11_bothOf_6 hc hm hr hh hr_X11_bothOf hr_X11_plainOf hr_X11_positiveOf hr_X11_testOf n6 ca1 cr19 h
set_option maxRecDepth 20000 in
theorem jb_X11_plainOf_20 {X : jj_X} {E : ev_E} {n0 hN : Nat} (hc : Cx X E cX11_plainOf 3 n0 hN RX11) (hm : eM E = 2) (hr : (xT X).sig.returnType = (some .boolean)) {d : Nat} (hh : 64 + (d + 1) ≤ hN) {Q : Int → st_S → Prop} {rc_X11_bothOf : Int → st_S → (Int → st_S → Prop) → Prop} (hr_X11_bothOf : ∀ {l : Launch} {E : ev_E} (hE : Eok E) (hm : eM E = 2) {a1 : Int} (ca1 : wr a1 = a1) {σ : st_S} {Q : Int → st_S → Prop}, rc_X11_bothOf a1 σ Q → cM l yX11_bothOf cX11_bothOf 4 (some .boolean) E (64 + d) 0 0 [vR E 0, vI a1] σ (qI E (gN σ + 0) Q)) {rc_X11_plainOf : Int → st_S → (Int → st_S → Prop) → Prop} (hr_X11_plainOf : ∀ {l : Launch} {E : ev_E} (hE : Eok E) (hm : eM E = 2) {a1 : Int} (ca1 : wr a1 = a1) {σ : st_S} {Q : Int → st_S → Prop}, rc_X11_plainOf a1 σ Q → cM l yX11_plainOf cX11_plainOf 3 (some .boolean) E (64 + d) 0 0 [vR E 0, vI a1] σ (qI E (gN σ + 0) Q)) {rc_X11_positiveOf : Int → st_S → (Int → st_S → Prop) → Prop} (hr_X11_positiveOf : ∀ {l : Launch} {E : ev_E} (hE : Eok E) (hm : eM E = 2) {a1 : Int} (ca1 : wr a1 = a1) {σ : st_S} {Q : Int → st_S → Prop}, rc_X11_positiveOf a1 σ Q → cM l yX11_positiveOf cX11_positiveOf 7 (some .boolean) E (64 + d) 0 0 [vR E 0, vI a1] σ (qI E (gN σ + 0) Q)) {rc_X11_testOf : Int → st_S → (Int → st_S → Prop) → Prop} (hr_X11_testOf : ∀ {l : Launch} {E : ev_E} (hE : Eok E) (hm : eM E = 2) {a1 : Int} (ca1 : wr a1 = a1) {σ : st_S} {Q : Int → st_S → Prop}, rc_X11_testOf a1 σ Q → cM l yX11_testOf cX11_testOf 4 (some .boolean) E (64 + d) 0 0 [vR E 0, vI a1] σ (qI E (gN σ + 0) Q)) {k2 : Int → Int → st_S → Prop} (hk2 : ∀ {l1 : Int} {l2 : Int} (cl1 : wr l1 = l1) (cl2 : wr l2 = l2) {σ : st_S}, k2 l1 l2 σ → J X E 3 n0 0 0 (MQ (xB X) (qI E (n0 + 0) Q) (xA X) (xS X) 0 0 (eF E)) σ 2 [(0, vR E 0), (1, vI l1), (2, vI l2)] []) {l1 : Int} {v0 : Int} (cl1 : wr l1 = l1) (cv0 : wr v0 = v0) {σ : st_S} (h : B_X11_plainOf_20 Q rc_X11_bothOf rc_X11_plainOf rc_X11_positiveOf rc_X11_testOf k2 l1 v0 σ) : J X E 3 n0 0 0 (MQ (xB X) (qI E (n0 + 0) Q) (xA X) (xS X) 0 0 (eF E)) σ 20 [(0, vR E 0), (1, vI l1)] [vI v0] := by
  have hh1 : 1 ≤ hN := by omega
  replace h : k2 l1 v0 σ := h
  refine j_istore_n (lv' := [(2, vI v0), (0, vR E 0), (1, vI l1)]) hc dX11_plainOf_20 rfl (by decide) rfl ?_
  refine j_goto (tgt := 2) hc dX11_plainOf_21 (by decide) ?_
  refine j_sub (lv' := [(0, vR E 0), (1, vI l1), (2, vI v0)]) [1, 2, 0] rfl ?_
  exact hk2 cl1 cv0 h
set_option maxRecDepth 20000 in
theorem jb_X11_plainOf_38 {X : jj_X} {E : ev_E} {n0 hN : Nat} (hc : Cx X E cX11_plainOf 3 n0 hN RX11) (hm : eM E = 2) (hr : (xT X).sig.returnType = (some .boolean)) {d : Nat} (hh : 64 + (d + 1) ≤ hN) {Q : Int → st_S → Prop} {rc_X11_bothOf : Int → st_S → (Int → st_S → Prop) → Prop} (hr_X11_bothOf : ∀ {l : Launch} {E : ev_E} (hE : Eok E) (hm : eM E = 2) {a1 : Int} (ca1 : wr a1 = a1) {σ : st_S} {Q : Int → st_S → Prop}, rc_X11_bothOf a1 σ Q → cM l yX11_bothOf cX11_bothOf 4 (some .boolean) E (64 + d) 0 0 [vR E 0, vI a1] σ (qI E (gN σ + 0) Q)) {rc_X11_plainOf : Int → st_S → (Int → st_S → Prop) → Prop} (hr_X11_plainOf : ∀ {l : Launch} {E : ev_E} (hE : Eok E) (hm : eM E = 2) {a1 : Int} (ca1 : wr a1 = a1) {σ : st_S} {Q : Int → st_S → Prop}, rc_X11_plainOf a1 σ Q → cM l yX11_plainOf cX11_plainOf 3 (some .boolean) E (64 + d) 0 0 [vR E 0, vI a1] σ (qI E (gN σ + 0) Q)) {rc_X11_positiveOf : Int → st_S → (Int → st_S → Prop) → Prop} (hr_X11_positiveOf : ∀ {l : Launch} {E : ev_E} (hE : Eok E) (hm : eM E = 2) {a1 : Int} (ca1 : wr a1 = a1) {σ : st_S} {Q : Int → st_S → Prop}, rc_X11_positiveOf a1 σ Q → cM l yX11_positiveOf cX11_positiveOf 7 (some .boolean) E (64 + d) 0 0 [vR E 0, vI a1] σ (qI E (gN σ + 0) Q)) {rc_X11_testOf : Int → st_S → (Int → st_S → Prop) → Prop} (hr_X11_testOf : ∀ {l : Launch} {E : ev_E} (hE : Eok E) (hm : eM E = 2) {a1 : Int} (ca1 : wr a1 = a1) {σ : st_S} {Q : Int → st_S → Prop}, rc_X11_testOf a1 σ Q → cM l yX11_testOf cX11_testOf 4 (some .boolean) E (64 + d) 0 0 [vR E 0, vI a1] σ (qI E (gN σ + 0) Q)) {v0 : Int} (cv0 : wr v0 = v0) {σ : st_S} (h : B_X11_plainOf_38 Q rc_X11_bothOf rc_X11_plainOf rc_X11_positiveOf rc_X11_testOf v0 σ) : J X E 3 n0 0 0 (MQ (xB X) (qI E (n0 + 0) Q) (xA X) (xS X) 0 0 (eF E)) σ 38 [] [vI v0] := by
  have hh1 : 1 ≤ hN := by omega
  replace h : (v0 = 0 ∨ v0 = 1) ∧ Q v0 σ := h
  exact j_zret hc hr (nar_bool h.1) (by rcases h.1 with e | e <;> (rw [e]; decide)) h.2 dX11_plainOf_38
set_option maxRecDepth 20000 in
theorem jl_X11_plainOf_2 {X : jj_X} {E : ev_E} {n0 hN : Nat} (hc : Cx X E cX11_plainOf 3 n0 hN RX11) (hm : eM E = 2) (hr : (xT X).sig.returnType = (some .boolean)) {d : Nat} (hh : 64 + (d + 1) ≤ hN) {Q : Int → st_S → Prop} {rc_X11_bothOf : Int → st_S → (Int → st_S → Prop) → Prop} (hr_X11_bothOf : ∀ {l : Launch} {E : ev_E} (hE : Eok E) (hm : eM E = 2) {a1 : Int} (ca1 : wr a1 = a1) {σ : st_S} {Q : Int → st_S → Prop}, rc_X11_bothOf a1 σ Q → cM l yX11_bothOf cX11_bothOf 4 (some .boolean) E (64 + d) 0 0 [vR E 0, vI a1] σ (qI E (gN σ + 0) Q)) {rc_X11_plainOf : Int → st_S → (Int → st_S → Prop) → Prop} (hr_X11_plainOf : ∀ {l : Launch} {E : ev_E} (hE : Eok E) (hm : eM E = 2) {a1 : Int} (ca1 : wr a1 = a1) {σ : st_S} {Q : Int → st_S → Prop}, rc_X11_plainOf a1 σ Q → cM l yX11_plainOf cX11_plainOf 3 (some .boolean) E (64 + d) 0 0 [vR E 0, vI a1] σ (qI E (gN σ + 0) Q)) {rc_X11_positiveOf : Int → st_S → (Int → st_S → Prop) → Prop} (hr_X11_positiveOf : ∀ {l : Launch} {E : ev_E} (hE : Eok E) (hm : eM E = 2) {a1 : Int} (ca1 : wr a1 = a1) {σ : st_S} {Q : Int → st_S → Prop}, rc_X11_positiveOf a1 σ Q → cM l yX11_positiveOf cX11_positiveOf 7 (some .boolean) E (64 + d) 0 0 [vR E 0, vI a1] σ (qI E (gN σ + 0) Q)) {rc_X11_testOf : Int → st_S → (Int → st_S → Prop) → Prop} (hr_X11_testOf : ∀ {l : Launch} {E : ev_E} (hE : Eok E) (hm : eM E = 2) {a1 : Int} (ca1 : wr a1 = a1) {σ : st_S} {Q : Int → st_S → Prop}, rc_X11_testOf a1 σ Q → cM l yX11_testOf cX11_testOf 4 (some .boolean) E (64 + d) 0 0 [vR E 0, vI a1] σ (qI E (gN σ + 0) Q)) : ∀ (n : Nat) {l1 : Int} {l2 : Int} (cl1 : wr l1 = l1) (cl2 : wr l2 = l2) {σ : st_S}, L_X11_plainOf_2 Q rc_X11_bothOf rc_X11_plainOf rc_X11_positiveOf rc_X11_testOf n l1 l2 σ → J X E 3 n0 0 0 (MQ (xB X) (qI E (n0 + 0) Q) (xA X) (xS X) 0 0 (eF E)) σ 2 [(0, vR E 0), (1, vI l1), (2, vI l2)] [] := by
  have hh1 : 1 ≤ hN := by omega
  intro n
  induction n with
  | zero => intro l1 l2 cl1 cl2 σ h; exact h.elim
  | succ n ih =>
    intro l1 l2 cl1 cl2 σ h
    have hk2 : ∀ {l1 : Int} {l2 : Int} (cl1 : wr l1 = l1) (cl2 : wr l2 = l2) {σ : st_S}, L_X11_plainOf_2 Q rc_X11_bothOf rc_X11_plainOf rc_X11_positiveOf rc_X11_testOf n l1 l2 σ → J X E 3 n0 0 0 (MQ (xB X) (qI E (n0 + 0) Q) (xA X) (xS X) 0 0 (eF E)) σ 2 [(0, vR E 0), (1, vI l1), (2, vI l2)] [] := ih
    replace h : wp_X11_passes0 9 σ (fun r7 s8 => (r7 = 0 → rc_X11_positiveOf l1 s8 (fun r9 s10 => (r9 = l2 → B_X11_plainOf_38 Q rc_X11_bothOf rc_X11_plainOf rc_X11_positiveOf rc_X11_testOf 0 s10) ∧ (¬ r9 = l2 → B_X11_plainOf_38 Q rc_X11_bothOf rc_X11_plainOf rc_X11_positiveOf rc_X11_testOf 1 s10))) ∧ (¬ r7 = 0 → (¬ l2 = 0 → B_X11_plainOf_20 Q rc_X11_bothOf rc_X11_plainOf rc_X11_positiveOf rc_X11_testOf (L_X11_plainOf_2 Q rc_X11_bothOf rc_X11_plainOf rc_X11_positiveOf rc_X11_testOf n) l1 0 s8) ∧ (l2 = 0 → B_X11_plainOf_20 Q rc_X11_bothOf rc_X11_plainOf rc_X11_positiveOf rc_X11_testOf (L_X11_plainOf_2 Q rc_X11_bothOf rc_X11_plainOf rc_X11_positiveOf rc_X11_testOf n) l1 1 s8))) := h
    refine j_aload_nR hc 0 dX11_plainOf_2 rfl rfl ?_
    refine j_bipush hc dX11_plainOf_3 (by decide) ?_
    refine j_vI hc (k := 11) (by decide) (fun hv => Or.inl (sv_k hv hm rfl)) ml_RX11_272 mv_X11_passes0 (As := [vI 9]) (c_X11_passes0 (cx_E hc) hm (wlit 9 (by decide)) h) rfl (by omega) (by decide) ⟨Nat.zero_le _, Nat.zero_le _⟩ (Nat.le_of_ble_eq_true rfl) rfl dX11_plainOf_5 (fun r7 s8 cr7 h => ?_)
    refine j_if_eq hc cr7 (tgt := 24) dX11_plainOf_8 (by decide) (fun q13 => ?_) (fun q13 => ?_)
    · replace h := h.1 q13
      refine j_aload_nR hc 0 dX11_plainOf_24 rfl rfl ?_
      refine j_iload_n hc 1 dX11_plainOf_25 rfl rfl ?_
      refine j_vI hc (k := 11) (by decide) (fun hv => Or.inl (sv_k hv hm rfl)) ml_RX11_286 mv_X11_positiveOf (As := [vI l1]) (hr_X11_positiveOf (cx_E hc) hm cl1 h) rfl (by omega) (by decide) ⟨Nat.zero_le _, Nat.zero_le _⟩ (Nat.le_of_ble_eq_true rfl) rfl dX11_plainOf_26 (fun r9 s10 cr9 h => ?_)
      refine j_iload_n hc 2 dX11_plainOf_29 rfl rfl ?_
      refine j_ic_eq hc cr9 cl2 (tgt := 37) dX11_plainOf_30 (by decide) (fun q11 => ?_) (fun q11 => ?_)
      · replace h := h.1 q11
        refine j_iconst hc dX11_plainOf_37 ?_
        refine j_sub (lv' := []) [] rfl ?_
        exact jb_X11_plainOf_38 hc hm hr hh hr_X11_bothOf hr_X11_plainOf hr_X11_positiveOf hr_X11_testOf (wlit 0 (by decide)) h
      · replace h := h.2 q11
        refine j_iconst hc dX11_plainOf_33 ?_
        refine j_goto (tgt := 38) hc dX11_plainOf_34 (by decide) ?_
        refine j_sub (lv' := []) [] rfl ?_
        exact jb_X11_plainOf_38 hc hm hr hh hr_X11_bothOf hr_X11_plainOf hr_X11_positiveOf hr_X11_testOf (wlit 1 (by decide)) h
    · replace h := h.2 q13
      refine j_iload_n hc 2 dX11_plainOf_11 rfl rfl ?_
      refine j_if_ne hc cl2 (tgt := 19) dX11_plainOf_12 (by decide) (fun q12 => ?_) (fun q12 => ?_)
      · replace h := h.1 q12
        refine j_iconst hc dX11_plainOf_19 ?_
        refine j_sub (lv' := [(0, vR E 0), (1, vI l1)]) [0, 1] rfl ?_
        exact jb_X11_plainOf_20 hc hm hr hh hr_X11_bothOf hr_X11_plainOf hr_X11_positiveOf hr_X11_testOf hk2 cl1 (wlit 0 (by decide)) h
      · replace h := h.2 q12
        refine j_iconst hc dX11_plainOf_15 ?_
        refine j_goto (tgt := 20) hc dX11_plainOf_16 (by decide) ?_
        refine j_sub (lv' := [(0, vR E 0), (1, vI l1)]) [0, 1] rfl ?_
        exact jb_X11_plainOf_20 hc hm hr hh hr_X11_bothOf hr_X11_plainOf hr_X11_positiveOf hr_X11_testOf hk2 cl1 (wlit 1 (by decide)) h
set_option maxRecDepth 20000 in
theorem ce_X11_plainOf {d : Nat} {rc_X11_bothOf : Int → st_S → (Int → st_S → Prop) → Prop} (hr_X11_bothOf : ∀ {l : Launch} {E : ev_E} (hE : Eok E) (hm : eM E = 2) {a1 : Int} (ca1 : wr a1 = a1) {σ : st_S} {Q : Int → st_S → Prop}, rc_X11_bothOf a1 σ Q → cM l yX11_bothOf cX11_bothOf 4 (some .boolean) E (64 + d) 0 0 [vR E 0, vI a1] σ (qI E (gN σ + 0) Q)) {rc_X11_plainOf : Int → st_S → (Int → st_S → Prop) → Prop} (hr_X11_plainOf : ∀ {l : Launch} {E : ev_E} (hE : Eok E) (hm : eM E = 2) {a1 : Int} (ca1 : wr a1 = a1) {σ : st_S} {Q : Int → st_S → Prop}, rc_X11_plainOf a1 σ Q → cM l yX11_plainOf cX11_plainOf 3 (some .boolean) E (64 + d) 0 0 [vR E 0, vI a1] σ (qI E (gN σ + 0) Q)) {rc_X11_positiveOf : Int → st_S → (Int → st_S → Prop) → Prop} (hr_X11_positiveOf : ∀ {l : Launch} {E : ev_E} (hE : Eok E) (hm : eM E = 2) {a1 : Int} (ca1 : wr a1 = a1) {σ : st_S} {Q : Int → st_S → Prop}, rc_X11_positiveOf a1 σ Q → cM l yX11_positiveOf cX11_positiveOf 7 (some .boolean) E (64 + d) 0 0 [vR E 0, vI a1] σ (qI E (gN σ + 0) Q)) {rc_X11_testOf : Int → st_S → (Int → st_S → Prop) → Prop} (hr_X11_testOf : ∀ {l : Launch} {E : ev_E} (hE : Eok E) (hm : eM E = 2) {a1 : Int} (ca1 : wr a1 = a1) {σ : st_S} {Q : Int → st_S → Prop}, rc_X11_testOf a1 σ Q → cM l yX11_testOf cX11_testOf 4 (some .boolean) E (64 + d) 0 0 [vR E 0, vI a1] σ (qI E (gN σ + 0) Q)) {l : Launch} {E : ev_E} (hE : Eok E) (hm : eM E = 2) {a1 : Int} (ca1 : wr a1 = a1) {σ : st_S} {Q : Int → st_S → Prop} (h : e_X11_plainOf rc_X11_bothOf rc_X11_plainOf rc_X11_positiveOf rc_X11_testOf a1 σ Q) : cM l yX11_plainOf cX11_plainOf 3 (some .boolean) E (64 + (d + 1)) 0 0 [vR E 0, vI a1] σ (qI E (gN σ + 0) Q) := by
  refine cM_of (lv := [(0, vR E 0), (1, vI a1)]) (by decide) hE (Nat.le_of_ble_eq_true rfl) (rfl) ?_
  intro X hX hc _ _ hr _ _
  subst hX
  have hh : 64 + (d + 1) ≤ 64 + (d + 1) := Nat.le_refl _
  have hh1 : 1 ≤ 64 + (d + 1) := by omega
  replace h : ∃ m2 : Nat, L_X11_plainOf_2 Q rc_X11_bothOf rc_X11_plainOf rc_X11_positiveOf rc_X11_testOf m2 a1 0 σ := h
  refine j_iconst hc dX11_plainOf_0 ?_
  refine j_istore_n (lv' := [(2, vI 0), (0, vR E 0), (1, vI a1)]) hc dX11_plainOf_1 rfl (by decide) rfl ?_
  obtain ⟨n2, h⟩ := h
  refine j_sub (lv' := [(0, vR E 0), (1, vI a1), (2, vI 0)]) [1, 2, 0] rfl ?_
  exact jl_X11_plainOf_2 hc hm hr hh hr_X11_bothOf hr_X11_plainOf hr_X11_positiveOf hr_X11_testOf n2 ca1 (wlit 0 (by decide)) h
set_option maxRecDepth 20000 in
theorem jb_X11_positiveOf_126 {X : jj_X} {E : ev_E} {n0 hN : Nat} (hc : Cx X E cX11_positiveOf 7 n0 hN RX11) (hm : eM E = 2) (hr : (xT X).sig.returnType = (some .boolean)) {d : Nat} (hh : 64 + (d + 1) ≤ hN) {Q : Int → st_S → Prop} {rc_X11_bothOf : Int → st_S → (Int → st_S → Prop) → Prop} (hr_X11_bothOf : ∀ {l : Launch} {E : ev_E} (hE : Eok E) (hm : eM E = 2) {a1 : Int} (ca1 : wr a1 = a1) {σ : st_S} {Q : Int → st_S → Prop}, rc_X11_bothOf a1 σ Q → cM l yX11_bothOf cX11_bothOf 4 (some .boolean) E (64 + d) 0 0 [vR E 0, vI a1] σ (qI E (gN σ + 0) Q)) {rc_X11_plainOf : Int → st_S → (Int → st_S → Prop) → Prop} (hr_X11_plainOf : ∀ {l : Launch} {E : ev_E} (hE : Eok E) (hm : eM E = 2) {a1 : Int} (ca1 : wr a1 = a1) {σ : st_S} {Q : Int → st_S → Prop}, rc_X11_plainOf a1 σ Q → cM l yX11_plainOf cX11_plainOf 3 (some .boolean) E (64 + d) 0 0 [vR E 0, vI a1] σ (qI E (gN σ + 0) Q)) {rc_X11_positiveOf : Int → st_S → (Int → st_S → Prop) → Prop} (hr_X11_positiveOf : ∀ {l : Launch} {E : ev_E} (hE : Eok E) (hm : eM E = 2) {a1 : Int} (ca1 : wr a1 = a1) {σ : st_S} {Q : Int → st_S → Prop}, rc_X11_positiveOf a1 σ Q → cM l yX11_positiveOf cX11_positiveOf 7 (some .boolean) E (64 + d) 0 0 [vR E 0, vI a1] σ (qI E (gN σ + 0) Q)) {rc_X11_testOf : Int → st_S → (Int → st_S → Prop) → Prop} (hr_X11_testOf : ∀ {l : Launch} {E : ev_E} (hE : Eok E) (hm : eM E = 2) {a1 : Int} (ca1 : wr a1 = a1) {σ : st_S} {Q : Int → st_S → Prop}, rc_X11_testOf a1 σ Q → cM l yX11_testOf cX11_testOf 4 (some .boolean) E (64 + d) 0 0 [vR E 0, vI a1] σ (qI E (gN σ + 0) Q)) {v0 : Int} (cv0 : wr v0 = v0) {σ : st_S} (h : B_X11_positiveOf_126 Q rc_X11_bothOf rc_X11_plainOf rc_X11_positiveOf rc_X11_testOf v0 σ) : J X E 7 n0 0 0 (MQ (xB X) (qI E (n0 + 0) Q) (xA X) (xS X) 0 0 (eF E)) σ 126 [] [vI v0] := by
  have hh1 : 1 ≤ hN := by omega
  replace h : (v0 = 0 ∨ v0 = 1) ∧ Q v0 σ := h
  exact j_zret hc hr (nar_bool h.1) (by rcases h.1 with e | e <;> (rw [e]; decide)) h.2 dX11_positiveOf_126
set_option maxRecDepth 20000 in
theorem jb_X11_positiveOf_121 {X : jj_X} {E : ev_E} {n0 hN : Nat} (hc : Cx X E cX11_positiveOf 7 n0 hN RX11) (hm : eM E = 2) (hr : (xT X).sig.returnType = (some .boolean)) {d : Nat} (hh : 64 + (d + 1) ≤ hN) {Q : Int → st_S → Prop} {rc_X11_bothOf : Int → st_S → (Int → st_S → Prop) → Prop} (hr_X11_bothOf : ∀ {l : Launch} {E : ev_E} (hE : Eok E) (hm : eM E = 2) {a1 : Int} (ca1 : wr a1 = a1) {σ : st_S} {Q : Int → st_S → Prop}, rc_X11_bothOf a1 σ Q → cM l yX11_bothOf cX11_bothOf 4 (some .boolean) E (64 + d) 0 0 [vR E 0, vI a1] σ (qI E (gN σ + 0) Q)) {rc_X11_plainOf : Int → st_S → (Int → st_S → Prop) → Prop} (hr_X11_plainOf : ∀ {l : Launch} {E : ev_E} (hE : Eok E) (hm : eM E = 2) {a1 : Int} (ca1 : wr a1 = a1) {σ : st_S} {Q : Int → st_S → Prop}, rc_X11_plainOf a1 σ Q → cM l yX11_plainOf cX11_plainOf 3 (some .boolean) E (64 + d) 0 0 [vR E 0, vI a1] σ (qI E (gN σ + 0) Q)) {rc_X11_positiveOf : Int → st_S → (Int → st_S → Prop) → Prop} (hr_X11_positiveOf : ∀ {l : Launch} {E : ev_E} (hE : Eok E) (hm : eM E = 2) {a1 : Int} (ca1 : wr a1 = a1) {σ : st_S} {Q : Int → st_S → Prop}, rc_X11_positiveOf a1 σ Q → cM l yX11_positiveOf cX11_positiveOf 7 (some .boolean) E (64 + d) 0 0 [vR E 0, vI a1] σ (qI E (gN σ + 0) Q)) {rc_X11_testOf : Int → st_S → (Int → st_S → Prop) → Prop} (hr_X11_testOf : ∀ {l : Launch} {E : ev_E} (hE : Eok E) (hm : eM E = 2) {a1 : Int} (ca1 : wr a1 = a1) {σ : st_S} {Q : Int → st_S → Prop}, rc_X11_testOf a1 σ Q → cM l yX11_testOf cX11_testOf 4 (some .boolean) E (64 + d) 0 0 [vR E 0, vI a1] σ (qI E (gN σ + 0) Q)) {σ : st_S} (h : B_X11_positiveOf_121 Q rc_X11_bothOf rc_X11_plainOf rc_X11_positiveOf rc_X11_testOf σ) : J X E 7 n0 0 0 (MQ (xB X) (qI E (n0 + 0) Q) (xA X) (xS X) 0 0 (eF E)) σ 121 [] [] := by
  have hh1 : 1 ≤ hN := by omega
  replace h : B_X11_positiveOf_126 Q rc_X11_bothOf rc_X11_plainOf rc_X11_positiveOf rc_X11_testOf 1 σ := h
  refine j_iconst hc dX11_positiveOf_121 ?_
  refine j_goto (tgt := 126) hc dX11_positiveOf_122 (by decide) ?_
  refine j_sub (lv' := []) [] rfl ?_
  exact jb_X11_positiveOf_126 hc hm hr hh hr_X11_bothOf hr_X11_plainOf hr_X11_positiveOf hr_X11_testOf (wlit 1 (by decide)) h
set_option maxRecDepth 20000 in
theorem jb_X11_positiveOf_125 {X : jj_X} {E : ev_E} {n0 hN : Nat} (hc : Cx X E cX11_positiveOf 7 n0 hN RX11) (hm : eM E = 2) (hr : (xT X).sig.returnType = (some .boolean)) {d : Nat} (hh : 64 + (d + 1) ≤ hN) {Q : Int → st_S → Prop} {rc_X11_bothOf : Int → st_S → (Int → st_S → Prop) → Prop} (hr_X11_bothOf : ∀ {l : Launch} {E : ev_E} (hE : Eok E) (hm : eM E = 2) {a1 : Int} (ca1 : wr a1 = a1) {σ : st_S} {Q : Int → st_S → Prop}, rc_X11_bothOf a1 σ Q → cM l yX11_bothOf cX11_bothOf 4 (some .boolean) E (64 + d) 0 0 [vR E 0, vI a1] σ (qI E (gN σ + 0) Q)) {rc_X11_plainOf : Int → st_S → (Int → st_S → Prop) → Prop} (hr_X11_plainOf : ∀ {l : Launch} {E : ev_E} (hE : Eok E) (hm : eM E = 2) {a1 : Int} (ca1 : wr a1 = a1) {σ : st_S} {Q : Int → st_S → Prop}, rc_X11_plainOf a1 σ Q → cM l yX11_plainOf cX11_plainOf 3 (some .boolean) E (64 + d) 0 0 [vR E 0, vI a1] σ (qI E (gN σ + 0) Q)) {rc_X11_positiveOf : Int → st_S → (Int → st_S → Prop) → Prop} (hr_X11_positiveOf : ∀ {l : Launch} {E : ev_E} (hE : Eok E) (hm : eM E = 2) {a1 : Int} (ca1 : wr a1 = a1) {σ : st_S} {Q : Int → st_S → Prop}, rc_X11_positiveOf a1 σ Q → cM l yX11_positiveOf cX11_positiveOf 7 (some .boolean) E (64 + d) 0 0 [vR E 0, vI a1] σ (qI E (gN σ + 0) Q)) {rc_X11_testOf : Int → st_S → (Int → st_S → Prop) → Prop} (hr_X11_testOf : ∀ {l : Launch} {E : ev_E} (hE : Eok E) (hm : eM E = 2) {a1 : Int} (ca1 : wr a1 = a1) {σ : st_S} {Q : Int → st_S → Prop}, rc_X11_testOf a1 σ Q → cM l yX11_testOf cX11_testOf 4 (some .boolean) E (64 + d) 0 0 [vR E 0, vI a1] σ (qI E (gN σ + 0) Q)) {σ : st_S} (h : B_X11_positiveOf_125 Q rc_X11_bothOf rc_X11_plainOf rc_X11_positiveOf rc_X11_testOf σ) : J X E 7 n0 0 0 (MQ (xB X) (qI E (n0 + 0) Q) (xA X) (xS X) 0 0 (eF E)) σ 125 [] [] := by
  have hh1 : 1 ≤ hN := by omega
  replace h : B_X11_positiveOf_126 Q rc_X11_bothOf rc_X11_plainOf rc_X11_positiveOf rc_X11_testOf 0 σ := h
  refine j_iconst hc dX11_positiveOf_125 ?_
  refine j_sub (lv' := []) [] rfl ?_
  exact jb_X11_positiveOf_126 hc hm hr hh hr_X11_bothOf hr_X11_plainOf hr_X11_positiveOf hr_X11_testOf (wlit 0 (by decide)) h
set_option maxRecDepth 20000 in
theorem ce_X11_positiveOf {d : Nat} {rc_X11_bothOf : Int → st_S → (Int → st_S → Prop) → Prop} (hr_X11_bothOf : ∀ {l : Launch} {E : ev_E} (hE : Eok E) (hm : eM E = 2) {a1 : Int} (ca1 : wr a1 = a1) {σ : st_S} {Q : Int → st_S → Prop}, rc_X11_bothOf a1 σ Q → cM l yX11_bothOf cX11_bothOf 4 (some .boolean) E (64 + d) 0 0 [vR E 0, vI a1] σ (qI E (gN σ + 0) Q)) {rc_X11_plainOf : Int → st_S → (Int → st_S → Prop) → Prop} (hr_X11_plainOf : ∀ {l : Launch} {E : ev_E} (hE : Eok E) (hm : eM E = 2) {a1 : Int} (ca1 : wr a1 = a1) {σ : st_S} {Q : Int → st_S → Prop}, rc_X11_plainOf a1 σ Q → cM l yX11_plainOf cX11_plainOf 3 (some .boolean) E (64 + d) 0 0 [vR E 0, vI a1] σ (qI E (gN σ + 0) Q)) {rc_X11_positiveOf : Int → st_S → (Int → st_S → Prop) → Prop} (hr_X11_positiveOf : ∀ {l : Launch} {E : ev_E} (hE : Eok E) (hm : eM E = 2) {a1 : Int} (ca1 : wr a1 = a1) {σ : st_S} {Q : Int → st_S → Prop}, rc_X11_positiveOf a1 σ Q → cM l yX11_positiveOf cX11_positiveOf 7 (some .boolean) E (64 + d) 0 0 [vR E 0, vI a1] σ (qI E (gN σ + 0) Q)) {rc_X11_testOf : Int → st_S → (Int → st_S → Prop) → Prop} (hr_X11_testOf : ∀ {l : Launch} {E : ev_E} (hE : Eok E) (hm : eM E = 2) {a1 : Int} (ca1 : wr a1 = a1) {σ : st_S} {Q : Int → st_S → Prop}, rc_X11_testOf a1 σ Q → cM l yX11_testOf cX11_testOf 4 (some .boolean) E (64 + d) 0 0 [vR E 0, vI a1] σ (qI E (gN σ + 0) Q)) {l : Launch} {E : ev_E} (hE : Eok E) (hm : eM E = 2) {a1 : Int} (ca1 : wr a1 = a1) {σ : st_S} {Q : Int → st_S → Prop} (h : e_X11_positiveOf rc_X11_bothOf rc_X11_plainOf rc_X11_positiveOf rc_X11_testOf a1 σ Q) : cM l yX11_positiveOf cX11_positiveOf 7 (some .boolean) E (64 + (d + 1)) 0 0 [vR E 0, vI a1] σ (qI E (gN σ + 0) Q) := by
  refine cM_of (lv := [(0, vR E 0), (1, vI a1)]) (by decide) hE (Nat.le_of_ble_eq_true rfl) (rfl) ?_
  intro X hX hc _ _ hr _ _
  subst hX
  have hh : 64 + (d + 1) ≤ 64 + (d + 1) := Nat.le_refl _
  have hh1 : 1 ≤ 64 + (d + 1) := by omega
  replace h : wp_X11_sign 40 σ (fun r29 s30 => wp_X11_passes0 r29 s30 (fun r31 s32 => (r31 = 0 → wp_X11_sumOf 60 a1 s32 (fun r33 s34 => wp_X11_codeAt (gI s34 0 22) s34 (fun r36 s37 => ∀ x39 : Int, x39 = wr (gI s37 0 22 + 1) → ∀ s40 : st_S, s40 = sI s37 0 22 x39 → wp_X11_sumOf 60 a1 s40 (fun r41 s42 => (a1 = 0 → B_X11_positiveOf_125 Q rc_X11_bothOf rc_X11_plainOf rc_X11_positiveOf rc_X11_testOf s42) ∧ (¬ a1 = 0 → (¬ gI s42 0 24 = 0 → B_X11_positiveOf_125 Q rc_X11_bothOf rc_X11_plainOf rc_X11_positiveOf rc_X11_testOf s42) ∧ (gI s42 0 24 = 0 → wp_X11_sign 60 s42 (fun r44 s45 => (¬ r36 = r44 → wp_X11_sign 62 s45 (fun r46 s47 => (¬ r36 = r46 → (¬ p_cmp r33 r41 = 0 → B_X11_positiveOf_125 Q rc_X11_bothOf rc_X11_plainOf rc_X11_positiveOf rc_X11_testOf s47) ∧ (p_cmp r33 r41 = 0 → B_X11_positiveOf_121 Q rc_X11_bothOf rc_X11_plainOf rc_X11_positiveOf rc_X11_testOf s47)) ∧ (r36 = r46 → (p_cmp r33 r41 ≤ 0 → B_X11_positiveOf_125 Q rc_X11_bothOf rc_X11_plainOf rc_X11_positiveOf rc_X11_testOf s47) ∧ (¬ p_cmp r33 r41 ≤ 0 → B_X11_positiveOf_121 Q rc_X11_bothOf rc_X11_plainOf rc_X11_positiveOf rc_X11_testOf s47)))) ∧ (r36 = r44 → (0 ≤ p_cmp r33 r41 → B_X11_positiveOf_125 Q rc_X11_bothOf rc_X11_plainOf rc_X11_positiveOf rc_X11_testOf s45) ∧ (¬ 0 ≤ p_cmp r33 r41 → B_X11_positiveOf_121 Q rc_X11_bothOf rc_X11_plainOf rc_X11_positiveOf rc_X11_testOf s45))))))))) ∧ (¬ r31 = 0 → rc_X11_testOf a1 s32 (fun r55 s56 => ∀ x58 : Int, x58 = wr (gI s56 0 22 + 1) → ∀ s59 : st_S, s59 = sI s56 0 22 x58 → (r55 = 0 ∨ r55 = 1) ∧ Q r55 s59)))) := h
  refine j_aload_nR hc 0 dX11_positiveOf_0 rfl rfl ?_
  refine j_bipush hc dX11_positiveOf_1 (by decide) ?_
  refine j_sI hc ml_RX11_210 mv_X11_sign (As := [vI 40]) (c_X11_sign (cx_E hc) hm (wlit 40 (by decide)) h) rfl (by omega) (by decide) ⟨Nat.zero_le _, Nat.zero_le _⟩ (Nat.le_of_ble_eq_true rfl) rfl dX11_positiveOf_3 (fun r29 s30 cr29 h => ?_)
  refine j_vI hc (k := 11) (by decide) (fun hv => Or.inl (sv_k hv hm rfl)) ml_RX11_272 mv_X11_passes0 (As := [vI r29]) (c_X11_passes0 (cx_E hc) hm cr29 h) rfl (by omega) (by decide) ⟨Nat.zero_le _, Nat.zero_le _⟩ (Nat.le_of_ble_eq_true rfl) rfl dX11_positiveOf_6 (fun r31 s32 cr31 h => ?_)
  refine j_if_eq hc cr31 (tgt := 30) dX11_positiveOf_9 (by decide) (fun q60 => ?_) (fun q60 => ?_)
  · replace h := h.1 q60
    refine j_aload_nR hc 0 dX11_positiveOf_30 rfl rfl ?_
    refine j_iload_n hc 1 dX11_positiveOf_31 rfl rfl ?_
    refine j_vL hc (k := 11) (by decide) (fun hv => Or.inl (sv_k hv hm rfl)) ml_RX11_275 mv_X11_sumOf (As := [vI a1]) (c_X11_sumOf (cx_E hc) hm 60 ca1 h) rfl (by omega) (by decide) ⟨Nat.zero_le _, Nat.zero_le _⟩ (Nat.le_of_ble_eq_true rfl) rfl dX11_positiveOf_32 (fun r33 s34 cr33 h => ?_)
    refine j_lstore_n (lv' := [(2, vL r33), (0, vR E 0), (1, vI a1)]) hc dX11_positiveOf_35 rfl (by decide) rfl ?_
    refine j_aload_nR hc 1 dX11_positiveOf_36 rfl rfl ?_
    refine j_aload_nR hc 1 dX11_positiveOf_37 rfl rfl ?_
    refine j_getI hc fl_RX11_248 (Or.inl rfl) (fun hv => Or.inl (sv_k hv hm rfl)) dX11_positiveOf_38 (fun cn35 => ?_)
    refine j_vI hc (k := 11) (by decide) (fun hv => Or.inl (sv_k hv hm rfl)) ml_RX11_251 mv_X11_codeAt (As := [vI (gI s34 0 22)]) (c_X11_codeAt (cx_E hc) hm cn35 h) rfl (by omega) (by decide) ⟨Nat.zero_le _, Nat.zero_le _⟩ (Nat.le_of_ble_eq_true rfl) rfl dX11_positiveOf_41 (fun r36 s37 cr36 h => ?_)
    refine j_istore (lv' := [(4, vI r36), (2, vL r33), (0, vR E 0), (1, vI a1)]) hc dX11_positiveOf_44 (by decide) rfl ?_
    refine j_aload_nR hc 2 dX11_positiveOf_46 rfl rfl ?_
    refine j_dup hc dX11_positiveOf_47 rfl ?_
    refine j_getI hc fl_RX11_248 (Or.inl rfl) (fun hv => Or.inl (sv_k hv hm rfl)) dX11_positiveOf_48 (fun cn38 => ?_)
    refine j_iconst hc dX11_positiveOf_51 ?_
    refine j_iadd hc dX11_positiveOf_52 ?_
    refine j_w (fun x39 ex39 cx39 => ?_)
    replace h := h x39 ex39
    refine j_putI hc fl_RX11_248 rfl rfl (fun hv => Or.inl (sv_k hv hm rfl)) cx39 dX11_positiveOf_53 (fun s40 es40 => ?_)
    replace h := h s40 es40
    refine j_aload_nR hc 2 dX11_positiveOf_56 rfl rfl ?_
    refine j_iload_n hc 3 dX11_positiveOf_57 rfl rfl ?_
    refine j_vL hc (k := 11) (by decide) (fun hv => Or.inl (sv_k hv hm rfl)) ml_RX11_275 mv_X11_sumOf (As := [vI a1]) (c_X11_sumOf (cx_E hc) hm 60 ca1 h) rfl (by omega) (by decide) ⟨Nat.zero_le _, Nat.zero_le _⟩ (Nat.le_of_ble_eq_true rfl) rfl dX11_positiveOf_58 (fun r41 s42 cr41 h => ?_)
    refine j_lstore (lv' := [(5, vL r41), (4, vI r36), (2, vL r33), (0, vR E 0), (1, vI a1)]) hc dX11_positiveOf_61 (by decide) rfl ?_
    refine j_iload_n hc 4 dX11_positiveOf_63 rfl rfl ?_
    refine j_if_eq hc ca1 (tgt := 125) dX11_positiveOf_64 (by decide) (fun q54 => ?_) (fun q54 => ?_)
    · replace h := h.1 q54
      refine j_sub (lv' := []) [] rfl ?_
      exact jb_X11_positiveOf_125 hc hm hr hh hr_X11_bothOf hr_X11_plainOf hr_X11_positiveOf hr_X11_testOf h
    · replace h := h.2 q54
      refine j_aload_nR hc 3 dX11_positiveOf_67 rfl rfl ?_
      refine j_getI hc fl_RX11_258 (Or.inr rfl) (fun hv => Or.inl (sv_k hv hm rfl)) dX11_positiveOf_68 (fun cn43 => ?_)
      refine j_if_ne hc cn43 (tgt := 125) dX11_positiveOf_71 (by decide) (fun q53 => ?_) (fun q53 => ?_)
      · replace h := h.1 q53
        refine j_sub (lv' := []) [] rfl ?_
        exact jb_X11_positiveOf_125 hc hm hr hh hr_X11_bothOf hr_X11_plainOf hr_X11_positiveOf hr_X11_testOf h
      · replace h := h.2 q53
        refine j_iload hc 1 dX11_positiveOf_74 rfl ?_
        refine j_bipush hc dX11_positiveOf_76 (by decide) ?_
        refine j_sI hc ml_RX11_210 mv_X11_sign (As := [vI 60]) (c_X11_sign (cx_E hc) hm (wlit 60 (by decide)) h) rfl (by omega) (by decide) ⟨Nat.zero_le _, Nat.zero_le _⟩ (Nat.le_of_ble_eq_true rfl) rfl dX11_positiveOf_78 (fun r44 s45 cr44 h => ?_)
        refine j_ic_ne hc cr36 cr44 (tgt := 94) dX11_positiveOf_81 (by decide) (fun q52 => ?_) (fun q52 => ?_)
        · replace h := h.1 q52
          refine j_iload hc 1 dX11_positiveOf_94 rfl ?_
          refine j_bipush hc dX11_positiveOf_96 (by decide) ?_
          refine j_sI hc ml_RX11_210 mv_X11_sign (As := [vI 62]) (c_X11_sign (cx_E hc) hm (wlit 62 (by decide)) h) rfl (by omega) (by decide) ⟨Nat.zero_le _, Nat.zero_le _⟩ (Nat.le_of_ble_eq_true rfl) rfl dX11_positiveOf_98 (fun r46 s47 cr46 h => ?_)
          refine j_ic_ne hc cr36 cr46 (tgt := 114) dX11_positiveOf_101 (by decide) (fun q50 => ?_) (fun q50 => ?_)
          · replace h := h.1 q50
            refine j_lload_n hc 2 dX11_positiveOf_114 rfl rfl ?_
            refine j_lload hc 0 dX11_positiveOf_115 rfl ?_
            refine j_lcmp hc dX11_positiveOf_117 ?_
            refine j_if_ne hc (cn_cmp _ _) (tgt := 125) dX11_positiveOf_118 (by decide) (fun q48 => ?_) (fun q48 => ?_)
            · replace h := h.1 q48
              refine j_sub (lv' := []) [] rfl ?_
              exact jb_X11_positiveOf_125 hc hm hr hh hr_X11_bothOf hr_X11_plainOf hr_X11_positiveOf hr_X11_testOf h
            · replace h := h.2 q48
              refine j_sub (lv' := []) [] rfl ?_
              exact jb_X11_positiveOf_121 hc hm hr hh hr_X11_bothOf hr_X11_plainOf hr_X11_positiveOf hr_X11_testOf h
          · replace h := h.2 q50
            refine j_lload_n hc 2 dX11_positiveOf_104 rfl rfl ?_
            refine j_lload hc 0 dX11_positiveOf_105 rfl ?_
            refine j_lcmp hc dX11_positiveOf_107 ?_
            refine j_if_le hc (cn_cmp _ _) (tgt := 125) dX11_positiveOf_108 (by decide) (fun q49 => ?_) (fun q49 => ?_)
            · replace h := h.1 q49
              refine j_sub (lv' := []) [] rfl ?_
              exact jb_X11_positiveOf_125 hc hm hr hh hr_X11_bothOf hr_X11_plainOf hr_X11_positiveOf hr_X11_testOf h
            · replace h := h.2 q49
              refine j_goto (tgt := 121) hc dX11_positiveOf_111 (by decide) ?_
              refine j_sub (lv' := []) [] rfl ?_
              exact jb_X11_positiveOf_121 hc hm hr hh hr_X11_bothOf hr_X11_plainOf hr_X11_positiveOf hr_X11_testOf h
        · replace h := h.2 q52
          refine j_lload_n hc 2 dX11_positiveOf_84 rfl rfl ?_
          refine j_lload hc 0 dX11_positiveOf_85 rfl ?_
          refine j_lcmp hc dX11_positiveOf_87 ?_
          refine j_if_ge hc (cn_cmp _ _) (tgt := 125) dX11_positiveOf_88 (by decide) (fun q51 => ?_) (fun q51 => ?_)
          · replace h := h.1 q51
            refine j_sub (lv' := []) [] rfl ?_
            exact jb_X11_positiveOf_125 hc hm hr hh hr_X11_bothOf hr_X11_plainOf hr_X11_positiveOf hr_X11_testOf h
          · replace h := h.2 q51
            refine j_goto (tgt := 121) hc dX11_positiveOf_91 (by decide) ?_
            refine j_sub (lv' := []) [] rfl ?_
            exact jb_X11_positiveOf_121 hc hm hr hh hr_X11_bothOf hr_X11_plainOf hr_X11_positiveOf hr_X11_testOf h
  · replace h := h.2 q60
    refine j_aload_nR hc 0 dX11_positiveOf_12 rfl rfl ?_
    refine j_iload_n hc 1 dX11_positiveOf_13 rfl rfl ?_
    refine j_vI hc (k := 11) (by decide) (fun hv => Or.inl (sv_k hv hm rfl)) ml_RX11_289 mv_X11_testOf (As := [vI a1]) (hr_X11_testOf (cx_E hc) hm ca1 h) rfl (by omega) (by decide) ⟨Nat.zero_le _, Nat.zero_le _⟩ (Nat.le_of_ble_eq_true rfl) rfl dX11_positiveOf_14 (fun r55 s56 cr55 h => ?_)
    refine j_istore_n (lv' := [(2, vI r55), (0, vR E 0), (1, vI a1)]) hc dX11_positiveOf_17 rfl (by decide) rfl ?_
    refine j_aload_nR hc 1 dX11_positiveOf_18 rfl rfl ?_
    refine j_dup hc dX11_positiveOf_19 rfl ?_
    refine j_getI hc fl_RX11_248 (Or.inl rfl) (fun hv => Or.inl (sv_k hv hm rfl)) dX11_positiveOf_20 (fun cn57 => ?_)
    refine j_iconst hc dX11_positiveOf_23 ?_
    refine j_iadd hc dX11_positiveOf_24 ?_
    refine j_w (fun x58 ex58 cx58 => ?_)
    replace h := h x58 ex58
    refine j_putI hc fl_RX11_248 rfl rfl (fun hv => Or.inl (sv_k hv hm rfl)) cx58 dX11_positiveOf_25 (fun s59 es59 => ?_)
    replace h := h s59 es59
    refine j_iload_n hc 0 dX11_positiveOf_28 rfl rfl ?_
    exact j_zret hc hr (nar_bool h.1) (by rcases h.1 with e | e <;> (rw [e]; decide)) h.2 dX11_positiveOf_29
set_option maxRecDepth 20000 in
theorem jb_X11_testOf_46 {X : jj_X} {E : ev_E} {n0 hN : Nat} (hc : Cx X E cX11_testOf 4 n0 hN RX11) (hm : eM E = 2) (hr : (xT X).sig.returnType = (some .boolean)) {d : Nat} (hh : 64 + (d + 1) ≤ hN) {Q : Int → st_S → Prop} {rc_X11_bothOf : Int → st_S → (Int → st_S → Prop) → Prop} (hr_X11_bothOf : ∀ {l : Launch} {E : ev_E} (hE : Eok E) (hm : eM E = 2) {a1 : Int} (ca1 : wr a1 = a1) {σ : st_S} {Q : Int → st_S → Prop}, rc_X11_bothOf a1 σ Q → cM l yX11_bothOf cX11_bothOf 4 (some .boolean) E (64 + d) 0 0 [vR E 0, vI a1] σ (qI E (gN σ + 0) Q)) {rc_X11_plainOf : Int → st_S → (Int → st_S → Prop) → Prop} (hr_X11_plainOf : ∀ {l : Launch} {E : ev_E} (hE : Eok E) (hm : eM E = 2) {a1 : Int} (ca1 : wr a1 = a1) {σ : st_S} {Q : Int → st_S → Prop}, rc_X11_plainOf a1 σ Q → cM l yX11_plainOf cX11_plainOf 3 (some .boolean) E (64 + d) 0 0 [vR E 0, vI a1] σ (qI E (gN σ + 0) Q)) {rc_X11_positiveOf : Int → st_S → (Int → st_S → Prop) → Prop} (hr_X11_positiveOf : ∀ {l : Launch} {E : ev_E} (hE : Eok E) (hm : eM E = 2) {a1 : Int} (ca1 : wr a1 = a1) {σ : st_S} {Q : Int → st_S → Prop}, rc_X11_positiveOf a1 σ Q → cM l yX11_positiveOf cX11_positiveOf 7 (some .boolean) E (64 + d) 0 0 [vR E 0, vI a1] σ (qI E (gN σ + 0) Q)) {rc_X11_testOf : Int → st_S → (Int → st_S → Prop) → Prop} (hr_X11_testOf : ∀ {l : Launch} {E : ev_E} (hE : Eok E) (hm : eM E = 2) {a1 : Int} (ca1 : wr a1 = a1) {σ : st_S} {Q : Int → st_S → Prop}, rc_X11_testOf a1 σ Q → cM l yX11_testOf cX11_testOf 4 (some .boolean) E (64 + d) 0 0 [vR E 0, vI a1] σ (qI E (gN σ + 0) Q)) {k6 : Int → Int → st_S → Prop} (hk6 : ∀ {l1 : Int} {l2 : Int} (cl1 : wr l1 = l1) (cl2 : wr l2 = l2) {σ : st_S}, k6 l1 l2 σ → J X E 4 n0 0 0 (MQ (xB X) (qI E (n0 + 0) Q) (xA X) (xS X) 0 0 (eF E)) σ 6 [(0, vR E 0), (1, vI l1), (2, vI l2)] []) {l1 : Int} {v0 : Int} (cl1 : wr l1 = l1) (cv0 : wr v0 = v0) {σ : st_S} (h : B_X11_testOf_46 Q rc_X11_bothOf rc_X11_plainOf rc_X11_positiveOf rc_X11_testOf k6 l1 v0 σ) : J X E 4 n0 0 0 (MQ (xB X) (qI E (n0 + 0) Q) (xA X) (xS X) 0 0 (eF E)) σ 46 [(0, vR E 0), (1, vI l1)] [vI v0] := by
  have hh1 : 1 ≤ hN := by omega
  replace h : k6 l1 v0 σ := h
  refine j_istore_n (lv' := [(2, vI v0), (0, vR E 0), (1, vI l1)]) hc dX11_testOf_46 rfl (by decide) rfl ?_
  refine j_goto (tgt := 6) hc dX11_testOf_47 (by decide) ?_
  refine j_sub (lv' := [(0, vR E 0), (1, vI l1), (2, vI v0)]) [1, 2, 0] rfl ?_
  exact hk6 cl1 cv0 h
set_option maxRecDepth 20000 in
theorem jb_X11_testOf_41 {X : jj_X} {E : ev_E} {n0 hN : Nat} (hc : Cx X E cX11_testOf 4 n0 hN RX11) (hm : eM E = 2) (hr : (xT X).sig.returnType = (some .boolean)) {d : Nat} (hh : 64 + (d + 1) ≤ hN) {Q : Int → st_S → Prop} {rc_X11_bothOf : Int → st_S → (Int → st_S → Prop) → Prop} (hr_X11_bothOf : ∀ {l : Launch} {E : ev_E} (hE : Eok E) (hm : eM E = 2) {a1 : Int} (ca1 : wr a1 = a1) {σ : st_S} {Q : Int → st_S → Prop}, rc_X11_bothOf a1 σ Q → cM l yX11_bothOf cX11_bothOf 4 (some .boolean) E (64 + d) 0 0 [vR E 0, vI a1] σ (qI E (gN σ + 0) Q)) {rc_X11_plainOf : Int → st_S → (Int → st_S → Prop) → Prop} (hr_X11_plainOf : ∀ {l : Launch} {E : ev_E} (hE : Eok E) (hm : eM E = 2) {a1 : Int} (ca1 : wr a1 = a1) {σ : st_S} {Q : Int → st_S → Prop}, rc_X11_plainOf a1 σ Q → cM l yX11_plainOf cX11_plainOf 3 (some .boolean) E (64 + d) 0 0 [vR E 0, vI a1] σ (qI E (gN σ + 0) Q)) {rc_X11_positiveOf : Int → st_S → (Int → st_S → Prop) → Prop} (hr_X11_positiveOf : ∀ {l : Launch} {E : ev_E} (hE : Eok E) (hm : eM E = 2) {a1 : Int} (ca1 : wr a1 = a1) {σ : st_S} {Q : Int → st_S → Prop}, rc_X11_positiveOf a1 σ Q → cM l yX11_positiveOf cX11_positiveOf 7 (some .boolean) E (64 + d) 0 0 [vR E 0, vI a1] σ (qI E (gN σ + 0) Q)) {rc_X11_testOf : Int → st_S → (Int → st_S → Prop) → Prop} (hr_X11_testOf : ∀ {l : Launch} {E : ev_E} (hE : Eok E) (hm : eM E = 2) {a1 : Int} (ca1 : wr a1 = a1) {σ : st_S} {Q : Int → st_S → Prop}, rc_X11_testOf a1 σ Q → cM l yX11_testOf cX11_testOf 4 (some .boolean) E (64 + d) 0 0 [vR E 0, vI a1] σ (qI E (gN σ + 0) Q)) {k6 : Int → Int → st_S → Prop} (hk6 : ∀ {l1 : Int} {l2 : Int} (cl1 : wr l1 = l1) (cl2 : wr l2 = l2) {σ : st_S}, k6 l1 l2 σ → J X E 4 n0 0 0 (MQ (xB X) (qI E (n0 + 0) Q) (xA X) (xS X) 0 0 (eF E)) σ 6 [(0, vR E 0), (1, vI l1), (2, vI l2)] []) {l1 : Int} (cl1 : wr l1 = l1) {σ : st_S} (h : B_X11_testOf_41 Q rc_X11_bothOf rc_X11_plainOf rc_X11_positiveOf rc_X11_testOf k6 l1 σ) : J X E 4 n0 0 0 (MQ (xB X) (qI E (n0 + 0) Q) (xA X) (xS X) 0 0 (eF E)) σ 41 [(0, vR E 0), (1, vI l1)] [] := by
  have hh1 : 1 ≤ hN := by omega
  replace h : B_X11_testOf_46 Q rc_X11_bothOf rc_X11_plainOf rc_X11_positiveOf rc_X11_testOf k6 l1 1 σ := h
  refine j_iconst hc dX11_testOf_41 ?_
  refine j_goto (tgt := 46) hc dX11_testOf_42 (by decide) ?_
  refine j_sub (lv' := [(0, vR E 0), (1, vI l1)]) [0, 1] rfl ?_
  exact jb_X11_testOf_46 hc hm hr hh hr_X11_bothOf hr_X11_plainOf hr_X11_positiveOf hr_X11_testOf hk6 cl1 (wlit 1 (by decide)) h
set_option maxRecDepth 20000 in
theorem jb_X11_testOf_29 {X : jj_X} {E : ev_E} {n0 hN : Nat} (hc : Cx X E cX11_testOf 4 n0 hN RX11) (hm : eM E = 2) (hr : (xT X).sig.returnType = (some .boolean)) {d : Nat} (hh : 64 + (d + 1) ≤ hN) {Q : Int → st_S → Prop} {rc_X11_bothOf : Int → st_S → (Int → st_S → Prop) → Prop} (hr_X11_bothOf : ∀ {l : Launch} {E : ev_E} (hE : Eok E) (hm : eM E = 2) {a1 : Int} (ca1 : wr a1 = a1) {σ : st_S} {Q : Int → st_S → Prop}, rc_X11_bothOf a1 σ Q → cM l yX11_bothOf cX11_bothOf 4 (some .boolean) E (64 + d) 0 0 [vR E 0, vI a1] σ (qI E (gN σ + 0) Q)) {rc_X11_plainOf : Int → st_S → (Int → st_S → Prop) → Prop} (hr_X11_plainOf : ∀ {l : Launch} {E : ev_E} (hE : Eok E) (hm : eM E = 2) {a1 : Int} (ca1 : wr a1 = a1) {σ : st_S} {Q : Int → st_S → Prop}, rc_X11_plainOf a1 σ Q → cM l yX11_plainOf cX11_plainOf 3 (some .boolean) E (64 + d) 0 0 [vR E 0, vI a1] σ (qI E (gN σ + 0) Q)) {rc_X11_positiveOf : Int → st_S → (Int → st_S → Prop) → Prop} (hr_X11_positiveOf : ∀ {l : Launch} {E : ev_E} (hE : Eok E) (hm : eM E = 2) {a1 : Int} (ca1 : wr a1 = a1) {σ : st_S} {Q : Int → st_S → Prop}, rc_X11_positiveOf a1 σ Q → cM l yX11_positiveOf cX11_positiveOf 7 (some .boolean) E (64 + d) 0 0 [vR E 0, vI a1] σ (qI E (gN σ + 0) Q)) {rc_X11_testOf : Int → st_S → (Int → st_S → Prop) → Prop} (hr_X11_testOf : ∀ {l : Launch} {E : ev_E} (hE : Eok E) (hm : eM E = 2) {a1 : Int} (ca1 : wr a1 = a1) {σ : st_S} {Q : Int → st_S → Prop}, rc_X11_testOf a1 σ Q → cM l yX11_testOf cX11_testOf 4 (some .boolean) E (64 + d) 0 0 [vR E 0, vI a1] σ (qI E (gN σ + 0) Q)) {k6 : Int → Int → st_S → Prop} (hk6 : ∀ {l1 : Int} {l2 : Int} (cl1 : wr l1 = l1) (cl2 : wr l2 = l2) {σ : st_S}, k6 l1 l2 σ → J X E 4 n0 0 0 (MQ (xB X) (qI E (n0 + 0) Q) (xA X) (xS X) 0 0 (eF E)) σ 6 [(0, vR E 0), (1, vI l1), (2, vI l2)] []) {l1 : Int} {l2 : Int} {v0 : Int} (cl1 : wr l1 = l1) (cl2 : wr l2 = l2) (cv0 : wr v0 = v0) {σ : st_S} (h : B_X11_testOf_29 Q rc_X11_bothOf rc_X11_plainOf rc_X11_positiveOf rc_X11_testOf k6 l1 l2 v0 σ) : J X E 4 n0 0 0 (MQ (xB X) (qI E (n0 + 0) Q) (xA X) (xS X) 0 0 (eF E)) σ 29 [(0, vR E 0), (1, vI l1), (2, vI l2)] [vI v0, vR E 0] := by
  have hh1 : 1 ≤ hN := by omega
  replace h : rc_X11_bothOf v0 σ (fun r10 s11 => (¬ l2 = 0 → B_X11_testOf_41 Q rc_X11_bothOf rc_X11_plainOf rc_X11_positiveOf rc_X11_testOf k6 l1 s11) ∧ (l2 = 0 → (r10 = 0 → B_X11_testOf_46 Q rc_X11_bothOf rc_X11_plainOf rc_X11_positiveOf rc_X11_testOf k6 l1 0 s11) ∧ (¬ r10 = 0 → B_X11_testOf_41 Q rc_X11_bothOf rc_X11_plainOf rc_X11_positiveOf rc_X11_testOf k6 l1 s11))) := h
  refine j_vI hc (k := 11) (by decide) (fun hv => Or.inl (sv_k hv hm rfl)) ml_RX11_280 mv_X11_bothOf (As := [vI v0]) (hr_X11_bothOf (cx_E hc) hm cv0 h) rfl (by omega) (by decide) ⟨Nat.zero_le _, Nat.zero_le _⟩ (Nat.le_of_ble_eq_true rfl) rfl dX11_testOf_29 (fun r10 s11 cr10 h => ?_)
  refine j_istore_n (lv' := [(3, vI r10), (0, vR E 0), (1, vI l1), (2, vI l2)]) hc dX11_testOf_32 rfl (by decide) rfl ?_
  refine j_iload_n hc 3 dX11_testOf_33 rfl rfl ?_
  refine j_if_ne hc cl2 (tgt := 41) dX11_testOf_34 (by decide) (fun q13 => ?_) (fun q13 => ?_)
  · replace h := h.1 q13
    refine j_sub (lv' := [(0, vR E 0), (1, vI l1)]) [1, 2] rfl ?_
    exact jb_X11_testOf_41 hc hm hr hh hr_X11_bothOf hr_X11_plainOf hr_X11_positiveOf hr_X11_testOf hk6 cl1 h
  · replace h := h.2 q13
    refine j_iload_n hc 0 dX11_testOf_37 rfl rfl ?_
    refine j_if_eq hc cr10 (tgt := 45) dX11_testOf_38 (by decide) (fun q12 => ?_) (fun q12 => ?_)
    · replace h := h.1 q12
      refine j_iconst hc dX11_testOf_45 ?_
      refine j_sub (lv' := [(0, vR E 0), (1, vI l1)]) [1, 2] rfl ?_
      exact jb_X11_testOf_46 hc hm hr hh hr_X11_bothOf hr_X11_plainOf hr_X11_positiveOf hr_X11_testOf hk6 cl1 (wlit 0 (by decide)) h
    · replace h := h.2 q12
      refine j_sub (lv' := [(0, vR E 0), (1, vI l1)]) [1, 2] rfl ?_
      exact jb_X11_testOf_41 hc hm hr hh hr_X11_bothOf hr_X11_plainOf hr_X11_positiveOf hr_X11_testOf hk6 cl1 h
set_option maxRecDepth 20000 in
theorem jb_X11_testOf_28 {X : jj_X} {E : ev_E} {n0 hN : Nat} (hc : Cx X E cX11_testOf 4 n0 hN RX11) (hm : eM E = 2) (hr : (xT X).sig.returnType = (some .boolean)) {d : Nat} (hh : 64 + (d + 1) ≤ hN) {Q : Int → st_S → Prop} {rc_X11_bothOf : Int → st_S → (Int → st_S → Prop) → Prop} (hr_X11_bothOf : ∀ {l : Launch} {E : ev_E} (hE : Eok E) (hm : eM E = 2) {a1 : Int} (ca1 : wr a1 = a1) {σ : st_S} {Q : Int → st_S → Prop}, rc_X11_bothOf a1 σ Q → cM l yX11_bothOf cX11_bothOf 4 (some .boolean) E (64 + d) 0 0 [vR E 0, vI a1] σ (qI E (gN σ + 0) Q)) {rc_X11_plainOf : Int → st_S → (Int → st_S → Prop) → Prop} (hr_X11_plainOf : ∀ {l : Launch} {E : ev_E} (hE : Eok E) (hm : eM E = 2) {a1 : Int} (ca1 : wr a1 = a1) {σ : st_S} {Q : Int → st_S → Prop}, rc_X11_plainOf a1 σ Q → cM l yX11_plainOf cX11_plainOf 3 (some .boolean) E (64 + d) 0 0 [vR E 0, vI a1] σ (qI E (gN σ + 0) Q)) {rc_X11_positiveOf : Int → st_S → (Int → st_S → Prop) → Prop} (hr_X11_positiveOf : ∀ {l : Launch} {E : ev_E} (hE : Eok E) (hm : eM E = 2) {a1 : Int} (ca1 : wr a1 = a1) {σ : st_S} {Q : Int → st_S → Prop}, rc_X11_positiveOf a1 σ Q → cM l yX11_positiveOf cX11_positiveOf 7 (some .boolean) E (64 + d) 0 0 [vR E 0, vI a1] σ (qI E (gN σ + 0) Q)) {rc_X11_testOf : Int → st_S → (Int → st_S → Prop) → Prop} (hr_X11_testOf : ∀ {l : Launch} {E : ev_E} (hE : Eok E) (hm : eM E = 2) {a1 : Int} (ca1 : wr a1 = a1) {σ : st_S} {Q : Int → st_S → Prop}, rc_X11_testOf a1 σ Q → cM l yX11_testOf cX11_testOf 4 (some .boolean) E (64 + d) 0 0 [vR E 0, vI a1] σ (qI E (gN σ + 0) Q)) {k6 : Int → Int → st_S → Prop} (hk6 : ∀ {l1 : Int} {l2 : Int} (cl1 : wr l1 = l1) (cl2 : wr l2 = l2) {σ : st_S}, k6 l1 l2 σ → J X E 4 n0 0 0 (MQ (xB X) (qI E (n0 + 0) Q) (xA X) (xS X) 0 0 (eF E)) σ 6 [(0, vR E 0), (1, vI l1), (2, vI l2)] []) {l1 : Int} {l2 : Int} (cl1 : wr l1 = l1) (cl2 : wr l2 = l2) {σ : st_S} (h : B_X11_testOf_28 Q rc_X11_bothOf rc_X11_plainOf rc_X11_positiveOf rc_X11_testOf k6 l1 l2 σ) : J X E 4 n0 0 0 (MQ (xB X) (qI E (n0 + 0) Q) (xA X) (xS X) 0 0 (eF E)) σ 28 [(0, vR E 0), (1, vI l1), (2, vI l2)] [vR E 0] := by
  have hh1 : 1 ≤ hN := by omega
  replace h : B_X11_testOf_29 Q rc_X11_bothOf rc_X11_plainOf rc_X11_positiveOf rc_X11_testOf k6 l1 l2 0 σ := h
  refine j_iconst hc dX11_testOf_28 ?_
  refine j_sub (lv' := [(0, vR E 0), (1, vI l1), (2, vI l2)]) [0, 1, 2] rfl ?_
  exact jb_X11_testOf_29 hc hm hr hh hr_X11_bothOf hr_X11_plainOf hr_X11_positiveOf hr_X11_testOf hk6 cl1 cl2 (wlit 0 (by decide)) h
set_option maxRecDepth 20000 in
theorem jl_X11_testOf_6 {X : jj_X} {E : ev_E} {n0 hN : Nat} (hc : Cx X E cX11_testOf 4 n0 hN RX11) (hm : eM E = 2) (hr : (xT X).sig.returnType = (some .boolean)) {d : Nat} (hh : 64 + (d + 1) ≤ hN) {Q : Int → st_S → Prop} {rc_X11_bothOf : Int → st_S → (Int → st_S → Prop) → Prop} (hr_X11_bothOf : ∀ {l : Launch} {E : ev_E} (hE : Eok E) (hm : eM E = 2) {a1 : Int} (ca1 : wr a1 = a1) {σ : st_S} {Q : Int → st_S → Prop}, rc_X11_bothOf a1 σ Q → cM l yX11_bothOf cX11_bothOf 4 (some .boolean) E (64 + d) 0 0 [vR E 0, vI a1] σ (qI E (gN σ + 0) Q)) {rc_X11_plainOf : Int → st_S → (Int → st_S → Prop) → Prop} (hr_X11_plainOf : ∀ {l : Launch} {E : ev_E} (hE : Eok E) (hm : eM E = 2) {a1 : Int} (ca1 : wr a1 = a1) {σ : st_S} {Q : Int → st_S → Prop}, rc_X11_plainOf a1 σ Q → cM l yX11_plainOf cX11_plainOf 3 (some .boolean) E (64 + d) 0 0 [vR E 0, vI a1] σ (qI E (gN σ + 0) Q)) {rc_X11_positiveOf : Int → st_S → (Int → st_S → Prop) → Prop} (hr_X11_positiveOf : ∀ {l : Launch} {E : ev_E} (hE : Eok E) (hm : eM E = 2) {a1 : Int} (ca1 : wr a1 = a1) {σ : st_S} {Q : Int → st_S → Prop}, rc_X11_positiveOf a1 σ Q → cM l yX11_positiveOf cX11_positiveOf 7 (some .boolean) E (64 + d) 0 0 [vR E 0, vI a1] σ (qI E (gN σ + 0) Q)) {rc_X11_testOf : Int → st_S → (Int → st_S → Prop) → Prop} (hr_X11_testOf : ∀ {l : Launch} {E : ev_E} (hE : Eok E) (hm : eM E = 2) {a1 : Int} (ca1 : wr a1 = a1) {σ : st_S} {Q : Int → st_S → Prop}, rc_X11_testOf a1 σ Q → cM l yX11_testOf cX11_testOf 4 (some .boolean) E (64 + d) 0 0 [vR E 0, vI a1] σ (qI E (gN σ + 0) Q)) : ∀ (n : Nat) {l1 : Int} {l2 : Int} (cl1 : wr l1 = l1) (cl2 : wr l2 = l2) {σ : st_S}, L_X11_testOf_6 Q rc_X11_bothOf rc_X11_plainOf rc_X11_positiveOf rc_X11_testOf n l1 l2 σ → J X E 4 n0 0 0 (MQ (xB X) (qI E (n0 + 0) Q) (xA X) (xS X) 0 0 (eF E)) σ 6 [(0, vR E 0), (1, vI l1), (2, vI l2)] [] := by
  have hh1 : 1 ≤ hN := by omega
  intro n
  induction n with
  | zero => intro l1 l2 cl1 cl2 σ h; exact h.elim
  | succ n ih =>
    intro l1 l2 cl1 cl2 σ h
    have hk6 : ∀ {l1 : Int} {l2 : Int} (cl1 : wr l1 = l1) (cl2 : wr l2 = l2) {σ : st_S}, L_X11_testOf_6 Q rc_X11_bothOf rc_X11_plainOf rc_X11_positiveOf rc_X11_testOf n l1 l2 σ → J X E 4 n0 0 0 (MQ (xB X) (qI E (n0 + 0) Q) (xA X) (xS X) 0 0 (eF E)) σ 6 [(0, vR E 0), (1, vI l1), (2, vI l2)] [] := ih
    replace h : wp_X11_passes0 7 σ (fun r14 s15 => (r14 = 0 → (l2 = 0 ∨ l2 = 1) ∧ Q l2 s15) ∧ (¬ r14 = 0 → (l1 = 0 → B_X11_testOf_28 Q rc_X11_bothOf rc_X11_plainOf rc_X11_positiveOf rc_X11_testOf (L_X11_testOf_6 Q rc_X11_bothOf rc_X11_plainOf rc_X11_positiveOf rc_X11_testOf n) l1 l2 s15) ∧ (¬ l1 = 0 → (¬ l2 = 0 → B_X11_testOf_28 Q rc_X11_bothOf rc_X11_plainOf rc_X11_positiveOf rc_X11_testOf (L_X11_testOf_6 Q rc_X11_bothOf rc_X11_plainOf rc_X11_positiveOf rc_X11_testOf n) l1 l2 s15) ∧ (l2 = 0 → B_X11_testOf_29 Q rc_X11_bothOf rc_X11_plainOf rc_X11_positiveOf rc_X11_testOf (L_X11_testOf_6 Q rc_X11_bothOf rc_X11_plainOf rc_X11_positiveOf rc_X11_testOf n) l1 l2 1 s15)))) := h
    refine j_aload_nR hc 0 dX11_testOf_6 rfl rfl ?_
    refine j_bipush hc dX11_testOf_7 (by decide) ?_
    refine j_vI hc (k := 11) (by decide) (fun hv => Or.inl (sv_k hv hm rfl)) ml_RX11_272 mv_X11_passes0 (As := [vI 7]) (c_X11_passes0 (cx_E hc) hm (wlit 7 (by decide)) h) rfl (by omega) (by decide) ⟨Nat.zero_le _, Nat.zero_le _⟩ (Nat.le_of_ble_eq_true rfl) rfl dX11_testOf_9 (fun r14 s15 cr14 h => ?_)
    refine j_if_eq hc cr14 (tgt := 50) dX11_testOf_12 (by decide) (fun q18 => ?_) (fun q18 => ?_)
    · replace h := h.1 q18
      refine j_iload_n hc 2 dX11_testOf_50 rfl rfl ?_
      exact j_zret hc hr (nar_bool h.1) (by rcases h.1 with e | e <;> (rw [e]; decide)) h.2 dX11_testOf_51
    · replace h := h.2 q18
      refine j_aload_nR hc 0 dX11_testOf_15 rfl rfl ?_
      refine j_iload_n hc 1 dX11_testOf_16 rfl rfl ?_
      refine j_if_eq hc cl1 (tgt := 28) dX11_testOf_17 (by decide) (fun q17 => ?_) (fun q17 => ?_)
      · replace h := h.1 q17
        refine j_sub (lv' := [(0, vR E 0), (1, vI l1), (2, vI l2)]) [0, 1, 2] rfl ?_
        exact jb_X11_testOf_28 hc hm hr hh hr_X11_bothOf hr_X11_plainOf hr_X11_positiveOf hr_X11_testOf hk6 cl1 cl2 h
      · replace h := h.2 q17
        refine j_iload_n hc 2 dX11_testOf_20 rfl rfl ?_
        refine j_if_ne hc cl2 (tgt := 28) dX11_testOf_21 (by decide) (fun q16 => ?_) (fun q16 => ?_)
        · replace h := h.1 q16
          refine j_sub (lv' := [(0, vR E 0), (1, vI l1), (2, vI l2)]) [0, 1, 2] rfl ?_
          exact jb_X11_testOf_28 hc hm hr hh hr_X11_bothOf hr_X11_plainOf hr_X11_positiveOf hr_X11_testOf hk6 cl1 cl2 h
        · replace h := h.2 q16
          refine j_iconst hc dX11_testOf_24 ?_
          refine j_goto (tgt := 29) hc dX11_testOf_25 (by decide) ?_
          refine j_sub (lv' := [(0, vR E 0), (1, vI l1), (2, vI l2)]) [0, 1, 2] rfl ?_
          exact jb_X11_testOf_29 hc hm hr hh hr_X11_bothOf hr_X11_plainOf hr_X11_positiveOf hr_X11_testOf hk6 cl1 cl2 (wlit 1 (by decide)) h
set_option maxRecDepth 20000 in
theorem ce_X11_testOf {d : Nat} {rc_X11_bothOf : Int → st_S → (Int → st_S → Prop) → Prop} (hr_X11_bothOf : ∀ {l : Launch} {E : ev_E} (hE : Eok E) (hm : eM E = 2) {a1 : Int} (ca1 : wr a1 = a1) {σ : st_S} {Q : Int → st_S → Prop}, rc_X11_bothOf a1 σ Q → cM l yX11_bothOf cX11_bothOf 4 (some .boolean) E (64 + d) 0 0 [vR E 0, vI a1] σ (qI E (gN σ + 0) Q)) {rc_X11_plainOf : Int → st_S → (Int → st_S → Prop) → Prop} (hr_X11_plainOf : ∀ {l : Launch} {E : ev_E} (hE : Eok E) (hm : eM E = 2) {a1 : Int} (ca1 : wr a1 = a1) {σ : st_S} {Q : Int → st_S → Prop}, rc_X11_plainOf a1 σ Q → cM l yX11_plainOf cX11_plainOf 3 (some .boolean) E (64 + d) 0 0 [vR E 0, vI a1] σ (qI E (gN σ + 0) Q)) {rc_X11_positiveOf : Int → st_S → (Int → st_S → Prop) → Prop} (hr_X11_positiveOf : ∀ {l : Launch} {E : ev_E} (hE : Eok E) (hm : eM E = 2) {a1 : Int} (ca1 : wr a1 = a1) {σ : st_S} {Q : Int → st_S → Prop}, rc_X11_positiveOf a1 σ Q → cM l yX11_positiveOf cX11_positiveOf 7 (some .boolean) E (64 + d) 0 0 [vR E 0, vI a1] σ (qI E (gN σ + 0) Q)) {rc_X11_testOf : Int → st_S → (Int → st_S → Prop) → Prop} (hr_X11_testOf : ∀ {l : Launch} {E : ev_E} (hE : Eok E) (hm : eM E = 2) {a1 : Int} (ca1 : wr a1 = a1) {σ : st_S} {Q : Int → st_S → Prop}, rc_X11_testOf a1 σ Q → cM l yX11_testOf cX11_testOf 4 (some .boolean) E (64 + d) 0 0 [vR E 0, vI a1] σ (qI E (gN σ + 0) Q)) {l : Launch} {E : ev_E} (hE : Eok E) (hm : eM E = 2) {a1 : Int} (ca1 : wr a1 = a1) {σ : st_S} {Q : Int → st_S → Prop} (h : e_X11_testOf rc_X11_bothOf rc_X11_plainOf rc_X11_positiveOf rc_X11_testOf a1 σ Q) : cM l yX11_testOf cX11_testOf 4 (some .boolean) E (64 + (d + 1)) 0 0 [vR E 0, vI a1] σ (qI E (gN σ + 0) Q) := by
  refine cM_of (lv := [(0, vR E 0), (1, vI a1)]) (by decide) hE (Nat.le_of_ble_eq_true rfl) (rfl) ?_
  intro X hX hc _ _ hr _ _
  subst hX
  have hh : 64 + (d + 1) ≤ 64 + (d + 1) := Nat.le_refl _
  have hh1 : 1 ≤ 64 + (d + 1) := by omega
  replace h : rc_X11_bothOf a1 σ (fun r19 s20 => ∃ m6 : Nat, L_X11_testOf_6 Q rc_X11_bothOf rc_X11_plainOf rc_X11_positiveOf rc_X11_testOf m6 a1 r19 s20) := h
  refine j_aload_nR hc 0 dX11_testOf_0 rfl rfl ?_
  refine j_iload_n hc 1 dX11_testOf_1 rfl rfl ?_
  refine j_vI hc (k := 11) (by decide) (fun hv => Or.inl (sv_k hv hm rfl)) ml_RX11_280 mv_X11_bothOf (As := [vI a1]) (hr_X11_bothOf (cx_E hc) hm ca1 h) rfl (by omega) (by decide) ⟨Nat.zero_le _, Nat.zero_le _⟩ (Nat.le_of_ble_eq_true rfl) rfl dX11_testOf_2 (fun r19 s20 cr19 h => ?_)
  refine j_istore_n (lv' := [(2, vI r19), (0, vR E 0), (1, vI a1)]) hc dX11_testOf_5 rfl (by decide) rfl ?_
  obtain ⟨n6, h⟩ := h
  refine j_sub (lv' := [(0, vR E 0), (1, vI a1), (2, vI r19)]) [1, 2, 0] rfl ?_
  exact jl_X11_testOf_6 hc hm hr hh hr_X11_bothOf hr_X11_plainOf hr_X11_positiveOf hr_X11_testOf n6 ca1 cr19 h
theorem ca_X11_bothOf : ∀ d : Nat, (∀ {l : Launch} {E : ev_E} (hE : Eok E) (hm : eM E = 2) {a1 : Int} (ca1 : wr a1 = a1) {σ : st_S} {Q : Int → st_S → Prop}, wp_X11_bothOf d a1 σ Q → cM l yX11_bothOf cX11_bothOf 4 (some .boolean) E (64 + d) 0 0 [vR E 0, vI a1] σ (qI E (gN σ + 0) Q)) ∧ (∀ {l : Launch} {E : ev_E} (hE : Eok E) (hm : eM E = 2) {a1 : Int} (ca1 : wr a1 = a1) {σ : st_S} {Q : Int → st_S → Prop}, wp_X11_plainOf d a1 σ Q → cM l yX11_plainOf cX11_plainOf 3 (some .boolean) E (64 + d) 0 0 [vR E 0, vI a1] σ (qI E (gN σ + 0) Q)) ∧ (∀ {l : Launch} {E : ev_E} (hE : Eok E) (hm : eM E = 2) {a1 : Int} (ca1 : wr a1 = a1) {σ : st_S} {Q : Int → st_S → Prop}, wp_X11_positiveOf d a1 σ Q → cM l yX11_positiveOf cX11_positiveOf 7 (some .boolean) E (64 + d) 0 0 [vR E 0, vI a1] σ (qI E (gN σ + 0) Q)) ∧ (∀ {l : Launch} {E : ev_E} (hE : Eok E) (hm : eM E = 2) {a1 : Int} (ca1 : wr a1 = a1) {σ : st_S} {Q : Int → st_S → Prop}, wp_X11_testOf d a1 σ Q → cM l yX11_testOf cX11_testOf 4 (some .boolean) E (64 + d) 0 0 [vR E 0, vI a1] σ (qI E (gN σ + 0) Q)) := by
  intro d
  induction d with
  | zero => exact ⟨(fun {l} {E} hE hm {a1} ca1 {σ} {Q} h => h.elim), (fun {l} {E} hE hm {a1} ca1 {σ} {Q} h => h.elim), (fun {l} {E} hE hm {a1} ca1 {σ} {Q} h => h.elim), (fun {l} {E} hE hm {a1} ca1 {σ} {Q} h => h.elim)⟩
  | succ d ih =>
    obtain ⟨q0, q1, q2, q3⟩ := ih
    exact ⟨(fun {l} {E} hE hm {a1} ca1 {σ} {Q} h => ce_X11_bothOf (d := d) (rc_X11_bothOf := wp_X11_bothOf d) (rc_X11_plainOf := wp_X11_plainOf d) (rc_X11_positiveOf := wp_X11_positiveOf d) (rc_X11_testOf := wp_X11_testOf d) @q0 @q1 @q2 @q3 hE hm ca1 h), (fun {l} {E} hE hm {a1} ca1 {σ} {Q} h => ce_X11_plainOf (d := d) (rc_X11_bothOf := wp_X11_bothOf d) (rc_X11_plainOf := wp_X11_plainOf d) (rc_X11_positiveOf := wp_X11_positiveOf d) (rc_X11_testOf := wp_X11_testOf d) @q0 @q1 @q2 @q3 hE hm ca1 h), (fun {l} {E} hE hm {a1} ca1 {σ} {Q} h => ce_X11_positiveOf (d := d) (rc_X11_bothOf := wp_X11_bothOf d) (rc_X11_plainOf := wp_X11_plainOf d) (rc_X11_positiveOf := wp_X11_positiveOf d) (rc_X11_testOf := wp_X11_testOf d) @q0 @q1 @q2 @q3 hE hm ca1 h), (fun {l} {E} hE hm {a1} ca1 {σ} {Q} h => ce_X11_testOf (d := d) (rc_X11_bothOf := wp_X11_bothOf d) (rc_X11_plainOf := wp_X11_plainOf d) (rc_X11_positiveOf := wp_X11_positiveOf d) (rc_X11_testOf := wp_X11_testOf d) @q0 @q1 @q2 @q3 hE hm ca1 h)⟩
theorem c_X11_bothOf {l : Launch} {E : ev_E} (hE : Eok E) (hm : eM E = 2) (d : Nat) {a1 : Int} (ca1 : wr a1 = a1) {σ : st_S} {Q : Int → st_S → Prop} : wp_X11_bothOf d a1 σ Q → cM l yX11_bothOf cX11_bothOf 4 (some .boolean) E (64 + d) 0 0 [vR E 0, vI a1] σ (qI E (gN σ + 0) Q) := fun h => (ca_X11_bothOf d).1 hE hm ca1 h
theorem c_X11_plainOf {l : Launch} {E : ev_E} (hE : Eok E) (hm : eM E = 2) (d : Nat) {a1 : Int} (ca1 : wr a1 = a1) {σ : st_S} {Q : Int → st_S → Prop} : wp_X11_plainOf d a1 σ Q → cM l yX11_plainOf cX11_plainOf 3 (some .boolean) E (64 + d) 0 0 [vR E 0, vI a1] σ (qI E (gN σ + 0) Q) := fun h => (ca_X11_bothOf d).2.1 hE hm ca1 h
theorem c_X11_positiveOf {l : Launch} {E : ev_E} (hE : Eok E) (hm : eM E = 2) (d : Nat) {a1 : Int} (ca1 : wr a1 = a1) {σ : st_S} {Q : Int → st_S → Prop} : wp_X11_positiveOf d a1 σ Q → cM l yX11_positiveOf cX11_positiveOf 7 (some .boolean) E (64 + d) 0 0 [vR E 0, vI a1] σ (qI E (gN σ + 0) Q) := fun h => (ca_X11_bothOf d).2.2.1 hE hm ca1 h
theorem c_X11_testOf {l : Launch} {E : ev_E} (hE : Eok E) (hm : eM E = 2) (d : Nat) {a1 : Int} (ca1 : wr a1 = a1) {σ : st_S} {Q : Int → st_S → Prop} : wp_X11_testOf d a1 σ Q → cM l yX11_testOf cX11_testOf 4 (some .boolean) E (64 + d) 0 0 [vR E 0, vI a1] σ (qI E (gN σ + 0) Q) := fun h => (ca_X11_bothOf d).2.2.2 hE hm ca1 h
-- LitStrangersModel.tells(III)I
theorem dX11_tells_0 : decode cX11_tells 0 = .ok (.aload_n 0, 1) := by decide +kernel
theorem dX11_tells_1 : decode cX11_tells 1 = .ok (.getfield 24, 3) := by decide +kernel
theorem dX11_tells_4 : decode cX11_tells 4 = .ok (.sipush 258, 3) := by decide +kernel
theorem dX11_tells_7 : decode cX11_tells 7 = .ok (.iaload, 1) := by decide +kernel
theorem dX11_tells_8 : decode cX11_tells 8 = .ok (.iconst (-1), 1) := by decide +kernel
theorem dX11_tells_9 : decode cX11_tells 9 = .ok (.if_icmp .ne 5, 3) := by decide +kernel
theorem dX11_tells_12 : decode cX11_tells 12 = .ok (.iload_n 3, 1) := by decide +kernel
theorem dX11_tells_13 : decode cX11_tells 13 = .ok (.ireturn, 1) := by decide +kernel
theorem dX11_tells_14 : decode cX11_tells 14 = .ok (.aload_n 0, 1) := by decide +kernel
theorem dX11_tells_15 : decode cX11_tells 15 = .ok (.bipush 10, 2) := by decide +kernel
theorem dX11_tells_17 : decode cX11_tells 17 = .ok (.putfield 220, 3) := by decide +kernel
theorem dX11_tells_20 : decode cX11_tells 20 = .ok (.iload_n 3, 1) := by decide +kernel
theorem dX11_tells_21 : decode cX11_tells 21 = .ok (.i2l, 1) := by decide +kernel
theorem dX11_tells_22 : decode cX11_tells 22 = .ok (.lstore 4, 2) := by decide +kernel
theorem dX11_tells_24 : decode cX11_tells 24 = .ok (.aload_n 0, 1) := by decide +kernel
theorem dX11_tells_25 : decode cX11_tells 25 = .ok (.sipush 400, 3) := by decide +kernel
theorem dX11_tells_28 : decode cX11_tells 28 = .ok (.aload_n 0, 1) := by decide +kernel
theorem dX11_tells_29 : decode cX11_tells 29 = .ok (.getfield 24, 3) := by decide +kernel
theorem dX11_tells_32 : decode cX11_tells 32 = .ok (.sipush 258, 3) := by decide +kernel
theorem dX11_tells_35 : decode cX11_tells 35 = .ok (.iaload, 1) := by decide +kernel
theorem dX11_tells_36 : decode cX11_tells 36 = .ok (.imul, 1) := by decide +kernel
theorem dX11_tells_37 : decode cX11_tells 37 = .ok (.putfield 248, 3) := by decide +kernel
theorem dX11_tells_40 : decode cX11_tells 40 = .ok (.aload_n 0, 1) := by decide +kernel
theorem dX11_tells_41 : decode cX11_tells 41 = .ok (.aload_n 0, 1) := by decide +kernel
theorem dX11_tells_42 : decode cX11_tells 42 = .ok (.getfield 248, 3) := by decide +kernel
theorem dX11_tells_45 : decode cX11_tells 45 = .ok (.aload_n 0, 1) := by decide +kernel
theorem dX11_tells_46 : decode cX11_tells 46 = .ok (.getfield 24, 3) := by decide +kernel
theorem dX11_tells_49 : decode cX11_tells 49 = .ok (.sipush 259, 3) := by decide +kernel
theorem dX11_tells_52 : decode cX11_tells 52 = .ok (.aload_n 0, 1) := by decide +kernel
theorem dX11_tells_53 : decode cX11_tells 53 = .ok (.getfield 24, 3) := by decide +kernel
theorem dX11_tells_56 : decode cX11_tells 56 = .ok (.sipush 258, 3) := by decide +kernel
theorem dX11_tells_59 : decode cX11_tells 59 = .ok (.iaload, 1) := by decide +kernel
theorem dX11_tells_60 : decode cX11_tells 60 = .ok (.iadd, 1) := by decide +kernel
theorem dX11_tells_61 : decode cX11_tells 61 = .ok (.iaload, 1) := by decide +kernel
theorem dX11_tells_62 : decode cX11_tells 62 = .ok (.iadd, 1) := by decide +kernel
theorem dX11_tells_63 : decode cX11_tells 63 = .ok (.putfield 245, 3) := by decide +kernel
theorem dX11_tells_66 : decode cX11_tells 66 = .ok (.aload_n 0, 1) := by decide +kernel
theorem dX11_tells_67 : decode cX11_tells 67 = .ok (.getfield 248, 3) := by decide +kernel
theorem dX11_tells_70 : decode cX11_tells 70 = .ok (.aload_n 0, 1) := by decide +kernel
theorem dX11_tells_71 : decode cX11_tells 71 = .ok (.getfield 245, 3) := by decide +kernel
theorem dX11_tells_74 : decode cX11_tells 74 = .ok (.if_icmp .ge 144, 3) := by decide +kernel
theorem dX11_tells_77 : decode cX11_tells 77 = .ok (.aload_n 0, 1) := by decide +kernel
theorem dX11_tells_78 : decode cX11_tells 78 = .ok (.aload_n 0, 1) := by decide +kernel
theorem dX11_tells_79 : decode cX11_tells 79 = .ok (.getfield 248, 3) := by decide +kernel
theorem dX11_tells_82 : decode cX11_tells 82 = .ok (.invokevirtual 251, 3) := by decide +kernel
theorem dX11_tells_85 : decode cX11_tells 85 = .ok (.istore 6, 2) := by decide +kernel
theorem dX11_tells_87 : decode cX11_tells 87 = .ok (.aload_n 0, 1) := by decide +kernel
theorem dX11_tells_88 : decode cX11_tells 88 = .ok (.iconst 0, 1) := by decide +kernel
theorem dX11_tells_89 : decode cX11_tells 89 = .ok (.putfield 258, 3) := by decide +kernel
theorem dX11_tells_92 : decode cX11_tells 92 = .ok (.aload_n 0, 1) := by decide +kernel
theorem dX11_tells_93 : decode cX11_tells 93 = .ok (.dup, 1) := by decide +kernel
theorem dX11_tells_94 : decode cX11_tells 94 = .ok (.getfield 248, 3) := by decide +kernel
theorem dX11_tells_97 : decode cX11_tells 97 = .ok (.iconst 1, 1) := by decide +kernel
theorem dX11_tells_98 : decode cX11_tells 98 = .ok (.iadd, 1) := by decide +kernel
theorem dX11_tells_99 : decode cX11_tells 99 = .ok (.putfield 248, 3) := by decide +kernel
theorem dX11_tells_102 : decode cX11_tells 102 = .ok (.iload 6, 2) := by decide +kernel
theorem dX11_tells_104 : decode cX11_tells 104 = .ok (.iconst 5, 1) := by decide +kernel
theorem dX11_tells_105 : decode cX11_tells 105 = .ok (.if_icmp .ne 7, 3) := by decide +kernel
theorem dX11_tells_108 : decode cX11_tells 108 = .ok (.lconst 1, 1) := by decide +kernel
theorem dX11_tells_109 : decode cX11_tells 109 = .ok (.goto 8, 3) := by decide +kernel
theorem dX11_tells_112 : decode cX11_tells 112 = .ok (.aload_n 0, 1) := by decide +kernel
theorem dX11_tells_113 : decode cX11_tells 113 = .ok (.iconst 1, 1) := by decide +kernel
theorem dX11_tells_114 : decode cX11_tells 114 = .ok (.invokevirtual 275, 3) := by decide +kernel
theorem dX11_tells_117 : decode cX11_tells 117 = .ok (.lstore 7, 2) := by decide +kernel
theorem dX11_tells_119 : decode cX11_tells 119 = .ok (.aload_n 0, 1) := by decide +kernel
theorem dX11_tells_120 : decode cX11_tells 120 = .ok (.getfield 258, 3) := by decide +kernel
theorem dX11_tells_123 : decode cX11_tells 123 = .ok (.istore 9, 2) := by decide +kernel
theorem dX11_tells_125 : decode cX11_tells 125 = .ok (.aload_n 0, 1) := by decide +kernel
theorem dX11_tells_126 : decode cX11_tells 126 = .ok (.iconst 0, 1) := by decide +kernel
theorem dX11_tells_127 : decode cX11_tells 127 = .ok (.putfield 258, 3) := by decide +kernel
theorem dX11_tells_130 : decode cX11_tells 130 = .ok (.aload_n 0, 1) := by decide +kernel
theorem dX11_tells_131 : decode cX11_tells 131 = .ok (.bipush 6, 2) := by decide +kernel
theorem dX11_tells_133 : decode cX11_tells 133 = .ok (.invokevirtual 272, 3) := by decide +kernel
theorem dX11_tells_136 : decode cX11_tells 136 = .ok (.ifCond .eq 11, 3) := by decide +kernel
theorem dX11_tells_139 : decode cX11_tells 139 = .ok (.aload_n 0, 1) := by decide +kernel
theorem dX11_tells_140 : decode cX11_tells 140 = .ok (.iconst 1, 1) := by decide +kernel
theorem dX11_tells_141 : decode cX11_tells 141 = .ok (.invokevirtual 289, 3) := by decide +kernel
theorem dX11_tells_144 : decode cX11_tells 144 = .ok (.ifCond .eq 7, 3) := by decide +kernel
theorem dX11_tells_147 : decode cX11_tells 147 = .ok (.iconst 1, 1) := by decide +kernel
theorem dX11_tells_148 : decode cX11_tells 148 = .ok (.goto 4, 3) := by decide +kernel
theorem dX11_tells_151 : decode cX11_tells 151 = .ok (.iconst 0, 1) := by decide +kernel
theorem dX11_tells_152 : decode cX11_tells 152 = .ok (.istore 10, 2) := by decide +kernel
theorem dX11_tells_154 : decode cX11_tells 154 = .ok (.iload 6, 2) := by decide +kernel
theorem dX11_tells_156 : decode cX11_tells 156 = .ok (.iload_n 1, 1) := by decide +kernel
theorem dX11_tells_157 : decode cX11_tells 157 = .ok (.if_icmp .ne 48, 3) := by decide +kernel
theorem dX11_tells_160 : decode cX11_tells 160 = .ok (.iload 10, 2) := by decide +kernel
theorem dX11_tells_162 : decode cX11_tells 162 = .ok (.ifCond .eq 43, 3) := by decide +kernel
theorem dX11_tells_165 : decode cX11_tells 165 = .ok (.aload_n 0, 1) := by decide +kernel
theorem dX11_tells_166 : decode cX11_tells 166 = .ok (.getfield 258, 3) := by decide +kernel
theorem dX11_tells_169 : decode cX11_tells 169 = .ok (.ifCond .ne 36, 3) := by decide +kernel
theorem dX11_tells_172 : decode cX11_tells 172 = .ok (.iload 9, 2) := by decide +kernel
theorem dX11_tells_174 : decode cX11_tells 174 = .ok (.ifCond .ne 31, 3) := by decide +kernel
theorem dX11_tells_177 : decode cX11_tells 177 = .ok (.lload 7, 2) := by decide +kernel
theorem dX11_tells_179 : decode cX11_tells 179 = .ok (.lconst 0, 1) := by decide +kernel
theorem dX11_tells_180 : decode cX11_tells 180 = .ok (.lcmp, 1) := by decide +kernel
theorem dX11_tells_181 : decode cX11_tells 181 = .ok (.ifCond .ge 7, 3) := by decide +kernel
theorem dX11_tells_184 : decode cX11_tells 184 = .ok (.lconst 0, 1) := by decide +kernel
theorem dX11_tells_185 : decode cX11_tells 185 = .ok (.goto 18, 3) := by decide +kernel
theorem dX11_tells_188 : decode cX11_tells 188 = .ok (.lload 7, 2) := by decide +kernel
theorem dX11_tells_190 : decode cX11_tells 190 = .ok (.iload_n 2, 1) := by decide +kernel
theorem dX11_tells_191 : decode cX11_tells 191 = .ok (.i2l, 1) := by decide +kernel
theorem dX11_tells_192 : decode cX11_tells 192 = .ok (.lcmp, 1) := by decide +kernel
theorem dX11_tells_193 : decode cX11_tells 193 = .ok (.ifCond .le 8, 3) := by decide +kernel
theorem dX11_tells_196 : decode cX11_tells 196 = .ok (.iload_n 2, 1) := by decide +kernel
theorem dX11_tells_197 : decode cX11_tells 197 = .ok (.i2l, 1) := by decide +kernel
theorem dX11_tells_198 : decode cX11_tells 198 = .ok (.goto 5, 3) := by decide +kernel
theorem dX11_tells_201 : decode cX11_tells 201 = .ok (.lload 7, 2) := by decide +kernel
theorem dX11_tells_203 : decode cX11_tells 203 = .ok (.lstore 4, 2) := by decide +kernel
theorem dX11_tells_205 : decode cX11_tells 205 = .ok (.aload_n 0, 1) := by decide +kernel
theorem dX11_tells_206 : decode cX11_tells 206 = .ok (.dup, 1) := by decide +kernel
theorem dX11_tells_207 : decode cX11_tells 207 = .ok (.getfield 248, 3) := by decide +kernel
theorem dX11_tells_210 : decode cX11_tells 210 = .ok (.iconst 1, 1) := by decide +kernel
theorem dX11_tells_211 : decode cX11_tells 211 = .ok (.iadd, 1) := by decide +kernel
theorem dX11_tells_212 : decode cX11_tells 212 = .ok (.putfield 248, 3) := by decide +kernel
theorem dX11_tells_215 : decode cX11_tells 215 = .ok (.goto (-149), 3) := by decide +kernel
theorem dX11_tells_218 : decode cX11_tells 218 = .ok (.lload 4, 2) := by decide +kernel
theorem dX11_tells_220 : decode cX11_tells 220 = .ok (.l2i, 1) := by decide +kernel
theorem dX11_tells_221 : decode cX11_tells 221 = .ok (.ireturn, 1) := by decide +kernel
def B_X11_tells_205 (Q : Int → st_S → Prop)  (k66 : Int → Int → Int → st_S → Prop) (l1 : Int) (l2 : Int) (l4 : Int) (σ : st_S) : Prop := ∀ x48 : Int, x48 = wr (gI σ 0 22 + 1) → ∀ s49 : st_S, s49 = sI σ 0 22 x48 → k66 l1 l2 l4 s49
def B_X11_tells_203 (Q : Int → st_S → Prop)  (k66 : Int → Int → Int → st_S → Prop) (l1 : Int) (l2 : Int) (v0 : Int) (σ : st_S) : Prop := B_X11_tells_205 Q k66 l1 l2 v0 σ
def B_X11_tells_152 (Q : Int → st_S → Prop)  (k66 : Int → Int → Int → st_S → Prop) (l1 : Int) (l2 : Int) (l4 : Int) (l6 : Int) (l7 : Int) (l9 : Int) (v0 : Int) (σ : st_S) : Prop := (¬ l6 = l1 → B_X11_tells_205 Q k66 l1 l2 l4 σ) ∧ (l6 = l1 → (v0 = 0 → B_X11_tells_205 Q k66 l1 l2 l4 σ) ∧ (¬ v0 = 0 → (¬ gI σ 0 24 = 0 → B_X11_tells_205 Q k66 l1 l2 l4 σ) ∧ (gI σ 0 24 = 0 → (¬ l9 = 0 → B_X11_tells_205 Q k66 l1 l2 l4 σ) ∧ (l9 = 0 → (0 ≤ p_cmp l7 0 → (p_cmp l7 l2 ≤ 0 → B_X11_tells_203 Q k66 l1 l2 l7 σ) ∧ (¬ p_cmp l7 l2 ≤ 0 → B_X11_tells_203 Q k66 l1 l2 l2 σ)) ∧ (¬ 0 ≤ p_cmp l7 0 → B_X11_tells_203 Q k66 l1 l2 0 σ)))))
def B_X11_tells_147 (Q : Int → st_S → Prop)  (k66 : Int → Int → Int → st_S → Prop) (l1 : Int) (l2 : Int) (l4 : Int) (l6 : Int) (l7 : Int) (l9 : Int) (σ : st_S) : Prop := B_X11_tells_152 Q k66 l1 l2 l4 l6 l7 l9 1 σ
def B_X11_tells_117 (Q : Int → st_S → Prop)  (k66 : Int → Int → Int → st_S → Prop) (l1 : Int) (l2 : Int) (l4 : Int) (l6 : Int) (v0 : Int) (σ : st_S) : Prop := ∀ x58 : Int, x58 = gI σ 0 24 → ∀ s59 : st_S, s59 = sI σ 0 24 0 → wp_X11_passes0 6 s59 (fun r60 s61 => (r60 = 0 → B_X11_tells_147 Q k66 l1 l2 l4 l6 v0 x58 s61) ∧ (¬ r60 = 0 → wp_X11_testOf 60 1 s61 (fun r62 s63 => (r62 = 0 → B_X11_tells_152 Q k66 l1 l2 l4 l6 v0 x58 0 s63) ∧ (¬ r62 = 0 → B_X11_tells_147 Q k66 l1 l2 l4 l6 v0 x58 s63))))
def L_X11_tells_66 (Q : Int → st_S → Prop)   : Nat → Int → Int → Int → st_S → Prop
  | 0 => fun _ _ _ _ => False
  | n + 1 => fun l1 l2 l4 σ => (gI σ 0 23 ≤ gI σ 0 22 → Q (o_l2i l4) σ) ∧ (¬ gI σ 0 23 ≤ gI σ 0 22 → wp_X11_codeAt (gI σ 0 22) σ (fun r69 s70 => ∀ s71 : st_S, s71 = sI s70 0 24 0 → ∀ x73 : Int, x73 = wr (gI s71 0 22 + 1) → ∀ s74 : st_S, s74 = sI s71 0 22 x73 → (¬ r69 = 5 → wp_X11_sumOf 60 1 s74 (fun r75 s76 => B_X11_tells_117 Q (L_X11_tells_66 Q n) l1 l2 l4 r69 r75 s76)) ∧ (r69 = 5 → B_X11_tells_117 Q (L_X11_tells_66 Q n) l1 l2 l4 r69 1 s74)))
def wp_X11_tells (a1 : Int) (a2 : Int) (a3 : Int) (σ : st_S) (Q : Int → st_S → Prop) : Prop := (¬ gI σ 2 258 = (-1) → ∀ s80 : st_S, s80 = sI σ 0 8 10 → ∀ x82 : Int, x82 = wr (400 * gI s80 2 258) → ∀ s83 : st_S, s83 = sI s80 0 22 x82 → ix (wr (259 + gI s83 2 258)) 5866 ∧ ∀ x88 : Int, x88 = wr (gI s83 0 22 + gI s83 2 (Int.toNat (wr (259 + gI s83 2 258)))) → ∀ s89 : st_S, s89 = sI s83 0 23 x88 → ∃ m66 : Nat, L_X11_tells_66 Q m66 a1 a2 a3 s89) ∧ (gI σ 2 258 = (-1) → Q a3 σ)
set_option maxRecDepth 20000 in
theorem jb_X11_tells_205 {X : jj_X} {E : ev_E} {n0 hN : Nat} (hc : Cx X E cX11_tells 11 n0 hN RX11) (hm : eM E = 2) (hr : (xT X).sig.returnType = (some .int)) (hh : 125 ≤ hN) {Q : Int → st_S → Prop} {k66 : Int → Int → Int → st_S → Prop} (hk66 : ∀ {l1 : Int} {l2 : Int} {l4 : Int} (cl1 : wr l1 = l1) (cl2 : wr l2 = l2) (cl4 : wl l4 = l4) {σ : st_S}, k66 l1 l2 l4 σ → J X E 11 n0 0 0 (MQ (xB X) (qI E (n0 + 0) Q) (xA X) (xS X) 0 0 (eF E)) σ 66 [(0, vR E 0), (1, vI l1), (2, vI l2), (4, vL l4)] []) {l1 : Int} {l2 : Int} {l4 : Int} (cl1 : wr l1 = l1) (cl2 : wr l2 = l2) (cl4 : wl l4 = l4) {σ : st_S} (h : B_X11_tells_205 Q k66 l1 l2 l4 σ) : J X E 11 n0 0 0 (MQ (xB X) (qI E (n0 + 0) Q) (xA X) (xS X) 0 0 (eF E)) σ 205 [(0, vR E 0), (1, vI l1), (2, vI l2), (4, vL l4)] [] := by
  have hh1 : 1 ≤ hN := by omega
  replace h : ∀ x48 : Int, x48 = wr (gI σ 0 22 + 1) → ∀ s49 : st_S, s49 = sI σ 0 22 x48 → k66 l1 l2 l4 s49 := h
  refine j_aload_nR hc 0 dX11_tells_205 rfl rfl ?_
  refine j_dup hc dX11_tells_206 rfl ?_
  refine j_getI hc fl_RX11_248 (Or.inl rfl) (fun hv => Or.inl (sv_k hv hm rfl)) dX11_tells_207 (fun cn47 => ?_)
  refine j_iconst hc dX11_tells_210 ?_
  refine j_iadd hc dX11_tells_211 ?_
  refine j_w (fun x48 ex48 cx48 => ?_)
  replace h := h x48 ex48
  refine j_putI hc fl_RX11_248 rfl rfl (fun hv => Or.inl (sv_k hv hm rfl)) cx48 dX11_tells_212 (fun s49 es49 => ?_)
  replace h := h s49 es49
  refine j_goto (tgt := 66) hc dX11_tells_215 (by decide) ?_
  refine j_sub (lv' := [(0, vR E 0), (1, vI l1), (2, vI l2), (4, vL l4)]) [0, 1, 2, 3] rfl ?_
  exact hk66 cl1 cl2 cl4 h
set_option maxRecDepth 20000 in
theorem jb_X11_tells_203 {X : jj_X} {E : ev_E} {n0 hN : Nat} (hc : Cx X E cX11_tells 11 n0 hN RX11) (hm : eM E = 2) (hr : (xT X).sig.returnType = (some .int)) (hh : 125 ≤ hN) {Q : Int → st_S → Prop} {k66 : Int → Int → Int → st_S → Prop} (hk66 : ∀ {l1 : Int} {l2 : Int} {l4 : Int} (cl1 : wr l1 = l1) (cl2 : wr l2 = l2) (cl4 : wl l4 = l4) {σ : st_S}, k66 l1 l2 l4 σ → J X E 11 n0 0 0 (MQ (xB X) (qI E (n0 + 0) Q) (xA X) (xS X) 0 0 (eF E)) σ 66 [(0, vR E 0), (1, vI l1), (2, vI l2), (4, vL l4)] []) {l1 : Int} {l2 : Int} {v0 : Int} (cl1 : wr l1 = l1) (cl2 : wr l2 = l2) (cv0 : wl v0 = v0) {σ : st_S} (h : B_X11_tells_203 Q k66 l1 l2 v0 σ) : J X E 11 n0 0 0 (MQ (xB X) (qI E (n0 + 0) Q) (xA X) (xS X) 0 0 (eF E)) σ 203 [(0, vR E 0), (1, vI l1), (2, vI l2)] [vL v0] := by
  have hh1 : 1 ≤ hN := by omega
  replace h : B_X11_tells_205 Q k66 l1 l2 v0 σ := h
  refine j_lstore (lv' := [(4, vL v0), (0, vR E 0), (1, vI l1), (2, vI l2)]) hc dX11_tells_203 (by decide) rfl ?_
  refine j_sub (lv' := [(0, vR E 0), (1, vI l1), (2, vI l2), (4, vL v0)]) [1, 2, 3, 0] rfl ?_
  exact jb_X11_tells_205 hc hm hr hh hk66 cl1 cl2 cv0 h
set_option maxRecDepth 20000 in
theorem jb_X11_tells_152 {X : jj_X} {E : ev_E} {n0 hN : Nat} (hc : Cx X E cX11_tells 11 n0 hN RX11) (hm : eM E = 2) (hr : (xT X).sig.returnType = (some .int)) (hh : 125 ≤ hN) {Q : Int → st_S → Prop} {k66 : Int → Int → Int → st_S → Prop} (hk66 : ∀ {l1 : Int} {l2 : Int} {l4 : Int} (cl1 : wr l1 = l1) (cl2 : wr l2 = l2) (cl4 : wl l4 = l4) {σ : st_S}, k66 l1 l2 l4 σ → J X E 11 n0 0 0 (MQ (xB X) (qI E (n0 + 0) Q) (xA X) (xS X) 0 0 (eF E)) σ 66 [(0, vR E 0), (1, vI l1), (2, vI l2), (4, vL l4)] []) {l1 : Int} {l2 : Int} {l4 : Int} {l6 : Int} {l7 : Int} {l9 : Int} {v0 : Int} (cl1 : wr l1 = l1) (cl2 : wr l2 = l2) (cl4 : wl l4 = l4) (cl6 : wr l6 = l6) (cl7 : wl l7 = l7) (cl9 : wr l9 = l9) (cv0 : wr v0 = v0) {σ : st_S} (h : B_X11_tells_152 Q k66 l1 l2 l4 l6 l7 l9 v0 σ) : J X E 11 n0 0 0 (MQ (xB X) (qI E (n0 + 0) Q) (xA X) (xS X) 0 0 (eF E)) σ 152 [(0, vR E 0), (1, vI l1), (2, vI l2), (4, vL l4), (6, vI l6), (7, vL l7), (9, vI l9)] [vI v0] := by
  have hh1 : 1 ≤ hN := by omega
  replace h : (¬ l6 = l1 → B_X11_tells_205 Q k66 l1 l2 l4 σ) ∧ (l6 = l1 → (v0 = 0 → B_X11_tells_205 Q k66 l1 l2 l4 σ) ∧ (¬ v0 = 0 → (¬ gI σ 0 24 = 0 → B_X11_tells_205 Q k66 l1 l2 l4 σ) ∧ (gI σ 0 24 = 0 → (¬ l9 = 0 → B_X11_tells_205 Q k66 l1 l2 l4 σ) ∧ (l9 = 0 → (0 ≤ p_cmp l7 0 → (p_cmp l7 l2 ≤ 0 → B_X11_tells_203 Q k66 l1 l2 l7 σ) ∧ (¬ p_cmp l7 l2 ≤ 0 → B_X11_tells_203 Q k66 l1 l2 l2 σ)) ∧ (¬ 0 ≤ p_cmp l7 0 → B_X11_tells_203 Q k66 l1 l2 0 σ))))) := h
  refine j_istore (lv' := [(10, vI v0), (0, vR E 0), (1, vI l1), (2, vI l2), (4, vL l4), (6, vI l6), (7, vL l7), (9, vI l9)]) hc dX11_tells_152 (by decide) rfl ?_
  refine j_iload hc 5 dX11_tells_154 rfl ?_
  refine j_iload_n hc 2 dX11_tells_156 rfl rfl ?_
  refine j_ic_ne hc cl6 cl1 (tgt := 205) dX11_tells_157 (by decide) (fun q56 => ?_) (fun q56 => ?_)
  · replace h := h.1 q56
    refine j_sub (lv' := [(0, vR E 0), (1, vI l1), (2, vI l2), (4, vL l4)]) [1, 2, 3, 4] rfl ?_
    exact jb_X11_tells_205 hc hm hr hh hk66 cl1 cl2 cl4 h
  · replace h := h.2 q56
    refine j_iload hc 0 dX11_tells_160 rfl ?_
    refine j_if_eq hc cv0 (tgt := 205) dX11_tells_162 (by decide) (fun q55 => ?_) (fun q55 => ?_)
    · replace h := h.1 q55
      refine j_sub (lv' := [(0, vR E 0), (1, vI l1), (2, vI l2), (4, vL l4)]) [1, 2, 3, 4] rfl ?_
      exact jb_X11_tells_205 hc hm hr hh hk66 cl1 cl2 cl4 h
    · replace h := h.2 q55
      refine j_aload_nR hc 1 dX11_tells_165 rfl rfl ?_
      refine j_getI hc fl_RX11_258 (Or.inr rfl) (fun hv => Or.inl (sv_k hv hm rfl)) dX11_tells_166 (fun cn50 => ?_)
      refine j_if_ne hc cn50 (tgt := 205) dX11_tells_169 (by decide) (fun q54 => ?_) (fun q54 => ?_)
      · replace h := h.1 q54
        refine j_sub (lv' := [(0, vR E 0), (1, vI l1), (2, vI l2), (4, vL l4)]) [1, 2, 3, 4] rfl ?_
        exact jb_X11_tells_205 hc hm hr hh hk66 cl1 cl2 cl4 h
      · replace h := h.2 q54
        refine j_iload hc 7 dX11_tells_172 rfl ?_
        refine j_if_ne hc cl9 (tgt := 205) dX11_tells_174 (by decide) (fun q53 => ?_) (fun q53 => ?_)
        · replace h := h.1 q53
          refine j_sub (lv' := [(0, vR E 0), (1, vI l1), (2, vI l2), (4, vL l4)]) [1, 2, 3, 4] rfl ?_
          exact jb_X11_tells_205 hc hm hr hh hk66 cl1 cl2 cl4 h
        · replace h := h.2 q53
          refine j_lload hc 6 dX11_tells_177 rfl ?_
          refine j_lconst (x := 0) hc dX11_tells_179 rfl ?_
          refine j_lcmp hc dX11_tells_180 ?_
          refine j_if_ge hc (cn_cmp _ _) (tgt := 188) dX11_tells_181 (by decide) (fun q52 => ?_) (fun q52 => ?_)
          · replace h := h.1 q52
            refine j_lload hc 6 dX11_tells_188 rfl ?_
            refine j_iload_n hc 3 dX11_tells_190 rfl rfl ?_
            refine j_i2l hc cl2 dX11_tells_191 ?_
            refine j_lcmp hc dX11_tells_192 ?_
            refine j_if_le hc (cn_cmp _ _) (tgt := 201) dX11_tells_193 (by decide) (fun q51 => ?_) (fun q51 => ?_)
            · replace h := h.1 q51
              refine j_lload hc 6 dX11_tells_201 rfl ?_
              refine j_sub (lv' := [(0, vR E 0), (1, vI l1), (2, vI l2)]) [1, 2, 3] rfl ?_
              exact jb_X11_tells_203 hc hm hr hh hk66 cl1 cl2 cl7 h
            · replace h := h.2 q51
              refine j_iload_n hc 3 dX11_tells_196 rfl rfl ?_
              refine j_i2l hc cl2 dX11_tells_197 ?_
              refine j_goto (tgt := 203) hc dX11_tells_198 (by decide) ?_
              refine j_sub (lv' := [(0, vR E 0), (1, vI l1), (2, vI l2)]) [1, 2, 3] rfl ?_
              exact jb_X11_tells_203 hc hm hr hh hk66 cl1 cl2 (cn_wl cl2) h
          · replace h := h.2 q52
            refine j_lconst (x := 0) hc dX11_tells_184 rfl ?_
            refine j_goto (tgt := 203) hc dX11_tells_185 (by decide) ?_
            refine j_sub (lv' := [(0, vR E 0), (1, vI l1), (2, vI l2)]) [1, 2, 3] rfl ?_
            exact jb_X11_tells_203 hc hm hr hh hk66 cl1 cl2 (llit 0 (by decide)) h
set_option maxRecDepth 20000 in
theorem jb_X11_tells_147 {X : jj_X} {E : ev_E} {n0 hN : Nat} (hc : Cx X E cX11_tells 11 n0 hN RX11) (hm : eM E = 2) (hr : (xT X).sig.returnType = (some .int)) (hh : 125 ≤ hN) {Q : Int → st_S → Prop} {k66 : Int → Int → Int → st_S → Prop} (hk66 : ∀ {l1 : Int} {l2 : Int} {l4 : Int} (cl1 : wr l1 = l1) (cl2 : wr l2 = l2) (cl4 : wl l4 = l4) {σ : st_S}, k66 l1 l2 l4 σ → J X E 11 n0 0 0 (MQ (xB X) (qI E (n0 + 0) Q) (xA X) (xS X) 0 0 (eF E)) σ 66 [(0, vR E 0), (1, vI l1), (2, vI l2), (4, vL l4)] []) {l1 : Int} {l2 : Int} {l4 : Int} {l6 : Int} {l7 : Int} {l9 : Int} (cl1 : wr l1 = l1) (cl2 : wr l2 = l2) (cl4 : wl l4 = l4) (cl6 : wr l6 = l6) (cl7 : wl l7 = l7) (cl9 : wr l9 = l9) {σ : st_S} (h : B_X11_tells_147 Q k66 l1 l2 l4 l6 l7 l9 σ) : J X E 11 n0 0 0 (MQ (xB X) (qI E (n0 + 0) Q) (xA X) (xS X) 0 0 (eF E)) σ 147 [(0, vR E 0), (1, vI l1), (2, vI l2), (4, vL l4), (6, vI l6), (7, vL l7), (9, vI l9)] [] := by
  have hh1 : 1 ≤ hN := by omega
  replace h : B_X11_tells_152 Q k66 l1 l2 l4 l6 l7 l9 1 σ := h
  refine j_iconst hc dX11_tells_147 ?_
  refine j_goto (tgt := 152) hc dX11_tells_148 (by decide) ?_
  refine j_sub (lv' := [(0, vR E 0), (1, vI l1), (2, vI l2), (4, vL l4), (6, vI l6), (7, vL l7), (9, vI l9)]) [0, 1, 2, 3, 4, 5, 6] rfl ?_
  exact jb_X11_tells_152 hc hm hr hh hk66 cl1 cl2 cl4 cl6 cl7 cl9 (wlit 1 (by decide)) h
set_option maxRecDepth 20000 in
theorem jb_X11_tells_117 {X : jj_X} {E : ev_E} {n0 hN : Nat} (hc : Cx X E cX11_tells 11 n0 hN RX11) (hm : eM E = 2) (hr : (xT X).sig.returnType = (some .int)) (hh : 125 ≤ hN) {Q : Int → st_S → Prop} {k66 : Int → Int → Int → st_S → Prop} (hk66 : ∀ {l1 : Int} {l2 : Int} {l4 : Int} (cl1 : wr l1 = l1) (cl2 : wr l2 = l2) (cl4 : wl l4 = l4) {σ : st_S}, k66 l1 l2 l4 σ → J X E 11 n0 0 0 (MQ (xB X) (qI E (n0 + 0) Q) (xA X) (xS X) 0 0 (eF E)) σ 66 [(0, vR E 0), (1, vI l1), (2, vI l2), (4, vL l4)] []) {l1 : Int} {l2 : Int} {l4 : Int} {l6 : Int} {v0 : Int} (cl1 : wr l1 = l1) (cl2 : wr l2 = l2) (cl4 : wl l4 = l4) (cl6 : wr l6 = l6) (cv0 : wl v0 = v0) {σ : st_S} (h : B_X11_tells_117 Q k66 l1 l2 l4 l6 v0 σ) : J X E 11 n0 0 0 (MQ (xB X) (qI E (n0 + 0) Q) (xA X) (xS X) 0 0 (eF E)) σ 117 [(0, vR E 0), (1, vI l1), (2, vI l2), (4, vL l4), (6, vI l6)] [vL v0] := by
  have hh1 : 1 ≤ hN := by omega
  replace h : ∀ x58 : Int, x58 = gI σ 0 24 → ∀ s59 : st_S, s59 = sI σ 0 24 0 → wp_X11_passes0 6 s59 (fun r60 s61 => (r60 = 0 → B_X11_tells_147 Q k66 l1 l2 l4 l6 v0 x58 s61) ∧ (¬ r60 = 0 → wp_X11_testOf 60 1 s61 (fun r62 s63 => (r62 = 0 → B_X11_tells_152 Q k66 l1 l2 l4 l6 v0 x58 0 s63) ∧ (¬ r62 = 0 → B_X11_tells_147 Q k66 l1 l2 l4 l6 v0 x58 s63)))) := h
  refine j_lstore (lv' := [(7, vL v0), (0, vR E 0), (1, vI l1), (2, vI l2), (4, vL l4), (6, vI l6)]) hc dX11_tells_117 (by decide) rfl ?_
  refine j_aload_nR hc 1 dX11_tells_119 rfl rfl ?_
  refine j_getI hc fl_RX11_258 (Or.inr rfl) (fun hv => Or.inl (sv_k hv hm rfl)) dX11_tells_120 (fun cn57 => ?_)
  refine j_c cn57 (fun x58 ex58 cx58 => ?_)
  replace h := h x58 ex58
  refine j_istore (lv' := [(9, vI x58), (7, vL v0), (0, vR E 0), (1, vI l1), (2, vI l2), (4, vL l4), (6, vI l6)]) hc dX11_tells_123 (by decide) rfl ?_
  refine j_aload_nR hc 2 dX11_tells_125 rfl rfl ?_
  refine j_iconst hc dX11_tells_126 ?_
  refine j_putZ hc fl_RX11_258 rfl rfl (fun hv => Or.inl (sv_k hv hm rfl)) (Or.inl rfl) dX11_tells_127 (fun s59 es59 => ?_)
  replace h := h s59 es59
  refine j_aload_nR hc 2 dX11_tells_130 rfl rfl ?_
  refine j_bipush hc dX11_tells_131 (by decide) ?_
  refine j_vI hc (k := 11) (by decide) (fun hv => Or.inl (sv_k hv hm rfl)) ml_RX11_272 mv_X11_passes0 (As := [vI 6]) (c_X11_passes0 (cx_E hc) hm (wlit 6 (by decide)) h) rfl (by omega) (by decide) ⟨Nat.zero_le _, Nat.zero_le _⟩ (Nat.le_of_ble_eq_true rfl) rfl dX11_tells_133 (fun r60 s61 cr60 h => ?_)
  refine j_if_eq hc cr60 (tgt := 147) dX11_tells_136 (by decide) (fun q65 => ?_) (fun q65 => ?_)
  · replace h := h.1 q65
    refine j_sub (lv' := [(0, vR E 0), (1, vI l1), (2, vI l2), (4, vL l4), (6, vI l6), (7, vL v0), (9, vI x58)]) [2, 3, 4, 5, 6, 1, 0] rfl ?_
    exact jb_X11_tells_147 hc hm hr hh hk66 cl1 cl2 cl4 cl6 cv0 cx58 h
  · replace h := h.2 q65
    refine j_aload_nR hc 2 dX11_tells_139 rfl rfl ?_
    refine j_iconst hc dX11_tells_140 ?_
    refine j_vI hc (k := 11) (by decide) (fun hv => Or.inl (sv_k hv hm rfl)) ml_RX11_289 mv_X11_testOf (As := [vI 1]) (c_X11_testOf (cx_E hc) hm 60 (wlit 1 (by decide)) h) rfl (by omega) (by decide) ⟨Nat.zero_le _, Nat.zero_le _⟩ (Nat.le_of_ble_eq_true rfl) rfl dX11_tells_141 (fun r62 s63 cr62 h => ?_)
    refine j_if_eq hc cr62 (tgt := 151) dX11_tells_144 (by decide) (fun q64 => ?_) (fun q64 => ?_)
    · replace h := h.1 q64
      refine j_iconst hc dX11_tells_151 ?_
      refine j_sub (lv' := [(0, vR E 0), (1, vI l1), (2, vI l2), (4, vL l4), (6, vI l6), (7, vL v0), (9, vI x58)]) [2, 3, 4, 5, 6, 1, 0] rfl ?_
      exact jb_X11_tells_152 hc hm hr hh hk66 cl1 cl2 cl4 cl6 cv0 cx58 (wlit 0 (by decide)) h
    · replace h := h.2 q64
      refine j_sub (lv' := [(0, vR E 0), (1, vI l1), (2, vI l2), (4, vL l4), (6, vI l6), (7, vL v0), (9, vI x58)]) [2, 3, 4, 5, 6, 1, 0] rfl ?_
      exact jb_X11_tells_147 hc hm hr hh hk66 cl1 cl2 cl4 cl6 cv0 cx58 h
set_option maxRecDepth 20000 in
theorem jl_X11_tells_66 {X : jj_X} {E : ev_E} {n0 hN : Nat} (hc : Cx X E cX11_tells 11 n0 hN RX11) (hm : eM E = 2) (hr : (xT X).sig.returnType = (some .int)) (hh : 125 ≤ hN) {Q : Int → st_S → Prop} : ∀ (n : Nat) {l1 : Int} {l2 : Int} {l4 : Int} (cl1 : wr l1 = l1) (cl2 : wr l2 = l2) (cl4 : wl l4 = l4) {σ : st_S}, L_X11_tells_66 Q n l1 l2 l4 σ → J X E 11 n0 0 0 (MQ (xB X) (qI E (n0 + 0) Q) (xA X) (xS X) 0 0 (eF E)) σ 66 [(0, vR E 0), (1, vI l1), (2, vI l2), (4, vL l4)] [] := by
  have hh1 : 1 ≤ hN := by omega
  intro n
  induction n with
  | zero => intro l1 l2 l4 cl1 cl2 cl4 σ h; exact h.elim
  | succ n ih =>
    intro l1 l2 l4 cl1 cl2 cl4 σ h
    have hk66 : ∀ {l1 : Int} {l2 : Int} {l4 : Int} (cl1 : wr l1 = l1) (cl2 : wr l2 = l2) (cl4 : wl l4 = l4) {σ : st_S}, L_X11_tells_66 Q n l1 l2 l4 σ → J X E 11 n0 0 0 (MQ (xB X) (qI E (n0 + 0) Q) (xA X) (xS X) 0 0 (eF E)) σ 66 [(0, vR E 0), (1, vI l1), (2, vI l2), (4, vL l4)] [] := ih
    replace h : (gI σ 0 23 ≤ gI σ 0 22 → Q (o_l2i l4) σ) ∧ (¬ gI σ 0 23 ≤ gI σ 0 22 → wp_X11_codeAt (gI σ 0 22) σ (fun r69 s70 => ∀ s71 : st_S, s71 = sI s70 0 24 0 → ∀ x73 : Int, x73 = wr (gI s71 0 22 + 1) → ∀ s74 : st_S, s74 = sI s71 0 22 x73 → (¬ r69 = 5 → wp_X11_sumOf 60 1 s74 (fun r75 s76 => B_X11_tells_117 Q (L_X11_tells_66 Q n) l1 l2 l4 r69 r75 s76)) ∧ (r69 = 5 → B_X11_tells_117 Q (L_X11_tells_66 Q n) l1 l2 l4 r69 1 s74))) := h
    refine j_aload_nR hc 0 dX11_tells_66 rfl rfl ?_
    refine j_getI hc fl_RX11_248 (Or.inl rfl) (fun hv => Or.inl (sv_k hv hm rfl)) dX11_tells_67 (fun cn66 => ?_)
    refine j_aload_nR hc 0 dX11_tells_70 rfl rfl ?_
    refine j_getI hc fl_RX11_245 (Or.inl rfl) (fun hv => Or.inl (sv_k hv hm rfl)) dX11_tells_71 (fun cn67 => ?_)
    refine j_ic_ge hc cn66 cn67 (tgt := 218) dX11_tells_74 (by decide) (fun q78 => ?_) (fun q78 => ?_)
    · replace h := h.1 q78
      refine j_lload hc 3 dX11_tells_218 rfl ?_
      refine j_l2i hc dX11_tells_220 ?_
      exact j_iret hc hr (cn_l2i _) h dX11_tells_221
    · replace h := h.2 q78
      refine j_aload_nR hc 0 dX11_tells_77 rfl rfl ?_
      refine j_aload_nR hc 0 dX11_tells_78 rfl rfl ?_
      refine j_getI hc fl_RX11_248 (Or.inl rfl) (fun hv => Or.inl (sv_k hv hm rfl)) dX11_tells_79 (fun cn68 => ?_)
      refine j_vI hc (k := 11) (by decide) (fun hv => Or.inl (sv_k hv hm rfl)) ml_RX11_251 mv_X11_codeAt (As := [vI (gI σ 0 22)]) (c_X11_codeAt (cx_E hc) hm cn68 h) rfl (by omega) (by decide) ⟨Nat.zero_le _, Nat.zero_le _⟩ (Nat.le_of_ble_eq_true rfl) rfl dX11_tells_82 (fun r69 s70 cr69 h => ?_)
      refine j_istore (lv' := [(6, vI r69), (0, vR E 0), (1, vI l1), (2, vI l2), (4, vL l4)]) hc dX11_tells_85 (by decide) rfl ?_
      refine j_aload_nR hc 1 dX11_tells_87 rfl rfl ?_
      refine j_iconst hc dX11_tells_88 ?_
      refine j_putZ hc fl_RX11_258 rfl rfl (fun hv => Or.inl (sv_k hv hm rfl)) (Or.inl rfl) dX11_tells_89 (fun s71 es71 => ?_)
      replace h := h s71 es71
      refine j_aload_nR hc 1 dX11_tells_92 rfl rfl ?_
      refine j_dup hc dX11_tells_93 rfl ?_
      refine j_getI hc fl_RX11_248 (Or.inl rfl) (fun hv => Or.inl (sv_k hv hm rfl)) dX11_tells_94 (fun cn72 => ?_)
      refine j_iconst hc dX11_tells_97 ?_
      refine j_iadd hc dX11_tells_98 ?_
      refine j_w (fun x73 ex73 cx73 => ?_)
      replace h := h x73 ex73
      refine j_putI hc fl_RX11_248 rfl rfl (fun hv => Or.inl (sv_k hv hm rfl)) cx73 dX11_tells_99 (fun s74 es74 => ?_)
      replace h := h s74 es74
      refine j_iload hc 0 dX11_tells_102 rfl ?_
      refine j_iconst hc dX11_tells_104 ?_
      refine j_ic_ne hc cr69 (wlit 5 (by decide)) (tgt := 112) dX11_tells_105 (by decide) (fun q77 => ?_) (fun q77 => ?_)
      · replace h := h.1 q77
        refine j_aload_nR hc 1 dX11_tells_112 rfl rfl ?_
        refine j_iconst hc dX11_tells_113 ?_
        refine j_vL hc (k := 11) (by decide) (fun hv => Or.inl (sv_k hv hm rfl)) ml_RX11_275 mv_X11_sumOf (As := [vI 1]) (c_X11_sumOf (cx_E hc) hm 60 (wlit 1 (by decide)) h) rfl (by omega) (by decide) ⟨Nat.zero_le _, Nat.zero_le _⟩ (Nat.le_of_ble_eq_true rfl) rfl dX11_tells_114 (fun r75 s76 cr75 h => ?_)
        refine j_sub (lv' := [(0, vR E 0), (1, vI l1), (2, vI l2), (4, vL l4), (6, vI r69)]) [1, 2, 3, 4, 0] rfl ?_
        exact jb_X11_tells_117 hc hm hr hh hk66 cl1 cl2 cl4 cr69 cr75 h
      · replace h := h.2 q77
        refine j_lconst (x := 1) hc dX11_tells_108 rfl ?_
        refine j_goto (tgt := 117) hc dX11_tells_109 (by decide) ?_
        refine j_sub (lv' := [(0, vR E 0), (1, vI l1), (2, vI l2), (4, vL l4), (6, vI r69)]) [1, 2, 3, 4, 0] rfl ?_
        exact jb_X11_tells_117 hc hm hr hh hk66 cl1 cl2 cl4 cr69 (llit 1 (by decide)) h
set_option maxRecDepth 20000 in
theorem c_X11_tells {l : Launch} {E : ev_E} (hE : Eok E) (hm : eM E = 2) {a1 : Int} {a2 : Int} {a3 : Int} (ca1 : wr a1 = a1) (ca2 : wr a2 = a2) (ca3 : wr a3 = a3) {σ : st_S} {Q : Int → st_S → Prop} (h : wp_X11_tells a1 a2 a3 σ Q) : cM l yX11_tells cX11_tells 11 (some .int) E 125 0 0 [vR E 0, vI a1, vI a2, vI a3] σ (qI E (gN σ + 0) Q) := by
  refine cM_of (lv := [(0, vR E 0), (1, vI a1), (2, vI a2), (3, vI a3)]) (by decide) hE (Nat.le_of_ble_eq_true rfl) (rfl) ?_
  intro X hX hc _ _ hr _ _
  subst hX
  have hh : 125 ≤ 125 := Nat.le_refl _
  have hh1 : 1 ≤ 125 := by omega
  replace h : (¬ gI σ 2 258 = (-1) → ∀ s80 : st_S, s80 = sI σ 0 8 10 → ∀ x82 : Int, x82 = wr (400 * gI s80 2 258) → ∀ s83 : st_S, s83 = sI s80 0 22 x82 → ix (wr (259 + gI s83 2 258)) 5866 ∧ ∀ x88 : Int, x88 = wr (gI s83 0 22 + gI s83 2 (Int.toNat (wr (259 + gI s83 2 258)))) → ∀ s89 : st_S, s89 = sI s83 0 23 x88 → ∃ m66 : Nat, L_X11_tells_66 Q m66 a1 a2 a3 s89) ∧ (gI σ 2 258 = (-1) → Q a3 σ) := h
  refine j_aload_nR hc 0 dX11_tells_0 rfl rfl ?_
  refine j_getR (c' := 2) hc fl_RX11_24 rfl rfl (fun hv => (sv_k hv hm rfl)) dX11_tells_1 ?_
  refine j_sipush hc dX11_tells_4 (by decide) ?_
  refine j_iald (jn := 258) hc (fun hv => sv_kl hv hm rfl) (wlit 258 (by decide)) ⟨by decide, by decide⟩ rfl dX11_tells_7 (fun cn79 => ?_)
  refine j_iconst hc dX11_tells_8 ?_
  refine j_ic_ne hc cn79 (wlit (-1) (by decide)) (tgt := 14) dX11_tells_9 (by decide) (fun q90 => ?_) (fun q90 => ?_)
  · replace h := h.1 q90
    refine j_aload_nR hc 0 dX11_tells_14 rfl rfl ?_
    refine j_bipush hc dX11_tells_15 (by decide) ?_
    refine j_putI hc fl_RX11_220 rfl rfl (fun hv => Or.inl (sv_k hv hm rfl)) (wlit 10 (by decide)) dX11_tells_17 (fun s80 es80 => ?_)
    replace h := h s80 es80
    refine j_iload_n hc 3 dX11_tells_20 rfl rfl ?_
    refine j_i2l hc ca3 dX11_tells_21 ?_
    refine j_lstore (lv' := [(4, vL a3), (0, vR E 0), (1, vI a1), (2, vI a2), (3, vI a3)]) hc dX11_tells_22 (by decide) rfl ?_
    refine j_aload_nR hc 1 dX11_tells_24 rfl rfl ?_
    refine j_sipush hc dX11_tells_25 (by decide) ?_
    refine j_aload_nR hc 1 dX11_tells_28 rfl rfl ?_
    refine j_getR (c' := 2) hc fl_RX11_24 rfl rfl (fun hv => (sv_k hv hm rfl)) dX11_tells_29 ?_
    refine j_sipush hc dX11_tells_32 (by decide) ?_
    refine j_iald (jn := 258) hc (fun hv => sv_kl hv hm rfl) (wlit 258 (by decide)) ⟨by decide, by decide⟩ rfl dX11_tells_35 (fun cn81 => ?_)
    refine j_imul hc dX11_tells_36 ?_
    refine j_w (fun x82 ex82 cx82 => ?_)
    replace h := h x82 ex82
    refine j_putI hc fl_RX11_248 rfl rfl (fun hv => Or.inl (sv_k hv hm rfl)) cx82 dX11_tells_37 (fun s83 es83 => ?_)
    replace h := h s83 es83
    refine j_aload_nR hc 1 dX11_tells_40 rfl rfl ?_
    refine j_aload_nR hc 1 dX11_tells_41 rfl rfl ?_
    refine j_getI hc fl_RX11_248 (Or.inl rfl) (fun hv => Or.inl (sv_k hv hm rfl)) dX11_tells_42 (fun cn84 => ?_)
    refine j_aload_nR hc 1 dX11_tells_45 rfl rfl ?_
    refine j_getR (c' := 2) hc fl_RX11_24 rfl rfl (fun hv => (sv_k hv hm rfl)) dX11_tells_46 ?_
    refine j_sipush hc dX11_tells_49 (by decide) ?_
    refine j_aload_nR hc 1 dX11_tells_52 rfl rfl ?_
    refine j_getR (c' := 2) hc fl_RX11_24 rfl rfl (fun hv => (sv_k hv hm rfl)) dX11_tells_53 ?_
    refine j_sipush hc dX11_tells_56 (by decide) ?_
    refine j_iald (jn := 258) hc (fun hv => sv_kl hv hm rfl) (wlit 258 (by decide)) ⟨by decide, by decide⟩ rfl dX11_tells_59 (fun cn85 => ?_)
    refine j_iadd hc dX11_tells_60 ?_
    obtain ⟨b86, h⟩ := h
    refine j_iald (jn := (Int.toNat (wr (259 + gI s83 2 258)))) hc (fun hv => sv_kl hv hm rfl) rfl b86 rfl dX11_tells_61 (fun cn87 => ?_)
    refine j_iadd hc dX11_tells_62 ?_
    refine j_w (fun x88 ex88 cx88 => ?_)
    replace h := h x88 ex88
    refine j_putI hc fl_RX11_245 rfl rfl (fun hv => Or.inl (sv_k hv hm rfl)) cx88 dX11_tells_63 (fun s89 es89 => ?_)
    replace h := h s89 es89
    obtain ⟨n66, h⟩ := h
    refine j_sub (lv' := [(0, vR E 0), (1, vI a1), (2, vI a2), (4, vL a3)]) [1, 2, 3, 0] rfl ?_
    exact jl_X11_tells_66 hc hm hr hh n66 ca1 ca2 (cn_wl ca3) h
  · replace h := h.2 q90
    refine j_iload_n hc 3 dX11_tells_12 rfl rfl ?_
    exact j_iret hc hr ca3 h dX11_tells_13
-- LitStrangersModel.sets(IIIII)V
theorem dX11_sets_0 : decode cX11_sets 0 = .ok (.aload_n 0, 1) := by decide +kernel
theorem dX11_sets_1 : decode cX11_sets 1 = .ok (.getfield 59, 3) := by decide +kernel
theorem dX11_sets_4 : decode cX11_sets 4 = .ok (.iconst 0, 1) := by decide +kernel
theorem dX11_sets_5 : decode cX11_sets 5 = .ok (.iload_n 1, 1) := by decide +kernel
theorem dX11_sets_6 : decode cX11_sets 6 = .ok (.iastore, 1) := by decide +kernel
theorem dX11_sets_7 : decode cX11_sets 7 = .ok (.aload_n 0, 1) := by decide +kernel
theorem dX11_sets_8 : decode cX11_sets 8 = .ok (.getfield 59, 3) := by decide +kernel
theorem dX11_sets_11 : decode cX11_sets 11 = .ok (.iconst 1, 1) := by decide +kernel
theorem dX11_sets_12 : decode cX11_sets 12 = .ok (.aload_n 0, 1) := by decide +kernel
theorem dX11_sets_13 : decode cX11_sets 13 = .ok (.iload_n 1, 1) := by decide +kernel
theorem dX11_sets_14 : decode cX11_sets 14 = .ok (.invokevirtual 132, 3) := by decide +kernel
theorem dX11_sets_17 : decode cX11_sets 17 = .ok (.iastore, 1) := by decide +kernel
theorem dX11_sets_18 : decode cX11_sets 18 = .ok (.aload_n 0, 1) := by decide +kernel
theorem dX11_sets_19 : decode cX11_sets 19 = .ok (.getfield 59, 3) := by decide +kernel
theorem dX11_sets_22 : decode cX11_sets 22 = .ok (.iconst 2, 1) := by decide +kernel
theorem dX11_sets_23 : decode cX11_sets 23 = .ok (.aload_n 0, 1) := by decide +kernel
theorem dX11_sets_24 : decode cX11_sets 24 = .ok (.iload_n 1, 1) := by decide +kernel
theorem dX11_sets_25 : decode cX11_sets 25 = .ok (.invokevirtual 135, 3) := by decide +kernel
theorem dX11_sets_28 : decode cX11_sets 28 = .ok (.iastore, 1) := by decide +kernel
theorem dX11_sets_29 : decode cX11_sets 29 = .ok (.aload_n 0, 1) := by decide +kernel
theorem dX11_sets_30 : decode cX11_sets 30 = .ok (.getfield 59, 3) := by decide +kernel
theorem dX11_sets_33 : decode cX11_sets 33 = .ok (.iconst 3, 1) := by decide +kernel
theorem dX11_sets_34 : decode cX11_sets 34 = .ok (.iload_n 2, 1) := by decide +kernel
theorem dX11_sets_35 : decode cX11_sets 35 = .ok (.iastore, 1) := by decide +kernel
theorem dX11_sets_36 : decode cX11_sets 36 = .ok (.aload_n 0, 1) := by decide +kernel
theorem dX11_sets_37 : decode cX11_sets 37 = .ok (.getfield 59, 3) := by decide +kernel
theorem dX11_sets_40 : decode cX11_sets 40 = .ok (.iconst 4, 1) := by decide +kernel
theorem dX11_sets_41 : decode cX11_sets 41 = .ok (.iload_n 3, 1) := by decide +kernel
theorem dX11_sets_42 : decode cX11_sets 42 = .ok (.iastore, 1) := by decide +kernel
theorem dX11_sets_43 : decode cX11_sets 43 = .ok (.aload_n 0, 1) := by decide +kernel
theorem dX11_sets_44 : decode cX11_sets 44 = .ok (.getfield 59, 3) := by decide +kernel
theorem dX11_sets_47 : decode cX11_sets 47 = .ok (.iconst 5, 1) := by decide +kernel
theorem dX11_sets_48 : decode cX11_sets 48 = .ok (.iload_n 3, 1) := by decide +kernel
theorem dX11_sets_49 : decode cX11_sets 49 = .ok (.iconst (-1), 1) := by decide +kernel
theorem dX11_sets_50 : decode cX11_sets 50 = .ok (.if_icmp .ne 7, 3) := by decide +kernel
theorem dX11_sets_53 : decode cX11_sets 53 = .ok (.iconst (-1), 1) := by decide +kernel
theorem dX11_sets_54 : decode cX11_sets 54 = .ok (.goto 8, 3) := by decide +kernel
theorem dX11_sets_57 : decode cX11_sets 57 = .ok (.aload_n 0, 1) := by decide +kernel
theorem dX11_sets_58 : decode cX11_sets 58 = .ok (.iload_n 3, 1) := by decide +kernel
theorem dX11_sets_59 : decode cX11_sets 59 = .ok (.invokevirtual 135, 3) := by decide +kernel
theorem dX11_sets_62 : decode cX11_sets 62 = .ok (.iastore, 1) := by decide +kernel
theorem dX11_sets_63 : decode cX11_sets 63 = .ok (.aload_n 0, 1) := by decide +kernel
theorem dX11_sets_64 : decode cX11_sets 64 = .ok (.getfield 59, 3) := by decide +kernel
theorem dX11_sets_67 : decode cX11_sets 67 = .ok (.bipush 6, 2) := by decide +kernel
theorem dX11_sets_69 : decode cX11_sets 69 = .ok (.iload_n 3, 1) := by decide +kernel
theorem dX11_sets_70 : decode cX11_sets 70 = .ok (.iconst (-1), 1) := by decide +kernel
theorem dX11_sets_71 : decode cX11_sets 71 = .ok (.if_icmp .ne 7, 3) := by decide +kernel
theorem dX11_sets_74 : decode cX11_sets 74 = .ok (.iconst (-1), 1) := by decide +kernel
theorem dX11_sets_75 : decode cX11_sets 75 = .ok (.goto 8, 3) := by decide +kernel
theorem dX11_sets_78 : decode cX11_sets 78 = .ok (.aload_n 0, 1) := by decide +kernel
theorem dX11_sets_79 : decode cX11_sets 79 = .ok (.iload_n 3, 1) := by decide +kernel
theorem dX11_sets_80 : decode cX11_sets 80 = .ok (.invokevirtual 132, 3) := by decide +kernel
theorem dX11_sets_83 : decode cX11_sets 83 = .ok (.iastore, 1) := by decide +kernel
theorem dX11_sets_84 : decode cX11_sets 84 = .ok (.aload_n 0, 1) := by decide +kernel
theorem dX11_sets_85 : decode cX11_sets 85 = .ok (.getfield 59, 3) := by decide +kernel
theorem dX11_sets_88 : decode cX11_sets 88 = .ok (.bipush 7, 2) := by decide +kernel
theorem dX11_sets_90 : decode cX11_sets 90 = .ok (.iload 5, 2) := by decide +kernel
theorem dX11_sets_92 : decode cX11_sets 92 = .ok (.iastore, 1) := by decide +kernel
theorem dX11_sets_93 : decode cX11_sets 93 = .ok (.aload_n 0, 1) := by decide +kernel
theorem dX11_sets_94 : decode cX11_sets 94 = .ok (.getfield 59, 3) := by decide +kernel
theorem dX11_sets_97 : decode cX11_sets 97 = .ok (.bipush 8, 2) := by decide +kernel
theorem dX11_sets_99 : decode cX11_sets 99 = .ok (.aload_n 0, 1) := by decide +kernel
theorem dX11_sets_100 : decode cX11_sets 100 = .ok (.getfield 24, 3) := by decide +kernel
theorem dX11_sets_103 : decode cX11_sets 103 = .ok (.sipush 255, 3) := by decide +kernel
theorem dX11_sets_106 : decode cX11_sets 106 = .ok (.iaload, 1) := by decide +kernel
theorem dX11_sets_107 : decode cX11_sets 107 = .ok (.iastore, 1) := by decide +kernel
theorem dX11_sets_108 : decode cX11_sets 108 = .ok (.aload_n 0, 1) := by decide +kernel
theorem dX11_sets_109 : decode cX11_sets 109 = .ok (.getfield 59, 3) := by decide +kernel
theorem dX11_sets_112 : decode cX11_sets 112 = .ok (.bipush 9, 2) := by decide +kernel
theorem dX11_sets_114 : decode cX11_sets 114 = .ok (.iload 4, 2) := by decide +kernel
theorem dX11_sets_116 : decode cX11_sets 116 = .ok (.iastore, 1) := by decide +kernel
theorem dX11_sets_117 : decode cX11_sets 117 = .ok (.return_, 1) := by decide +kernel
def B_X11_sets_83 (Q : st_S → Prop)   (l4 : Int) (l5 : Int) (v0 : Int) (v1 : Int) (σ : st_S) : Prop := ix (wr v1) 10 ∧ ∀ s42 : st_S, s42 = sI σ 12 (Int.toNat (wr v1)) v0 → ∀ s43 : st_S, s43 = sI s42 12 7 l5 → ∀ s45 : st_S, s45 = sI s43 12 8 (gI s43 2 255) → ∀ s46 : st_S, s46 = sI s45 12 9 l4 → Q s46
def B_X11_sets_62 (Q : st_S → Prop)   (l3 : Int) (l4 : Int) (l5 : Int) (v0 : Int) (v1 : Int) (σ : st_S) : Prop := ix (wr v1) 10 ∧ ∀ s48 : st_S, s48 = sI σ 12 (Int.toNat (wr v1)) v0 → (¬ l3 = (-1) → wp_X11_roadOf l3 s48 (fun r49 s50 => B_X11_sets_83 Q l4 l5 r49 6 s50)) ∧ (l3 = (-1) → B_X11_sets_83 Q l4 l5 (-1) 6 s48)
def wp_X11_sets (a1 : Int) (a2 : Int) (a3 : Int) (a4 : Int) (a5 : Int) (σ : st_S) (Q : st_S → Prop) : Prop := ∀ s52 : st_S, s52 = sI σ 12 0 a1 → wp_X11_roadOf a1 s52 (fun r53 s54 => ∀ s55 : st_S, s55 = sI s54 12 1 r53 → wp_X11_landOf a1 s55 (fun r56 s57 => ∀ s58 : st_S, s58 = sI s57 12 2 r56 → ∀ s59 : st_S, s59 = sI s58 12 3 a2 → ∀ s60 : st_S, s60 = sI s59 12 4 a3 → (¬ a3 = (-1) → wp_X11_landOf a3 s60 (fun r61 s62 => B_X11_sets_62 Q a3 a4 a5 r61 5 s62)) ∧ (a3 = (-1) → B_X11_sets_62 Q a3 a4 a5 (-1) 5 s60)))
set_option maxRecDepth 20000 in
theorem jb_X11_sets_83 {X : jj_X} {E : ev_E} {n0 hN : Nat} (hc : Cx X E cX11_sets 6 n0 hN RX11) (hm : eM E = 2) (hr : (xT X).sig.returnType = none) (hh : 2 ≤ hN) {Q : st_S → Prop} {l4 : Int} {l5 : Int} {v0 : Int} {v1 : Int} (cl4 : wr l4 = l4) (cl5 : wr l5 = l5) (cv0 : wr v0 = v0) {σ : st_S} (h : B_X11_sets_83 Q l4 l5 v0 v1 σ) : J X E 6 n0 0 0 (MQ (xB X) (qV E (n0 + 0) Q) (xA X) (xS X) 0 0 (eF E)) σ 83 [(0, vR E 0), (4, vI l4), (5, vI l5)] [vI v0, vI v1, vR E 12] := by
  have hh1 : 1 ≤ hN := by omega
  replace h : ix (wr v1) 10 ∧ ∀ s42 : st_S, s42 = sI σ 12 (Int.toNat (wr v1)) v0 → ∀ s43 : st_S, s43 = sI s42 12 7 l5 → ∀ s45 : st_S, s45 = sI s43 12 8 (gI s43 2 255) → ∀ s46 : st_S, s46 = sI s45 12 9 l4 → Q s46 := h
  obtain ⟨b41, h⟩ := h
  refine j_iast (jn := (Int.toNat (wr v1))) hc (fun hv => sv_kl hv hm rfl) rfl b41 rfl cv0 dX11_sets_83 (fun s42 es42 => ?_)
  replace h := h s42 es42
  refine j_aload_nR hc 0 dX11_sets_84 rfl rfl ?_
  refine j_getR (c' := 12) hc fl_RX11_59 rfl rfl (fun hv => (sv_k hv hm rfl)) dX11_sets_85 ?_
  refine j_bipush hc dX11_sets_88 (by decide) ?_
  refine j_iload hc 2 dX11_sets_90 rfl ?_
  refine j_iast (jn := 7) hc (fun hv => sv_kl hv hm rfl) (wlit 7 (by decide)) ⟨by decide, by decide⟩ rfl cl5 dX11_sets_92 (fun s43 es43 => ?_)
  replace h := h s43 es43
  refine j_aload_nR hc 0 dX11_sets_93 rfl rfl ?_
  refine j_getR (c' := 12) hc fl_RX11_59 rfl rfl (fun hv => (sv_k hv hm rfl)) dX11_sets_94 ?_
  refine j_bipush hc dX11_sets_97 (by decide) ?_
  refine j_aload_nR hc 0 dX11_sets_99 rfl rfl ?_
  refine j_getR (c' := 2) hc fl_RX11_24 rfl rfl (fun hv => (sv_k hv hm rfl)) dX11_sets_100 ?_
  refine j_sipush hc dX11_sets_103 (by decide) ?_
  refine j_iald (jn := 255) hc (fun hv => sv_kl hv hm rfl) (wlit 255 (by decide)) ⟨by decide, by decide⟩ rfl dX11_sets_106 (fun cn44 => ?_)
  refine j_iast (jn := 8) hc (fun hv => sv_kl hv hm rfl) (wlit 8 (by decide)) ⟨by decide, by decide⟩ rfl cn44 dX11_sets_107 (fun s45 es45 => ?_)
  replace h := h s45 es45
  refine j_aload_nR hc 0 dX11_sets_108 rfl rfl ?_
  refine j_getR (c' := 12) hc fl_RX11_59 rfl rfl (fun hv => (sv_k hv hm rfl)) dX11_sets_109 ?_
  refine j_bipush hc dX11_sets_112 (by decide) ?_
  refine j_iload hc 1 dX11_sets_114 rfl ?_
  refine j_iast (jn := 9) hc (fun hv => sv_kl hv hm rfl) (wlit 9 (by decide)) ⟨by decide, by decide⟩ rfl cl4 dX11_sets_116 (fun s46 es46 => ?_)
  replace h := h s46 es46
  exact j_vret hc hr h dX11_sets_117
set_option maxRecDepth 20000 in
theorem jb_X11_sets_62 {X : jj_X} {E : ev_E} {n0 hN : Nat} (hc : Cx X E cX11_sets 6 n0 hN RX11) (hm : eM E = 2) (hr : (xT X).sig.returnType = none) (hh : 2 ≤ hN) {Q : st_S → Prop} {l3 : Int} {l4 : Int} {l5 : Int} {v0 : Int} {v1 : Int} (cl3 : wr l3 = l3) (cl4 : wr l4 = l4) (cl5 : wr l5 = l5) (cv0 : wr v0 = v0) {σ : st_S} (h : B_X11_sets_62 Q l3 l4 l5 v0 v1 σ) : J X E 6 n0 0 0 (MQ (xB X) (qV E (n0 + 0) Q) (xA X) (xS X) 0 0 (eF E)) σ 62 [(0, vR E 0), (3, vI l3), (4, vI l4), (5, vI l5)] [vI v0, vI v1, vR E 12] := by
  have hh1 : 1 ≤ hN := by omega
  replace h : ix (wr v1) 10 ∧ ∀ s48 : st_S, s48 = sI σ 12 (Int.toNat (wr v1)) v0 → (¬ l3 = (-1) → wp_X11_roadOf l3 s48 (fun r49 s50 => B_X11_sets_83 Q l4 l5 r49 6 s50)) ∧ (l3 = (-1) → B_X11_sets_83 Q l4 l5 (-1) 6 s48) := h
  obtain ⟨b47, h⟩ := h
  refine j_iast (jn := (Int.toNat (wr v1))) hc (fun hv => sv_kl hv hm rfl) rfl b47 rfl cv0 dX11_sets_62 (fun s48 es48 => ?_)
  replace h := h s48 es48
  refine j_aload_nR hc 0 dX11_sets_63 rfl rfl ?_
  refine j_getR (c' := 12) hc fl_RX11_59 rfl rfl (fun hv => (sv_k hv hm rfl)) dX11_sets_64 ?_
  refine j_bipush hc dX11_sets_67 (by decide) ?_
  refine j_iload_n hc 1 dX11_sets_69 rfl rfl ?_
  refine j_iconst hc dX11_sets_70 ?_
  refine j_ic_ne hc cl3 (wlit (-1) (by decide)) (tgt := 78) dX11_sets_71 (by decide) (fun q51 => ?_) (fun q51 => ?_)
  · replace h := h.1 q51
    refine j_aload_nR hc 0 dX11_sets_78 rfl rfl ?_
    refine j_iload_n hc 1 dX11_sets_79 rfl rfl ?_
    refine j_vI hc (k := 11) (by decide) (fun hv => Or.inl (sv_k hv hm rfl)) ml_RX11_132 mv_X11_roadOf (As := [vI l3]) (c_X11_roadOf (cx_E hc) hm cl3 h) rfl (by omega) (by decide) ⟨Nat.zero_le _, Nat.zero_le _⟩ (Nat.le_of_ble_eq_true rfl) rfl dX11_sets_80 (fun r49 s50 cr49 h => ?_)
    refine j_sub (lv' := [(0, vR E 0), (4, vI l4), (5, vI l5)]) [0, 2, 3] rfl ?_
    exact jb_X11_sets_83 hc hm hr hh cl4 cl5 cr49 h
  · replace h := h.2 q51
    refine j_iconst hc dX11_sets_74 ?_
    refine j_goto (tgt := 83) hc dX11_sets_75 (by decide) ?_
    refine j_sub (lv' := [(0, vR E 0), (4, vI l4), (5, vI l5)]) [0, 2, 3] rfl ?_
    exact jb_X11_sets_83 hc hm hr hh cl4 cl5 (wlit (-1) (by decide)) h
set_option maxRecDepth 20000 in
theorem c_X11_sets {l : Launch} {E : ev_E} (hE : Eok E) (hm : eM E = 2) {a1 : Int} {a2 : Int} {a3 : Int} {a4 : Int} {a5 : Int} (ca1 : wr a1 = a1) (ca2 : wr a2 = a2) (ca3 : wr a3 = a3) (ca4 : wr a4 = a4) (ca5 : wr a5 = a5) {σ : st_S} {Q : st_S → Prop} (h : wp_X11_sets a1 a2 a3 a4 a5 σ Q) : cM l yX11_sets cX11_sets 6 none E 2 0 0 [vR E 0, vI a1, vI a2, vI a3, vI a4, vI a5] σ (qV E (gN σ + 0) Q) := by
  refine cM_of (lv := [(0, vR E 0), (1, vI a1), (2, vI a2), (3, vI a3), (4, vI a4), (5, vI a5)]) (by decide) hE (Nat.le_of_ble_eq_true rfl) (rfl) ?_
  intro X hX hc _ _ hr _ _
  subst hX
  have hh : 2 ≤ 2 := Nat.le_refl _
  have hh1 : 1 ≤ 2 := by omega
  replace h : ∀ s52 : st_S, s52 = sI σ 12 0 a1 → wp_X11_roadOf a1 s52 (fun r53 s54 => ∀ s55 : st_S, s55 = sI s54 12 1 r53 → wp_X11_landOf a1 s55 (fun r56 s57 => ∀ s58 : st_S, s58 = sI s57 12 2 r56 → ∀ s59 : st_S, s59 = sI s58 12 3 a2 → ∀ s60 : st_S, s60 = sI s59 12 4 a3 → (¬ a3 = (-1) → wp_X11_landOf a3 s60 (fun r61 s62 => B_X11_sets_62 Q a3 a4 a5 r61 5 s62)) ∧ (a3 = (-1) → B_X11_sets_62 Q a3 a4 a5 (-1) 5 s60))) := h
  refine j_aload_nR hc 0 dX11_sets_0 rfl rfl ?_
  refine j_getR (c' := 12) hc fl_RX11_59 rfl rfl (fun hv => (sv_k hv hm rfl)) dX11_sets_1 ?_
  refine j_iconst hc dX11_sets_4 ?_
  refine j_iload_n hc 1 dX11_sets_5 rfl rfl ?_
  refine j_iast (jn := 0) hc (fun hv => sv_kl hv hm rfl) (wlit 0 (by decide)) ⟨by decide, by decide⟩ rfl ca1 dX11_sets_6 (fun s52 es52 => ?_)
  replace h := h s52 es52
  refine j_aload_nR hc 0 dX11_sets_7 rfl rfl ?_
  refine j_getR (c' := 12) hc fl_RX11_59 rfl rfl (fun hv => (sv_k hv hm rfl)) dX11_sets_8 ?_
  refine j_iconst hc dX11_sets_11 ?_
  refine j_aload_nR hc 0 dX11_sets_12 rfl rfl ?_
  refine j_iload_n hc 1 dX11_sets_13 rfl rfl ?_
  refine j_vI hc (k := 11) (by decide) (fun hv => Or.inl (sv_k hv hm rfl)) ml_RX11_132 mv_X11_roadOf (As := [vI a1]) (c_X11_roadOf (cx_E hc) hm ca1 h) rfl (by omega) (by decide) ⟨Nat.zero_le _, Nat.zero_le _⟩ (Nat.le_of_ble_eq_true rfl) rfl dX11_sets_14 (fun r53 s54 cr53 h => ?_)
  refine j_iast (jn := 1) hc (fun hv => sv_kl hv hm rfl) (wlit 1 (by decide)) ⟨by decide, by decide⟩ rfl cr53 dX11_sets_17 (fun s55 es55 => ?_)
  replace h := h s55 es55
  refine j_aload_nR hc 0 dX11_sets_18 rfl rfl ?_
  refine j_getR (c' := 12) hc fl_RX11_59 rfl rfl (fun hv => (sv_k hv hm rfl)) dX11_sets_19 ?_
  refine j_iconst hc dX11_sets_22 ?_
  refine j_aload_nR hc 0 dX11_sets_23 rfl rfl ?_
  refine j_iload_n hc 1 dX11_sets_24 rfl rfl ?_
  refine j_vI hc (k := 11) (by decide) (fun hv => Or.inl (sv_k hv hm rfl)) ml_RX11_135 mv_X11_landOf (As := [vI a1]) (c_X11_landOf (cx_E hc) hm ca1 h) rfl (by omega) (by decide) ⟨Nat.zero_le _, Nat.zero_le _⟩ (Nat.le_of_ble_eq_true rfl) rfl dX11_sets_25 (fun r56 s57 cr56 h => ?_)
  refine j_iast (jn := 2) hc (fun hv => sv_kl hv hm rfl) (wlit 2 (by decide)) ⟨by decide, by decide⟩ rfl cr56 dX11_sets_28 (fun s58 es58 => ?_)
  replace h := h s58 es58
  refine j_aload_nR hc 0 dX11_sets_29 rfl rfl ?_
  refine j_getR (c' := 12) hc fl_RX11_59 rfl rfl (fun hv => (sv_k hv hm rfl)) dX11_sets_30 ?_
  refine j_iconst hc dX11_sets_33 ?_
  refine j_iload_n hc 2 dX11_sets_34 rfl rfl ?_
  refine j_iast (jn := 3) hc (fun hv => sv_kl hv hm rfl) (wlit 3 (by decide)) ⟨by decide, by decide⟩ rfl ca2 dX11_sets_35 (fun s59 es59 => ?_)
  replace h := h s59 es59
  refine j_aload_nR hc 0 dX11_sets_36 rfl rfl ?_
  refine j_getR (c' := 12) hc fl_RX11_59 rfl rfl (fun hv => (sv_k hv hm rfl)) dX11_sets_37 ?_
  refine j_iconst hc dX11_sets_40 ?_
  refine j_iload_n hc 3 dX11_sets_41 rfl rfl ?_
  refine j_iast (jn := 4) hc (fun hv => sv_kl hv hm rfl) (wlit 4 (by decide)) ⟨by decide, by decide⟩ rfl ca3 dX11_sets_42 (fun s60 es60 => ?_)
  replace h := h s60 es60
  refine j_aload_nR hc 0 dX11_sets_43 rfl rfl ?_
  refine j_getR (c' := 12) hc fl_RX11_59 rfl rfl (fun hv => (sv_k hv hm rfl)) dX11_sets_44 ?_
  refine j_iconst hc dX11_sets_47 ?_
  refine j_iload_n hc 3 dX11_sets_48 rfl rfl ?_
  refine j_iconst hc dX11_sets_49 ?_
  refine j_ic_ne hc ca3 (wlit (-1) (by decide)) (tgt := 57) dX11_sets_50 (by decide) (fun q63 => ?_) (fun q63 => ?_)
  · replace h := h.1 q63
    refine j_aload_nR hc 0 dX11_sets_57 rfl rfl ?_
    refine j_iload_n hc 3 dX11_sets_58 rfl rfl ?_
    refine j_vI hc (k := 11) (by decide) (fun hv => Or.inl (sv_k hv hm rfl)) ml_RX11_135 mv_X11_landOf (As := [vI a3]) (c_X11_landOf (cx_E hc) hm ca3 h) rfl (by omega) (by decide) ⟨Nat.zero_le _, Nat.zero_le _⟩ (Nat.le_of_ble_eq_true rfl) rfl dX11_sets_59 (fun r61 s62 cr61 h => ?_)
    refine j_sub (lv' := [(0, vR E 0), (3, vI a3), (4, vI a4), (5, vI a5)]) [0, 3, 4, 5] rfl ?_
    exact jb_X11_sets_62 hc hm hr hh ca3 ca4 ca5 cr61 h
  · replace h := h.2 q63
    refine j_iconst hc dX11_sets_53 ?_
    refine j_goto (tgt := 62) hc dX11_sets_54 (by decide) ?_
    refine j_sub (lv' := [(0, vR E 0), (3, vI a3), (4, vI a4), (5, vI a5)]) [0, 3, 4, 5] rfl ?_
    exact jb_X11_sets_62 hc hm hr hh ca3 ca4 ca5 (wlit (-1) (by decide)) h
-- LitStrangersModel.setsNow(I)V
theorem dX11_setsNow_0 : decode cX11_setsNow 0 = .ok (.aload_n 0, 1) := by decide +kernel
theorem dX11_setsNow_1 : decode cX11_setsNow 1 = .ok (.iload_n 1, 1) := by decide +kernel
theorem dX11_setsNow_2 : decode cX11_setsNow 2 = .ok (.aload_n 0, 1) := by decide +kernel
theorem dX11_setsNow_3 : decode cX11_setsNow 3 = .ok (.getfield 24, 3) := by decide +kernel
theorem dX11_setsNow_6 : decode cX11_setsNow 6 = .ok (.bipush 20, 2) := by decide +kernel
theorem dX11_setsNow_8 : decode cX11_setsNow 8 = .ok (.iload_n 1, 1) := by decide +kernel
theorem dX11_setsNow_9 : decode cX11_setsNow 9 = .ok (.iadd, 1) := by decide +kernel
theorem dX11_setsNow_10 : decode cX11_setsNow 10 = .ok (.iaload, 1) := by decide +kernel
theorem dX11_setsNow_11 : decode cX11_setsNow 11 = .ok (.iconst (-1), 1) := by decide +kernel
theorem dX11_setsNow_12 : decode cX11_setsNow 12 = .ok (.aload_n 0, 1) := by decide +kernel
theorem dX11_setsNow_13 : decode cX11_setsNow 13 = .ok (.getfield 24, 3) := by decide +kernel
theorem dX11_setsNow_16 : decode cX11_setsNow 16 = .ok (.bipush 33, 2) := by decide +kernel
theorem dX11_setsNow_18 : decode cX11_setsNow 18 = .ok (.iaload, 1) := by decide +kernel
theorem dX11_setsNow_19 : decode cX11_setsNow 19 = .ok (.aload_n 0, 1) := by decide +kernel
theorem dX11_setsNow_20 : decode cX11_setsNow 20 = .ok (.aload_n 0, 1) := by decide +kernel
theorem dX11_setsNow_21 : decode cX11_setsNow 21 = .ok (.getfield 24, 3) := by decide +kernel
theorem dX11_setsNow_24 : decode cX11_setsNow 24 = .ok (.bipush 33, 2) := by decide +kernel
theorem dX11_setsNow_26 : decode cX11_setsNow 26 = .ok (.iaload, 1) := by decide +kernel
theorem dX11_setsNow_27 : decode cX11_setsNow 27 = .ok (.invokevirtual 292, 3) := by decide +kernel
theorem dX11_setsNow_30 : decode cX11_setsNow 30 = .ok (.invokevirtual 295, 3) := by decide +kernel
theorem dX11_setsNow_33 : decode cX11_setsNow 33 = .ok (.return_, 1) := by decide +kernel
def wp_X11_setsNow (a1 : Int) (σ : st_S) (Q : st_S → Prop) : Prop := ix (wr (20 + a1)) 5866 ∧ wp_X11_fogOn (gI σ 2 33) σ (fun r15 s16 => wp_X11_sets a1 (gI σ 2 (Int.toNat (wr (20 + a1)))) (-1) (gI σ 2 33) r15 s16 (fun s18 => Q s18))
set_option maxRecDepth 20000 in
theorem c_X11_setsNow {l : Launch} {E : ev_E} (hE : Eok E) (hm : eM E = 2) {a1 : Int} (ca1 : wr a1 = a1) {σ : st_S} {Q : st_S → Prop} (h : wp_X11_setsNow a1 σ Q) : cM l yX11_setsNow cX11_setsNow 2 none E 3 0 0 [vR E 0, vI a1] σ (qV E (gN σ + 0) Q) := by
  refine cM_of (lv := [(0, vR E 0), (1, vI a1)]) (by decide) hE (Nat.le_of_ble_eq_true rfl) (rfl) ?_
  intro X hX hc _ _ hr _ _
  subst hX
  have hh : 3 ≤ 3 := Nat.le_refl _
  have hh1 : 1 ≤ 3 := by omega
  replace h : ix (wr (20 + a1)) 5866 ∧ wp_X11_fogOn (gI σ 2 33) σ (fun r15 s16 => wp_X11_sets a1 (gI σ 2 (Int.toNat (wr (20 + a1)))) (-1) (gI σ 2 33) r15 s16 (fun s18 => Q s18)) := h
  refine j_aload_nR hc 0 dX11_setsNow_0 rfl rfl ?_
  refine j_iload_n hc 1 dX11_setsNow_1 rfl rfl ?_
  refine j_aload_nR hc 0 dX11_setsNow_2 rfl rfl ?_
  refine j_getR (c' := 2) hc fl_RX11_24 rfl rfl (fun hv => (sv_k hv hm rfl)) dX11_setsNow_3 ?_
  refine j_bipush hc dX11_setsNow_6 (by decide) ?_
  refine j_iload_n hc 1 dX11_setsNow_8 rfl rfl ?_
  refine j_iadd hc dX11_setsNow_9 ?_
  obtain ⟨b11, h⟩ := h
  refine j_iald (jn := (Int.toNat (wr (20 + a1)))) hc (fun hv => sv_kl hv hm rfl) rfl b11 rfl dX11_setsNow_10 (fun cn12 => ?_)
  refine j_iconst hc dX11_setsNow_11 ?_
  refine j_aload_nR hc 0 dX11_setsNow_12 rfl rfl ?_
  refine j_getR (c' := 2) hc fl_RX11_24 rfl rfl (fun hv => (sv_k hv hm rfl)) dX11_setsNow_13 ?_
  refine j_bipush hc dX11_setsNow_16 (by decide) ?_
  refine j_iald (jn := 33) hc (fun hv => sv_kl hv hm rfl) (wlit 33 (by decide)) ⟨by decide, by decide⟩ rfl dX11_setsNow_18 (fun cn13 => ?_)
  refine j_aload_nR hc 0 dX11_setsNow_19 rfl rfl ?_
  refine j_aload_nR hc 0 dX11_setsNow_20 rfl rfl ?_
  refine j_getR (c' := 2) hc fl_RX11_24 rfl rfl (fun hv => (sv_k hv hm rfl)) dX11_setsNow_21 ?_
  refine j_bipush hc dX11_setsNow_24 (by decide) ?_
  refine j_iald (jn := 33) hc (fun hv => sv_kl hv hm rfl) (wlit 33 (by decide)) ⟨by decide, by decide⟩ rfl dX11_setsNow_26 (fun cn14 => ?_)
  refine j_vI hc (k := 11) (by decide) (fun hv => Or.inl (sv_k hv hm rfl)) ml_RX11_292 mv_X11_fogOn (As := [vI (gI σ 2 33)]) (c_X11_fogOn (cx_E hc) hm cn14 h) rfl (by omega) (by decide) ⟨Nat.zero_le _, Nat.zero_le _⟩ (Nat.le_of_ble_eq_true rfl) rfl dX11_setsNow_27 (fun r15 s16 cr15 h => ?_)
  refine j_vV hc (k := 11) (by decide) (fun hv => Or.inl (sv_k hv hm rfl)) ml_RX11_295 mv_X11_sets (As := [vI a1, vI (gI σ 2 (Int.toNat (wr (20 + a1)))), vI (-1), vI (gI σ 2 33), vI r15]) (c_X11_sets (cx_E hc) hm ca1 cn12 (wlit (-1) (by decide)) cn13 cr15 h) rfl (by omega) (by decide) ⟨Nat.zero_le _, Nat.zero_le _⟩ (Nat.le_of_ble_eq_true rfl) rfl dX11_setsNow_30 (fun s18 h => ?_)
  exact j_vret hc hr h dX11_setsNow_33
-- LitStrangersModel.takesNow(I)I
theorem dX11_takesNow_0 : decode cX11_takesNow 0 = .ok (.aload_n 0, 1) := by decide +kernel
theorem dX11_takesNow_1 : decode cX11_takesNow 1 = .ok (.iload_n 1, 1) := by decide +kernel
theorem dX11_takesNow_2 : decode cX11_takesNow 2 = .ok (.invokevirtual 299, 3) := by decide +kernel
theorem dX11_takesNow_5 : decode cX11_takesNow 5 = .ok (.aload_n 0, 1) := by decide +kernel
theorem dX11_takesNow_6 : decode cX11_takesNow 6 = .ok (.iconst 1, 1) := by decide +kernel
theorem dX11_takesNow_7 : decode cX11_takesNow 7 = .ok (.bipush 60, 2) := by decide +kernel
theorem dX11_takesNow_9 : decode cX11_takesNow 9 = .ok (.aload_n 0, 1) := by decide +kernel
theorem dX11_takesNow_10 : decode cX11_takesNow 10 = .ok (.iload_n 1, 1) := by decide +kernel
theorem dX11_takesNow_11 : decode cX11_takesNow 11 = .ok (.invokevirtual 132, 3) := by decide +kernel
theorem dX11_takesNow_14 : decode cX11_takesNow 14 = .ok (.invokevirtual 302, 3) := by decide +kernel
theorem dX11_takesNow_17 : decode cX11_takesNow 17 = .ok (.ireturn, 1) := by decide +kernel
def wp_X11_takesNow (a1 : Int) (σ : st_S) (Q : Int → st_S → Prop) : Prop := wp_X11_setsNow a1 σ (fun s8 => wp_X11_roadOf a1 s8 (fun r9 s10 => wp_X11_tells 1 60 r9 s10 (fun r11 s12 => Q r11 s12)))
set_option maxRecDepth 20000 in
theorem c_X11_takesNow {l : Launch} {E : ev_E} (hE : Eok E) (hm : eM E = 2) {a1 : Int} (ca1 : wr a1 = a1) {σ : st_S} {Q : Int → st_S → Prop} (h : wp_X11_takesNow a1 σ Q) : cM l yX11_takesNow cX11_takesNow 2 (some .int) E 126 0 0 [vR E 0, vI a1] σ (qI E (gN σ + 0) Q) := by
  refine cM_of (lv := [(0, vR E 0), (1, vI a1)]) (by decide) hE (Nat.le_of_ble_eq_true rfl) (rfl) ?_
  intro X hX hc _ _ hr _ _
  subst hX
  have hh : 126 ≤ 126 := Nat.le_refl _
  have hh1 : 1 ≤ 126 := by omega
  replace h : wp_X11_setsNow a1 σ (fun s8 => wp_X11_roadOf a1 s8 (fun r9 s10 => wp_X11_tells 1 60 r9 s10 (fun r11 s12 => Q r11 s12))) := h
  refine j_aload_nR hc 0 dX11_takesNow_0 rfl rfl ?_
  refine j_iload_n hc 1 dX11_takesNow_1 rfl rfl ?_
  refine j_vV hc (k := 11) (by decide) (fun hv => Or.inl (sv_k hv hm rfl)) ml_RX11_299 mv_X11_setsNow (As := [vI a1]) (c_X11_setsNow (cx_E hc) hm ca1 h) rfl (by omega) (by decide) ⟨Nat.zero_le _, Nat.zero_le _⟩ (Nat.le_of_ble_eq_true rfl) rfl dX11_takesNow_2 (fun s8 h => ?_)
  refine j_aload_nR hc 0 dX11_takesNow_5 rfl rfl ?_
  refine j_iconst hc dX11_takesNow_6 ?_
  refine j_bipush hc dX11_takesNow_7 (by decide) ?_
  refine j_aload_nR hc 0 dX11_takesNow_9 rfl rfl ?_
  refine j_iload_n hc 1 dX11_takesNow_10 rfl rfl ?_
  refine j_vI hc (k := 11) (by decide) (fun hv => Or.inl (sv_k hv hm rfl)) ml_RX11_132 mv_X11_roadOf (As := [vI a1]) (c_X11_roadOf (cx_E hc) hm ca1 h) rfl (by omega) (by decide) ⟨Nat.zero_le _, Nat.zero_le _⟩ (Nat.le_of_ble_eq_true rfl) rfl dX11_takesNow_11 (fun r9 s10 cr9 h => ?_)
  refine j_vI hc (k := 11) (by decide) (fun hv => Or.inl (sv_k hv hm rfl)) ml_RX11_302 mv_X11_tells (As := [vI 1, vI 60, vI r9]) (c_X11_tells (cx_E hc) hm (wlit 1 (by decide)) (wlit 60 (by decide)) cr9 h) rfl (by omega) (by decide) ⟨Nat.zero_le _, Nat.zero_le _⟩ (Nat.le_of_ble_eq_true rfl) rfl dX11_takesNow_14 (fun r11 s12 cr11 h => ?_)
  exact j_iret hc hr cr11 h dX11_takesNow_17
-- LitStrangersModel.costsNow(I)I
theorem dX11_costsNow_0 : decode cX11_costsNow 0 = .ok (.aload_n 0, 1) := by decide +kernel
theorem dX11_costsNow_1 : decode cX11_costsNow 1 = .ok (.iload_n 1, 1) := by decide +kernel
theorem dX11_costsNow_2 : decode cX11_costsNow 2 = .ok (.invokevirtual 299, 3) := by decide +kernel
theorem dX11_costsNow_5 : decode cX11_costsNow 5 = .ok (.aload_n 0, 1) := by decide +kernel
theorem dX11_costsNow_6 : decode cX11_costsNow 6 = .ok (.iconst 2, 1) := by decide +kernel
theorem dX11_costsNow_7 : decode cX11_costsNow 7 = .ok (.sipush 999, 3) := by decide +kernel
theorem dX11_costsNow_10 : decode cX11_costsNow 10 = .ok (.aload_n 0, 1) := by decide +kernel
theorem dX11_costsNow_11 : decode cX11_costsNow 11 = .ok (.iload_n 1, 1) := by decide +kernel
theorem dX11_costsNow_12 : decode cX11_costsNow 12 = .ok (.invokevirtual 132, 3) := by decide +kernel
theorem dX11_costsNow_15 : decode cX11_costsNow 15 = .ok (.invokevirtual 302, 3) := by decide +kernel
theorem dX11_costsNow_18 : decode cX11_costsNow 18 = .ok (.ireturn, 1) := by decide +kernel
def wp_X11_costsNow (a1 : Int) (σ : st_S) (Q : Int → st_S → Prop) : Prop := wp_X11_setsNow a1 σ (fun s8 => wp_X11_roadOf a1 s8 (fun r9 s10 => wp_X11_tells 2 999 r9 s10 (fun r11 s12 => Q r11 s12)))
set_option maxRecDepth 20000 in
theorem c_X11_costsNow {l : Launch} {E : ev_E} (hE : Eok E) (hm : eM E = 2) {a1 : Int} (ca1 : wr a1 = a1) {σ : st_S} {Q : Int → st_S → Prop} (h : wp_X11_costsNow a1 σ Q) : cM l yX11_costsNow cX11_costsNow 2 (some .int) E 126 0 0 [vR E 0, vI a1] σ (qI E (gN σ + 0) Q) := by
  refine cM_of (lv := [(0, vR E 0), (1, vI a1)]) (by decide) hE (Nat.le_of_ble_eq_true rfl) (rfl) ?_
  intro X hX hc _ _ hr _ _
  subst hX
  have hh : 126 ≤ 126 := Nat.le_refl _
  have hh1 : 1 ≤ 126 := by omega
  replace h : wp_X11_setsNow a1 σ (fun s8 => wp_X11_roadOf a1 s8 (fun r9 s10 => wp_X11_tells 2 999 r9 s10 (fun r11 s12 => Q r11 s12))) := h
  refine j_aload_nR hc 0 dX11_costsNow_0 rfl rfl ?_
  refine j_iload_n hc 1 dX11_costsNow_1 rfl rfl ?_
  refine j_vV hc (k := 11) (by decide) (fun hv => Or.inl (sv_k hv hm rfl)) ml_RX11_299 mv_X11_setsNow (As := [vI a1]) (c_X11_setsNow (cx_E hc) hm ca1 h) rfl (by omega) (by decide) ⟨Nat.zero_le _, Nat.zero_le _⟩ (Nat.le_of_ble_eq_true rfl) rfl dX11_costsNow_2 (fun s8 h => ?_)
  refine j_aload_nR hc 0 dX11_costsNow_5 rfl rfl ?_
  refine j_iconst hc dX11_costsNow_6 ?_
  refine j_sipush hc dX11_costsNow_7 (by decide) ?_
  refine j_aload_nR hc 0 dX11_costsNow_10 rfl rfl ?_
  refine j_iload_n hc 1 dX11_costsNow_11 rfl rfl ?_
  refine j_vI hc (k := 11) (by decide) (fun hv => Or.inl (sv_k hv hm rfl)) ml_RX11_132 mv_X11_roadOf (As := [vI a1]) (c_X11_roadOf (cx_E hc) hm ca1 h) rfl (by omega) (by decide) ⟨Nat.zero_le _, Nat.zero_le _⟩ (Nat.le_of_ble_eq_true rfl) rfl dX11_costsNow_12 (fun r9 s10 cr9 h => ?_)
  refine j_vI hc (k := 11) (by decide) (fun hv => Or.inl (sv_k hv hm rfl)) ml_RX11_302 mv_X11_tells (As := [vI 2, vI 999, vI r9]) (c_X11_tells (cx_E hc) hm (wlit 2 (by decide)) (wlit 999 (by decide)) cr9 h) rfl (by omega) (by decide) ⟨Nat.zero_le _, Nat.zero_le _⟩ (Nat.le_of_ble_eq_true rfl) rfl dX11_costsNow_15 (fun r11 s12 cr11 h => ?_)
  exact j_iret hc hr cr11 h dX11_costsNow_18
-- LitStrangersModel.lodgesNow(I)I
theorem dX11_lodgesNow_0 : decode cX11_lodgesNow 0 = .ok (.aload_n 0, 1) := by decide +kernel
theorem dX11_lodgesNow_1 : decode cX11_lodgesNow 1 = .ok (.iload_n 1, 1) := by decide +kernel
theorem dX11_lodgesNow_2 : decode cX11_lodgesNow 2 = .ok (.invokevirtual 299, 3) := by decide +kernel
theorem dX11_lodgesNow_5 : decode cX11_lodgesNow 5 = .ok (.aload_n 0, 1) := by decide +kernel
theorem dX11_lodgesNow_6 : decode cX11_lodgesNow 6 = .ok (.iconst 3, 1) := by decide +kernel
theorem dX11_lodgesNow_7 : decode cX11_lodgesNow 7 = .ok (.bipush 99, 2) := by decide +kernel
theorem dX11_lodgesNow_9 : decode cX11_lodgesNow 9 = .ok (.iconst 1, 1) := by decide +kernel
theorem dX11_lodgesNow_10 : decode cX11_lodgesNow 10 = .ok (.invokevirtual 302, 3) := by decide +kernel
theorem dX11_lodgesNow_13 : decode cX11_lodgesNow 13 = .ok (.ireturn, 1) := by decide +kernel
def wp_X11_lodgesNow (a1 : Int) (σ : st_S) (Q : Int → st_S → Prop) : Prop := wp_X11_setsNow a1 σ (fun s6 => wp_X11_tells 3 99 1 s6 (fun r7 s8 => Q r7 s8))
set_option maxRecDepth 20000 in
theorem c_X11_lodgesNow {l : Launch} {E : ev_E} (hE : Eok E) (hm : eM E = 2) {a1 : Int} (ca1 : wr a1 = a1) {σ : st_S} {Q : Int → st_S → Prop} (h : wp_X11_lodgesNow a1 σ Q) : cM l yX11_lodgesNow cX11_lodgesNow 2 (some .int) E 126 0 0 [vR E 0, vI a1] σ (qI E (gN σ + 0) Q) := by
  refine cM_of (lv := [(0, vR E 0), (1, vI a1)]) (by decide) hE (Nat.le_of_ble_eq_true rfl) (rfl) ?_
  intro X hX hc _ _ hr _ _
  subst hX
  have hh : 126 ≤ 126 := Nat.le_refl _
  have hh1 : 1 ≤ 126 := by omega
  replace h : wp_X11_setsNow a1 σ (fun s6 => wp_X11_tells 3 99 1 s6 (fun r7 s8 => Q r7 s8)) := h
  refine j_aload_nR hc 0 dX11_lodgesNow_0 rfl rfl ?_
  refine j_iload_n hc 1 dX11_lodgesNow_1 rfl rfl ?_
  refine j_vV hc (k := 11) (by decide) (fun hv => Or.inl (sv_k hv hm rfl)) ml_RX11_299 mv_X11_setsNow (As := [vI a1]) (c_X11_setsNow (cx_E hc) hm ca1 h) rfl (by omega) (by decide) ⟨Nat.zero_le _, Nat.zero_le _⟩ (Nat.le_of_ble_eq_true rfl) rfl dX11_lodgesNow_2 (fun s6 h => ?_)
  refine j_aload_nR hc 0 dX11_lodgesNow_5 rfl rfl ?_
  refine j_iconst hc dX11_lodgesNow_6 ?_
  refine j_bipush hc dX11_lodgesNow_7 (by decide) ?_
  refine j_iconst hc dX11_lodgesNow_9 ?_
  refine j_vI hc (k := 11) (by decide) (fun hv => Or.inl (sv_k hv hm rfl)) ml_RX11_302 mv_X11_tells (As := [vI 3, vI 99, vI 1]) (c_X11_tells (cx_E hc) hm (wlit 3 (by decide)) (wlit 99 (by decide)) (wlit 1 (by decide)) h) rfl (by omega) (by decide) ⟨Nat.zero_le _, Nat.zero_le _⟩ (Nat.le_of_ble_eq_true rfl) rfl dX11_lodgesNow_10 (fun r7 s8 cr7 h => ?_)
  exact j_iret hc hr cr7 h dX11_lodgesNow_13
-- LitStrangersModel.isBarred(IIII)Z
theorem dX11_isBarred_0 : decode cX11_isBarred 0 = .ok (.aload_n 0, 1) := by decide +kernel
theorem dX11_isBarred_1 : decode cX11_isBarred 1 = .ok (.iload_n 1, 1) := by decide +kernel
theorem dX11_isBarred_2 : decode cX11_isBarred 2 = .ok (.iload_n 2, 1) := by decide +kernel
theorem dX11_isBarred_3 : decode cX11_isBarred 3 = .ok (.iconst (-1), 1) := by decide +kernel
theorem dX11_isBarred_4 : decode cX11_isBarred 4 = .ok (.iload_n 3, 1) := by decide +kernel
theorem dX11_isBarred_5 : decode cX11_isBarred 5 = .ok (.iload 4, 2) := by decide +kernel
theorem dX11_isBarred_7 : decode cX11_isBarred 7 = .ok (.invokevirtual 295, 3) := by decide +kernel
theorem dX11_isBarred_10 : decode cX11_isBarred 10 = .ok (.aload_n 0, 1) := by decide +kernel
theorem dX11_isBarred_11 : decode cX11_isBarred 11 = .ok (.iconst 5, 1) := by decide +kernel
theorem dX11_isBarred_12 : decode cX11_isBarred 12 = .ok (.iconst 1, 1) := by decide +kernel
theorem dX11_isBarred_13 : decode cX11_isBarred 13 = .ok (.iconst 0, 1) := by decide +kernel
theorem dX11_isBarred_14 : decode cX11_isBarred 14 = .ok (.invokevirtual 302, 3) := by decide +kernel
theorem dX11_isBarred_17 : decode cX11_isBarred 17 = .ok (.iconst 1, 1) := by decide +kernel
theorem dX11_isBarred_18 : decode cX11_isBarred 18 = .ok (.if_icmp .ne 7, 3) := by decide +kernel
theorem dX11_isBarred_21 : decode cX11_isBarred 21 = .ok (.iconst 1, 1) := by decide +kernel
theorem dX11_isBarred_22 : decode cX11_isBarred 22 = .ok (.goto 4, 3) := by decide +kernel
theorem dX11_isBarred_25 : decode cX11_isBarred 25 = .ok (.iconst 0, 1) := by decide +kernel
theorem dX11_isBarred_26 : decode cX11_isBarred 26 = .ok (.ireturn, 1) := by decide +kernel
def B_X11_isBarred_26 (Q : Int → st_S → Prop)   (v0 : Int) (σ : st_S) : Prop := (v0 = 0 ∨ v0 = 1) ∧ Q v0 σ
def wp_X11_isBarred (a1 : Int) (a2 : Int) (a3 : Int) (a4 : Int) (σ : st_S) (Q : Int → st_S → Prop) : Prop := wp_X11_sets a1 a2 (-1) a3 a4 σ (fun s6 => wp_X11_tells 5 1 0 s6 (fun r7 s8 => (¬ r7 = 1 → B_X11_isBarred_26 Q 0 s8) ∧ (r7 = 1 → B_X11_isBarred_26 Q 1 s8)))
set_option maxRecDepth 20000 in
theorem jb_X11_isBarred_26 {X : jj_X} {E : ev_E} {n0 hN : Nat} (hc : Cx X E cX11_isBarred 5 n0 hN RX11) (hm : eM E = 2) (hr : (xT X).sig.returnType = (some .boolean)) (hh : 126 ≤ hN) {Q : Int → st_S → Prop} {v0 : Int} (cv0 : wr v0 = v0) {σ : st_S} (h : B_X11_isBarred_26 Q v0 σ) : J X E 5 n0 0 0 (MQ (xB X) (qI E (n0 + 0) Q) (xA X) (xS X) 0 0 (eF E)) σ 26 [] [vI v0] := by
  have hh1 : 1 ≤ hN := by omega
  replace h : (v0 = 0 ∨ v0 = 1) ∧ Q v0 σ := h
  exact j_zret hc hr (nar_bool h.1) (by rcases h.1 with e | e <;> (rw [e]; decide)) h.2 dX11_isBarred_26
set_option maxRecDepth 20000 in
theorem c_X11_isBarred {l : Launch} {E : ev_E} (hE : Eok E) (hm : eM E = 2) {a1 : Int} {a2 : Int} {a3 : Int} {a4 : Int} (ca1 : wr a1 = a1) (ca2 : wr a2 = a2) (ca3 : wr a3 = a3) (ca4 : wr a4 = a4) {σ : st_S} {Q : Int → st_S → Prop} (h : wp_X11_isBarred a1 a2 a3 a4 σ Q) : cM l yX11_isBarred cX11_isBarred 5 (some .boolean) E 126 0 0 [vR E 0, vI a1, vI a2, vI a3, vI a4] σ (qI E (gN σ + 0) Q) := by
  refine cM_of (lv := [(0, vR E 0), (1, vI a1), (2, vI a2), (3, vI a3), (4, vI a4)]) (by decide) hE (Nat.le_of_ble_eq_true rfl) (rfl) ?_
  intro X hX hc _ _ hr _ _
  subst hX
  have hh : 126 ≤ 126 := Nat.le_refl _
  have hh1 : 1 ≤ 126 := by omega
  replace h : wp_X11_sets a1 a2 (-1) a3 a4 σ (fun s6 => wp_X11_tells 5 1 0 s6 (fun r7 s8 => (¬ r7 = 1 → B_X11_isBarred_26 Q 0 s8) ∧ (r7 = 1 → B_X11_isBarred_26 Q 1 s8))) := h
  refine j_aload_nR hc 0 dX11_isBarred_0 rfl rfl ?_
  refine j_iload_n hc 1 dX11_isBarred_1 rfl rfl ?_
  refine j_iload_n hc 2 dX11_isBarred_2 rfl rfl ?_
  refine j_iconst hc dX11_isBarred_3 ?_
  refine j_iload_n hc 3 dX11_isBarred_4 rfl rfl ?_
  refine j_iload hc 4 dX11_isBarred_5 rfl ?_
  refine j_vV hc (k := 11) (by decide) (fun hv => Or.inl (sv_k hv hm rfl)) ml_RX11_295 mv_X11_sets (As := [vI a1, vI a2, vI (-1), vI a3, vI a4]) (c_X11_sets (cx_E hc) hm ca1 ca2 (wlit (-1) (by decide)) ca3 ca4 h) rfl (by omega) (by decide) ⟨Nat.zero_le _, Nat.zero_le _⟩ (Nat.le_of_ble_eq_true rfl) rfl dX11_isBarred_7 (fun s6 h => ?_)
  refine j_aload_nR hc 0 dX11_isBarred_10 rfl rfl ?_
  refine j_iconst hc dX11_isBarred_11 ?_
  refine j_iconst hc dX11_isBarred_12 ?_
  refine j_iconst hc dX11_isBarred_13 ?_
  refine j_vI hc (k := 11) (by decide) (fun hv => Or.inl (sv_k hv hm rfl)) ml_RX11_302 mv_X11_tells (As := [vI 5, vI 1, vI 0]) (c_X11_tells (cx_E hc) hm (wlit 5 (by decide)) (wlit 1 (by decide)) (wlit 0 (by decide)) h) rfl (by omega) (by decide) ⟨Nat.zero_le _, Nat.zero_le _⟩ (Nat.le_of_ble_eq_true rfl) rfl dX11_isBarred_14 (fun r7 s8 cr7 h => ?_)
  refine j_iconst hc dX11_isBarred_17 ?_
  refine j_ic_ne hc cr7 (wlit 1 (by decide)) (tgt := 25) dX11_isBarred_18 (by decide) (fun q9 => ?_) (fun q9 => ?_)
  · replace h := h.1 q9
    refine j_iconst hc dX11_isBarred_25 ?_
    refine j_sub (lv' := []) [] rfl ?_
    exact jb_X11_isBarred_26 hc hm hr hh (wlit 0 (by decide)) h
  · replace h := h.2 q9
    refine j_iconst hc dX11_isBarred_21 ?_
    refine j_goto (tgt := 26) hc dX11_isBarred_22 (by decide) ?_
    refine j_sub (lv' := []) [] rfl ?_
    exact jb_X11_isBarred_26 hc hm hr hh (wlit 1 (by decide)) h
-- LitStrangersModel.spoilsBy(II)I
theorem dX11_spoilsBy_0 : decode cX11_spoilsBy 0 = .ok (.aload_n 0, 1) := by decide +kernel
theorem dX11_spoilsBy_1 : decode cX11_spoilsBy 1 = .ok (.iload_n 1, 1) := by decide +kernel
theorem dX11_spoilsBy_2 : decode cX11_spoilsBy 2 = .ok (.iconst (-1), 1) := by decide +kernel
theorem dX11_spoilsBy_3 : decode cX11_spoilsBy 3 = .ok (.iload_n 2, 1) := by decide +kernel
theorem dX11_spoilsBy_4 : decode cX11_spoilsBy 4 = .ok (.iconst (-1), 1) := by decide +kernel
theorem dX11_spoilsBy_5 : decode cX11_spoilsBy 5 = .ok (.iconst (-1), 1) := by decide +kernel
theorem dX11_spoilsBy_6 : decode cX11_spoilsBy 6 = .ok (.invokevirtual 295, 3) := by decide +kernel
theorem dX11_spoilsBy_9 : decode cX11_spoilsBy 9 = .ok (.aload_n 0, 1) := by decide +kernel
theorem dX11_spoilsBy_10 : decode cX11_spoilsBy 10 = .ok (.iconst 4, 1) := by decide +kernel
theorem dX11_spoilsBy_11 : decode cX11_spoilsBy 11 = .ok (.iconst 2, 1) := by decide +kernel
theorem dX11_spoilsBy_12 : decode cX11_spoilsBy 12 = .ok (.iconst 1, 1) := by decide +kernel
theorem dX11_spoilsBy_13 : decode cX11_spoilsBy 13 = .ok (.invokevirtual 302, 3) := by decide +kernel
theorem dX11_spoilsBy_16 : decode cX11_spoilsBy 16 = .ok (.ireturn, 1) := by decide +kernel
def wp_X11_spoilsBy (a1 : Int) (a2 : Int) (σ : st_S) (Q : Int → st_S → Prop) : Prop := wp_X11_sets a1 (-1) a2 (-1) (-1) σ (fun s6 => wp_X11_tells 4 2 1 s6 (fun r7 s8 => Q r7 s8))
set_option maxRecDepth 20000 in
theorem c_X11_spoilsBy {l : Launch} {E : ev_E} (hE : Eok E) (hm : eM E = 2) {a1 : Int} {a2 : Int} (ca1 : wr a1 = a1) (ca2 : wr a2 = a2) {σ : st_S} {Q : Int → st_S → Prop} (h : wp_X11_spoilsBy a1 a2 σ Q) : cM l yX11_spoilsBy cX11_spoilsBy 3 (some .int) E 126 0 0 [vR E 0, vI a1, vI a2] σ (qI E (gN σ + 0) Q) := by
  refine cM_of (lv := [(0, vR E 0), (1, vI a1), (2, vI a2)]) (by decide) hE (Nat.le_of_ble_eq_true rfl) (rfl) ?_
  intro X hX hc _ _ hr _ _
  subst hX
  have hh : 126 ≤ 126 := Nat.le_refl _
  have hh1 : 1 ≤ 126 := by omega
  replace h : wp_X11_sets a1 (-1) a2 (-1) (-1) σ (fun s6 => wp_X11_tells 4 2 1 s6 (fun r7 s8 => Q r7 s8)) := h
  refine j_aload_nR hc 0 dX11_spoilsBy_0 rfl rfl ?_
  refine j_iload_n hc 1 dX11_spoilsBy_1 rfl rfl ?_
  refine j_iconst hc dX11_spoilsBy_2 ?_
  refine j_iload_n hc 2 dX11_spoilsBy_3 rfl rfl ?_
  refine j_iconst hc dX11_spoilsBy_4 ?_
  refine j_iconst hc dX11_spoilsBy_5 ?_
  refine j_vV hc (k := 11) (by decide) (fun hv => Or.inl (sv_k hv hm rfl)) ml_RX11_295 mv_X11_sets (As := [vI a1, vI (-1), vI a2, vI (-1), vI (-1)]) (c_X11_sets (cx_E hc) hm ca1 (wlit (-1) (by decide)) ca2 (wlit (-1) (by decide)) (wlit (-1) (by decide)) h) rfl (by omega) (by decide) ⟨Nat.zero_le _, Nat.zero_le _⟩ (Nat.le_of_ble_eq_true rfl) rfl dX11_spoilsBy_6 (fun s6 h => ?_)
  refine j_aload_nR hc 0 dX11_spoilsBy_9 rfl rfl ?_
  refine j_iconst hc dX11_spoilsBy_10 ?_
  refine j_iconst hc dX11_spoilsBy_11 ?_
  refine j_iconst hc dX11_spoilsBy_12 ?_
  refine j_vI hc (k := 11) (by decide) (fun hv => Or.inl (sv_k hv hm rfl)) ml_RX11_302 mv_X11_tells (As := [vI 4, vI 2, vI 1]) (c_X11_tells (cx_E hc) hm (wlit 4 (by decide)) (wlit 2 (by decide)) (wlit 1 (by decide)) h) rfl (by omega) (by decide) ⟨Nat.zero_le _, Nat.zero_le _⟩ (Nat.le_of_ble_eq_true rfl) rfl dX11_spoilsBy_13 (fun r7 s8 cr7 h => ?_)
  exact j_iret hc hr cr7 h dX11_spoilsBy_16
-- LitStrangersModel.asks(III)I
theorem dX11_asks_0 : decode cX11_asks 0 = .ok (.aload_n 0, 1) := by decide +kernel
theorem dX11_asks_1 : decode cX11_asks 1 = .ok (.iload_n 1, 1) := by decide +kernel
theorem dX11_asks_2 : decode cX11_asks 2 = .ok (.invokevirtual 128, 3) := by decide +kernel
theorem dX11_asks_5 : decode cX11_asks 5 = .ok (.ifCond .ne 5, 3) := by decide +kernel
theorem dX11_asks_8 : decode cX11_asks 8 = .ok (.iconst (-1), 1) := by decide +kernel
theorem dX11_asks_9 : decode cX11_asks 9 = .ok (.ireturn, 1) := by decide +kernel
theorem dX11_asks_10 : decode cX11_asks 10 = .ok (.iload_n 3, 1) := by decide +kernel
theorem dX11_asks_11 : decode cX11_asks 11 = .ok (.tableswitch 116 0 4 #[33, 39, 45, 51, 92], 33) := by decide +kernel
theorem dX11_asks_44 : decode cX11_asks 44 = .ok (.aload_n 0, 1) := by decide +kernel
theorem dX11_asks_45 : decode cX11_asks 45 = .ok (.iload_n 1, 1) := by decide +kernel
theorem dX11_asks_46 : decode cX11_asks 46 = .ok (.invokevirtual 306, 3) := by decide +kernel
theorem dX11_asks_49 : decode cX11_asks 49 = .ok (.ireturn, 1) := by decide +kernel
theorem dX11_asks_50 : decode cX11_asks 50 = .ok (.aload_n 0, 1) := by decide +kernel
theorem dX11_asks_51 : decode cX11_asks 51 = .ok (.iload_n 1, 1) := by decide +kernel
theorem dX11_asks_52 : decode cX11_asks 52 = .ok (.invokevirtual 309, 3) := by decide +kernel
theorem dX11_asks_55 : decode cX11_asks 55 = .ok (.ireturn, 1) := by decide +kernel
theorem dX11_asks_56 : decode cX11_asks 56 = .ok (.aload_n 0, 1) := by decide +kernel
theorem dX11_asks_57 : decode cX11_asks 57 = .ok (.iload_n 1, 1) := by decide +kernel
theorem dX11_asks_58 : decode cX11_asks 58 = .ok (.invokevirtual 312, 3) := by decide +kernel
theorem dX11_asks_61 : decode cX11_asks 61 = .ok (.ireturn, 1) := by decide +kernel
theorem dX11_asks_62 : decode cX11_asks 62 = .ok (.aload_n 0, 1) := by decide +kernel
theorem dX11_asks_63 : decode cX11_asks 63 = .ok (.iload_n 1, 1) := by decide +kernel
theorem dX11_asks_64 : decode cX11_asks 64 = .ok (.aload_n 0, 1) := by decide +kernel
theorem dX11_asks_65 : decode cX11_asks 65 = .ok (.getfield 24, 3) := by decide +kernel
theorem dX11_asks_68 : decode cX11_asks 68 = .ok (.bipush 20, 2) := by decide +kernel
theorem dX11_asks_70 : decode cX11_asks 70 = .ok (.iload_n 1, 1) := by decide +kernel
theorem dX11_asks_71 : decode cX11_asks 71 = .ok (.iadd, 1) := by decide +kernel
theorem dX11_asks_72 : decode cX11_asks 72 = .ok (.iaload, 1) := by decide +kernel
theorem dX11_asks_73 : decode cX11_asks 73 = .ok (.aload_n 0, 1) := by decide +kernel
theorem dX11_asks_74 : decode cX11_asks 74 = .ok (.getfield 24, 3) := by decide +kernel
theorem dX11_asks_77 : decode cX11_asks 77 = .ok (.bipush 33, 2) := by decide +kernel
theorem dX11_asks_79 : decode cX11_asks 79 = .ok (.iaload, 1) := by decide +kernel
theorem dX11_asks_80 : decode cX11_asks 80 = .ok (.aload_n 0, 1) := by decide +kernel
theorem dX11_asks_81 : decode cX11_asks 81 = .ok (.aload_n 0, 1) := by decide +kernel
theorem dX11_asks_82 : decode cX11_asks 82 = .ok (.getfield 24, 3) := by decide +kernel
theorem dX11_asks_85 : decode cX11_asks 85 = .ok (.bipush 33, 2) := by decide +kernel
theorem dX11_asks_87 : decode cX11_asks 87 = .ok (.iaload, 1) := by decide +kernel
theorem dX11_asks_88 : decode cX11_asks 88 = .ok (.invokevirtual 292, 3) := by decide +kernel
theorem dX11_asks_91 : decode cX11_asks 91 = .ok (.invokevirtual 315, 3) := by decide +kernel
theorem dX11_asks_94 : decode cX11_asks 94 = .ok (.ifCond .eq 7, 3) := by decide +kernel
theorem dX11_asks_97 : decode cX11_asks 97 = .ok (.iconst 1, 1) := by decide +kernel
theorem dX11_asks_98 : decode cX11_asks 98 = .ok (.goto 4, 3) := by decide +kernel
theorem dX11_asks_101 : decode cX11_asks 101 = .ok (.iconst 0, 1) := by decide +kernel
theorem dX11_asks_102 : decode cX11_asks 102 = .ok (.ireturn, 1) := by decide +kernel
theorem dX11_asks_103 : decode cX11_asks 103 = .ok (.aload_n 0, 1) := by decide +kernel
theorem dX11_asks_104 : decode cX11_asks 104 = .ok (.iload_n 2, 1) := by decide +kernel
theorem dX11_asks_105 : decode cX11_asks 105 = .ok (.invokevirtual 128, 3) := by decide +kernel
theorem dX11_asks_108 : decode cX11_asks 108 = .ok (.ifCond .eq 17, 3) := by decide +kernel
theorem dX11_asks_111 : decode cX11_asks 111 = .ok (.iload_n 2, 1) := by decide +kernel
theorem dX11_asks_112 : decode cX11_asks 112 = .ok (.iload_n 1, 1) := by decide +kernel
theorem dX11_asks_113 : decode cX11_asks 113 = .ok (.if_icmp .eq 12, 3) := by decide +kernel
theorem dX11_asks_116 : decode cX11_asks 116 = .ok (.aload_n 0, 1) := by decide +kernel
theorem dX11_asks_117 : decode cX11_asks 117 = .ok (.iload_n 1, 1) := by decide +kernel
theorem dX11_asks_118 : decode cX11_asks 118 = .ok (.iload_n 2, 1) := by decide +kernel
theorem dX11_asks_119 : decode cX11_asks 119 = .ok (.invokevirtual 319, 3) := by decide +kernel
theorem dX11_asks_122 : decode cX11_asks 122 = .ok (.goto 4, 3) := by decide +kernel
theorem dX11_asks_125 : decode cX11_asks 125 = .ok (.iconst (-1), 1) := by decide +kernel
theorem dX11_asks_126 : decode cX11_asks 126 = .ok (.ireturn, 1) := by decide +kernel
theorem dX11_asks_127 : decode cX11_asks 127 = .ok (.iconst (-1), 1) := by decide +kernel
theorem dX11_asks_128 : decode cX11_asks 128 = .ok (.ireturn, 1) := by decide +kernel
def B_X11_asks_102 (Q : Int → st_S → Prop)   (v0 : Int) (σ : st_S) : Prop := Q v0 σ
def B_X11_asks_126 (Q : Int → st_S → Prop)   (v0 : Int) (σ : st_S) : Prop := Q v0 σ
def B_X11_asks_125 (Q : Int → st_S → Prop)    (σ : st_S) : Prop := B_X11_asks_126 Q (-1) σ
def wp_X11_asks (a1 : Int) (a2 : Int) (a3 : Int) (σ : st_S) (Q : Int → st_S → Prop) : Prop := wp_X11_isPerson a1 σ (fun r23 s24 => (¬ r23 = 0 → (a3 = 0 → wp_X11_takesNow a1 s24 (fun r25 s26 => Q r25 s26)) ∧ (a3 = 1 → wp_X11_costsNow a1 s24 (fun r27 s28 => Q r27 s28)) ∧ (a3 = 2 → wp_X11_lodgesNow a1 s24 (fun r29 s30 => Q r29 s30)) ∧ (a3 = 3 → ix (wr (20 + a1)) 5866 ∧ wp_X11_fogOn (gI s24 2 33) s24 (fun r35 s36 => wp_X11_isBarred a1 (gI s24 2 (Int.toNat (wr (20 + a1)))) (gI s24 2 33) r35 s36 (fun r37 s38 => (r37 = 0 → B_X11_asks_102 Q 0 s38) ∧ (¬ r37 = 0 → B_X11_asks_102 Q 1 s38)))) ∧ (a3 = 4 → wp_X11_isPerson a2 s24 (fun r40 s41 => (r40 = 0 → B_X11_asks_125 Q s41) ∧ (¬ r40 = 0 → (a2 = a1 → B_X11_asks_125 Q s41) ∧ (¬ a2 = a1 → wp_X11_spoilsBy a1 a2 s41 (fun r42 s43 => B_X11_asks_126 Q r42 s43))))) ∧ (a3 < 0 ∨ 4 < a3 → Q (-1) s24)) ∧ (r23 = 0 → Q (-1) s24))
set_option maxRecDepth 20000 in
theorem jb_X11_asks_102 {X : jj_X} {E : ev_E} {n0 hN : Nat} (hc : Cx X E cX11_asks 4 n0 hN RX11) (hm : eM E = 2) (hr : (xT X).sig.returnType = (some .int)) (hh : 127 ≤ hN) {Q : Int → st_S → Prop} {v0 : Int} (cv0 : wr v0 = v0) {σ : st_S} (h : B_X11_asks_102 Q v0 σ) : J X E 4 n0 0 0 (MQ (xB X) (qI E (n0 + 0) Q) (xA X) (xS X) 0 0 (eF E)) σ 102 [] [vI v0] := by
  have hh1 : 1 ≤ hN := by omega
  replace h : Q v0 σ := h
  exact j_iret hc hr cv0 h dX11_asks_102
set_option maxRecDepth 20000 in
theorem jb_X11_asks_126 {X : jj_X} {E : ev_E} {n0 hN : Nat} (hc : Cx X E cX11_asks 4 n0 hN RX11) (hm : eM E = 2) (hr : (xT X).sig.returnType = (some .int)) (hh : 127 ≤ hN) {Q : Int → st_S → Prop} {v0 : Int} (cv0 : wr v0 = v0) {σ : st_S} (h : B_X11_asks_126 Q v0 σ) : J X E 4 n0 0 0 (MQ (xB X) (qI E (n0 + 0) Q) (xA X) (xS X) 0 0 (eF E)) σ 126 [] [vI v0] := by
  have hh1 : 1 ≤ hN := by omega
  replace h : Q v0 σ := h
  exact j_iret hc hr cv0 h dX11_asks_126
set_option maxRecDepth 20000 in
theorem jb_X11_asks_125 {X : jj_X} {E : ev_E} {n0 hN : Nat} (hc : Cx X E cX11_asks 4 n0 hN RX11) (hm : eM E = 2) (hr : (xT X).sig.returnType = (some .int)) (hh : 127 ≤ hN) {Q : Int → st_S → Prop} {σ : st_S} (h : B_X11_asks_125 Q σ) : J X E 4 n0 0 0 (MQ (xB X) (qI E (n0 + 0) Q) (xA X) (xS X) 0 0 (eF E)) σ 125 [] [] := by
  have hh1 : 1 ≤ hN := by omega
  replace h : B_X11_asks_126 Q (-1) σ := h
  refine j_iconst hc dX11_asks_125 ?_
  refine j_sub (lv' := []) [] rfl ?_
  exact jb_X11_asks_126 hc hm hr hh (wlit (-1) (by decide)) h
set_option maxRecDepth 20000 in
theorem c_X11_asks {l : Launch} {E : ev_E} (hE : Eok E) (hm : eM E = 2) {a1 : Int} {a2 : Int} {a3 : Int} (ca1 : wr a1 = a1) (ca2 : wr a2 = a2) (ca3 : wr a3 = a3) {σ : st_S} {Q : Int → st_S → Prop} (h : wp_X11_asks a1 a2 a3 σ Q) : cM l yX11_asks cX11_asks 4 (some .int) E 127 0 0 [vR E 0, vI a1, vI a2, vI a3] σ (qI E (gN σ + 0) Q) := by
  refine cM_of (lv := [(0, vR E 0), (1, vI a1), (2, vI a2), (3, vI a3)]) (by decide) hE (Nat.le_of_ble_eq_true rfl) (rfl) ?_
  intro X hX hc _ _ hr _ _
  subst hX
  have hh : 127 ≤ 127 := Nat.le_refl _
  have hh1 : 1 ≤ 127 := by omega
  replace h : wp_X11_isPerson a1 σ (fun r23 s24 => (¬ r23 = 0 → (a3 = 0 → wp_X11_takesNow a1 s24 (fun r25 s26 => Q r25 s26)) ∧ (a3 = 1 → wp_X11_costsNow a1 s24 (fun r27 s28 => Q r27 s28)) ∧ (a3 = 2 → wp_X11_lodgesNow a1 s24 (fun r29 s30 => Q r29 s30)) ∧ (a3 = 3 → ix (wr (20 + a1)) 5866 ∧ wp_X11_fogOn (gI s24 2 33) s24 (fun r35 s36 => wp_X11_isBarred a1 (gI s24 2 (Int.toNat (wr (20 + a1)))) (gI s24 2 33) r35 s36 (fun r37 s38 => (r37 = 0 → B_X11_asks_102 Q 0 s38) ∧ (¬ r37 = 0 → B_X11_asks_102 Q 1 s38)))) ∧ (a3 = 4 → wp_X11_isPerson a2 s24 (fun r40 s41 => (r40 = 0 → B_X11_asks_125 Q s41) ∧ (¬ r40 = 0 → (a2 = a1 → B_X11_asks_125 Q s41) ∧ (¬ a2 = a1 → wp_X11_spoilsBy a1 a2 s41 (fun r42 s43 => B_X11_asks_126 Q r42 s43))))) ∧ (a3 < 0 ∨ 4 < a3 → Q (-1) s24)) ∧ (r23 = 0 → Q (-1) s24)) := h
  refine j_aload_nR hc 0 dX11_asks_0 rfl rfl ?_
  refine j_iload_n hc 1 dX11_asks_1 rfl rfl ?_
  refine j_vI hc (k := 11) (by decide) (fun hv => Or.inl (sv_k hv hm rfl)) ml_RX11_128 mv_X11_isPerson (As := [vI a1]) (c_X11_isPerson (cx_E hc) hm ca1 h) rfl (by omega) (by decide) ⟨Nat.zero_le _, Nat.zero_le _⟩ (Nat.le_of_ble_eq_true rfl) rfl dX11_asks_2 (fun r23 s24 cr23 h => ?_)
  refine j_if_ne hc cr23 (tgt := 10) dX11_asks_5 (by decide) (fun q46 => ?_) (fun q46 => ?_)
  · replace h := h.1 q46
    refine j_iload_n hc 3 dX11_asks_10 rfl rfl ?_
    rcases Decidable.em (a3 = 0) with q0 | q0
    · replace h := h.1 q0
      refine j_ts (tgt := 44) (off := 33) hc ca3 dX11_asks_11 0 q0 (by decide) (by decide) (by decide) (by decide) ?_
      refine j_aload_nR hc 0 dX11_asks_44 rfl rfl ?_
      refine j_iload_n hc 1 dX11_asks_45 rfl rfl ?_
      refine j_vI hc (k := 11) (by decide) (fun hv => Or.inl (sv_k hv hm rfl)) ml_RX11_306 mv_X11_takesNow (As := [vI a1]) (c_X11_takesNow (cx_E hc) hm ca1 h) rfl (by omega) (by decide) ⟨Nat.zero_le _, Nat.zero_le _⟩ (Nat.le_of_ble_eq_true rfl) rfl dX11_asks_46 (fun r25 s26 cr25 h => ?_)
      exact j_iret hc hr cr25 h dX11_asks_49
    · rcases Decidable.em (a3 = 1) with q1 | q1
      · replace h := h.2.1 q1
        refine j_ts (tgt := 50) (off := 39) hc ca3 dX11_asks_11 1 q1 (by decide) (by decide) (by decide) (by decide) ?_
        refine j_aload_nR hc 0 dX11_asks_50 rfl rfl ?_
        refine j_iload_n hc 1 dX11_asks_51 rfl rfl ?_
        refine j_vI hc (k := 11) (by decide) (fun hv => Or.inl (sv_k hv hm rfl)) ml_RX11_309 mv_X11_costsNow (As := [vI a1]) (c_X11_costsNow (cx_E hc) hm ca1 h) rfl (by omega) (by decide) ⟨Nat.zero_le _, Nat.zero_le _⟩ (Nat.le_of_ble_eq_true rfl) rfl dX11_asks_52 (fun r27 s28 cr27 h => ?_)
        exact j_iret hc hr cr27 h dX11_asks_55
      · rcases Decidable.em (a3 = 2) with q2 | q2
        · replace h := h.2.2.1 q2
          refine j_ts (tgt := 56) (off := 45) hc ca3 dX11_asks_11 2 q2 (by decide) (by decide) (by decide) (by decide) ?_
          refine j_aload_nR hc 0 dX11_asks_56 rfl rfl ?_
          refine j_iload_n hc 1 dX11_asks_57 rfl rfl ?_
          refine j_vI hc (k := 11) (by decide) (fun hv => Or.inl (sv_k hv hm rfl)) ml_RX11_312 mv_X11_lodgesNow (As := [vI a1]) (c_X11_lodgesNow (cx_E hc) hm ca1 h) rfl (by omega) (by decide) ⟨Nat.zero_le _, Nat.zero_le _⟩ (Nat.le_of_ble_eq_true rfl) rfl dX11_asks_58 (fun r29 s30 cr29 h => ?_)
          exact j_iret hc hr cr29 h dX11_asks_61
        · rcases Decidable.em (a3 = 3) with q3 | q3
          · replace h := h.2.2.2.1 q3
            refine j_ts (tgt := 62) (off := 51) hc ca3 dX11_asks_11 3 q3 (by decide) (by decide) (by decide) (by decide) ?_
            refine j_aload_nR hc 0 dX11_asks_62 rfl rfl ?_
            refine j_iload_n hc 1 dX11_asks_63 rfl rfl ?_
            refine j_aload_nR hc 0 dX11_asks_64 rfl rfl ?_
            refine j_getR (c' := 2) hc fl_RX11_24 rfl rfl (fun hv => (sv_k hv hm rfl)) dX11_asks_65 ?_
            refine j_bipush hc dX11_asks_68 (by decide) ?_
            refine j_iload_n hc 1 dX11_asks_70 rfl rfl ?_
            refine j_iadd hc dX11_asks_71 ?_
            obtain ⟨b31, h⟩ := h
            refine j_iald (jn := (Int.toNat (wr (20 + a1)))) hc (fun hv => sv_kl hv hm rfl) rfl b31 rfl dX11_asks_72 (fun cn32 => ?_)
            refine j_aload_nR hc 0 dX11_asks_73 rfl rfl ?_
            refine j_getR (c' := 2) hc fl_RX11_24 rfl rfl (fun hv => (sv_k hv hm rfl)) dX11_asks_74 ?_
            refine j_bipush hc dX11_asks_77 (by decide) ?_
            refine j_iald (jn := 33) hc (fun hv => sv_kl hv hm rfl) (wlit 33 (by decide)) ⟨by decide, by decide⟩ rfl dX11_asks_79 (fun cn33 => ?_)
            refine j_aload_nR hc 0 dX11_asks_80 rfl rfl ?_
            refine j_aload_nR hc 0 dX11_asks_81 rfl rfl ?_
            refine j_getR (c' := 2) hc fl_RX11_24 rfl rfl (fun hv => (sv_k hv hm rfl)) dX11_asks_82 ?_
            refine j_bipush hc dX11_asks_85 (by decide) ?_
            refine j_iald (jn := 33) hc (fun hv => sv_kl hv hm rfl) (wlit 33 (by decide)) ⟨by decide, by decide⟩ rfl dX11_asks_87 (fun cn34 => ?_)
            refine j_vI hc (k := 11) (by decide) (fun hv => Or.inl (sv_k hv hm rfl)) ml_RX11_292 mv_X11_fogOn (As := [vI (gI s24 2 33)]) (c_X11_fogOn (cx_E hc) hm cn34 h) rfl (by omega) (by decide) ⟨Nat.zero_le _, Nat.zero_le _⟩ (Nat.le_of_ble_eq_true rfl) rfl dX11_asks_88 (fun r35 s36 cr35 h => ?_)
            refine j_vI hc (k := 11) (by decide) (fun hv => Or.inl (sv_k hv hm rfl)) ml_RX11_315 mv_X11_isBarred (As := [vI a1, vI (gI s24 2 (Int.toNat (wr (20 + a1)))), vI (gI s24 2 33), vI r35]) (c_X11_isBarred (cx_E hc) hm ca1 cn32 cn33 cr35 h) rfl (by omega) (by decide) ⟨Nat.zero_le _, Nat.zero_le _⟩ (Nat.le_of_ble_eq_true rfl) rfl dX11_asks_91 (fun r37 s38 cr37 h => ?_)
            refine j_if_eq hc cr37 (tgt := 101) dX11_asks_94 (by decide) (fun q39 => ?_) (fun q39 => ?_)
            · replace h := h.1 q39
              refine j_iconst hc dX11_asks_101 ?_
              refine j_sub (lv' := []) [] rfl ?_
              exact jb_X11_asks_102 hc hm hr hh (wlit 0 (by decide)) h
            · replace h := h.2 q39
              refine j_iconst hc dX11_asks_97 ?_
              refine j_goto (tgt := 102) hc dX11_asks_98 (by decide) ?_
              refine j_sub (lv' := []) [] rfl ?_
              exact jb_X11_asks_102 hc hm hr hh (wlit 1 (by decide)) h
          · rcases Decidable.em (a3 = 4) with q4 | q4
            · replace h := h.2.2.2.2.1 q4
              refine j_ts (tgt := 103) (off := 92) hc ca3 dX11_asks_11 4 q4 (by decide) (by decide) (by decide) (by decide) ?_
              refine j_aload_nR hc 0 dX11_asks_103 rfl rfl ?_
              refine j_iload_n hc 2 dX11_asks_104 rfl rfl ?_
              refine j_vI hc (k := 11) (by decide) (fun hv => Or.inl (sv_k hv hm rfl)) ml_RX11_128 mv_X11_isPerson (As := [vI a2]) (c_X11_isPerson (cx_E hc) hm ca2 h) rfl (by omega) (by decide) ⟨Nat.zero_le _, Nat.zero_le _⟩ (Nat.le_of_ble_eq_true rfl) rfl dX11_asks_105 (fun r40 s41 cr40 h => ?_)
              refine j_if_eq hc cr40 (tgt := 125) dX11_asks_108 (by decide) (fun q45 => ?_) (fun q45 => ?_)
              · replace h := h.1 q45
                refine j_sub (lv' := []) [] rfl ?_
                exact jb_X11_asks_125 hc hm hr hh h
              · replace h := h.2 q45
                refine j_iload_n hc 2 dX11_asks_111 rfl rfl ?_
                refine j_iload_n hc 1 dX11_asks_112 rfl rfl ?_
                refine j_ic_eq hc ca2 ca1 (tgt := 125) dX11_asks_113 (by decide) (fun q44 => ?_) (fun q44 => ?_)
                · replace h := h.1 q44
                  refine j_sub (lv' := []) [] rfl ?_
                  exact jb_X11_asks_125 hc hm hr hh h
                · replace h := h.2 q44
                  refine j_aload_nR hc 0 dX11_asks_116 rfl rfl ?_
                  refine j_iload_n hc 1 dX11_asks_117 rfl rfl ?_
                  refine j_iload_n hc 2 dX11_asks_118 rfl rfl ?_
                  refine j_vI hc (k := 11) (by decide) (fun hv => Or.inl (sv_k hv hm rfl)) ml_RX11_319 mv_X11_spoilsBy (As := [vI a1, vI a2]) (c_X11_spoilsBy (cx_E hc) hm ca1 ca2 h) rfl (by omega) (by decide) ⟨Nat.zero_le _, Nat.zero_le _⟩ (Nat.le_of_ble_eq_true rfl) rfl dX11_asks_119 (fun r42 s43 cr42 h => ?_)
                  refine j_goto (tgt := 126) hc dX11_asks_122 (by decide) ?_
                  refine j_sub (lv' := []) [] rfl ?_
                  exact jb_X11_asks_126 hc hm hr hh cr42 h
            · have qd : a3 < 0 ∨ 4 < a3 := by omega
              replace h := h.2.2.2.2.2 qd
              refine j_td (tgt := 127) hc ca3 dX11_asks_11 qd (by decide) ?_
              refine j_iconst hc dX11_asks_127 ?_
              exact j_iret hc hr (wlit (-1) (by decide)) h dX11_asks_128
  · replace h := h.2 q46
    refine j_iconst hc dX11_asks_8 ?_
    exact j_iret hc hr (wlit (-1) (by decide)) h dX11_asks_9
-- LitStrangersModel.keeps(I)V
theorem dX11_keeps_0 : decode cX11_keeps 0 = .ok (.bipush 35, 2) := by decide +kernel
theorem dX11_keeps_2 : decode cX11_keeps 2 = .ok (.istore_n 2, 1) := by decide +kernel
theorem dX11_keeps_3 : decode cX11_keeps 3 = .ok (.aload_n 0, 1) := by decide +kernel
theorem dX11_keeps_4 : decode cX11_keeps 4 = .ok (.getfield 11, 3) := by decide +kernel
theorem dX11_keeps_7 : decode cX11_keeps 7 = .ok (.bipush 16, 2) := by decide +kernel
theorem dX11_keeps_9 : decode cX11_keeps 9 = .ok (.if_icmp .ne 43, 3) := by decide +kernel
theorem dX11_keeps_12 : decode cX11_keeps 12 = .ok (.iconst 0, 1) := by decide +kernel
theorem dX11_keeps_13 : decode cX11_keeps 13 = .ok (.istore_n 3, 1) := by decide +kernel
theorem dX11_keeps_14 : decode cX11_keeps 14 = .ok (.iload_n 3, 1) := by decide +kernel
theorem dX11_keeps_15 : decode cX11_keeps 15 = .ok (.bipush 15, 2) := by decide +kernel
theorem dX11_keeps_17 : decode cX11_keeps 17 = .ok (.iload_n 2, 1) := by decide +kernel
theorem dX11_keeps_18 : decode cX11_keeps 18 = .ok (.imul, 1) := by decide +kernel
theorem dX11_keeps_19 : decode cX11_keeps 19 = .ok (.if_icmp .ge 23, 3) := by decide +kernel
theorem dX11_keeps_22 : decode cX11_keeps 22 = .ok (.aload_n 0, 1) := by decide +kernel
theorem dX11_keeps_23 : decode cX11_keeps 23 = .ok (.getfield 62, 3) := by decide +kernel
theorem dX11_keeps_26 : decode cX11_keeps 26 = .ok (.iload_n 3, 1) := by decide +kernel
theorem dX11_keeps_27 : decode cX11_keeps 27 = .ok (.aload_n 0, 1) := by decide +kernel
theorem dX11_keeps_28 : decode cX11_keeps 28 = .ok (.getfield 62, 3) := by decide +kernel
theorem dX11_keeps_31 : decode cX11_keeps 31 = .ok (.iload_n 3, 1) := by decide +kernel
theorem dX11_keeps_32 : decode cX11_keeps 32 = .ok (.iload_n 2, 1) := by decide +kernel
theorem dX11_keeps_33 : decode cX11_keeps 33 = .ok (.iadd, 1) := by decide +kernel
theorem dX11_keeps_34 : decode cX11_keeps 34 = .ok (.iaload, 1) := by decide +kernel
theorem dX11_keeps_35 : decode cX11_keeps 35 = .ok (.iastore, 1) := by decide +kernel
theorem dX11_keeps_36 : decode cX11_keeps 36 = .ok (.iinc 3 1, 3) := by decide +kernel
theorem dX11_keeps_39 : decode cX11_keeps 39 = .ok (.goto (-25), 3) := by decide +kernel
theorem dX11_keeps_42 : decode cX11_keeps 42 = .ok (.aload_n 0, 1) := by decide +kernel
theorem dX11_keeps_43 : decode cX11_keeps 43 = .ok (.dup, 1) := by decide +kernel
theorem dX11_keeps_44 : decode cX11_keeps 44 = .ok (.getfield 11, 3) := by decide +kernel
theorem dX11_keeps_47 : decode cX11_keeps 47 = .ok (.iconst 1, 1) := by decide +kernel
theorem dX11_keeps_48 : decode cX11_keeps 48 = .ok (.isub, 1) := by decide +kernel
theorem dX11_keeps_49 : decode cX11_keeps 49 = .ok (.putfield 11, 3) := by decide +kernel
theorem dX11_keeps_52 : decode cX11_keeps 52 = .ok (.iconst 0, 1) := by decide +kernel
theorem dX11_keeps_53 : decode cX11_keeps 53 = .ok (.istore_n 3, 1) := by decide +kernel
theorem dX11_keeps_54 : decode cX11_keeps 54 = .ok (.iload_n 3, 1) := by decide +kernel
theorem dX11_keeps_55 : decode cX11_keeps 55 = .ok (.bipush 34, 2) := by decide +kernel
theorem dX11_keeps_57 : decode cX11_keeps 57 = .ok (.if_icmp .ge 28, 3) := by decide +kernel
theorem dX11_keeps_60 : decode cX11_keeps 60 = .ok (.aload_n 0, 1) := by decide +kernel
theorem dX11_keeps_61 : decode cX11_keeps 61 = .ok (.getfield 62, 3) := by decide +kernel
theorem dX11_keeps_64 : decode cX11_keeps 64 = .ok (.iload_n 2, 1) := by decide +kernel
theorem dX11_keeps_65 : decode cX11_keeps 65 = .ok (.aload_n 0, 1) := by decide +kernel
theorem dX11_keeps_66 : decode cX11_keeps 66 = .ok (.getfield 11, 3) := by decide +kernel
theorem dX11_keeps_69 : decode cX11_keeps 69 = .ok (.imul, 1) := by decide +kernel
theorem dX11_keeps_70 : decode cX11_keeps 70 = .ok (.iload_n 3, 1) := by decide +kernel
theorem dX11_keeps_71 : decode cX11_keeps 71 = .ok (.iadd, 1) := by decide +kernel
theorem dX11_keeps_72 : decode cX11_keeps 72 = .ok (.aload_n 0, 1) := by decide +kernel
theorem dX11_keeps_73 : decode cX11_keeps 73 = .ok (.getfield 24, 3) := by decide +kernel
theorem dX11_keeps_76 : decode cX11_keeps 76 = .ok (.iload_n 3, 1) := by decide +kernel
theorem dX11_keeps_77 : decode cX11_keeps 77 = .ok (.iaload, 1) := by decide +kernel
theorem dX11_keeps_78 : decode cX11_keeps 78 = .ok (.iastore, 1) := by decide +kernel
theorem dX11_keeps_79 : decode cX11_keeps 79 = .ok (.iinc 3 1, 3) := by decide +kernel
theorem dX11_keeps_82 : decode cX11_keeps 82 = .ok (.goto (-28), 3) := by decide +kernel
theorem dX11_keeps_85 : decode cX11_keeps 85 = .ok (.aload_n 0, 1) := by decide +kernel
theorem dX11_keeps_86 : decode cX11_keeps 86 = .ok (.getfield 62, 3) := by decide +kernel
theorem dX11_keeps_89 : decode cX11_keeps 89 = .ok (.iload_n 2, 1) := by decide +kernel
theorem dX11_keeps_90 : decode cX11_keeps 90 = .ok (.aload_n 0, 1) := by decide +kernel
theorem dX11_keeps_91 : decode cX11_keeps 91 = .ok (.getfield 11, 3) := by decide +kernel
theorem dX11_keeps_94 : decode cX11_keeps 94 = .ok (.imul, 1) := by decide +kernel
theorem dX11_keeps_95 : decode cX11_keeps 95 = .ok (.bipush 34, 2) := by decide +kernel
theorem dX11_keeps_97 : decode cX11_keeps 97 = .ok (.iadd, 1) := by decide +kernel
theorem dX11_keeps_98 : decode cX11_keeps 98 = .ok (.iload_n 1, 1) := by decide +kernel
theorem dX11_keeps_99 : decode cX11_keeps 99 = .ok (.iastore, 1) := by decide +kernel
theorem dX11_keeps_100 : decode cX11_keeps 100 = .ok (.aload_n 0, 1) := by decide +kernel
theorem dX11_keeps_101 : decode cX11_keeps 101 = .ok (.dup, 1) := by decide +kernel
theorem dX11_keeps_102 : decode cX11_keeps 102 = .ok (.getfield 11, 3) := by decide +kernel
theorem dX11_keeps_105 : decode cX11_keeps 105 = .ok (.iconst 1, 1) := by decide +kernel
theorem dX11_keeps_106 : decode cX11_keeps 106 = .ok (.iadd, 1) := by decide +kernel
theorem dX11_keeps_107 : decode cX11_keeps 107 = .ok (.putfield 11, 3) := by decide +kernel
theorem dX11_keeps_110 : decode cX11_keeps 110 = .ok (.return_, 1) := by decide +kernel
def L_X11_keeps_54 (Q : st_S → Prop)   : Nat → Int → Int → Int → st_S → Prop
  | 0 => fun _ _ _ _ => False
  | n + 1 => fun l1 l2 l3 σ => (34 ≤ l3 → ix (wr ((l2 * gI σ 0 28) + 34)) 560 ∧ ∀ s30 : st_S, s30 = sI σ 13 (Int.toNat (wr ((l2 * gI σ 0 28) + 34))) l1 → ∀ x32 : Int, x32 = wr (gI s30 0 28 + 1) → ∀ s33 : st_S, s33 = sI s30 0 28 x32 → Q s33) ∧ (¬ 34 ≤ l3 → ix l3 5866 ∧ ix (wr ((l2 * gI σ 0 28) + l3)) 560 ∧ ∀ s38 : st_S, s38 = sI σ 13 (Int.toNat (wr ((l2 * gI σ 0 28) + l3))) (gI σ 2 (Int.toNat l3)) → ∀ x39 : Int, x39 = wr (l3 + 1) → (L_X11_keeps_54 Q n) l1 l2 x39 s38)
def B_X11_keeps_52 (Q : st_S → Prop)   (l1 : Int) (l2 : Int) (σ : st_S) : Prop := ∃ m54 : Nat, L_X11_keeps_54 Q m54 l1 l2 0 σ
def L_X11_keeps_14 (Q : st_S → Prop)   : Nat → Int → Int → Int → st_S → Prop
  | 0 => fun _ _ _ _ => False
  | n + 1 => fun l1 l2 l3 σ => (wr (15 * l2) ≤ l3 → ∀ x42 : Int, x42 = wr (gI σ 0 28 - 1) → ∀ s43 : st_S, s43 = sI σ 0 28 x42 → B_X11_keeps_52 Q l1 l2 s43) ∧ (¬ wr (15 * l2) ≤ l3 → ix (wr (l3 + l2)) 560 ∧ ix l3 560 ∧ ∀ s47 : st_S, s47 = sI σ 13 (Int.toNat l3) (gI σ 13 (Int.toNat (wr (l3 + l2)))) → ∀ x48 : Int, x48 = wr (l3 + 1) → (L_X11_keeps_14 Q n) l1 l2 x48 s47)
def wp_X11_keeps (a1 : Int) (σ : st_S) (Q : st_S → Prop) : Prop := (¬ gI σ 0 28 = 16 → B_X11_keeps_52 Q a1 35 σ) ∧ (gI σ 0 28 = 16 → ∃ m14 : Nat, L_X11_keeps_14 Q m14 a1 35 0 σ)
set_option maxRecDepth 20000 in
theorem jl_X11_keeps_54 {X : jj_X} {E : ev_E} {n0 hN : Nat} (hc : Cx X E cX11_keeps 4 n0 hN RX11) (hm : eM E = 2) (hr : (xT X).sig.returnType = none) (hh : 1 ≤ hN) {Q : st_S → Prop} : ∀ (n : Nat) {l1 : Int} {l2 : Int} {l3 : Int} (cl1 : wr l1 = l1) (cl2 : wr l2 = l2) (cl3 : wr l3 = l3) {σ : st_S}, L_X11_keeps_54 Q n l1 l2 l3 σ → J X E 4 n0 0 0 (MQ (xB X) (qV E (n0 + 0) Q) (xA X) (xS X) 0 0 (eF E)) σ 54 [(0, vR E 0), (1, vI l1), (2, vI l2), (3, vI l3)] [] := by
  have hh1 : 1 ≤ hN := by omega
  intro n
  induction n with
  | zero => intro l1 l2 l3 cl1 cl2 cl3 σ h; exact h.elim
  | succ n ih =>
    intro l1 l2 l3 cl1 cl2 cl3 σ h
    have hk54 : ∀ {l1 : Int} {l2 : Int} {l3 : Int} (cl1 : wr l1 = l1) (cl2 : wr l2 = l2) (cl3 : wr l3 = l3) {σ : st_S}, L_X11_keeps_54 Q n l1 l2 l3 σ → J X E 4 n0 0 0 (MQ (xB X) (qV E (n0 + 0) Q) (xA X) (xS X) 0 0 (eF E)) σ 54 [(0, vR E 0), (1, vI l1), (2, vI l2), (3, vI l3)] [] := ih
    replace h : (34 ≤ l3 → ix (wr ((l2 * gI σ 0 28) + 34)) 560 ∧ ∀ s30 : st_S, s30 = sI σ 13 (Int.toNat (wr ((l2 * gI σ 0 28) + 34))) l1 → ∀ x32 : Int, x32 = wr (gI s30 0 28 + 1) → ∀ s33 : st_S, s33 = sI s30 0 28 x32 → Q s33) ∧ (¬ 34 ≤ l3 → ix l3 5866 ∧ ix (wr ((l2 * gI σ 0 28) + l3)) 560 ∧ ∀ s38 : st_S, s38 = sI σ 13 (Int.toNat (wr ((l2 * gI σ 0 28) + l3))) (gI σ 2 (Int.toNat l3)) → ∀ x39 : Int, x39 = wr (l3 + 1) → (L_X11_keeps_54 Q n) l1 l2 x39 s38) := h
    refine j_iload_n hc 3 dX11_keeps_54 rfl rfl ?_
    refine j_bipush hc dX11_keeps_55 (by decide) ?_
    refine j_ic_ge hc cl3 (wlit 34 (by decide)) (tgt := 85) dX11_keeps_57 (by decide) (fun q40 => ?_) (fun q40 => ?_)
    · replace h := h.1 q40
      refine j_aload_nR hc 0 dX11_keeps_85 rfl rfl ?_
      refine j_getR (c' := 13) hc fl_RX11_62 rfl rfl (fun hv => (sv_k hv hm rfl)) dX11_keeps_86 ?_
      refine j_iload_n hc 2 dX11_keeps_89 rfl rfl ?_
      refine j_aload_nR hc 0 dX11_keeps_90 rfl rfl ?_
      refine j_getI hc fl_RX11_11 (Or.inl rfl) (fun hv => Or.inl (sv_k hv hm rfl)) dX11_keeps_91 (fun cn28 => ?_)
      refine j_imul hc dX11_keeps_94 ?_
      refine j_bipush hc dX11_keeps_95 (by decide) ?_
      refine j_iadd hc dX11_keeps_97 ?_
      refine j_iload_n hc 1 dX11_keeps_98 rfl rfl ?_
      obtain ⟨b29, h⟩ := h
      refine j_iast (jn := (Int.toNat (wr ((l2 * gI σ 0 28) + 34)))) hc (fun hv => sv_kl hv hm rfl) rfl b29 rfl cl1 dX11_keeps_99 (fun s30 es30 => ?_)
      replace h := h s30 es30
      refine j_aload_nR hc 0 dX11_keeps_100 rfl rfl ?_
      refine j_dup hc dX11_keeps_101 rfl ?_
      refine j_getI hc fl_RX11_11 (Or.inl rfl) (fun hv => Or.inl (sv_k hv hm rfl)) dX11_keeps_102 (fun cn31 => ?_)
      refine j_iconst hc dX11_keeps_105 ?_
      refine j_iadd hc dX11_keeps_106 ?_
      refine j_w (fun x32 ex32 cx32 => ?_)
      replace h := h x32 ex32
      refine j_putI hc fl_RX11_11 rfl rfl (fun hv => Or.inl (sv_k hv hm rfl)) cx32 dX11_keeps_107 (fun s33 es33 => ?_)
      replace h := h s33 es33
      exact j_vret hc hr h dX11_keeps_110
    · replace h := h.2 q40
      refine j_aload_nR hc 0 dX11_keeps_60 rfl rfl ?_
      refine j_getR (c' := 13) hc fl_RX11_62 rfl rfl (fun hv => (sv_k hv hm rfl)) dX11_keeps_61 ?_
      refine j_iload_n hc 2 dX11_keeps_64 rfl rfl ?_
      refine j_aload_nR hc 0 dX11_keeps_65 rfl rfl ?_
      refine j_getI hc fl_RX11_11 (Or.inl rfl) (fun hv => Or.inl (sv_k hv hm rfl)) dX11_keeps_66 (fun cn34 => ?_)
      refine j_imul hc dX11_keeps_69 ?_
      refine j_iload_n hc 3 dX11_keeps_70 rfl rfl ?_
      refine j_iadd hc dX11_keeps_71 ?_
      refine j_aload_nR hc 0 dX11_keeps_72 rfl rfl ?_
      refine j_getR (c' := 2) hc fl_RX11_24 rfl rfl (fun hv => (sv_k hv hm rfl)) dX11_keeps_73 ?_
      refine j_iload_n hc 3 dX11_keeps_76 rfl rfl ?_
      obtain ⟨b35, h⟩ := h
      refine j_iald (jn := (Int.toNat l3)) hc (fun hv => sv_kl hv hm rfl) cl3 b35 rfl dX11_keeps_77 (fun cn36 => ?_)
      obtain ⟨b37, h⟩ := h
      refine j_iast (jn := (Int.toNat (wr ((l2 * gI σ 0 28) + l3)))) hc (fun hv => sv_kl hv hm rfl) rfl b37 rfl cn36 dX11_keeps_78 (fun s38 es38 => ?_)
      replace h := h s38 es38
      obtain ⟨x39, ex39⟩ : ∃ y : Int, y = wr (l3 + 1) := ⟨_, rfl⟩
      have cx39 : wr x39 = x39 := by rw [ex39]; exact wr_wr _
      replace h := h x39 ex39
      refine j_iinc (lv' := [(3, vI x39), (0, vR E 0), (1, vI l1), (2, vI l2)]) hc 3 dX11_keeps_79 rfl (by decide) ex39 rfl ?_
      refine j_goto (tgt := 54) hc dX11_keeps_82 (by decide) ?_
      refine j_sub (lv' := [(0, vR E 0), (1, vI l1), (2, vI l2), (3, vI x39)]) [1, 2, 3, 0] rfl ?_
      exact hk54 cl1 cl2 cx39 h
set_option maxRecDepth 20000 in
theorem jb_X11_keeps_52 {X : jj_X} {E : ev_E} {n0 hN : Nat} (hc : Cx X E cX11_keeps 4 n0 hN RX11) (hm : eM E = 2) (hr : (xT X).sig.returnType = none) (hh : 1 ≤ hN) {Q : st_S → Prop} {l1 : Int} {l2 : Int} (cl1 : wr l1 = l1) (cl2 : wr l2 = l2) {σ : st_S} (h : B_X11_keeps_52 Q l1 l2 σ) : J X E 4 n0 0 0 (MQ (xB X) (qV E (n0 + 0) Q) (xA X) (xS X) 0 0 (eF E)) σ 52 [(0, vR E 0), (1, vI l1), (2, vI l2)] [] := by
  have hh1 : 1 ≤ hN := by omega
  replace h : ∃ m54 : Nat, L_X11_keeps_54 Q m54 l1 l2 0 σ := h
  refine j_iconst hc dX11_keeps_52 ?_
  refine j_istore_n (lv' := [(3, vI 0), (0, vR E 0), (1, vI l1), (2, vI l2)]) hc dX11_keeps_53 rfl (by decide) rfl ?_
  obtain ⟨n54, h⟩ := h
  refine j_sub (lv' := [(0, vR E 0), (1, vI l1), (2, vI l2), (3, vI 0)]) [1, 2, 3, 0] rfl ?_
  exact jl_X11_keeps_54 hc hm hr hh n54 cl1 cl2 (wlit 0 (by decide)) h
set_option maxRecDepth 20000 in
theorem jl_X11_keeps_14 {X : jj_X} {E : ev_E} {n0 hN : Nat} (hc : Cx X E cX11_keeps 4 n0 hN RX11) (hm : eM E = 2) (hr : (xT X).sig.returnType = none) (hh : 1 ≤ hN) {Q : st_S → Prop} : ∀ (n : Nat) {l1 : Int} {l2 : Int} {l3 : Int} (cl1 : wr l1 = l1) (cl2 : wr l2 = l2) (cl3 : wr l3 = l3) {σ : st_S}, L_X11_keeps_14 Q n l1 l2 l3 σ → J X E 4 n0 0 0 (MQ (xB X) (qV E (n0 + 0) Q) (xA X) (xS X) 0 0 (eF E)) σ 14 [(0, vR E 0), (1, vI l1), (2, vI l2), (3, vI l3)] [] := by
  have hh1 : 1 ≤ hN := by omega
  intro n
  induction n with
  | zero => intro l1 l2 l3 cl1 cl2 cl3 σ h; exact h.elim
  | succ n ih =>
    intro l1 l2 l3 cl1 cl2 cl3 σ h
    have hk14 : ∀ {l1 : Int} {l2 : Int} {l3 : Int} (cl1 : wr l1 = l1) (cl2 : wr l2 = l2) (cl3 : wr l3 = l3) {σ : st_S}, L_X11_keeps_14 Q n l1 l2 l3 σ → J X E 4 n0 0 0 (MQ (xB X) (qV E (n0 + 0) Q) (xA X) (xS X) 0 0 (eF E)) σ 14 [(0, vR E 0), (1, vI l1), (2, vI l2), (3, vI l3)] [] := ih
    replace h : (wr (15 * l2) ≤ l3 → ∀ x42 : Int, x42 = wr (gI σ 0 28 - 1) → ∀ s43 : st_S, s43 = sI σ 0 28 x42 → B_X11_keeps_52 Q l1 l2 s43) ∧ (¬ wr (15 * l2) ≤ l3 → ix (wr (l3 + l2)) 560 ∧ ix l3 560 ∧ ∀ s47 : st_S, s47 = sI σ 13 (Int.toNat l3) (gI σ 13 (Int.toNat (wr (l3 + l2)))) → ∀ x48 : Int, x48 = wr (l3 + 1) → (L_X11_keeps_14 Q n) l1 l2 x48 s47) := h
    refine j_iload_n hc 3 dX11_keeps_14 rfl rfl ?_
    refine j_bipush hc dX11_keeps_15 (by decide) ?_
    refine j_iload_n hc 2 dX11_keeps_17 rfl rfl ?_
    refine j_imul hc dX11_keeps_18 ?_
    refine j_ic_ge hc cl3 rfl (tgt := 42) dX11_keeps_19 (by decide) (fun q49 => ?_) (fun q49 => ?_)
    · replace h := h.1 q49
      refine j_aload_nR hc 0 dX11_keeps_42 rfl rfl ?_
      refine j_dup hc dX11_keeps_43 rfl ?_
      refine j_getI hc fl_RX11_11 (Or.inl rfl) (fun hv => Or.inl (sv_k hv hm rfl)) dX11_keeps_44 (fun cn41 => ?_)
      refine j_iconst hc dX11_keeps_47 ?_
      refine j_isub hc dX11_keeps_48 ?_
      refine j_w (fun x42 ex42 cx42 => ?_)
      replace h := h x42 ex42
      refine j_putI hc fl_RX11_11 rfl rfl (fun hv => Or.inl (sv_k hv hm rfl)) cx42 dX11_keeps_49 (fun s43 es43 => ?_)
      replace h := h s43 es43
      refine j_sub (lv' := [(0, vR E 0), (1, vI l1), (2, vI l2)]) [0, 1, 2] rfl ?_
      exact jb_X11_keeps_52 hc hm hr hh cl1 cl2 h
    · replace h := h.2 q49
      refine j_aload_nR hc 0 dX11_keeps_22 rfl rfl ?_
      refine j_getR (c' := 13) hc fl_RX11_62 rfl rfl (fun hv => (sv_k hv hm rfl)) dX11_keeps_23 ?_
      refine j_iload_n hc 3 dX11_keeps_26 rfl rfl ?_
      refine j_aload_nR hc 0 dX11_keeps_27 rfl rfl ?_
      refine j_getR (c' := 13) hc fl_RX11_62 rfl rfl (fun hv => (sv_k hv hm rfl)) dX11_keeps_28 ?_
      refine j_iload_n hc 3 dX11_keeps_31 rfl rfl ?_
      refine j_iload_n hc 2 dX11_keeps_32 rfl rfl ?_
      refine j_iadd hc dX11_keeps_33 ?_
      obtain ⟨b44, h⟩ := h
      refine j_iald (jn := (Int.toNat (wr (l3 + l2)))) hc (fun hv => sv_kl hv hm rfl) rfl b44 rfl dX11_keeps_34 (fun cn45 => ?_)
      obtain ⟨b46, h⟩ := h
      refine j_iast (jn := (Int.toNat l3)) hc (fun hv => sv_kl hv hm rfl) cl3 b46 rfl cn45 dX11_keeps_35 (fun s47 es47 => ?_)
      replace h := h s47 es47
      obtain ⟨x48, ex48⟩ : ∃ y : Int, y = wr (l3 + 1) := ⟨_, rfl⟩
      have cx48 : wr x48 = x48 := by rw [ex48]; exact wr_wr _
      replace h := h x48 ex48
      refine j_iinc (lv' := [(3, vI x48), (0, vR E 0), (1, vI l1), (2, vI l2)]) hc 3 dX11_keeps_36 rfl (by decide) ex48 rfl ?_
      refine j_goto (tgt := 14) hc dX11_keeps_39 (by decide) ?_
      refine j_sub (lv' := [(0, vR E 0), (1, vI l1), (2, vI l2), (3, vI x48)]) [1, 2, 3, 0] rfl ?_
      exact hk14 cl1 cl2 cx48 h
set_option maxRecDepth 20000 in
theorem c_X11_keeps {l : Launch} {E : ev_E} (hE : Eok E) (hm : eM E = 2) {a1 : Int} (ca1 : wr a1 = a1) {σ : st_S} {Q : st_S → Prop} (h : wp_X11_keeps a1 σ Q) : cM l yX11_keeps cX11_keeps 4 none E 1 0 0 [vR E 0, vI a1] σ (qV E (gN σ + 0) Q) := by
  refine cM_of (lv := [(0, vR E 0), (1, vI a1)]) (by decide) hE (Nat.le_of_ble_eq_true rfl) (rfl) ?_
  intro X hX hc _ _ hr _ _
  subst hX
  have hh : 1 ≤ 1 := Nat.le_refl _
  have hh1 : 1 ≤ 1 := by omega
  replace h : (¬ gI σ 0 28 = 16 → B_X11_keeps_52 Q a1 35 σ) ∧ (gI σ 0 28 = 16 → ∃ m14 : Nat, L_X11_keeps_14 Q m14 a1 35 0 σ) := h
  refine j_bipush hc dX11_keeps_0 (by decide) ?_
  refine j_istore_n (lv' := [(2, vI 35), (0, vR E 0), (1, vI a1)]) hc dX11_keeps_2 rfl (by decide) rfl ?_
  refine j_aload_nR hc 1 dX11_keeps_3 rfl rfl ?_
  refine j_getI hc fl_RX11_11 (Or.inl rfl) (fun hv => Or.inl (sv_k hv hm rfl)) dX11_keeps_4 (fun cn50 => ?_)
  refine j_bipush hc dX11_keeps_7 (by decide) ?_
  refine j_ic_ne hc cn50 (wlit 16 (by decide)) (tgt := 52) dX11_keeps_9 (by decide) (fun q51 => ?_) (fun q51 => ?_)
  · replace h := h.1 q51
    refine j_sub (lv' := [(0, vR E 0), (1, vI a1), (2, vI 35)]) [1, 2, 0] rfl ?_
    exact jb_X11_keeps_52 hc hm hr hh ca1 (wlit 35 (by decide)) h
  · replace h := h.2 q51
    refine j_iconst hc dX11_keeps_12 ?_
    refine j_istore_n (lv' := [(3, vI 0), (2, vI 35), (0, vR E 0), (1, vI a1)]) hc dX11_keeps_13 rfl (by decide) rfl ?_
    obtain ⟨n14, h⟩ := h
    refine j_sub (lv' := [(0, vR E 0), (1, vI a1), (2, vI 35), (3, vI 0)]) [2, 3, 1, 0] rfl ?_
    exact jl_X11_keeps_14 hc hm hr hh n14 ca1 (wlit 35 (by decide)) (wlit 0 (by decide)) h
-- LitStrangersModel.undo()I
theorem dX11_undo_0 : decode cX11_undo 0 = .ok (.aload_n 0, 1) := by decide +kernel
theorem dX11_undo_1 : decode cX11_undo 1 = .ok (.getfield 11, 3) := by decide +kernel
theorem dX11_undo_4 : decode cX11_undo 4 = .ok (.ifCond .ne 10, 3) := by decide +kernel
theorem dX11_undo_7 : decode cX11_undo 7 = .ok (.aload_n 0, 1) := by decide +kernel
theorem dX11_undo_8 : decode cX11_undo 8 = .ok (.bipush (-3), 2) := by decide +kernel
theorem dX11_undo_10 : decode cX11_undo 10 = .ok (.invokevirtual 110, 3) := by decide +kernel
theorem dX11_undo_13 : decode cX11_undo 13 = .ok (.ireturn, 1) := by decide +kernel
theorem dX11_undo_14 : decode cX11_undo 14 = .ok (.aload_n 0, 1) := by decide +kernel
theorem dX11_undo_15 : decode cX11_undo 15 = .ok (.dup, 1) := by decide +kernel
theorem dX11_undo_16 : decode cX11_undo 16 = .ok (.getfield 11, 3) := by decide +kernel
theorem dX11_undo_19 : decode cX11_undo 19 = .ok (.iconst 1, 1) := by decide +kernel
theorem dX11_undo_20 : decode cX11_undo 20 = .ok (.isub, 1) := by decide +kernel
theorem dX11_undo_21 : decode cX11_undo 21 = .ok (.putfield 11, 3) := by decide +kernel
theorem dX11_undo_24 : decode cX11_undo 24 = .ok (.bipush 35, 2) := by decide +kernel
theorem dX11_undo_26 : decode cX11_undo 26 = .ok (.aload_n 0, 1) := by decide +kernel
theorem dX11_undo_27 : decode cX11_undo 27 = .ok (.getfield 11, 3) := by decide +kernel
theorem dX11_undo_30 : decode cX11_undo 30 = .ok (.imul, 1) := by decide +kernel
theorem dX11_undo_31 : decode cX11_undo 31 = .ok (.istore_n 1, 1) := by decide +kernel
theorem dX11_undo_32 : decode cX11_undo 32 = .ok (.iconst 0, 1) := by decide +kernel
theorem dX11_undo_33 : decode cX11_undo 33 = .ok (.istore_n 2, 1) := by decide +kernel
theorem dX11_undo_34 : decode cX11_undo 34 = .ok (.iload_n 2, 1) := by decide +kernel
theorem dX11_undo_35 : decode cX11_undo 35 = .ok (.bipush 34, 2) := by decide +kernel
theorem dX11_undo_37 : decode cX11_undo 37 = .ok (.if_icmp .ge 23, 3) := by decide +kernel
theorem dX11_undo_40 : decode cX11_undo 40 = .ok (.aload_n 0, 1) := by decide +kernel
theorem dX11_undo_41 : decode cX11_undo 41 = .ok (.getfield 24, 3) := by decide +kernel
theorem dX11_undo_44 : decode cX11_undo 44 = .ok (.iload_n 2, 1) := by decide +kernel
theorem dX11_undo_45 : decode cX11_undo 45 = .ok (.aload_n 0, 1) := by decide +kernel
theorem dX11_undo_46 : decode cX11_undo 46 = .ok (.getfield 62, 3) := by decide +kernel
theorem dX11_undo_49 : decode cX11_undo 49 = .ok (.iload_n 1, 1) := by decide +kernel
theorem dX11_undo_50 : decode cX11_undo 50 = .ok (.iload_n 2, 1) := by decide +kernel
theorem dX11_undo_51 : decode cX11_undo 51 = .ok (.iadd, 1) := by decide +kernel
theorem dX11_undo_52 : decode cX11_undo 52 = .ok (.iaload, 1) := by decide +kernel
theorem dX11_undo_53 : decode cX11_undo 53 = .ok (.iastore, 1) := by decide +kernel
theorem dX11_undo_54 : decode cX11_undo 54 = .ok (.iinc 2 1, 3) := by decide +kernel
theorem dX11_undo_57 : decode cX11_undo 57 = .ok (.goto (-23), 3) := by decide +kernel
theorem dX11_undo_60 : decode cX11_undo 60 = .ok (.aload_n 0, 1) := by decide +kernel
theorem dX11_undo_61 : decode cX11_undo 61 = .ok (.aload_n 0, 1) := by decide +kernel
theorem dX11_undo_62 : decode cX11_undo 62 = .ok (.getfield 62, 3) := by decide +kernel
theorem dX11_undo_65 : decode cX11_undo 65 = .ok (.iload_n 1, 1) := by decide +kernel
theorem dX11_undo_66 : decode cX11_undo 66 = .ok (.bipush 34, 2) := by decide +kernel
theorem dX11_undo_68 : decode cX11_undo 68 = .ok (.iadd, 1) := by decide +kernel
theorem dX11_undo_69 : decode cX11_undo 69 = .ok (.iaload, 1) := by decide +kernel
theorem dX11_undo_70 : decode cX11_undo 70 = .ok (.invokevirtual 14, 3) := by decide +kernel
theorem dX11_undo_73 : decode cX11_undo 73 = .ok (.ireturn, 1) := by decide +kernel
def L_X11_undo_34 (Q : Int → st_S → Prop)   : Nat → Int → Int → st_S → Prop
  | 0 => fun _ _ _ => False
  | n + 1 => fun l1 l2 σ => (34 ≤ l2 → ix (wr (l1 + 34)) 560 ∧ wp_X11_good (gI σ 13 (Int.toNat (wr (l1 + 34)))) σ (fun r22 s23 => Q r22 s23)) ∧ (¬ 34 ≤ l2 → ix (wr (l1 + l2)) 560 ∧ ix l2 5866 ∧ ∀ s27 : st_S, s27 = sI σ 2 (Int.toNat l2) (gI σ 13 (Int.toNat (wr (l1 + l2)))) → ∀ x28 : Int, x28 = wr (l2 + 1) → (L_X11_undo_34 Q n) l1 x28 s27)
def wp_X11_undo  (σ : st_S) (Q : Int → st_S → Prop) : Prop := (¬ gI σ 0 28 = 0 → ∀ x32 : Int, x32 = wr (gI σ 0 28 - 1) → ∀ s33 : st_S, s33 = sI σ 0 28 x32 → ∀ x35 : Int, x35 = wr (35 * gI s33 0 28) → ∃ m34 : Nat, L_X11_undo_34 Q m34 x35 0 s33) ∧ (gI σ 0 28 = 0 → wp_X11_refuses (-3) σ (fun r36 s37 => Q r36 s37))
set_option maxRecDepth 20000 in
theorem jl_X11_undo_34 {X : jj_X} {E : ev_E} {n0 hN : Nat} (hc : Cx X E cX11_undo 3 n0 hN RX11) (hm : eM E = 2) (hr : (xT X).sig.returnType = (some .int)) (hh : 2 ≤ hN) {Q : Int → st_S → Prop} : ∀ (n : Nat) {l1 : Int} {l2 : Int} (cl1 : wr l1 = l1) (cl2 : wr l2 = l2) {σ : st_S}, L_X11_undo_34 Q n l1 l2 σ → J X E 3 n0 0 0 (MQ (xB X) (qI E (n0 + 0) Q) (xA X) (xS X) 0 0 (eF E)) σ 34 [(0, vR E 0), (1, vI l1), (2, vI l2)] [] := by
  have hh1 : 1 ≤ hN := by omega
  intro n
  induction n with
  | zero => intro l1 l2 cl1 cl2 σ h; exact h.elim
  | succ n ih =>
    intro l1 l2 cl1 cl2 σ h
    have hk34 : ∀ {l1 : Int} {l2 : Int} (cl1 : wr l1 = l1) (cl2 : wr l2 = l2) {σ : st_S}, L_X11_undo_34 Q n l1 l2 σ → J X E 3 n0 0 0 (MQ (xB X) (qI E (n0 + 0) Q) (xA X) (xS X) 0 0 (eF E)) σ 34 [(0, vR E 0), (1, vI l1), (2, vI l2)] [] := ih
    replace h : (34 ≤ l2 → ix (wr (l1 + 34)) 560 ∧ wp_X11_good (gI σ 13 (Int.toNat (wr (l1 + 34)))) σ (fun r22 s23 => Q r22 s23)) ∧ (¬ 34 ≤ l2 → ix (wr (l1 + l2)) 560 ∧ ix l2 5866 ∧ ∀ s27 : st_S, s27 = sI σ 2 (Int.toNat l2) (gI σ 13 (Int.toNat (wr (l1 + l2)))) → ∀ x28 : Int, x28 = wr (l2 + 1) → (L_X11_undo_34 Q n) l1 x28 s27) := h
    refine j_iload_n hc 2 dX11_undo_34 rfl rfl ?_
    refine j_bipush hc dX11_undo_35 (by decide) ?_
    refine j_ic_ge hc cl2 (wlit 34 (by decide)) (tgt := 60) dX11_undo_37 (by decide) (fun q29 => ?_) (fun q29 => ?_)
    · replace h := h.1 q29
      refine j_aload_nR hc 0 dX11_undo_60 rfl rfl ?_
      refine j_aload_nR hc 0 dX11_undo_61 rfl rfl ?_
      refine j_getR (c' := 13) hc fl_RX11_62 rfl rfl (fun hv => (sv_k hv hm rfl)) dX11_undo_62 ?_
      refine j_iload_n hc 1 dX11_undo_65 rfl rfl ?_
      refine j_bipush hc dX11_undo_66 (by decide) ?_
      refine j_iadd hc dX11_undo_68 ?_
      obtain ⟨b20, h⟩ := h
      refine j_iald (jn := (Int.toNat (wr (l1 + 34)))) hc (fun hv => sv_kl hv hm rfl) rfl b20 rfl dX11_undo_69 (fun cn21 => ?_)
      refine j_vI hc (k := 11) (by decide) (fun hv => Or.inl (sv_k hv hm rfl)) ml_RX11_14 mv_X11_good (As := [vI (gI σ 13 (Int.toNat (wr (l1 + 34))))]) (c_X11_good (cx_E hc) hm cn21 h) rfl (by omega) (by decide) ⟨Nat.zero_le _, Nat.zero_le _⟩ (Nat.le_of_ble_eq_true rfl) rfl dX11_undo_70 (fun r22 s23 cr22 h => ?_)
      exact j_iret hc hr cr22 h dX11_undo_73
    · replace h := h.2 q29
      refine j_aload_nR hc 0 dX11_undo_40 rfl rfl ?_
      refine j_getR (c' := 2) hc fl_RX11_24 rfl rfl (fun hv => (sv_k hv hm rfl)) dX11_undo_41 ?_
      refine j_iload_n hc 2 dX11_undo_44 rfl rfl ?_
      refine j_aload_nR hc 0 dX11_undo_45 rfl rfl ?_
      refine j_getR (c' := 13) hc fl_RX11_62 rfl rfl (fun hv => (sv_k hv hm rfl)) dX11_undo_46 ?_
      refine j_iload_n hc 1 dX11_undo_49 rfl rfl ?_
      refine j_iload_n hc 2 dX11_undo_50 rfl rfl ?_
      refine j_iadd hc dX11_undo_51 ?_
      obtain ⟨b24, h⟩ := h
      refine j_iald (jn := (Int.toNat (wr (l1 + l2)))) hc (fun hv => sv_kl hv hm rfl) rfl b24 rfl dX11_undo_52 (fun cn25 => ?_)
      obtain ⟨b26, h⟩ := h
      refine j_iast (jn := (Int.toNat l2)) hc (fun hv => sv_kl hv hm rfl) cl2 b26 rfl cn25 dX11_undo_53 (fun s27 es27 => ?_)
      replace h := h s27 es27
      obtain ⟨x28, ex28⟩ : ∃ y : Int, y = wr (l2 + 1) := ⟨_, rfl⟩
      have cx28 : wr x28 = x28 := by rw [ex28]; exact wr_wr _
      replace h := h x28 ex28
      refine j_iinc (lv' := [(2, vI x28), (0, vR E 0), (1, vI l1)]) hc 2 dX11_undo_54 rfl (by decide) ex28 rfl ?_
      refine j_goto (tgt := 34) hc dX11_undo_57 (by decide) ?_
      refine j_sub (lv' := [(0, vR E 0), (1, vI l1), (2, vI x28)]) [1, 2, 0] rfl ?_
      exact hk34 cl1 cx28 h
set_option maxRecDepth 20000 in
theorem c_X11_undo {l : Launch} {E : ev_E} (hE : Eok E) (hm : eM E = 2) {σ : st_S} {Q : Int → st_S → Prop} (h : wp_X11_undo σ Q) : cM l yX11_undo cX11_undo 3 (some .int) E 2 0 0 [vR E 0] σ (qI E (gN σ + 0) Q) := by
  refine cM_of (lv := [(0, vR E 0)]) (by decide) hE (Nat.le_of_ble_eq_true rfl) (rfl) ?_
  intro X hX hc _ _ hr _ _
  subst hX
  have hh : 2 ≤ 2 := Nat.le_refl _
  have hh1 : 1 ≤ 2 := by omega
  replace h : (¬ gI σ 0 28 = 0 → ∀ x32 : Int, x32 = wr (gI σ 0 28 - 1) → ∀ s33 : st_S, s33 = sI σ 0 28 x32 → ∀ x35 : Int, x35 = wr (35 * gI s33 0 28) → ∃ m34 : Nat, L_X11_undo_34 Q m34 x35 0 s33) ∧ (gI σ 0 28 = 0 → wp_X11_refuses (-3) σ (fun r36 s37 => Q r36 s37)) := h
  refine j_aload_nR hc 0 dX11_undo_0 rfl rfl ?_
  refine j_getI hc fl_RX11_11 (Or.inl rfl) (fun hv => Or.inl (sv_k hv hm rfl)) dX11_undo_1 (fun cn30 => ?_)
  refine j_if_ne hc cn30 (tgt := 14) dX11_undo_4 (by decide) (fun q38 => ?_) (fun q38 => ?_)
  · replace h := h.1 q38
    refine j_aload_nR hc 0 dX11_undo_14 rfl rfl ?_
    refine j_dup hc dX11_undo_15 rfl ?_
    refine j_getI hc fl_RX11_11 (Or.inl rfl) (fun hv => Or.inl (sv_k hv hm rfl)) dX11_undo_16 (fun cn31 => ?_)
    refine j_iconst hc dX11_undo_19 ?_
    refine j_isub hc dX11_undo_20 ?_
    refine j_w (fun x32 ex32 cx32 => ?_)
    replace h := h x32 ex32
    refine j_putI hc fl_RX11_11 rfl rfl (fun hv => Or.inl (sv_k hv hm rfl)) cx32 dX11_undo_21 (fun s33 es33 => ?_)
    replace h := h s33 es33
    refine j_bipush hc dX11_undo_24 (by decide) ?_
    refine j_aload_nR hc 0 dX11_undo_26 rfl rfl ?_
    refine j_getI hc fl_RX11_11 (Or.inl rfl) (fun hv => Or.inl (sv_k hv hm rfl)) dX11_undo_27 (fun cn34 => ?_)
    refine j_imul hc dX11_undo_30 ?_
    refine j_w (fun x35 ex35 cx35 => ?_)
    replace h := h x35 ex35
    refine j_istore_n (lv' := [(1, vI x35), (0, vR E 0)]) hc dX11_undo_31 rfl (by decide) rfl ?_
    refine j_iconst hc dX11_undo_32 ?_
    refine j_istore_n (lv' := [(2, vI 0), (1, vI x35), (0, vR E 0)]) hc dX11_undo_33 rfl (by decide) rfl ?_
    obtain ⟨n34, h⟩ := h
    refine j_sub (lv' := [(0, vR E 0), (1, vI x35), (2, vI 0)]) [2, 1, 0] rfl ?_
    exact jl_X11_undo_34 hc hm hr hh n34 cx35 (wlit 0 (by decide)) h
  · replace h := h.2 q38
    refine j_aload_nR hc 0 dX11_undo_7 rfl rfl ?_
    refine j_bipush hc dX11_undo_8 (by decide) ?_
    refine j_vI hc (k := 11) (by decide) (fun hv => Or.inl (sv_k hv hm rfl)) ml_RX11_110 mv_X11_refuses (As := [vI (-3)]) (c_X11_refuses (cx_E hc) hm (wlit (-3) (by decide)) h) rfl (by omega) (by decide) ⟨Nat.zero_le _, Nat.zero_le _⟩ (Nat.le_of_ble_eq_true rfl) rfl dX11_undo_10 (fun r36 s37 cr36 h => ?_)
    exact j_iret hc hr cr36 h dX11_undo_13
-- LitStrangersModel.sendsKept(I)I
theorem dX11_sendsKept_0 : decode cX11_sendsKept 0 = .ok (.aload_n 0, 1) := by decide +kernel
theorem dX11_sendsKept_1 : decode cX11_sendsKept 1 = .ok (.iload_n 1, 1) := by decide +kernel
theorem dX11_sendsKept_2 : decode cX11_sendsKept 2 = .ok (.invokevirtual 128, 3) := by decide +kernel
theorem dX11_sendsKept_5 : decode cX11_sendsKept 5 = .ok (.ifCond .ne 6, 3) := by decide +kernel
theorem dX11_sendsKept_8 : decode cX11_sendsKept 8 = .ok (.bipush (-2), 2) := by decide +kernel
theorem dX11_sendsKept_10 : decode cX11_sendsKept 10 = .ok (.ireturn, 1) := by decide +kernel
theorem dX11_sendsKept_11 : decode cX11_sendsKept 11 = .ok (.aload_n 0, 1) := by decide +kernel
theorem dX11_sendsKept_12 : decode cX11_sendsKept 12 = .ok (.getfield 24, 3) := by decide +kernel
theorem dX11_sendsKept_15 : decode cX11_sendsKept 15 = .ok (.iconst 0, 1) := by decide +kernel
theorem dX11_sendsKept_16 : decode cX11_sendsKept 16 = .ok (.iload_n 1, 1) := by decide +kernel
theorem dX11_sendsKept_17 : decode cX11_sendsKept 17 = .ok (.iadd, 1) := by decide +kernel
theorem dX11_sendsKept_18 : decode cX11_sendsKept 18 = .ok (.iaload, 1) := by decide +kernel
theorem dX11_sendsKept_19 : decode cX11_sendsKept 19 = .ok (.ifCond .eq 6, 3) := by decide +kernel
theorem dX11_sendsKept_22 : decode cX11_sendsKept 22 = .ok (.bipush (-3), 2) := by decide +kernel
theorem dX11_sendsKept_24 : decode cX11_sendsKept 24 = .ok (.ireturn, 1) := by decide +kernel
theorem dX11_sendsKept_25 : decode cX11_sendsKept 25 = .ok (.aload_n 0, 1) := by decide +kernel
theorem dX11_sendsKept_26 : decode cX11_sendsKept 26 = .ok (.iconst 0, 1) := by decide +kernel
theorem dX11_sendsKept_27 : decode cX11_sendsKept 27 = .ok (.invokevirtual 322, 3) := by decide +kernel
theorem dX11_sendsKept_30 : decode cX11_sendsKept 30 = .ok (.aload_n 0, 1) := by decide +kernel
theorem dX11_sendsKept_31 : decode cX11_sendsKept 31 = .ok (.iload_n 1, 1) := by decide +kernel
theorem dX11_sendsKept_32 : decode cX11_sendsKept 32 = .ok (.invokevirtual 309, 3) := by decide +kernel
theorem dX11_sendsKept_35 : decode cX11_sendsKept 35 = .ok (.istore_n 2, 1) := by decide +kernel
theorem dX11_sendsKept_36 : decode cX11_sendsKept 36 = .ok (.aload_n 0, 1) := by decide +kernel
theorem dX11_sendsKept_37 : decode cX11_sendsKept 37 = .ok (.iload_n 1, 1) := by decide +kernel
theorem dX11_sendsKept_38 : decode cX11_sendsKept 38 = .ok (.invokevirtual 306, 3) := by decide +kernel
theorem dX11_sendsKept_41 : decode cX11_sendsKept 41 = .ok (.istore_n 3, 1) := by decide +kernel
theorem dX11_sendsKept_42 : decode cX11_sendsKept 42 = .ok (.aload_n 0, 1) := by decide +kernel
theorem dX11_sendsKept_43 : decode cX11_sendsKept 43 = .ok (.getfield 24, 3) := by decide +kernel
theorem dX11_sendsKept_46 : decode cX11_sendsKept 46 = .ok (.bipush 32, 2) := by decide +kernel
theorem dX11_sendsKept_48 : decode cX11_sendsKept 48 = .ok (.dup2, 1) := by decide +kernel
theorem dX11_sendsKept_49 : decode cX11_sendsKept 49 = .ok (.iaload, 1) := by decide +kernel
theorem dX11_sendsKept_50 : decode cX11_sendsKept 50 = .ok (.iload_n 2, 1) := by decide +kernel
theorem dX11_sendsKept_51 : decode cX11_sendsKept 51 = .ok (.iadd, 1) := by decide +kernel
theorem dX11_sendsKept_52 : decode cX11_sendsKept 52 = .ok (.iastore, 1) := by decide +kernel
theorem dX11_sendsKept_53 : decode cX11_sendsKept 53 = .ok (.aload_n 0, 1) := by decide +kernel
theorem dX11_sendsKept_54 : decode cX11_sendsKept 54 = .ok (.getfield 24, 3) := by decide +kernel
theorem dX11_sendsKept_57 : decode cX11_sendsKept 57 = .ok (.iconst 0, 1) := by decide +kernel
theorem dX11_sendsKept_58 : decode cX11_sendsKept 58 = .ok (.iload_n 1, 1) := by decide +kernel
theorem dX11_sendsKept_59 : decode cX11_sendsKept 59 = .ok (.iadd, 1) := by decide +kernel
theorem dX11_sendsKept_60 : decode cX11_sendsKept 60 = .ok (.iload_n 3, 1) := by decide +kernel
theorem dX11_sendsKept_61 : decode cX11_sendsKept 61 = .ok (.ifCond .ne 7, 3) := by decide +kernel
theorem dX11_sendsKept_64 : decode cX11_sendsKept 64 = .ok (.iconst 2, 1) := by decide +kernel
theorem dX11_sendsKept_65 : decode cX11_sendsKept 65 = .ok (.goto 4, 3) := by decide +kernel
theorem dX11_sendsKept_68 : decode cX11_sendsKept 68 = .ok (.iconst 1, 1) := by decide +kernel
theorem dX11_sendsKept_69 : decode cX11_sendsKept 69 = .ok (.iastore, 1) := by decide +kernel
theorem dX11_sendsKept_70 : decode cX11_sendsKept 70 = .ok (.aload_n 0, 1) := by decide +kernel
theorem dX11_sendsKept_71 : decode cX11_sendsKept 71 = .ok (.getfield 24, 3) := by decide +kernel
theorem dX11_sendsKept_74 : decode cX11_sendsKept 74 = .ok (.bipush 10, 2) := by decide +kernel
theorem dX11_sendsKept_76 : decode cX11_sendsKept 76 = .ok (.iload_n 1, 1) := by decide +kernel
theorem dX11_sendsKept_77 : decode cX11_sendsKept 77 = .ok (.iadd, 1) := by decide +kernel
theorem dX11_sendsKept_78 : decode cX11_sendsKept 78 = .ok (.iload_n 3, 1) := by decide +kernel
theorem dX11_sendsKept_79 : decode cX11_sendsKept 79 = .ok (.ifCond .ne 7, 3) := by decide +kernel
theorem dX11_sendsKept_82 : decode cX11_sendsKept 82 = .ok (.iconst (-1), 1) := by decide +kernel
theorem dX11_sendsKept_83 : decode cX11_sendsKept 83 = .ok (.goto 12, 3) := by decide +kernel
theorem dX11_sendsKept_86 : decode cX11_sendsKept 86 = .ok (.aload_n 0, 1) := by decide +kernel
theorem dX11_sendsKept_87 : decode cX11_sendsKept 87 = .ok (.getfield 24, 3) := by decide +kernel
theorem dX11_sendsKept_90 : decode cX11_sendsKept 90 = .ok (.bipush 33, 2) := by decide +kernel
theorem dX11_sendsKept_92 : decode cX11_sendsKept 92 = .ok (.iaload, 1) := by decide +kernel
theorem dX11_sendsKept_93 : decode cX11_sendsKept 93 = .ok (.iload_n 3, 1) := by decide +kernel
theorem dX11_sendsKept_94 : decode cX11_sendsKept 94 = .ok (.iadd, 1) := by decide +kernel
theorem dX11_sendsKept_95 : decode cX11_sendsKept 95 = .ok (.iastore, 1) := by decide +kernel
theorem dX11_sendsKept_96 : decode cX11_sendsKept 96 = .ok (.iload_n 2, 1) := by decide +kernel
theorem dX11_sendsKept_97 : decode cX11_sendsKept 97 = .ok (.ireturn, 1) := by decide +kernel
def B_X11_sendsKept_95 (Q : Int → st_S → Prop)   (l2 : Int) (v0 : Int) (v1 : Int) (σ : st_S) : Prop := ix (wr v1) 5866 ∧ ∀ s27 : st_S, s27 = sI σ 2 (Int.toNat (wr v1)) v0 → Q l2 s27
def B_X11_sendsKept_69 (Q : Int → st_S → Prop)   (l1 : Int) (l2 : Int) (l3 : Int) (v0 : Int) (v1 : Int) (σ : st_S) : Prop := ix (wr v1) 5866 ∧ ∀ s29 : st_S, s29 = sI σ 2 (Int.toNat (wr v1)) v0 → (¬ l3 = 0 → ∀ x31 : Int, x31 = wr (gI s29 2 33 + l3) → B_X11_sendsKept_95 Q l2 x31 (10 + l1) s29) ∧ (l3 = 0 → B_X11_sendsKept_95 Q l2 (-1) (10 + l1) s29)
def wp_X11_sendsKept (a1 : Int) (σ : st_S) (Q : Int → st_S → Prop) : Prop := wp_X11_isPerson a1 σ (fun r33 s34 => (¬ r33 = 0 → ix (wr (0 + a1)) 5866 ∧ (gI s34 2 (Int.toNat (wr (0 + a1))) = 0 → wp_X11_keeps 0 s34 (fun s38 => wp_X11_costsNow a1 s38 (fun r39 s40 => wp_X11_takesNow a1 s40 (fun r41 s42 => ∀ x44 : Int, x44 = wr (gI s42 2 32 + r39) → ∀ s45 : st_S, s45 = sI s42 2 32 x44 → (¬ r41 = 0 → B_X11_sendsKept_69 Q a1 r39 r41 1 (0 + a1) s45) ∧ (r41 = 0 → B_X11_sendsKept_69 Q a1 r39 r41 2 (0 + a1) s45))))) ∧ (¬ gI s34 2 (Int.toNat (wr (0 + a1))) = 0 → Q (-3) s34)) ∧ (r33 = 0 → Q (-2) s34))
set_option maxRecDepth 20000 in
theorem jb_X11_sendsKept_95 {X : jj_X} {E : ev_E} {n0 hN : Nat} (hc : Cx X E cX11_sendsKept 4 n0 hN RX11) (hm : eM E = 2) (hr : (xT X).sig.returnType = (some .int)) (hh : 127 ≤ hN) {Q : Int → st_S → Prop} {l2 : Int} {v0 : Int} {v1 : Int} (cl2 : wr l2 = l2) (cv0 : wr v0 = v0) {σ : st_S} (h : B_X11_sendsKept_95 Q l2 v0 v1 σ) : J X E 4 n0 0 0 (MQ (xB X) (qI E (n0 + 0) Q) (xA X) (xS X) 0 0 (eF E)) σ 95 [(2, vI l2)] [vI v0, vI v1, vR E 2] := by
  have hh1 : 1 ≤ hN := by omega
  replace h : ix (wr v1) 5866 ∧ ∀ s27 : st_S, s27 = sI σ 2 (Int.toNat (wr v1)) v0 → Q l2 s27 := h
  obtain ⟨b26, h⟩ := h
  refine j_iast (jn := (Int.toNat (wr v1))) hc (fun hv => sv_kl hv hm rfl) rfl b26 rfl cv0 dX11_sendsKept_95 (fun s27 es27 => ?_)
  replace h := h s27 es27
  refine j_iload_n hc 0 dX11_sendsKept_96 rfl rfl ?_
  exact j_iret hc hr cl2 h dX11_sendsKept_97
set_option maxRecDepth 20000 in
theorem jb_X11_sendsKept_69 {X : jj_X} {E : ev_E} {n0 hN : Nat} (hc : Cx X E cX11_sendsKept 4 n0 hN RX11) (hm : eM E = 2) (hr : (xT X).sig.returnType = (some .int)) (hh : 127 ≤ hN) {Q : Int → st_S → Prop} {l1 : Int} {l2 : Int} {l3 : Int} {v0 : Int} {v1 : Int} (cl1 : wr l1 = l1) (cl2 : wr l2 = l2) (cl3 : wr l3 = l3) (cv0 : wr v0 = v0) {σ : st_S} (h : B_X11_sendsKept_69 Q l1 l2 l3 v0 v1 σ) : J X E 4 n0 0 0 (MQ (xB X) (qI E (n0 + 0) Q) (xA X) (xS X) 0 0 (eF E)) σ 69 [(0, vR E 0), (1, vI l1), (2, vI l2), (3, vI l3)] [vI v0, vI v1, vR E 2] := by
  have hh1 : 1 ≤ hN := by omega
  replace h : ix (wr v1) 5866 ∧ ∀ s29 : st_S, s29 = sI σ 2 (Int.toNat (wr v1)) v0 → (¬ l3 = 0 → ∀ x31 : Int, x31 = wr (gI s29 2 33 + l3) → B_X11_sendsKept_95 Q l2 x31 (10 + l1) s29) ∧ (l3 = 0 → B_X11_sendsKept_95 Q l2 (-1) (10 + l1) s29) := h
  obtain ⟨b28, h⟩ := h
  refine j_iast (jn := (Int.toNat (wr v1))) hc (fun hv => sv_kl hv hm rfl) rfl b28 rfl cv0 dX11_sendsKept_69 (fun s29 es29 => ?_)
  replace h := h s29 es29
  refine j_aload_nR hc 0 dX11_sendsKept_70 rfl rfl ?_
  refine j_getR (c' := 2) hc fl_RX11_24 rfl rfl (fun hv => (sv_k hv hm rfl)) dX11_sendsKept_71 ?_
  refine j_bipush hc dX11_sendsKept_74 (by decide) ?_
  refine j_iload_n hc 1 dX11_sendsKept_76 rfl rfl ?_
  refine j_iadd hc dX11_sendsKept_77 ?_
  refine j_iload_n hc 3 dX11_sendsKept_78 rfl rfl ?_
  refine j_if_ne hc cl3 (tgt := 86) dX11_sendsKept_79 (by decide) (fun q32 => ?_) (fun q32 => ?_)
  · replace h := h.1 q32
    refine j_aload_nR hc 0 dX11_sendsKept_86 rfl rfl ?_
    refine j_getR (c' := 2) hc fl_RX11_24 rfl rfl (fun hv => (sv_k hv hm rfl)) dX11_sendsKept_87 ?_
    refine j_bipush hc dX11_sendsKept_90 (by decide) ?_
    refine j_iald (jn := 33) hc (fun hv => sv_kl hv hm rfl) (wlit 33 (by decide)) ⟨by decide, by decide⟩ rfl dX11_sendsKept_92 (fun cn30 => ?_)
    refine j_iload_n hc 3 dX11_sendsKept_93 rfl rfl ?_
    refine j_iadd hc dX11_sendsKept_94 ?_
    refine j_w (fun x31 ex31 cx31 => ?_)
    replace h := h x31 ex31
    refine j_sub (lv' := [(2, vI l2)]) [2] rfl ?_
    exact jb_X11_sendsKept_95 hc hm hr hh cl2 cx31 h
  · replace h := h.2 q32
    refine j_iconst hc dX11_sendsKept_82 ?_
    refine j_goto (tgt := 95) hc dX11_sendsKept_83 (by decide) ?_
    refine j_sub (lv' := [(2, vI l2)]) [2] rfl ?_
    exact jb_X11_sendsKept_95 hc hm hr hh cl2 (wlit (-1) (by decide)) h
set_option maxRecDepth 20000 in
theorem c_X11_sendsKept {l : Launch} {E : ev_E} (hE : Eok E) (hm : eM E = 2) {a1 : Int} (ca1 : wr a1 = a1) {σ : st_S} {Q : Int → st_S → Prop} (h : wp_X11_sendsKept a1 σ Q) : cM l yX11_sendsKept cX11_sendsKept 4 (some .int) E 127 0 0 [vR E 0, vI a1] σ (qI E (gN σ + 0) Q) := by
  refine cM_of (lv := [(0, vR E 0), (1, vI a1)]) (by decide) hE (Nat.le_of_ble_eq_true rfl) (rfl) ?_
  intro X hX hc _ _ hr _ _
  subst hX
  have hh : 127 ≤ 127 := Nat.le_refl _
  have hh1 : 1 ≤ 127 := by omega
  replace h : wp_X11_isPerson a1 σ (fun r33 s34 => (¬ r33 = 0 → ix (wr (0 + a1)) 5866 ∧ (gI s34 2 (Int.toNat (wr (0 + a1))) = 0 → wp_X11_keeps 0 s34 (fun s38 => wp_X11_costsNow a1 s38 (fun r39 s40 => wp_X11_takesNow a1 s40 (fun r41 s42 => ∀ x44 : Int, x44 = wr (gI s42 2 32 + r39) → ∀ s45 : st_S, s45 = sI s42 2 32 x44 → (¬ r41 = 0 → B_X11_sendsKept_69 Q a1 r39 r41 1 (0 + a1) s45) ∧ (r41 = 0 → B_X11_sendsKept_69 Q a1 r39 r41 2 (0 + a1) s45))))) ∧ (¬ gI s34 2 (Int.toNat (wr (0 + a1))) = 0 → Q (-3) s34)) ∧ (r33 = 0 → Q (-2) s34)) := h
  refine j_aload_nR hc 0 dX11_sendsKept_0 rfl rfl ?_
  refine j_iload_n hc 1 dX11_sendsKept_1 rfl rfl ?_
  refine j_vI hc (k := 11) (by decide) (fun hv => Or.inl (sv_k hv hm rfl)) ml_RX11_128 mv_X11_isPerson (As := [vI a1]) (c_X11_isPerson (cx_E hc) hm ca1 h) rfl (by omega) (by decide) ⟨Nat.zero_le _, Nat.zero_le _⟩ (Nat.le_of_ble_eq_true rfl) rfl dX11_sendsKept_2 (fun r33 s34 cr33 h => ?_)
  refine j_if_ne hc cr33 (tgt := 11) dX11_sendsKept_5 (by decide) (fun q48 => ?_) (fun q48 => ?_)
  · replace h := h.1 q48
    refine j_aload_nR hc 0 dX11_sendsKept_11 rfl rfl ?_
    refine j_getR (c' := 2) hc fl_RX11_24 rfl rfl (fun hv => (sv_k hv hm rfl)) dX11_sendsKept_12 ?_
    refine j_iconst hc dX11_sendsKept_15 ?_
    refine j_iload_n hc 1 dX11_sendsKept_16 rfl rfl ?_
    refine j_iadd hc dX11_sendsKept_17 ?_
    obtain ⟨b35, h⟩ := h
    refine j_iald (jn := (Int.toNat (wr (0 + a1)))) hc (fun hv => sv_kl hv hm rfl) rfl b35 rfl dX11_sendsKept_18 (fun cn36 => ?_)
    refine j_if_eq hc cn36 (tgt := 25) dX11_sendsKept_19 (by decide) (fun q47 => ?_) (fun q47 => ?_)
    · replace h := h.1 q47
      refine j_aload_nR hc 0 dX11_sendsKept_25 rfl rfl ?_
      refine j_iconst hc dX11_sendsKept_26 ?_
      refine j_vV hc (k := 11) (by decide) (fun hv => Or.inl (sv_k hv hm rfl)) ml_RX11_322 mv_X11_keeps (As := [vI 0]) (c_X11_keeps (cx_E hc) hm (wlit 0 (by decide)) h) rfl (by omega) (by decide) ⟨Nat.zero_le _, Nat.zero_le _⟩ (Nat.le_of_ble_eq_true rfl) rfl dX11_sendsKept_27 (fun s38 h => ?_)
      refine j_aload_nR hc 0 dX11_sendsKept_30 rfl rfl ?_
      refine j_iload_n hc 1 dX11_sendsKept_31 rfl rfl ?_
      refine j_vI hc (k := 11) (by decide) (fun hv => Or.inl (sv_k hv hm rfl)) ml_RX11_309 mv_X11_costsNow (As := [vI a1]) (c_X11_costsNow (cx_E hc) hm ca1 h) rfl (by omega) (by decide) ⟨Nat.zero_le _, Nat.zero_le _⟩ (Nat.le_of_ble_eq_true rfl) rfl dX11_sendsKept_32 (fun r39 s40 cr39 h => ?_)
      refine j_istore_n (lv' := [(2, vI r39), (0, vR E 0), (1, vI a1)]) hc dX11_sendsKept_35 rfl (by decide) rfl ?_
      refine j_aload_nR hc 1 dX11_sendsKept_36 rfl rfl ?_
      refine j_iload_n hc 2 dX11_sendsKept_37 rfl rfl ?_
      refine j_vI hc (k := 11) (by decide) (fun hv => Or.inl (sv_k hv hm rfl)) ml_RX11_306 mv_X11_takesNow (As := [vI a1]) (c_X11_takesNow (cx_E hc) hm ca1 h) rfl (by omega) (by decide) ⟨Nat.zero_le _, Nat.zero_le _⟩ (Nat.le_of_ble_eq_true rfl) rfl dX11_sendsKept_38 (fun r41 s42 cr41 h => ?_)
      refine j_istore_n (lv' := [(3, vI r41), (2, vI r39), (0, vR E 0), (1, vI a1)]) hc dX11_sendsKept_41 rfl (by decide) rfl ?_
      refine j_aload_nR hc 2 dX11_sendsKept_42 rfl rfl ?_
      refine j_getR (c' := 2) hc fl_RX11_24 rfl rfl (fun hv => (sv_k hv hm rfl)) dX11_sendsKept_43 ?_
      refine j_bipush hc dX11_sendsKept_46 (by decide) ?_
      refine j_dup2 hc dX11_sendsKept_48 rfl rfl ?_
      refine j_iald (jn := 32) hc (fun hv => sv_kl hv hm rfl) (wlit 32 (by decide)) ⟨by decide, by decide⟩ rfl dX11_sendsKept_49 (fun cn43 => ?_)
      refine j_iload_n hc 1 dX11_sendsKept_50 rfl rfl ?_
      refine j_iadd hc dX11_sendsKept_51 ?_
      refine j_w (fun x44 ex44 cx44 => ?_)
      replace h := h x44 ex44
      refine j_iast (jn := 32) hc (fun hv => sv_kl hv hm rfl) (wlit 32 (by decide)) ⟨by decide, by decide⟩ rfl cx44 dX11_sendsKept_52 (fun s45 es45 => ?_)
      replace h := h s45 es45
      refine j_aload_nR hc 2 dX11_sendsKept_53 rfl rfl ?_
      refine j_getR (c' := 2) hc fl_RX11_24 rfl rfl (fun hv => (sv_k hv hm rfl)) dX11_sendsKept_54 ?_
      refine j_iconst hc dX11_sendsKept_57 ?_
      refine j_iload_n hc 3 dX11_sendsKept_58 rfl rfl ?_
      refine j_iadd hc dX11_sendsKept_59 ?_
      refine j_iload_n hc 0 dX11_sendsKept_60 rfl rfl ?_
      refine j_if_ne hc cr41 (tgt := 68) dX11_sendsKept_61 (by decide) (fun q46 => ?_) (fun q46 => ?_)
      · replace h := h.1 q46
        refine j_iconst hc dX11_sendsKept_68 ?_
        refine j_sub (lv' := [(0, vR E 0), (1, vI a1), (2, vI r39), (3, vI r41)]) [2, 3, 1, 0] rfl ?_
        exact jb_X11_sendsKept_69 hc hm hr hh ca1 cr39 cr41 (wlit 1 (by decide)) h
      · replace h := h.2 q46
        refine j_iconst hc dX11_sendsKept_64 ?_
        refine j_goto (tgt := 69) hc dX11_sendsKept_65 (by decide) ?_
        refine j_sub (lv' := [(0, vR E 0), (1, vI a1), (2, vI r39), (3, vI r41)]) [2, 3, 1, 0] rfl ?_
        exact jb_X11_sendsKept_69 hc hm hr hh ca1 cr39 cr41 (wlit 2 (by decide)) h
    · replace h := h.2 q47
      refine j_bipush hc dX11_sendsKept_22 (by decide) ?_
      exact j_iret hc hr (wlit (-3) (by decide)) h dX11_sendsKept_24
  · replace h := h.2 q48
    refine j_bipush hc dX11_sendsKept_8 (by decide) ?_
    exact j_iret hc hr (wlit (-2) (by decide)) h dX11_sendsKept_10
-- LitStrangersModel.passesNight()V
theorem dX11_passesNight_0 : decode cX11_passesNight 0 = .ok (.iconst 0, 1) := by decide +kernel
theorem dX11_passesNight_1 : decode cX11_passesNight 1 = .ok (.istore_n 1, 1) := by decide +kernel
theorem dX11_passesNight_2 : decode cX11_passesNight 2 = .ok (.iload_n 1, 1) := by decide +kernel
theorem dX11_passesNight_3 : decode cX11_passesNight 3 = .ok (.aload_n 0, 1) := by decide +kernel
theorem dX11_passesNight_4 : decode cX11_passesNight 4 = .ok (.invokevirtual 116, 3) := by decide +kernel
theorem dX11_passesNight_7 : decode cX11_passesNight 7 = .ok (.if_icmp .ge 40, 3) := by decide +kernel
theorem dX11_passesNight_10 : decode cX11_passesNight 10 = .ok (.aload_n 0, 1) := by decide +kernel
theorem dX11_passesNight_11 : decode cX11_passesNight 11 = .ok (.getfield 24, 3) := by decide +kernel
theorem dX11_passesNight_14 : decode cX11_passesNight 14 = .ok (.bipush 32, 2) := by decide +kernel
theorem dX11_passesNight_16 : decode cX11_passesNight 16 = .ok (.dup2, 1) := by decide +kernel
theorem dX11_passesNight_17 : decode cX11_passesNight 17 = .ok (.iaload, 1) := by decide +kernel
theorem dX11_passesNight_18 : decode cX11_passesNight 18 = .ok (.aload_n 0, 1) := by decide +kernel
theorem dX11_passesNight_19 : decode cX11_passesNight 19 = .ok (.getfield 24, 3) := by decide +kernel
theorem dX11_passesNight_22 : decode cX11_passesNight 22 = .ok (.iconst 0, 1) := by decide +kernel
theorem dX11_passesNight_23 : decode cX11_passesNight 23 = .ok (.iload_n 1, 1) := by decide +kernel
theorem dX11_passesNight_24 : decode cX11_passesNight 24 = .ok (.iadd, 1) := by decide +kernel
theorem dX11_passesNight_25 : decode cX11_passesNight 25 = .ok (.iaload, 1) := by decide +kernel
theorem dX11_passesNight_26 : decode cX11_passesNight 26 = .ok (.iconst 2, 1) := by decide +kernel
theorem dX11_passesNight_27 : decode cX11_passesNight 27 = .ok (.if_icmp .ne 11, 3) := by decide +kernel
theorem dX11_passesNight_30 : decode cX11_passesNight 30 = .ok (.aload_n 0, 1) := by decide +kernel
theorem dX11_passesNight_31 : decode cX11_passesNight 31 = .ok (.iload_n 1, 1) := by decide +kernel
theorem dX11_passesNight_32 : decode cX11_passesNight 32 = .ok (.invokevirtual 312, 3) := by decide +kernel
theorem dX11_passesNight_35 : decode cX11_passesNight 35 = .ok (.goto 4, 3) := by decide +kernel
theorem dX11_passesNight_38 : decode cX11_passesNight 38 = .ok (.iconst 0, 1) := by decide +kernel
theorem dX11_passesNight_39 : decode cX11_passesNight 39 = .ok (.iadd, 1) := by decide +kernel
theorem dX11_passesNight_40 : decode cX11_passesNight 40 = .ok (.iastore, 1) := by decide +kernel
theorem dX11_passesNight_41 : decode cX11_passesNight 41 = .ok (.iinc 1 1, 3) := by decide +kernel
theorem dX11_passesNight_44 : decode cX11_passesNight 44 = .ok (.goto (-42), 3) := by decide +kernel
theorem dX11_passesNight_47 : decode cX11_passesNight 47 = .ok (.aload_n 0, 1) := by decide +kernel
theorem dX11_passesNight_48 : decode cX11_passesNight 48 = .ok (.getfield 24, 3) := by decide +kernel
theorem dX11_passesNight_51 : decode cX11_passesNight 51 = .ok (.bipush 33, 2) := by decide +kernel
theorem dX11_passesNight_53 : decode cX11_passesNight 53 = .ok (.dup2, 1) := by decide +kernel
theorem dX11_passesNight_54 : decode cX11_passesNight 54 = .ok (.iaload, 1) := by decide +kernel
theorem dX11_passesNight_55 : decode cX11_passesNight 55 = .ok (.iconst 1, 1) := by decide +kernel
theorem dX11_passesNight_56 : decode cX11_passesNight 56 = .ok (.iadd, 1) := by decide +kernel
theorem dX11_passesNight_57 : decode cX11_passesNight 57 = .ok (.iastore, 1) := by decide +kernel
theorem dX11_passesNight_58 : decode cX11_passesNight 58 = .ok (.iconst 0, 1) := by decide +kernel
theorem dX11_passesNight_59 : decode cX11_passesNight 59 = .ok (.istore_n 1, 1) := by decide +kernel
theorem dX11_passesNight_60 : decode cX11_passesNight 60 = .ok (.iload_n 1, 1) := by decide +kernel
theorem dX11_passesNight_61 : decode cX11_passesNight 61 = .ok (.aload_n 0, 1) := by decide +kernel
theorem dX11_passesNight_62 : decode cX11_passesNight 62 = .ok (.invokevirtual 116, 3) := by decide +kernel
theorem dX11_passesNight_65 : decode cX11_passesNight 65 = .ok (.if_icmp .ge 62, 3) := by decide +kernel
theorem dX11_passesNight_68 : decode cX11_passesNight 68 = .ok (.aload_n 0, 1) := by decide +kernel
theorem dX11_passesNight_69 : decode cX11_passesNight 69 = .ok (.getfield 24, 3) := by decide +kernel
theorem dX11_passesNight_72 : decode cX11_passesNight 72 = .ok (.iconst 0, 1) := by decide +kernel
theorem dX11_passesNight_73 : decode cX11_passesNight 73 = .ok (.iload_n 1, 1) := by decide +kernel
theorem dX11_passesNight_74 : decode cX11_passesNight 74 = .ok (.iadd, 1) := by decide +kernel
theorem dX11_passesNight_75 : decode cX11_passesNight 75 = .ok (.iaload, 1) := by decide +kernel
theorem dX11_passesNight_76 : decode cX11_passesNight 76 = .ok (.iconst 1, 1) := by decide +kernel
theorem dX11_passesNight_77 : decode cX11_passesNight 77 = .ok (.if_icmp .ne 44, 3) := by decide +kernel
theorem dX11_passesNight_80 : decode cX11_passesNight 80 = .ok (.aload_n 0, 1) := by decide +kernel
theorem dX11_passesNight_81 : decode cX11_passesNight 81 = .ok (.getfield 24, 3) := by decide +kernel
theorem dX11_passesNight_84 : decode cX11_passesNight 84 = .ok (.bipush 10, 2) := by decide +kernel
theorem dX11_passesNight_86 : decode cX11_passesNight 86 = .ok (.iload_n 1, 1) := by decide +kernel
theorem dX11_passesNight_87 : decode cX11_passesNight 87 = .ok (.iadd, 1) := by decide +kernel
theorem dX11_passesNight_88 : decode cX11_passesNight 88 = .ok (.iaload, 1) := by decide +kernel
theorem dX11_passesNight_89 : decode cX11_passesNight 89 = .ok (.aload_n 0, 1) := by decide +kernel
theorem dX11_passesNight_90 : decode cX11_passesNight 90 = .ok (.getfield 24, 3) := by decide +kernel
theorem dX11_passesNight_93 : decode cX11_passesNight 93 = .ok (.bipush 33, 2) := by decide +kernel
theorem dX11_passesNight_95 : decode cX11_passesNight 95 = .ok (.iaload, 1) := by decide +kernel
theorem dX11_passesNight_96 : decode cX11_passesNight 96 = .ok (.if_icmp .le 6, 3) := by decide +kernel
theorem dX11_passesNight_99 : decode cX11_passesNight 99 = .ok (.goto 22, 3) := by decide +kernel
theorem dX11_passesNight_102 : decode cX11_passesNight 102 = .ok (.aload_n 0, 1) := by decide +kernel
theorem dX11_passesNight_103 : decode cX11_passesNight 103 = .ok (.getfield 24, 3) := by decide +kernel
theorem dX11_passesNight_106 : decode cX11_passesNight 106 = .ok (.iconst 0, 1) := by decide +kernel
theorem dX11_passesNight_107 : decode cX11_passesNight 107 = .ok (.iload_n 1, 1) := by decide +kernel
theorem dX11_passesNight_108 : decode cX11_passesNight 108 = .ok (.iadd, 1) := by decide +kernel
theorem dX11_passesNight_109 : decode cX11_passesNight 109 = .ok (.iconst 2, 1) := by decide +kernel
theorem dX11_passesNight_110 : decode cX11_passesNight 110 = .ok (.iastore, 1) := by decide +kernel
theorem dX11_passesNight_111 : decode cX11_passesNight 111 = .ok (.aload_n 0, 1) := by decide +kernel
theorem dX11_passesNight_112 : decode cX11_passesNight 112 = .ok (.getfield 24, 3) := by decide +kernel
theorem dX11_passesNight_115 : decode cX11_passesNight 115 = .ok (.bipush 10, 2) := by decide +kernel
theorem dX11_passesNight_117 : decode cX11_passesNight 117 = .ok (.iload_n 1, 1) := by decide +kernel
theorem dX11_passesNight_118 : decode cX11_passesNight 118 = .ok (.iadd, 1) := by decide +kernel
theorem dX11_passesNight_119 : decode cX11_passesNight 119 = .ok (.iconst (-1), 1) := by decide +kernel
theorem dX11_passesNight_120 : decode cX11_passesNight 120 = .ok (.iastore, 1) := by decide +kernel
theorem dX11_passesNight_121 : decode cX11_passesNight 121 = .ok (.iinc 1 1, 3) := by decide +kernel
theorem dX11_passesNight_124 : decode cX11_passesNight 124 = .ok (.goto (-64), 3) := by decide +kernel
theorem dX11_passesNight_127 : decode cX11_passesNight 127 = .ok (.return_, 1) := by decide +kernel
def B_X11_passesNight_39 (Q : st_S → Prop)  (k2 : Int → st_S → Prop) (l1 : Int) (v0 : Int) (v1 : Int) (v2 : Int) (σ : st_S) : Prop := ∀ x35 : Int, x35 = wr (v1 + v0) → ix (wr v2) 5866 ∧ ∀ s37 : st_S, s37 = sI σ 2 (Int.toNat (wr v2)) x35 → ∀ x38 : Int, x38 = wr (l1 + 1) → k2 x38 s37
def B_X11_passesNight_121 (Q : st_S → Prop)  (k60 : Int → st_S → Prop) (l1 : Int) (σ : st_S) : Prop := ∀ x39 : Int, x39 = wr (l1 + 1) → k60 x39 σ
def L_X11_passesNight_60 (Q : st_S → Prop)   : Nat → Int → st_S → Prop
  | 0 => fun _ _ => False
  | n + 1 => fun l1 σ => wp_X11_people σ (fun r40 s41 => (r40 ≤ l1 → Q s41) ∧ (¬ r40 ≤ l1 → ix (wr (0 + l1)) 5866 ∧ (¬ gI s41 2 (Int.toNat (wr (0 + l1))) = 1 → B_X11_passesNight_121 Q (L_X11_passesNight_60 Q n) l1 s41) ∧ (gI s41 2 (Int.toNat (wr (0 + l1))) = 1 → ix (wr (10 + l1)) 5866 ∧ (gI s41 2 (Int.toNat (wr (10 + l1))) ≤ gI s41 2 33 → ix (wr (0 + l1)) 5866 ∧ ∀ s48 : st_S, s48 = sI s41 2 (Int.toNat (wr (0 + l1))) 2 → ix (wr (10 + l1)) 5866 ∧ ∀ s50 : st_S, s50 = sI s48 2 (Int.toNat (wr (10 + l1))) (-1) → B_X11_passesNight_121 Q (L_X11_passesNight_60 Q n) l1 s50) ∧ (¬ gI s41 2 (Int.toNat (wr (10 + l1))) ≤ gI s41 2 33 → B_X11_passesNight_121 Q (L_X11_passesNight_60 Q n) l1 s41))))
def L_X11_passesNight_2 (Q : st_S → Prop)   : Nat → Int → st_S → Prop
  | 0 => fun _ _ => False
  | n + 1 => fun l1 σ => wp_X11_people σ (fun r54 s55 => (r54 ≤ l1 → ∀ x57 : Int, x57 = wr (gI s55 2 33 + 1) → ∀ s58 : st_S, s58 = sI s55 2 33 x57 → ∃ m60 : Nat, L_X11_passesNight_60 Q m60 0 s58) ∧ (¬ r54 ≤ l1 → ix (wr (0 + l1)) 5866 ∧ (¬ gI s55 2 (Int.toNat (wr (0 + l1))) = 2 → B_X11_passesNight_39 Q (L_X11_passesNight_2 Q n) l1 0 (gI s55 2 32) 32 s55) ∧ (gI s55 2 (Int.toNat (wr (0 + l1))) = 2 → wp_X11_lodgesNow l1 s55 (fun r62 s63 => B_X11_passesNight_39 Q (L_X11_passesNight_2 Q n) l1 r62 (gI s55 2 32) 32 s63))))
def wp_X11_passesNight  (σ : st_S) (Q : st_S → Prop) : Prop := ∃ m2 : Nat, L_X11_passesNight_2 Q m2 0 σ
set_option maxRecDepth 20000 in
theorem jb_X11_passesNight_39 {X : jj_X} {E : ev_E} {n0 hN : Nat} (hc : Cx X E cX11_passesNight 2 n0 hN RX11) (hm : eM E = 2) (hr : (xT X).sig.returnType = none) (hh : 127 ≤ hN) {Q : st_S → Prop} {k2 : Int → st_S → Prop} (hk2 : ∀ {l1 : Int} (cl1 : wr l1 = l1) {σ : st_S}, k2 l1 σ → J X E 2 n0 0 0 (MQ (xB X) (qV E (n0 + 0) Q) (xA X) (xS X) 0 0 (eF E)) σ 2 [(0, vR E 0), (1, vI l1)] []) {l1 : Int} {v0 : Int} {v1 : Int} {v2 : Int} (cl1 : wr l1 = l1) (cv0 : wr v0 = v0) {σ : st_S} (h : B_X11_passesNight_39 Q k2 l1 v0 v1 v2 σ) : J X E 2 n0 0 0 (MQ (xB X) (qV E (n0 + 0) Q) (xA X) (xS X) 0 0 (eF E)) σ 39 [(0, vR E 0), (1, vI l1)] [vI v0, vI v1, vI v2, vR E 2] := by
  have hh1 : 1 ≤ hN := by omega
  replace h : ∀ x35 : Int, x35 = wr (v1 + v0) → ix (wr v2) 5866 ∧ ∀ s37 : st_S, s37 = sI σ 2 (Int.toNat (wr v2)) x35 → ∀ x38 : Int, x38 = wr (l1 + 1) → k2 x38 s37 := h
  refine j_iadd hc dX11_passesNight_39 ?_
  refine j_w (fun x35 ex35 cx35 => ?_)
  replace h := h x35 ex35
  obtain ⟨b36, h⟩ := h
  refine j_iast (jn := (Int.toNat (wr v2))) hc (fun hv => sv_kl hv hm rfl) rfl b36 rfl cx35 dX11_passesNight_40 (fun s37 es37 => ?_)
  replace h := h s37 es37
  obtain ⟨x38, ex38⟩ : ∃ y : Int, y = wr (l1 + 1) := ⟨_, rfl⟩
  have cx38 : wr x38 = x38 := by rw [ex38]; exact wr_wr _
  replace h := h x38 ex38
  refine j_iinc (lv' := [(1, vI x38), (0, vR E 0)]) hc 1 dX11_passesNight_41 rfl (by decide) ex38 rfl ?_
  refine j_goto (tgt := 2) hc dX11_passesNight_44 (by decide) ?_
  refine j_sub (lv' := [(0, vR E 0), (1, vI x38)]) [1, 0] rfl ?_
  exact hk2 cx38 h
set_option maxRecDepth 20000 in
theorem jb_X11_passesNight_121 {X : jj_X} {E : ev_E} {n0 hN : Nat} (hc : Cx X E cX11_passesNight 2 n0 hN RX11) (hm : eM E = 2) (hr : (xT X).sig.returnType = none) (hh : 127 ≤ hN) {Q : st_S → Prop} {k60 : Int → st_S → Prop} (hk60 : ∀ {l1 : Int} (cl1 : wr l1 = l1) {σ : st_S}, k60 l1 σ → J X E 2 n0 0 0 (MQ (xB X) (qV E (n0 + 0) Q) (xA X) (xS X) 0 0 (eF E)) σ 60 [(0, vR E 0), (1, vI l1)] []) {l1 : Int} (cl1 : wr l1 = l1) {σ : st_S} (h : B_X11_passesNight_121 Q k60 l1 σ) : J X E 2 n0 0 0 (MQ (xB X) (qV E (n0 + 0) Q) (xA X) (xS X) 0 0 (eF E)) σ 121 [(0, vR E 0), (1, vI l1)] [] := by
  have hh1 : 1 ≤ hN := by omega
  replace h : ∀ x39 : Int, x39 = wr (l1 + 1) → k60 x39 σ := h
  obtain ⟨x39, ex39⟩ : ∃ y : Int, y = wr (l1 + 1) := ⟨_, rfl⟩
  have cx39 : wr x39 = x39 := by rw [ex39]; exact wr_wr _
  replace h := h x39 ex39
  refine j_iinc (lv' := [(1, vI x39), (0, vR E 0)]) hc 1 dX11_passesNight_121 rfl (by decide) ex39 rfl ?_
  refine j_goto (tgt := 60) hc dX11_passesNight_124 (by decide) ?_
  refine j_sub (lv' := [(0, vR E 0), (1, vI x39)]) [1, 0] rfl ?_
  exact hk60 cx39 h
set_option maxRecDepth 20000 in
theorem jl_X11_passesNight_60 {X : jj_X} {E : ev_E} {n0 hN : Nat} (hc : Cx X E cX11_passesNight 2 n0 hN RX11) (hm : eM E = 2) (hr : (xT X).sig.returnType = none) (hh : 127 ≤ hN) {Q : st_S → Prop} : ∀ (n : Nat) {l1 : Int} (cl1 : wr l1 = l1) {σ : st_S}, L_X11_passesNight_60 Q n l1 σ → J X E 2 n0 0 0 (MQ (xB X) (qV E (n0 + 0) Q) (xA X) (xS X) 0 0 (eF E)) σ 60 [(0, vR E 0), (1, vI l1)] [] := by
  have hh1 : 1 ≤ hN := by omega
  intro n
  induction n with
  | zero => intro l1 cl1 σ h; exact h.elim
  | succ n ih =>
    intro l1 cl1 σ h
    have hk60 : ∀ {l1 : Int} (cl1 : wr l1 = l1) {σ : st_S}, L_X11_passesNight_60 Q n l1 σ → J X E 2 n0 0 0 (MQ (xB X) (qV E (n0 + 0) Q) (xA X) (xS X) 0 0 (eF E)) σ 60 [(0, vR E 0), (1, vI l1)] [] := ih
    replace h : wp_X11_people σ (fun r40 s41 => (r40 ≤ l1 → Q s41) ∧ (¬ r40 ≤ l1 → ix (wr (0 + l1)) 5866 ∧ (¬ gI s41 2 (Int.toNat (wr (0 + l1))) = 1 → B_X11_passesNight_121 Q (L_X11_passesNight_60 Q n) l1 s41) ∧ (gI s41 2 (Int.toNat (wr (0 + l1))) = 1 → ix (wr (10 + l1)) 5866 ∧ (gI s41 2 (Int.toNat (wr (10 + l1))) ≤ gI s41 2 33 → ix (wr (0 + l1)) 5866 ∧ ∀ s48 : st_S, s48 = sI s41 2 (Int.toNat (wr (0 + l1))) 2 → ix (wr (10 + l1)) 5866 ∧ ∀ s50 : st_S, s50 = sI s48 2 (Int.toNat (wr (10 + l1))) (-1) → B_X11_passesNight_121 Q (L_X11_passesNight_60 Q n) l1 s50) ∧ (¬ gI s41 2 (Int.toNat (wr (10 + l1))) ≤ gI s41 2 33 → B_X11_passesNight_121 Q (L_X11_passesNight_60 Q n) l1 s41)))) := h
    refine j_iload_n hc 1 dX11_passesNight_60 rfl rfl ?_
    refine j_aload_nR hc 0 dX11_passesNight_61 rfl rfl ?_
    refine j_vI hc (k := 11) (by decide) (fun hv => Or.inl (sv_k hv hm rfl)) ml_RX11_116 mv_X11_people (As := []) (c_X11_people (cx_E hc) hm  h) rfl (by omega) (by decide) ⟨Nat.zero_le _, Nat.zero_le _⟩ (Nat.le_of_ble_eq_true rfl) rfl dX11_passesNight_62 (fun r40 s41 cr40 h => ?_)
    refine j_ic_ge hc cl1 cr40 (tgt := 127) dX11_passesNight_65 (by decide) (fun q53 => ?_) (fun q53 => ?_)
    · replace h := h.1 q53
      exact j_vret hc hr h dX11_passesNight_127
    · replace h := h.2 q53
      refine j_aload_nR hc 0 dX11_passesNight_68 rfl rfl ?_
      refine j_getR (c' := 2) hc fl_RX11_24 rfl rfl (fun hv => (sv_k hv hm rfl)) dX11_passesNight_69 ?_
      refine j_iconst hc dX11_passesNight_72 ?_
      refine j_iload_n hc 1 dX11_passesNight_73 rfl rfl ?_
      refine j_iadd hc dX11_passesNight_74 ?_
      obtain ⟨b42, h⟩ := h
      refine j_iald (jn := (Int.toNat (wr (0 + l1)))) hc (fun hv => sv_kl hv hm rfl) rfl b42 rfl dX11_passesNight_75 (fun cn43 => ?_)
      refine j_iconst hc dX11_passesNight_76 ?_
      refine j_ic_ne hc cn43 (wlit 1 (by decide)) (tgt := 121) dX11_passesNight_77 (by decide) (fun q52 => ?_) (fun q52 => ?_)
      · replace h := h.1 q52
        refine j_sub (lv' := [(0, vR E 0), (1, vI l1)]) [0, 1] rfl ?_
        exact jb_X11_passesNight_121 hc hm hr hh hk60 cl1 h
      · replace h := h.2 q52
        refine j_aload_nR hc 0 dX11_passesNight_80 rfl rfl ?_
        refine j_getR (c' := 2) hc fl_RX11_24 rfl rfl (fun hv => (sv_k hv hm rfl)) dX11_passesNight_81 ?_
        refine j_bipush hc dX11_passesNight_84 (by decide) ?_
        refine j_iload_n hc 1 dX11_passesNight_86 rfl rfl ?_
        refine j_iadd hc dX11_passesNight_87 ?_
        obtain ⟨b44, h⟩ := h
        refine j_iald (jn := (Int.toNat (wr (10 + l1)))) hc (fun hv => sv_kl hv hm rfl) rfl b44 rfl dX11_passesNight_88 (fun cn45 => ?_)
        refine j_aload_nR hc 0 dX11_passesNight_89 rfl rfl ?_
        refine j_getR (c' := 2) hc fl_RX11_24 rfl rfl (fun hv => (sv_k hv hm rfl)) dX11_passesNight_90 ?_
        refine j_bipush hc dX11_passesNight_93 (by decide) ?_
        refine j_iald (jn := 33) hc (fun hv => sv_kl hv hm rfl) (wlit 33 (by decide)) ⟨by decide, by decide⟩ rfl dX11_passesNight_95 (fun cn46 => ?_)
        refine j_ic_le hc cn45 cn46 (tgt := 102) dX11_passesNight_96 (by decide) (fun q51 => ?_) (fun q51 => ?_)
        · replace h := h.1 q51
          refine j_aload_nR hc 0 dX11_passesNight_102 rfl rfl ?_
          refine j_getR (c' := 2) hc fl_RX11_24 rfl rfl (fun hv => (sv_k hv hm rfl)) dX11_passesNight_103 ?_
          refine j_iconst hc dX11_passesNight_106 ?_
          refine j_iload_n hc 1 dX11_passesNight_107 rfl rfl ?_
          refine j_iadd hc dX11_passesNight_108 ?_
          refine j_iconst hc dX11_passesNight_109 ?_
          obtain ⟨b47, h⟩ := h
          refine j_iast (jn := (Int.toNat (wr (0 + l1)))) hc (fun hv => sv_kl hv hm rfl) rfl b47 rfl (wlit 2 (by decide)) dX11_passesNight_110 (fun s48 es48 => ?_)
          replace h := h s48 es48
          refine j_aload_nR hc 0 dX11_passesNight_111 rfl rfl ?_
          refine j_getR (c' := 2) hc fl_RX11_24 rfl rfl (fun hv => (sv_k hv hm rfl)) dX11_passesNight_112 ?_
          refine j_bipush hc dX11_passesNight_115 (by decide) ?_
          refine j_iload_n hc 1 dX11_passesNight_117 rfl rfl ?_
          refine j_iadd hc dX11_passesNight_118 ?_
          refine j_iconst hc dX11_passesNight_119 ?_
          obtain ⟨b49, h⟩ := h
          refine j_iast (jn := (Int.toNat (wr (10 + l1)))) hc (fun hv => sv_kl hv hm rfl) rfl b49 rfl (wlit (-1) (by decide)) dX11_passesNight_120 (fun s50 es50 => ?_)
          replace h := h s50 es50
          refine j_sub (lv' := [(0, vR E 0), (1, vI l1)]) [0, 1] rfl ?_
          exact jb_X11_passesNight_121 hc hm hr hh hk60 cl1 h
        · replace h := h.2 q51
          refine j_goto (tgt := 121) hc dX11_passesNight_99 (by decide) ?_
          refine j_sub (lv' := [(0, vR E 0), (1, vI l1)]) [0, 1] rfl ?_
          exact jb_X11_passesNight_121 hc hm hr hh hk60 cl1 h
set_option maxRecDepth 20000 in
theorem jl_X11_passesNight_2 {X : jj_X} {E : ev_E} {n0 hN : Nat} (hc : Cx X E cX11_passesNight 2 n0 hN RX11) (hm : eM E = 2) (hr : (xT X).sig.returnType = none) (hh : 127 ≤ hN) {Q : st_S → Prop} : ∀ (n : Nat) {l1 : Int} (cl1 : wr l1 = l1) {σ : st_S}, L_X11_passesNight_2 Q n l1 σ → J X E 2 n0 0 0 (MQ (xB X) (qV E (n0 + 0) Q) (xA X) (xS X) 0 0 (eF E)) σ 2 [(0, vR E 0), (1, vI l1)] [] := by
  have hh1 : 1 ≤ hN := by omega
  intro n
  induction n with
  | zero => intro l1 cl1 σ h; exact h.elim
  | succ n ih =>
    intro l1 cl1 σ h
    have hk2 : ∀ {l1 : Int} (cl1 : wr l1 = l1) {σ : st_S}, L_X11_passesNight_2 Q n l1 σ → J X E 2 n0 0 0 (MQ (xB X) (qV E (n0 + 0) Q) (xA X) (xS X) 0 0 (eF E)) σ 2 [(0, vR E 0), (1, vI l1)] [] := ih
    replace h : wp_X11_people σ (fun r54 s55 => (r54 ≤ l1 → ∀ x57 : Int, x57 = wr (gI s55 2 33 + 1) → ∀ s58 : st_S, s58 = sI s55 2 33 x57 → ∃ m60 : Nat, L_X11_passesNight_60 Q m60 0 s58) ∧ (¬ r54 ≤ l1 → ix (wr (0 + l1)) 5866 ∧ (¬ gI s55 2 (Int.toNat (wr (0 + l1))) = 2 → B_X11_passesNight_39 Q (L_X11_passesNight_2 Q n) l1 0 (gI s55 2 32) 32 s55) ∧ (gI s55 2 (Int.toNat (wr (0 + l1))) = 2 → wp_X11_lodgesNow l1 s55 (fun r62 s63 => B_X11_passesNight_39 Q (L_X11_passesNight_2 Q n) l1 r62 (gI s55 2 32) 32 s63)))) := h
    refine j_iload_n hc 1 dX11_passesNight_2 rfl rfl ?_
    refine j_aload_nR hc 0 dX11_passesNight_3 rfl rfl ?_
    refine j_vI hc (k := 11) (by decide) (fun hv => Or.inl (sv_k hv hm rfl)) ml_RX11_116 mv_X11_people (As := []) (c_X11_people (cx_E hc) hm  h) rfl (by omega) (by decide) ⟨Nat.zero_le _, Nat.zero_le _⟩ (Nat.le_of_ble_eq_true rfl) rfl dX11_passesNight_4 (fun r54 s55 cr54 h => ?_)
    refine j_ic_ge hc cl1 cr54 (tgt := 47) dX11_passesNight_7 (by decide) (fun q65 => ?_) (fun q65 => ?_)
    · replace h := h.1 q65
      refine j_aload_nR hc 0 dX11_passesNight_47 rfl rfl ?_
      refine j_getR (c' := 2) hc fl_RX11_24 rfl rfl (fun hv => (sv_k hv hm rfl)) dX11_passesNight_48 ?_
      refine j_bipush hc dX11_passesNight_51 (by decide) ?_
      refine j_dup2 hc dX11_passesNight_53 rfl rfl ?_
      refine j_iald (jn := 33) hc (fun hv => sv_kl hv hm rfl) (wlit 33 (by decide)) ⟨by decide, by decide⟩ rfl dX11_passesNight_54 (fun cn56 => ?_)
      refine j_iconst hc dX11_passesNight_55 ?_
      refine j_iadd hc dX11_passesNight_56 ?_
      refine j_w (fun x57 ex57 cx57 => ?_)
      replace h := h x57 ex57
      refine j_iast (jn := 33) hc (fun hv => sv_kl hv hm rfl) (wlit 33 (by decide)) ⟨by decide, by decide⟩ rfl cx57 dX11_passesNight_57 (fun s58 es58 => ?_)
      replace h := h s58 es58
      refine j_iconst hc dX11_passesNight_58 ?_
      refine j_istore_n (lv' := [(1, vI 0), (0, vR E 0)]) hc dX11_passesNight_59 rfl (by decide) rfl ?_
      obtain ⟨n60, h⟩ := h
      refine j_sub (lv' := [(0, vR E 0), (1, vI 0)]) [1, 0] rfl ?_
      exact jl_X11_passesNight_60 hc hm hr hh n60 (wlit 0 (by decide)) h
    · replace h := h.2 q65
      refine j_aload_nR hc 0 dX11_passesNight_10 rfl rfl ?_
      refine j_getR (c' := 2) hc fl_RX11_24 rfl rfl (fun hv => (sv_k hv hm rfl)) dX11_passesNight_11 ?_
      refine j_bipush hc dX11_passesNight_14 (by decide) ?_
      refine j_dup2 hc dX11_passesNight_16 rfl rfl ?_
      refine j_iald (jn := 32) hc (fun hv => sv_kl hv hm rfl) (wlit 32 (by decide)) ⟨by decide, by decide⟩ rfl dX11_passesNight_17 (fun cn59 => ?_)
      refine j_aload_nR hc 0 dX11_passesNight_18 rfl rfl ?_
      refine j_getR (c' := 2) hc fl_RX11_24 rfl rfl (fun hv => (sv_k hv hm rfl)) dX11_passesNight_19 ?_
      refine j_iconst hc dX11_passesNight_22 ?_
      refine j_iload_n hc 1 dX11_passesNight_23 rfl rfl ?_
      refine j_iadd hc dX11_passesNight_24 ?_
      obtain ⟨b60, h⟩ := h
      refine j_iald (jn := (Int.toNat (wr (0 + l1)))) hc (fun hv => sv_kl hv hm rfl) rfl b60 rfl dX11_passesNight_25 (fun cn61 => ?_)
      refine j_iconst hc dX11_passesNight_26 ?_
      refine j_ic_ne hc cn61 (wlit 2 (by decide)) (tgt := 38) dX11_passesNight_27 (by decide) (fun q64 => ?_) (fun q64 => ?_)
      · replace h := h.1 q64
        refine j_iconst hc dX11_passesNight_38 ?_
        refine j_sub (lv' := [(0, vR E 0), (1, vI l1)]) [0, 1] rfl ?_
        exact jb_X11_passesNight_39 hc hm hr hh hk2 cl1 (wlit 0 (by decide)) h
      · replace h := h.2 q64
        refine j_aload_nR hc 0 dX11_passesNight_30 rfl rfl ?_
        refine j_iload_n hc 1 dX11_passesNight_31 rfl rfl ?_
        refine j_vI hc (k := 11) (by decide) (fun hv => Or.inl (sv_k hv hm rfl)) ml_RX11_312 mv_X11_lodgesNow (As := [vI l1]) (c_X11_lodgesNow (cx_E hc) hm cl1 h) rfl (by omega) (by decide) ⟨Nat.zero_le _, Nat.zero_le _⟩ (Nat.le_of_ble_eq_true rfl) rfl dX11_passesNight_32 (fun r62 s63 cr62 h => ?_)
        refine j_goto (tgt := 39) hc dX11_passesNight_35 (by decide) ?_
        refine j_sub (lv' := [(0, vR E 0), (1, vI l1)]) [0, 1] rfl ?_
        exact jb_X11_passesNight_39 hc hm hr hh hk2 cl1 cr62 h
set_option maxRecDepth 20000 in
theorem c_X11_passesNight {l : Launch} {E : ev_E} (hE : Eok E) (hm : eM E = 2) {σ : st_S} {Q : st_S → Prop} (h : wp_X11_passesNight σ Q) : cM l yX11_passesNight cX11_passesNight 2 none E 127 0 0 [vR E 0] σ (qV E (gN σ + 0) Q) := by
  refine cM_of (lv := [(0, vR E 0)]) (by decide) hE (Nat.le_of_ble_eq_true rfl) (rfl) ?_
  intro X hX hc _ _ hr _ _
  subst hX
  have hh : 127 ≤ 127 := Nat.le_refl _
  have hh1 : 1 ≤ 127 := by omega
  replace h : ∃ m2 : Nat, L_X11_passesNight_2 Q m2 0 σ := h
  refine j_iconst hc dX11_passesNight_0 ?_
  refine j_istore_n (lv' := [(1, vI 0), (0, vR E 0)]) hc dX11_passesNight_1 rfl (by decide) rfl ?_
  obtain ⟨n2, h⟩ := h
  refine j_sub (lv' := [(0, vR E 0), (1, vI 0)]) [1, 0] rfl ?_
  exact jl_X11_passesNight_2 hc hm hr hh n2 (wlit 0 (by decide)) h
-- LitStrangersModel.mayLight(I)Z
theorem dX11_mayLight_0 : decode cX11_mayLight 0 = .ok (.aload_n 0, 1) := by decide +kernel
theorem dX11_mayLight_1 : decode cX11_mayLight 1 = .ok (.getfield 24, 3) := by decide +kernel
theorem dX11_mayLight_4 : decode cX11_mayLight 4 = .ok (.iconst 0, 1) := by decide +kernel
theorem dX11_mayLight_5 : decode cX11_mayLight 5 = .ok (.iload_n 1, 1) := by decide +kernel
theorem dX11_mayLight_6 : decode cX11_mayLight 6 = .ok (.iadd, 1) := by decide +kernel
theorem dX11_mayLight_7 : decode cX11_mayLight 7 = .ok (.iaload, 1) := by decide +kernel
theorem dX11_mayLight_8 : decode cX11_mayLight 8 = .ok (.iconst 2, 1) := by decide +kernel
theorem dX11_mayLight_9 : decode cX11_mayLight 9 = .ok (.if_icmp .ne 50, 3) := by decide +kernel
theorem dX11_mayLight_12 : decode cX11_mayLight 12 = .ok (.aload_n 0, 1) := by decide +kernel
theorem dX11_mayLight_13 : decode cX11_mayLight 13 = .ok (.iload_n 1, 1) := by decide +kernel
theorem dX11_mayLight_14 : decode cX11_mayLight 14 = .ok (.invokevirtual 138, 3) := by decide +kernel
theorem dX11_mayLight_17 : decode cX11_mayLight 17 = .ok (.ifCond .le 42, 3) := by decide +kernel
theorem dX11_mayLight_20 : decode cX11_mayLight 20 = .ok (.aload_n 0, 1) := by decide +kernel
theorem dX11_mayLight_21 : decode cX11_mayLight 21 = .ok (.iload_n 1, 1) := by decide +kernel
theorem dX11_mayLight_22 : decode cX11_mayLight 22 = .ok (.aload_n 0, 1) := by decide +kernel
theorem dX11_mayLight_23 : decode cX11_mayLight 23 = .ok (.getfield 24, 3) := by decide +kernel
theorem dX11_mayLight_26 : decode cX11_mayLight 26 = .ok (.bipush 20, 2) := by decide +kernel
theorem dX11_mayLight_28 : decode cX11_mayLight 28 = .ok (.iload_n 1, 1) := by decide +kernel
theorem dX11_mayLight_29 : decode cX11_mayLight 29 = .ok (.iadd, 1) := by decide +kernel
theorem dX11_mayLight_30 : decode cX11_mayLight 30 = .ok (.iaload, 1) := by decide +kernel
theorem dX11_mayLight_31 : decode cX11_mayLight 31 = .ok (.aload_n 0, 1) := by decide +kernel
theorem dX11_mayLight_32 : decode cX11_mayLight 32 = .ok (.getfield 24, 3) := by decide +kernel
theorem dX11_mayLight_35 : decode cX11_mayLight 35 = .ok (.bipush 33, 2) := by decide +kernel
theorem dX11_mayLight_37 : decode cX11_mayLight 37 = .ok (.iaload, 1) := by decide +kernel
theorem dX11_mayLight_38 : decode cX11_mayLight 38 = .ok (.aload_n 0, 1) := by decide +kernel
theorem dX11_mayLight_39 : decode cX11_mayLight 39 = .ok (.aload_n 0, 1) := by decide +kernel
theorem dX11_mayLight_40 : decode cX11_mayLight 40 = .ok (.getfield 24, 3) := by decide +kernel
theorem dX11_mayLight_43 : decode cX11_mayLight 43 = .ok (.bipush 33, 2) := by decide +kernel
theorem dX11_mayLight_45 : decode cX11_mayLight 45 = .ok (.iaload, 1) := by decide +kernel
theorem dX11_mayLight_46 : decode cX11_mayLight 46 = .ok (.invokevirtual 292, 3) := by decide +kernel
theorem dX11_mayLight_49 : decode cX11_mayLight 49 = .ok (.invokevirtual 315, 3) := by decide +kernel
theorem dX11_mayLight_52 : decode cX11_mayLight 52 = .ok (.ifCond .ne 7, 3) := by decide +kernel
theorem dX11_mayLight_55 : decode cX11_mayLight 55 = .ok (.iconst 1, 1) := by decide +kernel
theorem dX11_mayLight_56 : decode cX11_mayLight 56 = .ok (.goto 4, 3) := by decide +kernel
theorem dX11_mayLight_59 : decode cX11_mayLight 59 = .ok (.iconst 0, 1) := by decide +kernel
theorem dX11_mayLight_60 : decode cX11_mayLight 60 = .ok (.ireturn, 1) := by decide +kernel
def B_X11_mayLight_60 (Q : Int → st_S → Prop)   (v0 : Int) (σ : st_S) : Prop := (v0 = 0 ∨ v0 = 1) ∧ Q v0 σ
def B_X11_mayLight_59 (Q : Int → st_S → Prop)    (σ : st_S) : Prop := B_X11_mayLight_60 Q 0 σ
def wp_X11_mayLight (a1 : Int) (σ : st_S) (Q : Int → st_S → Prop) : Prop := ix (wr (0 + a1)) 5866 ∧ (¬ gI σ 2 (Int.toNat (wr (0 + a1))) = 2 → B_X11_mayLight_59 Q σ) ∧ (gI σ 2 (Int.toNat (wr (0 + a1))) = 2 → wp_X11_worthOf a1 σ (fun r17 s18 => (r17 ≤ 0 → B_X11_mayLight_59 Q s18) ∧ (¬ r17 ≤ 0 → ix (wr (20 + a1)) 5866 ∧ wp_X11_fogOn (gI s18 2 33) s18 (fun r23 s24 => wp_X11_isBarred a1 (gI s18 2 (Int.toNat (wr (20 + a1)))) (gI s18 2 33) r23 s24 (fun r25 s26 => (¬ r25 = 0 → B_X11_mayLight_59 Q s26) ∧ (r25 = 0 → B_X11_mayLight_60 Q 1 s26))))))
set_option maxRecDepth 20000 in
theorem jb_X11_mayLight_60 {X : jj_X} {E : ev_E} {n0 hN : Nat} (hc : Cx X E cX11_mayLight 2 n0 hN RX11) (hm : eM E = 2) (hr : (xT X).sig.returnType = (some .boolean)) (hh : 127 ≤ hN) {Q : Int → st_S → Prop} {v0 : Int} (cv0 : wr v0 = v0) {σ : st_S} (h : B_X11_mayLight_60 Q v0 σ) : J X E 2 n0 0 0 (MQ (xB X) (qI E (n0 + 0) Q) (xA X) (xS X) 0 0 (eF E)) σ 60 [] [vI v0] := by
  have hh1 : 1 ≤ hN := by omega
  replace h : (v0 = 0 ∨ v0 = 1) ∧ Q v0 σ := h
  exact j_zret hc hr (nar_bool h.1) (by rcases h.1 with e | e <;> (rw [e]; decide)) h.2 dX11_mayLight_60
set_option maxRecDepth 20000 in
theorem jb_X11_mayLight_59 {X : jj_X} {E : ev_E} {n0 hN : Nat} (hc : Cx X E cX11_mayLight 2 n0 hN RX11) (hm : eM E = 2) (hr : (xT X).sig.returnType = (some .boolean)) (hh : 127 ≤ hN) {Q : Int → st_S → Prop} {σ : st_S} (h : B_X11_mayLight_59 Q σ) : J X E 2 n0 0 0 (MQ (xB X) (qI E (n0 + 0) Q) (xA X) (xS X) 0 0 (eF E)) σ 59 [] [] := by
  have hh1 : 1 ≤ hN := by omega
  replace h : B_X11_mayLight_60 Q 0 σ := h
  refine j_iconst hc dX11_mayLight_59 ?_
  refine j_sub (lv' := []) [] rfl ?_
  exact jb_X11_mayLight_60 hc hm hr hh (wlit 0 (by decide)) h
set_option maxRecDepth 20000 in
theorem c_X11_mayLight {l : Launch} {E : ev_E} (hE : Eok E) (hm : eM E = 2) {a1 : Int} (ca1 : wr a1 = a1) {σ : st_S} {Q : Int → st_S → Prop} (h : wp_X11_mayLight a1 σ Q) : cM l yX11_mayLight cX11_mayLight 2 (some .boolean) E 127 0 0 [vR E 0, vI a1] σ (qI E (gN σ + 0) Q) := by
  refine cM_of (lv := [(0, vR E 0), (1, vI a1)]) (by decide) hE (Nat.le_of_ble_eq_true rfl) (rfl) ?_
  intro X hX hc _ _ hr _ _
  subst hX
  have hh : 127 ≤ 127 := Nat.le_refl _
  have hh1 : 1 ≤ 127 := by omega
  replace h : ix (wr (0 + a1)) 5866 ∧ (¬ gI σ 2 (Int.toNat (wr (0 + a1))) = 2 → B_X11_mayLight_59 Q σ) ∧ (gI σ 2 (Int.toNat (wr (0 + a1))) = 2 → wp_X11_worthOf a1 σ (fun r17 s18 => (r17 ≤ 0 → B_X11_mayLight_59 Q s18) ∧ (¬ r17 ≤ 0 → ix (wr (20 + a1)) 5866 ∧ wp_X11_fogOn (gI s18 2 33) s18 (fun r23 s24 => wp_X11_isBarred a1 (gI s18 2 (Int.toNat (wr (20 + a1)))) (gI s18 2 33) r23 s24 (fun r25 s26 => (¬ r25 = 0 → B_X11_mayLight_59 Q s26) ∧ (r25 = 0 → B_X11_mayLight_60 Q 1 s26)))))) := h
  refine j_aload_nR hc 0 dX11_mayLight_0 rfl rfl ?_
  refine j_getR (c' := 2) hc fl_RX11_24 rfl rfl (fun hv => (sv_k hv hm rfl)) dX11_mayLight_1 ?_
  refine j_iconst hc dX11_mayLight_4 ?_
  refine j_iload_n hc 1 dX11_mayLight_5 rfl rfl ?_
  refine j_iadd hc dX11_mayLight_6 ?_
  obtain ⟨b15, h⟩ := h
  refine j_iald (jn := (Int.toNat (wr (0 + a1)))) hc (fun hv => sv_kl hv hm rfl) rfl b15 rfl dX11_mayLight_7 (fun cn16 => ?_)
  refine j_iconst hc dX11_mayLight_8 ?_
  refine j_ic_ne hc cn16 (wlit 2 (by decide)) (tgt := 59) dX11_mayLight_9 (by decide) (fun q29 => ?_) (fun q29 => ?_)
  · replace h := h.1 q29
    refine j_sub (lv' := []) [] rfl ?_
    exact jb_X11_mayLight_59 hc hm hr hh h
  · replace h := h.2 q29
    refine j_aload_nR hc 0 dX11_mayLight_12 rfl rfl ?_
    refine j_iload_n hc 1 dX11_mayLight_13 rfl rfl ?_
    refine j_vI hc (k := 11) (by decide) (fun hv => Or.inl (sv_k hv hm rfl)) ml_RX11_138 mv_X11_worthOf (As := [vI a1]) (c_X11_worthOf (cx_E hc) hm ca1 h) rfl (by omega) (by decide) ⟨Nat.zero_le _, Nat.zero_le _⟩ (Nat.le_of_ble_eq_true rfl) rfl dX11_mayLight_14 (fun r17 s18 cr17 h => ?_)
    refine j_if_le hc cr17 (tgt := 59) dX11_mayLight_17 (by decide) (fun q28 => ?_) (fun q28 => ?_)
    · replace h := h.1 q28
      refine j_sub (lv' := []) [] rfl ?_
      exact jb_X11_mayLight_59 hc hm hr hh h
    · replace h := h.2 q28
      refine j_aload_nR hc 0 dX11_mayLight_20 rfl rfl ?_
      refine j_iload_n hc 1 dX11_mayLight_21 rfl rfl ?_
      refine j_aload_nR hc 0 dX11_mayLight_22 rfl rfl ?_
      refine j_getR (c' := 2) hc fl_RX11_24 rfl rfl (fun hv => (sv_k hv hm rfl)) dX11_mayLight_23 ?_
      refine j_bipush hc dX11_mayLight_26 (by decide) ?_
      refine j_iload_n hc 1 dX11_mayLight_28 rfl rfl ?_
      refine j_iadd hc dX11_mayLight_29 ?_
      obtain ⟨b19, h⟩ := h
      refine j_iald (jn := (Int.toNat (wr (20 + a1)))) hc (fun hv => sv_kl hv hm rfl) rfl b19 rfl dX11_mayLight_30 (fun cn20 => ?_)
      refine j_aload_nR hc 0 dX11_mayLight_31 rfl rfl ?_
      refine j_getR (c' := 2) hc fl_RX11_24 rfl rfl (fun hv => (sv_k hv hm rfl)) dX11_mayLight_32 ?_
      refine j_bipush hc dX11_mayLight_35 (by decide) ?_
      refine j_iald (jn := 33) hc (fun hv => sv_kl hv hm rfl) (wlit 33 (by decide)) ⟨by decide, by decide⟩ rfl dX11_mayLight_37 (fun cn21 => ?_)
      refine j_aload_nR hc 0 dX11_mayLight_38 rfl rfl ?_
      refine j_aload_nR hc 0 dX11_mayLight_39 rfl rfl ?_
      refine j_getR (c' := 2) hc fl_RX11_24 rfl rfl (fun hv => (sv_k hv hm rfl)) dX11_mayLight_40 ?_
      refine j_bipush hc dX11_mayLight_43 (by decide) ?_
      refine j_iald (jn := 33) hc (fun hv => sv_kl hv hm rfl) (wlit 33 (by decide)) ⟨by decide, by decide⟩ rfl dX11_mayLight_45 (fun cn22 => ?_)
      refine j_vI hc (k := 11) (by decide) (fun hv => Or.inl (sv_k hv hm rfl)) ml_RX11_292 mv_X11_fogOn (As := [vI (gI s18 2 33)]) (c_X11_fogOn (cx_E hc) hm cn22 h) rfl (by omega) (by decide) ⟨Nat.zero_le _, Nat.zero_le _⟩ (Nat.le_of_ble_eq_true rfl) rfl dX11_mayLight_46 (fun r23 s24 cr23 h => ?_)
      refine j_vI hc (k := 11) (by decide) (fun hv => Or.inl (sv_k hv hm rfl)) ml_RX11_315 mv_X11_isBarred (As := [vI a1, vI (gI s18 2 (Int.toNat (wr (20 + a1)))), vI (gI s18 2 33), vI r23]) (c_X11_isBarred (cx_E hc) hm ca1 cn20 cn21 cr23 h) rfl (by omega) (by decide) ⟨Nat.zero_le _, Nat.zero_le _⟩ (Nat.le_of_ble_eq_true rfl) rfl dX11_mayLight_49 (fun r25 s26 cr25 h => ?_)
      refine j_if_ne hc cr25 (tgt := 59) dX11_mayLight_52 (by decide) (fun q27 => ?_) (fun q27 => ?_)
      · replace h := h.1 q27
        refine j_sub (lv' := []) [] rfl ?_
        exact jb_X11_mayLight_59 hc hm hr hh h
      · replace h := h.2 q27
        refine j_iconst hc dX11_mayLight_55 ?_
        refine j_goto (tgt := 60) hc dX11_mayLight_56 (by decide) ?_
        refine j_sub (lv' := []) [] rfl ?_
        exact jb_X11_mayLight_60 hc hm hr hh (wlit 1 (by decide)) h
-- LitStrangersModel.needOn(I)I
theorem dX11_needOn_0 : decode cX11_needOn 0 = .ok (.iload_n 0, 1) := by decide +kernel
theorem dX11_needOn_1 : decode cX11_needOn 1 = .ok (.iconst 1, 1) := by decide +kernel
theorem dX11_needOn_2 : decode cX11_needOn 2 = .ok (.if_icmp .ne 7, 3) := by decide +kernel
theorem dX11_needOn_5 : decode cX11_needOn 5 = .ok (.iconst 4, 1) := by decide +kernel
theorem dX11_needOn_6 : decode cX11_needOn 6 = .ok (.goto 4, 3) := by decide +kernel
theorem dX11_needOn_9 : decode cX11_needOn 9 = .ok (.iconst 2, 1) := by decide +kernel
theorem dX11_needOn_10 : decode cX11_needOn 10 = .ok (.ireturn, 1) := by decide +kernel
def B_X11_needOn_10 (Q : Int → st_S → Prop)   (v0 : Int) (σ : st_S) : Prop := Q v0 σ
def wp_X11_needOn (a1 : Int) (σ : st_S) (Q : Int → st_S → Prop) : Prop := (¬ a1 = 1 → B_X11_needOn_10 Q 2 σ) ∧ (a1 = 1 → B_X11_needOn_10 Q 4 σ)
set_option maxRecDepth 20000 in
theorem jb_X11_needOn_10 {X : jj_X} {E : ev_E} {n0 hN : Nat} (hc : Cx X E cX11_needOn 1 n0 hN RX11) (hm : eM E = 2) (hr : (xT X).sig.returnType = (some .int)) (hh : 1 ≤ hN) {Q : Int → st_S → Prop} {v0 : Int} (cv0 : wr v0 = v0) {σ : st_S} (h : B_X11_needOn_10 Q v0 σ) : J X E 1 n0 0 0 (MQ (xB X) (qI E (n0 + 0) Q) (xA X) (xS X) 0 0 (eF E)) σ 10 [] [vI v0] := by
  have hh1 : 1 ≤ hN := by omega
  replace h : Q v0 σ := h
  exact j_iret hc hr cv0 h dX11_needOn_10
set_option maxRecDepth 20000 in
theorem c_X11_needOn {l : Launch} {E : ev_E} (hE : Eok E) (hm : eM E = 2) {a1 : Int} (ca1 : wr a1 = a1) {σ : st_S} {Q : Int → st_S → Prop} (h : wp_X11_needOn a1 σ Q) : cM l yX11_needOn cX11_needOn 1 (some .int) E 1 0 0 [vI a1] σ (qI E (gN σ + 0) Q) := by
  refine cM_of (lv := [(0, vI a1)]) (by decide) hE (Nat.le_of_ble_eq_true rfl) (rfl) ?_
  intro X hX hc _ _ hr _ _
  subst hX
  have hh : 1 ≤ 1 := Nat.le_refl _
  have hh1 : 1 ≤ 1 := by omega
  replace h : (¬ a1 = 1 → B_X11_needOn_10 Q 2 σ) ∧ (a1 = 1 → B_X11_needOn_10 Q 4 σ) := h
  refine j_iload_n hc 0 dX11_needOn_0 rfl rfl ?_
  refine j_iconst hc dX11_needOn_1 ?_
  refine j_ic_ne hc ca1 (wlit 1 (by decide)) (tgt := 9) dX11_needOn_2 (by decide) (fun q1 => ?_) (fun q1 => ?_)
  · replace h := h.1 q1
    refine j_iconst hc dX11_needOn_9 ?_
    refine j_sub (lv' := []) [] rfl ?_
    exact jb_X11_needOn_10 hc hm hr hh (wlit 2 (by decide)) h
  · replace h := h.2 q1
    refine j_iconst hc dX11_needOn_5 ?_
    refine j_goto (tgt := 10) hc dX11_needOn_6 (by decide) ?_
    refine j_sub (lv' := []) [] rfl ?_
    exact jb_X11_needOn_10 hc hm hr hh (wlit 4 (by decide)) h
-- LitStrangersModel.lightsKept(I)I
theorem dX11_lightsKept_0 : decode cX11_lightsKept 0 = .ok (.iload_n 1, 1) := by decide +kernel
theorem dX11_lightsKept_1 : decode cX11_lightsKept 1 = .ok (.iconst 1, 1) := by decide +kernel
theorem dX11_lightsKept_2 : decode cX11_lightsKept 2 = .ok (.sipush 1023, 3) := by decide +kernel
theorem dX11_lightsKept_5 : decode cX11_lightsKept 5 = .ok (.invokestatic 106, 3) := by decide +kernel
theorem dX11_lightsKept_8 : decode cX11_lightsKept 8 = .ok (.ifCond .ne 5, 3) := by decide +kernel
theorem dX11_lightsKept_11 : decode cX11_lightsKept 11 = .ok (.iconst (-1), 1) := by decide +kernel
theorem dX11_lightsKept_12 : decode cX11_lightsKept 12 = .ok (.ireturn, 1) := by decide +kernel
theorem dX11_lightsKept_13 : decode cX11_lightsKept 13 = .ok (.iconst 0, 1) := by decide +kernel
theorem dX11_lightsKept_14 : decode cX11_lightsKept 14 = .ok (.istore_n 2, 1) := by decide +kernel
theorem dX11_lightsKept_15 : decode cX11_lightsKept 15 = .ok (.iconst 0, 1) := by decide +kernel
theorem dX11_lightsKept_16 : decode cX11_lightsKept 16 = .ok (.istore_n 3, 1) := by decide +kernel
theorem dX11_lightsKept_17 : decode cX11_lightsKept 17 = .ok (.iload_n 3, 1) := by decide +kernel
theorem dX11_lightsKept_18 : decode cX11_lightsKept 18 = .ok (.bipush 10, 2) := by decide +kernel
theorem dX11_lightsKept_20 : decode cX11_lightsKept 20 = .ok (.if_icmp .ge 28, 3) := by decide +kernel
theorem dX11_lightsKept_23 : decode cX11_lightsKept 23 = .ok (.iload_n 1, 1) := by decide +kernel
theorem dX11_lightsKept_24 : decode cX11_lightsKept 24 = .ok (.iload_n 3, 1) := by decide +kernel
theorem dX11_lightsKept_25 : decode cX11_lightsKept 25 = .ok (.invokestatic 325, 3) := by decide +kernel
theorem dX11_lightsKept_28 : decode cX11_lightsKept 28 = .ok (.ifCond .eq 14, 3) := by decide +kernel
theorem dX11_lightsKept_31 : decode cX11_lightsKept 31 = .ok (.aload_n 0, 1) := by decide +kernel
theorem dX11_lightsKept_32 : decode cX11_lightsKept 32 = .ok (.iload_n 3, 1) := by decide +kernel
theorem dX11_lightsKept_33 : decode cX11_lightsKept 33 = .ok (.invokevirtual 128, 3) := by decide +kernel
theorem dX11_lightsKept_36 : decode cX11_lightsKept 36 = .ok (.ifCond .ne 6, 3) := by decide +kernel
theorem dX11_lightsKept_39 : decode cX11_lightsKept 39 = .ok (.bipush (-2), 2) := by decide +kernel
theorem dX11_lightsKept_41 : decode cX11_lightsKept 41 = .ok (.ireturn, 1) := by decide +kernel
theorem dX11_lightsKept_42 : decode cX11_lightsKept 42 = .ok (.iinc 3 1, 3) := by decide +kernel
theorem dX11_lightsKept_45 : decode cX11_lightsKept 45 = .ok (.goto (-28), 3) := by decide +kernel
theorem dX11_lightsKept_48 : decode cX11_lightsKept 48 = .ok (.aload_n 0, 1) := by decide +kernel
theorem dX11_lightsKept_49 : decode cX11_lightsKept 49 = .ok (.getfield 24, 3) := by decide +kernel
theorem dX11_lightsKept_52 : decode cX11_lightsKept 52 = .ok (.bipush 33, 2) := by decide +kernel
theorem dX11_lightsKept_54 : decode cX11_lightsKept 54 = .ok (.iaload, 1) := by decide +kernel
theorem dX11_lightsKept_55 : decode cX11_lightsKept 55 = .ok (.sipush 999, 3) := by decide +kernel
theorem dX11_lightsKept_58 : decode cX11_lightsKept 58 = .ok (.if_icmp .ge 7, 3) := by decide +kernel
theorem dX11_lightsKept_61 : decode cX11_lightsKept 61 = .ok (.iconst 1, 1) := by decide +kernel
theorem dX11_lightsKept_62 : decode cX11_lightsKept 62 = .ok (.goto 4, 3) := by decide +kernel
theorem dX11_lightsKept_65 : decode cX11_lightsKept 65 = .ok (.iconst 0, 1) := by decide +kernel
theorem dX11_lightsKept_66 : decode cX11_lightsKept 66 = .ok (.istore_n 3, 1) := by decide +kernel
theorem dX11_lightsKept_67 : decode cX11_lightsKept 67 = .ok (.iconst 0, 1) := by decide +kernel
theorem dX11_lightsKept_68 : decode cX11_lightsKept 68 = .ok (.istore 4, 2) := by decide +kernel
theorem dX11_lightsKept_70 : decode cX11_lightsKept 70 = .ok (.iload 4, 2) := by decide +kernel
theorem dX11_lightsKept_72 : decode cX11_lightsKept 72 = .ok (.aload_n 0, 1) := by decide +kernel
theorem dX11_lightsKept_73 : decode cX11_lightsKept 73 = .ok (.invokevirtual 116, 3) := by decide +kernel
theorem dX11_lightsKept_76 : decode cX11_lightsKept 76 = .ok (.if_icmp .ge 49, 3) := by decide +kernel
theorem dX11_lightsKept_79 : decode cX11_lightsKept 79 = .ok (.iload_n 1, 1) := by decide +kernel
theorem dX11_lightsKept_80 : decode cX11_lightsKept 80 = .ok (.iload 4, 2) := by decide +kernel
theorem dX11_lightsKept_82 : decode cX11_lightsKept 82 = .ok (.invokestatic 325, 3) := by decide +kernel
theorem dX11_lightsKept_85 : decode cX11_lightsKept 85 = .ok (.ifCond .ne 6, 3) := by decide +kernel
theorem dX11_lightsKept_88 : decode cX11_lightsKept 88 = .ok (.goto 31, 3) := by decide +kernel
theorem dX11_lightsKept_91 : decode cX11_lightsKept 91 = .ok (.iload_n 3, 1) := by decide +kernel
theorem dX11_lightsKept_92 : decode cX11_lightsKept 92 = .ok (.ifCond .eq 16, 3) := by decide +kernel
theorem dX11_lightsKept_95 : decode cX11_lightsKept 95 = .ok (.aload_n 0, 1) := by decide +kernel
theorem dX11_lightsKept_96 : decode cX11_lightsKept 96 = .ok (.iload 4, 2) := by decide +kernel
theorem dX11_lightsKept_98 : decode cX11_lightsKept 98 = .ok (.invokevirtual 328, 3) := by decide +kernel
theorem dX11_lightsKept_101 : decode cX11_lightsKept 101 = .ok (.ifCond .eq 7, 3) := by decide +kernel
theorem dX11_lightsKept_104 : decode cX11_lightsKept 104 = .ok (.iconst 1, 1) := by decide +kernel
theorem dX11_lightsKept_105 : decode cX11_lightsKept 105 = .ok (.goto 4, 3) := by decide +kernel
theorem dX11_lightsKept_108 : decode cX11_lightsKept 108 = .ok (.iconst 0, 1) := by decide +kernel
theorem dX11_lightsKept_109 : decode cX11_lightsKept 109 = .ok (.istore_n 3, 1) := by decide +kernel
theorem dX11_lightsKept_110 : decode cX11_lightsKept 110 = .ok (.iload_n 2, 1) := by decide +kernel
theorem dX11_lightsKept_111 : decode cX11_lightsKept 111 = .ok (.aload_n 0, 1) := by decide +kernel
theorem dX11_lightsKept_112 : decode cX11_lightsKept 112 = .ok (.iload 4, 2) := by decide +kernel
theorem dX11_lightsKept_114 : decode cX11_lightsKept 114 = .ok (.invokevirtual 138, 3) := by decide +kernel
theorem dX11_lightsKept_117 : decode cX11_lightsKept 117 = .ok (.iadd, 1) := by decide +kernel
theorem dX11_lightsKept_118 : decode cX11_lightsKept 118 = .ok (.istore_n 2, 1) := by decide +kernel
theorem dX11_lightsKept_119 : decode cX11_lightsKept 119 = .ok (.iinc 4 1, 3) := by decide +kernel
theorem dX11_lightsKept_122 : decode cX11_lightsKept 122 = .ok (.goto (-52), 3) := by decide +kernel
theorem dX11_lightsKept_125 : decode cX11_lightsKept 125 = .ok (.iload_n 3, 1) := by decide +kernel
theorem dX11_lightsKept_126 : decode cX11_lightsKept 126 = .ok (.ifCond .eq 21, 3) := by decide +kernel
theorem dX11_lightsKept_129 : decode cX11_lightsKept 129 = .ok (.iload_n 2, 1) := by decide +kernel
theorem dX11_lightsKept_130 : decode cX11_lightsKept 130 = .ok (.aload_n 0, 1) := by decide +kernel
theorem dX11_lightsKept_131 : decode cX11_lightsKept 131 = .ok (.aload_n 0, 1) := by decide +kernel
theorem dX11_lightsKept_132 : decode cX11_lightsKept 132 = .ok (.getfield 24, 3) := by decide +kernel
theorem dX11_lightsKept_135 : decode cX11_lightsKept 135 = .ok (.bipush 33, 2) := by decide +kernel
theorem dX11_lightsKept_137 : decode cX11_lightsKept 137 = .ok (.iaload, 1) := by decide +kernel
theorem dX11_lightsKept_138 : decode cX11_lightsKept 138 = .ok (.invokevirtual 292, 3) := by decide +kernel
theorem dX11_lightsKept_141 : decode cX11_lightsKept 141 = .ok (.invokestatic 331, 3) := by decide +kernel
theorem dX11_lightsKept_144 : decode cX11_lightsKept 144 = .ok (.if_icmp .ge 6, 3) := by decide +kernel
theorem dX11_lightsKept_147 : decode cX11_lightsKept 147 = .ok (.bipush (-3), 2) := by decide +kernel
theorem dX11_lightsKept_149 : decode cX11_lightsKept 149 = .ok (.ireturn, 1) := by decide +kernel
theorem dX11_lightsKept_150 : decode cX11_lightsKept 150 = .ok (.aload_n 0, 1) := by decide +kernel
theorem dX11_lightsKept_151 : decode cX11_lightsKept 151 = .ok (.iconst 1, 1) := by decide +kernel
theorem dX11_lightsKept_152 : decode cX11_lightsKept 152 = .ok (.invokevirtual 322, 3) := by decide +kernel
theorem dX11_lightsKept_155 : decode cX11_lightsKept 155 = .ok (.iconst 0, 1) := by decide +kernel
theorem dX11_lightsKept_156 : decode cX11_lightsKept 156 = .ok (.istore 4, 2) := by decide +kernel
theorem dX11_lightsKept_158 : decode cX11_lightsKept 158 = .ok (.iload 4, 2) := by decide +kernel
theorem dX11_lightsKept_160 : decode cX11_lightsKept 160 = .ok (.aload_n 0, 1) := by decide +kernel
theorem dX11_lightsKept_161 : decode cX11_lightsKept 161 = .ok (.invokevirtual 116, 3) := by decide +kernel
theorem dX11_lightsKept_164 : decode cX11_lightsKept 164 = .ok (.if_icmp .ge 28, 3) := by decide +kernel
theorem dX11_lightsKept_167 : decode cX11_lightsKept 167 = .ok (.iload_n 1, 1) := by decide +kernel
theorem dX11_lightsKept_168 : decode cX11_lightsKept 168 = .ok (.iload 4, 2) := by decide +kernel
theorem dX11_lightsKept_170 : decode cX11_lightsKept 170 = .ok (.invokestatic 325, 3) := by decide +kernel
theorem dX11_lightsKept_173 : decode cX11_lightsKept 173 = .ok (.ifCond .eq 13, 3) := by decide +kernel
theorem dX11_lightsKept_176 : decode cX11_lightsKept 176 = .ok (.aload_n 0, 1) := by decide +kernel
theorem dX11_lightsKept_177 : decode cX11_lightsKept 177 = .ok (.getfield 24, 3) := by decide +kernel
theorem dX11_lightsKept_180 : decode cX11_lightsKept 180 = .ok (.iconst 0, 1) := by decide +kernel
theorem dX11_lightsKept_181 : decode cX11_lightsKept 181 = .ok (.iload 4, 2) := by decide +kernel
theorem dX11_lightsKept_183 : decode cX11_lightsKept 183 = .ok (.iadd, 1) := by decide +kernel
theorem dX11_lightsKept_184 : decode cX11_lightsKept 184 = .ok (.iconst 3, 1) := by decide +kernel
theorem dX11_lightsKept_185 : decode cX11_lightsKept 185 = .ok (.iastore, 1) := by decide +kernel
theorem dX11_lightsKept_186 : decode cX11_lightsKept 186 = .ok (.iinc 4 1, 3) := by decide +kernel
theorem dX11_lightsKept_189 : decode cX11_lightsKept 189 = .ok (.goto (-31), 3) := by decide +kernel
theorem dX11_lightsKept_192 : decode cX11_lightsKept 192 = .ok (.iconst 0, 1) := by decide +kernel
theorem dX11_lightsKept_193 : decode cX11_lightsKept 193 = .ok (.istore 4, 2) := by decide +kernel
theorem dX11_lightsKept_195 : decode cX11_lightsKept 195 = .ok (.iload 4, 2) := by decide +kernel
theorem dX11_lightsKept_197 : decode cX11_lightsKept 197 = .ok (.aload_n 0, 1) := by decide +kernel
theorem dX11_lightsKept_198 : decode cX11_lightsKept 198 = .ok (.invokevirtual 116, 3) := by decide +kernel
theorem dX11_lightsKept_201 : decode cX11_lightsKept 201 = .ok (.if_icmp .ge 93, 3) := by decide +kernel
theorem dX11_lightsKept_204 : decode cX11_lightsKept 204 = .ok (.iconst 0, 1) := by decide +kernel
theorem dX11_lightsKept_205 : decode cX11_lightsKept 205 = .ok (.istore 5, 2) := by decide +kernel
theorem dX11_lightsKept_207 : decode cX11_lightsKept 207 = .ok (.iload 5, 2) := by decide +kernel
theorem dX11_lightsKept_209 : decode cX11_lightsKept 209 = .ok (.aload_n 0, 1) := by decide +kernel
theorem dX11_lightsKept_210 : decode cX11_lightsKept 210 = .ok (.invokevirtual 116, 3) := by decide +kernel
theorem dX11_lightsKept_213 : decode cX11_lightsKept 213 = .ok (.if_icmp .ge 75, 3) := by decide +kernel
theorem dX11_lightsKept_216 : decode cX11_lightsKept 216 = .ok (.iload_n 1, 1) := by decide +kernel
theorem dX11_lightsKept_217 : decode cX11_lightsKept 217 = .ok (.iload 4, 2) := by decide +kernel
theorem dX11_lightsKept_219 : decode cX11_lightsKept 219 = .ok (.invokestatic 325, 3) := by decide +kernel
theorem dX11_lightsKept_222 : decode cX11_lightsKept 222 = .ok (.ifCond .eq 66, 3) := by decide +kernel
theorem dX11_lightsKept_225 : decode cX11_lightsKept 225 = .ok (.aload_n 0, 1) := by decide +kernel
theorem dX11_lightsKept_226 : decode cX11_lightsKept 226 = .ok (.getfield 24, 3) := by decide +kernel
theorem dX11_lightsKept_229 : decode cX11_lightsKept 229 = .ok (.iconst 0, 1) := by decide +kernel
theorem dX11_lightsKept_230 : decode cX11_lightsKept 230 = .ok (.iload 5, 2) := by decide +kernel
theorem dX11_lightsKept_232 : decode cX11_lightsKept 232 = .ok (.iadd, 1) := by decide +kernel
theorem dX11_lightsKept_233 : decode cX11_lightsKept 233 = .ok (.iaload, 1) := by decide +kernel
theorem dX11_lightsKept_234 : decode cX11_lightsKept 234 = .ok (.iconst 3, 1) := by decide +kernel
theorem dX11_lightsKept_235 : decode cX11_lightsKept 235 = .ok (.if_icmp .eq 47, 3) := by decide +kernel
theorem dX11_lightsKept_238 : decode cX11_lightsKept 238 = .ok (.aload_n 0, 1) := by decide +kernel
theorem dX11_lightsKept_239 : decode cX11_lightsKept 239 = .ok (.iload 4, 2) := by decide +kernel
theorem dX11_lightsKept_241 : decode cX11_lightsKept 241 = .ok (.iload 5, 2) := by decide +kernel
theorem dX11_lightsKept_243 : decode cX11_lightsKept 243 = .ok (.invokevirtual 334, 3) := by decide +kernel
theorem dX11_lightsKept_246 : decode cX11_lightsKept 246 = .ok (.ifCond .eq 36, 3) := by decide +kernel
theorem dX11_lightsKept_249 : decode cX11_lightsKept 249 = .ok (.aload_n 0, 1) := by decide +kernel
theorem dX11_lightsKept_250 : decode cX11_lightsKept 250 = .ok (.getfield 24, 3) := by decide +kernel
theorem dX11_lightsKept_253 : decode cX11_lightsKept 253 = .ok (.bipush 20, 2) := by decide +kernel
theorem dX11_lightsKept_255 : decode cX11_lightsKept 255 = .ok (.iload 5, 2) := by decide +kernel
theorem dX11_lightsKept_257 : decode cX11_lightsKept 257 = .ok (.iadd, 1) := by decide +kernel
theorem dX11_lightsKept_258 : decode cX11_lightsKept 258 = .ok (.iconst 2, 1) := by decide +kernel
theorem dX11_lightsKept_259 : decode cX11_lightsKept 259 = .ok (.aload_n 0, 1) := by decide +kernel
theorem dX11_lightsKept_260 : decode cX11_lightsKept 260 = .ok (.getfield 24, 3) := by decide +kernel
theorem dX11_lightsKept_263 : decode cX11_lightsKept 263 = .ok (.bipush 20, 2) := by decide +kernel
theorem dX11_lightsKept_265 : decode cX11_lightsKept 265 = .ok (.iload 5, 2) := by decide +kernel
theorem dX11_lightsKept_267 : decode cX11_lightsKept 267 = .ok (.iadd, 1) := by decide +kernel
theorem dX11_lightsKept_268 : decode cX11_lightsKept 268 = .ok (.iaload, 1) := by decide +kernel
theorem dX11_lightsKept_269 : decode cX11_lightsKept 269 = .ok (.aload_n 0, 1) := by decide +kernel
theorem dX11_lightsKept_270 : decode cX11_lightsKept 270 = .ok (.iload 4, 2) := by decide +kernel
theorem dX11_lightsKept_272 : decode cX11_lightsKept 272 = .ok (.iload 5, 2) := by decide +kernel
theorem dX11_lightsKept_274 : decode cX11_lightsKept 274 = .ok (.invokevirtual 319, 3) := by decide +kernel
theorem dX11_lightsKept_277 : decode cX11_lightsKept 277 = .ok (.iadd, 1) := by decide +kernel
theorem dX11_lightsKept_278 : decode cX11_lightsKept 278 = .ok (.invokestatic 337, 3) := by decide +kernel
theorem dX11_lightsKept_281 : decode cX11_lightsKept 281 = .ok (.iastore, 1) := by decide +kernel
theorem dX11_lightsKept_282 : decode cX11_lightsKept 282 = .ok (.iinc 5 1, 3) := by decide +kernel
theorem dX11_lightsKept_285 : decode cX11_lightsKept 285 = .ok (.goto (-78), 3) := by decide +kernel
theorem dX11_lightsKept_288 : decode cX11_lightsKept 288 = .ok (.iinc 4 1, 3) := by decide +kernel
theorem dX11_lightsKept_291 : decode cX11_lightsKept 291 = .ok (.goto (-96), 3) := by decide +kernel
theorem dX11_lightsKept_294 : decode cX11_lightsKept 294 = .ok (.aload_n 0, 1) := by decide +kernel
theorem dX11_lightsKept_295 : decode cX11_lightsKept 295 = .ok (.getfield 24, 3) := by decide +kernel
theorem dX11_lightsKept_298 : decode cX11_lightsKept 298 = .ok (.bipush 30, 2) := by decide +kernel
theorem dX11_lightsKept_300 : decode cX11_lightsKept 300 = .ok (.dup2, 1) := by decide +kernel
theorem dX11_lightsKept_301 : decode cX11_lightsKept 301 = .ok (.iaload, 1) := by decide +kernel
theorem dX11_lightsKept_302 : decode cX11_lightsKept 302 = .ok (.iconst 1, 1) := by decide +kernel
theorem dX11_lightsKept_303 : decode cX11_lightsKept 303 = .ok (.iadd, 1) := by decide +kernel
theorem dX11_lightsKept_304 : decode cX11_lightsKept 304 = .ok (.iastore, 1) := by decide +kernel
theorem dX11_lightsKept_305 : decode cX11_lightsKept 305 = .ok (.aload_n 0, 1) := by decide +kernel
theorem dX11_lightsKept_306 : decode cX11_lightsKept 306 = .ok (.invokevirtual 340, 3) := by decide +kernel
theorem dX11_lightsKept_309 : decode cX11_lightsKept 309 = .ok (.iload_n 2, 1) := by decide +kernel
theorem dX11_lightsKept_310 : decode cX11_lightsKept 310 = .ok (.ireturn, 1) := by decide +kernel
def B_X11_lightsKept_42 (Q : Int → st_S → Prop)  (k17 : Int → Int → Int → st_S → Prop) (l1 : Int) (l2 : Int) (l3 : Int) (σ : st_S) : Prop := ∀ x72 : Int, x72 = wr (l3 + 1) → k17 l1 l2 x72 σ
def B_X11_lightsKept_119 (Q : Int → st_S → Prop)  (k70 : Int → Int → Int → Int → st_S → Prop) (l1 : Int) (l2 : Int) (l3 : Int) (l4 : Int) (σ : st_S) : Prop := ∀ x73 : Int, x73 = wr (l4 + 1) → k70 l1 l2 l3 x73 σ
def B_X11_lightsKept_109 (Q : Int → st_S → Prop)  (k70 : Int → Int → Int → Int → st_S → Prop) (l1 : Int) (l2 : Int) (l4 : Int) (v0 : Int) (σ : st_S) : Prop := wp_X11_worthOf l4 σ (fun r74 s75 => ∀ x76 : Int, x76 = wr (l2 + r74) → B_X11_lightsKept_119 Q k70 l1 x76 v0 l4 s75)
def B_X11_lightsKept_108 (Q : Int → st_S → Prop)  (k70 : Int → Int → Int → Int → st_S → Prop) (l1 : Int) (l2 : Int) (l4 : Int) (σ : st_S) : Prop := B_X11_lightsKept_109 Q k70 l1 l2 l4 0 σ
def B_X11_lightsKept_147 (Q : Int → st_S → Prop)    (σ : st_S) : Prop := Q (-3) σ
def B_X11_lightsKept_186 (Q : Int → st_S → Prop)  (k158 : Int → Int → Int → st_S → Prop) (l1 : Int) (l2 : Int) (l4 : Int) (σ : st_S) : Prop := ∀ x77 : Int, x77 = wr (l4 + 1) → k158 l1 l2 x77 σ
def B_X11_lightsKept_282 (Q : Int → st_S → Prop)  (k195 : Int → Int → Int → st_S → Prop) (k207 : Int → Int → Int → Int → st_S → Prop) (l1 : Int) (l2 : Int) (l4 : Int) (l5 : Int) (σ : st_S) : Prop := ∀ x78 : Int, x78 = wr (l5 + 1) → k207 l1 l2 l4 x78 σ
def B_X11_lightsKept_288 (Q : Int → st_S → Prop)  (k195 : Int → Int → Int → st_S → Prop) (l1 : Int) (l2 : Int) (l4 : Int) (σ : st_S) : Prop := ∀ x79 : Int, x79 = wr (l4 + 1) → k195 l1 l2 x79 σ
def L_X11_lightsKept_207 (Q : Int → st_S → Prop)  (k195 : Int → Int → Int → st_S → Prop) : Nat → Int → Int → Int → Int → st_S → Prop
  | 0 => fun _ _ _ _ _ => False
  | n + 1 => fun l1 l2 l4 l5 σ => wp_X11_people σ (fun r80 s81 => (r80 ≤ l5 → B_X11_lightsKept_288 Q k195 l1 l2 l4 s81) ∧ (¬ r80 ≤ l5 → wp_X11_isIn l1 l4 s81 (fun r82 s83 => (r82 = 0 → B_X11_lightsKept_288 Q k195 l1 l2 l4 s83) ∧ (¬ r82 = 0 → ix (wr (0 + l5)) 5866 ∧ (gI s83 2 (Int.toNat (wr (0 + l5))) = 3 → B_X11_lightsKept_282 Q k195 (L_X11_lightsKept_207 Q k195 n) l1 l2 l4 l5 s83) ∧ (¬ gI s83 2 (Int.toNat (wr (0 + l5))) = 3 → wp_X11_doTalk l4 l5 s83 (fun r86 s87 => (r86 = 0 → B_X11_lightsKept_282 Q k195 (L_X11_lightsKept_207 Q k195 n) l1 l2 l4 l5 s87) ∧ (¬ r86 = 0 → ix (wr (20 + l5)) 5866 ∧ wp_X11_spoilsBy l4 l5 s87 (fun r90 s91 => wp_X11_lesser 2 (wr (gI s87 2 (Int.toNat (wr (20 + l5))) + r90)) s91 (fun r92 s93 => ix (wr (20 + l5)) 5866 ∧ ∀ s95 : st_S, s95 = sI s93 2 (Int.toNat (wr (20 + l5))) r92 → B_X11_lightsKept_282 Q k195 (L_X11_lightsKept_207 Q k195 n) l1 l2 l4 l5 s95)))))))))
def L_X11_lightsKept_195 (Q : Int → st_S → Prop)   : Nat → Int → Int → Int → st_S → Prop
  | 0 => fun _ _ _ _ => False
  | n + 1 => fun l1 l2 l4 σ => wp_X11_people σ (fun r100 s101 => (r100 ≤ l4 → ∀ x103 : Int, x103 = wr (gI s101 2 30 + 1) → ∀ s104 : st_S, s104 = sI s101 2 30 x103 → wp_X11_passesNight s104 (fun s106 => Q l2 s106)) ∧ (¬ r100 ≤ l4 → ∃ m207 : Nat, L_X11_lightsKept_207 Q (L_X11_lightsKept_195 Q n) m207 l1 l2 l4 0 s101))
def L_X11_lightsKept_158 (Q : Int → st_S → Prop)   : Nat → Int → Int → Int → st_S → Prop
  | 0 => fun _ _ _ _ => False
  | n + 1 => fun l1 l2 l4 σ => wp_X11_people σ (fun r108 s109 => (r108 ≤ l4 → ∃ m195 : Nat, L_X11_lightsKept_195 Q m195 l1 l2 0 s109) ∧ (¬ r108 ≤ l4 → wp_X11_isIn l1 l4 s109 (fun r110 s111 => (r110 = 0 → B_X11_lightsKept_186 Q (L_X11_lightsKept_158 Q n) l1 l2 l4 s111) ∧ (¬ r110 = 0 → ix (wr (0 + l4)) 5866 ∧ ∀ s113 : st_S, s113 = sI s111 2 (Int.toNat (wr (0 + l4))) 3 → B_X11_lightsKept_186 Q (L_X11_lightsKept_158 Q n) l1 l2 l4 s113))))
def L_X11_lightsKept_70 (Q : Int → st_S → Prop)   : Nat → Int → Int → Int → Int → st_S → Prop
  | 0 => fun _ _ _ _ _ => False
  | n + 1 => fun l1 l2 l3 l4 σ => wp_X11_people σ (fun r116 s117 => (r116 ≤ l4 → (l3 = 0 → B_X11_lightsKept_147 Q s117) ∧ (¬ l3 = 0 → wp_X11_fogOn (gI s117 2 33) s117 (fun r119 s120 => wp_X11_needOn r119 s120 (fun r121 s122 => (r121 ≤ l2 → wp_X11_keeps 1 s122 (fun s124 => ∃ m158 : Nat, L_X11_lightsKept_158 Q m158 l1 l2 0 s124)) ∧ (¬ r121 ≤ l2 → B_X11_lightsKept_147 Q s122))))) ∧ (¬ r116 ≤ l4 → wp_X11_isIn l1 l4 s117 (fun r127 s128 => (¬ r127 = 0 → (l3 = 0 → B_X11_lightsKept_108 Q (L_X11_lightsKept_70 Q n) l1 l2 l4 s128) ∧ (¬ l3 = 0 → wp_X11_mayLight l4 s128 (fun r129 s130 => (r129 = 0 → B_X11_lightsKept_108 Q (L_X11_lightsKept_70 Q n) l1 l2 l4 s130) ∧ (¬ r129 = 0 → B_X11_lightsKept_109 Q (L_X11_lightsKept_70 Q n) l1 l2 l4 1 s130)))) ∧ (r127 = 0 → B_X11_lightsKept_119 Q (L_X11_lightsKept_70 Q n) l1 l2 l3 l4 s128))))
def B_X11_lightsKept_66 (Q : Int → st_S → Prop)   (l1 : Int) (l2 : Int) (v0 : Int) (σ : st_S) : Prop := ∃ m70 : Nat, L_X11_lightsKept_70 Q m70 l1 l2 v0 0 σ
def L_X11_lightsKept_17 (Q : Int → st_S → Prop)   : Nat → Int → Int → Int → st_S → Prop
  | 0 => fun _ _ _ _ => False
  | n + 1 => fun l1 l2 l3 σ => (10 ≤ l3 → (999 ≤ gI σ 2 33 → B_X11_lightsKept_66 Q l1 l2 0 σ) ∧ (¬ 999 ≤ gI σ 2 33 → B_X11_lightsKept_66 Q l1 l2 1 σ)) ∧ (¬ 10 ≤ l3 → wp_X11_isIn l1 l3 σ (fun r137 s138 => (r137 = 0 → B_X11_lightsKept_42 Q (L_X11_lightsKept_17 Q n) l1 l2 l3 s138) ∧ (¬ r137 = 0 → wp_X11_isPerson l3 s138 (fun r139 s140 => (¬ r139 = 0 → B_X11_lightsKept_42 Q (L_X11_lightsKept_17 Q n) l1 l2 l3 s140) ∧ (r139 = 0 → Q (-2) s140)))))
def wp_X11_lightsKept (a1 : Int) (σ : st_S) (Q : Int → st_S → Prop) : Prop := wp_X11_lies a1 1 1023 σ (fun r144 s145 => (¬ r144 = 0 → ∃ m17 : Nat, L_X11_lightsKept_17 Q m17 a1 0 0 s145) ∧ (r144 = 0 → Q (-1) s145))
set_option maxRecDepth 20000 in
theorem jb_X11_lightsKept_42 {X : jj_X} {E : ev_E} {n0 hN : Nat} (hc : Cx X E cX11_lightsKept 6 n0 hN RX11) (hm : eM E = 2) (hr : (xT X).sig.returnType = (some .int)) (hh : 128 ≤ hN) {Q : Int → st_S → Prop} {k17 : Int → Int → Int → st_S → Prop} (hk17 : ∀ {l1 : Int} {l2 : Int} {l3 : Int} (cl1 : wr l1 = l1) (cl2 : wr l2 = l2) (cl3 : wr l3 = l3) {σ : st_S}, k17 l1 l2 l3 σ → J X E 6 n0 0 0 (MQ (xB X) (qI E (n0 + 0) Q) (xA X) (xS X) 0 0 (eF E)) σ 17 [(0, vR E 0), (1, vI l1), (2, vI l2), (3, vI l3)] []) {l1 : Int} {l2 : Int} {l3 : Int} (cl1 : wr l1 = l1) (cl2 : wr l2 = l2) (cl3 : wr l3 = l3) {σ : st_S} (h : B_X11_lightsKept_42 Q k17 l1 l2 l3 σ) : J X E 6 n0 0 0 (MQ (xB X) (qI E (n0 + 0) Q) (xA X) (xS X) 0 0 (eF E)) σ 42 [(0, vR E 0), (1, vI l1), (2, vI l2), (3, vI l3)] [] := by
  have hh1 : 1 ≤ hN := by omega
  replace h : ∀ x72 : Int, x72 = wr (l3 + 1) → k17 l1 l2 x72 σ := h
  obtain ⟨x72, ex72⟩ : ∃ y : Int, y = wr (l3 + 1) := ⟨_, rfl⟩
  have cx72 : wr x72 = x72 := by rw [ex72]; exact wr_wr _
  replace h := h x72 ex72
  refine j_iinc (lv' := [(3, vI x72), (0, vR E 0), (1, vI l1), (2, vI l2)]) hc 3 dX11_lightsKept_42 rfl (by decide) ex72 rfl ?_
  refine j_goto (tgt := 17) hc dX11_lightsKept_45 (by decide) ?_
  refine j_sub (lv' := [(0, vR E 0), (1, vI l1), (2, vI l2), (3, vI x72)]) [1, 2, 3, 0] rfl ?_
  exact hk17 cl1 cl2 cx72 h
set_option maxRecDepth 20000 in
theorem jb_X11_lightsKept_119 {X : jj_X} {E : ev_E} {n0 hN : Nat} (hc : Cx X E cX11_lightsKept 6 n0 hN RX11) (hm : eM E = 2) (hr : (xT X).sig.returnType = (some .int)) (hh : 128 ≤ hN) {Q : Int → st_S → Prop} {k70 : Int → Int → Int → Int → st_S → Prop} (hk70 : ∀ {l1 : Int} {l2 : Int} {l3 : Int} {l4 : Int} (cl1 : wr l1 = l1) (cl2 : wr l2 = l2) (cl3 : wr l3 = l3) (cl4 : wr l4 = l4) {σ : st_S}, k70 l1 l2 l3 l4 σ → J X E 6 n0 0 0 (MQ (xB X) (qI E (n0 + 0) Q) (xA X) (xS X) 0 0 (eF E)) σ 70 [(0, vR E 0), (1, vI l1), (2, vI l2), (3, vI l3), (4, vI l4)] []) {l1 : Int} {l2 : Int} {l3 : Int} {l4 : Int} (cl1 : wr l1 = l1) (cl2 : wr l2 = l2) (cl3 : wr l3 = l3) (cl4 : wr l4 = l4) {σ : st_S} (h : B_X11_lightsKept_119 Q k70 l1 l2 l3 l4 σ) : J X E 6 n0 0 0 (MQ (xB X) (qI E (n0 + 0) Q) (xA X) (xS X) 0 0 (eF E)) σ 119 [(0, vR E 0), (1, vI l1), (2, vI l2), (3, vI l3), (4, vI l4)] [] := by
  have hh1 : 1 ≤ hN := by omega
  replace h : ∀ x73 : Int, x73 = wr (l4 + 1) → k70 l1 l2 l3 x73 σ := h
  obtain ⟨x73, ex73⟩ : ∃ y : Int, y = wr (l4 + 1) := ⟨_, rfl⟩
  have cx73 : wr x73 = x73 := by rw [ex73]; exact wr_wr _
  replace h := h x73 ex73
  refine j_iinc (lv' := [(4, vI x73), (0, vR E 0), (1, vI l1), (2, vI l2), (3, vI l3)]) hc 4 dX11_lightsKept_119 rfl (by decide) ex73 rfl ?_
  refine j_goto (tgt := 70) hc dX11_lightsKept_122 (by decide) ?_
  refine j_sub (lv' := [(0, vR E 0), (1, vI l1), (2, vI l2), (3, vI l3), (4, vI x73)]) [1, 2, 3, 4, 0] rfl ?_
  exact hk70 cl1 cl2 cl3 cx73 h
set_option maxRecDepth 20000 in
theorem jb_X11_lightsKept_109 {X : jj_X} {E : ev_E} {n0 hN : Nat} (hc : Cx X E cX11_lightsKept 6 n0 hN RX11) (hm : eM E = 2) (hr : (xT X).sig.returnType = (some .int)) (hh : 128 ≤ hN) {Q : Int → st_S → Prop} {k70 : Int → Int → Int → Int → st_S → Prop} (hk70 : ∀ {l1 : Int} {l2 : Int} {l3 : Int} {l4 : Int} (cl1 : wr l1 = l1) (cl2 : wr l2 = l2) (cl3 : wr l3 = l3) (cl4 : wr l4 = l4) {σ : st_S}, k70 l1 l2 l3 l4 σ → J X E 6 n0 0 0 (MQ (xB X) (qI E (n0 + 0) Q) (xA X) (xS X) 0 0 (eF E)) σ 70 [(0, vR E 0), (1, vI l1), (2, vI l2), (3, vI l3), (4, vI l4)] []) {l1 : Int} {l2 : Int} {l4 : Int} {v0 : Int} (cl1 : wr l1 = l1) (cl2 : wr l2 = l2) (cl4 : wr l4 = l4) (cv0 : wr v0 = v0) {σ : st_S} (h : B_X11_lightsKept_109 Q k70 l1 l2 l4 v0 σ) : J X E 6 n0 0 0 (MQ (xB X) (qI E (n0 + 0) Q) (xA X) (xS X) 0 0 (eF E)) σ 109 [(0, vR E 0), (1, vI l1), (2, vI l2), (4, vI l4)] [vI v0] := by
  have hh1 : 1 ≤ hN := by omega
  replace h : wp_X11_worthOf l4 σ (fun r74 s75 => ∀ x76 : Int, x76 = wr (l2 + r74) → B_X11_lightsKept_119 Q k70 l1 x76 v0 l4 s75) := h
  refine j_istore_n (lv' := [(3, vI v0), (0, vR E 0), (1, vI l1), (2, vI l2), (4, vI l4)]) hc dX11_lightsKept_109 rfl (by decide) rfl ?_
  refine j_iload_n hc 3 dX11_lightsKept_110 rfl rfl ?_
  refine j_aload_nR hc 1 dX11_lightsKept_111 rfl rfl ?_
  refine j_iload hc 4 dX11_lightsKept_112 rfl ?_
  refine j_vI hc (k := 11) (by decide) (fun hv => Or.inl (sv_k hv hm rfl)) ml_RX11_138 mv_X11_worthOf (As := [vI l4]) (c_X11_worthOf (cx_E hc) hm cl4 h) rfl (by omega) (by decide) ⟨Nat.zero_le _, Nat.zero_le _⟩ (Nat.le_of_ble_eq_true rfl) rfl dX11_lightsKept_114 (fun r74 s75 cr74 h => ?_)
  refine j_iadd hc dX11_lightsKept_117 ?_
  refine j_w (fun x76 ex76 cx76 => ?_)
  replace h := h x76 ex76
  refine j_istore_n (lv' := [(2, vI x76), (3, vI v0), (0, vR E 0), (1, vI l1), (4, vI l4)]) hc dX11_lightsKept_118 rfl (by decide) rfl ?_
  refine j_sub (lv' := [(0, vR E 0), (1, vI l1), (2, vI x76), (3, vI v0), (4, vI l4)]) [2, 3, 0, 1, 4] rfl ?_
  exact jb_X11_lightsKept_119 hc hm hr hh hk70 cl1 cx76 cv0 cl4 h
set_option maxRecDepth 20000 in
theorem jb_X11_lightsKept_108 {X : jj_X} {E : ev_E} {n0 hN : Nat} (hc : Cx X E cX11_lightsKept 6 n0 hN RX11) (hm : eM E = 2) (hr : (xT X).sig.returnType = (some .int)) (hh : 128 ≤ hN) {Q : Int → st_S → Prop} {k70 : Int → Int → Int → Int → st_S → Prop} (hk70 : ∀ {l1 : Int} {l2 : Int} {l3 : Int} {l4 : Int} (cl1 : wr l1 = l1) (cl2 : wr l2 = l2) (cl3 : wr l3 = l3) (cl4 : wr l4 = l4) {σ : st_S}, k70 l1 l2 l3 l4 σ → J X E 6 n0 0 0 (MQ (xB X) (qI E (n0 + 0) Q) (xA X) (xS X) 0 0 (eF E)) σ 70 [(0, vR E 0), (1, vI l1), (2, vI l2), (3, vI l3), (4, vI l4)] []) {l1 : Int} {l2 : Int} {l4 : Int} (cl1 : wr l1 = l1) (cl2 : wr l2 = l2) (cl4 : wr l4 = l4) {σ : st_S} (h : B_X11_lightsKept_108 Q k70 l1 l2 l4 σ) : J X E 6 n0 0 0 (MQ (xB X) (qI E (n0 + 0) Q) (xA X) (xS X) 0 0 (eF E)) σ 108 [(0, vR E 0), (1, vI l1), (2, vI l2), (4, vI l4)] [] := by
  have hh1 : 1 ≤ hN := by omega
  replace h : B_X11_lightsKept_109 Q k70 l1 l2 l4 0 σ := h
  refine j_iconst hc dX11_lightsKept_108 ?_
  refine j_sub (lv' := [(0, vR E 0), (1, vI l1), (2, vI l2), (4, vI l4)]) [0, 1, 2, 3] rfl ?_
  exact jb_X11_lightsKept_109 hc hm hr hh hk70 cl1 cl2 cl4 (wlit 0 (by decide)) h
set_option maxRecDepth 20000 in
theorem jb_X11_lightsKept_147 {X : jj_X} {E : ev_E} {n0 hN : Nat} (hc : Cx X E cX11_lightsKept 6 n0 hN RX11) (hm : eM E = 2) (hr : (xT X).sig.returnType = (some .int)) (hh : 128 ≤ hN) {Q : Int → st_S → Prop} {σ : st_S} (h : B_X11_lightsKept_147 Q σ) : J X E 6 n0 0 0 (MQ (xB X) (qI E (n0 + 0) Q) (xA X) (xS X) 0 0 (eF E)) σ 147 [] [] := by
  have hh1 : 1 ≤ hN := by omega
  replace h : Q (-3) σ := h
  refine j_bipush hc dX11_lightsKept_147 (by decide) ?_
  exact j_iret hc hr (wlit (-3) (by decide)) h dX11_lightsKept_149
set_option maxRecDepth 20000 in
theorem jb_X11_lightsKept_186 {X : jj_X} {E : ev_E} {n0 hN : Nat} (hc : Cx X E cX11_lightsKept 6 n0 hN RX11) (hm : eM E = 2) (hr : (xT X).sig.returnType = (some .int)) (hh : 128 ≤ hN) {Q : Int → st_S → Prop} {k158 : Int → Int → Int → st_S → Prop} (hk158 : ∀ {l1 : Int} {l2 : Int} {l4 : Int} (cl1 : wr l1 = l1) (cl2 : wr l2 = l2) (cl4 : wr l4 = l4) {σ : st_S}, k158 l1 l2 l4 σ → J X E 6 n0 0 0 (MQ (xB X) (qI E (n0 + 0) Q) (xA X) (xS X) 0 0 (eF E)) σ 158 [(0, vR E 0), (1, vI l1), (2, vI l2), (4, vI l4)] []) {l1 : Int} {l2 : Int} {l4 : Int} (cl1 : wr l1 = l1) (cl2 : wr l2 = l2) (cl4 : wr l4 = l4) {σ : st_S} (h : B_X11_lightsKept_186 Q k158 l1 l2 l4 σ) : J X E 6 n0 0 0 (MQ (xB X) (qI E (n0 + 0) Q) (xA X) (xS X) 0 0 (eF E)) σ 186 [(0, vR E 0), (1, vI l1), (2, vI l2), (4, vI l4)] [] := by
  have hh1 : 1 ≤ hN := by omega
  replace h : ∀ x77 : Int, x77 = wr (l4 + 1) → k158 l1 l2 x77 σ := h
  obtain ⟨x77, ex77⟩ : ∃ y : Int, y = wr (l4 + 1) := ⟨_, rfl⟩
  have cx77 : wr x77 = x77 := by rw [ex77]; exact wr_wr _
  replace h := h x77 ex77
  refine j_iinc (lv' := [(4, vI x77), (0, vR E 0), (1, vI l1), (2, vI l2)]) hc 3 dX11_lightsKept_186 rfl (by decide) ex77 rfl ?_
  refine j_goto (tgt := 158) hc dX11_lightsKept_189 (by decide) ?_
  refine j_sub (lv' := [(0, vR E 0), (1, vI l1), (2, vI l2), (4, vI x77)]) [1, 2, 3, 0] rfl ?_
  exact hk158 cl1 cl2 cx77 h
set_option maxRecDepth 20000 in
theorem jb_X11_lightsKept_282 {X : jj_X} {E : ev_E} {n0 hN : Nat} (hc : Cx X E cX11_lightsKept 6 n0 hN RX11) (hm : eM E = 2) (hr : (xT X).sig.returnType = (some .int)) (hh : 128 ≤ hN) {Q : Int → st_S → Prop} {k195 : Int → Int → Int → st_S → Prop} (hk195 : ∀ {l1 : Int} {l2 : Int} {l4 : Int} (cl1 : wr l1 = l1) (cl2 : wr l2 = l2) (cl4 : wr l4 = l4) {σ : st_S}, k195 l1 l2 l4 σ → J X E 6 n0 0 0 (MQ (xB X) (qI E (n0 + 0) Q) (xA X) (xS X) 0 0 (eF E)) σ 195 [(0, vR E 0), (1, vI l1), (2, vI l2), (4, vI l4)] []) {k207 : Int → Int → Int → Int → st_S → Prop} (hk207 : ∀ {l1 : Int} {l2 : Int} {l4 : Int} {l5 : Int} (cl1 : wr l1 = l1) (cl2 : wr l2 = l2) (cl4 : wr l4 = l4) (cl5 : wr l5 = l5) {σ : st_S}, k207 l1 l2 l4 l5 σ → J X E 6 n0 0 0 (MQ (xB X) (qI E (n0 + 0) Q) (xA X) (xS X) 0 0 (eF E)) σ 207 [(0, vR E 0), (1, vI l1), (2, vI l2), (4, vI l4), (5, vI l5)] []) {l1 : Int} {l2 : Int} {l4 : Int} {l5 : Int} (cl1 : wr l1 = l1) (cl2 : wr l2 = l2) (cl4 : wr l4 = l4) (cl5 : wr l5 = l5) {σ : st_S} (h : B_X11_lightsKept_282 Q k195 k207 l1 l2 l4 l5 σ) : J X E 6 n0 0 0 (MQ (xB X) (qI E (n0 + 0) Q) (xA X) (xS X) 0 0 (eF E)) σ 282 [(0, vR E 0), (1, vI l1), (2, vI l2), (4, vI l4), (5, vI l5)] [] := by
  have hh1 : 1 ≤ hN := by omega
  replace h : ∀ x78 : Int, x78 = wr (l5 + 1) → k207 l1 l2 l4 x78 σ := h
  obtain ⟨x78, ex78⟩ : ∃ y : Int, y = wr (l5 + 1) := ⟨_, rfl⟩
  have cx78 : wr x78 = x78 := by rw [ex78]; exact wr_wr _
  replace h := h x78 ex78
  refine j_iinc (lv' := [(5, vI x78), (0, vR E 0), (1, vI l1), (2, vI l2), (4, vI l4)]) hc 4 dX11_lightsKept_282 rfl (by decide) ex78 rfl ?_
  refine j_goto (tgt := 207) hc dX11_lightsKept_285 (by decide) ?_
  refine j_sub (lv' := [(0, vR E 0), (1, vI l1), (2, vI l2), (4, vI l4), (5, vI x78)]) [1, 2, 3, 4, 0] rfl ?_
  exact hk207 cl1 cl2 cl4 cx78 h
set_option maxRecDepth 20000 in
theorem jb_X11_lightsKept_288 {X : jj_X} {E : ev_E} {n0 hN : Nat} (hc : Cx X E cX11_lightsKept 6 n0 hN RX11) (hm : eM E = 2) (hr : (xT X).sig.returnType = (some .int)) (hh : 128 ≤ hN) {Q : Int → st_S → Prop} {k195 : Int → Int → Int → st_S → Prop} (hk195 : ∀ {l1 : Int} {l2 : Int} {l4 : Int} (cl1 : wr l1 = l1) (cl2 : wr l2 = l2) (cl4 : wr l4 = l4) {σ : st_S}, k195 l1 l2 l4 σ → J X E 6 n0 0 0 (MQ (xB X) (qI E (n0 + 0) Q) (xA X) (xS X) 0 0 (eF E)) σ 195 [(0, vR E 0), (1, vI l1), (2, vI l2), (4, vI l4)] []) {l1 : Int} {l2 : Int} {l4 : Int} (cl1 : wr l1 = l1) (cl2 : wr l2 = l2) (cl4 : wr l4 = l4) {σ : st_S} (h : B_X11_lightsKept_288 Q k195 l1 l2 l4 σ) : J X E 6 n0 0 0 (MQ (xB X) (qI E (n0 + 0) Q) (xA X) (xS X) 0 0 (eF E)) σ 288 [(0, vR E 0), (1, vI l1), (2, vI l2), (4, vI l4)] [] := by
  have hh1 : 1 ≤ hN := by omega
  replace h : ∀ x79 : Int, x79 = wr (l4 + 1) → k195 l1 l2 x79 σ := h
  obtain ⟨x79, ex79⟩ : ∃ y : Int, y = wr (l4 + 1) := ⟨_, rfl⟩
  have cx79 : wr x79 = x79 := by rw [ex79]; exact wr_wr _
  replace h := h x79 ex79
  refine j_iinc (lv' := [(4, vI x79), (0, vR E 0), (1, vI l1), (2, vI l2)]) hc 3 dX11_lightsKept_288 rfl (by decide) ex79 rfl ?_
  refine j_goto (tgt := 195) hc dX11_lightsKept_291 (by decide) ?_
  refine j_sub (lv' := [(0, vR E 0), (1, vI l1), (2, vI l2), (4, vI x79)]) [1, 2, 3, 0] rfl ?_
  exact hk195 cl1 cl2 cx79 h
set_option maxRecDepth 20000 in
theorem jl_X11_lightsKept_207 {X : jj_X} {E : ev_E} {n0 hN : Nat} (hc : Cx X E cX11_lightsKept 6 n0 hN RX11) (hm : eM E = 2) (hr : (xT X).sig.returnType = (some .int)) (hh : 128 ≤ hN) {Q : Int → st_S → Prop} {k195 : Int → Int → Int → st_S → Prop} (hk195 : ∀ {l1 : Int} {l2 : Int} {l4 : Int} (cl1 : wr l1 = l1) (cl2 : wr l2 = l2) (cl4 : wr l4 = l4) {σ : st_S}, k195 l1 l2 l4 σ → J X E 6 n0 0 0 (MQ (xB X) (qI E (n0 + 0) Q) (xA X) (xS X) 0 0 (eF E)) σ 195 [(0, vR E 0), (1, vI l1), (2, vI l2), (4, vI l4)] []) : ∀ (n : Nat) {l1 : Int} {l2 : Int} {l4 : Int} {l5 : Int} (cl1 : wr l1 = l1) (cl2 : wr l2 = l2) (cl4 : wr l4 = l4) (cl5 : wr l5 = l5) {σ : st_S}, L_X11_lightsKept_207 Q k195 n l1 l2 l4 l5 σ → J X E 6 n0 0 0 (MQ (xB X) (qI E (n0 + 0) Q) (xA X) (xS X) 0 0 (eF E)) σ 207 [(0, vR E 0), (1, vI l1), (2, vI l2), (4, vI l4), (5, vI l5)] [] := by
  have hh1 : 1 ≤ hN := by omega
  intro n
  induction n with
  | zero => intro l1 l2 l4 l5 cl1 cl2 cl4 cl5 σ h; exact h.elim
  | succ n ih =>
    intro l1 l2 l4 l5 cl1 cl2 cl4 cl5 σ h
    have hk207 : ∀ {l1 : Int} {l2 : Int} {l4 : Int} {l5 : Int} (cl1 : wr l1 = l1) (cl2 : wr l2 = l2) (cl4 : wr l4 = l4) (cl5 : wr l5 = l5) {σ : st_S}, L_X11_lightsKept_207 Q k195 n l1 l2 l4 l5 σ → J X E 6 n0 0 0 (MQ (xB X) (qI E (n0 + 0) Q) (xA X) (xS X) 0 0 (eF E)) σ 207 [(0, vR E 0), (1, vI l1), (2, vI l2), (4, vI l4), (5, vI l5)] [] := ih
    replace h : wp_X11_people σ (fun r80 s81 => (r80 ≤ l5 → B_X11_lightsKept_288 Q k195 l1 l2 l4 s81) ∧ (¬ r80 ≤ l5 → wp_X11_isIn l1 l4 s81 (fun r82 s83 => (r82 = 0 → B_X11_lightsKept_288 Q k195 l1 l2 l4 s83) ∧ (¬ r82 = 0 → ix (wr (0 + l5)) 5866 ∧ (gI s83 2 (Int.toNat (wr (0 + l5))) = 3 → B_X11_lightsKept_282 Q k195 (L_X11_lightsKept_207 Q k195 n) l1 l2 l4 l5 s83) ∧ (¬ gI s83 2 (Int.toNat (wr (0 + l5))) = 3 → wp_X11_doTalk l4 l5 s83 (fun r86 s87 => (r86 = 0 → B_X11_lightsKept_282 Q k195 (L_X11_lightsKept_207 Q k195 n) l1 l2 l4 l5 s87) ∧ (¬ r86 = 0 → ix (wr (20 + l5)) 5866 ∧ wp_X11_spoilsBy l4 l5 s87 (fun r90 s91 => wp_X11_lesser 2 (wr (gI s87 2 (Int.toNat (wr (20 + l5))) + r90)) s91 (fun r92 s93 => ix (wr (20 + l5)) 5866 ∧ ∀ s95 : st_S, s95 = sI s93 2 (Int.toNat (wr (20 + l5))) r92 → B_X11_lightsKept_282 Q k195 (L_X11_lightsKept_207 Q k195 n) l1 l2 l4 l5 s95))))))))) := h
    refine j_iload hc 4 dX11_lightsKept_207 rfl ?_
    refine j_aload_nR hc 0 dX11_lightsKept_209 rfl rfl ?_
    refine j_vI hc (k := 11) (by decide) (fun hv => Or.inl (sv_k hv hm rfl)) ml_RX11_116 mv_X11_people (As := []) (c_X11_people (cx_E hc) hm  h) rfl (by omega) (by decide) ⟨Nat.zero_le _, Nat.zero_le _⟩ (Nat.le_of_ble_eq_true rfl) rfl dX11_lightsKept_210 (fun r80 s81 cr80 h => ?_)
    refine j_ic_ge hc cl5 cr80 (tgt := 288) dX11_lightsKept_213 (by decide) (fun q99 => ?_) (fun q99 => ?_)
    · replace h := h.1 q99
      refine j_sub (lv' := [(0, vR E 0), (1, vI l1), (2, vI l2), (4, vI l4)]) [0, 1, 2, 3] rfl ?_
      exact jb_X11_lightsKept_288 hc hm hr hh hk195 cl1 cl2 cl4 h
    · replace h := h.2 q99
      refine j_iload_n hc 1 dX11_lightsKept_216 rfl rfl ?_
      refine j_iload hc 3 dX11_lightsKept_217 rfl ?_
      refine j_sI hc ml_RX11_325 mv_X11_isIn (As := [vI l1, vI l4]) (c_X11_isIn (cx_E hc) hm cl1 cl4 h) rfl (by omega) (by decide) ⟨Nat.zero_le _, Nat.zero_le _⟩ (Nat.le_of_ble_eq_true rfl) rfl dX11_lightsKept_219 (fun r82 s83 cr82 h => ?_)
      refine j_if_eq hc cr82 (tgt := 288) dX11_lightsKept_222 (by decide) (fun q98 => ?_) (fun q98 => ?_)
      · replace h := h.1 q98
        refine j_sub (lv' := [(0, vR E 0), (1, vI l1), (2, vI l2), (4, vI l4)]) [0, 1, 2, 3] rfl ?_
        exact jb_X11_lightsKept_288 hc hm hr hh hk195 cl1 cl2 cl4 h
      · replace h := h.2 q98
        refine j_aload_nR hc 0 dX11_lightsKept_225 rfl rfl ?_
        refine j_getR (c' := 2) hc fl_RX11_24 rfl rfl (fun hv => (sv_k hv hm rfl)) dX11_lightsKept_226 ?_
        refine j_iconst hc dX11_lightsKept_229 ?_
        refine j_iload hc 4 dX11_lightsKept_230 rfl ?_
        refine j_iadd hc dX11_lightsKept_232 ?_
        obtain ⟨b84, h⟩ := h
        refine j_iald (jn := (Int.toNat (wr (0 + l5)))) hc (fun hv => sv_kl hv hm rfl) rfl b84 rfl dX11_lightsKept_233 (fun cn85 => ?_)
        refine j_iconst hc dX11_lightsKept_234 ?_
        refine j_ic_eq hc cn85 (wlit 3 (by decide)) (tgt := 282) dX11_lightsKept_235 (by decide) (fun q97 => ?_) (fun q97 => ?_)
        · replace h := h.1 q97
          refine j_sub (lv' := [(0, vR E 0), (1, vI l1), (2, vI l2), (4, vI l4), (5, vI l5)]) [0, 1, 2, 3, 4] rfl ?_
          exact jb_X11_lightsKept_282 hc hm hr hh hk195 hk207 cl1 cl2 cl4 cl5 h
        · replace h := h.2 q97
          refine j_aload_nR hc 0 dX11_lightsKept_238 rfl rfl ?_
          refine j_iload hc 3 dX11_lightsKept_239 rfl ?_
          refine j_iload hc 4 dX11_lightsKept_241 rfl ?_
          refine j_vI hc (k := 11) (by decide) (fun hv => Or.inl (sv_k hv hm rfl)) ml_RX11_334 mv_X11_doTalk (As := [vI l4, vI l5]) (c_X11_doTalk (cx_E hc) hm cl4 cl5 h) rfl (by omega) (by decide) ⟨Nat.zero_le _, Nat.zero_le _⟩ (Nat.le_of_ble_eq_true rfl) rfl dX11_lightsKept_243 (fun r86 s87 cr86 h => ?_)
          refine j_if_eq hc cr86 (tgt := 282) dX11_lightsKept_246 (by decide) (fun q96 => ?_) (fun q96 => ?_)
          · replace h := h.1 q96
            refine j_sub (lv' := [(0, vR E 0), (1, vI l1), (2, vI l2), (4, vI l4), (5, vI l5)]) [0, 1, 2, 3, 4] rfl ?_
            exact jb_X11_lightsKept_282 hc hm hr hh hk195 hk207 cl1 cl2 cl4 cl5 h
          · replace h := h.2 q96
            refine j_aload_nR hc 0 dX11_lightsKept_249 rfl rfl ?_
            refine j_getR (c' := 2) hc fl_RX11_24 rfl rfl (fun hv => (sv_k hv hm rfl)) dX11_lightsKept_250 ?_
            refine j_bipush hc dX11_lightsKept_253 (by decide) ?_
            refine j_iload hc 4 dX11_lightsKept_255 rfl ?_
            refine j_iadd hc dX11_lightsKept_257 ?_
            refine j_iconst hc dX11_lightsKept_258 ?_
            refine j_aload_nR hc 0 dX11_lightsKept_259 rfl rfl ?_
            refine j_getR (c' := 2) hc fl_RX11_24 rfl rfl (fun hv => (sv_k hv hm rfl)) dX11_lightsKept_260 ?_
            refine j_bipush hc dX11_lightsKept_263 (by decide) ?_
            refine j_iload hc 4 dX11_lightsKept_265 rfl ?_
            refine j_iadd hc dX11_lightsKept_267 ?_
            obtain ⟨b88, h⟩ := h
            refine j_iald (jn := (Int.toNat (wr (20 + l5)))) hc (fun hv => sv_kl hv hm rfl) rfl b88 rfl dX11_lightsKept_268 (fun cn89 => ?_)
            refine j_aload_nR hc 0 dX11_lightsKept_269 rfl rfl ?_
            refine j_iload hc 3 dX11_lightsKept_270 rfl ?_
            refine j_iload hc 4 dX11_lightsKept_272 rfl ?_
            refine j_vI hc (k := 11) (by decide) (fun hv => Or.inl (sv_k hv hm rfl)) ml_RX11_319 mv_X11_spoilsBy (As := [vI l4, vI l5]) (c_X11_spoilsBy (cx_E hc) hm cl4 cl5 h) rfl (by omega) (by decide) ⟨Nat.zero_le _, Nat.zero_le _⟩ (Nat.le_of_ble_eq_true rfl) rfl dX11_lightsKept_274 (fun r90 s91 cr90 h => ?_)
            refine j_iadd hc dX11_lightsKept_277 ?_
            refine j_sI hc ml_RX11_337 mv_X11_lesser (As := [vI 2, vI (wr (gI s87 2 (Int.toNat (wr (20 + l5))) + r90))]) (c_X11_lesser (cx_E hc) hm (wlit 2 (by decide)) (wr_wr _) h) rfl (by omega) (by decide) ⟨Nat.zero_le _, Nat.zero_le _⟩ (Nat.le_of_ble_eq_true rfl) (by simp only [vI_wr, vL_wl]; rfl) dX11_lightsKept_278 (fun r92 s93 cr92 h => ?_)
            obtain ⟨b94, h⟩ := h
            refine j_iast (jn := (Int.toNat (wr (20 + l5)))) hc (fun hv => sv_kl hv hm rfl) rfl b94 rfl cr92 dX11_lightsKept_281 (fun s95 es95 => ?_)
            replace h := h s95 es95
            refine j_sub (lv' := [(0, vR E 0), (1, vI l1), (2, vI l2), (4, vI l4), (5, vI l5)]) [0, 1, 2, 3, 4] rfl ?_
            exact jb_X11_lightsKept_282 hc hm hr hh hk195 hk207 cl1 cl2 cl4 cl5 h
set_option maxRecDepth 20000 in
theorem jl_X11_lightsKept_195 {X : jj_X} {E : ev_E} {n0 hN : Nat} (hc : Cx X E cX11_lightsKept 6 n0 hN RX11) (hm : eM E = 2) (hr : (xT X).sig.returnType = (some .int)) (hh : 128 ≤ hN) {Q : Int → st_S → Prop} : ∀ (n : Nat) {l1 : Int} {l2 : Int} {l4 : Int} (cl1 : wr l1 = l1) (cl2 : wr l2 = l2) (cl4 : wr l4 = l4) {σ : st_S}, L_X11_lightsKept_195 Q n l1 l2 l4 σ → J X E 6 n0 0 0 (MQ (xB X) (qI E (n0 + 0) Q) (xA X) (xS X) 0 0 (eF E)) σ 195 [(0, vR E 0), (1, vI l1), (2, vI l2), (4, vI l4)] [] := by
  have hh1 : 1 ≤ hN := by omega
  intro n
  induction n with
  | zero => intro l1 l2 l4 cl1 cl2 cl4 σ h; exact h.elim
  | succ n ih =>
    intro l1 l2 l4 cl1 cl2 cl4 σ h
    have hk195 : ∀ {l1 : Int} {l2 : Int} {l4 : Int} (cl1 : wr l1 = l1) (cl2 : wr l2 = l2) (cl4 : wr l4 = l4) {σ : st_S}, L_X11_lightsKept_195 Q n l1 l2 l4 σ → J X E 6 n0 0 0 (MQ (xB X) (qI E (n0 + 0) Q) (xA X) (xS X) 0 0 (eF E)) σ 195 [(0, vR E 0), (1, vI l1), (2, vI l2), (4, vI l4)] [] := ih
    replace h : wp_X11_people σ (fun r100 s101 => (r100 ≤ l4 → ∀ x103 : Int, x103 = wr (gI s101 2 30 + 1) → ∀ s104 : st_S, s104 = sI s101 2 30 x103 → wp_X11_passesNight s104 (fun s106 => Q l2 s106)) ∧ (¬ r100 ≤ l4 → ∃ m207 : Nat, L_X11_lightsKept_207 Q (L_X11_lightsKept_195 Q n) m207 l1 l2 l4 0 s101)) := h
    refine j_iload hc 3 dX11_lightsKept_195 rfl ?_
    refine j_aload_nR hc 0 dX11_lightsKept_197 rfl rfl ?_
    refine j_vI hc (k := 11) (by decide) (fun hv => Or.inl (sv_k hv hm rfl)) ml_RX11_116 mv_X11_people (As := []) (c_X11_people (cx_E hc) hm  h) rfl (by omega) (by decide) ⟨Nat.zero_le _, Nat.zero_le _⟩ (Nat.le_of_ble_eq_true rfl) rfl dX11_lightsKept_198 (fun r100 s101 cr100 h => ?_)
    refine j_ic_ge hc cl4 cr100 (tgt := 294) dX11_lightsKept_201 (by decide) (fun q107 => ?_) (fun q107 => ?_)
    · replace h := h.1 q107
      refine j_aload_nR hc 0 dX11_lightsKept_294 rfl rfl ?_
      refine j_getR (c' := 2) hc fl_RX11_24 rfl rfl (fun hv => (sv_k hv hm rfl)) dX11_lightsKept_295 ?_
      refine j_bipush hc dX11_lightsKept_298 (by decide) ?_
      refine j_dup2 hc dX11_lightsKept_300 rfl rfl ?_
      refine j_iald (jn := 30) hc (fun hv => sv_kl hv hm rfl) (wlit 30 (by decide)) ⟨by decide, by decide⟩ rfl dX11_lightsKept_301 (fun cn102 => ?_)
      refine j_iconst hc dX11_lightsKept_302 ?_
      refine j_iadd hc dX11_lightsKept_303 ?_
      refine j_w (fun x103 ex103 cx103 => ?_)
      replace h := h x103 ex103
      refine j_iast (jn := 30) hc (fun hv => sv_kl hv hm rfl) (wlit 30 (by decide)) ⟨by decide, by decide⟩ rfl cx103 dX11_lightsKept_304 (fun s104 es104 => ?_)
      replace h := h s104 es104
      refine j_aload_nR hc 0 dX11_lightsKept_305 rfl rfl ?_
      refine j_vV hc (k := 11) (by decide) (fun hv => Or.inl (sv_k hv hm rfl)) ml_RX11_340 mv_X11_passesNight (As := []) (c_X11_passesNight (cx_E hc) hm  h) rfl (by omega) (by decide) ⟨Nat.zero_le _, Nat.zero_le _⟩ (Nat.le_of_ble_eq_true rfl) rfl dX11_lightsKept_306 (fun s106 h => ?_)
      refine j_iload_n hc 2 dX11_lightsKept_309 rfl rfl ?_
      exact j_iret hc hr cl2 h dX11_lightsKept_310
    · replace h := h.2 q107
      refine j_iconst hc dX11_lightsKept_204 ?_
      refine j_istore (lv' := [(5, vI 0), (0, vR E 0), (1, vI l1), (2, vI l2), (4, vI l4)]) hc dX11_lightsKept_205 (by decide) rfl ?_
      obtain ⟨n207, h⟩ := h
      refine j_sub (lv' := [(0, vR E 0), (1, vI l1), (2, vI l2), (4, vI l4), (5, vI 0)]) [1, 2, 3, 4, 0] rfl ?_
      exact jl_X11_lightsKept_207 hc hm hr hh hk195 n207 cl1 cl2 cl4 (wlit 0 (by decide)) h
set_option maxRecDepth 20000 in
theorem jl_X11_lightsKept_158 {X : jj_X} {E : ev_E} {n0 hN : Nat} (hc : Cx X E cX11_lightsKept 6 n0 hN RX11) (hm : eM E = 2) (hr : (xT X).sig.returnType = (some .int)) (hh : 128 ≤ hN) {Q : Int → st_S → Prop} : ∀ (n : Nat) {l1 : Int} {l2 : Int} {l4 : Int} (cl1 : wr l1 = l1) (cl2 : wr l2 = l2) (cl4 : wr l4 = l4) {σ : st_S}, L_X11_lightsKept_158 Q n l1 l2 l4 σ → J X E 6 n0 0 0 (MQ (xB X) (qI E (n0 + 0) Q) (xA X) (xS X) 0 0 (eF E)) σ 158 [(0, vR E 0), (1, vI l1), (2, vI l2), (4, vI l4)] [] := by
  have hh1 : 1 ≤ hN := by omega
  intro n
  induction n with
  | zero => intro l1 l2 l4 cl1 cl2 cl4 σ h; exact h.elim
  | succ n ih =>
    intro l1 l2 l4 cl1 cl2 cl4 σ h
    have hk158 : ∀ {l1 : Int} {l2 : Int} {l4 : Int} (cl1 : wr l1 = l1) (cl2 : wr l2 = l2) (cl4 : wr l4 = l4) {σ : st_S}, L_X11_lightsKept_158 Q n l1 l2 l4 σ → J X E 6 n0 0 0 (MQ (xB X) (qI E (n0 + 0) Q) (xA X) (xS X) 0 0 (eF E)) σ 158 [(0, vR E 0), (1, vI l1), (2, vI l2), (4, vI l4)] [] := ih
    replace h : wp_X11_people σ (fun r108 s109 => (r108 ≤ l4 → ∃ m195 : Nat, L_X11_lightsKept_195 Q m195 l1 l2 0 s109) ∧ (¬ r108 ≤ l4 → wp_X11_isIn l1 l4 s109 (fun r110 s111 => (r110 = 0 → B_X11_lightsKept_186 Q (L_X11_lightsKept_158 Q n) l1 l2 l4 s111) ∧ (¬ r110 = 0 → ix (wr (0 + l4)) 5866 ∧ ∀ s113 : st_S, s113 = sI s111 2 (Int.toNat (wr (0 + l4))) 3 → B_X11_lightsKept_186 Q (L_X11_lightsKept_158 Q n) l1 l2 l4 s113)))) := h
    refine j_iload hc 3 dX11_lightsKept_158 rfl ?_
    refine j_aload_nR hc 0 dX11_lightsKept_160 rfl rfl ?_
    refine j_vI hc (k := 11) (by decide) (fun hv => Or.inl (sv_k hv hm rfl)) ml_RX11_116 mv_X11_people (As := []) (c_X11_people (cx_E hc) hm  h) rfl (by omega) (by decide) ⟨Nat.zero_le _, Nat.zero_le _⟩ (Nat.le_of_ble_eq_true rfl) rfl dX11_lightsKept_161 (fun r108 s109 cr108 h => ?_)
    refine j_ic_ge hc cl4 cr108 (tgt := 192) dX11_lightsKept_164 (by decide) (fun q115 => ?_) (fun q115 => ?_)
    · replace h := h.1 q115
      refine j_iconst hc dX11_lightsKept_192 ?_
      refine j_istore (lv' := [(4, vI 0), (0, vR E 0), (1, vI l1), (2, vI l2)]) hc dX11_lightsKept_193 (by decide) rfl ?_
      obtain ⟨n195, h⟩ := h
      refine j_sub (lv' := [(0, vR E 0), (1, vI l1), (2, vI l2), (4, vI 0)]) [1, 2, 3, 0] rfl ?_
      exact jl_X11_lightsKept_195 hc hm hr hh n195 cl1 cl2 (wlit 0 (by decide)) h
    · replace h := h.2 q115
      refine j_iload_n hc 1 dX11_lightsKept_167 rfl rfl ?_
      refine j_iload hc 3 dX11_lightsKept_168 rfl ?_
      refine j_sI hc ml_RX11_325 mv_X11_isIn (As := [vI l1, vI l4]) (c_X11_isIn (cx_E hc) hm cl1 cl4 h) rfl (by omega) (by decide) ⟨Nat.zero_le _, Nat.zero_le _⟩ (Nat.le_of_ble_eq_true rfl) rfl dX11_lightsKept_170 (fun r110 s111 cr110 h => ?_)
      refine j_if_eq hc cr110 (tgt := 186) dX11_lightsKept_173 (by decide) (fun q114 => ?_) (fun q114 => ?_)
      · replace h := h.1 q114
        refine j_sub (lv' := [(0, vR E 0), (1, vI l1), (2, vI l2), (4, vI l4)]) [0, 1, 2, 3] rfl ?_
        exact jb_X11_lightsKept_186 hc hm hr hh hk158 cl1 cl2 cl4 h
      · replace h := h.2 q114
        refine j_aload_nR hc 0 dX11_lightsKept_176 rfl rfl ?_
        refine j_getR (c' := 2) hc fl_RX11_24 rfl rfl (fun hv => (sv_k hv hm rfl)) dX11_lightsKept_177 ?_
        refine j_iconst hc dX11_lightsKept_180 ?_
        refine j_iload hc 3 dX11_lightsKept_181 rfl ?_
        refine j_iadd hc dX11_lightsKept_183 ?_
        refine j_iconst hc dX11_lightsKept_184 ?_
        obtain ⟨b112, h⟩ := h
        refine j_iast (jn := (Int.toNat (wr (0 + l4)))) hc (fun hv => sv_kl hv hm rfl) rfl b112 rfl (wlit 3 (by decide)) dX11_lightsKept_185 (fun s113 es113 => ?_)
        replace h := h s113 es113
        refine j_sub (lv' := [(0, vR E 0), (1, vI l1), (2, vI l2), (4, vI l4)]) [0, 1, 2, 3] rfl ?_
        exact jb_X11_lightsKept_186 hc hm hr hh hk158 cl1 cl2 cl4 h
set_option maxRecDepth 20000 in
theorem jl_X11_lightsKept_70 {X : jj_X} {E : ev_E} {n0 hN : Nat} (hc : Cx X E cX11_lightsKept 6 n0 hN RX11) (hm : eM E = 2) (hr : (xT X).sig.returnType = (some .int)) (hh : 128 ≤ hN) {Q : Int → st_S → Prop} : ∀ (n : Nat) {l1 : Int} {l2 : Int} {l3 : Int} {l4 : Int} (cl1 : wr l1 = l1) (cl2 : wr l2 = l2) (cl3 : wr l3 = l3) (cl4 : wr l4 = l4) {σ : st_S}, L_X11_lightsKept_70 Q n l1 l2 l3 l4 σ → J X E 6 n0 0 0 (MQ (xB X) (qI E (n0 + 0) Q) (xA X) (xS X) 0 0 (eF E)) σ 70 [(0, vR E 0), (1, vI l1), (2, vI l2), (3, vI l3), (4, vI l4)] [] := by
  have hh1 : 1 ≤ hN := by omega
  intro n
  induction n with
  | zero => intro l1 l2 l3 l4 cl1 cl2 cl3 cl4 σ h; exact h.elim
  | succ n ih =>
    intro l1 l2 l3 l4 cl1 cl2 cl3 cl4 σ h
    have hk70 : ∀ {l1 : Int} {l2 : Int} {l3 : Int} {l4 : Int} (cl1 : wr l1 = l1) (cl2 : wr l2 = l2) (cl3 : wr l3 = l3) (cl4 : wr l4 = l4) {σ : st_S}, L_X11_lightsKept_70 Q n l1 l2 l3 l4 σ → J X E 6 n0 0 0 (MQ (xB X) (qI E (n0 + 0) Q) (xA X) (xS X) 0 0 (eF E)) σ 70 [(0, vR E 0), (1, vI l1), (2, vI l2), (3, vI l3), (4, vI l4)] [] := ih
    replace h : wp_X11_people σ (fun r116 s117 => (r116 ≤ l4 → (l3 = 0 → B_X11_lightsKept_147 Q s117) ∧ (¬ l3 = 0 → wp_X11_fogOn (gI s117 2 33) s117 (fun r119 s120 => wp_X11_needOn r119 s120 (fun r121 s122 => (r121 ≤ l2 → wp_X11_keeps 1 s122 (fun s124 => ∃ m158 : Nat, L_X11_lightsKept_158 Q m158 l1 l2 0 s124)) ∧ (¬ r121 ≤ l2 → B_X11_lightsKept_147 Q s122))))) ∧ (¬ r116 ≤ l4 → wp_X11_isIn l1 l4 s117 (fun r127 s128 => (¬ r127 = 0 → (l3 = 0 → B_X11_lightsKept_108 Q (L_X11_lightsKept_70 Q n) l1 l2 l4 s128) ∧ (¬ l3 = 0 → wp_X11_mayLight l4 s128 (fun r129 s130 => (r129 = 0 → B_X11_lightsKept_108 Q (L_X11_lightsKept_70 Q n) l1 l2 l4 s130) ∧ (¬ r129 = 0 → B_X11_lightsKept_109 Q (L_X11_lightsKept_70 Q n) l1 l2 l4 1 s130)))) ∧ (r127 = 0 → B_X11_lightsKept_119 Q (L_X11_lightsKept_70 Q n) l1 l2 l3 l4 s128)))) := h
    refine j_iload hc 4 dX11_lightsKept_70 rfl ?_
    refine j_aload_nR hc 0 dX11_lightsKept_72 rfl rfl ?_
    refine j_vI hc (k := 11) (by decide) (fun hv => Or.inl (sv_k hv hm rfl)) ml_RX11_116 mv_X11_people (As := []) (c_X11_people (cx_E hc) hm  h) rfl (by omega) (by decide) ⟨Nat.zero_le _, Nat.zero_le _⟩ (Nat.le_of_ble_eq_true rfl) rfl dX11_lightsKept_73 (fun r116 s117 cr116 h => ?_)
    refine j_ic_ge hc cl4 cr116 (tgt := 125) dX11_lightsKept_76 (by decide) (fun q134 => ?_) (fun q134 => ?_)
    · replace h := h.1 q134
      refine j_iload_n hc 3 dX11_lightsKept_125 rfl rfl ?_
      refine j_if_eq hc cl3 (tgt := 147) dX11_lightsKept_126 (by decide) (fun q126 => ?_) (fun q126 => ?_)
      · replace h := h.1 q126
        refine j_sub (lv' := []) [] rfl ?_
        exact jb_X11_lightsKept_147 hc hm hr hh h
      · replace h := h.2 q126
        refine j_iload_n hc 2 dX11_lightsKept_129 rfl rfl ?_
        refine j_aload_nR hc 0 dX11_lightsKept_130 rfl rfl ?_
        refine j_aload_nR hc 0 dX11_lightsKept_131 rfl rfl ?_
        refine j_getR (c' := 2) hc fl_RX11_24 rfl rfl (fun hv => (sv_k hv hm rfl)) dX11_lightsKept_132 ?_
        refine j_bipush hc dX11_lightsKept_135 (by decide) ?_
        refine j_iald (jn := 33) hc (fun hv => sv_kl hv hm rfl) (wlit 33 (by decide)) ⟨by decide, by decide⟩ rfl dX11_lightsKept_137 (fun cn118 => ?_)
        refine j_vI hc (k := 11) (by decide) (fun hv => Or.inl (sv_k hv hm rfl)) ml_RX11_292 mv_X11_fogOn (As := [vI (gI s117 2 33)]) (c_X11_fogOn (cx_E hc) hm cn118 h) rfl (by omega) (by decide) ⟨Nat.zero_le _, Nat.zero_le _⟩ (Nat.le_of_ble_eq_true rfl) rfl dX11_lightsKept_138 (fun r119 s120 cr119 h => ?_)
        refine j_sI hc ml_RX11_331 mv_X11_needOn (As := [vI r119]) (c_X11_needOn (cx_E hc) hm cr119 h) rfl (by omega) (by decide) ⟨Nat.zero_le _, Nat.zero_le _⟩ (Nat.le_of_ble_eq_true rfl) rfl dX11_lightsKept_141 (fun r121 s122 cr121 h => ?_)
        refine j_ic_ge hc cl2 cr121 (tgt := 150) dX11_lightsKept_144 (by decide) (fun q125 => ?_) (fun q125 => ?_)
        · replace h := h.1 q125
          refine j_aload_nR hc 0 dX11_lightsKept_150 rfl rfl ?_
          refine j_iconst hc dX11_lightsKept_151 ?_
          refine j_vV hc (k := 11) (by decide) (fun hv => Or.inl (sv_k hv hm rfl)) ml_RX11_322 mv_X11_keeps (As := [vI 1]) (c_X11_keeps (cx_E hc) hm (wlit 1 (by decide)) h) rfl (by omega) (by decide) ⟨Nat.zero_le _, Nat.zero_le _⟩ (Nat.le_of_ble_eq_true rfl) rfl dX11_lightsKept_152 (fun s124 h => ?_)
          refine j_iconst hc dX11_lightsKept_155 ?_
          refine j_istore (lv' := [(4, vI 0), (0, vR E 0), (1, vI l1), (2, vI l2), (3, vI l3)]) hc dX11_lightsKept_156 (by decide) rfl ?_
          obtain ⟨n158, h⟩ := h
          refine j_sub (lv' := [(0, vR E 0), (1, vI l1), (2, vI l2), (4, vI 0)]) [1, 2, 3, 0] rfl ?_
          exact jl_X11_lightsKept_158 hc hm hr hh n158 cl1 cl2 (wlit 0 (by decide)) h
        · replace h := h.2 q125
          refine j_sub (lv' := []) [] rfl ?_
          exact jb_X11_lightsKept_147 hc hm hr hh h
    · replace h := h.2 q134
      refine j_iload_n hc 1 dX11_lightsKept_79 rfl rfl ?_
      refine j_iload hc 4 dX11_lightsKept_80 rfl ?_
      refine j_sI hc ml_RX11_325 mv_X11_isIn (As := [vI l1, vI l4]) (c_X11_isIn (cx_E hc) hm cl1 cl4 h) rfl (by omega) (by decide) ⟨Nat.zero_le _, Nat.zero_le _⟩ (Nat.le_of_ble_eq_true rfl) rfl dX11_lightsKept_82 (fun r127 s128 cr127 h => ?_)
      refine j_if_ne hc cr127 (tgt := 91) dX11_lightsKept_85 (by decide) (fun q133 => ?_) (fun q133 => ?_)
      · replace h := h.1 q133
        refine j_iload_n hc 3 dX11_lightsKept_91 rfl rfl ?_
        refine j_if_eq hc cl3 (tgt := 108) dX11_lightsKept_92 (by decide) (fun q132 => ?_) (fun q132 => ?_)
        · replace h := h.1 q132
          refine j_sub (lv' := [(0, vR E 0), (1, vI l1), (2, vI l2), (4, vI l4)]) [0, 1, 2, 4] rfl ?_
          exact jb_X11_lightsKept_108 hc hm hr hh hk70 cl1 cl2 cl4 h
        · replace h := h.2 q132
          refine j_aload_nR hc 0 dX11_lightsKept_95 rfl rfl ?_
          refine j_iload hc 4 dX11_lightsKept_96 rfl ?_
          refine j_vI hc (k := 11) (by decide) (fun hv => Or.inl (sv_k hv hm rfl)) ml_RX11_328 mv_X11_mayLight (As := [vI l4]) (c_X11_mayLight (cx_E hc) hm cl4 h) rfl (by omega) (by decide) ⟨Nat.zero_le _, Nat.zero_le _⟩ (Nat.le_of_ble_eq_true rfl) rfl dX11_lightsKept_98 (fun r129 s130 cr129 h => ?_)
          refine j_if_eq hc cr129 (tgt := 108) dX11_lightsKept_101 (by decide) (fun q131 => ?_) (fun q131 => ?_)
          · replace h := h.1 q131
            refine j_sub (lv' := [(0, vR E 0), (1, vI l1), (2, vI l2), (4, vI l4)]) [0, 1, 2, 4] rfl ?_
            exact jb_X11_lightsKept_108 hc hm hr hh hk70 cl1 cl2 cl4 h
          · replace h := h.2 q131
            refine j_iconst hc dX11_lightsKept_104 ?_
            refine j_goto (tgt := 109) hc dX11_lightsKept_105 (by decide) ?_
            refine j_sub (lv' := [(0, vR E 0), (1, vI l1), (2, vI l2), (4, vI l4)]) [0, 1, 2, 4] rfl ?_
            exact jb_X11_lightsKept_109 hc hm hr hh hk70 cl1 cl2 cl4 (wlit 1 (by decide)) h
      · replace h := h.2 q133
        refine j_goto (tgt := 119) hc dX11_lightsKept_88 (by decide) ?_
        refine j_sub (lv' := [(0, vR E 0), (1, vI l1), (2, vI l2), (3, vI l3), (4, vI l4)]) [0, 1, 2, 3, 4] rfl ?_
        exact jb_X11_lightsKept_119 hc hm hr hh hk70 cl1 cl2 cl3 cl4 h
set_option maxRecDepth 20000 in
theorem jb_X11_lightsKept_66 {X : jj_X} {E : ev_E} {n0 hN : Nat} (hc : Cx X E cX11_lightsKept 6 n0 hN RX11) (hm : eM E = 2) (hr : (xT X).sig.returnType = (some .int)) (hh : 128 ≤ hN) {Q : Int → st_S → Prop} {l1 : Int} {l2 : Int} {v0 : Int} (cl1 : wr l1 = l1) (cl2 : wr l2 = l2) (cv0 : wr v0 = v0) {σ : st_S} (h : B_X11_lightsKept_66 Q l1 l2 v0 σ) : J X E 6 n0 0 0 (MQ (xB X) (qI E (n0 + 0) Q) (xA X) (xS X) 0 0 (eF E)) σ 66 [(0, vR E 0), (1, vI l1), (2, vI l2)] [vI v0] := by
  have hh1 : 1 ≤ hN := by omega
  replace h : ∃ m70 : Nat, L_X11_lightsKept_70 Q m70 l1 l2 v0 0 σ := h
  refine j_istore_n (lv' := [(3, vI v0), (0, vR E 0), (1, vI l1), (2, vI l2)]) hc dX11_lightsKept_66 rfl (by decide) rfl ?_
  refine j_iconst hc dX11_lightsKept_67 ?_
  refine j_istore (lv' := [(4, vI 0), (3, vI v0), (0, vR E 0), (1, vI l1), (2, vI l2)]) hc dX11_lightsKept_68 (by decide) rfl ?_
  obtain ⟨n70, h⟩ := h
  refine j_sub (lv' := [(0, vR E 0), (1, vI l1), (2, vI l2), (3, vI v0), (4, vI 0)]) [2, 3, 4, 1, 0] rfl ?_
  exact jl_X11_lightsKept_70 hc hm hr hh n70 cl1 cl2 cv0 (wlit 0 (by decide)) h
set_option maxRecDepth 20000 in
theorem jl_X11_lightsKept_17 {X : jj_X} {E : ev_E} {n0 hN : Nat} (hc : Cx X E cX11_lightsKept 6 n0 hN RX11) (hm : eM E = 2) (hr : (xT X).sig.returnType = (some .int)) (hh : 128 ≤ hN) {Q : Int → st_S → Prop} : ∀ (n : Nat) {l1 : Int} {l2 : Int} {l3 : Int} (cl1 : wr l1 = l1) (cl2 : wr l2 = l2) (cl3 : wr l3 = l3) {σ : st_S}, L_X11_lightsKept_17 Q n l1 l2 l3 σ → J X E 6 n0 0 0 (MQ (xB X) (qI E (n0 + 0) Q) (xA X) (xS X) 0 0 (eF E)) σ 17 [(0, vR E 0), (1, vI l1), (2, vI l2), (3, vI l3)] [] := by
  have hh1 : 1 ≤ hN := by omega
  intro n
  induction n with
  | zero => intro l1 l2 l3 cl1 cl2 cl3 σ h; exact h.elim
  | succ n ih =>
    intro l1 l2 l3 cl1 cl2 cl3 σ h
    have hk17 : ∀ {l1 : Int} {l2 : Int} {l3 : Int} (cl1 : wr l1 = l1) (cl2 : wr l2 = l2) (cl3 : wr l3 = l3) {σ : st_S}, L_X11_lightsKept_17 Q n l1 l2 l3 σ → J X E 6 n0 0 0 (MQ (xB X) (qI E (n0 + 0) Q) (xA X) (xS X) 0 0 (eF E)) σ 17 [(0, vR E 0), (1, vI l1), (2, vI l2), (3, vI l3)] [] := ih
    replace h : (10 ≤ l3 → (999 ≤ gI σ 2 33 → B_X11_lightsKept_66 Q l1 l2 0 σ) ∧ (¬ 999 ≤ gI σ 2 33 → B_X11_lightsKept_66 Q l1 l2 1 σ)) ∧ (¬ 10 ≤ l3 → wp_X11_isIn l1 l3 σ (fun r137 s138 => (r137 = 0 → B_X11_lightsKept_42 Q (L_X11_lightsKept_17 Q n) l1 l2 l3 s138) ∧ (¬ r137 = 0 → wp_X11_isPerson l3 s138 (fun r139 s140 => (¬ r139 = 0 → B_X11_lightsKept_42 Q (L_X11_lightsKept_17 Q n) l1 l2 l3 s140) ∧ (r139 = 0 → Q (-2) s140))))) := h
    refine j_iload_n hc 3 dX11_lightsKept_17 rfl rfl ?_
    refine j_bipush hc dX11_lightsKept_18 (by decide) ?_
    refine j_ic_ge hc cl3 (wlit 10 (by decide)) (tgt := 48) dX11_lightsKept_20 (by decide) (fun q143 => ?_) (fun q143 => ?_)
    · replace h := h.1 q143
      refine j_aload_nR hc 0 dX11_lightsKept_48 rfl rfl ?_
      refine j_getR (c' := 2) hc fl_RX11_24 rfl rfl (fun hv => (sv_k hv hm rfl)) dX11_lightsKept_49 ?_
      refine j_bipush hc dX11_lightsKept_52 (by decide) ?_
      refine j_iald (jn := 33) hc (fun hv => sv_kl hv hm rfl) (wlit 33 (by decide)) ⟨by decide, by decide⟩ rfl dX11_lightsKept_54 (fun cn135 => ?_)
      refine j_sipush hc dX11_lightsKept_55 (by decide) ?_
      refine j_ic_ge hc cn135 (wlit 999 (by decide)) (tgt := 65) dX11_lightsKept_58 (by decide) (fun q136 => ?_) (fun q136 => ?_)
      · replace h := h.1 q136
        refine j_iconst hc dX11_lightsKept_65 ?_
        refine j_sub (lv' := [(0, vR E 0), (1, vI l1), (2, vI l2)]) [0, 1, 2] rfl ?_
        exact jb_X11_lightsKept_66 hc hm hr hh cl1 cl2 (wlit 0 (by decide)) h
      · replace h := h.2 q136
        refine j_iconst hc dX11_lightsKept_61 ?_
        refine j_goto (tgt := 66) hc dX11_lightsKept_62 (by decide) ?_
        refine j_sub (lv' := [(0, vR E 0), (1, vI l1), (2, vI l2)]) [0, 1, 2] rfl ?_
        exact jb_X11_lightsKept_66 hc hm hr hh cl1 cl2 (wlit 1 (by decide)) h
    · replace h := h.2 q143
      refine j_iload_n hc 1 dX11_lightsKept_23 rfl rfl ?_
      refine j_iload_n hc 3 dX11_lightsKept_24 rfl rfl ?_
      refine j_sI hc ml_RX11_325 mv_X11_isIn (As := [vI l1, vI l3]) (c_X11_isIn (cx_E hc) hm cl1 cl3 h) rfl (by omega) (by decide) ⟨Nat.zero_le _, Nat.zero_le _⟩ (Nat.le_of_ble_eq_true rfl) rfl dX11_lightsKept_25 (fun r137 s138 cr137 h => ?_)
      refine j_if_eq hc cr137 (tgt := 42) dX11_lightsKept_28 (by decide) (fun q142 => ?_) (fun q142 => ?_)
      · replace h := h.1 q142
        refine j_sub (lv' := [(0, vR E 0), (1, vI l1), (2, vI l2), (3, vI l3)]) [0, 1, 2, 3] rfl ?_
        exact jb_X11_lightsKept_42 hc hm hr hh hk17 cl1 cl2 cl3 h
      · replace h := h.2 q142
        refine j_aload_nR hc 0 dX11_lightsKept_31 rfl rfl ?_
        refine j_iload_n hc 3 dX11_lightsKept_32 rfl rfl ?_
        refine j_vI hc (k := 11) (by decide) (fun hv => Or.inl (sv_k hv hm rfl)) ml_RX11_128 mv_X11_isPerson (As := [vI l3]) (c_X11_isPerson (cx_E hc) hm cl3 h) rfl (by omega) (by decide) ⟨Nat.zero_le _, Nat.zero_le _⟩ (Nat.le_of_ble_eq_true rfl) rfl dX11_lightsKept_33 (fun r139 s140 cr139 h => ?_)
        refine j_if_ne hc cr139 (tgt := 42) dX11_lightsKept_36 (by decide) (fun q141 => ?_) (fun q141 => ?_)
        · replace h := h.1 q141
          refine j_sub (lv' := [(0, vR E 0), (1, vI l1), (2, vI l2), (3, vI l3)]) [0, 1, 2, 3] rfl ?_
          exact jb_X11_lightsKept_42 hc hm hr hh hk17 cl1 cl2 cl3 h
        · replace h := h.2 q141
          refine j_bipush hc dX11_lightsKept_39 (by decide) ?_
          exact j_iret hc hr (wlit (-2) (by decide)) h dX11_lightsKept_41
set_option maxRecDepth 20000 in
theorem c_X11_lightsKept {l : Launch} {E : ev_E} (hE : Eok E) (hm : eM E = 2) {a1 : Int} (ca1 : wr a1 = a1) {σ : st_S} {Q : Int → st_S → Prop} (h : wp_X11_lightsKept a1 σ Q) : cM l yX11_lightsKept cX11_lightsKept 6 (some .int) E 128 0 0 [vR E 0, vI a1] σ (qI E (gN σ + 0) Q) := by
  refine cM_of (lv := [(0, vR E 0), (1, vI a1)]) (by decide) hE (Nat.le_of_ble_eq_true rfl) (rfl) ?_
  intro X hX hc _ _ hr _ _
  subst hX
  have hh : 128 ≤ 128 := Nat.le_refl _
  have hh1 : 1 ≤ 128 := by omega
  replace h : wp_X11_lies a1 1 1023 σ (fun r144 s145 => (¬ r144 = 0 → ∃ m17 : Nat, L_X11_lightsKept_17 Q m17 a1 0 0 s145) ∧ (r144 = 0 → Q (-1) s145)) := h
  refine j_iload_n hc 1 dX11_lightsKept_0 rfl rfl ?_
  refine j_iconst hc dX11_lightsKept_1 ?_
  refine j_sipush hc dX11_lightsKept_2 (by decide) ?_
  refine j_sI hc ml_RX11_106 mv_X11_lies (As := [vI a1, vI 1, vI 1023]) (c_X11_lies (cx_E hc) hm ca1 (wlit 1 (by decide)) (wlit 1023 (by decide)) h) rfl (by omega) (by decide) ⟨Nat.zero_le _, Nat.zero_le _⟩ (Nat.le_of_ble_eq_true rfl) rfl dX11_lightsKept_5 (fun r144 s145 cr144 h => ?_)
  refine j_if_ne hc cr144 (tgt := 13) dX11_lightsKept_8 (by decide) (fun q146 => ?_) (fun q146 => ?_)
  · replace h := h.1 q146
    refine j_iconst hc dX11_lightsKept_13 ?_
    refine j_istore_n (lv' := [(2, vI 0), (0, vR E 0), (1, vI a1)]) hc dX11_lightsKept_14 rfl (by decide) rfl ?_
    refine j_iconst hc dX11_lightsKept_15 ?_
    refine j_istore_n (lv' := [(3, vI 0), (2, vI 0), (0, vR E 0), (1, vI a1)]) hc dX11_lightsKept_16 rfl (by decide) rfl ?_
    obtain ⟨n17, h⟩ := h
    refine j_sub (lv' := [(0, vR E 0), (1, vI a1), (2, vI 0), (3, vI 0)]) [2, 3, 1, 0] rfl ?_
    exact jl_X11_lightsKept_17 hc hm hr hh n17 ca1 (wlit 0 (by decide)) (wlit 0 (by decide)) h
  · replace h := h.2 q146
    refine j_iconst hc dX11_lightsKept_11 ?_
    exact j_iret hc hr (wlit (-1) (by decide)) h dX11_lightsKept_12
-- LitStrangersModel.darkKept()I
theorem dX11_darkKept_0 : decode cX11_darkKept 0 = .ok (.aload_n 0, 1) := by decide +kernel
theorem dX11_darkKept_1 : decode cX11_darkKept 1 = .ok (.getfield 24, 3) := by decide +kernel
theorem dX11_darkKept_4 : decode cX11_darkKept 4 = .ok (.bipush 33, 2) := by decide +kernel
theorem dX11_darkKept_6 : decode cX11_darkKept 6 = .ok (.iaload, 1) := by decide +kernel
theorem dX11_darkKept_7 : decode cX11_darkKept 7 = .ok (.sipush 999, 3) := by decide +kernel
theorem dX11_darkKept_10 : decode cX11_darkKept 10 = .ok (.if_icmp .ne 6, 3) := by decide +kernel
theorem dX11_darkKept_13 : decode cX11_darkKept 13 = .ok (.bipush (-3), 2) := by decide +kernel
theorem dX11_darkKept_15 : decode cX11_darkKept 15 = .ok (.ireturn, 1) := by decide +kernel
theorem dX11_darkKept_16 : decode cX11_darkKept 16 = .ok (.aload_n 0, 1) := by decide +kernel
theorem dX11_darkKept_17 : decode cX11_darkKept 17 = .ok (.iconst 2, 1) := by decide +kernel
theorem dX11_darkKept_18 : decode cX11_darkKept 18 = .ok (.invokevirtual 322, 3) := by decide +kernel
theorem dX11_darkKept_21 : decode cX11_darkKept 21 = .ok (.aload_n 0, 1) := by decide +kernel
theorem dX11_darkKept_22 : decode cX11_darkKept 22 = .ok (.getfield 24, 3) := by decide +kernel
theorem dX11_darkKept_25 : decode cX11_darkKept 25 = .ok (.bipush 31, 2) := by decide +kernel
theorem dX11_darkKept_27 : decode cX11_darkKept 27 = .ok (.dup2, 1) := by decide +kernel
theorem dX11_darkKept_28 : decode cX11_darkKept 28 = .ok (.iaload, 1) := by decide +kernel
theorem dX11_darkKept_29 : decode cX11_darkKept 29 = .ok (.iconst 1, 1) := by decide +kernel
theorem dX11_darkKept_30 : decode cX11_darkKept 30 = .ok (.iadd, 1) := by decide +kernel
theorem dX11_darkKept_31 : decode cX11_darkKept 31 = .ok (.iastore, 1) := by decide +kernel
theorem dX11_darkKept_32 : decode cX11_darkKept 32 = .ok (.aload_n 0, 1) := by decide +kernel
theorem dX11_darkKept_33 : decode cX11_darkKept 33 = .ok (.invokevirtual 340, 3) := by decide +kernel
theorem dX11_darkKept_36 : decode cX11_darkKept 36 = .ok (.aload_n 0, 1) := by decide +kernel
theorem dX11_darkKept_37 : decode cX11_darkKept 37 = .ok (.getfield 24, 3) := by decide +kernel
theorem dX11_darkKept_40 : decode cX11_darkKept 40 = .ok (.bipush 31, 2) := by decide +kernel
theorem dX11_darkKept_42 : decode cX11_darkKept 42 = .ok (.iaload, 1) := by decide +kernel
theorem dX11_darkKept_43 : decode cX11_darkKept 43 = .ok (.ireturn, 1) := by decide +kernel
def wp_X11_darkKept  (σ : st_S) (Q : Int → st_S → Prop) : Prop := (¬ gI σ 2 33 = 999 → wp_X11_keeps 2 σ (fun s16 => ∀ x18 : Int, x18 = wr (gI s16 2 31 + 1) → ∀ s19 : st_S, s19 = sI s16 2 31 x18 → wp_X11_passesNight s19 (fun s21 => Q (gI s21 2 31) s21))) ∧ (gI σ 2 33 = 999 → Q (-3) σ)
set_option maxRecDepth 20000 in
theorem c_X11_darkKept {l : Launch} {E : ev_E} (hE : Eok E) (hm : eM E = 2) {σ : st_S} {Q : Int → st_S → Prop} (h : wp_X11_darkKept σ Q) : cM l yX11_darkKept cX11_darkKept 1 (some .int) E 128 0 0 [vR E 0] σ (qI E (gN σ + 0) Q) := by
  refine cM_of (lv := [(0, vR E 0)]) (by decide) hE (Nat.le_of_ble_eq_true rfl) (rfl) ?_
  intro X hX hc _ _ hr _ _
  subst hX
  have hh : 128 ≤ 128 := Nat.le_refl _
  have hh1 : 1 ≤ 128 := by omega
  replace h : (¬ gI σ 2 33 = 999 → wp_X11_keeps 2 σ (fun s16 => ∀ x18 : Int, x18 = wr (gI s16 2 31 + 1) → ∀ s19 : st_S, s19 = sI s16 2 31 x18 → wp_X11_passesNight s19 (fun s21 => Q (gI s21 2 31) s21))) ∧ (gI σ 2 33 = 999 → Q (-3) σ) := h
  refine j_aload_nR hc 0 dX11_darkKept_0 rfl rfl ?_
  refine j_getR (c' := 2) hc fl_RX11_24 rfl rfl (fun hv => (sv_k hv hm rfl)) dX11_darkKept_1 ?_
  refine j_bipush hc dX11_darkKept_4 (by decide) ?_
  refine j_iald (jn := 33) hc (fun hv => sv_kl hv hm rfl) (wlit 33 (by decide)) ⟨by decide, by decide⟩ rfl dX11_darkKept_6 (fun cn14 => ?_)
  refine j_sipush hc dX11_darkKept_7 (by decide) ?_
  refine j_ic_ne hc cn14 (wlit 999 (by decide)) (tgt := 16) dX11_darkKept_10 (by decide) (fun q23 => ?_) (fun q23 => ?_)
  · replace h := h.1 q23
    refine j_aload_nR hc 0 dX11_darkKept_16 rfl rfl ?_
    refine j_iconst hc dX11_darkKept_17 ?_
    refine j_vV hc (k := 11) (by decide) (fun hv => Or.inl (sv_k hv hm rfl)) ml_RX11_322 mv_X11_keeps (As := [vI 2]) (c_X11_keeps (cx_E hc) hm (wlit 2 (by decide)) h) rfl (by omega) (by decide) ⟨Nat.zero_le _, Nat.zero_le _⟩ (Nat.le_of_ble_eq_true rfl) rfl dX11_darkKept_18 (fun s16 h => ?_)
    refine j_aload_nR hc 0 dX11_darkKept_21 rfl rfl ?_
    refine j_getR (c' := 2) hc fl_RX11_24 rfl rfl (fun hv => (sv_k hv hm rfl)) dX11_darkKept_22 ?_
    refine j_bipush hc dX11_darkKept_25 (by decide) ?_
    refine j_dup2 hc dX11_darkKept_27 rfl rfl ?_
    refine j_iald (jn := 31) hc (fun hv => sv_kl hv hm rfl) (wlit 31 (by decide)) ⟨by decide, by decide⟩ rfl dX11_darkKept_28 (fun cn17 => ?_)
    refine j_iconst hc dX11_darkKept_29 ?_
    refine j_iadd hc dX11_darkKept_30 ?_
    refine j_w (fun x18 ex18 cx18 => ?_)
    replace h := h x18 ex18
    refine j_iast (jn := 31) hc (fun hv => sv_kl hv hm rfl) (wlit 31 (by decide)) ⟨by decide, by decide⟩ rfl cx18 dX11_darkKept_31 (fun s19 es19 => ?_)
    replace h := h s19 es19
    refine j_aload_nR hc 0 dX11_darkKept_32 rfl rfl ?_
    refine j_vV hc (k := 11) (by decide) (fun hv => Or.inl (sv_k hv hm rfl)) ml_RX11_340 mv_X11_passesNight (As := []) (c_X11_passesNight (cx_E hc) hm  h) rfl (by omega) (by decide) ⟨Nat.zero_le _, Nat.zero_le _⟩ (Nat.le_of_ble_eq_true rfl) rfl dX11_darkKept_33 (fun s21 h => ?_)
    refine j_aload_nR hc 0 dX11_darkKept_36 rfl rfl ?_
    refine j_getR (c' := 2) hc fl_RX11_24 rfl rfl (fun hv => (sv_k hv hm rfl)) dX11_darkKept_37 ?_
    refine j_bipush hc dX11_darkKept_40 (by decide) ?_
    refine j_iald (jn := 31) hc (fun hv => sv_kl hv hm rfl) (wlit 31 (by decide)) ⟨by decide, by decide⟩ rfl dX11_darkKept_42 (fun cn22 => ?_)
    exact j_iret hc hr cn22 h dX11_darkKept_43
  · replace h := h.2 q23
    refine j_bipush hc dX11_darkKept_13 (by decide) ?_
    exact j_iret hc hr (wlit (-3) (by decide)) h dX11_darkKept_15
-- LitStrangersModel.goodOr(I)I
theorem dX11_goodOr_0 : decode cX11_goodOr 0 = .ok (.iload_n 1, 1) := by decide +kernel
theorem dX11_goodOr_1 : decode cX11_goodOr 1 = .ok (.ifCond .ge 11, 3) := by decide +kernel
theorem dX11_goodOr_4 : decode cX11_goodOr 4 = .ok (.aload_n 0, 1) := by decide +kernel
theorem dX11_goodOr_5 : decode cX11_goodOr 5 = .ok (.iload_n 1, 1) := by decide +kernel
theorem dX11_goodOr_6 : decode cX11_goodOr 6 = .ok (.invokevirtual 110, 3) := by decide +kernel
theorem dX11_goodOr_9 : decode cX11_goodOr 9 = .ok (.goto 8, 3) := by decide +kernel
theorem dX11_goodOr_12 : decode cX11_goodOr 12 = .ok (.aload_n 0, 1) := by decide +kernel
theorem dX11_goodOr_13 : decode cX11_goodOr 13 = .ok (.iload_n 1, 1) := by decide +kernel
theorem dX11_goodOr_14 : decode cX11_goodOr 14 = .ok (.invokevirtual 14, 3) := by decide +kernel
theorem dX11_goodOr_17 : decode cX11_goodOr 17 = .ok (.ireturn, 1) := by decide +kernel
def B_X11_goodOr_17 (Q : Int → st_S → Prop)   (v0 : Int) (σ : st_S) : Prop := Q v0 σ
def wp_X11_goodOr (a1 : Int) (σ : st_S) (Q : Int → st_S → Prop) : Prop := (0 ≤ a1 → wp_X11_good a1 σ (fun r5 s6 => B_X11_goodOr_17 Q r5 s6)) ∧ (¬ 0 ≤ a1 → wp_X11_refuses a1 σ (fun r7 s8 => B_X11_goodOr_17 Q r7 s8))
set_option maxRecDepth 20000 in
theorem jb_X11_goodOr_17 {X : jj_X} {E : ev_E} {n0 hN : Nat} (hc : Cx X E cX11_goodOr 2 n0 hN RX11) (hm : eM E = 2) (hr : (xT X).sig.returnType = (some .int)) (hh : 2 ≤ hN) {Q : Int → st_S → Prop} {v0 : Int} (cv0 : wr v0 = v0) {σ : st_S} (h : B_X11_goodOr_17 Q v0 σ) : J X E 2 n0 0 0 (MQ (xB X) (qI E (n0 + 0) Q) (xA X) (xS X) 0 0 (eF E)) σ 17 [] [vI v0] := by
  have hh1 : 1 ≤ hN := by omega
  replace h : Q v0 σ := h
  exact j_iret hc hr cv0 h dX11_goodOr_17
set_option maxRecDepth 20000 in
theorem c_X11_goodOr {l : Launch} {E : ev_E} (hE : Eok E) (hm : eM E = 2) {a1 : Int} (ca1 : wr a1 = a1) {σ : st_S} {Q : Int → st_S → Prop} (h : wp_X11_goodOr a1 σ Q) : cM l yX11_goodOr cX11_goodOr 2 (some .int) E 2 0 0 [vR E 0, vI a1] σ (qI E (gN σ + 0) Q) := by
  refine cM_of (lv := [(0, vR E 0), (1, vI a1)]) (by decide) hE (Nat.le_of_ble_eq_true rfl) (rfl) ?_
  intro X hX hc _ _ hr _ _
  subst hX
  have hh : 2 ≤ 2 := Nat.le_refl _
  have hh1 : 1 ≤ 2 := by omega
  replace h : (0 ≤ a1 → wp_X11_good a1 σ (fun r5 s6 => B_X11_goodOr_17 Q r5 s6)) ∧ (¬ 0 ≤ a1 → wp_X11_refuses a1 σ (fun r7 s8 => B_X11_goodOr_17 Q r7 s8)) := h
  refine j_iload_n hc 1 dX11_goodOr_0 rfl rfl ?_
  refine j_if_ge hc ca1 (tgt := 12) dX11_goodOr_1 (by decide) (fun q9 => ?_) (fun q9 => ?_)
  · replace h := h.1 q9
    refine j_aload_nR hc 0 dX11_goodOr_12 rfl rfl ?_
    refine j_iload_n hc 1 dX11_goodOr_13 rfl rfl ?_
    refine j_vI hc (k := 11) (by decide) (fun hv => Or.inl (sv_k hv hm rfl)) ml_RX11_14 mv_X11_good (As := [vI a1]) (c_X11_good (cx_E hc) hm ca1 h) rfl (by omega) (by decide) ⟨Nat.zero_le _, Nat.zero_le _⟩ (Nat.le_of_ble_eq_true rfl) rfl dX11_goodOr_14 (fun r5 s6 cr5 h => ?_)
    refine j_sub (lv' := []) [] rfl ?_
    exact jb_X11_goodOr_17 hc hm hr hh cr5 h
  · replace h := h.2 q9
    refine j_aload_nR hc 0 dX11_goodOr_4 rfl rfl ?_
    refine j_iload_n hc 1 dX11_goodOr_5 rfl rfl ?_
    refine j_vI hc (k := 11) (by decide) (fun hv => Or.inl (sv_k hv hm rfl)) ml_RX11_110 mv_X11_refuses (As := [vI a1]) (c_X11_refuses (cx_E hc) hm ca1 h) rfl (by omega) (by decide) ⟨Nat.zero_le _, Nat.zero_le _⟩ (Nat.le_of_ble_eq_true rfl) rfl dX11_goodOr_6 (fun r7 s8 cr7 h => ?_)
    refine j_goto (tgt := 17) hc dX11_goodOr_9 (by decide) ?_
    refine j_sub (lv' := []) [] rfl ?_
    exact jb_X11_goodOr_17 hc hm hr hh cr7 h
-- LitStrangersModel.send(I)I
theorem dX11_send_0 : decode cX11_send 0 = .ok (.aload_n 0, 1) := by decide +kernel
theorem dX11_send_1 : decode cX11_send 1 = .ok (.aload_n 0, 1) := by decide +kernel
theorem dX11_send_2 : decode cX11_send 2 = .ok (.iload_n 1, 1) := by decide +kernel
theorem dX11_send_3 : decode cX11_send 3 = .ok (.invokevirtual 343, 3) := by decide +kernel
theorem dX11_send_6 : decode cX11_send 6 = .ok (.invokevirtual 346, 3) := by decide +kernel
theorem dX11_send_9 : decode cX11_send 9 = .ok (.ireturn, 1) := by decide +kernel
def wp_X11_send (a1 : Int) (σ : st_S) (Q : Int → st_S → Prop) : Prop := wp_X11_sendsKept a1 σ (fun r5 s6 => wp_X11_goodOr r5 s6 (fun r7 s8 => Q r7 s8))
set_option maxRecDepth 20000 in
theorem c_X11_send {l : Launch} {E : ev_E} (hE : Eok E) (hm : eM E = 2) {a1 : Int} (ca1 : wr a1 = a1) {σ : st_S} {Q : Int → st_S → Prop} (h : wp_X11_send a1 σ Q) : cM l yX11_send cX11_send 2 (some .int) E 128 0 0 [vR E 0, vI a1] σ (qI E (gN σ + 0) Q) := by
  refine cM_of (lv := [(0, vR E 0), (1, vI a1)]) (by decide) hE (Nat.le_of_ble_eq_true rfl) (rfl) ?_
  intro X hX hc _ _ hr _ _
  subst hX
  have hh : 128 ≤ 128 := Nat.le_refl _
  have hh1 : 1 ≤ 128 := by omega
  replace h : wp_X11_sendsKept a1 σ (fun r5 s6 => wp_X11_goodOr r5 s6 (fun r7 s8 => Q r7 s8)) := h
  refine j_aload_nR hc 0 dX11_send_0 rfl rfl ?_
  refine j_aload_nR hc 0 dX11_send_1 rfl rfl ?_
  refine j_iload_n hc 1 dX11_send_2 rfl rfl ?_
  refine j_vI hc (k := 11) (by decide) (fun hv => Or.inl (sv_k hv hm rfl)) ml_RX11_343 mv_X11_sendsKept (As := [vI a1]) (c_X11_sendsKept (cx_E hc) hm ca1 h) rfl (by omega) (by decide) ⟨Nat.zero_le _, Nat.zero_le _⟩ (Nat.le_of_ble_eq_true rfl) rfl dX11_send_3 (fun r5 s6 cr5 h => ?_)
  refine j_vI hc (k := 11) (by decide) (fun hv => Or.inl (sv_k hv hm rfl)) ml_RX11_346 mv_X11_goodOr (As := [vI r5]) (c_X11_goodOr (cx_E hc) hm cr5 h) rfl (by omega) (by decide) ⟨Nat.zero_le _, Nat.zero_le _⟩ (Nat.le_of_ble_eq_true rfl) rfl dX11_send_6 (fun r7 s8 cr7 h => ?_)
  exact j_iret hc hr cr7 h dX11_send_9
-- LitStrangersModel.light(I)I
theorem dX11_light_0 : decode cX11_light 0 = .ok (.aload_n 0, 1) := by decide +kernel
theorem dX11_light_1 : decode cX11_light 1 = .ok (.aload_n 0, 1) := by decide +kernel
theorem dX11_light_2 : decode cX11_light 2 = .ok (.iload_n 1, 1) := by decide +kernel
theorem dX11_light_3 : decode cX11_light 3 = .ok (.invokevirtual 349, 3) := by decide +kernel
theorem dX11_light_6 : decode cX11_light 6 = .ok (.invokevirtual 346, 3) := by decide +kernel
theorem dX11_light_9 : decode cX11_light 9 = .ok (.ireturn, 1) := by decide +kernel
def wp_X11_light (a1 : Int) (σ : st_S) (Q : Int → st_S → Prop) : Prop := wp_X11_lightsKept a1 σ (fun r5 s6 => wp_X11_goodOr r5 s6 (fun r7 s8 => Q r7 s8))
set_option maxRecDepth 20000 in
theorem c_X11_light {l : Launch} {E : ev_E} (hE : Eok E) (hm : eM E = 2) {a1 : Int} (ca1 : wr a1 = a1) {σ : st_S} {Q : Int → st_S → Prop} (h : wp_X11_light a1 σ Q) : cM l yX11_light cX11_light 2 (some .int) E 129 0 0 [vR E 0, vI a1] σ (qI E (gN σ + 0) Q) := by
  refine cM_of (lv := [(0, vR E 0), (1, vI a1)]) (by decide) hE (Nat.le_of_ble_eq_true rfl) (rfl) ?_
  intro X hX hc _ _ hr _ _
  subst hX
  have hh : 129 ≤ 129 := Nat.le_refl _
  have hh1 : 1 ≤ 129 := by omega
  replace h : wp_X11_lightsKept a1 σ (fun r5 s6 => wp_X11_goodOr r5 s6 (fun r7 s8 => Q r7 s8)) := h
  refine j_aload_nR hc 0 dX11_light_0 rfl rfl ?_
  refine j_aload_nR hc 0 dX11_light_1 rfl rfl ?_
  refine j_iload_n hc 1 dX11_light_2 rfl rfl ?_
  refine j_vI hc (k := 11) (by decide) (fun hv => Or.inl (sv_k hv hm rfl)) ml_RX11_349 mv_X11_lightsKept (As := [vI a1]) (c_X11_lightsKept (cx_E hc) hm ca1 h) rfl (by omega) (by decide) ⟨Nat.zero_le _, Nat.zero_le _⟩ (Nat.le_of_ble_eq_true rfl) rfl dX11_light_3 (fun r5 s6 cr5 h => ?_)
  refine j_vI hc (k := 11) (by decide) (fun hv => Or.inl (sv_k hv hm rfl)) ml_RX11_346 mv_X11_goodOr (As := [vI r5]) (c_X11_goodOr (cx_E hc) hm cr5 h) rfl (by omega) (by decide) ⟨Nat.zero_le _, Nat.zero_le _⟩ (Nat.le_of_ble_eq_true rfl) rfl dX11_light_6 (fun r7 s8 cr7 h => ?_)
  exact j_iret hc hr cr7 h dX11_light_9
-- LitStrangersModel.dark()I
theorem dX11_dark_0 : decode cX11_dark 0 = .ok (.aload_n 0, 1) := by decide +kernel
theorem dX11_dark_1 : decode cX11_dark 1 = .ok (.aload_n 0, 1) := by decide +kernel
theorem dX11_dark_2 : decode cX11_dark 2 = .ok (.invokevirtual 352, 3) := by decide +kernel
theorem dX11_dark_5 : decode cX11_dark 5 = .ok (.invokevirtual 346, 3) := by decide +kernel
theorem dX11_dark_8 : decode cX11_dark 8 = .ok (.ireturn, 1) := by decide +kernel
def wp_X11_dark  (σ : st_S) (Q : Int → st_S → Prop) : Prop := wp_X11_darkKept σ (fun r5 s6 => wp_X11_goodOr r5 s6 (fun r7 s8 => Q r7 s8))
set_option maxRecDepth 20000 in
theorem c_X11_dark {l : Launch} {E : ev_E} (hE : Eok E) (hm : eM E = 2) {σ : st_S} {Q : Int → st_S → Prop} (h : wp_X11_dark σ Q) : cM l yX11_dark cX11_dark 1 (some .int) E 129 0 0 [vR E 0] σ (qI E (gN σ + 0) Q) := by
  refine cM_of (lv := [(0, vR E 0)]) (by decide) hE (Nat.le_of_ble_eq_true rfl) (rfl) ?_
  intro X hX hc _ _ hr _ _
  subst hX
  have hh : 129 ≤ 129 := Nat.le_refl _
  have hh1 : 1 ≤ 129 := by omega
  replace h : wp_X11_darkKept σ (fun r5 s6 => wp_X11_goodOr r5 s6 (fun r7 s8 => Q r7 s8)) := h
  refine j_aload_nR hc 0 dX11_dark_0 rfl rfl ?_
  refine j_aload_nR hc 0 dX11_dark_1 rfl rfl ?_
  refine j_vI hc (k := 11) (by decide) (fun hv => Or.inl (sv_k hv hm rfl)) ml_RX11_352 mv_X11_darkKept (As := []) (c_X11_darkKept (cx_E hc) hm  h) rfl (by omega) (by decide) ⟨Nat.zero_le _, Nat.zero_le _⟩ (Nat.le_of_ble_eq_true rfl) rfl dX11_dark_2 (fun r5 s6 cr5 h => ?_)
  refine j_vI hc (k := 11) (by decide) (fun hv => Or.inl (sv_k hv hm rfl)) ml_RX11_346 mv_X11_goodOr (As := [vI r5]) (c_X11_goodOr (cx_E hc) hm cr5 h) rfl (by omega) (by decide) ⟨Nat.zero_le _, Nat.zero_le _⟩ (Nat.le_of_ble_eq_true rfl) rfl dX11_dark_5 (fun r7 s8 cr7 h => ?_)
  exact j_iret hc hr cr7 h dX11_dark_8
-- LitStrangersModel.forgets()V
theorem dX11_forgets_0 : decode cX11_forgets 0 = .ok (.iconst 0, 1) := by decide +kernel
theorem dX11_forgets_1 : decode cX11_forgets 1 = .ok (.istore_n 1, 1) := by decide +kernel
theorem dX11_forgets_2 : decode cX11_forgets 2 = .ok (.iload_n 1, 1) := by decide +kernel
theorem dX11_forgets_3 : decode cX11_forgets 3 = .ok (.sipush 11264, 3) := by decide +kernel
theorem dX11_forgets_6 : decode cX11_forgets 6 = .ok (.if_icmp .ge 16, 3) := by decide +kernel
theorem dX11_forgets_9 : decode cX11_forgets 9 = .ok (.aload_n 0, 1) := by decide +kernel
theorem dX11_forgets_10 : decode cX11_forgets 10 = .ok (.getfield 80, 3) := by decide +kernel
theorem dX11_forgets_13 : decode cX11_forgets 13 = .ok (.iload_n 1, 1) := by decide +kernel
theorem dX11_forgets_14 : decode cX11_forgets 14 = .ok (.iconst (-1), 1) := by decide +kernel
theorem dX11_forgets_15 : decode cX11_forgets 15 = .ok (.bastore, 1) := by decide +kernel
theorem dX11_forgets_16 : decode cX11_forgets 16 = .ok (.iinc 1 1, 3) := by decide +kernel
theorem dX11_forgets_19 : decode cX11_forgets 19 = .ok (.goto (-17), 3) := by decide +kernel
theorem dX11_forgets_22 : decode cX11_forgets 22 = .ok (.return_, 1) := by decide +kernel
def L_X11_forgets_2 (Q : st_S → Prop)   : Nat → Int → st_S → Prop
  | 0 => fun _ _ => False
  | n + 1 => fun l1 σ => (11264 ≤ l1 → Q σ) ∧ (¬ 11264 ≤ l1 → ix l1 11264 ∧ ∀ s7 : st_S, s7 = sI σ 19 (Int.toNat l1) (o_nb (-1)) → ∀ x8 : Int, x8 = wr (l1 + 1) → (L_X11_forgets_2 Q n) x8 s7)
def wp_X11_forgets  (σ : st_S) (Q : st_S → Prop) : Prop := ∃ m2 : Nat, L_X11_forgets_2 Q m2 0 σ
set_option maxRecDepth 20000 in
theorem jl_X11_forgets_2 {X : jj_X} {E : ev_E} {n0 hN : Nat} (hc : Cx X E cX11_forgets 2 n0 hN RX11) (hm : eM E = 2) (hr : (xT X).sig.returnType = none) (hh : 1 ≤ hN) {Q : st_S → Prop} : ∀ (n : Nat) {l1 : Int} (cl1 : wr l1 = l1) {σ : st_S}, L_X11_forgets_2 Q n l1 σ → J X E 2 n0 0 0 (MQ (xB X) (qV E (n0 + 0) Q) (xA X) (xS X) 0 0 (eF E)) σ 2 [(0, vR E 0), (1, vI l1)] [] := by
  have hh1 : 1 ≤ hN := by omega
  intro n
  induction n with
  | zero => intro l1 cl1 σ h; exact h.elim
  | succ n ih =>
    intro l1 cl1 σ h
    have hk2 : ∀ {l1 : Int} (cl1 : wr l1 = l1) {σ : st_S}, L_X11_forgets_2 Q n l1 σ → J X E 2 n0 0 0 (MQ (xB X) (qV E (n0 + 0) Q) (xA X) (xS X) 0 0 (eF E)) σ 2 [(0, vR E 0), (1, vI l1)] [] := ih
    replace h : (11264 ≤ l1 → Q σ) ∧ (¬ 11264 ≤ l1 → ix l1 11264 ∧ ∀ s7 : st_S, s7 = sI σ 19 (Int.toNat l1) (o_nb (-1)) → ∀ x8 : Int, x8 = wr (l1 + 1) → (L_X11_forgets_2 Q n) x8 s7) := h
    refine j_iload_n hc 1 dX11_forgets_2 rfl rfl ?_
    refine j_sipush hc dX11_forgets_3 (by decide) ?_
    refine j_ic_ge hc cl1 (wlit 11264 (by decide)) (tgt := 22) dX11_forgets_6 (by decide) (fun q9 => ?_) (fun q9 => ?_)
    · replace h := h.1 q9
      exact j_vret hc hr h dX11_forgets_22
    · replace h := h.2 q9
      refine j_aload_nR hc 0 dX11_forgets_9 rfl rfl ?_
      refine j_getR (c' := 19) hc fl_RX11_80 rfl rfl (fun hv => (sv_k hv hm rfl)) dX11_forgets_10 ?_
      refine j_iload_n hc 1 dX11_forgets_13 rfl rfl ?_
      refine j_iconst hc dX11_forgets_14 ?_
      obtain ⟨b6, h⟩ := h
      refine j_bast (jn := (Int.toNat l1)) hc (fun hv => sv_kl hv hm rfl) cl1 b6 rfl dX11_forgets_15 (fun s7 es7 => ?_)
      replace h := h s7 es7
      obtain ⟨x8, ex8⟩ : ∃ y : Int, y = wr (l1 + 1) := ⟨_, rfl⟩
      have cx8 : wr x8 = x8 := by rw [ex8]; exact wr_wr _
      replace h := h x8 ex8
      refine j_iinc (lv' := [(1, vI x8), (0, vR E 0)]) hc 1 dX11_forgets_16 rfl (by decide) ex8 rfl ?_
      refine j_goto (tgt := 2) hc dX11_forgets_19 (by decide) ?_
      refine j_sub (lv' := [(0, vR E 0), (1, vI x8)]) [1, 0] rfl ?_
      exact hk2 cx8 h
set_option maxRecDepth 20000 in
theorem c_X11_forgets {l : Launch} {E : ev_E} (hE : Eok E) (hm : eM E = 2) {σ : st_S} {Q : st_S → Prop} (h : wp_X11_forgets σ Q) : cM l yX11_forgets cX11_forgets 2 none E 1 0 0 [vR E 0] σ (qV E (gN σ + 0) Q) := by
  refine cM_of (lv := [(0, vR E 0)]) (by decide) hE (Nat.le_of_ble_eq_true rfl) (rfl) ?_
  intro X hX hc _ _ hr _ _
  subst hX
  have hh : 1 ≤ 1 := Nat.le_refl _
  have hh1 : 1 ≤ 1 := by omega
  replace h : ∃ m2 : Nat, L_X11_forgets_2 Q m2 0 σ := h
  refine j_iconst hc dX11_forgets_0 ?_
  refine j_istore_n (lv' := [(1, vI 0), (0, vR E 0)]) hc dX11_forgets_1 rfl (by decide) rfl ?_
  obtain ⟨n2, h⟩ := h
  refine j_sub (lv' := [(0, vR E 0), (1, vI 0)]) [1, 0] rfl ?_
  exact jl_X11_forgets_2 hc hm hr hh n2 (wlit 0 (by decide)) h
-- LitStrangersModel.looks()V
theorem dX11_looks_0 : decode cX11_looks 0 = .ok (.aload_n 0, 1) := by decide +kernel
theorem dX11_looks_1 : decode cX11_looks 1 = .ok (.iconst 0, 1) := by decide +kernel
theorem dX11_looks_2 : decode cX11_looks 2 = .ok (.putfield 355, 3) := by decide +kernel
theorem dX11_looks_5 : decode cX11_looks 5 = .ok (.aload_n 0, 1) := by decide +kernel
theorem dX11_looks_6 : decode cX11_looks 6 = .ok (.iconst 0, 1) := by decide +kernel
theorem dX11_looks_7 : decode cX11_looks 7 = .ok (.putfield 358, 3) := by decide +kernel
theorem dX11_looks_10 : decode cX11_looks 10 = .ok (.iconst 0, 1) := by decide +kernel
theorem dX11_looks_11 : decode cX11_looks 11 = .ok (.istore_n 1, 1) := by decide +kernel
theorem dX11_looks_12 : decode cX11_looks 12 = .ok (.iload_n 1, 1) := by decide +kernel
theorem dX11_looks_13 : decode cX11_looks 13 = .ok (.sipush 330, 3) := by decide +kernel
theorem dX11_looks_16 : decode cX11_looks 16 = .ok (.if_icmp .ge 16, 3) := by decide +kernel
theorem dX11_looks_19 : decode cX11_looks 19 = .ok (.aload_n 0, 1) := by decide +kernel
theorem dX11_looks_20 : decode cX11_looks 20 = .ok (.getfield 74, 3) := by decide +kernel
theorem dX11_looks_23 : decode cX11_looks 23 = .ok (.iload_n 1, 1) := by decide +kernel
theorem dX11_looks_24 : decode cX11_looks 24 = .ok (.iconst 0, 1) := by decide +kernel
theorem dX11_looks_25 : decode cX11_looks 25 = .ok (.bastore, 1) := by decide +kernel
theorem dX11_looks_26 : decode cX11_looks 26 = .ok (.iinc 1 1, 3) := by decide +kernel
theorem dX11_looks_29 : decode cX11_looks 29 = .ok (.goto (-17), 3) := by decide +kernel
theorem dX11_looks_32 : decode cX11_looks 32 = .ok (.iconst 0, 1) := by decide +kernel
theorem dX11_looks_33 : decode cX11_looks 33 = .ok (.istore_n 1, 1) := by decide +kernel
theorem dX11_looks_34 : decode cX11_looks 34 = .ok (.iload_n 1, 1) := by decide +kernel
theorem dX11_looks_35 : decode cX11_looks 35 = .ok (.aload_n 0, 1) := by decide +kernel
theorem dX11_looks_36 : decode cX11_looks 36 = .ok (.invokevirtual 116, 3) := by decide +kernel
theorem dX11_looks_39 : decode cX11_looks 39 = .ok (.if_icmp .ge 123, 3) := by decide +kernel
theorem dX11_looks_42 : decode cX11_looks 42 = .ok (.aload_n 0, 1) := by decide +kernel
theorem dX11_looks_43 : decode cX11_looks 43 = .ok (.getfield 24, 3) := by decide +kernel
theorem dX11_looks_46 : decode cX11_looks 46 = .ok (.iconst 0, 1) := by decide +kernel
theorem dX11_looks_47 : decode cX11_looks 47 = .ok (.iload_n 1, 1) := by decide +kernel
theorem dX11_looks_48 : decode cX11_looks 48 = .ok (.iadd, 1) := by decide +kernel
theorem dX11_looks_49 : decode cX11_looks 49 = .ok (.iaload, 1) := by decide +kernel
theorem dX11_looks_50 : decode cX11_looks 50 = .ok (.istore_n 2, 1) := by decide +kernel
theorem dX11_looks_51 : decode cX11_looks 51 = .ok (.aload_n 0, 1) := by decide +kernel
theorem dX11_looks_52 : decode cX11_looks 52 = .ok (.getfield 68, 3) := by decide +kernel
theorem dX11_looks_55 : decode cX11_looks 55 = .ok (.iload_n 1, 1) := by decide +kernel
theorem dX11_looks_56 : decode cX11_looks 56 = .ok (.iload_n 2, 1) := by decide +kernel
theorem dX11_looks_57 : decode cX11_looks 57 = .ok (.iconst 2, 1) := by decide +kernel
theorem dX11_looks_58 : decode cX11_looks 58 = .ok (.if_icmp .ne 7, 3) := by decide +kernel
theorem dX11_looks_61 : decode cX11_looks 61 = .ok (.iconst 0, 1) := by decide +kernel
theorem dX11_looks_62 : decode cX11_looks 62 = .ok (.goto 42, 3) := by decide +kernel
theorem dX11_looks_65 : decode cX11_looks 65 = .ok (.iload_n 2, 1) := by decide +kernel
theorem dX11_looks_66 : decode cX11_looks 66 = .ok (.iconst 1, 1) := by decide +kernel
theorem dX11_looks_67 : decode cX11_looks 67 = .ok (.if_icmp .ne 23, 3) := by decide +kernel
theorem dX11_looks_70 : decode cX11_looks 70 = .ok (.aload_n 0, 1) := by decide +kernel
theorem dX11_looks_71 : decode cX11_looks 71 = .ok (.getfield 24, 3) := by decide +kernel
theorem dX11_looks_74 : decode cX11_looks 74 = .ok (.bipush 10, 2) := by decide +kernel
theorem dX11_looks_76 : decode cX11_looks 76 = .ok (.iload_n 1, 1) := by decide +kernel
theorem dX11_looks_77 : decode cX11_looks 77 = .ok (.iadd, 1) := by decide +kernel
theorem dX11_looks_78 : decode cX11_looks 78 = .ok (.iaload, 1) := by decide +kernel
theorem dX11_looks_79 : decode cX11_looks 79 = .ok (.aload_n 0, 1) := by decide +kernel
theorem dX11_looks_80 : decode cX11_looks 80 = .ok (.getfield 24, 3) := by decide +kernel
theorem dX11_looks_83 : decode cX11_looks 83 = .ok (.bipush 33, 2) := by decide +kernel
theorem dX11_looks_85 : decode cX11_looks 85 = .ok (.iaload, 1) := by decide +kernel
theorem dX11_looks_86 : decode cX11_looks 86 = .ok (.isub, 1) := by decide +kernel
theorem dX11_looks_87 : decode cX11_looks 87 = .ok (.goto 17, 3) := by decide +kernel
theorem dX11_looks_90 : decode cX11_looks 90 = .ok (.iload_n 2, 1) := by decide +kernel
theorem dX11_looks_91 : decode cX11_looks 91 = .ok (.ifCond .ne 11, 3) := by decide +kernel
theorem dX11_looks_94 : decode cX11_looks 94 = .ok (.aload_n 0, 1) := by decide +kernel
theorem dX11_looks_95 : decode cX11_looks 95 = .ok (.iload_n 1, 1) := by decide +kernel
theorem dX11_looks_96 : decode cX11_looks 96 = .ok (.invokevirtual 306, 3) := by decide +kernel
theorem dX11_looks_99 : decode cX11_looks 99 = .ok (.goto 5, 3) := by decide +kernel
theorem dX11_looks_102 : decode cX11_looks 102 = .ok (.ldc 160, 2) := by decide +kernel
theorem dX11_looks_104 : decode cX11_looks 104 = .ok (.iastore, 1) := by decide +kernel
theorem dX11_looks_105 : decode cX11_looks 105 = .ok (.iconst 0, 1) := by decide +kernel
theorem dX11_looks_106 : decode cX11_looks 106 = .ok (.istore_n 3, 1) := by decide +kernel
theorem dX11_looks_107 : decode cX11_looks 107 = .ok (.iload_n 3, 1) := by decide +kernel
theorem dX11_looks_108 : decode cX11_looks 108 = .ok (.aload_n 0, 1) := by decide +kernel
theorem dX11_looks_109 : decode cX11_looks 109 = .ok (.invokevirtual 116, 3) := by decide +kernel
theorem dX11_looks_112 : decode cX11_looks 112 = .ok (.if_icmp .ge 44, 3) := by decide +kernel
theorem dX11_looks_115 : decode cX11_looks 115 = .ok (.aload_n 0, 1) := by decide +kernel
theorem dX11_looks_116 : decode cX11_looks 116 = .ok (.getfield 71, 3) := by decide +kernel
theorem dX11_looks_119 : decode cX11_looks 119 = .ok (.bipush 10, 2) := by decide +kernel
theorem dX11_looks_121 : decode cX11_looks 121 = .ok (.iload_n 1, 1) := by decide +kernel
theorem dX11_looks_122 : decode cX11_looks 122 = .ok (.imul, 1) := by decide +kernel
theorem dX11_looks_123 : decode cX11_looks 123 = .ok (.iload_n 3, 1) := by decide +kernel
theorem dX11_looks_124 : decode cX11_looks 124 = .ok (.iadd, 1) := by decide +kernel
theorem dX11_looks_125 : decode cX11_looks 125 = .ok (.iload_n 1, 1) := by decide +kernel
theorem dX11_looks_126 : decode cX11_looks 126 = .ok (.iload_n 3, 1) := by decide +kernel
theorem dX11_looks_127 : decode cX11_looks 127 = .ok (.if_icmp .eq 21, 3) := by decide +kernel
theorem dX11_looks_130 : decode cX11_looks 130 = .ok (.aload_n 0, 1) := by decide +kernel
theorem dX11_looks_131 : decode cX11_looks 131 = .ok (.iload_n 1, 1) := by decide +kernel
theorem dX11_looks_132 : decode cX11_looks 132 = .ok (.iload_n 3, 1) := by decide +kernel
theorem dX11_looks_133 : decode cX11_looks 133 = .ok (.invokevirtual 334, 3) := by decide +kernel
theorem dX11_looks_136 : decode cX11_looks 136 = .ok (.ifCond .eq 12, 3) := by decide +kernel
theorem dX11_looks_139 : decode cX11_looks 139 = .ok (.aload_n 0, 1) := by decide +kernel
theorem dX11_looks_140 : decode cX11_looks 140 = .ok (.iload_n 1, 1) := by decide +kernel
theorem dX11_looks_141 : decode cX11_looks 141 = .ok (.iload_n 3, 1) := by decide +kernel
theorem dX11_looks_142 : decode cX11_looks 142 = .ok (.invokevirtual 319, 3) := by decide +kernel
theorem dX11_looks_145 : decode cX11_looks 145 = .ok (.goto 4, 3) := by decide +kernel
theorem dX11_looks_148 : decode cX11_looks 148 = .ok (.iconst 0, 1) := by decide +kernel
theorem dX11_looks_149 : decode cX11_looks 149 = .ok (.iastore, 1) := by decide +kernel
theorem dX11_looks_150 : decode cX11_looks 150 = .ok (.iinc 3 1, 3) := by decide +kernel
theorem dX11_looks_153 : decode cX11_looks 153 = .ok (.goto (-46), 3) := by decide +kernel
theorem dX11_looks_156 : decode cX11_looks 156 = .ok (.iinc 1 1, 3) := by decide +kernel
theorem dX11_looks_159 : decode cX11_looks 159 = .ok (.goto (-125), 3) := by decide +kernel
theorem dX11_looks_162 : decode cX11_looks 162 = .ok (.aload_n 0, 1) := by decide +kernel
theorem dX11_looks_163 : decode cX11_looks 163 = .ok (.invokevirtual 361, 3) := by decide +kernel
theorem dX11_looks_166 : decode cX11_looks 166 = .ok (.return_, 1) := by decide +kernel
def B_X11_looks_149 (Q : st_S → Prop)  (k34 : Int → st_S → Prop) (k107 : Int → Int → st_S → Prop) (l1 : Int) (l3 : Int) (v0 : Int) (v1 : Int) (σ : st_S) : Prop := ix (wr v1) 100 ∧ ∀ s40 : st_S, s40 = sI σ 16 (Int.toNat (wr v1)) v0 → ∀ x41 : Int, x41 = wr (l3 + 1) → k107 l1 x41 s40
def B_X11_looks_148 (Q : st_S → Prop)  (k34 : Int → st_S → Prop) (k107 : Int → Int → st_S → Prop) (l1 : Int) (l3 : Int) (v0 : Int) (σ : st_S) : Prop := B_X11_looks_149 Q k34 k107 l1 l3 0 v0 σ
def L_X11_looks_107 (Q : st_S → Prop)  (k34 : Int → st_S → Prop) : Nat → Int → Int → st_S → Prop
  | 0 => fun _ _ _ => False
  | n + 1 => fun l1 l3 σ => wp_X11_people σ (fun r42 s43 => (r42 ≤ l3 → ∀ x44 : Int, x44 = wr (l1 + 1) → k34 x44 s43) ∧ (¬ r42 ≤ l3 → (l1 = l3 → ∀ x45 : Int, x45 = wr ((10 * l1) + l3) → B_X11_looks_148 Q k34 (L_X11_looks_107 Q k34 n) l1 l3 x45 s43) ∧ (¬ l1 = l3 → wp_X11_doTalk l1 l3 s43 (fun r46 s47 => (r46 = 0 → ∀ x48 : Int, x48 = wr ((10 * l1) + l3) → B_X11_looks_148 Q k34 (L_X11_looks_107 Q k34 n) l1 l3 x48 s47) ∧ (¬ r46 = 0 → wp_X11_spoilsBy l1 l3 s47 (fun r49 s50 => B_X11_looks_149 Q k34 (L_X11_looks_107 Q k34 n) l1 l3 r49 ((10 * l1) + l3) s50))))))
def B_X11_looks_104 (Q : st_S → Prop)  (k34 : Int → st_S → Prop) (l1 : Int) (v0 : Int) (v1 : Int) (σ : st_S) : Prop := ix (wr v1) 10 ∧ ∀ s55 : st_S, s55 = sI σ 15 (Int.toNat (wr v1)) v0 → ∃ m107 : Nat, L_X11_looks_107 Q k34 m107 l1 0 s55
def L_X11_looks_34 (Q : st_S → Prop)   : Nat → Int → st_S → Prop
  | 0 => fun _ _ => False
  | n + 1 => fun l1 σ => wp_X11_people σ (fun r56 s57 => (r56 ≤ l1 → wp_X11_forgets s57 (fun s59 => Q s59)) ∧ (¬ r56 ≤ l1 → ix (wr (0 + l1)) 5866 ∧ ∀ x62 : Int, x62 = gI s57 2 (Int.toNat (wr (0 + l1))) → (¬ x62 = 2 → (¬ x62 = 1 → (¬ x62 = 0 → B_X11_looks_104 Q (L_X11_looks_34 Q n) l1 1000000 l1 s57) ∧ (x62 = 0 → wp_X11_takesNow l1 s57 (fun r63 s64 => B_X11_looks_104 Q (L_X11_looks_34 Q n) l1 r63 l1 s64))) ∧ (x62 = 1 → ix (wr (10 + l1)) 5866 ∧ ∀ x69 : Int, x69 = wr (gI s57 2 (Int.toNat (wr (10 + l1))) - gI s57 2 33) → B_X11_looks_104 Q (L_X11_looks_34 Q n) l1 x69 l1 s57)) ∧ (x62 = 2 → B_X11_looks_104 Q (L_X11_looks_34 Q n) l1 0 l1 s57)))
def L_X11_looks_12 (Q : st_S → Prop)   : Nat → Int → st_S → Prop
  | 0 => fun _ _ => False
  | n + 1 => fun l1 σ => (330 ≤ l1 → ∃ m34 : Nat, L_X11_looks_34 Q m34 0 σ) ∧ (¬ 330 ≤ l1 → ix l1 330 ∧ ∀ s74 : st_S, s74 = sI σ 17 (Int.toNat l1) (o_nb 0) → ∀ x75 : Int, x75 = wr (l1 + 1) → (L_X11_looks_12 Q n) x75 s74)
def wp_X11_looks  (σ : st_S) (Q : st_S → Prop) : Prop := ∀ s77 : st_S, s77 = sI σ 0 34 0 → ∀ s78 : st_S, s78 = sI s77 0 35 0 → ∃ m12 : Nat, L_X11_looks_12 Q m12 0 s78
set_option maxRecDepth 20000 in
theorem jb_X11_looks_149 {X : jj_X} {E : ev_E} {n0 hN : Nat} (hc : Cx X E cX11_looks 4 n0 hN RX11) (hm : eM E = 2) (hr : (xT X).sig.returnType = none) (hh : 127 ≤ hN) {Q : st_S → Prop} {k34 : Int → st_S → Prop} (hk34 : ∀ {l1 : Int} (cl1 : wr l1 = l1) {σ : st_S}, k34 l1 σ → J X E 4 n0 0 0 (MQ (xB X) (qV E (n0 + 0) Q) (xA X) (xS X) 0 0 (eF E)) σ 34 [(0, vR E 0), (1, vI l1)] []) {k107 : Int → Int → st_S → Prop} (hk107 : ∀ {l1 : Int} {l3 : Int} (cl1 : wr l1 = l1) (cl3 : wr l3 = l3) {σ : st_S}, k107 l1 l3 σ → J X E 4 n0 0 0 (MQ (xB X) (qV E (n0 + 0) Q) (xA X) (xS X) 0 0 (eF E)) σ 107 [(0, vR E 0), (1, vI l1), (3, vI l3)] []) {l1 : Int} {l3 : Int} {v0 : Int} {v1 : Int} (cl1 : wr l1 = l1) (cl3 : wr l3 = l3) (cv0 : wr v0 = v0) {σ : st_S} (h : B_X11_looks_149 Q k34 k107 l1 l3 v0 v1 σ) : J X E 4 n0 0 0 (MQ (xB X) (qV E (n0 + 0) Q) (xA X) (xS X) 0 0 (eF E)) σ 149 [(0, vR E 0), (1, vI l1), (3, vI l3)] [vI v0, vI v1, vR E 16] := by
  have hh1 : 1 ≤ hN := by omega
  replace h : ix (wr v1) 100 ∧ ∀ s40 : st_S, s40 = sI σ 16 (Int.toNat (wr v1)) v0 → ∀ x41 : Int, x41 = wr (l3 + 1) → k107 l1 x41 s40 := h
  obtain ⟨b39, h⟩ := h
  refine j_iast (jn := (Int.toNat (wr v1))) hc (fun hv => sv_kl hv hm rfl) rfl b39 rfl cv0 dX11_looks_149 (fun s40 es40 => ?_)
  replace h := h s40 es40
  obtain ⟨x41, ex41⟩ : ∃ y : Int, y = wr (l3 + 1) := ⟨_, rfl⟩
  have cx41 : wr x41 = x41 := by rw [ex41]; exact wr_wr _
  replace h := h x41 ex41
  refine j_iinc (lv' := [(3, vI x41), (0, vR E 0), (1, vI l1)]) hc 2 dX11_looks_150 rfl (by decide) ex41 rfl ?_
  refine j_goto (tgt := 107) hc dX11_looks_153 (by decide) ?_
  refine j_sub (lv' := [(0, vR E 0), (1, vI l1), (3, vI x41)]) [1, 2, 0] rfl ?_
  exact hk107 cl1 cx41 h
set_option maxRecDepth 20000 in
theorem jb_X11_looks_148 {X : jj_X} {E : ev_E} {n0 hN : Nat} (hc : Cx X E cX11_looks 4 n0 hN RX11) (hm : eM E = 2) (hr : (xT X).sig.returnType = none) (hh : 127 ≤ hN) {Q : st_S → Prop} {k34 : Int → st_S → Prop} (hk34 : ∀ {l1 : Int} (cl1 : wr l1 = l1) {σ : st_S}, k34 l1 σ → J X E 4 n0 0 0 (MQ (xB X) (qV E (n0 + 0) Q) (xA X) (xS X) 0 0 (eF E)) σ 34 [(0, vR E 0), (1, vI l1)] []) {k107 : Int → Int → st_S → Prop} (hk107 : ∀ {l1 : Int} {l3 : Int} (cl1 : wr l1 = l1) (cl3 : wr l3 = l3) {σ : st_S}, k107 l1 l3 σ → J X E 4 n0 0 0 (MQ (xB X) (qV E (n0 + 0) Q) (xA X) (xS X) 0 0 (eF E)) σ 107 [(0, vR E 0), (1, vI l1), (3, vI l3)] []) {l1 : Int} {l3 : Int} {v0 : Int} (cl1 : wr l1 = l1) (cl3 : wr l3 = l3) (cv0 : wr v0 = v0) {σ : st_S} (h : B_X11_looks_148 Q k34 k107 l1 l3 v0 σ) : J X E 4 n0 0 0 (MQ (xB X) (qV E (n0 + 0) Q) (xA X) (xS X) 0 0 (eF E)) σ 148 [(0, vR E 0), (1, vI l1), (3, vI l3)] [vI v0, vR E 16] := by
  have hh1 : 1 ≤ hN := by omega
  replace h : B_X11_looks_149 Q k34 k107 l1 l3 0 v0 σ := h
  refine j_iconst hc dX11_looks_148 ?_
  refine j_sub (lv' := [(0, vR E 0), (1, vI l1), (3, vI l3)]) [0, 1, 2] rfl ?_
  exact jb_X11_looks_149 hc hm hr hh hk34 hk107 cl1 cl3 (wlit 0 (by decide)) h
set_option maxRecDepth 20000 in
theorem jl_X11_looks_107 {X : jj_X} {E : ev_E} {n0 hN : Nat} (hc : Cx X E cX11_looks 4 n0 hN RX11) (hm : eM E = 2) (hr : (xT X).sig.returnType = none) (hh : 127 ≤ hN) {Q : st_S → Prop} {k34 : Int → st_S → Prop} (hk34 : ∀ {l1 : Int} (cl1 : wr l1 = l1) {σ : st_S}, k34 l1 σ → J X E 4 n0 0 0 (MQ (xB X) (qV E (n0 + 0) Q) (xA X) (xS X) 0 0 (eF E)) σ 34 [(0, vR E 0), (1, vI l1)] []) : ∀ (n : Nat) {l1 : Int} {l3 : Int} (cl1 : wr l1 = l1) (cl3 : wr l3 = l3) {σ : st_S}, L_X11_looks_107 Q k34 n l1 l3 σ → J X E 4 n0 0 0 (MQ (xB X) (qV E (n0 + 0) Q) (xA X) (xS X) 0 0 (eF E)) σ 107 [(0, vR E 0), (1, vI l1), (3, vI l3)] [] := by
  have hh1 : 1 ≤ hN := by omega
  intro n
  induction n with
  | zero => intro l1 l3 cl1 cl3 σ h; exact h.elim
  | succ n ih =>
    intro l1 l3 cl1 cl3 σ h
    have hk107 : ∀ {l1 : Int} {l3 : Int} (cl1 : wr l1 = l1) (cl3 : wr l3 = l3) {σ : st_S}, L_X11_looks_107 Q k34 n l1 l3 σ → J X E 4 n0 0 0 (MQ (xB X) (qV E (n0 + 0) Q) (xA X) (xS X) 0 0 (eF E)) σ 107 [(0, vR E 0), (1, vI l1), (3, vI l3)] [] := ih
    replace h : wp_X11_people σ (fun r42 s43 => (r42 ≤ l3 → ∀ x44 : Int, x44 = wr (l1 + 1) → k34 x44 s43) ∧ (¬ r42 ≤ l3 → (l1 = l3 → ∀ x45 : Int, x45 = wr ((10 * l1) + l3) → B_X11_looks_148 Q k34 (L_X11_looks_107 Q k34 n) l1 l3 x45 s43) ∧ (¬ l1 = l3 → wp_X11_doTalk l1 l3 s43 (fun r46 s47 => (r46 = 0 → ∀ x48 : Int, x48 = wr ((10 * l1) + l3) → B_X11_looks_148 Q k34 (L_X11_looks_107 Q k34 n) l1 l3 x48 s47) ∧ (¬ r46 = 0 → wp_X11_spoilsBy l1 l3 s47 (fun r49 s50 => B_X11_looks_149 Q k34 (L_X11_looks_107 Q k34 n) l1 l3 r49 ((10 * l1) + l3) s50)))))) := h
    refine j_iload_n hc 2 dX11_looks_107 rfl rfl ?_
    refine j_aload_nR hc 0 dX11_looks_108 rfl rfl ?_
    refine j_vI hc (k := 11) (by decide) (fun hv => Or.inl (sv_k hv hm rfl)) ml_RX11_116 mv_X11_people (As := []) (c_X11_people (cx_E hc) hm  h) rfl (by omega) (by decide) ⟨Nat.zero_le _, Nat.zero_le _⟩ (Nat.le_of_ble_eq_true rfl) rfl dX11_looks_109 (fun r42 s43 cr42 h => ?_)
    refine j_ic_ge hc cl3 cr42 (tgt := 156) dX11_looks_112 (by decide) (fun q53 => ?_) (fun q53 => ?_)
    · replace h := h.1 q53
      obtain ⟨x44, ex44⟩ : ∃ y : Int, y = wr (l1 + 1) := ⟨_, rfl⟩
      have cx44 : wr x44 = x44 := by rw [ex44]; exact wr_wr _
      replace h := h x44 ex44
      refine j_iinc (lv' := [(1, vI x44), (0, vR E 0), (3, vI l3)]) hc 1 dX11_looks_156 rfl (by decide) ex44 rfl ?_
      refine j_goto (tgt := 34) hc dX11_looks_159 (by decide) ?_
      refine j_sub (lv' := [(0, vR E 0), (1, vI x44)]) [1, 0] rfl ?_
      exact hk34 cx44 h
    · replace h := h.2 q53
      refine j_aload_nR hc 0 dX11_looks_115 rfl rfl ?_
      refine j_getR (c' := 16) hc fl_RX11_71 rfl rfl (fun hv => (sv_k hv hm rfl)) dX11_looks_116 ?_
      refine j_bipush hc dX11_looks_119 (by decide) ?_
      refine j_iload_n hc 1 dX11_looks_121 rfl rfl ?_
      refine j_imul hc dX11_looks_122 ?_
      refine j_iload_n hc 2 dX11_looks_123 rfl rfl ?_
      refine j_iadd hc dX11_looks_124 ?_
      refine j_iload_n hc 1 dX11_looks_125 rfl rfl ?_
      refine j_iload_n hc 2 dX11_looks_126 rfl rfl ?_
      refine j_ic_eq hc cl1 cl3 (tgt := 148) dX11_looks_127 (by decide) (fun q52 => ?_) (fun q52 => ?_)
      · replace h := h.1 q52
        refine j_w (fun x45 ex45 cx45 => ?_)
        replace h := h x45 ex45
        refine j_sub (lv' := [(0, vR E 0), (1, vI l1), (3, vI l3)]) [0, 1, 2] rfl ?_
        exact jb_X11_looks_148 hc hm hr hh hk34 hk107 cl1 cl3 cx45 h
      · replace h := h.2 q52
        refine j_aload_nR hc 0 dX11_looks_130 rfl rfl ?_
        refine j_iload_n hc 1 dX11_looks_131 rfl rfl ?_
        refine j_iload_n hc 2 dX11_looks_132 rfl rfl ?_
        refine j_vI hc (k := 11) (by decide) (fun hv => Or.inl (sv_k hv hm rfl)) ml_RX11_334 mv_X11_doTalk (As := [vI l1, vI l3]) (c_X11_doTalk (cx_E hc) hm cl1 cl3 h) rfl (by omega) (by decide) ⟨Nat.zero_le _, Nat.zero_le _⟩ (Nat.le_of_ble_eq_true rfl) rfl dX11_looks_133 (fun r46 s47 cr46 h => ?_)
        refine j_if_eq hc cr46 (tgt := 148) dX11_looks_136 (by decide) (fun q51 => ?_) (fun q51 => ?_)
        · replace h := h.1 q51
          refine j_w (fun x48 ex48 cx48 => ?_)
          replace h := h x48 ex48
          refine j_sub (lv' := [(0, vR E 0), (1, vI l1), (3, vI l3)]) [0, 1, 2] rfl ?_
          exact jb_X11_looks_148 hc hm hr hh hk34 hk107 cl1 cl3 cx48 h
        · replace h := h.2 q51
          refine j_aload_nR hc 0 dX11_looks_139 rfl rfl ?_
          refine j_iload_n hc 1 dX11_looks_140 rfl rfl ?_
          refine j_iload_n hc 2 dX11_looks_141 rfl rfl ?_
          refine j_vI hc (k := 11) (by decide) (fun hv => Or.inl (sv_k hv hm rfl)) ml_RX11_319 mv_X11_spoilsBy (As := [vI l1, vI l3]) (c_X11_spoilsBy (cx_E hc) hm cl1 cl3 h) rfl (by omega) (by decide) ⟨Nat.zero_le _, Nat.zero_le _⟩ (Nat.le_of_ble_eq_true rfl) rfl dX11_looks_142 (fun r49 s50 cr49 h => ?_)
          refine j_goto (tgt := 149) hc dX11_looks_145 (by decide) ?_
          refine j_sub (lv' := [(0, vR E 0), (1, vI l1), (3, vI l3)]) [0, 1, 2] rfl ?_
          exact jb_X11_looks_149 hc hm hr hh hk34 hk107 cl1 cl3 cr49 h
set_option maxRecDepth 20000 in
theorem jb_X11_looks_104 {X : jj_X} {E : ev_E} {n0 hN : Nat} (hc : Cx X E cX11_looks 4 n0 hN RX11) (hm : eM E = 2) (hr : (xT X).sig.returnType = none) (hh : 127 ≤ hN) {Q : st_S → Prop} {k34 : Int → st_S → Prop} (hk34 : ∀ {l1 : Int} (cl1 : wr l1 = l1) {σ : st_S}, k34 l1 σ → J X E 4 n0 0 0 (MQ (xB X) (qV E (n0 + 0) Q) (xA X) (xS X) 0 0 (eF E)) σ 34 [(0, vR E 0), (1, vI l1)] []) {l1 : Int} {v0 : Int} {v1 : Int} (cl1 : wr l1 = l1) (cv0 : wr v0 = v0) {σ : st_S} (h : B_X11_looks_104 Q k34 l1 v0 v1 σ) : J X E 4 n0 0 0 (MQ (xB X) (qV E (n0 + 0) Q) (xA X) (xS X) 0 0 (eF E)) σ 104 [(0, vR E 0), (1, vI l1)] [vI v0, vI v1, vR E 15] := by
  have hh1 : 1 ≤ hN := by omega
  replace h : ix (wr v1) 10 ∧ ∀ s55 : st_S, s55 = sI σ 15 (Int.toNat (wr v1)) v0 → ∃ m107 : Nat, L_X11_looks_107 Q k34 m107 l1 0 s55 := h
  obtain ⟨b54, h⟩ := h
  refine j_iast (jn := (Int.toNat (wr v1))) hc (fun hv => sv_kl hv hm rfl) rfl b54 rfl cv0 dX11_looks_104 (fun s55 es55 => ?_)
  replace h := h s55 es55
  refine j_iconst hc dX11_looks_105 ?_
  refine j_istore_n (lv' := [(3, vI 0), (0, vR E 0), (1, vI l1)]) hc dX11_looks_106 rfl (by decide) rfl ?_
  obtain ⟨n107, h⟩ := h
  refine j_sub (lv' := [(0, vR E 0), (1, vI l1), (3, vI 0)]) [1, 2, 0] rfl ?_
  exact jl_X11_looks_107 hc hm hr hh hk34 n107 cl1 (wlit 0 (by decide)) h
set_option maxRecDepth 20000 in
theorem jl_X11_looks_34 {X : jj_X} {E : ev_E} {n0 hN : Nat} (hc : Cx X E cX11_looks 4 n0 hN RX11) (hm : eM E = 2) (hr : (xT X).sig.returnType = none) (hh : 127 ≤ hN) {Q : st_S → Prop} : ∀ (n : Nat) {l1 : Int} (cl1 : wr l1 = l1) {σ : st_S}, L_X11_looks_34 Q n l1 σ → J X E 4 n0 0 0 (MQ (xB X) (qV E (n0 + 0) Q) (xA X) (xS X) 0 0 (eF E)) σ 34 [(0, vR E 0), (1, vI l1)] [] := by
  have hh1 : 1 ≤ hN := by omega
  intro n
  induction n with
  | zero => intro l1 cl1 σ h; exact h.elim
  | succ n ih =>
    intro l1 cl1 σ h
    have hk34 : ∀ {l1 : Int} (cl1 : wr l1 = l1) {σ : st_S}, L_X11_looks_34 Q n l1 σ → J X E 4 n0 0 0 (MQ (xB X) (qV E (n0 + 0) Q) (xA X) (xS X) 0 0 (eF E)) σ 34 [(0, vR E 0), (1, vI l1)] [] := ih
    replace h : wp_X11_people σ (fun r56 s57 => (r56 ≤ l1 → wp_X11_forgets s57 (fun s59 => Q s59)) ∧ (¬ r56 ≤ l1 → ix (wr (0 + l1)) 5866 ∧ ∀ x62 : Int, x62 = gI s57 2 (Int.toNat (wr (0 + l1))) → (¬ x62 = 2 → (¬ x62 = 1 → (¬ x62 = 0 → B_X11_looks_104 Q (L_X11_looks_34 Q n) l1 1000000 l1 s57) ∧ (x62 = 0 → wp_X11_takesNow l1 s57 (fun r63 s64 => B_X11_looks_104 Q (L_X11_looks_34 Q n) l1 r63 l1 s64))) ∧ (x62 = 1 → ix (wr (10 + l1)) 5866 ∧ ∀ x69 : Int, x69 = wr (gI s57 2 (Int.toNat (wr (10 + l1))) - gI s57 2 33) → B_X11_looks_104 Q (L_X11_looks_34 Q n) l1 x69 l1 s57)) ∧ (x62 = 2 → B_X11_looks_104 Q (L_X11_looks_34 Q n) l1 0 l1 s57))) := h
    refine j_iload_n hc 1 dX11_looks_34 rfl rfl ?_
    refine j_aload_nR hc 0 dX11_looks_35 rfl rfl ?_
    refine j_vI hc (k := 11) (by decide) (fun hv => Or.inl (sv_k hv hm rfl)) ml_RX11_116 mv_X11_people (As := []) (c_X11_people (cx_E hc) hm  h) rfl (by omega) (by decide) ⟨Nat.zero_le _, Nat.zero_le _⟩ (Nat.le_of_ble_eq_true rfl) rfl dX11_looks_36 (fun r56 s57 cr56 h => ?_)
    refine j_ic_ge hc cl1 cr56 (tgt := 162) dX11_looks_39 (by decide) (fun q72 => ?_) (fun q72 => ?_)
    · replace h := h.1 q72
      refine j_aload_nR hc 0 dX11_looks_162 rfl rfl ?_
      refine j_vV hc (k := 11) (by decide) (fun hv => Or.inl (sv_k hv hm rfl)) ml_RX11_361 mv_X11_forgets (As := []) (c_X11_forgets (cx_E hc) hm  h) rfl (by omega) (by decide) ⟨Nat.zero_le _, Nat.zero_le _⟩ (Nat.le_of_ble_eq_true rfl) rfl dX11_looks_163 (fun s59 h => ?_)
      exact j_vret hc hr h dX11_looks_166
    · replace h := h.2 q72
      refine j_aload_nR hc 0 dX11_looks_42 rfl rfl ?_
      refine j_getR (c' := 2) hc fl_RX11_24 rfl rfl (fun hv => (sv_k hv hm rfl)) dX11_looks_43 ?_
      refine j_iconst hc dX11_looks_46 ?_
      refine j_iload_n hc 1 dX11_looks_47 rfl rfl ?_
      refine j_iadd hc dX11_looks_48 ?_
      obtain ⟨b60, h⟩ := h
      refine j_iald (jn := (Int.toNat (wr (0 + l1)))) hc (fun hv => sv_kl hv hm rfl) rfl b60 rfl dX11_looks_49 (fun cn61 => ?_)
      refine j_c cn61 (fun x62 ex62 cx62 => ?_)
      replace h := h x62 ex62
      refine j_istore_n (lv' := [(2, vI x62), (0, vR E 0), (1, vI l1)]) hc dX11_looks_50 rfl (by decide) rfl ?_
      refine j_aload_nR hc 1 dX11_looks_51 rfl rfl ?_
      refine j_getR (c' := 15) hc fl_RX11_68 rfl rfl (fun hv => (sv_k hv hm rfl)) dX11_looks_52 ?_
      refine j_iload_n hc 2 dX11_looks_55 rfl rfl ?_
      refine j_iload_n hc 0 dX11_looks_56 rfl rfl ?_
      refine j_iconst hc dX11_looks_57 ?_
      refine j_ic_ne hc cx62 (wlit 2 (by decide)) (tgt := 65) dX11_looks_58 (by decide) (fun q71 => ?_) (fun q71 => ?_)
      · replace h := h.1 q71
        refine j_iload_n hc 0 dX11_looks_65 rfl rfl ?_
        refine j_iconst hc dX11_looks_66 ?_
        refine j_ic_ne hc cx62 (wlit 1 (by decide)) (tgt := 90) dX11_looks_67 (by decide) (fun q70 => ?_) (fun q70 => ?_)
        · replace h := h.1 q70
          refine j_iload_n hc 0 dX11_looks_90 rfl rfl ?_
          refine j_if_ne hc cx62 (tgt := 102) dX11_looks_91 (by decide) (fun q65 => ?_) (fun q65 => ?_)
          · replace h := h.1 q65
            refine j_ldc (x := 1000000) hc (by decide) kc_RX11_160 dX11_looks_102 ?_
            refine j_sub (lv' := [(0, vR E 0), (1, vI l1)]) [1, 2] rfl ?_
            exact jb_X11_looks_104 hc hm hr hh hk34 cl1 (wlit 1000000 (by decide)) h
          · replace h := h.2 q65
            refine j_aload_nR hc 1 dX11_looks_94 rfl rfl ?_
            refine j_iload_n hc 2 dX11_looks_95 rfl rfl ?_
            refine j_vI hc (k := 11) (by decide) (fun hv => Or.inl (sv_k hv hm rfl)) ml_RX11_306 mv_X11_takesNow (As := [vI l1]) (c_X11_takesNow (cx_E hc) hm cl1 h) rfl (by omega) (by decide) ⟨Nat.zero_le _, Nat.zero_le _⟩ (Nat.le_of_ble_eq_true rfl) rfl dX11_looks_96 (fun r63 s64 cr63 h => ?_)
            refine j_goto (tgt := 104) hc dX11_looks_99 (by decide) ?_
            refine j_sub (lv' := [(0, vR E 0), (1, vI l1)]) [1, 2] rfl ?_
            exact jb_X11_looks_104 hc hm hr hh hk34 cl1 cr63 h
        · replace h := h.2 q70
          refine j_aload_nR hc 1 dX11_looks_70 rfl rfl ?_
          refine j_getR (c' := 2) hc fl_RX11_24 rfl rfl (fun hv => (sv_k hv hm rfl)) dX11_looks_71 ?_
          refine j_bipush hc dX11_looks_74 (by decide) ?_
          refine j_iload_n hc 2 dX11_looks_76 rfl rfl ?_
          refine j_iadd hc dX11_looks_77 ?_
          obtain ⟨b66, h⟩ := h
          refine j_iald (jn := (Int.toNat (wr (10 + l1)))) hc (fun hv => sv_kl hv hm rfl) rfl b66 rfl dX11_looks_78 (fun cn67 => ?_)
          refine j_aload_nR hc 1 dX11_looks_79 rfl rfl ?_
          refine j_getR (c' := 2) hc fl_RX11_24 rfl rfl (fun hv => (sv_k hv hm rfl)) dX11_looks_80 ?_
          refine j_bipush hc dX11_looks_83 (by decide) ?_
          refine j_iald (jn := 33) hc (fun hv => sv_kl hv hm rfl) (wlit 33 (by decide)) ⟨by decide, by decide⟩ rfl dX11_looks_85 (fun cn68 => ?_)
          refine j_isub hc dX11_looks_86 ?_
          refine j_goto (tgt := 104) hc dX11_looks_87 (by decide) ?_
          refine j_w (fun x69 ex69 cx69 => ?_)
          replace h := h x69 ex69
          refine j_sub (lv' := [(0, vR E 0), (1, vI l1)]) [1, 2] rfl ?_
          exact jb_X11_looks_104 hc hm hr hh hk34 cl1 cx69 h
      · replace h := h.2 q71
        refine j_iconst hc dX11_looks_61 ?_
        refine j_goto (tgt := 104) hc dX11_looks_62 (by decide) ?_
        refine j_sub (lv' := [(0, vR E 0), (1, vI l1)]) [1, 2] rfl ?_
        exact jb_X11_looks_104 hc hm hr hh hk34 cl1 (wlit 0 (by decide)) h
set_option maxRecDepth 20000 in
theorem jl_X11_looks_12 {X : jj_X} {E : ev_E} {n0 hN : Nat} (hc : Cx X E cX11_looks 4 n0 hN RX11) (hm : eM E = 2) (hr : (xT X).sig.returnType = none) (hh : 127 ≤ hN) {Q : st_S → Prop} : ∀ (n : Nat) {l1 : Int} (cl1 : wr l1 = l1) {σ : st_S}, L_X11_looks_12 Q n l1 σ → J X E 4 n0 0 0 (MQ (xB X) (qV E (n0 + 0) Q) (xA X) (xS X) 0 0 (eF E)) σ 12 [(0, vR E 0), (1, vI l1)] [] := by
  have hh1 : 1 ≤ hN := by omega
  intro n
  induction n with
  | zero => intro l1 cl1 σ h; exact h.elim
  | succ n ih =>
    intro l1 cl1 σ h
    have hk12 : ∀ {l1 : Int} (cl1 : wr l1 = l1) {σ : st_S}, L_X11_looks_12 Q n l1 σ → J X E 4 n0 0 0 (MQ (xB X) (qV E (n0 + 0) Q) (xA X) (xS X) 0 0 (eF E)) σ 12 [(0, vR E 0), (1, vI l1)] [] := ih
    replace h : (330 ≤ l1 → ∃ m34 : Nat, L_X11_looks_34 Q m34 0 σ) ∧ (¬ 330 ≤ l1 → ix l1 330 ∧ ∀ s74 : st_S, s74 = sI σ 17 (Int.toNat l1) (o_nb 0) → ∀ x75 : Int, x75 = wr (l1 + 1) → (L_X11_looks_12 Q n) x75 s74) := h
    refine j_iload_n hc 1 dX11_looks_12 rfl rfl ?_
    refine j_sipush hc dX11_looks_13 (by decide) ?_
    refine j_ic_ge hc cl1 (wlit 330 (by decide)) (tgt := 32) dX11_looks_16 (by decide) (fun q76 => ?_) (fun q76 => ?_)
    · replace h := h.1 q76
      refine j_iconst hc dX11_looks_32 ?_
      refine j_istore_n (lv' := [(1, vI 0), (0, vR E 0)]) hc dX11_looks_33 rfl (by decide) rfl ?_
      obtain ⟨n34, h⟩ := h
      refine j_sub (lv' := [(0, vR E 0), (1, vI 0)]) [1, 0] rfl ?_
      exact jl_X11_looks_34 hc hm hr hh n34 (wlit 0 (by decide)) h
    · replace h := h.2 q76
      refine j_aload_nR hc 0 dX11_looks_19 rfl rfl ?_
      refine j_getR (c' := 17) hc fl_RX11_74 rfl rfl (fun hv => (sv_k hv hm rfl)) dX11_looks_20 ?_
      refine j_iload_n hc 1 dX11_looks_23 rfl rfl ?_
      refine j_iconst hc dX11_looks_24 ?_
      obtain ⟨b73, h⟩ := h
      refine j_bast (jn := (Int.toNat l1)) hc (fun hv => sv_kl hv hm rfl) cl1 b73 rfl dX11_looks_25 (fun s74 es74 => ?_)
      replace h := h s74 es74
      obtain ⟨x75, ex75⟩ : ∃ y : Int, y = wr (l1 + 1) := ⟨_, rfl⟩
      have cx75 : wr x75 = x75 := by rw [ex75]; exact wr_wr _
      replace h := h x75 ex75
      refine j_iinc (lv' := [(1, vI x75), (0, vR E 0)]) hc 1 dX11_looks_26 rfl (by decide) ex75 rfl ?_
      refine j_goto (tgt := 12) hc dX11_looks_29 (by decide) ?_
      refine j_sub (lv' := [(0, vR E 0), (1, vI x75)]) [1, 0] rfl ?_
      exact hk12 cx75 h
set_option maxRecDepth 20000 in
theorem c_X11_looks {l : Launch} {E : ev_E} (hE : Eok E) (hm : eM E = 2) {σ : st_S} {Q : st_S → Prop} (h : wp_X11_looks σ Q) : cM l yX11_looks cX11_looks 4 none E 127 0 0 [vR E 0] σ (qV E (gN σ + 0) Q) := by
  refine cM_of (lv := [(0, vR E 0)]) (by decide) hE (Nat.le_of_ble_eq_true rfl) (rfl) ?_
  intro X hX hc _ _ hr _ _
  subst hX
  have hh : 127 ≤ 127 := Nat.le_refl _
  have hh1 : 1 ≤ 127 := by omega
  replace h : ∀ s77 : st_S, s77 = sI σ 0 34 0 → ∀ s78 : st_S, s78 = sI s77 0 35 0 → ∃ m12 : Nat, L_X11_looks_12 Q m12 0 s78 := h
  refine j_aload_nR hc 0 dX11_looks_0 rfl rfl ?_
  refine j_iconst hc dX11_looks_1 ?_
  refine j_putI hc fl_RX11_355 rfl rfl (fun hv => Or.inl (sv_k hv hm rfl)) (wlit 0 (by decide)) dX11_looks_2 (fun s77 es77 => ?_)
  replace h := h s77 es77
  refine j_aload_nR hc 0 dX11_looks_5 rfl rfl ?_
  refine j_iconst hc dX11_looks_6 ?_
  refine j_putI hc fl_RX11_358 rfl rfl (fun hv => Or.inl (sv_k hv hm rfl)) (wlit 0 (by decide)) dX11_looks_7 (fun s78 es78 => ?_)
  replace h := h s78 es78
  refine j_iconst hc dX11_looks_10 ?_
  refine j_istore_n (lv' := [(1, vI 0), (0, vR E 0)]) hc dX11_looks_11 rfl (by decide) rfl ?_
  obtain ⟨n12, h⟩ := h
  refine j_sub (lv' := [(0, vR E 0), (1, vI 0)]) [1, 0] rfl ?_
  exact jl_X11_looks_12 hc hm hr hh n12 (wlit 0 (by decide)) h
-- LitStrangersModel.heardBy(II)I
theorem dX11_heardBy_0 : decode cX11_heardBy 0 = .ok (.aload_n 0, 1) := by decide +kernel
theorem dX11_heardBy_1 : decode cX11_heardBy 1 = .ok (.getfield 24, 3) := by decide +kernel
theorem dX11_heardBy_4 : decode cX11_heardBy 4 = .ok (.bipush 20, 2) := by decide +kernel
theorem dX11_heardBy_6 : decode cX11_heardBy 6 = .ok (.iload_n 1, 1) := by decide +kernel
theorem dX11_heardBy_7 : decode cX11_heardBy 7 = .ok (.iadd, 1) := by decide +kernel
theorem dX11_heardBy_8 : decode cX11_heardBy 8 = .ok (.iaload, 1) := by decide +kernel
theorem dX11_heardBy_9 : decode cX11_heardBy 9 = .ok (.istore_n 3, 1) := by decide +kernel
theorem dX11_heardBy_10 : decode cX11_heardBy 10 = .ok (.iconst 0, 1) := by decide +kernel
theorem dX11_heardBy_11 : decode cX11_heardBy 11 = .ok (.istore 4, 2) := by decide +kernel
theorem dX11_heardBy_13 : decode cX11_heardBy 13 = .ok (.iload 4, 2) := by decide +kernel
theorem dX11_heardBy_15 : decode cX11_heardBy 15 = .ok (.aload_n 0, 1) := by decide +kernel
theorem dX11_heardBy_16 : decode cX11_heardBy 16 = .ok (.invokevirtual 116, 3) := by decide +kernel
theorem dX11_heardBy_19 : decode cX11_heardBy 19 = .ok (.if_icmp .ge 61, 3) := by decide +kernel
theorem dX11_heardBy_22 : decode cX11_heardBy 22 = .ok (.iload_n 3, 1) := by decide +kernel
theorem dX11_heardBy_23 : decode cX11_heardBy 23 = .ok (.iconst 2, 1) := by decide +kernel
theorem dX11_heardBy_24 : decode cX11_heardBy 24 = .ok (.if_icmp .ge 56, 3) := by decide +kernel
theorem dX11_heardBy_27 : decode cX11_heardBy 27 = .ok (.aload_n 0, 1) := by decide +kernel
theorem dX11_heardBy_28 : decode cX11_heardBy 28 = .ok (.getfield 358, 3) := by decide +kernel
theorem dX11_heardBy_31 : decode cX11_heardBy 31 = .ok (.iload_n 1, 1) := by decide +kernel
theorem dX11_heardBy_32 : decode cX11_heardBy 32 = .ok (.invokestatic 325, 3) := by decide +kernel
theorem dX11_heardBy_35 : decode cX11_heardBy 35 = .ok (.ifCond .ne 45, 3) := by decide +kernel
theorem dX11_heardBy_38 : decode cX11_heardBy 38 = .ok (.iload_n 2, 1) := by decide +kernel
theorem dX11_heardBy_39 : decode cX11_heardBy 39 = .ok (.iload 4, 2) := by decide +kernel
theorem dX11_heardBy_41 : decode cX11_heardBy 41 = .ok (.invokestatic 325, 3) := by decide +kernel
theorem dX11_heardBy_44 : decode cX11_heardBy 44 = .ok (.ifCond .eq 30, 3) := by decide +kernel
theorem dX11_heardBy_47 : decode cX11_heardBy 47 = .ok (.aload_n 0, 1) := by decide +kernel
theorem dX11_heardBy_48 : decode cX11_heardBy 48 = .ok (.getfield 358, 3) := by decide +kernel
theorem dX11_heardBy_51 : decode cX11_heardBy 51 = .ok (.iload 4, 2) := by decide +kernel
theorem dX11_heardBy_53 : decode cX11_heardBy 53 = .ok (.invokestatic 325, 3) := by decide +kernel
theorem dX11_heardBy_56 : decode cX11_heardBy 56 = .ok (.ifCond .ne 18, 3) := by decide +kernel
theorem dX11_heardBy_59 : decode cX11_heardBy 59 = .ok (.iload_n 3, 1) := by decide +kernel
theorem dX11_heardBy_60 : decode cX11_heardBy 60 = .ok (.aload_n 0, 1) := by decide +kernel
theorem dX11_heardBy_61 : decode cX11_heardBy 61 = .ok (.getfield 71, 3) := by decide +kernel
theorem dX11_heardBy_64 : decode cX11_heardBy 64 = .ok (.bipush 10, 2) := by decide +kernel
theorem dX11_heardBy_66 : decode cX11_heardBy 66 = .ok (.iload 4, 2) := by decide +kernel
theorem dX11_heardBy_68 : decode cX11_heardBy 68 = .ok (.imul, 1) := by decide +kernel
theorem dX11_heardBy_69 : decode cX11_heardBy 69 = .ok (.iload_n 1, 1) := by decide +kernel
theorem dX11_heardBy_70 : decode cX11_heardBy 70 = .ok (.iadd, 1) := by decide +kernel
theorem dX11_heardBy_71 : decode cX11_heardBy 71 = .ok (.iaload, 1) := by decide +kernel
theorem dX11_heardBy_72 : decode cX11_heardBy 72 = .ok (.iadd, 1) := by decide +kernel
theorem dX11_heardBy_73 : decode cX11_heardBy 73 = .ok (.istore_n 3, 1) := by decide +kernel
theorem dX11_heardBy_74 : decode cX11_heardBy 74 = .ok (.iinc 4 1, 3) := by decide +kernel
theorem dX11_heardBy_77 : decode cX11_heardBy 77 = .ok (.goto (-64), 3) := by decide +kernel
theorem dX11_heardBy_80 : decode cX11_heardBy 80 = .ok (.iconst 2, 1) := by decide +kernel
theorem dX11_heardBy_81 : decode cX11_heardBy 81 = .ok (.iload_n 3, 1) := by decide +kernel
theorem dX11_heardBy_82 : decode cX11_heardBy 82 = .ok (.invokestatic 337, 3) := by decide +kernel
theorem dX11_heardBy_85 : decode cX11_heardBy 85 = .ok (.ireturn, 1) := by decide +kernel
def B_X11_heardBy_74 (Q : Int → st_S → Prop)  (k13 : Int → Int → Int → Int → st_S → Prop) (l1 : Int) (l2 : Int) (l3 : Int) (l4 : Int) (σ : st_S) : Prop := ∀ x21 : Int, x21 = wr (l4 + 1) → k13 l1 l2 l3 x21 σ
def B_X11_heardBy_80 (Q : Int → st_S → Prop)   (l3 : Int) (σ : st_S) : Prop := wp_X11_lesser 2 l3 σ (fun r22 s23 => Q r22 s23)
def L_X11_heardBy_13 (Q : Int → st_S → Prop)   : Nat → Int → Int → Int → Int → st_S → Prop
  | 0 => fun _ _ _ _ _ => False
  | n + 1 => fun l1 l2 l3 l4 σ => wp_X11_people σ (fun r24 s25 => (r24 ≤ l4 → B_X11_heardBy_80 Q l3 s25) ∧ (¬ r24 ≤ l4 → (2 ≤ l3 → B_X11_heardBy_80 Q l3 s25) ∧ (¬ 2 ≤ l3 → wp_X11_isIn (gI s25 0 35) l1 s25 (fun r27 s28 => (¬ r27 = 0 → B_X11_heardBy_80 Q l3 s28) ∧ (r27 = 0 → wp_X11_isIn l2 l4 s28 (fun r29 s30 => (r29 = 0 → B_X11_heardBy_74 Q (L_X11_heardBy_13 Q n) l1 l2 l3 l4 s30) ∧ (¬ r29 = 0 → wp_X11_isIn (gI s30 0 35) l4 s30 (fun r32 s33 => (¬ r32 = 0 → B_X11_heardBy_74 Q (L_X11_heardBy_13 Q n) l1 l2 l3 l4 s33) ∧ (r32 = 0 → ix (wr ((10 * l4) + l1)) 100 ∧ ∀ x36 : Int, x36 = wr (l3 + gI s33 16 (Int.toNat (wr ((10 * l4) + l1)))) → B_X11_heardBy_74 Q (L_X11_heardBy_13 Q n) l1 l2 x36 l4 s33)))))))))
def wp_X11_heardBy (a1 : Int) (a2 : Int) (σ : st_S) (Q : Int → st_S → Prop) : Prop := ix (wr (20 + a1)) 5866 ∧ ∀ x44 : Int, x44 = gI σ 2 (Int.toNat (wr (20 + a1))) → ∃ m13 : Nat, L_X11_heardBy_13 Q m13 a1 a2 x44 0 σ
set_option maxRecDepth 20000 in
theorem jb_X11_heardBy_74 {X : jj_X} {E : ev_E} {n0 hN : Nat} (hc : Cx X E cX11_heardBy 5 n0 hN RX11) (hm : eM E = 2) (hr : (xT X).sig.returnType = (some .int)) (hh : 2 ≤ hN) {Q : Int → st_S → Prop} {k13 : Int → Int → Int → Int → st_S → Prop} (hk13 : ∀ {l1 : Int} {l2 : Int} {l3 : Int} {l4 : Int} (cl1 : wr l1 = l1) (cl2 : wr l2 = l2) (cl3 : wr l3 = l3) (cl4 : wr l4 = l4) {σ : st_S}, k13 l1 l2 l3 l4 σ → J X E 5 n0 0 0 (MQ (xB X) (qI E (n0 + 0) Q) (xA X) (xS X) 0 0 (eF E)) σ 13 [(0, vR E 0), (1, vI l1), (2, vI l2), (3, vI l3), (4, vI l4)] []) {l1 : Int} {l2 : Int} {l3 : Int} {l4 : Int} (cl1 : wr l1 = l1) (cl2 : wr l2 = l2) (cl3 : wr l3 = l3) (cl4 : wr l4 = l4) {σ : st_S} (h : B_X11_heardBy_74 Q k13 l1 l2 l3 l4 σ) : J X E 5 n0 0 0 (MQ (xB X) (qI E (n0 + 0) Q) (xA X) (xS X) 0 0 (eF E)) σ 74 [(0, vR E 0), (1, vI l1), (2, vI l2), (3, vI l3), (4, vI l4)] [] := by
  have hh1 : 1 ≤ hN := by omega
  replace h : ∀ x21 : Int, x21 = wr (l4 + 1) → k13 l1 l2 l3 x21 σ := h
  obtain ⟨x21, ex21⟩ : ∃ y : Int, y = wr (l4 + 1) := ⟨_, rfl⟩
  have cx21 : wr x21 = x21 := by rw [ex21]; exact wr_wr _
  replace h := h x21 ex21
  refine j_iinc (lv' := [(4, vI x21), (0, vR E 0), (1, vI l1), (2, vI l2), (3, vI l3)]) hc 4 dX11_heardBy_74 rfl (by decide) ex21 rfl ?_
  refine j_goto (tgt := 13) hc dX11_heardBy_77 (by decide) ?_
  refine j_sub (lv' := [(0, vR E 0), (1, vI l1), (2, vI l2), (3, vI l3), (4, vI x21)]) [1, 2, 3, 4, 0] rfl ?_
  exact hk13 cl1 cl2 cl3 cx21 h
set_option maxRecDepth 20000 in
theorem jb_X11_heardBy_80 {X : jj_X} {E : ev_E} {n0 hN : Nat} (hc : Cx X E cX11_heardBy 5 n0 hN RX11) (hm : eM E = 2) (hr : (xT X).sig.returnType = (some .int)) (hh : 2 ≤ hN) {Q : Int → st_S → Prop} {l3 : Int} (cl3 : wr l3 = l3) {σ : st_S} (h : B_X11_heardBy_80 Q l3 σ) : J X E 5 n0 0 0 (MQ (xB X) (qI E (n0 + 0) Q) (xA X) (xS X) 0 0 (eF E)) σ 80 [(3, vI l3)] [] := by
  have hh1 : 1 ≤ hN := by omega
  replace h : wp_X11_lesser 2 l3 σ (fun r22 s23 => Q r22 s23) := h
  refine j_iconst hc dX11_heardBy_80 ?_
  refine j_iload_n hc 0 dX11_heardBy_81 rfl rfl ?_
  refine j_sI hc ml_RX11_337 mv_X11_lesser (As := [vI 2, vI l3]) (c_X11_lesser (cx_E hc) hm (wlit 2 (by decide)) cl3 h) rfl (by omega) (by decide) ⟨Nat.zero_le _, Nat.zero_le _⟩ (Nat.le_of_ble_eq_true rfl) rfl dX11_heardBy_82 (fun r22 s23 cr22 h => ?_)
  exact j_iret hc hr cr22 h dX11_heardBy_85
set_option maxRecDepth 20000 in
theorem jl_X11_heardBy_13 {X : jj_X} {E : ev_E} {n0 hN : Nat} (hc : Cx X E cX11_heardBy 5 n0 hN RX11) (hm : eM E = 2) (hr : (xT X).sig.returnType = (some .int)) (hh : 2 ≤ hN) {Q : Int → st_S → Prop} : ∀ (n : Nat) {l1 : Int} {l2 : Int} {l3 : Int} {l4 : Int} (cl1 : wr l1 = l1) (cl2 : wr l2 = l2) (cl3 : wr l3 = l3) (cl4 : wr l4 = l4) {σ : st_S}, L_X11_heardBy_13 Q n l1 l2 l3 l4 σ → J X E 5 n0 0 0 (MQ (xB X) (qI E (n0 + 0) Q) (xA X) (xS X) 0 0 (eF E)) σ 13 [(0, vR E 0), (1, vI l1), (2, vI l2), (3, vI l3), (4, vI l4)] [] := by
  have hh1 : 1 ≤ hN := by omega
  intro n
  induction n with
  | zero => intro l1 l2 l3 l4 cl1 cl2 cl3 cl4 σ h; exact h.elim
  | succ n ih =>
    intro l1 l2 l3 l4 cl1 cl2 cl3 cl4 σ h
    have hk13 : ∀ {l1 : Int} {l2 : Int} {l3 : Int} {l4 : Int} (cl1 : wr l1 = l1) (cl2 : wr l2 = l2) (cl3 : wr l3 = l3) (cl4 : wr l4 = l4) {σ : st_S}, L_X11_heardBy_13 Q n l1 l2 l3 l4 σ → J X E 5 n0 0 0 (MQ (xB X) (qI E (n0 + 0) Q) (xA X) (xS X) 0 0 (eF E)) σ 13 [(0, vR E 0), (1, vI l1), (2, vI l2), (3, vI l3), (4, vI l4)] [] := ih
    replace h : wp_X11_people σ (fun r24 s25 => (r24 ≤ l4 → B_X11_heardBy_80 Q l3 s25) ∧ (¬ r24 ≤ l4 → (2 ≤ l3 → B_X11_heardBy_80 Q l3 s25) ∧ (¬ 2 ≤ l3 → wp_X11_isIn (gI s25 0 35) l1 s25 (fun r27 s28 => (¬ r27 = 0 → B_X11_heardBy_80 Q l3 s28) ∧ (r27 = 0 → wp_X11_isIn l2 l4 s28 (fun r29 s30 => (r29 = 0 → B_X11_heardBy_74 Q (L_X11_heardBy_13 Q n) l1 l2 l3 l4 s30) ∧ (¬ r29 = 0 → wp_X11_isIn (gI s30 0 35) l4 s30 (fun r32 s33 => (¬ r32 = 0 → B_X11_heardBy_74 Q (L_X11_heardBy_13 Q n) l1 l2 l3 l4 s33) ∧ (r32 = 0 → ix (wr ((10 * l4) + l1)) 100 ∧ ∀ x36 : Int, x36 = wr (l3 + gI s33 16 (Int.toNat (wr ((10 * l4) + l1)))) → B_X11_heardBy_74 Q (L_X11_heardBy_13 Q n) l1 l2 x36 l4 s33))))))))) := h
    refine j_iload hc 4 dX11_heardBy_13 rfl ?_
    refine j_aload_nR hc 0 dX11_heardBy_15 rfl rfl ?_
    refine j_vI hc (k := 11) (by decide) (fun hv => Or.inl (sv_k hv hm rfl)) ml_RX11_116 mv_X11_people (As := []) (c_X11_people (cx_E hc) hm  h) rfl (by omega) (by decide) ⟨Nat.zero_le _, Nat.zero_le _⟩ (Nat.le_of_ble_eq_true rfl) rfl dX11_heardBy_16 (fun r24 s25 cr24 h => ?_)
    refine j_ic_ge hc cl4 cr24 (tgt := 80) dX11_heardBy_19 (by decide) (fun q41 => ?_) (fun q41 => ?_)
    · replace h := h.1 q41
      refine j_sub (lv' := [(3, vI l3)]) [3] rfl ?_
      exact jb_X11_heardBy_80 hc hm hr hh cl3 h
    · replace h := h.2 q41
      refine j_iload_n hc 3 dX11_heardBy_22 rfl rfl ?_
      refine j_iconst hc dX11_heardBy_23 ?_
      refine j_ic_ge hc cl3 (wlit 2 (by decide)) (tgt := 80) dX11_heardBy_24 (by decide) (fun q40 => ?_) (fun q40 => ?_)
      · replace h := h.1 q40
        refine j_sub (lv' := [(3, vI l3)]) [3] rfl ?_
        exact jb_X11_heardBy_80 hc hm hr hh cl3 h
      · replace h := h.2 q40
        refine j_aload_nR hc 0 dX11_heardBy_27 rfl rfl ?_
        refine j_getI hc fl_RX11_358 (Or.inl rfl) (fun hv => Or.inl (sv_k hv hm rfl)) dX11_heardBy_28 (fun cn26 => ?_)
        refine j_iload_n hc 1 dX11_heardBy_31 rfl rfl ?_
        refine j_sI hc ml_RX11_325 mv_X11_isIn (As := [vI (gI s25 0 35), vI l1]) (c_X11_isIn (cx_E hc) hm cn26 cl1 h) rfl (by omega) (by decide) ⟨Nat.zero_le _, Nat.zero_le _⟩ (Nat.le_of_ble_eq_true rfl) rfl dX11_heardBy_32 (fun r27 s28 cr27 h => ?_)
        refine j_if_ne hc cr27 (tgt := 80) dX11_heardBy_35 (by decide) (fun q39 => ?_) (fun q39 => ?_)
        · replace h := h.1 q39
          refine j_sub (lv' := [(3, vI l3)]) [3] rfl ?_
          exact jb_X11_heardBy_80 hc hm hr hh cl3 h
        · replace h := h.2 q39
          refine j_iload_n hc 2 dX11_heardBy_38 rfl rfl ?_
          refine j_iload hc 4 dX11_heardBy_39 rfl ?_
          refine j_sI hc ml_RX11_325 mv_X11_isIn (As := [vI l2, vI l4]) (c_X11_isIn (cx_E hc) hm cl2 cl4 h) rfl (by omega) (by decide) ⟨Nat.zero_le _, Nat.zero_le _⟩ (Nat.le_of_ble_eq_true rfl) rfl dX11_heardBy_41 (fun r29 s30 cr29 h => ?_)
          refine j_if_eq hc cr29 (tgt := 74) dX11_heardBy_44 (by decide) (fun q38 => ?_) (fun q38 => ?_)
          · replace h := h.1 q38
            refine j_sub (lv' := [(0, vR E 0), (1, vI l1), (2, vI l2), (3, vI l3), (4, vI l4)]) [0, 1, 2, 3, 4] rfl ?_
            exact jb_X11_heardBy_74 hc hm hr hh hk13 cl1 cl2 cl3 cl4 h
          · replace h := h.2 q38
            refine j_aload_nR hc 0 dX11_heardBy_47 rfl rfl ?_
            refine j_getI hc fl_RX11_358 (Or.inl rfl) (fun hv => Or.inl (sv_k hv hm rfl)) dX11_heardBy_48 (fun cn31 => ?_)
            refine j_iload hc 4 dX11_heardBy_51 rfl ?_
            refine j_sI hc ml_RX11_325 mv_X11_isIn (As := [vI (gI s30 0 35), vI l4]) (c_X11_isIn (cx_E hc) hm cn31 cl4 h) rfl (by omega) (by decide) ⟨Nat.zero_le _, Nat.zero_le _⟩ (Nat.le_of_ble_eq_true rfl) rfl dX11_heardBy_53 (fun r32 s33 cr32 h => ?_)
            refine j_if_ne hc cr32 (tgt := 74) dX11_heardBy_56 (by decide) (fun q37 => ?_) (fun q37 => ?_)
            · replace h := h.1 q37
              refine j_sub (lv' := [(0, vR E 0), (1, vI l1), (2, vI l2), (3, vI l3), (4, vI l4)]) [0, 1, 2, 3, 4] rfl ?_
              exact jb_X11_heardBy_74 hc hm hr hh hk13 cl1 cl2 cl3 cl4 h
            · replace h := h.2 q37
              refine j_iload_n hc 3 dX11_heardBy_59 rfl rfl ?_
              refine j_aload_nR hc 0 dX11_heardBy_60 rfl rfl ?_
              refine j_getR (c' := 16) hc fl_RX11_71 rfl rfl (fun hv => (sv_k hv hm rfl)) dX11_heardBy_61 ?_
              refine j_bipush hc dX11_heardBy_64 (by decide) ?_
              refine j_iload hc 4 dX11_heardBy_66 rfl ?_
              refine j_imul hc dX11_heardBy_68 ?_
              refine j_iload_n hc 1 dX11_heardBy_69 rfl rfl ?_
              refine j_iadd hc dX11_heardBy_70 ?_
              obtain ⟨b34, h⟩ := h
              refine j_iald (jn := (Int.toNat (wr ((10 * l4) + l1)))) hc (fun hv => sv_kl hv hm rfl) rfl b34 rfl dX11_heardBy_71 (fun cn35 => ?_)
              refine j_iadd hc dX11_heardBy_72 ?_
              refine j_w (fun x36 ex36 cx36 => ?_)
              replace h := h x36 ex36
              refine j_istore_n (lv' := [(3, vI x36), (0, vR E 0), (1, vI l1), (2, vI l2), (4, vI l4)]) hc dX11_heardBy_73 rfl (by decide) rfl ?_
              refine j_sub (lv' := [(0, vR E 0), (1, vI l1), (2, vI l2), (3, vI x36), (4, vI l4)]) [1, 2, 3, 0, 4] rfl ?_
              exact jb_X11_heardBy_74 hc hm hr hh hk13 cl1 cl2 cx36 cl4 h
set_option maxRecDepth 20000 in
theorem c_X11_heardBy {l : Launch} {E : ev_E} (hE : Eok E) (hm : eM E = 2) {a1 : Int} {a2 : Int} (ca1 : wr a1 = a1) (ca2 : wr a2 = a2) {σ : st_S} {Q : Int → st_S → Prop} (h : wp_X11_heardBy a1 a2 σ Q) : cM l yX11_heardBy cX11_heardBy 5 (some .int) E 2 0 0 [vR E 0, vI a1, vI a2] σ (qI E (gN σ + 0) Q) := by
  refine cM_of (lv := [(0, vR E 0), (1, vI a1), (2, vI a2)]) (by decide) hE (Nat.le_of_ble_eq_true rfl) (rfl) ?_
  intro X hX hc _ _ hr _ _
  subst hX
  have hh : 2 ≤ 2 := Nat.le_refl _
  have hh1 : 1 ≤ 2 := by omega
  replace h : ix (wr (20 + a1)) 5866 ∧ ∀ x44 : Int, x44 = gI σ 2 (Int.toNat (wr (20 + a1))) → ∃ m13 : Nat, L_X11_heardBy_13 Q m13 a1 a2 x44 0 σ := h
  refine j_aload_nR hc 0 dX11_heardBy_0 rfl rfl ?_
  refine j_getR (c' := 2) hc fl_RX11_24 rfl rfl (fun hv => (sv_k hv hm rfl)) dX11_heardBy_1 ?_
  refine j_bipush hc dX11_heardBy_4 (by decide) ?_
  refine j_iload_n hc 1 dX11_heardBy_6 rfl rfl ?_
  refine j_iadd hc dX11_heardBy_7 ?_
  obtain ⟨b42, h⟩ := h
  refine j_iald (jn := (Int.toNat (wr (20 + a1)))) hc (fun hv => sv_kl hv hm rfl) rfl b42 rfl dX11_heardBy_8 (fun cn43 => ?_)
  refine j_c cn43 (fun x44 ex44 cx44 => ?_)
  replace h := h x44 ex44
  refine j_istore_n (lv' := [(3, vI x44), (0, vR E 0), (1, vI a1), (2, vI a2)]) hc dX11_heardBy_9 rfl (by decide) rfl ?_
  refine j_iconst hc dX11_heardBy_10 ?_
  refine j_istore (lv' := [(4, vI 0), (3, vI x44), (0, vR E 0), (1, vI a1), (2, vI a2)]) hc dX11_heardBy_11 (by decide) rfl ?_
  obtain ⟨n13, h⟩ := h
  refine j_sub (lv' := [(0, vR E 0), (1, vI a1), (2, vI a2), (3, vI x44), (4, vI 0)]) [2, 3, 4, 1, 0] rfl ?_
  exact jl_X11_heardBy_13 hc hm hr hh n13 ca1 ca2 cx44 (wlit 0 (by decide)) h
-- LitStrangersModel.isBarredOn(IIII)Z
theorem dX11_isBarredOn_0 : decode cX11_isBarredOn 0 = .ok (.iload_n 1, 1) := by decide +kernel
theorem dX11_isBarredOn_1 : decode cX11_isBarredOn 1 = .ok (.bipush 11, 2) := by decide +kernel
theorem dX11_isBarredOn_3 : decode cX11_isBarredOn 3 = .ok (.imul, 1) := by decide +kernel
theorem dX11_isBarredOn_4 : decode cX11_isBarredOn 4 = .ok (.iload_n 2, 1) := by decide +kernel
theorem dX11_isBarredOn_5 : decode cX11_isBarredOn 5 = .ok (.iadd, 1) := by decide +kernel
theorem dX11_isBarredOn_6 : decode cX11_isBarredOn 6 = .ok (.iconst 3, 1) := by decide +kernel
theorem dX11_isBarredOn_7 : decode cX11_isBarredOn 7 = .ok (.imul, 1) := by decide +kernel
theorem dX11_isBarredOn_8 : decode cX11_isBarredOn 8 = .ok (.iload_n 3, 1) := by decide +kernel
theorem dX11_isBarredOn_9 : decode cX11_isBarredOn 9 = .ok (.iadd, 1) := by decide +kernel
theorem dX11_isBarredOn_10 : decode cX11_isBarredOn 10 = .ok (.istore 5, 2) := by decide +kernel
theorem dX11_isBarredOn_12 : decode cX11_isBarredOn 12 = .ok (.aload_n 0, 1) := by decide +kernel
theorem dX11_isBarredOn_13 : decode cX11_isBarredOn 13 = .ok (.getfield 74, 3) := by decide +kernel
theorem dX11_isBarredOn_16 : decode cX11_isBarredOn 16 = .ok (.iload 5, 2) := by decide +kernel
theorem dX11_isBarredOn_18 : decode cX11_isBarredOn 18 = .ok (.baload, 1) := by decide +kernel
theorem dX11_isBarredOn_19 : decode cX11_isBarredOn 19 = .ok (.ifCond .ne 36, 3) := by decide +kernel
theorem dX11_isBarredOn_22 : decode cX11_isBarredOn 22 = .ok (.aload_n 0, 1) := by decide +kernel
theorem dX11_isBarredOn_23 : decode cX11_isBarredOn 23 = .ok (.getfield 74, 3) := by decide +kernel
theorem dX11_isBarredOn_26 : decode cX11_isBarredOn 26 = .ok (.iload 5, 2) := by decide +kernel
theorem dX11_isBarredOn_28 : decode cX11_isBarredOn 28 = .ok (.aload_n 0, 1) := by decide +kernel
theorem dX11_isBarredOn_29 : decode cX11_isBarredOn 29 = .ok (.iload_n 1, 1) := by decide +kernel
theorem dX11_isBarredOn_30 : decode cX11_isBarredOn 30 = .ok (.iload_n 3, 1) := by decide +kernel
theorem dX11_isBarredOn_31 : decode cX11_isBarredOn 31 = .ok (.aload_n 0, 1) := by decide +kernel
theorem dX11_isBarredOn_32 : decode cX11_isBarredOn 32 = .ok (.getfield 24, 3) := by decide +kernel
theorem dX11_isBarredOn_35 : decode cX11_isBarredOn 35 = .ok (.bipush 33, 2) := by decide +kernel
theorem dX11_isBarredOn_37 : decode cX11_isBarredOn 37 = .ok (.iaload, 1) := by decide +kernel
theorem dX11_isBarredOn_38 : decode cX11_isBarredOn 38 = .ok (.iload_n 2, 1) := by decide +kernel
theorem dX11_isBarredOn_39 : decode cX11_isBarredOn 39 = .ok (.iadd, 1) := by decide +kernel
theorem dX11_isBarredOn_40 : decode cX11_isBarredOn 40 = .ok (.iload 4, 2) := by decide +kernel
theorem dX11_isBarredOn_42 : decode cX11_isBarredOn 42 = .ok (.invokevirtual 315, 3) := by decide +kernel
theorem dX11_isBarredOn_45 : decode cX11_isBarredOn 45 = .ok (.ifCond .eq 7, 3) := by decide +kernel
theorem dX11_isBarredOn_48 : decode cX11_isBarredOn 48 = .ok (.iconst 2, 1) := by decide +kernel
theorem dX11_isBarredOn_49 : decode cX11_isBarredOn 49 = .ok (.goto 4, 3) := by decide +kernel
theorem dX11_isBarredOn_52 : decode cX11_isBarredOn 52 = .ok (.iconst 1, 1) := by decide +kernel
theorem dX11_isBarredOn_53 : decode cX11_isBarredOn 53 = .ok (.i2b, 1) := by decide +kernel
theorem dX11_isBarredOn_54 : decode cX11_isBarredOn 54 = .ok (.bastore, 1) := by decide +kernel
theorem dX11_isBarredOn_55 : decode cX11_isBarredOn 55 = .ok (.aload_n 0, 1) := by decide +kernel
theorem dX11_isBarredOn_56 : decode cX11_isBarredOn 56 = .ok (.getfield 74, 3) := by decide +kernel
theorem dX11_isBarredOn_59 : decode cX11_isBarredOn 59 = .ok (.iload 5, 2) := by decide +kernel
theorem dX11_isBarredOn_61 : decode cX11_isBarredOn 61 = .ok (.baload, 1) := by decide +kernel
theorem dX11_isBarredOn_62 : decode cX11_isBarredOn 62 = .ok (.iconst 2, 1) := by decide +kernel
theorem dX11_isBarredOn_63 : decode cX11_isBarredOn 63 = .ok (.if_icmp .ne 7, 3) := by decide +kernel
theorem dX11_isBarredOn_66 : decode cX11_isBarredOn 66 = .ok (.iconst 1, 1) := by decide +kernel
theorem dX11_isBarredOn_67 : decode cX11_isBarredOn 67 = .ok (.goto 4, 3) := by decide +kernel
theorem dX11_isBarredOn_70 : decode cX11_isBarredOn 70 = .ok (.iconst 0, 1) := by decide +kernel
theorem dX11_isBarredOn_71 : decode cX11_isBarredOn 71 = .ok (.ireturn, 1) := by decide +kernel
def B_X11_isBarredOn_71 (Q : Int → st_S → Prop)   (v0 : Int) (σ : st_S) : Prop := (v0 = 0 ∨ v0 = 1) ∧ Q v0 σ
def B_X11_isBarredOn_55 (Q : Int → st_S → Prop)   (l5 : Int) (σ : st_S) : Prop := ix l5 330 ∧ (¬ gI σ 17 (Int.toNat l5) = 2 → B_X11_isBarredOn_71 Q 0 σ) ∧ (gI σ 17 (Int.toNat l5) = 2 → B_X11_isBarredOn_71 Q 1 σ)
def B_X11_isBarredOn_53 (Q : Int → st_S → Prop)   (l5 : Int) (v0 : Int) (v1 : Int) (σ : st_S) : Prop := ix (wr v1) 330 ∧ ∀ s17 : st_S, s17 = sI σ 17 (Int.toNat (wr v1)) (o_nb (o_i2b v0)) → B_X11_isBarredOn_55 Q l5 s17
def wp_X11_isBarredOn (a1 : Int) (a2 : Int) (a3 : Int) (a4 : Int) (σ : st_S) (Q : Int → st_S → Prop) : Prop := ∀ x18 : Int, x18 = wr ((((a1 * 11) + a2) * 3) + a3) → ix x18 330 ∧ (¬ gI σ 17 (Int.toNat x18) = 0 → B_X11_isBarredOn_55 Q x18 σ) ∧ (gI σ 17 (Int.toNat x18) = 0 → wp_X11_isBarred a1 a3 (wr (gI σ 2 33 + a2)) a4 σ (fun r22 s23 => (r22 = 0 → B_X11_isBarredOn_53 Q x18 1 x18 s23) ∧ (¬ r22 = 0 → B_X11_isBarredOn_53 Q x18 2 x18 s23)))
set_option maxRecDepth 20000 in
theorem jb_X11_isBarredOn_71 {X : jj_X} {E : ev_E} {n0 hN : Nat} (hc : Cx X E cX11_isBarredOn 6 n0 hN RX11) (hm : eM E = 2) (hr : (xT X).sig.returnType = (some .boolean)) (hh : 127 ≤ hN) {Q : Int → st_S → Prop} {v0 : Int} (cv0 : wr v0 = v0) {σ : st_S} (h : B_X11_isBarredOn_71 Q v0 σ) : J X E 6 n0 0 0 (MQ (xB X) (qI E (n0 + 0) Q) (xA X) (xS X) 0 0 (eF E)) σ 71 [] [vI v0] := by
  have hh1 : 1 ≤ hN := by omega
  replace h : (v0 = 0 ∨ v0 = 1) ∧ Q v0 σ := h
  exact j_zret hc hr (nar_bool h.1) (by rcases h.1 with e | e <;> (rw [e]; decide)) h.2 dX11_isBarredOn_71
set_option maxRecDepth 20000 in
theorem jb_X11_isBarredOn_55 {X : jj_X} {E : ev_E} {n0 hN : Nat} (hc : Cx X E cX11_isBarredOn 6 n0 hN RX11) (hm : eM E = 2) (hr : (xT X).sig.returnType = (some .boolean)) (hh : 127 ≤ hN) {Q : Int → st_S → Prop} {l5 : Int} (cl5 : wr l5 = l5) {σ : st_S} (h : B_X11_isBarredOn_55 Q l5 σ) : J X E 6 n0 0 0 (MQ (xB X) (qI E (n0 + 0) Q) (xA X) (xS X) 0 0 (eF E)) σ 55 [(0, vR E 0), (5, vI l5)] [] := by
  have hh1 : 1 ≤ hN := by omega
  replace h : ix l5 330 ∧ (¬ gI σ 17 (Int.toNat l5) = 2 → B_X11_isBarredOn_71 Q 0 σ) ∧ (gI σ 17 (Int.toNat l5) = 2 → B_X11_isBarredOn_71 Q 1 σ) := h
  refine j_aload_nR hc 0 dX11_isBarredOn_55 rfl rfl ?_
  refine j_getR (c' := 17) hc fl_RX11_74 rfl rfl (fun hv => (sv_k hv hm rfl)) dX11_isBarredOn_56 ?_
  refine j_iload hc 1 dX11_isBarredOn_59 rfl ?_
  obtain ⟨b13, h⟩ := h
  refine j_bald (jn := (Int.toNat l5)) hc (fun hv => sv_kl hv hm rfl) cl5 b13 rfl dX11_isBarredOn_61 (fun cn14 => ?_)
  refine j_iconst hc dX11_isBarredOn_62 ?_
  refine j_ic_ne hc cn14 (wlit 2 (by decide)) (tgt := 70) dX11_isBarredOn_63 (by decide) (fun q15 => ?_) (fun q15 => ?_)
  · replace h := h.1 q15
    refine j_iconst hc dX11_isBarredOn_70 ?_
    refine j_sub (lv' := []) [] rfl ?_
    exact jb_X11_isBarredOn_71 hc hm hr hh (wlit 0 (by decide)) h
  · replace h := h.2 q15
    refine j_iconst hc dX11_isBarredOn_66 ?_
    refine j_goto (tgt := 71) hc dX11_isBarredOn_67 (by decide) ?_
    refine j_sub (lv' := []) [] rfl ?_
    exact jb_X11_isBarredOn_71 hc hm hr hh (wlit 1 (by decide)) h
set_option maxRecDepth 20000 in
theorem jb_X11_isBarredOn_53 {X : jj_X} {E : ev_E} {n0 hN : Nat} (hc : Cx X E cX11_isBarredOn 6 n0 hN RX11) (hm : eM E = 2) (hr : (xT X).sig.returnType = (some .boolean)) (hh : 127 ≤ hN) {Q : Int → st_S → Prop} {l5 : Int} {v0 : Int} {v1 : Int} (cl5 : wr l5 = l5) (cv0 : wr v0 = v0) {σ : st_S} (h : B_X11_isBarredOn_53 Q l5 v0 v1 σ) : J X E 6 n0 0 0 (MQ (xB X) (qI E (n0 + 0) Q) (xA X) (xS X) 0 0 (eF E)) σ 53 [(0, vR E 0), (5, vI l5)] [vI v0, vI v1, vR E 17] := by
  have hh1 : 1 ≤ hN := by omega
  replace h : ix (wr v1) 330 ∧ ∀ s17 : st_S, s17 = sI σ 17 (Int.toNat (wr v1)) (o_nb (o_i2b v0)) → B_X11_isBarredOn_55 Q l5 s17 := h
  refine j_i2b hc dX11_isBarredOn_53 ?_
  obtain ⟨b16, h⟩ := h
  refine j_bast (jn := (Int.toNat (wr v1))) hc (fun hv => sv_kl hv hm rfl) rfl b16 rfl dX11_isBarredOn_54 (fun s17 es17 => ?_)
  replace h := h s17 es17
  refine j_sub (lv' := [(0, vR E 0), (5, vI l5)]) [0, 1] rfl ?_
  exact jb_X11_isBarredOn_55 hc hm hr hh cl5 h
set_option maxRecDepth 20000 in
theorem c_X11_isBarredOn {l : Launch} {E : ev_E} (hE : Eok E) (hm : eM E = 2) {a1 : Int} {a2 : Int} {a3 : Int} {a4 : Int} (ca1 : wr a1 = a1) (ca2 : wr a2 = a2) (ca3 : wr a3 = a3) (ca4 : wr a4 = a4) {σ : st_S} {Q : Int → st_S → Prop} (h : wp_X11_isBarredOn a1 a2 a3 a4 σ Q) : cM l yX11_isBarredOn cX11_isBarredOn 6 (some .boolean) E 127 0 0 [vR E 0, vI a1, vI a2, vI a3, vI a4] σ (qI E (gN σ + 0) Q) := by
  refine cM_of (lv := [(0, vR E 0), (1, vI a1), (2, vI a2), (3, vI a3), (4, vI a4)]) (by decide) hE (Nat.le_of_ble_eq_true rfl) (rfl) ?_
  intro X hX hc _ _ hr _ _
  subst hX
  have hh : 127 ≤ 127 := Nat.le_refl _
  have hh1 : 1 ≤ 127 := by omega
  replace h : ∀ x18 : Int, x18 = wr ((((a1 * 11) + a2) * 3) + a3) → ix x18 330 ∧ (¬ gI σ 17 (Int.toNat x18) = 0 → B_X11_isBarredOn_55 Q x18 σ) ∧ (gI σ 17 (Int.toNat x18) = 0 → wp_X11_isBarred a1 a3 (wr (gI σ 2 33 + a2)) a4 σ (fun r22 s23 => (r22 = 0 → B_X11_isBarredOn_53 Q x18 1 x18 s23) ∧ (¬ r22 = 0 → B_X11_isBarredOn_53 Q x18 2 x18 s23))) := h
  refine j_iload_n hc 1 dX11_isBarredOn_0 rfl rfl ?_
  refine j_bipush hc dX11_isBarredOn_1 (by decide) ?_
  refine j_imul hc dX11_isBarredOn_3 ?_
  refine j_iload_n hc 2 dX11_isBarredOn_4 rfl rfl ?_
  refine j_iadd hc dX11_isBarredOn_5 ?_
  refine j_iconst hc dX11_isBarredOn_6 ?_
  refine j_imul hc dX11_isBarredOn_7 ?_
  refine j_iload_n hc 3 dX11_isBarredOn_8 rfl rfl ?_
  refine j_iadd hc dX11_isBarredOn_9 ?_
  refine j_w (fun x18 ex18 cx18 => ?_)
  replace h := h x18 ex18
  refine j_istore (lv' := [(5, vI x18), (0, vR E 0), (1, vI a1), (2, vI a2), (3, vI a3), (4, vI a4)]) hc dX11_isBarredOn_10 (by decide) rfl ?_
  refine j_aload_nR hc 1 dX11_isBarredOn_12 rfl rfl ?_
  refine j_getR (c' := 17) hc fl_RX11_74 rfl rfl (fun hv => (sv_k hv hm rfl)) dX11_isBarredOn_13 ?_
  refine j_iload hc 0 dX11_isBarredOn_16 rfl ?_
  obtain ⟨b19, h⟩ := h
  refine j_bald (jn := (Int.toNat x18)) hc (fun hv => sv_kl hv hm rfl) cx18 b19 rfl dX11_isBarredOn_18 (fun cn20 => ?_)
  refine j_if_ne hc cn20 (tgt := 55) dX11_isBarredOn_19 (by decide) (fun q25 => ?_) (fun q25 => ?_)
  · replace h := h.1 q25
    refine j_sub (lv' := [(0, vR E 0), (5, vI x18)]) [1, 0] rfl ?_
    exact jb_X11_isBarredOn_55 hc hm hr hh cx18 h
  · replace h := h.2 q25
    refine j_aload_nR hc 1 dX11_isBarredOn_22 rfl rfl ?_
    refine j_getR (c' := 17) hc fl_RX11_74 rfl rfl (fun hv => (sv_k hv hm rfl)) dX11_isBarredOn_23 ?_
    refine j_iload hc 0 dX11_isBarredOn_26 rfl ?_
    refine j_aload_nR hc 1 dX11_isBarredOn_28 rfl rfl ?_
    refine j_iload_n hc 2 dX11_isBarredOn_29 rfl rfl ?_
    refine j_iload_n hc 4 dX11_isBarredOn_30 rfl rfl ?_
    refine j_aload_nR hc 1 dX11_isBarredOn_31 rfl rfl ?_
    refine j_getR (c' := 2) hc fl_RX11_24 rfl rfl (fun hv => (sv_k hv hm rfl)) dX11_isBarredOn_32 ?_
    refine j_bipush hc dX11_isBarredOn_35 (by decide) ?_
    refine j_iald (jn := 33) hc (fun hv => sv_kl hv hm rfl) (wlit 33 (by decide)) ⟨by decide, by decide⟩ rfl dX11_isBarredOn_37 (fun cn21 => ?_)
    refine j_iload_n hc 3 dX11_isBarredOn_38 rfl rfl ?_
    refine j_iadd hc dX11_isBarredOn_39 ?_
    refine j_iload hc 5 dX11_isBarredOn_40 rfl ?_
    refine j_vI hc (k := 11) (by decide) (fun hv => Or.inl (sv_k hv hm rfl)) ml_RX11_315 mv_X11_isBarred (As := [vI a1, vI a3, vI (wr (gI σ 2 33 + a2)), vI a4]) (c_X11_isBarred (cx_E hc) hm ca1 ca3 (wr_wr _) ca4 h) rfl (by omega) (by decide) ⟨Nat.zero_le _, Nat.zero_le _⟩ (Nat.le_of_ble_eq_true rfl) (by simp only [vI_wr, vL_wl]; rfl) dX11_isBarredOn_42 (fun r22 s23 cr22 h => ?_)
    refine j_if_eq hc cr22 (tgt := 52) dX11_isBarredOn_45 (by decide) (fun q24 => ?_) (fun q24 => ?_)
    · replace h := h.1 q24
      refine j_iconst hc dX11_isBarredOn_52 ?_
      refine j_sub (lv' := [(0, vR E 0), (5, vI x18)]) [1, 0] rfl ?_
      exact jb_X11_isBarredOn_53 hc hm hr hh cx18 (wlit 1 (by decide)) h
    · replace h := h.2 q24
      refine j_iconst hc dX11_isBarredOn_48 ?_
      refine j_goto (tgt := 53) hc dX11_isBarredOn_49 (by decide) ?_
      refine j_sub (lv' := [(0, vR E 0), (5, vI x18)]) [1, 0] rfl ?_
      exact jb_X11_isBarredOn_53 hc hm hr hh cx18 (wlit 2 (by decide)) h
-- LitStrangersModel.laysWorths(III)V
theorem dX11_laysWorths_0 : decode cX11_laysWorths 0 = .ok (.iconst 0, 1) := by decide +kernel
theorem dX11_laysWorths_1 : decode cX11_laysWorths 1 = .ok (.istore 4, 2) := by decide +kernel
theorem dX11_laysWorths_3 : decode cX11_laysWorths 3 = .ok (.iload 4, 2) := by decide +kernel
theorem dX11_laysWorths_5 : decode cX11_laysWorths 5 = .ok (.bipush 10, 2) := by decide +kernel
theorem dX11_laysWorths_7 : decode cX11_laysWorths 7 = .ok (.if_icmp .ge 106, 3) := by decide +kernel
theorem dX11_laysWorths_10 : decode cX11_laysWorths 10 = .ok (.aload_n 0, 1) := by decide +kernel
theorem dX11_laysWorths_11 : decode cX11_laysWorths 11 = .ok (.getfield 77, 3) := by decide +kernel
theorem dX11_laysWorths_14 : decode cX11_laysWorths 14 = .ok (.iload 4, 2) := by decide +kernel
theorem dX11_laysWorths_16 : decode cX11_laysWorths 16 = .ok (.iconst 0, 1) := by decide +kernel
theorem dX11_laysWorths_17 : decode cX11_laysWorths 17 = .ok (.iastore, 1) := by decide +kernel
theorem dX11_laysWorths_18 : decode cX11_laysWorths 18 = .ok (.aload_n 0, 1) := by decide +kernel
theorem dX11_laysWorths_19 : decode cX11_laysWorths 19 = .ok (.iload 4, 2) := by decide +kernel
theorem dX11_laysWorths_21 : decode cX11_laysWorths 21 = .ok (.invokevirtual 128, 3) := by decide +kernel
theorem dX11_laysWorths_24 : decode cX11_laysWorths 24 = .ok (.ifCond .eq 83, 3) := by decide +kernel
theorem dX11_laysWorths_27 : decode cX11_laysWorths 27 = .ok (.iload_n 2, 1) := by decide +kernel
theorem dX11_laysWorths_28 : decode cX11_laysWorths 28 = .ok (.aload_n 0, 1) := by decide +kernel
theorem dX11_laysWorths_29 : decode cX11_laysWorths 29 = .ok (.getfield 355, 3) := by decide +kernel
theorem dX11_laysWorths_32 : decode cX11_laysWorths 32 = .ok (.ior, 1) := by decide +kernel
theorem dX11_laysWorths_33 : decode cX11_laysWorths 33 = .ok (.iload 4, 2) := by decide +kernel
theorem dX11_laysWorths_35 : decode cX11_laysWorths 35 = .ok (.invokestatic 325, 3) := by decide +kernel
theorem dX11_laysWorths_38 : decode cX11_laysWorths 38 = .ok (.ifCond .ne 69, 3) := by decide +kernel
theorem dX11_laysWorths_41 : decode cX11_laysWorths 41 = .ok (.aload_n 0, 1) := by decide +kernel
theorem dX11_laysWorths_42 : decode cX11_laysWorths 42 = .ok (.getfield 68, 3) := by decide +kernel
theorem dX11_laysWorths_45 : decode cX11_laysWorths 45 = .ok (.iload 4, 2) := by decide +kernel
theorem dX11_laysWorths_47 : decode cX11_laysWorths 47 = .ok (.iaload, 1) := by decide +kernel
theorem dX11_laysWorths_48 : decode cX11_laysWorths 48 = .ok (.iload_n 1, 1) := by decide +kernel
theorem dX11_laysWorths_49 : decode cX11_laysWorths 49 = .ok (.if_icmp .gt 58, 3) := by decide +kernel
theorem dX11_laysWorths_52 : decode cX11_laysWorths 52 = .ok (.aload_n 0, 1) := by decide +kernel
theorem dX11_laysWorths_53 : decode cX11_laysWorths 53 = .ok (.getfield 24, 3) := by decide +kernel
theorem dX11_laysWorths_56 : decode cX11_laysWorths 56 = .ok (.iconst 0, 1) := by decide +kernel
theorem dX11_laysWorths_57 : decode cX11_laysWorths 57 = .ok (.iload 4, 2) := by decide +kernel
theorem dX11_laysWorths_59 : decode cX11_laysWorths 59 = .ok (.iadd, 1) := by decide +kernel
theorem dX11_laysWorths_60 : decode cX11_laysWorths 60 = .ok (.iaload, 1) := by decide +kernel
theorem dX11_laysWorths_61 : decode cX11_laysWorths 61 = .ok (.iconst 3, 1) := by decide +kernel
theorem dX11_laysWorths_62 : decode cX11_laysWorths 62 = .ok (.if_icmp .ne 6, 3) := by decide +kernel
theorem dX11_laysWorths_65 : decode cX11_laysWorths 65 = .ok (.goto 42, 3) := by decide +kernel
theorem dX11_laysWorths_68 : decode cX11_laysWorths 68 = .ok (.aload_n 0, 1) := by decide +kernel
theorem dX11_laysWorths_69 : decode cX11_laysWorths 69 = .ok (.iload 4, 2) := by decide +kernel
theorem dX11_laysWorths_71 : decode cX11_laysWorths 71 = .ok (.iload_n 2, 1) := by decide +kernel
theorem dX11_laysWorths_72 : decode cX11_laysWorths 72 = .ok (.invokevirtual 364, 3) := by decide +kernel
theorem dX11_laysWorths_75 : decode cX11_laysWorths 75 = .ok (.istore 5, 2) := by decide +kernel
theorem dX11_laysWorths_77 : decode cX11_laysWorths 77 = .ok (.iload 5, 2) := by decide +kernel
theorem dX11_laysWorths_79 : decode cX11_laysWorths 79 = .ok (.iconst 2, 1) := by decide +kernel
theorem dX11_laysWorths_80 : decode cX11_laysWorths 80 = .ok (.if_icmp .ge 27, 3) := by decide +kernel
theorem dX11_laysWorths_83 : decode cX11_laysWorths 83 = .ok (.aload_n 0, 1) := by decide +kernel
theorem dX11_laysWorths_84 : decode cX11_laysWorths 84 = .ok (.iload 4, 2) := by decide +kernel
theorem dX11_laysWorths_86 : decode cX11_laysWorths 86 = .ok (.iload_n 1, 1) := by decide +kernel
theorem dX11_laysWorths_87 : decode cX11_laysWorths 87 = .ok (.iload 5, 2) := by decide +kernel
theorem dX11_laysWorths_89 : decode cX11_laysWorths 89 = .ok (.iload_n 3, 1) := by decide +kernel
theorem dX11_laysWorths_90 : decode cX11_laysWorths 90 = .ok (.invokevirtual 367, 3) := by decide +kernel
theorem dX11_laysWorths_93 : decode cX11_laysWorths 93 = .ok (.ifCond .ne 14, 3) := by decide +kernel
theorem dX11_laysWorths_96 : decode cX11_laysWorths 96 = .ok (.aload_n 0, 1) := by decide +kernel
theorem dX11_laysWorths_97 : decode cX11_laysWorths 97 = .ok (.getfield 77, 3) := by decide +kernel
theorem dX11_laysWorths_100 : decode cX11_laysWorths 100 = .ok (.iload 4, 2) := by decide +kernel
theorem dX11_laysWorths_102 : decode cX11_laysWorths 102 = .ok (.iconst 2, 1) := by decide +kernel
theorem dX11_laysWorths_103 : decode cX11_laysWorths 103 = .ok (.iload 5, 2) := by decide +kernel
theorem dX11_laysWorths_105 : decode cX11_laysWorths 105 = .ok (.isub, 1) := by decide +kernel
theorem dX11_laysWorths_106 : decode cX11_laysWorths 106 = .ok (.iastore, 1) := by decide +kernel
theorem dX11_laysWorths_107 : decode cX11_laysWorths 107 = .ok (.iinc 4 1, 3) := by decide +kernel
theorem dX11_laysWorths_110 : decode cX11_laysWorths 110 = .ok (.goto (-107), 3) := by decide +kernel
theorem dX11_laysWorths_113 : decode cX11_laysWorths 113 = .ok (.return_, 1) := by decide +kernel
def B_X11_laysWorths_107 (Q : st_S → Prop)  (k3 : Int → Int → Int → Int → st_S → Prop) (l1 : Int) (l2 : Int) (l3 : Int) (l4 : Int) (σ : st_S) : Prop := ∀ x23 : Int, x23 = wr (l4 + 1) → k3 l1 l2 l3 x23 σ
def L_X11_laysWorths_3 (Q : st_S → Prop)   : Nat → Int → Int → Int → Int → st_S → Prop
  | 0 => fun _ _ _ _ _ => False
  | n + 1 => fun l1 l2 l3 l4 σ => (10 ≤ l4 → Q σ) ∧ (¬ 10 ≤ l4 → ix l4 10 ∧ ∀ s25 : st_S, s25 = sI σ 18 (Int.toNat l4) 0 → wp_X11_isPerson l4 s25 (fun r26 s27 => (r26 = 0 → B_X11_laysWorths_107 Q (L_X11_laysWorths_3 Q n) l1 l2 l3 l4 s27) ∧ (¬ r26 = 0 → wp_X11_isIn (o_or l2 (gI s27 0 34)) l4 s27 (fun r29 s30 => (¬ r29 = 0 → B_X11_laysWorths_107 Q (L_X11_laysWorths_3 Q n) l1 l2 l3 l4 s30) ∧ (r29 = 0 → ix l4 10 ∧ (l1 < gI s30 15 (Int.toNat l4) → B_X11_laysWorths_107 Q (L_X11_laysWorths_3 Q n) l1 l2 l3 l4 s30) ∧ (¬ l1 < gI s30 15 (Int.toNat l4) → ix (wr (0 + l4)) 5866 ∧ (¬ gI s30 2 (Int.toNat (wr (0 + l4))) = 3 → wp_X11_heardBy l4 l2 s30 (fun r35 s36 => (2 ≤ r35 → B_X11_laysWorths_107 Q (L_X11_laysWorths_3 Q n) l1 l2 l3 l4 s36) ∧ (¬ 2 ≤ r35 → wp_X11_isBarredOn l4 l1 r35 l3 s36 (fun r37 s38 => (¬ r37 = 0 → B_X11_laysWorths_107 Q (L_X11_laysWorths_3 Q n) l1 l2 l3 l4 s38) ∧ (r37 = 0 → ∀ x39 : Int, x39 = wr (2 - r35) → ix l4 10 ∧ ∀ s41 : st_S, s41 = sI s38 18 (Int.toNat l4) x39 → B_X11_laysWorths_107 Q (L_X11_laysWorths_3 Q n) l1 l2 l3 l4 s41))))) ∧ (gI s30 2 (Int.toNat (wr (0 + l4))) = 3 → B_X11_laysWorths_107 Q (L_X11_laysWorths_3 Q n) l1 l2 l3 l4 s30)))))))
def wp_X11_laysWorths (a1 : Int) (a2 : Int) (a3 : Int) (σ : st_S) (Q : st_S → Prop) : Prop := ∃ m3 : Nat, L_X11_laysWorths_3 Q m3 a1 a2 a3 0 σ
set_option maxRecDepth 20000 in
theorem jb_X11_laysWorths_107 {X : jj_X} {E : ev_E} {n0 hN : Nat} (hc : Cx X E cX11_laysWorths 6 n0 hN RX11) (hm : eM E = 2) (hr : (xT X).sig.returnType = none) (hh : 128 ≤ hN) {Q : st_S → Prop} {k3 : Int → Int → Int → Int → st_S → Prop} (hk3 : ∀ {l1 : Int} {l2 : Int} {l3 : Int} {l4 : Int} (cl1 : wr l1 = l1) (cl2 : wr l2 = l2) (cl3 : wr l3 = l3) (cl4 : wr l4 = l4) {σ : st_S}, k3 l1 l2 l3 l4 σ → J X E 6 n0 0 0 (MQ (xB X) (qV E (n0 + 0) Q) (xA X) (xS X) 0 0 (eF E)) σ 3 [(0, vR E 0), (1, vI l1), (2, vI l2), (3, vI l3), (4, vI l4)] []) {l1 : Int} {l2 : Int} {l3 : Int} {l4 : Int} (cl1 : wr l1 = l1) (cl2 : wr l2 = l2) (cl3 : wr l3 = l3) (cl4 : wr l4 = l4) {σ : st_S} (h : B_X11_laysWorths_107 Q k3 l1 l2 l3 l4 σ) : J X E 6 n0 0 0 (MQ (xB X) (qV E (n0 + 0) Q) (xA X) (xS X) 0 0 (eF E)) σ 107 [(0, vR E 0), (1, vI l1), (2, vI l2), (3, vI l3), (4, vI l4)] [] := by
  have hh1 : 1 ≤ hN := by omega
  replace h : ∀ x23 : Int, x23 = wr (l4 + 1) → k3 l1 l2 l3 x23 σ := h
  obtain ⟨x23, ex23⟩ : ∃ y : Int, y = wr (l4 + 1) := ⟨_, rfl⟩
  have cx23 : wr x23 = x23 := by rw [ex23]; exact wr_wr _
  replace h := h x23 ex23
  refine j_iinc (lv' := [(4, vI x23), (0, vR E 0), (1, vI l1), (2, vI l2), (3, vI l3)]) hc 4 dX11_laysWorths_107 rfl (by decide) ex23 rfl ?_
  refine j_goto (tgt := 3) hc dX11_laysWorths_110 (by decide) ?_
  refine j_sub (lv' := [(0, vR E 0), (1, vI l1), (2, vI l2), (3, vI l3), (4, vI x23)]) [1, 2, 3, 4, 0] rfl ?_
  exact hk3 cl1 cl2 cl3 cx23 h
set_option maxRecDepth 20000 in
theorem jl_X11_laysWorths_3 {X : jj_X} {E : ev_E} {n0 hN : Nat} (hc : Cx X E cX11_laysWorths 6 n0 hN RX11) (hm : eM E = 2) (hr : (xT X).sig.returnType = none) (hh : 128 ≤ hN) {Q : st_S → Prop} : ∀ (n : Nat) {l1 : Int} {l2 : Int} {l3 : Int} {l4 : Int} (cl1 : wr l1 = l1) (cl2 : wr l2 = l2) (cl3 : wr l3 = l3) (cl4 : wr l4 = l4) {σ : st_S}, L_X11_laysWorths_3 Q n l1 l2 l3 l4 σ → J X E 6 n0 0 0 (MQ (xB X) (qV E (n0 + 0) Q) (xA X) (xS X) 0 0 (eF E)) σ 3 [(0, vR E 0), (1, vI l1), (2, vI l2), (3, vI l3), (4, vI l4)] [] := by
  have hh1 : 1 ≤ hN := by omega
  intro n
  induction n with
  | zero => intro l1 l2 l3 l4 cl1 cl2 cl3 cl4 σ h; exact h.elim
  | succ n ih =>
    intro l1 l2 l3 l4 cl1 cl2 cl3 cl4 σ h
    have hk3 : ∀ {l1 : Int} {l2 : Int} {l3 : Int} {l4 : Int} (cl1 : wr l1 = l1) (cl2 : wr l2 = l2) (cl3 : wr l3 = l3) (cl4 : wr l4 = l4) {σ : st_S}, L_X11_laysWorths_3 Q n l1 l2 l3 l4 σ → J X E 6 n0 0 0 (MQ (xB X) (qV E (n0 + 0) Q) (xA X) (xS X) 0 0 (eF E)) σ 3 [(0, vR E 0), (1, vI l1), (2, vI l2), (3, vI l3), (4, vI l4)] [] := ih
    replace h : (10 ≤ l4 → Q σ) ∧ (¬ 10 ≤ l4 → ix l4 10 ∧ ∀ s25 : st_S, s25 = sI σ 18 (Int.toNat l4) 0 → wp_X11_isPerson l4 s25 (fun r26 s27 => (r26 = 0 → B_X11_laysWorths_107 Q (L_X11_laysWorths_3 Q n) l1 l2 l3 l4 s27) ∧ (¬ r26 = 0 → wp_X11_isIn (o_or l2 (gI s27 0 34)) l4 s27 (fun r29 s30 => (¬ r29 = 0 → B_X11_laysWorths_107 Q (L_X11_laysWorths_3 Q n) l1 l2 l3 l4 s30) ∧ (r29 = 0 → ix l4 10 ∧ (l1 < gI s30 15 (Int.toNat l4) → B_X11_laysWorths_107 Q (L_X11_laysWorths_3 Q n) l1 l2 l3 l4 s30) ∧ (¬ l1 < gI s30 15 (Int.toNat l4) → ix (wr (0 + l4)) 5866 ∧ (¬ gI s30 2 (Int.toNat (wr (0 + l4))) = 3 → wp_X11_heardBy l4 l2 s30 (fun r35 s36 => (2 ≤ r35 → B_X11_laysWorths_107 Q (L_X11_laysWorths_3 Q n) l1 l2 l3 l4 s36) ∧ (¬ 2 ≤ r35 → wp_X11_isBarredOn l4 l1 r35 l3 s36 (fun r37 s38 => (¬ r37 = 0 → B_X11_laysWorths_107 Q (L_X11_laysWorths_3 Q n) l1 l2 l3 l4 s38) ∧ (r37 = 0 → ∀ x39 : Int, x39 = wr (2 - r35) → ix l4 10 ∧ ∀ s41 : st_S, s41 = sI s38 18 (Int.toNat l4) x39 → B_X11_laysWorths_107 Q (L_X11_laysWorths_3 Q n) l1 l2 l3 l4 s41))))) ∧ (gI s30 2 (Int.toNat (wr (0 + l4))) = 3 → B_X11_laysWorths_107 Q (L_X11_laysWorths_3 Q n) l1 l2 l3 l4 s30))))))) := h
    refine j_iload hc 4 dX11_laysWorths_3 rfl ?_
    refine j_bipush hc dX11_laysWorths_5 (by decide) ?_
    refine j_ic_ge hc cl4 (wlit 10 (by decide)) (tgt := 113) dX11_laysWorths_7 (by decide) (fun q48 => ?_) (fun q48 => ?_)
    · replace h := h.1 q48
      exact j_vret hc hr h dX11_laysWorths_113
    · replace h := h.2 q48
      refine j_aload_nR hc 0 dX11_laysWorths_10 rfl rfl ?_
      refine j_getR (c' := 18) hc fl_RX11_77 rfl rfl (fun hv => (sv_k hv hm rfl)) dX11_laysWorths_11 ?_
      refine j_iload hc 4 dX11_laysWorths_14 rfl ?_
      refine j_iconst hc dX11_laysWorths_16 ?_
      obtain ⟨b24, h⟩ := h
      refine j_iast (jn := (Int.toNat l4)) hc (fun hv => sv_kl hv hm rfl) cl4 b24 rfl (wlit 0 (by decide)) dX11_laysWorths_17 (fun s25 es25 => ?_)
      replace h := h s25 es25
      refine j_aload_nR hc 0 dX11_laysWorths_18 rfl rfl ?_
      refine j_iload hc 4 dX11_laysWorths_19 rfl ?_
      refine j_vI hc (k := 11) (by decide) (fun hv => Or.inl (sv_k hv hm rfl)) ml_RX11_128 mv_X11_isPerson (As := [vI l4]) (c_X11_isPerson (cx_E hc) hm cl4 h) rfl (by omega) (by decide) ⟨Nat.zero_le _, Nat.zero_le _⟩ (Nat.le_of_ble_eq_true rfl) rfl dX11_laysWorths_21 (fun r26 s27 cr26 h => ?_)
      refine j_if_eq hc cr26 (tgt := 107) dX11_laysWorths_24 (by decide) (fun q47 => ?_) (fun q47 => ?_)
      · replace h := h.1 q47
        refine j_sub (lv' := [(0, vR E 0), (1, vI l1), (2, vI l2), (3, vI l3), (4, vI l4)]) [0, 1, 2, 3, 4] rfl ?_
        exact jb_X11_laysWorths_107 hc hm hr hh hk3 cl1 cl2 cl3 cl4 h
      · replace h := h.2 q47
        refine j_iload_n hc 2 dX11_laysWorths_27 rfl rfl ?_
        refine j_aload_nR hc 0 dX11_laysWorths_28 rfl rfl ?_
        refine j_getI hc fl_RX11_355 (Or.inl rfl) (fun hv => Or.inl (sv_k hv hm rfl)) dX11_laysWorths_29 (fun cn28 => ?_)
        refine j_ior hc dX11_laysWorths_32 ?_
        refine j_iload hc 4 dX11_laysWorths_33 rfl ?_
        refine j_sI hc ml_RX11_325 mv_X11_isIn (As := [vI (o_or l2 (gI s27 0 34)), vI l4]) (c_X11_isIn (cx_E hc) hm (cn_or _ _) cl4 h) rfl (by omega) (by decide) ⟨Nat.zero_le _, Nat.zero_le _⟩ (Nat.le_of_ble_eq_true rfl) rfl dX11_laysWorths_35 (fun r29 s30 cr29 h => ?_)
        refine j_if_ne hc cr29 (tgt := 107) dX11_laysWorths_38 (by decide) (fun q46 => ?_) (fun q46 => ?_)
        · replace h := h.1 q46
          refine j_sub (lv' := [(0, vR E 0), (1, vI l1), (2, vI l2), (3, vI l3), (4, vI l4)]) [0, 1, 2, 3, 4] rfl ?_
          exact jb_X11_laysWorths_107 hc hm hr hh hk3 cl1 cl2 cl3 cl4 h
        · replace h := h.2 q46
          refine j_aload_nR hc 0 dX11_laysWorths_41 rfl rfl ?_
          refine j_getR (c' := 15) hc fl_RX11_68 rfl rfl (fun hv => (sv_k hv hm rfl)) dX11_laysWorths_42 ?_
          refine j_iload hc 4 dX11_laysWorths_45 rfl ?_
          obtain ⟨b31, h⟩ := h
          refine j_iald (jn := (Int.toNat l4)) hc (fun hv => sv_kl hv hm rfl) cl4 b31 rfl dX11_laysWorths_47 (fun cn32 => ?_)
          refine j_iload_n hc 1 dX11_laysWorths_48 rfl rfl ?_
          refine j_ic_gt hc cn32 cl1 (tgt := 107) dX11_laysWorths_49 (by decide) (fun q45 => ?_) (fun q45 => ?_)
          · replace h := h.1 q45
            refine j_sub (lv' := [(0, vR E 0), (1, vI l1), (2, vI l2), (3, vI l3), (4, vI l4)]) [0, 1, 2, 3, 4] rfl ?_
            exact jb_X11_laysWorths_107 hc hm hr hh hk3 cl1 cl2 cl3 cl4 h
          · replace h := h.2 q45
            refine j_aload_nR hc 0 dX11_laysWorths_52 rfl rfl ?_
            refine j_getR (c' := 2) hc fl_RX11_24 rfl rfl (fun hv => (sv_k hv hm rfl)) dX11_laysWorths_53 ?_
            refine j_iconst hc dX11_laysWorths_56 ?_
            refine j_iload hc 4 dX11_laysWorths_57 rfl ?_
            refine j_iadd hc dX11_laysWorths_59 ?_
            obtain ⟨b33, h⟩ := h
            refine j_iald (jn := (Int.toNat (wr (0 + l4)))) hc (fun hv => sv_kl hv hm rfl) rfl b33 rfl dX11_laysWorths_60 (fun cn34 => ?_)
            refine j_iconst hc dX11_laysWorths_61 ?_
            refine j_ic_ne hc cn34 (wlit 3 (by decide)) (tgt := 68) dX11_laysWorths_62 (by decide) (fun q44 => ?_) (fun q44 => ?_)
            · replace h := h.1 q44
              refine j_aload_nR hc 0 dX11_laysWorths_68 rfl rfl ?_
              refine j_iload hc 4 dX11_laysWorths_69 rfl ?_
              refine j_iload_n hc 2 dX11_laysWorths_71 rfl rfl ?_
              refine j_vI hc (k := 11) (by decide) (fun hv => Or.inl (sv_k hv hm rfl)) ml_RX11_364 mv_X11_heardBy (As := [vI l4, vI l2]) (c_X11_heardBy (cx_E hc) hm cl4 cl2 h) rfl (by omega) (by decide) ⟨Nat.zero_le _, Nat.zero_le _⟩ (Nat.le_of_ble_eq_true rfl) rfl dX11_laysWorths_72 (fun r35 s36 cr35 h => ?_)
              refine j_istore (lv' := [(5, vI r35), (0, vR E 0), (1, vI l1), (2, vI l2), (3, vI l3), (4, vI l4)]) hc dX11_laysWorths_75 (by decide) rfl ?_
              refine j_iload hc 0 dX11_laysWorths_77 rfl ?_
              refine j_iconst hc dX11_laysWorths_79 ?_
              refine j_ic_ge hc cr35 (wlit 2 (by decide)) (tgt := 107) dX11_laysWorths_80 (by decide) (fun q43 => ?_) (fun q43 => ?_)
              · replace h := h.1 q43
                refine j_sub (lv' := [(0, vR E 0), (1, vI l1), (2, vI l2), (3, vI l3), (4, vI l4)]) [1, 2, 3, 4, 5] rfl ?_
                exact jb_X11_laysWorths_107 hc hm hr hh hk3 cl1 cl2 cl3 cl4 h
              · replace h := h.2 q43
                refine j_aload_nR hc 1 dX11_laysWorths_83 rfl rfl ?_
                refine j_iload hc 5 dX11_laysWorths_84 rfl ?_
                refine j_iload_n hc 2 dX11_laysWorths_86 rfl rfl ?_
                refine j_iload hc 0 dX11_laysWorths_87 rfl ?_
                refine j_iload_n hc 4 dX11_laysWorths_89 rfl rfl ?_
                refine j_vI hc (k := 11) (by decide) (fun hv => Or.inl (sv_k hv hm rfl)) ml_RX11_367 mv_X11_isBarredOn (As := [vI l4, vI l1, vI r35, vI l3]) (c_X11_isBarredOn (cx_E hc) hm cl4 cl1 cr35 cl3 h) rfl (by omega) (by decide) ⟨Nat.zero_le _, Nat.zero_le _⟩ (Nat.le_of_ble_eq_true rfl) rfl dX11_laysWorths_90 (fun r37 s38 cr37 h => ?_)
                refine j_if_ne hc cr37 (tgt := 107) dX11_laysWorths_93 (by decide) (fun q42 => ?_) (fun q42 => ?_)
                · replace h := h.1 q42
                  refine j_sub (lv' := [(0, vR E 0), (1, vI l1), (2, vI l2), (3, vI l3), (4, vI l4)]) [1, 2, 3, 4, 5] rfl ?_
                  exact jb_X11_laysWorths_107 hc hm hr hh hk3 cl1 cl2 cl3 cl4 h
                · replace h := h.2 q42
                  refine j_aload_nR hc 1 dX11_laysWorths_96 rfl rfl ?_
                  refine j_getR (c' := 18) hc fl_RX11_77 rfl rfl (fun hv => (sv_k hv hm rfl)) dX11_laysWorths_97 ?_
                  refine j_iload hc 5 dX11_laysWorths_100 rfl ?_
                  refine j_iconst hc dX11_laysWorths_102 ?_
                  refine j_iload hc 0 dX11_laysWorths_103 rfl ?_
                  refine j_isub hc dX11_laysWorths_105 ?_
                  refine j_w (fun x39 ex39 cx39 => ?_)
                  replace h := h x39 ex39
                  obtain ⟨b40, h⟩ := h
                  refine j_iast (jn := (Int.toNat l4)) hc (fun hv => sv_kl hv hm rfl) cl4 b40 rfl cx39 dX11_laysWorths_106 (fun s41 es41 => ?_)
                  replace h := h s41 es41
                  refine j_sub (lv' := [(0, vR E 0), (1, vI l1), (2, vI l2), (3, vI l3), (4, vI l4)]) [1, 2, 3, 4, 5] rfl ?_
                  exact jb_X11_laysWorths_107 hc hm hr hh hk3 cl1 cl2 cl3 cl4 h
            · replace h := h.2 q44
              refine j_goto (tgt := 107) hc dX11_laysWorths_65 (by decide) ?_
              refine j_sub (lv' := [(0, vR E 0), (1, vI l1), (2, vI l2), (3, vI l3), (4, vI l4)]) [0, 1, 2, 3, 4] rfl ?_
              exact jb_X11_laysWorths_107 hc hm hr hh hk3 cl1 cl2 cl3 cl4 h
set_option maxRecDepth 20000 in
theorem c_X11_laysWorths {l : Launch} {E : ev_E} (hE : Eok E) (hm : eM E = 2) {a1 : Int} {a2 : Int} {a3 : Int} (ca1 : wr a1 = a1) (ca2 : wr a2 = a2) (ca3 : wr a3 = a3) {σ : st_S} {Q : st_S → Prop} (h : wp_X11_laysWorths a1 a2 a3 σ Q) : cM l yX11_laysWorths cX11_laysWorths 6 none E 128 0 0 [vR E 0, vI a1, vI a2, vI a3] σ (qV E (gN σ + 0) Q) := by
  refine cM_of (lv := [(0, vR E 0), (1, vI a1), (2, vI a2), (3, vI a3)]) (by decide) hE (Nat.le_of_ble_eq_true rfl) (rfl) ?_
  intro X hX hc _ _ hr _ _
  subst hX
  have hh : 128 ≤ 128 := Nat.le_refl _
  have hh1 : 1 ≤ 128 := by omega
  replace h : ∃ m3 : Nat, L_X11_laysWorths_3 Q m3 a1 a2 a3 0 σ := h
  refine j_iconst hc dX11_laysWorths_0 ?_
  refine j_istore (lv' := [(4, vI 0), (0, vR E 0), (1, vI a1), (2, vI a2), (3, vI a3)]) hc dX11_laysWorths_1 (by decide) rfl ?_
  obtain ⟨n3, h⟩ := h
  refine j_sub (lv' := [(0, vR E 0), (1, vI a1), (2, vI a2), (3, vI a3), (4, vI 0)]) [1, 2, 3, 4, 0] rfl ?_
  exact jl_X11_laysWorths_3 hc hm hr hh n3 ca1 ca2 ca3 (wlit 0 (by decide)) h
-- LitStrangersModel.isCrew(II)Z
theorem dX11_isCrew_0 : decode cX11_isCrew 0 = .ok (.iconst 0, 1) := by decide +kernel
theorem dX11_isCrew_1 : decode cX11_isCrew 1 = .ok (.istore_n 3, 1) := by decide +kernel
theorem dX11_isCrew_2 : decode cX11_isCrew 2 = .ok (.ldc 160, 2) := by decide +kernel
theorem dX11_isCrew_4 : decode cX11_isCrew 4 = .ok (.istore 4, 2) := by decide +kernel
theorem dX11_isCrew_6 : decode cX11_isCrew 6 = .ok (.iconst 0, 1) := by decide +kernel
theorem dX11_isCrew_7 : decode cX11_isCrew 7 = .ok (.istore 5, 2) := by decide +kernel
theorem dX11_isCrew_9 : decode cX11_isCrew 9 = .ok (.iload 5, 2) := by decide +kernel
theorem dX11_isCrew_11 : decode cX11_isCrew 11 = .ok (.bipush 10, 2) := by decide +kernel
theorem dX11_isCrew_13 : decode cX11_isCrew 13 = .ok (.if_icmp .ge 57, 3) := by decide +kernel
theorem dX11_isCrew_16 : decode cX11_isCrew 16 = .ok (.iload_n 1, 1) := by decide +kernel
theorem dX11_isCrew_17 : decode cX11_isCrew 17 = .ok (.iload 5, 2) := by decide +kernel
theorem dX11_isCrew_19 : decode cX11_isCrew 19 = .ok (.invokestatic 325, 3) := by decide +kernel
theorem dX11_isCrew_22 : decode cX11_isCrew 22 = .ok (.ifCond .ne 6, 3) := by decide +kernel
theorem dX11_isCrew_25 : decode cX11_isCrew 25 = .ok (.goto 39, 3) := by decide +kernel
theorem dX11_isCrew_28 : decode cX11_isCrew 28 = .ok (.aload_n 0, 1) := by decide +kernel
theorem dX11_isCrew_29 : decode cX11_isCrew 29 = .ok (.getfield 77, 3) := by decide +kernel
theorem dX11_isCrew_32 : decode cX11_isCrew 32 = .ok (.iload 5, 2) := by decide +kernel
theorem dX11_isCrew_34 : decode cX11_isCrew 34 = .ok (.iaload, 1) := by decide +kernel
theorem dX11_isCrew_35 : decode cX11_isCrew 35 = .ok (.ifCond .ne 5, 3) := by decide +kernel
theorem dX11_isCrew_38 : decode cX11_isCrew 38 = .ok (.iconst 0, 1) := by decide +kernel
theorem dX11_isCrew_39 : decode cX11_isCrew 39 = .ok (.ireturn, 1) := by decide +kernel
theorem dX11_isCrew_40 : decode cX11_isCrew 40 = .ok (.iload_n 3, 1) := by decide +kernel
theorem dX11_isCrew_41 : decode cX11_isCrew 41 = .ok (.aload_n 0, 1) := by decide +kernel
theorem dX11_isCrew_42 : decode cX11_isCrew 42 = .ok (.getfield 77, 3) := by decide +kernel
theorem dX11_isCrew_45 : decode cX11_isCrew 45 = .ok (.iload 5, 2) := by decide +kernel
theorem dX11_isCrew_47 : decode cX11_isCrew 47 = .ok (.iaload, 1) := by decide +kernel
theorem dX11_isCrew_48 : decode cX11_isCrew 48 = .ok (.iadd, 1) := by decide +kernel
theorem dX11_isCrew_49 : decode cX11_isCrew 49 = .ok (.istore_n 3, 1) := by decide +kernel
theorem dX11_isCrew_50 : decode cX11_isCrew 50 = .ok (.iload 4, 2) := by decide +kernel
theorem dX11_isCrew_52 : decode cX11_isCrew 52 = .ok (.aload_n 0, 1) := by decide +kernel
theorem dX11_isCrew_53 : decode cX11_isCrew 53 = .ok (.getfield 77, 3) := by decide +kernel
theorem dX11_isCrew_56 : decode cX11_isCrew 56 = .ok (.iload 5, 2) := by decide +kernel
theorem dX11_isCrew_58 : decode cX11_isCrew 58 = .ok (.iaload, 1) := by decide +kernel
theorem dX11_isCrew_59 : decode cX11_isCrew 59 = .ok (.invokestatic 337, 3) := by decide +kernel
theorem dX11_isCrew_62 : decode cX11_isCrew 62 = .ok (.istore 4, 2) := by decide +kernel
theorem dX11_isCrew_64 : decode cX11_isCrew 64 = .ok (.iinc 5 1, 3) := by decide +kernel
theorem dX11_isCrew_67 : decode cX11_isCrew 67 = .ok (.goto (-58), 3) := by decide +kernel
theorem dX11_isCrew_70 : decode cX11_isCrew 70 = .ok (.iload_n 3, 1) := by decide +kernel
theorem dX11_isCrew_71 : decode cX11_isCrew 71 = .ok (.iload_n 2, 1) := by decide +kernel
theorem dX11_isCrew_72 : decode cX11_isCrew 72 = .ok (.if_icmp .lt 15, 3) := by decide +kernel
theorem dX11_isCrew_75 : decode cX11_isCrew 75 = .ok (.iload_n 3, 1) := by decide +kernel
theorem dX11_isCrew_76 : decode cX11_isCrew 76 = .ok (.iload 4, 2) := by decide +kernel
theorem dX11_isCrew_78 : decode cX11_isCrew 78 = .ok (.isub, 1) := by decide +kernel
theorem dX11_isCrew_79 : decode cX11_isCrew 79 = .ok (.iload_n 2, 1) := by decide +kernel
theorem dX11_isCrew_80 : decode cX11_isCrew 80 = .ok (.if_icmp .ge 7, 3) := by decide +kernel
theorem dX11_isCrew_83 : decode cX11_isCrew 83 = .ok (.iconst 1, 1) := by decide +kernel
theorem dX11_isCrew_84 : decode cX11_isCrew 84 = .ok (.goto 4, 3) := by decide +kernel
theorem dX11_isCrew_87 : decode cX11_isCrew 87 = .ok (.iconst 0, 1) := by decide +kernel
theorem dX11_isCrew_88 : decode cX11_isCrew 88 = .ok (.ireturn, 1) := by decide +kernel
def B_X11_isCrew_64 (Q : Int → st_S → Prop)  (k9 : Int → Int → Int → Int → Int → st_S → Prop) (l1 : Int) (l2 : Int) (l3 : Int) (l4 : Int) (l5 : Int) (σ : st_S) : Prop := ∀ x17 : Int, x17 = wr (l5 + 1) → k9 l1 l2 l3 l4 x17 σ
def B_X11_isCrew_88 (Q : Int → st_S → Prop)   (v0 : Int) (σ : st_S) : Prop := (v0 = 0 ∨ v0 = 1) ∧ Q v0 σ
def B_X11_isCrew_87 (Q : Int → st_S → Prop)    (σ : st_S) : Prop := B_X11_isCrew_88 Q 0 σ
def L_X11_isCrew_9 (Q : Int → st_S → Prop)   : Nat → Int → Int → Int → Int → Int → st_S → Prop
  | 0 => fun _ _ _ _ _ _ => False
  | n + 1 => fun l1 l2 l3 l4 l5 σ => (10 ≤ l5 → (l3 < l2 → B_X11_isCrew_87 Q σ) ∧ (¬ l3 < l2 → (l2 ≤ wr (l3 - l4) → B_X11_isCrew_87 Q σ) ∧ (¬ l2 ≤ wr (l3 - l4) → B_X11_isCrew_88 Q 1 σ))) ∧ (¬ 10 ≤ l5 → wp_X11_isIn l1 l5 σ (fun r20 s21 => (¬ r20 = 0 → ix l5 10 ∧ (¬ gI s21 18 (Int.toNat l5) = 0 → ix l5 10 ∧ ∀ x26 : Int, x26 = wr (l3 + gI s21 18 (Int.toNat l5)) → ix l5 10 ∧ wp_X11_lesser l4 (gI s21 18 (Int.toNat l5)) s21 (fun r29 s30 => B_X11_isCrew_64 Q (L_X11_isCrew_9 Q n) l1 l2 x26 r29 l5 s30)) ∧ (gI s21 18 (Int.toNat l5) = 0 → Q 0 s21)) ∧ (r20 = 0 → B_X11_isCrew_64 Q (L_X11_isCrew_9 Q n) l1 l2 l3 l4 l5 s21)))
def wp_X11_isCrew (a1 : Int) (a2 : Int) (σ : st_S) (Q : Int → st_S → Prop) : Prop := ∃ m9 : Nat, L_X11_isCrew_9 Q m9 a1 a2 0 1000000 0 σ
set_option maxRecDepth 20000 in
theorem jb_X11_isCrew_64 {X : jj_X} {E : ev_E} {n0 hN : Nat} (hc : Cx X E cX11_isCrew 6 n0 hN RX11) (hm : eM E = 2) (hr : (xT X).sig.returnType = (some .boolean)) (hh : 2 ≤ hN) {Q : Int → st_S → Prop} {k9 : Int → Int → Int → Int → Int → st_S → Prop} (hk9 : ∀ {l1 : Int} {l2 : Int} {l3 : Int} {l4 : Int} {l5 : Int} (cl1 : wr l1 = l1) (cl2 : wr l2 = l2) (cl3 : wr l3 = l3) (cl4 : wr l4 = l4) (cl5 : wr l5 = l5) {σ : st_S}, k9 l1 l2 l3 l4 l5 σ → J X E 6 n0 0 0 (MQ (xB X) (qI E (n0 + 0) Q) (xA X) (xS X) 0 0 (eF E)) σ 9 [(0, vR E 0), (1, vI l1), (2, vI l2), (3, vI l3), (4, vI l4), (5, vI l5)] []) {l1 : Int} {l2 : Int} {l3 : Int} {l4 : Int} {l5 : Int} (cl1 : wr l1 = l1) (cl2 : wr l2 = l2) (cl3 : wr l3 = l3) (cl4 : wr l4 = l4) (cl5 : wr l5 = l5) {σ : st_S} (h : B_X11_isCrew_64 Q k9 l1 l2 l3 l4 l5 σ) : J X E 6 n0 0 0 (MQ (xB X) (qI E (n0 + 0) Q) (xA X) (xS X) 0 0 (eF E)) σ 64 [(0, vR E 0), (1, vI l1), (2, vI l2), (3, vI l3), (4, vI l4), (5, vI l5)] [] := by
  have hh1 : 1 ≤ hN := by omega
  replace h : ∀ x17 : Int, x17 = wr (l5 + 1) → k9 l1 l2 l3 l4 x17 σ := h
  obtain ⟨x17, ex17⟩ : ∃ y : Int, y = wr (l5 + 1) := ⟨_, rfl⟩
  have cx17 : wr x17 = x17 := by rw [ex17]; exact wr_wr _
  replace h := h x17 ex17
  refine j_iinc (lv' := [(5, vI x17), (0, vR E 0), (1, vI l1), (2, vI l2), (3, vI l3), (4, vI l4)]) hc 5 dX11_isCrew_64 rfl (by decide) ex17 rfl ?_
  refine j_goto (tgt := 9) hc dX11_isCrew_67 (by decide) ?_
  refine j_sub (lv' := [(0, vR E 0), (1, vI l1), (2, vI l2), (3, vI l3), (4, vI l4), (5, vI x17)]) [1, 2, 3, 4, 5, 0] rfl ?_
  exact hk9 cl1 cl2 cl3 cl4 cx17 h
set_option maxRecDepth 20000 in
theorem jb_X11_isCrew_88 {X : jj_X} {E : ev_E} {n0 hN : Nat} (hc : Cx X E cX11_isCrew 6 n0 hN RX11) (hm : eM E = 2) (hr : (xT X).sig.returnType = (some .boolean)) (hh : 2 ≤ hN) {Q : Int → st_S → Prop} {v0 : Int} (cv0 : wr v0 = v0) {σ : st_S} (h : B_X11_isCrew_88 Q v0 σ) : J X E 6 n0 0 0 (MQ (xB X) (qI E (n0 + 0) Q) (xA X) (xS X) 0 0 (eF E)) σ 88 [] [vI v0] := by
  have hh1 : 1 ≤ hN := by omega
  replace h : (v0 = 0 ∨ v0 = 1) ∧ Q v0 σ := h
  exact j_zret hc hr (nar_bool h.1) (by rcases h.1 with e | e <;> (rw [e]; decide)) h.2 dX11_isCrew_88
set_option maxRecDepth 20000 in
theorem jb_X11_isCrew_87 {X : jj_X} {E : ev_E} {n0 hN : Nat} (hc : Cx X E cX11_isCrew 6 n0 hN RX11) (hm : eM E = 2) (hr : (xT X).sig.returnType = (some .boolean)) (hh : 2 ≤ hN) {Q : Int → st_S → Prop} {σ : st_S} (h : B_X11_isCrew_87 Q σ) : J X E 6 n0 0 0 (MQ (xB X) (qI E (n0 + 0) Q) (xA X) (xS X) 0 0 (eF E)) σ 87 [] [] := by
  have hh1 : 1 ≤ hN := by omega
  replace h : B_X11_isCrew_88 Q 0 σ := h
  refine j_iconst hc dX11_isCrew_87 ?_
  refine j_sub (lv' := []) [] rfl ?_
  exact jb_X11_isCrew_88 hc hm hr hh (wlit 0 (by decide)) h
set_option maxRecDepth 20000 in
theorem jl_X11_isCrew_9 {X : jj_X} {E : ev_E} {n0 hN : Nat} (hc : Cx X E cX11_isCrew 6 n0 hN RX11) (hm : eM E = 2) (hr : (xT X).sig.returnType = (some .boolean)) (hh : 2 ≤ hN) {Q : Int → st_S → Prop} : ∀ (n : Nat) {l1 : Int} {l2 : Int} {l3 : Int} {l4 : Int} {l5 : Int} (cl1 : wr l1 = l1) (cl2 : wr l2 = l2) (cl3 : wr l3 = l3) (cl4 : wr l4 = l4) (cl5 : wr l5 = l5) {σ : st_S}, L_X11_isCrew_9 Q n l1 l2 l3 l4 l5 σ → J X E 6 n0 0 0 (MQ (xB X) (qI E (n0 + 0) Q) (xA X) (xS X) 0 0 (eF E)) σ 9 [(0, vR E 0), (1, vI l1), (2, vI l2), (3, vI l3), (4, vI l4), (5, vI l5)] [] := by
  have hh1 : 1 ≤ hN := by omega
  intro n
  induction n with
  | zero => intro l1 l2 l3 l4 l5 cl1 cl2 cl3 cl4 cl5 σ h; exact h.elim
  | succ n ih =>
    intro l1 l2 l3 l4 l5 cl1 cl2 cl3 cl4 cl5 σ h
    have hk9 : ∀ {l1 : Int} {l2 : Int} {l3 : Int} {l4 : Int} {l5 : Int} (cl1 : wr l1 = l1) (cl2 : wr l2 = l2) (cl3 : wr l3 = l3) (cl4 : wr l4 = l4) (cl5 : wr l5 = l5) {σ : st_S}, L_X11_isCrew_9 Q n l1 l2 l3 l4 l5 σ → J X E 6 n0 0 0 (MQ (xB X) (qI E (n0 + 0) Q) (xA X) (xS X) 0 0 (eF E)) σ 9 [(0, vR E 0), (1, vI l1), (2, vI l2), (3, vI l3), (4, vI l4), (5, vI l5)] [] := ih
    replace h : (10 ≤ l5 → (l3 < l2 → B_X11_isCrew_87 Q σ) ∧ (¬ l3 < l2 → (l2 ≤ wr (l3 - l4) → B_X11_isCrew_87 Q σ) ∧ (¬ l2 ≤ wr (l3 - l4) → B_X11_isCrew_88 Q 1 σ))) ∧ (¬ 10 ≤ l5 → wp_X11_isIn l1 l5 σ (fun r20 s21 => (¬ r20 = 0 → ix l5 10 ∧ (¬ gI s21 18 (Int.toNat l5) = 0 → ix l5 10 ∧ ∀ x26 : Int, x26 = wr (l3 + gI s21 18 (Int.toNat l5)) → ix l5 10 ∧ wp_X11_lesser l4 (gI s21 18 (Int.toNat l5)) s21 (fun r29 s30 => B_X11_isCrew_64 Q (L_X11_isCrew_9 Q n) l1 l2 x26 r29 l5 s30)) ∧ (gI s21 18 (Int.toNat l5) = 0 → Q 0 s21)) ∧ (r20 = 0 → B_X11_isCrew_64 Q (L_X11_isCrew_9 Q n) l1 l2 l3 l4 l5 s21))) := h
    refine j_iload hc 5 dX11_isCrew_9 rfl ?_
    refine j_bipush hc dX11_isCrew_11 (by decide) ?_
    refine j_ic_ge hc cl5 (wlit 10 (by decide)) (tgt := 70) dX11_isCrew_13 (by decide) (fun q33 => ?_) (fun q33 => ?_)
    · replace h := h.1 q33
      refine j_iload_n hc 3 dX11_isCrew_70 rfl rfl ?_
      refine j_iload_n hc 2 dX11_isCrew_71 rfl rfl ?_
      refine j_ic_lt hc cl3 cl2 (tgt := 87) dX11_isCrew_72 (by decide) (fun q19 => ?_) (fun q19 => ?_)
      · replace h := h.1 q19
        refine j_sub (lv' := []) [] rfl ?_
        exact jb_X11_isCrew_87 hc hm hr hh h
      · replace h := h.2 q19
        refine j_iload_n hc 3 dX11_isCrew_75 rfl rfl ?_
        refine j_iload hc 4 dX11_isCrew_76 rfl ?_
        refine j_isub hc dX11_isCrew_78 ?_
        refine j_iload_n hc 2 dX11_isCrew_79 rfl rfl ?_
        refine j_ic_ge hc rfl cl2 (tgt := 87) dX11_isCrew_80 (by decide) (fun q18 => ?_) (fun q18 => ?_)
        · replace h := h.1 q18
          refine j_sub (lv' := []) [] rfl ?_
          exact jb_X11_isCrew_87 hc hm hr hh h
        · replace h := h.2 q18
          refine j_iconst hc dX11_isCrew_83 ?_
          refine j_goto (tgt := 88) hc dX11_isCrew_84 (by decide) ?_
          refine j_sub (lv' := []) [] rfl ?_
          exact jb_X11_isCrew_88 hc hm hr hh (wlit 1 (by decide)) h
    · replace h := h.2 q33
      refine j_iload_n hc 1 dX11_isCrew_16 rfl rfl ?_
      refine j_iload hc 5 dX11_isCrew_17 rfl ?_
      refine j_sI hc ml_RX11_325 mv_X11_isIn (As := [vI l1, vI l5]) (c_X11_isIn (cx_E hc) hm cl1 cl5 h) rfl (by omega) (by decide) ⟨Nat.zero_le _, Nat.zero_le _⟩ (Nat.le_of_ble_eq_true rfl) rfl dX11_isCrew_19 (fun r20 s21 cr20 h => ?_)
      refine j_if_ne hc cr20 (tgt := 28) dX11_isCrew_22 (by decide) (fun q32 => ?_) (fun q32 => ?_)
      · replace h := h.1 q32
        refine j_aload_nR hc 0 dX11_isCrew_28 rfl rfl ?_
        refine j_getR (c' := 18) hc fl_RX11_77 rfl rfl (fun hv => (sv_k hv hm rfl)) dX11_isCrew_29 ?_
        refine j_iload hc 5 dX11_isCrew_32 rfl ?_
        obtain ⟨b22, h⟩ := h
        refine j_iald (jn := (Int.toNat l5)) hc (fun hv => sv_kl hv hm rfl) cl5 b22 rfl dX11_isCrew_34 (fun cn23 => ?_)
        refine j_if_ne hc cn23 (tgt := 40) dX11_isCrew_35 (by decide) (fun q31 => ?_) (fun q31 => ?_)
        · replace h := h.1 q31
          refine j_iload_n hc 3 dX11_isCrew_40 rfl rfl ?_
          refine j_aload_nR hc 0 dX11_isCrew_41 rfl rfl ?_
          refine j_getR (c' := 18) hc fl_RX11_77 rfl rfl (fun hv => (sv_k hv hm rfl)) dX11_isCrew_42 ?_
          refine j_iload hc 5 dX11_isCrew_45 rfl ?_
          obtain ⟨b24, h⟩ := h
          refine j_iald (jn := (Int.toNat l5)) hc (fun hv => sv_kl hv hm rfl) cl5 b24 rfl dX11_isCrew_47 (fun cn25 => ?_)
          refine j_iadd hc dX11_isCrew_48 ?_
          refine j_w (fun x26 ex26 cx26 => ?_)
          replace h := h x26 ex26
          refine j_istore_n (lv' := [(3, vI x26), (0, vR E 0), (1, vI l1), (2, vI l2), (4, vI l4), (5, vI l5)]) hc dX11_isCrew_49 rfl (by decide) rfl ?_
          refine j_iload hc 4 dX11_isCrew_50 rfl ?_
          refine j_aload_nR hc 1 dX11_isCrew_52 rfl rfl ?_
          refine j_getR (c' := 18) hc fl_RX11_77 rfl rfl (fun hv => (sv_k hv hm rfl)) dX11_isCrew_53 ?_
          refine j_iload hc 5 dX11_isCrew_56 rfl ?_
          obtain ⟨b27, h⟩ := h
          refine j_iald (jn := (Int.toNat l5)) hc (fun hv => sv_kl hv hm rfl) cl5 b27 rfl dX11_isCrew_58 (fun cn28 => ?_)
          refine j_sI hc ml_RX11_337 mv_X11_lesser (As := [vI l4, vI (gI s21 18 (Int.toNat l5))]) (c_X11_lesser (cx_E hc) hm cl4 cn28 h) rfl (by omega) (by decide) ⟨Nat.zero_le _, Nat.zero_le _⟩ (Nat.le_of_ble_eq_true rfl) rfl dX11_isCrew_59 (fun r29 s30 cr29 h => ?_)
          refine j_istore (lv' := [(4, vI r29), (3, vI x26), (0, vR E 0), (1, vI l1), (2, vI l2), (5, vI l5)]) hc dX11_isCrew_62 (by decide) rfl ?_
          refine j_sub (lv' := [(0, vR E 0), (1, vI l1), (2, vI l2), (3, vI x26), (4, vI r29), (5, vI l5)]) [2, 3, 4, 1, 0, 5] rfl ?_
          exact jb_X11_isCrew_64 hc hm hr hh hk9 cl1 cl2 cx26 cr29 cl5 h
        · replace h := h.2 q31
          refine j_iconst hc dX11_isCrew_38 ?_
          exact j_zret hc hr (nar_bool (Or.inl rfl)) (by decide) h dX11_isCrew_39
      · replace h := h.2 q32
        refine j_goto (tgt := 64) hc dX11_isCrew_25 (by decide) ?_
        refine j_sub (lv' := [(0, vR E 0), (1, vI l1), (2, vI l2), (3, vI l3), (4, vI l4), (5, vI l5)]) [0, 1, 2, 3, 4, 5] rfl ?_
        exact jb_X11_isCrew_64 hc hm hr hh hk9 cl1 cl2 cl3 cl4 cl5 h
set_option maxRecDepth 20000 in
theorem c_X11_isCrew {l : Launch} {E : ev_E} (hE : Eok E) (hm : eM E = 2) {a1 : Int} {a2 : Int} (ca1 : wr a1 = a1) (ca2 : wr a2 = a2) {σ : st_S} {Q : Int → st_S → Prop} (h : wp_X11_isCrew a1 a2 σ Q) : cM l yX11_isCrew cX11_isCrew 6 (some .boolean) E 2 0 0 [vR E 0, vI a1, vI a2] σ (qI E (gN σ + 0) Q) := by
  refine cM_of (lv := [(0, vR E 0), (1, vI a1), (2, vI a2)]) (by decide) hE (Nat.le_of_ble_eq_true rfl) (rfl) ?_
  intro X hX hc _ _ hr _ _
  subst hX
  have hh : 2 ≤ 2 := Nat.le_refl _
  have hh1 : 1 ≤ 2 := by omega
  replace h : ∃ m9 : Nat, L_X11_isCrew_9 Q m9 a1 a2 0 1000000 0 σ := h
  refine j_iconst hc dX11_isCrew_0 ?_
  refine j_istore_n (lv' := [(3, vI 0), (0, vR E 0), (1, vI a1), (2, vI a2)]) hc dX11_isCrew_1 rfl (by decide) rfl ?_
  refine j_ldc (x := 1000000) hc (by decide) kc_RX11_160 dX11_isCrew_2 ?_
  refine j_istore (lv' := [(4, vI 1000000), (3, vI 0), (0, vR E 0), (1, vI a1), (2, vI a2)]) hc dX11_isCrew_4 (by decide) rfl ?_
  refine j_iconst hc dX11_isCrew_6 ?_
  refine j_istore (lv' := [(5, vI 0), (4, vI 1000000), (3, vI 0), (0, vR E 0), (1, vI a1), (2, vI a2)]) hc dX11_isCrew_7 (by decide) rfl ?_
  obtain ⟨n9, h⟩ := h
  refine j_sub (lv' := [(0, vR E 0), (1, vI a1), (2, vI a2), (3, vI 0), (4, vI 1000000), (5, vI 0)]) [3, 4, 5, 2, 1, 0] rfl ?_
  exact jl_X11_isCrew_9 hc hm hr hh n9 ca1 ca2 (wlit 0 (by decide)) (wlit 1000000 (by decide)) (wlit 0 (by decide)) h
-- LitStrangersModel.crewBehind(II)I
theorem dX11_crewBehind_0 : decode cX11_crewBehind 0 = .ok (.iconst 0, 1) := by decide +kernel
theorem dX11_crewBehind_1 : decode cX11_crewBehind 1 = .ok (.istore_n 3, 1) := by decide +kernel
theorem dX11_crewBehind_2 : decode cX11_crewBehind 2 = .ok (.iconst 0, 1) := by decide +kernel
theorem dX11_crewBehind_3 : decode cX11_crewBehind 3 = .ok (.istore 4, 2) := by decide +kernel
theorem dX11_crewBehind_5 : decode cX11_crewBehind 5 = .ok (.iload 4, 2) := by decide +kernel
theorem dX11_crewBehind_7 : decode cX11_crewBehind 7 = .ok (.bipush 10, 2) := by decide +kernel
theorem dX11_crewBehind_9 : decode cX11_crewBehind 9 = .ok (.if_icmp .ge 30, 3) := by decide +kernel
theorem dX11_crewBehind_12 : decode cX11_crewBehind 12 = .ok (.iload_n 3, 1) := by decide +kernel
theorem dX11_crewBehind_13 : decode cX11_crewBehind 13 = .ok (.aload_n 0, 1) := by decide +kernel
theorem dX11_crewBehind_14 : decode cX11_crewBehind 14 = .ok (.getfield 77, 3) := by decide +kernel
theorem dX11_crewBehind_17 : decode cX11_crewBehind 17 = .ok (.iload 4, 2) := by decide +kernel
theorem dX11_crewBehind_19 : decode cX11_crewBehind 19 = .ok (.iaload, 1) := by decide +kernel
theorem dX11_crewBehind_20 : decode cX11_crewBehind 20 = .ok (.ifCond .le 10, 3) := by decide +kernel
theorem dX11_crewBehind_23 : decode cX11_crewBehind 23 = .ok (.iconst 1, 1) := by decide +kernel
theorem dX11_crewBehind_24 : decode cX11_crewBehind 24 = .ok (.iload 4, 2) := by decide +kernel
theorem dX11_crewBehind_26 : decode cX11_crewBehind 26 = .ok (.ishl, 1) := by decide +kernel
theorem dX11_crewBehind_27 : decode cX11_crewBehind 27 = .ok (.goto 4, 3) := by decide +kernel
theorem dX11_crewBehind_30 : decode cX11_crewBehind 30 = .ok (.iconst 0, 1) := by decide +kernel
theorem dX11_crewBehind_31 : decode cX11_crewBehind 31 = .ok (.ior, 1) := by decide +kernel
theorem dX11_crewBehind_32 : decode cX11_crewBehind 32 = .ok (.istore_n 3, 1) := by decide +kernel
theorem dX11_crewBehind_33 : decode cX11_crewBehind 33 = .ok (.iinc 4 1, 3) := by decide +kernel
theorem dX11_crewBehind_36 : decode cX11_crewBehind 36 = .ok (.goto (-31), 3) := by decide +kernel
theorem dX11_crewBehind_39 : decode cX11_crewBehind 39 = .ok (.iload_n 1, 1) := by decide +kernel
theorem dX11_crewBehind_40 : decode cX11_crewBehind 40 = .ok (.iconst 1, 1) := by decide +kernel
theorem dX11_crewBehind_41 : decode cX11_crewBehind 41 = .ok (.iadd, 1) := by decide +kernel
theorem dX11_crewBehind_42 : decode cX11_crewBehind 42 = .ok (.istore 4, 2) := by decide +kernel
theorem dX11_crewBehind_44 : decode cX11_crewBehind 44 = .ok (.iload 4, 2) := by decide +kernel
theorem dX11_crewBehind_46 : decode cX11_crewBehind 46 = .ok (.iload_n 3, 1) := by decide +kernel
theorem dX11_crewBehind_47 : decode cX11_crewBehind 47 = .ok (.if_icmp .gt 31, 3) := by decide +kernel
theorem dX11_crewBehind_50 : decode cX11_crewBehind 50 = .ok (.iload 4, 2) := by decide +kernel
theorem dX11_crewBehind_52 : decode cX11_crewBehind 52 = .ok (.iload_n 3, 1) := by decide +kernel
theorem dX11_crewBehind_53 : decode cX11_crewBehind 53 = .ok (.iconst (-1), 1) := by decide +kernel
theorem dX11_crewBehind_54 : decode cX11_crewBehind 54 = .ok (.ixor, 1) := by decide +kernel
theorem dX11_crewBehind_55 : decode cX11_crewBehind 55 = .ok (.iand, 1) := by decide +kernel
theorem dX11_crewBehind_56 : decode cX11_crewBehind 56 = .ok (.ifCond .ne 16, 3) := by decide +kernel
theorem dX11_crewBehind_59 : decode cX11_crewBehind 59 = .ok (.aload_n 0, 1) := by decide +kernel
theorem dX11_crewBehind_60 : decode cX11_crewBehind 60 = .ok (.iload 4, 2) := by decide +kernel
theorem dX11_crewBehind_62 : decode cX11_crewBehind 62 = .ok (.iload_n 2, 1) := by decide +kernel
theorem dX11_crewBehind_63 : decode cX11_crewBehind 63 = .ok (.invokevirtual 370, 3) := by decide +kernel
theorem dX11_crewBehind_66 : decode cX11_crewBehind 66 = .ok (.ifCond .eq 6, 3) := by decide +kernel
theorem dX11_crewBehind_69 : decode cX11_crewBehind 69 = .ok (.iload 4, 2) := by decide +kernel
theorem dX11_crewBehind_71 : decode cX11_crewBehind 71 = .ok (.ireturn, 1) := by decide +kernel
theorem dX11_crewBehind_72 : decode cX11_crewBehind 72 = .ok (.iinc 4 1, 3) := by decide +kernel
theorem dX11_crewBehind_75 : decode cX11_crewBehind 75 = .ok (.goto (-31), 3) := by decide +kernel
theorem dX11_crewBehind_78 : decode cX11_crewBehind 78 = .ok (.iconst (-1), 1) := by decide +kernel
theorem dX11_crewBehind_79 : decode cX11_crewBehind 79 = .ok (.ireturn, 1) := by decide +kernel
def B_X11_crewBehind_31 (Q : Int → st_S → Prop)  (k5 : Int → Int → Int → Int → st_S → Prop) (l1 : Int) (l2 : Int) (l4 : Int) (v0 : Int) (v1 : Int) (σ : st_S) : Prop := ∀ x11 : Int, x11 = o_or v1 v0 → ∀ x12 : Int, x12 = wr (l4 + 1) → k5 l1 l2 x11 x12 σ
def B_X11_crewBehind_72 (Q : Int → st_S → Prop)  (k44 : Int → Int → Int → st_S → Prop) (l2 : Int) (l3 : Int) (l4 : Int) (σ : st_S) : Prop := ∀ x13 : Int, x13 = wr (l4 + 1) → k44 l2 l3 x13 σ
def L_X11_crewBehind_44 (Q : Int → st_S → Prop)   : Nat → Int → Int → Int → st_S → Prop
  | 0 => fun _ _ _ _ => False
  | n + 1 => fun l2 l3 l4 σ => (l3 < l4 → Q (-1) σ) ∧ (¬ l3 < l4 → (¬ o_and l4 (o_xor l3 (-1)) = 0 → B_X11_crewBehind_72 Q (L_X11_crewBehind_44 Q n) l2 l3 l4 σ) ∧ (o_and l4 (o_xor l3 (-1)) = 0 → wp_X11_isCrew l4 l2 σ (fun r14 s15 => (r14 = 0 → B_X11_crewBehind_72 Q (L_X11_crewBehind_44 Q n) l2 l3 l4 s15) ∧ (¬ r14 = 0 → Q l4 s15))))
def L_X11_crewBehind_5 (Q : Int → st_S → Prop)   : Nat → Int → Int → Int → Int → st_S → Prop
  | 0 => fun _ _ _ _ _ => False
  | n + 1 => fun l1 l2 l3 l4 σ => (10 ≤ l4 → ∀ x19 : Int, x19 = wr (l1 + 1) → ∃ m44 : Nat, L_X11_crewBehind_44 Q m44 l2 l3 x19 σ) ∧ (¬ 10 ≤ l4 → ix l4 10 ∧ (gI σ 18 (Int.toNat l4) ≤ 0 → B_X11_crewBehind_31 Q (L_X11_crewBehind_5 Q n) l1 l2 l4 0 l3 σ) ∧ (¬ gI σ 18 (Int.toNat l4) ≤ 0 → B_X11_crewBehind_31 Q (L_X11_crewBehind_5 Q n) l1 l2 l4 (o_shl 1 l4) l3 σ))
def wp_X11_crewBehind (a1 : Int) (a2 : Int) (σ : st_S) (Q : Int → st_S → Prop) : Prop := ∃ m5 : Nat, L_X11_crewBehind_5 Q m5 a1 a2 0 0 σ
set_option maxRecDepth 20000 in
theorem jb_X11_crewBehind_31 {X : jj_X} {E : ev_E} {n0 hN : Nat} (hc : Cx X E cX11_crewBehind 5 n0 hN RX11) (hm : eM E = 2) (hr : (xT X).sig.returnType = (some .int)) (hh : 3 ≤ hN) {Q : Int → st_S → Prop} {k5 : Int → Int → Int → Int → st_S → Prop} (hk5 : ∀ {l1 : Int} {l2 : Int} {l3 : Int} {l4 : Int} (cl1 : wr l1 = l1) (cl2 : wr l2 = l2) (cl3 : wr l3 = l3) (cl4 : wr l4 = l4) {σ : st_S}, k5 l1 l2 l3 l4 σ → J X E 5 n0 0 0 (MQ (xB X) (qI E (n0 + 0) Q) (xA X) (xS X) 0 0 (eF E)) σ 5 [(0, vR E 0), (1, vI l1), (2, vI l2), (3, vI l3), (4, vI l4)] []) {l1 : Int} {l2 : Int} {l4 : Int} {v0 : Int} {v1 : Int} (cl1 : wr l1 = l1) (cl2 : wr l2 = l2) (cl4 : wr l4 = l4) (cv0 : wr v0 = v0) {σ : st_S} (h : B_X11_crewBehind_31 Q k5 l1 l2 l4 v0 v1 σ) : J X E 5 n0 0 0 (MQ (xB X) (qI E (n0 + 0) Q) (xA X) (xS X) 0 0 (eF E)) σ 31 [(0, vR E 0), (1, vI l1), (2, vI l2), (4, vI l4)] [vI v0, vI v1] := by
  have hh1 : 1 ≤ hN := by omega
  replace h : ∀ x11 : Int, x11 = o_or v1 v0 → ∀ x12 : Int, x12 = wr (l4 + 1) → k5 l1 l2 x11 x12 σ := h
  refine j_ior hc dX11_crewBehind_31 ?_
  refine j_c (cn_or _ _) (fun x11 ex11 cx11 => ?_)
  replace h := h x11 ex11
  refine j_istore_n (lv' := [(3, vI x11), (0, vR E 0), (1, vI l1), (2, vI l2), (4, vI l4)]) hc dX11_crewBehind_32 rfl (by decide) rfl ?_
  obtain ⟨x12, ex12⟩ : ∃ y : Int, y = wr (l4 + 1) := ⟨_, rfl⟩
  have cx12 : wr x12 = x12 := by rw [ex12]; exact wr_wr _
  replace h := h x12 ex12
  refine j_iinc (lv' := [(4, vI x12), (3, vI x11), (0, vR E 0), (1, vI l1), (2, vI l2)]) hc 4 dX11_crewBehind_33 rfl (by decide) ex12 rfl ?_
  refine j_goto (tgt := 5) hc dX11_crewBehind_36 (by decide) ?_
  refine j_sub (lv' := [(0, vR E 0), (1, vI l1), (2, vI l2), (3, vI x11), (4, vI x12)]) [2, 3, 4, 1, 0] rfl ?_
  exact hk5 cl1 cl2 cx11 cx12 h
set_option maxRecDepth 20000 in
theorem jb_X11_crewBehind_72 {X : jj_X} {E : ev_E} {n0 hN : Nat} (hc : Cx X E cX11_crewBehind 5 n0 hN RX11) (hm : eM E = 2) (hr : (xT X).sig.returnType = (some .int)) (hh : 3 ≤ hN) {Q : Int → st_S → Prop} {k44 : Int → Int → Int → st_S → Prop} (hk44 : ∀ {l2 : Int} {l3 : Int} {l4 : Int} (cl2 : wr l2 = l2) (cl3 : wr l3 = l3) (cl4 : wr l4 = l4) {σ : st_S}, k44 l2 l3 l4 σ → J X E 5 n0 0 0 (MQ (xB X) (qI E (n0 + 0) Q) (xA X) (xS X) 0 0 (eF E)) σ 44 [(0, vR E 0), (2, vI l2), (3, vI l3), (4, vI l4)] []) {l2 : Int} {l3 : Int} {l4 : Int} (cl2 : wr l2 = l2) (cl3 : wr l3 = l3) (cl4 : wr l4 = l4) {σ : st_S} (h : B_X11_crewBehind_72 Q k44 l2 l3 l4 σ) : J X E 5 n0 0 0 (MQ (xB X) (qI E (n0 + 0) Q) (xA X) (xS X) 0 0 (eF E)) σ 72 [(0, vR E 0), (2, vI l2), (3, vI l3), (4, vI l4)] [] := by
  have hh1 : 1 ≤ hN := by omega
  replace h : ∀ x13 : Int, x13 = wr (l4 + 1) → k44 l2 l3 x13 σ := h
  obtain ⟨x13, ex13⟩ : ∃ y : Int, y = wr (l4 + 1) := ⟨_, rfl⟩
  have cx13 : wr x13 = x13 := by rw [ex13]; exact wr_wr _
  replace h := h x13 ex13
  refine j_iinc (lv' := [(4, vI x13), (0, vR E 0), (2, vI l2), (3, vI l3)]) hc 3 dX11_crewBehind_72 rfl (by decide) ex13 rfl ?_
  refine j_goto (tgt := 44) hc dX11_crewBehind_75 (by decide) ?_
  refine j_sub (lv' := [(0, vR E 0), (2, vI l2), (3, vI l3), (4, vI x13)]) [1, 2, 3, 0] rfl ?_
  exact hk44 cl2 cl3 cx13 h
set_option maxRecDepth 20000 in
theorem jl_X11_crewBehind_44 {X : jj_X} {E : ev_E} {n0 hN : Nat} (hc : Cx X E cX11_crewBehind 5 n0 hN RX11) (hm : eM E = 2) (hr : (xT X).sig.returnType = (some .int)) (hh : 3 ≤ hN) {Q : Int → st_S → Prop} : ∀ (n : Nat) {l2 : Int} {l3 : Int} {l4 : Int} (cl2 : wr l2 = l2) (cl3 : wr l3 = l3) (cl4 : wr l4 = l4) {σ : st_S}, L_X11_crewBehind_44 Q n l2 l3 l4 σ → J X E 5 n0 0 0 (MQ (xB X) (qI E (n0 + 0) Q) (xA X) (xS X) 0 0 (eF E)) σ 44 [(0, vR E 0), (2, vI l2), (3, vI l3), (4, vI l4)] [] := by
  have hh1 : 1 ≤ hN := by omega
  intro n
  induction n with
  | zero => intro l2 l3 l4 cl2 cl3 cl4 σ h; exact h.elim
  | succ n ih =>
    intro l2 l3 l4 cl2 cl3 cl4 σ h
    have hk44 : ∀ {l2 : Int} {l3 : Int} {l4 : Int} (cl2 : wr l2 = l2) (cl3 : wr l3 = l3) (cl4 : wr l4 = l4) {σ : st_S}, L_X11_crewBehind_44 Q n l2 l3 l4 σ → J X E 5 n0 0 0 (MQ (xB X) (qI E (n0 + 0) Q) (xA X) (xS X) 0 0 (eF E)) σ 44 [(0, vR E 0), (2, vI l2), (3, vI l3), (4, vI l4)] [] := ih
    replace h : (l3 < l4 → Q (-1) σ) ∧ (¬ l3 < l4 → (¬ o_and l4 (o_xor l3 (-1)) = 0 → B_X11_crewBehind_72 Q (L_X11_crewBehind_44 Q n) l2 l3 l4 σ) ∧ (o_and l4 (o_xor l3 (-1)) = 0 → wp_X11_isCrew l4 l2 σ (fun r14 s15 => (r14 = 0 → B_X11_crewBehind_72 Q (L_X11_crewBehind_44 Q n) l2 l3 l4 s15) ∧ (¬ r14 = 0 → Q l4 s15)))) := h
    refine j_iload hc 3 dX11_crewBehind_44 rfl ?_
    refine j_iload_n hc 2 dX11_crewBehind_46 rfl rfl ?_
    refine j_ic_gt hc cl4 cl3 (tgt := 78) dX11_crewBehind_47 (by decide) (fun q18 => ?_) (fun q18 => ?_)
    · replace h := h.1 q18
      refine j_iconst hc dX11_crewBehind_78 ?_
      exact j_iret hc hr (wlit (-1) (by decide)) h dX11_crewBehind_79
    · replace h := h.2 q18
      refine j_iload hc 3 dX11_crewBehind_50 rfl ?_
      refine j_iload_n hc 2 dX11_crewBehind_52 rfl rfl ?_
      refine j_iconst hc dX11_crewBehind_53 ?_
      refine j_ixor hc dX11_crewBehind_54 ?_
      refine j_iand hc dX11_crewBehind_55 ?_
      refine j_if_ne hc (cn_and _ _) (tgt := 72) dX11_crewBehind_56 (by decide) (fun q17 => ?_) (fun q17 => ?_)
      · replace h := h.1 q17
        refine j_sub (lv' := [(0, vR E 0), (2, vI l2), (3, vI l3), (4, vI l4)]) [0, 1, 2, 3] rfl ?_
        exact jb_X11_crewBehind_72 hc hm hr hh hk44 cl2 cl3 cl4 h
      · replace h := h.2 q17
        refine j_aload_nR hc 0 dX11_crewBehind_59 rfl rfl ?_
        refine j_iload hc 3 dX11_crewBehind_60 rfl ?_
        refine j_iload_n hc 1 dX11_crewBehind_62 rfl rfl ?_
        refine j_vI hc (k := 11) (by decide) (fun hv => Or.inl (sv_k hv hm rfl)) ml_RX11_370 mv_X11_isCrew (As := [vI l4, vI l2]) (c_X11_isCrew (cx_E hc) hm cl4 cl2 h) rfl (by omega) (by decide) ⟨Nat.zero_le _, Nat.zero_le _⟩ (Nat.le_of_ble_eq_true rfl) rfl dX11_crewBehind_63 (fun r14 s15 cr14 h => ?_)
        refine j_if_eq hc cr14 (tgt := 72) dX11_crewBehind_66 (by decide) (fun q16 => ?_) (fun q16 => ?_)
        · replace h := h.1 q16
          refine j_sub (lv' := [(0, vR E 0), (2, vI l2), (3, vI l3), (4, vI l4)]) [0, 1, 2, 3] rfl ?_
          exact jb_X11_crewBehind_72 hc hm hr hh hk44 cl2 cl3 cl4 h
        · replace h := h.2 q16
          refine j_iload hc 3 dX11_crewBehind_69 rfl ?_
          exact j_iret hc hr cl4 h dX11_crewBehind_71
set_option maxRecDepth 20000 in
theorem jl_X11_crewBehind_5 {X : jj_X} {E : ev_E} {n0 hN : Nat} (hc : Cx X E cX11_crewBehind 5 n0 hN RX11) (hm : eM E = 2) (hr : (xT X).sig.returnType = (some .int)) (hh : 3 ≤ hN) {Q : Int → st_S → Prop} : ∀ (n : Nat) {l1 : Int} {l2 : Int} {l3 : Int} {l4 : Int} (cl1 : wr l1 = l1) (cl2 : wr l2 = l2) (cl3 : wr l3 = l3) (cl4 : wr l4 = l4) {σ : st_S}, L_X11_crewBehind_5 Q n l1 l2 l3 l4 σ → J X E 5 n0 0 0 (MQ (xB X) (qI E (n0 + 0) Q) (xA X) (xS X) 0 0 (eF E)) σ 5 [(0, vR E 0), (1, vI l1), (2, vI l2), (3, vI l3), (4, vI l4)] [] := by
  have hh1 : 1 ≤ hN := by omega
  intro n
  induction n with
  | zero => intro l1 l2 l3 l4 cl1 cl2 cl3 cl4 σ h; exact h.elim
  | succ n ih =>
    intro l1 l2 l3 l4 cl1 cl2 cl3 cl4 σ h
    have hk5 : ∀ {l1 : Int} {l2 : Int} {l3 : Int} {l4 : Int} (cl1 : wr l1 = l1) (cl2 : wr l2 = l2) (cl3 : wr l3 = l3) (cl4 : wr l4 = l4) {σ : st_S}, L_X11_crewBehind_5 Q n l1 l2 l3 l4 σ → J X E 5 n0 0 0 (MQ (xB X) (qI E (n0 + 0) Q) (xA X) (xS X) 0 0 (eF E)) σ 5 [(0, vR E 0), (1, vI l1), (2, vI l2), (3, vI l3), (4, vI l4)] [] := ih
    replace h : (10 ≤ l4 → ∀ x19 : Int, x19 = wr (l1 + 1) → ∃ m44 : Nat, L_X11_crewBehind_44 Q m44 l2 l3 x19 σ) ∧ (¬ 10 ≤ l4 → ix l4 10 ∧ (gI σ 18 (Int.toNat l4) ≤ 0 → B_X11_crewBehind_31 Q (L_X11_crewBehind_5 Q n) l1 l2 l4 0 l3 σ) ∧ (¬ gI σ 18 (Int.toNat l4) ≤ 0 → B_X11_crewBehind_31 Q (L_X11_crewBehind_5 Q n) l1 l2 l4 (o_shl 1 l4) l3 σ)) := h
    refine j_iload hc 4 dX11_crewBehind_5 rfl ?_
    refine j_bipush hc dX11_crewBehind_7 (by decide) ?_
    refine j_ic_ge hc cl4 (wlit 10 (by decide)) (tgt := 39) dX11_crewBehind_9 (by decide) (fun q23 => ?_) (fun q23 => ?_)
    · replace h := h.1 q23
      refine j_iload_n hc 1 dX11_crewBehind_39 rfl rfl ?_
      refine j_iconst hc dX11_crewBehind_40 ?_
      refine j_iadd hc dX11_crewBehind_41 ?_
      refine j_w (fun x19 ex19 cx19 => ?_)
      replace h := h x19 ex19
      refine j_istore (lv' := [(4, vI x19), (0, vR E 0), (1, vI l1), (2, vI l2), (3, vI l3)]) hc dX11_crewBehind_42 (by decide) rfl ?_
      obtain ⟨n44, h⟩ := h
      refine j_sub (lv' := [(0, vR E 0), (2, vI l2), (3, vI l3), (4, vI x19)]) [1, 3, 4, 0] rfl ?_
      exact jl_X11_crewBehind_44 hc hm hr hh n44 cl2 cl3 cx19 h
    · replace h := h.2 q23
      refine j_iload_n hc 3 dX11_crewBehind_12 rfl rfl ?_
      refine j_aload_nR hc 0 dX11_crewBehind_13 rfl rfl ?_
      refine j_getR (c' := 18) hc fl_RX11_77 rfl rfl (fun hv => (sv_k hv hm rfl)) dX11_crewBehind_14 ?_
      refine j_iload hc 4 dX11_crewBehind_17 rfl ?_
      obtain ⟨b20, h⟩ := h
      refine j_iald (jn := (Int.toNat l4)) hc (fun hv => sv_kl hv hm rfl) cl4 b20 rfl dX11_crewBehind_19 (fun cn21 => ?_)
      refine j_if_le hc cn21 (tgt := 30) dX11_crewBehind_20 (by decide) (fun q22 => ?_) (fun q22 => ?_)
      · replace h := h.1 q22
        refine j_iconst hc dX11_crewBehind_30 ?_
        refine j_sub (lv' := [(0, vR E 0), (1, vI l1), (2, vI l2), (4, vI l4)]) [0, 1, 2, 4] rfl ?_
        exact jb_X11_crewBehind_31 hc hm hr hh hk5 cl1 cl2 cl4 (wlit 0 (by decide)) h
      · replace h := h.2 q22
        refine j_iconst hc dX11_crewBehind_23 ?_
        refine j_iload hc 4 dX11_crewBehind_24 rfl ?_
        refine j_ishl hc dX11_crewBehind_26 ?_
        refine j_goto (tgt := 31) hc dX11_crewBehind_27 (by decide) ?_
        refine j_sub (lv' := [(0, vR E 0), (1, vI l1), (2, vI l2), (4, vI l4)]) [0, 1, 2, 4] rfl ?_
        exact jb_X11_crewBehind_31 hc hm hr hh hk5 cl1 cl2 cl4 (cn_shl _ _) h
set_option maxRecDepth 20000 in
theorem c_X11_crewBehind {l : Launch} {E : ev_E} (hE : Eok E) (hm : eM E = 2) {a1 : Int} {a2 : Int} (ca1 : wr a1 = a1) (ca2 : wr a2 = a2) {σ : st_S} {Q : Int → st_S → Prop} (h : wp_X11_crewBehind a1 a2 σ Q) : cM l yX11_crewBehind cX11_crewBehind 5 (some .int) E 3 0 0 [vR E 0, vI a1, vI a2] σ (qI E (gN σ + 0) Q) := by
  refine cM_of (lv := [(0, vR E 0), (1, vI a1), (2, vI a2)]) (by decide) hE (Nat.le_of_ble_eq_true rfl) (rfl) ?_
  intro X hX hc _ _ hr _ _
  subst hX
  have hh : 3 ≤ 3 := Nat.le_refl _
  have hh1 : 1 ≤ 3 := by omega
  replace h : ∃ m5 : Nat, L_X11_crewBehind_5 Q m5 a1 a2 0 0 σ := h
  refine j_iconst hc dX11_crewBehind_0 ?_
  refine j_istore_n (lv' := [(3, vI 0), (0, vR E 0), (1, vI a1), (2, vI a2)]) hc dX11_crewBehind_1 rfl (by decide) rfl ?_
  refine j_iconst hc dX11_crewBehind_2 ?_
  refine j_istore (lv' := [(4, vI 0), (3, vI 0), (0, vR E 0), (1, vI a1), (2, vI a2)]) hc dX11_crewBehind_3 (by decide) rfl ?_
  obtain ⟨n5, h⟩ := h
  refine j_sub (lv' := [(0, vR E 0), (1, vI a1), (2, vI a2), (3, vI 0), (4, vI 0)]) [2, 3, 4, 1, 0] rfl ?_
  exact jl_X11_crewBehind_5 hc hm hr hh n5 ca1 ca2 (wlit 0 (by decide)) (wlit 0 (by decide)) h
-- LitStrangersModel.crewIn(III)I
theorem dX11_crewIn_0 : decode cX11_crewIn 0 = .ok (.aload_n 0, 1) := by decide +kernel
theorem dX11_crewIn_1 : decode cX11_crewIn 1 = .ok (.aload_n 0, 1) := by decide +kernel
theorem dX11_crewIn_2 : decode cX11_crewIn 2 = .ok (.getfield 24, 3) := by decide +kernel
theorem dX11_crewIn_5 : decode cX11_crewIn 5 = .ok (.bipush 33, 2) := by decide +kernel
theorem dX11_crewIn_7 : decode cX11_crewIn 7 = .ok (.iaload, 1) := by decide +kernel
theorem dX11_crewIn_8 : decode cX11_crewIn 8 = .ok (.iload_n 1, 1) := by decide +kernel
theorem dX11_crewIn_9 : decode cX11_crewIn 9 = .ok (.iadd, 1) := by decide +kernel
theorem dX11_crewIn_10 : decode cX11_crewIn 10 = .ok (.invokevirtual 292, 3) := by decide +kernel
theorem dX11_crewIn_13 : decode cX11_crewIn 13 = .ok (.istore 4, 2) := by decide +kernel
theorem dX11_crewIn_15 : decode cX11_crewIn 15 = .ok (.aload_n 0, 1) := by decide +kernel
theorem dX11_crewIn_16 : decode cX11_crewIn 16 = .ok (.iload_n 1, 1) := by decide +kernel
theorem dX11_crewIn_17 : decode cX11_crewIn 17 = .ok (.iload_n 2, 1) := by decide +kernel
theorem dX11_crewIn_18 : decode cX11_crewIn 18 = .ok (.iload 4, 2) := by decide +kernel
theorem dX11_crewIn_20 : decode cX11_crewIn 20 = .ok (.invokevirtual 373, 3) := by decide +kernel
theorem dX11_crewIn_23 : decode cX11_crewIn 23 = .ok (.aload_n 0, 1) := by decide +kernel
theorem dX11_crewIn_24 : decode cX11_crewIn 24 = .ok (.iload_n 3, 1) := by decide +kernel
theorem dX11_crewIn_25 : decode cX11_crewIn 25 = .ok (.iload 4, 2) := by decide +kernel
theorem dX11_crewIn_27 : decode cX11_crewIn 27 = .ok (.invokestatic 331, 3) := by decide +kernel
theorem dX11_crewIn_30 : decode cX11_crewIn 30 = .ok (.invokevirtual 376, 3) := by decide +kernel
theorem dX11_crewIn_33 : decode cX11_crewIn 33 = .ok (.ireturn, 1) := by decide +kernel
def wp_X11_crewIn (a1 : Int) (a2 : Int) (a3 : Int) (σ : st_S) (Q : Int → st_S → Prop) : Prop := wp_X11_fogOn (wr (gI σ 2 33 + a1)) σ (fun r13 s14 => wp_X11_laysWorths a1 a2 r13 s14 (fun s16 => wp_X11_needOn r13 s16 (fun r17 s18 => wp_X11_crewBehind a3 r17 s18 (fun r19 s20 => Q r19 s20))))
set_option maxRecDepth 20000 in
theorem c_X11_crewIn {l : Launch} {E : ev_E} (hE : Eok E) (hm : eM E = 2) {a1 : Int} {a2 : Int} {a3 : Int} (ca1 : wr a1 = a1) (ca2 : wr a2 = a2) (ca3 : wr a3 = a3) {σ : st_S} {Q : Int → st_S → Prop} (h : wp_X11_crewIn a1 a2 a3 σ Q) : cM l yX11_crewIn cX11_crewIn 5 (some .int) E 129 0 0 [vR E 0, vI a1, vI a2, vI a3] σ (qI E (gN σ + 0) Q) := by
  refine cM_of (lv := [(0, vR E 0), (1, vI a1), (2, vI a2), (3, vI a3)]) (by decide) hE (Nat.le_of_ble_eq_true rfl) (rfl) ?_
  intro X hX hc _ _ hr _ _
  subst hX
  have hh : 129 ≤ 129 := Nat.le_refl _
  have hh1 : 1 ≤ 129 := by omega
  replace h : wp_X11_fogOn (wr (gI σ 2 33 + a1)) σ (fun r13 s14 => wp_X11_laysWorths a1 a2 r13 s14 (fun s16 => wp_X11_needOn r13 s16 (fun r17 s18 => wp_X11_crewBehind a3 r17 s18 (fun r19 s20 => Q r19 s20)))) := h
  refine j_aload_nR hc 0 dX11_crewIn_0 rfl rfl ?_
  refine j_aload_nR hc 0 dX11_crewIn_1 rfl rfl ?_
  refine j_getR (c' := 2) hc fl_RX11_24 rfl rfl (fun hv => (sv_k hv hm rfl)) dX11_crewIn_2 ?_
  refine j_bipush hc dX11_crewIn_5 (by decide) ?_
  refine j_iald (jn := 33) hc (fun hv => sv_kl hv hm rfl) (wlit 33 (by decide)) ⟨by decide, by decide⟩ rfl dX11_crewIn_7 (fun cn12 => ?_)
  refine j_iload_n hc 1 dX11_crewIn_8 rfl rfl ?_
  refine j_iadd hc dX11_crewIn_9 ?_
  refine j_vI hc (k := 11) (by decide) (fun hv => Or.inl (sv_k hv hm rfl)) ml_RX11_292 mv_X11_fogOn (As := [vI (wr (gI σ 2 33 + a1))]) (c_X11_fogOn (cx_E hc) hm (wr_wr _) h) rfl (by omega) (by decide) ⟨Nat.zero_le _, Nat.zero_le _⟩ (Nat.le_of_ble_eq_true rfl) (by simp only [vI_wr, vL_wl]; rfl) dX11_crewIn_10 (fun r13 s14 cr13 h => ?_)
  refine j_istore (lv' := [(4, vI r13), (0, vR E 0), (1, vI a1), (2, vI a2), (3, vI a3)]) hc dX11_crewIn_13 (by decide) rfl ?_
  refine j_aload_nR hc 1 dX11_crewIn_15 rfl rfl ?_
  refine j_iload_n hc 2 dX11_crewIn_16 rfl rfl ?_
  refine j_iload_n hc 3 dX11_crewIn_17 rfl rfl ?_
  refine j_iload hc 0 dX11_crewIn_18 rfl ?_
  refine j_vV hc (k := 11) (by decide) (fun hv => Or.inl (sv_k hv hm rfl)) ml_RX11_373 mv_X11_laysWorths (As := [vI a1, vI a2, vI r13]) (c_X11_laysWorths (cx_E hc) hm ca1 ca2 cr13 h) rfl (by omega) (by decide) ⟨Nat.zero_le _, Nat.zero_le _⟩ (Nat.le_of_ble_eq_true rfl) rfl dX11_crewIn_20 (fun s16 h => ?_)
  refine j_aload_nR hc 1 dX11_crewIn_23 rfl rfl ?_
  refine j_iload_n hc 4 dX11_crewIn_24 rfl rfl ?_
  refine j_iload hc 0 dX11_crewIn_25 rfl ?_
  refine j_sI hc ml_RX11_331 mv_X11_needOn (As := [vI r13]) (c_X11_needOn (cx_E hc) hm cr13 h) rfl (by omega) (by decide) ⟨Nat.zero_le _, Nat.zero_le _⟩ (Nat.le_of_ble_eq_true rfl) rfl dX11_crewIn_27 (fun r17 s18 cr17 h => ?_)
  refine j_vI hc (k := 11) (by decide) (fun hv => Or.inl (sv_k hv hm rfl)) ml_RX11_376 mv_X11_crewBehind (As := [vI a3, vI r17]) (c_X11_crewBehind (cx_E hc) hm ca3 cr17 h) rfl (by omega) (by decide) ⟨Nat.zero_le _, Nat.zero_le _⟩ (Nat.le_of_ble_eq_true rfl) rfl dX11_crewIn_30 (fun r19 s20 cr19 h => ?_)
  exact j_iret hc hr cr19 h dX11_crewIn_33
-- LitStrangersModel.longestFrom(II)I
theorem dX11_longestFrom_0 : decode cX11_longestFrom 0 = .ok (.iload_n 1, 1) := by decide +kernel
theorem dX11_longestFrom_1 : decode cX11_longestFrom 1 = .ok (.bipush 10, 2) := by decide +kernel
theorem dX11_longestFrom_3 : decode cX11_longestFrom 3 = .ok (.if_icmp .le 5, 3) := by decide +kernel
theorem dX11_longestFrom_6 : decode cX11_longestFrom 6 = .ok (.iconst 0, 1) := by decide +kernel
theorem dX11_longestFrom_7 : decode cX11_longestFrom 7 = .ok (.ireturn, 1) := by decide +kernel
theorem dX11_longestFrom_8 : decode cX11_longestFrom 8 = .ok (.sipush 1024, 3) := by decide +kernel
theorem dX11_longestFrom_11 : decode cX11_longestFrom 11 = .ok (.iload_n 1, 1) := by decide +kernel
theorem dX11_longestFrom_12 : decode cX11_longestFrom 12 = .ok (.imul, 1) := by decide +kernel
theorem dX11_longestFrom_13 : decode cX11_longestFrom 13 = .ok (.iload_n 2, 1) := by decide +kernel
theorem dX11_longestFrom_14 : decode cX11_longestFrom 14 = .ok (.iadd, 1) := by decide +kernel
theorem dX11_longestFrom_15 : decode cX11_longestFrom 15 = .ok (.istore_n 3, 1) := by decide +kernel
theorem dX11_longestFrom_16 : decode cX11_longestFrom 16 = .ok (.aload_n 0, 1) := by decide +kernel
theorem dX11_longestFrom_17 : decode cX11_longestFrom 17 = .ok (.getfield 80, 3) := by decide +kernel
theorem dX11_longestFrom_20 : decode cX11_longestFrom 20 = .ok (.iload_n 3, 1) := by decide +kernel
theorem dX11_longestFrom_21 : decode cX11_longestFrom 21 = .ok (.baload, 1) := by decide +kernel
theorem dX11_longestFrom_22 : decode cX11_longestFrom 22 = .ok (.iconst (-1), 1) := by decide +kernel
theorem dX11_longestFrom_23 : decode cX11_longestFrom 23 = .ok (.if_icmp .eq 10, 3) := by decide +kernel
theorem dX11_longestFrom_26 : decode cX11_longestFrom 26 = .ok (.aload_n 0, 1) := by decide +kernel
theorem dX11_longestFrom_27 : decode cX11_longestFrom 27 = .ok (.getfield 80, 3) := by decide +kernel
theorem dX11_longestFrom_30 : decode cX11_longestFrom 30 = .ok (.iload_n 3, 1) := by decide +kernel
theorem dX11_longestFrom_31 : decode cX11_longestFrom 31 = .ok (.baload, 1) := by decide +kernel
theorem dX11_longestFrom_32 : decode cX11_longestFrom 32 = .ok (.ireturn, 1) := by decide +kernel
theorem dX11_longestFrom_33 : decode cX11_longestFrom 33 = .ok (.iconst 0, 1) := by decide +kernel
theorem dX11_longestFrom_34 : decode cX11_longestFrom 34 = .ok (.istore 4, 2) := by decide +kernel
theorem dX11_longestFrom_36 : decode cX11_longestFrom 36 = .ok (.aload_n 0, 1) := by decide +kernel
theorem dX11_longestFrom_37 : decode cX11_longestFrom 37 = .ok (.iload_n 1, 1) := by decide +kernel
theorem dX11_longestFrom_38 : decode cX11_longestFrom 38 = .ok (.iload_n 2, 1) := by decide +kernel
theorem dX11_longestFrom_39 : decode cX11_longestFrom 39 = .ok (.iconst 0, 1) := by decide +kernel
theorem dX11_longestFrom_40 : decode cX11_longestFrom 40 = .ok (.invokevirtual 379, 3) := by decide +kernel
theorem dX11_longestFrom_43 : decode cX11_longestFrom 43 = .ok (.istore 5, 2) := by decide +kernel
theorem dX11_longestFrom_45 : decode cX11_longestFrom 45 = .ok (.iload 5, 2) := by decide +kernel
theorem dX11_longestFrom_47 : decode cX11_longestFrom 47 = .ok (.iconst (-1), 1) := by decide +kernel
theorem dX11_longestFrom_48 : decode cX11_longestFrom 48 = .ok (.if_icmp .eq 47, 3) := by decide +kernel
theorem dX11_longestFrom_51 : decode cX11_longestFrom 51 = .ok (.iconst 1, 1) := by decide +kernel
theorem dX11_longestFrom_52 : decode cX11_longestFrom 52 = .ok (.aload_n 0, 1) := by decide +kernel
theorem dX11_longestFrom_53 : decode cX11_longestFrom 53 = .ok (.iload_n 1, 1) := by decide +kernel
theorem dX11_longestFrom_54 : decode cX11_longestFrom 54 = .ok (.iconst 1, 1) := by decide +kernel
theorem dX11_longestFrom_55 : decode cX11_longestFrom 55 = .ok (.iadd, 1) := by decide +kernel
theorem dX11_longestFrom_56 : decode cX11_longestFrom 56 = .ok (.iload_n 2, 1) := by decide +kernel
theorem dX11_longestFrom_57 : decode cX11_longestFrom 57 = .ok (.iload 5, 2) := by decide +kernel
theorem dX11_longestFrom_59 : decode cX11_longestFrom 59 = .ok (.ior, 1) := by decide +kernel
theorem dX11_longestFrom_60 : decode cX11_longestFrom 60 = .ok (.invokevirtual 382, 3) := by decide +kernel
theorem dX11_longestFrom_63 : decode cX11_longestFrom 63 = .ok (.iadd, 1) := by decide +kernel
theorem dX11_longestFrom_64 : decode cX11_longestFrom 64 = .ok (.istore 6, 2) := by decide +kernel
theorem dX11_longestFrom_66 : decode cX11_longestFrom 66 = .ok (.iload 6, 2) := by decide +kernel
theorem dX11_longestFrom_68 : decode cX11_longestFrom 68 = .ok (.iload 4, 2) := by decide +kernel
theorem dX11_longestFrom_70 : decode cX11_longestFrom 70 = .ok (.if_icmp .le 8, 3) := by decide +kernel
theorem dX11_longestFrom_73 : decode cX11_longestFrom 73 = .ok (.iload 6, 2) := by decide +kernel
theorem dX11_longestFrom_75 : decode cX11_longestFrom 75 = .ok (.goto 5, 3) := by decide +kernel
theorem dX11_longestFrom_78 : decode cX11_longestFrom 78 = .ok (.iload 4, 2) := by decide +kernel
theorem dX11_longestFrom_80 : decode cX11_longestFrom 80 = .ok (.istore 4, 2) := by decide +kernel
theorem dX11_longestFrom_82 : decode cX11_longestFrom 82 = .ok (.aload_n 0, 1) := by decide +kernel
theorem dX11_longestFrom_83 : decode cX11_longestFrom 83 = .ok (.iload_n 1, 1) := by decide +kernel
theorem dX11_longestFrom_84 : decode cX11_longestFrom 84 = .ok (.iload_n 2, 1) := by decide +kernel
theorem dX11_longestFrom_85 : decode cX11_longestFrom 85 = .ok (.iload 5, 2) := by decide +kernel
theorem dX11_longestFrom_87 : decode cX11_longestFrom 87 = .ok (.invokevirtual 379, 3) := by decide +kernel
theorem dX11_longestFrom_90 : decode cX11_longestFrom 90 = .ok (.istore 5, 2) := by decide +kernel
theorem dX11_longestFrom_92 : decode cX11_longestFrom 92 = .ok (.goto (-47), 3) := by decide +kernel
theorem dX11_longestFrom_95 : decode cX11_longestFrom 95 = .ok (.aload_n 0, 1) := by decide +kernel
theorem dX11_longestFrom_96 : decode cX11_longestFrom 96 = .ok (.getfield 80, 3) := by decide +kernel
theorem dX11_longestFrom_99 : decode cX11_longestFrom 99 = .ok (.iload_n 3, 1) := by decide +kernel
theorem dX11_longestFrom_100 : decode cX11_longestFrom 100 = .ok (.iload 4, 2) := by decide +kernel
theorem dX11_longestFrom_102 : decode cX11_longestFrom 102 = .ok (.i2b, 1) := by decide +kernel
theorem dX11_longestFrom_103 : decode cX11_longestFrom 103 = .ok (.bastore, 1) := by decide +kernel
theorem dX11_longestFrom_104 : decode cX11_longestFrom 104 = .ok (.iload 4, 2) := by decide +kernel
theorem dX11_longestFrom_106 : decode cX11_longestFrom 106 = .ok (.ireturn, 1) := by decide +kernel
def B_X11_longestFrom_80 (Q : Int → st_S → Prop) (rc_X11_longestFrom : Int → Int → st_S → (Int → st_S → Prop) → Prop) (k45 : Int → Int → Int → Int → Int → st_S → Prop) (l1 : Int) (l2 : Int) (l3 : Int) (l5 : Int) (v0 : Int) (σ : st_S) : Prop := wp_X11_crewIn l1 l2 l5 σ (fun r20 s21 => k45 l1 l2 l3 v0 r20 s21)
def L_X11_longestFrom_45 (Q : Int → st_S → Prop) (rc_X11_longestFrom : Int → Int → st_S → (Int → st_S → Prop) → Prop)  : Nat → Int → Int → Int → Int → Int → st_S → Prop
  | 0 => fun _ _ _ _ _ _ => False
  | n + 1 => fun l1 l2 l3 l4 l5 σ => (l5 = (-1) → ix l3 11264 ∧ ∀ s23 : st_S, s23 = sI σ 19 (Int.toNat l3) (o_nb (o_i2b l4)) → Q l4 s23) ∧ (¬ l5 = (-1) → rc_X11_longestFrom (wr (l1 + 1)) (o_or l2 l5) σ (fun r24 s25 => ∀ x26 : Int, x26 = wr (1 + r24) → (x26 ≤ l4 → B_X11_longestFrom_80 Q rc_X11_longestFrom (L_X11_longestFrom_45 Q rc_X11_longestFrom n) l1 l2 l3 l5 l4 s25) ∧ (¬ x26 ≤ l4 → B_X11_longestFrom_80 Q rc_X11_longestFrom (L_X11_longestFrom_45 Q rc_X11_longestFrom n) l1 l2 l3 l5 x26 s25)))
def e_X11_longestFrom (rc_X11_longestFrom : Int → Int → st_S → (Int → st_S → Prop) → Prop) (a1 : Int) (a2 : Int) (σ : st_S) (Q : Int → st_S → Prop) : Prop := (a1 ≤ 10 → ∀ x29 : Int, x29 = wr ((1024 * a1) + a2) → ix x29 11264 ∧ (gI σ 19 (Int.toNat x29) = (-1) → wp_X11_crewIn a1 a2 0 σ (fun r32 s33 => ∃ m45 : Nat, L_X11_longestFrom_45 Q rc_X11_longestFrom m45 a1 a2 x29 0 r32 s33)) ∧ (¬ gI σ 19 (Int.toNat x29) = (-1) → ix x29 11264 ∧ Q (gI σ 19 (Int.toNat x29)) σ)) ∧ (¬ a1 ≤ 10 → Q 0 σ)
def G_X11_longestFrom : Nat → (Int → Int → st_S → (Int → st_S → Prop) → Prop)
  | 0 => fun _ _ _ _ => False
  | d + 1 => e_X11_longestFrom ((G_X11_longestFrom d))
def wp_X11_longestFrom (d : Nat) : Int → Int → st_S → (Int → st_S → Prop) → Prop := (G_X11_longestFrom d)
set_option maxRecDepth 20000 in
theorem jb_X11_longestFrom_80 {X : jj_X} {E : ev_E} {n0 hN : Nat} (hc : Cx X E cX11_longestFrom 7 n0 hN RX11) (hm : eM E = 2) (hr : (xT X).sig.returnType = (some .int)) {d : Nat} (hh : 130 + (d + 1) ≤ hN) {Q : Int → st_S → Prop} {rc_X11_longestFrom : Int → Int → st_S → (Int → st_S → Prop) → Prop} (hr_X11_longestFrom : ∀ {l : Launch} {E : ev_E} (hE : Eok E) (hm : eM E = 2) {a1 : Int} {a2 : Int} (ca1 : wr a1 = a1) (ca2 : wr a2 = a2) {σ : st_S} {Q : Int → st_S → Prop}, rc_X11_longestFrom a1 a2 σ Q → cM l yX11_longestFrom cX11_longestFrom 7 (some .int) E (130 + d) 0 0 [vR E 0, vI a1, vI a2] σ (qI E (gN σ + 0) Q)) {k45 : Int → Int → Int → Int → Int → st_S → Prop} (hk45 : ∀ {l1 : Int} {l2 : Int} {l3 : Int} {l4 : Int} {l5 : Int} (cl1 : wr l1 = l1) (cl2 : wr l2 = l2) (cl3 : wr l3 = l3) (cl4 : wr l4 = l4) (cl5 : wr l5 = l5) {σ : st_S}, k45 l1 l2 l3 l4 l5 σ → J X E 7 n0 0 0 (MQ (xB X) (qI E (n0 + 0) Q) (xA X) (xS X) 0 0 (eF E)) σ 45 [(0, vR E 0), (1, vI l1), (2, vI l2), (3, vI l3), (4, vI l4), (5, vI l5)] []) {l1 : Int} {l2 : Int} {l3 : Int} {l5 : Int} {v0 : Int} (cl1 : wr l1 = l1) (cl2 : wr l2 = l2) (cl3 : wr l3 = l3) (cl5 : wr l5 = l5) (cv0 : wr v0 = v0) {σ : st_S} (h : B_X11_longestFrom_80 Q rc_X11_longestFrom k45 l1 l2 l3 l5 v0 σ) : J X E 7 n0 0 0 (MQ (xB X) (qI E (n0 + 0) Q) (xA X) (xS X) 0 0 (eF E)) σ 80 [(0, vR E 0), (1, vI l1), (2, vI l2), (3, vI l3), (5, vI l5)] [vI v0] := by
  have hh1 : 1 ≤ hN := by omega
  replace h : wp_X11_crewIn l1 l2 l5 σ (fun r20 s21 => k45 l1 l2 l3 v0 r20 s21) := h
  refine j_istore (lv' := [(4, vI v0), (0, vR E 0), (1, vI l1), (2, vI l2), (3, vI l3), (5, vI l5)]) hc dX11_longestFrom_80 (by decide) rfl ?_
  refine j_aload_nR hc 1 dX11_longestFrom_82 rfl rfl ?_
  refine j_iload_n hc 2 dX11_longestFrom_83 rfl rfl ?_
  refine j_iload_n hc 3 dX11_longestFrom_84 rfl rfl ?_
  refine j_iload hc 5 dX11_longestFrom_85 rfl ?_
  refine j_vI hc (k := 11) (by decide) (fun hv => Or.inl (sv_k hv hm rfl)) ml_RX11_379 mv_X11_crewIn (As := [vI l1, vI l2, vI l5]) (c_X11_crewIn (cx_E hc) hm cl1 cl2 cl5 h) rfl (by omega) (by decide) ⟨Nat.zero_le _, Nat.zero_le _⟩ (Nat.le_of_ble_eq_true rfl) rfl dX11_longestFrom_87 (fun r20 s21 cr20 h => ?_)
  refine j_istore (lv' := [(5, vI r20), (4, vI v0), (0, vR E 0), (1, vI l1), (2, vI l2), (3, vI l3)]) hc dX11_longestFrom_90 (by decide) rfl ?_
  refine j_goto (tgt := 45) hc dX11_longestFrom_92 (by decide) ?_
  refine j_sub (lv' := [(0, vR E 0), (1, vI l1), (2, vI l2), (3, vI l3), (4, vI v0), (5, vI r20)]) [2, 3, 4, 5, 1, 0] rfl ?_
  exact hk45 cl1 cl2 cl3 cv0 cr20 h
set_option maxRecDepth 20000 in
theorem jl_X11_longestFrom_45 {X : jj_X} {E : ev_E} {n0 hN : Nat} (hc : Cx X E cX11_longestFrom 7 n0 hN RX11) (hm : eM E = 2) (hr : (xT X).sig.returnType = (some .int)) {d : Nat} (hh : 130 + (d + 1) ≤ hN) {Q : Int → st_S → Prop} {rc_X11_longestFrom : Int → Int → st_S → (Int → st_S → Prop) → Prop} (hr_X11_longestFrom : ∀ {l : Launch} {E : ev_E} (hE : Eok E) (hm : eM E = 2) {a1 : Int} {a2 : Int} (ca1 : wr a1 = a1) (ca2 : wr a2 = a2) {σ : st_S} {Q : Int → st_S → Prop}, rc_X11_longestFrom a1 a2 σ Q → cM l yX11_longestFrom cX11_longestFrom 7 (some .int) E (130 + d) 0 0 [vR E 0, vI a1, vI a2] σ (qI E (gN σ + 0) Q)) : ∀ (n : Nat) {l1 : Int} {l2 : Int} {l3 : Int} {l4 : Int} {l5 : Int} (cl1 : wr l1 = l1) (cl2 : wr l2 = l2) (cl3 : wr l3 = l3) (cl4 : wr l4 = l4) (cl5 : wr l5 = l5) {σ : st_S}, L_X11_longestFrom_45 Q rc_X11_longestFrom n l1 l2 l3 l4 l5 σ → J X E 7 n0 0 0 (MQ (xB X) (qI E (n0 + 0) Q) (xA X) (xS X) 0 0 (eF E)) σ 45 [(0, vR E 0), (1, vI l1), (2, vI l2), (3, vI l3), (4, vI l4), (5, vI l5)] [] := by
  have hh1 : 1 ≤ hN := by omega
  intro n
  induction n with
  | zero => intro l1 l2 l3 l4 l5 cl1 cl2 cl3 cl4 cl5 σ h; exact h.elim
  | succ n ih =>
    intro l1 l2 l3 l4 l5 cl1 cl2 cl3 cl4 cl5 σ h
    have hk45 : ∀ {l1 : Int} {l2 : Int} {l3 : Int} {l4 : Int} {l5 : Int} (cl1 : wr l1 = l1) (cl2 : wr l2 = l2) (cl3 : wr l3 = l3) (cl4 : wr l4 = l4) (cl5 : wr l5 = l5) {σ : st_S}, L_X11_longestFrom_45 Q rc_X11_longestFrom n l1 l2 l3 l4 l5 σ → J X E 7 n0 0 0 (MQ (xB X) (qI E (n0 + 0) Q) (xA X) (xS X) 0 0 (eF E)) σ 45 [(0, vR E 0), (1, vI l1), (2, vI l2), (3, vI l3), (4, vI l4), (5, vI l5)] [] := ih
    replace h : (l5 = (-1) → ix l3 11264 ∧ ∀ s23 : st_S, s23 = sI σ 19 (Int.toNat l3) (o_nb (o_i2b l4)) → Q l4 s23) ∧ (¬ l5 = (-1) → rc_X11_longestFrom (wr (l1 + 1)) (o_or l2 l5) σ (fun r24 s25 => ∀ x26 : Int, x26 = wr (1 + r24) → (x26 ≤ l4 → B_X11_longestFrom_80 Q rc_X11_longestFrom (L_X11_longestFrom_45 Q rc_X11_longestFrom n) l1 l2 l3 l5 l4 s25) ∧ (¬ x26 ≤ l4 → B_X11_longestFrom_80 Q rc_X11_longestFrom (L_X11_longestFrom_45 Q rc_X11_longestFrom n) l1 l2 l3 l5 x26 s25))) := h
    refine j_iload hc 5 dX11_longestFrom_45 rfl ?_
    refine j_iconst hc dX11_longestFrom_47 ?_
    refine j_ic_eq hc cl5 (wlit (-1) (by decide)) (tgt := 95) dX11_longestFrom_48 (by decide) (fun q28 => ?_) (fun q28 => ?_)
    · replace h := h.1 q28
      refine j_aload_nR hc 0 dX11_longestFrom_95 rfl rfl ?_
      refine j_getR (c' := 19) hc fl_RX11_80 rfl rfl (fun hv => (sv_k hv hm rfl)) dX11_longestFrom_96 ?_
      refine j_iload_n hc 3 dX11_longestFrom_99 rfl rfl ?_
      refine j_iload hc 4 dX11_longestFrom_100 rfl ?_
      refine j_i2b hc dX11_longestFrom_102 ?_
      obtain ⟨b22, h⟩ := h
      refine j_bast (jn := (Int.toNat l3)) hc (fun hv => sv_kl hv hm rfl) cl3 b22 rfl dX11_longestFrom_103 (fun s23 es23 => ?_)
      replace h := h s23 es23
      refine j_iload hc 4 dX11_longestFrom_104 rfl ?_
      exact j_iret hc hr cl4 h dX11_longestFrom_106
    · replace h := h.2 q28
      refine j_iconst hc dX11_longestFrom_51 ?_
      refine j_aload_nR hc 0 dX11_longestFrom_52 rfl rfl ?_
      refine j_iload_n hc 1 dX11_longestFrom_53 rfl rfl ?_
      refine j_iconst hc dX11_longestFrom_54 ?_
      refine j_iadd hc dX11_longestFrom_55 ?_
      refine j_iload_n hc 2 dX11_longestFrom_56 rfl rfl ?_
      refine j_iload hc 5 dX11_longestFrom_57 rfl ?_
      refine j_ior hc dX11_longestFrom_59 ?_
      refine j_vI hc (k := 11) (by decide) (fun hv => Or.inl (sv_k hv hm rfl)) ml_RX11_382 mv_X11_longestFrom (As := [vI (wr (l1 + 1)), vI (o_or l2 l5)]) (hr_X11_longestFrom (cx_E hc) hm (wr_wr _) (cn_or _ _) h) rfl (by omega) (by decide) ⟨Nat.zero_le _, Nat.zero_le _⟩ (Nat.le_of_ble_eq_true rfl) (by simp only [vI_wr, vL_wl]; rfl) dX11_longestFrom_60 (fun r24 s25 cr24 h => ?_)
      refine j_iadd hc dX11_longestFrom_63 ?_
      refine j_w (fun x26 ex26 cx26 => ?_)
      replace h := h x26 ex26
      refine j_istore (lv' := [(6, vI x26), (0, vR E 0), (1, vI l1), (2, vI l2), (3, vI l3), (4, vI l4), (5, vI l5)]) hc dX11_longestFrom_64 (by decide) rfl ?_
      refine j_iload hc 0 dX11_longestFrom_66 rfl ?_
      refine j_iload hc 5 dX11_longestFrom_68 rfl ?_
      refine j_ic_le hc cx26 cl4 (tgt := 78) dX11_longestFrom_70 (by decide) (fun q27 => ?_) (fun q27 => ?_)
      · replace h := h.1 q27
        refine j_iload hc 5 dX11_longestFrom_78 rfl ?_
        refine j_sub (lv' := [(0, vR E 0), (1, vI l1), (2, vI l2), (3, vI l3), (5, vI l5)]) [1, 2, 3, 4, 6] rfl ?_
        exact jb_X11_longestFrom_80 hc hm hr hh hr_X11_longestFrom hk45 cl1 cl2 cl3 cl5 cl4 h
      · replace h := h.2 q27
        refine j_iload hc 0 dX11_longestFrom_73 rfl ?_
        refine j_goto (tgt := 80) hc dX11_longestFrom_75 (by decide) ?_
        refine j_sub (lv' := [(0, vR E 0), (1, vI l1), (2, vI l2), (3, vI l3), (5, vI l5)]) [1, 2, 3, 4, 6] rfl ?_
        exact jb_X11_longestFrom_80 hc hm hr hh hr_X11_longestFrom hk45 cl1 cl2 cl3 cl5 cx26 h
set_option maxRecDepth 20000 in
theorem ce_X11_longestFrom {d : Nat} {rc_X11_longestFrom : Int → Int → st_S → (Int → st_S → Prop) → Prop} (hr_X11_longestFrom : ∀ {l : Launch} {E : ev_E} (hE : Eok E) (hm : eM E = 2) {a1 : Int} {a2 : Int} (ca1 : wr a1 = a1) (ca2 : wr a2 = a2) {σ : st_S} {Q : Int → st_S → Prop}, rc_X11_longestFrom a1 a2 σ Q → cM l yX11_longestFrom cX11_longestFrom 7 (some .int) E (130 + d) 0 0 [vR E 0, vI a1, vI a2] σ (qI E (gN σ + 0) Q)) {l : Launch} {E : ev_E} (hE : Eok E) (hm : eM E = 2) {a1 : Int} {a2 : Int} (ca1 : wr a1 = a1) (ca2 : wr a2 = a2) {σ : st_S} {Q : Int → st_S → Prop} (h : e_X11_longestFrom rc_X11_longestFrom a1 a2 σ Q) : cM l yX11_longestFrom cX11_longestFrom 7 (some .int) E (130 + (d + 1)) 0 0 [vR E 0, vI a1, vI a2] σ (qI E (gN σ + 0) Q) := by
  refine cM_of (lv := [(0, vR E 0), (1, vI a1), (2, vI a2)]) (by decide) hE (Nat.le_of_ble_eq_true rfl) (rfl) ?_
  intro X hX hc _ _ hr _ _
  subst hX
  have hh : 130 + (d + 1) ≤ 130 + (d + 1) := Nat.le_refl _
  have hh1 : 1 ≤ 130 + (d + 1) := by omega
  replace h : (a1 ≤ 10 → ∀ x29 : Int, x29 = wr ((1024 * a1) + a2) → ix x29 11264 ∧ (gI σ 19 (Int.toNat x29) = (-1) → wp_X11_crewIn a1 a2 0 σ (fun r32 s33 => ∃ m45 : Nat, L_X11_longestFrom_45 Q rc_X11_longestFrom m45 a1 a2 x29 0 r32 s33)) ∧ (¬ gI σ 19 (Int.toNat x29) = (-1) → ix x29 11264 ∧ Q (gI σ 19 (Int.toNat x29)) σ)) ∧ (¬ a1 ≤ 10 → Q 0 σ) := h
  refine j_iload_n hc 1 dX11_longestFrom_0 rfl rfl ?_
  refine j_bipush hc dX11_longestFrom_1 (by decide) ?_
  refine j_ic_le hc ca1 (wlit 10 (by decide)) (tgt := 8) dX11_longestFrom_3 (by decide) (fun q37 => ?_) (fun q37 => ?_)
  · replace h := h.1 q37
    refine j_sipush hc dX11_longestFrom_8 (by decide) ?_
    refine j_iload_n hc 1 dX11_longestFrom_11 rfl rfl ?_
    refine j_imul hc dX11_longestFrom_12 ?_
    refine j_iload_n hc 2 dX11_longestFrom_13 rfl rfl ?_
    refine j_iadd hc dX11_longestFrom_14 ?_
    refine j_w (fun x29 ex29 cx29 => ?_)
    replace h := h x29 ex29
    refine j_istore_n (lv' := [(3, vI x29), (0, vR E 0), (1, vI a1), (2, vI a2)]) hc dX11_longestFrom_15 rfl (by decide) rfl ?_
    refine j_aload_nR hc 1 dX11_longestFrom_16 rfl rfl ?_
    refine j_getR (c' := 19) hc fl_RX11_80 rfl rfl (fun hv => (sv_k hv hm rfl)) dX11_longestFrom_17 ?_
    refine j_iload_n hc 0 dX11_longestFrom_20 rfl rfl ?_
    obtain ⟨b30, h⟩ := h
    refine j_bald (jn := (Int.toNat x29)) hc (fun hv => sv_kl hv hm rfl) cx29 b30 rfl dX11_longestFrom_21 (fun cn31 => ?_)
    refine j_iconst hc dX11_longestFrom_22 ?_
    refine j_ic_eq hc cn31 (wlit (-1) (by decide)) (tgt := 33) dX11_longestFrom_23 (by decide) (fun q36 => ?_) (fun q36 => ?_)
    · replace h := h.1 q36
      refine j_iconst hc dX11_longestFrom_33 ?_
      refine j_istore (lv' := [(4, vI 0), (3, vI x29), (0, vR E 0), (1, vI a1), (2, vI a2)]) hc dX11_longestFrom_34 (by decide) rfl ?_
      refine j_aload_nR hc 2 dX11_longestFrom_36 rfl rfl ?_
      refine j_iload_n hc 3 dX11_longestFrom_37 rfl rfl ?_
      refine j_iload_n hc 4 dX11_longestFrom_38 rfl rfl ?_
      refine j_iconst hc dX11_longestFrom_39 ?_
      refine j_vI hc (k := 11) (by decide) (fun hv => Or.inl (sv_k hv hm rfl)) ml_RX11_379 mv_X11_crewIn (As := [vI a1, vI a2, vI 0]) (c_X11_crewIn (cx_E hc) hm ca1 ca2 (wlit 0 (by decide)) h) rfl (by omega) (by decide) ⟨Nat.zero_le _, Nat.zero_le _⟩ (Nat.le_of_ble_eq_true rfl) rfl dX11_longestFrom_40 (fun r32 s33 cr32 h => ?_)
      refine j_istore (lv' := [(5, vI r32), (4, vI 0), (3, vI x29), (0, vR E 0), (1, vI a1), (2, vI a2)]) hc dX11_longestFrom_43 (by decide) rfl ?_
      obtain ⟨n45, h⟩ := h
      refine j_sub (lv' := [(0, vR E 0), (1, vI a1), (2, vI a2), (3, vI x29), (4, vI 0), (5, vI r32)]) [3, 4, 5, 2, 1, 0] rfl ?_
      exact jl_X11_longestFrom_45 hc hm hr hh hr_X11_longestFrom n45 ca1 ca2 cx29 (wlit 0 (by decide)) cr32 h
    · replace h := h.2 q36
      refine j_aload_nR hc 1 dX11_longestFrom_26 rfl rfl ?_
      refine j_getR (c' := 19) hc fl_RX11_80 rfl rfl (fun hv => (sv_k hv hm rfl)) dX11_longestFrom_27 ?_
      refine j_iload_n hc 0 dX11_longestFrom_30 rfl rfl ?_
      obtain ⟨b34, h⟩ := h
      refine j_bald (jn := (Int.toNat x29)) hc (fun hv => sv_kl hv hm rfl) cx29 b34 rfl dX11_longestFrom_31 (fun cn35 => ?_)
      exact j_iret hc hr cn35 h dX11_longestFrom_32
  · replace h := h.2 q37
    refine j_iconst hc dX11_longestFrom_6 ?_
    exact j_iret hc hr (wlit 0 (by decide)) h dX11_longestFrom_7
theorem ca_X11_longestFrom : ∀ d : Nat, (∀ {l : Launch} {E : ev_E} (hE : Eok E) (hm : eM E = 2) {a1 : Int} {a2 : Int} (ca1 : wr a1 = a1) (ca2 : wr a2 = a2) {σ : st_S} {Q : Int → st_S → Prop}, wp_X11_longestFrom d a1 a2 σ Q → cM l yX11_longestFrom cX11_longestFrom 7 (some .int) E (130 + d) 0 0 [vR E 0, vI a1, vI a2] σ (qI E (gN σ + 0) Q)) := by
  intro d
  induction d with
  | zero => exact (fun {l} {E} hE hm {a1} {a2} ca1 ca2 {σ} {Q} h => h.elim)
  | succ d ih =>
    have q0 := @ih
    exact (fun {l} {E} hE hm {a1} {a2} ca1 ca2 {σ} {Q} h => ce_X11_longestFrom (d := d) (rc_X11_longestFrom := wp_X11_longestFrom d) @q0 hE hm ca1 ca2 h)
theorem c_X11_longestFrom {l : Launch} {E : ev_E} (hE : Eok E) (hm : eM E = 2) (d : Nat) {a1 : Int} {a2 : Int} (ca1 : wr a1 = a1) (ca2 : wr a2 = a2) {σ : st_S} {Q : Int → st_S → Prop} : wp_X11_longestFrom d a1 a2 σ Q → cM l yX11_longestFrom cX11_longestFrom 7 (some .int) E (130 + d) 0 0 [vR E 0, vI a1, vI a2] σ (qI E (gN σ + 0) Q) := fun h => (ca_X11_longestFrom d) hE hm ca1 ca2 h
