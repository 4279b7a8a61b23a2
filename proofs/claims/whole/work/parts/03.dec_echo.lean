theorem dX10_init_0 : decode cX10_init 0 = .ok (.aload_n 0, 1) := by decide +kernel
theorem dX10_init_1 : decode cX10_init 1 = .ok (.invokespecial 3, 3) := by decide +kernel
theorem dX10_init_4 : decode cX10_init 4 = .ok (.aload_n 0, 1) := by decide +kernel
theorem dX10_init_5 : decode cX10_init 5 = .ok (.new 9, 3) := by decide +kernel
theorem dX10_init_8 : decode cX10_init 8 = .ok (.dup, 1) := by decide +kernel
theorem dX10_init_9 : decode cX10_init 9 = .ok (.invokespecial 11, 3) := by decide +kernel
theorem dX10_init_12 : decode cX10_init 12 = .ok (.putfield 12, 3) := by decide +kernel
theorem dX10_init_15 : decode cX10_init 15 = .ok (.aload_n 0, 1) := by decide +kernel
theorem dX10_init_16 : decode cX10_init 16 = .ok (.new 18, 3) := by decide +kernel
theorem dX10_init_19 : decode cX10_init 19 = .ok (.dup, 1) := by decide +kernel
theorem dX10_init_20 : decode cX10_init 20 = .ok (.invokespecial 20, 3) := by decide +kernel
theorem dX10_init_23 : decode cX10_init 23 = .ok (.putfield 21, 3) := by decide +kernel
theorem dX10_init_26 : decode cX10_init 26 = .ok (.aload_n 0, 1) := by decide +kernel
theorem dX10_init_27 : decode cX10_init 27 = .ok (.new 25, 3) := by decide +kernel
theorem dX10_init_30 : decode cX10_init 30 = .ok (.dup, 1) := by decide +kernel
theorem dX10_init_31 : decode cX10_init 31 = .ok (.invokespecial 27, 3) := by decide +kernel
theorem dX10_init_34 : decode cX10_init 34 = .ok (.putfield 28, 3) := by decide +kernel
theorem dX10_init_37 : decode cX10_init 37 = .ok (.aload_n 0, 1) := by decide +kernel
theorem dX10_init_38 : decode cX10_init 38 = .ok (.new 32, 3) := by decide +kernel
theorem dX10_init_41 : decode cX10_init 41 = .ok (.dup, 1) := by decide +kernel
theorem dX10_init_42 : decode cX10_init 42 = .ok (.invokespecial 34, 3) := by decide +kernel
theorem dX10_init_45 : decode cX10_init 45 = .ok (.putfield 35, 3) := by decide +kernel
theorem dX10_init_48 : decode cX10_init 48 = .ok (.aload_n 0, 1) := by decide +kernel
theorem dX10_init_49 : decode cX10_init 49 = .ok (.new 39, 3) := by decide +kernel
theorem dX10_init_52 : decode cX10_init 52 = .ok (.dup, 1) := by decide +kernel
theorem dX10_init_53 : decode cX10_init 53 = .ok (.invokespecial 41, 3) := by decide +kernel
theorem dX10_init_56 : decode cX10_init 56 = .ok (.putfield 42, 3) := by decide +kernel
theorem dX10_init_59 : decode cX10_init 59 = .ok (.aload_n 0, 1) := by decide +kernel
theorem dX10_init_60 : decode cX10_init 60 = .ok (.new 46, 3) := by decide +kernel
theorem dX10_init_63 : decode cX10_init 63 = .ok (.dup, 1) := by decide +kernel
theorem dX10_init_64 : decode cX10_init 64 = .ok (.invokespecial 48, 3) := by decide +kernel
theorem dX10_init_67 : decode cX10_init 67 = .ok (.putfield 49, 3) := by decide +kernel
theorem dX10_init_70 : decode cX10_init 70 = .ok (.aload_n 0, 1) := by decide +kernel
theorem dX10_init_71 : decode cX10_init 71 = .ok (.new 53, 3) := by decide +kernel
theorem dX10_init_74 : decode cX10_init 74 = .ok (.dup, 1) := by decide +kernel
theorem dX10_init_75 : decode cX10_init 75 = .ok (.invokespecial 55, 3) := by decide +kernel
theorem dX10_init_78 : decode cX10_init 78 = .ok (.putfield 56, 3) := by decide +kernel
theorem dX10_init_81 : decode cX10_init 81 = .ok (.aload_n 0, 1) := by decide +kernel
theorem dX10_init_82 : decode cX10_init 82 = .ok (.new 60, 3) := by decide +kernel
theorem dX10_init_85 : decode cX10_init 85 = .ok (.dup, 1) := by decide +kernel
theorem dX10_init_86 : decode cX10_init 86 = .ok (.invokespecial 62, 3) := by decide +kernel
theorem dX10_init_89 : decode cX10_init 89 = .ok (.putfield 63, 3) := by decide +kernel
theorem dX10_init_92 : decode cX10_init 92 = .ok (.aload_n 0, 1) := by decide +kernel
theorem dX10_init_93 : decode cX10_init 93 = .ok (.new 67, 3) := by decide +kernel
theorem dX10_init_96 : decode cX10_init 96 = .ok (.dup, 1) := by decide +kernel
theorem dX10_init_97 : decode cX10_init 97 = .ok (.invokespecial 69, 3) := by decide +kernel
theorem dX10_init_100 : decode cX10_init 100 = .ok (.putfield 70, 3) := by decide +kernel
theorem dX10_init_103 : decode cX10_init 103 = .ok (.aload_n 0, 1) := by decide +kernel
theorem dX10_init_104 : decode cX10_init 104 = .ok (.iconst 5, 1) := by decide +kernel
theorem dX10_init_105 : decode cX10_init 105 = .ok (.newarray .long, 2) := by decide +kernel
theorem dX10_init_107 : decode cX10_init 107 = .ok (.putfield 74, 3) := by decide +kernel
theorem dX10_init_110 : decode cX10_init 110 = .ok (.aload_n 0, 1) := by decide +kernel
theorem dX10_init_111 : decode cX10_init 111 = .ok (.bipush 7, 2) := by decide +kernel
theorem dX10_init_113 : decode cX10_init 113 = .ok (.anewarray 78, 3) := by decide +kernel
theorem dX10_init_116 : decode cX10_init 116 = .ok (.putfield 80, 3) := by decide +kernel
theorem dX10_init_119 : decode cX10_init 119 = .ok (.aload_n 0, 1) := by decide +kernel
theorem dX10_init_120 : decode cX10_init 120 = .ok (.new 78, 3) := by decide +kernel
theorem dX10_init_123 : decode cX10_init 123 = .ok (.dup, 1) := by decide +kernel
theorem dX10_init_124 : decode cX10_init 124 = .ok (.invokespecial 84, 3) := by decide +kernel
theorem dX10_init_127 : decode cX10_init 127 = .ok (.putfield 85, 3) := by decide +kernel
theorem dX10_init_130 : decode cX10_init 130 = .ok (.aload_n 0, 1) := by decide +kernel
theorem dX10_init_131 : decode cX10_init 131 = .ok (.bipush 8, 2) := by decide +kernel
theorem dX10_init_133 : decode cX10_init 133 = .ok (.newarray .int, 2) := by decide +kernel
theorem dX10_init_135 : decode cX10_init 135 = .ok (.putfield 89, 3) := by decide +kernel
theorem dX10_init_138 : decode cX10_init 138 = .ok (.aload_n 0, 1) := by decide +kernel
theorem dX10_init_139 : decode cX10_init 139 = .ok (.bipush 8, 2) := by decide +kernel
theorem dX10_init_141 : decode cX10_init 141 = .ok (.newarray .int, 2) := by decide +kernel
theorem dX10_init_143 : decode cX10_init 143 = .ok (.putfield 93, 3) := by decide +kernel
theorem dX10_init_146 : decode cX10_init 146 = .ok (.aload_n 0, 1) := by decide +kernel
theorem dX10_init_147 : decode cX10_init 147 = .ok (.bipush 6, 2) := by decide +kernel
theorem dX10_init_149 : decode cX10_init 149 = .ok (.newarray .int, 2) := by decide +kernel
theorem dX10_init_151 : decode cX10_init 151 = .ok (.putfield 96, 3) := by decide +kernel
theorem dX10_init_154 : decode cX10_init 154 = .ok (.aload_n 0, 1) := by decide +kernel
theorem dX10_init_155 : decode cX10_init 155 = .ok (.getfield 80, 3) := by decide +kernel
theorem dX10_init_158 : decode cX10_init 158 = .ok (.iconst 0, 1) := by decide +kernel
theorem dX10_init_159 : decode cX10_init 159 = .ok (.aload_n 0, 1) := by decide +kernel
theorem dX10_init_160 : decode cX10_init 160 = .ok (.getfield 85, 3) := by decide +kernel
theorem dX10_init_163 : decode cX10_init 163 = .ok (.aastore, 1) := by decide +kernel
theorem dX10_init_164 : decode cX10_init 164 = .ok (.iconst 1, 1) := by decide +kernel
theorem dX10_init_165 : decode cX10_init 165 = .ok (.istore_n 1, 1) := by decide +kernel
theorem dX10_init_166 : decode cX10_init 166 = .ok (.iload_n 1, 1) := by decide +kernel
theorem dX10_init_167 : decode cX10_init 167 = .ok (.aload_n 0, 1) := by decide +kernel
theorem dX10_init_168 : decode cX10_init 168 = .ok (.getfield 80, 3) := by decide +kernel
theorem dX10_init_171 : decode cX10_init 171 = .ok (.arraylength, 1) := by decide +kernel
theorem dX10_init_172 : decode cX10_init 172 = .ok (.if_icmp .ge 22, 3) := by decide +kernel
theorem dX10_init_175 : decode cX10_init 175 = .ok (.aload_n 0, 1) := by decide +kernel
theorem dX10_init_176 : decode cX10_init 176 = .ok (.getfield 80, 3) := by decide +kernel
theorem dX10_init_179 : decode cX10_init 179 = .ok (.iload_n 1, 1) := by decide +kernel
theorem dX10_init_180 : decode cX10_init 180 = .ok (.new 78, 3) := by decide +kernel
theorem dX10_init_183 : decode cX10_init 183 = .ok (.dup, 1) := by decide +kernel
theorem dX10_init_184 : decode cX10_init 184 = .ok (.invokespecial 84, 3) := by decide +kernel
theorem dX10_init_187 : decode cX10_init 187 = .ok (.aastore, 1) := by decide +kernel
theorem dX10_init_188 : decode cX10_init 188 = .ok (.iinc 1 1, 3) := by decide +kernel
theorem dX10_init_191 : decode cX10_init 191 = .ok (.goto (-25), 3) := by decide +kernel
theorem dX10_init_194 : decode cX10_init 194 = .ok (.return_, 1) := by decide +kernel
theorem dX10_stage_0 : decode cX10_stage 0 = .ok (.aload_n 0, 1) := by decide +kernel
theorem dX10_stage_1 : decode cX10_stage 1 = .ok (.getfield 12, 3) := by decide +kernel
theorem dX10_stage_4 : decode cX10_stage 4 = .ok (.getfield 99, 3) := by decide +kernel
theorem dX10_stage_7 : decode cX10_stage 7 = .ok (.istore 6, 2) := by decide +kernel
theorem dX10_stage_9 : decode cX10_stage 9 = .ok (.iload 6, 2) := by decide +kernel
theorem dX10_stage_11 : decode cX10_stage 11 = .ok (.ifCond .ne 7, 3) := by decide +kernel
theorem dX10_stage_14 : decode cX10_stage 14 = .ok (.iconst 1, 1) := by decide +kernel
theorem dX10_stage_15 : decode cX10_stage 15 = .ok (.goto 4, 3) := by decide +kernel
theorem dX10_stage_18 : decode cX10_stage 18 = .ok (.iconst 0, 1) := by decide +kernel
theorem dX10_stage_19 : decode cX10_stage 19 = .ok (.istore 7, 2) := by decide +kernel
theorem dX10_stage_21 : decode cX10_stage 21 = .ok (.iload 7, 2) := by decide +kernel
theorem dX10_stage_23 : decode cX10_stage 23 = .ok (.ifCond .eq 10, 3) := by decide +kernel
theorem dX10_stage_26 : decode cX10_stage 26 = .ok (.iload_n 2, 1) := by decide +kernel
theorem dX10_stage_27 : decode cX10_stage 27 = .ok (.ifCond .eq 19, 3) := by decide +kernel
theorem dX10_stage_30 : decode cX10_stage 30 = .ok (.goto 14, 3) := by decide +kernel
theorem dX10_stage_33 : decode cX10_stage 33 = .ok (.aload_n 0, 1) := by decide +kernel
theorem dX10_stage_34 : decode cX10_stage 34 = .ok (.getfield 12, 3) := by decide +kernel
theorem dX10_stage_37 : decode cX10_stage 37 = .ok (.iload_n 2, 1) := by decide +kernel
theorem dX10_stage_38 : decode cX10_stage 38 = .ok (.invokevirtual 103, 3) := by decide +kernel
theorem dX10_stage_41 : decode cX10_stage 41 = .ok (.ifCond .ne 5, 3) := by decide +kernel
theorem dX10_stage_44 : decode cX10_stage 44 = .ok (.iconst (-1), 1) := by decide +kernel
theorem dX10_stage_45 : decode cX10_stage 45 = .ok (.ireturn, 1) := by decide +kernel
theorem dX10_stage_46 : decode cX10_stage 46 = .ok (.iload 7, 2) := by decide +kernel
theorem dX10_stage_48 : decode cX10_stage 48 = .ok (.ifCond .eq 10, 3) := by decide +kernel
theorem dX10_stage_51 : decode cX10_stage 51 = .ok (.iload_n 1, 1) := by decide +kernel
theorem dX10_stage_52 : decode cX10_stage 52 = .ok (.ifCond .eq 18, 3) := by decide +kernel
theorem dX10_stage_55 : decode cX10_stage 55 = .ok (.goto 12, 3) := by decide +kernel
theorem dX10_stage_58 : decode cX10_stage 58 = .ok (.iload_n 1, 1) := by decide +kernel
theorem dX10_stage_59 : decode cX10_stage 59 = .ok (.iconst 1, 1) := by decide +kernel
theorem dX10_stage_60 : decode cX10_stage 60 = .ok (.iconst 3, 1) := by decide +kernel
theorem dX10_stage_61 : decode cX10_stage 61 = .ok (.invokestatic 107, 3) := by decide +kernel
theorem dX10_stage_64 : decode cX10_stage 64 = .ok (.ifCond .ne 6, 3) := by decide +kernel
theorem dX10_stage_67 : decode cX10_stage 67 = .ok (.bipush (-2), 2) := by decide +kernel
theorem dX10_stage_69 : decode cX10_stage 69 = .ok (.ireturn, 1) := by decide +kernel
theorem dX10_stage_70 : decode cX10_stage 70 = .ok (.iload_n 3, 1) := by decide +kernel
theorem dX10_stage_71 : decode cX10_stage 71 = .ok (.iconst 1, 1) := by decide +kernel
theorem dX10_stage_72 : decode cX10_stage 72 = .ok (.bipush 6, 2) := by decide +kernel
theorem dX10_stage_74 : decode cX10_stage 74 = .ok (.invokestatic 107, 3) := by decide +kernel
theorem dX10_stage_77 : decode cX10_stage 77 = .ok (.ifCond .eq 25, 3) := by decide +kernel
theorem dX10_stage_80 : decode cX10_stage 80 = .ok (.iload 4, 2) := by decide +kernel
theorem dX10_stage_82 : decode cX10_stage 82 = .ok (.iconst 0, 1) := by decide +kernel
theorem dX10_stage_83 : decode cX10_stage 83 = .ok (.iconst 3, 1) := by decide +kernel
theorem dX10_stage_84 : decode cX10_stage 84 = .ok (.invokestatic 107, 3) := by decide +kernel
theorem dX10_stage_87 : decode cX10_stage 87 = .ok (.ifCond .eq 15, 3) := by decide +kernel
theorem dX10_stage_90 : decode cX10_stage 90 = .ok (.iload 5, 2) := by decide +kernel
theorem dX10_stage_92 : decode cX10_stage 92 = .ok (.iconst 0, 1) := by decide +kernel
theorem dX10_stage_93 : decode cX10_stage 93 = .ok (.sipush 9999, 3) := by decide +kernel
theorem dX10_stage_96 : decode cX10_stage 96 = .ok (.invokestatic 107, 3) := by decide +kernel
theorem dX10_stage_99 : decode cX10_stage 99 = .ok (.ifCond .ne 6, 3) := by decide +kernel
theorem dX10_stage_102 : decode cX10_stage 102 = .ok (.bipush (-2), 2) := by decide +kernel
theorem dX10_stage_104 : decode cX10_stage 104 = .ok (.ireturn, 1) := by decide +kernel
theorem dX10_stage_105 : decode cX10_stage 105 = .ok (.iload 7, 2) := by decide +kernel
theorem dX10_stage_107 : decode cX10_stage 107 = .ok (.ifCond .ne 17, 3) := by decide +kernel
theorem dX10_stage_110 : decode cX10_stage 110 = .ok (.aload_n 0, 1) := by decide +kernel
theorem dX10_stage_111 : decode cX10_stage 111 = .ok (.getfield 12, 3) := by decide +kernel
theorem dX10_stage_114 : decode cX10_stage 114 = .ok (.iload_n 2, 1) := by decide +kernel
theorem dX10_stage_115 : decode cX10_stage 115 = .ok (.invokevirtual 111, 3) := by decide +kernel
theorem dX10_stage_118 : decode cX10_stage 118 = .ok (.ifCond .eq 6, 3) := by decide +kernel
theorem dX10_stage_121 : decode cX10_stage 121 = .ok (.bipush (-2), 2) := by decide +kernel
theorem dX10_stage_123 : decode cX10_stage 123 = .ok (.ireturn, 1) := by decide +kernel
theorem dX10_stage_124 : decode cX10_stage 124 = .ok (.aload_n 0, 1) := by decide +kernel
theorem dX10_stage_125 : decode cX10_stage 125 = .ok (.getfield 85, 3) := by decide +kernel
theorem dX10_stage_128 : decode cX10_stage 128 = .ok (.getfield 114, 3) := by decide +kernel
theorem dX10_stage_131 : decode cX10_stage 131 = .ok (.ifCond .le 6, 3) := by decide +kernel
theorem dX10_stage_134 : decode cX10_stage 134 = .ok (.bipush (-3), 2) := by decide +kernel
theorem dX10_stage_136 : decode cX10_stage 136 = .ok (.ireturn, 1) := by decide +kernel
theorem dX10_stage_137 : decode cX10_stage 137 = .ok (.iload 6, 2) := by decide +kernel
theorem dX10_stage_139 : decode cX10_stage 139 = .ok (.bipush 8, 2) := by decide +kernel
theorem dX10_stage_141 : decode cX10_stage 141 = .ok (.if_icmp .lt 6, 3) := by decide +kernel
theorem dX10_stage_144 : decode cX10_stage 144 = .ok (.bipush (-4), 2) := by decide +kernel
theorem dX10_stage_146 : decode cX10_stage 146 = .ok (.ireturn, 1) := by decide +kernel
theorem dX10_stage_147 : decode cX10_stage 147 = .ok (.aload_n 0, 1) := by decide +kernel
theorem dX10_stage_148 : decode cX10_stage 148 = .ok (.getfield 12, 3) := by decide +kernel
theorem dX10_stage_151 : decode cX10_stage 151 = .ok (.iload_n 1, 1) := by decide +kernel
theorem dX10_stage_152 : decode cX10_stage 152 = .ok (.iload 7, 2) := by decide +kernel
theorem dX10_stage_154 : decode cX10_stage 154 = .ok (.ifCond .eq 7, 3) := by decide +kernel
theorem dX10_stage_157 : decode cX10_stage 157 = .ok (.iconst (-1), 1) := by decide +kernel
theorem dX10_stage_158 : decode cX10_stage 158 = .ok (.goto 4, 3) := by decide +kernel
theorem dX10_stage_161 : decode cX10_stage 161 = .ok (.iload_n 2, 1) := by decide +kernel
theorem dX10_stage_162 : decode cX10_stage 162 = .ok (.iload_n 3, 1) := by decide +kernel
theorem dX10_stage_163 : decode cX10_stage 163 = .ok (.iload 4, 2) := by decide +kernel
theorem dX10_stage_165 : decode cX10_stage 165 = .ok (.iload 5, 2) := by decide +kernel
theorem dX10_stage_167 : decode cX10_stage 167 = .ok (.invokevirtual 117, 3) := by decide +kernel
theorem dX10_stage_170 : decode cX10_stage 170 = .ok (.aload_n 0, 1) := by decide +kernel
theorem dX10_stage_171 : decode cX10_stage 171 = .ok (.getfield 85, 3) := by decide +kernel
theorem dX10_stage_174 : decode cX10_stage 174 = .ok (.getfield 121, 3) := by decide +kernel
theorem dX10_stage_177 : decode cX10_stage 177 = .ok (.iload 6, 2) := by decide +kernel
theorem dX10_stage_179 : decode cX10_stage 179 = .ok (.iload 5, 2) := by decide +kernel
theorem dX10_stage_181 : decode cX10_stage 181 = .ok (.iastore, 1) := by decide +kernel
theorem dX10_stage_182 : decode cX10_stage 182 = .ok (.iload 6, 2) := by decide +kernel
theorem dX10_stage_184 : decode cX10_stage 184 = .ok (.ireturn, 1) := by decide +kernel
theorem dX10_set_0 : decode cX10_set 0 = .ok (.aload_n 0, 1) := by decide +kernel
theorem dX10_set_1 : decode cX10_set 1 = .ok (.getfield 12, 3) := by decide +kernel
theorem dX10_set_4 : decode cX10_set 4 = .ok (.iload_n 1, 1) := by decide +kernel
theorem dX10_set_5 : decode cX10_set 5 = .ok (.invokevirtual 103, 3) := by decide +kernel
theorem dX10_set_8 : decode cX10_set 8 = .ok (.ifCond .eq 12, 3) := by decide +kernel
theorem dX10_set_11 : decode cX10_set 11 = .ok (.iload_n 2, 1) := by decide +kernel
theorem dX10_set_12 : decode cX10_set 12 = .ok (.iconst 0, 1) := by decide +kernel
theorem dX10_set_13 : decode cX10_set 13 = .ok (.iconst 3, 1) := by decide +kernel
theorem dX10_set_14 : decode cX10_set 14 = .ok (.invokestatic 107, 3) := by decide +kernel
theorem dX10_set_17 : decode cX10_set 17 = .ok (.ifCond .ne 5, 3) := by decide +kernel
theorem dX10_set_20 : decode cX10_set 20 = .ok (.iconst (-1), 1) := by decide +kernel
theorem dX10_set_21 : decode cX10_set 21 = .ok (.ireturn, 1) := by decide +kernel
theorem dX10_set_22 : decode cX10_set 22 = .ok (.aload_n 0, 1) := by decide +kernel
theorem dX10_set_23 : decode cX10_set 23 = .ok (.getfield 12, 3) := by decide +kernel
theorem dX10_set_26 : decode cX10_set 26 = .ok (.iload_n 2, 1) := by decide +kernel
theorem dX10_set_27 : decode cX10_set 27 = .ok (.invokevirtual 124, 3) := by decide +kernel
theorem dX10_set_30 : decode cX10_set 30 = .ok (.astore 4, 2) := by decide +kernel
theorem dX10_set_32 : decode cX10_set 32 = .ok (.iload_n 2, 1) := by decide +kernel
theorem dX10_set_33 : decode cX10_set 33 = .ok (.iconst 2, 1) := by decide +kernel
theorem dX10_set_34 : decode cX10_set 34 = .ok (.if_icmp .ge 7, 3) := by decide +kernel
theorem dX10_set_37 : decode cX10_set 37 = .ok (.iconst 1, 1) := by decide +kernel
theorem dX10_set_38 : decode cX10_set 38 = .ok (.goto 4, 3) := by decide +kernel
theorem dX10_set_41 : decode cX10_set 41 = .ok (.iconst 0, 1) := by decide +kernel
theorem dX10_set_42 : decode cX10_set 42 = .ok (.istore 5, 2) := by decide +kernel
theorem dX10_set_44 : decode cX10_set 44 = .ok (.iload_n 2, 1) := by decide +kernel
theorem dX10_set_45 : decode cX10_set 45 = .ok (.ifCond .ne 8, 3) := by decide +kernel
theorem dX10_set_48 : decode cX10_set 48 = .ok (.bipush 50, 2) := by decide +kernel
theorem dX10_set_50 : decode cX10_set 50 = .ok (.goto 16, 3) := by decide +kernel
theorem dX10_set_53 : decode cX10_set 53 = .ok (.iload_n 2, 1) := by decide +kernel
theorem dX10_set_54 : decode cX10_set 54 = .ok (.iconst 1, 1) := by decide +kernel
theorem dX10_set_55 : decode cX10_set 55 = .ok (.if_icmp .ne 9, 3) := by decide +kernel
theorem dX10_set_58 : decode cX10_set 58 = .ok (.sipush 9999, 3) := by decide +kernel
theorem dX10_set_61 : decode cX10_set 61 = .ok (.goto 5, 3) := by decide +kernel
theorem dX10_set_64 : decode cX10_set 64 = .ok (.bipush 99, 2) := by decide +kernel
theorem dX10_set_66 : decode cX10_set 66 = .ok (.istore 6, 2) := by decide +kernel
theorem dX10_set_68 : decode cX10_set 68 = .ok (.iload_n 3, 1) := by decide +kernel
theorem dX10_set_69 : decode cX10_set 69 = .ok (.iload 5, 2) := by decide +kernel
theorem dX10_set_71 : decode cX10_set 71 = .ok (.iload 6, 2) := by decide +kernel
theorem dX10_set_73 : decode cX10_set 73 = .ok (.invokestatic 107, 3) := by decide +kernel
theorem dX10_set_76 : decode cX10_set 76 = .ok (.ifCond .ne 6, 3) := by decide +kernel
theorem dX10_set_79 : decode cX10_set 79 = .ok (.bipush (-2), 2) := by decide +kernel
theorem dX10_set_81 : decode cX10_set 81 = .ok (.ireturn, 1) := by decide +kernel
theorem dX10_set_82 : decode cX10_set 82 = .ok (.aload 4, 2) := by decide +kernel
theorem dX10_set_84 : decode cX10_set 84 = .ok (.iload_n 1, 1) := by decide +kernel
theorem dX10_set_85 : decode cX10_set 85 = .ok (.iaload, 1) := by decide +kernel
theorem dX10_set_86 : decode cX10_set 86 = .ok (.istore 7, 2) := by decide +kernel
theorem dX10_set_88 : decode cX10_set 88 = .ok (.aload 4, 2) := by decide +kernel
theorem dX10_set_90 : decode cX10_set 90 = .ok (.iload_n 1, 1) := by decide +kernel
theorem dX10_set_91 : decode cX10_set 91 = .ok (.iload_n 3, 1) := by decide +kernel
theorem dX10_set_92 : decode cX10_set 92 = .ok (.iastore, 1) := by decide +kernel
theorem dX10_set_93 : decode cX10_set 93 = .ok (.iload 7, 2) := by decide +kernel
theorem dX10_set_95 : decode cX10_set 95 = .ok (.ireturn, 1) := by decide +kernel
theorem dX10_use_0 : decode cX10_use 0 = .ok (.aload_n 0, 1) := by decide +kernel
theorem dX10_use_1 : decode cX10_use 1 = .ok (.getfield 12, 3) := by decide +kernel
theorem dX10_use_4 : decode cX10_use 4 = .ok (.iload_n 1, 1) := by decide +kernel
theorem dX10_use_5 : decode cX10_use 5 = .ok (.invokevirtual 103, 3) := by decide +kernel
theorem dX10_use_8 : decode cX10_use 8 = .ok (.ifCond .eq 19, 3) := by decide +kernel
theorem dX10_use_11 : decode cX10_use 11 = .ok (.iload_n 2, 1) := by decide +kernel
theorem dX10_use_12 : decode cX10_use 12 = .ok (.iconst (-1), 1) := by decide +kernel
theorem dX10_use_13 : decode cX10_use 13 = .ok (.if_icmp .eq 17, 3) := by decide +kernel
theorem dX10_use_16 : decode cX10_use 16 = .ok (.aload_n 0, 1) := by decide +kernel
theorem dX10_use_17 : decode cX10_use 17 = .ok (.getfield 21, 3) := by decide +kernel
theorem dX10_use_20 : decode cX10_use 20 = .ok (.iload_n 2, 1) := by decide +kernel
theorem dX10_use_21 : decode cX10_use 21 = .ok (.invokevirtual 128, 3) := by decide +kernel
theorem dX10_use_24 : decode cX10_use 24 = .ok (.ifCond .ne 6, 3) := by decide +kernel
theorem dX10_use_27 : decode cX10_use 27 = .ok (.bipush (-5), 2) := by decide +kernel
theorem dX10_use_29 : decode cX10_use 29 = .ok (.ireturn, 1) := by decide +kernel
theorem dX10_use_30 : decode cX10_use 30 = .ok (.aload_n 0, 1) := by decide +kernel
theorem dX10_use_31 : decode cX10_use 31 = .ok (.getfield 12, 3) := by decide +kernel
theorem dX10_use_34 : decode cX10_use 34 = .ok (.getfield 129, 3) := by decide +kernel
theorem dX10_use_37 : decode cX10_use 37 = .ok (.iload_n 1, 1) := by decide +kernel
theorem dX10_use_38 : decode cX10_use 38 = .ok (.iaload, 1) := by decide +kernel
theorem dX10_use_39 : decode cX10_use 39 = .ok (.istore_n 3, 1) := by decide +kernel
theorem dX10_use_40 : decode cX10_use 40 = .ok (.aload_n 0, 1) := by decide +kernel
theorem dX10_use_41 : decode cX10_use 41 = .ok (.getfield 12, 3) := by decide +kernel
theorem dX10_use_44 : decode cX10_use 44 = .ok (.getfield 129, 3) := by decide +kernel
theorem dX10_use_47 : decode cX10_use 47 = .ok (.iload_n 1, 1) := by decide +kernel
theorem dX10_use_48 : decode cX10_use 48 = .ok (.iload_n 2, 1) := by decide +kernel
theorem dX10_use_49 : decode cX10_use 49 = .ok (.iastore, 1) := by decide +kernel
theorem dX10_use_50 : decode cX10_use 50 = .ok (.iload_n 3, 1) := by decide +kernel
theorem dX10_use_51 : decode cX10_use 51 = .ok (.ireturn, 1) := by decide +kernel
theorem dX10_allot_0 : decode cX10_allot 0 = .ok (.iload_n 1, 1) := by decide +kernel
theorem dX10_allot_1 : decode cX10_allot 1 = .ok (.iconst 0, 1) := by decide +kernel
theorem dX10_allot_2 : decode cX10_allot 2 = .ok (.iconst 2, 1) := by decide +kernel
theorem dX10_allot_3 : decode cX10_allot 3 = .ok (.invokestatic 107, 3) := by decide +kernel
theorem dX10_allot_6 : decode cX10_allot 6 = .ok (.ifCond .ne 6, 3) := by decide +kernel
theorem dX10_allot_9 : decode cX10_allot 9 = .ok (.bipush (-2), 2) := by decide +kernel
theorem dX10_allot_11 : decode cX10_allot 11 = .ok (.ireturn, 1) := by decide +kernel
theorem dX10_allot_12 : decode cX10_allot 12 = .ok (.aload_n 0, 1) := by decide +kernel
theorem dX10_allot_13 : decode cX10_allot 13 = .ok (.getfield 12, 3) := by decide +kernel
theorem dX10_allot_16 : decode cX10_allot 16 = .ok (.getfield 132, 3) := by decide +kernel
theorem dX10_allot_19 : decode cX10_allot 19 = .ok (.istore_n 2, 1) := by decide +kernel
theorem dX10_allot_20 : decode cX10_allot 20 = .ok (.aload_n 0, 1) := by decide +kernel
theorem dX10_allot_21 : decode cX10_allot 21 = .ok (.getfield 12, 3) := by decide +kernel
theorem dX10_allot_24 : decode cX10_allot 24 = .ok (.iload_n 1, 1) := by decide +kernel
theorem dX10_allot_25 : decode cX10_allot 25 = .ok (.putfield 132, 3) := by decide +kernel
theorem dX10_allot_28 : decode cX10_allot 28 = .ok (.iload_n 2, 1) := by decide +kernel
theorem dX10_allot_29 : decode cX10_allot 29 = .ok (.ireturn, 1) := by decide +kernel
theorem dX10_about_0 : decode cX10_about 0 = .ok (.aload_n 0, 1) := by decide +kernel
theorem dX10_about_1 : decode cX10_about 1 = .ok (.getfield 12, 3) := by decide +kernel
theorem dX10_about_4 : decode cX10_about 4 = .ok (.iload_n 1, 1) := by decide +kernel
theorem dX10_about_5 : decode cX10_about 5 = .ok (.invokevirtual 103, 3) := by decide +kernel
theorem dX10_about_8 : decode cX10_about 8 = .ok (.ifCond .ne 5, 3) := by decide +kernel
theorem dX10_about_11 : decode cX10_about 11 = .ok (.iconst (-1), 1) := by decide +kernel
theorem dX10_about_12 : decode cX10_about 12 = .ok (.ireturn, 1) := by decide +kernel
theorem dX10_about_13 : decode cX10_about 13 = .ok (.iload_n 2, 1) := by decide +kernel
theorem dX10_about_14 : decode cX10_about 14 = .ok (.tableswitch 208 0 12 #[66, 76, 86, 96, 106, 116, 126, 136, 146, 156, 172, 188, 198], 66) := by decide +kernel
theorem dX10_about_80 : decode cX10_about 80 = .ok (.aload_n 0, 1) := by decide +kernel
theorem dX10_about_81 : decode cX10_about 81 = .ok (.getfield 12, 3) := by decide +kernel
theorem dX10_about_84 : decode cX10_about 84 = .ok (.getfield 135, 3) := by decide +kernel
theorem dX10_about_87 : decode cX10_about 87 = .ok (.iload_n 1, 1) := by decide +kernel
theorem dX10_about_88 : decode cX10_about 88 = .ok (.iaload, 1) := by decide +kernel
theorem dX10_about_89 : decode cX10_about 89 = .ok (.ireturn, 1) := by decide +kernel
theorem dX10_about_90 : decode cX10_about 90 = .ok (.aload_n 0, 1) := by decide +kernel
theorem dX10_about_91 : decode cX10_about 91 = .ok (.getfield 12, 3) := by decide +kernel
theorem dX10_about_94 : decode cX10_about 94 = .ok (.getfield 138, 3) := by decide +kernel
theorem dX10_about_97 : decode cX10_about 97 = .ok (.iload_n 1, 1) := by decide +kernel
theorem dX10_about_98 : decode cX10_about 98 = .ok (.iaload, 1) := by decide +kernel
theorem dX10_about_99 : decode cX10_about 99 = .ok (.ireturn, 1) := by decide +kernel
theorem dX10_about_100 : decode cX10_about 100 = .ok (.aload_n 0, 1) := by decide +kernel
theorem dX10_about_101 : decode cX10_about 101 = .ok (.getfield 12, 3) := by decide +kernel
theorem dX10_about_104 : decode cX10_about 104 = .ok (.getfield 141, 3) := by decide +kernel
theorem dX10_about_107 : decode cX10_about 107 = .ok (.iload_n 1, 1) := by decide +kernel
theorem dX10_about_108 : decode cX10_about 108 = .ok (.iaload, 1) := by decide +kernel
theorem dX10_about_109 : decode cX10_about 109 = .ok (.ireturn, 1) := by decide +kernel
theorem dX10_about_110 : decode cX10_about 110 = .ok (.aload_n 0, 1) := by decide +kernel
theorem dX10_about_111 : decode cX10_about 111 = .ok (.getfield 12, 3) := by decide +kernel
theorem dX10_about_114 : decode cX10_about 114 = .ok (.getfield 144, 3) := by decide +kernel
theorem dX10_about_117 : decode cX10_about 117 = .ok (.iload_n 1, 1) := by decide +kernel
theorem dX10_about_118 : decode cX10_about 118 = .ok (.iaload, 1) := by decide +kernel
theorem dX10_about_119 : decode cX10_about 119 = .ok (.ireturn, 1) := by decide +kernel
theorem dX10_about_120 : decode cX10_about 120 = .ok (.aload_n 0, 1) := by decide +kernel
theorem dX10_about_121 : decode cX10_about 121 = .ok (.getfield 12, 3) := by decide +kernel
theorem dX10_about_124 : decode cX10_about 124 = .ok (.getfield 147, 3) := by decide +kernel
theorem dX10_about_127 : decode cX10_about 127 = .ok (.iload_n 1, 1) := by decide +kernel
theorem dX10_about_128 : decode cX10_about 128 = .ok (.iaload, 1) := by decide +kernel
theorem dX10_about_129 : decode cX10_about 129 = .ok (.ireturn, 1) := by decide +kernel
theorem dX10_about_130 : decode cX10_about 130 = .ok (.aload_n 0, 1) := by decide +kernel
theorem dX10_about_131 : decode cX10_about 131 = .ok (.getfield 12, 3) := by decide +kernel
theorem dX10_about_134 : decode cX10_about 134 = .ok (.getfield 150, 3) := by decide +kernel
theorem dX10_about_137 : decode cX10_about 137 = .ok (.iload_n 1, 1) := by decide +kernel
theorem dX10_about_138 : decode cX10_about 138 = .ok (.iaload, 1) := by decide +kernel
theorem dX10_about_139 : decode cX10_about 139 = .ok (.ireturn, 1) := by decide +kernel
theorem dX10_about_140 : decode cX10_about 140 = .ok (.aload_n 0, 1) := by decide +kernel
theorem dX10_about_141 : decode cX10_about 141 = .ok (.getfield 85, 3) := by decide +kernel
theorem dX10_about_144 : decode cX10_about 144 = .ok (.getfield 121, 3) := by decide +kernel
theorem dX10_about_147 : decode cX10_about 147 = .ok (.iload_n 1, 1) := by decide +kernel
theorem dX10_about_148 : decode cX10_about 148 = .ok (.iaload, 1) := by decide +kernel
theorem dX10_about_149 : decode cX10_about 149 = .ok (.ireturn, 1) := by decide +kernel
theorem dX10_about_150 : decode cX10_about 150 = .ok (.aload_n 0, 1) := by decide +kernel
theorem dX10_about_151 : decode cX10_about 151 = .ok (.getfield 85, 3) := by decide +kernel
theorem dX10_about_154 : decode cX10_about 154 = .ok (.getfield 153, 3) := by decide +kernel
theorem dX10_about_157 : decode cX10_about 157 = .ok (.iload_n 1, 1) := by decide +kernel
theorem dX10_about_158 : decode cX10_about 158 = .ok (.iaload, 1) := by decide +kernel
theorem dX10_about_159 : decode cX10_about 159 = .ok (.ireturn, 1) := by decide +kernel
theorem dX10_about_160 : decode cX10_about 160 = .ok (.aload_n 0, 1) := by decide +kernel
theorem dX10_about_161 : decode cX10_about 161 = .ok (.getfield 85, 3) := by decide +kernel
theorem dX10_about_164 : decode cX10_about 164 = .ok (.getfield 156, 3) := by decide +kernel
theorem dX10_about_167 : decode cX10_about 167 = .ok (.iload_n 1, 1) := by decide +kernel
theorem dX10_about_168 : decode cX10_about 168 = .ok (.iaload, 1) := by decide +kernel
theorem dX10_about_169 : decode cX10_about 169 = .ok (.ireturn, 1) := by decide +kernel
theorem dX10_about_170 : decode cX10_about 170 = .ok (.aload_n 0, 1) := by decide +kernel
theorem dX10_about_171 : decode cX10_about 171 = .ok (.getfield 85, 3) := by decide +kernel
theorem dX10_about_174 : decode cX10_about 174 = .ok (.aload_n 0, 1) := by decide +kernel
theorem dX10_about_175 : decode cX10_about 175 = .ok (.getfield 85, 3) := by decide +kernel
theorem dX10_about_178 : decode cX10_about 178 = .ok (.getfield 159, 3) := by decide +kernel
theorem dX10_about_181 : decode cX10_about 181 = .ok (.iload_n 1, 1) := by decide +kernel
theorem dX10_about_182 : decode cX10_about 182 = .ok (.invokevirtual 162, 3) := by decide +kernel
theorem dX10_about_185 : decode cX10_about 185 = .ok (.ireturn, 1) := by decide +kernel
theorem dX10_about_186 : decode cX10_about 186 = .ok (.aload_n 0, 1) := by decide +kernel
theorem dX10_about_187 : decode cX10_about 187 = .ok (.getfield 85, 3) := by decide +kernel
theorem dX10_about_190 : decode cX10_about 190 = .ok (.aload_n 0, 1) := by decide +kernel
theorem dX10_about_191 : decode cX10_about 191 = .ok (.getfield 85, 3) := by decide +kernel
theorem dX10_about_194 : decode cX10_about 194 = .ok (.getfield 166, 3) := by decide +kernel
theorem dX10_about_197 : decode cX10_about 197 = .ok (.iload_n 1, 1) := by decide +kernel
theorem dX10_about_198 : decode cX10_about 198 = .ok (.invokevirtual 162, 3) := by decide +kernel
theorem dX10_about_201 : decode cX10_about 201 = .ok (.ireturn, 1) := by decide +kernel
theorem dX10_about_202 : decode cX10_about 202 = .ok (.aload_n 0, 1) := by decide +kernel
theorem dX10_about_203 : decode cX10_about 203 = .ok (.getfield 12, 3) := by decide +kernel
theorem dX10_about_206 : decode cX10_about 206 = .ok (.getfield 129, 3) := by decide +kernel
theorem dX10_about_209 : decode cX10_about 209 = .ok (.iload_n 1, 1) := by decide +kernel
theorem dX10_about_210 : decode cX10_about 210 = .ok (.iaload, 1) := by decide +kernel
theorem dX10_about_211 : decode cX10_about 211 = .ok (.ireturn, 1) := by decide +kernel
theorem dX10_about_212 : decode cX10_about 212 = .ok (.aload_n 0, 1) := by decide +kernel
theorem dX10_about_213 : decode cX10_about 213 = .ok (.getfield 85, 3) := by decide +kernel
theorem dX10_about_216 : decode cX10_about 216 = .ok (.getfield 169, 3) := by decide +kernel
theorem dX10_about_219 : decode cX10_about 219 = .ok (.iload_n 1, 1) := by decide +kernel
theorem dX10_about_220 : decode cX10_about 220 = .ok (.iaload, 1) := by decide +kernel
theorem dX10_about_221 : decode cX10_about 221 = .ok (.ireturn, 1) := by decide +kernel
theorem dX10_about_222 : decode cX10_about 222 = .ok (.iconst (-1), 1) := by decide +kernel
theorem dX10_about_223 : decode cX10_about 223 = .ok (.ireturn, 1) := by decide +kernel
theorem dX10_place_0 : decode cX10_place 0 = .ok (.aload_n 0, 1) := by decide +kernel
theorem dX10_place_1 : decode cX10_place 1 = .ok (.getfield 12, 3) := by decide +kernel
theorem dX10_place_4 : decode cX10_place 4 = .ok (.iload_n 1, 1) := by decide +kernel
theorem dX10_place_5 : decode cX10_place 5 = .ok (.invokevirtual 103, 3) := by decide +kernel
theorem dX10_place_8 : decode cX10_place 8 = .ok (.ifCond .eq 14, 3) := by decide +kernel
theorem dX10_place_11 : decode cX10_place 11 = .ok (.aload_n 0, 1) := by decide +kernel
theorem dX10_place_12 : decode cX10_place 12 = .ok (.getfield 85, 3) := by decide +kernel
theorem dX10_place_15 : decode cX10_place 15 = .ok (.iload_n 1, 1) := by decide +kernel
theorem dX10_place_16 : decode cX10_place 16 = .ok (.invokevirtual 172, 3) := by decide +kernel
theorem dX10_place_19 : decode cX10_place 19 = .ok (.goto 6, 3) := by decide +kernel
theorem dX10_place_22 : decode cX10_place 22 = .ok (.ldc2_w 176, 3) := by decide +kernel
theorem dX10_place_25 : decode cX10_place 25 = .ok (.lreturn, 1) := by decide +kernel
theorem dX10_slot_0 : decode cX10_slot 0 = .ok (.aload_n 0, 1) := by decide +kernel
theorem dX10_slot_1 : decode cX10_slot 1 = .ok (.getfield 12, 3) := by decide +kernel
theorem dX10_slot_4 : decode cX10_slot 4 = .ok (.iload_n 1, 1) := by decide +kernel
theorem dX10_slot_5 : decode cX10_slot 5 = .ok (.invokevirtual 103, 3) := by decide +kernel
theorem dX10_slot_8 : decode cX10_slot 8 = .ok (.ifCond .eq 20, 3) := by decide +kernel
theorem dX10_slot_11 : decode cX10_slot 11 = .ok (.iload_n 2, 1) := by decide +kernel
theorem dX10_slot_12 : decode cX10_slot 12 = .ok (.iconst 1, 1) := by decide +kernel
theorem dX10_slot_13 : decode cX10_slot 13 = .ok (.aload_n 0, 1) := by decide +kernel
theorem dX10_slot_14 : decode cX10_slot 14 = .ok (.getfield 12, 3) := by decide +kernel
theorem dX10_slot_17 : decode cX10_slot 17 = .ok (.getfield 141, 3) := by decide +kernel
theorem dX10_slot_20 : decode cX10_slot 20 = .ok (.iload_n 1, 1) := by decide +kernel
theorem dX10_slot_21 : decode cX10_slot 21 = .ok (.iaload, 1) := by decide +kernel
theorem dX10_slot_22 : decode cX10_slot 22 = .ok (.invokestatic 107, 3) := by decide +kernel
theorem dX10_slot_25 : decode cX10_slot 25 = .ok (.ifCond .ne 5, 3) := by decide +kernel
theorem dX10_slot_28 : decode cX10_slot 28 = .ok (.iconst (-1), 1) := by decide +kernel
theorem dX10_slot_29 : decode cX10_slot 29 = .ok (.ireturn, 1) := by decide +kernel
theorem dX10_slot_30 : decode cX10_slot 30 = .ok (.aload_n 0, 1) := by decide +kernel
theorem dX10_slot_31 : decode cX10_slot 31 = .ok (.getfield 85, 3) := by decide +kernel
theorem dX10_slot_34 : decode cX10_slot 34 = .ok (.getfield 178, 3) := by decide +kernel
theorem dX10_slot_37 : decode cX10_slot 37 = .ok (.iload_n 1, 1) := by decide +kernel
theorem dX10_slot_38 : decode cX10_slot 38 = .ok (.bipush 6, 2) := by decide +kernel
theorem dX10_slot_40 : decode cX10_slot 40 = .ok (.imul, 1) := by decide +kernel
theorem dX10_slot_41 : decode cX10_slot 41 = .ok (.iload_n 2, 1) := by decide +kernel
theorem dX10_slot_42 : decode cX10_slot 42 = .ok (.iadd, 1) := by decide +kernel
theorem dX10_slot_43 : decode cX10_slot 43 = .ok (.iconst 1, 1) := by decide +kernel
theorem dX10_slot_44 : decode cX10_slot 44 = .ok (.isub, 1) := by decide +kernel
theorem dX10_slot_45 : decode cX10_slot 45 = .ok (.iaload, 1) := by decide +kernel
theorem dX10_slot_46 : decode cX10_slot 46 = .ok (.ireturn, 1) := by decide +kernel
theorem dX10_owed_0 : decode cX10_owed 0 = .ok (.aload_n 0, 1) := by decide +kernel
theorem dX10_owed_1 : decode cX10_owed 1 = .ok (.getfield 12, 3) := by decide +kernel
theorem dX10_owed_4 : decode cX10_owed 4 = .ok (.iload_n 1, 1) := by decide +kernel
theorem dX10_owed_5 : decode cX10_owed 5 = .ok (.invokevirtual 103, 3) := by decide +kernel
theorem dX10_owed_8 : decode cX10_owed 8 = .ok (.ifCond .eq 14, 3) := by decide +kernel
theorem dX10_owed_11 : decode cX10_owed 11 = .ok (.aload_n 0, 1) := by decide +kernel
theorem dX10_owed_12 : decode cX10_owed 12 = .ok (.getfield 12, 3) := by decide +kernel
theorem dX10_owed_15 : decode cX10_owed 15 = .ok (.iload_n 2, 1) := by decide +kernel
theorem dX10_owed_16 : decode cX10_owed 16 = .ok (.invokevirtual 103, 3) := by decide +kernel
theorem dX10_owed_19 : decode cX10_owed 19 = .ok (.ifCond .ne 5, 3) := by decide +kernel
theorem dX10_owed_22 : decode cX10_owed 22 = .ok (.iconst (-1), 1) := by decide +kernel
theorem dX10_owed_23 : decode cX10_owed 23 = .ok (.ireturn, 1) := by decide +kernel
theorem dX10_owed_24 : decode cX10_owed 24 = .ok (.aload_n 0, 1) := by decide +kernel
theorem dX10_owed_25 : decode cX10_owed 25 = .ok (.getfield 12, 3) := by decide +kernel
theorem dX10_owed_28 : decode cX10_owed 28 = .ok (.iload_n 1, 1) := by decide +kernel
theorem dX10_owed_29 : decode cX10_owed 29 = .ok (.invokevirtual 111, 3) := by decide +kernel
theorem dX10_owed_32 : decode cX10_owed 32 = .ok (.ifCond .eq 22, 3) := by decide +kernel
theorem dX10_owed_35 : decode cX10_owed 35 = .ok (.iload_n 2, 1) := by decide +kernel
theorem dX10_owed_36 : decode cX10_owed 36 = .ok (.iload_n 1, 1) := by decide +kernel
theorem dX10_owed_37 : decode cX10_owed 37 = .ok (.if_icmp .ne 15, 3) := by decide +kernel
theorem dX10_owed_40 : decode cX10_owed 40 = .ok (.aload_n 0, 1) := by decide +kernel
theorem dX10_owed_41 : decode cX10_owed 41 = .ok (.getfield 85, 3) := by decide +kernel
theorem dX10_owed_44 : decode cX10_owed 44 = .ok (.getfield 153, 3) := by decide +kernel
theorem dX10_owed_47 : decode cX10_owed 47 = .ok (.iload_n 1, 1) := by decide +kernel
theorem dX10_owed_48 : decode cX10_owed 48 = .ok (.iaload, 1) := by decide +kernel
theorem dX10_owed_49 : decode cX10_owed 49 = .ok (.goto 4, 3) := by decide +kernel
theorem dX10_owed_52 : decode cX10_owed 52 = .ok (.iconst (-1), 1) := by decide +kernel
theorem dX10_owed_53 : decode cX10_owed 53 = .ok (.ireturn, 1) := by decide +kernel
theorem dX10_owed_54 : decode cX10_owed 54 = .ok (.aload_n 0, 1) := by decide +kernel
theorem dX10_owed_55 : decode cX10_owed 55 = .ok (.getfield 12, 3) := by decide +kernel
theorem dX10_owed_58 : decode cX10_owed 58 = .ok (.getfield 138, 3) := by decide +kernel
theorem dX10_owed_61 : decode cX10_owed 61 = .ok (.iload_n 2, 1) := by decide +kernel
theorem dX10_owed_62 : decode cX10_owed 62 = .ok (.iaload, 1) := by decide +kernel
theorem dX10_owed_63 : decode cX10_owed 63 = .ok (.iload_n 1, 1) := by decide +kernel
theorem dX10_owed_64 : decode cX10_owed 64 = .ok (.if_icmp .ne 15, 3) := by decide +kernel
theorem dX10_owed_67 : decode cX10_owed 67 = .ok (.aload_n 0, 1) := by decide +kernel
theorem dX10_owed_68 : decode cX10_owed 68 = .ok (.getfield 85, 3) := by decide +kernel
theorem dX10_owed_71 : decode cX10_owed 71 = .ok (.getfield 181, 3) := by decide +kernel
theorem dX10_owed_74 : decode cX10_owed 74 = .ok (.iload_n 2, 1) := by decide +kernel
theorem dX10_owed_75 : decode cX10_owed 75 = .ok (.iaload, 1) := by decide +kernel
theorem dX10_owed_76 : decode cX10_owed 76 = .ok (.goto 4, 3) := by decide +kernel
theorem dX10_owed_79 : decode cX10_owed 79 = .ok (.iconst (-1), 1) := by decide +kernel
theorem dX10_owed_80 : decode cX10_owed 80 = .ok (.ireturn, 1) := by decide +kernel
theorem dX10_cost_0 : decode cX10_cost 0 = .ok (.aload_n 0, 1) := by decide +kernel
theorem dX10_cost_1 : decode cX10_cost 1 = .ok (.getfield 12, 3) := by decide +kernel
theorem dX10_cost_4 : decode cX10_cost 4 = .ok (.iload_n 1, 1) := by decide +kernel
theorem dX10_cost_5 : decode cX10_cost 5 = .ok (.invokevirtual 103, 3) := by decide +kernel
theorem dX10_cost_8 : decode cX10_cost 8 = .ok (.ifCond .eq 15, 3) := by decide +kernel
theorem dX10_cost_11 : decode cX10_cost 11 = .ok (.aload_n 0, 1) := by decide +kernel
theorem dX10_cost_12 : decode cX10_cost 12 = .ok (.getfield 85, 3) := by decide +kernel
theorem dX10_cost_15 : decode cX10_cost 15 = .ok (.getfield 184, 3) := by decide +kernel
theorem dX10_cost_18 : decode cX10_cost 18 = .ok (.iload_n 1, 1) := by decide +kernel
theorem dX10_cost_19 : decode cX10_cost 19 = .ok (.laload, 1) := by decide +kernel
theorem dX10_cost_20 : decode cX10_cost 20 = .ok (.goto 6, 3) := by decide +kernel
theorem dX10_cost_23 : decode cX10_cost 23 = .ok (.ldc2_w 176, 3) := by decide +kernel
theorem dX10_cost_26 : decode cX10_cost 26 = .ok (.lreturn, 1) := by decide +kernel
theorem dX10_kept_0 : decode cX10_kept 0 = .ok (.iload_n 1, 1) := by decide +kernel
theorem dX10_kept_1 : decode cX10_kept 1 = .ok (.tableswitch 89 0 4 #[35, 43, 51, 59, 74], 35) := by decide +kernel
theorem dX10_kept_36 : decode cX10_kept 36 = .ok (.aload_n 0, 1) := by decide +kernel
theorem dX10_kept_37 : decode cX10_kept 37 = .ok (.getfield 85, 3) := by decide +kernel
theorem dX10_kept_40 : decode cX10_kept 40 = .ok (.getfield 187, 3) := by decide +kernel
theorem dX10_kept_43 : decode cX10_kept 43 = .ok (.lreturn, 1) := by decide +kernel
theorem dX10_kept_44 : decode cX10_kept 44 = .ok (.aload_n 0, 1) := by decide +kernel
theorem dX10_kept_45 : decode cX10_kept 45 = .ok (.getfield 12, 3) := by decide +kernel
theorem dX10_kept_48 : decode cX10_kept 48 = .ok (.getfield 191, 3) := by decide +kernel
theorem dX10_kept_51 : decode cX10_kept 51 = .ok (.lreturn, 1) := by decide +kernel
theorem dX10_kept_52 : decode cX10_kept 52 = .ok (.aload_n 0, 1) := by decide +kernel
theorem dX10_kept_53 : decode cX10_kept 53 = .ok (.getfield 85, 3) := by decide +kernel
theorem dX10_kept_56 : decode cX10_kept 56 = .ok (.getfield 194, 3) := by decide +kernel
theorem dX10_kept_59 : decode cX10_kept 59 = .ok (.lreturn, 1) := by decide +kernel
theorem dX10_kept_60 : decode cX10_kept 60 = .ok (.aload_n 0, 1) := by decide +kernel
theorem dX10_kept_61 : decode cX10_kept 61 = .ok (.getfield 85, 3) := by decide +kernel
theorem dX10_kept_64 : decode cX10_kept 64 = .ok (.aload_n 0, 1) := by decide +kernel
theorem dX10_kept_65 : decode cX10_kept 65 = .ok (.getfield 85, 3) := by decide +kernel
theorem dX10_kept_68 : decode cX10_kept 68 = .ok (.getfield 121, 3) := by decide +kernel
theorem dX10_kept_71 : decode cX10_kept 71 = .ok (.invokevirtual 197, 3) := by decide +kernel
theorem dX10_kept_74 : decode cX10_kept 74 = .ok (.lreturn, 1) := by decide +kernel
theorem dX10_kept_75 : decode cX10_kept 75 = .ok (.aload_n 0, 1) := by decide +kernel
theorem dX10_kept_76 : decode cX10_kept 76 = .ok (.getfield 85, 3) := by decide +kernel
theorem dX10_kept_79 : decode cX10_kept 79 = .ok (.aload_n 0, 1) := by decide +kernel
theorem dX10_kept_80 : decode cX10_kept 80 = .ok (.getfield 85, 3) := by decide +kernel
theorem dX10_kept_83 : decode cX10_kept 83 = .ok (.getfield 156, 3) := by decide +kernel
theorem dX10_kept_86 : decode cX10_kept 86 = .ok (.invokevirtual 197, 3) := by decide +kernel
theorem dX10_kept_89 : decode cX10_kept 89 = .ok (.lreturn, 1) := by decide +kernel
theorem dX10_kept_90 : decode cX10_kept 90 = .ok (.ldc2_w 176, 3) := by decide +kernel
theorem dX10_kept_93 : decode cX10_kept 93 = .ok (.lreturn, 1) := by decide +kernel
theorem dX10_demand_0 : decode cX10_demand 0 = .ok (.aload_n 0, 1) := by decide +kernel
theorem dX10_demand_1 : decode cX10_demand 1 = .ok (.getfield 12, 3) := by decide +kernel
theorem dX10_demand_4 : decode cX10_demand 4 = .ok (.iload_n 1, 1) := by decide +kernel
theorem dX10_demand_5 : decode cX10_demand 5 = .ok (.invokevirtual 111, 3) := by decide +kernel
theorem dX10_demand_8 : decode cX10_demand 8 = .ok (.ifCond .ne 5, 3) := by decide +kernel
theorem dX10_demand_11 : decode cX10_demand 11 = .ok (.iconst (-1), 1) := by decide +kernel
theorem dX10_demand_12 : decode cX10_demand 12 = .ok (.ireturn, 1) := by decide +kernel
theorem dX10_demand_13 : decode cX10_demand 13 = .ok (.iload_n 2, 1) := by decide +kernel
theorem dX10_demand_14 : decode cX10_demand 14 = .ok (.iconst 0, 1) := by decide +kernel
theorem dX10_demand_15 : decode cX10_demand 15 = .ok (.sipush 999, 3) := by decide +kernel
theorem dX10_demand_18 : decode cX10_demand 18 = .ok (.invokestatic 107, 3) := by decide +kernel
theorem dX10_demand_21 : decode cX10_demand 21 = .ok (.ifCond .ne 6, 3) := by decide +kernel
theorem dX10_demand_24 : decode cX10_demand 24 = .ok (.bipush (-2), 2) := by decide +kernel
theorem dX10_demand_26 : decode cX10_demand 26 = .ok (.ireturn, 1) := by decide +kernel
theorem dX10_demand_27 : decode cX10_demand 27 = .ok (.aload_n 0, 1) := by decide +kernel
theorem dX10_demand_28 : decode cX10_demand 28 = .ok (.getfield 89, 3) := by decide +kernel
theorem dX10_demand_31 : decode cX10_demand 31 = .ok (.iload_n 1, 1) := by decide +kernel
theorem dX10_demand_32 : decode cX10_demand 32 = .ok (.iaload, 1) := by decide +kernel
theorem dX10_demand_33 : decode cX10_demand 33 = .ok (.istore_n 3, 1) := by decide +kernel
theorem dX10_demand_34 : decode cX10_demand 34 = .ok (.aload_n 0, 1) := by decide +kernel
theorem dX10_demand_35 : decode cX10_demand 35 = .ok (.getfield 89, 3) := by decide +kernel
theorem dX10_demand_38 : decode cX10_demand 38 = .ok (.iload_n 1, 1) := by decide +kernel
theorem dX10_demand_39 : decode cX10_demand 39 = .ok (.iload_n 2, 1) := by decide +kernel
theorem dX10_demand_40 : decode cX10_demand 40 = .ok (.iastore, 1) := by decide +kernel
theorem dX10_demand_41 : decode cX10_demand 41 = .ok (.iload_n 3, 1) := by decide +kernel
theorem dX10_demand_42 : decode cX10_demand 42 = .ok (.ireturn, 1) := by decide +kernel
theorem dX10_week_0 : decode cX10_week 0 = .ok (.aload_n 0, 1) := by decide +kernel
theorem dX10_week_1 : decode cX10_week 1 = .ok (.getfield 12, 3) := by decide +kernel
theorem dX10_week_4 : decode cX10_week 4 = .ok (.getfield 99, 3) := by decide +kernel
theorem dX10_week_7 : decode cX10_week 7 = .ok (.ifCond .ne 6, 3) := by decide +kernel
theorem dX10_week_10 : decode cX10_week 10 = .ok (.bipush (-3), 2) := by decide +kernel
theorem dX10_week_12 : decode cX10_week 12 = .ok (.ireturn, 1) := by decide +kernel
theorem dX10_week_13 : decode cX10_week 13 = .ok (.aload_n 0, 1) := by decide +kernel
theorem dX10_week_14 : decode cX10_week 14 = .ok (.getfield 85, 3) := by decide +kernel
theorem dX10_week_17 : decode cX10_week 17 = .ok (.getfield 114, 3) := by decide +kernel
theorem dX10_week_20 : decode cX10_week 20 = .ok (.sipush 400, 3) := by decide +kernel
theorem dX10_week_23 : decode cX10_week 23 = .ok (.if_icmp .lt 6, 3) := by decide +kernel
theorem dX10_week_26 : decode cX10_week 26 = .ok (.bipush (-4), 2) := by decide +kernel
theorem dX10_week_28 : decode cX10_week 28 = .ok (.ireturn, 1) := by decide +kernel
theorem dX10_week_29 : decode cX10_week 29 = .ok (.aload_n 0, 1) := by decide +kernel
theorem dX10_week_30 : decode cX10_week 30 = .ok (.invokevirtual 201, 3) := by decide +kernel
theorem dX10_week_33 : decode cX10_week 33 = .ok (.ireturn, 1) := by decide +kernel
theorem dX10_weeks_0 : decode cX10_weeks 0 = .ok (.iload_n 1, 1) := by decide +kernel
theorem dX10_weeks_1 : decode cX10_weeks 1 = .ok (.iconst 1, 1) := by decide +kernel
theorem dX10_weeks_2 : decode cX10_weeks 2 = .ok (.bipush 20, 2) := by decide +kernel
theorem dX10_weeks_4 : decode cX10_weeks 4 = .ok (.invokestatic 107, 3) := by decide +kernel
theorem dX10_weeks_7 : decode cX10_weeks 7 = .ok (.ifCond .eq 14, 3) := by decide +kernel
theorem dX10_weeks_10 : decode cX10_weeks 10 = .ok (.iload_n 2, 1) := by decide +kernel
theorem dX10_weeks_11 : decode cX10_weeks 11 = .ok (.iconst 0, 1) := by decide +kernel
theorem dX10_weeks_12 : decode cX10_weeks 12 = .ok (.sipush 999, 3) := by decide +kernel
theorem dX10_weeks_15 : decode cX10_weeks 15 = .ok (.invokestatic 107, 3) := by decide +kernel
theorem dX10_weeks_18 : decode cX10_weeks 18 = .ok (.ifCond .ne 6, 3) := by decide +kernel
theorem dX10_weeks_21 : decode cX10_weeks 21 = .ok (.bipush (-2), 2) := by decide +kernel
theorem dX10_weeks_23 : decode cX10_weeks 23 = .ok (.ireturn, 1) := by decide +kernel
theorem dX10_weeks_24 : decode cX10_weeks 24 = .ok (.aload_n 0, 1) := by decide +kernel
theorem dX10_weeks_25 : decode cX10_weeks 25 = .ok (.getfield 12, 3) := by decide +kernel
theorem dX10_weeks_28 : decode cX10_weeks 28 = .ok (.getfield 99, 3) := by decide +kernel
theorem dX10_weeks_31 : decode cX10_weeks 31 = .ok (.ifCond .ne 6, 3) := by decide +kernel
theorem dX10_weeks_34 : decode cX10_weeks 34 = .ok (.bipush (-3), 2) := by decide +kernel
theorem dX10_weeks_36 : decode cX10_weeks 36 = .ok (.ireturn, 1) := by decide +kernel
theorem dX10_weeks_37 : decode cX10_weeks 37 = .ok (.aload_n 0, 1) := by decide +kernel
theorem dX10_weeks_38 : decode cX10_weeks 38 = .ok (.getfield 85, 3) := by decide +kernel
theorem dX10_weeks_41 : decode cX10_weeks 41 = .ok (.getfield 114, 3) := by decide +kernel
theorem dX10_weeks_44 : decode cX10_weeks 44 = .ok (.iload_n 1, 1) := by decide +kernel
theorem dX10_weeks_45 : decode cX10_weeks 45 = .ok (.iadd, 1) := by decide +kernel
theorem dX10_weeks_46 : decode cX10_weeks 46 = .ok (.sipush 400, 3) := by decide +kernel
theorem dX10_weeks_49 : decode cX10_weeks 49 = .ok (.if_icmp .le 6, 3) := by decide +kernel
theorem dX10_weeks_52 : decode cX10_weeks 52 = .ok (.bipush (-4), 2) := by decide +kernel
theorem dX10_weeks_54 : decode cX10_weeks 54 = .ok (.ireturn, 1) := by decide +kernel
theorem dX10_weeks_55 : decode cX10_weeks 55 = .ok (.iconst 0, 1) := by decide +kernel
theorem dX10_weeks_56 : decode cX10_weeks 56 = .ok (.istore_n 3, 1) := by decide +kernel
theorem dX10_weeks_57 : decode cX10_weeks 57 = .ok (.iconst 0, 1) := by decide +kernel
theorem dX10_weeks_58 : decode cX10_weeks 58 = .ok (.istore 4, 2) := by decide +kernel
theorem dX10_weeks_60 : decode cX10_weeks 60 = .ok (.iload 4, 2) := by decide +kernel
theorem dX10_weeks_62 : decode cX10_weeks 62 = .ok (.iload_n 1, 1) := by decide +kernel
theorem dX10_weeks_63 : decode cX10_weeks 63 = .ok (.if_icmp .ge 43, 3) := by decide +kernel
theorem dX10_weeks_66 : decode cX10_weeks 66 = .ok (.iconst 0, 1) := by decide +kernel
theorem dX10_weeks_67 : decode cX10_weeks 67 = .ok (.istore 5, 2) := by decide +kernel
theorem dX10_weeks_69 : decode cX10_weeks 69 = .ok (.iload 5, 2) := by decide +kernel
theorem dX10_weeks_71 : decode cX10_weeks 71 = .ok (.aload_n 0, 1) := by decide +kernel
theorem dX10_weeks_72 : decode cX10_weeks 72 = .ok (.getfield 89, 3) := by decide +kernel
theorem dX10_weeks_75 : decode cX10_weeks 75 = .ok (.arraylength, 1) := by decide +kernel
theorem dX10_weeks_76 : decode cX10_weeks 76 = .ok (.if_icmp .ge 17, 3) := by decide +kernel
theorem dX10_weeks_79 : decode cX10_weeks 79 = .ok (.aload_n 0, 1) := by decide +kernel
theorem dX10_weeks_80 : decode cX10_weeks 80 = .ok (.getfield 89, 3) := by decide +kernel
theorem dX10_weeks_83 : decode cX10_weeks 83 = .ok (.iload 5, 2) := by decide +kernel
theorem dX10_weeks_85 : decode cX10_weeks 85 = .ok (.iload_n 2, 1) := by decide +kernel
theorem dX10_weeks_86 : decode cX10_weeks 86 = .ok (.iastore, 1) := by decide +kernel
theorem dX10_weeks_87 : decode cX10_weeks 87 = .ok (.iinc 5 1, 3) := by decide +kernel
theorem dX10_weeks_90 : decode cX10_weeks 90 = .ok (.goto (-21), 3) := by decide +kernel
theorem dX10_weeks_93 : decode cX10_weeks 93 = .ok (.iload_n 3, 1) := by decide +kernel
theorem dX10_weeks_94 : decode cX10_weeks 94 = .ok (.aload_n 0, 1) := by decide +kernel
theorem dX10_weeks_95 : decode cX10_weeks 95 = .ok (.invokevirtual 201, 3) := by decide +kernel
theorem dX10_weeks_98 : decode cX10_weeks 98 = .ok (.iadd, 1) := by decide +kernel
theorem dX10_weeks_99 : decode cX10_weeks 99 = .ok (.istore_n 3, 1) := by decide +kernel
theorem dX10_weeks_100 : decode cX10_weeks 100 = .ok (.iinc 4 1, 3) := by decide +kernel
theorem dX10_weeks_103 : decode cX10_weeks 103 = .ok (.goto (-43), 3) := by decide +kernel
theorem dX10_weeks_106 : decode cX10_weeks 106 = .ok (.iload_n 3, 1) := by decide +kernel
theorem dX10_weeks_107 : decode cX10_weeks 107 = .ok (.ireturn, 1) := by decide +kernel
theorem dX10_goBy_0 : decode cX10_goBy 0 = .ok (.aload_n 0, 1) := by decide +kernel
theorem dX10_goBy_1 : decode cX10_goBy 1 = .ok (.getfield 85, 3) := by decide +kernel
theorem dX10_goBy_4 : decode cX10_goBy 4 = .ok (.aload_n 0, 1) := by decide +kernel
theorem dX10_goBy_5 : decode cX10_goBy 5 = .ok (.getfield 12, 3) := by decide +kernel
theorem dX10_goBy_8 : decode cX10_goBy 8 = .ok (.aload_n 0, 1) := by decide +kernel
theorem dX10_goBy_9 : decode cX10_goBy 9 = .ok (.getfield 21, 3) := by decide +kernel
theorem dX10_goBy_12 : decode cX10_goBy 12 = .ok (.aload_n 0, 1) := by decide +kernel
theorem dX10_goBy_13 : decode cX10_goBy 13 = .ok (.getfield 35, 3) := by decide +kernel
theorem dX10_goBy_16 : decode cX10_goBy 16 = .ok (.aload_n 0, 1) := by decide +kernel
theorem dX10_goBy_17 : decode cX10_goBy 17 = .ok (.getfield 89, 3) := by decide +kernel
theorem dX10_goBy_20 : decode cX10_goBy 20 = .ok (.invokevirtual 205, 3) := by decide +kernel
theorem dX10_goBy_23 : decode cX10_goBy 23 = .ok (.istore_n 1, 1) := by decide +kernel
theorem dX10_goBy_24 : decode cX10_goBy 24 = .ok (.iconst 0, 1) := by decide +kernel
theorem dX10_goBy_25 : decode cX10_goBy 25 = .ok (.istore_n 2, 1) := by decide +kernel
theorem dX10_goBy_26 : decode cX10_goBy 26 = .ok (.iload_n 2, 1) := by decide +kernel
theorem dX10_goBy_27 : decode cX10_goBy 27 = .ok (.aload_n 0, 1) := by decide +kernel
theorem dX10_goBy_28 : decode cX10_goBy 28 = .ok (.getfield 89, 3) := by decide +kernel
theorem dX10_goBy_31 : decode cX10_goBy 31 = .ok (.arraylength, 1) := by decide +kernel
theorem dX10_goBy_32 : decode cX10_goBy 32 = .ok (.if_icmp .ge 16, 3) := by decide +kernel
theorem dX10_goBy_35 : decode cX10_goBy 35 = .ok (.aload_n 0, 1) := by decide +kernel
theorem dX10_goBy_36 : decode cX10_goBy 36 = .ok (.getfield 89, 3) := by decide +kernel
theorem dX10_goBy_39 : decode cX10_goBy 39 = .ok (.iload_n 2, 1) := by decide +kernel
theorem dX10_goBy_40 : decode cX10_goBy 40 = .ok (.iconst 0, 1) := by decide +kernel
theorem dX10_goBy_41 : decode cX10_goBy 41 = .ok (.iastore, 1) := by decide +kernel
theorem dX10_goBy_42 : decode cX10_goBy 42 = .ok (.iinc 2 1, 3) := by decide +kernel
theorem dX10_goBy_45 : decode cX10_goBy 45 = .ok (.goto (-19), 3) := by decide +kernel
theorem dX10_goBy_48 : decode cX10_goBy 48 = .ok (.aload_n 0, 1) := by decide +kernel
theorem dX10_goBy_49 : decode cX10_goBy 49 = .ok (.getfield 42, 3) := by decide +kernel
theorem dX10_goBy_52 : decode cX10_goBy 52 = .ok (.aload_n 0, 1) := by decide +kernel
theorem dX10_goBy_53 : decode cX10_goBy 53 = .ok (.getfield 85, 3) := by decide +kernel
theorem dX10_goBy_56 : decode cX10_goBy 56 = .ok (.aload_n 0, 1) := by decide +kernel
theorem dX10_goBy_57 : decode cX10_goBy 57 = .ok (.getfield 12, 3) := by decide +kernel
theorem dX10_goBy_60 : decode cX10_goBy 60 = .ok (.getfield 99, 3) := by decide +kernel
theorem dX10_goBy_63 : decode cX10_goBy 63 = .ok (.invokevirtual 209, 3) := by decide +kernel
theorem dX10_goBy_66 : decode cX10_goBy 66 = .ok (.iload_n 1, 1) := by decide +kernel
theorem dX10_goBy_67 : decode cX10_goBy 67 = .ok (.ireturn, 1) := by decide +kernel
theorem dX10_feed_0 : decode cX10_feed 0 = .ok (.iload_n 3, 1) := by decide +kernel
theorem dX10_feed_1 : decode cX10_feed 1 = .ok (.iconst 1, 1) := by decide +kernel
theorem dX10_feed_2 : decode cX10_feed 2 = .ok (.bipush 8, 2) := by decide +kernel
theorem dX10_feed_4 : decode cX10_feed 4 = .ok (.invokestatic 107, 3) := by decide +kernel
theorem dX10_feed_7 : decode cX10_feed 7 = .ok (.ifCond .ne 6, 3) := by decide +kernel
theorem dX10_feed_10 : decode cX10_feed 10 = .ok (.bipush (-2), 2) := by decide +kernel
theorem dX10_feed_12 : decode cX10_feed 12 = .ok (.ireturn, 1) := by decide +kernel
theorem dX10_feed_13 : decode cX10_feed 13 = .ok (.aload_n 0, 1) := by decide +kernel
theorem dX10_feed_14 : decode cX10_feed 14 = .ok (.getfield 28, 3) := by decide +kernel
theorem dX10_feed_17 : decode cX10_feed 17 = .ok (.getfield 213, 3) := by decide +kernel
theorem dX10_feed_20 : decode cX10_feed 20 = .ok (.iload_n 3, 1) := by decide +kernel
theorem dX10_feed_21 : decode cX10_feed 21 = .ok (.iadd, 1) := by decide +kernel
theorem dX10_feed_22 : decode cX10_feed 22 = .ok (.bipush 120, 2) := by decide +kernel
theorem dX10_feed_24 : decode cX10_feed 24 = .ok (.if_icmp .le 6, 3) := by decide +kernel
theorem dX10_feed_27 : decode cX10_feed 27 = .ok (.bipush (-4), 2) := by decide +kernel
theorem dX10_feed_29 : decode cX10_feed 29 = .ok (.ireturn, 1) := by decide +kernel
theorem dX10_feed_30 : decode cX10_feed 30 = .ok (.iload_n 3, 1) := by decide +kernel
theorem dX10_feed_31 : decode cX10_feed 31 = .ok (.iconst 1, 1) := by decide +kernel
theorem dX10_feed_32 : decode cX10_feed 32 = .ok (.isub, 1) := by decide +kernel
theorem dX10_feed_33 : decode cX10_feed 33 = .ok (.istore 4, 2) := by decide +kernel
theorem dX10_feed_35 : decode cX10_feed 35 = .ok (.iload 4, 2) := by decide +kernel
theorem dX10_feed_37 : decode cX10_feed 37 = .ok (.ifCond .lt 28, 3) := by decide +kernel
theorem dX10_feed_40 : decode cX10_feed 40 = .ok (.aload_n 0, 1) := by decide +kernel
theorem dX10_feed_41 : decode cX10_feed 41 = .ok (.getfield 28, 3) := by decide +kernel
theorem dX10_feed_44 : decode cX10_feed 44 = .ok (.lload_n 1, 1) := by decide +kernel
theorem dX10_feed_45 : decode cX10_feed 45 = .ok (.bipush 8, 2) := by decide +kernel
theorem dX10_feed_47 : decode cX10_feed 47 = .ok (.iload 4, 2) := by decide +kernel
theorem dX10_feed_49 : decode cX10_feed 49 = .ok (.imul, 1) := by decide +kernel
theorem dX10_feed_50 : decode cX10_feed 50 = .ok (.lushr, 1) := by decide +kernel
theorem dX10_feed_51 : decode cX10_feed 51 = .ok (.l2i, 1) := by decide +kernel
theorem dX10_feed_52 : decode cX10_feed 52 = .ok (.sipush 255, 3) := by decide +kernel
theorem dX10_feed_55 : decode cX10_feed 55 = .ok (.iand, 1) := by decide +kernel
theorem dX10_feed_56 : decode cX10_feed 56 = .ok (.invokevirtual 216, 3) := by decide +kernel
theorem dX10_feed_59 : decode cX10_feed 59 = .ok (.iinc 4 (-1), 3) := by decide +kernel
theorem dX10_feed_62 : decode cX10_feed 62 = .ok (.goto (-27), 3) := by decide +kernel
theorem dX10_feed_65 : decode cX10_feed 65 = .ok (.aload_n 0, 1) := by decide +kernel
theorem dX10_feed_66 : decode cX10_feed 66 = .ok (.getfield 28, 3) := by decide +kernel
theorem dX10_feed_69 : decode cX10_feed 69 = .ok (.getfield 213, 3) := by decide +kernel
theorem dX10_feed_72 : decode cX10_feed 72 = .ok (.ireturn, 1) := by decide +kernel
theorem dX10_rule_0 : decode cX10_rule 0 = .ok (.aload_n 0, 1) := by decide +kernel
theorem dX10_rule_1 : decode cX10_rule 1 = .ok (.getfield 21, 3) := by decide +kernel
theorem dX10_rule_4 : decode cX10_rule 4 = .ok (.getfield 220, 3) := by decide +kernel
theorem dX10_rule_7 : decode cX10_rule 7 = .ok (.bipush 12, 2) := by decide +kernel
theorem dX10_rule_9 : decode cX10_rule 9 = .ok (.if_icmp .lt 6, 3) := by decide +kernel
theorem dX10_rule_12 : decode cX10_rule 12 = .ok (.bipush (-4), 2) := by decide +kernel
theorem dX10_rule_14 : decode cX10_rule 14 = .ok (.ireturn, 1) := by decide +kernel
theorem dX10_rule_15 : decode cX10_rule 15 = .ok (.aload_n 0, 1) := by decide +kernel
theorem dX10_rule_16 : decode cX10_rule 16 = .ok (.getfield 28, 3) := by decide +kernel
theorem dX10_rule_19 : decode cX10_rule 19 = .ok (.invokevirtual 223, 3) := by decide +kernel
theorem dX10_rule_22 : decode cX10_rule 22 = .ok (.istore_n 1, 1) := by decide +kernel
theorem dX10_rule_23 : decode cX10_rule 23 = .ok (.aload_n 0, 1) := by decide +kernel
theorem dX10_rule_24 : decode cX10_rule 24 = .ok (.getfield 28, 3) := by decide +kernel
theorem dX10_rule_27 : decode cX10_rule 27 = .ok (.iconst 0, 1) := by decide +kernel
theorem dX10_rule_28 : decode cX10_rule 28 = .ok (.putfield 213, 3) := by decide +kernel
theorem dX10_rule_31 : decode cX10_rule 31 = .ok (.iload_n 1, 1) := by decide +kernel
theorem dX10_rule_32 : decode cX10_rule 32 = .ok (.ifCond .eq 27, 3) := by decide +kernel
theorem dX10_rule_35 : decode cX10_rule 35 = .ok (.aload_n 0, 1) := by decide +kernel
theorem dX10_rule_36 : decode cX10_rule 36 = .ok (.getfield 21, 3) := by decide +kernel
theorem dX10_rule_39 : decode cX10_rule 39 = .ok (.aload_n 0, 1) := by decide +kernel
theorem dX10_rule_40 : decode cX10_rule 40 = .ok (.getfield 28, 3) := by decide +kernel
theorem dX10_rule_43 : decode cX10_rule 43 = .ok (.getfield 227, 3) := by decide +kernel
theorem dX10_rule_46 : decode cX10_rule 46 = .ok (.aload_n 0, 1) := by decide +kernel
theorem dX10_rule_47 : decode cX10_rule 47 = .ok (.getfield 28, 3) := by decide +kernel
theorem dX10_rule_50 : decode cX10_rule 50 = .ok (.getfield 230, 3) := by decide +kernel
theorem dX10_rule_53 : decode cX10_rule 53 = .ok (.invokevirtual 233, 3) := by decide +kernel
theorem dX10_rule_56 : decode cX10_rule 56 = .ok (.goto 13, 3) := by decide +kernel
theorem dX10_rule_59 : decode cX10_rule 59 = .ok (.bipush (-10), 2) := by decide +kernel
theorem dX10_rule_61 : decode cX10_rule 61 = .ok (.aload_n 0, 1) := by decide +kernel
theorem dX10_rule_62 : decode cX10_rule 62 = .ok (.getfield 28, 3) := by decide +kernel
theorem dX10_rule_65 : decode cX10_rule 65 = .ok (.getfield 236, 3) := by decide +kernel
theorem dX10_rule_68 : decode cX10_rule 68 = .ok (.isub, 1) := by decide +kernel
theorem dX10_rule_69 : decode cX10_rule 69 = .ok (.ireturn, 1) := by decide +kernel
theorem dX10_worth_0 : decode cX10_worth 0 = .ok (.aload_n 0, 1) := by decide +kernel
theorem dX10_worth_1 : decode cX10_worth 1 = .ok (.getfield 21, 3) := by decide +kernel
theorem dX10_worth_4 : decode cX10_worth 4 = .ok (.iload_n 1, 1) := by decide +kernel
theorem dX10_worth_5 : decode cX10_worth 5 = .ok (.invokevirtual 128, 3) := by decide +kernel
theorem dX10_worth_8 : decode cX10_worth 8 = .ok (.ifCond .eq 30, 3) := by decide +kernel
theorem dX10_worth_11 : decode cX10_worth 11 = .ok (.aload_n 0, 1) := by decide +kernel
theorem dX10_worth_12 : decode cX10_worth 12 = .ok (.getfield 12, 3) := by decide +kernel
theorem dX10_worth_15 : decode cX10_worth 15 = .ok (.iload_n 2, 1) := by decide +kernel
theorem dX10_worth_16 : decode cX10_worth 16 = .ok (.invokevirtual 103, 3) := by decide +kernel
theorem dX10_worth_19 : decode cX10_worth 19 = .ok (.ifCond .eq 19, 3) := by decide +kernel
theorem dX10_worth_22 : decode cX10_worth 22 = .ok (.aload_n 0, 1) := by decide +kernel
theorem dX10_worth_23 : decode cX10_worth 23 = .ok (.getfield 21, 3) := by decide +kernel
theorem dX10_worth_26 : decode cX10_worth 26 = .ok (.iload_n 1, 1) := by decide +kernel
theorem dX10_worth_27 : decode cX10_worth 27 = .ok (.aload_n 0, 1) := by decide +kernel
theorem dX10_worth_28 : decode cX10_worth 28 = .ok (.getfield 85, 3) := by decide +kernel
theorem dX10_worth_31 : decode cX10_worth 31 = .ok (.iload_n 2, 1) := by decide +kernel
theorem dX10_worth_32 : decode cX10_worth 32 = .ok (.invokevirtual 239, 3) := by decide +kernel
theorem dX10_worth_35 : decode cX10_worth 35 = .ok (.goto 6, 3) := by decide +kernel
theorem dX10_worth_38 : decode cX10_worth 38 = .ok (.ldc2_w 176, 3) := by decide +kernel
theorem dX10_worth_41 : decode cX10_worth 41 = .ok (.lreturn, 1) := by decide +kernel
theorem dX10_swing_0 : decode cX10_swing 0 = .ok (.aload_n 0, 1) := by decide +kernel
theorem dX10_swing_1 : decode cX10_swing 1 = .ok (.iload_n 1, 1) := by decide +kernel
theorem dX10_swing_2 : decode cX10_swing 2 = .ok (.iload_n 3, 1) := by decide +kernel
theorem dX10_swing_3 : decode cX10_swing 3 = .ok (.invokevirtual 243, 3) := by decide +kernel
theorem dX10_swing_6 : decode cX10_swing 6 = .ok (.ifCond .eq 32, 3) := by decide +kernel
theorem dX10_swing_9 : decode cX10_swing 9 = .ok (.iload_n 2, 1) := by decide +kernel
theorem dX10_swing_10 : decode cX10_swing 10 = .ok (.iconst 0, 1) := by decide +kernel
theorem dX10_swing_11 : decode cX10_swing 11 = .ok (.iconst 1, 1) := by decide +kernel
theorem dX10_swing_12 : decode cX10_swing 12 = .ok (.invokestatic 107, 3) := by decide +kernel
theorem dX10_swing_15 : decode cX10_swing 15 = .ok (.ifCond .eq 23, 3) := by decide +kernel
theorem dX10_swing_18 : decode cX10_swing 18 = .ok (.aload_n 0, 1) := by decide +kernel
theorem dX10_swing_19 : decode cX10_swing 19 = .ok (.getfield 42, 3) := by decide +kernel
theorem dX10_swing_22 : decode cX10_swing 22 = .ok (.iload_n 1, 1) := by decide +kernel
theorem dX10_swing_23 : decode cX10_swing 23 = .ok (.iload_n 2, 1) := by decide +kernel
theorem dX10_swing_24 : decode cX10_swing 24 = .ok (.iload_n 3, 1) := by decide +kernel
theorem dX10_swing_25 : decode cX10_swing 25 = .ok (.aload_n 0, 1) := by decide +kernel
theorem dX10_swing_26 : decode cX10_swing 26 = .ok (.getfield 85, 3) := by decide +kernel
theorem dX10_swing_29 : decode cX10_swing 29 = .ok (.getfield 114, 3) := by decide +kernel
theorem dX10_swing_32 : decode cX10_swing 32 = .ok (.invokevirtual 247, 3) := by decide +kernel
theorem dX10_swing_35 : decode cX10_swing 35 = .ok (.goto 6, 3) := by decide +kernel
theorem dX10_swing_38 : decode cX10_swing 38 = .ok (.ldc2_w 176, 3) := by decide +kernel
theorem dX10_swing_41 : decode cX10_swing 41 = .ok (.lreturn, 1) := by decide +kernel
theorem dX10_gain_0 : decode cX10_gain 0 = .ok (.aload_n 0, 1) := by decide +kernel
theorem dX10_gain_1 : decode cX10_gain 1 = .ok (.iload_n 1, 1) := by decide +kernel
theorem dX10_gain_2 : decode cX10_gain 2 = .ok (.iload_n 2, 1) := by decide +kernel
theorem dX10_gain_3 : decode cX10_gain 3 = .ok (.invokevirtual 243, 3) := by decide +kernel
theorem dX10_gain_6 : decode cX10_gain 6 = .ok (.ifCond .eq 12, 3) := by decide +kernel
theorem dX10_gain_9 : decode cX10_gain 9 = .ok (.iload_n 3, 1) := by decide +kernel
theorem dX10_gain_10 : decode cX10_gain 10 = .ok (.iconst 0, 1) := by decide +kernel
theorem dX10_gain_11 : decode cX10_gain 11 = .ok (.iconst 1, 1) := by decide +kernel
theorem dX10_gain_12 : decode cX10_gain 12 = .ok (.invokestatic 107, 3) := by decide +kernel
theorem dX10_gain_15 : decode cX10_gain 15 = .ok (.ifCond .ne 7, 3) := by decide +kernel
theorem dX10_gain_18 : decode cX10_gain 18 = .ok (.ldc2_w 176, 3) := by decide +kernel
theorem dX10_gain_21 : decode cX10_gain 21 = .ok (.lreturn, 1) := by decide +kernel
theorem dX10_gain_22 : decode cX10_gain 22 = .ok (.aload_n 0, 1) := by decide +kernel
theorem dX10_gain_23 : decode cX10_gain 23 = .ok (.getfield 42, 3) := by decide +kernel
theorem dX10_gain_26 : decode cX10_gain 26 = .ok (.iload_n 1, 1) := by decide +kernel
theorem dX10_gain_27 : decode cX10_gain 27 = .ok (.iconst 0, 1) := by decide +kernel
theorem dX10_gain_28 : decode cX10_gain 28 = .ok (.iload_n 2, 1) := by decide +kernel
theorem dX10_gain_29 : decode cX10_gain 29 = .ok (.aload_n 0, 1) := by decide +kernel
theorem dX10_gain_30 : decode cX10_gain 30 = .ok (.getfield 85, 3) := by decide +kernel
theorem dX10_gain_33 : decode cX10_gain 33 = .ok (.getfield 114, 3) := by decide +kernel
theorem dX10_gain_36 : decode cX10_gain 36 = .ok (.invokevirtual 247, 3) := by decide +kernel
theorem dX10_gain_39 : decode cX10_gain 39 = .ok (.lstore 4, 2) := by decide +kernel
theorem dX10_gain_41 : decode cX10_gain 41 = .ok (.lload 4, 2) := by decide +kernel
theorem dX10_gain_43 : decode cX10_gain 43 = .ok (.lconst 0, 1) := by decide +kernel
theorem dX10_gain_44 : decode cX10_gain 44 = .ok (.lcmp, 1) := by decide +kernel
theorem dX10_gain_45 : decode cX10_gain 45 = .ok (.ifCond .ne 7, 3) := by decide +kernel
theorem dX10_gain_48 : decode cX10_gain 48 = .ok (.ldc2_w 176, 3) := by decide +kernel
theorem dX10_gain_51 : decode cX10_gain 51 = .ok (.lreturn, 1) := by decide +kernel
theorem dX10_gain_52 : decode cX10_gain 52 = .ok (.aload_n 0, 1) := by decide +kernel
theorem dX10_gain_53 : decode cX10_gain 53 = .ok (.getfield 56, 3) := by decide +kernel
theorem dX10_gain_56 : decode cX10_gain 56 = .ok (.aload_n 0, 1) := by decide +kernel
theorem dX10_gain_57 : decode cX10_gain 57 = .ok (.getfield 42, 3) := by decide +kernel
theorem dX10_gain_60 : decode cX10_gain 60 = .ok (.iload_n 1, 1) := by decide +kernel
theorem dX10_gain_61 : decode cX10_gain 61 = .ok (.iconst 1, 1) := by decide +kernel
theorem dX10_gain_62 : decode cX10_gain 62 = .ok (.iload_n 2, 1) := by decide +kernel
theorem dX10_gain_63 : decode cX10_gain 63 = .ok (.aload_n 0, 1) := by decide +kernel
theorem dX10_gain_64 : decode cX10_gain 64 = .ok (.getfield 85, 3) := by decide +kernel
theorem dX10_gain_67 : decode cX10_gain 67 = .ok (.getfield 114, 3) := by decide +kernel
theorem dX10_gain_70 : decode cX10_gain 70 = .ok (.invokevirtual 247, 3) := by decide +kernel
theorem dX10_gain_73 : decode cX10_gain 73 = .ok (.lload 4, 2) := by decide +kernel
theorem dX10_gain_75 : decode cX10_gain 75 = .ok (.invokevirtual 251, 3) := by decide +kernel
theorem dX10_gain_78 : decode cX10_gain 78 = .ok (.aload_n 0, 1) := by decide +kernel
theorem dX10_gain_79 : decode cX10_gain 79 = .ok (.getfield 56, 3) := by decide +kernel
theorem dX10_gain_82 : decode cX10_gain 82 = .ok (.iload_n 3, 1) := by decide +kernel
theorem dX10_gain_83 : decode cX10_gain 83 = .ok (.invokevirtual 255, 3) := by decide +kernel
theorem dX10_gain_86 : decode cX10_gain 86 = .ok (.lreturn, 1) := by decide +kernel
theorem dX10_swings_0 : decode cX10_swings 0 = .ok (.aload_n 0, 1) := by decide +kernel
theorem dX10_swings_1 : decode cX10_swings 1 = .ok (.getfield 12, 3) := by decide +kernel
theorem dX10_swings_4 : decode cX10_swings 4 = .ok (.iload_n 1, 1) := by decide +kernel
theorem dX10_swings_5 : decode cX10_swings 5 = .ok (.invokevirtual 103, 3) := by decide +kernel
theorem dX10_swings_8 : decode cX10_swings 8 = .ok (.ifCond .eq 28, 3) := by decide +kernel
theorem dX10_swings_11 : decode cX10_swings 11 = .ok (.iload_n 2, 1) := by decide +kernel
theorem dX10_swings_12 : decode cX10_swings 12 = .ok (.iconst 2, 1) := by decide +kernel
theorem dX10_swings_13 : decode cX10_swings 13 = .ok (.bipush 40, 2) := by decide +kernel
theorem dX10_swings_15 : decode cX10_swings 15 = .ok (.invokestatic 107, 3) := by decide +kernel
theorem dX10_swings_18 : decode cX10_swings 18 = .ok (.ifCond .eq 18, 3) := by decide +kernel
theorem dX10_swings_21 : decode cX10_swings 21 = .ok (.iload_n 2, 1) := by decide +kernel
theorem dX10_swings_22 : decode cX10_swings 22 = .ok (.aload_n 0, 1) := by decide +kernel
theorem dX10_swings_23 : decode cX10_swings 23 = .ok (.getfield 85, 3) := by decide +kernel
theorem dX10_swings_26 : decode cX10_swings 26 = .ok (.getfield 114, 3) := by decide +kernel
theorem dX10_swings_29 : decode cX10_swings 29 = .ok (.if_icmp .gt 7, 3) := by decide +kernel
theorem dX10_swings_32 : decode cX10_swings 32 = .ok (.iconst 1, 1) := by decide +kernel
theorem dX10_swings_33 : decode cX10_swings 33 = .ok (.goto 4, 3) := by decide +kernel
theorem dX10_swings_36 : decode cX10_swings 36 = .ok (.iconst 0, 1) := by decide +kernel
theorem dX10_swings_37 : decode cX10_swings 37 = .ok (.ireturn, 1) := by decide +kernel
theorem dX10_straight_0 : decode cX10_straight 0 = .ok (.iload_n 1, 1) := by decide +kernel
theorem dX10_straight_1 : decode cX10_straight 1 = .ok (.invokestatic 258, 3) := by decide +kernel
theorem dX10_straight_4 : decode cX10_straight 4 = .ok (.ifCond .eq 20, 3) := by decide +kernel
theorem dX10_straight_7 : decode cX10_straight 7 = .ok (.iload_n 2, 1) := by decide +kernel
theorem dX10_straight_8 : decode cX10_straight 8 = .ok (.invokestatic 258, 3) := by decide +kernel
theorem dX10_straight_11 : decode cX10_straight 11 = .ok (.ifCond .eq 13, 3) := by decide +kernel
theorem dX10_straight_14 : decode cX10_straight 14 = .ok (.iload_n 3, 1) := by decide +kernel
theorem dX10_straight_15 : decode cX10_straight 15 = .ok (.iconst 1, 1) := by decide +kernel
theorem dX10_straight_16 : decode cX10_straight 16 = .ok (.bipush 8, 2) := by decide +kernel
theorem dX10_straight_18 : decode cX10_straight 18 = .ok (.invokestatic 107, 3) := by decide +kernel
theorem dX10_straight_21 : decode cX10_straight 21 = .ok (.ifCond .ne 6, 3) := by decide +kernel
theorem dX10_straight_24 : decode cX10_straight 24 = .ok (.bipush (-2), 2) := by decide +kernel
theorem dX10_straight_26 : decode cX10_straight 26 = .ok (.ireturn, 1) := by decide +kernel
theorem dX10_straight_27 : decode cX10_straight 27 = .ok (.aload_n 0, 1) := by decide +kernel
theorem dX10_straight_28 : decode cX10_straight 28 = .ok (.getfield 49, 3) := by decide +kernel
theorem dX10_straight_31 : decode cX10_straight 31 = .ok (.getfield 261, 3) := by decide +kernel
theorem dX10_straight_34 : decode cX10_straight 34 = .ok (.iload_n 1, 1) := by decide +kernel
theorem dX10_straight_35 : decode cX10_straight 35 = .ok (.bipush 100, 2) := by decide +kernel
theorem dX10_straight_37 : decode cX10_straight 37 = .ok (.idiv, 1) := by decide +kernel
theorem dX10_straight_38 : decode cX10_straight 38 = .ok (.i2l, 1) := by decide +kernel
theorem dX10_straight_39 : decode cX10_straight 39 = .ok (.iload_n 1, 1) := by decide +kernel
theorem dX10_straight_40 : decode cX10_straight 40 = .ok (.bipush 100, 2) := by decide +kernel
theorem dX10_straight_42 : decode cX10_straight 42 = .ok (.irem, 1) := by decide +kernel
theorem dX10_straight_43 : decode cX10_straight 43 = .ok (.i2l, 1) := by decide +kernel
theorem dX10_straight_44 : decode cX10_straight 44 = .ok (.invokevirtual 251, 3) := by decide +kernel
theorem dX10_straight_47 : decode cX10_straight 47 = .ok (.aload_n 0, 1) := by decide +kernel
theorem dX10_straight_48 : decode cX10_straight 48 = .ok (.getfield 49, 3) := by decide +kernel
theorem dX10_straight_51 : decode cX10_straight 51 = .ok (.getfield 264, 3) := by decide +kernel
theorem dX10_straight_54 : decode cX10_straight 54 = .ok (.iload_n 2, 1) := by decide +kernel
theorem dX10_straight_55 : decode cX10_straight 55 = .ok (.bipush 100, 2) := by decide +kernel
theorem dX10_straight_57 : decode cX10_straight 57 = .ok (.idiv, 1) := by decide +kernel
theorem dX10_straight_58 : decode cX10_straight 58 = .ok (.i2l, 1) := by decide +kernel
theorem dX10_straight_59 : decode cX10_straight 59 = .ok (.iload_n 2, 1) := by decide +kernel
theorem dX10_straight_60 : decode cX10_straight 60 = .ok (.bipush 100, 2) := by decide +kernel
theorem dX10_straight_62 : decode cX10_straight 62 = .ok (.irem, 1) := by decide +kernel
theorem dX10_straight_63 : decode cX10_straight 63 = .ok (.i2l, 1) := by decide +kernel
theorem dX10_straight_64 : decode cX10_straight 64 = .ok (.invokevirtual 251, 3) := by decide +kernel
theorem dX10_straight_67 : decode cX10_straight 67 = .ok (.aload_n 0, 1) := by decide +kernel
theorem dX10_straight_68 : decode cX10_straight 68 = .ok (.getfield 49, 3) := by decide +kernel
theorem dX10_straight_71 : decode cX10_straight 71 = .ok (.getfield 267, 3) := by decide +kernel
theorem dX10_straight_74 : decode cX10_straight 74 = .ok (.iload_n 3, 1) := by decide +kernel
theorem dX10_straight_75 : decode cX10_straight 75 = .ok (.i2l, 1) := by decide +kernel
theorem dX10_straight_76 : decode cX10_straight 76 = .ok (.lconst 1, 1) := by decide +kernel
theorem dX10_straight_77 : decode cX10_straight 77 = .ok (.invokevirtual 251, 3) := by decide +kernel
theorem dX10_straight_80 : decode cX10_straight 80 = .ok (.iconst 0, 1) := by decide +kernel
theorem dX10_straight_81 : decode cX10_straight 81 = .ok (.ireturn, 1) := by decide +kernel
theorem dX10_isShare_0 : decode cX10_isShare 0 = .ok (.iload_n 0, 1) := by decide +kernel
theorem dX10_isShare_1 : decode cX10_isShare 1 = .ok (.ifCond .lt 33, 3) := by decide +kernel
theorem dX10_isShare_4 : decode cX10_isShare 4 = .ok (.iload_n 0, 1) := by decide +kernel
theorem dX10_isShare_5 : decode cX10_isShare 5 = .ok (.bipush 100, 2) := by decide +kernel
theorem dX10_isShare_7 : decode cX10_isShare 7 = .ok (.irem, 1) := by decide +kernel
theorem dX10_isShare_8 : decode cX10_isShare 8 = .ok (.iconst 1, 1) := by decide +kernel
theorem dX10_isShare_9 : decode cX10_isShare 9 = .ok (.bipush 20, 2) := by decide +kernel
theorem dX10_isShare_11 : decode cX10_isShare 11 = .ok (.invokestatic 107, 3) := by decide +kernel
theorem dX10_isShare_14 : decode cX10_isShare 14 = .ok (.ifCond .eq 20, 3) := by decide +kernel
theorem dX10_isShare_17 : decode cX10_isShare 17 = .ok (.iload_n 0, 1) := by decide +kernel
theorem dX10_isShare_18 : decode cX10_isShare 18 = .ok (.bipush 100, 2) := by decide +kernel
theorem dX10_isShare_20 : decode cX10_isShare 20 = .ok (.idiv, 1) := by decide +kernel
theorem dX10_isShare_21 : decode cX10_isShare 21 = .ok (.iconst 2, 1) := by decide +kernel
theorem dX10_isShare_22 : decode cX10_isShare 22 = .ok (.iload_n 0, 1) := by decide +kernel
theorem dX10_isShare_23 : decode cX10_isShare 23 = .ok (.bipush 100, 2) := by decide +kernel
theorem dX10_isShare_25 : decode cX10_isShare 25 = .ok (.irem, 1) := by decide +kernel
theorem dX10_isShare_26 : decode cX10_isShare 26 = .ok (.imul, 1) := by decide +kernel
theorem dX10_isShare_27 : decode cX10_isShare 27 = .ok (.if_icmp .gt 7, 3) := by decide +kernel
theorem dX10_isShare_30 : decode cX10_isShare 30 = .ok (.iconst 1, 1) := by decide +kernel
theorem dX10_isShare_31 : decode cX10_isShare 31 = .ok (.goto 4, 3) := by decide +kernel
theorem dX10_isShare_34 : decode cX10_isShare 34 = .ok (.iconst 0, 1) := by decide +kernel
theorem dX10_isShare_35 : decode cX10_isShare 35 = .ok (.ireturn, 1) := by decide +kernel
theorem dX10_echo_0 : decode cX10_echo 0 = .ok (.iload_n 1, 1) := by decide +kernel
theorem dX10_echo_1 : decode cX10_echo 1 = .ok (.iconst 0, 1) := by decide +kernel
theorem dX10_echo_2 : decode cX10_echo 2 = .ok (.bipush 30, 2) := by decide +kernel
theorem dX10_echo_4 : decode cX10_echo 4 = .ok (.invokestatic 107, 3) := by decide +kernel
theorem dX10_echo_7 : decode cX10_echo 7 = .ok (.ifCond .eq 12, 3) := by decide +kernel
theorem dX10_echo_10 : decode cX10_echo 10 = .ok (.iload_n 2, 1) := by decide +kernel
theorem dX10_echo_11 : decode cX10_echo 11 = .ok (.iconst 0, 1) := by decide +kernel
theorem dX10_echo_12 : decode cX10_echo 12 = .ok (.iconst 1, 1) := by decide +kernel
theorem dX10_echo_13 : decode cX10_echo 13 = .ok (.invokestatic 107, 3) := by decide +kernel
theorem dX10_echo_16 : decode cX10_echo 16 = .ok (.ifCond .ne 7, 3) := by decide +kernel
theorem dX10_echo_19 : decode cX10_echo 19 = .ok (.ldc2_w 176, 3) := by decide +kernel
theorem dX10_echo_22 : decode cX10_echo 22 = .ok (.lreturn, 1) := by decide +kernel
theorem dX10_echo_23 : decode cX10_echo 23 = .ok (.aload_n 0, 1) := by decide +kernel
theorem dX10_echo_24 : decode cX10_echo 24 = .ok (.getfield 49, 3) := by decide +kernel
theorem dX10_echo_27 : decode cX10_echo 27 = .ok (.invokevirtual 270, 3) := by decide +kernel
theorem dX10_echo_30 : decode cX10_echo 30 = .ok (.iconst 0, 1) := by decide +kernel
theorem dX10_echo_31 : decode cX10_echo 31 = .ok (.istore_n 3, 1) := by decide +kernel
theorem dX10_echo_32 : decode cX10_echo 32 = .ok (.iload_n 3, 1) := by decide +kernel
theorem dX10_echo_33 : decode cX10_echo 33 = .ok (.iload_n 1, 1) := by decide +kernel
theorem dX10_echo_34 : decode cX10_echo 34 = .ok (.if_icmp .gt 17, 3) := by decide +kernel
theorem dX10_echo_37 : decode cX10_echo 37 = .ok (.aload_n 0, 1) := by decide +kernel
theorem dX10_echo_38 : decode cX10_echo 38 = .ok (.getfield 49, 3) := by decide +kernel
theorem dX10_echo_41 : decode cX10_echo 41 = .ok (.iload_n 3, 1) := by decide +kernel
theorem dX10_echo_42 : decode cX10_echo 42 = .ok (.invokevirtual 273, 3) := by decide +kernel
theorem dX10_echo_45 : decode cX10_echo 45 = .ok (.iinc 3 1, 3) := by decide +kernel
theorem dX10_echo_48 : decode cX10_echo 48 = .ok (.goto (-16), 3) := by decide +kernel
theorem dX10_echo_51 : decode cX10_echo 51 = .ok (.aload_n 0, 1) := by decide +kernel
theorem dX10_echo_52 : decode cX10_echo 52 = .ok (.getfield 49, 3) := by decide +kernel
theorem dX10_echo_55 : decode cX10_echo 55 = .ok (.getfield 275, 3) := by decide +kernel
theorem dX10_echo_58 : decode cX10_echo 58 = .ok (.iload_n 2, 1) := by decide +kernel
theorem dX10_echo_59 : decode cX10_echo 59 = .ok (.invokevirtual 255, 3) := by decide +kernel
theorem dX10_echo_62 : decode cX10_echo 62 = .ok (.lreturn, 1) := by decide +kernel
theorem dX10_pole_0 : decode cX10_pole 0 = .ok (.iload_n 1, 1) := by decide +kernel
theorem dX10_pole_1 : decode cX10_pole 1 = .ok (.iconst 0, 1) := by decide +kernel
theorem dX10_pole_2 : decode cX10_pole 2 = .ok (.iconst 1, 1) := by decide +kernel
theorem dX10_pole_3 : decode cX10_pole 3 = .ok (.invokestatic 107, 3) := by decide +kernel
theorem dX10_pole_6 : decode cX10_pole 6 = .ok (.ifCond .eq 21, 3) := by decide +kernel
theorem dX10_pole_9 : decode cX10_pole 9 = .ok (.iload_n 2, 1) := by decide +kernel
theorem dX10_pole_10 : decode cX10_pole 10 = .ok (.iconst 0, 1) := by decide +kernel
theorem dX10_pole_11 : decode cX10_pole 11 = .ok (.iconst 2, 1) := by decide +kernel
theorem dX10_pole_12 : decode cX10_pole 12 = .ok (.invokestatic 107, 3) := by decide +kernel
theorem dX10_pole_15 : decode cX10_pole 15 = .ok (.ifCond .eq 12, 3) := by decide +kernel
theorem dX10_pole_18 : decode cX10_pole 18 = .ok (.iload_n 3, 1) := by decide +kernel
theorem dX10_pole_19 : decode cX10_pole 19 = .ok (.iconst 0, 1) := by decide +kernel
theorem dX10_pole_20 : decode cX10_pole 20 = .ok (.iconst 1, 1) := by decide +kernel
theorem dX10_pole_21 : decode cX10_pole 21 = .ok (.invokestatic 107, 3) := by decide +kernel
theorem dX10_pole_24 : decode cX10_pole 24 = .ok (.ifCond .ne 7, 3) := by decide +kernel
theorem dX10_pole_27 : decode cX10_pole 27 = .ok (.ldc2_w 176, 3) := by decide +kernel
theorem dX10_pole_30 : decode cX10_pole 30 = .ok (.lreturn, 1) := by decide +kernel
theorem dX10_pole_31 : decode cX10_pole 31 = .ok (.iload_n 1, 1) := by decide +kernel
theorem dX10_pole_32 : decode cX10_pole 32 = .ok (.ifCond .ne 14, 3) := by decide +kernel
theorem dX10_pole_35 : decode cX10_pole 35 = .ok (.aload_n 0, 1) := by decide +kernel
theorem dX10_pole_36 : decode cX10_pole 36 = .ok (.getfield 49, 3) := by decide +kernel
theorem dX10_pole_39 : decode cX10_pole 39 = .ok (.iload_n 2, 1) := by decide +kernel
theorem dX10_pole_40 : decode cX10_pole 40 = .ok (.invokevirtual 278, 3) := by decide +kernel
theorem dX10_pole_43 : decode cX10_pole 43 = .ok (.goto 11, 3) := by decide +kernel
theorem dX10_pole_46 : decode cX10_pole 46 = .ok (.aload_n 0, 1) := by decide +kernel
theorem dX10_pole_47 : decode cX10_pole 47 = .ok (.getfield 49, 3) := by decide +kernel
theorem dX10_pole_50 : decode cX10_pole 50 = .ok (.iload_n 2, 1) := by decide +kernel
theorem dX10_pole_51 : decode cX10_pole 51 = .ok (.invokevirtual 281, 3) := by decide +kernel
theorem dX10_pole_54 : decode cX10_pole 54 = .ok (.iload_n 1, 1) := by decide +kernel
theorem dX10_pole_55 : decode cX10_pole 55 = .ok (.ifCond .ne 13, 3) := by decide +kernel
theorem dX10_pole_58 : decode cX10_pole 58 = .ok (.aload_n 0, 1) := by decide +kernel
theorem dX10_pole_59 : decode cX10_pole 59 = .ok (.getfield 49, 3) := by decide +kernel
theorem dX10_pole_62 : decode cX10_pole 62 = .ok (.getfield 284, 3) := by decide +kernel
theorem dX10_pole_65 : decode cX10_pole 65 = .ok (.goto 10, 3) := by decide +kernel
theorem dX10_pole_68 : decode cX10_pole 68 = .ok (.aload_n 0, 1) := by decide +kernel
theorem dX10_pole_69 : decode cX10_pole 69 = .ok (.getfield 49, 3) := by decide +kernel
theorem dX10_pole_72 : decode cX10_pole 72 = .ok (.getfield 287, 3) := by decide +kernel
theorem dX10_pole_75 : decode cX10_pole 75 = .ok (.iload_n 3, 1) := by decide +kernel
theorem dX10_pole_76 : decode cX10_pole 76 = .ok (.invokevirtual 255, 3) := by decide +kernel
theorem dX10_pole_79 : decode cX10_pole 79 = .ok (.lreturn, 1) := by decide +kernel
theorem dX10_loud_0 : decode cX10_loud 0 = .ok (.iload_n 1, 1) := by decide +kernel
theorem dX10_loud_1 : decode cX10_loud 1 = .ok (.iconst 1, 1) := by decide +kernel
theorem dX10_loud_2 : decode cX10_loud 2 = .ok (.bipush 30, 2) := by decide +kernel
theorem dX10_loud_4 : decode cX10_loud 4 = .ok (.invokestatic 107, 3) := by decide +kernel
theorem dX10_loud_7 : decode cX10_loud 7 = .ok (.ifCond .eq 12, 3) := by decide +kernel
theorem dX10_loud_10 : decode cX10_loud 10 = .ok (.iload_n 2, 1) := by decide +kernel
theorem dX10_loud_11 : decode cX10_loud 11 = .ok (.iconst 0, 1) := by decide +kernel
theorem dX10_loud_12 : decode cX10_loud 12 = .ok (.iconst 1, 1) := by decide +kernel
theorem dX10_loud_13 : decode cX10_loud 13 = .ok (.invokestatic 107, 3) := by decide +kernel
theorem dX10_loud_16 : decode cX10_loud 16 = .ok (.ifCond .ne 7, 3) := by decide +kernel
theorem dX10_loud_19 : decode cX10_loud 19 = .ok (.ldc2_w 176, 3) := by decide +kernel
theorem dX10_loud_22 : decode cX10_loud 22 = .ok (.lreturn, 1) := by decide +kernel
theorem dX10_loud_23 : decode cX10_loud 23 = .ok (.aload_n 0, 1) := by decide +kernel
theorem dX10_loud_24 : decode cX10_loud 24 = .ok (.getfield 49, 3) := by decide +kernel
theorem dX10_loud_27 : decode cX10_loud 27 = .ok (.iload_n 1, 1) := by decide +kernel
theorem dX10_loud_28 : decode cX10_loud 28 = .ok (.invokevirtual 290, 3) := by decide +kernel
theorem dX10_loud_31 : decode cX10_loud 31 = .ok (.aload_n 0, 1) := by decide +kernel
theorem dX10_loud_32 : decode cX10_loud 32 = .ok (.getfield 49, 3) := by decide +kernel
theorem dX10_loud_35 : decode cX10_loud 35 = .ok (.getfield 284, 3) := by decide +kernel
theorem dX10_loud_38 : decode cX10_loud 38 = .ok (.iload_n 2, 1) := by decide +kernel
theorem dX10_loud_39 : decode cX10_loud 39 = .ok (.invokevirtual 255, 3) := by decide +kernel
theorem dX10_loud_42 : decode cX10_loud 42 = .ok (.lreturn, 1) := by decide +kernel
theorem dX10_steady_0 : decode cX10_steady 0 = .ok (.iload_n 3, 1) := by decide +kernel
theorem dX10_steady_1 : decode cX10_steady 1 = .ok (.iconst 1, 1) := by decide +kernel
theorem dX10_steady_2 : decode cX10_steady 2 = .ok (.iconst 4, 1) := by decide +kernel
theorem dX10_steady_3 : decode cX10_steady 3 = .ok (.invokestatic 107, 3) := by decide +kernel
theorem dX10_steady_6 : decode cX10_steady 6 = .ok (.ifCond .eq 16, 3) := by decide +kernel
theorem dX10_steady_9 : decode cX10_steady 9 = .ok (.lload_n 1, 1) := by decide +kernel
theorem dX10_steady_10 : decode cX10_steady 10 = .ok (.bipush 8, 2) := by decide +kernel
theorem dX10_steady_12 : decode cX10_steady 12 = .ok (.iload_n 3, 1) := by decide +kernel
theorem dX10_steady_13 : decode cX10_steady 13 = .ok (.iconst 1, 1) := by decide +kernel
theorem dX10_steady_14 : decode cX10_steady 14 = .ok (.iadd, 1) := by decide +kernel
theorem dX10_steady_15 : decode cX10_steady 15 = .ok (.imul, 1) := by decide +kernel
theorem dX10_steady_16 : decode cX10_steady 16 = .ok (.invokestatic 293, 3) := by decide +kernel
theorem dX10_steady_19 : decode cX10_steady 19 = .ok (.ifCond .ne 6, 3) := by decide +kernel
theorem dX10_steady_22 : decode cX10_steady 22 = .ok (.bipush (-2), 2) := by decide +kernel
theorem dX10_steady_24 : decode cX10_steady 24 = .ok (.ireturn, 1) := by decide +kernel
theorem dX10_steady_25 : decode cX10_steady 25 = .ok (.iconst 0, 1) := by decide +kernel
theorem dX10_steady_26 : decode cX10_steady 26 = .ok (.istore 4, 2) := by decide +kernel
theorem dX10_steady_28 : decode cX10_steady 28 = .ok (.iload 4, 2) := by decide +kernel
theorem dX10_steady_30 : decode cX10_steady 30 = .ok (.iload_n 3, 1) := by decide +kernel
theorem dX10_steady_31 : decode cX10_steady 31 = .ok (.if_icmp .gt 61, 3) := by decide +kernel
theorem dX10_steady_34 : decode cX10_steady 34 = .ok (.lload_n 1, 1) := by decide +kernel
theorem dX10_steady_35 : decode cX10_steady 35 = .ok (.bipush 8, 2) := by decide +kernel
theorem dX10_steady_37 : decode cX10_steady 37 = .ok (.iload 4, 2) := by decide +kernel
theorem dX10_steady_39 : decode cX10_steady 39 = .ok (.imul, 1) := by decide +kernel
theorem dX10_steady_40 : decode cX10_steady 40 = .ok (.lushr, 1) := by decide +kernel
theorem dX10_steady_41 : decode cX10_steady 41 = .ok (.l2i, 1) := by decide +kernel
theorem dX10_steady_42 : decode cX10_steady 42 = .ok (.sipush 255, 3) := by decide +kernel
theorem dX10_steady_45 : decode cX10_steady 45 = .ok (.iand, 1) := by decide +kernel
theorem dX10_steady_46 : decode cX10_steady 46 = .ok (.bipush 100, 2) := by decide +kernel
theorem dX10_steady_48 : decode cX10_steady 48 = .ok (.isub, 1) := by decide +kernel
theorem dX10_steady_49 : decode cX10_steady 49 = .ok (.istore 5, 2) := by decide +kernel
theorem dX10_steady_51 : decode cX10_steady 51 = .ok (.iload 5, 2) := by decide +kernel
theorem dX10_steady_53 : decode cX10_steady 53 = .ok (.bipush (-99), 2) := by decide +kernel
theorem dX10_steady_55 : decode cX10_steady 55 = .ok (.bipush 99, 2) := by decide +kernel
theorem dX10_steady_57 : decode cX10_steady 57 = .ok (.invokestatic 107, 3) := by decide +kernel
theorem dX10_steady_60 : decode cX10_steady 60 = .ok (.ifCond .eq 13, 3) := by decide +kernel
theorem dX10_steady_63 : decode cX10_steady 63 = .ok (.iload 4, 2) := by decide +kernel
theorem dX10_steady_65 : decode cX10_steady 65 = .ok (.ifCond .ne 11, 3) := by decide +kernel
theorem dX10_steady_68 : decode cX10_steady 68 = .ok (.iload 5, 2) := by decide +kernel
theorem dX10_steady_70 : decode cX10_steady 70 = .ok (.ifCond .ne 6, 3) := by decide +kernel
theorem dX10_steady_73 : decode cX10_steady 73 = .ok (.bipush (-2), 2) := by decide +kernel
theorem dX10_steady_75 : decode cX10_steady 75 = .ok (.ireturn, 1) := by decide +kernel
theorem dX10_steady_76 : decode cX10_steady 76 = .ok (.aload_n 0, 1) := by decide +kernel
theorem dX10_steady_77 : decode cX10_steady 77 = .ok (.getfield 74, 3) := by decide +kernel
theorem dX10_steady_80 : decode cX10_steady 80 = .ok (.iload 4, 2) := by decide +kernel
theorem dX10_steady_82 : decode cX10_steady 82 = .ok (.iload 5, 2) := by decide +kernel
theorem dX10_steady_84 : decode cX10_steady 84 = .ok (.i2l, 1) := by decide +kernel
theorem dX10_steady_85 : decode cX10_steady 85 = .ok (.lastore, 1) := by decide +kernel
theorem dX10_steady_86 : decode cX10_steady 86 = .ok (.iinc 4 1, 3) := by decide +kernel
theorem dX10_steady_89 : decode cX10_steady 89 = .ok (.goto (-61), 3) := by decide +kernel
theorem dX10_steady_92 : decode cX10_steady 92 = .ok (.iload_n 3, 1) := by decide +kernel
theorem dX10_steady_93 : decode cX10_steady 93 = .ok (.istore 4, 2) := by decide +kernel
theorem dX10_steady_95 : decode cX10_steady 95 = .ok (.iload 4, 2) := by decide +kernel
theorem dX10_steady_97 : decode cX10_steady 97 = .ok (.ifCond .le 40, 3) := by decide +kernel
theorem dX10_steady_100 : decode cX10_steady 100 = .ok (.aload_n 0, 1) := by decide +kernel
theorem dX10_steady_101 : decode cX10_steady 101 = .ok (.getfield 74, 3) := by decide +kernel
theorem dX10_steady_104 : decode cX10_steady 104 = .ok (.iconst 0, 1) := by decide +kernel
theorem dX10_steady_105 : decode cX10_steady 105 = .ok (.laload, 1) := by decide +kernel
theorem dX10_steady_106 : decode cX10_steady 106 = .ok (.invokestatic 297, 3) := by decide +kernel
theorem dX10_steady_109 : decode cX10_steady 109 = .ok (.aload_n 0, 1) := by decide +kernel
theorem dX10_steady_110 : decode cX10_steady 110 = .ok (.getfield 74, 3) := by decide +kernel
theorem dX10_steady_113 : decode cX10_steady 113 = .ok (.iload 4, 2) := by decide +kernel
theorem dX10_steady_115 : decode cX10_steady 115 = .ok (.laload, 1) := by decide +kernel
theorem dX10_steady_116 : decode cX10_steady 116 = .ok (.invokestatic 297, 3) := by decide +kernel
theorem dX10_steady_119 : decode cX10_steady 119 = .ok (.lcmp, 1) := by decide +kernel
theorem dX10_steady_120 : decode cX10_steady 120 = .ok (.ifCond .gt 5, 3) := by decide +kernel
theorem dX10_steady_123 : decode cX10_steady 123 = .ok (.iconst 0, 1) := by decide +kernel
theorem dX10_steady_124 : decode cX10_steady 124 = .ok (.ireturn, 1) := by decide +kernel
theorem dX10_steady_125 : decode cX10_steady 125 = .ok (.aload_n 0, 1) := by decide +kernel
theorem dX10_steady_126 : decode cX10_steady 126 = .ok (.iload 4, 2) := by decide +kernel
theorem dX10_steady_128 : decode cX10_steady 128 = .ok (.invokevirtual 303, 3) := by decide +kernel
theorem dX10_steady_131 : decode cX10_steady 131 = .ok (.iinc 4 (-1), 3) := by decide +kernel
theorem dX10_steady_134 : decode cX10_steady 134 = .ok (.goto (-39), 3) := by decide +kernel
theorem dX10_steady_137 : decode cX10_steady 137 = .ok (.iconst 1, 1) := by decide +kernel
theorem dX10_steady_138 : decode cX10_steady 138 = .ok (.ireturn, 1) := by decide +kernel
theorem dX10_lower_0 : decode cX10_lower 0 = .ok (.iload_n 1, 1) := by decide +kernel
theorem dX10_lower_1 : decode cX10_lower 1 = .ok (.iconst 2, 1) := by decide +kernel
theorem dX10_lower_2 : decode cX10_lower 2 = .ok (.if_icmp .lt 12, 3) := by decide +kernel
theorem dX10_lower_5 : decode cX10_lower 5 = .ok (.iload_n 1, 1) := by decide +kernel
theorem dX10_lower_6 : decode cX10_lower 6 = .ok (.aload_n 0, 1) := by decide +kernel
theorem dX10_lower_7 : decode cX10_lower 7 = .ok (.getfield 74, 3) := by decide +kernel
theorem dX10_lower_10 : decode cX10_lower 10 = .ok (.arraylength, 1) := by decide +kernel
theorem dX10_lower_11 : decode cX10_lower 11 = .ok (.if_icmp .lt 4, 3) := by decide +kernel
theorem dX10_lower_14 : decode cX10_lower 14 = .ok (.return_, 1) := by decide +kernel
theorem dX10_lower_15 : decode cX10_lower 15 = .ok (.aload_n 0, 1) := by decide +kernel
theorem dX10_lower_16 : decode cX10_lower 16 = .ok (.getfield 74, 3) := by decide +kernel
theorem dX10_lower_19 : decode cX10_lower 19 = .ok (.iconst 0, 1) := by decide +kernel
theorem dX10_lower_20 : decode cX10_lower 20 = .ok (.laload, 1) := by decide +kernel
theorem dX10_lower_21 : decode cX10_lower 21 = .ok (.lstore_n 2, 1) := by decide +kernel
theorem dX10_lower_22 : decode cX10_lower 22 = .ok (.aload_n 0, 1) := by decide +kernel
theorem dX10_lower_23 : decode cX10_lower 23 = .ok (.getfield 74, 3) := by decide +kernel
theorem dX10_lower_26 : decode cX10_lower 26 = .ok (.iload_n 1, 1) := by decide +kernel
theorem dX10_lower_27 : decode cX10_lower 27 = .ok (.laload, 1) := by decide +kernel
theorem dX10_lower_28 : decode cX10_lower 28 = .ok (.lstore 4, 2) := by decide +kernel
theorem dX10_lower_30 : decode cX10_lower 30 = .ok (.iconst 0, 1) := by decide +kernel
theorem dX10_lower_31 : decode cX10_lower 31 = .ok (.istore 6, 2) := by decide +kernel
theorem dX10_lower_33 : decode cX10_lower 33 = .ok (.iload_n 1, 1) := by decide +kernel
theorem dX10_lower_34 : decode cX10_lower 34 = .ok (.istore 7, 2) := by decide +kernel
theorem dX10_lower_36 : decode cX10_lower 36 = .ok (.iload 6, 2) := by decide +kernel
theorem dX10_lower_38 : decode cX10_lower 38 = .ok (.iload 7, 2) := by decide +kernel
theorem dX10_lower_40 : decode cX10_lower 40 = .ok (.if_icmp .gt 64, 3) := by decide +kernel
theorem dX10_lower_43 : decode cX10_lower 43 = .ok (.aload_n 0, 1) := by decide +kernel
theorem dX10_lower_44 : decode cX10_lower 44 = .ok (.getfield 74, 3) := by decide +kernel
theorem dX10_lower_47 : decode cX10_lower 47 = .ok (.iload 6, 2) := by decide +kernel
theorem dX10_lower_49 : decode cX10_lower 49 = .ok (.laload, 1) := by decide +kernel
theorem dX10_lower_50 : decode cX10_lower 50 = .ok (.lstore 8, 2) := by decide +kernel
theorem dX10_lower_52 : decode cX10_lower 52 = .ok (.aload_n 0, 1) := by decide +kernel
theorem dX10_lower_53 : decode cX10_lower 53 = .ok (.getfield 74, 3) := by decide +kernel
theorem dX10_lower_56 : decode cX10_lower 56 = .ok (.iload 7, 2) := by decide +kernel
theorem dX10_lower_58 : decode cX10_lower 58 = .ok (.laload, 1) := by decide +kernel
theorem dX10_lower_59 : decode cX10_lower 59 = .ok (.lstore 10, 2) := by decide +kernel
theorem dX10_lower_61 : decode cX10_lower 61 = .ok (.aload_n 0, 1) := by decide +kernel
theorem dX10_lower_62 : decode cX10_lower 62 = .ok (.getfield 74, 3) := by decide +kernel
theorem dX10_lower_65 : decode cX10_lower 65 = .ok (.iload 6, 2) := by decide +kernel
theorem dX10_lower_67 : decode cX10_lower 67 = .ok (.lload_n 2, 1) := by decide +kernel
theorem dX10_lower_68 : decode cX10_lower 68 = .ok (.lload 8, 2) := by decide +kernel
theorem dX10_lower_70 : decode cX10_lower 70 = .ok (.lmul, 1) := by decide +kernel
theorem dX10_lower_71 : decode cX10_lower 71 = .ok (.lload 4, 2) := by decide +kernel
theorem dX10_lower_73 : decode cX10_lower 73 = .ok (.lload 10, 2) := by decide +kernel
theorem dX10_lower_75 : decode cX10_lower 75 = .ok (.lmul, 1) := by decide +kernel
theorem dX10_lower_76 : decode cX10_lower 76 = .ok (.lsub, 1) := by decide +kernel
theorem dX10_lower_77 : decode cX10_lower 77 = .ok (.lastore, 1) := by decide +kernel
theorem dX10_lower_78 : decode cX10_lower 78 = .ok (.aload_n 0, 1) := by decide +kernel
theorem dX10_lower_79 : decode cX10_lower 79 = .ok (.getfield 74, 3) := by decide +kernel
theorem dX10_lower_82 : decode cX10_lower 82 = .ok (.iload 7, 2) := by decide +kernel
theorem dX10_lower_84 : decode cX10_lower 84 = .ok (.lload_n 2, 1) := by decide +kernel
theorem dX10_lower_85 : decode cX10_lower 85 = .ok (.lload 10, 2) := by decide +kernel
theorem dX10_lower_87 : decode cX10_lower 87 = .ok (.lmul, 1) := by decide +kernel
theorem dX10_lower_88 : decode cX10_lower 88 = .ok (.lload 4, 2) := by decide +kernel
theorem dX10_lower_90 : decode cX10_lower 90 = .ok (.lload 8, 2) := by decide +kernel
theorem dX10_lower_92 : decode cX10_lower 92 = .ok (.lmul, 1) := by decide +kernel
theorem dX10_lower_93 : decode cX10_lower 93 = .ok (.lsub, 1) := by decide +kernel
theorem dX10_lower_94 : decode cX10_lower 94 = .ok (.lastore, 1) := by decide +kernel
theorem dX10_lower_95 : decode cX10_lower 95 = .ok (.iinc 6 1, 3) := by decide +kernel
theorem dX10_lower_98 : decode cX10_lower 98 = .ok (.iinc 7 (-1), 3) := by decide +kernel
theorem dX10_lower_101 : decode cX10_lower 101 = .ok (.goto (-65), 3) := by decide +kernel
theorem dX10_lower_104 : decode cX10_lower 104 = .ok (.return_, 1) := by decide +kernel
theorem dX10_chances_0 : decode cX10_chances 0 = .ok (.iload_n 1, 1) := by decide +kernel
theorem dX10_chances_1 : decode cX10_chances 1 = .ok (.iconst 1, 1) := by decide +kernel
theorem dX10_chances_2 : decode cX10_chances 2 = .ok (.ldc_w 306, 3) := by decide +kernel
theorem dX10_chances_5 : decode cX10_chances 5 = .ok (.invokestatic 107, 3) := by decide +kernel
theorem dX10_chances_8 : decode cX10_chances 8 = .ok (.ifCond .ne 6, 3) := by decide +kernel
theorem dX10_chances_11 : decode cX10_chances 11 = .ok (.bipush (-2), 2) := by decide +kernel
theorem dX10_chances_13 : decode cX10_chances 13 = .ok (.ireturn, 1) := by decide +kernel
theorem dX10_chances_14 : decode cX10_chances 14 = .ok (.iload_n 1, 1) := by decide +kernel
theorem dX10_chances_15 : decode cX10_chances 15 = .ok (.istore_n 2, 1) := by decide +kernel
theorem dX10_chances_16 : decode cX10_chances 16 = .ok (.iconst 4, 1) := by decide +kernel
theorem dX10_chances_17 : decode cX10_chances 17 = .ok (.istore_n 3, 1) := by decide +kernel
theorem dX10_chances_18 : decode cX10_chances 18 = .ok (.iload_n 3, 1) := by decide +kernel
theorem dX10_chances_19 : decode cX10_chances 19 = .ok (.ifCond .lt 27, 3) := by decide +kernel
theorem dX10_chances_22 : decode cX10_chances 22 = .ok (.aload_n 0, 1) := by decide +kernel
theorem dX10_chances_23 : decode cX10_chances 23 = .ok (.getfield 63, 3) := by decide +kernel
theorem dX10_chances_26 : decode cX10_chances 26 = .ok (.getfield 307, 3) := by decide +kernel
theorem dX10_chances_29 : decode cX10_chances 29 = .ok (.iload_n 3, 1) := by decide +kernel
theorem dX10_chances_30 : decode cX10_chances 30 = .ok (.iload_n 2, 1) := by decide +kernel
theorem dX10_chances_31 : decode cX10_chances 31 = .ok (.bipush 10, 2) := by decide +kernel
theorem dX10_chances_33 : decode cX10_chances 33 = .ok (.irem, 1) := by decide +kernel
theorem dX10_chances_34 : decode cX10_chances 34 = .ok (.iastore, 1) := by decide +kernel
theorem dX10_chances_35 : decode cX10_chances 35 = .ok (.iload_n 2, 1) := by decide +kernel
theorem dX10_chances_36 : decode cX10_chances 36 = .ok (.bipush 10, 2) := by decide +kernel
theorem dX10_chances_38 : decode cX10_chances 38 = .ok (.idiv, 1) := by decide +kernel
theorem dX10_chances_39 : decode cX10_chances 39 = .ok (.istore_n 2, 1) := by decide +kernel
theorem dX10_chances_40 : decode cX10_chances 40 = .ok (.iinc 3 (-1), 3) := by decide +kernel
theorem dX10_chances_43 : decode cX10_chances 43 = .ok (.goto (-25), 3) := by decide +kernel
theorem dX10_chances_46 : decode cX10_chances 46 = .ok (.iconst 0, 1) := by decide +kernel
theorem dX10_chances_47 : decode cX10_chances 47 = .ok (.ireturn, 1) := by decide +kernel
theorem dX10_chance_0 : decode cX10_chance 0 = .ok (.iload_n 1, 1) := by decide +kernel
theorem dX10_chance_1 : decode cX10_chance 1 = .ok (.iconst 1, 1) := by decide +kernel
theorem dX10_chance_2 : decode cX10_chance 2 = .ok (.bipush 6, 2) := by decide +kernel
theorem dX10_chance_4 : decode cX10_chance 4 = .ok (.invokestatic 107, 3) := by decide +kernel
theorem dX10_chance_7 : decode cX10_chance 7 = .ok (.ifCond .eq 7, 3) := by decide +kernel
theorem dX10_chance_10 : decode cX10_chance 10 = .ok (.iload_n 2, 1) := by decide +kernel
theorem dX10_chance_11 : decode cX10_chance 11 = .ok (.ifCond .ge 7, 3) := by decide +kernel
theorem dX10_chance_14 : decode cX10_chance 14 = .ok (.ldc2_w 176, 3) := by decide +kernel
theorem dX10_chance_17 : decode cX10_chance 17 = .ok (.lreturn, 1) := by decide +kernel
theorem dX10_chance_18 : decode cX10_chance 18 = .ok (.aload_n 0, 1) := by decide +kernel
theorem dX10_chance_19 : decode cX10_chance 19 = .ok (.getfield 63, 3) := by decide +kernel
theorem dX10_chance_22 : decode cX10_chance 22 = .ok (.iload_n 1, 1) := by decide +kernel
theorem dX10_chance_23 : decode cX10_chance 23 = .ok (.aload_n 0, 1) := by decide +kernel
theorem dX10_chance_24 : decode cX10_chance 24 = .ok (.getfield 63, 3) := by decide +kernel
theorem dX10_chance_27 : decode cX10_chance 27 = .ok (.getfield 310, 3) := by decide +kernel
theorem dX10_chance_30 : decode cX10_chance 30 = .ok (.invokevirtual 313, 3) := by decide +kernel
theorem dX10_chance_33 : decode cX10_chance 33 = .ok (.iload_n 2, 1) := by decide +kernel
theorem dX10_chance_34 : decode cX10_chance 34 = .ok (.aload_n 0, 1) := by decide +kernel
theorem dX10_chance_35 : decode cX10_chance 35 = .ok (.getfield 63, 3) := by decide +kernel
theorem dX10_chance_38 : decode cX10_chance 38 = .ok (.getfield 310, 3) := by decide +kernel
theorem dX10_chance_41 : decode cX10_chance 41 = .ok (.arraylength, 1) := by decide +kernel
theorem dX10_chance_42 : decode cX10_chance 42 = .ok (.if_icmp .ge 15, 3) := by decide +kernel
theorem dX10_chance_45 : decode cX10_chance 45 = .ok (.aload_n 0, 1) := by decide +kernel
theorem dX10_chance_46 : decode cX10_chance 46 = .ok (.getfield 63, 3) := by decide +kernel
theorem dX10_chance_49 : decode cX10_chance 49 = .ok (.getfield 310, 3) := by decide +kernel
theorem dX10_chance_52 : decode cX10_chance 52 = .ok (.iload_n 2, 1) := by decide +kernel
theorem dX10_chance_53 : decode cX10_chance 53 = .ok (.laload, 1) := by decide +kernel
theorem dX10_chance_54 : decode cX10_chance 54 = .ok (.goto 4, 3) := by decide +kernel
theorem dX10_chance_57 : decode cX10_chance 57 = .ok (.lconst 0, 1) := by decide +kernel
theorem dX10_chance_58 : decode cX10_chance 58 = .ok (.lreturn, 1) := by decide +kernel
theorem dX10_level_0 : decode cX10_level 0 = .ok (.aload_n 0, 1) := by decide +kernel
theorem dX10_level_1 : decode cX10_level 1 = .ok (.getfield 63, 3) := by decide +kernel
theorem dX10_level_4 : decode cX10_level 4 = .ok (.iload_n 2, 1) := by decide +kernel
theorem dX10_level_5 : decode cX10_level 5 = .ok (.iload_n 3, 1) := by decide +kernel
theorem dX10_level_6 : decode cX10_level 6 = .ok (.invokevirtual 317, 3) := by decide +kernel
theorem dX10_level_9 : decode cX10_level 9 = .ok (.ifCond .ne 6, 3) := by decide +kernel
theorem dX10_level_12 : decode cX10_level 12 = .ok (.bipush (-2), 2) := by decide +kernel
theorem dX10_level_14 : decode cX10_level 14 = .ok (.ireturn, 1) := by decide +kernel
theorem dX10_level_15 : decode cX10_level 15 = .ok (.iload_n 1, 1) := by decide +kernel
theorem dX10_level_16 : decode cX10_level 16 = .ok (.iconst 0, 1) := by decide +kernel
theorem dX10_level_17 : decode cX10_level 17 = .ok (.iconst 1, 1) := by decide +kernel
theorem dX10_level_18 : decode cX10_level 18 = .ok (.invokestatic 107, 3) := by decide +kernel
theorem dX10_level_21 : decode cX10_level 21 = .ok (.ifCond .ne 5, 3) := by decide +kernel
theorem dX10_level_24 : decode cX10_level 24 = .ok (.iconst (-1), 1) := by decide +kernel
theorem dX10_level_25 : decode cX10_level 25 = .ok (.ireturn, 1) := by decide +kernel
theorem dX10_level_26 : decode cX10_level 26 = .ok (.aload_n 0, 1) := by decide +kernel
theorem dX10_level_27 : decode cX10_level 27 = .ok (.getfield 63, 3) := by decide +kernel
theorem dX10_level_30 : decode cX10_level 30 = .ok (.invokevirtual 320, 3) := by decide +kernel
theorem dX10_level_33 : decode cX10_level 33 = .ok (.iload_n 1, 1) := by decide +kernel
theorem dX10_level_34 : decode cX10_level 34 = .ok (.ifCond .ne 13, 3) := by decide +kernel
theorem dX10_level_37 : decode cX10_level 37 = .ok (.aload_n 0, 1) := by decide +kernel
theorem dX10_level_38 : decode cX10_level 38 = .ok (.getfield 63, 3) := by decide +kernel
theorem dX10_level_41 : decode cX10_level 41 = .ok (.getfield 323, 3) := by decide +kernel
theorem dX10_level_44 : decode cX10_level 44 = .ok (.goto 10, 3) := by decide +kernel
theorem dX10_level_47 : decode cX10_level 47 = .ok (.aload_n 0, 1) := by decide +kernel
theorem dX10_level_48 : decode cX10_level 48 = .ok (.getfield 63, 3) := by decide +kernel
theorem dX10_level_51 : decode cX10_level 51 = .ok (.invokevirtual 326, 3) := by decide +kernel
theorem dX10_level_54 : decode cX10_level 54 = .ok (.ireturn, 1) := by decide +kernel
theorem dX10_levelCost_0 : decode cX10_levelCost 0 = .ok (.iload_n 1, 1) := by decide +kernel
theorem dX10_levelCost_1 : decode cX10_levelCost 1 = .ok (.iconst 0, 1) := by decide +kernel
theorem dX10_levelCost_2 : decode cX10_levelCost 2 = .ok (.iconst 1, 1) := by decide +kernel
theorem dX10_levelCost_3 : decode cX10_levelCost 3 = .ok (.invokestatic 107, 3) := by decide +kernel
theorem dX10_levelCost_6 : decode cX10_levelCost 6 = .ok (.ifCond .eq 27, 3) := by decide +kernel
theorem dX10_levelCost_9 : decode cX10_levelCost 9 = .ok (.iload 4, 2) := by decide +kernel
theorem dX10_levelCost_11 : decode cX10_levelCost 11 = .ok (.bipush (-30), 2) := by decide +kernel
theorem dX10_levelCost_13 : decode cX10_levelCost 13 = .ok (.bipush 30, 2) := by decide +kernel
theorem dX10_levelCost_15 : decode cX10_levelCost 15 = .ok (.invokestatic 107, 3) := by decide +kernel
theorem dX10_levelCost_18 : decode cX10_levelCost 18 = .ok (.ifCond .eq 15, 3) := by decide +kernel
theorem dX10_levelCost_21 : decode cX10_levelCost 21 = .ok (.aload_n 0, 1) := by decide +kernel
theorem dX10_levelCost_22 : decode cX10_levelCost 22 = .ok (.getfield 63, 3) := by decide +kernel
theorem dX10_levelCost_25 : decode cX10_levelCost 25 = .ok (.iload_n 2, 1) := by decide +kernel
theorem dX10_levelCost_26 : decode cX10_levelCost 26 = .ok (.iload_n 3, 1) := by decide +kernel
theorem dX10_levelCost_27 : decode cX10_levelCost 27 = .ok (.invokevirtual 317, 3) := by decide +kernel
theorem dX10_levelCost_30 : decode cX10_levelCost 30 = .ok (.ifCond .ne 7, 3) := by decide +kernel
theorem dX10_levelCost_33 : decode cX10_levelCost 33 = .ok (.ldc2_w 176, 3) := by decide +kernel
theorem dX10_levelCost_36 : decode cX10_levelCost 36 = .ok (.lreturn, 1) := by decide +kernel
theorem dX10_levelCost_37 : decode cX10_levelCost 37 = .ok (.aload_n 0, 1) := by decide +kernel
theorem dX10_levelCost_38 : decode cX10_levelCost 38 = .ok (.getfield 63, 3) := by decide +kernel
theorem dX10_levelCost_41 : decode cX10_levelCost 41 = .ok (.invokevirtual 320, 3) := by decide +kernel
theorem dX10_levelCost_44 : decode cX10_levelCost 44 = .ok (.iload_n 1, 1) := by decide +kernel
theorem dX10_levelCost_45 : decode cX10_levelCost 45 = .ok (.ifCond .ne 15, 3) := by decide +kernel
theorem dX10_levelCost_48 : decode cX10_levelCost 48 = .ok (.aload_n 0, 1) := by decide +kernel
theorem dX10_levelCost_49 : decode cX10_levelCost 49 = .ok (.getfield 63, 3) := by decide +kernel
theorem dX10_levelCost_52 : decode cX10_levelCost 52 = .ok (.iload 4, 2) := by decide +kernel
theorem dX10_levelCost_54 : decode cX10_levelCost 54 = .ok (.invokevirtual 329, 3) := by decide +kernel
theorem dX10_levelCost_57 : decode cX10_levelCost 57 = .ok (.goto 12, 3) := by decide +kernel
theorem dX10_levelCost_60 : decode cX10_levelCost 60 = .ok (.aload_n 0, 1) := by decide +kernel
theorem dX10_levelCost_61 : decode cX10_levelCost 61 = .ok (.getfield 63, 3) := by decide +kernel
theorem dX10_levelCost_64 : decode cX10_levelCost 64 = .ok (.iload 4, 2) := by decide +kernel
theorem dX10_levelCost_66 : decode cX10_levelCost 66 = .ok (.invokevirtual 332, 3) := by decide +kernel
theorem dX10_levelCost_69 : decode cX10_levelCost 69 = .ok (.lreturn, 1) := by decide +kernel
theorem dX10_worst_0 : decode cX10_worst 0 = .ok (.aload_n 0, 1) := by decide +kernel
theorem dX10_worst_1 : decode cX10_worst 1 = .ok (.getfield 12, 3) := by decide +kernel
theorem dX10_worst_4 : decode cX10_worst 4 = .ok (.iload_n 1, 1) := by decide +kernel
theorem dX10_worst_5 : decode cX10_worst 5 = .ok (.invokevirtual 111, 3) := by decide +kernel
theorem dX10_worst_8 : decode cX10_worst 8 = .ok (.ifCond .eq 12, 3) := by decide +kernel
theorem dX10_worst_11 : decode cX10_worst 11 = .ok (.iload_n 2, 1) := by decide +kernel
theorem dX10_worst_12 : decode cX10_worst 12 = .ok (.iconst 0, 1) := by decide +kernel
theorem dX10_worst_13 : decode cX10_worst 13 = .ok (.iconst 1, 1) := by decide +kernel
theorem dX10_worst_14 : decode cX10_worst 14 = .ok (.invokestatic 107, 3) := by decide +kernel
theorem dX10_worst_17 : decode cX10_worst 17 = .ok (.ifCond .ne 7, 3) := by decide +kernel
theorem dX10_worst_20 : decode cX10_worst 20 = .ok (.ldc2_w 335, 3) := by decide +kernel
theorem dX10_worst_23 : decode cX10_worst 23 = .ok (.lreturn, 1) := by decide +kernel
theorem dX10_worst_24 : decode cX10_worst 24 = .ok (.iload_n 3, 1) := by decide +kernel
theorem dX10_worst_25 : decode cX10_worst 25 = .ok (.iconst 1, 1) := by decide +kernel
theorem dX10_worst_26 : decode cX10_worst 26 = .ok (.bipush 6, 2) := by decide +kernel
theorem dX10_worst_28 : decode cX10_worst 28 = .ok (.invokestatic 107, 3) := by decide +kernel
theorem dX10_worst_31 : decode cX10_worst 31 = .ok (.ifCond .eq 28, 3) := by decide +kernel
theorem dX10_worst_34 : decode cX10_worst 34 = .ok (.iload 4, 2) := by decide +kernel
theorem dX10_worst_36 : decode cX10_worst 36 = .ok (.iconst 0, 1) := by decide +kernel
theorem dX10_worst_37 : decode cX10_worst 37 = .ok (.sipush 999, 3) := by decide +kernel
theorem dX10_worst_40 : decode cX10_worst 40 = .ok (.invokestatic 107, 3) := by decide +kernel
theorem dX10_worst_43 : decode cX10_worst 43 = .ok (.ifCond .eq 16, 3) := by decide +kernel
theorem dX10_worst_46 : decode cX10_worst 46 = .ok (.iload 5, 2) := by decide +kernel
theorem dX10_worst_48 : decode cX10_worst 48 = .ok (.iload 4, 2) := by decide +kernel
theorem dX10_worst_50 : decode cX10_worst 50 = .ok (.sipush 999, 3) := by decide +kernel
theorem dX10_worst_53 : decode cX10_worst 53 = .ok (.invokestatic 107, 3) := by decide +kernel
theorem dX10_worst_56 : decode cX10_worst 56 = .ok (.ifCond .ne 7, 3) := by decide +kernel
theorem dX10_worst_59 : decode cX10_worst 59 = .ok (.ldc2_w 337, 3) := by decide +kernel
theorem dX10_worst_62 : decode cX10_worst 62 = .ok (.lreturn, 1) := by decide +kernel
theorem dX10_worst_63 : decode cX10_worst 63 = .ok (.aload_n 0, 1) := by decide +kernel
theorem dX10_worst_64 : decode cX10_worst 64 = .ok (.getfield 85, 3) := by decide +kernel
theorem dX10_worst_67 : decode cX10_worst 67 = .ok (.getfield 114, 3) := by decide +kernel
theorem dX10_worst_70 : decode cX10_worst 70 = .ok (.iload_n 3, 1) := by decide +kernel
theorem dX10_worst_71 : decode cX10_worst 71 = .ok (.iadd, 1) := by decide +kernel
theorem dX10_worst_72 : decode cX10_worst 72 = .ok (.sipush 400, 3) := by decide +kernel
theorem dX10_worst_75 : decode cX10_worst 75 = .ok (.if_icmp .le 7, 3) := by decide +kernel
theorem dX10_worst_78 : decode cX10_worst 78 = .ok (.ldc2_w 339, 3) := by decide +kernel
theorem dX10_worst_81 : decode cX10_worst 81 = .ok (.lreturn, 1) := by decide +kernel
theorem dX10_worst_82 : decode cX10_worst 82 = .ok (.ldc2_w 335, 3) := by decide +kernel
theorem dX10_worst_85 : decode cX10_worst 85 = .ok (.lstore 6, 2) := by decide +kernel
theorem dX10_worst_87 : decode cX10_worst 87 = .ok (.iconst 0, 1) := by decide +kernel
theorem dX10_worst_88 : decode cX10_worst 88 = .ok (.istore 8, 2) := by decide +kernel
theorem dX10_worst_90 : decode cX10_worst 90 = .ok (.iconst 0, 1) := by decide +kernel
theorem dX10_worst_91 : decode cX10_worst 91 = .ok (.istore 9, 2) := by decide +kernel
theorem dX10_worst_93 : decode cX10_worst 93 = .ok (.iload 9, 2) := by decide +kernel
theorem dX10_worst_95 : decode cX10_worst 95 = .ok (.iconst 1, 1) := by decide +kernel
theorem dX10_worst_96 : decode cX10_worst 96 = .ok (.iload_n 3, 1) := by decide +kernel
theorem dX10_worst_97 : decode cX10_worst 97 = .ok (.ishl, 1) := by decide +kernel
theorem dX10_worst_98 : decode cX10_worst 98 = .ok (.if_icmp .ge 61, 3) := by decide +kernel
theorem dX10_worst_101 : decode cX10_worst 101 = .ok (.aload_n 0, 1) := by decide +kernel
theorem dX10_worst_102 : decode cX10_worst 102 = .ok (.iload_n 1, 1) := by decide +kernel
theorem dX10_worst_103 : decode cX10_worst 103 = .ok (.iload 9, 2) := by decide +kernel
theorem dX10_worst_105 : decode cX10_worst 105 = .ok (.iload_n 3, 1) := by decide +kernel
theorem dX10_worst_106 : decode cX10_worst 106 = .ok (.iload 4, 2) := by decide +kernel
theorem dX10_worst_108 : decode cX10_worst 108 = .ok (.iload 5, 2) := by decide +kernel
theorem dX10_worst_110 : decode cX10_worst 110 = .ok (.invokevirtual 341, 3) := by decide +kernel
theorem dX10_worst_113 : decode cX10_worst 113 = .ok (.iload_n 2, 1) := by decide +kernel
theorem dX10_worst_114 : decode cX10_worst 114 = .ok (.ifCond .ne 15, 3) := by decide +kernel
theorem dX10_worst_117 : decode cX10_worst 117 = .ok (.aload_n 0, 1) := by decide +kernel
theorem dX10_worst_118 : decode cX10_worst 118 = .ok (.getfield 80, 3) := by decide +kernel
theorem dX10_worst_121 : decode cX10_worst 121 = .ok (.iload_n 3, 1) := by decide +kernel
theorem dX10_worst_122 : decode cX10_worst 122 = .ok (.aaload, 1) := by decide +kernel
theorem dX10_worst_123 : decode cX10_worst 123 = .ok (.invokevirtual 344, 3) := by decide +kernel
theorem dX10_worst_126 : decode cX10_worst 126 = .ok (.goto 9, 3) := by decide +kernel
theorem dX10_worst_129 : decode cX10_worst 129 = .ok (.aload_n 0, 1) := by decide +kernel
theorem dX10_worst_130 : decode cX10_worst 130 = .ok (.iload_n 3, 1) := by decide +kernel
theorem dX10_worst_131 : decode cX10_worst 131 = .ok (.invokevirtual 348, 3) := by decide +kernel
theorem dX10_worst_134 : decode cX10_worst 134 = .ok (.i2l, 1) := by decide +kernel
theorem dX10_worst_135 : decode cX10_worst 135 = .ok (.lstore 10, 2) := by decide +kernel
theorem dX10_worst_137 : decode cX10_worst 137 = .ok (.lload 10, 2) := by decide +kernel
theorem dX10_worst_139 : decode cX10_worst 139 = .ok (.lload 6, 2) := by decide +kernel
theorem dX10_worst_141 : decode cX10_worst 141 = .ok (.lcmp, 1) := by decide +kernel
theorem dX10_worst_142 : decode cX10_worst 142 = .ok (.ifCond .le 11, 3) := by decide +kernel
theorem dX10_worst_145 : decode cX10_worst 145 = .ok (.lload 10, 2) := by decide +kernel
theorem dX10_worst_147 : decode cX10_worst 147 = .ok (.lstore 6, 2) := by decide +kernel
theorem dX10_worst_149 : decode cX10_worst 149 = .ok (.iload 9, 2) := by decide +kernel
theorem dX10_worst_151 : decode cX10_worst 151 = .ok (.istore 8, 2) := by decide +kernel
theorem dX10_worst_153 : decode cX10_worst 153 = .ok (.iinc 9 1, 3) := by decide +kernel
theorem dX10_worst_156 : decode cX10_worst 156 = .ok (.goto (-63), 3) := by decide +kernel
theorem dX10_worst_159 : decode cX10_worst 159 = .ok (.iconst 0, 1) := by decide +kernel
theorem dX10_worst_160 : decode cX10_worst 160 = .ok (.istore 9, 2) := by decide +kernel
theorem dX10_worst_162 : decode cX10_worst 162 = .ok (.iload 9, 2) := by decide +kernel
theorem dX10_worst_164 : decode cX10_worst 164 = .ok (.iload_n 3, 1) := by decide +kernel
theorem dX10_worst_165 : decode cX10_worst 165 = .ok (.if_icmp .ge 34, 3) := by decide +kernel
theorem dX10_worst_168 : decode cX10_worst 168 = .ok (.aload_n 0, 1) := by decide +kernel
theorem dX10_worst_169 : decode cX10_worst 169 = .ok (.getfield 96, 3) := by decide +kernel
theorem dX10_worst_172 : decode cX10_worst 172 = .ok (.iload 9, 2) := by decide +kernel
theorem dX10_worst_174 : decode cX10_worst 174 = .ok (.iload 8, 2) := by decide +kernel
theorem dX10_worst_176 : decode cX10_worst 176 = .ok (.iload 9, 2) := by decide +kernel
theorem dX10_worst_178 : decode cX10_worst 178 = .ok (.iload_n 3, 1) := by decide +kernel
theorem dX10_worst_179 : decode cX10_worst 179 = .ok (.invokestatic 352, 3) := by decide +kernel
theorem dX10_worst_182 : decode cX10_worst 182 = .ok (.ifCond .eq 8, 3) := by decide +kernel
theorem dX10_worst_185 : decode cX10_worst 185 = .ok (.iload 5, 2) := by decide +kernel
theorem dX10_worst_187 : decode cX10_worst 187 = .ok (.goto 5, 3) := by decide +kernel
theorem dX10_worst_190 : decode cX10_worst 190 = .ok (.iload 4, 2) := by decide +kernel
theorem dX10_worst_192 : decode cX10_worst 192 = .ok (.iastore, 1) := by decide +kernel
theorem dX10_worst_193 : decode cX10_worst 193 = .ok (.iinc 9 1, 3) := by decide +kernel
theorem dX10_worst_196 : decode cX10_worst 196 = .ok (.goto (-34), 3) := by decide +kernel
theorem dX10_worst_199 : decode cX10_worst 199 = .ok (.aload_n 0, 1) := by decide +kernel
theorem dX10_worst_200 : decode cX10_worst 200 = .ok (.iload_n 3, 1) := by decide +kernel
theorem dX10_worst_201 : decode cX10_worst 201 = .ok (.putfield 355, 3) := by decide +kernel
theorem dX10_worst_204 : decode cX10_worst 204 = .ok (.lload 6, 2) := by decide +kernel
theorem dX10_worst_206 : decode cX10_worst 206 = .ok (.lreturn, 1) := by decide +kernel
theorem dX10_isHigh_0 : decode cX10_isHigh 0 = .ok (.iload_n 0, 1) := by decide +kernel
theorem dX10_isHigh_1 : decode cX10_isHigh 1 = .ok (.iload_n 2, 1) := by decide +kernel
theorem dX10_isHigh_2 : decode cX10_isHigh 2 = .ok (.iconst 1, 1) := by decide +kernel
theorem dX10_isHigh_3 : decode cX10_isHigh 3 = .ok (.isub, 1) := by decide +kernel
theorem dX10_isHigh_4 : decode cX10_isHigh 4 = .ok (.iload_n 1, 1) := by decide +kernel
theorem dX10_isHigh_5 : decode cX10_isHigh 5 = .ok (.isub, 1) := by decide +kernel
theorem dX10_isHigh_6 : decode cX10_isHigh 6 = .ok (.ishr, 1) := by decide +kernel
theorem dX10_isHigh_7 : decode cX10_isHigh 7 = .ok (.iconst 1, 1) := by decide +kernel
theorem dX10_isHigh_8 : decode cX10_isHigh 8 = .ok (.iand, 1) := by decide +kernel
theorem dX10_isHigh_9 : decode cX10_isHigh 9 = .ok (.iconst 1, 1) := by decide +kernel
theorem dX10_isHigh_10 : decode cX10_isHigh 10 = .ok (.if_icmp .ne 7, 3) := by decide +kernel
theorem dX10_isHigh_13 : decode cX10_isHigh 13 = .ok (.iconst 1, 1) := by decide +kernel
theorem dX10_isHigh_14 : decode cX10_isHigh 14 = .ok (.goto 4, 3) := by decide +kernel
theorem dX10_isHigh_17 : decode cX10_isHigh 17 = .ok (.iconst 0, 1) := by decide +kernel
theorem dX10_isHigh_18 : decode cX10_isHigh 18 = .ok (.ireturn, 1) := by decide +kernel
theorem dX10_lookAhead_0 : decode cX10_lookAhead 0 = .ok (.iconst 0, 1) := by decide +kernel
theorem dX10_lookAhead_1 : decode cX10_lookAhead 1 = .ok (.iload_n 3, 1) := by decide +kernel
theorem dX10_lookAhead_2 : decode cX10_lookAhead 2 = .ok (.iload_n 2, 1) := by decide +kernel
theorem dX10_lookAhead_3 : decode cX10_lookAhead 3 = .ok (.iload_n 2, 1) := by decide +kernel
theorem dX10_lookAhead_4 : decode cX10_lookAhead 4 = .ok (.iconst 1, 1) := by decide +kernel
theorem dX10_lookAhead_5 : decode cX10_lookAhead 5 = .ok (.isub, 1) := by decide +kernel
theorem dX10_lookAhead_6 : decode cX10_lookAhead 6 = .ok (.ixor, 1) := by decide +kernel
theorem dX10_lookAhead_7 : decode cX10_lookAhead 7 = .ok (.invokestatic 358, 3) := by decide +kernel
theorem dX10_lookAhead_10 : decode cX10_lookAhead 10 = .ok (.isub, 1) := by decide +kernel
theorem dX10_lookAhead_11 : decode cX10_lookAhead 11 = .ok (.invokestatic 363, 3) := by decide +kernel
theorem dX10_lookAhead_14 : decode cX10_lookAhead 14 = .ok (.istore 6, 2) := by decide +kernel
theorem dX10_lookAhead_16 : decode cX10_lookAhead 16 = .ok (.iload 6, 2) := by decide +kernel
theorem dX10_lookAhead_18 : decode cX10_lookAhead 18 = .ok (.istore 7, 2) := by decide +kernel
theorem dX10_lookAhead_20 : decode cX10_lookAhead 20 = .ok (.iload 7, 2) := by decide +kernel
theorem dX10_lookAhead_22 : decode cX10_lookAhead 22 = .ok (.iload_n 3, 1) := by decide +kernel
theorem dX10_lookAhead_23 : decode cX10_lookAhead 23 = .ok (.if_icmp .ge 80, 3) := by decide +kernel
theorem dX10_lookAhead_26 : decode cX10_lookAhead 26 = .ok (.aload_n 0, 1) := by decide +kernel
theorem dX10_lookAhead_27 : decode cX10_lookAhead 27 = .ok (.getfield 80, 3) := by decide +kernel
theorem dX10_lookAhead_30 : decode cX10_lookAhead 30 = .ok (.iload 7, 2) := by decide +kernel
theorem dX10_lookAhead_32 : decode cX10_lookAhead 32 = .ok (.iconst 1, 1) := by decide +kernel
theorem dX10_lookAhead_33 : decode cX10_lookAhead 33 = .ok (.iadd, 1) := by decide +kernel
theorem dX10_lookAhead_34 : decode cX10_lookAhead 34 = .ok (.aaload, 1) := by decide +kernel
theorem dX10_lookAhead_35 : decode cX10_lookAhead 35 = .ok (.aload_n 0, 1) := by decide +kernel
theorem dX10_lookAhead_36 : decode cX10_lookAhead 36 = .ok (.getfield 80, 3) := by decide +kernel
theorem dX10_lookAhead_39 : decode cX10_lookAhead 39 = .ok (.iload 7, 2) := by decide +kernel
theorem dX10_lookAhead_41 : decode cX10_lookAhead 41 = .ok (.aaload, 1) := by decide +kernel
theorem dX10_lookAhead_42 : decode cX10_lookAhead 42 = .ok (.invokevirtual 367, 3) := by decide +kernel
theorem dX10_lookAhead_45 : decode cX10_lookAhead 45 = .ok (.aload_n 0, 1) := by decide +kernel
theorem dX10_lookAhead_46 : decode cX10_lookAhead 46 = .ok (.getfield 93, 3) := by decide +kernel
theorem dX10_lookAhead_49 : decode cX10_lookAhead 49 = .ok (.iload_n 1, 1) := by decide +kernel
theorem dX10_lookAhead_50 : decode cX10_lookAhead 50 = .ok (.iload_n 2, 1) := by decide +kernel
theorem dX10_lookAhead_51 : decode cX10_lookAhead 51 = .ok (.iload 7, 2) := by decide +kernel
theorem dX10_lookAhead_53 : decode cX10_lookAhead 53 = .ok (.iload_n 3, 1) := by decide +kernel
theorem dX10_lookAhead_54 : decode cX10_lookAhead 54 = .ok (.invokestatic 352, 3) := by decide +kernel
theorem dX10_lookAhead_57 : decode cX10_lookAhead 57 = .ok (.ifCond .eq 8, 3) := by decide +kernel
theorem dX10_lookAhead_60 : decode cX10_lookAhead 60 = .ok (.iload 5, 2) := by decide +kernel
theorem dX10_lookAhead_62 : decode cX10_lookAhead 62 = .ok (.goto 5, 3) := by decide +kernel
theorem dX10_lookAhead_65 : decode cX10_lookAhead 65 = .ok (.iload 4, 2) := by decide +kernel
theorem dX10_lookAhead_67 : decode cX10_lookAhead 67 = .ok (.iastore, 1) := by decide +kernel
theorem dX10_lookAhead_68 : decode cX10_lookAhead 68 = .ok (.aload_n 0, 1) := by decide +kernel
theorem dX10_lookAhead_69 : decode cX10_lookAhead 69 = .ok (.getfield 80, 3) := by decide +kernel
theorem dX10_lookAhead_72 : decode cX10_lookAhead 72 = .ok (.iload 7, 2) := by decide +kernel
theorem dX10_lookAhead_74 : decode cX10_lookAhead 74 = .ok (.iconst 1, 1) := by decide +kernel
theorem dX10_lookAhead_75 : decode cX10_lookAhead 75 = .ok (.iadd, 1) := by decide +kernel
theorem dX10_lookAhead_76 : decode cX10_lookAhead 76 = .ok (.aaload, 1) := by decide +kernel
theorem dX10_lookAhead_77 : decode cX10_lookAhead 77 = .ok (.aload_n 0, 1) := by decide +kernel
theorem dX10_lookAhead_78 : decode cX10_lookAhead 78 = .ok (.getfield 12, 3) := by decide +kernel
theorem dX10_lookAhead_81 : decode cX10_lookAhead 81 = .ok (.aload_n 0, 1) := by decide +kernel
theorem dX10_lookAhead_82 : decode cX10_lookAhead 82 = .ok (.getfield 21, 3) := by decide +kernel
theorem dX10_lookAhead_85 : decode cX10_lookAhead 85 = .ok (.aload_n 0, 1) := by decide +kernel
theorem dX10_lookAhead_86 : decode cX10_lookAhead 86 = .ok (.getfield 35, 3) := by decide +kernel
theorem dX10_lookAhead_89 : decode cX10_lookAhead 89 = .ok (.aload_n 0, 1) := by decide +kernel
theorem dX10_lookAhead_90 : decode cX10_lookAhead 90 = .ok (.getfield 93, 3) := by decide +kernel
theorem dX10_lookAhead_93 : decode cX10_lookAhead 93 = .ok (.invokevirtual 205, 3) := by decide +kernel
theorem dX10_lookAhead_96 : decode cX10_lookAhead 96 = .ok (.pop, 1) := by decide +kernel
theorem dX10_lookAhead_97 : decode cX10_lookAhead 97 = .ok (.iinc 7 1, 3) := by decide +kernel
theorem dX10_lookAhead_100 : decode cX10_lookAhead 100 = .ok (.goto (-80), 3) := by decide +kernel
theorem dX10_lookAhead_103 : decode cX10_lookAhead 103 = .ok (.aload_n 0, 1) := by decide +kernel
theorem dX10_lookAhead_104 : decode cX10_lookAhead 104 = .ok (.getfield 93, 3) := by decide +kernel
theorem dX10_lookAhead_107 : decode cX10_lookAhead 107 = .ok (.iload_n 1, 1) := by decide +kernel
theorem dX10_lookAhead_108 : decode cX10_lookAhead 108 = .ok (.iconst 0, 1) := by decide +kernel
theorem dX10_lookAhead_109 : decode cX10_lookAhead 109 = .ok (.iastore, 1) := by decide +kernel
theorem dX10_lookAhead_110 : decode cX10_lookAhead 110 = .ok (.return_, 1) := by decide +kernel
theorem dX10_greatestOrder_0 : decode cX10_greatestOrder 0 = .ok (.iconst 0, 1) := by decide +kernel
theorem dX10_greatestOrder_1 : decode cX10_greatestOrder 1 = .ok (.istore_n 2, 1) := by decide +kernel
theorem dX10_greatestOrder_2 : decode cX10_greatestOrder 2 = .ok (.iconst 1, 1) := by decide +kernel
theorem dX10_greatestOrder_3 : decode cX10_greatestOrder 3 = .ok (.istore_n 3, 1) := by decide +kernel
theorem dX10_greatestOrder_4 : decode cX10_greatestOrder 4 = .ok (.iload_n 3, 1) := by decide +kernel
theorem dX10_greatestOrder_5 : decode cX10_greatestOrder 5 = .ok (.iload_n 1, 1) := by decide +kernel
theorem dX10_greatestOrder_6 : decode cX10_greatestOrder 6 = .ok (.if_icmp .gt 33, 3) := by decide +kernel
theorem dX10_greatestOrder_9 : decode cX10_greatestOrder 9 = .ok (.iload_n 2, 1) := by decide +kernel
theorem dX10_greatestOrder_10 : decode cX10_greatestOrder 10 = .ok (.aload_n 0, 1) := by decide +kernel
theorem dX10_greatestOrder_11 : decode cX10_greatestOrder 11 = .ok (.getfield 80, 3) := by decide +kernel
theorem dX10_greatestOrder_14 : decode cX10_greatestOrder 14 = .ok (.iload_n 3, 1) := by decide +kernel
theorem dX10_greatestOrder_15 : decode cX10_greatestOrder 15 = .ok (.aaload, 1) := by decide +kernel
theorem dX10_greatestOrder_16 : decode cX10_greatestOrder 16 = .ok (.aload_n 0, 1) := by decide +kernel
theorem dX10_greatestOrder_17 : decode cX10_greatestOrder 17 = .ok (.getfield 80, 3) := by decide +kernel
theorem dX10_greatestOrder_20 : decode cX10_greatestOrder 20 = .ok (.iload_n 3, 1) := by decide +kernel
theorem dX10_greatestOrder_21 : decode cX10_greatestOrder 21 = .ok (.aaload, 1) := by decide +kernel
theorem dX10_greatestOrder_22 : decode cX10_greatestOrder 22 = .ok (.getfield 166, 3) := by decide +kernel
theorem dX10_greatestOrder_25 : decode cX10_greatestOrder 25 = .ok (.iconst 0, 1) := by decide +kernel
theorem dX10_greatestOrder_26 : decode cX10_greatestOrder 26 = .ok (.invokevirtual 162, 3) := by decide +kernel
theorem dX10_greatestOrder_29 : decode cX10_greatestOrder 29 = .ok (.invokestatic 363, 3) := by decide +kernel
theorem dX10_greatestOrder_32 : decode cX10_greatestOrder 32 = .ok (.istore_n 2, 1) := by decide +kernel
theorem dX10_greatestOrder_33 : decode cX10_greatestOrder 33 = .ok (.iinc 3 1, 3) := by decide +kernel
theorem dX10_greatestOrder_36 : decode cX10_greatestOrder 36 = .ok (.goto (-32), 3) := by decide +kernel
theorem dX10_greatestOrder_39 : decode cX10_greatestOrder 39 = .ok (.iload_n 2, 1) := by decide +kernel
theorem dX10_greatestOrder_40 : decode cX10_greatestOrder 40 = .ok (.ireturn, 1) := by decide +kernel
theorem dX10_worstAt_0 : decode cX10_worstAt 0 = .ok (.iload_n 1, 1) := by decide +kernel
theorem dX10_worstAt_1 : decode cX10_worstAt 1 = .ok (.ifCond .lt 20, 3) := by decide +kernel
theorem dX10_worstAt_4 : decode cX10_worstAt 4 = .ok (.iload_n 1, 1) := by decide +kernel
theorem dX10_worstAt_5 : decode cX10_worstAt 5 = .ok (.aload_n 0, 1) := by decide +kernel
theorem dX10_worstAt_6 : decode cX10_worstAt 6 = .ok (.getfield 355, 3) := by decide +kernel
theorem dX10_worstAt_9 : decode cX10_worstAt 9 = .ok (.if_icmp .ge 12, 3) := by decide +kernel
theorem dX10_worstAt_12 : decode cX10_worstAt 12 = .ok (.aload_n 0, 1) := by decide +kernel
theorem dX10_worstAt_13 : decode cX10_worstAt 13 = .ok (.getfield 96, 3) := by decide +kernel
theorem dX10_worstAt_16 : decode cX10_worstAt 16 = .ok (.iload_n 1, 1) := by decide +kernel
theorem dX10_worstAt_17 : decode cX10_worstAt 17 = .ok (.iaload, 1) := by decide +kernel
theorem dX10_worstAt_18 : decode cX10_worstAt 18 = .ok (.goto 4, 3) := by decide +kernel
theorem dX10_worstAt_21 : decode cX10_worstAt 21 = .ok (.iconst (-1), 1) := by decide +kernel
theorem dX10_worstAt_22 : decode cX10_worstAt 22 = .ok (.ireturn, 1) := by decide +kernel
theorem dX10_gets_0 : decode cX10_gets 0 = .ok (.iload 6, 2) := by decide +kernel
theorem dX10_gets_2 : decode cX10_gets 2 = .ok (.ifCond .lt 10, 3) := by decide +kernel
theorem dX10_gets_5 : decode cX10_gets 5 = .ok (.iload 6, 2) := by decide +kernel
theorem dX10_gets_7 : decode cX10_gets 7 = .ok (.iload 5, 2) := by decide +kernel
theorem dX10_gets_9 : decode cX10_gets 9 = .ok (.if_icmp .lt 5, 3) := by decide +kernel
theorem dX10_gets_12 : decode cX10_gets 12 = .ok (.iconst (-1), 1) := by decide +kernel
theorem dX10_gets_13 : decode cX10_gets 13 = .ok (.ireturn, 1) := by decide +kernel
theorem dX10_gets_14 : decode cX10_gets 14 = .ok (.iload_n 1, 1) := by decide +kernel
theorem dX10_gets_15 : decode cX10_gets 15 = .ok (.iload_n 2, 1) := by decide +kernel
theorem dX10_gets_16 : decode cX10_gets 16 = .ok (.iload 5, 2) := by decide +kernel
theorem dX10_gets_18 : decode cX10_gets 18 = .ok (.invokestatic 371, 3) := by decide +kernel
theorem dX10_gets_21 : decode cX10_gets 21 = .ok (.ifCond .eq 16, 3) := by decide +kernel
theorem dX10_gets_24 : decode cX10_gets 24 = .ok (.aload_n 0, 1) := by decide +kernel
theorem dX10_gets_25 : decode cX10_gets 25 = .ok (.getfield 70, 3) := by decide +kernel
theorem dX10_gets_28 : decode cX10_gets 28 = .ok (.lload_n 3, 1) := by decide +kernel
theorem dX10_gets_29 : decode cX10_gets 29 = .ok (.iload 5, 2) := by decide +kernel
theorem dX10_gets_31 : decode cX10_gets 31 = .ok (.invokevirtual 374, 3) := by decide +kernel
theorem dX10_gets_34 : decode cX10_gets 34 = .ok (.ifCond .ne 6, 3) := by decide +kernel
theorem dX10_gets_37 : decode cX10_gets 37 = .ok (.bipush (-2), 2) := by decide +kernel
theorem dX10_gets_39 : decode cX10_gets 39 = .ok (.ireturn, 1) := by decide +kernel
theorem dX10_gets_40 : decode cX10_gets 40 = .ok (.aload_n 0, 1) := by decide +kernel
theorem dX10_gets_41 : decode cX10_gets 41 = .ok (.getfield 70, 3) := by decide +kernel
theorem dX10_gets_44 : decode cX10_gets 44 = .ok (.iload 6, 2) := by decide +kernel
theorem dX10_gets_46 : decode cX10_gets 46 = .ok (.iload_n 1, 1) := by decide +kernel
theorem dX10_gets_47 : decode cX10_gets 47 = .ok (.iload_n 2, 1) := by decide +kernel
theorem dX10_gets_48 : decode cX10_gets 48 = .ok (.invokevirtual 377, 3) := by decide +kernel
theorem dX10_gets_51 : decode cX10_gets 51 = .ok (.ireturn, 1) := by decide +kernel
theorem dX10_calm_0 : decode cX10_calm 0 = .ok (.iload_n 1, 1) := by decide +kernel
theorem dX10_calm_1 : decode cX10_calm 1 = .ok (.iload_n 2, 1) := by decide +kernel
theorem dX10_calm_2 : decode cX10_calm 2 = .ok (.iload 7, 2) := by decide +kernel
theorem dX10_calm_4 : decode cX10_calm 4 = .ok (.invokestatic 371, 3) := by decide +kernel
theorem dX10_calm_7 : decode cX10_calm 7 = .ok (.ifCond .eq 30, 3) := by decide +kernel
theorem dX10_calm_10 : decode cX10_calm 10 = .ok (.aload_n 0, 1) := by decide +kernel
theorem dX10_calm_11 : decode cX10_calm 11 = .ok (.getfield 70, 3) := by decide +kernel
theorem dX10_calm_14 : decode cX10_calm 14 = .ok (.lload_n 3, 1) := by decide +kernel
theorem dX10_calm_15 : decode cX10_calm 15 = .ok (.iload 7, 2) := by decide +kernel
theorem dX10_calm_17 : decode cX10_calm 17 = .ok (.invokevirtual 381, 3) := by decide +kernel
theorem dX10_calm_20 : decode cX10_calm 20 = .ok (.ifCond .eq 17, 3) := by decide +kernel
theorem dX10_calm_23 : decode cX10_calm 23 = .ok (.aload_n 0, 1) := by decide +kernel
theorem dX10_calm_24 : decode cX10_calm 24 = .ok (.getfield 70, 3) := by decide +kernel
theorem dX10_calm_27 : decode cX10_calm 27 = .ok (.lload 5, 2) := by decide +kernel
theorem dX10_calm_29 : decode cX10_calm 29 = .ok (.iload 7, 2) := by decide +kernel
theorem dX10_calm_31 : decode cX10_calm 31 = .ok (.invokevirtual 374, 3) := by decide +kernel
theorem dX10_calm_34 : decode cX10_calm 34 = .ok (.ifCond .ne 6, 3) := by decide +kernel
theorem dX10_calm_37 : decode cX10_calm 37 = .ok (.bipush (-2), 2) := by decide +kernel
theorem dX10_calm_39 : decode cX10_calm 39 = .ok (.ireturn, 1) := by decide +kernel
theorem dX10_calm_40 : decode cX10_calm 40 = .ok (.aload_n 0, 1) := by decide +kernel
theorem dX10_calm_41 : decode cX10_calm 41 = .ok (.getfield 70, 3) := by decide +kernel
theorem dX10_calm_44 : decode cX10_calm 44 = .ok (.iload_n 1, 1) := by decide +kernel
theorem dX10_calm_45 : decode cX10_calm 45 = .ok (.iload_n 2, 1) := by decide +kernel
theorem dX10_calm_46 : decode cX10_calm 46 = .ok (.invokevirtual 384, 3) := by decide +kernel
theorem dX10_calm_49 : decode cX10_calm 49 = .ok (.ifCond .eq 7, 3) := by decide +kernel
theorem dX10_calm_52 : decode cX10_calm 52 = .ok (.iconst 1, 1) := by decide +kernel
theorem dX10_calm_53 : decode cX10_calm 53 = .ok (.goto 4, 3) := by decide +kernel
theorem dX10_calm_56 : decode cX10_calm 56 = .ok (.iconst 0, 1) := by decide +kernel
theorem dX10_calm_57 : decode cX10_calm 57 = .ok (.ireturn, 1) := by decide +kernel
theorem dX10_calmest_0 : decode cX10_calmest 0 = .ok (.iload_n 1, 1) := by decide +kernel
theorem dX10_calmest_1 : decode cX10_calmest 1 = .ok (.iload_n 2, 1) := by decide +kernel
theorem dX10_calmest_2 : decode cX10_calmest 2 = .ok (.iload 5, 2) := by decide +kernel
theorem dX10_calmest_4 : decode cX10_calmest 4 = .ok (.invokestatic 371, 3) := by decide +kernel
theorem dX10_calmest_7 : decode cX10_calmest 7 = .ok (.ifCond .eq 22, 3) := by decide +kernel
theorem dX10_calmest_10 : decode cX10_calmest 10 = .ok (.iload 5, 2) := by decide +kernel
theorem dX10_calmest_12 : decode cX10_calmest 12 = .ok (.iconst 3, 1) := by decide +kernel
theorem dX10_calmest_13 : decode cX10_calmest 13 = .ok (.if_icmp .gt 16, 3) := by decide +kernel
theorem dX10_calmest_16 : decode cX10_calmest 16 = .ok (.aload_n 0, 1) := by decide +kernel
theorem dX10_calmest_17 : decode cX10_calmest 17 = .ok (.getfield 70, 3) := by decide +kernel
theorem dX10_calmest_20 : decode cX10_calmest 20 = .ok (.lload_n 3, 1) := by decide +kernel
theorem dX10_calmest_21 : decode cX10_calmest 21 = .ok (.iload 5, 2) := by decide +kernel
theorem dX10_calmest_23 : decode cX10_calmest 23 = .ok (.invokevirtual 381, 3) := by decide +kernel
theorem dX10_calmest_26 : decode cX10_calmest 26 = .ok (.ifCond .ne 7, 3) := by decide +kernel
theorem dX10_calmest_29 : decode cX10_calmest 29 = .ok (.ldc2_w 337, 3) := by decide +kernel
theorem dX10_calmest_32 : decode cX10_calmest 32 = .ok (.lreturn, 1) := by decide +kernel
theorem dX10_calmest_33 : decode cX10_calmest 33 = .ok (.aload_n 0, 1) := by decide +kernel
theorem dX10_calmest_34 : decode cX10_calmest 34 = .ok (.getfield 70, 3) := by decide +kernel
theorem dX10_calmest_37 : decode cX10_calmest 37 = .ok (.iload_n 1, 1) := by decide +kernel
theorem dX10_calmest_38 : decode cX10_calmest 38 = .ok (.iload_n 2, 1) := by decide +kernel
theorem dX10_calmest_39 : decode cX10_calmest 39 = .ok (.invokevirtual 387, 3) := by decide +kernel
theorem dX10_calmest_42 : decode cX10_calmest 42 = .ok (.ifCond .eq 13, 3) := by decide +kernel
theorem dX10_calmest_45 : decode cX10_calmest 45 = .ok (.aload_n 0, 1) := by decide +kernel
theorem dX10_calmest_46 : decode cX10_calmest 46 = .ok (.getfield 70, 3) := by decide +kernel
theorem dX10_calmest_49 : decode cX10_calmest 49 = .ok (.invokevirtual 390, 3) := by decide +kernel
theorem dX10_calmest_52 : decode cX10_calmest 52 = .ok (.goto 6, 3) := by decide +kernel
theorem dX10_calmest_55 : decode cX10_calmest 55 = .ok (.ldc2_w 335, 3) := by decide +kernel
theorem dX10_calmest_58 : decode cX10_calmest 58 = .ok (.lreturn, 1) := by decide +kernel
theorem dX10_areClaimsFine_0 : decode cX10_areClaimsFine 0 = .ok (.iload_n 0, 1) := by decide +kernel
theorem dX10_areClaimsFine_1 : decode cX10_areClaimsFine 1 = .ok (.iconst 0, 1) := by decide +kernel
theorem dX10_areClaimsFine_2 : decode cX10_areClaimsFine 2 = .ok (.iconst 2, 1) := by decide +kernel
theorem dX10_areClaimsFine_3 : decode cX10_areClaimsFine 3 = .ok (.invokestatic 107, 3) := by decide +kernel
theorem dX10_areClaimsFine_6 : decode cX10_areClaimsFine 6 = .ok (.ifCond .eq 26, 3) := by decide +kernel
theorem dX10_areClaimsFine_9 : decode cX10_areClaimsFine 9 = .ok (.iload_n 1, 1) := by decide +kernel
theorem dX10_areClaimsFine_10 : decode cX10_areClaimsFine 10 = .ok (.iconst 0, 1) := by decide +kernel
theorem dX10_areClaimsFine_11 : decode cX10_areClaimsFine 11 = .ok (.bipush 40, 2) := by decide +kernel
theorem dX10_areClaimsFine_13 : decode cX10_areClaimsFine 13 = .ok (.invokestatic 107, 3) := by decide +kernel
theorem dX10_areClaimsFine_16 : decode cX10_areClaimsFine 16 = .ok (.ifCond .eq 16, 3) := by decide +kernel
theorem dX10_areClaimsFine_19 : decode cX10_areClaimsFine 19 = .ok (.iload_n 2, 1) := by decide +kernel
theorem dX10_areClaimsFine_20 : decode cX10_areClaimsFine 20 = .ok (.iconst 2, 1) := by decide +kernel
theorem dX10_areClaimsFine_21 : decode cX10_areClaimsFine 21 = .ok (.iconst 4, 1) := by decide +kernel
theorem dX10_areClaimsFine_22 : decode cX10_areClaimsFine 22 = .ok (.invokestatic 107, 3) := by decide +kernel
theorem dX10_areClaimsFine_25 : decode cX10_areClaimsFine 25 = .ok (.ifCond .eq 7, 3) := by decide +kernel
theorem dX10_areClaimsFine_28 : decode cX10_areClaimsFine 28 = .ok (.iconst 1, 1) := by decide +kernel
theorem dX10_areClaimsFine_29 : decode cX10_areClaimsFine 29 = .ok (.goto 4, 3) := by decide +kernel
theorem dX10_areClaimsFine_32 : decode cX10_areClaimsFine 32 = .ok (.iconst 0, 1) := by decide +kernel
theorem dX10_areClaimsFine_33 : decode cX10_areClaimsFine 33 = .ok (.ireturn, 1) := by decide +kernel
theorem dX10_count_0 : decode cX10_count 0 = .ok (.iload_n 1, 1) := by decide +kernel
theorem dX10_count_1 : decode cX10_count 1 = .ok (.tableswitch 87 0 5 #[39, 47, 55, 63, 71, 79], 39) := by decide +kernel
theorem dX10_count_40 : decode cX10_count 40 = .ok (.aload_n 0, 1) := by decide +kernel
theorem dX10_count_41 : decode cX10_count 41 = .ok (.getfield 12, 3) := by decide +kernel
theorem dX10_count_44 : decode cX10_count 44 = .ok (.getfield 99, 3) := by decide +kernel
theorem dX10_count_47 : decode cX10_count 47 = .ok (.ireturn, 1) := by decide +kernel
theorem dX10_count_48 : decode cX10_count 48 = .ok (.aload_n 0, 1) := by decide +kernel
theorem dX10_count_49 : decode cX10_count 49 = .ok (.getfield 21, 3) := by decide +kernel
theorem dX10_count_52 : decode cX10_count 52 = .ok (.getfield 220, 3) := by decide +kernel
theorem dX10_count_55 : decode cX10_count 55 = .ok (.ireturn, 1) := by decide +kernel
theorem dX10_count_56 : decode cX10_count 56 = .ok (.aload_n 0, 1) := by decide +kernel
theorem dX10_count_57 : decode cX10_count 57 = .ok (.getfield 85, 3) := by decide +kernel
theorem dX10_count_60 : decode cX10_count 60 = .ok (.getfield 114, 3) := by decide +kernel
theorem dX10_count_63 : decode cX10_count 63 = .ok (.ireturn, 1) := by decide +kernel
theorem dX10_count_64 : decode cX10_count 64 = .ok (.aload_n 0, 1) := by decide +kernel
theorem dX10_count_65 : decode cX10_count 65 = .ok (.getfield 12, 3) := by decide +kernel
theorem dX10_count_68 : decode cX10_count 68 = .ok (.getfield 132, 3) := by decide +kernel
theorem dX10_count_71 : decode cX10_count 71 = .ok (.ireturn, 1) := by decide +kernel
theorem dX10_count_72 : decode cX10_count 72 = .ok (.aload_n 0, 1) := by decide +kernel
theorem dX10_count_73 : decode cX10_count 73 = .ok (.getfield 28, 3) := by decide +kernel
theorem dX10_count_76 : decode cX10_count 76 = .ok (.getfield 213, 3) := by decide +kernel
theorem dX10_count_79 : decode cX10_count 79 = .ok (.ireturn, 1) := by decide +kernel
theorem dX10_count_80 : decode cX10_count 80 = .ok (.aload_n 0, 1) := by decide +kernel
theorem dX10_count_81 : decode cX10_count 81 = .ok (.getfield 12, 3) := by decide +kernel
theorem dX10_count_84 : decode cX10_count 84 = .ok (.getfield 393, 3) := by decide +kernel
theorem dX10_count_87 : decode cX10_count 87 = .ok (.ireturn, 1) := by decide +kernel
theorem dX10_count_88 : decode cX10_count 88 = .ok (.iconst (-1), 1) := by decide +kernel
theorem dX10_count_89 : decode cX10_count 89 = .ok (.ireturn, 1) := by decide +kernel
theorem dX10_within_0 : decode cX10_within 0 = .ok (.iload_n 0, 1) := by decide +kernel
theorem dX10_within_1 : decode cX10_within 1 = .ok (.iload_n 1, 1) := by decide +kernel
theorem dX10_within_2 : decode cX10_within 2 = .ok (.if_icmp .lt 12, 3) := by decide +kernel
theorem dX10_within_5 : decode cX10_within 5 = .ok (.iload_n 0, 1) := by decide +kernel
theorem dX10_within_6 : decode cX10_within 6 = .ok (.iload_n 2, 1) := by decide +kernel
theorem dX10_within_7 : decode cX10_within 7 = .ok (.if_icmp .gt 7, 3) := by decide +kernel
theorem dX10_within_10 : decode cX10_within 10 = .ok (.iconst 1, 1) := by decide +kernel
theorem dX10_within_11 : decode cX10_within 11 = .ok (.goto 4, 3) := by decide +kernel
theorem dX10_within_14 : decode cX10_within 14 = .ok (.iconst 0, 1) := by decide +kernel
theorem dX10_within_15 : decode cX10_within 15 = .ok (.ireturn, 1) := by decide +kernel
theorem dX10_endsBelow_0 : decode cX10_endsBelow 0 = .ok (.lload_n 0, 1) := by decide +kernel
theorem dX10_endsBelow_1 : decode cX10_endsBelow 1 = .ok (.iload_n 2, 1) := by decide +kernel
theorem dX10_endsBelow_2 : decode cX10_endsBelow 2 = .ok (.lushr, 1) := by decide +kernel
theorem dX10_endsBelow_3 : decode cX10_endsBelow 3 = .ok (.lconst 0, 1) := by decide +kernel
theorem dX10_endsBelow_4 : decode cX10_endsBelow 4 = .ok (.lcmp, 1) := by decide +kernel
theorem dX10_endsBelow_5 : decode cX10_endsBelow 5 = .ok (.ifCond .ne 7, 3) := by decide +kernel
theorem dX10_endsBelow_8 : decode cX10_endsBelow 8 = .ok (.iconst 1, 1) := by decide +kernel
theorem dX10_endsBelow_9 : decode cX10_endsBelow 9 = .ok (.goto 4, 3) := by decide +kernel
theorem dX10_endsBelow_12 : decode cX10_endsBelow 12 = .ok (.iconst 0, 1) := by decide +kernel
theorem dX10_endsBelow_13 : decode cX10_endsBelow 13 = .ok (.ireturn, 1) := by decide +kernel
