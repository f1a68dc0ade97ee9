theorem dX4_tellLine_131 : decode cX4_tellLine 131 = .ok (.ifCond .eq 15, 3) := by decide +kernel
theorem dX4_tellLine_134 : decode cX4_tellLine 134 = .ok (.aload_n 0, 1) := by decide +kernel
theorem dX4_tellLine_135 : decode cX4_tellLine 135 = .ok (.iconst 1, 1) := by decide +kernel
theorem dX4_tellLine_136 : decode cX4_tellLine 136 = .ok (.invokevirtual 109, 3) := by decide +kernel
theorem dX4_tellLine_139 : decode cX4_tellLine 139 = .ok (.ifCond .eq 7, 3) := by decide +kernel
theorem dX4_tellLine_142 : decode cX4_tellLine 142 = .ok (.iconst 1, 1) := by decide +kernel
theorem dX4_tellLine_143 : decode cX4_tellLine 143 = .ok (.goto 4, 3) := by decide +kernel
theorem dX4_tellLine_146 : decode cX4_tellLine 146 = .ok (.iconst 0, 1) := by decide +kernel
theorem dX4_tellLine_147 : decode cX4_tellLine 147 = .ok (.ireturn, 1) := by decide +kernel
theorem dX4_tellLine_148 : decode cX4_tellLine 148 = .ok (.aload_n 0, 1) := by decide +kernel
theorem dX4_tellLine_149 : decode cX4_tellLine 149 = .ok (.ldc 115, 2) := by decide +kernel
theorem dX4_tellLine_151 : decode cX4_tellLine 151 = .ok (.invokevirtual 77, 3) := by decide +kernel
theorem dX4_tellLine_154 : decode cX4_tellLine 154 = .ok (.ifCond .eq 31, 3) := by decide +kernel
theorem dX4_tellLine_157 : decode cX4_tellLine 157 = .ok (.aload_n 0, 1) := by decide +kernel
theorem dX4_tellLine_158 : decode cX4_tellLine 158 = .ok (.aload_n 0, 1) := by decide +kernel
theorem dX4_tellLine_159 : decode cX4_tellLine 159 = .ok (.getfield 28, 3) := by decide +kernel
theorem dX4_tellLine_162 : decode cX4_tellLine 162 = .ok (.getfield 117, 3) := by decide +kernel
theorem dX4_tellLine_165 : decode cX4_tellLine 165 = .ok (.iconst 4, 1) := by decide +kernel
theorem dX4_tellLine_166 : decode cX4_tellLine 166 = .ok (.invokevirtual 97, 3) := by decide +kernel
theorem dX4_tellLine_169 : decode cX4_tellLine 169 = .ok (.ifCond .eq 14, 3) := by decide +kernel
theorem dX4_tellLine_172 : decode cX4_tellLine 172 = .ok (.aload_n 0, 1) := by decide +kernel
theorem dX4_tellLine_173 : decode cX4_tellLine 173 = .ok (.invokevirtual 119, 3) := by decide +kernel
theorem dX4_tellLine_176 : decode cX4_tellLine 176 = .ok (.ifCond .eq 7, 3) := by decide +kernel
theorem dX4_tellLine_179 : decode cX4_tellLine 179 = .ok (.iconst 1, 1) := by decide +kernel
theorem dX4_tellLine_180 : decode cX4_tellLine 180 = .ok (.goto 4, 3) := by decide +kernel
theorem dX4_tellLine_183 : decode cX4_tellLine 183 = .ok (.iconst 0, 1) := by decide +kernel
theorem dX4_tellLine_184 : decode cX4_tellLine 184 = .ok (.ireturn, 1) := by decide +kernel
theorem dX4_tellLine_185 : decode cX4_tellLine 185 = .ok (.aload_n 0, 1) := by decide +kernel
theorem dX4_tellLine_186 : decode cX4_tellLine 186 = .ok (.ldc 122, 2) := by decide +kernel
theorem dX4_tellLine_188 : decode cX4_tellLine 188 = .ok (.invokevirtual 77, 3) := by decide +kernel
theorem dX4_tellLine_191 : decode cX4_tellLine 191 = .ok (.ifCond .eq 32, 3) := by decide +kernel
theorem dX4_tellLine_194 : decode cX4_tellLine 194 = .ok (.aload_n 0, 1) := by decide +kernel
theorem dX4_tellLine_195 : decode cX4_tellLine 195 = .ok (.aload_n 0, 1) := by decide +kernel
theorem dX4_tellLine_196 : decode cX4_tellLine 196 = .ok (.getfield 28, 3) := by decide +kernel
theorem dX4_tellLine_199 : decode cX4_tellLine 199 = .ok (.getfield 124, 3) := by decide +kernel
theorem dX4_tellLine_202 : decode cX4_tellLine 202 = .ok (.bipush 6, 2) := by decide +kernel
theorem dX4_tellLine_204 : decode cX4_tellLine 204 = .ok (.invokevirtual 97, 3) := by decide +kernel
theorem dX4_tellLine_207 : decode cX4_tellLine 207 = .ok (.ifCond .eq 14, 3) := by decide +kernel
theorem dX4_tellLine_210 : decode cX4_tellLine 210 = .ok (.aload_n 0, 1) := by decide +kernel
theorem dX4_tellLine_211 : decode cX4_tellLine 211 = .ok (.invokevirtual 127, 3) := by decide +kernel
theorem dX4_tellLine_214 : decode cX4_tellLine 214 = .ok (.ifCond .eq 7, 3) := by decide +kernel
theorem dX4_tellLine_217 : decode cX4_tellLine 217 = .ok (.iconst 1, 1) := by decide +kernel
theorem dX4_tellLine_218 : decode cX4_tellLine 218 = .ok (.goto 4, 3) := by decide +kernel
theorem dX4_tellLine_221 : decode cX4_tellLine 221 = .ok (.iconst 0, 1) := by decide +kernel
theorem dX4_tellLine_222 : decode cX4_tellLine 222 = .ok (.ireturn, 1) := by decide +kernel
theorem dX4_tellLine_223 : decode cX4_tellLine 223 = .ok (.aload_n 0, 1) := by decide +kernel
theorem dX4_tellLine_224 : decode cX4_tellLine 224 = .ok (.iconst 1, 1) := by decide +kernel
theorem dX4_tellLine_225 : decode cX4_tellLine 225 = .ok (.invokevirtual 50, 3) := by decide +kernel
theorem dX4_tellLine_228 : decode cX4_tellLine 228 = .ok (.ireturn, 1) := by decide +kernel
theorem dX4_hasRoom_0 : decode cX4_hasRoom 0 = .ok (.iload_n 1, 1) := by decide +kernel
theorem dX4_hasRoom_1 : decode cX4_hasRoom 1 = .ok (.iload_n 2, 1) := by decide +kernel
theorem dX4_hasRoom_2 : decode cX4_hasRoom 2 = .ok (.if_icmp .lt 9, 3) := by decide +kernel
theorem dX4_hasRoom_5 : decode cX4_hasRoom 5 = .ok (.aload_n 0, 1) := by decide +kernel
theorem dX4_hasRoom_6 : decode cX4_hasRoom 6 = .ok (.iconst 5, 1) := by decide +kernel
theorem dX4_hasRoom_7 : decode cX4_hasRoom 7 = .ok (.invokevirtual 50, 3) := by decide +kernel
theorem dX4_hasRoom_10 : decode cX4_hasRoom 10 = .ok (.ireturn, 1) := by decide +kernel
theorem dX4_hasRoom_11 : decode cX4_hasRoom 11 = .ok (.aload_n 0, 1) := by decide +kernel
theorem dX4_hasRoom_12 : decode cX4_hasRoom 12 = .ok (.getfield 28, 3) := by decide +kernel
theorem dX4_hasRoom_15 : decode cX4_hasRoom 15 = .ok (.getfield 86, 3) := by decide +kernel
theorem dX4_hasRoom_18 : decode cX4_hasRoom 18 = .ok (.ifCond .gt 12, 3) := by decide +kernel
theorem dX4_hasRoom_21 : decode cX4_hasRoom 21 = .ok (.aload_n 0, 1) := by decide +kernel
theorem dX4_hasRoom_22 : decode cX4_hasRoom 22 = .ok (.bipush 6, 2) := by decide +kernel
theorem dX4_hasRoom_24 : decode cX4_hasRoom 24 = .ok (.invokevirtual 50, 3) := by decide +kernel
theorem dX4_hasRoom_27 : decode cX4_hasRoom 27 = .ok (.ifCond .eq 7, 3) := by decide +kernel
theorem dX4_hasRoom_30 : decode cX4_hasRoom 30 = .ok (.iconst 1, 1) := by decide +kernel
theorem dX4_hasRoom_31 : decode cX4_hasRoom 31 = .ok (.goto 4, 3) := by decide +kernel
theorem dX4_hasRoom_34 : decode cX4_hasRoom 34 = .ok (.iconst 0, 1) := by decide +kernel
theorem dX4_hasRoom_35 : decode cX4_hasRoom 35 = .ok (.ireturn, 1) := by decide +kernel
theorem dX4_tellCache_0 : decode cX4_tellCache 0 = .ok (.aload_n 0, 1) := by decide +kernel
theorem dX4_tellCache_1 : decode cX4_tellCache 1 = .ok (.ldc 130, 2) := by decide +kernel
theorem dX4_tellCache_3 : decode cX4_tellCache 3 = .ok (.invokevirtual 131, 3) := by decide +kernel
theorem dX4_tellCache_6 : decode cX4_tellCache 6 = .ok (.ifCond .eq 12, 3) := by decide +kernel
theorem dX4_tellCache_9 : decode cX4_tellCache 9 = .ok (.aload_n 0, 1) := by decide +kernel
theorem dX4_tellCache_10 : decode cX4_tellCache 10 = .ok (.iconst 1, 1) := by decide +kernel
theorem dX4_tellCache_11 : decode cX4_tellCache 11 = .ok (.iconst 4, 1) := by decide +kernel
theorem dX4_tellCache_12 : decode cX4_tellCache 12 = .ok (.invokevirtual 134, 3) := by decide +kernel
theorem dX4_tellCache_15 : decode cX4_tellCache 15 = .ok (.ifCond .ne 5, 3) := by decide +kernel
theorem dX4_tellCache_18 : decode cX4_tellCache 18 = .ok (.iconst 0, 1) := by decide +kernel
theorem dX4_tellCache_19 : decode cX4_tellCache 19 = .ok (.ireturn, 1) := by decide +kernel
theorem dX4_tellCache_20 : decode cX4_tellCache 20 = .ok (.aload_n 0, 1) := by decide +kernel
theorem dX4_tellCache_21 : decode cX4_tellCache 21 = .ok (.getfield 64, 3) := by decide +kernel
theorem dX4_tellCache_24 : decode cX4_tellCache 24 = .ok (.istore_n 1, 1) := by decide +kernel
theorem dX4_tellCache_25 : decode cX4_tellCache 25 = .ok (.aload_n 0, 1) := by decide +kernel
theorem dX4_tellCache_26 : decode cX4_tellCache 26 = .ok (.ldc 137, 2) := by decide +kernel
theorem dX4_tellCache_28 : decode cX4_tellCache 28 = .ok (.invokevirtual 131, 3) := by decide +kernel
theorem dX4_tellCache_31 : decode cX4_tellCache 31 = .ok (.ifCond .eq 12, 3) := by decide +kernel
theorem dX4_tellCache_34 : decode cX4_tellCache 34 = .ok (.aload_n 0, 1) := by decide +kernel
theorem dX4_tellCache_35 : decode cX4_tellCache 35 = .ok (.iconst 1, 1) := by decide +kernel
theorem dX4_tellCache_36 : decode cX4_tellCache 36 = .ok (.iconst 4, 1) := by decide +kernel
theorem dX4_tellCache_37 : decode cX4_tellCache 37 = .ok (.invokevirtual 134, 3) := by decide +kernel
theorem dX4_tellCache_40 : decode cX4_tellCache 40 = .ok (.ifCond .ne 5, 3) := by decide +kernel
theorem dX4_tellCache_43 : decode cX4_tellCache 43 = .ok (.iconst 0, 1) := by decide +kernel
theorem dX4_tellCache_44 : decode cX4_tellCache 44 = .ok (.ireturn, 1) := by decide +kernel
theorem dX4_tellCache_45 : decode cX4_tellCache 45 = .ok (.aload_n 0, 1) := by decide +kernel
theorem dX4_tellCache_46 : decode cX4_tellCache 46 = .ok (.getfield 64, 3) := by decide +kernel
theorem dX4_tellCache_49 : decode cX4_tellCache 49 = .ok (.istore_n 2, 1) := by decide +kernel
theorem dX4_tellCache_50 : decode cX4_tellCache 50 = .ok (.aload_n 0, 1) := by decide +kernel
theorem dX4_tellCache_51 : decode cX4_tellCache 51 = .ok (.invokevirtual 40, 3) := by decide +kernel
theorem dX4_tellCache_54 : decode cX4_tellCache 54 = .ok (.aload_n 0, 1) := by decide +kernel
theorem dX4_tellCache_55 : decode cX4_tellCache 55 = .ok (.ldc 139, 2) := by decide +kernel
theorem dX4_tellCache_57 : decode cX4_tellCache 57 = .ok (.invokevirtual 77, 3) := by decide +kernel
theorem dX4_tellCache_60 : decode cX4_tellCache 60 = .ok (.ifCond .ne 18, 3) := by decide +kernel
theorem dX4_tellCache_63 : decode cX4_tellCache 63 = .ok (.aload_n 0, 1) := by decide +kernel
theorem dX4_tellCache_64 : decode cX4_tellCache 64 = .ok (.ldc 141, 2) := by decide +kernel
theorem dX4_tellCache_66 : decode cX4_tellCache 66 = .ok (.invokevirtual 77, 3) := by decide +kernel
theorem dX4_tellCache_69 : decode cX4_tellCache 69 = .ok (.ifCond .ne 9, 3) := by decide +kernel
theorem dX4_tellCache_72 : decode cX4_tellCache 72 = .ok (.aload_n 0, 1) := by decide +kernel
theorem dX4_tellCache_73 : decode cX4_tellCache 73 = .ok (.iconst 1, 1) := by decide +kernel
theorem dX4_tellCache_74 : decode cX4_tellCache 74 = .ok (.invokevirtual 50, 3) := by decide +kernel
theorem dX4_tellCache_77 : decode cX4_tellCache 77 = .ok (.ireturn, 1) := by decide +kernel
theorem dX4_tellCache_78 : decode cX4_tellCache 78 = .ok (.aload_n 0, 1) := by decide +kernel
theorem dX4_tellCache_79 : decode cX4_tellCache 79 = .ok (.getfield 28, 3) := by decide +kernel
theorem dX4_tellCache_82 : decode cX4_tellCache 82 = .ok (.iload_n 1, 1) := by decide +kernel
theorem dX4_tellCache_83 : decode cX4_tellCache 83 = .ok (.putfield 86, 3) := by decide +kernel
theorem dX4_tellCache_86 : decode cX4_tellCache 86 = .ok (.aload_n 0, 1) := by decide +kernel
theorem dX4_tellCache_87 : decode cX4_tellCache 87 = .ok (.getfield 28, 3) := by decide +kernel
theorem dX4_tellCache_90 : decode cX4_tellCache 90 = .ok (.iload_n 2, 1) := by decide +kernel
theorem dX4_tellCache_91 : decode cX4_tellCache 91 = .ok (.putfield 143, 3) := by decide +kernel
theorem dX4_tellCache_94 : decode cX4_tellCache 94 = .ok (.aload_n 0, 1) := by decide +kernel
theorem dX4_tellCache_95 : decode cX4_tellCache 95 = .ok (.getfield 28, 3) := by decide +kernel
theorem dX4_tellCache_98 : decode cX4_tellCache 98 = .ok (.aload_n 0, 1) := by decide +kernel
theorem dX4_tellCache_99 : decode cX4_tellCache 99 = .ok (.ldc 141, 2) := by decide +kernel
theorem dX4_tellCache_101 : decode cX4_tellCache 101 = .ok (.invokevirtual 77, 3) := by decide +kernel
theorem dX4_tellCache_104 : decode cX4_tellCache 104 = .ok (.putfield 145, 3) := by decide +kernel
theorem dX4_tellCache_107 : decode cX4_tellCache 107 = .ok (.iconst 1, 1) := by decide +kernel
theorem dX4_tellCache_108 : decode cX4_tellCache 108 = .ok (.ireturn, 1) := by decide +kernel
theorem dX4_tellWords_0 : decode cX4_tellWords 0 = .ok (.aload_n 0, 1) := by decide +kernel
theorem dX4_tellWords_1 : decode cX4_tellWords 1 = .ok (.iconst 0, 1) := by decide +kernel
theorem dX4_tellWords_2 : decode cX4_tellWords 2 = .ok (.bipush 31, 2) := by decide +kernel
theorem dX4_tellWords_4 : decode cX4_tellWords 4 = .ok (.invokevirtual 134, 3) := by decide +kernel
theorem dX4_tellWords_7 : decode cX4_tellWords 7 = .ok (.ifCond .ne 5, 3) := by decide +kernel
theorem dX4_tellWords_10 : decode cX4_tellWords 10 = .ok (.iconst 0, 1) := by decide +kernel
theorem dX4_tellWords_11 : decode cX4_tellWords 11 = .ok (.ireturn, 1) := by decide +kernel
theorem dX4_tellWords_12 : decode cX4_tellWords 12 = .ok (.aload_n 0, 1) := by decide +kernel
theorem dX4_tellWords_13 : decode cX4_tellWords 13 = .ok (.getfield 64, 3) := by decide +kernel
theorem dX4_tellWords_16 : decode cX4_tellWords 16 = .ok (.istore_n 1, 1) := by decide +kernel
theorem dX4_tellWords_17 : decode cX4_tellWords 17 = .ok (.aload_n 0, 1) := by decide +kernel
theorem dX4_tellWords_18 : decode cX4_tellWords 18 = .ok (.getfield 28, 3) := by decide +kernel
theorem dX4_tellWords_21 : decode cX4_tellWords 21 = .ok (.getfield 148, 3) := by decide +kernel
theorem dX4_tellWords_24 : decode cX4_tellWords 24 = .ok (.iload_n 1, 1) := by decide +kernel
theorem dX4_tellWords_25 : decode cX4_tellWords 25 = .ok (.iaload, 1) := by decide +kernel
theorem dX4_tellWords_26 : decode cX4_tellWords 26 = .ok (.iconst 1, 1) := by decide +kernel
theorem dX4_tellWords_27 : decode cX4_tellWords 27 = .ok (.if_icmp .ne 9, 3) := by decide +kernel
theorem dX4_tellWords_30 : decode cX4_tellWords 30 = .ok (.aload_n 0, 1) := by decide +kernel
theorem dX4_tellWords_31 : decode cX4_tellWords 31 = .ok (.iconst 3, 1) := by decide +kernel
theorem dX4_tellWords_32 : decode cX4_tellWords 32 = .ok (.invokevirtual 50, 3) := by decide +kernel
theorem dX4_tellWords_35 : decode cX4_tellWords 35 = .ok (.ireturn, 1) := by decide +kernel
theorem dX4_tellWords_36 : decode cX4_tellWords 36 = .ok (.iconst 0, 1) := by decide +kernel
theorem dX4_tellWords_37 : decode cX4_tellWords 37 = .ok (.istore_n 2, 1) := by decide +kernel
theorem dX4_tellWords_38 : decode cX4_tellWords 38 = .ok (.iload_n 2, 1) := by decide +kernel
theorem dX4_tellWords_39 : decode cX4_tellWords 39 = .ok (.bipush 8, 2) := by decide +kernel
theorem dX4_tellWords_41 : decode cX4_tellWords 41 = .ok (.if_icmp .ge 39, 3) := by decide +kernel
theorem dX4_tellWords_44 : decode cX4_tellWords 44 = .ok (.aload_n 0, 1) := by decide +kernel
theorem dX4_tellWords_45 : decode cX4_tellWords 45 = .ok (.iconst 0, 1) := by decide +kernel
theorem dX4_tellWords_46 : decode cX4_tellWords 46 = .ok (.ldc 152, 2) := by decide +kernel
theorem dX4_tellWords_48 : decode cX4_tellWords 48 = .ok (.invokevirtual 134, 3) := by decide +kernel
theorem dX4_tellWords_51 : decode cX4_tellWords 51 = .ok (.ifCond .ne 5, 3) := by decide +kernel
theorem dX4_tellWords_54 : decode cX4_tellWords 54 = .ok (.iconst 0, 1) := by decide +kernel
theorem dX4_tellWords_55 : decode cX4_tellWords 55 = .ok (.ireturn, 1) := by decide +kernel
theorem dX4_tellWords_56 : decode cX4_tellWords 56 = .ok (.aload_n 0, 1) := by decide +kernel
theorem dX4_tellWords_57 : decode cX4_tellWords 57 = .ok (.getfield 28, 3) := by decide +kernel
theorem dX4_tellWords_60 : decode cX4_tellWords 60 = .ok (.getfield 153, 3) := by decide +kernel
theorem dX4_tellWords_63 : decode cX4_tellWords 63 = .ok (.iload_n 1, 1) := by decide +kernel
theorem dX4_tellWords_64 : decode cX4_tellWords 64 = .ok (.bipush 8, 2) := by decide +kernel
theorem dX4_tellWords_66 : decode cX4_tellWords 66 = .ok (.imul, 1) := by decide +kernel
theorem dX4_tellWords_67 : decode cX4_tellWords 67 = .ok (.iload_n 2, 1) := by decide +kernel
theorem dX4_tellWords_68 : decode cX4_tellWords 68 = .ok (.iadd, 1) := by decide +kernel
theorem dX4_tellWords_69 : decode cX4_tellWords 69 = .ok (.aload_n 0, 1) := by decide +kernel
theorem dX4_tellWords_70 : decode cX4_tellWords 70 = .ok (.getfield 64, 3) := by decide +kernel
theorem dX4_tellWords_73 : decode cX4_tellWords 73 = .ok (.iastore, 1) := by decide +kernel
theorem dX4_tellWords_74 : decode cX4_tellWords 74 = .ok (.iinc 2 1, 3) := by decide +kernel
theorem dX4_tellWords_77 : decode cX4_tellWords 77 = .ok (.goto (-39), 3) := by decide +kernel
theorem dX4_tellWords_80 : decode cX4_tellWords 80 = .ok (.aload_n 0, 1) := by decide +kernel
theorem dX4_tellWords_81 : decode cX4_tellWords 81 = .ok (.getfield 28, 3) := by decide +kernel
theorem dX4_tellWords_84 : decode cX4_tellWords 84 = .ok (.getfield 148, 3) := by decide +kernel
theorem dX4_tellWords_87 : decode cX4_tellWords 87 = .ok (.iload_n 1, 1) := by decide +kernel
theorem dX4_tellWords_88 : decode cX4_tellWords 88 = .ok (.iconst 1, 1) := by decide +kernel
theorem dX4_tellWords_89 : decode cX4_tellWords 89 = .ok (.iastore, 1) := by decide +kernel
theorem dX4_tellWords_90 : decode cX4_tellWords 90 = .ok (.aload_n 0, 1) := by decide +kernel
theorem dX4_tellWords_91 : decode cX4_tellWords 91 = .ok (.getfield 28, 3) := by decide +kernel
theorem dX4_tellWords_94 : decode cX4_tellWords 94 = .ok (.dup, 1) := by decide +kernel
theorem dX4_tellWords_95 : decode cX4_tellWords 95 = .ok (.getfield 94, 3) := by decide +kernel
theorem dX4_tellWords_98 : decode cX4_tellWords 98 = .ok (.iconst 1, 1) := by decide +kernel
theorem dX4_tellWords_99 : decode cX4_tellWords 99 = .ok (.iadd, 1) := by decide +kernel
theorem dX4_tellWords_100 : decode cX4_tellWords 100 = .ok (.putfield 94, 3) := by decide +kernel
theorem dX4_tellWords_103 : decode cX4_tellWords 103 = .ok (.iconst 1, 1) := by decide +kernel
theorem dX4_tellWords_104 : decode cX4_tellWords 104 = .ok (.ireturn, 1) := by decide +kernel
theorem dX4_tellStep_0 : decode cX4_tellStep 0 = .ok (.aload_n 0, 1) := by decide +kernel
theorem dX4_tellStep_1 : decode cX4_tellStep 1 = .ok (.iconst 0, 1) := by decide +kernel
theorem dX4_tellStep_2 : decode cX4_tellStep 2 = .ok (.bipush 31, 2) := by decide +kernel
theorem dX4_tellStep_4 : decode cX4_tellStep 4 = .ok (.invokevirtual 134, 3) := by decide +kernel
theorem dX4_tellStep_7 : decode cX4_tellStep 7 = .ok (.ifCond .ne 5, 3) := by decide +kernel
theorem dX4_tellStep_10 : decode cX4_tellStep 10 = .ok (.iconst 0, 1) := by decide +kernel
theorem dX4_tellStep_11 : decode cX4_tellStep 11 = .ok (.ireturn, 1) := by decide +kernel
theorem dX4_tellStep_12 : decode cX4_tellStep 12 = .ok (.aload_n 0, 1) := by decide +kernel
theorem dX4_tellStep_13 : decode cX4_tellStep 13 = .ok (.getfield 64, 3) := by decide +kernel
theorem dX4_tellStep_16 : decode cX4_tellStep 16 = .ok (.istore_n 2, 1) := by decide +kernel
theorem dX4_tellStep_17 : decode cX4_tellStep 17 = .ok (.aload_n 0, 1) := by decide +kernel
theorem dX4_tellStep_18 : decode cX4_tellStep 18 = .ok (.iconst 0, 1) := by decide +kernel
theorem dX4_tellStep_19 : decode cX4_tellStep 19 = .ok (.bipush 7, 2) := by decide +kernel
theorem dX4_tellStep_21 : decode cX4_tellStep 21 = .ok (.invokevirtual 134, 3) := by decide +kernel
theorem dX4_tellStep_24 : decode cX4_tellStep 24 = .ok (.ifCond .ne 5, 3) := by decide +kernel
theorem dX4_tellStep_27 : decode cX4_tellStep 27 = .ok (.iconst 0, 1) := by decide +kernel
theorem dX4_tellStep_28 : decode cX4_tellStep 28 = .ok (.ireturn, 1) := by decide +kernel
theorem dX4_tellStep_29 : decode cX4_tellStep 29 = .ok (.iload_n 2, 1) := by decide +kernel
theorem dX4_tellStep_30 : decode cX4_tellStep 30 = .ok (.bipush 8, 2) := by decide +kernel
theorem dX4_tellStep_32 : decode cX4_tellStep 32 = .ok (.imul, 1) := by decide +kernel
theorem dX4_tellStep_33 : decode cX4_tellStep 33 = .ok (.aload_n 0, 1) := by decide +kernel
theorem dX4_tellStep_34 : decode cX4_tellStep 34 = .ok (.getfield 64, 3) := by decide +kernel
theorem dX4_tellStep_37 : decode cX4_tellStep 37 = .ok (.iadd, 1) := by decide +kernel
theorem dX4_tellStep_38 : decode cX4_tellStep 38 = .ok (.istore_n 3, 1) := by decide +kernel
theorem dX4_tellStep_39 : decode cX4_tellStep 39 = .ok (.iload_n 1, 1) := by decide +kernel
theorem dX4_tellStep_40 : decode cX4_tellStep 40 = .ok (.ifCond .eq 15, 3) := by decide +kernel
theorem dX4_tellStep_43 : decode cX4_tellStep 43 = .ok (.aload_n 0, 1) := by decide +kernel
theorem dX4_tellStep_44 : decode cX4_tellStep 44 = .ok (.iconst 0, 1) := by decide +kernel
theorem dX4_tellStep_45 : decode cX4_tellStep 45 = .ok (.ldc 152, 2) := by decide +kernel
theorem dX4_tellStep_47 : decode cX4_tellStep 47 = .ok (.invokevirtual 134, 3) := by decide +kernel
theorem dX4_tellStep_50 : decode cX4_tellStep 50 = .ok (.ifCond .ne 5, 3) := by decide +kernel
theorem dX4_tellStep_53 : decode cX4_tellStep 53 = .ok (.iconst 0, 1) := by decide +kernel
theorem dX4_tellStep_54 : decode cX4_tellStep 54 = .ok (.ireturn, 1) := by decide +kernel
theorem dX4_tellStep_55 : decode cX4_tellStep 55 = .ok (.aload_n 0, 1) := by decide +kernel
theorem dX4_tellStep_56 : decode cX4_tellStep 56 = .ok (.getfield 28, 3) := by decide +kernel
theorem dX4_tellStep_59 : decode cX4_tellStep 59 = .ok (.getfield 156, 3) := by decide +kernel
theorem dX4_tellStep_62 : decode cX4_tellStep 62 = .ok (.aload_n 0, 1) := by decide +kernel
theorem dX4_tellStep_63 : decode cX4_tellStep 63 = .ok (.getfield 28, 3) := by decide +kernel
theorem dX4_tellStep_66 : decode cX4_tellStep 66 = .ok (.getfield 106, 3) := by decide +kernel
theorem dX4_tellStep_69 : decode cX4_tellStep 69 = .ok (.iload_n 3, 1) := by decide +kernel
theorem dX4_tellStep_70 : decode cX4_tellStep 70 = .ok (.iastore, 1) := by decide +kernel
theorem dX4_tellStep_71 : decode cX4_tellStep 71 = .ok (.aload_n 0, 1) := by decide +kernel
theorem dX4_tellStep_72 : decode cX4_tellStep 72 = .ok (.getfield 28, 3) := by decide +kernel
theorem dX4_tellStep_75 : decode cX4_tellStep 75 = .ok (.getfield 159, 3) := by decide +kernel
theorem dX4_tellStep_78 : decode cX4_tellStep 78 = .ok (.aload_n 0, 1) := by decide +kernel
theorem dX4_tellStep_79 : decode cX4_tellStep 79 = .ok (.getfield 28, 3) := by decide +kernel
theorem dX4_tellStep_82 : decode cX4_tellStep 82 = .ok (.getfield 106, 3) := by decide +kernel
theorem dX4_tellStep_85 : decode cX4_tellStep 85 = .ok (.iload_n 1, 1) := by decide +kernel
theorem dX4_tellStep_86 : decode cX4_tellStep 86 = .ok (.ifCond .eq 10, 3) := by decide +kernel
theorem dX4_tellStep_89 : decode cX4_tellStep 89 = .ok (.aload_n 0, 1) := by decide +kernel
theorem dX4_tellStep_90 : decode cX4_tellStep 90 = .ok (.getfield 64, 3) := by decide +kernel
theorem dX4_tellStep_93 : decode cX4_tellStep 93 = .ok (.goto 4, 3) := by decide +kernel
theorem dX4_tellStep_96 : decode cX4_tellStep 96 = .ok (.iconst (-1), 1) := by decide +kernel
theorem dX4_tellStep_97 : decode cX4_tellStep 97 = .ok (.iastore, 1) := by decide +kernel
theorem dX4_tellStep_98 : decode cX4_tellStep 98 = .ok (.aload_n 0, 1) := by decide +kernel
theorem dX4_tellStep_99 : decode cX4_tellStep 99 = .ok (.getfield 28, 3) := by decide +kernel
theorem dX4_tellStep_102 : decode cX4_tellStep 102 = .ok (.dup, 1) := by decide +kernel
theorem dX4_tellStep_103 : decode cX4_tellStep 103 = .ok (.getfield 106, 3) := by decide +kernel
theorem dX4_tellStep_106 : decode cX4_tellStep 106 = .ok (.iconst 1, 1) := by decide +kernel
theorem dX4_tellStep_107 : decode cX4_tellStep 107 = .ok (.iadd, 1) := by decide +kernel
theorem dX4_tellStep_108 : decode cX4_tellStep 108 = .ok (.putfield 106, 3) := by decide +kernel
theorem dX4_tellStep_111 : decode cX4_tellStep 111 = .ok (.iconst 1, 1) := by decide +kernel
theorem dX4_tellStep_112 : decode cX4_tellStep 112 = .ok (.ireturn, 1) := by decide +kernel
theorem dX4_tellUnsure_0 : decode cX4_tellUnsure 0 = .ok (.aload_n 0, 1) := by decide +kernel
theorem dX4_tellUnsure_1 : decode cX4_tellUnsure 1 = .ok (.iconst 0, 1) := by decide +kernel
theorem dX4_tellUnsure_2 : decode cX4_tellUnsure 2 = .ok (.bipush 31, 2) := by decide +kernel
theorem dX4_tellUnsure_4 : decode cX4_tellUnsure 4 = .ok (.invokevirtual 134, 3) := by decide +kernel
theorem dX4_tellUnsure_7 : decode cX4_tellUnsure 7 = .ok (.ifCond .ne 5, 3) := by decide +kernel
theorem dX4_tellUnsure_10 : decode cX4_tellUnsure 10 = .ok (.iconst 0, 1) := by decide +kernel
theorem dX4_tellUnsure_11 : decode cX4_tellUnsure 11 = .ok (.ireturn, 1) := by decide +kernel
theorem dX4_tellUnsure_12 : decode cX4_tellUnsure 12 = .ok (.aload_n 0, 1) := by decide +kernel
theorem dX4_tellUnsure_13 : decode cX4_tellUnsure 13 = .ok (.getfield 64, 3) := by decide +kernel
theorem dX4_tellUnsure_16 : decode cX4_tellUnsure 16 = .ok (.istore_n 1, 1) := by decide +kernel
theorem dX4_tellUnsure_17 : decode cX4_tellUnsure 17 = .ok (.aload_n 0, 1) := by decide +kernel
theorem dX4_tellUnsure_18 : decode cX4_tellUnsure 18 = .ok (.iconst 0, 1) := by decide +kernel
theorem dX4_tellUnsure_19 : decode cX4_tellUnsure 19 = .ok (.bipush 7, 2) := by decide +kernel
theorem dX4_tellUnsure_21 : decode cX4_tellUnsure 21 = .ok (.invokevirtual 134, 3) := by decide +kernel
theorem dX4_tellUnsure_24 : decode cX4_tellUnsure 24 = .ok (.ifCond .ne 5, 3) := by decide +kernel
theorem dX4_tellUnsure_27 : decode cX4_tellUnsure 27 = .ok (.iconst 0, 1) := by decide +kernel
theorem dX4_tellUnsure_28 : decode cX4_tellUnsure 28 = .ok (.ireturn, 1) := by decide +kernel
theorem dX4_tellUnsure_29 : decode cX4_tellUnsure 29 = .ok (.iload_n 1, 1) := by decide +kernel
theorem dX4_tellUnsure_30 : decode cX4_tellUnsure 30 = .ok (.bipush 8, 2) := by decide +kernel
theorem dX4_tellUnsure_32 : decode cX4_tellUnsure 32 = .ok (.imul, 1) := by decide +kernel
theorem dX4_tellUnsure_33 : decode cX4_tellUnsure 33 = .ok (.aload_n 0, 1) := by decide +kernel
theorem dX4_tellUnsure_34 : decode cX4_tellUnsure 34 = .ok (.getfield 64, 3) := by decide +kernel
theorem dX4_tellUnsure_37 : decode cX4_tellUnsure 37 = .ok (.iadd, 1) := by decide +kernel
theorem dX4_tellUnsure_38 : decode cX4_tellUnsure 38 = .ok (.istore_n 2, 1) := by decide +kernel
theorem dX4_tellUnsure_39 : decode cX4_tellUnsure 39 = .ok (.aload_n 0, 1) := by decide +kernel
theorem dX4_tellUnsure_40 : decode cX4_tellUnsure 40 = .ok (.getfield 28, 3) := by decide +kernel
theorem dX4_tellUnsure_43 : decode cX4_tellUnsure 43 = .ok (.iload_n 2, 1) := by decide +kernel
theorem dX4_tellUnsure_44 : decode cX4_tellUnsure 44 = .ok (.invokevirtual 162, 3) := by decide +kernel
theorem dX4_tellUnsure_47 : decode cX4_tellUnsure 47 = .ok (.ifCond .eq 9, 3) := by decide +kernel
theorem dX4_tellUnsure_50 : decode cX4_tellUnsure 50 = .ok (.aload_n 0, 1) := by decide +kernel
theorem dX4_tellUnsure_51 : decode cX4_tellUnsure 51 = .ok (.iconst 3, 1) := by decide +kernel
theorem dX4_tellUnsure_52 : decode cX4_tellUnsure 52 = .ok (.invokevirtual 50, 3) := by decide +kernel
theorem dX4_tellUnsure_55 : decode cX4_tellUnsure 55 = .ok (.ireturn, 1) := by decide +kernel
theorem dX4_tellUnsure_56 : decode cX4_tellUnsure 56 = .ok (.aload_n 0, 1) := by decide +kernel
theorem dX4_tellUnsure_57 : decode cX4_tellUnsure 57 = .ok (.iconst 0, 1) := by decide +kernel
theorem dX4_tellUnsure_58 : decode cX4_tellUnsure 58 = .ok (.ldc 152, 2) := by decide +kernel
theorem dX4_tellUnsure_60 : decode cX4_tellUnsure 60 = .ok (.invokevirtual 134, 3) := by decide +kernel
theorem dX4_tellUnsure_63 : decode cX4_tellUnsure 63 = .ok (.ifCond .ne 5, 3) := by decide +kernel
theorem dX4_tellUnsure_66 : decode cX4_tellUnsure 66 = .ok (.iconst 0, 1) := by decide +kernel
theorem dX4_tellUnsure_67 : decode cX4_tellUnsure 67 = .ok (.ireturn, 1) := by decide +kernel
theorem dX4_tellUnsure_68 : decode cX4_tellUnsure 68 = .ok (.aload_n 0, 1) := by decide +kernel
theorem dX4_tellUnsure_69 : decode cX4_tellUnsure 69 = .ok (.getfield 28, 3) := by decide +kernel
theorem dX4_tellUnsure_72 : decode cX4_tellUnsure 72 = .ok (.getfield 165, 3) := by decide +kernel
theorem dX4_tellUnsure_75 : decode cX4_tellUnsure 75 = .ok (.aload_n 0, 1) := by decide +kernel
theorem dX4_tellUnsure_76 : decode cX4_tellUnsure 76 = .ok (.getfield 28, 3) := by decide +kernel
theorem dX4_tellUnsure_79 : decode cX4_tellUnsure 79 = .ok (.getfield 117, 3) := by decide +kernel
theorem dX4_tellUnsure_82 : decode cX4_tellUnsure 82 = .ok (.iload_n 2, 1) := by decide +kernel
theorem dX4_tellUnsure_83 : decode cX4_tellUnsure 83 = .ok (.iastore, 1) := by decide +kernel
theorem dX4_tellUnsure_84 : decode cX4_tellUnsure 84 = .ok (.aload_n 0, 1) := by decide +kernel
theorem dX4_tellUnsure_85 : decode cX4_tellUnsure 85 = .ok (.getfield 28, 3) := by decide +kernel
theorem dX4_tellUnsure_88 : decode cX4_tellUnsure 88 = .ok (.getfield 168, 3) := by decide +kernel
theorem dX4_tellUnsure_91 : decode cX4_tellUnsure 91 = .ok (.aload_n 0, 1) := by decide +kernel
theorem dX4_tellUnsure_92 : decode cX4_tellUnsure 92 = .ok (.getfield 28, 3) := by decide +kernel
theorem dX4_tellUnsure_95 : decode cX4_tellUnsure 95 = .ok (.getfield 117, 3) := by decide +kernel
theorem dX4_tellUnsure_98 : decode cX4_tellUnsure 98 = .ok (.aload_n 0, 1) := by decide +kernel
theorem dX4_tellUnsure_99 : decode cX4_tellUnsure 99 = .ok (.getfield 64, 3) := by decide +kernel
theorem dX4_tellUnsure_102 : decode cX4_tellUnsure 102 = .ok (.iastore, 1) := by decide +kernel
theorem dX4_tellUnsure_103 : decode cX4_tellUnsure 103 = .ok (.aload_n 0, 1) := by decide +kernel
theorem dX4_tellUnsure_104 : decode cX4_tellUnsure 104 = .ok (.getfield 28, 3) := by decide +kernel
theorem dX4_tellUnsure_107 : decode cX4_tellUnsure 107 = .ok (.dup, 1) := by decide +kernel
theorem dX4_tellUnsure_108 : decode cX4_tellUnsure 108 = .ok (.getfield 117, 3) := by decide +kernel
theorem dX4_tellUnsure_111 : decode cX4_tellUnsure 111 = .ok (.iconst 1, 1) := by decide +kernel
theorem dX4_tellUnsure_112 : decode cX4_tellUnsure 112 = .ok (.iadd, 1) := by decide +kernel
theorem dX4_tellUnsure_113 : decode cX4_tellUnsure 113 = .ok (.putfield 117, 3) := by decide +kernel
theorem dX4_tellUnsure_116 : decode cX4_tellUnsure 116 = .ok (.iconst 1, 1) := by decide +kernel
theorem dX4_tellUnsure_117 : decode cX4_tellUnsure 117 = .ok (.ireturn, 1) := by decide +kernel
theorem dX4_tellSeen_0 : decode cX4_tellSeen 0 = .ok (.aload_n 0, 1) := by decide +kernel
theorem dX4_tellSeen_1 : decode cX4_tellSeen 1 = .ok (.invokevirtual 81, 3) := by decide +kernel
theorem dX4_tellSeen_4 : decode cX4_tellSeen 4 = .ok (.ifCond .ne 5, 3) := by decide +kernel
theorem dX4_tellSeen_7 : decode cX4_tellSeen 7 = .ok (.iconst 0, 1) := by decide +kernel
theorem dX4_tellSeen_8 : decode cX4_tellSeen 8 = .ok (.ireturn, 1) := by decide +kernel
theorem dX4_tellSeen_9 : decode cX4_tellSeen 9 = .ok (.aload_n 0, 1) := by decide +kernel
theorem dX4_tellSeen_10 : decode cX4_tellSeen 10 = .ok (.getfield 64, 3) := by decide +kernel
theorem dX4_tellSeen_13 : decode cX4_tellSeen 13 = .ok (.istore_n 1, 1) := by decide +kernel
theorem dX4_tellSeen_14 : decode cX4_tellSeen 14 = .ok (.iload_n 1, 1) := by decide +kernel
theorem dX4_tellSeen_15 : decode cX4_tellSeen 15 = .ok (.aload_n 0, 1) := by decide +kernel
theorem dX4_tellSeen_16 : decode cX4_tellSeen 16 = .ok (.getfield 28, 3) := by decide +kernel
theorem dX4_tellSeen_19 : decode cX4_tellSeen 19 = .ok (.getfield 106, 3) := by decide +kernel
theorem dX4_tellSeen_22 : decode cX4_tellSeen 22 = .ok (.if_icmp .lt 9, 3) := by decide +kernel
theorem dX4_tellSeen_25 : decode cX4_tellSeen 25 = .ok (.aload_n 0, 1) := by decide +kernel
theorem dX4_tellSeen_26 : decode cX4_tellSeen 26 = .ok (.iconst 2, 1) := by decide +kernel
theorem dX4_tellSeen_27 : decode cX4_tellSeen 27 = .ok (.invokevirtual 50, 3) := by decide +kernel
theorem dX4_tellSeen_30 : decode cX4_tellSeen 30 = .ok (.ireturn, 1) := by decide +kernel
theorem dX4_tellSeen_31 : decode cX4_tellSeen 31 = .ok (.aload_n 0, 1) := by decide +kernel
theorem dX4_tellSeen_32 : decode cX4_tellSeen 32 = .ok (.getfield 28, 3) := by decide +kernel
theorem dX4_tellSeen_35 : decode cX4_tellSeen 35 = .ok (.iload_n 1, 1) := by decide +kernel
theorem dX4_tellSeen_36 : decode cX4_tellSeen 36 = .ok (.invokevirtual 171, 3) := by decide +kernel
theorem dX4_tellSeen_39 : decode cX4_tellSeen 39 = .ok (.ifCond .eq 9, 3) := by decide +kernel
theorem dX4_tellSeen_42 : decode cX4_tellSeen 42 = .ok (.aload_n 0, 1) := by decide +kernel
theorem dX4_tellSeen_43 : decode cX4_tellSeen 43 = .ok (.iconst 3, 1) := by decide +kernel
theorem dX4_tellSeen_44 : decode cX4_tellSeen 44 = .ok (.invokevirtual 50, 3) := by decide +kernel
theorem dX4_tellSeen_47 : decode cX4_tellSeen 47 = .ok (.ireturn, 1) := by decide +kernel
theorem dX4_tellSeen_48 : decode cX4_tellSeen 48 = .ok (.aload_n 0, 1) := by decide +kernel
theorem dX4_tellSeen_49 : decode cX4_tellSeen 49 = .ok (.invokevirtual 40, 3) := by decide +kernel
theorem dX4_tellSeen_52 : decode cX4_tellSeen 52 = .ok (.aload_n 0, 1) := by decide +kernel
theorem dX4_tellSeen_53 : decode cX4_tellSeen 53 = .ok (.ldc 174, 2) := by decide +kernel
theorem dX4_tellSeen_55 : decode cX4_tellSeen 55 = .ok (.invokevirtual 77, 3) := by decide +kernel
theorem dX4_tellSeen_58 : decode cX4_tellSeen 58 = .ok (.ifCond .ne 18, 3) := by decide +kernel
theorem dX4_tellSeen_61 : decode cX4_tellSeen 61 = .ok (.aload_n 0, 1) := by decide +kernel
theorem dX4_tellSeen_62 : decode cX4_tellSeen 62 = .ok (.ldc 176, 2) := by decide +kernel
theorem dX4_tellSeen_64 : decode cX4_tellSeen 64 = .ok (.invokevirtual 77, 3) := by decide +kernel
theorem dX4_tellSeen_67 : decode cX4_tellSeen 67 = .ok (.ifCond .ne 9, 3) := by decide +kernel
theorem dX4_tellSeen_70 : decode cX4_tellSeen 70 = .ok (.aload_n 0, 1) := by decide +kernel
theorem dX4_tellSeen_71 : decode cX4_tellSeen 71 = .ok (.iconst 1, 1) := by decide +kernel
theorem dX4_tellSeen_72 : decode cX4_tellSeen 72 = .ok (.invokevirtual 50, 3) := by decide +kernel
theorem dX4_tellSeen_75 : decode cX4_tellSeen 75 = .ok (.ireturn, 1) := by decide +kernel
theorem dX4_tellSeen_76 : decode cX4_tellSeen 76 = .ok (.aload_n 0, 1) := by decide +kernel
theorem dX4_tellSeen_77 : decode cX4_tellSeen 77 = .ok (.getfield 28, 3) := by decide +kernel
theorem dX4_tellSeen_80 : decode cX4_tellSeen 80 = .ok (.getfield 178, 3) := by decide +kernel
theorem dX4_tellSeen_83 : decode cX4_tellSeen 83 = .ok (.aload_n 0, 1) := by decide +kernel
theorem dX4_tellSeen_84 : decode cX4_tellSeen 84 = .ok (.getfield 28, 3) := by decide +kernel
theorem dX4_tellSeen_87 : decode cX4_tellSeen 87 = .ok (.getfield 124, 3) := by decide +kernel
theorem dX4_tellSeen_90 : decode cX4_tellSeen 90 = .ok (.iload_n 1, 1) := by decide +kernel
theorem dX4_tellSeen_91 : decode cX4_tellSeen 91 = .ok (.iastore, 1) := by decide +kernel
theorem dX4_tellSeen_92 : decode cX4_tellSeen 92 = .ok (.aload_n 0, 1) := by decide +kernel
theorem dX4_tellSeen_93 : decode cX4_tellSeen 93 = .ok (.getfield 28, 3) := by decide +kernel
theorem dX4_tellSeen_96 : decode cX4_tellSeen 96 = .ok (.getfield 181, 3) := by decide +kernel
theorem dX4_tellSeen_99 : decode cX4_tellSeen 99 = .ok (.aload_n 0, 1) := by decide +kernel
theorem dX4_tellSeen_100 : decode cX4_tellSeen 100 = .ok (.getfield 28, 3) := by decide +kernel
theorem dX4_tellSeen_103 : decode cX4_tellSeen 103 = .ok (.getfield 124, 3) := by decide +kernel
theorem dX4_tellSeen_106 : decode cX4_tellSeen 106 = .ok (.aload_n 0, 1) := by decide +kernel
theorem dX4_tellSeen_107 : decode cX4_tellSeen 107 = .ok (.ldc 174, 2) := by decide +kernel
theorem dX4_tellSeen_109 : decode cX4_tellSeen 109 = .ok (.invokevirtual 77, 3) := by decide +kernel
theorem dX4_tellSeen_112 : decode cX4_tellSeen 112 = .ok (.ifCond .eq 7, 3) := by decide +kernel
theorem dX4_tellSeen_115 : decode cX4_tellSeen 115 = .ok (.iconst 1, 1) := by decide +kernel
theorem dX4_tellSeen_116 : decode cX4_tellSeen 116 = .ok (.goto 4, 3) := by decide +kernel
theorem dX4_tellSeen_119 : decode cX4_tellSeen 119 = .ok (.iconst 0, 1) := by decide +kernel
theorem dX4_tellSeen_120 : decode cX4_tellSeen 120 = .ok (.iastore, 1) := by decide +kernel
theorem dX4_tellSeen_121 : decode cX4_tellSeen 121 = .ok (.aload_n 0, 1) := by decide +kernel
theorem dX4_tellSeen_122 : decode cX4_tellSeen 122 = .ok (.getfield 28, 3) := by decide +kernel
theorem dX4_tellSeen_125 : decode cX4_tellSeen 125 = .ok (.dup, 1) := by decide +kernel
theorem dX4_tellSeen_126 : decode cX4_tellSeen 126 = .ok (.getfield 124, 3) := by decide +kernel
theorem dX4_tellSeen_129 : decode cX4_tellSeen 129 = .ok (.iconst 1, 1) := by decide +kernel
theorem dX4_tellSeen_130 : decode cX4_tellSeen 130 = .ok (.iadd, 1) := by decide +kernel
theorem dX4_tellSeen_131 : decode cX4_tellSeen 131 = .ok (.putfield 124, 3) := by decide +kernel
theorem dX4_tellSeen_134 : decode cX4_tellSeen 134 = .ok (.iconst 1, 1) := by decide +kernel
theorem dX4_tellSeen_135 : decode cX4_tellSeen 135 = .ok (.ireturn, 1) := by decide +kernel
theorem dX5_init_0 : decode cX5_init 0 = .ok (.aload_n 0, 1) := by decide +kernel
theorem dX5_init_1 : decode cX5_init 1 = .ok (.invokespecial 1, 3) := by decide +kernel
theorem dX5_init_4 : decode cX5_init 4 = .ok (.aload_n 0, 1) := by decide +kernel
theorem dX5_init_5 : decode cX5_init 5 = .ok (.sipush 1200, 3) := by decide +kernel
theorem dX5_init_8 : decode cX5_init 8 = .ok (.newarray .byte, 2) := by decide +kernel
theorem dX5_init_10 : decode cX5_init 10 = .ok (.putfield 9, 3) := by decide +kernel
theorem dX5_init_13 : decode cX5_init 13 = .ok (.aload_n 0, 1) := by decide +kernel
theorem dX5_init_14 : decode cX5_init 14 = .ok (.new 13, 3) := by decide +kernel
theorem dX5_init_17 : decode cX5_init 17 = .ok (.dup, 1) := by decide +kernel
theorem dX5_init_18 : decode cX5_init 18 = .ok (.invokespecial 15, 3) := by decide +kernel
theorem dX5_init_21 : decode cX5_init 21 = .ok (.putfield 16, 3) := by decide +kernel
theorem dX5_init_24 : decode cX5_init 24 = .ok (.aload_n 0, 1) := by decide +kernel
theorem dX5_init_25 : decode cX5_init 25 = .ok (.new 13, 3) := by decide +kernel
theorem dX5_init_28 : decode cX5_init 28 = .ok (.dup, 1) := by decide +kernel
theorem dX5_init_29 : decode cX5_init 29 = .ok (.invokespecial 15, 3) := by decide +kernel
theorem dX5_init_32 : decode cX5_init 32 = .ok (.putfield 20, 3) := by decide +kernel
theorem dX5_init_35 : decode cX5_init 35 = .ok (.aload_n 0, 1) := by decide +kernel
theorem dX5_init_36 : decode cX5_init 36 = .ok (.new 23, 3) := by decide +kernel
theorem dX5_init_39 : decode cX5_init 39 = .ok (.dup, 1) := by decide +kernel
theorem dX5_init_40 : decode cX5_init 40 = .ok (.invokespecial 25, 3) := by decide +kernel
theorem dX5_init_43 : decode cX5_init 43 = .ok (.putfield 26, 3) := by decide +kernel
theorem dX5_init_46 : decode cX5_init 46 = .ok (.aload_n 0, 1) := by decide +kernel
theorem dX5_init_47 : decode cX5_init 47 = .ok (.new 30, 3) := by decide +kernel
theorem dX5_init_50 : decode cX5_init 50 = .ok (.dup, 1) := by decide +kernel
theorem dX5_init_51 : decode cX5_init 51 = .ok (.invokespecial 32, 3) := by decide +kernel
theorem dX5_init_54 : decode cX5_init 54 = .ok (.putfield 33, 3) := by decide +kernel
theorem dX5_init_57 : decode cX5_init 57 = .ok (.aload_n 0, 1) := by decide +kernel
theorem dX5_init_58 : decode cX5_init 58 = .ok (.new 30, 3) := by decide +kernel
theorem dX5_init_61 : decode cX5_init 61 = .ok (.dup, 1) := by decide +kernel
theorem dX5_init_62 : decode cX5_init 62 = .ok (.invokespecial 32, 3) := by decide +kernel
theorem dX5_init_65 : decode cX5_init 65 = .ok (.putfield 37, 3) := by decide +kernel
theorem dX5_init_68 : decode cX5_init 68 = .ok (.aload_n 0, 1) := by decide +kernel
theorem dX5_init_69 : decode cX5_init 69 = .ok (.new 40, 3) := by decide +kernel
theorem dX5_init_72 : decode cX5_init 72 = .ok (.dup, 1) := by decide +kernel
theorem dX5_init_73 : decode cX5_init 73 = .ok (.invokespecial 42, 3) := by decide +kernel
theorem dX5_init_76 : decode cX5_init 76 = .ok (.putfield 43, 3) := by decide +kernel
theorem dX5_init_79 : decode cX5_init 79 = .ok (.aload_n 0, 1) := by decide +kernel
theorem dX5_init_80 : decode cX5_init 80 = .ok (.iconst 3, 1) := by decide +kernel
theorem dX5_init_81 : decode cX5_init 81 = .ok (.anewarray 30, 3) := by decide +kernel
theorem dX5_init_84 : decode cX5_init 84 = .ok (.putfield 47, 3) := by decide +kernel
theorem dX5_init_87 : decode cX5_init 87 = .ok (.return_, 1) := by decide +kernel
theorem dX5_feed_0 : decode cX5_feed 0 = .ok (.aload_n 0, 1) := by decide +kernel
theorem dX5_feed_1 : decode cX5_feed 1 = .ok (.getfield 51, 3) := by decide +kernel
theorem dX5_feed_4 : decode cX5_feed 4 = .ok (.sipush 1180, 3) := by decide +kernel
theorem dX5_feed_7 : decode cX5_feed 7 = .ok (.if_icmp .le 5, 3) := by decide +kernel
theorem dX5_feed_10 : decode cX5_feed 10 = .ok (.iconst (-1), 1) := by decide +kernel
theorem dX5_feed_11 : decode cX5_feed 11 = .ok (.ireturn, 1) := by decide +kernel
theorem dX5_feed_12 : decode cX5_feed 12 = .ok (.aload_n 0, 1) := by decide +kernel
theorem dX5_feed_13 : decode cX5_feed 13 = .ok (.iload_n 1, 1) := by decide +kernel
theorem dX5_feed_14 : decode cX5_feed 14 = .ok (.invokevirtual 55, 3) := by decide +kernel
theorem dX5_feed_17 : decode cX5_feed 17 = .ok (.aload_n 0, 1) := by decide +kernel
theorem dX5_feed_18 : decode cX5_feed 18 = .ok (.iload_n 2, 1) := by decide +kernel
theorem dX5_feed_19 : decode cX5_feed 19 = .ok (.invokevirtual 55, 3) := by decide +kernel
theorem dX5_feed_22 : decode cX5_feed 22 = .ok (.aload_n 0, 1) := by decide +kernel
theorem dX5_feed_23 : decode cX5_feed 23 = .ok (.iload_n 3, 1) := by decide +kernel
theorem dX5_feed_24 : decode cX5_feed 24 = .ok (.invokevirtual 55, 3) := by decide +kernel
theorem dX5_feed_27 : decode cX5_feed 27 = .ok (.aload_n 0, 1) := by decide +kernel
theorem dX5_feed_28 : decode cX5_feed 28 = .ok (.iload 4, 2) := by decide +kernel
theorem dX5_feed_30 : decode cX5_feed 30 = .ok (.invokevirtual 55, 3) := by decide +kernel
theorem dX5_feed_33 : decode cX5_feed 33 = .ok (.aload_n 0, 1) := by decide +kernel
theorem dX5_feed_34 : decode cX5_feed 34 = .ok (.iload 5, 2) := by decide +kernel
theorem dX5_feed_36 : decode cX5_feed 36 = .ok (.invokevirtual 55, 3) := by decide +kernel
theorem dX5_feed_39 : decode cX5_feed 39 = .ok (.aload_n 0, 1) := by decide +kernel
theorem dX5_feed_40 : decode cX5_feed 40 = .ok (.getfield 51, 3) := by decide +kernel
theorem dX5_feed_43 : decode cX5_feed 43 = .ok (.ireturn, 1) := by decide +kernel
theorem dX5_tapeFour_0 : decode cX5_tapeFour 0 = .ok (.bipush 24, 2) := by decide +kernel
theorem dX5_tapeFour_2 : decode cX5_tapeFour 2 = .ok (.istore_n 2, 1) := by decide +kernel
theorem dX5_tapeFour_3 : decode cX5_tapeFour 3 = .ok (.iload_n 2, 1) := by decide +kernel
theorem dX5_tapeFour_4 : decode cX5_tapeFour 4 = .ok (.ifCond .lt 42, 3) := by decide +kernel
theorem dX5_tapeFour_7 : decode cX5_tapeFour 7 = .ok (.aload_n 0, 1) := by decide +kernel
theorem dX5_tapeFour_8 : decode cX5_tapeFour 8 = .ok (.getfield 51, 3) := by decide +kernel
theorem dX5_tapeFour_11 : decode cX5_tapeFour 11 = .ok (.sipush 1200, 3) := by decide +kernel
theorem dX5_tapeFour_14 : decode cX5_tapeFour 14 = .ok (.if_icmp .ge 26, 3) := by decide +kernel
theorem dX5_tapeFour_17 : decode cX5_tapeFour 17 = .ok (.aload_n 0, 1) := by decide +kernel
theorem dX5_tapeFour_18 : decode cX5_tapeFour 18 = .ok (.getfield 9, 3) := by decide +kernel
theorem dX5_tapeFour_21 : decode cX5_tapeFour 21 = .ok (.aload_n 0, 1) := by decide +kernel
theorem dX5_tapeFour_22 : decode cX5_tapeFour 22 = .ok (.getfield 51, 3) := by decide +kernel
theorem dX5_tapeFour_25 : decode cX5_tapeFour 25 = .ok (.iload_n 1, 1) := by decide +kernel
theorem dX5_tapeFour_26 : decode cX5_tapeFour 26 = .ok (.iload_n 2, 1) := by decide +kernel
theorem dX5_tapeFour_27 : decode cX5_tapeFour 27 = .ok (.ishr, 1) := by decide +kernel
theorem dX5_tapeFour_28 : decode cX5_tapeFour 28 = .ok (.i2b, 1) := by decide +kernel
theorem dX5_tapeFour_29 : decode cX5_tapeFour 29 = .ok (.bastore, 1) := by decide +kernel
theorem dX5_tapeFour_30 : decode cX5_tapeFour 30 = .ok (.aload_n 0, 1) := by decide +kernel
theorem dX5_tapeFour_31 : decode cX5_tapeFour 31 = .ok (.dup, 1) := by decide +kernel
theorem dX5_tapeFour_32 : decode cX5_tapeFour 32 = .ok (.getfield 51, 3) := by decide +kernel
theorem dX5_tapeFour_35 : decode cX5_tapeFour 35 = .ok (.iconst 1, 1) := by decide +kernel
theorem dX5_tapeFour_36 : decode cX5_tapeFour 36 = .ok (.iadd, 1) := by decide +kernel
theorem dX5_tapeFour_37 : decode cX5_tapeFour 37 = .ok (.putfield 51, 3) := by decide +kernel
theorem dX5_tapeFour_40 : decode cX5_tapeFour 40 = .ok (.iinc 2 (-8), 3) := by decide +kernel
theorem dX5_tapeFour_43 : decode cX5_tapeFour 43 = .ok (.goto (-40), 3) := by decide +kernel
theorem dX5_tapeFour_46 : decode cX5_tapeFour 46 = .ok (.return_, 1) := by decide +kernel
theorem dX5_cache_0 : decode cX5_cache 0 = .ok (.iload_n 1, 1) := by decide +kernel
theorem dX5_cache_1 : decode cX5_cache 1 = .ok (.ifCond .lt 11, 3) := by decide +kernel
theorem dX5_cache_4 : decode cX5_cache 4 = .ok (.iload_n 1, 1) := by decide +kernel
theorem dX5_cache_5 : decode cX5_cache 5 = .ok (.aload_n 0, 1) := by decide +kernel
theorem dX5_cache_6 : decode cX5_cache 6 = .ok (.getfield 51, 3) := by decide +kernel
theorem dX5_cache_9 : decode cX5_cache 9 = .ok (.if_icmp .le 9, 3) := by decide +kernel
theorem dX5_cache_12 : decode cX5_cache 12 = .ok (.aload_n 0, 1) := by decide +kernel
theorem dX5_cache_13 : decode cX5_cache 13 = .ok (.iconst 2, 1) := by decide +kernel
theorem dX5_cache_14 : decode cX5_cache 14 = .ok (.invokevirtual 59, 3) := by decide +kernel
theorem dX5_cache_17 : decode cX5_cache 17 = .ok (.ireturn, 1) := by decide +kernel
theorem dX5_cache_18 : decode cX5_cache 18 = .ok (.aload_n 0, 1) := by decide +kernel
theorem dX5_cache_19 : decode cX5_cache 19 = .ok (.iconst 0, 1) := by decide +kernel
theorem dX5_cache_20 : decode cX5_cache 20 = .ok (.putfield 51, 3) := by decide +kernel
theorem dX5_cache_23 : decode cX5_cache 23 = .ok (.aload_n 0, 1) := by decide +kernel
theorem dX5_cache_24 : decode cX5_cache 24 = .ok (.getfield 26, 3) := by decide +kernel
theorem dX5_cache_27 : decode cX5_cache 27 = .ok (.aload_n 0, 1) := by decide +kernel
theorem dX5_cache_28 : decode cX5_cache 28 = .ok (.getfield 9, 3) := by decide +kernel
theorem dX5_cache_31 : decode cX5_cache 31 = .ok (.iload_n 1, 1) := by decide +kernel
theorem dX5_cache_32 : decode cX5_cache 32 = .ok (.aload_n 0, 1) := by decide +kernel
theorem dX5_cache_33 : decode cX5_cache 33 = .ok (.getfield 20, 3) := by decide +kernel
theorem dX5_cache_36 : decode cX5_cache 36 = .ok (.invokevirtual 63, 3) := by decide +kernel
theorem dX5_cache_39 : decode cX5_cache 39 = .ok (.ifCond .ne 9, 3) := by decide +kernel
theorem dX5_cache_42 : decode cX5_cache 42 = .ok (.aload_n 0, 1) := by decide +kernel
theorem dX5_cache_43 : decode cX5_cache 43 = .ok (.iconst 4, 1) := by decide +kernel
theorem dX5_cache_44 : decode cX5_cache 44 = .ok (.invokevirtual 59, 3) := by decide +kernel
theorem dX5_cache_47 : decode cX5_cache 47 = .ok (.ireturn, 1) := by decide +kernel
theorem dX5_cache_48 : decode cX5_cache 48 = .ok (.aload_n 0, 1) := by decide +kernel
theorem dX5_cache_49 : decode cX5_cache 49 = .ok (.getfield 20, 3) := by decide +kernel
theorem dX5_cache_52 : decode cX5_cache 52 = .ok (.astore_n 2, 1) := by decide +kernel
theorem dX5_cache_53 : decode cX5_cache 53 = .ok (.aload_n 0, 1) := by decide +kernel
theorem dX5_cache_54 : decode cX5_cache 54 = .ok (.aload_n 0, 1) := by decide +kernel
theorem dX5_cache_55 : decode cX5_cache 55 = .ok (.getfield 16, 3) := by decide +kernel
theorem dX5_cache_58 : decode cX5_cache 58 = .ok (.putfield 20, 3) := by decide +kernel
theorem dX5_cache_61 : decode cX5_cache 61 = .ok (.aload_n 0, 1) := by decide +kernel
theorem dX5_cache_62 : decode cX5_cache 62 = .ok (.aload_n 2, 1) := by decide +kernel
theorem dX5_cache_63 : decode cX5_cache 63 = .ok (.putfield 16, 3) := by decide +kernel
theorem dX5_cache_66 : decode cX5_cache 66 = .ok (.aload_n 0, 1) := by decide +kernel
theorem dX5_cache_67 : decode cX5_cache 67 = .ok (.iconst 1, 1) := by decide +kernel
theorem dX5_cache_68 : decode cX5_cache 68 = .ok (.putfield 67, 3) := by decide +kernel
theorem dX5_cache_71 : decode cX5_cache 71 = .ok (.aload_n 0, 1) := by decide +kernel
theorem dX5_cache_72 : decode cX5_cache 72 = .ok (.iconst 0, 1) := by decide +kernel
theorem dX5_cache_73 : decode cX5_cache 73 = .ok (.putfield 71, 3) := by decide +kernel
theorem dX5_cache_76 : decode cX5_cache 76 = .ok (.aload_n 0, 1) := by decide +kernel
theorem dX5_cache_77 : decode cX5_cache 77 = .ok (.getfield 33, 3) := by decide +kernel
theorem dX5_cache_80 : decode cX5_cache 80 = .ok (.aload_n 0, 1) := by decide +kernel
theorem dX5_cache_81 : decode cX5_cache 81 = .ok (.getfield 16, 3) := by decide +kernel
theorem dX5_cache_84 : decode cX5_cache 84 = .ok (.aload_n 0, 1) := by decide +kernel
theorem dX5_cache_85 : decode cX5_cache 85 = .ok (.getfield 16, 3) := by decide +kernel
theorem dX5_cache_88 : decode cX5_cache 88 = .ok (.getfield 74, 3) := by decide +kernel
theorem dX5_cache_91 : decode cX5_cache 91 = .ok (.iconst 0, 1) := by decide +kernel
theorem dX5_cache_92 : decode cX5_cache 92 = .ok (.iconst 0, 1) := by decide +kernel
theorem dX5_cache_93 : decode cX5_cache 93 = .ok (.invokevirtual 77, 3) := by decide +kernel
theorem dX5_cache_96 : decode cX5_cache 96 = .ok (.aload_n 0, 1) := by decide +kernel
theorem dX5_cache_97 : decode cX5_cache 97 = .ok (.getfield 43, 3) := by decide +kernel
theorem dX5_cache_100 : decode cX5_cache 100 = .ok (.aload_n 0, 1) := by decide +kernel
theorem dX5_cache_101 : decode cX5_cache 101 = .ok (.getfield 33, 3) := by decide +kernel
theorem dX5_cache_104 : decode cX5_cache 104 = .ok (.invokevirtual 81, 3) := by decide +kernel
theorem dX5_cache_107 : decode cX5_cache 107 = .ok (.aload_n 0, 1) := by decide +kernel
theorem dX5_cache_108 : decode cX5_cache 108 = .ok (.aload_n 0, 1) := by decide +kernel
theorem dX5_cache_109 : decode cX5_cache 109 = .ok (.getfield 16, 3) := by decide +kernel
theorem dX5_cache_112 : decode cX5_cache 112 = .ok (.getfield 85, 3) := by decide +kernel
theorem dX5_cache_115 : decode cX5_cache 115 = .ok (.invokevirtual 88, 3) := by decide +kernel
theorem dX5_cache_118 : decode cX5_cache 118 = .ok (.ireturn, 1) := by decide +kernel
theorem dX5_fault_0 : decode cX5_fault 0 = .ok (.aload_n 0, 1) := by decide +kernel
theorem dX5_fault_1 : decode cX5_fault 1 = .ok (.getfield 26, 3) := by decide +kernel
theorem dX5_fault_4 : decode cX5_fault 4 = .ok (.getfield 91, 3) := by decide +kernel
theorem dX5_fault_7 : decode cX5_fault 7 = .ok (.ireturn, 1) := by decide +kernel
theorem dX5_where_0 : decode cX5_where 0 = .ok (.aload_n 0, 1) := by decide +kernel
theorem dX5_where_1 : decode cX5_where 1 = .ok (.getfield 94, 3) := by decide +kernel
theorem dX5_where_4 : decode cX5_where 4 = .ok (.iconst 4, 1) := by decide +kernel
theorem dX5_where_5 : decode cX5_where 5 = .ok (.if_icmp .ne 13, 3) := by decide +kernel
theorem dX5_where_8 : decode cX5_where 8 = .ok (.aload_n 0, 1) := by decide +kernel
theorem dX5_where_9 : decode cX5_where 9 = .ok (.getfield 26, 3) := by decide +kernel
theorem dX5_where_12 : decode cX5_where 12 = .ok (.getfield 97, 3) := by decide +kernel
theorem dX5_where_15 : decode cX5_where 15 = .ok (.goto 4, 3) := by decide +kernel
theorem dX5_where_18 : decode cX5_where 18 = .ok (.iconst (-1), 1) := by decide +kernel
theorem dX5_where_19 : decode cX5_where 19 = .ok (.ireturn, 1) := by decide +kernel
theorem dX5_word_0 : decode cX5_word 0 = .ok (.aload_n 0, 1) := by decide +kernel
theorem dX5_word_1 : decode cX5_word 1 = .ok (.iload_n 1, 1) := by decide +kernel
theorem dX5_word_2 : decode cX5_word 2 = .ok (.iload_n 2, 1) := by decide +kernel
theorem dX5_word_3 : decode cX5_word 3 = .ok (.invokevirtual 100, 3) := by decide +kernel
theorem dX5_word_6 : decode cX5_word 6 = .ok (.ifCond .ne 9, 3) := by decide +kernel
theorem dX5_word_9 : decode cX5_word 9 = .ok (.aload_n 0, 1) := by decide +kernel
theorem dX5_word_10 : decode cX5_word 10 = .ok (.iconst 1, 1) := by decide +kernel
theorem dX5_word_11 : decode cX5_word 11 = .ok (.invokevirtual 59, 3) := by decide +kernel
theorem dX5_word_14 : decode cX5_word 14 = .ok (.ireturn, 1) := by decide +kernel
theorem dX5_word_15 : decode cX5_word 15 = .ok (.aload_n 0, 1) := by decide +kernel
theorem dX5_word_16 : decode cX5_word 16 = .ok (.aload_n 0, 1) := by decide +kernel
theorem dX5_word_17 : decode cX5_word 17 = .ok (.getfield 33, 3) := by decide +kernel
theorem dX5_word_20 : decode cX5_word 20 = .ok (.getfield 104, 3) := by decide +kernel
theorem dX5_word_23 : decode cX5_word 23 = .ok (.iload_n 1, 1) := by decide +kernel
theorem dX5_word_24 : decode cX5_word 24 = .ok (.bipush 8, 2) := by decide +kernel
theorem dX5_word_26 : decode cX5_word 26 = .ok (.imul, 1) := by decide +kernel
theorem dX5_word_27 : decode cX5_word 27 = .ok (.iload_n 2, 1) := by decide +kernel
theorem dX5_word_28 : decode cX5_word 28 = .ok (.iadd, 1) := by decide +kernel
theorem dX5_word_29 : decode cX5_word 29 = .ok (.iaload, 1) := by decide +kernel
theorem dX5_word_30 : decode cX5_word 30 = .ok (.invokevirtual 88, 3) := by decide +kernel
theorem dX5_word_33 : decode cX5_word 33 = .ok (.ireturn, 1) := by decide +kernel
theorem dX5_memory_0 : decode cX5_memory 0 = .ok (.aload_n 0, 1) := by decide +kernel
theorem dX5_memory_1 : decode cX5_memory 1 = .ok (.iload_n 1, 1) := by decide +kernel
theorem dX5_memory_2 : decode cX5_memory 2 = .ok (.iload_n 2, 1) := by decide +kernel
theorem dX5_memory_3 : decode cX5_memory 3 = .ok (.invokevirtual 100, 3) := by decide +kernel
theorem dX5_memory_6 : decode cX5_memory 6 = .ok (.ifCond .ne 9, 3) := by decide +kernel
theorem dX5_memory_9 : decode cX5_memory 9 = .ok (.aload_n 0, 1) := by decide +kernel
theorem dX5_memory_10 : decode cX5_memory 10 = .ok (.iconst 1, 1) := by decide +kernel
theorem dX5_memory_11 : decode cX5_memory 11 = .ok (.invokevirtual 59, 3) := by decide +kernel
theorem dX5_memory_14 : decode cX5_memory 14 = .ok (.ireturn, 1) := by decide +kernel
theorem dX5_memory_15 : decode cX5_memory 15 = .ok (.aload_n 0, 1) := by decide +kernel
theorem dX5_memory_16 : decode cX5_memory 16 = .ok (.aload_n 0, 1) := by decide +kernel
theorem dX5_memory_17 : decode cX5_memory 17 = .ok (.getfield 33, 3) := by decide +kernel
theorem dX5_memory_20 : decode cX5_memory 20 = .ok (.getfield 108, 3) := by decide +kernel
theorem dX5_memory_23 : decode cX5_memory 23 = .ok (.iload_n 1, 1) := by decide +kernel
theorem dX5_memory_24 : decode cX5_memory 24 = .ok (.bipush 8, 2) := by decide +kernel
theorem dX5_memory_26 : decode cX5_memory 26 = .ok (.imul, 1) := by decide +kernel
theorem dX5_memory_27 : decode cX5_memory 27 = .ok (.iload_n 2, 1) := by decide +kernel
theorem dX5_memory_28 : decode cX5_memory 28 = .ok (.iadd, 1) := by decide +kernel
theorem dX5_memory_29 : decode cX5_memory 29 = .ok (.iaload, 1) := by decide +kernel
theorem dX5_memory_30 : decode cX5_memory 30 = .ok (.invokevirtual 88, 3) := by decide +kernel
theorem dX5_memory_33 : decode cX5_memory 33 = .ok (.ireturn, 1) := by decide +kernel
theorem dX5_form_0 : decode cX5_form 0 = .ok (.aload_n 0, 1) := by decide +kernel
theorem dX5_form_1 : decode cX5_form 1 = .ok (.iload_n 1, 1) := by decide +kernel
theorem dX5_form_2 : decode cX5_form 2 = .ok (.invokevirtual 111, 3) := by decide +kernel
theorem dX5_form_5 : decode cX5_form 5 = .ok (.ifCond .ne 9, 3) := by decide +kernel
theorem dX5_form_8 : decode cX5_form 8 = .ok (.aload_n 0, 1) := by decide +kernel
theorem dX5_form_9 : decode cX5_form 9 = .ok (.iconst 1, 1) := by decide +kernel
theorem dX5_form_10 : decode cX5_form 10 = .ok (.invokevirtual 59, 3) := by decide +kernel
theorem dX5_form_13 : decode cX5_form 13 = .ok (.ireturn, 1) := by decide +kernel
theorem dX5_form_14 : decode cX5_form 14 = .ok (.aload_n 0, 1) := by decide +kernel
theorem dX5_form_15 : decode cX5_form 15 = .ok (.aload_n 0, 1) := by decide +kernel
theorem dX5_form_16 : decode cX5_form 16 = .ok (.getfield 33, 3) := by decide +kernel
theorem dX5_form_19 : decode cX5_form 19 = .ok (.getfield 104, 3) := by decide +kernel
theorem dX5_form_22 : decode cX5_form 22 = .ok (.iload_n 1, 1) := by decide +kernel
theorem dX5_form_23 : decode cX5_form 23 = .ok (.invokestatic 115, 3) := by decide +kernel
theorem dX5_form_26 : decode cX5_form 26 = .ok (.invokevirtual 88, 3) := by decide +kernel
theorem dX5_form_29 : decode cX5_form 29 = .ok (.ireturn, 1) := by decide +kernel
theorem dX5_bytes_0 : decode cX5_bytes 0 = .ok (.aload_n 0, 1) := by decide +kernel
theorem dX5_bytes_1 : decode cX5_bytes 1 = .ok (.iload_n 1, 1) := by decide +kernel
theorem dX5_bytes_2 : decode cX5_bytes 2 = .ok (.invokevirtual 111, 3) := by decide +kernel
theorem dX5_bytes_5 : decode cX5_bytes 5 = .ok (.ifCond .ne 9, 3) := by decide +kernel
theorem dX5_bytes_8 : decode cX5_bytes 8 = .ok (.aload_n 0, 1) := by decide +kernel
theorem dX5_bytes_9 : decode cX5_bytes 9 = .ok (.iconst 1, 1) := by decide +kernel
theorem dX5_bytes_10 : decode cX5_bytes 10 = .ok (.invokevirtual 59, 3) := by decide +kernel
theorem dX5_bytes_13 : decode cX5_bytes 13 = .ok (.ireturn, 1) := by decide +kernel
theorem dX5_bytes_14 : decode cX5_bytes 14 = .ok (.iload_n 2, 1) := by decide +kernel
theorem dX5_bytes_15 : decode cX5_bytes 15 = .ok (.invokestatic 121, 3) := by decide +kernel
theorem dX5_bytes_18 : decode cX5_bytes 18 = .ok (.ifCond .ne 9, 3) := by decide +kernel
theorem dX5_bytes_21 : decode cX5_bytes 21 = .ok (.aload_n 0, 1) := by decide +kernel
theorem dX5_bytes_22 : decode cX5_bytes 22 = .ok (.iconst 2, 1) := by decide +kernel
theorem dX5_bytes_23 : decode cX5_bytes 23 = .ok (.invokevirtual 59, 3) := by decide +kernel
theorem dX5_bytes_26 : decode cX5_bytes 26 = .ok (.ireturn, 1) := by decide +kernel
theorem dX5_bytes_27 : decode cX5_bytes 27 = .ok (.aload_n 0, 1) := by decide +kernel
theorem dX5_bytes_28 : decode cX5_bytes 28 = .ok (.aload_n 0, 1) := by decide +kernel
theorem dX5_bytes_29 : decode cX5_bytes 29 = .ok (.getfield 33, 3) := by decide +kernel
theorem dX5_bytes_32 : decode cX5_bytes 32 = .ok (.getfield 104, 3) := by decide +kernel
theorem dX5_bytes_35 : decode cX5_bytes 35 = .ok (.iload_n 1, 1) := by decide +kernel
theorem dX5_bytes_36 : decode cX5_bytes 36 = .ok (.iload_n 2, 1) := by decide +kernel
theorem dX5_bytes_37 : decode cX5_bytes 37 = .ok (.invokestatic 124, 3) := by decide +kernel
theorem dX5_bytes_40 : decode cX5_bytes 40 = .ok (.ifCond .eq 11, 3) := by decide +kernel
theorem dX5_bytes_43 : decode cX5_bytes 43 = .ok (.getstatic 128, 3) := by decide +kernel
theorem dX5_bytes_46 : decode cX5_bytes 46 = .ok (.iload_n 2, 1) := by decide +kernel
theorem dX5_bytes_47 : decode cX5_bytes 47 = .ok (.iaload, 1) := by decide +kernel
theorem dX5_bytes_48 : decode cX5_bytes 48 = .ok (.goto 5, 3) := by decide +kernel
theorem dX5_bytes_51 : decode cX5_bytes 51 = .ok (.bipush (-2), 2) := by decide +kernel
theorem dX5_bytes_53 : decode cX5_bytes 53 = .ok (.invokevirtual 88, 3) := by decide +kernel
theorem dX5_bytes_56 : decode cX5_bytes 56 = .ok (.ireturn, 1) := by decide +kernel
theorem dX5_forms_0 : decode cX5_forms 0 = .ok (.aload_n 0, 1) := by decide +kernel
theorem dX5_forms_1 : decode cX5_forms 1 = .ok (.iload_n 1, 1) := by decide +kernel
theorem dX5_forms_2 : decode cX5_forms 2 = .ok (.invokevirtual 111, 3) := by decide +kernel
theorem dX5_forms_5 : decode cX5_forms 5 = .ok (.ifCond .ne 9, 3) := by decide +kernel
theorem dX5_forms_8 : decode cX5_forms 8 = .ok (.aload_n 0, 1) := by decide +kernel
theorem dX5_forms_9 : decode cX5_forms 9 = .ok (.iconst 1, 1) := by decide +kernel
theorem dX5_forms_10 : decode cX5_forms 10 = .ok (.invokevirtual 59, 3) := by decide +kernel
theorem dX5_forms_13 : decode cX5_forms 13 = .ok (.ireturn, 1) := by decide +kernel
theorem dX5_forms_14 : decode cX5_forms 14 = .ok (.iconst 0, 1) := by decide +kernel
theorem dX5_forms_15 : decode cX5_forms 15 = .ok (.istore_n 2, 1) := by decide +kernel
theorem dX5_forms_16 : decode cX5_forms 16 = .ok (.iconst 0, 1) := by decide +kernel
theorem dX5_forms_17 : decode cX5_forms 17 = .ok (.istore_n 3, 1) := by decide +kernel
theorem dX5_forms_18 : decode cX5_forms 18 = .ok (.iload_n 3, 1) := by decide +kernel
theorem dX5_forms_19 : decode cX5_forms 19 = .ok (.bipush 7, 2) := by decide +kernel
theorem dX5_forms_21 : decode cX5_forms 21 = .ok (.if_icmp .gt 27, 3) := by decide +kernel
theorem dX5_forms_24 : decode cX5_forms 24 = .ok (.aload_n 0, 1) := by decide +kernel
theorem dX5_forms_25 : decode cX5_forms 25 = .ok (.getfield 33, 3) := by decide +kernel
theorem dX5_forms_28 : decode cX5_forms 28 = .ok (.getfield 104, 3) := by decide +kernel
theorem dX5_forms_31 : decode cX5_forms 31 = .ok (.iload_n 1, 1) := by decide +kernel
theorem dX5_forms_32 : decode cX5_forms 32 = .ok (.iload_n 3, 1) := by decide +kernel
theorem dX5_forms_33 : decode cX5_forms 33 = .ok (.invokestatic 124, 3) := by decide +kernel
theorem dX5_forms_36 : decode cX5_forms 36 = .ok (.ifCond .eq 6, 3) := by decide +kernel
theorem dX5_forms_39 : decode cX5_forms 39 = .ok (.iinc 2 1, 3) := by decide +kernel
theorem dX5_forms_42 : decode cX5_forms 42 = .ok (.iinc 3 1, 3) := by decide +kernel
theorem dX5_forms_45 : decode cX5_forms 45 = .ok (.goto (-27), 3) := by decide +kernel
theorem dX5_forms_48 : decode cX5_forms 48 = .ok (.aload_n 0, 1) := by decide +kernel
theorem dX5_forms_49 : decode cX5_forms 49 = .ok (.iload_n 2, 1) := by decide +kernel
theorem dX5_forms_50 : decode cX5_forms 50 = .ok (.invokevirtual 88, 3) := by decide +kernel
theorem dX5_forms_53 : decode cX5_forms 53 = .ok (.ireturn, 1) := by decide +kernel
theorem dX5_segments_0 : decode cX5_segments 0 = .ok (.aload_n 0, 1) := by decide +kernel
theorem dX5_segments_1 : decode cX5_segments 1 = .ok (.iload_n 1, 1) := by decide +kernel
theorem dX5_segments_2 : decode cX5_segments 2 = .ok (.invokevirtual 111, 3) := by decide +kernel
theorem dX5_segments_5 : decode cX5_segments 5 = .ok (.ifCond .ne 9, 3) := by decide +kernel
theorem dX5_segments_8 : decode cX5_segments 8 = .ok (.aload_n 0, 1) := by decide +kernel
theorem dX5_segments_9 : decode cX5_segments 9 = .ok (.iconst 1, 1) := by decide +kernel
theorem dX5_segments_10 : decode cX5_segments 10 = .ok (.invokevirtual 59, 3) := by decide +kernel
theorem dX5_segments_13 : decode cX5_segments 13 = .ok (.ireturn, 1) := by decide +kernel
theorem dX5_segments_14 : decode cX5_segments 14 = .ok (.aload_n 0, 1) := by decide +kernel
theorem dX5_segments_15 : decode cX5_segments 15 = .ok (.getstatic 131, 3) := by decide +kernel
theorem dX5_segments_18 : decode cX5_segments 18 = .ok (.aload_n 0, 1) := by decide +kernel
theorem dX5_segments_19 : decode cX5_segments 19 = .ok (.getfield 33, 3) := by decide +kernel
theorem dX5_segments_22 : decode cX5_segments 22 = .ok (.getfield 104, 3) := by decide +kernel
theorem dX5_segments_25 : decode cX5_segments 25 = .ok (.iload_n 1, 1) := by decide +kernel
theorem dX5_segments_26 : decode cX5_segments 26 = .ok (.invokestatic 115, 3) := by decide +kernel
theorem dX5_segments_29 : decode cX5_segments 29 = .ok (.iaload, 1) := by decide +kernel
theorem dX5_segments_30 : decode cX5_segments 30 = .ok (.invokevirtual 88, 3) := by decide +kernel
theorem dX5_segments_33 : decode cX5_segments 33 = .ok (.ireturn, 1) := by decide +kernel
theorem dX5_base_0 : decode cX5_base 0 = .ok (.aload_n 0, 1) := by decide +kernel
theorem dX5_base_1 : decode cX5_base 1 = .ok (.iload_n 1, 1) := by decide +kernel
theorem dX5_base_2 : decode cX5_base 2 = .ok (.invokevirtual 111, 3) := by decide +kernel
theorem dX5_base_5 : decode cX5_base 5 = .ok (.ifCond .ne 10, 3) := by decide +kernel
theorem dX5_base_8 : decode cX5_base 8 = .ok (.aload_n 0, 1) := by decide +kernel
theorem dX5_base_9 : decode cX5_base 9 = .ok (.iconst 1, 1) := by decide +kernel
theorem dX5_base_10 : decode cX5_base 10 = .ok (.invokevirtual 59, 3) := by decide +kernel
theorem dX5_base_13 : decode cX5_base 13 = .ok (.i2l, 1) := by decide +kernel
theorem dX5_base_14 : decode cX5_base 14 = .ok (.lreturn, 1) := by decide +kernel
theorem dX5_base_15 : decode cX5_base 15 = .ok (.iload_n 2, 1) := by decide +kernel
theorem dX5_base_16 : decode cX5_base 16 = .ok (.invokestatic 134, 3) := by decide +kernel
theorem dX5_base_19 : decode cX5_base 19 = .ok (.ifCond .ne 10, 3) := by decide +kernel
theorem dX5_base_22 : decode cX5_base 22 = .ok (.aload_n 0, 1) := by decide +kernel
theorem dX5_base_23 : decode cX5_base 23 = .ok (.iconst 2, 1) := by decide +kernel
theorem dX5_base_24 : decode cX5_base 24 = .ok (.invokevirtual 59, 3) := by decide +kernel
theorem dX5_base_27 : decode cX5_base 27 = .ok (.i2l, 1) := by decide +kernel
theorem dX5_base_28 : decode cX5_base 28 = .ok (.lreturn, 1) := by decide +kernel
theorem dX5_base_29 : decode cX5_base 29 = .ok (.aload_n 0, 1) := by decide +kernel
theorem dX5_base_30 : decode cX5_base 30 = .ok (.iconst 0, 1) := by decide +kernel
theorem dX5_base_31 : decode cX5_base 31 = .ok (.putfield 94, 3) := by decide +kernel
theorem dX5_base_34 : decode cX5_base 34 = .ok (.aload_n 0, 1) := by decide +kernel
theorem dX5_base_35 : decode cX5_base 35 = .ok (.getfield 33, 3) := by decide +kernel
theorem dX5_base_38 : decode cX5_base 38 = .ok (.getfield 104, 3) := by decide +kernel
theorem dX5_base_41 : decode cX5_base 41 = .ok (.iload_n 1, 1) := by decide +kernel
theorem dX5_base_42 : decode cX5_base 42 = .ok (.iload_n 2, 1) := by decide +kernel
theorem dX5_base_43 : decode cX5_base 43 = .ok (.invokestatic 137, 3) := by decide +kernel
theorem dX5_base_46 : decode cX5_base 46 = .ok (.lreturn, 1) := by decide +kernel
theorem dX5_mask_0 : decode cX5_mask 0 = .ok (.aload_n 0, 1) := by decide +kernel
theorem dX5_mask_1 : decode cX5_mask 1 = .ok (.iload_n 1, 1) := by decide +kernel
theorem dX5_mask_2 : decode cX5_mask 2 = .ok (.invokevirtual 111, 3) := by decide +kernel
theorem dX5_mask_5 : decode cX5_mask 5 = .ok (.ifCond .ne 9, 3) := by decide +kernel
theorem dX5_mask_8 : decode cX5_mask 8 = .ok (.aload_n 0, 1) := by decide +kernel
theorem dX5_mask_9 : decode cX5_mask 9 = .ok (.iconst 1, 1) := by decide +kernel
theorem dX5_mask_10 : decode cX5_mask 10 = .ok (.invokevirtual 59, 3) := by decide +kernel
theorem dX5_mask_13 : decode cX5_mask 13 = .ok (.ireturn, 1) := by decide +kernel
theorem dX5_mask_14 : decode cX5_mask 14 = .ok (.iload_n 2, 1) := by decide +kernel
theorem dX5_mask_15 : decode cX5_mask 15 = .ok (.invokestatic 134, 3) := by decide +kernel
theorem dX5_mask_18 : decode cX5_mask 18 = .ok (.ifCond .ne 9, 3) := by decide +kernel
theorem dX5_mask_21 : decode cX5_mask 21 = .ok (.aload_n 0, 1) := by decide +kernel
theorem dX5_mask_22 : decode cX5_mask 22 = .ok (.iconst 2, 1) := by decide +kernel
theorem dX5_mask_23 : decode cX5_mask 23 = .ok (.invokevirtual 59, 3) := by decide +kernel
theorem dX5_mask_26 : decode cX5_mask 26 = .ok (.ireturn, 1) := by decide +kernel
theorem dX5_mask_27 : decode cX5_mask 27 = .ok (.iconst 0, 1) := by decide +kernel
theorem dX5_mask_28 : decode cX5_mask 28 = .ok (.istore_n 3, 1) := by decide +kernel
theorem dX5_mask_29 : decode cX5_mask 29 = .ok (.iconst 0, 1) := by decide +kernel
theorem dX5_mask_30 : decode cX5_mask 30 = .ok (.istore 4, 2) := by decide +kernel
theorem dX5_mask_32 : decode cX5_mask 32 = .ok (.iload 4, 2) := by decide +kernel
theorem dX5_mask_34 : decode cX5_mask 34 = .ok (.iload_n 2, 1) := by decide +kernel
theorem dX5_mask_35 : decode cX5_mask 35 = .ok (.invokestatic 141, 3) := by decide +kernel
theorem dX5_mask_38 : decode cX5_mask 38 = .ok (.if_icmp .ge 37, 3) := by decide +kernel
theorem dX5_mask_41 : decode cX5_mask 41 = .ok (.aload_n 0, 1) := by decide +kernel
theorem dX5_mask_42 : decode cX5_mask 42 = .ok (.getfield 33, 3) := by decide +kernel
theorem dX5_mask_45 : decode cX5_mask 45 = .ok (.getfield 104, 3) := by decide +kernel
theorem dX5_mask_48 : decode cX5_mask 48 = .ok (.iload_n 1, 1) := by decide +kernel
theorem dX5_mask_49 : decode cX5_mask 49 = .ok (.iload_n 2, 1) := by decide +kernel
theorem dX5_mask_50 : decode cX5_mask 50 = .ok (.iload 4, 2) := by decide +kernel
theorem dX5_mask_52 : decode cX5_mask 52 = .ok (.invokestatic 144, 3) := by decide +kernel
theorem dX5_mask_55 : decode cX5_mask 55 = .ok (.iload_n 2, 1) := by decide +kernel
theorem dX5_mask_56 : decode cX5_mask 56 = .ok (.invokestatic 148, 3) := by decide +kernel
theorem dX5_mask_59 : decode cX5_mask 59 = .ok (.ifCond .eq 10, 3) := by decide +kernel
theorem dX5_mask_62 : decode cX5_mask 62 = .ok (.iload_n 3, 1) := by decide +kernel
theorem dX5_mask_63 : decode cX5_mask 63 = .ok (.iconst 1, 1) := by decide +kernel
theorem dX5_mask_64 : decode cX5_mask 64 = .ok (.iload 4, 2) := by decide +kernel
theorem dX5_mask_66 : decode cX5_mask 66 = .ok (.ishl, 1) := by decide +kernel
theorem dX5_mask_67 : decode cX5_mask 67 = .ok (.ior, 1) := by decide +kernel
theorem dX5_mask_68 : decode cX5_mask 68 = .ok (.istore_n 3, 1) := by decide +kernel
theorem dX5_mask_69 : decode cX5_mask 69 = .ok (.iinc 4 1, 3) := by decide +kernel
theorem dX5_mask_72 : decode cX5_mask 72 = .ok (.goto (-40), 3) := by decide +kernel
theorem dX5_mask_75 : decode cX5_mask 75 = .ok (.aload_n 0, 1) := by decide +kernel
theorem dX5_mask_76 : decode cX5_mask 76 = .ok (.iload_n 3, 1) := by decide +kernel
theorem dX5_mask_77 : decode cX5_mask 77 = .ok (.invokevirtual 88, 3) := by decide +kernel
theorem dX5_mask_80 : decode cX5_mask 80 = .ok (.ireturn, 1) := by decide +kernel
theorem dX5_difference_0 : decode cX5_difference 0 = .ok (.aload_n 0, 1) := by decide +kernel
theorem dX5_difference_1 : decode cX5_difference 1 = .ok (.iload_n 1, 1) := by decide +kernel
theorem dX5_difference_2 : decode cX5_difference 2 = .ok (.invokevirtual 111, 3) := by decide +kernel
theorem dX5_difference_5 : decode cX5_difference 5 = .ok (.ifCond .ne 10, 3) := by decide +kernel
theorem dX5_difference_8 : decode cX5_difference 8 = .ok (.aload_n 0, 1) := by decide +kernel
theorem dX5_difference_9 : decode cX5_difference 9 = .ok (.iconst 1, 1) := by decide +kernel
theorem dX5_difference_10 : decode cX5_difference 10 = .ok (.invokevirtual 59, 3) := by decide +kernel
theorem dX5_difference_13 : decode cX5_difference 13 = .ok (.i2l, 1) := by decide +kernel
theorem dX5_difference_14 : decode cX5_difference 14 = .ok (.lreturn, 1) := by decide +kernel
theorem dX5_difference_15 : decode cX5_difference 15 = .ok (.iload_n 2, 1) := by decide +kernel
theorem dX5_difference_16 : decode cX5_difference 16 = .ok (.invokestatic 134, 3) := by decide +kernel
theorem dX5_difference_19 : decode cX5_difference 19 = .ok (.ifCond .ne 10, 3) := by decide +kernel
theorem dX5_difference_22 : decode cX5_difference 22 = .ok (.aload_n 0, 1) := by decide +kernel
theorem dX5_difference_23 : decode cX5_difference 23 = .ok (.iconst 2, 1) := by decide +kernel
theorem dX5_difference_24 : decode cX5_difference 24 = .ok (.invokevirtual 59, 3) := by decide +kernel
theorem dX5_difference_27 : decode cX5_difference 27 = .ok (.i2l, 1) := by decide +kernel
theorem dX5_difference_28 : decode cX5_difference 28 = .ok (.lreturn, 1) := by decide +kernel
theorem dX5_difference_29 : decode cX5_difference 29 = .ok (.iload_n 3, 1) := by decide +kernel
theorem dX5_difference_30 : decode cX5_difference 30 = .ok (.ifCond .lt 11, 3) := by decide +kernel
theorem dX5_difference_33 : decode cX5_difference 33 = .ok (.iload_n 3, 1) := by decide +kernel
theorem dX5_difference_34 : decode cX5_difference 34 = .ok (.iload_n 2, 1) := by decide +kernel
theorem dX5_difference_35 : decode cX5_difference 35 = .ok (.invokestatic 141, 3) := by decide +kernel
theorem dX5_difference_38 : decode cX5_difference 38 = .ok (.if_icmp .lt 10, 3) := by decide +kernel
theorem dX5_difference_41 : decode cX5_difference 41 = .ok (.aload_n 0, 1) := by decide +kernel
theorem dX5_difference_42 : decode cX5_difference 42 = .ok (.iconst 1, 1) := by decide +kernel
theorem dX5_difference_43 : decode cX5_difference 43 = .ok (.invokevirtual 59, 3) := by decide +kernel
theorem dX5_difference_46 : decode cX5_difference 46 = .ok (.i2l, 1) := by decide +kernel
theorem dX5_difference_47 : decode cX5_difference 47 = .ok (.lreturn, 1) := by decide +kernel
theorem dX5_difference_48 : decode cX5_difference 48 = .ok (.aload_n 0, 1) := by decide +kernel
theorem dX5_difference_49 : decode cX5_difference 49 = .ok (.iconst 0, 1) := by decide +kernel
theorem dX5_difference_50 : decode cX5_difference 50 = .ok (.putfield 94, 3) := by decide +kernel
theorem dX5_difference_53 : decode cX5_difference 53 = .ok (.aload_n 0, 1) := by decide +kernel
theorem dX5_difference_54 : decode cX5_difference 54 = .ok (.getfield 33, 3) := by decide +kernel
theorem dX5_difference_57 : decode cX5_difference 57 = .ok (.getfield 104, 3) := by decide +kernel
theorem dX5_difference_60 : decode cX5_difference 60 = .ok (.iload_n 1, 1) := by decide +kernel
theorem dX5_difference_61 : decode cX5_difference 61 = .ok (.iload_n 2, 1) := by decide +kernel
theorem dX5_difference_62 : decode cX5_difference 62 = .ok (.iload_n 3, 1) := by decide +kernel
theorem dX5_difference_63 : decode cX5_difference 63 = .ok (.invokestatic 144, 3) := by decide +kernel
theorem dX5_difference_66 : decode cX5_difference 66 = .ok (.lstore 4, 2) := by decide +kernel
theorem dX5_difference_68 : decode cX5_difference 68 = .ok (.lload 4, 2) := by decide +kernel
theorem dX5_difference_70 : decode cX5_difference 70 = .ok (.iload_n 2, 1) := by decide +kernel
theorem dX5_difference_71 : decode cX5_difference 71 = .ok (.invokestatic 148, 3) := by decide +kernel
theorem dX5_difference_74 : decode cX5_difference 74 = .ok (.ifCond .eq 8, 3) := by decide +kernel
theorem dX5_difference_77 : decode cX5_difference 77 = .ok (.lload 4, 2) := by decide +kernel
theorem dX5_difference_79 : decode cX5_difference 79 = .ok (.goto 18, 3) := by decide +kernel
theorem dX5_difference_82 : decode cX5_difference 82 = .ok (.lload 4, 2) := by decide +kernel
theorem dX5_difference_84 : decode cX5_difference 84 = .ok (.aload_n 0, 1) := by decide +kernel
theorem dX5_difference_85 : decode cX5_difference 85 = .ok (.getfield 33, 3) := by decide +kernel
theorem dX5_difference_88 : decode cX5_difference 88 = .ok (.getfield 104, 3) := by decide +kernel
theorem dX5_difference_91 : decode cX5_difference 91 = .ok (.iload_n 1, 1) := by decide +kernel
theorem dX5_difference_92 : decode cX5_difference 92 = .ok (.iload_n 2, 1) := by decide +kernel
theorem dX5_difference_93 : decode cX5_difference 93 = .ok (.invokestatic 137, 3) := by decide +kernel
theorem dX5_difference_96 : decode cX5_difference 96 = .ok (.lsub, 1) := by decide +kernel
theorem dX5_difference_97 : decode cX5_difference 97 = .ok (.lreturn, 1) := by decide +kernel
theorem dX5_linesOf_0 : decode cX5_linesOf 0 = .ok (.aload_n 0, 1) := by decide +kernel
theorem dX5_linesOf_1 : decode cX5_linesOf 1 = .ok (.getfield 67, 3) := by decide +kernel
theorem dX5_linesOf_4 : decode cX5_linesOf 4 = .ok (.ifCond .ne 9, 3) := by decide +kernel
theorem dX5_linesOf_7 : decode cX5_linesOf 7 = .ok (.aload_n 0, 1) := by decide +kernel
theorem dX5_linesOf_8 : decode cX5_linesOf 8 = .ok (.iconst 1, 1) := by decide +kernel
theorem dX5_linesOf_9 : decode cX5_linesOf 9 = .ok (.invokevirtual 59, 3) := by decide +kernel
theorem dX5_linesOf_12 : decode cX5_linesOf 12 = .ok (.ireturn, 1) := by decide +kernel
theorem dX5_linesOf_13 : decode cX5_linesOf 13 = .ok (.iload_n 1, 1) := by decide +kernel
theorem dX5_linesOf_14 : decode cX5_linesOf 14 = .ok (.invokestatic 121, 3) := by decide +kernel
theorem dX5_linesOf_17 : decode cX5_linesOf 17 = .ok (.ifCond .ne 9, 3) := by decide +kernel
theorem dX5_linesOf_20 : decode cX5_linesOf 20 = .ok (.aload_n 0, 1) := by decide +kernel
theorem dX5_linesOf_21 : decode cX5_linesOf 21 = .ok (.iconst 2, 1) := by decide +kernel
theorem dX5_linesOf_22 : decode cX5_linesOf 22 = .ok (.invokevirtual 59, 3) := by decide +kernel
theorem dX5_linesOf_25 : decode cX5_linesOf 25 = .ok (.ireturn, 1) := by decide +kernel
theorem dX5_linesOf_26 : decode cX5_linesOf 26 = .ok (.iconst 0, 1) := by decide +kernel
theorem dX5_linesOf_27 : decode cX5_linesOf 27 = .ok (.istore_n 2, 1) := by decide +kernel
theorem dX5_linesOf_28 : decode cX5_linesOf 28 = .ok (.iconst 0, 1) := by decide +kernel
theorem dX5_linesOf_29 : decode cX5_linesOf 29 = .ok (.istore_n 3, 1) := by decide +kernel
theorem dX5_linesOf_30 : decode cX5_linesOf 30 = .ok (.iload_n 3, 1) := by decide +kernel
theorem dX5_linesOf_31 : decode cX5_linesOf 31 = .ok (.bipush 32, 2) := by decide +kernel
theorem dX5_linesOf_33 : decode cX5_linesOf 33 = .ok (.if_icmp .ge 27, 3) := by decide +kernel
theorem dX5_linesOf_36 : decode cX5_linesOf 36 = .ok (.aload_n 0, 1) := by decide +kernel
theorem dX5_linesOf_37 : decode cX5_linesOf 37 = .ok (.getfield 33, 3) := by decide +kernel
theorem dX5_linesOf_40 : decode cX5_linesOf 40 = .ok (.getfield 104, 3) := by decide +kernel
theorem dX5_linesOf_43 : decode cX5_linesOf 43 = .ok (.iload_n 3, 1) := by decide +kernel
theorem dX5_linesOf_44 : decode cX5_linesOf 44 = .ok (.invokestatic 115, 3) := by decide +kernel
theorem dX5_linesOf_47 : decode cX5_linesOf 47 = .ok (.iload_n 1, 1) := by decide +kernel
theorem dX5_linesOf_48 : decode cX5_linesOf 48 = .ok (.if_icmp .ne 6, 3) := by decide +kernel
theorem dX5_linesOf_51 : decode cX5_linesOf 51 = .ok (.iinc 2 1, 3) := by decide +kernel
theorem dX5_linesOf_54 : decode cX5_linesOf 54 = .ok (.iinc 3 1, 3) := by decide +kernel
theorem dX5_linesOf_57 : decode cX5_linesOf 57 = .ok (.goto (-27), 3) := by decide +kernel
theorem dX5_linesOf_60 : decode cX5_linesOf 60 = .ok (.aload_n 0, 1) := by decide +kernel
theorem dX5_linesOf_61 : decode cX5_linesOf 61 = .ok (.iload_n 2, 1) := by decide +kernel
theorem dX5_linesOf_62 : decode cX5_linesOf 62 = .ok (.invokevirtual 88, 3) := by decide +kernel
theorem dX5_linesOf_65 : decode cX5_linesOf 65 = .ok (.ireturn, 1) := by decide +kernel
theorem dX5_set_0 : decode cX5_set 0 = .ok (.aload_n 0, 1) := by decide +kernel
theorem dX5_set_1 : decode cX5_set 1 = .ok (.iload_n 1, 1) := by decide +kernel
theorem dX5_set_2 : decode cX5_set 2 = .ok (.invokevirtual 152, 3) := by decide +kernel
theorem dX5_set_5 : decode cX5_set 5 = .ok (.ifCond .ne 9, 3) := by decide +kernel
theorem dX5_set_8 : decode cX5_set 8 = .ok (.aload_n 0, 1) := by decide +kernel
theorem dX5_set_9 : decode cX5_set 9 = .ok (.iconst 1, 1) := by decide +kernel
theorem dX5_set_10 : decode cX5_set 10 = .ok (.invokevirtual 59, 3) := by decide +kernel
theorem dX5_set_13 : decode cX5_set 13 = .ok (.ireturn, 1) := by decide +kernel
theorem dX5_set_14 : decode cX5_set 14 = .ok (.iload_n 2, 1) := by decide +kernel
theorem dX5_set_15 : decode cX5_set 15 = .ok (.tableswitch 92 0 3 #[29, 43, 57, 70], 29) := by decide +kernel
theorem dX5_set_44 : decode cX5_set 44 = .ok (.aload_n 0, 1) := by decide +kernel
theorem dX5_set_45 : decode cX5_set 45 = .ok (.aload_n 0, 1) := by decide +kernel
theorem dX5_set_46 : decode cX5_set 46 = .ok (.getfield 33, 3) := by decide +kernel
theorem dX5_set_49 : decode cX5_set 49 = .ok (.iload_n 1, 1) := by decide +kernel
theorem dX5_set_50 : decode cX5_set 50 = .ok (.iconst (-1), 1) := by decide +kernel
theorem dX5_set_51 : decode cX5_set 51 = .ok (.invokevirtual 155, 3) := by decide +kernel
theorem dX5_set_54 : decode cX5_set 54 = .ok (.invokevirtual 88, 3) := by decide +kernel
theorem dX5_set_57 : decode cX5_set 57 = .ok (.ireturn, 1) := by decide +kernel
theorem dX5_set_58 : decode cX5_set 58 = .ok (.aload_n 0, 1) := by decide +kernel
theorem dX5_set_59 : decode cX5_set 59 = .ok (.aload_n 0, 1) := by decide +kernel
theorem dX5_set_60 : decode cX5_set 60 = .ok (.getfield 33, 3) := by decide +kernel
theorem dX5_set_63 : decode cX5_set 63 = .ok (.iload_n 1, 1) := by decide +kernel
theorem dX5_set_64 : decode cX5_set 64 = .ok (.iconst (-1), 1) := by decide +kernel
theorem dX5_set_65 : decode cX5_set 65 = .ok (.invokevirtual 159, 3) := by decide +kernel
theorem dX5_set_68 : decode cX5_set 68 = .ok (.invokevirtual 88, 3) := by decide +kernel
theorem dX5_set_71 : decode cX5_set 71 = .ok (.ireturn, 1) := by decide +kernel
theorem dX5_set_72 : decode cX5_set 72 = .ok (.aload_n 0, 1) := by decide +kernel
theorem dX5_set_73 : decode cX5_set 73 = .ok (.aload_n 0, 1) := by decide +kernel
theorem dX5_set_74 : decode cX5_set 74 = .ok (.getfield 33, 3) := by decide +kernel
theorem dX5_set_77 : decode cX5_set 77 = .ok (.iload_n 1, 1) := by decide +kernel
theorem dX5_set_78 : decode cX5_set 78 = .ok (.invokevirtual 162, 3) := by decide +kernel
theorem dX5_set_81 : decode cX5_set 81 = .ok (.invokevirtual 88, 3) := by decide +kernel
theorem dX5_set_84 : decode cX5_set 84 = .ok (.ireturn, 1) := by decide +kernel
theorem dX5_set_85 : decode cX5_set 85 = .ok (.aload_n 0, 1) := by decide +kernel
theorem dX5_set_86 : decode cX5_set 86 = .ok (.aload_n 0, 1) := by decide +kernel
theorem dX5_set_87 : decode cX5_set 87 = .ok (.getfield 33, 3) := by decide +kernel
theorem dX5_set_90 : decode cX5_set 90 = .ok (.invokevirtual 165, 3) := by decide +kernel
theorem dX5_set_93 : decode cX5_set 93 = .ok (.aload_n 0, 1) := by decide +kernel
theorem dX5_set_94 : decode cX5_set 94 = .ok (.getfield 33, 3) := by decide +kernel
theorem dX5_set_97 : decode cX5_set 97 = .ok (.iload_n 1, 1) := by decide +kernel
theorem dX5_set_98 : decode cX5_set 98 = .ok (.iconst (-1), 1) := by decide +kernel
theorem dX5_set_99 : decode cX5_set 99 = .ok (.invokevirtual 159, 3) := by decide +kernel
theorem dX5_set_102 : decode cX5_set 102 = .ok (.isub, 1) := by decide +kernel
theorem dX5_set_103 : decode cX5_set 103 = .ok (.invokevirtual 88, 3) := by decide +kernel
theorem dX5_set_106 : decode cX5_set 106 = .ok (.ireturn, 1) := by decide +kernel
theorem dX5_set_107 : decode cX5_set 107 = .ok (.aload_n 0, 1) := by decide +kernel
theorem dX5_set_108 : decode cX5_set 108 = .ok (.iconst 1, 1) := by decide +kernel
theorem dX5_set_109 : decode cX5_set 109 = .ok (.invokevirtual 59, 3) := by decide +kernel
theorem dX5_set_112 : decode cX5_set 112 = .ok (.ireturn, 1) := by decide +kernel
theorem dX5_tag_0 : decode cX5_tag 0 = .ok (.aload_n 0, 1) := by decide +kernel
theorem dX5_tag_1 : decode cX5_tag 1 = .ok (.iload_n 1, 1) := by decide +kernel
theorem dX5_tag_2 : decode cX5_tag 2 = .ok (.invokevirtual 152, 3) := by decide +kernel
theorem dX5_tag_5 : decode cX5_tag 5 = .ok (.ifCond .ne 9, 3) := by decide +kernel
theorem dX5_tag_8 : decode cX5_tag 8 = .ok (.aload_n 0, 1) := by decide +kernel
theorem dX5_tag_9 : decode cX5_tag 9 = .ok (.iconst 1, 1) := by decide +kernel
theorem dX5_tag_10 : decode cX5_tag 10 = .ok (.invokevirtual 59, 3) := by decide +kernel
theorem dX5_tag_13 : decode cX5_tag 13 = .ok (.ireturn, 1) := by decide +kernel
theorem dX5_tag_14 : decode cX5_tag 14 = .ok (.iconst 0, 1) := by decide +kernel
theorem dX5_tag_15 : decode cX5_tag 15 = .ok (.istore_n 3, 1) := by decide +kernel
theorem dX5_tag_16 : decode cX5_tag 16 = .ok (.iload_n 3, 1) := by decide +kernel
theorem dX5_tag_17 : decode cX5_tag 17 = .ok (.bipush 32, 2) := by decide +kernel
theorem dX5_tag_19 : decode cX5_tag 19 = .ok (.if_icmp .ge 51, 3) := by decide +kernel
theorem dX5_tag_22 : decode cX5_tag 22 = .ok (.aload_n 0, 1) := by decide +kernel
theorem dX5_tag_23 : decode cX5_tag 23 = .ok (.getfield 33, 3) := by decide +kernel
theorem dX5_tag_26 : decode cX5_tag 26 = .ok (.iload_n 3, 1) := by decide +kernel
theorem dX5_tag_27 : decode cX5_tag 27 = .ok (.invokevirtual 169, 3) := by decide +kernel
theorem dX5_tag_30 : decode cX5_tag 30 = .ok (.iload_n 1, 1) := by decide +kernel
theorem dX5_tag_31 : decode cX5_tag 31 = .ok (.if_icmp .ne 33, 3) := by decide +kernel
theorem dX5_tag_34 : decode cX5_tag 34 = .ok (.aload_n 0, 1) := by decide +kernel
theorem dX5_tag_35 : decode cX5_tag 35 = .ok (.getfield 33, 3) := by decide +kernel
theorem dX5_tag_38 : decode cX5_tag 38 = .ok (.getfield 172, 3) := by decide +kernel
theorem dX5_tag_41 : decode cX5_tag 41 = .ok (.iload_n 3, 1) := by decide +kernel
theorem dX5_tag_42 : decode cX5_tag 42 = .ok (.iaload, 1) := by decide +kernel
theorem dX5_tag_43 : decode cX5_tag 43 = .ok (.ifCond .le 21, 3) := by decide +kernel
theorem dX5_tag_46 : decode cX5_tag 46 = .ok (.aload_n 0, 1) := by decide +kernel
theorem dX5_tag_47 : decode cX5_tag 47 = .ok (.getfield 33, 3) := by decide +kernel
theorem dX5_tag_50 : decode cX5_tag 50 = .ok (.iload_n 3, 1) := by decide +kernel
theorem dX5_tag_51 : decode cX5_tag 51 = .ok (.invokevirtual 175, 3) := by decide +kernel
theorem dX5_tag_54 : decode cX5_tag 54 = .ok (.iload_n 2, 1) := by decide +kernel
theorem dX5_tag_55 : decode cX5_tag 55 = .ok (.if_icmp .ne 9, 3) := by decide +kernel
theorem dX5_tag_58 : decode cX5_tag 58 = .ok (.aload_n 0, 1) := by decide +kernel
theorem dX5_tag_59 : decode cX5_tag 59 = .ok (.iload_n 3, 1) := by decide +kernel
theorem dX5_tag_60 : decode cX5_tag 60 = .ok (.invokevirtual 88, 3) := by decide +kernel
theorem dX5_tag_63 : decode cX5_tag 63 = .ok (.ireturn, 1) := by decide +kernel
theorem dX5_tag_64 : decode cX5_tag 64 = .ok (.iinc 3 1, 3) := by decide +kernel
theorem dX5_tag_67 : decode cX5_tag 67 = .ok (.goto (-51), 3) := by decide +kernel
theorem dX5_tag_70 : decode cX5_tag 70 = .ok (.aload_n 0, 1) := by decide +kernel
theorem dX5_tag_71 : decode cX5_tag 71 = .ok (.iconst 1, 1) := by decide +kernel
theorem dX5_tag_72 : decode cX5_tag 72 = .ok (.invokevirtual 59, 3) := by decide +kernel
theorem dX5_tag_75 : decode cX5_tag 75 = .ok (.ireturn, 1) := by decide +kernel
theorem dX5_cached_0 : decode cX5_cached 0 = .ok (.aload_n 0, 1) := by decide +kernel
theorem dX5_cached_1 : decode cX5_cached 1 = .ok (.iload_n 1, 1) := by decide +kernel
theorem dX5_cached_2 : decode cX5_cached 2 = .ok (.invokevirtual 111, 3) := by decide +kernel
theorem dX5_cached_5 : decode cX5_cached 5 = .ok (.ifCond .eq 15, 3) := by decide +kernel
theorem dX5_cached_8 : decode cX5_cached 8 = .ok (.aload_n 0, 1) := by decide +kernel
theorem dX5_cached_9 : decode cX5_cached 9 = .ok (.getfield 33, 3) := by decide +kernel
theorem dX5_cached_12 : decode cX5_cached 12 = .ok (.getfield 172, 3) := by decide +kernel
theorem dX5_cached_15 : decode cX5_cached 15 = .ok (.iload_n 1, 1) := by decide +kernel
theorem dX5_cached_16 : decode cX5_cached 16 = .ok (.iaload, 1) := by decide +kernel
theorem dX5_cached_17 : decode cX5_cached 17 = .ok (.ifCond .ne 9, 3) := by decide +kernel
theorem dX5_cached_20 : decode cX5_cached 20 = .ok (.aload_n 0, 1) := by decide +kernel
theorem dX5_cached_21 : decode cX5_cached 21 = .ok (.iconst 1, 1) := by decide +kernel
theorem dX5_cached_22 : decode cX5_cached 22 = .ok (.invokevirtual 59, 3) := by decide +kernel
theorem dX5_cached_25 : decode cX5_cached 25 = .ok (.ireturn, 1) := by decide +kernel
theorem dX5_cached_26 : decode cX5_cached 26 = .ok (.iload_n 2, 1) := by decide +kernel
theorem dX5_cached_27 : decode cX5_cached 27 = .ok (.tableswitch 83 0 3 #[29, 42, 56, 70], 29) := by decide +kernel
theorem dX5_cached_56 : decode cX5_cached 56 = .ok (.aload_n 0, 1) := by decide +kernel
theorem dX5_cached_57 : decode cX5_cached 57 = .ok (.aload_n 0, 1) := by decide +kernel
theorem dX5_cached_58 : decode cX5_cached 58 = .ok (.getfield 33, 3) := by decide +kernel
theorem dX5_cached_61 : decode cX5_cached 61 = .ok (.iload_n 1, 1) := by decide +kernel
theorem dX5_cached_62 : decode cX5_cached 62 = .ok (.invokevirtual 169, 3) := by decide +kernel
theorem dX5_cached_65 : decode cX5_cached 65 = .ok (.invokevirtual 88, 3) := by decide +kernel
theorem dX5_cached_68 : decode cX5_cached 68 = .ok (.ireturn, 1) := by decide +kernel
theorem dX5_cached_69 : decode cX5_cached 69 = .ok (.aload_n 0, 1) := by decide +kernel
theorem dX5_cached_70 : decode cX5_cached 70 = .ok (.aload_n 0, 1) := by decide +kernel
theorem dX5_cached_71 : decode cX5_cached 71 = .ok (.getfield 33, 3) := by decide +kernel
theorem dX5_cached_74 : decode cX5_cached 74 = .ok (.getfield 172, 3) := by decide +kernel
theorem dX5_cached_77 : decode cX5_cached 77 = .ok (.iload_n 1, 1) := by decide +kernel
theorem dX5_cached_78 : decode cX5_cached 78 = .ok (.iaload, 1) := by decide +kernel
theorem dX5_cached_79 : decode cX5_cached 79 = .ok (.invokevirtual 88, 3) := by decide +kernel
theorem dX5_cached_82 : decode cX5_cached 82 = .ok (.ireturn, 1) := by decide +kernel
theorem dX5_cached_83 : decode cX5_cached 83 = .ok (.aload_n 0, 1) := by decide +kernel
theorem dX5_cached_84 : decode cX5_cached 84 = .ok (.aload_n 0, 1) := by decide +kernel
theorem dX5_cached_85 : decode cX5_cached 85 = .ok (.getfield 33, 3) := by decide +kernel
theorem dX5_cached_88 : decode cX5_cached 88 = .ok (.getfield 178, 3) := by decide +kernel
theorem dX5_cached_91 : decode cX5_cached 91 = .ok (.iload_n 1, 1) := by decide +kernel
theorem dX5_cached_92 : decode cX5_cached 92 = .ok (.iaload, 1) := by decide +kernel
theorem dX5_cached_93 : decode cX5_cached 93 = .ok (.invokevirtual 88, 3) := by decide +kernel
theorem dX5_cached_96 : decode cX5_cached 96 = .ok (.ireturn, 1) := by decide +kernel
theorem dX5_cached_97 : decode cX5_cached 97 = .ok (.aload_n 0, 1) := by decide +kernel
theorem dX5_cached_98 : decode cX5_cached 98 = .ok (.aload_n 0, 1) := by decide +kernel
theorem dX5_cached_99 : decode cX5_cached 99 = .ok (.getfield 33, 3) := by decide +kernel
theorem dX5_cached_102 : decode cX5_cached 102 = .ok (.iload_n 1, 1) := by decide +kernel
theorem dX5_cached_103 : decode cX5_cached 103 = .ok (.invokevirtual 175, 3) := by decide +kernel
theorem dX5_cached_106 : decode cX5_cached 106 = .ok (.invokevirtual 88, 3) := by decide +kernel
theorem dX5_cached_109 : decode cX5_cached 109 = .ok (.ireturn, 1) := by decide +kernel
theorem dX5_cached_110 : decode cX5_cached 110 = .ok (.aload_n 0, 1) := by decide +kernel
theorem dX5_cached_111 : decode cX5_cached 111 = .ok (.iconst 1, 1) := by decide +kernel
theorem dX5_cached_112 : decode cX5_cached 112 = .ok (.invokevirtual 59, 3) := by decide +kernel
theorem dX5_cached_115 : decode cX5_cached 115 = .ok (.ireturn, 1) := by decide +kernel
theorem dX5_isCached_0 : decode cX5_isCached 0 = .ok (.aload_n 0, 1) := by decide +kernel
theorem dX5_isCached_1 : decode cX5_isCached 1 = .ok (.iload_n 1, 1) := by decide +kernel
theorem dX5_isCached_2 : decode cX5_isCached 2 = .ok (.invokevirtual 111, 3) := by decide +kernel
theorem dX5_isCached_5 : decode cX5_isCached 5 = .ok (.ifCond .ne 9, 3) := by decide +kernel
theorem dX5_isCached_8 : decode cX5_isCached 8 = .ok (.aload_n 0, 1) := by decide +kernel
theorem dX5_isCached_9 : decode cX5_isCached 9 = .ok (.iconst 1, 1) := by decide +kernel
theorem dX5_isCached_10 : decode cX5_isCached 10 = .ok (.invokevirtual 59, 3) := by decide +kernel
theorem dX5_isCached_13 : decode cX5_isCached 13 = .ok (.ireturn, 1) := by decide +kernel
theorem dX5_isCached_14 : decode cX5_isCached 14 = .ok (.aload_n 0, 1) := by decide +kernel
theorem dX5_isCached_15 : decode cX5_isCached 15 = .ok (.aload_n 0, 1) := by decide +kernel
theorem dX5_isCached_16 : decode cX5_isCached 16 = .ok (.getfield 33, 3) := by decide +kernel
theorem dX5_isCached_19 : decode cX5_isCached 19 = .ok (.getfield 172, 3) := by decide +kernel
theorem dX5_isCached_22 : decode cX5_isCached 22 = .ok (.iload_n 1, 1) := by decide +kernel
theorem dX5_isCached_23 : decode cX5_isCached 23 = .ok (.iaload, 1) := by decide +kernel
theorem dX5_isCached_24 : decode cX5_isCached 24 = .ok (.ifCond .le 7, 3) := by decide +kernel
theorem dX5_isCached_27 : decode cX5_isCached 27 = .ok (.iconst 1, 1) := by decide +kernel
theorem dX5_isCached_28 : decode cX5_isCached 28 = .ok (.goto 4, 3) := by decide +kernel
theorem dX5_isCached_31 : decode cX5_isCached 31 = .ok (.iconst 0, 1) := by decide +kernel
theorem dX5_isCached_32 : decode cX5_isCached 32 = .ok (.invokevirtual 88, 3) := by decide +kernel
theorem dX5_isCached_35 : decode cX5_isCached 35 = .ok (.ireturn, 1) := by decide +kernel
theorem dX5_victim_0 : decode cX5_victim 0 = .ok (.aload_n 0, 1) := by decide +kernel
theorem dX5_victim_1 : decode cX5_victim 1 = .ok (.iload_n 1, 1) := by decide +kernel
theorem dX5_victim_2 : decode cX5_victim 2 = .ok (.invokevirtual 152, 3) := by decide +kernel
theorem dX5_victim_5 : decode cX5_victim 5 = .ok (.ifCond .ne 9, 3) := by decide +kernel
theorem dX5_victim_8 : decode cX5_victim 8 = .ok (.aload_n 0, 1) := by decide +kernel
theorem dX5_victim_9 : decode cX5_victim 9 = .ok (.iconst 1, 1) := by decide +kernel
theorem dX5_victim_10 : decode cX5_victim 10 = .ok (.invokevirtual 59, 3) := by decide +kernel
theorem dX5_victim_13 : decode cX5_victim 13 = .ok (.ireturn, 1) := by decide +kernel
theorem dX5_victim_14 : decode cX5_victim 14 = .ok (.aload_n 0, 1) := by decide +kernel
theorem dX5_victim_15 : decode cX5_victim 15 = .ok (.getfield 33, 3) := by decide +kernel
theorem dX5_victim_18 : decode cX5_victim 18 = .ok (.iload_n 1, 1) := by decide +kernel
theorem dX5_victim_19 : decode cX5_victim 19 = .ok (.iconst (-1), 1) := by decide +kernel
theorem dX5_victim_20 : decode cX5_victim 20 = .ok (.invokevirtual 181, 3) := by decide +kernel
theorem dX5_victim_23 : decode cX5_victim 23 = .ok (.istore_n 2, 1) := by decide +kernel
theorem dX5_victim_24 : decode cX5_victim 24 = .ok (.aload_n 0, 1) := by decide +kernel
theorem dX5_victim_25 : decode cX5_victim 25 = .ok (.iload_n 2, 1) := by decide +kernel
theorem dX5_victim_26 : decode cX5_victim 26 = .ok (.ifCond .ge 8, 3) := by decide +kernel
theorem dX5_victim_29 : decode cX5_victim 29 = .ok (.bipush (-2), 2) := by decide +kernel
theorem dX5_victim_31 : decode cX5_victim 31 = .ok (.goto 4, 3) := by decide +kernel
theorem dX5_victim_34 : decode cX5_victim 34 = .ok (.iload_n 2, 1) := by decide +kernel
theorem dX5_victim_35 : decode cX5_victim 35 = .ok (.invokevirtual 88, 3) := by decide +kernel
theorem dX5_victim_38 : decode cX5_victim 38 = .ok (.ireturn, 1) := by decide +kernel
theorem dX5_makesRoom_0 : decode cX5_makesRoom 0 = .ok (.aload_n 0, 1) := by decide +kernel
theorem dX5_makesRoom_1 : decode cX5_makesRoom 1 = .ok (.iload_n 1, 1) := by decide +kernel
theorem dX5_makesRoom_2 : decode cX5_makesRoom 2 = .ok (.invokevirtual 111, 3) := by decide +kernel
theorem dX5_makesRoom_5 : decode cX5_makesRoom 5 = .ok (.ifCond .ne 9, 3) := by decide +kernel
theorem dX5_makesRoom_8 : decode cX5_makesRoom 8 = .ok (.aload_n 0, 1) := by decide +kernel
theorem dX5_makesRoom_9 : decode cX5_makesRoom 9 = .ok (.iconst 1, 1) := by decide +kernel
theorem dX5_makesRoom_10 : decode cX5_makesRoom 10 = .ok (.invokevirtual 59, 3) := by decide +kernel
theorem dX5_makesRoom_13 : decode cX5_makesRoom 13 = .ok (.ireturn, 1) := by decide +kernel
theorem dX5_makesRoom_14 : decode cX5_makesRoom 14 = .ok (.aload_n 0, 1) := by decide +kernel
theorem dX5_makesRoom_15 : decode cX5_makesRoom 15 = .ok (.getfield 37, 3) := by decide +kernel
theorem dX5_makesRoom_18 : decode cX5_makesRoom 18 = .ok (.aload_n 0, 1) := by decide +kernel
theorem dX5_makesRoom_19 : decode cX5_makesRoom 19 = .ok (.getfield 33, 3) := by decide +kernel
theorem dX5_makesRoom_22 : decode cX5_makesRoom 22 = .ok (.invokevirtual 184, 3) := by decide +kernel
theorem dX5_makesRoom_25 : decode cX5_makesRoom 25 = .ok (.aload_n 0, 1) := by decide +kernel
theorem dX5_makesRoom_26 : decode cX5_makesRoom 26 = .ok (.getfield 37, 3) := by decide +kernel
theorem dX5_makesRoom_29 : decode cX5_makesRoom 29 = .ok (.iload_n 1, 1) := by decide +kernel
theorem dX5_makesRoom_30 : decode cX5_makesRoom 30 = .ok (.bipush 8, 2) := by decide +kernel
theorem dX5_makesRoom_32 : decode cX5_makesRoom 32 = .ok (.imul, 1) := by decide +kernel
theorem dX5_makesRoom_33 : decode cX5_makesRoom 33 = .ok (.iconst (-1), 1) := by decide +kernel
theorem dX5_makesRoom_34 : decode cX5_makesRoom 34 = .ok (.invokevirtual 187, 3) := by decide +kernel
theorem dX5_makesRoom_37 : decode cX5_makesRoom 37 = .ok (.pop, 1) := by decide +kernel
theorem dX5_makesRoom_38 : decode cX5_makesRoom 38 = .ok (.aload_n 0, 1) := by decide +kernel
theorem dX5_makesRoom_39 : decode cX5_makesRoom 39 = .ok (.aload_n 0, 1) := by decide +kernel
theorem dX5_makesRoom_40 : decode cX5_makesRoom 40 = .ok (.getfield 37, 3) := by decide +kernel
theorem dX5_makesRoom_43 : decode cX5_makesRoom 43 = .ok (.getfield 190, 3) := by decide +kernel
theorem dX5_makesRoom_46 : decode cX5_makesRoom 46 = .ok (.invokevirtual 88, 3) := by decide +kernel
theorem dX5_makesRoom_49 : decode cX5_makesRoom 49 = .ok (.ireturn, 1) := by decide +kernel
theorem dX5_growsOver_0 : decode cX5_growsOver 0 = .ok (.aload_n 0, 1) := by decide +kernel
theorem dX5_growsOver_1 : decode cX5_growsOver 1 = .ok (.iload_n 1, 1) := by decide +kernel
theorem dX5_growsOver_2 : decode cX5_growsOver 2 = .ok (.iload_n 2, 1) := by decide +kernel
theorem dX5_growsOver_3 : decode cX5_growsOver 3 = .ok (.invokevirtual 100, 3) := by decide +kernel
theorem dX5_growsOver_6 : decode cX5_growsOver 6 = .ok (.ifCond .ne 9, 3) := by decide +kernel
theorem dX5_growsOver_9 : decode cX5_growsOver 9 = .ok (.aload_n 0, 1) := by decide +kernel
theorem dX5_growsOver_10 : decode cX5_growsOver 10 = .ok (.iconst 1, 1) := by decide +kernel
theorem dX5_growsOver_11 : decode cX5_growsOver 11 = .ok (.invokevirtual 59, 3) := by decide +kernel
theorem dX5_growsOver_14 : decode cX5_growsOver 14 = .ok (.ireturn, 1) := by decide +kernel
theorem dX5_growsOver_15 : decode cX5_growsOver 15 = .ok (.iload_n 3, 1) := by decide +kernel
theorem dX5_growsOver_16 : decode cX5_growsOver 16 = .ok (.invokestatic 193, 3) := by decide +kernel
theorem dX5_growsOver_19 : decode cX5_growsOver 19 = .ok (.ifCond .ne 9, 3) := by decide +kernel
theorem dX5_growsOver_22 : decode cX5_growsOver 22 = .ok (.aload_n 0, 1) := by decide +kernel
theorem dX5_growsOver_23 : decode cX5_growsOver 23 = .ok (.iconst 2, 1) := by decide +kernel
theorem dX5_growsOver_24 : decode cX5_growsOver 24 = .ok (.invokevirtual 59, 3) := by decide +kernel
theorem dX5_growsOver_27 : decode cX5_growsOver 27 = .ok (.ireturn, 1) := by decide +kernel
theorem dX5_growsOver_28 : decode cX5_growsOver 28 = .ok (.aload_n 0, 1) := by decide +kernel
theorem dX5_growsOver_29 : decode cX5_growsOver 29 = .ok (.getfield 37, 3) := by decide +kernel
theorem dX5_growsOver_32 : decode cX5_growsOver 32 = .ok (.aload_n 0, 1) := by decide +kernel
theorem dX5_growsOver_33 : decode cX5_growsOver 33 = .ok (.getfield 33, 3) := by decide +kernel
theorem dX5_growsOver_36 : decode cX5_growsOver 36 = .ok (.invokevirtual 184, 3) := by decide +kernel
theorem dX5_growsOver_39 : decode cX5_growsOver 39 = .ok (.aload_n 0, 1) := by decide +kernel
theorem dX5_growsOver_40 : decode cX5_growsOver 40 = .ok (.getfield 37, 3) := by decide +kernel
theorem dX5_growsOver_43 : decode cX5_growsOver 43 = .ok (.iload_n 1, 1) := by decide +kernel
theorem dX5_growsOver_44 : decode cX5_growsOver 44 = .ok (.bipush 8, 2) := by decide +kernel
theorem dX5_growsOver_46 : decode cX5_growsOver 46 = .ok (.imul, 1) := by decide +kernel
theorem dX5_growsOver_47 : decode cX5_growsOver 47 = .ok (.iload_n 2, 1) := by decide +kernel
theorem dX5_growsOver_48 : decode cX5_growsOver 48 = .ok (.iadd, 1) := by decide +kernel
theorem dX5_growsOver_49 : decode cX5_growsOver 49 = .ok (.iload_n 3, 1) := by decide +kernel
theorem dX5_growsOver_50 : decode cX5_growsOver 50 = .ok (.invokevirtual 187, 3) := by decide +kernel
theorem dX5_growsOver_53 : decode cX5_growsOver 53 = .ok (.pop, 1) := by decide +kernel
theorem dX5_growsOver_54 : decode cX5_growsOver 54 = .ok (.aload_n 0, 1) := by decide +kernel
theorem dX5_growsOver_55 : decode cX5_growsOver 55 = .ok (.aload_n 0, 1) := by decide +kernel
theorem dX5_growsOver_56 : decode cX5_growsOver 56 = .ok (.getfield 37, 3) := by decide +kernel
theorem dX5_growsOver_59 : decode cX5_growsOver 59 = .ok (.getfield 190, 3) := by decide +kernel
theorem dX5_growsOver_62 : decode cX5_growsOver 62 = .ok (.invokevirtual 88, 3) := by decide +kernel
theorem dX5_growsOver_65 : decode cX5_growsOver 65 = .ok (.ireturn, 1) := by decide +kernel
theorem dX5_ratio_0 : decode cX5_ratio 0 = .ok (.aload_n 0, 1) := by decide +kernel
theorem dX5_ratio_1 : decode cX5_ratio 1 = .ok (.getfield 67, 3) := by decide +kernel
theorem dX5_ratio_4 : decode cX5_ratio 4 = .ok (.ifCond .ne 10, 3) := by decide +kernel
theorem dX5_ratio_7 : decode cX5_ratio 7 = .ok (.aload_n 0, 1) := by decide +kernel
theorem dX5_ratio_8 : decode cX5_ratio 8 = .ok (.iconst 1, 1) := by decide +kernel
theorem dX5_ratio_9 : decode cX5_ratio 9 = .ok (.invokevirtual 59, 3) := by decide +kernel
theorem dX5_ratio_12 : decode cX5_ratio 12 = .ok (.i2l, 1) := by decide +kernel
theorem dX5_ratio_13 : decode cX5_ratio 13 = .ok (.lreturn, 1) := by decide +kernel
theorem dX5_ratio_14 : decode cX5_ratio 14 = .ok (.iconst 0, 1) := by decide +kernel
theorem dX5_ratio_15 : decode cX5_ratio 15 = .ok (.istore_n 2, 1) := by decide +kernel
theorem dX5_ratio_16 : decode cX5_ratio 16 = .ok (.iconst 0, 1) := by decide +kernel
theorem dX5_ratio_17 : decode cX5_ratio 17 = .ok (.istore_n 3, 1) := by decide +kernel
theorem dX5_ratio_18 : decode cX5_ratio 18 = .ok (.iconst 0, 1) := by decide +kernel
theorem dX5_ratio_19 : decode cX5_ratio 19 = .ok (.istore 4, 2) := by decide +kernel
theorem dX5_ratio_21 : decode cX5_ratio 21 = .ok (.iload 4, 2) := by decide +kernel
theorem dX5_ratio_23 : decode cX5_ratio 23 = .ok (.bipush 32, 2) := by decide +kernel
theorem dX5_ratio_25 : decode cX5_ratio 25 = .ok (.if_icmp .ge 42, 3) := by decide +kernel
theorem dX5_ratio_28 : decode cX5_ratio 28 = .ok (.aload_n 0, 1) := by decide +kernel
theorem dX5_ratio_29 : decode cX5_ratio 29 = .ok (.getfield 33, 3) := by decide +kernel
theorem dX5_ratio_32 : decode cX5_ratio 32 = .ok (.getfield 172, 3) := by decide +kernel
theorem dX5_ratio_35 : decode cX5_ratio 35 = .ok (.iload 4, 2) := by decide +kernel
theorem dX5_ratio_37 : decode cX5_ratio 37 = .ok (.iaload, 1) := by decide +kernel
theorem dX5_ratio_38 : decode cX5_ratio 38 = .ok (.ifCond .le 23, 3) := by decide +kernel
theorem dX5_ratio_41 : decode cX5_ratio 41 = .ok (.iinc 2 16, 3) := by decide +kernel
theorem dX5_ratio_44 : decode cX5_ratio 44 = .ok (.iload_n 3, 1) := by decide +kernel
theorem dX5_ratio_45 : decode cX5_ratio 45 = .ok (.getstatic 128, 3) := by decide +kernel
theorem dX5_ratio_48 : decode cX5_ratio 48 = .ok (.aload_n 0, 1) := by decide +kernel
theorem dX5_ratio_49 : decode cX5_ratio 49 = .ok (.getfield 33, 3) := by decide +kernel
theorem dX5_ratio_52 : decode cX5_ratio 52 = .ok (.getfield 196, 3) := by decide +kernel
theorem dX5_ratio_55 : decode cX5_ratio 55 = .ok (.iload 4, 2) := by decide +kernel
theorem dX5_ratio_57 : decode cX5_ratio 57 = .ok (.iaload, 1) := by decide +kernel
theorem dX5_ratio_58 : decode cX5_ratio 58 = .ok (.iaload, 1) := by decide +kernel
theorem dX5_ratio_59 : decode cX5_ratio 59 = .ok (.iadd, 1) := by decide +kernel
theorem dX5_ratio_60 : decode cX5_ratio 60 = .ok (.istore_n 3, 1) := by decide +kernel
theorem dX5_ratio_61 : decode cX5_ratio 61 = .ok (.iinc 4 1, 3) := by decide +kernel
theorem dX5_ratio_64 : decode cX5_ratio 64 = .ok (.goto (-43), 3) := by decide +kernel
theorem dX5_ratio_67 : decode cX5_ratio 67 = .ok (.iload_n 2, 1) := by decide +kernel
theorem dX5_ratio_68 : decode cX5_ratio 68 = .ok (.iload_n 3, 1) := by decide +kernel
theorem dX5_ratio_69 : decode cX5_ratio 69 = .ok (.invokestatic 199, 3) := by decide +kernel
theorem dX5_ratio_72 : decode cX5_ratio 72 = .ok (.istore 4, 2) := by decide +kernel
theorem dX5_ratio_74 : decode cX5_ratio 74 = .ok (.iload 4, 2) := by decide +kernel
theorem dX5_ratio_76 : decode cX5_ratio 76 = .ok (.iconst 1, 1) := by decide +kernel
theorem dX5_ratio_77 : decode cX5_ratio 77 = .ok (.if_icmp .ge 10, 3) := by decide +kernel
theorem dX5_ratio_80 : decode cX5_ratio 80 = .ok (.aload_n 0, 1) := by decide +kernel
theorem dX5_ratio_81 : decode cX5_ratio 81 = .ok (.iconst 1, 1) := by decide +kernel
theorem dX5_ratio_82 : decode cX5_ratio 82 = .ok (.invokevirtual 88, 3) := by decide +kernel
theorem dX5_ratio_85 : decode cX5_ratio 85 = .ok (.i2l, 1) := by decide +kernel
theorem dX5_ratio_86 : decode cX5_ratio 86 = .ok (.lreturn, 1) := by decide +kernel
theorem dX5_ratio_87 : decode cX5_ratio 87 = .ok (.aload_n 0, 1) := by decide +kernel
theorem dX5_ratio_88 : decode cX5_ratio 88 = .ok (.iload_n 1, 1) := by decide +kernel
theorem dX5_ratio_89 : decode cX5_ratio 89 = .ok (.ifCond .eq 7, 3) := by decide +kernel
theorem dX5_ratio_92 : decode cX5_ratio 92 = .ok (.iload_n 3, 1) := by decide +kernel
theorem dX5_ratio_93 : decode cX5_ratio 93 = .ok (.goto 4, 3) := by decide +kernel
theorem dX5_ratio_96 : decode cX5_ratio 96 = .ok (.iload_n 2, 1) := by decide +kernel
theorem dX5_ratio_97 : decode cX5_ratio 97 = .ok (.iload 4, 2) := by decide +kernel
theorem dX5_ratio_99 : decode cX5_ratio 99 = .ok (.idiv, 1) := by decide +kernel
theorem dX5_ratio_100 : decode cX5_ratio 100 = .ok (.invokevirtual 88, 3) := by decide +kernel
theorem dX5_ratio_103 : decode cX5_ratio 103 = .ok (.i2l, 1) := by decide +kernel
theorem dX5_ratio_104 : decode cX5_ratio 104 = .ok (.lreturn, 1) := by decide +kernel
theorem dX5_commonDivisor_0 : decode cX5_commonDivisor 0 = .ok (.iload_n 0, 1) := by decide +kernel
theorem dX5_commonDivisor_1 : decode cX5_commonDivisor 1 = .ok (.istore_n 2, 1) := by decide +kernel
theorem dX5_commonDivisor_2 : decode cX5_commonDivisor 2 = .ok (.iload_n 1, 1) := by decide +kernel
theorem dX5_commonDivisor_3 : decode cX5_commonDivisor 3 = .ok (.istore_n 3, 1) := by decide +kernel
theorem dX5_commonDivisor_4 : decode cX5_commonDivisor 4 = .ok (.iconst 0, 1) := by decide +kernel
theorem dX5_commonDivisor_5 : decode cX5_commonDivisor 5 = .ok (.istore 4, 2) := by decide +kernel
theorem dX5_commonDivisor_7 : decode cX5_commonDivisor 7 = .ok (.iload 4, 2) := by decide +kernel
theorem dX5_commonDivisor_9 : decode cX5_commonDivisor 9 = .ok (.bipush 64, 2) := by decide +kernel
theorem dX5_commonDivisor_11 : decode cX5_commonDivisor 11 = .ok (.if_icmp .ge 23, 3) := by decide +kernel
theorem dX5_commonDivisor_14 : decode cX5_commonDivisor 14 = .ok (.iload_n 3, 1) := by decide +kernel
theorem dX5_commonDivisor_15 : decode cX5_commonDivisor 15 = .ok (.ifCond .le 19, 3) := by decide +kernel
theorem dX5_commonDivisor_18 : decode cX5_commonDivisor 18 = .ok (.iload_n 2, 1) := by decide +kernel
theorem dX5_commonDivisor_19 : decode cX5_commonDivisor 19 = .ok (.iload_n 3, 1) := by decide +kernel
theorem dX5_commonDivisor_20 : decode cX5_commonDivisor 20 = .ok (.irem, 1) := by decide +kernel
theorem dX5_commonDivisor_21 : decode cX5_commonDivisor 21 = .ok (.istore 5, 2) := by decide +kernel
theorem dX5_commonDivisor_23 : decode cX5_commonDivisor 23 = .ok (.iload_n 3, 1) := by decide +kernel
theorem dX5_commonDivisor_24 : decode cX5_commonDivisor 24 = .ok (.istore_n 2, 1) := by decide +kernel
theorem dX5_commonDivisor_25 : decode cX5_commonDivisor 25 = .ok (.iload 5, 2) := by decide +kernel
theorem dX5_commonDivisor_27 : decode cX5_commonDivisor 27 = .ok (.istore_n 3, 1) := by decide +kernel
theorem dX5_commonDivisor_28 : decode cX5_commonDivisor 28 = .ok (.iinc 4 1, 3) := by decide +kernel
theorem dX5_commonDivisor_31 : decode cX5_commonDivisor 31 = .ok (.goto (-24), 3) := by decide +kernel
theorem dX5_commonDivisor_34 : decode cX5_commonDivisor 34 = .ok (.iload_n 2, 1) := by decide +kernel
theorem dX5_commonDivisor_35 : decode cX5_commonDivisor 35 = .ok (.ireturn, 1) := by decide +kernel
theorem dX5_lines_0 : decode cX5_lines 0 = .ok (.aload_n 0, 1) := by decide +kernel
theorem dX5_lines_1 : decode cX5_lines 1 = .ok (.getfield 67, 3) := by decide +kernel
theorem dX5_lines_4 : decode cX5_lines 4 = .ok (.ifCond .ne 9, 3) := by decide +kernel
theorem dX5_lines_7 : decode cX5_lines 7 = .ok (.aload_n 0, 1) := by decide +kernel
theorem dX5_lines_8 : decode cX5_lines 8 = .ok (.iconst 1, 1) := by decide +kernel
theorem dX5_lines_9 : decode cX5_lines 9 = .ok (.invokevirtual 59, 3) := by decide +kernel
theorem dX5_lines_12 : decode cX5_lines 12 = .ok (.ireturn, 1) := by decide +kernel
theorem dX5_lines_13 : decode cX5_lines 13 = .ok (.iconst 0, 1) := by decide +kernel
theorem dX5_lines_14 : decode cX5_lines 14 = .ok (.istore_n 1, 1) := by decide +kernel
theorem dX5_lines_15 : decode cX5_lines 15 = .ok (.iconst 0, 1) := by decide +kernel
theorem dX5_lines_16 : decode cX5_lines 16 = .ok (.istore_n 2, 1) := by decide +kernel
theorem dX5_lines_17 : decode cX5_lines 17 = .ok (.iload_n 2, 1) := by decide +kernel
theorem dX5_lines_18 : decode cX5_lines 18 = .ok (.bipush 32, 2) := by decide +kernel
theorem dX5_lines_20 : decode cX5_lines 20 = .ok (.if_icmp .ge 24, 3) := by decide +kernel
theorem dX5_lines_23 : decode cX5_lines 23 = .ok (.aload_n 0, 1) := by decide +kernel
theorem dX5_lines_24 : decode cX5_lines 24 = .ok (.getfield 33, 3) := by decide +kernel
theorem dX5_lines_27 : decode cX5_lines 27 = .ok (.getfield 172, 3) := by decide +kernel
theorem dX5_lines_30 : decode cX5_lines 30 = .ok (.iload_n 2, 1) := by decide +kernel
theorem dX5_lines_31 : decode cX5_lines 31 = .ok (.iaload, 1) := by decide +kernel
theorem dX5_lines_32 : decode cX5_lines 32 = .ok (.ifCond .le 6, 3) := by decide +kernel
theorem dX5_lines_35 : decode cX5_lines 35 = .ok (.iinc 1 1, 3) := by decide +kernel
theorem dX5_lines_38 : decode cX5_lines 38 = .ok (.iinc 2 1, 3) := by decide +kernel
theorem dX5_lines_41 : decode cX5_lines 41 = .ok (.goto (-24), 3) := by decide +kernel
theorem dX5_lines_44 : decode cX5_lines 44 = .ok (.aload_n 0, 1) := by decide +kernel
theorem dX5_lines_45 : decode cX5_lines 45 = .ok (.iload_n 1, 1) := by decide +kernel
theorem dX5_lines_46 : decode cX5_lines 46 = .ok (.invokevirtual 88, 3) := by decide +kernel
theorem dX5_lines_49 : decode cX5_lines 49 = .ok (.ireturn, 1) := by decide +kernel
theorem dX5_runHits_0 : decode cX5_runHits 0 = .ok (.aload_n 0, 1) := by decide +kernel
theorem dX5_runHits_1 : decode cX5_runHits 1 = .ok (.getfield 67, 3) := by decide +kernel
theorem dX5_runHits_4 : decode cX5_runHits 4 = .ok (.ifCond .ne 9, 3) := by decide +kernel
theorem dX5_runHits_7 : decode cX5_runHits 7 = .ok (.aload_n 0, 1) := by decide +kernel
theorem dX5_runHits_8 : decode cX5_runHits 8 = .ok (.iconst 1, 1) := by decide +kernel
theorem dX5_runHits_9 : decode cX5_runHits 9 = .ok (.invokevirtual 59, 3) := by decide +kernel
theorem dX5_runHits_12 : decode cX5_runHits 12 = .ok (.ireturn, 1) := by decide +kernel
theorem dX5_runHits_13 : decode cX5_runHits 13 = .ok (.aload_n 0, 1) := by decide +kernel
theorem dX5_runHits_14 : decode cX5_runHits 14 = .ok (.aload_n 0, 1) := by decide +kernel
theorem dX5_runHits_15 : decode cX5_runHits 15 = .ok (.getfield 16, 3) := by decide +kernel
theorem dX5_runHits_18 : decode cX5_runHits 18 = .ok (.getfield 74, 3) := by decide +kernel
theorem dX5_runHits_21 : decode cX5_runHits 21 = .ok (.iconst 0, 1) := by decide +kernel
theorem dX5_runHits_22 : decode cX5_runHits 22 = .ok (.invokevirtual 202, 3) := by decide +kernel
theorem dX5_runHits_25 : decode cX5_runHits 25 = .ok (.pop, 1) := by decide +kernel
theorem dX5_runHits_26 : decode cX5_runHits 26 = .ok (.aload_n 0, 1) := by decide +kernel
theorem dX5_runHits_27 : decode cX5_runHits 27 = .ok (.aload_n 0, 1) := by decide +kernel
theorem dX5_runHits_28 : decode cX5_runHits 28 = .ok (.getfield 37, 3) := by decide +kernel
theorem dX5_runHits_31 : decode cX5_runHits 31 = .ok (.getfield 206, 3) := by decide +kernel
theorem dX5_runHits_34 : decode cX5_runHits 34 = .ok (.invokevirtual 88, 3) := by decide +kernel
theorem dX5_runHits_37 : decode cX5_runHits 37 = .ok (.ireturn, 1) := by decide +kernel
theorem dX5_runVictims_0 : decode cX5_runVictims 0 = .ok (.aload_n 0, 1) := by decide +kernel
theorem dX5_runVictims_1 : decode cX5_runVictims 1 = .ok (.getfield 67, 3) := by decide +kernel
theorem dX5_runVictims_4 : decode cX5_runVictims 4 = .ok (.ifCond .ne 9, 3) := by decide +kernel
theorem dX5_runVictims_7 : decode cX5_runVictims 7 = .ok (.aload_n 0, 1) := by decide +kernel
theorem dX5_runVictims_8 : decode cX5_runVictims 8 = .ok (.iconst 1, 1) := by decide +kernel
theorem dX5_runVictims_9 : decode cX5_runVictims 9 = .ok (.invokevirtual 59, 3) := by decide +kernel
theorem dX5_runVictims_12 : decode cX5_runVictims 12 = .ok (.ireturn, 1) := by decide +kernel
theorem dX5_runVictims_13 : decode cX5_runVictims 13 = .ok (.aload_n 0, 1) := by decide +kernel
theorem dX5_runVictims_14 : decode cX5_runVictims 14 = .ok (.aload_n 0, 1) := by decide +kernel
theorem dX5_runVictims_15 : decode cX5_runVictims 15 = .ok (.getfield 16, 3) := by decide +kernel
theorem dX5_runVictims_18 : decode cX5_runVictims 18 = .ok (.getfield 74, 3) := by decide +kernel
theorem dX5_runVictims_21 : decode cX5_runVictims 21 = .ok (.iconst 0, 1) := by decide +kernel
theorem dX5_runVictims_22 : decode cX5_runVictims 22 = .ok (.invokevirtual 202, 3) := by decide +kernel
theorem dX5_runVictims_25 : decode cX5_runVictims 25 = .ok (.pop, 1) := by decide +kernel
theorem dX5_runVictims_26 : decode cX5_runVictims 26 = .ok (.aload_n 0, 1) := by decide +kernel
theorem dX5_runVictims_27 : decode cX5_runVictims 27 = .ok (.aload_n 0, 1) := by decide +kernel
theorem dX5_runVictims_28 : decode cX5_runVictims 28 = .ok (.getfield 37, 3) := by decide +kernel
theorem dX5_runVictims_31 : decode cX5_runVictims 31 = .ok (.getfield 190, 3) := by decide +kernel
theorem dX5_runVictims_34 : decode cX5_runVictims 34 = .ok (.invokevirtual 88, 3) := by decide +kernel
theorem dX5_runVictims_37 : decode cX5_runVictims 37 = .ok (.ireturn, 1) := by decide +kernel
theorem dX5_runBacks_0 : decode cX5_runBacks 0 = .ok (.aload_n 0, 1) := by decide +kernel
theorem dX5_runBacks_1 : decode cX5_runBacks 1 = .ok (.getfield 67, 3) := by decide +kernel
theorem dX5_runBacks_4 : decode cX5_runBacks 4 = .ok (.ifCond .ne 9, 3) := by decide +kernel
theorem dX5_runBacks_7 : decode cX5_runBacks 7 = .ok (.aload_n 0, 1) := by decide +kernel
theorem dX5_runBacks_8 : decode cX5_runBacks 8 = .ok (.iconst 1, 1) := by decide +kernel
theorem dX5_runBacks_9 : decode cX5_runBacks 9 = .ok (.invokevirtual 59, 3) := by decide +kernel
theorem dX5_runBacks_12 : decode cX5_runBacks 12 = .ok (.ireturn, 1) := by decide +kernel
theorem dX5_runBacks_13 : decode cX5_runBacks 13 = .ok (.aload_n 0, 1) := by decide +kernel
theorem dX5_runBacks_14 : decode cX5_runBacks 14 = .ok (.aload_n 0, 1) := by decide +kernel
theorem dX5_runBacks_15 : decode cX5_runBacks 15 = .ok (.getfield 16, 3) := by decide +kernel
theorem dX5_runBacks_18 : decode cX5_runBacks 18 = .ok (.getfield 74, 3) := by decide +kernel
theorem dX5_runBacks_21 : decode cX5_runBacks 21 = .ok (.iconst 0, 1) := by decide +kernel
theorem dX5_runBacks_22 : decode cX5_runBacks 22 = .ok (.invokevirtual 202, 3) := by decide +kernel
theorem dX5_runBacks_25 : decode cX5_runBacks 25 = .ok (.pop, 1) := by decide +kernel
theorem dX5_runBacks_26 : decode cX5_runBacks 26 = .ok (.aload_n 0, 1) := by decide +kernel
theorem dX5_runBacks_27 : decode cX5_runBacks 27 = .ok (.aload_n 0, 1) := by decide +kernel
theorem dX5_runBacks_28 : decode cX5_runBacks 28 = .ok (.getfield 37, 3) := by decide +kernel
theorem dX5_runBacks_31 : decode cX5_runBacks 31 = .ok (.getfield 209, 3) := by decide +kernel
theorem dX5_runBacks_34 : decode cX5_runBacks 34 = .ok (.invokevirtual 88, 3) := by decide +kernel
theorem dX5_runBacks_37 : decode cX5_runBacks 37 = .ok (.ireturn, 1) := by decide +kernel
theorem dX5_runStep_0 : decode cX5_runStep 0 = .ok (.aload_n 0, 1) := by decide +kernel
theorem dX5_runStep_1 : decode cX5_runStep 1 = .ok (.getfield 67, 3) := by decide +kernel
theorem dX5_runStep_4 : decode cX5_runStep 4 = .ok (.ifCond .eq 18, 3) := by decide +kernel
theorem dX5_runStep_7 : decode cX5_runStep 7 = .ok (.iload_n 1, 1) := by decide +kernel
theorem dX5_runStep_8 : decode cX5_runStep 8 = .ok (.ifCond .lt 14, 3) := by decide +kernel
theorem dX5_runStep_11 : decode cX5_runStep 11 = .ok (.iload_n 1, 1) := by decide +kernel
theorem dX5_runStep_12 : decode cX5_runStep 12 = .ok (.aload_n 0, 1) := by decide +kernel
theorem dX5_runStep_13 : decode cX5_runStep 13 = .ok (.getfield 16, 3) := by decide +kernel
theorem dX5_runStep_16 : decode cX5_runStep 16 = .ok (.getfield 85, 3) := by decide +kernel
theorem dX5_runStep_19 : decode cX5_runStep 19 = .ok (.if_icmp .lt 9, 3) := by decide +kernel
theorem dX5_runStep_22 : decode cX5_runStep 22 = .ok (.aload_n 0, 1) := by decide +kernel
theorem dX5_runStep_23 : decode cX5_runStep 23 = .ok (.iconst 1, 1) := by decide +kernel
theorem dX5_runStep_24 : decode cX5_runStep 24 = .ok (.invokevirtual 59, 3) := by decide +kernel
theorem dX5_runStep_27 : decode cX5_runStep 27 = .ok (.ireturn, 1) := by decide +kernel
theorem dX5_runStep_28 : decode cX5_runStep 28 = .ok (.aload_n 0, 1) := by decide +kernel
theorem dX5_runStep_29 : decode cX5_runStep 29 = .ok (.aload_n 0, 1) := by decide +kernel
theorem dX5_runStep_30 : decode cX5_runStep 30 = .ok (.aload_n 0, 1) := by decide +kernel
theorem dX5_runStep_31 : decode cX5_runStep 31 = .ok (.getfield 16, 3) := by decide +kernel
theorem dX5_runStep_34 : decode cX5_runStep 34 = .ok (.getfield 74, 3) := by decide +kernel
theorem dX5_runStep_37 : decode cX5_runStep 37 = .ok (.iconst 0, 1) := by decide +kernel
theorem dX5_runStep_38 : decode cX5_runStep 38 = .ok (.invokevirtual 202, 3) := by decide +kernel
theorem dX5_runStep_41 : decode cX5_runStep 41 = .ok (.iload_n 1, 1) := by decide +kernel
theorem dX5_runStep_42 : decode cX5_runStep 42 = .ok (.ishr, 1) := by decide +kernel
theorem dX5_runStep_43 : decode cX5_runStep 43 = .ok (.iconst 1, 1) := by decide +kernel
theorem dX5_runStep_44 : decode cX5_runStep 44 = .ok (.iand, 1) := by decide +kernel
theorem dX5_runStep_45 : decode cX5_runStep 45 = .ok (.invokevirtual 88, 3) := by decide +kernel
theorem dX5_runStep_48 : decode cX5_runStep 48 = .ok (.ireturn, 1) := by decide +kernel
theorem dX5_plainHits_0 : decode cX5_plainHits 0 = .ok (.aload_n 0, 1) := by decide +kernel
theorem dX5_plainHits_1 : decode cX5_plainHits 1 = .ok (.getfield 67, 3) := by decide +kernel
theorem dX5_plainHits_4 : decode cX5_plainHits 4 = .ok (.ifCond .ne 9, 3) := by decide +kernel
theorem dX5_plainHits_7 : decode cX5_plainHits 7 = .ok (.aload_n 0, 1) := by decide +kernel
theorem dX5_plainHits_8 : decode cX5_plainHits 8 = .ok (.iconst 1, 1) := by decide +kernel
theorem dX5_plainHits_9 : decode cX5_plainHits 9 = .ok (.invokevirtual 59, 3) := by decide +kernel
theorem dX5_plainHits_12 : decode cX5_plainHits 12 = .ok (.ireturn, 1) := by decide +kernel
theorem dX5_plainHits_13 : decode cX5_plainHits 13 = .ok (.aload_n 0, 1) := by decide +kernel
theorem dX5_plainHits_14 : decode cX5_plainHits 14 = .ok (.aload_n 0, 1) := by decide +kernel
theorem dX5_plainHits_15 : decode cX5_plainHits 15 = .ok (.getfield 16, 3) := by decide +kernel
theorem dX5_plainHits_18 : decode cX5_plainHits 18 = .ok (.getfield 74, 3) := by decide +kernel
theorem dX5_plainHits_21 : decode cX5_plainHits 21 = .ok (.iconst 1, 1) := by decide +kernel
theorem dX5_plainHits_22 : decode cX5_plainHits 22 = .ok (.invokevirtual 202, 3) := by decide +kernel
theorem dX5_plainHits_25 : decode cX5_plainHits 25 = .ok (.pop, 1) := by decide +kernel
theorem dX5_plainHits_26 : decode cX5_plainHits 26 = .ok (.aload_n 0, 1) := by decide +kernel
theorem dX5_plainHits_27 : decode cX5_plainHits 27 = .ok (.aload_n 0, 1) := by decide +kernel
theorem dX5_plainHits_28 : decode cX5_plainHits 28 = .ok (.getfield 37, 3) := by decide +kernel
theorem dX5_plainHits_31 : decode cX5_plainHits 31 = .ok (.getfield 206, 3) := by decide +kernel
theorem dX5_plainHits_34 : decode cX5_plainHits 34 = .ok (.invokevirtual 88, 3) := by decide +kernel
theorem dX5_plainHits_37 : decode cX5_plainHits 37 = .ok (.ireturn, 1) := by decide +kernel
theorem dX5_plainBacks_0 : decode cX5_plainBacks 0 = .ok (.aload_n 0, 1) := by decide +kernel
theorem dX5_plainBacks_1 : decode cX5_plainBacks 1 = .ok (.getfield 67, 3) := by decide +kernel
theorem dX5_plainBacks_4 : decode cX5_plainBacks 4 = .ok (.ifCond .ne 9, 3) := by decide +kernel
theorem dX5_plainBacks_7 : decode cX5_plainBacks 7 = .ok (.aload_n 0, 1) := by decide +kernel
theorem dX5_plainBacks_8 : decode cX5_plainBacks 8 = .ok (.iconst 1, 1) := by decide +kernel
theorem dX5_plainBacks_9 : decode cX5_plainBacks 9 = .ok (.invokevirtual 59, 3) := by decide +kernel
theorem dX5_plainBacks_12 : decode cX5_plainBacks 12 = .ok (.ireturn, 1) := by decide +kernel
theorem dX5_plainBacks_13 : decode cX5_plainBacks 13 = .ok (.aload_n 0, 1) := by decide +kernel
theorem dX5_plainBacks_14 : decode cX5_plainBacks 14 = .ok (.aload_n 0, 1) := by decide +kernel
theorem dX5_plainBacks_15 : decode cX5_plainBacks 15 = .ok (.getfield 16, 3) := by decide +kernel
theorem dX5_plainBacks_18 : decode cX5_plainBacks 18 = .ok (.getfield 74, 3) := by decide +kernel
theorem dX5_plainBacks_21 : decode cX5_plainBacks 21 = .ok (.iconst 1, 1) := by decide +kernel
theorem dX5_plainBacks_22 : decode cX5_plainBacks 22 = .ok (.invokevirtual 202, 3) := by decide +kernel
theorem dX5_plainBacks_25 : decode cX5_plainBacks 25 = .ok (.pop, 1) := by decide +kernel
theorem dX5_plainBacks_26 : decode cX5_plainBacks 26 = .ok (.aload_n 0, 1) := by decide +kernel
theorem dX5_plainBacks_27 : decode cX5_plainBacks 27 = .ok (.aload_n 0, 1) := by decide +kernel
theorem dX5_plainBacks_28 : decode cX5_plainBacks 28 = .ok (.getfield 37, 3) := by decide +kernel
theorem dX5_plainBacks_31 : decode cX5_plainBacks 31 = .ok (.getfield 209, 3) := by decide +kernel
theorem dX5_plainBacks_34 : decode cX5_plainBacks 34 = .ok (.invokevirtual 88, 3) := by decide +kernel
theorem dX5_plainBacks_37 : decode cX5_plainBacks 37 = .ok (.ireturn, 1) := by decide +kernel
theorem dX5_hitsBy_0 : decode cX5_hitsBy 0 = .ok (.aload_n 0, 1) := by decide +kernel
theorem dX5_hitsBy_1 : decode cX5_hitsBy 1 = .ok (.getfield 67, 3) := by decide +kernel
theorem dX5_hitsBy_4 : decode cX5_hitsBy 4 = .ok (.ifCond .ne 9, 3) := by decide +kernel
theorem dX5_hitsBy_7 : decode cX5_hitsBy 7 = .ok (.aload_n 0, 1) := by decide +kernel
theorem dX5_hitsBy_8 : decode cX5_hitsBy 8 = .ok (.iconst 1, 1) := by decide +kernel
theorem dX5_hitsBy_9 : decode cX5_hitsBy 9 = .ok (.invokevirtual 59, 3) := by decide +kernel
theorem dX5_hitsBy_12 : decode cX5_hitsBy 12 = .ok (.ireturn, 1) := by decide +kernel
theorem dX5_hitsBy_13 : decode cX5_hitsBy 13 = .ok (.iload_n 1, 1) := by decide +kernel
theorem dX5_hitsBy_14 : decode cX5_hitsBy 14 = .ok (.iconst 1, 1) := by decide +kernel
theorem dX5_hitsBy_15 : decode cX5_hitsBy 15 = .ok (.if_icmp .lt 8, 3) := by decide +kernel
theorem dX5_hitsBy_18 : decode cX5_hitsBy 18 = .ok (.iload_n 1, 1) := by decide +kernel
theorem dX5_hitsBy_19 : decode cX5_hitsBy 19 = .ok (.iconst 4, 1) := by decide +kernel
theorem dX5_hitsBy_20 : decode cX5_hitsBy 20 = .ok (.if_icmp .le 9, 3) := by decide +kernel
theorem dX5_hitsBy_23 : decode cX5_hitsBy 23 = .ok (.aload_n 0, 1) := by decide +kernel
theorem dX5_hitsBy_24 : decode cX5_hitsBy 24 = .ok (.iconst 2, 1) := by decide +kernel
theorem dX5_hitsBy_25 : decode cX5_hitsBy 25 = .ok (.invokevirtual 59, 3) := by decide +kernel
theorem dX5_hitsBy_28 : decode cX5_hitsBy 28 = .ok (.ireturn, 1) := by decide +kernel
theorem dX5_hitsBy_29 : decode cX5_hitsBy 29 = .ok (.aload_n 0, 1) := by decide +kernel
theorem dX5_hitsBy_30 : decode cX5_hitsBy 30 = .ok (.iload_n 1, 1) := by decide +kernel
theorem dX5_hitsBy_31 : decode cX5_hitsBy 31 = .ok (.iconst 0, 1) := by decide +kernel
theorem dX5_hitsBy_32 : decode cX5_hitsBy 32 = .ok (.invokevirtual 202, 3) := by decide +kernel
theorem dX5_hitsBy_35 : decode cX5_hitsBy 35 = .ok (.pop, 1) := by decide +kernel
theorem dX5_hitsBy_36 : decode cX5_hitsBy 36 = .ok (.aload_n 0, 1) := by decide +kernel
theorem dX5_hitsBy_37 : decode cX5_hitsBy 37 = .ok (.aload_n 0, 1) := by decide +kernel
theorem dX5_hitsBy_38 : decode cX5_hitsBy 38 = .ok (.getfield 37, 3) := by decide +kernel
theorem dX5_hitsBy_41 : decode cX5_hitsBy 41 = .ok (.getfield 206, 3) := by decide +kernel
theorem dX5_hitsBy_44 : decode cX5_hitsBy 44 = .ok (.invokevirtual 88, 3) := by decide +kernel
theorem dX5_hitsBy_47 : decode cX5_hitsBy 47 = .ok (.ireturn, 1) := by decide +kernel
theorem dX5_waysFor_0 : decode cX5_waysFor 0 = .ok (.aload_n 0, 1) := by decide +kernel
theorem dX5_waysFor_1 : decode cX5_waysFor 1 = .ok (.getfield 67, 3) := by decide +kernel
theorem dX5_waysFor_4 : decode cX5_waysFor 4 = .ok (.ifCond .ne 9, 3) := by decide +kernel
theorem dX5_waysFor_7 : decode cX5_waysFor 7 = .ok (.aload_n 0, 1) := by decide +kernel
theorem dX5_waysFor_8 : decode cX5_waysFor 8 = .ok (.iconst 1, 1) := by decide +kernel
theorem dX5_waysFor_9 : decode cX5_waysFor 9 = .ok (.invokevirtual 59, 3) := by decide +kernel
theorem dX5_waysFor_12 : decode cX5_waysFor 12 = .ok (.ireturn, 1) := by decide +kernel
theorem dX5_waysFor_13 : decode cX5_waysFor 13 = .ok (.iload_n 1, 1) := by decide +kernel
theorem dX5_waysFor_14 : decode cX5_waysFor 14 = .ok (.ifCond .lt 9, 3) := by decide +kernel
theorem dX5_waysFor_17 : decode cX5_waysFor 17 = .ok (.iload_n 1, 1) := by decide +kernel
theorem dX5_waysFor_18 : decode cX5_waysFor 18 = .ok (.bipush 16, 2) := by decide +kernel
theorem dX5_waysFor_20 : decode cX5_waysFor 20 = .ok (.if_icmp .le 9, 3) := by decide +kernel
theorem dX5_waysFor_23 : decode cX5_waysFor 23 = .ok (.aload_n 0, 1) := by decide +kernel
theorem dX5_waysFor_24 : decode cX5_waysFor 24 = .ok (.iconst 2, 1) := by decide +kernel
theorem dX5_waysFor_25 : decode cX5_waysFor 25 = .ok (.invokevirtual 59, 3) := by decide +kernel
theorem dX5_waysFor_28 : decode cX5_waysFor 28 = .ok (.ireturn, 1) := by decide +kernel
theorem dX5_waysFor_29 : decode cX5_waysFor 29 = .ok (.iconst 1, 1) := by decide +kernel
theorem dX5_waysFor_30 : decode cX5_waysFor 30 = .ok (.istore_n 2, 1) := by decide +kernel
theorem dX5_waysFor_31 : decode cX5_waysFor 31 = .ok (.iload_n 2, 1) := by decide +kernel
theorem dX5_waysFor_32 : decode cX5_waysFor 32 = .ok (.iconst 4, 1) := by decide +kernel
theorem dX5_waysFor_33 : decode cX5_waysFor 33 = .ok (.if_icmp .gt 33, 3) := by decide +kernel
theorem dX5_waysFor_36 : decode cX5_waysFor 36 = .ok (.aload_n 0, 1) := by decide +kernel
theorem dX5_waysFor_37 : decode cX5_waysFor 37 = .ok (.iload_n 2, 1) := by decide +kernel
theorem dX5_waysFor_38 : decode cX5_waysFor 38 = .ok (.iconst 0, 1) := by decide +kernel
theorem dX5_waysFor_39 : decode cX5_waysFor 39 = .ok (.invokevirtual 202, 3) := by decide +kernel
theorem dX5_waysFor_42 : decode cX5_waysFor 42 = .ok (.pop, 1) := by decide +kernel
theorem dX5_waysFor_43 : decode cX5_waysFor 43 = .ok (.aload_n 0, 1) := by decide +kernel
theorem dX5_waysFor_44 : decode cX5_waysFor 44 = .ok (.getfield 37, 3) := by decide +kernel
theorem dX5_waysFor_47 : decode cX5_waysFor 47 = .ok (.getfield 206, 3) := by decide +kernel
theorem dX5_waysFor_50 : decode cX5_waysFor 50 = .ok (.iload_n 1, 1) := by decide +kernel
theorem dX5_waysFor_51 : decode cX5_waysFor 51 = .ok (.if_icmp .lt 9, 3) := by decide +kernel
theorem dX5_waysFor_54 : decode cX5_waysFor 54 = .ok (.aload_n 0, 1) := by decide +kernel
theorem dX5_waysFor_55 : decode cX5_waysFor 55 = .ok (.iload_n 2, 1) := by decide +kernel
theorem dX5_waysFor_56 : decode cX5_waysFor 56 = .ok (.invokevirtual 88, 3) := by decide +kernel
theorem dX5_waysFor_59 : decode cX5_waysFor 59 = .ok (.ireturn, 1) := by decide +kernel
theorem dX5_waysFor_60 : decode cX5_waysFor 60 = .ok (.iinc 2 1, 3) := by decide +kernel
theorem dX5_waysFor_63 : decode cX5_waysFor 63 = .ok (.goto (-32), 3) := by decide +kernel
theorem dX5_waysFor_66 : decode cX5_waysFor 66 = .ok (.aload_n 0, 1) := by decide +kernel
theorem dX5_waysFor_67 : decode cX5_waysFor 67 = .ok (.bipush (-2), 2) := by decide +kernel
theorem dX5_waysFor_69 : decode cX5_waysFor 69 = .ok (.invokevirtual 88, 3) := by decide +kernel
theorem dX5_waysFor_72 : decode cX5_waysFor 72 = .ok (.ireturn, 1) := by decide +kernel
theorem dX5_runTold_0 : decode cX5_runTold 0 = .ok (.aload_n 0, 1) := by decide +kernel
theorem dX5_runTold_1 : decode cX5_runTold 1 = .ok (.getfield 37, 3) := by decide +kernel
theorem dX5_runTold_4 : decode cX5_runTold 4 = .ok (.aload_n 0, 1) := by decide +kernel
theorem dX5_runTold_5 : decode cX5_runTold 5 = .ok (.getfield 16, 3) := by decide +kernel
theorem dX5_runTold_8 : decode cX5_runTold 8 = .ok (.iload_n 1, 1) := by decide +kernel
theorem dX5_runTold_9 : decode cX5_runTold 9 = .ok (.iload_n 2, 1) := by decide +kernel
theorem dX5_runTold_10 : decode cX5_runTold 10 = .ok (.iconst 0, 1) := by decide +kernel
theorem dX5_runTold_11 : decode cX5_runTold 11 = .ok (.invokevirtual 77, 3) := by decide +kernel
theorem dX5_runTold_14 : decode cX5_runTold 14 = .ok (.aload_n 0, 1) := by decide +kernel
theorem dX5_runTold_15 : decode cX5_runTold 15 = .ok (.getfield 37, 3) := by decide +kernel
theorem dX5_runTold_18 : decode cX5_runTold 18 = .ok (.aload_n 0, 1) := by decide +kernel
theorem dX5_runTold_19 : decode cX5_runTold 19 = .ok (.getfield 16, 3) := by decide +kernel
theorem dX5_runTold_22 : decode cX5_runTold 22 = .ok (.invokevirtual 212, 3) := by decide +kernel
theorem dX5_runTold_25 : decode cX5_runTold 25 = .ok (.ireturn, 1) := by decide +kernel
theorem dX5_fits_0 : decode cX5_fits 0 = .ok (.aload_n 0, 1) := by decide +kernel
theorem dX5_fits_1 : decode cX5_fits 1 = .ok (.getfield 67, 3) := by decide +kernel
theorem dX5_fits_4 : decode cX5_fits 4 = .ok (.ifCond .ne 9, 3) := by decide +kernel
theorem dX5_fits_7 : decode cX5_fits 7 = .ok (.aload_n 0, 1) := by decide +kernel
theorem dX5_fits_8 : decode cX5_fits 8 = .ok (.iconst 1, 1) := by decide +kernel
theorem dX5_fits_9 : decode cX5_fits 9 = .ok (.invokevirtual 59, 3) := by decide +kernel
theorem dX5_fits_12 : decode cX5_fits 12 = .ok (.ireturn, 1) := by decide +kernel
theorem dX5_fits_13 : decode cX5_fits 13 = .ok (.aload_n 0, 1) := by decide +kernel
theorem dX5_fits_14 : decode cX5_fits 14 = .ok (.aload_n 0, 1) := by decide +kernel
theorem dX5_fits_15 : decode cX5_fits 15 = .ok (.invokevirtual 216, 3) := by decide +kernel
theorem dX5_fits_18 : decode cX5_fits 18 = .ok (.invokestatic 219, 3) := by decide +kernel
theorem dX5_fits_21 : decode cX5_fits 21 = .ok (.invokevirtual 88, 3) := by decide +kernel
theorem dX5_fits_24 : decode cX5_fits 24 = .ok (.ireturn, 1) := by decide +kernel
theorem dX5_fitAt_0 : decode cX5_fitAt 0 = .ok (.aload_n 0, 1) := by decide +kernel
theorem dX5_fitAt_1 : decode cX5_fitAt 1 = .ok (.getfield 67, 3) := by decide +kernel
theorem dX5_fitAt_4 : decode cX5_fitAt 4 = .ok (.ifCond .eq 7, 3) := by decide +kernel
theorem dX5_fitAt_7 : decode cX5_fitAt 7 = .ok (.iload_n 1, 1) := by decide +kernel
theorem dX5_fitAt_8 : decode cX5_fitAt 8 = .ok (.ifCond .ge 9, 3) := by decide +kernel
theorem dX5_fitAt_11 : decode cX5_fitAt 11 = .ok (.aload_n 0, 1) := by decide +kernel
theorem dX5_fitAt_12 : decode cX5_fitAt 12 = .ok (.iconst 1, 1) := by decide +kernel
theorem dX5_fitAt_13 : decode cX5_fitAt 13 = .ok (.invokevirtual 59, 3) := by decide +kernel
theorem dX5_fitAt_16 : decode cX5_fitAt 16 = .ok (.ireturn, 1) := by decide +kernel
theorem dX5_fitAt_17 : decode cX5_fitAt 17 = .ok (.aload_n 0, 1) := by decide +kernel
theorem dX5_fitAt_18 : decode cX5_fitAt 18 = .ok (.invokevirtual 216, 3) := by decide +kernel
theorem dX5_fitAt_21 : decode cX5_fitAt 21 = .ok (.istore_n 2, 1) := by decide +kernel
theorem dX5_fitAt_22 : decode cX5_fitAt 22 = .ok (.iconst 0, 1) := by decide +kernel
theorem dX5_fitAt_23 : decode cX5_fitAt 23 = .ok (.istore_n 3, 1) := by decide +kernel
theorem dX5_fitAt_24 : decode cX5_fitAt 24 = .ok (.iconst 0, 1) := by decide +kernel
theorem dX5_fitAt_25 : decode cX5_fitAt 25 = .ok (.istore 4, 2) := by decide +kernel
theorem dX5_fitAt_27 : decode cX5_fitAt 27 = .ok (.iload 4, 2) := by decide +kernel
theorem dX5_fitAt_29 : decode cX5_fitAt 29 = .ok (.bipush 16, 2) := by decide +kernel
theorem dX5_fitAt_31 : decode cX5_fitAt 31 = .ok (.if_icmp .ge 34, 3) := by decide +kernel
theorem dX5_fitAt_34 : decode cX5_fitAt 34 = .ok (.iload_n 2, 1) := by decide +kernel
theorem dX5_fitAt_35 : decode cX5_fitAt 35 = .ok (.iload 4, 2) := by decide +kernel
theorem dX5_fitAt_37 : decode cX5_fitAt 37 = .ok (.ishr, 1) := by decide +kernel
theorem dX5_fitAt_38 : decode cX5_fitAt 38 = .ok (.iconst 1, 1) := by decide +kernel
theorem dX5_fitAt_39 : decode cX5_fitAt 39 = .ok (.iand, 1) := by decide +kernel
theorem dX5_fitAt_40 : decode cX5_fitAt 40 = .ok (.iconst 1, 1) := by decide +kernel
theorem dX5_fitAt_41 : decode cX5_fitAt 41 = .ok (.if_icmp .ne 18, 3) := by decide +kernel
theorem dX5_fitAt_44 : decode cX5_fitAt 44 = .ok (.iload_n 3, 1) := by decide +kernel
theorem dX5_fitAt_45 : decode cX5_fitAt 45 = .ok (.iload_n 1, 1) := by decide +kernel
theorem dX5_fitAt_46 : decode cX5_fitAt 46 = .ok (.if_icmp .ne 10, 3) := by decide +kernel
theorem dX5_fitAt_49 : decode cX5_fitAt 49 = .ok (.aload_n 0, 1) := by decide +kernel
theorem dX5_fitAt_50 : decode cX5_fitAt 50 = .ok (.iload 4, 2) := by decide +kernel
theorem dX5_fitAt_52 : decode cX5_fitAt 52 = .ok (.invokevirtual 88, 3) := by decide +kernel
theorem dX5_fitAt_55 : decode cX5_fitAt 55 = .ok (.ireturn, 1) := by decide +kernel
theorem dX5_fitAt_56 : decode cX5_fitAt 56 = .ok (.iinc 3 1, 3) := by decide +kernel
theorem dX5_fitAt_59 : decode cX5_fitAt 59 = .ok (.iinc 4 1, 3) := by decide +kernel
theorem dX5_fitAt_62 : decode cX5_fitAt 62 = .ok (.goto (-35), 3) := by decide +kernel
theorem dX5_fitAt_65 : decode cX5_fitAt 65 = .ok (.aload_n 0, 1) := by decide +kernel
theorem dX5_fitAt_66 : decode cX5_fitAt 66 = .ok (.iconst 1, 1) := by decide +kernel
theorem dX5_fitAt_67 : decode cX5_fitAt 67 = .ok (.invokevirtual 59, 3) := by decide +kernel
theorem dX5_fitAt_70 : decode cX5_fitAt 70 = .ok (.ireturn, 1) := by decide +kernel
theorem dX5_could_0 : decode cX5_could 0 = .ok (.aload_n 0, 1) := by decide +kernel
theorem dX5_could_1 : decode cX5_could 1 = .ok (.getfield 67, 3) := by decide +kernel
theorem dX5_could_4 : decode cX5_could 4 = .ok (.ifCond .ne 9, 3) := by decide +kernel
theorem dX5_could_7 : decode cX5_could 7 = .ok (.aload_n 0, 1) := by decide +kernel
theorem dX5_could_8 : decode cX5_could 8 = .ok (.iconst 1, 1) := by decide +kernel
theorem dX5_could_9 : decode cX5_could 9 = .ok (.invokevirtual 59, 3) := by decide +kernel
theorem dX5_could_12 : decode cX5_could 12 = .ok (.ireturn, 1) := by decide +kernel
theorem dX5_could_13 : decode cX5_could 13 = .ok (.aload_n 0, 1) := by decide +kernel
theorem dX5_could_14 : decode cX5_could 14 = .ok (.invokevirtual 216, 3) := by decide +kernel
theorem dX5_could_17 : decode cX5_could 17 = .ok (.istore_n 1, 1) := by decide +kernel
theorem dX5_could_18 : decode cX5_could 18 = .ok (.iconst 0, 1) := by decide +kernel
theorem dX5_could_19 : decode cX5_could 19 = .ok (.istore_n 2, 1) := by decide +kernel
theorem dX5_could_20 : decode cX5_could 20 = .ok (.iconst 0, 1) := by decide +kernel
theorem dX5_could_21 : decode cX5_could 21 = .ok (.istore_n 3, 1) := by decide +kernel
theorem dX5_could_22 : decode cX5_could 22 = .ok (.iload_n 3, 1) := by decide +kernel
theorem dX5_could_23 : decode cX5_could 23 = .ok (.bipush 16, 2) := by decide +kernel
theorem dX5_could_25 : decode cX5_could 25 = .ok (.if_icmp .ge 22, 3) := by decide +kernel
theorem dX5_could_28 : decode cX5_could 28 = .ok (.iload_n 1, 1) := by decide +kernel
theorem dX5_could_29 : decode cX5_could 29 = .ok (.iload_n 3, 1) := by decide +kernel
theorem dX5_could_30 : decode cX5_could 30 = .ok (.ishr, 1) := by decide +kernel
theorem dX5_could_31 : decode cX5_could 31 = .ok (.iconst 1, 1) := by decide +kernel
theorem dX5_could_32 : decode cX5_could 32 = .ok (.iand, 1) := by decide +kernel
theorem dX5_could_33 : decode cX5_could 33 = .ok (.iconst 1, 1) := by decide +kernel
theorem dX5_could_34 : decode cX5_could 34 = .ok (.if_icmp .ne 7, 3) := by decide +kernel
theorem dX5_could_37 : decode cX5_could 37 = .ok (.iload_n 2, 1) := by decide +kernel
theorem dX5_could_38 : decode cX5_could 38 = .ok (.iload_n 3, 1) := by decide +kernel
theorem dX5_could_39 : decode cX5_could 39 = .ok (.ior, 1) := by decide +kernel
theorem dX5_could_40 : decode cX5_could 40 = .ok (.istore_n 2, 1) := by decide +kernel
theorem dX5_could_41 : decode cX5_could 41 = .ok (.iinc 3 1, 3) := by decide +kernel
theorem dX5_could_44 : decode cX5_could 44 = .ok (.goto (-22), 3) := by decide +kernel
theorem dX5_could_47 : decode cX5_could 47 = .ok (.aload_n 0, 1) := by decide +kernel
