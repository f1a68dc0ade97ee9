theorem dX7_readStep_72 : decode cX7_readStep 72 = .ok (.getfield 137, 3) := by decide +kernel
theorem dX7_readStep_75 : decode cX7_readStep 75 = .ok (.getfield 219, 3) := by decide +kernel
theorem dX7_readStep_78 : decode cX7_readStep 78 = .ok (.aload_n 0, 1) := by decide +kernel
theorem dX7_readStep_79 : decode cX7_readStep 79 = .ok (.getfield 137, 3) := by decide +kernel
theorem dX7_readStep_82 : decode cX7_readStep 82 = .ok (.getfield 214, 3) := by decide +kernel
theorem dX7_readStep_85 : decode cX7_readStep 85 = .ok (.iload_n 3, 1) := by decide +kernel
theorem dX7_readStep_86 : decode cX7_readStep 86 = .ok (.iastore, 1) := by decide +kernel
theorem dX7_readStep_87 : decode cX7_readStep 87 = .ok (.aload_n 0, 1) := by decide +kernel
theorem dX7_readStep_88 : decode cX7_readStep 88 = .ok (.getfield 137, 3) := by decide +kernel
theorem dX7_readStep_91 : decode cX7_readStep 91 = .ok (.getfield 222, 3) := by decide +kernel
theorem dX7_readStep_94 : decode cX7_readStep 94 = .ok (.aload_n 0, 1) := by decide +kernel
theorem dX7_readStep_95 : decode cX7_readStep 95 = .ok (.getfield 137, 3) := by decide +kernel
theorem dX7_readStep_98 : decode cX7_readStep 98 = .ok (.getfield 214, 3) := by decide +kernel
theorem dX7_readStep_101 : decode cX7_readStep 101 = .ok (.iload 4, 2) := by decide +kernel
theorem dX7_readStep_103 : decode cX7_readStep 103 = .ok (.iastore, 1) := by decide +kernel
theorem dX7_readStep_104 : decode cX7_readStep 104 = .ok (.aload_n 0, 1) := by decide +kernel
theorem dX7_readStep_105 : decode cX7_readStep 105 = .ok (.getfield 137, 3) := by decide +kernel
theorem dX7_readStep_108 : decode cX7_readStep 108 = .ok (.dup, 1) := by decide +kernel
theorem dX7_readStep_109 : decode cX7_readStep 109 = .ok (.getfield 214, 3) := by decide +kernel
theorem dX7_readStep_112 : decode cX7_readStep 112 = .ok (.iconst 1, 1) := by decide +kernel
theorem dX7_readStep_113 : decode cX7_readStep 113 = .ok (.iadd, 1) := by decide +kernel
theorem dX7_readStep_114 : decode cX7_readStep 114 = .ok (.putfield 214, 3) := by decide +kernel
theorem dX7_readStep_117 : decode cX7_readStep 117 = .ok (.return_, 1) := by decide +kernel
theorem dX7_readUnsure_0 : decode cX7_readUnsure 0 = .ok (.aload_n 0, 1) := by decide +kernel
theorem dX7_readUnsure_1 : decode cX7_readUnsure 1 = .ok (.aload_n 0, 1) := by decide +kernel
theorem dX7_readUnsure_2 : decode cX7_readUnsure 2 = .ok (.getfield 137, 3) := by decide +kernel
theorem dX7_readUnsure_5 : decode cX7_readUnsure 5 = .ok (.getfield 225, 3) := by decide +kernel
theorem dX7_readUnsure_8 : decode cX7_readUnsure 8 = .ok (.iconst 4, 1) := by decide +kernel
theorem dX7_readUnsure_9 : decode cX7_readUnsure 9 = .ok (.invokevirtual 199, 3) := by decide +kernel
theorem dX7_readUnsure_12 : decode cX7_readUnsure 12 = .ok (.aload_n 0, 1) := by decide +kernel
theorem dX7_readUnsure_13 : decode cX7_readUnsure 13 = .ok (.iconst 0, 1) := by decide +kernel
theorem dX7_readUnsure_14 : decode cX7_readUnsure 14 = .ok (.bipush 31, 2) := by decide +kernel
theorem dX7_readUnsure_16 : decode cX7_readUnsure 16 = .ok (.invokevirtual 134, 3) := by decide +kernel
theorem dX7_readUnsure_19 : decode cX7_readUnsure 19 = .ok (.istore_n 1, 1) := by decide +kernel
theorem dX7_readUnsure_20 : decode cX7_readUnsure 20 = .ok (.bipush 8, 2) := by decide +kernel
theorem dX7_readUnsure_22 : decode cX7_readUnsure 22 = .ok (.iload_n 1, 1) := by decide +kernel
theorem dX7_readUnsure_23 : decode cX7_readUnsure 23 = .ok (.imul, 1) := by decide +kernel
theorem dX7_readUnsure_24 : decode cX7_readUnsure 24 = .ok (.aload_n 0, 1) := by decide +kernel
theorem dX7_readUnsure_25 : decode cX7_readUnsure 25 = .ok (.iconst 0, 1) := by decide +kernel
theorem dX7_readUnsure_26 : decode cX7_readUnsure 26 = .ok (.bipush 7, 2) := by decide +kernel
theorem dX7_readUnsure_28 : decode cX7_readUnsure 28 = .ok (.invokevirtual 126, 3) := by decide +kernel
theorem dX7_readUnsure_31 : decode cX7_readUnsure 31 = .ok (.iadd, 1) := by decide +kernel
theorem dX7_readUnsure_32 : decode cX7_readUnsure 32 = .ok (.istore_n 2, 1) := by decide +kernel
theorem dX7_readUnsure_33 : decode cX7_readUnsure 33 = .ok (.aload_n 0, 1) := by decide +kernel
theorem dX7_readUnsure_34 : decode cX7_readUnsure 34 = .ok (.getfield 75, 3) := by decide +kernel
theorem dX7_readUnsure_37 : decode cX7_readUnsure 37 = .ok (.iconst 5, 1) := by decide +kernel
theorem dX7_readUnsure_38 : decode cX7_readUnsure 38 = .ok (.if_icmp .eq 29, 3) := by decide +kernel
theorem dX7_readUnsure_41 : decode cX7_readUnsure 41 = .ok (.aload_n 0, 1) := by decide +kernel
theorem dX7_readUnsure_42 : decode cX7_readUnsure 42 = .ok (.getfield 137, 3) := by decide +kernel
theorem dX7_readUnsure_45 : decode cX7_readUnsure 45 = .ok (.getfield 228, 3) := by decide +kernel
theorem dX7_readUnsure_48 : decode cX7_readUnsure 48 = .ok (.aload_n 0, 1) := by decide +kernel
theorem dX7_readUnsure_49 : decode cX7_readUnsure 49 = .ok (.getfield 137, 3) := by decide +kernel
theorem dX7_readUnsure_52 : decode cX7_readUnsure 52 = .ok (.getfield 225, 3) := by decide +kernel
theorem dX7_readUnsure_55 : decode cX7_readUnsure 55 = .ok (.iload_n 2, 1) := by decide +kernel
theorem dX7_readUnsure_56 : decode cX7_readUnsure 56 = .ok (.invokestatic 230, 3) := by decide +kernel
theorem dX7_readUnsure_59 : decode cX7_readUnsure 59 = .ok (.ifCond .eq 8, 3) := by decide +kernel
theorem dX7_readUnsure_62 : decode cX7_readUnsure 62 = .ok (.aload_n 0, 1) := by decide +kernel
theorem dX7_readUnsure_63 : decode cX7_readUnsure 63 = .ok (.iconst 3, 1) := by decide +kernel
theorem dX7_readUnsure_64 : decode cX7_readUnsure 64 = .ok (.invokevirtual 118, 3) := by decide +kernel
theorem dX7_readUnsure_67 : decode cX7_readUnsure 67 = .ok (.aload_n 0, 1) := by decide +kernel
theorem dX7_readUnsure_68 : decode cX7_readUnsure 68 = .ok (.invokevirtual 111, 3) := by decide +kernel
theorem dX7_readUnsure_71 : decode cX7_readUnsure 71 = .ok (.aload_n 0, 1) := by decide +kernel
theorem dX7_readUnsure_72 : decode cX7_readUnsure 72 = .ok (.iconst 0, 1) := by decide +kernel
theorem dX7_readUnsure_73 : decode cX7_readUnsure 73 = .ok (.ldc 210, 2) := by decide +kernel
theorem dX7_readUnsure_75 : decode cX7_readUnsure 75 = .ok (.invokevirtual 134, 3) := by decide +kernel
theorem dX7_readUnsure_78 : decode cX7_readUnsure 78 = .ok (.istore_n 3, 1) := by decide +kernel
theorem dX7_readUnsure_79 : decode cX7_readUnsure 79 = .ok (.aload_n 0, 1) := by decide +kernel
theorem dX7_readUnsure_80 : decode cX7_readUnsure 80 = .ok (.getfield 75, 3) := by decide +kernel
theorem dX7_readUnsure_83 : decode cX7_readUnsure 83 = .ok (.iconst 5, 1) := by decide +kernel
theorem dX7_readUnsure_84 : decode cX7_readUnsure 84 = .ok (.if_icmp .ne 4, 3) := by decide +kernel
theorem dX7_readUnsure_87 : decode cX7_readUnsure 87 = .ok (.return_, 1) := by decide +kernel
theorem dX7_readUnsure_88 : decode cX7_readUnsure 88 = .ok (.aload_n 0, 1) := by decide +kernel
theorem dX7_readUnsure_89 : decode cX7_readUnsure 89 = .ok (.getfield 137, 3) := by decide +kernel
theorem dX7_readUnsure_92 : decode cX7_readUnsure 92 = .ok (.getfield 228, 3) := by decide +kernel
theorem dX7_readUnsure_95 : decode cX7_readUnsure 95 = .ok (.aload_n 0, 1) := by decide +kernel
theorem dX7_readUnsure_96 : decode cX7_readUnsure 96 = .ok (.getfield 137, 3) := by decide +kernel
theorem dX7_readUnsure_99 : decode cX7_readUnsure 99 = .ok (.getfield 225, 3) := by decide +kernel
theorem dX7_readUnsure_102 : decode cX7_readUnsure 102 = .ok (.iload_n 2, 1) := by decide +kernel
theorem dX7_readUnsure_103 : decode cX7_readUnsure 103 = .ok (.iastore, 1) := by decide +kernel
theorem dX7_readUnsure_104 : decode cX7_readUnsure 104 = .ok (.aload_n 0, 1) := by decide +kernel
theorem dX7_readUnsure_105 : decode cX7_readUnsure 105 = .ok (.getfield 137, 3) := by decide +kernel
theorem dX7_readUnsure_108 : decode cX7_readUnsure 108 = .ok (.getfield 234, 3) := by decide +kernel
theorem dX7_readUnsure_111 : decode cX7_readUnsure 111 = .ok (.aload_n 0, 1) := by decide +kernel
theorem dX7_readUnsure_112 : decode cX7_readUnsure 112 = .ok (.getfield 137, 3) := by decide +kernel
theorem dX7_readUnsure_115 : decode cX7_readUnsure 115 = .ok (.getfield 225, 3) := by decide +kernel
theorem dX7_readUnsure_118 : decode cX7_readUnsure 118 = .ok (.iload_n 3, 1) := by decide +kernel
theorem dX7_readUnsure_119 : decode cX7_readUnsure 119 = .ok (.iastore, 1) := by decide +kernel
theorem dX7_readUnsure_120 : decode cX7_readUnsure 120 = .ok (.aload_n 0, 1) := by decide +kernel
theorem dX7_readUnsure_121 : decode cX7_readUnsure 121 = .ok (.getfield 137, 3) := by decide +kernel
theorem dX7_readUnsure_124 : decode cX7_readUnsure 124 = .ok (.dup, 1) := by decide +kernel
theorem dX7_readUnsure_125 : decode cX7_readUnsure 125 = .ok (.getfield 225, 3) := by decide +kernel
theorem dX7_readUnsure_128 : decode cX7_readUnsure 128 = .ok (.iconst 1, 1) := by decide +kernel
theorem dX7_readUnsure_129 : decode cX7_readUnsure 129 = .ok (.iadd, 1) := by decide +kernel
theorem dX7_readUnsure_130 : decode cX7_readUnsure 130 = .ok (.putfield 225, 3) := by decide +kernel
theorem dX7_readUnsure_133 : decode cX7_readUnsure 133 = .ok (.return_, 1) := by decide +kernel
theorem dX7_readSaw_0 : decode cX7_readSaw 0 = .ok (.aload_n 0, 1) := by decide +kernel
theorem dX7_readSaw_1 : decode cX7_readSaw 1 = .ok (.aload_n 0, 1) := by decide +kernel
theorem dX7_readSaw_2 : decode cX7_readSaw 2 = .ok (.getfield 137, 3) := by decide +kernel
theorem dX7_readSaw_5 : decode cX7_readSaw 5 = .ok (.getfield 237, 3) := by decide +kernel
theorem dX7_readSaw_8 : decode cX7_readSaw 8 = .ok (.bipush 6, 2) := by decide +kernel
theorem dX7_readSaw_10 : decode cX7_readSaw 10 = .ok (.invokevirtual 199, 3) := by decide +kernel
theorem dX7_readSaw_13 : decode cX7_readSaw 13 = .ok (.aload_n 0, 1) := by decide +kernel
theorem dX7_readSaw_14 : decode cX7_readSaw 14 = .ok (.getfield 75, 3) := by decide +kernel
theorem dX7_readSaw_17 : decode cX7_readSaw 17 = .ok (.iconst 3, 1) := by decide +kernel
theorem dX7_readSaw_18 : decode cX7_readSaw 18 = .ok (.if_icmp .eq 11, 3) := by decide +kernel
theorem dX7_readSaw_21 : decode cX7_readSaw 21 = .ok (.aload_n 0, 1) := by decide +kernel
theorem dX7_readSaw_22 : decode cX7_readSaw 22 = .ok (.iconst 1, 1) := by decide +kernel
theorem dX7_readSaw_23 : decode cX7_readSaw 23 = .ok (.invokevirtual 118, 3) := by decide +kernel
theorem dX7_readSaw_26 : decode cX7_readSaw 26 = .ok (.goto 54, 3) := by decide +kernel
theorem dX7_readSaw_29 : decode cX7_readSaw 29 = .ok (.aload_n 0, 1) := by decide +kernel
theorem dX7_readSaw_30 : decode cX7_readSaw 30 = .ok (.getfield 98, 3) := by decide +kernel
theorem dX7_readSaw_33 : decode cX7_readSaw 33 = .ok (.aload_n 0, 1) := by decide +kernel
theorem dX7_readSaw_34 : decode cX7_readSaw 34 = .ok (.getfield 137, 3) := by decide +kernel
theorem dX7_readSaw_37 : decode cX7_readSaw 37 = .ok (.getfield 214, 3) := by decide +kernel
theorem dX7_readSaw_40 : decode cX7_readSaw 40 = .ok (.if_icmp .lt 11, 3) := by decide +kernel
theorem dX7_readSaw_43 : decode cX7_readSaw 43 = .ok (.aload_n 0, 1) := by decide +kernel
theorem dX7_readSaw_44 : decode cX7_readSaw 44 = .ok (.iconst 2, 1) := by decide +kernel
theorem dX7_readSaw_45 : decode cX7_readSaw 45 = .ok (.invokevirtual 118, 3) := by decide +kernel
theorem dX7_readSaw_48 : decode cX7_readSaw 48 = .ok (.goto 32, 3) := by decide +kernel
theorem dX7_readSaw_51 : decode cX7_readSaw 51 = .ok (.aload_n 0, 1) := by decide +kernel
theorem dX7_readSaw_52 : decode cX7_readSaw 52 = .ok (.getfield 137, 3) := by decide +kernel
theorem dX7_readSaw_55 : decode cX7_readSaw 55 = .ok (.getfield 240, 3) := by decide +kernel
theorem dX7_readSaw_58 : decode cX7_readSaw 58 = .ok (.aload_n 0, 1) := by decide +kernel
theorem dX7_readSaw_59 : decode cX7_readSaw 59 = .ok (.getfield 137, 3) := by decide +kernel
theorem dX7_readSaw_62 : decode cX7_readSaw 62 = .ok (.getfield 237, 3) := by decide +kernel
theorem dX7_readSaw_65 : decode cX7_readSaw 65 = .ok (.aload_n 0, 1) := by decide +kernel
theorem dX7_readSaw_66 : decode cX7_readSaw 66 = .ok (.getfield 98, 3) := by decide +kernel
theorem dX7_readSaw_69 : decode cX7_readSaw 69 = .ok (.invokestatic 230, 3) := by decide +kernel
theorem dX7_readSaw_72 : decode cX7_readSaw 72 = .ok (.ifCond .eq 8, 3) := by decide +kernel
theorem dX7_readSaw_75 : decode cX7_readSaw 75 = .ok (.aload_n 0, 1) := by decide +kernel
theorem dX7_readSaw_76 : decode cX7_readSaw 76 = .ok (.iconst 3, 1) := by decide +kernel
theorem dX7_readSaw_77 : decode cX7_readSaw 77 = .ok (.invokevirtual 118, 3) := by decide +kernel
theorem dX7_readSaw_80 : decode cX7_readSaw 80 = .ok (.aload_n 0, 1) := by decide +kernel
theorem dX7_readSaw_81 : decode cX7_readSaw 81 = .ok (.getfield 98, 3) := by decide +kernel
theorem dX7_readSaw_84 : decode cX7_readSaw 84 = .ok (.istore_n 1, 1) := by decide +kernel
theorem dX7_readSaw_85 : decode cX7_readSaw 85 = .ok (.aload_n 0, 1) := by decide +kernel
theorem dX7_readSaw_86 : decode cX7_readSaw 86 = .ok (.invokevirtual 111, 3) := by decide +kernel
theorem dX7_readSaw_89 : decode cX7_readSaw 89 = .ok (.aload_n 0, 1) := by decide +kernel
theorem dX7_readSaw_90 : decode cX7_readSaw 90 = .ok (.ldc 242, 2) := by decide +kernel
theorem dX7_readSaw_92 : decode cX7_readSaw 92 = .ok (.invokevirtual 114, 3) := by decide +kernel
theorem dX7_readSaw_95 : decode cX7_readSaw 95 = .ok (.istore_n 2, 1) := by decide +kernel
theorem dX7_readSaw_96 : decode cX7_readSaw 96 = .ok (.iload_n 2, 1) := by decide +kernel
theorem dX7_readSaw_97 : decode cX7_readSaw 97 = .ok (.ifCond .ne 17, 3) := by decide +kernel
theorem dX7_readSaw_100 : decode cX7_readSaw 100 = .ok (.aload_n 0, 1) := by decide +kernel
theorem dX7_readSaw_101 : decode cX7_readSaw 101 = .ok (.ldc 244, 2) := by decide +kernel
theorem dX7_readSaw_103 : decode cX7_readSaw 103 = .ok (.invokevirtual 114, 3) := by decide +kernel
theorem dX7_readSaw_106 : decode cX7_readSaw 106 = .ok (.ifCond .ne 8, 3) := by decide +kernel
theorem dX7_readSaw_109 : decode cX7_readSaw 109 = .ok (.aload_n 0, 1) := by decide +kernel
theorem dX7_readSaw_110 : decode cX7_readSaw 110 = .ok (.iconst 1, 1) := by decide +kernel
theorem dX7_readSaw_111 : decode cX7_readSaw 111 = .ok (.invokevirtual 118, 3) := by decide +kernel
theorem dX7_readSaw_114 : decode cX7_readSaw 114 = .ok (.aload_n 0, 1) := by decide +kernel
theorem dX7_readSaw_115 : decode cX7_readSaw 115 = .ok (.invokevirtual 111, 3) := by decide +kernel
theorem dX7_readSaw_118 : decode cX7_readSaw 118 = .ok (.aload_n 0, 1) := by decide +kernel
theorem dX7_readSaw_119 : decode cX7_readSaw 119 = .ok (.getfield 75, 3) := by decide +kernel
theorem dX7_readSaw_122 : decode cX7_readSaw 122 = .ok (.iconst 5, 1) := by decide +kernel
theorem dX7_readSaw_123 : decode cX7_readSaw 123 = .ok (.if_icmp .ne 4, 3) := by decide +kernel
theorem dX7_readSaw_126 : decode cX7_readSaw 126 = .ok (.return_, 1) := by decide +kernel
theorem dX7_readSaw_127 : decode cX7_readSaw 127 = .ok (.aload_n 0, 1) := by decide +kernel
theorem dX7_readSaw_128 : decode cX7_readSaw 128 = .ok (.getfield 137, 3) := by decide +kernel
theorem dX7_readSaw_131 : decode cX7_readSaw 131 = .ok (.getfield 240, 3) := by decide +kernel
theorem dX7_readSaw_134 : decode cX7_readSaw 134 = .ok (.aload_n 0, 1) := by decide +kernel
theorem dX7_readSaw_135 : decode cX7_readSaw 135 = .ok (.getfield 137, 3) := by decide +kernel
theorem dX7_readSaw_138 : decode cX7_readSaw 138 = .ok (.getfield 237, 3) := by decide +kernel
theorem dX7_readSaw_141 : decode cX7_readSaw 141 = .ok (.iload_n 1, 1) := by decide +kernel
theorem dX7_readSaw_142 : decode cX7_readSaw 142 = .ok (.iastore, 1) := by decide +kernel
theorem dX7_readSaw_143 : decode cX7_readSaw 143 = .ok (.aload_n 0, 1) := by decide +kernel
theorem dX7_readSaw_144 : decode cX7_readSaw 144 = .ok (.getfield 137, 3) := by decide +kernel
theorem dX7_readSaw_147 : decode cX7_readSaw 147 = .ok (.dup, 1) := by decide +kernel
theorem dX7_readSaw_148 : decode cX7_readSaw 148 = .ok (.getfield 246, 3) := by decide +kernel
theorem dX7_readSaw_151 : decode cX7_readSaw 151 = .ok (.iload_n 2, 1) := by decide +kernel
theorem dX7_readSaw_152 : decode cX7_readSaw 152 = .ok (.ifCond .eq 15, 3) := by decide +kernel
theorem dX7_readSaw_155 : decode cX7_readSaw 155 = .ok (.iconst 1, 1) := by decide +kernel
theorem dX7_readSaw_156 : decode cX7_readSaw 156 = .ok (.aload_n 0, 1) := by decide +kernel
theorem dX7_readSaw_157 : decode cX7_readSaw 157 = .ok (.getfield 137, 3) := by decide +kernel
theorem dX7_readSaw_160 : decode cX7_readSaw 160 = .ok (.getfield 237, 3) := by decide +kernel
theorem dX7_readSaw_163 : decode cX7_readSaw 163 = .ok (.ishl, 1) := by decide +kernel
theorem dX7_readSaw_164 : decode cX7_readSaw 164 = .ok (.goto 4, 3) := by decide +kernel
theorem dX7_readSaw_167 : decode cX7_readSaw 167 = .ok (.iconst 0, 1) := by decide +kernel
theorem dX7_readSaw_168 : decode cX7_readSaw 168 = .ok (.ior, 1) := by decide +kernel
theorem dX7_readSaw_169 : decode cX7_readSaw 169 = .ok (.putfield 246, 3) := by decide +kernel
theorem dX7_readSaw_172 : decode cX7_readSaw 172 = .ok (.aload_n 0, 1) := by decide +kernel
theorem dX7_readSaw_173 : decode cX7_readSaw 173 = .ok (.getfield 137, 3) := by decide +kernel
theorem dX7_readSaw_176 : decode cX7_readSaw 176 = .ok (.dup, 1) := by decide +kernel
theorem dX7_readSaw_177 : decode cX7_readSaw 177 = .ok (.getfield 237, 3) := by decide +kernel
theorem dX7_readSaw_180 : decode cX7_readSaw 180 = .ok (.iconst 1, 1) := by decide +kernel
theorem dX7_readSaw_181 : decode cX7_readSaw 181 = .ok (.iadd, 1) := by decide +kernel
theorem dX7_readSaw_182 : decode cX7_readSaw 182 = .ok (.putfield 237, 3) := by decide +kernel
theorem dX7_readSaw_185 : decode cX7_readSaw 185 = .ok (.return_, 1) := by decide +kernel
theorem dX7_feed_0 : decode cX7_feed 0 = .ok (.aload_n 0, 1) := by decide +kernel
theorem dX7_feed_1 : decode cX7_feed 1 = .ok (.iconst 0, 1) := by decide +kernel
theorem dX7_feed_2 : decode cX7_feed 2 = .ok (.putfield 43, 3) := by decide +kernel
theorem dX7_feed_5 : decode cX7_feed 5 = .ok (.aload_n 0, 1) := by decide +kernel
theorem dX7_feed_6 : decode cX7_feed 6 = .ok (.getfield 248, 3) := by decide +kernel
theorem dX7_feed_9 : decode cX7_feed 9 = .ok (.bipush 20, 2) := by decide +kernel
theorem dX7_feed_11 : decode cX7_feed 11 = .ok (.iadd, 1) := by decide +kernel
theorem dX7_feed_12 : decode cX7_feed 12 = .ok (.sipush 1200, 3) := by decide +kernel
theorem dX7_feed_15 : decode cX7_feed 15 = .ok (.if_icmp .le 5, 3) := by decide +kernel
theorem dX7_feed_18 : decode cX7_feed 18 = .ok (.iconst (-1), 1) := by decide +kernel
theorem dX7_feed_19 : decode cX7_feed 19 = .ok (.ireturn, 1) := by decide +kernel
theorem dX7_feed_20 : decode cX7_feed 20 = .ok (.iconst 0, 1) := by decide +kernel
theorem dX7_feed_21 : decode cX7_feed 21 = .ok (.istore 6, 2) := by decide +kernel
theorem dX7_feed_23 : decode cX7_feed 23 = .ok (.iload 6, 2) := by decide +kernel
theorem dX7_feed_25 : decode cX7_feed 25 = .ok (.bipush 20, 2) := by decide +kernel
theorem dX7_feed_27 : decode cX7_feed 27 = .ok (.if_icmp .ge 90, 3) := by decide +kernel
theorem dX7_feed_30 : decode cX7_feed 30 = .ok (.iload 6, 2) := by decide +kernel
theorem dX7_feed_32 : decode cX7_feed 32 = .ok (.iconst 4, 1) := by decide +kernel
theorem dX7_feed_33 : decode cX7_feed 33 = .ok (.if_icmp .ge 7, 3) := by decide +kernel
theorem dX7_feed_36 : decode cX7_feed 36 = .ok (.iload_n 1, 1) := by decide +kernel
theorem dX7_feed_37 : decode cX7_feed 37 = .ok (.goto 39, 3) := by decide +kernel
theorem dX7_feed_40 : decode cX7_feed 40 = .ok (.iload 6, 2) := by decide +kernel
theorem dX7_feed_42 : decode cX7_feed 42 = .ok (.bipush 8, 2) := by decide +kernel
theorem dX7_feed_44 : decode cX7_feed 44 = .ok (.if_icmp .ge 7, 3) := by decide +kernel
theorem dX7_feed_47 : decode cX7_feed 47 = .ok (.iload_n 2, 1) := by decide +kernel
theorem dX7_feed_48 : decode cX7_feed 48 = .ok (.goto 28, 3) := by decide +kernel
theorem dX7_feed_51 : decode cX7_feed 51 = .ok (.iload 6, 2) := by decide +kernel
theorem dX7_feed_53 : decode cX7_feed 53 = .ok (.bipush 12, 2) := by decide +kernel
theorem dX7_feed_55 : decode cX7_feed 55 = .ok (.if_icmp .ge 7, 3) := by decide +kernel
theorem dX7_feed_58 : decode cX7_feed 58 = .ok (.iload_n 3, 1) := by decide +kernel
theorem dX7_feed_59 : decode cX7_feed 59 = .ok (.goto 17, 3) := by decide +kernel
theorem dX7_feed_62 : decode cX7_feed 62 = .ok (.iload 6, 2) := by decide +kernel
theorem dX7_feed_64 : decode cX7_feed 64 = .ok (.bipush 16, 2) := by decide +kernel
theorem dX7_feed_66 : decode cX7_feed 66 = .ok (.if_icmp .ge 8, 3) := by decide +kernel
theorem dX7_feed_69 : decode cX7_feed 69 = .ok (.iload 4, 2) := by decide +kernel
theorem dX7_feed_71 : decode cX7_feed 71 = .ok (.goto 5, 3) := by decide +kernel
theorem dX7_feed_74 : decode cX7_feed 74 = .ok (.iload 5, 2) := by decide +kernel
theorem dX7_feed_76 : decode cX7_feed 76 = .ok (.istore 7, 2) := by decide +kernel
theorem dX7_feed_78 : decode cX7_feed 78 = .ok (.aload_n 0, 1) := by decide +kernel
theorem dX7_feed_79 : decode cX7_feed 79 = .ok (.getfield 13, 3) := by decide +kernel
theorem dX7_feed_82 : decode cX7_feed 82 = .ok (.aload_n 0, 1) := by decide +kernel
theorem dX7_feed_83 : decode cX7_feed 83 = .ok (.getfield 248, 3) := by decide +kernel
theorem dX7_feed_86 : decode cX7_feed 86 = .ok (.iload 7, 2) := by decide +kernel
theorem dX7_feed_88 : decode cX7_feed 88 = .ok (.bipush 24, 2) := by decide +kernel
theorem dX7_feed_90 : decode cX7_feed 90 = .ok (.bipush 8, 2) := by decide +kernel
theorem dX7_feed_92 : decode cX7_feed 92 = .ok (.iload 6, 2) := by decide +kernel
theorem dX7_feed_94 : decode cX7_feed 94 = .ok (.iconst 4, 1) := by decide +kernel
theorem dX7_feed_95 : decode cX7_feed 95 = .ok (.irem, 1) := by decide +kernel
theorem dX7_feed_96 : decode cX7_feed 96 = .ok (.imul, 1) := by decide +kernel
theorem dX7_feed_97 : decode cX7_feed 97 = .ok (.isub, 1) := by decide +kernel
theorem dX7_feed_98 : decode cX7_feed 98 = .ok (.ishr, 1) := by decide +kernel
theorem dX7_feed_99 : decode cX7_feed 99 = .ok (.i2b, 1) := by decide +kernel
theorem dX7_feed_100 : decode cX7_feed 100 = .ok (.bastore, 1) := by decide +kernel
theorem dX7_feed_101 : decode cX7_feed 101 = .ok (.aload_n 0, 1) := by decide +kernel
theorem dX7_feed_102 : decode cX7_feed 102 = .ok (.dup, 1) := by decide +kernel
theorem dX7_feed_103 : decode cX7_feed 103 = .ok (.getfield 248, 3) := by decide +kernel
theorem dX7_feed_106 : decode cX7_feed 106 = .ok (.iconst 1, 1) := by decide +kernel
theorem dX7_feed_107 : decode cX7_feed 107 = .ok (.iadd, 1) := by decide +kernel
theorem dX7_feed_108 : decode cX7_feed 108 = .ok (.putfield 248, 3) := by decide +kernel
theorem dX7_feed_111 : decode cX7_feed 111 = .ok (.iinc 6 1, 3) := by decide +kernel
theorem dX7_feed_114 : decode cX7_feed 114 = .ok (.goto (-91), 3) := by decide +kernel
theorem dX7_feed_117 : decode cX7_feed 117 = .ok (.aload_n 0, 1) := by decide +kernel
theorem dX7_feed_118 : decode cX7_feed 118 = .ok (.getfield 248, 3) := by decide +kernel
theorem dX7_feed_121 : decode cX7_feed 121 = .ok (.ireturn, 1) := by decide +kernel
theorem dX7_cache_0 : decode cX7_cache 0 = .ok (.aload_n 0, 1) := by decide +kernel
theorem dX7_cache_1 : decode cX7_cache 1 = .ok (.iconst 0, 1) := by decide +kernel
theorem dX7_cache_2 : decode cX7_cache 2 = .ok (.putfield 43, 3) := by decide +kernel
theorem dX7_cache_5 : decode cX7_cache 5 = .ok (.iload_n 1, 1) := by decide +kernel
theorem dX7_cache_6 : decode cX7_cache 6 = .ok (.ifCond .lt 11, 3) := by decide +kernel
theorem dX7_cache_9 : decode cX7_cache 9 = .ok (.iload_n 1, 1) := by decide +kernel
theorem dX7_cache_10 : decode cX7_cache 10 = .ok (.aload_n 0, 1) := by decide +kernel
theorem dX7_cache_11 : decode cX7_cache 11 = .ok (.getfield 248, 3) := by decide +kernel
theorem dX7_cache_14 : decode cX7_cache 14 = .ok (.if_icmp .le 9, 3) := by decide +kernel
theorem dX7_cache_17 : decode cX7_cache 17 = .ok (.aload_n 0, 1) := by decide +kernel
theorem dX7_cache_18 : decode cX7_cache 18 = .ok (.iconst 2, 1) := by decide +kernel
theorem dX7_cache_19 : decode cX7_cache 19 = .ok (.invokevirtual 49, 3) := by decide +kernel
theorem dX7_cache_22 : decode cX7_cache 22 = .ok (.ireturn, 1) := by decide +kernel
theorem dX7_cache_23 : decode cX7_cache 23 = .ok (.aload_n 0, 1) := by decide +kernel
theorem dX7_cache_24 : decode cX7_cache 24 = .ok (.iload_n 1, 1) := by decide +kernel
theorem dX7_cache_25 : decode cX7_cache 25 = .ok (.putfield 60, 3) := by decide +kernel
theorem dX7_cache_28 : decode cX7_cache 28 = .ok (.aload_n 0, 1) := by decide +kernel
theorem dX7_cache_29 : decode cX7_cache 29 = .ok (.iconst 0, 1) := by decide +kernel
theorem dX7_cache_30 : decode cX7_cache 30 = .ok (.putfield 248, 3) := by decide +kernel
theorem dX7_cache_33 : decode cX7_cache 33 = .ok (.aload_n 0, 1) := by decide +kernel
theorem dX7_cache_34 : decode cX7_cache 34 = .ok (.iconst 0, 1) := by decide +kernel
theorem dX7_cache_35 : decode cX7_cache 35 = .ok (.putfield 78, 3) := by decide +kernel
theorem dX7_cache_38 : decode cX7_cache 38 = .ok (.aload_n 0, 1) := by decide +kernel
theorem dX7_cache_39 : decode cX7_cache 39 = .ok (.iconst 0, 1) := by decide +kernel
theorem dX7_cache_40 : decode cX7_cache 40 = .ok (.putfield 101, 3) := by decide +kernel
theorem dX7_cache_43 : decode cX7_cache 43 = .ok (.aload_n 0, 1) := by decide +kernel
theorem dX7_cache_44 : decode cX7_cache 44 = .ok (.new 142, 3) := by decide +kernel
theorem dX7_cache_47 : decode cX7_cache 47 = .ok (.dup, 1) := by decide +kernel
theorem dX7_cache_48 : decode cX7_cache 48 = .ok (.invokespecial 251, 3) := by decide +kernel
theorem dX7_cache_51 : decode cX7_cache 51 = .ok (.putfield 137, 3) := by decide +kernel
theorem dX7_cache_54 : decode cX7_cache 54 = .ok (.aload_n 0, 1) := by decide +kernel
theorem dX7_cache_55 : decode cX7_cache 55 = .ok (.iconst 0, 1) := by decide +kernel
theorem dX7_cache_56 : decode cX7_cache 56 = .ok (.putfield 75, 3) := by decide +kernel
theorem dX7_cache_59 : decode cX7_cache 59 = .ok (.aload_n 0, 1) := by decide +kernel
theorem dX7_cache_60 : decode cX7_cache 60 = .ok (.invokevirtual 111, 3) := by decide +kernel
theorem dX7_cache_63 : decode cX7_cache 63 = .ok (.aload_n 0, 1) := by decide +kernel
theorem dX7_cache_64 : decode cX7_cache 64 = .ok (.invokevirtual 252, 3) := by decide +kernel
theorem dX7_cache_67 : decode cX7_cache 67 = .ok (.aload_n 0, 1) := by decide +kernel
theorem dX7_cache_68 : decode cX7_cache 68 = .ok (.getfield 101, 3) := by decide +kernel
theorem dX7_cache_71 : decode cX7_cache 71 = .ok (.ifCond .le 18, 3) := by decide +kernel
theorem dX7_cache_74 : decode cX7_cache 74 = .ok (.aload_n 0, 1) := by decide +kernel
theorem dX7_cache_75 : decode cX7_cache 75 = .ok (.iconst 4, 1) := by decide +kernel
theorem dX7_cache_76 : decode cX7_cache 76 = .ok (.putfield 46, 3) := by decide +kernel
theorem dX7_cache_79 : decode cX7_cache 79 = .ok (.aload_n 0, 1) := by decide +kernel
theorem dX7_cache_80 : decode cX7_cache 80 = .ok (.aload_n 0, 1) := by decide +kernel
theorem dX7_cache_81 : decode cX7_cache 81 = .ok (.getfield 104, 3) := by decide +kernel
theorem dX7_cache_84 : decode cX7_cache 84 = .ok (.putfield 9, 3) := by decide +kernel
theorem dX7_cache_87 : decode cX7_cache 87 = .ok (.iconst (-1), 1) := by decide +kernel
theorem dX7_cache_88 : decode cX7_cache 88 = .ok (.ireturn, 1) := by decide +kernel
theorem dX7_cache_89 : decode cX7_cache 89 = .ok (.aload_n 0, 1) := by decide +kernel
theorem dX7_cache_90 : decode cX7_cache 90 = .ok (.aload_n 0, 1) := by decide +kernel
theorem dX7_cache_91 : decode cX7_cache 91 = .ok (.getfield 137, 3) := by decide +kernel
theorem dX7_cache_94 : decode cX7_cache 94 = .ok (.putfield 255, 3) := by decide +kernel
theorem dX7_cache_97 : decode cX7_cache 97 = .ok (.aload_n 0, 1) := by decide +kernel
theorem dX7_cache_98 : decode cX7_cache 98 = .ok (.iconst 0, 1) := by decide +kernel
theorem dX7_cache_99 : decode cX7_cache 99 = .ok (.invokevirtual 257, 3) := by decide +kernel
theorem dX7_cache_102 : decode cX7_cache 102 = .ok (.aload_n 0, 1) := by decide +kernel
theorem dX7_cache_103 : decode cX7_cache 103 = .ok (.invokevirtual 260, 3) := by decide +kernel
theorem dX7_cache_106 : decode cX7_cache 106 = .ok (.aload_n 0, 1) := by decide +kernel
theorem dX7_cache_107 : decode cX7_cache 107 = .ok (.iconst 0, 1) := by decide +kernel
theorem dX7_cache_108 : decode cX7_cache 108 = .ok (.putfield 263, 3) := by decide +kernel
theorem dX7_cache_111 : decode cX7_cache 111 = .ok (.aload_n 0, 1) := by decide +kernel
theorem dX7_cache_112 : decode cX7_cache 112 = .ok (.iconst 0, 1) := by decide +kernel
theorem dX7_cache_113 : decode cX7_cache 113 = .ok (.putfield 266, 3) := by decide +kernel
theorem dX7_cache_116 : decode cX7_cache 116 = .ok (.aload_n 0, 1) := by decide +kernel
theorem dX7_cache_117 : decode cX7_cache 117 = .ok (.aload_n 0, 1) := by decide +kernel
theorem dX7_cache_118 : decode cX7_cache 118 = .ok (.getfield 255, 3) := by decide +kernel
theorem dX7_cache_121 : decode cX7_cache 121 = .ok (.getfield 214, 3) := by decide +kernel
theorem dX7_cache_124 : decode cX7_cache 124 = .ok (.invokevirtual 53, 3) := by decide +kernel
theorem dX7_cache_127 : decode cX7_cache 127 = .ok (.ireturn, 1) := by decide +kernel
theorem dX7_fault_0 : decode cX7_fault 0 = .ok (.aload_n 0, 1) := by decide +kernel
theorem dX7_fault_1 : decode cX7_fault 1 = .ok (.iconst 0, 1) := by decide +kernel
theorem dX7_fault_2 : decode cX7_fault 2 = .ok (.putfield 43, 3) := by decide +kernel
theorem dX7_fault_5 : decode cX7_fault 5 = .ok (.aload_n 0, 1) := by decide +kernel
theorem dX7_fault_6 : decode cX7_fault 6 = .ok (.getfield 101, 3) := by decide +kernel
theorem dX7_fault_9 : decode cX7_fault 9 = .ok (.ireturn, 1) := by decide +kernel
theorem dX7_where_0 : decode cX7_where 0 = .ok (.aload_n 0, 1) := by decide +kernel
theorem dX7_where_1 : decode cX7_where 1 = .ok (.iconst 0, 1) := by decide +kernel
theorem dX7_where_2 : decode cX7_where 2 = .ok (.putfield 43, 3) := by decide +kernel
theorem dX7_where_5 : decode cX7_where 5 = .ok (.aload_n 0, 1) := by decide +kernel
theorem dX7_where_6 : decode cX7_where 6 = .ok (.getfield 9, 3) := by decide +kernel
theorem dX7_where_9 : decode cX7_where 9 = .ok (.ireturn, 1) := by decide +kernel
theorem dX7_begins_0 : decode cX7_begins 0 = .ok (.aload_n 0, 1) := by decide +kernel
theorem dX7_begins_1 : decode cX7_begins 1 = .ok (.aload_n 0, 1) := by decide +kernel
theorem dX7_begins_2 : decode cX7_begins 2 = .ok (.getfield 255, 3) := by decide +kernel
theorem dX7_begins_5 : decode cX7_begins 5 = .ok (.getfield 191, 3) := by decide +kernel
theorem dX7_begins_8 : decode cX7_begins 8 = .ok (.putfield 269, 3) := by decide +kernel
theorem dX7_begins_11 : decode cX7_begins 11 = .ok (.aload_n 0, 1) := by decide +kernel
theorem dX7_begins_12 : decode cX7_begins 12 = .ok (.iconst 0, 1) := by decide +kernel
theorem dX7_begins_13 : decode cX7_begins 13 = .ok (.putfield 270, 3) := by decide +kernel
theorem dX7_begins_16 : decode cX7_begins 16 = .ok (.aload_n 0, 1) := by decide +kernel
theorem dX7_begins_17 : decode cX7_begins 17 = .ok (.iconst 0, 1) := by decide +kernel
theorem dX7_begins_18 : decode cX7_begins 18 = .ok (.putfield 273, 3) := by decide +kernel
theorem dX7_begins_21 : decode cX7_begins 21 = .ok (.return_, 1) := by decide +kernel
theorem dX7_works_0 : decode cX7_works 0 = .ok (.iconst 0, 1) := by decide +kernel
theorem dX7_works_1 : decode cX7_works 1 = .ok (.istore_n 1, 1) := by decide +kernel
theorem dX7_works_2 : decode cX7_works 2 = .ok (.iload_n 1, 1) := by decide +kernel
theorem dX7_works_3 : decode cX7_works 3 = .ok (.sipush 609, 3) := by decide +kernel
theorem dX7_works_6 : decode cX7_works 6 = .ok (.if_icmp .ge 21, 3) := by decide +kernel
theorem dX7_works_9 : decode cX7_works 9 = .ok (.aload_n 0, 1) := by decide +kernel
theorem dX7_works_10 : decode cX7_works 10 = .ok (.getfield 21, 3) := by decide +kernel
theorem dX7_works_13 : decode cX7_works 13 = .ok (.iload_n 1, 1) := by decide +kernel
theorem dX7_works_14 : decode cX7_works 14 = .ok (.aload_n 0, 1) := by decide +kernel
theorem dX7_works_15 : decode cX7_works 15 = .ok (.getfield 17, 3) := by decide +kernel
theorem dX7_works_18 : decode cX7_works 18 = .ok (.iload_n 1, 1) := by decide +kernel
theorem dX7_works_19 : decode cX7_works 19 = .ok (.iaload, 1) := by decide +kernel
theorem dX7_works_20 : decode cX7_works 20 = .ok (.iastore, 1) := by decide +kernel
theorem dX7_works_21 : decode cX7_works 21 = .ok (.iinc 1 1, 3) := by decide +kernel
theorem dX7_works_24 : decode cX7_works 24 = .ok (.goto (-22), 3) := by decide +kernel
theorem dX7_works_27 : decode cX7_works 27 = .ok (.aload_n 0, 1) := by decide +kernel
theorem dX7_works_28 : decode cX7_works 28 = .ok (.invokevirtual 276, 3) := by decide +kernel
theorem dX7_works_31 : decode cX7_works 31 = .ok (.return_, 1) := by decide +kernel
theorem dX7_remains_0 : decode cX7_remains 0 = .ok (.iconst 0, 1) := by decide +kernel
theorem dX7_remains_1 : decode cX7_remains 1 = .ok (.istore_n 1, 1) := by decide +kernel
theorem dX7_remains_2 : decode cX7_remains 2 = .ok (.iload_n 1, 1) := by decide +kernel
theorem dX7_remains_3 : decode cX7_remains 3 = .ok (.sipush 609, 3) := by decide +kernel
theorem dX7_remains_6 : decode cX7_remains 6 = .ok (.if_icmp .ge 21, 3) := by decide +kernel
theorem dX7_remains_9 : decode cX7_remains 9 = .ok (.aload_n 0, 1) := by decide +kernel
theorem dX7_remains_10 : decode cX7_remains 10 = .ok (.getfield 17, 3) := by decide +kernel
theorem dX7_remains_13 : decode cX7_remains 13 = .ok (.iload_n 1, 1) := by decide +kernel
theorem dX7_remains_14 : decode cX7_remains 14 = .ok (.aload_n 0, 1) := by decide +kernel
theorem dX7_remains_15 : decode cX7_remains 15 = .ok (.getfield 21, 3) := by decide +kernel
theorem dX7_remains_18 : decode cX7_remains 18 = .ok (.iload_n 1, 1) := by decide +kernel
theorem dX7_remains_19 : decode cX7_remains 19 = .ok (.iaload, 1) := by decide +kernel
theorem dX7_remains_20 : decode cX7_remains 20 = .ok (.iastore, 1) := by decide +kernel
theorem dX7_remains_21 : decode cX7_remains 21 = .ok (.iinc 1 1, 3) := by decide +kernel
theorem dX7_remains_24 : decode cX7_remains 24 = .ok (.goto (-22), 3) := by decide +kernel
theorem dX7_remains_27 : decode cX7_remains 27 = .ok (.return_, 1) := by decide +kernel
theorem dX7_asTold_0 : decode cX7_asTold 0 = .ok (.iconst 0, 1) := by decide +kernel
theorem dX7_asTold_1 : decode cX7_asTold 1 = .ok (.istore_n 2, 1) := by decide +kernel
theorem dX7_asTold_2 : decode cX7_asTold 2 = .ok (.iload_n 2, 1) := by decide +kernel
theorem dX7_asTold_3 : decode cX7_asTold 3 = .ok (.sipush 609, 3) := by decide +kernel
theorem dX7_asTold_6 : decode cX7_asTold 6 = .ok (.if_icmp .ge 35, 3) := by decide +kernel
theorem dX7_asTold_9 : decode cX7_asTold 9 = .ok (.aload_n 0, 1) := by decide +kernel
theorem dX7_asTold_10 : decode cX7_asTold 10 = .ok (.getfield 21, 3) := by decide +kernel
theorem dX7_asTold_13 : decode cX7_asTold 13 = .ok (.iload_n 2, 1) := by decide +kernel
theorem dX7_asTold_14 : decode cX7_asTold 14 = .ok (.iload_n 2, 1) := by decide +kernel
theorem dX7_asTold_15 : decode cX7_asTold 15 = .ok (.sipush 256, 3) := by decide +kernel
theorem dX7_asTold_18 : decode cX7_asTold 18 = .ok (.if_icmp .ge 15, 3) := by decide +kernel
theorem dX7_asTold_21 : decode cX7_asTold 21 = .ok (.aload_n 0, 1) := by decide +kernel
theorem dX7_asTold_22 : decode cX7_asTold 22 = .ok (.getfield 255, 3) := by decide +kernel
theorem dX7_asTold_25 : decode cX7_asTold 25 = .ok (.getfield 211, 3) := by decide +kernel
theorem dX7_asTold_28 : decode cX7_asTold 28 = .ok (.iload_n 2, 1) := by decide +kernel
theorem dX7_asTold_29 : decode cX7_asTold 29 = .ok (.iaload, 1) := by decide +kernel
theorem dX7_asTold_30 : decode cX7_asTold 30 = .ok (.goto 4, 3) := by decide +kernel
theorem dX7_asTold_33 : decode cX7_asTold 33 = .ok (.iconst 0, 1) := by decide +kernel
theorem dX7_asTold_34 : decode cX7_asTold 34 = .ok (.iastore, 1) := by decide +kernel
theorem dX7_asTold_35 : decode cX7_asTold 35 = .ok (.iinc 2 1, 3) := by decide +kernel
theorem dX7_asTold_38 : decode cX7_asTold 38 = .ok (.goto (-36), 3) := by decide +kernel
theorem dX7_asTold_41 : decode cX7_asTold 41 = .ok (.iconst 0, 1) := by decide +kernel
theorem dX7_asTold_42 : decode cX7_asTold 42 = .ok (.istore_n 2, 1) := by decide +kernel
theorem dX7_asTold_43 : decode cX7_asTold 43 = .ok (.iload_n 2, 1) := by decide +kernel
theorem dX7_asTold_44 : decode cX7_asTold 44 = .ok (.aload_n 0, 1) := by decide +kernel
theorem dX7_asTold_45 : decode cX7_asTold 45 = .ok (.getfield 255, 3) := by decide +kernel
theorem dX7_asTold_48 : decode cX7_asTold 48 = .ok (.getfield 225, 3) := by decide +kernel
theorem dX7_asTold_51 : decode cX7_asTold 51 = .ok (.if_icmp .ge 40, 3) := by decide +kernel
theorem dX7_asTold_54 : decode cX7_asTold 54 = .ok (.iload_n 1, 1) := by decide +kernel
theorem dX7_asTold_55 : decode cX7_asTold 55 = .ok (.iload_n 2, 1) := by decide +kernel
theorem dX7_asTold_56 : decode cX7_asTold 56 = .ok (.invokestatic 206, 3) := by decide +kernel
theorem dX7_asTold_59 : decode cX7_asTold 59 = .ok (.ifCond .eq 26, 3) := by decide +kernel
theorem dX7_asTold_62 : decode cX7_asTold 62 = .ok (.aload_n 0, 1) := by decide +kernel
theorem dX7_asTold_63 : decode cX7_asTold 63 = .ok (.getfield 21, 3) := by decide +kernel
theorem dX7_asTold_66 : decode cX7_asTold 66 = .ok (.aload_n 0, 1) := by decide +kernel
theorem dX7_asTold_67 : decode cX7_asTold 67 = .ok (.getfield 255, 3) := by decide +kernel
theorem dX7_asTold_70 : decode cX7_asTold 70 = .ok (.getfield 228, 3) := by decide +kernel
theorem dX7_asTold_73 : decode cX7_asTold 73 = .ok (.iload_n 2, 1) := by decide +kernel
theorem dX7_asTold_74 : decode cX7_asTold 74 = .ok (.iaload, 1) := by decide +kernel
theorem dX7_asTold_75 : decode cX7_asTold 75 = .ok (.aload_n 0, 1) := by decide +kernel
theorem dX7_asTold_76 : decode cX7_asTold 76 = .ok (.getfield 255, 3) := by decide +kernel
theorem dX7_asTold_79 : decode cX7_asTold 79 = .ok (.getfield 234, 3) := by decide +kernel
theorem dX7_asTold_82 : decode cX7_asTold 82 = .ok (.iload_n 2, 1) := by decide +kernel
theorem dX7_asTold_83 : decode cX7_asTold 83 = .ok (.iaload, 1) := by decide +kernel
theorem dX7_asTold_84 : decode cX7_asTold 84 = .ok (.iastore, 1) := by decide +kernel
theorem dX7_asTold_85 : decode cX7_asTold 85 = .ok (.iinc 2 1, 3) := by decide +kernel
theorem dX7_asTold_88 : decode cX7_asTold 88 = .ok (.goto (-45), 3) := by decide +kernel
theorem dX7_asTold_91 : decode cX7_asTold 91 = .ok (.aload_n 0, 1) := by decide +kernel
theorem dX7_asTold_92 : decode cX7_asTold 92 = .ok (.invokevirtual 276, 3) := by decide +kernel
theorem dX7_asTold_95 : decode cX7_asTold 95 = .ok (.return_, 1) := by decide +kernel
theorem dX7_isCachedNow_0 : decode cX7_isCachedNow 0 = .ok (.aload_n 0, 1) := by decide +kernel
theorem dX7_isCachedNow_1 : decode cX7_isCachedNow 1 = .ok (.getfield 21, 3) := by decide +kernel
theorem dX7_isCachedNow_4 : decode cX7_isCachedNow 4 = .ok (.sipush 512, 3) := by decide +kernel
theorem dX7_isCachedNow_7 : decode cX7_isCachedNow 7 = .ok (.iload_n 1, 1) := by decide +kernel
theorem dX7_isCachedNow_8 : decode cX7_isCachedNow 8 = .ok (.iadd, 1) := by decide +kernel
theorem dX7_isCachedNow_9 : decode cX7_isCachedNow 9 = .ok (.iaload, 1) := by decide +kernel
theorem dX7_isCachedNow_10 : decode cX7_isCachedNow 10 = .ok (.ifCond .le 7, 3) := by decide +kernel
theorem dX7_isCachedNow_13 : decode cX7_isCachedNow 13 = .ok (.iconst 1, 1) := by decide +kernel
theorem dX7_isCachedNow_14 : decode cX7_isCachedNow 14 = .ok (.goto 4, 3) := by decide +kernel
theorem dX7_isCachedNow_17 : decode cX7_isCachedNow 17 = .ok (.iconst 0, 1) := by decide +kernel
theorem dX7_isCachedNow_18 : decode cX7_isCachedNow 18 = .ok (.ireturn, 1) := by decide +kernel
theorem dX7_wordOf_0 : decode cX7_wordOf 0 = .ok (.aload_n 0, 1) := by decide +kernel
theorem dX7_wordOf_1 : decode cX7_wordOf 1 = .ok (.getfield 21, 3) := by decide +kernel
theorem dX7_wordOf_4 : decode cX7_wordOf 4 = .ok (.aload_n 0, 1) := by decide +kernel
theorem dX7_wordOf_5 : decode cX7_wordOf 5 = .ok (.iload_n 1, 1) := by decide +kernel
theorem dX7_wordOf_6 : decode cX7_wordOf 6 = .ok (.invokevirtual 279, 3) := by decide +kernel
theorem dX7_wordOf_9 : decode cX7_wordOf 9 = .ok (.ifCond .eq 9, 3) := by decide +kernel
theorem dX7_wordOf_12 : decode cX7_wordOf 12 = .ok (.sipush 256, 3) := by decide +kernel
theorem dX7_wordOf_15 : decode cX7_wordOf 15 = .ok (.goto 4, 3) := by decide +kernel
theorem dX7_wordOf_18 : decode cX7_wordOf 18 = .ok (.iconst 0, 1) := by decide +kernel
theorem dX7_wordOf_19 : decode cX7_wordOf 19 = .ok (.bipush 8, 2) := by decide +kernel
theorem dX7_wordOf_21 : decode cX7_wordOf 21 = .ok (.iload_n 1, 1) := by decide +kernel
theorem dX7_wordOf_22 : decode cX7_wordOf 22 = .ok (.imul, 1) := by decide +kernel
theorem dX7_wordOf_23 : decode cX7_wordOf 23 = .ok (.iadd, 1) := by decide +kernel
theorem dX7_wordOf_24 : decode cX7_wordOf 24 = .ok (.iload_n 2, 1) := by decide +kernel
theorem dX7_wordOf_25 : decode cX7_wordOf 25 = .ok (.iadd, 1) := by decide +kernel
theorem dX7_wordOf_26 : decode cX7_wordOf 26 = .ok (.iaload, 1) := by decide +kernel
theorem dX7_wordOf_27 : decode cX7_wordOf 27 = .ok (.ireturn, 1) := by decide +kernel
theorem dX7_bytesOf_0 : decode cX7_bytesOf 0 = .ok (.iload_n 0, 1) := by decide +kernel
theorem dX7_bytesOf_1 : decode cX7_bytesOf 1 = .ok (.tableswitch 56 0 6 #[43, 45, 47, 50, 50, 53, 53], 43) := by decide +kernel
theorem dX7_bytesOf_44 : decode cX7_bytesOf 44 = .ok (.iconst 1, 1) := by decide +kernel
theorem dX7_bytesOf_45 : decode cX7_bytesOf 45 = .ok (.ireturn, 1) := by decide +kernel
theorem dX7_bytesOf_46 : decode cX7_bytesOf 46 = .ok (.iconst 2, 1) := by decide +kernel
theorem dX7_bytesOf_47 : decode cX7_bytesOf 47 = .ok (.ireturn, 1) := by decide +kernel
theorem dX7_bytesOf_48 : decode cX7_bytesOf 48 = .ok (.bipush 9, 2) := by decide +kernel
theorem dX7_bytesOf_50 : decode cX7_bytesOf 50 = .ok (.ireturn, 1) := by decide +kernel
theorem dX7_bytesOf_51 : decode cX7_bytesOf 51 = .ok (.bipush 11, 2) := by decide +kernel
theorem dX7_bytesOf_53 : decode cX7_bytesOf 53 = .ok (.ireturn, 1) := by decide +kernel
theorem dX7_bytesOf_54 : decode cX7_bytesOf 54 = .ok (.bipush 13, 2) := by decide +kernel
theorem dX7_bytesOf_56 : decode cX7_bytesOf 56 = .ok (.ireturn, 1) := by decide +kernel
theorem dX7_bytesOf_57 : decode cX7_bytesOf 57 = .ok (.bipush 16, 2) := by decide +kernel
theorem dX7_bytesOf_59 : decode cX7_bytesOf 59 = .ok (.ireturn, 1) := by decide +kernel
theorem dX7_widthOf_0 : decode cX7_widthOf 0 = .ok (.iload_n 0, 1) := by decide +kernel
theorem dX7_widthOf_1 : decode cX7_widthOf 1 = .ok (.tableswitch 35 2 5 #[33, 31, 35, 33], 31) := by decide +kernel
theorem dX7_widthOf_32 : decode cX7_widthOf 32 = .ok (.iconst 2, 1) := by decide +kernel
theorem dX7_widthOf_33 : decode cX7_widthOf 33 = .ok (.ireturn, 1) := by decide +kernel
theorem dX7_widthOf_34 : decode cX7_widthOf 34 = .ok (.iconst 4, 1) := by decide +kernel
theorem dX7_widthOf_35 : decode cX7_widthOf 35 = .ok (.ireturn, 1) := by decide +kernel
theorem dX7_widthOf_36 : decode cX7_widthOf 36 = .ok (.bipush 8, 2) := by decide +kernel
theorem dX7_widthOf_38 : decode cX7_widthOf 38 = .ok (.ireturn, 1) := by decide +kernel
theorem dX7_lanesOf_0 : decode cX7_lanesOf 0 = .ok (.bipush 16, 2) := by decide +kernel
theorem dX7_lanesOf_2 : decode cX7_lanesOf 2 = .ok (.iload_n 0, 1) := by decide +kernel
theorem dX7_lanesOf_3 : decode cX7_lanesOf 3 = .ok (.invokestatic 282, 3) := by decide +kernel
theorem dX7_lanesOf_6 : decode cX7_lanesOf 6 = .ok (.idiv, 1) := by decide +kernel
theorem dX7_lanesOf_7 : decode cX7_lanesOf 7 = .ok (.ireturn, 1) := by decide +kernel
theorem dX7_laneOf_0 : decode cX7_laneOf 0 = .ok (.iload_n 2, 1) := by decide +kernel
theorem dX7_laneOf_1 : decode cX7_laneOf 1 = .ok (.invokestatic 282, 3) := by decide +kernel
theorem dX7_laneOf_4 : decode cX7_laneOf 4 = .ok (.iconst 2, 1) := by decide +kernel
theorem dX7_laneOf_5 : decode cX7_laneOf 5 = .ok (.idiv, 1) := by decide +kernel
theorem dX7_laneOf_6 : decode cX7_laneOf 6 = .ok (.istore 4, 2) := by decide +kernel
theorem dX7_laneOf_8 : decode cX7_laneOf 8 = .ok (.lconst 0, 1) := by decide +kernel
theorem dX7_laneOf_9 : decode cX7_laneOf 9 = .ok (.lstore 5, 2) := by decide +kernel
theorem dX7_laneOf_11 : decode cX7_laneOf 11 = .ok (.iconst 0, 1) := by decide +kernel
theorem dX7_laneOf_12 : decode cX7_laneOf 12 = .ok (.istore 7, 2) := by decide +kernel
theorem dX7_laneOf_14 : decode cX7_laneOf 14 = .ok (.iload 7, 2) := by decide +kernel
theorem dX7_laneOf_16 : decode cX7_laneOf 16 = .ok (.iload 4, 2) := by decide +kernel
theorem dX7_laneOf_18 : decode cX7_laneOf 18 = .ok (.if_icmp .ge 30, 3) := by decide +kernel
theorem dX7_laneOf_21 : decode cX7_laneOf 21 = .ok (.lload 5, 2) := by decide +kernel
theorem dX7_laneOf_23 : decode cX7_laneOf 23 = .ok (.bipush 16, 2) := by decide +kernel
theorem dX7_laneOf_25 : decode cX7_laneOf 25 = .ok (.lshl, 1) := by decide +kernel
theorem dX7_laneOf_26 : decode cX7_laneOf 26 = .ok (.aload_n 0, 1) := by decide +kernel
theorem dX7_laneOf_27 : decode cX7_laneOf 27 = .ok (.iload_n 1, 1) := by decide +kernel
theorem dX7_laneOf_28 : decode cX7_laneOf 28 = .ok (.iload 4, 2) := by decide +kernel
theorem dX7_laneOf_30 : decode cX7_laneOf 30 = .ok (.iload_n 3, 1) := by decide +kernel
theorem dX7_laneOf_31 : decode cX7_laneOf 31 = .ok (.imul, 1) := by decide +kernel
theorem dX7_laneOf_32 : decode cX7_laneOf 32 = .ok (.iload 7, 2) := by decide +kernel
theorem dX7_laneOf_34 : decode cX7_laneOf 34 = .ok (.iadd, 1) := by decide +kernel
theorem dX7_laneOf_35 : decode cX7_laneOf 35 = .ok (.invokevirtual 285, 3) := by decide +kernel
theorem dX7_laneOf_38 : decode cX7_laneOf 38 = .ok (.i2l, 1) := by decide +kernel
theorem dX7_laneOf_39 : decode cX7_laneOf 39 = .ok (.ladd, 1) := by decide +kernel
theorem dX7_laneOf_40 : decode cX7_laneOf 40 = .ok (.lstore 5, 2) := by decide +kernel
theorem dX7_laneOf_42 : decode cX7_laneOf 42 = .ok (.iinc 7 1, 3) := by decide +kernel
theorem dX7_laneOf_45 : decode cX7_laneOf 45 = .ok (.goto (-31), 3) := by decide +kernel
theorem dX7_laneOf_48 : decode cX7_laneOf 48 = .ok (.lload 5, 2) := by decide +kernel
theorem dX7_laneOf_50 : decode cX7_laneOf 50 = .ok (.lreturn, 1) := by decide +kernel
theorem dX7_farthest_0 : decode cX7_farthest 0 = .ok (.iload_n 0, 1) := by decide +kernel
theorem dX7_farthest_1 : decode cX7_farthest 1 = .ok (.iconst 5, 1) := by decide +kernel
theorem dX7_farthest_2 : decode cX7_farthest 2 = .ok (.if_icmp .ge 9, 3) := by decide +kernel
theorem dX7_farthest_5 : decode cX7_farthest 5 = .ok (.ldc2_w 288, 3) := by decide +kernel
theorem dX7_farthest_8 : decode cX7_farthest 8 = .ok (.goto 6, 3) := by decide +kernel
theorem dX7_farthest_11 : decode cX7_farthest 11 = .ok (.ldc2_w 290, 3) := by decide +kernel
theorem dX7_farthest_14 : decode cX7_farthest 14 = .ok (.lreturn, 1) := by decide +kernel
theorem dX7_isSmall_0 : decode cX7_isSmall 0 = .ok (.iload_n 0, 1) := by decide +kernel
theorem dX7_isSmall_1 : decode cX7_isSmall 1 = .ok (.invokestatic 292, 3) := by decide +kernel
theorem dX7_isSmall_4 : decode cX7_isSmall 4 = .ok (.lstore_n 3, 1) := by decide +kernel
theorem dX7_isSmall_5 : decode cX7_isSmall 5 = .ok (.lload_n 1, 1) := by decide +kernel
theorem dX7_isSmall_6 : decode cX7_isSmall 6 = .ok (.lload_n 3, 1) := by decide +kernel
theorem dX7_isSmall_7 : decode cX7_isSmall 7 = .ok (.lneg, 1) := by decide +kernel
theorem dX7_isSmall_8 : decode cX7_isSmall 8 = .ok (.lcmp, 1) := by decide +kernel
theorem dX7_isSmall_9 : decode cX7_isSmall 9 = .ok (.ifCond .lt 13, 3) := by decide +kernel
theorem dX7_isSmall_12 : decode cX7_isSmall 12 = .ok (.lload_n 1, 1) := by decide +kernel
theorem dX7_isSmall_13 : decode cX7_isSmall 13 = .ok (.lload_n 3, 1) := by decide +kernel
theorem dX7_isSmall_14 : decode cX7_isSmall 14 = .ok (.lcmp, 1) := by decide +kernel
theorem dX7_isSmall_15 : decode cX7_isSmall 15 = .ok (.ifCond .ge 7, 3) := by decide +kernel
theorem dX7_isSmall_18 : decode cX7_isSmall 18 = .ok (.iconst 1, 1) := by decide +kernel
theorem dX7_isSmall_19 : decode cX7_isSmall 19 = .ok (.goto 4, 3) := by decide +kernel
theorem dX7_isSmall_22 : decode cX7_isSmall 22 = .ok (.iconst 0, 1) := by decide +kernel
theorem dX7_isSmall_23 : decode cX7_isSmall 23 = .ok (.ireturn, 1) := by decide +kernel
theorem dX7_baseOf_0 : decode cX7_baseOf 0 = .ok (.iconst 0, 1) := by decide +kernel
theorem dX7_baseOf_1 : decode cX7_baseOf 1 = .ok (.istore_n 3, 1) := by decide +kernel
theorem dX7_baseOf_2 : decode cX7_baseOf 2 = .ok (.iload_n 3, 1) := by decide +kernel
theorem dX7_baseOf_3 : decode cX7_baseOf 3 = .ok (.iload_n 2, 1) := by decide +kernel
theorem dX7_baseOf_4 : decode cX7_baseOf 4 = .ok (.invokestatic 296, 3) := by decide +kernel
theorem dX7_baseOf_7 : decode cX7_baseOf 7 = .ok (.if_icmp .ge 31, 3) := by decide +kernel
theorem dX7_baseOf_10 : decode cX7_baseOf 10 = .ok (.iload_n 2, 1) := by decide +kernel
theorem dX7_baseOf_11 : decode cX7_baseOf 11 = .ok (.aload_n 0, 1) := by decide +kernel
theorem dX7_baseOf_12 : decode cX7_baseOf 12 = .ok (.iload_n 1, 1) := by decide +kernel
theorem dX7_baseOf_13 : decode cX7_baseOf 13 = .ok (.iload_n 2, 1) := by decide +kernel
theorem dX7_baseOf_14 : decode cX7_baseOf 14 = .ok (.iload_n 3, 1) := by decide +kernel
theorem dX7_baseOf_15 : decode cX7_baseOf 15 = .ok (.invokevirtual 299, 3) := by decide +kernel
theorem dX7_baseOf_18 : decode cX7_baseOf 18 = .ok (.invokestatic 303, 3) := by decide +kernel
theorem dX7_baseOf_21 : decode cX7_baseOf 21 = .ok (.ifCond .ne 11, 3) := by decide +kernel
theorem dX7_baseOf_24 : decode cX7_baseOf 24 = .ok (.aload_n 0, 1) := by decide +kernel
theorem dX7_baseOf_25 : decode cX7_baseOf 25 = .ok (.iload_n 1, 1) := by decide +kernel
theorem dX7_baseOf_26 : decode cX7_baseOf 26 = .ok (.iload_n 2, 1) := by decide +kernel
theorem dX7_baseOf_27 : decode cX7_baseOf 27 = .ok (.iload_n 3, 1) := by decide +kernel
theorem dX7_baseOf_28 : decode cX7_baseOf 28 = .ok (.invokevirtual 299, 3) := by decide +kernel
theorem dX7_baseOf_31 : decode cX7_baseOf 31 = .ok (.lreturn, 1) := by decide +kernel
theorem dX7_baseOf_32 : decode cX7_baseOf 32 = .ok (.iinc 3 1, 3) := by decide +kernel
theorem dX7_baseOf_35 : decode cX7_baseOf 35 = .ok (.goto (-33), 3) := by decide +kernel
theorem dX7_baseOf_38 : decode cX7_baseOf 38 = .ok (.lconst 0, 1) := by decide +kernel
theorem dX7_baseOf_39 : decode cX7_baseOf 39 = .ok (.lreturn, 1) := by decide +kernel
theorem dX7_differenceOf_0 : decode cX7_differenceOf 0 = .ok (.aload_n 0, 1) := by decide +kernel
theorem dX7_differenceOf_1 : decode cX7_differenceOf 1 = .ok (.iload_n 1, 1) := by decide +kernel
theorem dX7_differenceOf_2 : decode cX7_differenceOf 2 = .ok (.iload_n 2, 1) := by decide +kernel
theorem dX7_differenceOf_3 : decode cX7_differenceOf 3 = .ok (.iload_n 3, 1) := by decide +kernel
theorem dX7_differenceOf_4 : decode cX7_differenceOf 4 = .ok (.invokevirtual 299, 3) := by decide +kernel
theorem dX7_differenceOf_7 : decode cX7_differenceOf 7 = .ok (.lstore 4, 2) := by decide +kernel
theorem dX7_differenceOf_9 : decode cX7_differenceOf 9 = .ok (.iload_n 2, 1) := by decide +kernel
theorem dX7_differenceOf_10 : decode cX7_differenceOf 10 = .ok (.lload 4, 2) := by decide +kernel
theorem dX7_differenceOf_12 : decode cX7_differenceOf 12 = .ok (.invokestatic 303, 3) := by decide +kernel
theorem dX7_differenceOf_15 : decode cX7_differenceOf 15 = .ok (.ifCond .eq 8, 3) := by decide +kernel
theorem dX7_differenceOf_18 : decode cX7_differenceOf 18 = .ok (.lload 4, 2) := by decide +kernel
theorem dX7_differenceOf_20 : decode cX7_differenceOf 20 = .ok (.goto 12, 3) := by decide +kernel
theorem dX7_differenceOf_23 : decode cX7_differenceOf 23 = .ok (.lload 4, 2) := by decide +kernel
theorem dX7_differenceOf_25 : decode cX7_differenceOf 25 = .ok (.aload_n 0, 1) := by decide +kernel
theorem dX7_differenceOf_26 : decode cX7_differenceOf 26 = .ok (.iload_n 1, 1) := by decide +kernel
theorem dX7_differenceOf_27 : decode cX7_differenceOf 27 = .ok (.iload_n 2, 1) := by decide +kernel
theorem dX7_differenceOf_28 : decode cX7_differenceOf 28 = .ok (.invokevirtual 307, 3) := by decide +kernel
theorem dX7_differenceOf_31 : decode cX7_differenceOf 31 = .ok (.lsub, 1) := by decide +kernel
theorem dX7_differenceOf_32 : decode cX7_differenceOf 32 = .ok (.lreturn, 1) := by decide +kernel
theorem dX7_isAll_0 : decode cX7_isAll 0 = .ok (.iconst 0, 1) := by decide +kernel
theorem dX7_isAll_1 : decode cX7_isAll 1 = .ok (.istore_n 3, 1) := by decide +kernel
theorem dX7_isAll_2 : decode cX7_isAll 2 = .ok (.iload_n 3, 1) := by decide +kernel
theorem dX7_isAll_3 : decode cX7_isAll 3 = .ok (.bipush 8, 2) := by decide +kernel
theorem dX7_isAll_5 : decode cX7_isAll 5 = .ok (.if_icmp .ge 21, 3) := by decide +kernel
theorem dX7_isAll_8 : decode cX7_isAll 8 = .ok (.aload_n 0, 1) := by decide +kernel
theorem dX7_isAll_9 : decode cX7_isAll 9 = .ok (.iload_n 1, 1) := by decide +kernel
theorem dX7_isAll_10 : decode cX7_isAll 10 = .ok (.iload_n 3, 1) := by decide +kernel
theorem dX7_isAll_11 : decode cX7_isAll 11 = .ok (.invokevirtual 285, 3) := by decide +kernel
theorem dX7_isAll_14 : decode cX7_isAll 14 = .ok (.iload_n 2, 1) := by decide +kernel
theorem dX7_isAll_15 : decode cX7_isAll 15 = .ok (.if_icmp .eq 5, 3) := by decide +kernel
theorem dX7_isAll_18 : decode cX7_isAll 18 = .ok (.iconst 0, 1) := by decide +kernel
theorem dX7_isAll_19 : decode cX7_isAll 19 = .ok (.ireturn, 1) := by decide +kernel
theorem dX7_isAll_20 : decode cX7_isAll 20 = .ok (.iinc 3 1, 3) := by decide +kernel
theorem dX7_isAll_23 : decode cX7_isAll 23 = .ok (.goto (-21), 3) := by decide +kernel
theorem dX7_isAll_26 : decode cX7_isAll 26 = .ok (.iconst 1, 1) := by decide +kernel
theorem dX7_isAll_27 : decode cX7_isAll 27 = .ok (.ireturn, 1) := by decide +kernel
theorem dX7_isFit_0 : decode cX7_isFit 0 = .ok (.iload_n 2, 1) := by decide +kernel
theorem dX7_isFit_1 : decode cX7_isFit 1 = .ok (.lookupswitch 56 #[(0, 37), (1, 44), (7, 35)], 35) := by decide +kernel
theorem dX7_isFit_36 : decode cX7_isFit 36 = .ok (.iconst 1, 1) := by decide +kernel
theorem dX7_isFit_37 : decode cX7_isFit 37 = .ok (.ireturn, 1) := by decide +kernel
theorem dX7_isFit_38 : decode cX7_isFit 38 = .ok (.aload_n 0, 1) := by decide +kernel
theorem dX7_isFit_39 : decode cX7_isFit 39 = .ok (.iload_n 1, 1) := by decide +kernel
theorem dX7_isFit_40 : decode cX7_isFit 40 = .ok (.iconst 0, 1) := by decide +kernel
theorem dX7_isFit_41 : decode cX7_isFit 41 = .ok (.invokevirtual 311, 3) := by decide +kernel
theorem dX7_isFit_44 : decode cX7_isFit 44 = .ok (.ireturn, 1) := by decide +kernel
theorem dX7_isFit_45 : decode cX7_isFit 45 = .ok (.aload_n 0, 1) := by decide +kernel
theorem dX7_isFit_46 : decode cX7_isFit 46 = .ok (.iload_n 1, 1) := by decide +kernel
theorem dX7_isFit_47 : decode cX7_isFit 47 = .ok (.aload_n 0, 1) := by decide +kernel
theorem dX7_isFit_48 : decode cX7_isFit 48 = .ok (.iload_n 1, 1) := by decide +kernel
theorem dX7_isFit_49 : decode cX7_isFit 49 = .ok (.iconst 0, 1) := by decide +kernel
theorem dX7_isFit_50 : decode cX7_isFit 50 = .ok (.invokevirtual 285, 3) := by decide +kernel
theorem dX7_isFit_53 : decode cX7_isFit 53 = .ok (.invokevirtual 311, 3) := by decide +kernel
theorem dX7_isFit_56 : decode cX7_isFit 56 = .ok (.ireturn, 1) := by decide +kernel
theorem dX7_isFit_57 : decode cX7_isFit 57 = .ok (.aload_n 0, 1) := by decide +kernel
theorem dX7_isFit_58 : decode cX7_isFit 58 = .ok (.iload_n 1, 1) := by decide +kernel
theorem dX7_isFit_59 : decode cX7_isFit 59 = .ok (.iload_n 2, 1) := by decide +kernel
theorem dX7_isFit_60 : decode cX7_isFit 60 = .ok (.invokevirtual 314, 3) := by decide +kernel
theorem dX7_isFit_63 : decode cX7_isFit 63 = .ok (.ireturn, 1) := by decide +kernel
theorem dX7_areSmall_0 : decode cX7_areSmall 0 = .ok (.iconst 0, 1) := by decide +kernel
theorem dX7_areSmall_1 : decode cX7_areSmall 1 = .ok (.istore_n 3, 1) := by decide +kernel
theorem dX7_areSmall_2 : decode cX7_areSmall 2 = .ok (.iload_n 3, 1) := by decide +kernel
theorem dX7_areSmall_3 : decode cX7_areSmall 3 = .ok (.iload_n 2, 1) := by decide +kernel
theorem dX7_areSmall_4 : decode cX7_areSmall 4 = .ok (.invokestatic 296, 3) := by decide +kernel
theorem dX7_areSmall_7 : decode cX7_areSmall 7 = .ok (.if_icmp .ge 25, 3) := by decide +kernel
theorem dX7_areSmall_10 : decode cX7_areSmall 10 = .ok (.iload_n 2, 1) := by decide +kernel
theorem dX7_areSmall_11 : decode cX7_areSmall 11 = .ok (.aload_n 0, 1) := by decide +kernel
theorem dX7_areSmall_12 : decode cX7_areSmall 12 = .ok (.iload_n 1, 1) := by decide +kernel
theorem dX7_areSmall_13 : decode cX7_areSmall 13 = .ok (.iload_n 2, 1) := by decide +kernel
theorem dX7_areSmall_14 : decode cX7_areSmall 14 = .ok (.iload_n 3, 1) := by decide +kernel
theorem dX7_areSmall_15 : decode cX7_areSmall 15 = .ok (.invokevirtual 317, 3) := by decide +kernel
theorem dX7_areSmall_18 : decode cX7_areSmall 18 = .ok (.invokestatic 303, 3) := by decide +kernel
theorem dX7_areSmall_21 : decode cX7_areSmall 21 = .ok (.ifCond .ne 5, 3) := by decide +kernel
theorem dX7_areSmall_24 : decode cX7_areSmall 24 = .ok (.iconst 0, 1) := by decide +kernel
theorem dX7_areSmall_25 : decode cX7_areSmall 25 = .ok (.ireturn, 1) := by decide +kernel
theorem dX7_areSmall_26 : decode cX7_areSmall 26 = .ok (.iinc 3 1, 3) := by decide +kernel
theorem dX7_areSmall_29 : decode cX7_areSmall 29 = .ok (.goto (-27), 3) := by decide +kernel
theorem dX7_areSmall_32 : decode cX7_areSmall 32 = .ok (.iconst 1, 1) := by decide +kernel
theorem dX7_areSmall_33 : decode cX7_areSmall 33 = .ok (.ireturn, 1) := by decide +kernel
theorem dX7_formOf_0 : decode cX7_formOf 0 = .ok (.iconst 0, 1) := by decide +kernel
theorem dX7_formOf_1 : decode cX7_formOf 1 = .ok (.istore_n 2, 1) := by decide +kernel
theorem dX7_formOf_2 : decode cX7_formOf 2 = .ok (.aload_n 0, 1) := by decide +kernel
theorem dX7_formOf_3 : decode cX7_formOf 3 = .ok (.iload_n 1, 1) := by decide +kernel
theorem dX7_formOf_4 : decode cX7_formOf 4 = .ok (.iload_n 2, 1) := by decide +kernel
theorem dX7_formOf_5 : decode cX7_formOf 5 = .ok (.invokevirtual 320, 3) := by decide +kernel
theorem dX7_formOf_8 : decode cX7_formOf 8 = .ok (.ifCond .ne 9, 3) := by decide +kernel
theorem dX7_formOf_11 : decode cX7_formOf 11 = .ok (.iinc 2 1, 3) := by decide +kernel
theorem dX7_formOf_14 : decode cX7_formOf 14 = .ok (.goto (-12), 3) := by decide +kernel
theorem dX7_formOf_17 : decode cX7_formOf 17 = .ok (.iload_n 2, 1) := by decide +kernel
theorem dX7_formOf_18 : decode cX7_formOf 18 = .ok (.ireturn, 1) := by decide +kernel
theorem dX7_segmentsBy_0 : decode cX7_segmentsBy 0 = .ok (.iload_n 0, 1) := by decide +kernel
theorem dX7_segmentsBy_1 : decode cX7_segmentsBy 1 = .ok (.invokestatic 323, 3) := by decide +kernel
theorem dX7_segmentsBy_4 : decode cX7_segmentsBy 4 = .ok (.iconst 3, 1) := by decide +kernel
theorem dX7_segmentsBy_5 : decode cX7_segmentsBy 5 = .ok (.iadd, 1) := by decide +kernel
theorem dX7_segmentsBy_6 : decode cX7_segmentsBy 6 = .ok (.iconst 4, 1) := by decide +kernel
theorem dX7_segmentsBy_7 : decode cX7_segmentsBy 7 = .ok (.idiv, 1) := by decide +kernel
theorem dX7_segmentsBy_8 : decode cX7_segmentsBy 8 = .ok (.ireturn, 1) := by decide +kernel
theorem dX7_segmentsOf_0 : decode cX7_segmentsOf 0 = .ok (.aload_n 0, 1) := by decide +kernel
theorem dX7_segmentsOf_1 : decode cX7_segmentsOf 1 = .ok (.iload_n 1, 1) := by decide +kernel
theorem dX7_segmentsOf_2 : decode cX7_segmentsOf 2 = .ok (.invokevirtual 326, 3) := by decide +kernel
theorem dX7_segmentsOf_5 : decode cX7_segmentsOf 5 = .ok (.invokestatic 329, 3) := by decide +kernel
theorem dX7_segmentsOf_8 : decode cX7_segmentsOf 8 = .ok (.ireturn, 1) := by decide +kernel
theorem dX7_setOf_0 : decode cX7_setOf 0 = .ok (.iload_n 1, 1) := by decide +kernel
theorem dX7_setOf_1 : decode cX7_setOf 1 = .ok (.aload_n 0, 1) := by decide +kernel
theorem dX7_setOf_2 : decode cX7_setOf 2 = .ok (.getfield 255, 3) := by decide +kernel
theorem dX7_setOf_5 : decode cX7_setOf 5 = .ok (.getfield 141, 3) := by decide +kernel
theorem dX7_setOf_8 : decode cX7_setOf 8 = .ok (.irem, 1) := by decide +kernel
theorem dX7_setOf_9 : decode cX7_setOf 9 = .ok (.ireturn, 1) := by decide +kernel
theorem dX7_tagsIn_0 : decode cX7_tagsIn 0 = .ok (.iconst 0, 1) := by decide +kernel
theorem dX7_tagsIn_1 : decode cX7_tagsIn 1 = .ok (.istore_n 2, 1) := by decide +kernel
theorem dX7_tagsIn_2 : decode cX7_tagsIn 2 = .ok (.iload_n 1, 1) := by decide +kernel
theorem dX7_tagsIn_3 : decode cX7_tagsIn 3 = .ok (.istore_n 3, 1) := by decide +kernel
theorem dX7_tagsIn_4 : decode cX7_tagsIn 4 = .ok (.iload_n 3, 1) := by decide +kernel
theorem dX7_tagsIn_5 : decode cX7_tagsIn 5 = .ok (.bipush 32, 2) := by decide +kernel
theorem dX7_tagsIn_7 : decode cX7_tagsIn 7 = .ok (.if_icmp .ge 32, 3) := by decide +kernel
theorem dX7_tagsIn_10 : decode cX7_tagsIn 10 = .ok (.iload_n 2, 1) := by decide +kernel
theorem dX7_tagsIn_11 : decode cX7_tagsIn 11 = .ok (.aload_n 0, 1) := by decide +kernel
theorem dX7_tagsIn_12 : decode cX7_tagsIn 12 = .ok (.iload_n 3, 1) := by decide +kernel
theorem dX7_tagsIn_13 : decode cX7_tagsIn 13 = .ok (.invokevirtual 279, 3) := by decide +kernel
theorem dX7_tagsIn_16 : decode cX7_tagsIn 16 = .ok (.ifCond .eq 7, 3) := by decide +kernel
theorem dX7_tagsIn_19 : decode cX7_tagsIn 19 = .ok (.iconst 1, 1) := by decide +kernel
theorem dX7_tagsIn_20 : decode cX7_tagsIn 20 = .ok (.goto 4, 3) := by decide +kernel
theorem dX7_tagsIn_23 : decode cX7_tagsIn 23 = .ok (.iconst 0, 1) := by decide +kernel
theorem dX7_tagsIn_24 : decode cX7_tagsIn 24 = .ok (.iadd, 1) := by decide +kernel
theorem dX7_tagsIn_25 : decode cX7_tagsIn 25 = .ok (.istore_n 2, 1) := by decide +kernel
theorem dX7_tagsIn_26 : decode cX7_tagsIn 26 = .ok (.iload_n 3, 1) := by decide +kernel
theorem dX7_tagsIn_27 : decode cX7_tagsIn 27 = .ok (.aload_n 0, 1) := by decide +kernel
theorem dX7_tagsIn_28 : decode cX7_tagsIn 28 = .ok (.getfield 255, 3) := by decide +kernel
theorem dX7_tagsIn_31 : decode cX7_tagsIn 31 = .ok (.getfield 141, 3) := by decide +kernel
theorem dX7_tagsIn_34 : decode cX7_tagsIn 34 = .ok (.iadd, 1) := by decide +kernel
theorem dX7_tagsIn_35 : decode cX7_tagsIn 35 = .ok (.istore_n 3, 1) := by decide +kernel
theorem dX7_tagsIn_36 : decode cX7_tagsIn 36 = .ok (.goto (-32), 3) := by decide +kernel
theorem dX7_tagsIn_39 : decode cX7_tagsIn 39 = .ok (.iload_n 2, 1) := by decide +kernel
theorem dX7_tagsIn_40 : decode cX7_tagsIn 40 = .ok (.ireturn, 1) := by decide +kernel
theorem dX7_takenIn_0 : decode cX7_takenIn 0 = .ok (.iconst 0, 1) := by decide +kernel
theorem dX7_takenIn_1 : decode cX7_takenIn 1 = .ok (.istore_n 2, 1) := by decide +kernel
theorem dX7_takenIn_2 : decode cX7_takenIn 2 = .ok (.iload_n 1, 1) := by decide +kernel
theorem dX7_takenIn_3 : decode cX7_takenIn 3 = .ok (.istore_n 3, 1) := by decide +kernel
theorem dX7_takenIn_4 : decode cX7_takenIn 4 = .ok (.iload_n 3, 1) := by decide +kernel
theorem dX7_takenIn_5 : decode cX7_takenIn 5 = .ok (.bipush 32, 2) := by decide +kernel
theorem dX7_takenIn_7 : decode cX7_takenIn 7 = .ok (.if_icmp .ge 36, 3) := by decide +kernel
theorem dX7_takenIn_10 : decode cX7_takenIn 10 = .ok (.iload_n 2, 1) := by decide +kernel
theorem dX7_takenIn_11 : decode cX7_takenIn 11 = .ok (.aload_n 0, 1) := by decide +kernel
theorem dX7_takenIn_12 : decode cX7_takenIn 12 = .ok (.iload_n 3, 1) := by decide +kernel
theorem dX7_takenIn_13 : decode cX7_takenIn 13 = .ok (.invokevirtual 279, 3) := by decide +kernel
theorem dX7_takenIn_16 : decode cX7_takenIn 16 = .ok (.ifCond .eq 11, 3) := by decide +kernel
theorem dX7_takenIn_19 : decode cX7_takenIn 19 = .ok (.aload_n 0, 1) := by decide +kernel
theorem dX7_takenIn_20 : decode cX7_takenIn 20 = .ok (.iload_n 3, 1) := by decide +kernel
theorem dX7_takenIn_21 : decode cX7_takenIn 21 = .ok (.invokevirtual 332, 3) := by decide +kernel
theorem dX7_takenIn_24 : decode cX7_takenIn 24 = .ok (.goto 4, 3) := by decide +kernel
theorem dX7_takenIn_27 : decode cX7_takenIn 27 = .ok (.iconst 0, 1) := by decide +kernel
theorem dX7_takenIn_28 : decode cX7_takenIn 28 = .ok (.iadd, 1) := by decide +kernel
theorem dX7_takenIn_29 : decode cX7_takenIn 29 = .ok (.istore_n 2, 1) := by decide +kernel
theorem dX7_takenIn_30 : decode cX7_takenIn 30 = .ok (.iload_n 3, 1) := by decide +kernel
theorem dX7_takenIn_31 : decode cX7_takenIn 31 = .ok (.aload_n 0, 1) := by decide +kernel
theorem dX7_takenIn_32 : decode cX7_takenIn 32 = .ok (.getfield 255, 3) := by decide +kernel
theorem dX7_takenIn_35 : decode cX7_takenIn 35 = .ok (.getfield 141, 3) := by decide +kernel
theorem dX7_takenIn_38 : decode cX7_takenIn 38 = .ok (.iadd, 1) := by decide +kernel
theorem dX7_takenIn_39 : decode cX7_takenIn 39 = .ok (.istore_n 3, 1) := by decide +kernel
theorem dX7_takenIn_40 : decode cX7_takenIn 40 = .ok (.goto (-36), 3) := by decide +kernel
theorem dX7_takenIn_43 : decode cX7_takenIn 43 = .ok (.iload_n 2, 1) := by decide +kernel
theorem dX7_takenIn_44 : decode cX7_takenIn 44 = .ok (.ireturn, 1) := by decide +kernel
theorem dX7_orders_0 : decode cX7_orders 0 = .ok (.aload_n 0, 1) := by decide +kernel
theorem dX7_orders_1 : decode cX7_orders 1 = .ok (.iconst 0, 1) := by decide +kernel
theorem dX7_orders_2 : decode cX7_orders 2 = .ok (.putfield 335, 3) := by decide +kernel
theorem dX7_orders_5 : decode cX7_orders 5 = .ok (.iload_n 1, 1) := by decide +kernel
theorem dX7_orders_6 : decode cX7_orders 6 = .ok (.istore_n 2, 1) := by decide +kernel
theorem dX7_orders_7 : decode cX7_orders 7 = .ok (.iload_n 2, 1) := by decide +kernel
theorem dX7_orders_8 : decode cX7_orders 8 = .ok (.bipush 32, 2) := by decide +kernel
theorem dX7_orders_10 : decode cX7_orders 10 = .ok (.if_icmp .ge 103, 3) := by decide +kernel
theorem dX7_orders_13 : decode cX7_orders 13 = .ok (.aload_n 0, 1) := by decide +kernel
theorem dX7_orders_14 : decode cX7_orders 14 = .ok (.iload_n 2, 1) := by decide +kernel
theorem dX7_orders_15 : decode cX7_orders 15 = .ok (.invokevirtual 279, 3) := by decide +kernel
theorem dX7_orders_18 : decode cX7_orders 18 = .ok (.ifCond .ne 6, 3) := by decide +kernel
theorem dX7_orders_21 : decode cX7_orders 21 = .ok (.goto 79, 3) := by decide +kernel
theorem dX7_orders_24 : decode cX7_orders 24 = .ok (.aload_n 0, 1) := by decide +kernel
theorem dX7_orders_25 : decode cX7_orders 25 = .ok (.getfield 335, 3) := by decide +kernel
theorem dX7_orders_28 : decode cX7_orders 28 = .ok (.istore_n 3, 1) := by decide +kernel
theorem dX7_orders_29 : decode cX7_orders 29 = .ok (.iload_n 3, 1) := by decide +kernel
theorem dX7_orders_30 : decode cX7_orders 30 = .ok (.ifCond .le 53, 3) := by decide +kernel
theorem dX7_orders_33 : decode cX7_orders 33 = .ok (.aload_n 0, 1) := by decide +kernel
theorem dX7_orders_34 : decode cX7_orders 34 = .ok (.getfield 21, 3) := by decide +kernel
theorem dX7_orders_37 : decode cX7_orders 37 = .ok (.sipush 544, 3) := by decide +kernel
theorem dX7_orders_40 : decode cX7_orders 40 = .ok (.aload_n 0, 1) := by decide +kernel
theorem dX7_orders_41 : decode cX7_orders 41 = .ok (.getfield 30, 3) := by decide +kernel
theorem dX7_orders_44 : decode cX7_orders 44 = .ok (.iload_n 3, 1) := by decide +kernel
theorem dX7_orders_45 : decode cX7_orders 45 = .ok (.iconst 1, 1) := by decide +kernel
theorem dX7_orders_46 : decode cX7_orders 46 = .ok (.isub, 1) := by decide +kernel
theorem dX7_orders_47 : decode cX7_orders 47 = .ok (.iaload, 1) := by decide +kernel
theorem dX7_orders_48 : decode cX7_orders 48 = .ok (.iadd, 1) := by decide +kernel
theorem dX7_orders_49 : decode cX7_orders 49 = .ok (.iaload, 1) := by decide +kernel
theorem dX7_orders_50 : decode cX7_orders 50 = .ok (.aload_n 0, 1) := by decide +kernel
theorem dX7_orders_51 : decode cX7_orders 51 = .ok (.getfield 21, 3) := by decide +kernel
theorem dX7_orders_54 : decode cX7_orders 54 = .ok (.sipush 544, 3) := by decide +kernel
theorem dX7_orders_57 : decode cX7_orders 57 = .ok (.iload_n 2, 1) := by decide +kernel
theorem dX7_orders_58 : decode cX7_orders 58 = .ok (.iadd, 1) := by decide +kernel
theorem dX7_orders_59 : decode cX7_orders 59 = .ok (.iaload, 1) := by decide +kernel
theorem dX7_orders_60 : decode cX7_orders 60 = .ok (.if_icmp .le 23, 3) := by decide +kernel
theorem dX7_orders_63 : decode cX7_orders 63 = .ok (.aload_n 0, 1) := by decide +kernel
theorem dX7_orders_64 : decode cX7_orders 64 = .ok (.getfield 30, 3) := by decide +kernel
theorem dX7_orders_67 : decode cX7_orders 67 = .ok (.iload_n 3, 1) := by decide +kernel
theorem dX7_orders_68 : decode cX7_orders 68 = .ok (.aload_n 0, 1) := by decide +kernel
theorem dX7_orders_69 : decode cX7_orders 69 = .ok (.getfield 30, 3) := by decide +kernel
theorem dX7_orders_72 : decode cX7_orders 72 = .ok (.iload_n 3, 1) := by decide +kernel
theorem dX7_orders_73 : decode cX7_orders 73 = .ok (.iconst 1, 1) := by decide +kernel
theorem dX7_orders_74 : decode cX7_orders 74 = .ok (.isub, 1) := by decide +kernel
theorem dX7_orders_75 : decode cX7_orders 75 = .ok (.iaload, 1) := by decide +kernel
theorem dX7_orders_76 : decode cX7_orders 76 = .ok (.iastore, 1) := by decide +kernel
theorem dX7_orders_77 : decode cX7_orders 77 = .ok (.iinc 3 (-1), 3) := by decide +kernel
theorem dX7_orders_80 : decode cX7_orders 80 = .ok (.goto (-51), 3) := by decide +kernel
theorem dX7_orders_83 : decode cX7_orders 83 = .ok (.aload_n 0, 1) := by decide +kernel
theorem dX7_orders_84 : decode cX7_orders 84 = .ok (.getfield 30, 3) := by decide +kernel
theorem dX7_orders_87 : decode cX7_orders 87 = .ok (.iload_n 3, 1) := by decide +kernel
theorem dX7_orders_88 : decode cX7_orders 88 = .ok (.iload_n 2, 1) := by decide +kernel
theorem dX7_orders_89 : decode cX7_orders 89 = .ok (.iastore, 1) := by decide +kernel
theorem dX7_orders_90 : decode cX7_orders 90 = .ok (.aload_n 0, 1) := by decide +kernel
theorem dX7_orders_91 : decode cX7_orders 91 = .ok (.dup, 1) := by decide +kernel
theorem dX7_orders_92 : decode cX7_orders 92 = .ok (.getfield 335, 3) := by decide +kernel
theorem dX7_orders_95 : decode cX7_orders 95 = .ok (.iconst 1, 1) := by decide +kernel
theorem dX7_orders_96 : decode cX7_orders 96 = .ok (.iadd, 1) := by decide +kernel
theorem dX7_orders_97 : decode cX7_orders 97 = .ok (.putfield 335, 3) := by decide +kernel
theorem dX7_orders_100 : decode cX7_orders 100 = .ok (.iload_n 2, 1) := by decide +kernel
theorem dX7_orders_101 : decode cX7_orders 101 = .ok (.aload_n 0, 1) := by decide +kernel
theorem dX7_orders_102 : decode cX7_orders 102 = .ok (.getfield 255, 3) := by decide +kernel
theorem dX7_orders_105 : decode cX7_orders 105 = .ok (.getfield 141, 3) := by decide +kernel
theorem dX7_orders_108 : decode cX7_orders 108 = .ok (.iadd, 1) := by decide +kernel
theorem dX7_orders_109 : decode cX7_orders 109 = .ok (.istore_n 2, 1) := by decide +kernel
theorem dX7_orders_110 : decode cX7_orders 110 = .ok (.goto (-103), 3) := by decide +kernel
theorem dX7_orders_113 : decode cX7_orders 113 = .ok (.return_, 1) := by decide +kernel
theorem dX7_isLighter_0 : decode cX7_isLighter 0 = .ok (.aload_n 0, 1) := by decide +kernel
theorem dX7_isLighter_1 : decode cX7_isLighter 1 = .ok (.getfield 21, 3) := by decide +kernel
theorem dX7_isLighter_4 : decode cX7_isLighter 4 = .ok (.sipush 512, 3) := by decide +kernel
theorem dX7_isLighter_7 : decode cX7_isLighter 7 = .ok (.iload_n 1, 1) := by decide +kernel
theorem dX7_isLighter_8 : decode cX7_isLighter 8 = .ok (.iadd, 1) := by decide +kernel
theorem dX7_isLighter_9 : decode cX7_isLighter 9 = .ok (.iaload, 1) := by decide +kernel
theorem dX7_isLighter_10 : decode cX7_isLighter 10 = .ok (.aload_n 0, 1) := by decide +kernel
theorem dX7_isLighter_11 : decode cX7_isLighter 11 = .ok (.iload_n 2, 1) := by decide +kernel
theorem dX7_isLighter_12 : decode cX7_isLighter 12 = .ok (.invokevirtual 332, 3) := by decide +kernel
theorem dX7_isLighter_15 : decode cX7_isLighter 15 = .ok (.imul, 1) := by decide +kernel
theorem dX7_isLighter_16 : decode cX7_isLighter 16 = .ok (.istore_n 3, 1) := by decide +kernel
theorem dX7_isLighter_17 : decode cX7_isLighter 17 = .ok (.aload_n 0, 1) := by decide +kernel
theorem dX7_isLighter_18 : decode cX7_isLighter 18 = .ok (.getfield 21, 3) := by decide +kernel
theorem dX7_isLighter_21 : decode cX7_isLighter 21 = .ok (.sipush 512, 3) := by decide +kernel
theorem dX7_isLighter_24 : decode cX7_isLighter 24 = .ok (.iload_n 2, 1) := by decide +kernel
theorem dX7_isLighter_25 : decode cX7_isLighter 25 = .ok (.iadd, 1) := by decide +kernel
theorem dX7_isLighter_26 : decode cX7_isLighter 26 = .ok (.iaload, 1) := by decide +kernel
theorem dX7_isLighter_27 : decode cX7_isLighter 27 = .ok (.aload_n 0, 1) := by decide +kernel
theorem dX7_isLighter_28 : decode cX7_isLighter 28 = .ok (.iload_n 1, 1) := by decide +kernel
theorem dX7_isLighter_29 : decode cX7_isLighter 29 = .ok (.invokevirtual 332, 3) := by decide +kernel
theorem dX7_isLighter_32 : decode cX7_isLighter 32 = .ok (.imul, 1) := by decide +kernel
theorem dX7_isLighter_33 : decode cX7_isLighter 33 = .ok (.istore 4, 2) := by decide +kernel
theorem dX7_isLighter_35 : decode cX7_isLighter 35 = .ok (.iload_n 3, 1) := by decide +kernel
theorem dX7_isLighter_36 : decode cX7_isLighter 36 = .ok (.iload 4, 2) := by decide +kernel
theorem dX7_isLighter_38 : decode cX7_isLighter 38 = .ok (.if_icmp .ge 7, 3) := by decide +kernel
theorem dX7_isLighter_41 : decode cX7_isLighter 41 = .ok (.iconst 1, 1) := by decide +kernel
theorem dX7_isLighter_42 : decode cX7_isLighter 42 = .ok (.goto 4, 3) := by decide +kernel
theorem dX7_isLighter_45 : decode cX7_isLighter 45 = .ok (.iconst 0, 1) := by decide +kernel
theorem dX7_isLighter_46 : decode cX7_isLighter 46 = .ok (.ireturn, 1) := by decide +kernel
theorem dX7_victimOf_0 : decode cX7_victimOf 0 = .ok (.aload_n 0, 1) := by decide +kernel
theorem dX7_victimOf_1 : decode cX7_victimOf 1 = .ok (.iload_n 1, 1) := by decide +kernel
theorem dX7_victimOf_2 : decode cX7_victimOf 2 = .ok (.invokevirtual 338, 3) := by decide +kernel
theorem dX7_victimOf_5 : decode cX7_victimOf 5 = .ok (.bipush (-2), 2) := by decide +kernel
theorem dX7_victimOf_7 : decode cX7_victimOf 7 = .ok (.istore_n 3, 1) := by decide +kernel
theorem dX7_victimOf_8 : decode cX7_victimOf 8 = .ok (.iconst 0, 1) := by decide +kernel
theorem dX7_victimOf_9 : decode cX7_victimOf 9 = .ok (.istore 4, 2) := by decide +kernel
theorem dX7_victimOf_11 : decode cX7_victimOf 11 = .ok (.iload 4, 2) := by decide +kernel
theorem dX7_victimOf_13 : decode cX7_victimOf 13 = .ok (.aload_n 0, 1) := by decide +kernel
theorem dX7_victimOf_14 : decode cX7_victimOf 14 = .ok (.getfield 335, 3) := by decide +kernel
theorem dX7_victimOf_17 : decode cX7_victimOf 17 = .ok (.if_icmp .ge 72, 3) := by decide +kernel
theorem dX7_victimOf_20 : decode cX7_victimOf 20 = .ok (.aload_n 0, 1) := by decide +kernel
theorem dX7_victimOf_21 : decode cX7_victimOf 21 = .ok (.getfield 30, 3) := by decide +kernel
theorem dX7_victimOf_24 : decode cX7_victimOf 24 = .ok (.iload 4, 2) := by decide +kernel
theorem dX7_victimOf_26 : decode cX7_victimOf 26 = .ok (.iaload, 1) := by decide +kernel
theorem dX7_victimOf_27 : decode cX7_victimOf 27 = .ok (.iload_n 2, 1) := by decide +kernel
theorem dX7_victimOf_28 : decode cX7_victimOf 28 = .ok (.if_icmp .ne 6, 3) := by decide +kernel
theorem dX7_victimOf_31 : decode cX7_victimOf 31 = .ok (.goto 52, 3) := by decide +kernel
theorem dX7_victimOf_34 : decode cX7_victimOf 34 = .ok (.iload_n 3, 1) := by decide +kernel
theorem dX7_victimOf_35 : decode cX7_victimOf 35 = .ok (.bipush (-2), 2) := by decide +kernel
theorem dX7_victimOf_37 : decode cX7_victimOf 37 = .ok (.if_icmp .ne 23, 3) := by decide +kernel
theorem dX7_victimOf_40 : decode cX7_victimOf 40 = .ok (.aload_n 0, 1) := by decide +kernel
theorem dX7_victimOf_41 : decode cX7_victimOf 41 = .ok (.getfield 30, 3) := by decide +kernel
theorem dX7_victimOf_44 : decode cX7_victimOf 44 = .ok (.iload 4, 2) := by decide +kernel
theorem dX7_victimOf_46 : decode cX7_victimOf 46 = .ok (.iaload, 1) := by decide +kernel
theorem dX7_victimOf_47 : decode cX7_victimOf 47 = .ok (.istore_n 3, 1) := by decide +kernel
theorem dX7_victimOf_48 : decode cX7_victimOf 48 = .ok (.aload_n 0, 1) := by decide +kernel
theorem dX7_victimOf_49 : decode cX7_victimOf 49 = .ok (.getfield 255, 3) := by decide +kernel
theorem dX7_victimOf_52 : decode cX7_victimOf 52 = .ok (.getfield 193, 3) := by decide +kernel
theorem dX7_victimOf_55 : decode cX7_victimOf 55 = .ok (.ifCond .ne 5, 3) := by decide +kernel
theorem dX7_victimOf_58 : decode cX7_victimOf 58 = .ok (.iload_n 3, 1) := by decide +kernel
theorem dX7_victimOf_59 : decode cX7_victimOf 59 = .ok (.ireturn, 1) := by decide +kernel
theorem dX7_victimOf_60 : decode cX7_victimOf 60 = .ok (.aload_n 0, 1) := by decide +kernel
theorem dX7_victimOf_61 : decode cX7_victimOf 61 = .ok (.aload_n 0, 1) := by decide +kernel
theorem dX7_victimOf_62 : decode cX7_victimOf 62 = .ok (.getfield 30, 3) := by decide +kernel
theorem dX7_victimOf_65 : decode cX7_victimOf 65 = .ok (.iload 4, 2) := by decide +kernel
theorem dX7_victimOf_67 : decode cX7_victimOf 67 = .ok (.iaload, 1) := by decide +kernel
theorem dX7_victimOf_68 : decode cX7_victimOf 68 = .ok (.iload_n 3, 1) := by decide +kernel
theorem dX7_victimOf_69 : decode cX7_victimOf 69 = .ok (.invokevirtual 341, 3) := by decide +kernel
theorem dX7_victimOf_72 : decode cX7_victimOf 72 = .ok (.ifCond .eq 11, 3) := by decide +kernel
theorem dX7_victimOf_75 : decode cX7_victimOf 75 = .ok (.aload_n 0, 1) := by decide +kernel
theorem dX7_victimOf_76 : decode cX7_victimOf 76 = .ok (.getfield 30, 3) := by decide +kernel
theorem dX7_victimOf_79 : decode cX7_victimOf 79 = .ok (.iload 4, 2) := by decide +kernel
theorem dX7_victimOf_81 : decode cX7_victimOf 81 = .ok (.iaload, 1) := by decide +kernel
theorem dX7_victimOf_82 : decode cX7_victimOf 82 = .ok (.istore_n 3, 1) := by decide +kernel
theorem dX7_victimOf_83 : decode cX7_victimOf 83 = .ok (.iinc 4 1, 3) := by decide +kernel
theorem dX7_victimOf_86 : decode cX7_victimOf 86 = .ok (.goto (-75), 3) := by decide +kernel
theorem dX7_victimOf_89 : decode cX7_victimOf 89 = .ok (.iload_n 3, 1) := by decide +kernel
theorem dX7_victimOf_90 : decode cX7_victimOf 90 = .ok (.ireturn, 1) := by decide +kernel
theorem dX7_writesBack_0 : decode cX7_writesBack 0 = .ok (.aload_n 0, 1) := by decide +kernel
theorem dX7_writesBack_1 : decode cX7_writesBack 1 = .ok (.getfield 21, 3) := by decide +kernel
theorem dX7_writesBack_4 : decode cX7_writesBack 4 = .ok (.sipush 576, 3) := by decide +kernel
theorem dX7_writesBack_7 : decode cX7_writesBack 7 = .ok (.iload_n 1, 1) := by decide +kernel
theorem dX7_writesBack_8 : decode cX7_writesBack 8 = .ok (.iadd, 1) := by decide +kernel
theorem dX7_writesBack_9 : decode cX7_writesBack 9 = .ok (.iaload, 1) := by decide +kernel
theorem dX7_writesBack_10 : decode cX7_writesBack 10 = .ok (.iconst 1, 1) := by decide +kernel
theorem dX7_writesBack_11 : decode cX7_writesBack 11 = .ok (.if_icmp .ne 7, 3) := by decide +kernel
theorem dX7_writesBack_14 : decode cX7_writesBack 14 = .ok (.iconst 1, 1) := by decide +kernel
theorem dX7_writesBack_15 : decode cX7_writesBack 15 = .ok (.goto 4, 3) := by decide +kernel
theorem dX7_writesBack_18 : decode cX7_writesBack 18 = .ok (.iconst 0, 1) := by decide +kernel
theorem dX7_writesBack_19 : decode cX7_writesBack 19 = .ok (.istore_n 2, 1) := by decide +kernel
theorem dX7_writesBack_20 : decode cX7_writesBack 20 = .ok (.iload_n 2, 1) := by decide +kernel
theorem dX7_writesBack_21 : decode cX7_writesBack 21 = .ok (.ifCond .eq 43, 3) := by decide +kernel
theorem dX7_writesBack_24 : decode cX7_writesBack 24 = .ok (.iconst 0, 1) := by decide +kernel
theorem dX7_writesBack_25 : decode cX7_writesBack 25 = .ok (.istore_n 3, 1) := by decide +kernel
theorem dX7_writesBack_26 : decode cX7_writesBack 26 = .ok (.iload_n 3, 1) := by decide +kernel
theorem dX7_writesBack_27 : decode cX7_writesBack 27 = .ok (.bipush 8, 2) := by decide +kernel
theorem dX7_writesBack_29 : decode cX7_writesBack 29 = .ok (.if_icmp .ge 35, 3) := by decide +kernel
theorem dX7_writesBack_32 : decode cX7_writesBack 32 = .ok (.aload_n 0, 1) := by decide +kernel
theorem dX7_writesBack_33 : decode cX7_writesBack 33 = .ok (.getfield 21, 3) := by decide +kernel
theorem dX7_writesBack_36 : decode cX7_writesBack 36 = .ok (.bipush 8, 2) := by decide +kernel
theorem dX7_writesBack_38 : decode cX7_writesBack 38 = .ok (.iload_n 1, 1) := by decide +kernel
theorem dX7_writesBack_39 : decode cX7_writesBack 39 = .ok (.imul, 1) := by decide +kernel
theorem dX7_writesBack_40 : decode cX7_writesBack 40 = .ok (.iload_n 3, 1) := by decide +kernel
theorem dX7_writesBack_41 : decode cX7_writesBack 41 = .ok (.iadd, 1) := by decide +kernel
theorem dX7_writesBack_42 : decode cX7_writesBack 42 = .ok (.aload_n 0, 1) := by decide +kernel
theorem dX7_writesBack_43 : decode cX7_writesBack 43 = .ok (.getfield 21, 3) := by decide +kernel
theorem dX7_writesBack_46 : decode cX7_writesBack 46 = .ok (.sipush 256, 3) := by decide +kernel
theorem dX7_writesBack_49 : decode cX7_writesBack 49 = .ok (.bipush 8, 2) := by decide +kernel
theorem dX7_writesBack_51 : decode cX7_writesBack 51 = .ok (.iload_n 1, 1) := by decide +kernel
theorem dX7_writesBack_52 : decode cX7_writesBack 52 = .ok (.imul, 1) := by decide +kernel
theorem dX7_writesBack_53 : decode cX7_writesBack 53 = .ok (.iadd, 1) := by decide +kernel
theorem dX7_writesBack_54 : decode cX7_writesBack 54 = .ok (.iload_n 3, 1) := by decide +kernel
theorem dX7_writesBack_55 : decode cX7_writesBack 55 = .ok (.iadd, 1) := by decide +kernel
theorem dX7_writesBack_56 : decode cX7_writesBack 56 = .ok (.iaload, 1) := by decide +kernel
theorem dX7_writesBack_57 : decode cX7_writesBack 57 = .ok (.iastore, 1) := by decide +kernel
theorem dX7_writesBack_58 : decode cX7_writesBack 58 = .ok (.iinc 3 1, 3) := by decide +kernel
theorem dX7_writesBack_61 : decode cX7_writesBack 61 = .ok (.goto (-35), 3) := by decide +kernel
theorem dX7_writesBack_64 : decode cX7_writesBack 64 = .ok (.aload_n 0, 1) := by decide +kernel
theorem dX7_writesBack_65 : decode cX7_writesBack 65 = .ok (.getfield 21, 3) := by decide +kernel
theorem dX7_writesBack_68 : decode cX7_writesBack 68 = .ok (.sipush 576, 3) := by decide +kernel
theorem dX7_writesBack_71 : decode cX7_writesBack 71 = .ok (.iload_n 1, 1) := by decide +kernel
theorem dX7_writesBack_72 : decode cX7_writesBack 72 = .ok (.iadd, 1) := by decide +kernel
theorem dX7_writesBack_73 : decode cX7_writesBack 73 = .ok (.iconst 0, 1) := by decide +kernel
theorem dX7_writesBack_74 : decode cX7_writesBack 74 = .ok (.iastore, 1) := by decide +kernel
theorem dX7_writesBack_75 : decode cX7_writesBack 75 = .ok (.aload_n 0, 1) := by decide +kernel
theorem dX7_writesBack_76 : decode cX7_writesBack 76 = .ok (.dup, 1) := by decide +kernel
theorem dX7_writesBack_77 : decode cX7_writesBack 77 = .ok (.getfield 273, 3) := by decide +kernel
theorem dX7_writesBack_80 : decode cX7_writesBack 80 = .ok (.iload_n 2, 1) := by decide +kernel
theorem dX7_writesBack_81 : decode cX7_writesBack 81 = .ok (.ifCond .eq 7, 3) := by decide +kernel
theorem dX7_writesBack_84 : decode cX7_writesBack 84 = .ok (.iconst 1, 1) := by decide +kernel
theorem dX7_writesBack_85 : decode cX7_writesBack 85 = .ok (.goto 4, 3) := by decide +kernel
theorem dX7_writesBack_88 : decode cX7_writesBack 88 = .ok (.iconst 0, 1) := by decide +kernel
theorem dX7_writesBack_89 : decode cX7_writesBack 89 = .ok (.iadd, 1) := by decide +kernel
theorem dX7_writesBack_90 : decode cX7_writesBack 90 = .ok (.putfield 273, 3) := by decide +kernel
theorem dX7_writesBack_93 : decode cX7_writesBack 93 = .ok (.iload_n 2, 1) := by decide +kernel
theorem dX7_writesBack_94 : decode cX7_writesBack 94 = .ok (.ireturn, 1) := by decide +kernel
theorem dX7_leaves_0 : decode cX7_leaves 0 = .ok (.aload_n 0, 1) := by decide +kernel
theorem dX7_leaves_1 : decode cX7_leaves 1 = .ok (.iload_n 1, 1) := by decide +kernel
theorem dX7_leaves_2 : decode cX7_leaves 2 = .ok (.invokevirtual 344, 3) := by decide +kernel
theorem dX7_leaves_5 : decode cX7_leaves 5 = .ok (.istore_n 2, 1) := by decide +kernel
theorem dX7_leaves_6 : decode cX7_leaves 6 = .ok (.aload_n 0, 1) := by decide +kernel
theorem dX7_leaves_7 : decode cX7_leaves 7 = .ok (.getfield 21, 3) := by decide +kernel
theorem dX7_leaves_10 : decode cX7_leaves 10 = .ok (.sipush 512, 3) := by decide +kernel
theorem dX7_leaves_13 : decode cX7_leaves 13 = .ok (.iload_n 1, 1) := by decide +kernel
theorem dX7_leaves_14 : decode cX7_leaves 14 = .ok (.iadd, 1) := by decide +kernel
theorem dX7_leaves_15 : decode cX7_leaves 15 = .ok (.iconst 0, 1) := by decide +kernel
theorem dX7_leaves_16 : decode cX7_leaves 16 = .ok (.iastore, 1) := by decide +kernel
theorem dX7_leaves_17 : decode cX7_leaves 17 = .ok (.aload_n 0, 1) := by decide +kernel
theorem dX7_leaves_18 : decode cX7_leaves 18 = .ok (.getfield 21, 3) := by decide +kernel
theorem dX7_leaves_21 : decode cX7_leaves 21 = .ok (.sipush 544, 3) := by decide +kernel
theorem dX7_leaves_24 : decode cX7_leaves 24 = .ok (.iload_n 1, 1) := by decide +kernel
theorem dX7_leaves_25 : decode cX7_leaves 25 = .ok (.iadd, 1) := by decide +kernel
theorem dX7_leaves_26 : decode cX7_leaves 26 = .ok (.iconst 0, 1) := by decide +kernel
theorem dX7_leaves_27 : decode cX7_leaves 27 = .ok (.iastore, 1) := by decide +kernel
theorem dX7_leaves_28 : decode cX7_leaves 28 = .ok (.iload_n 2, 1) := by decide +kernel
theorem dX7_leaves_29 : decode cX7_leaves 29 = .ok (.ireturn, 1) := by decide +kernel
theorem dX7_goes_0 : decode cX7_goes 0 = .ok (.aload_n 0, 1) := by decide +kernel
theorem dX7_goes_1 : decode cX7_goes 1 = .ok (.aload_n 0, 1) := by decide +kernel
theorem dX7_goes_2 : decode cX7_goes 2 = .ok (.iload_n 1, 1) := by decide +kernel
theorem dX7_goes_3 : decode cX7_goes 3 = .ok (.iload_n 2, 1) := by decide +kernel
theorem dX7_goes_4 : decode cX7_goes 4 = .ok (.invokevirtual 347, 3) := by decide +kernel
theorem dX7_goes_7 : decode cX7_goes 7 = .ok (.invokevirtual 350, 3) := by decide +kernel
theorem dX7_goes_10 : decode cX7_goes 10 = .ok (.pop, 1) := by decide +kernel
theorem dX7_goes_11 : decode cX7_goes 11 = .ok (.aload_n 0, 1) := by decide +kernel
theorem dX7_goes_12 : decode cX7_goes 12 = .ok (.dup, 1) := by decide +kernel
theorem dX7_goes_13 : decode cX7_goes 13 = .ok (.getfield 270, 3) := by decide +kernel
theorem dX7_goes_16 : decode cX7_goes 16 = .ok (.iconst 1, 1) := by decide +kernel
theorem dX7_goes_17 : decode cX7_goes 17 = .ok (.iadd, 1) := by decide +kernel
theorem dX7_goes_18 : decode cX7_goes 18 = .ok (.putfield 270, 3) := by decide +kernel
theorem dX7_goes_21 : decode cX7_goes 21 = .ok (.return_, 1) := by decide +kernel
theorem dX7_hasRoom_0 : decode cX7_hasRoom 0 = .ok (.aload_n 0, 1) := by decide +kernel
theorem dX7_hasRoom_1 : decode cX7_hasRoom 1 = .ok (.iload_n 1, 1) := by decide +kernel
theorem dX7_hasRoom_2 : decode cX7_hasRoom 2 = .ok (.invokevirtual 353, 3) := by decide +kernel
theorem dX7_hasRoom_5 : decode cX7_hasRoom 5 = .ok (.iconst 2, 1) := by decide +kernel
theorem dX7_hasRoom_6 : decode cX7_hasRoom 6 = .ok (.aload_n 0, 1) := by decide +kernel
theorem dX7_hasRoom_7 : decode cX7_hasRoom 7 = .ok (.getfield 269, 3) := by decide +kernel
theorem dX7_hasRoom_10 : decode cX7_hasRoom 10 = .ok (.imul, 1) := by decide +kernel
theorem dX7_hasRoom_11 : decode cX7_hasRoom 11 = .ok (.if_icmp .ne 5, 3) := by decide +kernel
theorem dX7_hasRoom_14 : decode cX7_hasRoom 14 = .ok (.iconst 0, 1) := by decide +kernel
theorem dX7_hasRoom_15 : decode cX7_hasRoom 15 = .ok (.ireturn, 1) := by decide +kernel
theorem dX7_hasRoom_16 : decode cX7_hasRoom 16 = .ok (.aload_n 0, 1) := by decide +kernel
theorem dX7_hasRoom_17 : decode cX7_hasRoom 17 = .ok (.iload_n 1, 1) := by decide +kernel
theorem dX7_hasRoom_18 : decode cX7_hasRoom 18 = .ok (.invokevirtual 356, 3) := by decide +kernel
theorem dX7_hasRoom_21 : decode cX7_hasRoom 21 = .ok (.iload_n 2, 1) := by decide +kernel
theorem dX7_hasRoom_22 : decode cX7_hasRoom 22 = .ok (.iadd, 1) := by decide +kernel
theorem dX7_hasRoom_23 : decode cX7_hasRoom 23 = .ok (.iconst 4, 1) := by decide +kernel
theorem dX7_hasRoom_24 : decode cX7_hasRoom 24 = .ok (.aload_n 0, 1) := by decide +kernel
theorem dX7_hasRoom_25 : decode cX7_hasRoom 25 = .ok (.getfield 269, 3) := by decide +kernel
theorem dX7_hasRoom_28 : decode cX7_hasRoom 28 = .ok (.imul, 1) := by decide +kernel
theorem dX7_hasRoom_29 : decode cX7_hasRoom 29 = .ok (.if_icmp .gt 7, 3) := by decide +kernel
theorem dX7_hasRoom_32 : decode cX7_hasRoom 32 = .ok (.iconst 1, 1) := by decide +kernel
theorem dX7_hasRoom_33 : decode cX7_hasRoom 33 = .ok (.goto 4, 3) := by decide +kernel
theorem dX7_hasRoom_36 : decode cX7_hasRoom 36 = .ok (.iconst 0, 1) := by decide +kernel
theorem dX7_hasRoom_37 : decode cX7_hasRoom 37 = .ok (.ireturn, 1) := by decide +kernel
theorem dX7_comes_0 : decode cX7_comes 0 = .ok (.aload_n 0, 1) := by decide +kernel
theorem dX7_comes_1 : decode cX7_comes 1 = .ok (.iload_n 1, 1) := by decide +kernel
theorem dX7_comes_2 : decode cX7_comes 2 = .ok (.invokevirtual 359, 3) := by decide +kernel
theorem dX7_comes_5 : decode cX7_comes 5 = .ok (.istore_n 2, 1) := by decide +kernel
theorem dX7_comes_6 : decode cX7_comes 6 = .ok (.aload_n 0, 1) := by decide +kernel
theorem dX7_comes_7 : decode cX7_comes 7 = .ok (.iload_n 1, 1) := by decide +kernel
theorem dX7_comes_8 : decode cX7_comes 8 = .ok (.invokevirtual 332, 3) := by decide +kernel
theorem dX7_comes_11 : decode cX7_comes 11 = .ok (.istore_n 3, 1) := by decide +kernel
theorem dX7_comes_12 : decode cX7_comes 12 = .ok (.aload_n 0, 1) := by decide +kernel
theorem dX7_comes_13 : decode cX7_comes 13 = .ok (.iload_n 2, 1) := by decide +kernel
theorem dX7_comes_14 : decode cX7_comes 14 = .ok (.iload_n 3, 1) := by decide +kernel
theorem dX7_comes_15 : decode cX7_comes 15 = .ok (.invokevirtual 362, 3) := by decide +kernel
theorem dX7_comes_18 : decode cX7_comes 18 = .ok (.ifCond .ne 13, 3) := by decide +kernel
theorem dX7_comes_21 : decode cX7_comes 21 = .ok (.aload_n 0, 1) := by decide +kernel
theorem dX7_comes_22 : decode cX7_comes 22 = .ok (.iload_n 2, 1) := by decide +kernel
theorem dX7_comes_23 : decode cX7_comes 23 = .ok (.bipush (-2), 2) := by decide +kernel
theorem dX7_comes_25 : decode cX7_comes 25 = .ok (.invokevirtual 365, 3) := by decide +kernel
theorem dX7_comes_28 : decode cX7_comes 28 = .ok (.goto (-16), 3) := by decide +kernel
theorem dX7_comes_31 : decode cX7_comes 31 = .ok (.iconst 0, 1) := by decide +kernel
theorem dX7_comes_32 : decode cX7_comes 32 = .ok (.istore 4, 2) := by decide +kernel
theorem dX7_comes_34 : decode cX7_comes 34 = .ok (.iload 4, 2) := by decide +kernel
theorem dX7_comes_36 : decode cX7_comes 36 = .ok (.bipush 8, 2) := by decide +kernel
theorem dX7_comes_38 : decode cX7_comes 38 = .ok (.if_icmp .ge 37, 3) := by decide +kernel
theorem dX7_comes_41 : decode cX7_comes 41 = .ok (.aload_n 0, 1) := by decide +kernel
theorem dX7_comes_42 : decode cX7_comes 42 = .ok (.getfield 21, 3) := by decide +kernel
theorem dX7_comes_45 : decode cX7_comes 45 = .ok (.sipush 256, 3) := by decide +kernel
theorem dX7_comes_48 : decode cX7_comes 48 = .ok (.bipush 8, 2) := by decide +kernel
theorem dX7_comes_50 : decode cX7_comes 50 = .ok (.iload_n 1, 1) := by decide +kernel
theorem dX7_comes_51 : decode cX7_comes 51 = .ok (.imul, 1) := by decide +kernel
theorem dX7_comes_52 : decode cX7_comes 52 = .ok (.iadd, 1) := by decide +kernel
theorem dX7_comes_53 : decode cX7_comes 53 = .ok (.iload 4, 2) := by decide +kernel
theorem dX7_comes_55 : decode cX7_comes 55 = .ok (.iadd, 1) := by decide +kernel
theorem dX7_comes_56 : decode cX7_comes 56 = .ok (.aload_n 0, 1) := by decide +kernel
theorem dX7_comes_57 : decode cX7_comes 57 = .ok (.getfield 21, 3) := by decide +kernel
theorem dX7_comes_60 : decode cX7_comes 60 = .ok (.bipush 8, 2) := by decide +kernel
theorem dX7_comes_62 : decode cX7_comes 62 = .ok (.iload_n 1, 1) := by decide +kernel
theorem dX7_comes_63 : decode cX7_comes 63 = .ok (.imul, 1) := by decide +kernel
theorem dX7_comes_64 : decode cX7_comes 64 = .ok (.iload 4, 2) := by decide +kernel
theorem dX7_comes_66 : decode cX7_comes 66 = .ok (.iadd, 1) := by decide +kernel
theorem dX7_comes_67 : decode cX7_comes 67 = .ok (.iaload, 1) := by decide +kernel
theorem dX7_comes_68 : decode cX7_comes 68 = .ok (.iastore, 1) := by decide +kernel
theorem dX7_comes_69 : decode cX7_comes 69 = .ok (.iinc 4 1, 3) := by decide +kernel
theorem dX7_comes_72 : decode cX7_comes 72 = .ok (.goto (-38), 3) := by decide +kernel
theorem dX7_comes_75 : decode cX7_comes 75 = .ok (.aload_n 0, 1) := by decide +kernel
theorem dX7_comes_76 : decode cX7_comes 76 = .ok (.getfield 21, 3) := by decide +kernel
theorem dX7_comes_79 : decode cX7_comes 79 = .ok (.sipush 576, 3) := by decide +kernel
theorem dX7_comes_82 : decode cX7_comes 82 = .ok (.iload_n 1, 1) := by decide +kernel
theorem dX7_comes_83 : decode cX7_comes 83 = .ok (.iadd, 1) := by decide +kernel
theorem dX7_comes_84 : decode cX7_comes 84 = .ok (.iconst 0, 1) := by decide +kernel
theorem dX7_comes_85 : decode cX7_comes 85 = .ok (.iastore, 1) := by decide +kernel
theorem dX7_comes_86 : decode cX7_comes 86 = .ok (.return_, 1) := by decide +kernel
theorem dX7_uses_0 : decode cX7_uses 0 = .ok (.aload_n 0, 1) := by decide +kernel
theorem dX7_uses_1 : decode cX7_uses 1 = .ok (.getfield 21, 3) := by decide +kernel
theorem dX7_uses_4 : decode cX7_uses 4 = .ok (.sipush 608, 3) := by decide +kernel
theorem dX7_uses_7 : decode cX7_uses 7 = .ok (.dup2, 1) := by decide +kernel
theorem dX7_uses_8 : decode cX7_uses 8 = .ok (.iaload, 1) := by decide +kernel
theorem dX7_uses_9 : decode cX7_uses 9 = .ok (.iconst 1, 1) := by decide +kernel
theorem dX7_uses_10 : decode cX7_uses 10 = .ok (.iadd, 1) := by decide +kernel
theorem dX7_uses_11 : decode cX7_uses 11 = .ok (.iastore, 1) := by decide +kernel
theorem dX7_uses_12 : decode cX7_uses 12 = .ok (.aload_n 0, 1) := by decide +kernel
theorem dX7_uses_13 : decode cX7_uses 13 = .ok (.iload_n 1, 1) := by decide +kernel
theorem dX7_uses_14 : decode cX7_uses 14 = .ok (.invokevirtual 279, 3) := by decide +kernel
theorem dX7_uses_17 : decode cX7_uses 17 = .ok (.istore_n 2, 1) := by decide +kernel
theorem dX7_uses_18 : decode cX7_uses 18 = .ok (.iload_n 2, 1) := by decide +kernel
theorem dX7_uses_19 : decode cX7_uses 19 = .ok (.ifCond .ne 8, 3) := by decide +kernel
theorem dX7_uses_22 : decode cX7_uses 22 = .ok (.aload_n 0, 1) := by decide +kernel
theorem dX7_uses_23 : decode cX7_uses 23 = .ok (.iload_n 1, 1) := by decide +kernel
theorem dX7_uses_24 : decode cX7_uses 24 = .ok (.invokevirtual 368, 3) := by decide +kernel
theorem dX7_uses_27 : decode cX7_uses 27 = .ok (.aload_n 0, 1) := by decide +kernel
theorem dX7_uses_28 : decode cX7_uses 28 = .ok (.getfield 21, 3) := by decide +kernel
theorem dX7_uses_31 : decode cX7_uses 31 = .ok (.sipush 512, 3) := by decide +kernel
theorem dX7_uses_34 : decode cX7_uses 34 = .ok (.iload_n 1, 1) := by decide +kernel
theorem dX7_uses_35 : decode cX7_uses 35 = .ok (.iadd, 1) := by decide +kernel
theorem dX7_uses_36 : decode cX7_uses 36 = .ok (.dup2, 1) := by decide +kernel
theorem dX7_uses_37 : decode cX7_uses 37 = .ok (.iaload, 1) := by decide +kernel
theorem dX7_uses_38 : decode cX7_uses 38 = .ok (.iconst 1, 1) := by decide +kernel
theorem dX7_uses_39 : decode cX7_uses 39 = .ok (.iadd, 1) := by decide +kernel
theorem dX7_uses_40 : decode cX7_uses 40 = .ok (.iastore, 1) := by decide +kernel
theorem dX7_uses_41 : decode cX7_uses 41 = .ok (.aload_n 0, 1) := by decide +kernel
theorem dX7_uses_42 : decode cX7_uses 42 = .ok (.getfield 21, 3) := by decide +kernel
theorem dX7_uses_45 : decode cX7_uses 45 = .ok (.sipush 544, 3) := by decide +kernel
theorem dX7_uses_48 : decode cX7_uses 48 = .ok (.iload_n 1, 1) := by decide +kernel
theorem dX7_uses_49 : decode cX7_uses 49 = .ok (.iadd, 1) := by decide +kernel
theorem dX7_uses_50 : decode cX7_uses 50 = .ok (.aload_n 0, 1) := by decide +kernel
theorem dX7_uses_51 : decode cX7_uses 51 = .ok (.getfield 21, 3) := by decide +kernel
theorem dX7_uses_54 : decode cX7_uses 54 = .ok (.sipush 608, 3) := by decide +kernel
theorem dX7_uses_57 : decode cX7_uses 57 = .ok (.iaload, 1) := by decide +kernel
theorem dX7_uses_58 : decode cX7_uses 58 = .ok (.iastore, 1) := by decide +kernel
theorem dX7_uses_59 : decode cX7_uses 59 = .ok (.iload_n 2, 1) := by decide +kernel
theorem dX7_uses_60 : decode cX7_uses 60 = .ok (.ireturn, 1) := by decide +kernel
theorem dX7_puts_0 : decode cX7_puts 0 = .ok (.aload_n 0, 1) := by decide +kernel
theorem dX7_puts_1 : decode cX7_puts 1 = .ok (.iload_n 1, 1) := by decide +kernel
theorem dX7_puts_2 : decode cX7_puts 2 = .ok (.invokevirtual 371, 3) := by decide +kernel
theorem dX7_puts_5 : decode cX7_puts 5 = .ok (.istore 4, 2) := by decide +kernel
theorem dX7_puts_7 : decode cX7_puts 7 = .ok (.aload_n 0, 1) := by decide +kernel
theorem dX7_puts_8 : decode cX7_puts 8 = .ok (.getfield 21, 3) := by decide +kernel
theorem dX7_puts_11 : decode cX7_puts 11 = .ok (.sipush 256, 3) := by decide +kernel
theorem dX7_puts_14 : decode cX7_puts 14 = .ok (.bipush 8, 2) := by decide +kernel
theorem dX7_puts_16 : decode cX7_puts 16 = .ok (.iload_n 1, 1) := by decide +kernel
theorem dX7_puts_17 : decode cX7_puts 17 = .ok (.imul, 1) := by decide +kernel
theorem dX7_puts_18 : decode cX7_puts 18 = .ok (.iadd, 1) := by decide +kernel
theorem dX7_puts_19 : decode cX7_puts 19 = .ok (.iload_n 2, 1) := by decide +kernel
theorem dX7_puts_20 : decode cX7_puts 20 = .ok (.iadd, 1) := by decide +kernel
theorem dX7_puts_21 : decode cX7_puts 21 = .ok (.iload_n 3, 1) := by decide +kernel
theorem dX7_puts_22 : decode cX7_puts 22 = .ok (.iastore, 1) := by decide +kernel
theorem dX7_puts_23 : decode cX7_puts 23 = .ok (.aload_n 0, 1) := by decide +kernel
theorem dX7_puts_24 : decode cX7_puts 24 = .ok (.getfield 21, 3) := by decide +kernel
theorem dX7_puts_27 : decode cX7_puts 27 = .ok (.sipush 576, 3) := by decide +kernel
theorem dX7_puts_30 : decode cX7_puts 30 = .ok (.iload_n 1, 1) := by decide +kernel
theorem dX7_puts_31 : decode cX7_puts 31 = .ok (.iadd, 1) := by decide +kernel
theorem dX7_puts_32 : decode cX7_puts 32 = .ok (.iconst 1, 1) := by decide +kernel
theorem dX7_puts_33 : decode cX7_puts 33 = .ok (.iastore, 1) := by decide +kernel
theorem dX7_puts_34 : decode cX7_puts 34 = .ok (.aload_n 0, 1) := by decide +kernel
theorem dX7_puts_35 : decode cX7_puts 35 = .ok (.aload_n 0, 1) := by decide +kernel
theorem dX7_puts_36 : decode cX7_puts 36 = .ok (.iload_n 1, 1) := by decide +kernel
theorem dX7_puts_37 : decode cX7_puts 37 = .ok (.invokevirtual 359, 3) := by decide +kernel
theorem dX7_puts_40 : decode cX7_puts 40 = .ok (.invokevirtual 356, 3) := by decide +kernel
theorem dX7_puts_43 : decode cX7_puts 43 = .ok (.iconst 4, 1) := by decide +kernel
theorem dX7_puts_44 : decode cX7_puts 44 = .ok (.aload_n 0, 1) := by decide +kernel
theorem dX7_puts_45 : decode cX7_puts 45 = .ok (.getfield 269, 3) := by decide +kernel
theorem dX7_puts_48 : decode cX7_puts 48 = .ok (.imul, 1) := by decide +kernel
theorem dX7_puts_49 : decode cX7_puts 49 = .ok (.if_icmp .le 16, 3) := by decide +kernel
theorem dX7_puts_52 : decode cX7_puts 52 = .ok (.aload_n 0, 1) := by decide +kernel
theorem dX7_puts_53 : decode cX7_puts 53 = .ok (.aload_n 0, 1) := by decide +kernel
theorem dX7_puts_54 : decode cX7_puts 54 = .ok (.iload_n 1, 1) := by decide +kernel
theorem dX7_puts_55 : decode cX7_puts 55 = .ok (.invokevirtual 359, 3) := by decide +kernel
theorem dX7_puts_58 : decode cX7_puts 58 = .ok (.iload_n 1, 1) := by decide +kernel
theorem dX7_puts_59 : decode cX7_puts 59 = .ok (.invokevirtual 365, 3) := by decide +kernel
theorem dX7_puts_62 : decode cX7_puts 62 = .ok (.goto (-28), 3) := by decide +kernel
theorem dX7_puts_65 : decode cX7_puts 65 = .ok (.iload 4, 2) := by decide +kernel
theorem dX7_puts_67 : decode cX7_puts 67 = .ok (.ireturn, 1) := by decide +kernel
theorem dX7_isLine_0 : decode cX7_isLine 0 = .ok (.aload_n 0, 1) := by decide +kernel
theorem dX7_isLine_1 : decode cX7_isLine 1 = .ok (.getfield 255, 3) := by decide +kernel
theorem dX7_isLine_4 : decode cX7_isLine 4 = .ok (.ifnull 17, 3) := by decide +kernel
theorem dX7_isLine_7 : decode cX7_isLine 7 = .ok (.iload_n 1, 1) := by decide +kernel
theorem dX7_isLine_8 : decode cX7_isLine 8 = .ok (.ifCond .lt 13, 3) := by decide +kernel
theorem dX7_isLine_11 : decode cX7_isLine 11 = .ok (.iload_n 1, 1) := by decide +kernel
theorem dX7_isLine_12 : decode cX7_isLine 12 = .ok (.bipush 32, 2) := by decide +kernel
theorem dX7_isLine_14 : decode cX7_isLine 14 = .ok (.if_icmp .ge 7, 3) := by decide +kernel
theorem dX7_isLine_17 : decode cX7_isLine 17 = .ok (.iconst 1, 1) := by decide +kernel
theorem dX7_isLine_18 : decode cX7_isLine 18 = .ok (.goto 4, 3) := by decide +kernel
theorem dX7_isLine_21 : decode cX7_isLine 21 = .ok (.iconst 0, 1) := by decide +kernel
theorem dX7_isLine_22 : decode cX7_isLine 22 = .ok (.ireturn, 1) := by decide +kernel
theorem dX7_isPlace_0 : decode cX7_isPlace 0 = .ok (.aload_n 0, 1) := by decide +kernel
theorem dX7_isPlace_1 : decode cX7_isPlace 1 = .ok (.iload_n 1, 1) := by decide +kernel
theorem dX7_isPlace_2 : decode cX7_isPlace 2 = .ok (.invokevirtual 374, 3) := by decide +kernel
theorem dX7_isPlace_5 : decode cX7_isPlace 5 = .ok (.ifCond .eq 17, 3) := by decide +kernel
theorem dX7_isPlace_8 : decode cX7_isPlace 8 = .ok (.iload_n 2, 1) := by decide +kernel
theorem dX7_isPlace_9 : decode cX7_isPlace 9 = .ok (.ifCond .lt 13, 3) := by decide +kernel
theorem dX7_isPlace_12 : decode cX7_isPlace 12 = .ok (.iload_n 2, 1) := by decide +kernel
theorem dX7_isPlace_13 : decode cX7_isPlace 13 = .ok (.bipush 8, 2) := by decide +kernel
theorem dX7_isPlace_15 : decode cX7_isPlace 15 = .ok (.if_icmp .ge 7, 3) := by decide +kernel
theorem dX7_isPlace_18 : decode cX7_isPlace 18 = .ok (.iconst 1, 1) := by decide +kernel
theorem dX7_isPlace_19 : decode cX7_isPlace 19 = .ok (.goto 4, 3) := by decide +kernel
theorem dX7_isPlace_22 : decode cX7_isPlace 22 = .ok (.iconst 0, 1) := by decide +kernel
theorem dX7_isPlace_23 : decode cX7_isPlace 23 = .ok (.ireturn, 1) := by decide +kernel
theorem dX7_word_0 : decode cX7_word 0 = .ok (.aload_n 0, 1) := by decide +kernel
theorem dX7_word_1 : decode cX7_word 1 = .ok (.iconst 0, 1) := by decide +kernel
theorem dX7_word_2 : decode cX7_word 2 = .ok (.putfield 43, 3) := by decide +kernel
theorem dX7_word_5 : decode cX7_word 5 = .ok (.aload_n 0, 1) := by decide +kernel
theorem dX7_word_6 : decode cX7_word 6 = .ok (.iload_n 1, 1) := by decide +kernel
theorem dX7_word_7 : decode cX7_word 7 = .ok (.iload_n 2, 1) := by decide +kernel
theorem dX7_word_8 : decode cX7_word 8 = .ok (.invokevirtual 377, 3) := by decide +kernel
theorem dX7_word_11 : decode cX7_word 11 = .ok (.ifCond .ne 9, 3) := by decide +kernel
theorem dX7_word_14 : decode cX7_word 14 = .ok (.aload_n 0, 1) := by decide +kernel
theorem dX7_word_15 : decode cX7_word 15 = .ok (.iconst 1, 1) := by decide +kernel
theorem dX7_word_16 : decode cX7_word 16 = .ok (.invokevirtual 49, 3) := by decide +kernel
theorem dX7_word_19 : decode cX7_word 19 = .ok (.ireturn, 1) := by decide +kernel
theorem dX7_word_20 : decode cX7_word 20 = .ok (.aload_n 0, 1) := by decide +kernel
theorem dX7_word_21 : decode cX7_word 21 = .ok (.invokevirtual 380, 3) := by decide +kernel
theorem dX7_word_24 : decode cX7_word 24 = .ok (.aload_n 0, 1) := by decide +kernel
theorem dX7_word_25 : decode cX7_word 25 = .ok (.aload_n 0, 1) := by decide +kernel
theorem dX7_word_26 : decode cX7_word 26 = .ok (.iload_n 1, 1) := by decide +kernel
theorem dX7_word_27 : decode cX7_word 27 = .ok (.iload_n 2, 1) := by decide +kernel
theorem dX7_word_28 : decode cX7_word 28 = .ok (.invokevirtual 285, 3) := by decide +kernel
theorem dX7_word_31 : decode cX7_word 31 = .ok (.invokevirtual 53, 3) := by decide +kernel
theorem dX7_word_34 : decode cX7_word 34 = .ok (.ireturn, 1) := by decide +kernel
theorem dX7_memory_0 : decode cX7_memory 0 = .ok (.aload_n 0, 1) := by decide +kernel
theorem dX7_memory_1 : decode cX7_memory 1 = .ok (.iconst 0, 1) := by decide +kernel
theorem dX7_memory_2 : decode cX7_memory 2 = .ok (.putfield 43, 3) := by decide +kernel
theorem dX7_memory_5 : decode cX7_memory 5 = .ok (.aload_n 0, 1) := by decide +kernel
theorem dX7_memory_6 : decode cX7_memory 6 = .ok (.iload_n 1, 1) := by decide +kernel
theorem dX7_memory_7 : decode cX7_memory 7 = .ok (.iload_n 2, 1) := by decide +kernel
theorem dX7_memory_8 : decode cX7_memory 8 = .ok (.invokevirtual 377, 3) := by decide +kernel
theorem dX7_memory_11 : decode cX7_memory 11 = .ok (.ifCond .eq 21, 3) := by decide +kernel
theorem dX7_memory_14 : decode cX7_memory 14 = .ok (.aload_n 0, 1) := by decide +kernel
theorem dX7_memory_15 : decode cX7_memory 15 = .ok (.aload_n 0, 1) := by decide +kernel
theorem dX7_memory_16 : decode cX7_memory 16 = .ok (.getfield 17, 3) := by decide +kernel
theorem dX7_memory_19 : decode cX7_memory 19 = .ok (.bipush 8, 2) := by decide +kernel
theorem dX7_memory_21 : decode cX7_memory 21 = .ok (.iload_n 1, 1) := by decide +kernel
theorem dX7_memory_22 : decode cX7_memory 22 = .ok (.imul, 1) := by decide +kernel
theorem dX7_memory_23 : decode cX7_memory 23 = .ok (.iload_n 2, 1) := by decide +kernel
theorem dX7_memory_24 : decode cX7_memory 24 = .ok (.iadd, 1) := by decide +kernel
theorem dX7_memory_25 : decode cX7_memory 25 = .ok (.iaload, 1) := by decide +kernel
theorem dX7_memory_26 : decode cX7_memory 26 = .ok (.invokevirtual 53, 3) := by decide +kernel
theorem dX7_memory_29 : decode cX7_memory 29 = .ok (.goto 8, 3) := by decide +kernel
theorem dX7_memory_32 : decode cX7_memory 32 = .ok (.aload_n 0, 1) := by decide +kernel
theorem dX7_memory_33 : decode cX7_memory 33 = .ok (.iconst 1, 1) := by decide +kernel
theorem dX7_memory_34 : decode cX7_memory 34 = .ok (.invokevirtual 49, 3) := by decide +kernel
theorem dX7_memory_37 : decode cX7_memory 37 = .ok (.ireturn, 1) := by decide +kernel
theorem dX7_form_0 : decode cX7_form 0 = .ok (.aload_n 0, 1) := by decide +kernel
theorem dX7_form_1 : decode cX7_form 1 = .ok (.iconst 0, 1) := by decide +kernel
theorem dX7_form_2 : decode cX7_form 2 = .ok (.putfield 43, 3) := by decide +kernel
theorem dX7_form_5 : decode cX7_form 5 = .ok (.aload_n 0, 1) := by decide +kernel
theorem dX7_form_6 : decode cX7_form 6 = .ok (.iload_n 1, 1) := by decide +kernel
theorem dX7_form_7 : decode cX7_form 7 = .ok (.invokevirtual 374, 3) := by decide +kernel
theorem dX7_form_10 : decode cX7_form 10 = .ok (.ifCond .ne 9, 3) := by decide +kernel
theorem dX7_form_13 : decode cX7_form 13 = .ok (.aload_n 0, 1) := by decide +kernel
theorem dX7_form_14 : decode cX7_form 14 = .ok (.iconst 1, 1) := by decide +kernel
theorem dX7_form_15 : decode cX7_form 15 = .ok (.invokevirtual 49, 3) := by decide +kernel
theorem dX7_form_18 : decode cX7_form 18 = .ok (.ireturn, 1) := by decide +kernel
theorem dX7_form_19 : decode cX7_form 19 = .ok (.aload_n 0, 1) := by decide +kernel
theorem dX7_form_20 : decode cX7_form 20 = .ok (.invokevirtual 380, 3) := by decide +kernel
theorem dX7_form_23 : decode cX7_form 23 = .ok (.aload_n 0, 1) := by decide +kernel
theorem dX7_form_24 : decode cX7_form 24 = .ok (.aload_n 0, 1) := by decide +kernel
theorem dX7_form_25 : decode cX7_form 25 = .ok (.iload_n 1, 1) := by decide +kernel
theorem dX7_form_26 : decode cX7_form 26 = .ok (.invokevirtual 326, 3) := by decide +kernel
theorem dX7_form_29 : decode cX7_form 29 = .ok (.invokevirtual 53, 3) := by decide +kernel
theorem dX7_form_32 : decode cX7_form 32 = .ok (.ireturn, 1) := by decide +kernel
theorem dX7_refusesForm_0 : decode cX7_refusesForm 0 = .ok (.iload_n 0, 1) := by decide +kernel
theorem dX7_refusesForm_1 : decode cX7_refusesForm 1 = .ok (.ifCond .ne 5, 3) := by decide +kernel
theorem dX7_refusesForm_4 : decode cX7_refusesForm 4 = .ok (.iconst 1, 1) := by decide +kernel
theorem dX7_refusesForm_5 : decode cX7_refusesForm 5 = .ok (.ireturn, 1) := by decide +kernel
theorem dX7_refusesForm_6 : decode cX7_refusesForm 6 = .ok (.iload_n 1, 1) := by decide +kernel
theorem dX7_refusesForm_7 : decode cX7_refusesForm 7 = .ok (.iload_n 2, 1) := by decide +kernel
theorem dX7_refusesForm_8 : decode cX7_refusesForm 8 = .ok (.iload_n 3, 1) := by decide +kernel
theorem dX7_refusesForm_9 : decode cX7_refusesForm 9 = .ok (.invokestatic 122, 3) := by decide +kernel
theorem dX7_refusesForm_12 : decode cX7_refusesForm 12 = .ok (.ifCond .eq 7, 3) := by decide +kernel
theorem dX7_refusesForm_15 : decode cX7_refusesForm 15 = .ok (.iconst 0, 1) := by decide +kernel
theorem dX7_refusesForm_16 : decode cX7_refusesForm 16 = .ok (.goto 4, 3) := by decide +kernel
theorem dX7_refusesForm_19 : decode cX7_refusesForm 19 = .ok (.iconst 2, 1) := by decide +kernel
theorem dX7_refusesForm_20 : decode cX7_refusesForm 20 = .ok (.ireturn, 1) := by decide +kernel
theorem dX7_bytes_0 : decode cX7_bytes 0 = .ok (.aload_n 0, 1) := by decide +kernel
theorem dX7_bytes_1 : decode cX7_bytes 1 = .ok (.iconst 0, 1) := by decide +kernel
theorem dX7_bytes_2 : decode cX7_bytes 2 = .ok (.putfield 43, 3) := by decide +kernel
theorem dX7_bytes_5 : decode cX7_bytes 5 = .ok (.aload_n 0, 1) := by decide +kernel
theorem dX7_bytes_6 : decode cX7_bytes 6 = .ok (.iload_n 1, 1) := by decide +kernel
theorem dX7_bytes_7 : decode cX7_bytes 7 = .ok (.invokevirtual 374, 3) := by decide +kernel
theorem dX7_bytes_10 : decode cX7_bytes 10 = .ok (.iload_n 2, 1) := by decide +kernel
theorem dX7_bytes_11 : decode cX7_bytes 11 = .ok (.iconst 0, 1) := by decide +kernel
theorem dX7_bytes_12 : decode cX7_bytes 12 = .ok (.bipush 7, 2) := by decide +kernel
theorem dX7_bytes_14 : decode cX7_bytes 14 = .ok (.invokestatic 383, 3) := by decide +kernel
theorem dX7_bytes_17 : decode cX7_bytes 17 = .ok (.istore_n 3, 1) := by decide +kernel
theorem dX7_bytes_18 : decode cX7_bytes 18 = .ok (.iload_n 3, 1) := by decide +kernel
theorem dX7_bytes_19 : decode cX7_bytes 19 = .ok (.ifCond .le 9, 3) := by decide +kernel
theorem dX7_bytes_22 : decode cX7_bytes 22 = .ok (.aload_n 0, 1) := by decide +kernel
theorem dX7_bytes_23 : decode cX7_bytes 23 = .ok (.iload_n 3, 1) := by decide +kernel
theorem dX7_bytes_24 : decode cX7_bytes 24 = .ok (.invokevirtual 49, 3) := by decide +kernel
theorem dX7_bytes_27 : decode cX7_bytes 27 = .ok (.ireturn, 1) := by decide +kernel
theorem dX7_bytes_28 : decode cX7_bytes 28 = .ok (.aload_n 0, 1) := by decide +kernel
theorem dX7_bytes_29 : decode cX7_bytes 29 = .ok (.invokevirtual 380, 3) := by decide +kernel
theorem dX7_bytes_32 : decode cX7_bytes 32 = .ok (.aload_n 0, 1) := by decide +kernel
theorem dX7_bytes_33 : decode cX7_bytes 33 = .ok (.aload_n 0, 1) := by decide +kernel
theorem dX7_bytes_34 : decode cX7_bytes 34 = .ok (.iload_n 1, 1) := by decide +kernel
theorem dX7_bytes_35 : decode cX7_bytes 35 = .ok (.iload_n 2, 1) := by decide +kernel
theorem dX7_bytes_36 : decode cX7_bytes 36 = .ok (.invokevirtual 320, 3) := by decide +kernel
theorem dX7_bytes_39 : decode cX7_bytes 39 = .ok (.ifCond .eq 10, 3) := by decide +kernel
theorem dX7_bytes_42 : decode cX7_bytes 42 = .ok (.iload_n 2, 1) := by decide +kernel
theorem dX7_bytes_43 : decode cX7_bytes 43 = .ok (.invokestatic 323, 3) := by decide +kernel
theorem dX7_bytes_46 : decode cX7_bytes 46 = .ok (.goto 5, 3) := by decide +kernel
theorem dX7_bytes_49 : decode cX7_bytes 49 = .ok (.bipush (-2), 2) := by decide +kernel
theorem dX7_bytes_51 : decode cX7_bytes 51 = .ok (.invokevirtual 53, 3) := by decide +kernel
theorem dX7_bytes_54 : decode cX7_bytes 54 = .ok (.ireturn, 1) := by decide +kernel
theorem dX7_forms_0 : decode cX7_forms 0 = .ok (.aload_n 0, 1) := by decide +kernel
theorem dX7_forms_1 : decode cX7_forms 1 = .ok (.iconst 0, 1) := by decide +kernel
theorem dX7_forms_2 : decode cX7_forms 2 = .ok (.putfield 43, 3) := by decide +kernel
theorem dX7_forms_5 : decode cX7_forms 5 = .ok (.aload_n 0, 1) := by decide +kernel
theorem dX7_forms_6 : decode cX7_forms 6 = .ok (.iload_n 1, 1) := by decide +kernel
theorem dX7_forms_7 : decode cX7_forms 7 = .ok (.invokevirtual 374, 3) := by decide +kernel
theorem dX7_forms_10 : decode cX7_forms 10 = .ok (.ifCond .ne 9, 3) := by decide +kernel
theorem dX7_forms_13 : decode cX7_forms 13 = .ok (.aload_n 0, 1) := by decide +kernel
theorem dX7_forms_14 : decode cX7_forms 14 = .ok (.iconst 1, 1) := by decide +kernel
theorem dX7_forms_15 : decode cX7_forms 15 = .ok (.invokevirtual 49, 3) := by decide +kernel
theorem dX7_forms_18 : decode cX7_forms 18 = .ok (.ireturn, 1) := by decide +kernel
theorem dX7_forms_19 : decode cX7_forms 19 = .ok (.aload_n 0, 1) := by decide +kernel
theorem dX7_forms_20 : decode cX7_forms 20 = .ok (.invokevirtual 380, 3) := by decide +kernel
theorem dX7_forms_23 : decode cX7_forms 23 = .ok (.iconst 0, 1) := by decide +kernel
theorem dX7_forms_24 : decode cX7_forms 24 = .ok (.istore_n 2, 1) := by decide +kernel
theorem dX7_forms_25 : decode cX7_forms 25 = .ok (.iconst 0, 1) := by decide +kernel
theorem dX7_forms_26 : decode cX7_forms 26 = .ok (.istore_n 3, 1) := by decide +kernel
theorem dX7_forms_27 : decode cX7_forms 27 = .ok (.iload_n 3, 1) := by decide +kernel
theorem dX7_forms_28 : decode cX7_forms 28 = .ok (.bipush 8, 2) := by decide +kernel
theorem dX7_forms_30 : decode cX7_forms 30 = .ok (.if_icmp .ge 26, 3) := by decide +kernel
theorem dX7_forms_33 : decode cX7_forms 33 = .ok (.iload_n 2, 1) := by decide +kernel
theorem dX7_forms_34 : decode cX7_forms 34 = .ok (.aload_n 0, 1) := by decide +kernel
theorem dX7_forms_35 : decode cX7_forms 35 = .ok (.iload_n 1, 1) := by decide +kernel
theorem dX7_forms_36 : decode cX7_forms 36 = .ok (.iload_n 3, 1) := by decide +kernel
theorem dX7_forms_37 : decode cX7_forms 37 = .ok (.invokevirtual 320, 3) := by decide +kernel
theorem dX7_forms_40 : decode cX7_forms 40 = .ok (.ifCond .eq 7, 3) := by decide +kernel
theorem dX7_forms_43 : decode cX7_forms 43 = .ok (.iconst 1, 1) := by decide +kernel
theorem dX7_forms_44 : decode cX7_forms 44 = .ok (.goto 4, 3) := by decide +kernel
theorem dX7_forms_47 : decode cX7_forms 47 = .ok (.iconst 0, 1) := by decide +kernel
theorem dX7_forms_48 : decode cX7_forms 48 = .ok (.iadd, 1) := by decide +kernel
theorem dX7_forms_49 : decode cX7_forms 49 = .ok (.istore_n 2, 1) := by decide +kernel
theorem dX7_forms_50 : decode cX7_forms 50 = .ok (.iinc 3 1, 3) := by decide +kernel
theorem dX7_forms_53 : decode cX7_forms 53 = .ok (.goto (-26), 3) := by decide +kernel
theorem dX7_forms_56 : decode cX7_forms 56 = .ok (.aload_n 0, 1) := by decide +kernel
theorem dX7_forms_57 : decode cX7_forms 57 = .ok (.iload_n 2, 1) := by decide +kernel
theorem dX7_forms_58 : decode cX7_forms 58 = .ok (.invokevirtual 53, 3) := by decide +kernel
theorem dX7_forms_61 : decode cX7_forms 61 = .ok (.ireturn, 1) := by decide +kernel
theorem dX7_segments_0 : decode cX7_segments 0 = .ok (.aload_n 0, 1) := by decide +kernel
theorem dX7_segments_1 : decode cX7_segments 1 = .ok (.iconst 0, 1) := by decide +kernel
theorem dX7_segments_2 : decode cX7_segments 2 = .ok (.putfield 43, 3) := by decide +kernel
theorem dX7_segments_5 : decode cX7_segments 5 = .ok (.aload_n 0, 1) := by decide +kernel
theorem dX7_segments_6 : decode cX7_segments 6 = .ok (.iload_n 1, 1) := by decide +kernel
theorem dX7_segments_7 : decode cX7_segments 7 = .ok (.invokevirtual 374, 3) := by decide +kernel
theorem dX7_segments_10 : decode cX7_segments 10 = .ok (.ifCond .ne 9, 3) := by decide +kernel
theorem dX7_segments_13 : decode cX7_segments 13 = .ok (.aload_n 0, 1) := by decide +kernel
theorem dX7_segments_14 : decode cX7_segments 14 = .ok (.iconst 1, 1) := by decide +kernel
theorem dX7_segments_15 : decode cX7_segments 15 = .ok (.invokevirtual 49, 3) := by decide +kernel
theorem dX7_segments_18 : decode cX7_segments 18 = .ok (.ireturn, 1) := by decide +kernel
theorem dX7_segments_19 : decode cX7_segments 19 = .ok (.aload_n 0, 1) := by decide +kernel
theorem dX7_segments_20 : decode cX7_segments 20 = .ok (.invokevirtual 380, 3) := by decide +kernel
theorem dX7_segments_23 : decode cX7_segments 23 = .ok (.aload_n 0, 1) := by decide +kernel
theorem dX7_segments_24 : decode cX7_segments 24 = .ok (.aload_n 0, 1) := by decide +kernel
theorem dX7_segments_25 : decode cX7_segments 25 = .ok (.iload_n 1, 1) := by decide +kernel
theorem dX7_segments_26 : decode cX7_segments 26 = .ok (.invokevirtual 332, 3) := by decide +kernel
theorem dX7_segments_29 : decode cX7_segments 29 = .ok (.invokevirtual 53, 3) := by decide +kernel
theorem dX7_segments_32 : decode cX7_segments 32 = .ok (.ireturn, 1) := by decide +kernel
theorem dX7_base_0 : decode cX7_base 0 = .ok (.aload_n 0, 1) := by decide +kernel
theorem dX7_base_1 : decode cX7_base 1 = .ok (.iconst 0, 1) := by decide +kernel
theorem dX7_base_2 : decode cX7_base 2 = .ok (.putfield 43, 3) := by decide +kernel
theorem dX7_base_5 : decode cX7_base 5 = .ok (.aload_n 0, 1) := by decide +kernel
theorem dX7_base_6 : decode cX7_base 6 = .ok (.iload_n 1, 1) := by decide +kernel
theorem dX7_base_7 : decode cX7_base 7 = .ok (.invokevirtual 374, 3) := by decide +kernel
theorem dX7_base_10 : decode cX7_base 10 = .ok (.iload_n 2, 1) := by decide +kernel
theorem dX7_base_11 : decode cX7_base 11 = .ok (.iconst 2, 1) := by decide +kernel
theorem dX7_base_12 : decode cX7_base 12 = .ok (.bipush 6, 2) := by decide +kernel
theorem dX7_base_14 : decode cX7_base 14 = .ok (.invokestatic 383, 3) := by decide +kernel
theorem dX7_base_17 : decode cX7_base 17 = .ok (.istore_n 3, 1) := by decide +kernel
theorem dX7_base_18 : decode cX7_base 18 = .ok (.iload_n 3, 1) := by decide +kernel
theorem dX7_base_19 : decode cX7_base 19 = .ok (.ifCond .le 10, 3) := by decide +kernel
theorem dX7_base_22 : decode cX7_base 22 = .ok (.aload_n 0, 1) := by decide +kernel
theorem dX7_base_23 : decode cX7_base 23 = .ok (.iload_n 3, 1) := by decide +kernel
theorem dX7_base_24 : decode cX7_base 24 = .ok (.invokevirtual 49, 3) := by decide +kernel
theorem dX7_base_27 : decode cX7_base 27 = .ok (.i2l, 1) := by decide +kernel
theorem dX7_base_28 : decode cX7_base 28 = .ok (.lreturn, 1) := by decide +kernel
theorem dX7_base_29 : decode cX7_base 29 = .ok (.aload_n 0, 1) := by decide +kernel
theorem dX7_base_30 : decode cX7_base 30 = .ok (.invokevirtual 380, 3) := by decide +kernel
theorem dX7_base_33 : decode cX7_base 33 = .ok (.aload_n 0, 1) := by decide +kernel
theorem dX7_base_34 : decode cX7_base 34 = .ok (.iconst 0, 1) := by decide +kernel
theorem dX7_base_35 : decode cX7_base 35 = .ok (.invokevirtual 53, 3) := by decide +kernel
theorem dX7_base_38 : decode cX7_base 38 = .ok (.pop, 1) := by decide +kernel
theorem dX7_base_39 : decode cX7_base 39 = .ok (.aload_n 0, 1) := by decide +kernel
theorem dX7_base_40 : decode cX7_base 40 = .ok (.iload_n 1, 1) := by decide +kernel
theorem dX7_base_41 : decode cX7_base 41 = .ok (.iload_n 2, 1) := by decide +kernel
theorem dX7_base_42 : decode cX7_base 42 = .ok (.invokevirtual 307, 3) := by decide +kernel
theorem dX7_base_45 : decode cX7_base 45 = .ok (.lreturn, 1) := by decide +kernel
theorem dX7_mask_0 : decode cX7_mask 0 = .ok (.aload_n 0, 1) := by decide +kernel
theorem dX7_mask_1 : decode cX7_mask 1 = .ok (.iconst 0, 1) := by decide +kernel
theorem dX7_mask_2 : decode cX7_mask 2 = .ok (.putfield 43, 3) := by decide +kernel
theorem dX7_mask_5 : decode cX7_mask 5 = .ok (.aload_n 0, 1) := by decide +kernel
theorem dX7_mask_6 : decode cX7_mask 6 = .ok (.iload_n 1, 1) := by decide +kernel
theorem dX7_mask_7 : decode cX7_mask 7 = .ok (.invokevirtual 374, 3) := by decide +kernel
theorem dX7_mask_10 : decode cX7_mask 10 = .ok (.iload_n 2, 1) := by decide +kernel
theorem dX7_mask_11 : decode cX7_mask 11 = .ok (.iconst 2, 1) := by decide +kernel
theorem dX7_mask_12 : decode cX7_mask 12 = .ok (.bipush 6, 2) := by decide +kernel
theorem dX7_mask_14 : decode cX7_mask 14 = .ok (.invokestatic 383, 3) := by decide +kernel
theorem dX7_mask_17 : decode cX7_mask 17 = .ok (.istore_n 3, 1) := by decide +kernel
theorem dX7_mask_18 : decode cX7_mask 18 = .ok (.iload_n 3, 1) := by decide +kernel
theorem dX7_mask_19 : decode cX7_mask 19 = .ok (.ifCond .le 9, 3) := by decide +kernel
theorem dX7_mask_22 : decode cX7_mask 22 = .ok (.aload_n 0, 1) := by decide +kernel
theorem dX7_mask_23 : decode cX7_mask 23 = .ok (.iload_n 3, 1) := by decide +kernel
theorem dX7_mask_24 : decode cX7_mask 24 = .ok (.invokevirtual 49, 3) := by decide +kernel
theorem dX7_mask_27 : decode cX7_mask 27 = .ok (.ireturn, 1) := by decide +kernel
theorem dX7_mask_28 : decode cX7_mask 28 = .ok (.aload_n 0, 1) := by decide +kernel
theorem dX7_mask_29 : decode cX7_mask 29 = .ok (.invokevirtual 380, 3) := by decide +kernel
theorem dX7_mask_32 : decode cX7_mask 32 = .ok (.iconst 0, 1) := by decide +kernel
theorem dX7_mask_33 : decode cX7_mask 33 = .ok (.istore 4, 2) := by decide +kernel
theorem dX7_mask_35 : decode cX7_mask 35 = .ok (.iconst 0, 1) := by decide +kernel
theorem dX7_mask_36 : decode cX7_mask 36 = .ok (.istore 5, 2) := by decide +kernel
theorem dX7_mask_38 : decode cX7_mask 38 = .ok (.iload 5, 2) := by decide +kernel
theorem dX7_mask_40 : decode cX7_mask 40 = .ok (.iload_n 2, 1) := by decide +kernel
theorem dX7_mask_41 : decode cX7_mask 41 = .ok (.invokestatic 296, 3) := by decide +kernel
theorem dX7_mask_44 : decode cX7_mask 44 = .ok (.if_icmp .ge 37, 3) := by decide +kernel
theorem dX7_mask_47 : decode cX7_mask 47 = .ok (.iload 4, 2) := by decide +kernel
theorem dX7_mask_49 : decode cX7_mask 49 = .ok (.iload_n 2, 1) := by decide +kernel
theorem dX7_mask_50 : decode cX7_mask 50 = .ok (.aload_n 0, 1) := by decide +kernel
theorem dX7_mask_51 : decode cX7_mask 51 = .ok (.iload_n 1, 1) := by decide +kernel
theorem dX7_mask_52 : decode cX7_mask 52 = .ok (.iload_n 2, 1) := by decide +kernel
theorem dX7_mask_53 : decode cX7_mask 53 = .ok (.iload 5, 2) := by decide +kernel
theorem dX7_mask_55 : decode cX7_mask 55 = .ok (.invokevirtual 299, 3) := by decide +kernel
theorem dX7_mask_58 : decode cX7_mask 58 = .ok (.invokestatic 303, 3) := by decide +kernel
theorem dX7_mask_61 : decode cX7_mask 61 = .ok (.ifCond .eq 10, 3) := by decide +kernel
theorem dX7_mask_64 : decode cX7_mask 64 = .ok (.iconst 1, 1) := by decide +kernel
theorem dX7_mask_65 : decode cX7_mask 65 = .ok (.iload 5, 2) := by decide +kernel
theorem dX7_mask_67 : decode cX7_mask 67 = .ok (.ishl, 1) := by decide +kernel
theorem dX7_mask_68 : decode cX7_mask 68 = .ok (.goto 4, 3) := by decide +kernel
theorem dX7_mask_71 : decode cX7_mask 71 = .ok (.iconst 0, 1) := by decide +kernel
theorem dX7_mask_72 : decode cX7_mask 72 = .ok (.ior, 1) := by decide +kernel
theorem dX7_mask_73 : decode cX7_mask 73 = .ok (.istore 4, 2) := by decide +kernel
theorem dX7_mask_75 : decode cX7_mask 75 = .ok (.iinc 5 1, 3) := by decide +kernel
theorem dX7_mask_78 : decode cX7_mask 78 = .ok (.goto (-40), 3) := by decide +kernel
theorem dX7_mask_81 : decode cX7_mask 81 = .ok (.aload_n 0, 1) := by decide +kernel
theorem dX7_mask_82 : decode cX7_mask 82 = .ok (.iload 4, 2) := by decide +kernel
theorem dX7_mask_84 : decode cX7_mask 84 = .ok (.invokevirtual 53, 3) := by decide +kernel
theorem dX7_mask_87 : decode cX7_mask 87 = .ok (.ireturn, 1) := by decide +kernel
theorem dX7_difference_0 : decode cX7_difference 0 = .ok (.aload_n 0, 1) := by decide +kernel
theorem dX7_difference_1 : decode cX7_difference 1 = .ok (.iconst 0, 1) := by decide +kernel
theorem dX7_difference_2 : decode cX7_difference 2 = .ok (.putfield 43, 3) := by decide +kernel
theorem dX7_difference_5 : decode cX7_difference 5 = .ok (.aload_n 0, 1) := by decide +kernel
theorem dX7_difference_6 : decode cX7_difference 6 = .ok (.iload_n 1, 1) := by decide +kernel
theorem dX7_difference_7 : decode cX7_difference 7 = .ok (.invokevirtual 374, 3) := by decide +kernel
theorem dX7_difference_10 : decode cX7_difference 10 = .ok (.iload_n 2, 1) := by decide +kernel
theorem dX7_difference_11 : decode cX7_difference 11 = .ok (.iconst 2, 1) := by decide +kernel
theorem dX7_difference_12 : decode cX7_difference 12 = .ok (.bipush 6, 2) := by decide +kernel
theorem dX7_difference_14 : decode cX7_difference 14 = .ok (.invokestatic 383, 3) := by decide +kernel
theorem dX7_difference_17 : decode cX7_difference 17 = .ok (.istore 4, 2) := by decide +kernel
theorem dX7_difference_19 : decode cX7_difference 19 = .ok (.iload 4, 2) := by decide +kernel
theorem dX7_difference_21 : decode cX7_difference 21 = .ok (.ifCond .ne 20, 3) := by decide +kernel
theorem dX7_difference_24 : decode cX7_difference 24 = .ok (.iload_n 3, 1) := by decide +kernel
theorem dX7_difference_25 : decode cX7_difference 25 = .ok (.iconst 0, 1) := by decide +kernel
theorem dX7_difference_26 : decode cX7_difference 26 = .ok (.iload_n 2, 1) := by decide +kernel
theorem dX7_difference_27 : decode cX7_difference 27 = .ok (.invokestatic 296, 3) := by decide +kernel
theorem dX7_difference_30 : decode cX7_difference 30 = .ok (.iconst 1, 1) := by decide +kernel
theorem dX7_difference_31 : decode cX7_difference 31 = .ok (.isub, 1) := by decide +kernel
theorem dX7_difference_32 : decode cX7_difference 32 = .ok (.invokestatic 122, 3) := by decide +kernel
theorem dX7_difference_35 : decode cX7_difference 35 = .ok (.ifCond .ne 6, 3) := by decide +kernel
theorem dX7_difference_38 : decode cX7_difference 38 = .ok (.iconst 1, 1) := by decide +kernel
theorem dX7_difference_39 : decode cX7_difference 39 = .ok (.istore 4, 2) := by decide +kernel
theorem dX7_difference_41 : decode cX7_difference 41 = .ok (.iload 4, 2) := by decide +kernel
theorem dX7_difference_43 : decode cX7_difference 43 = .ok (.ifCond .le 11, 3) := by decide +kernel
theorem dX7_difference_46 : decode cX7_difference 46 = .ok (.aload_n 0, 1) := by decide +kernel
theorem dX7_difference_47 : decode cX7_difference 47 = .ok (.iload 4, 2) := by decide +kernel
theorem dX7_difference_49 : decode cX7_difference 49 = .ok (.invokevirtual 49, 3) := by decide +kernel
theorem dX7_difference_52 : decode cX7_difference 52 = .ok (.i2l, 1) := by decide +kernel
theorem dX7_difference_53 : decode cX7_difference 53 = .ok (.lreturn, 1) := by decide +kernel
theorem dX7_difference_54 : decode cX7_difference 54 = .ok (.aload_n 0, 1) := by decide +kernel
theorem dX7_difference_55 : decode cX7_difference 55 = .ok (.invokevirtual 380, 3) := by decide +kernel
theorem dX7_difference_58 : decode cX7_difference 58 = .ok (.aload_n 0, 1) := by decide +kernel
theorem dX7_difference_59 : decode cX7_difference 59 = .ok (.iconst 0, 1) := by decide +kernel
theorem dX7_difference_60 : decode cX7_difference 60 = .ok (.invokevirtual 53, 3) := by decide +kernel
theorem dX7_difference_63 : decode cX7_difference 63 = .ok (.pop, 1) := by decide +kernel
theorem dX7_difference_64 : decode cX7_difference 64 = .ok (.aload_n 0, 1) := by decide +kernel
theorem dX7_difference_65 : decode cX7_difference 65 = .ok (.iload_n 1, 1) := by decide +kernel
theorem dX7_difference_66 : decode cX7_difference 66 = .ok (.iload_n 2, 1) := by decide +kernel
theorem dX7_difference_67 : decode cX7_difference 67 = .ok (.iload_n 3, 1) := by decide +kernel
theorem dX7_difference_68 : decode cX7_difference 68 = .ok (.invokevirtual 317, 3) := by decide +kernel
theorem dX7_difference_71 : decode cX7_difference 71 = .ok (.lreturn, 1) := by decide +kernel
theorem dX7_linesOf_0 : decode cX7_linesOf 0 = .ok (.aload_n 0, 1) := by decide +kernel
theorem dX7_linesOf_1 : decode cX7_linesOf 1 = .ok (.iconst 0, 1) := by decide +kernel
theorem dX7_linesOf_2 : decode cX7_linesOf 2 = .ok (.putfield 43, 3) := by decide +kernel
theorem dX7_linesOf_5 : decode cX7_linesOf 5 = .ok (.aload_n 0, 1) := by decide +kernel
theorem dX7_linesOf_6 : decode cX7_linesOf 6 = .ok (.getfield 255, 3) := by decide +kernel
theorem dX7_linesOf_9 : decode cX7_linesOf 9 = .ok (.ifnull 7, 3) := by decide +kernel
theorem dX7_linesOf_12 : decode cX7_linesOf 12 = .ok (.iconst 1, 1) := by decide +kernel
theorem dX7_linesOf_13 : decode cX7_linesOf 13 = .ok (.goto 4, 3) := by decide +kernel
theorem dX7_linesOf_16 : decode cX7_linesOf 16 = .ok (.iconst 0, 1) := by decide +kernel
theorem dX7_linesOf_17 : decode cX7_linesOf 17 = .ok (.iload_n 1, 1) := by decide +kernel
theorem dX7_linesOf_18 : decode cX7_linesOf 18 = .ok (.iconst 0, 1) := by decide +kernel
theorem dX7_linesOf_19 : decode cX7_linesOf 19 = .ok (.bipush 7, 2) := by decide +kernel
theorem dX7_linesOf_21 : decode cX7_linesOf 21 = .ok (.invokestatic 383, 3) := by decide +kernel
theorem dX7_linesOf_24 : decode cX7_linesOf 24 = .ok (.istore_n 2, 1) := by decide +kernel
theorem dX7_linesOf_25 : decode cX7_linesOf 25 = .ok (.iload_n 2, 1) := by decide +kernel
theorem dX7_linesOf_26 : decode cX7_linesOf 26 = .ok (.ifCond .le 9, 3) := by decide +kernel
theorem dX7_linesOf_29 : decode cX7_linesOf 29 = .ok (.aload_n 0, 1) := by decide +kernel
theorem dX7_linesOf_30 : decode cX7_linesOf 30 = .ok (.iload_n 2, 1) := by decide +kernel
theorem dX7_linesOf_31 : decode cX7_linesOf 31 = .ok (.invokevirtual 49, 3) := by decide +kernel
theorem dX7_linesOf_34 : decode cX7_linesOf 34 = .ok (.ireturn, 1) := by decide +kernel
theorem dX7_linesOf_35 : decode cX7_linesOf 35 = .ok (.aload_n 0, 1) := by decide +kernel
theorem dX7_linesOf_36 : decode cX7_linesOf 36 = .ok (.invokevirtual 380, 3) := by decide +kernel
theorem dX7_linesOf_39 : decode cX7_linesOf 39 = .ok (.iconst 0, 1) := by decide +kernel
theorem dX7_linesOf_40 : decode cX7_linesOf 40 = .ok (.istore_n 3, 1) := by decide +kernel
theorem dX7_linesOf_41 : decode cX7_linesOf 41 = .ok (.iconst 0, 1) := by decide +kernel
theorem dX7_linesOf_42 : decode cX7_linesOf 42 = .ok (.istore 4, 2) := by decide +kernel
theorem dX7_linesOf_44 : decode cX7_linesOf 44 = .ok (.iload 4, 2) := by decide +kernel
theorem dX7_linesOf_46 : decode cX7_linesOf 46 = .ok (.bipush 32, 2) := by decide +kernel
theorem dX7_linesOf_48 : decode cX7_linesOf 48 = .ok (.if_icmp .ge 27, 3) := by decide +kernel
theorem dX7_linesOf_51 : decode cX7_linesOf 51 = .ok (.iload_n 3, 1) := by decide +kernel
theorem dX7_linesOf_52 : decode cX7_linesOf 52 = .ok (.aload_n 0, 1) := by decide +kernel
theorem dX7_linesOf_53 : decode cX7_linesOf 53 = .ok (.iload 4, 2) := by decide +kernel
theorem dX7_linesOf_55 : decode cX7_linesOf 55 = .ok (.invokevirtual 326, 3) := by decide +kernel
theorem dX7_linesOf_58 : decode cX7_linesOf 58 = .ok (.iload_n 1, 1) := by decide +kernel
theorem dX7_linesOf_59 : decode cX7_linesOf 59 = .ok (.if_icmp .ne 7, 3) := by decide +kernel
theorem dX7_linesOf_62 : decode cX7_linesOf 62 = .ok (.iconst 1, 1) := by decide +kernel
theorem dX7_linesOf_63 : decode cX7_linesOf 63 = .ok (.goto 4, 3) := by decide +kernel
theorem dX7_linesOf_66 : decode cX7_linesOf 66 = .ok (.iconst 0, 1) := by decide +kernel
theorem dX7_linesOf_67 : decode cX7_linesOf 67 = .ok (.iadd, 1) := by decide +kernel
theorem dX7_linesOf_68 : decode cX7_linesOf 68 = .ok (.istore_n 3, 1) := by decide +kernel
theorem dX7_linesOf_69 : decode cX7_linesOf 69 = .ok (.iinc 4 1, 3) := by decide +kernel
theorem dX7_linesOf_72 : decode cX7_linesOf 72 = .ok (.goto (-28), 3) := by decide +kernel
theorem dX7_linesOf_75 : decode cX7_linesOf 75 = .ok (.aload_n 0, 1) := by decide +kernel
theorem dX7_linesOf_76 : decode cX7_linesOf 76 = .ok (.iload_n 3, 1) := by decide +kernel
theorem dX7_linesOf_77 : decode cX7_linesOf 77 = .ok (.invokevirtual 53, 3) := by decide +kernel
theorem dX7_linesOf_80 : decode cX7_linesOf 80 = .ok (.ireturn, 1) := by decide +kernel
theorem dX7_isSet_0 : decode cX7_isSet 0 = .ok (.aload_n 0, 1) := by decide +kernel
theorem dX7_isSet_1 : decode cX7_isSet 1 = .ok (.getfield 255, 3) := by decide +kernel
theorem dX7_isSet_4 : decode cX7_isSet 4 = .ok (.ifnull 22, 3) := by decide +kernel
theorem dX7_isSet_7 : decode cX7_isSet 7 = .ok (.iload_n 1, 1) := by decide +kernel
theorem dX7_isSet_8 : decode cX7_isSet 8 = .ok (.ifCond .lt 18, 3) := by decide +kernel
theorem dX7_isSet_11 : decode cX7_isSet 11 = .ok (.iload_n 1, 1) := by decide +kernel
theorem dX7_isSet_12 : decode cX7_isSet 12 = .ok (.aload_n 0, 1) := by decide +kernel
theorem dX7_isSet_13 : decode cX7_isSet 13 = .ok (.getfield 255, 3) := by decide +kernel
theorem dX7_isSet_16 : decode cX7_isSet 16 = .ok (.getfield 141, 3) := by decide +kernel
theorem dX7_isSet_19 : decode cX7_isSet 19 = .ok (.if_icmp .ge 7, 3) := by decide +kernel
theorem dX7_isSet_22 : decode cX7_isSet 22 = .ok (.iconst 1, 1) := by decide +kernel
theorem dX7_isSet_23 : decode cX7_isSet 23 = .ok (.goto 4, 3) := by decide +kernel
theorem dX7_isSet_26 : decode cX7_isSet 26 = .ok (.iconst 0, 1) := by decide +kernel
theorem dX7_isSet_27 : decode cX7_isSet 27 = .ok (.ireturn, 1) := by decide +kernel
theorem dX7_dirtyIn_0 : decode cX7_dirtyIn 0 = .ok (.iconst 0, 1) := by decide +kernel
theorem dX7_dirtyIn_1 : decode cX7_dirtyIn 1 = .ok (.istore_n 2, 1) := by decide +kernel
theorem dX7_dirtyIn_2 : decode cX7_dirtyIn 2 = .ok (.iload_n 1, 1) := by decide +kernel
theorem dX7_dirtyIn_3 : decode cX7_dirtyIn 3 = .ok (.istore_n 3, 1) := by decide +kernel
theorem dX7_dirtyIn_4 : decode cX7_dirtyIn 4 = .ok (.iload_n 3, 1) := by decide +kernel
theorem dX7_dirtyIn_5 : decode cX7_dirtyIn 5 = .ok (.bipush 32, 2) := by decide +kernel
theorem dX7_dirtyIn_7 : decode cX7_dirtyIn 7 = .ok (.if_icmp .ge 29, 3) := by decide +kernel
theorem dX7_dirtyIn_10 : decode cX7_dirtyIn 10 = .ok (.iload_n 2, 1) := by decide +kernel
theorem dX7_dirtyIn_11 : decode cX7_dirtyIn 11 = .ok (.aload_n 0, 1) := by decide +kernel
theorem dX7_dirtyIn_12 : decode cX7_dirtyIn 12 = .ok (.getfield 21, 3) := by decide +kernel
theorem dX7_dirtyIn_15 : decode cX7_dirtyIn 15 = .ok (.sipush 576, 3) := by decide +kernel
theorem dX7_dirtyIn_18 : decode cX7_dirtyIn 18 = .ok (.iload_n 3, 1) := by decide +kernel
theorem dX7_dirtyIn_19 : decode cX7_dirtyIn 19 = .ok (.iadd, 1) := by decide +kernel
theorem dX7_dirtyIn_20 : decode cX7_dirtyIn 20 = .ok (.iaload, 1) := by decide +kernel
theorem dX7_dirtyIn_21 : decode cX7_dirtyIn 21 = .ok (.iadd, 1) := by decide +kernel
theorem dX7_dirtyIn_22 : decode cX7_dirtyIn 22 = .ok (.istore_n 2, 1) := by decide +kernel
theorem dX7_dirtyIn_23 : decode cX7_dirtyIn 23 = .ok (.iload_n 3, 1) := by decide +kernel
