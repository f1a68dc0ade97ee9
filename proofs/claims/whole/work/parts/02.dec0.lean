theorem dX0_init_0 : decode cX0_init 0 = .ok (.aload_n 0, 1) := by decide +kernel
theorem dX0_init_1 : decode cX0_init 1 = .ok (.invokespecial 3, 3) := by decide +kernel
theorem dX0_init_4 : decode cX0_init 4 = .ok (.aload_n 0, 1) := by decide +kernel
theorem dX0_init_5 : decode cX0_init 5 = .ok (.new 9, 3) := by decide +kernel
theorem dX0_init_8 : decode cX0_init 8 = .ok (.dup, 1) := by decide +kernel
theorem dX0_init_9 : decode cX0_init 9 = .ok (.invokespecial 11, 3) := by decide +kernel
theorem dX0_init_12 : decode cX0_init 12 = .ok (.putfield 12, 3) := by decide +kernel
theorem dX0_init_15 : decode cX0_init 15 = .ok (.aload_n 0, 1) := by decide +kernel
theorem dX0_init_16 : decode cX0_init 16 = .ok (.bipush 16, 2) := by decide +kernel
theorem dX0_init_18 : decode cX0_init 18 = .ok (.newarray .int, 2) := by decide +kernel
theorem dX0_init_20 : decode cX0_init 20 = .ok (.putfield 18, 3) := by decide +kernel
theorem dX0_init_23 : decode cX0_init 23 = .ok (.aload_n 0, 1) := by decide +kernel
theorem dX0_init_24 : decode cX0_init 24 = .ok (.bipush 16, 2) := by decide +kernel
theorem dX0_init_26 : decode cX0_init 26 = .ok (.newarray .int, 2) := by decide +kernel
theorem dX0_init_28 : decode cX0_init 28 = .ok (.putfield 22, 3) := by decide +kernel
theorem dX0_init_31 : decode cX0_init 31 = .ok (.aload_n 0, 1) := by decide +kernel
theorem dX0_init_32 : decode cX0_init 32 = .ok (.bipush 16, 2) := by decide +kernel
theorem dX0_init_34 : decode cX0_init 34 = .ok (.newarray .int, 2) := by decide +kernel
theorem dX0_init_36 : decode cX0_init 36 = .ok (.putfield 25, 3) := by decide +kernel
theorem dX0_init_39 : decode cX0_init 39 = .ok (.return_, 1) := by decide +kernel
theorem dX0_forgetAll_0 : decode cX0_forgetAll 0 = .ok (.aload_n 0, 1) := by decide +kernel
theorem dX0_forgetAll_1 : decode cX0_forgetAll 1 = .ok (.getfield 12, 3) := by decide +kernel
theorem dX0_forgetAll_4 : decode cX0_forgetAll 4 = .ok (.aload_n 1, 1) := by decide +kernel
theorem dX0_forgetAll_5 : decode cX0_forgetAll 5 = .ok (.invokevirtual 28, 3) := by decide +kernel
theorem dX0_forgetAll_8 : decode cX0_forgetAll 8 = .ok (.aload_n 0, 1) := by decide +kernel
theorem dX0_forgetAll_9 : decode cX0_forgetAll 9 = .ok (.iconst 0, 1) := by decide +kernel
theorem dX0_forgetAll_10 : decode cX0_forgetAll 10 = .ok (.putfield 32, 3) := by decide +kernel
theorem dX0_forgetAll_13 : decode cX0_forgetAll 13 = .ok (.return_, 1) := by decide +kernel
theorem dX0_doNext_0 : decode cX0_doNext 0 = .ok (.aload_n 1, 1) := by decide +kernel
theorem dX0_doNext_1 : decode cX0_doNext 1 = .ok (.iload_n 2, 1) := by decide +kernel
theorem dX0_doNext_2 : decode cX0_doNext 2 = .ok (.iload_n 3, 1) := by decide +kernel
theorem dX0_doNext_3 : decode cX0_doNext 3 = .ok (.iload 4, 2) := by decide +kernel
theorem dX0_doNext_5 : decode cX0_doNext 5 = .ok (.invokevirtual 36, 3) := by decide +kernel
theorem dX0_doNext_8 : decode cX0_doNext 8 = .ok (.aload_n 0, 1) := by decide +kernel
theorem dX0_doNext_9 : decode cX0_doNext 9 = .ok (.getfield 32, 3) := by decide +kernel
theorem dX0_doNext_12 : decode cX0_doNext 12 = .ok (.bipush 16, 2) := by decide +kernel
theorem dX0_doNext_14 : decode cX0_doNext 14 = .ok (.if_icmp .lt 79, 3) := by decide +kernel
theorem dX0_doNext_17 : decode cX0_doNext 17 = .ok (.aload_n 0, 1) := by decide +kernel
theorem dX0_doNext_18 : decode cX0_doNext 18 = .ok (.getfield 12, 3) := by decide +kernel
theorem dX0_doNext_21 : decode cX0_doNext 21 = .ok (.aload_n 0, 1) := by decide +kernel
theorem dX0_doNext_22 : decode cX0_doNext 22 = .ok (.getfield 18, 3) := by decide +kernel
theorem dX0_doNext_25 : decode cX0_doNext 25 = .ok (.iconst 0, 1) := by decide +kernel
theorem dX0_doNext_26 : decode cX0_doNext 26 = .ok (.iaload, 1) := by decide +kernel
theorem dX0_doNext_27 : decode cX0_doNext 27 = .ok (.aload_n 0, 1) := by decide +kernel
theorem dX0_doNext_28 : decode cX0_doNext 28 = .ok (.getfield 22, 3) := by decide +kernel
theorem dX0_doNext_31 : decode cX0_doNext 31 = .ok (.iconst 0, 1) := by decide +kernel
theorem dX0_doNext_32 : decode cX0_doNext 32 = .ok (.iaload, 1) := by decide +kernel
theorem dX0_doNext_33 : decode cX0_doNext 33 = .ok (.aload_n 0, 1) := by decide +kernel
theorem dX0_doNext_34 : decode cX0_doNext 34 = .ok (.getfield 25, 3) := by decide +kernel
theorem dX0_doNext_37 : decode cX0_doNext 37 = .ok (.iconst 0, 1) := by decide +kernel
theorem dX0_doNext_38 : decode cX0_doNext 38 = .ok (.iaload, 1) := by decide +kernel
theorem dX0_doNext_39 : decode cX0_doNext 39 = .ok (.invokevirtual 36, 3) := by decide +kernel
theorem dX0_doNext_42 : decode cX0_doNext 42 = .ok (.aload_n 0, 1) := by decide +kernel
theorem dX0_doNext_43 : decode cX0_doNext 43 = .ok (.getfield 18, 3) := by decide +kernel
theorem dX0_doNext_46 : decode cX0_doNext 46 = .ok (.iconst 1, 1) := by decide +kernel
theorem dX0_doNext_47 : decode cX0_doNext 47 = .ok (.aload_n 0, 1) := by decide +kernel
theorem dX0_doNext_48 : decode cX0_doNext 48 = .ok (.getfield 18, 3) := by decide +kernel
theorem dX0_doNext_51 : decode cX0_doNext 51 = .ok (.iconst 0, 1) := by decide +kernel
theorem dX0_doNext_52 : decode cX0_doNext 52 = .ok (.bipush 15, 2) := by decide +kernel
theorem dX0_doNext_54 : decode cX0_doNext 54 = .ok (.invokestatic 40, 3) := by decide +kernel
theorem dX0_doNext_57 : decode cX0_doNext 57 = .ok (.aload_n 0, 1) := by decide +kernel
theorem dX0_doNext_58 : decode cX0_doNext 58 = .ok (.getfield 22, 3) := by decide +kernel
theorem dX0_doNext_61 : decode cX0_doNext 61 = .ok (.iconst 1, 1) := by decide +kernel
theorem dX0_doNext_62 : decode cX0_doNext 62 = .ok (.aload_n 0, 1) := by decide +kernel
theorem dX0_doNext_63 : decode cX0_doNext 63 = .ok (.getfield 22, 3) := by decide +kernel
theorem dX0_doNext_66 : decode cX0_doNext 66 = .ok (.iconst 0, 1) := by decide +kernel
theorem dX0_doNext_67 : decode cX0_doNext 67 = .ok (.bipush 15, 2) := by decide +kernel
theorem dX0_doNext_69 : decode cX0_doNext 69 = .ok (.invokestatic 40, 3) := by decide +kernel
theorem dX0_doNext_72 : decode cX0_doNext 72 = .ok (.aload_n 0, 1) := by decide +kernel
theorem dX0_doNext_73 : decode cX0_doNext 73 = .ok (.getfield 25, 3) := by decide +kernel
theorem dX0_doNext_76 : decode cX0_doNext 76 = .ok (.iconst 1, 1) := by decide +kernel
theorem dX0_doNext_77 : decode cX0_doNext 77 = .ok (.aload_n 0, 1) := by decide +kernel
theorem dX0_doNext_78 : decode cX0_doNext 78 = .ok (.getfield 25, 3) := by decide +kernel
theorem dX0_doNext_81 : decode cX0_doNext 81 = .ok (.iconst 0, 1) := by decide +kernel
theorem dX0_doNext_82 : decode cX0_doNext 82 = .ok (.bipush 15, 2) := by decide +kernel
theorem dX0_doNext_84 : decode cX0_doNext 84 = .ok (.invokestatic 40, 3) := by decide +kernel
theorem dX0_doNext_87 : decode cX0_doNext 87 = .ok (.aload_n 0, 1) := by decide +kernel
theorem dX0_doNext_88 : decode cX0_doNext 88 = .ok (.bipush 15, 2) := by decide +kernel
theorem dX0_doNext_90 : decode cX0_doNext 90 = .ok (.putfield 32, 3) := by decide +kernel
theorem dX0_doNext_93 : decode cX0_doNext 93 = .ok (.aload_n 0, 1) := by decide +kernel
theorem dX0_doNext_94 : decode cX0_doNext 94 = .ok (.getfield 18, 3) := by decide +kernel
theorem dX0_doNext_97 : decode cX0_doNext 97 = .ok (.aload_n 0, 1) := by decide +kernel
theorem dX0_doNext_98 : decode cX0_doNext 98 = .ok (.getfield 32, 3) := by decide +kernel
theorem dX0_doNext_101 : decode cX0_doNext 101 = .ok (.iload_n 2, 1) := by decide +kernel
theorem dX0_doNext_102 : decode cX0_doNext 102 = .ok (.iastore, 1) := by decide +kernel
theorem dX0_doNext_103 : decode cX0_doNext 103 = .ok (.aload_n 0, 1) := by decide +kernel
theorem dX0_doNext_104 : decode cX0_doNext 104 = .ok (.getfield 22, 3) := by decide +kernel
theorem dX0_doNext_107 : decode cX0_doNext 107 = .ok (.aload_n 0, 1) := by decide +kernel
theorem dX0_doNext_108 : decode cX0_doNext 108 = .ok (.getfield 32, 3) := by decide +kernel
theorem dX0_doNext_111 : decode cX0_doNext 111 = .ok (.iload_n 3, 1) := by decide +kernel
theorem dX0_doNext_112 : decode cX0_doNext 112 = .ok (.iastore, 1) := by decide +kernel
theorem dX0_doNext_113 : decode cX0_doNext 113 = .ok (.aload_n 0, 1) := by decide +kernel
theorem dX0_doNext_114 : decode cX0_doNext 114 = .ok (.getfield 25, 3) := by decide +kernel
theorem dX0_doNext_117 : decode cX0_doNext 117 = .ok (.aload_n 0, 1) := by decide +kernel
theorem dX0_doNext_118 : decode cX0_doNext 118 = .ok (.getfield 32, 3) := by decide +kernel
theorem dX0_doNext_121 : decode cX0_doNext 121 = .ok (.iload 4, 2) := by decide +kernel
theorem dX0_doNext_123 : decode cX0_doNext 123 = .ok (.iastore, 1) := by decide +kernel
theorem dX0_doNext_124 : decode cX0_doNext 124 = .ok (.aload_n 0, 1) := by decide +kernel
theorem dX0_doNext_125 : decode cX0_doNext 125 = .ok (.dup, 1) := by decide +kernel
theorem dX0_doNext_126 : decode cX0_doNext 126 = .ok (.getfield 32, 3) := by decide +kernel
theorem dX0_doNext_129 : decode cX0_doNext 129 = .ok (.iconst 1, 1) := by decide +kernel
theorem dX0_doNext_130 : decode cX0_doNext 130 = .ok (.iadd, 1) := by decide +kernel
theorem dX0_doNext_131 : decode cX0_doNext 131 = .ok (.putfield 32, 3) := by decide +kernel
theorem dX0_doNext_134 : decode cX0_doNext 134 = .ok (.return_, 1) := by decide +kernel
theorem dX0_takeBack_0 : decode cX0_takeBack 0 = .ok (.aload_n 0, 1) := by decide +kernel
theorem dX0_takeBack_1 : decode cX0_takeBack 1 = .ok (.getfield 32, 3) := by decide +kernel
theorem dX0_takeBack_4 : decode cX0_takeBack 4 = .ok (.iconst 1, 1) := by decide +kernel
theorem dX0_takeBack_5 : decode cX0_takeBack 5 = .ok (.if_icmp .ge 5, 3) := by decide +kernel
theorem dX0_takeBack_8 : decode cX0_takeBack 8 = .ok (.iconst 0, 1) := by decide +kernel
theorem dX0_takeBack_9 : decode cX0_takeBack 9 = .ok (.ireturn, 1) := by decide +kernel
theorem dX0_takeBack_10 : decode cX0_takeBack 10 = .ok (.aload_n 0, 1) := by decide +kernel
theorem dX0_takeBack_11 : decode cX0_takeBack 11 = .ok (.dup, 1) := by decide +kernel
theorem dX0_takeBack_12 : decode cX0_takeBack 12 = .ok (.getfield 32, 3) := by decide +kernel
theorem dX0_takeBack_15 : decode cX0_takeBack 15 = .ok (.iconst 1, 1) := by decide +kernel
theorem dX0_takeBack_16 : decode cX0_takeBack 16 = .ok (.isub, 1) := by decide +kernel
theorem dX0_takeBack_17 : decode cX0_takeBack 17 = .ok (.putfield 32, 3) := by decide +kernel
theorem dX0_takeBack_20 : decode cX0_takeBack 20 = .ok (.aload_n 1, 1) := by decide +kernel
theorem dX0_takeBack_21 : decode cX0_takeBack 21 = .ok (.aload_n 0, 1) := by decide +kernel
theorem dX0_takeBack_22 : decode cX0_takeBack 22 = .ok (.getfield 12, 3) := by decide +kernel
theorem dX0_takeBack_25 : decode cX0_takeBack 25 = .ok (.invokevirtual 28, 3) := by decide +kernel
theorem dX0_takeBack_28 : decode cX0_takeBack 28 = .ok (.iconst 0, 1) := by decide +kernel
theorem dX0_takeBack_29 : decode cX0_takeBack 29 = .ok (.istore_n 2, 1) := by decide +kernel
theorem dX0_takeBack_30 : decode cX0_takeBack 30 = .ok (.iload_n 2, 1) := by decide +kernel
theorem dX0_takeBack_31 : decode cX0_takeBack 31 = .ok (.aload_n 0, 1) := by decide +kernel
theorem dX0_takeBack_32 : decode cX0_takeBack 32 = .ok (.getfield 32, 3) := by decide +kernel
theorem dX0_takeBack_35 : decode cX0_takeBack 35 = .ok (.if_icmp .ge 31, 3) := by decide +kernel
theorem dX0_takeBack_38 : decode cX0_takeBack 38 = .ok (.aload_n 1, 1) := by decide +kernel
theorem dX0_takeBack_39 : decode cX0_takeBack 39 = .ok (.aload_n 0, 1) := by decide +kernel
theorem dX0_takeBack_40 : decode cX0_takeBack 40 = .ok (.getfield 18, 3) := by decide +kernel
theorem dX0_takeBack_43 : decode cX0_takeBack 43 = .ok (.iload_n 2, 1) := by decide +kernel
theorem dX0_takeBack_44 : decode cX0_takeBack 44 = .ok (.iaload, 1) := by decide +kernel
theorem dX0_takeBack_45 : decode cX0_takeBack 45 = .ok (.aload_n 0, 1) := by decide +kernel
theorem dX0_takeBack_46 : decode cX0_takeBack 46 = .ok (.getfield 22, 3) := by decide +kernel
theorem dX0_takeBack_49 : decode cX0_takeBack 49 = .ok (.iload_n 2, 1) := by decide +kernel
theorem dX0_takeBack_50 : decode cX0_takeBack 50 = .ok (.iaload, 1) := by decide +kernel
theorem dX0_takeBack_51 : decode cX0_takeBack 51 = .ok (.aload_n 0, 1) := by decide +kernel
theorem dX0_takeBack_52 : decode cX0_takeBack 52 = .ok (.getfield 25, 3) := by decide +kernel
theorem dX0_takeBack_55 : decode cX0_takeBack 55 = .ok (.iload_n 2, 1) := by decide +kernel
theorem dX0_takeBack_56 : decode cX0_takeBack 56 = .ok (.iaload, 1) := by decide +kernel
theorem dX0_takeBack_57 : decode cX0_takeBack 57 = .ok (.invokevirtual 36, 3) := by decide +kernel
theorem dX0_takeBack_60 : decode cX0_takeBack 60 = .ok (.iinc 2 1, 3) := by decide +kernel
theorem dX0_takeBack_63 : decode cX0_takeBack 63 = .ok (.goto (-33), 3) := by decide +kernel
theorem dX0_takeBack_66 : decode cX0_takeBack 66 = .ok (.iconst 1, 1) := by decide +kernel
theorem dX0_takeBack_67 : decode cX0_takeBack 67 = .ok (.ireturn, 1) := by decide +kernel
theorem dX1_init_0 : decode cX1_init 0 = .ok (.aload_n 0, 1) := by decide +kernel
theorem dX1_init_1 : decode cX1_init 1 = .ok (.invokespecial 3, 3) := by decide +kernel
theorem dX1_init_4 : decode cX1_init 4 = .ok (.aload_n 0, 1) := by decide +kernel
theorem dX1_init_5 : decode cX1_init 5 = .ok (.bipush 32, 2) := by decide +kernel
theorem dX1_init_7 : decode cX1_init 7 = .ok (.newarray .int, 2) := by decide +kernel
theorem dX1_init_9 : decode cX1_init 9 = .ok (.putfield 9, 3) := by decide +kernel
theorem dX1_init_12 : decode cX1_init 12 = .ok (.aload_n 0, 1) := by decide +kernel
theorem dX1_init_13 : decode cX1_init 13 = .ok (.sipush 256, 3) := by decide +kernel
theorem dX1_init_16 : decode cX1_init 16 = .ok (.newarray .int, 2) := by decide +kernel
theorem dX1_init_18 : decode cX1_init 18 = .ok (.putfield 15, 3) := by decide +kernel
theorem dX1_init_21 : decode cX1_init 21 = .ok (.aload_n 0, 1) := by decide +kernel
theorem dX1_init_22 : decode cX1_init 22 = .ok (.bipush 16, 2) := by decide +kernel
theorem dX1_init_24 : decode cX1_init 24 = .ok (.newarray .int, 2) := by decide +kernel
theorem dX1_init_26 : decode cX1_init 26 = .ok (.putfield 18, 3) := by decide +kernel
theorem dX1_init_29 : decode cX1_init 29 = .ok (.aload_n 0, 1) := by decide +kernel
theorem dX1_init_30 : decode cX1_init 30 = .ok (.bipush 16, 2) := by decide +kernel
theorem dX1_init_32 : decode cX1_init 32 = .ok (.newarray .int, 2) := by decide +kernel
theorem dX1_init_34 : decode cX1_init 34 = .ok (.putfield 21, 3) := by decide +kernel
theorem dX1_init_37 : decode cX1_init 37 = .ok (.aload_n 0, 1) := by decide +kernel
theorem dX1_init_38 : decode cX1_init 38 = .ok (.iconst 4, 1) := by decide +kernel
theorem dX1_init_39 : decode cX1_init 39 = .ok (.newarray .int, 2) := by decide +kernel
theorem dX1_init_41 : decode cX1_init 41 = .ok (.putfield 24, 3) := by decide +kernel
theorem dX1_init_44 : decode cX1_init 44 = .ok (.aload_n 0, 1) := by decide +kernel
theorem dX1_init_45 : decode cX1_init 45 = .ok (.iconst 4, 1) := by decide +kernel
theorem dX1_init_46 : decode cX1_init 46 = .ok (.newarray .int, 2) := by decide +kernel
theorem dX1_init_48 : decode cX1_init 48 = .ok (.putfield 27, 3) := by decide +kernel
theorem dX1_init_51 : decode cX1_init 51 = .ok (.aload_n 0, 1) := by decide +kernel
theorem dX1_init_52 : decode cX1_init 52 = .ok (.bipush 6, 2) := by decide +kernel
theorem dX1_init_54 : decode cX1_init 54 = .ok (.newarray .int, 2) := by decide +kernel
theorem dX1_init_56 : decode cX1_init 56 = .ok (.putfield 30, 3) := by decide +kernel
theorem dX1_init_59 : decode cX1_init 59 = .ok (.aload_n 0, 1) := by decide +kernel
theorem dX1_init_60 : decode cX1_init 60 = .ok (.bipush 6, 2) := by decide +kernel
theorem dX1_init_62 : decode cX1_init 62 = .ok (.newarray .int, 2) := by decide +kernel
theorem dX1_init_64 : decode cX1_init 64 = .ok (.putfield 33, 3) := by decide +kernel
theorem dX1_init_67 : decode cX1_init 67 = .ok (.return_, 1) := by decide +kernel
theorem dX1_clearAll_0 : decode cX1_clearAll 0 = .ok (.aload_n 0, 1) := by decide +kernel
theorem dX1_clearAll_1 : decode cX1_clearAll 1 = .ok (.iconst 0, 1) := by decide +kernel
theorem dX1_clearAll_2 : decode cX1_clearAll 2 = .ok (.putfield 36, 3) := by decide +kernel
theorem dX1_clearAll_5 : decode cX1_clearAll 5 = .ok (.aload_n 0, 1) := by decide +kernel
theorem dX1_clearAll_6 : decode cX1_clearAll 6 = .ok (.iconst 0, 1) := by decide +kernel
theorem dX1_clearAll_7 : decode cX1_clearAll 7 = .ok (.putfield 40, 3) := by decide +kernel
theorem dX1_clearAll_10 : decode cX1_clearAll 10 = .ok (.aload_n 0, 1) := by decide +kernel
theorem dX1_clearAll_11 : decode cX1_clearAll 11 = .ok (.iconst 0, 1) := by decide +kernel
theorem dX1_clearAll_12 : decode cX1_clearAll 12 = .ok (.putfield 43, 3) := by decide +kernel
theorem dX1_clearAll_15 : decode cX1_clearAll 15 = .ok (.aload_n 0, 1) := by decide +kernel
theorem dX1_clearAll_16 : decode cX1_clearAll 16 = .ok (.iconst 0, 1) := by decide +kernel
theorem dX1_clearAll_17 : decode cX1_clearAll 17 = .ok (.putfield 47, 3) := by decide +kernel
theorem dX1_clearAll_20 : decode cX1_clearAll 20 = .ok (.aload_n 0, 1) := by decide +kernel
theorem dX1_clearAll_21 : decode cX1_clearAll 21 = .ok (.getfield 9, 3) := by decide +kernel
theorem dX1_clearAll_24 : decode cX1_clearAll 24 = .ok (.iconst 0, 1) := by decide +kernel
theorem dX1_clearAll_25 : decode cX1_clearAll 25 = .ok (.invokestatic 50, 3) := by decide +kernel
theorem dX1_clearAll_28 : decode cX1_clearAll 28 = .ok (.aload_n 0, 1) := by decide +kernel
theorem dX1_clearAll_29 : decode cX1_clearAll 29 = .ok (.getfield 15, 3) := by decide +kernel
theorem dX1_clearAll_32 : decode cX1_clearAll 32 = .ok (.iconst 0, 1) := by decide +kernel
theorem dX1_clearAll_33 : decode cX1_clearAll 33 = .ok (.invokestatic 50, 3) := by decide +kernel
theorem dX1_clearAll_36 : decode cX1_clearAll 36 = .ok (.aload_n 0, 1) := by decide +kernel
theorem dX1_clearAll_37 : decode cX1_clearAll 37 = .ok (.iconst 0, 1) := by decide +kernel
theorem dX1_clearAll_38 : decode cX1_clearAll 38 = .ok (.putfield 56, 3) := by decide +kernel
theorem dX1_clearAll_41 : decode cX1_clearAll 41 = .ok (.aload_n 0, 1) := by decide +kernel
theorem dX1_clearAll_42 : decode cX1_clearAll 42 = .ok (.iconst 0, 1) := by decide +kernel
theorem dX1_clearAll_43 : decode cX1_clearAll 43 = .ok (.putfield 59, 3) := by decide +kernel
theorem dX1_clearAll_46 : decode cX1_clearAll 46 = .ok (.aload_n 0, 1) := by decide +kernel
theorem dX1_clearAll_47 : decode cX1_clearAll 47 = .ok (.iconst 0, 1) := by decide +kernel
theorem dX1_clearAll_48 : decode cX1_clearAll 48 = .ok (.putfield 62, 3) := by decide +kernel
theorem dX1_clearAll_51 : decode cX1_clearAll 51 = .ok (.aload_n 0, 1) := by decide +kernel
theorem dX1_clearAll_52 : decode cX1_clearAll 52 = .ok (.iconst 0, 1) := by decide +kernel
theorem dX1_clearAll_53 : decode cX1_clearAll 53 = .ok (.putfield 65, 3) := by decide +kernel
theorem dX1_clearAll_56 : decode cX1_clearAll 56 = .ok (.return_, 1) := by decide +kernel
theorem dX1_isUnsure_0 : decode cX1_isUnsure 0 = .ok (.iconst 0, 1) := by decide +kernel
theorem dX1_isUnsure_1 : decode cX1_isUnsure 1 = .ok (.istore_n 2, 1) := by decide +kernel
theorem dX1_isUnsure_2 : decode cX1_isUnsure 2 = .ok (.iload_n 2, 1) := by decide +kernel
theorem dX1_isUnsure_3 : decode cX1_isUnsure 3 = .ok (.aload_n 0, 1) := by decide +kernel
theorem dX1_isUnsure_4 : decode cX1_isUnsure 4 = .ok (.getfield 59, 3) := by decide +kernel
theorem dX1_isUnsure_7 : decode cX1_isUnsure 7 = .ok (.if_icmp .ge 21, 3) := by decide +kernel
theorem dX1_isUnsure_10 : decode cX1_isUnsure 10 = .ok (.aload_n 0, 1) := by decide +kernel
theorem dX1_isUnsure_11 : decode cX1_isUnsure 11 = .ok (.getfield 24, 3) := by decide +kernel
theorem dX1_isUnsure_14 : decode cX1_isUnsure 14 = .ok (.iload_n 2, 1) := by decide +kernel
theorem dX1_isUnsure_15 : decode cX1_isUnsure 15 = .ok (.iaload, 1) := by decide +kernel
theorem dX1_isUnsure_16 : decode cX1_isUnsure 16 = .ok (.iload_n 1, 1) := by decide +kernel
theorem dX1_isUnsure_17 : decode cX1_isUnsure 17 = .ok (.if_icmp .ne 5, 3) := by decide +kernel
theorem dX1_isUnsure_20 : decode cX1_isUnsure 20 = .ok (.iconst 1, 1) := by decide +kernel
theorem dX1_isUnsure_21 : decode cX1_isUnsure 21 = .ok (.ireturn, 1) := by decide +kernel
theorem dX1_isUnsure_22 : decode cX1_isUnsure 22 = .ok (.iinc 2 1, 3) := by decide +kernel
theorem dX1_isUnsure_25 : decode cX1_isUnsure 25 = .ok (.goto (-23), 3) := by decide +kernel
theorem dX1_isUnsure_28 : decode cX1_isUnsure 28 = .ok (.iconst 0, 1) := by decide +kernel
theorem dX1_isUnsure_29 : decode cX1_isUnsure 29 = .ok (.ireturn, 1) := by decide +kernel
theorem dX1_isSeen_0 : decode cX1_isSeen 0 = .ok (.iconst 0, 1) := by decide +kernel
theorem dX1_isSeen_1 : decode cX1_isSeen 1 = .ok (.istore_n 2, 1) := by decide +kernel
theorem dX1_isSeen_2 : decode cX1_isSeen 2 = .ok (.iload_n 2, 1) := by decide +kernel
theorem dX1_isSeen_3 : decode cX1_isSeen 3 = .ok (.aload_n 0, 1) := by decide +kernel
theorem dX1_isSeen_4 : decode cX1_isSeen 4 = .ok (.getfield 62, 3) := by decide +kernel
theorem dX1_isSeen_7 : decode cX1_isSeen 7 = .ok (.if_icmp .ge 21, 3) := by decide +kernel
theorem dX1_isSeen_10 : decode cX1_isSeen 10 = .ok (.aload_n 0, 1) := by decide +kernel
theorem dX1_isSeen_11 : decode cX1_isSeen 11 = .ok (.getfield 30, 3) := by decide +kernel
theorem dX1_isSeen_14 : decode cX1_isSeen 14 = .ok (.iload_n 2, 1) := by decide +kernel
theorem dX1_isSeen_15 : decode cX1_isSeen 15 = .ok (.iaload, 1) := by decide +kernel
theorem dX1_isSeen_16 : decode cX1_isSeen 16 = .ok (.iload_n 1, 1) := by decide +kernel
theorem dX1_isSeen_17 : decode cX1_isSeen 17 = .ok (.if_icmp .ne 5, 3) := by decide +kernel
theorem dX1_isSeen_20 : decode cX1_isSeen 20 = .ok (.iconst 1, 1) := by decide +kernel
theorem dX1_isSeen_21 : decode cX1_isSeen 21 = .ok (.ireturn, 1) := by decide +kernel
theorem dX1_isSeen_22 : decode cX1_isSeen 22 = .ok (.iinc 2 1, 3) := by decide +kernel
theorem dX1_isSeen_25 : decode cX1_isSeen 25 = .ok (.goto (-23), 3) := by decide +kernel
theorem dX1_isSeen_28 : decode cX1_isSeen 28 = .ok (.iconst 0, 1) := by decide +kernel
theorem dX1_isSeen_29 : decode cX1_isSeen 29 = .ok (.ireturn, 1) := by decide +kernel
theorem dX1_agrees_0 : decode cX1_agrees 0 = .ok (.iconst 0, 1) := by decide +kernel
theorem dX1_agrees_1 : decode cX1_agrees 1 = .ok (.istore_n 2, 1) := by decide +kernel
theorem dX1_agrees_2 : decode cX1_agrees 2 = .ok (.iload_n 2, 1) := by decide +kernel
theorem dX1_agrees_3 : decode cX1_agrees 3 = .ok (.aload_n 0, 1) := by decide +kernel
theorem dX1_agrees_4 : decode cX1_agrees 4 = .ok (.getfield 62, 3) := by decide +kernel
theorem dX1_agrees_7 : decode cX1_agrees 7 = .ok (.if_icmp .ge 30, 3) := by decide +kernel
theorem dX1_agrees_10 : decode cX1_agrees 10 = .ok (.iload_n 1, 1) := by decide +kernel
theorem dX1_agrees_11 : decode cX1_agrees 11 = .ok (.aload_n 0, 1) := by decide +kernel
theorem dX1_agrees_12 : decode cX1_agrees 12 = .ok (.getfield 30, 3) := by decide +kernel
theorem dX1_agrees_15 : decode cX1_agrees 15 = .ok (.iload_n 2, 1) := by decide +kernel
theorem dX1_agrees_16 : decode cX1_agrees 16 = .ok (.iaload, 1) := by decide +kernel
theorem dX1_agrees_17 : decode cX1_agrees 17 = .ok (.ishr, 1) := by decide +kernel
theorem dX1_agrees_18 : decode cX1_agrees 18 = .ok (.iconst 1, 1) := by decide +kernel
theorem dX1_agrees_19 : decode cX1_agrees 19 = .ok (.iand, 1) := by decide +kernel
theorem dX1_agrees_20 : decode cX1_agrees 20 = .ok (.aload_n 0, 1) := by decide +kernel
theorem dX1_agrees_21 : decode cX1_agrees 21 = .ok (.getfield 33, 3) := by decide +kernel
theorem dX1_agrees_24 : decode cX1_agrees 24 = .ok (.iload_n 2, 1) := by decide +kernel
theorem dX1_agrees_25 : decode cX1_agrees 25 = .ok (.iaload, 1) := by decide +kernel
theorem dX1_agrees_26 : decode cX1_agrees 26 = .ok (.if_icmp .eq 5, 3) := by decide +kernel
theorem dX1_agrees_29 : decode cX1_agrees 29 = .ok (.iconst 0, 1) := by decide +kernel
theorem dX1_agrees_30 : decode cX1_agrees 30 = .ok (.ireturn, 1) := by decide +kernel
theorem dX1_agrees_31 : decode cX1_agrees 31 = .ok (.iinc 2 1, 3) := by decide +kernel
theorem dX1_agrees_34 : decode cX1_agrees 34 = .ok (.goto (-32), 3) := by decide +kernel
theorem dX1_agrees_37 : decode cX1_agrees 37 = .ok (.iconst 1, 1) := by decide +kernel
theorem dX1_agrees_38 : decode cX1_agrees 38 = .ok (.ireturn, 1) := by decide +kernel
theorem dX2_shortest_0 : decode cX2_shortest 0 = .ok (.iconst 0, 1) := by decide +kernel
theorem dX2_shortest_1 : decode cX2_shortest 1 = .ok (.istore_n 2, 1) := by decide +kernel
theorem dX2_shortest_2 : decode cX2_shortest 2 = .ok (.iload_n 2, 1) := by decide +kernel
theorem dX2_shortest_3 : decode cX2_shortest 3 = .ok (.bipush 7, 2) := by decide +kernel
theorem dX2_shortest_5 : decode cX2_shortest 5 = .ok (.if_icmp .ge 20, 3) := by decide +kernel
theorem dX2_shortest_8 : decode cX2_shortest 8 = .ok (.aload_n 0, 1) := by decide +kernel
theorem dX2_shortest_9 : decode cX2_shortest 9 = .ok (.iload_n 1, 1) := by decide +kernel
theorem dX2_shortest_10 : decode cX2_shortest 10 = .ok (.iload_n 2, 1) := by decide +kernel
theorem dX2_shortest_11 : decode cX2_shortest 11 = .ok (.invokestatic 9, 3) := by decide +kernel
theorem dX2_shortest_14 : decode cX2_shortest 14 = .ok (.ifCond .eq 5, 3) := by decide +kernel
theorem dX2_shortest_17 : decode cX2_shortest 17 = .ok (.iload_n 2, 1) := by decide +kernel
theorem dX2_shortest_18 : decode cX2_shortest 18 = .ok (.ireturn, 1) := by decide +kernel
theorem dX2_shortest_19 : decode cX2_shortest 19 = .ok (.iinc 2 1, 3) := by decide +kernel
theorem dX2_shortest_22 : decode cX2_shortest 22 = .ok (.goto (-20), 3) := by decide +kernel
theorem dX2_shortest_25 : decode cX2_shortest 25 = .ok (.bipush 7, 2) := by decide +kernel
theorem dX2_shortest_27 : decode cX2_shortest 27 = .ok (.ireturn, 1) := by decide +kernel
theorem dX2_holds_0 : decode cX2_holds 0 = .ok (.iload_n 2, 1) := by decide +kernel
theorem dX2_holds_1 : decode cX2_holds 1 = .ok (.bipush 7, 2) := by decide +kernel
theorem dX2_holds_3 : decode cX2_holds 3 = .ok (.if_icmp .ne 5, 3) := by decide +kernel
theorem dX2_holds_6 : decode cX2_holds 6 = .ok (.iconst 1, 1) := by decide +kernel
theorem dX2_holds_7 : decode cX2_holds 7 = .ok (.ireturn, 1) := by decide +kernel
theorem dX2_holds_8 : decode cX2_holds 8 = .ok (.iload_n 2, 1) := by decide +kernel
theorem dX2_holds_9 : decode cX2_holds 9 = .ok (.iconst 2, 1) := by decide +kernel
theorem dX2_holds_10 : decode cX2_holds 10 = .ok (.if_icmp .ge 23, 3) := by decide +kernel
theorem dX2_holds_13 : decode cX2_holds 13 = .ok (.aload_n 0, 1) := by decide +kernel
theorem dX2_holds_14 : decode cX2_holds 14 = .ok (.iload_n 1, 1) := by decide +kernel
theorem dX2_holds_15 : decode cX2_holds 15 = .ok (.iload_n 2, 1) := by decide +kernel
theorem dX2_holds_16 : decode cX2_holds 16 = .ok (.ifCond .ne 7, 3) := by decide +kernel
theorem dX2_holds_19 : decode cX2_holds 19 = .ok (.iconst 0, 1) := by decide +kernel
theorem dX2_holds_20 : decode cX2_holds 20 = .ok (.goto 9, 3) := by decide +kernel
theorem dX2_holds_23 : decode cX2_holds 23 = .ok (.aload_n 0, 1) := by decide +kernel
theorem dX2_holds_24 : decode cX2_holds 24 = .ok (.iload_n 1, 1) := by decide +kernel
theorem dX2_holds_25 : decode cX2_holds 25 = .ok (.bipush 8, 2) := by decide +kernel
theorem dX2_holds_27 : decode cX2_holds 27 = .ok (.imul, 1) := by decide +kernel
theorem dX2_holds_28 : decode cX2_holds 28 = .ok (.iaload, 1) := by decide +kernel
theorem dX2_holds_29 : decode cX2_holds 29 = .ok (.invokestatic 15, 3) := by decide +kernel
theorem dX2_holds_32 : decode cX2_holds 32 = .ok (.ireturn, 1) := by decide +kernel
theorem dX2_holds_33 : decode cX2_holds 33 = .ok (.iconst 0, 1) := by decide +kernel
theorem dX2_holds_34 : decode cX2_holds 34 = .ok (.istore_n 3, 1) := by decide +kernel
theorem dX2_holds_35 : decode cX2_holds 35 = .ok (.lconst 0, 1) := by decide +kernel
theorem dX2_holds_36 : decode cX2_holds 36 = .ok (.lstore 4, 2) := by decide +kernel
theorem dX2_holds_38 : decode cX2_holds 38 = .ok (.iconst 0, 1) := by decide +kernel
theorem dX2_holds_39 : decode cX2_holds 39 = .ok (.istore 6, 2) := by decide +kernel
theorem dX2_holds_41 : decode cX2_holds 41 = .ok (.iload 6, 2) := by decide +kernel
theorem dX2_holds_43 : decode cX2_holds 43 = .ok (.iload_n 2, 1) := by decide +kernel
theorem dX2_holds_44 : decode cX2_holds 44 = .ok (.invokestatic 18, 3) := by decide +kernel
theorem dX2_holds_47 : decode cX2_holds 47 = .ok (.if_icmp .ge 61, 3) := by decide +kernel
theorem dX2_holds_50 : decode cX2_holds 50 = .ok (.aload_n 0, 1) := by decide +kernel
theorem dX2_holds_51 : decode cX2_holds 51 = .ok (.iload_n 1, 1) := by decide +kernel
theorem dX2_holds_52 : decode cX2_holds 52 = .ok (.iload_n 2, 1) := by decide +kernel
theorem dX2_holds_53 : decode cX2_holds 53 = .ok (.iload 6, 2) := by decide +kernel
theorem dX2_holds_55 : decode cX2_holds 55 = .ok (.invokestatic 22, 3) := by decide +kernel
theorem dX2_holds_58 : decode cX2_holds 58 = .ok (.lstore 7, 2) := by decide +kernel
theorem dX2_holds_60 : decode cX2_holds 60 = .ok (.lload 7, 2) := by decide +kernel
theorem dX2_holds_62 : decode cX2_holds 62 = .ok (.iload_n 2, 1) := by decide +kernel
theorem dX2_holds_63 : decode cX2_holds 63 = .ok (.invokestatic 26, 3) := by decide +kernel
theorem dX2_holds_66 : decode cX2_holds 66 = .ok (.ifCond .ne 36, 3) := by decide +kernel
theorem dX2_holds_69 : decode cX2_holds 69 = .ok (.iload_n 3, 1) := by decide +kernel
theorem dX2_holds_70 : decode cX2_holds 70 = .ok (.ifCond .eq 17, 3) := by decide +kernel
theorem dX2_holds_73 : decode cX2_holds 73 = .ok (.lload 7, 2) := by decide +kernel
theorem dX2_holds_75 : decode cX2_holds 75 = .ok (.lload 4, 2) := by decide +kernel
theorem dX2_holds_77 : decode cX2_holds 77 = .ok (.lsub, 1) := by decide +kernel
theorem dX2_holds_78 : decode cX2_holds 78 = .ok (.iload_n 2, 1) := by decide +kernel
theorem dX2_holds_79 : decode cX2_holds 79 = .ok (.invokestatic 26, 3) := by decide +kernel
theorem dX2_holds_82 : decode cX2_holds 82 = .ok (.ifCond .ne 5, 3) := by decide +kernel
theorem dX2_holds_85 : decode cX2_holds 85 = .ok (.iconst 0, 1) := by decide +kernel
theorem dX2_holds_86 : decode cX2_holds 86 = .ok (.ireturn, 1) := by decide +kernel
theorem dX2_holds_87 : decode cX2_holds 87 = .ok (.iload_n 3, 1) := by decide +kernel
theorem dX2_holds_88 : decode cX2_holds 88 = .ok (.ifCond .eq 8, 3) := by decide +kernel
theorem dX2_holds_91 : decode cX2_holds 91 = .ok (.lload 4, 2) := by decide +kernel
theorem dX2_holds_93 : decode cX2_holds 93 = .ok (.goto 5, 3) := by decide +kernel
theorem dX2_holds_96 : decode cX2_holds 96 = .ok (.lload 7, 2) := by decide +kernel
theorem dX2_holds_98 : decode cX2_holds 98 = .ok (.lstore 4, 2) := by decide +kernel
theorem dX2_holds_100 : decode cX2_holds 100 = .ok (.iconst 1, 1) := by decide +kernel
theorem dX2_holds_101 : decode cX2_holds 101 = .ok (.istore_n 3, 1) := by decide +kernel
theorem dX2_holds_102 : decode cX2_holds 102 = .ok (.iinc 6 1, 3) := by decide +kernel
theorem dX2_holds_105 : decode cX2_holds 105 = .ok (.goto (-64), 3) := by decide +kernel
theorem dX2_holds_108 : decode cX2_holds 108 = .ok (.iconst 1, 1) := by decide +kernel
theorem dX2_holds_109 : decode cX2_holds 109 = .ok (.ireturn, 1) := by decide +kernel
theorem dX2_isFull_0 : decode cX2_isFull 0 = .ok (.iconst 0, 1) := by decide +kernel
theorem dX2_isFull_1 : decode cX2_isFull 1 = .ok (.istore_n 3, 1) := by decide +kernel
theorem dX2_isFull_2 : decode cX2_isFull 2 = .ok (.iload_n 3, 1) := by decide +kernel
theorem dX2_isFull_3 : decode cX2_isFull 3 = .ok (.bipush 8, 2) := by decide +kernel
theorem dX2_isFull_5 : decode cX2_isFull 5 = .ok (.if_icmp .ge 23, 3) := by decide +kernel
theorem dX2_isFull_8 : decode cX2_isFull 8 = .ok (.aload_n 0, 1) := by decide +kernel
theorem dX2_isFull_9 : decode cX2_isFull 9 = .ok (.iload_n 1, 1) := by decide +kernel
theorem dX2_isFull_10 : decode cX2_isFull 10 = .ok (.bipush 8, 2) := by decide +kernel
theorem dX2_isFull_12 : decode cX2_isFull 12 = .ok (.imul, 1) := by decide +kernel
theorem dX2_isFull_13 : decode cX2_isFull 13 = .ok (.iload_n 3, 1) := by decide +kernel
theorem dX2_isFull_14 : decode cX2_isFull 14 = .ok (.iadd, 1) := by decide +kernel
theorem dX2_isFull_15 : decode cX2_isFull 15 = .ok (.iaload, 1) := by decide +kernel
theorem dX2_isFull_16 : decode cX2_isFull 16 = .ok (.iload_n 2, 1) := by decide +kernel
theorem dX2_isFull_17 : decode cX2_isFull 17 = .ok (.if_icmp .eq 5, 3) := by decide +kernel
theorem dX2_isFull_20 : decode cX2_isFull 20 = .ok (.iconst 0, 1) := by decide +kernel
theorem dX2_isFull_21 : decode cX2_isFull 21 = .ok (.ireturn, 1) := by decide +kernel
theorem dX2_isFull_22 : decode cX2_isFull 22 = .ok (.iinc 3 1, 3) := by decide +kernel
theorem dX2_isFull_25 : decode cX2_isFull 25 = .ok (.goto (-23), 3) := by decide +kernel
theorem dX2_isFull_28 : decode cX2_isFull 28 = .ok (.iconst 1, 1) := by decide +kernel
theorem dX2_isFull_29 : decode cX2_isFull 29 = .ok (.ireturn, 1) := by decide +kernel
theorem dX2_baseOf_0 : decode cX2_baseOf 0 = .ok (.iconst 0, 1) := by decide +kernel
theorem dX2_baseOf_1 : decode cX2_baseOf 1 = .ok (.istore_n 3, 1) := by decide +kernel
theorem dX2_baseOf_2 : decode cX2_baseOf 2 = .ok (.iload_n 3, 1) := by decide +kernel
theorem dX2_baseOf_3 : decode cX2_baseOf 3 = .ok (.iload_n 2, 1) := by decide +kernel
theorem dX2_baseOf_4 : decode cX2_baseOf 4 = .ok (.invokestatic 18, 3) := by decide +kernel
theorem dX2_baseOf_7 : decode cX2_baseOf 7 = .ok (.if_icmp .ge 30, 3) := by decide +kernel
theorem dX2_baseOf_10 : decode cX2_baseOf 10 = .ok (.aload_n 0, 1) := by decide +kernel
theorem dX2_baseOf_11 : decode cX2_baseOf 11 = .ok (.iload_n 1, 1) := by decide +kernel
theorem dX2_baseOf_12 : decode cX2_baseOf 12 = .ok (.iload_n 2, 1) := by decide +kernel
theorem dX2_baseOf_13 : decode cX2_baseOf 13 = .ok (.iload_n 3, 1) := by decide +kernel
theorem dX2_baseOf_14 : decode cX2_baseOf 14 = .ok (.invokestatic 22, 3) := by decide +kernel
theorem dX2_baseOf_17 : decode cX2_baseOf 17 = .ok (.lstore 4, 2) := by decide +kernel
theorem dX2_baseOf_19 : decode cX2_baseOf 19 = .ok (.lload 4, 2) := by decide +kernel
theorem dX2_baseOf_21 : decode cX2_baseOf 21 = .ok (.iload_n 2, 1) := by decide +kernel
theorem dX2_baseOf_22 : decode cX2_baseOf 22 = .ok (.invokestatic 26, 3) := by decide +kernel
theorem dX2_baseOf_25 : decode cX2_baseOf 25 = .ok (.ifCond .ne 6, 3) := by decide +kernel
theorem dX2_baseOf_28 : decode cX2_baseOf 28 = .ok (.lload 4, 2) := by decide +kernel
theorem dX2_baseOf_30 : decode cX2_baseOf 30 = .ok (.lreturn, 1) := by decide +kernel
theorem dX2_baseOf_31 : decode cX2_baseOf 31 = .ok (.iinc 3 1, 3) := by decide +kernel
theorem dX2_baseOf_34 : decode cX2_baseOf 34 = .ok (.goto (-32), 3) := by decide +kernel
theorem dX2_baseOf_37 : decode cX2_baseOf 37 = .ok (.lconst 0, 1) := by decide +kernel
theorem dX2_baseOf_38 : decode cX2_baseOf 38 = .ok (.lreturn, 1) := by decide +kernel
theorem dX2_lanesOf_0 : decode cX2_lanesOf 0 = .ok (.getstatic 30, 3) := by decide +kernel
theorem dX2_lanesOf_3 : decode cX2_lanesOf 3 = .ok (.iload_n 0, 1) := by decide +kernel
theorem dX2_lanesOf_4 : decode cX2_lanesOf 4 = .ok (.iaload, 1) := by decide +kernel
theorem dX2_lanesOf_5 : decode cX2_lanesOf 5 = .ok (.istore_n 1, 1) := by decide +kernel
theorem dX2_lanesOf_6 : decode cX2_lanesOf 6 = .ok (.iload_n 1, 1) := by decide +kernel
theorem dX2_lanesOf_7 : decode cX2_lanesOf 7 = .ok (.iconst 1, 1) := by decide +kernel
theorem dX2_lanesOf_8 : decode cX2_lanesOf 8 = .ok (.if_icmp .ge 7, 3) := by decide +kernel
theorem dX2_lanesOf_11 : decode cX2_lanesOf 11 = .ok (.iconst 0, 1) := by decide +kernel
theorem dX2_lanesOf_12 : decode cX2_lanesOf 12 = .ok (.goto 7, 3) := by decide +kernel
theorem dX2_lanesOf_15 : decode cX2_lanesOf 15 = .ok (.bipush 16, 2) := by decide +kernel
theorem dX2_lanesOf_17 : decode cX2_lanesOf 17 = .ok (.iload_n 1, 1) := by decide +kernel
theorem dX2_lanesOf_18 : decode cX2_lanesOf 18 = .ok (.idiv, 1) := by decide +kernel
theorem dX2_lanesOf_19 : decode cX2_lanesOf 19 = .ok (.ireturn, 1) := by decide +kernel
theorem dX2_lane_0 : decode cX2_lane 0 = .ok (.getstatic 30, 3) := by decide +kernel
theorem dX2_lane_3 : decode cX2_lane 3 = .ok (.iload_n 2, 1) := by decide +kernel
theorem dX2_lane_4 : decode cX2_lane 4 = .ok (.iaload, 1) := by decide +kernel
theorem dX2_lane_5 : decode cX2_lane 5 = .ok (.iconst 2, 1) := by decide +kernel
theorem dX2_lane_6 : decode cX2_lane 6 = .ok (.idiv, 1) := by decide +kernel
theorem dX2_lane_7 : decode cX2_lane 7 = .ok (.istore 4, 2) := by decide +kernel
theorem dX2_lane_9 : decode cX2_lane 9 = .ok (.iload_n 1, 1) := by decide +kernel
theorem dX2_lane_10 : decode cX2_lane 10 = .ok (.bipush 8, 2) := by decide +kernel
theorem dX2_lane_12 : decode cX2_lane 12 = .ok (.imul, 1) := by decide +kernel
theorem dX2_lane_13 : decode cX2_lane 13 = .ok (.iload_n 3, 1) := by decide +kernel
theorem dX2_lane_14 : decode cX2_lane 14 = .ok (.iload 4, 2) := by decide +kernel
theorem dX2_lane_16 : decode cX2_lane 16 = .ok (.imul, 1) := by decide +kernel
theorem dX2_lane_17 : decode cX2_lane 17 = .ok (.iadd, 1) := by decide +kernel
theorem dX2_lane_18 : decode cX2_lane 18 = .ok (.istore 5, 2) := by decide +kernel
theorem dX2_lane_20 : decode cX2_lane 20 = .ok (.lconst 0, 1) := by decide +kernel
theorem dX2_lane_21 : decode cX2_lane 21 = .ok (.lstore 6, 2) := by decide +kernel
theorem dX2_lane_23 : decode cX2_lane 23 = .ok (.iconst 0, 1) := by decide +kernel
theorem dX2_lane_24 : decode cX2_lane 24 = .ok (.istore 8, 2) := by decide +kernel
theorem dX2_lane_26 : decode cX2_lane 26 = .ok (.iload 8, 2) := by decide +kernel
theorem dX2_lane_28 : decode cX2_lane 28 = .ok (.iload 4, 2) := by decide +kernel
theorem dX2_lane_30 : decode cX2_lane 30 = .ok (.if_icmp .ge 25, 3) := by decide +kernel
theorem dX2_lane_33 : decode cX2_lane 33 = .ok (.lload 6, 2) := by decide +kernel
theorem dX2_lane_35 : decode cX2_lane 35 = .ok (.bipush 16, 2) := by decide +kernel
theorem dX2_lane_37 : decode cX2_lane 37 = .ok (.lshl, 1) := by decide +kernel
theorem dX2_lane_38 : decode cX2_lane 38 = .ok (.aload_n 0, 1) := by decide +kernel
theorem dX2_lane_39 : decode cX2_lane 39 = .ok (.iload 5, 2) := by decide +kernel
theorem dX2_lane_41 : decode cX2_lane 41 = .ok (.iload 8, 2) := by decide +kernel
theorem dX2_lane_43 : decode cX2_lane 43 = .ok (.iadd, 1) := by decide +kernel
theorem dX2_lane_44 : decode cX2_lane 44 = .ok (.iaload, 1) := by decide +kernel
theorem dX2_lane_45 : decode cX2_lane 45 = .ok (.i2l, 1) := by decide +kernel
theorem dX2_lane_46 : decode cX2_lane 46 = .ok (.lor, 1) := by decide +kernel
theorem dX2_lane_47 : decode cX2_lane 47 = .ok (.lstore 6, 2) := by decide +kernel
theorem dX2_lane_49 : decode cX2_lane 49 = .ok (.iinc 8 1, 3) := by decide +kernel
theorem dX2_lane_52 : decode cX2_lane 52 = .ok (.goto (-26), 3) := by decide +kernel
theorem dX2_lane_55 : decode cX2_lane 55 = .ok (.lload 6, 2) := by decide +kernel
theorem dX2_lane_57 : decode cX2_lane 57 = .ok (.lreturn, 1) := by decide +kernel
theorem dX2_isSmall_0 : decode cX2_isSmall 0 = .ok (.lload_n 0, 1) := by decide +kernel
theorem dX2_isSmall_1 : decode cX2_isSmall 1 = .ok (.getstatic 34, 3) := by decide +kernel
theorem dX2_isSmall_4 : decode cX2_isSmall 4 = .ok (.iload_n 2, 1) := by decide +kernel
theorem dX2_isSmall_5 : decode cX2_isSmall 5 = .ok (.iaload, 1) := by decide +kernel
theorem dX2_isSmall_6 : decode cX2_isSmall 6 = .ok (.ineg, 1) := by decide +kernel
theorem dX2_isSmall_7 : decode cX2_isSmall 7 = .ok (.i2l, 1) := by decide +kernel
theorem dX2_isSmall_8 : decode cX2_isSmall 8 = .ok (.lcmp, 1) := by decide +kernel
theorem dX2_isSmall_9 : decode cX2_isSmall 9 = .ok (.ifCond .lt 18, 3) := by decide +kernel
theorem dX2_isSmall_12 : decode cX2_isSmall 12 = .ok (.lload_n 0, 1) := by decide +kernel
theorem dX2_isSmall_13 : decode cX2_isSmall 13 = .ok (.getstatic 34, 3) := by decide +kernel
theorem dX2_isSmall_16 : decode cX2_isSmall 16 = .ok (.iload_n 2, 1) := by decide +kernel
theorem dX2_isSmall_17 : decode cX2_isSmall 17 = .ok (.iaload, 1) := by decide +kernel
theorem dX2_isSmall_18 : decode cX2_isSmall 18 = .ok (.i2l, 1) := by decide +kernel
theorem dX2_isSmall_19 : decode cX2_isSmall 19 = .ok (.lcmp, 1) := by decide +kernel
theorem dX2_isSmall_20 : decode cX2_isSmall 20 = .ok (.ifCond .ge 7, 3) := by decide +kernel
theorem dX2_isSmall_23 : decode cX2_isSmall 23 = .ok (.iconst 1, 1) := by decide +kernel
theorem dX2_isSmall_24 : decode cX2_isSmall 24 = .ok (.goto 4, 3) := by decide +kernel
theorem dX2_isSmall_27 : decode cX2_isSmall 27 = .ok (.iconst 0, 1) := by decide +kernel
theorem dX2_isSmall_28 : decode cX2_isSmall 28 = .ok (.ireturn, 1) := by decide +kernel
theorem dX3_init_0 : decode cX3_init 0 = .ok (.aload_n 0, 1) := by decide +kernel
theorem dX3_init_1 : decode cX3_init 1 = .ok (.invokespecial 3, 3) := by decide +kernel
theorem dX3_init_4 : decode cX3_init 4 = .ok (.aload_n 0, 1) := by decide +kernel
theorem dX3_init_5 : decode cX3_init 5 = .ok (.iconst 1, 1) := by decide +kernel
theorem dX3_init_6 : decode cX3_init 6 = .ok (.putfield 9, 3) := by decide +kernel
theorem dX3_init_9 : decode cX3_init 9 = .ok (.aload_n 0, 1) := by decide +kernel
theorem dX3_init_10 : decode cX3_init 10 = .ok (.iconst 1, 1) := by decide +kernel
theorem dX3_init_11 : decode cX3_init 11 = .ok (.putfield 15, 3) := by decide +kernel
theorem dX3_init_14 : decode cX3_init 14 = .ok (.aload_n 0, 1) := by decide +kernel
theorem dX3_init_15 : decode cX3_init 15 = .ok (.sipush 256, 3) := by decide +kernel
theorem dX3_init_18 : decode cX3_init 18 = .ok (.newarray .int, 2) := by decide +kernel
theorem dX3_init_20 : decode cX3_init 20 = .ok (.putfield 18, 3) := by decide +kernel
theorem dX3_init_23 : decode cX3_init 23 = .ok (.aload_n 0, 1) := by decide +kernel
theorem dX3_init_24 : decode cX3_init 24 = .ok (.sipush 256, 3) := by decide +kernel
theorem dX3_init_27 : decode cX3_init 27 = .ok (.newarray .int, 2) := by decide +kernel
theorem dX3_init_29 : decode cX3_init 29 = .ok (.putfield 22, 3) := by decide +kernel
theorem dX3_init_32 : decode cX3_init 32 = .ok (.aload_n 0, 1) := by decide +kernel
theorem dX3_init_33 : decode cX3_init 33 = .ok (.bipush 32, 2) := by decide +kernel
theorem dX3_init_35 : decode cX3_init 35 = .ok (.newarray .int, 2) := by decide +kernel
theorem dX3_init_37 : decode cX3_init 37 = .ok (.putfield 25, 3) := by decide +kernel
theorem dX3_init_40 : decode cX3_init 40 = .ok (.aload_n 0, 1) := by decide +kernel
theorem dX3_init_41 : decode cX3_init 41 = .ok (.bipush 32, 2) := by decide +kernel
theorem dX3_init_43 : decode cX3_init 43 = .ok (.newarray .int, 2) := by decide +kernel
theorem dX3_init_45 : decode cX3_init 45 = .ok (.putfield 28, 3) := by decide +kernel
theorem dX3_init_48 : decode cX3_init 48 = .ok (.aload_n 0, 1) := by decide +kernel
theorem dX3_init_49 : decode cX3_init 49 = .ok (.bipush 32, 2) := by decide +kernel
theorem dX3_init_51 : decode cX3_init 51 = .ok (.newarray .int, 2) := by decide +kernel
theorem dX3_init_53 : decode cX3_init 53 = .ok (.putfield 31, 3) := by decide +kernel
theorem dX3_init_56 : decode cX3_init 56 = .ok (.aload_n 0, 1) := by decide +kernel
theorem dX3_init_57 : decode cX3_init 57 = .ok (.bipush 32, 2) := by decide +kernel
theorem dX3_init_59 : decode cX3_init 59 = .ok (.newarray .int, 2) := by decide +kernel
theorem dX3_init_61 : decode cX3_init 61 = .ok (.putfield 34, 3) := by decide +kernel
theorem dX3_init_64 : decode cX3_init 64 = .ok (.return_, 1) := by decide +kernel
theorem dX3_begin_0 : decode cX3_begin 0 = .ok (.aload_n 0, 1) := by decide +kernel
theorem dX3_begin_1 : decode cX3_begin 1 = .ok (.aload_n 1, 1) := by decide +kernel
theorem dX3_begin_2 : decode cX3_begin 2 = .ok (.getfield 37, 3) := by decide +kernel
theorem dX3_begin_5 : decode cX3_begin 5 = .ok (.putfield 9, 3) := by decide +kernel
theorem dX3_begin_8 : decode cX3_begin 8 = .ok (.aload_n 0, 1) := by decide +kernel
theorem dX3_begin_9 : decode cX3_begin 9 = .ok (.iload_n 2, 1) := by decide +kernel
theorem dX3_begin_10 : decode cX3_begin 10 = .ok (.putfield 15, 3) := by decide +kernel
theorem dX3_begin_13 : decode cX3_begin 13 = .ok (.aload_n 0, 1) := by decide +kernel
theorem dX3_begin_14 : decode cX3_begin 14 = .ok (.iload_n 3, 1) := by decide +kernel
theorem dX3_begin_15 : decode cX3_begin 15 = .ok (.putfield 40, 3) := by decide +kernel
theorem dX3_begin_18 : decode cX3_begin 18 = .ok (.aload_n 0, 1) := by decide +kernel
theorem dX3_begin_19 : decode cX3_begin 19 = .ok (.aload_n 1, 1) := by decide +kernel
theorem dX3_begin_20 : decode cX3_begin 20 = .ok (.getfield 44, 3) := by decide +kernel
theorem dX3_begin_23 : decode cX3_begin 23 = .ok (.ifCond .eq 11, 3) := by decide +kernel
theorem dX3_begin_26 : decode cX3_begin 26 = .ok (.iload_n 3, 1) := by decide +kernel
theorem dX3_begin_27 : decode cX3_begin 27 = .ok (.ifCond .ne 7, 3) := by decide +kernel
theorem dX3_begin_30 : decode cX3_begin 30 = .ok (.iconst 1, 1) := by decide +kernel
theorem dX3_begin_31 : decode cX3_begin 31 = .ok (.goto 4, 3) := by decide +kernel
theorem dX3_begin_34 : decode cX3_begin 34 = .ok (.iconst 0, 1) := by decide +kernel
theorem dX3_begin_35 : decode cX3_begin 35 = .ok (.putfield 47, 3) := by decide +kernel
theorem dX3_begin_38 : decode cX3_begin 38 = .ok (.aload_n 1, 1) := by decide +kernel
theorem dX3_begin_39 : decode cX3_begin 39 = .ok (.getfield 48, 3) := by decide +kernel
theorem dX3_begin_42 : decode cX3_begin 42 = .ok (.iconst 0, 1) := by decide +kernel
theorem dX3_begin_43 : decode cX3_begin 43 = .ok (.aload_n 0, 1) := by decide +kernel
theorem dX3_begin_44 : decode cX3_begin 44 = .ok (.getfield 18, 3) := by decide +kernel
theorem dX3_begin_47 : decode cX3_begin 47 = .ok (.iconst 0, 1) := by decide +kernel
theorem dX3_begin_48 : decode cX3_begin 48 = .ok (.sipush 256, 3) := by decide +kernel
theorem dX3_begin_51 : decode cX3_begin 51 = .ok (.invokestatic 49, 3) := by decide +kernel
theorem dX3_begin_54 : decode cX3_begin 54 = .ok (.iconst 0, 1) := by decide +kernel
theorem dX3_begin_55 : decode cX3_begin 55 = .ok (.istore 5, 2) := by decide +kernel
theorem dX3_begin_57 : decode cX3_begin 57 = .ok (.iload 5, 2) := by decide +kernel
theorem dX3_begin_59 : decode cX3_begin 59 = .ok (.aload_n 1, 1) := by decide +kernel
theorem dX3_begin_60 : decode cX3_begin 60 = .ok (.getfield 55, 3) := by decide +kernel
theorem dX3_begin_63 : decode cX3_begin 63 = .ok (.if_icmp .ge 39, 3) := by decide +kernel
theorem dX3_begin_66 : decode cX3_begin 66 = .ok (.iload 4, 2) := by decide +kernel
theorem dX3_begin_68 : decode cX3_begin 68 = .ok (.iload 5, 2) := by decide +kernel
theorem dX3_begin_70 : decode cX3_begin 70 = .ok (.ishr, 1) := by decide +kernel
theorem dX3_begin_71 : decode cX3_begin 71 = .ok (.iconst 1, 1) := by decide +kernel
theorem dX3_begin_72 : decode cX3_begin 72 = .ok (.iand, 1) := by decide +kernel
theorem dX3_begin_73 : decode cX3_begin 73 = .ok (.iconst 1, 1) := by decide +kernel
theorem dX3_begin_74 : decode cX3_begin 74 = .ok (.if_icmp .ne 22, 3) := by decide +kernel
theorem dX3_begin_77 : decode cX3_begin 77 = .ok (.aload_n 0, 1) := by decide +kernel
theorem dX3_begin_78 : decode cX3_begin 78 = .ok (.getfield 18, 3) := by decide +kernel
theorem dX3_begin_81 : decode cX3_begin 81 = .ok (.aload_n 1, 1) := by decide +kernel
theorem dX3_begin_82 : decode cX3_begin 82 = .ok (.getfield 58, 3) := by decide +kernel
theorem dX3_begin_85 : decode cX3_begin 85 = .ok (.iload 5, 2) := by decide +kernel
theorem dX3_begin_87 : decode cX3_begin 87 = .ok (.iaload, 1) := by decide +kernel
theorem dX3_begin_88 : decode cX3_begin 88 = .ok (.aload_n 1, 1) := by decide +kernel
theorem dX3_begin_89 : decode cX3_begin 89 = .ok (.getfield 61, 3) := by decide +kernel
theorem dX3_begin_92 : decode cX3_begin 92 = .ok (.iload 5, 2) := by decide +kernel
theorem dX3_begin_94 : decode cX3_begin 94 = .ok (.iaload, 1) := by decide +kernel
theorem dX3_begin_95 : decode cX3_begin 95 = .ok (.iastore, 1) := by decide +kernel
theorem dX3_begin_96 : decode cX3_begin 96 = .ok (.iinc 5 1, 3) := by decide +kernel
theorem dX3_begin_99 : decode cX3_begin 99 = .ok (.goto (-42), 3) := by decide +kernel
theorem dX3_begin_102 : decode cX3_begin 102 = .ok (.aload_n 0, 1) := by decide +kernel
theorem dX3_begin_103 : decode cX3_begin 103 = .ok (.getfield 18, 3) := by decide +kernel
theorem dX3_begin_106 : decode cX3_begin 106 = .ok (.iconst 0, 1) := by decide +kernel
theorem dX3_begin_107 : decode cX3_begin 107 = .ok (.aload_n 0, 1) := by decide +kernel
theorem dX3_begin_108 : decode cX3_begin 108 = .ok (.getfield 22, 3) := by decide +kernel
theorem dX3_begin_111 : decode cX3_begin 111 = .ok (.iconst 0, 1) := by decide +kernel
theorem dX3_begin_112 : decode cX3_begin 112 = .ok (.sipush 256, 3) := by decide +kernel
theorem dX3_begin_115 : decode cX3_begin 115 = .ok (.invokestatic 49, 3) := by decide +kernel
theorem dX3_begin_118 : decode cX3_begin 118 = .ok (.aload_n 0, 1) := by decide +kernel
theorem dX3_begin_119 : decode cX3_begin 119 = .ok (.getfield 25, 3) := by decide +kernel
theorem dX3_begin_122 : decode cX3_begin 122 = .ok (.iconst 0, 1) := by decide +kernel
theorem dX3_begin_123 : decode cX3_begin 123 = .ok (.invokestatic 64, 3) := by decide +kernel
theorem dX3_begin_126 : decode cX3_begin 126 = .ok (.aload_n 0, 1) := by decide +kernel
theorem dX3_begin_127 : decode cX3_begin 127 = .ok (.getfield 34, 3) := by decide +kernel
theorem dX3_begin_130 : decode cX3_begin 130 = .ok (.iconst 0, 1) := by decide +kernel
theorem dX3_begin_131 : decode cX3_begin 131 = .ok (.invokestatic 64, 3) := by decide +kernel
theorem dX3_begin_134 : decode cX3_begin 134 = .ok (.aload_n 0, 1) := by decide +kernel
theorem dX3_begin_135 : decode cX3_begin 135 = .ok (.iconst 0, 1) := by decide +kernel
theorem dX3_begin_136 : decode cX3_begin 136 = .ok (.putfield 70, 3) := by decide +kernel
theorem dX3_begin_139 : decode cX3_begin 139 = .ok (.aload_n 0, 1) := by decide +kernel
theorem dX3_begin_140 : decode cX3_begin 140 = .ok (.invokevirtual 73, 3) := by decide +kernel
theorem dX3_begin_143 : decode cX3_begin 143 = .ok (.return_, 1) := by decide +kernel
theorem dX3_copyOf_0 : decode cX3_copyOf 0 = .ok (.aload_n 0, 1) := by decide +kernel
theorem dX3_copyOf_1 : decode cX3_copyOf 1 = .ok (.aload_n 1, 1) := by decide +kernel
theorem dX3_copyOf_2 : decode cX3_copyOf 2 = .ok (.getfield 9, 3) := by decide +kernel
theorem dX3_copyOf_5 : decode cX3_copyOf 5 = .ok (.putfield 9, 3) := by decide +kernel
theorem dX3_copyOf_8 : decode cX3_copyOf 8 = .ok (.aload_n 0, 1) := by decide +kernel
theorem dX3_copyOf_9 : decode cX3_copyOf 9 = .ok (.aload_n 1, 1) := by decide +kernel
theorem dX3_copyOf_10 : decode cX3_copyOf 10 = .ok (.getfield 15, 3) := by decide +kernel
theorem dX3_copyOf_13 : decode cX3_copyOf 13 = .ok (.putfield 15, 3) := by decide +kernel
theorem dX3_copyOf_16 : decode cX3_copyOf 16 = .ok (.aload_n 0, 1) := by decide +kernel
theorem dX3_copyOf_17 : decode cX3_copyOf 17 = .ok (.aload_n 1, 1) := by decide +kernel
theorem dX3_copyOf_18 : decode cX3_copyOf 18 = .ok (.getfield 40, 3) := by decide +kernel
theorem dX3_copyOf_21 : decode cX3_copyOf 21 = .ok (.putfield 40, 3) := by decide +kernel
theorem dX3_copyOf_24 : decode cX3_copyOf 24 = .ok (.aload_n 0, 1) := by decide +kernel
theorem dX3_copyOf_25 : decode cX3_copyOf 25 = .ok (.aload_n 1, 1) := by decide +kernel
theorem dX3_copyOf_26 : decode cX3_copyOf 26 = .ok (.getfield 47, 3) := by decide +kernel
theorem dX3_copyOf_29 : decode cX3_copyOf 29 = .ok (.putfield 47, 3) := by decide +kernel
theorem dX3_copyOf_32 : decode cX3_copyOf 32 = .ok (.aload_n 1, 1) := by decide +kernel
theorem dX3_copyOf_33 : decode cX3_copyOf 33 = .ok (.getfield 18, 3) := by decide +kernel
theorem dX3_copyOf_36 : decode cX3_copyOf 36 = .ok (.iconst 0, 1) := by decide +kernel
theorem dX3_copyOf_37 : decode cX3_copyOf 37 = .ok (.aload_n 0, 1) := by decide +kernel
theorem dX3_copyOf_38 : decode cX3_copyOf 38 = .ok (.getfield 18, 3) := by decide +kernel
theorem dX3_copyOf_41 : decode cX3_copyOf 41 = .ok (.iconst 0, 1) := by decide +kernel
theorem dX3_copyOf_42 : decode cX3_copyOf 42 = .ok (.sipush 256, 3) := by decide +kernel
theorem dX3_copyOf_45 : decode cX3_copyOf 45 = .ok (.invokestatic 49, 3) := by decide +kernel
theorem dX3_copyOf_48 : decode cX3_copyOf 48 = .ok (.aload_n 1, 1) := by decide +kernel
theorem dX3_copyOf_49 : decode cX3_copyOf 49 = .ok (.getfield 22, 3) := by decide +kernel
theorem dX3_copyOf_52 : decode cX3_copyOf 52 = .ok (.iconst 0, 1) := by decide +kernel
theorem dX3_copyOf_53 : decode cX3_copyOf 53 = .ok (.aload_n 0, 1) := by decide +kernel
theorem dX3_copyOf_54 : decode cX3_copyOf 54 = .ok (.getfield 22, 3) := by decide +kernel
theorem dX3_copyOf_57 : decode cX3_copyOf 57 = .ok (.iconst 0, 1) := by decide +kernel
theorem dX3_copyOf_58 : decode cX3_copyOf 58 = .ok (.sipush 256, 3) := by decide +kernel
theorem dX3_copyOf_61 : decode cX3_copyOf 61 = .ok (.invokestatic 49, 3) := by decide +kernel
theorem dX3_copyOf_64 : decode cX3_copyOf 64 = .ok (.aload_n 1, 1) := by decide +kernel
theorem dX3_copyOf_65 : decode cX3_copyOf 65 = .ok (.getfield 25, 3) := by decide +kernel
theorem dX3_copyOf_68 : decode cX3_copyOf 68 = .ok (.iconst 0, 1) := by decide +kernel
theorem dX3_copyOf_69 : decode cX3_copyOf 69 = .ok (.aload_n 0, 1) := by decide +kernel
theorem dX3_copyOf_70 : decode cX3_copyOf 70 = .ok (.getfield 25, 3) := by decide +kernel
theorem dX3_copyOf_73 : decode cX3_copyOf 73 = .ok (.iconst 0, 1) := by decide +kernel
theorem dX3_copyOf_74 : decode cX3_copyOf 74 = .ok (.bipush 32, 2) := by decide +kernel
theorem dX3_copyOf_76 : decode cX3_copyOf 76 = .ok (.invokestatic 49, 3) := by decide +kernel
theorem dX3_copyOf_79 : decode cX3_copyOf 79 = .ok (.aload_n 1, 1) := by decide +kernel
theorem dX3_copyOf_80 : decode cX3_copyOf 80 = .ok (.getfield 28, 3) := by decide +kernel
theorem dX3_copyOf_83 : decode cX3_copyOf 83 = .ok (.iconst 0, 1) := by decide +kernel
theorem dX3_copyOf_84 : decode cX3_copyOf 84 = .ok (.aload_n 0, 1) := by decide +kernel
theorem dX3_copyOf_85 : decode cX3_copyOf 85 = .ok (.getfield 28, 3) := by decide +kernel
theorem dX3_copyOf_88 : decode cX3_copyOf 88 = .ok (.iconst 0, 1) := by decide +kernel
theorem dX3_copyOf_89 : decode cX3_copyOf 89 = .ok (.bipush 32, 2) := by decide +kernel
theorem dX3_copyOf_91 : decode cX3_copyOf 91 = .ok (.invokestatic 49, 3) := by decide +kernel
theorem dX3_copyOf_94 : decode cX3_copyOf 94 = .ok (.aload_n 1, 1) := by decide +kernel
theorem dX3_copyOf_95 : decode cX3_copyOf 95 = .ok (.getfield 31, 3) := by decide +kernel
theorem dX3_copyOf_98 : decode cX3_copyOf 98 = .ok (.iconst 0, 1) := by decide +kernel
theorem dX3_copyOf_99 : decode cX3_copyOf 99 = .ok (.aload_n 0, 1) := by decide +kernel
theorem dX3_copyOf_100 : decode cX3_copyOf 100 = .ok (.getfield 31, 3) := by decide +kernel
theorem dX3_copyOf_103 : decode cX3_copyOf 103 = .ok (.iconst 0, 1) := by decide +kernel
theorem dX3_copyOf_104 : decode cX3_copyOf 104 = .ok (.bipush 32, 2) := by decide +kernel
theorem dX3_copyOf_106 : decode cX3_copyOf 106 = .ok (.invokestatic 49, 3) := by decide +kernel
theorem dX3_copyOf_109 : decode cX3_copyOf 109 = .ok (.aload_n 1, 1) := by decide +kernel
theorem dX3_copyOf_110 : decode cX3_copyOf 110 = .ok (.getfield 34, 3) := by decide +kernel
theorem dX3_copyOf_113 : decode cX3_copyOf 113 = .ok (.iconst 0, 1) := by decide +kernel
theorem dX3_copyOf_114 : decode cX3_copyOf 114 = .ok (.aload_n 0, 1) := by decide +kernel
theorem dX3_copyOf_115 : decode cX3_copyOf 115 = .ok (.getfield 34, 3) := by decide +kernel
theorem dX3_copyOf_118 : decode cX3_copyOf 118 = .ok (.iconst 0, 1) := by decide +kernel
theorem dX3_copyOf_119 : decode cX3_copyOf 119 = .ok (.bipush 32, 2) := by decide +kernel
theorem dX3_copyOf_121 : decode cX3_copyOf 121 = .ok (.invokestatic 49, 3) := by decide +kernel
theorem dX3_copyOf_124 : decode cX3_copyOf 124 = .ok (.aload_n 0, 1) := by decide +kernel
theorem dX3_copyOf_125 : decode cX3_copyOf 125 = .ok (.aload_n 1, 1) := by decide +kernel
theorem dX3_copyOf_126 : decode cX3_copyOf 126 = .ok (.getfield 70, 3) := by decide +kernel
theorem dX3_copyOf_129 : decode cX3_copyOf 129 = .ok (.putfield 70, 3) := by decide +kernel
theorem dX3_copyOf_132 : decode cX3_copyOf 132 = .ok (.aload_n 0, 1) := by decide +kernel
theorem dX3_copyOf_133 : decode cX3_copyOf 133 = .ok (.invokevirtual 73, 3) := by decide +kernel
theorem dX3_copyOf_136 : decode cX3_copyOf 136 = .ok (.return_, 1) := by decide +kernel
theorem dX3_countAnew_0 : decode cX3_countAnew 0 = .ok (.aload_n 0, 1) := by decide +kernel
theorem dX3_countAnew_1 : decode cX3_countAnew 1 = .ok (.iconst 0, 1) := by decide +kernel
theorem dX3_countAnew_2 : decode cX3_countAnew 2 = .ok (.putfield 76, 3) := by decide +kernel
theorem dX3_countAnew_5 : decode cX3_countAnew 5 = .ok (.aload_n 0, 1) := by decide +kernel
theorem dX3_countAnew_6 : decode cX3_countAnew 6 = .ok (.iconst 0, 1) := by decide +kernel
theorem dX3_countAnew_7 : decode cX3_countAnew 7 = .ok (.putfield 79, 3) := by decide +kernel
theorem dX3_countAnew_10 : decode cX3_countAnew 10 = .ok (.aload_n 0, 1) := by decide +kernel
theorem dX3_countAnew_11 : decode cX3_countAnew 11 = .ok (.iconst 0, 1) := by decide +kernel
theorem dX3_countAnew_12 : decode cX3_countAnew 12 = .ok (.putfield 82, 3) := by decide +kernel
theorem dX3_countAnew_15 : decode cX3_countAnew 15 = .ok (.return_, 1) := by decide +kernel
theorem dX3_runSteps_0 : decode cX3_runSteps 0 = .ok (.iconst 0, 1) := by decide +kernel
theorem dX3_runSteps_1 : decode cX3_runSteps 1 = .ok (.istore_n 2, 1) := by decide +kernel
theorem dX3_runSteps_2 : decode cX3_runSteps 2 = .ok (.iconst 0, 1) := by decide +kernel
theorem dX3_runSteps_3 : decode cX3_runSteps 3 = .ok (.istore_n 3, 1) := by decide +kernel
theorem dX3_runSteps_4 : decode cX3_runSteps 4 = .ok (.iload_n 3, 1) := by decide +kernel
theorem dX3_runSteps_5 : decode cX3_runSteps 5 = .ok (.aload_n 1, 1) := by decide +kernel
theorem dX3_runSteps_6 : decode cX3_runSteps 6 = .ok (.getfield 85, 3) := by decide +kernel
theorem dX3_runSteps_9 : decode cX3_runSteps 9 = .ok (.if_icmp .ge 34, 3) := by decide +kernel
theorem dX3_runSteps_12 : decode cX3_runSteps 12 = .ok (.aload_n 0, 1) := by decide +kernel
theorem dX3_runSteps_13 : decode cX3_runSteps 13 = .ok (.aload_n 1, 1) := by decide +kernel
theorem dX3_runSteps_14 : decode cX3_runSteps 14 = .ok (.getfield 88, 3) := by decide +kernel
theorem dX3_runSteps_17 : decode cX3_runSteps 17 = .ok (.iload_n 3, 1) := by decide +kernel
theorem dX3_runSteps_18 : decode cX3_runSteps 18 = .ok (.iaload, 1) := by decide +kernel
theorem dX3_runSteps_19 : decode cX3_runSteps 19 = .ok (.aload_n 1, 1) := by decide +kernel
theorem dX3_runSteps_20 : decode cX3_runSteps 20 = .ok (.getfield 91, 3) := by decide +kernel
theorem dX3_runSteps_23 : decode cX3_runSteps 23 = .ok (.iload_n 3, 1) := by decide +kernel
theorem dX3_runSteps_24 : decode cX3_runSteps 24 = .ok (.iaload, 1) := by decide +kernel
theorem dX3_runSteps_25 : decode cX3_runSteps 25 = .ok (.invokevirtual 94, 3) := by decide +kernel
theorem dX3_runSteps_28 : decode cX3_runSteps 28 = .ok (.ifCond .eq 9, 3) := by decide +kernel
theorem dX3_runSteps_31 : decode cX3_runSteps 31 = .ok (.iload_n 2, 1) := by decide +kernel
theorem dX3_runSteps_32 : decode cX3_runSteps 32 = .ok (.iconst 1, 1) := by decide +kernel
theorem dX3_runSteps_33 : decode cX3_runSteps 33 = .ok (.iload_n 3, 1) := by decide +kernel
theorem dX3_runSteps_34 : decode cX3_runSteps 34 = .ok (.ishl, 1) := by decide +kernel
theorem dX3_runSteps_35 : decode cX3_runSteps 35 = .ok (.ior, 1) := by decide +kernel
theorem dX3_runSteps_36 : decode cX3_runSteps 36 = .ok (.istore_n 2, 1) := by decide +kernel
theorem dX3_runSteps_37 : decode cX3_runSteps 37 = .ok (.iinc 3 1, 3) := by decide +kernel
theorem dX3_runSteps_40 : decode cX3_runSteps 40 = .ok (.goto (-36), 3) := by decide +kernel
theorem dX3_runSteps_43 : decode cX3_runSteps 43 = .ok (.iload_n 2, 1) := by decide +kernel
theorem dX3_runSteps_44 : decode cX3_runSteps 44 = .ok (.ireturn, 1) := by decide +kernel
theorem dX3_perform_0 : decode cX3_perform 0 = .ok (.iload_n 1, 1) := by decide +kernel
theorem dX3_perform_1 : decode cX3_perform 1 = .ok (.iconst 2, 1) := by decide +kernel
theorem dX3_perform_2 : decode cX3_perform 2 = .ok (.if_icmp .ne 14, 3) := by decide +kernel
theorem dX3_perform_5 : decode cX3_perform 5 = .ok (.aload_n 0, 1) := by decide +kernel
theorem dX3_perform_6 : decode cX3_perform 6 = .ok (.iload_n 2, 1) := by decide +kernel
theorem dX3_perform_7 : decode cX3_perform 7 = .ok (.bipush 8, 2) := by decide +kernel
theorem dX3_perform_9 : decode cX3_perform 9 = .ok (.idiv, 1) := by decide +kernel
theorem dX3_perform_10 : decode cX3_perform 10 = .ok (.invokevirtual 98, 3) := by decide +kernel
theorem dX3_perform_13 : decode cX3_perform 13 = .ok (.goto 40, 3) := by decide +kernel
theorem dX3_perform_16 : decode cX3_perform 16 = .ok (.iload_n 1, 1) := by decide +kernel
theorem dX3_perform_17 : decode cX3_perform 17 = .ok (.iconst 3, 1) := by decide +kernel
theorem dX3_perform_18 : decode cX3_perform 18 = .ok (.if_icmp .ne 28, 3) := by decide +kernel
theorem dX3_perform_21 : decode cX3_perform 21 = .ok (.iconst 0, 1) := by decide +kernel
theorem dX3_perform_22 : decode cX3_perform 22 = .ok (.istore 4, 2) := by decide +kernel
theorem dX3_perform_24 : decode cX3_perform 24 = .ok (.iload 4, 2) := by decide +kernel
theorem dX3_perform_26 : decode cX3_perform 26 = .ok (.bipush 32, 2) := by decide +kernel
theorem dX3_perform_28 : decode cX3_perform 28 = .ok (.if_icmp .ge 15, 3) := by decide +kernel
theorem dX3_perform_31 : decode cX3_perform 31 = .ok (.aload_n 0, 1) := by decide +kernel
theorem dX3_perform_32 : decode cX3_perform 32 = .ok (.iload 4, 2) := by decide +kernel
theorem dX3_perform_34 : decode cX3_perform 34 = .ok (.invokevirtual 102, 3) := by decide +kernel
theorem dX3_perform_37 : decode cX3_perform 37 = .ok (.iinc 4 1, 3) := by decide +kernel
theorem dX3_perform_40 : decode cX3_perform 40 = .ok (.goto (-16), 3) := by decide +kernel
theorem dX3_perform_43 : decode cX3_perform 43 = .ok (.goto 10, 3) := by decide +kernel
theorem dX3_perform_46 : decode cX3_perform 46 = .ok (.aload_n 0, 1) := by decide +kernel
theorem dX3_perform_47 : decode cX3_perform 47 = .ok (.iload_n 2, 1) := by decide +kernel
theorem dX3_perform_48 : decode cX3_perform 48 = .ok (.iload_n 3, 1) := by decide +kernel
theorem dX3_perform_49 : decode cX3_perform 49 = .ok (.invokevirtual 94, 3) := by decide +kernel
theorem dX3_perform_52 : decode cX3_perform 52 = .ok (.pop, 1) := by decide +kernel
theorem dX3_perform_53 : decode cX3_perform 53 = .ok (.return_, 1) := by decide +kernel
theorem dX3_use_0 : decode cX3_use 0 = .ok (.iload_n 1, 1) := by decide +kernel
theorem dX3_use_1 : decode cX3_use 1 = .ok (.bipush 8, 2) := by decide +kernel
theorem dX3_use_3 : decode cX3_use 3 = .ok (.idiv, 1) := by decide +kernel
theorem dX3_use_4 : decode cX3_use 4 = .ok (.istore_n 3, 1) := by decide +kernel
theorem dX3_use_5 : decode cX3_use 5 = .ok (.aload_n 0, 1) := by decide +kernel
theorem dX3_use_6 : decode cX3_use 6 = .ok (.getfield 25, 3) := by decide +kernel
theorem dX3_use_9 : decode cX3_use 9 = .ok (.iload_n 3, 1) := by decide +kernel
theorem dX3_use_10 : decode cX3_use 10 = .ok (.iaload, 1) := by decide +kernel
theorem dX3_use_11 : decode cX3_use 11 = .ok (.ifCond .le 7, 3) := by decide +kernel
theorem dX3_use_14 : decode cX3_use 14 = .ok (.iconst 1, 1) := by decide +kernel
theorem dX3_use_15 : decode cX3_use 15 = .ok (.goto 4, 3) := by decide +kernel
theorem dX3_use_18 : decode cX3_use 18 = .ok (.iconst 0, 1) := by decide +kernel
theorem dX3_use_19 : decode cX3_use 19 = .ok (.istore 4, 2) := by decide +kernel
theorem dX3_use_21 : decode cX3_use 21 = .ok (.iload 4, 2) := by decide +kernel
theorem dX3_use_23 : decode cX3_use 23 = .ok (.ifCond .eq 16, 3) := by decide +kernel
theorem dX3_use_26 : decode cX3_use 26 = .ok (.aload_n 0, 1) := by decide +kernel
theorem dX3_use_27 : decode cX3_use 27 = .ok (.dup, 1) := by decide +kernel
theorem dX3_use_28 : decode cX3_use 28 = .ok (.getfield 76, 3) := by decide +kernel
theorem dX3_use_31 : decode cX3_use 31 = .ok (.iconst 1, 1) := by decide +kernel
theorem dX3_use_32 : decode cX3_use 32 = .ok (.iadd, 1) := by decide +kernel
theorem dX3_use_33 : decode cX3_use 33 = .ok (.putfield 76, 3) := by decide +kernel
theorem dX3_use_36 : decode cX3_use 36 = .ok (.goto 34, 3) := by decide +kernel
theorem dX3_use_39 : decode cX3_use 39 = .ok (.aload_n 0, 1) := by decide +kernel
theorem dX3_use_40 : decode cX3_use 40 = .ok (.getfield 31, 3) := by decide +kernel
theorem dX3_use_43 : decode cX3_use 43 = .ok (.iload_n 3, 1) := by decide +kernel
theorem dX3_use_44 : decode cX3_use 44 = .ok (.aload_n 0, 1) := by decide +kernel
theorem dX3_use_45 : decode cX3_use 45 = .ok (.getfield 40, 3) := by decide +kernel
theorem dX3_use_48 : decode cX3_use 48 = .ok (.ifCond .eq 8, 3) := by decide +kernel
theorem dX3_use_51 : decode cX3_use 51 = .ok (.bipush 7, 2) := by decide +kernel
theorem dX3_use_53 : decode cX3_use 53 = .ok (.goto 11, 3) := by decide +kernel
theorem dX3_use_56 : decode cX3_use 56 = .ok (.aload_n 0, 1) := by decide +kernel
theorem dX3_use_57 : decode cX3_use 57 = .ok (.getfield 22, 3) := by decide +kernel
theorem dX3_use_60 : decode cX3_use 60 = .ok (.iload_n 3, 1) := by decide +kernel
theorem dX3_use_61 : decode cX3_use 61 = .ok (.invokestatic 105, 3) := by decide +kernel
theorem dX3_use_64 : decode cX3_use 64 = .ok (.iastore, 1) := by decide +kernel
theorem dX3_use_65 : decode cX3_use 65 = .ok (.aload_n 0, 1) := by decide +kernel
theorem dX3_use_66 : decode cX3_use 66 = .ok (.iload_n 3, 1) := by decide +kernel
theorem dX3_use_67 : decode cX3_use 67 = .ok (.invokevirtual 111, 3) := by decide +kernel
theorem dX3_use_70 : decode cX3_use 70 = .ok (.aload_n 0, 1) := by decide +kernel
theorem dX3_use_71 : decode cX3_use 71 = .ok (.getfield 25, 3) := by decide +kernel
theorem dX3_use_74 : decode cX3_use 74 = .ok (.iload_n 3, 1) := by decide +kernel
theorem dX3_use_75 : decode cX3_use 75 = .ok (.dup2, 1) := by decide +kernel
theorem dX3_use_76 : decode cX3_use 76 = .ok (.iaload, 1) := by decide +kernel
theorem dX3_use_77 : decode cX3_use 77 = .ok (.iconst 1, 1) := by decide +kernel
theorem dX3_use_78 : decode cX3_use 78 = .ok (.iadd, 1) := by decide +kernel
theorem dX3_use_79 : decode cX3_use 79 = .ok (.iastore, 1) := by decide +kernel
theorem dX3_use_80 : decode cX3_use 80 = .ok (.aload_n 0, 1) := by decide +kernel
theorem dX3_use_81 : decode cX3_use 81 = .ok (.dup, 1) := by decide +kernel
theorem dX3_use_82 : decode cX3_use 82 = .ok (.getfield 70, 3) := by decide +kernel
theorem dX3_use_85 : decode cX3_use 85 = .ok (.iconst 1, 1) := by decide +kernel
theorem dX3_use_86 : decode cX3_use 86 = .ok (.iadd, 1) := by decide +kernel
theorem dX3_use_87 : decode cX3_use 87 = .ok (.putfield 70, 3) := by decide +kernel
theorem dX3_use_90 : decode cX3_use 90 = .ok (.aload_n 0, 1) := by decide +kernel
theorem dX3_use_91 : decode cX3_use 91 = .ok (.getfield 28, 3) := by decide +kernel
theorem dX3_use_94 : decode cX3_use 94 = .ok (.iload_n 3, 1) := by decide +kernel
theorem dX3_use_95 : decode cX3_use 95 = .ok (.aload_n 0, 1) := by decide +kernel
theorem dX3_use_96 : decode cX3_use 96 = .ok (.getfield 70, 3) := by decide +kernel
theorem dX3_use_99 : decode cX3_use 99 = .ok (.iastore, 1) := by decide +kernel
theorem dX3_use_100 : decode cX3_use 100 = .ok (.iload_n 2, 1) := by decide +kernel
theorem dX3_use_101 : decode cX3_use 101 = .ok (.ifCond .lt 48, 3) := by decide +kernel
theorem dX3_use_104 : decode cX3_use 104 = .ok (.aload_n 0, 1) := by decide +kernel
theorem dX3_use_105 : decode cX3_use 105 = .ok (.getfield 22, 3) := by decide +kernel
theorem dX3_use_108 : decode cX3_use 108 = .ok (.iload_n 1, 1) := by decide +kernel
theorem dX3_use_109 : decode cX3_use 109 = .ok (.iload_n 2, 1) := by decide +kernel
theorem dX3_use_110 : decode cX3_use 110 = .ok (.iastore, 1) := by decide +kernel
theorem dX3_use_111 : decode cX3_use 111 = .ok (.aload_n 0, 1) := by decide +kernel
theorem dX3_use_112 : decode cX3_use 112 = .ok (.getfield 34, 3) := by decide +kernel
theorem dX3_use_115 : decode cX3_use 115 = .ok (.iload_n 3, 1) := by decide +kernel
theorem dX3_use_116 : decode cX3_use 116 = .ok (.iconst 1, 1) := by decide +kernel
theorem dX3_use_117 : decode cX3_use 117 = .ok (.iastore, 1) := by decide +kernel
theorem dX3_use_118 : decode cX3_use 118 = .ok (.aload_n 0, 1) := by decide +kernel
theorem dX3_use_119 : decode cX3_use 119 = .ok (.getfield 31, 3) := by decide +kernel
theorem dX3_use_122 : decode cX3_use 122 = .ok (.iload_n 3, 1) := by decide +kernel
theorem dX3_use_123 : decode cX3_use 123 = .ok (.aload_n 0, 1) := by decide +kernel
theorem dX3_use_124 : decode cX3_use 124 = .ok (.getfield 40, 3) := by decide +kernel
theorem dX3_use_127 : decode cX3_use 127 = .ok (.ifCond .eq 8, 3) := by decide +kernel
theorem dX3_use_130 : decode cX3_use 130 = .ok (.bipush 7, 2) := by decide +kernel
theorem dX3_use_132 : decode cX3_use 132 = .ok (.goto 11, 3) := by decide +kernel
theorem dX3_use_135 : decode cX3_use 135 = .ok (.aload_n 0, 1) := by decide +kernel
theorem dX3_use_136 : decode cX3_use 136 = .ok (.getfield 22, 3) := by decide +kernel
theorem dX3_use_139 : decode cX3_use 139 = .ok (.iload_n 3, 1) := by decide +kernel
theorem dX3_use_140 : decode cX3_use 140 = .ok (.invokestatic 105, 3) := by decide +kernel
theorem dX3_use_143 : decode cX3_use 143 = .ok (.iastore, 1) := by decide +kernel
theorem dX3_use_144 : decode cX3_use 144 = .ok (.aload_n 0, 1) := by decide +kernel
theorem dX3_use_145 : decode cX3_use 145 = .ok (.iload_n 3, 1) := by decide +kernel
theorem dX3_use_146 : decode cX3_use 146 = .ok (.invokevirtual 111, 3) := by decide +kernel
theorem dX3_use_149 : decode cX3_use 149 = .ok (.iload 4, 2) := by decide +kernel
theorem dX3_use_151 : decode cX3_use 151 = .ok (.ireturn, 1) := by decide +kernel
theorem dX3_makeRoomFor_0 : decode cX3_makeRoomFor 0 = .ok (.aload_n 0, 1) := by decide +kernel
theorem dX3_makeRoomFor_1 : decode cX3_makeRoomFor 1 = .ok (.iload_n 1, 1) := by decide +kernel
theorem dX3_makeRoomFor_2 : decode cX3_makeRoomFor 2 = .ok (.invokevirtual 114, 3) := by decide +kernel
theorem dX3_makeRoomFor_5 : decode cX3_makeRoomFor 5 = .ok (.istore_n 2, 1) := by decide +kernel
theorem dX3_makeRoomFor_6 : decode cX3_makeRoomFor 6 = .ok (.aload_n 0, 1) := by decide +kernel
theorem dX3_makeRoomFor_7 : decode cX3_makeRoomFor 7 = .ok (.getfield 40, 3) := by decide +kernel
theorem dX3_makeRoomFor_10 : decode cX3_makeRoomFor 10 = .ok (.ifCond .eq 10, 3) := by decide +kernel
theorem dX3_makeRoomFor_13 : decode cX3_makeRoomFor 13 = .ok (.aload_n 0, 1) := by decide +kernel
theorem dX3_makeRoomFor_14 : decode cX3_makeRoomFor 14 = .ok (.getfield 15, 3) := by decide +kernel
theorem dX3_makeRoomFor_17 : decode cX3_makeRoomFor 17 = .ok (.goto 9, 3) := by decide +kernel
theorem dX3_makeRoomFor_20 : decode cX3_makeRoomFor 20 = .ok (.iconst 2, 1) := by decide +kernel
theorem dX3_makeRoomFor_21 : decode cX3_makeRoomFor 21 = .ok (.aload_n 0, 1) := by decide +kernel
theorem dX3_makeRoomFor_22 : decode cX3_makeRoomFor 22 = .ok (.getfield 15, 3) := by decide +kernel
theorem dX3_makeRoomFor_25 : decode cX3_makeRoomFor 25 = .ok (.imul, 1) := by decide +kernel
theorem dX3_makeRoomFor_26 : decode cX3_makeRoomFor 26 = .ok (.istore_n 3, 1) := by decide +kernel
theorem dX3_makeRoomFor_27 : decode cX3_makeRoomFor 27 = .ok (.aload_n 0, 1) := by decide +kernel
theorem dX3_makeRoomFor_28 : decode cX3_makeRoomFor 28 = .ok (.invokevirtual 118, 3) := by decide +kernel
theorem dX3_makeRoomFor_31 : decode cX3_makeRoomFor 31 = .ok (.getstatic 122, 3) := by decide +kernel
theorem dX3_makeRoomFor_34 : decode cX3_makeRoomFor 34 = .ok (.aload_n 0, 1) := by decide +kernel
theorem dX3_makeRoomFor_35 : decode cX3_makeRoomFor 35 = .ok (.getfield 31, 3) := by decide +kernel
theorem dX3_makeRoomFor_38 : decode cX3_makeRoomFor 38 = .ok (.iload_n 1, 1) := by decide +kernel
theorem dX3_makeRoomFor_39 : decode cX3_makeRoomFor 39 = .ok (.iaload, 1) := by decide +kernel
theorem dX3_makeRoomFor_40 : decode cX3_makeRoomFor 40 = .ok (.iaload, 1) := by decide +kernel
theorem dX3_makeRoomFor_41 : decode cX3_makeRoomFor 41 = .ok (.isub, 1) := by decide +kernel
theorem dX3_makeRoomFor_42 : decode cX3_makeRoomFor 42 = .ok (.istore 4, 2) := by decide +kernel
theorem dX3_makeRoomFor_44 : decode cX3_makeRoomFor 44 = .ok (.iconst 0, 1) := by decide +kernel
theorem dX3_makeRoomFor_45 : decode cX3_makeRoomFor 45 = .ok (.istore 5, 2) := by decide +kernel
theorem dX3_makeRoomFor_47 : decode cX3_makeRoomFor 47 = .ok (.iload 5, 2) := by decide +kernel
theorem dX3_makeRoomFor_49 : decode cX3_makeRoomFor 49 = .ok (.bipush 32, 2) := by decide +kernel
theorem dX3_makeRoomFor_51 : decode cX3_makeRoomFor 51 = .ok (.if_icmp .ge 61, 3) := by decide +kernel
theorem dX3_makeRoomFor_54 : decode cX3_makeRoomFor 54 = .ok (.aload_n 0, 1) := by decide +kernel
theorem dX3_makeRoomFor_55 : decode cX3_makeRoomFor 55 = .ok (.iload_n 2, 1) := by decide +kernel
theorem dX3_makeRoomFor_56 : decode cX3_makeRoomFor 56 = .ok (.iload_n 1, 1) := by decide +kernel
theorem dX3_makeRoomFor_57 : decode cX3_makeRoomFor 57 = .ok (.invokevirtual 125, 3) := by decide +kernel
theorem dX3_makeRoomFor_60 : decode cX3_makeRoomFor 60 = .ok (.iload_n 3, 1) := by decide +kernel
theorem dX3_makeRoomFor_61 : decode cX3_makeRoomFor 61 = .ok (.if_icmp .ge 15, 3) := by decide +kernel
theorem dX3_makeRoomFor_64 : decode cX3_makeRoomFor 64 = .ok (.aload_n 0, 1) := by decide +kernel
theorem dX3_makeRoomFor_65 : decode cX3_makeRoomFor 65 = .ok (.iload_n 2, 1) := by decide +kernel
theorem dX3_makeRoomFor_66 : decode cX3_makeRoomFor 66 = .ok (.iload_n 1, 1) := by decide +kernel
theorem dX3_makeRoomFor_67 : decode cX3_makeRoomFor 67 = .ok (.invokevirtual 129, 3) := by decide +kernel
theorem dX3_makeRoomFor_70 : decode cX3_makeRoomFor 70 = .ok (.iload 4, 2) := by decide +kernel
theorem dX3_makeRoomFor_72 : decode cX3_makeRoomFor 72 = .ok (.if_icmp .gt 4, 3) := by decide +kernel
theorem dX3_makeRoomFor_75 : decode cX3_makeRoomFor 75 = .ok (.return_, 1) := by decide +kernel
theorem dX3_makeRoomFor_76 : decode cX3_makeRoomFor 76 = .ok (.aload_n 0, 1) := by decide +kernel
theorem dX3_makeRoomFor_77 : decode cX3_makeRoomFor 77 = .ok (.iload_n 2, 1) := by decide +kernel
theorem dX3_makeRoomFor_78 : decode cX3_makeRoomFor 78 = .ok (.iload_n 1, 1) := by decide +kernel
theorem dX3_makeRoomFor_79 : decode cX3_makeRoomFor 79 = .ok (.invokevirtual 132, 3) := by decide +kernel
theorem dX3_makeRoomFor_82 : decode cX3_makeRoomFor 82 = .ok (.istore 6, 2) := by decide +kernel
theorem dX3_makeRoomFor_84 : decode cX3_makeRoomFor 84 = .ok (.iload 6, 2) := by decide +kernel
theorem dX3_makeRoomFor_86 : decode cX3_makeRoomFor 86 = .ok (.ifCond .ge 4, 3) := by decide +kernel
theorem dX3_makeRoomFor_89 : decode cX3_makeRoomFor 89 = .ok (.return_, 1) := by decide +kernel
theorem dX3_makeRoomFor_90 : decode cX3_makeRoomFor 90 = .ok (.aload_n 0, 1) := by decide +kernel
theorem dX3_makeRoomFor_91 : decode cX3_makeRoomFor 91 = .ok (.dup, 1) := by decide +kernel
theorem dX3_makeRoomFor_92 : decode cX3_makeRoomFor 92 = .ok (.getfield 79, 3) := by decide +kernel
theorem dX3_makeRoomFor_95 : decode cX3_makeRoomFor 95 = .ok (.iconst 1, 1) := by decide +kernel
theorem dX3_makeRoomFor_96 : decode cX3_makeRoomFor 96 = .ok (.iadd, 1) := by decide +kernel
theorem dX3_makeRoomFor_97 : decode cX3_makeRoomFor 97 = .ok (.putfield 79, 3) := by decide +kernel
theorem dX3_makeRoomFor_100 : decode cX3_makeRoomFor 100 = .ok (.aload_n 0, 1) := by decide +kernel
theorem dX3_makeRoomFor_101 : decode cX3_makeRoomFor 101 = .ok (.iload 6, 2) := by decide +kernel
theorem dX3_makeRoomFor_103 : decode cX3_makeRoomFor 103 = .ok (.invokevirtual 98, 3) := by decide +kernel
theorem dX3_makeRoomFor_106 : decode cX3_makeRoomFor 106 = .ok (.iinc 5 1, 3) := by decide +kernel
theorem dX3_makeRoomFor_109 : decode cX3_makeRoomFor 109 = .ok (.goto (-62), 3) := by decide +kernel
theorem dX3_makeRoomFor_112 : decode cX3_makeRoomFor 112 = .ok (.return_, 1) := by decide +kernel
theorem dX3_forgetLine_0 : decode cX3_forgetLine 0 = .ok (.aload_n 0, 1) := by decide +kernel
theorem dX3_forgetLine_1 : decode cX3_forgetLine 1 = .ok (.iload_n 1, 1) := by decide +kernel
theorem dX3_forgetLine_2 : decode cX3_forgetLine 2 = .ok (.invokevirtual 102, 3) := by decide +kernel
theorem dX3_forgetLine_5 : decode cX3_forgetLine 5 = .ok (.aload_n 0, 1) := by decide +kernel
theorem dX3_forgetLine_6 : decode cX3_forgetLine 6 = .ok (.getfield 25, 3) := by decide +kernel
theorem dX3_forgetLine_9 : decode cX3_forgetLine 9 = .ok (.iload_n 1, 1) := by decide +kernel
theorem dX3_forgetLine_10 : decode cX3_forgetLine 10 = .ok (.iconst 0, 1) := by decide +kernel
theorem dX3_forgetLine_11 : decode cX3_forgetLine 11 = .ok (.iastore, 1) := by decide +kernel
theorem dX3_forgetLine_12 : decode cX3_forgetLine 12 = .ok (.return_, 1) := by decide +kernel
theorem dX3_writeBack_0 : decode cX3_writeBack 0 = .ok (.aload_n 0, 1) := by decide +kernel
theorem dX3_writeBack_1 : decode cX3_writeBack 1 = .ok (.getfield 34, 3) := by decide +kernel
theorem dX3_writeBack_4 : decode cX3_writeBack 4 = .ok (.iload_n 1, 1) := by decide +kernel
theorem dX3_writeBack_5 : decode cX3_writeBack 5 = .ok (.iaload, 1) := by decide +kernel
theorem dX3_writeBack_6 : decode cX3_writeBack 6 = .ok (.iconst 1, 1) := by decide +kernel
theorem dX3_writeBack_7 : decode cX3_writeBack 7 = .ok (.if_icmp .ne 41, 3) := by decide +kernel
theorem dX3_writeBack_10 : decode cX3_writeBack 10 = .ok (.aload_n 0, 1) := by decide +kernel
theorem dX3_writeBack_11 : decode cX3_writeBack 11 = .ok (.getfield 22, 3) := by decide +kernel
theorem dX3_writeBack_14 : decode cX3_writeBack 14 = .ok (.iload_n 1, 1) := by decide +kernel
theorem dX3_writeBack_15 : decode cX3_writeBack 15 = .ok (.bipush 8, 2) := by decide +kernel
theorem dX3_writeBack_17 : decode cX3_writeBack 17 = .ok (.imul, 1) := by decide +kernel
theorem dX3_writeBack_18 : decode cX3_writeBack 18 = .ok (.aload_n 0, 1) := by decide +kernel
theorem dX3_writeBack_19 : decode cX3_writeBack 19 = .ok (.getfield 18, 3) := by decide +kernel
theorem dX3_writeBack_22 : decode cX3_writeBack 22 = .ok (.iload_n 1, 1) := by decide +kernel
theorem dX3_writeBack_23 : decode cX3_writeBack 23 = .ok (.bipush 8, 2) := by decide +kernel
theorem dX3_writeBack_25 : decode cX3_writeBack 25 = .ok (.imul, 1) := by decide +kernel
theorem dX3_writeBack_26 : decode cX3_writeBack 26 = .ok (.bipush 8, 2) := by decide +kernel
theorem dX3_writeBack_28 : decode cX3_writeBack 28 = .ok (.invokestatic 49, 3) := by decide +kernel
theorem dX3_writeBack_31 : decode cX3_writeBack 31 = .ok (.aload_n 0, 1) := by decide +kernel
theorem dX3_writeBack_32 : decode cX3_writeBack 32 = .ok (.getfield 34, 3) := by decide +kernel
theorem dX3_writeBack_35 : decode cX3_writeBack 35 = .ok (.iload_n 1, 1) := by decide +kernel
theorem dX3_writeBack_36 : decode cX3_writeBack 36 = .ok (.iconst 0, 1) := by decide +kernel
theorem dX3_writeBack_37 : decode cX3_writeBack 37 = .ok (.iastore, 1) := by decide +kernel
theorem dX3_writeBack_38 : decode cX3_writeBack 38 = .ok (.aload_n 0, 1) := by decide +kernel
theorem dX3_writeBack_39 : decode cX3_writeBack 39 = .ok (.dup, 1) := by decide +kernel
theorem dX3_writeBack_40 : decode cX3_writeBack 40 = .ok (.getfield 82, 3) := by decide +kernel
theorem dX3_writeBack_43 : decode cX3_writeBack 43 = .ok (.iconst 1, 1) := by decide +kernel
theorem dX3_writeBack_44 : decode cX3_writeBack 44 = .ok (.iadd, 1) := by decide +kernel
theorem dX3_writeBack_45 : decode cX3_writeBack 45 = .ok (.putfield 82, 3) := by decide +kernel
theorem dX3_writeBack_48 : decode cX3_writeBack 48 = .ok (.return_, 1) := by decide +kernel
theorem dX3_segmentRoom_0 : decode cX3_segmentRoom 0 = .ok (.iconst 4, 1) := by decide +kernel
theorem dX3_segmentRoom_1 : decode cX3_segmentRoom 1 = .ok (.aload_n 0, 1) := by decide +kernel
theorem dX3_segmentRoom_2 : decode cX3_segmentRoom 2 = .ok (.getfield 15, 3) := by decide +kernel
theorem dX3_segmentRoom_5 : decode cX3_segmentRoom 5 = .ok (.imul, 1) := by decide +kernel
theorem dX3_segmentRoom_6 : decode cX3_segmentRoom 6 = .ok (.ireturn, 1) := by decide +kernel
theorem dX3_setOf_0 : decode cX3_setOf 0 = .ok (.aload_n 0, 1) := by decide +kernel
theorem dX3_setOf_1 : decode cX3_setOf 1 = .ok (.getfield 9, 3) := by decide +kernel
theorem dX3_setOf_4 : decode cX3_setOf 4 = .ok (.iconst 1, 1) := by decide +kernel
theorem dX3_setOf_5 : decode cX3_setOf 5 = .ok (.if_icmp .ge 7, 3) := by decide +kernel
theorem dX3_setOf_8 : decode cX3_setOf 8 = .ok (.iconst 0, 1) := by decide +kernel
theorem dX3_setOf_9 : decode cX3_setOf 9 = .ok (.goto 9, 3) := by decide +kernel
theorem dX3_setOf_12 : decode cX3_setOf 12 = .ok (.iload_n 1, 1) := by decide +kernel
theorem dX3_setOf_13 : decode cX3_setOf 13 = .ok (.aload_n 0, 1) := by decide +kernel
theorem dX3_setOf_14 : decode cX3_setOf 14 = .ok (.getfield 9, 3) := by decide +kernel
theorem dX3_setOf_17 : decode cX3_setOf 17 = .ok (.irem, 1) := by decide +kernel
theorem dX3_setOf_18 : decode cX3_setOf 18 = .ok (.ireturn, 1) := by decide +kernel
theorem dX3_tagsIn_0 : decode cX3_tagsIn 0 = .ok (.aload_n 0, 1) := by decide +kernel
theorem dX3_tagsIn_1 : decode cX3_tagsIn 1 = .ok (.getfield 9, 3) := by decide +kernel
theorem dX3_tagsIn_4 : decode cX3_tagsIn 4 = .ok (.iconst 1, 1) := by decide +kernel
theorem dX3_tagsIn_5 : decode cX3_tagsIn 5 = .ok (.invokestatic 135, 3) := by decide +kernel
theorem dX3_tagsIn_8 : decode cX3_tagsIn 8 = .ok (.istore_n 3, 1) := by decide +kernel
theorem dX3_tagsIn_9 : decode cX3_tagsIn 9 = .ok (.iconst 0, 1) := by decide +kernel
theorem dX3_tagsIn_10 : decode cX3_tagsIn 10 = .ok (.istore 4, 2) := by decide +kernel
theorem dX3_tagsIn_12 : decode cX3_tagsIn 12 = .ok (.iload_n 1, 1) := by decide +kernel
theorem dX3_tagsIn_13 : decode cX3_tagsIn 13 = .ok (.istore 5, 2) := by decide +kernel
theorem dX3_tagsIn_15 : decode cX3_tagsIn 15 = .ok (.iload 5, 2) := by decide +kernel
theorem dX3_tagsIn_17 : decode cX3_tagsIn 17 = .ok (.bipush 32, 2) := by decide +kernel
theorem dX3_tagsIn_19 : decode cX3_tagsIn 19 = .ok (.if_icmp .ge 31, 3) := by decide +kernel
theorem dX3_tagsIn_22 : decode cX3_tagsIn 22 = .ok (.aload_n 0, 1) := by decide +kernel
theorem dX3_tagsIn_23 : decode cX3_tagsIn 23 = .ok (.getfield 25, 3) := by decide +kernel
theorem dX3_tagsIn_26 : decode cX3_tagsIn 26 = .ok (.iload 5, 2) := by decide +kernel
theorem dX3_tagsIn_28 : decode cX3_tagsIn 28 = .ok (.iaload, 1) := by decide +kernel
theorem dX3_tagsIn_29 : decode cX3_tagsIn 29 = .ok (.ifCond .le 12, 3) := by decide +kernel
theorem dX3_tagsIn_32 : decode cX3_tagsIn 32 = .ok (.iload 5, 2) := by decide +kernel
theorem dX3_tagsIn_34 : decode cX3_tagsIn 34 = .ok (.iload_n 2, 1) := by decide +kernel
theorem dX3_tagsIn_35 : decode cX3_tagsIn 35 = .ok (.if_icmp .eq 6, 3) := by decide +kernel
theorem dX3_tagsIn_38 : decode cX3_tagsIn 38 = .ok (.iinc 4 1, 3) := by decide +kernel
theorem dX3_tagsIn_41 : decode cX3_tagsIn 41 = .ok (.iload 5, 2) := by decide +kernel
theorem dX3_tagsIn_43 : decode cX3_tagsIn 43 = .ok (.iload_n 3, 1) := by decide +kernel
theorem dX3_tagsIn_44 : decode cX3_tagsIn 44 = .ok (.iadd, 1) := by decide +kernel
theorem dX3_tagsIn_45 : decode cX3_tagsIn 45 = .ok (.istore 5, 2) := by decide +kernel
theorem dX3_tagsIn_47 : decode cX3_tagsIn 47 = .ok (.goto (-32), 3) := by decide +kernel
theorem dX3_tagsIn_50 : decode cX3_tagsIn 50 = .ok (.iload 4, 2) := by decide +kernel
theorem dX3_tagsIn_52 : decode cX3_tagsIn 52 = .ok (.ireturn, 1) := by decide +kernel
theorem dX3_segmentsIn_0 : decode cX3_segmentsIn 0 = .ok (.aload_n 0, 1) := by decide +kernel
theorem dX3_segmentsIn_1 : decode cX3_segmentsIn 1 = .ok (.getfield 9, 3) := by decide +kernel
theorem dX3_segmentsIn_4 : decode cX3_segmentsIn 4 = .ok (.iconst 1, 1) := by decide +kernel
theorem dX3_segmentsIn_5 : decode cX3_segmentsIn 5 = .ok (.invokestatic 135, 3) := by decide +kernel
theorem dX3_segmentsIn_8 : decode cX3_segmentsIn 8 = .ok (.istore_n 3, 1) := by decide +kernel
theorem dX3_segmentsIn_9 : decode cX3_segmentsIn 9 = .ok (.iconst 0, 1) := by decide +kernel
theorem dX3_segmentsIn_10 : decode cX3_segmentsIn 10 = .ok (.istore 4, 2) := by decide +kernel
theorem dX3_segmentsIn_12 : decode cX3_segmentsIn 12 = .ok (.iload_n 1, 1) := by decide +kernel
theorem dX3_segmentsIn_13 : decode cX3_segmentsIn 13 = .ok (.istore 5, 2) := by decide +kernel
theorem dX3_segmentsIn_15 : decode cX3_segmentsIn 15 = .ok (.iload 5, 2) := by decide +kernel
theorem dX3_segmentsIn_17 : decode cX3_segmentsIn 17 = .ok (.bipush 32, 2) := by decide +kernel
theorem dX3_segmentsIn_19 : decode cX3_segmentsIn 19 = .ok (.if_icmp .ge 44, 3) := by decide +kernel
theorem dX3_segmentsIn_22 : decode cX3_segmentsIn 22 = .ok (.aload_n 0, 1) := by decide +kernel
theorem dX3_segmentsIn_23 : decode cX3_segmentsIn 23 = .ok (.getfield 25, 3) := by decide +kernel
theorem dX3_segmentsIn_26 : decode cX3_segmentsIn 26 = .ok (.iload 5, 2) := by decide +kernel
theorem dX3_segmentsIn_28 : decode cX3_segmentsIn 28 = .ok (.iaload, 1) := by decide +kernel
theorem dX3_segmentsIn_29 : decode cX3_segmentsIn 29 = .ok (.ifCond .le 25, 3) := by decide +kernel
theorem dX3_segmentsIn_32 : decode cX3_segmentsIn 32 = .ok (.iload 5, 2) := by decide +kernel
theorem dX3_segmentsIn_34 : decode cX3_segmentsIn 34 = .ok (.iload_n 2, 1) := by decide +kernel
theorem dX3_segmentsIn_35 : decode cX3_segmentsIn 35 = .ok (.if_icmp .eq 19, 3) := by decide +kernel
theorem dX3_segmentsIn_38 : decode cX3_segmentsIn 38 = .ok (.iload 4, 2) := by decide +kernel
theorem dX3_segmentsIn_40 : decode cX3_segmentsIn 40 = .ok (.getstatic 122, 3) := by decide +kernel
theorem dX3_segmentsIn_43 : decode cX3_segmentsIn 43 = .ok (.aload_n 0, 1) := by decide +kernel
theorem dX3_segmentsIn_44 : decode cX3_segmentsIn 44 = .ok (.getfield 31, 3) := by decide +kernel
theorem dX3_segmentsIn_47 : decode cX3_segmentsIn 47 = .ok (.iload 5, 2) := by decide +kernel
theorem dX3_segmentsIn_49 : decode cX3_segmentsIn 49 = .ok (.iaload, 1) := by decide +kernel
theorem dX3_segmentsIn_50 : decode cX3_segmentsIn 50 = .ok (.iaload, 1) := by decide +kernel
theorem dX3_segmentsIn_51 : decode cX3_segmentsIn 51 = .ok (.iadd, 1) := by decide +kernel
theorem dX3_segmentsIn_52 : decode cX3_segmentsIn 52 = .ok (.istore 4, 2) := by decide +kernel
theorem dX3_segmentsIn_54 : decode cX3_segmentsIn 54 = .ok (.iload 5, 2) := by decide +kernel
theorem dX3_segmentsIn_56 : decode cX3_segmentsIn 56 = .ok (.iload_n 3, 1) := by decide +kernel
theorem dX3_segmentsIn_57 : decode cX3_segmentsIn 57 = .ok (.iadd, 1) := by decide +kernel
theorem dX3_segmentsIn_58 : decode cX3_segmentsIn 58 = .ok (.istore 5, 2) := by decide +kernel
theorem dX3_segmentsIn_60 : decode cX3_segmentsIn 60 = .ok (.goto (-45), 3) := by decide +kernel
theorem dX3_segmentsIn_63 : decode cX3_segmentsIn 63 = .ok (.iload 4, 2) := by decide +kernel
theorem dX3_segmentsIn_65 : decode cX3_segmentsIn 65 = .ok (.ireturn, 1) := by decide +kernel
theorem dX3_dirtyIn_0 : decode cX3_dirtyIn 0 = .ok (.aload_n 0, 1) := by decide +kernel
theorem dX3_dirtyIn_1 : decode cX3_dirtyIn 1 = .ok (.getfield 9, 3) := by decide +kernel
theorem dX3_dirtyIn_4 : decode cX3_dirtyIn 4 = .ok (.iconst 1, 1) := by decide +kernel
theorem dX3_dirtyIn_5 : decode cX3_dirtyIn 5 = .ok (.invokestatic 135, 3) := by decide +kernel
theorem dX3_dirtyIn_8 : decode cX3_dirtyIn 8 = .ok (.istore_n 2, 1) := by decide +kernel
theorem dX3_dirtyIn_9 : decode cX3_dirtyIn 9 = .ok (.iconst 0, 1) := by decide +kernel
theorem dX3_dirtyIn_10 : decode cX3_dirtyIn 10 = .ok (.istore_n 3, 1) := by decide +kernel
theorem dX3_dirtyIn_11 : decode cX3_dirtyIn 11 = .ok (.iload_n 1, 1) := by decide +kernel
theorem dX3_dirtyIn_12 : decode cX3_dirtyIn 12 = .ok (.istore 4, 2) := by decide +kernel
theorem dX3_dirtyIn_14 : decode cX3_dirtyIn 14 = .ok (.iload 4, 2) := by decide +kernel
theorem dX3_dirtyIn_16 : decode cX3_dirtyIn 16 = .ok (.bipush 32, 2) := by decide +kernel
theorem dX3_dirtyIn_18 : decode cX3_dirtyIn 18 = .ok (.if_icmp .ge 22, 3) := by decide +kernel
theorem dX3_dirtyIn_21 : decode cX3_dirtyIn 21 = .ok (.iload_n 3, 1) := by decide +kernel
theorem dX3_dirtyIn_22 : decode cX3_dirtyIn 22 = .ok (.aload_n 0, 1) := by decide +kernel
theorem dX3_dirtyIn_23 : decode cX3_dirtyIn 23 = .ok (.getfield 34, 3) := by decide +kernel
theorem dX3_dirtyIn_26 : decode cX3_dirtyIn 26 = .ok (.iload 4, 2) := by decide +kernel
theorem dX3_dirtyIn_28 : decode cX3_dirtyIn 28 = .ok (.iaload, 1) := by decide +kernel
theorem dX3_dirtyIn_29 : decode cX3_dirtyIn 29 = .ok (.iadd, 1) := by decide +kernel
theorem dX3_dirtyIn_30 : decode cX3_dirtyIn 30 = .ok (.istore_n 3, 1) := by decide +kernel
theorem dX3_dirtyIn_31 : decode cX3_dirtyIn 31 = .ok (.iload 4, 2) := by decide +kernel
theorem dX3_dirtyIn_33 : decode cX3_dirtyIn 33 = .ok (.iload_n 2, 1) := by decide +kernel
theorem dX3_dirtyIn_34 : decode cX3_dirtyIn 34 = .ok (.iadd, 1) := by decide +kernel
theorem dX3_dirtyIn_35 : decode cX3_dirtyIn 35 = .ok (.istore 4, 2) := by decide +kernel
theorem dX3_dirtyIn_37 : decode cX3_dirtyIn 37 = .ok (.goto (-23), 3) := by decide +kernel
theorem dX3_dirtyIn_40 : decode cX3_dirtyIn 40 = .ok (.iload_n 3, 1) := by decide +kernel
theorem dX3_dirtyIn_41 : decode cX3_dirtyIn 41 = .ok (.ireturn, 1) := by decide +kernel
theorem dX3_usedSince_0 : decode cX3_usedSince 0 = .ok (.aload_n 0, 1) := by decide +kernel
theorem dX3_usedSince_1 : decode cX3_usedSince 1 = .ok (.getfield 9, 3) := by decide +kernel
theorem dX3_usedSince_4 : decode cX3_usedSince 4 = .ok (.iconst 1, 1) := by decide +kernel
theorem dX3_usedSince_5 : decode cX3_usedSince 5 = .ok (.invokestatic 135, 3) := by decide +kernel
theorem dX3_usedSince_8 : decode cX3_usedSince 8 = .ok (.istore_n 2, 1) := by decide +kernel
theorem dX3_usedSince_9 : decode cX3_usedSince 9 = .ok (.iconst 0, 1) := by decide +kernel
theorem dX3_usedSince_10 : decode cX3_usedSince 10 = .ok (.istore_n 3, 1) := by decide +kernel
theorem dX3_usedSince_11 : decode cX3_usedSince 11 = .ok (.aload_n 0, 1) := by decide +kernel
theorem dX3_usedSince_12 : decode cX3_usedSince 12 = .ok (.iload_n 1, 1) := by decide +kernel
theorem dX3_usedSince_13 : decode cX3_usedSince 13 = .ok (.invokevirtual 114, 3) := by decide +kernel
theorem dX3_usedSince_16 : decode cX3_usedSince 16 = .ok (.istore 4, 2) := by decide +kernel
theorem dX3_usedSince_18 : decode cX3_usedSince 18 = .ok (.iload 4, 2) := by decide +kernel
theorem dX3_usedSince_20 : decode cX3_usedSince 20 = .ok (.bipush 32, 2) := by decide +kernel
theorem dX3_usedSince_22 : decode cX3_usedSince 22 = .ok (.if_icmp .ge 41, 3) := by decide +kernel
theorem dX3_usedSince_25 : decode cX3_usedSince 25 = .ok (.aload_n 0, 1) := by decide +kernel
theorem dX3_usedSince_26 : decode cX3_usedSince 26 = .ok (.getfield 25, 3) := by decide +kernel
theorem dX3_usedSince_29 : decode cX3_usedSince 29 = .ok (.iload 4, 2) := by decide +kernel
theorem dX3_usedSince_31 : decode cX3_usedSince 31 = .ok (.iaload, 1) := by decide +kernel
theorem dX3_usedSince_32 : decode cX3_usedSince 32 = .ok (.ifCond .le 22, 3) := by decide +kernel
theorem dX3_usedSince_35 : decode cX3_usedSince 35 = .ok (.aload_n 0, 1) := by decide +kernel
theorem dX3_usedSince_36 : decode cX3_usedSince 36 = .ok (.getfield 28, 3) := by decide +kernel
theorem dX3_usedSince_39 : decode cX3_usedSince 39 = .ok (.iload 4, 2) := by decide +kernel
theorem dX3_usedSince_41 : decode cX3_usedSince 41 = .ok (.iaload, 1) := by decide +kernel
theorem dX3_usedSince_42 : decode cX3_usedSince 42 = .ok (.aload_n 0, 1) := by decide +kernel
theorem dX3_usedSince_43 : decode cX3_usedSince 43 = .ok (.getfield 28, 3) := by decide +kernel
theorem dX3_usedSince_46 : decode cX3_usedSince 46 = .ok (.iload_n 1, 1) := by decide +kernel
theorem dX3_usedSince_47 : decode cX3_usedSince 47 = .ok (.iaload, 1) := by decide +kernel
theorem dX3_usedSince_48 : decode cX3_usedSince 48 = .ok (.if_icmp .le 6, 3) := by decide +kernel
theorem dX3_usedSince_51 : decode cX3_usedSince 51 = .ok (.iinc 3 1, 3) := by decide +kernel
theorem dX3_usedSince_54 : decode cX3_usedSince 54 = .ok (.iload 4, 2) := by decide +kernel
theorem dX3_usedSince_56 : decode cX3_usedSince 56 = .ok (.iload_n 2, 1) := by decide +kernel
theorem dX3_usedSince_57 : decode cX3_usedSince 57 = .ok (.iadd, 1) := by decide +kernel
theorem dX3_usedSince_58 : decode cX3_usedSince 58 = .ok (.istore 4, 2) := by decide +kernel
theorem dX3_usedSince_60 : decode cX3_usedSince 60 = .ok (.goto (-42), 3) := by decide +kernel
theorem dX3_usedSince_63 : decode cX3_usedSince 63 = .ok (.iload_n 3, 1) := by decide +kernel
theorem dX3_usedSince_64 : decode cX3_usedSince 64 = .ok (.ireturn, 1) := by decide +kernel
theorem dX3_nextVictim_0 : decode cX3_nextVictim 0 = .ok (.aload_n 0, 1) := by decide +kernel
theorem dX3_nextVictim_1 : decode cX3_nextVictim 1 = .ok (.getfield 9, 3) := by decide +kernel
theorem dX3_nextVictim_4 : decode cX3_nextVictim 4 = .ok (.iconst 1, 1) := by decide +kernel
theorem dX3_nextVictim_5 : decode cX3_nextVictim 5 = .ok (.invokestatic 135, 3) := by decide +kernel
theorem dX3_nextVictim_8 : decode cX3_nextVictim 8 = .ok (.istore_n 3, 1) := by decide +kernel
theorem dX3_nextVictim_9 : decode cX3_nextVictim 9 = .ok (.iconst (-1), 1) := by decide +kernel
theorem dX3_nextVictim_10 : decode cX3_nextVictim 10 = .ok (.istore 4, 2) := by decide +kernel
theorem dX3_nextVictim_12 : decode cX3_nextVictim 12 = .ok (.iload_n 1, 1) := by decide +kernel
theorem dX3_nextVictim_13 : decode cX3_nextVictim 13 = .ok (.istore 5, 2) := by decide +kernel
theorem dX3_nextVictim_15 : decode cX3_nextVictim 15 = .ok (.iload 5, 2) := by decide +kernel
theorem dX3_nextVictim_17 : decode cX3_nextVictim 17 = .ok (.bipush 32, 2) := by decide +kernel
theorem dX3_nextVictim_19 : decode cX3_nextVictim 19 = .ok (.if_icmp .ge 48, 3) := by decide +kernel
theorem dX3_nextVictim_22 : decode cX3_nextVictim 22 = .ok (.aload_n 0, 1) := by decide +kernel
theorem dX3_nextVictim_23 : decode cX3_nextVictim 23 = .ok (.getfield 25, 3) := by decide +kernel
theorem dX3_nextVictim_26 : decode cX3_nextVictim 26 = .ok (.iload 5, 2) := by decide +kernel
theorem dX3_nextVictim_28 : decode cX3_nextVictim 28 = .ok (.iaload, 1) := by decide +kernel
theorem dX3_nextVictim_29 : decode cX3_nextVictim 29 = .ok (.ifCond .le 29, 3) := by decide +kernel
theorem dX3_nextVictim_32 : decode cX3_nextVictim 32 = .ok (.iload 5, 2) := by decide +kernel
theorem dX3_nextVictim_34 : decode cX3_nextVictim 34 = .ok (.iload_n 2, 1) := by decide +kernel
theorem dX3_nextVictim_35 : decode cX3_nextVictim 35 = .ok (.if_icmp .eq 23, 3) := by decide +kernel
theorem dX3_nextVictim_38 : decode cX3_nextVictim 38 = .ok (.iload 4, 2) := by decide +kernel
theorem dX3_nextVictim_40 : decode cX3_nextVictim 40 = .ok (.ifCond .lt 14, 3) := by decide +kernel
theorem dX3_nextVictim_43 : decode cX3_nextVictim 43 = .ok (.aload_n 0, 1) := by decide +kernel
theorem dX3_nextVictim_44 : decode cX3_nextVictim 44 = .ok (.iload 5, 2) := by decide +kernel
theorem dX3_nextVictim_46 : decode cX3_nextVictim 46 = .ok (.iload 4, 2) := by decide +kernel
theorem dX3_nextVictim_48 : decode cX3_nextVictim 48 = .ok (.invokevirtual 140, 3) := by decide +kernel
theorem dX3_nextVictim_51 : decode cX3_nextVictim 51 = .ok (.ifCond .eq 7, 3) := by decide +kernel
theorem dX3_nextVictim_54 : decode cX3_nextVictim 54 = .ok (.iload 5, 2) := by decide +kernel
theorem dX3_nextVictim_56 : decode cX3_nextVictim 56 = .ok (.istore 4, 2) := by decide +kernel
theorem dX3_nextVictim_58 : decode cX3_nextVictim 58 = .ok (.iload 5, 2) := by decide +kernel
theorem dX3_nextVictim_60 : decode cX3_nextVictim 60 = .ok (.iload_n 3, 1) := by decide +kernel
theorem dX3_nextVictim_61 : decode cX3_nextVictim 61 = .ok (.iadd, 1) := by decide +kernel
theorem dX3_nextVictim_62 : decode cX3_nextVictim 62 = .ok (.istore 5, 2) := by decide +kernel
theorem dX3_nextVictim_64 : decode cX3_nextVictim 64 = .ok (.goto (-49), 3) := by decide +kernel
theorem dX3_nextVictim_67 : decode cX3_nextVictim 67 = .ok (.iload 4, 2) := by decide +kernel
theorem dX3_nextVictim_69 : decode cX3_nextVictim 69 = .ok (.ireturn, 1) := by decide +kernel
theorem dX3_goesAhead_0 : decode cX3_goesAhead 0 = .ok (.aload_n 0, 1) := by decide +kernel
theorem dX3_goesAhead_1 : decode cX3_goesAhead 1 = .ok (.getfield 47, 3) := by decide +kernel
theorem dX3_goesAhead_4 : decode cX3_goesAhead 4 = .ok (.ifCond .eq 58, 3) := by decide +kernel
theorem dX3_goesAhead_7 : decode cX3_goesAhead 7 = .ok (.aload_n 0, 1) := by decide +kernel
theorem dX3_goesAhead_8 : decode cX3_goesAhead 8 = .ok (.getfield 25, 3) := by decide +kernel
theorem dX3_goesAhead_11 : decode cX3_goesAhead 11 = .ok (.iload_n 1, 1) := by decide +kernel
theorem dX3_goesAhead_12 : decode cX3_goesAhead 12 = .ok (.iaload, 1) := by decide +kernel
theorem dX3_goesAhead_13 : decode cX3_goesAhead 13 = .ok (.getstatic 122, 3) := by decide +kernel
theorem dX3_goesAhead_16 : decode cX3_goesAhead 16 = .ok (.aload_n 0, 1) := by decide +kernel
theorem dX3_goesAhead_17 : decode cX3_goesAhead 17 = .ok (.getfield 31, 3) := by decide +kernel
theorem dX3_goesAhead_20 : decode cX3_goesAhead 20 = .ok (.iload_n 2, 1) := by decide +kernel
theorem dX3_goesAhead_21 : decode cX3_goesAhead 21 = .ok (.iaload, 1) := by decide +kernel
theorem dX3_goesAhead_22 : decode cX3_goesAhead 22 = .ok (.iaload, 1) := by decide +kernel
theorem dX3_goesAhead_23 : decode cX3_goesAhead 23 = .ok (.imul, 1) := by decide +kernel
theorem dX3_goesAhead_24 : decode cX3_goesAhead 24 = .ok (.istore_n 3, 1) := by decide +kernel
theorem dX3_goesAhead_25 : decode cX3_goesAhead 25 = .ok (.aload_n 0, 1) := by decide +kernel
theorem dX3_goesAhead_26 : decode cX3_goesAhead 26 = .ok (.getfield 25, 3) := by decide +kernel
theorem dX3_goesAhead_29 : decode cX3_goesAhead 29 = .ok (.iload_n 2, 1) := by decide +kernel
theorem dX3_goesAhead_30 : decode cX3_goesAhead 30 = .ok (.iaload, 1) := by decide +kernel
theorem dX3_goesAhead_31 : decode cX3_goesAhead 31 = .ok (.getstatic 122, 3) := by decide +kernel
theorem dX3_goesAhead_34 : decode cX3_goesAhead 34 = .ok (.aload_n 0, 1) := by decide +kernel
theorem dX3_goesAhead_35 : decode cX3_goesAhead 35 = .ok (.getfield 31, 3) := by decide +kernel
theorem dX3_goesAhead_38 : decode cX3_goesAhead 38 = .ok (.iload_n 1, 1) := by decide +kernel
theorem dX3_goesAhead_39 : decode cX3_goesAhead 39 = .ok (.iaload, 1) := by decide +kernel
theorem dX3_goesAhead_40 : decode cX3_goesAhead 40 = .ok (.iaload, 1) := by decide +kernel
theorem dX3_goesAhead_41 : decode cX3_goesAhead 41 = .ok (.imul, 1) := by decide +kernel
theorem dX3_goesAhead_42 : decode cX3_goesAhead 42 = .ok (.istore 4, 2) := by decide +kernel
theorem dX3_goesAhead_44 : decode cX3_goesAhead 44 = .ok (.iload_n 3, 1) := by decide +kernel
theorem dX3_goesAhead_45 : decode cX3_goesAhead 45 = .ok (.iload 4, 2) := by decide +kernel
theorem dX3_goesAhead_47 : decode cX3_goesAhead 47 = .ok (.if_icmp .eq 15, 3) := by decide +kernel
theorem dX3_goesAhead_50 : decode cX3_goesAhead 50 = .ok (.iload_n 3, 1) := by decide +kernel
theorem dX3_goesAhead_51 : decode cX3_goesAhead 51 = .ok (.iload 4, 2) := by decide +kernel
theorem dX3_goesAhead_53 : decode cX3_goesAhead 53 = .ok (.if_icmp .ge 7, 3) := by decide +kernel
theorem dX3_goesAhead_56 : decode cX3_goesAhead 56 = .ok (.iconst 1, 1) := by decide +kernel
theorem dX3_goesAhead_57 : decode cX3_goesAhead 57 = .ok (.goto 4, 3) := by decide +kernel
theorem dX3_goesAhead_60 : decode cX3_goesAhead 60 = .ok (.iconst 0, 1) := by decide +kernel
theorem dX3_goesAhead_61 : decode cX3_goesAhead 61 = .ok (.ireturn, 1) := by decide +kernel
theorem dX3_goesAhead_62 : decode cX3_goesAhead 62 = .ok (.aload_n 0, 1) := by decide +kernel
theorem dX3_goesAhead_63 : decode cX3_goesAhead 63 = .ok (.getfield 28, 3) := by decide +kernel
theorem dX3_goesAhead_66 : decode cX3_goesAhead 66 = .ok (.iload_n 1, 1) := by decide +kernel
theorem dX3_goesAhead_67 : decode cX3_goesAhead 67 = .ok (.iaload, 1) := by decide +kernel
theorem dX3_goesAhead_68 : decode cX3_goesAhead 68 = .ok (.aload_n 0, 1) := by decide +kernel
theorem dX3_goesAhead_69 : decode cX3_goesAhead 69 = .ok (.getfield 28, 3) := by decide +kernel
theorem dX3_goesAhead_72 : decode cX3_goesAhead 72 = .ok (.iload_n 2, 1) := by decide +kernel
theorem dX3_goesAhead_73 : decode cX3_goesAhead 73 = .ok (.iaload, 1) := by decide +kernel
theorem dX3_goesAhead_74 : decode cX3_goesAhead 74 = .ok (.if_icmp .ge 7, 3) := by decide +kernel
theorem dX3_goesAhead_77 : decode cX3_goesAhead 77 = .ok (.iconst 1, 1) := by decide +kernel
theorem dX3_goesAhead_78 : decode cX3_goesAhead 78 = .ok (.goto 4, 3) := by decide +kernel
theorem dX3_goesAhead_81 : decode cX3_goesAhead 81 = .ok (.iconst 0, 1) := by decide +kernel
theorem dX3_goesAhead_82 : decode cX3_goesAhead 82 = .ok (.ireturn, 1) := by decide +kernel
theorem dX4_init_0 : decode cX4_init 0 = .ok (.aload_n 0, 1) := by decide +kernel
theorem dX4_init_1 : decode cX4_init 1 = .ok (.invokespecial 3, 3) := by decide +kernel
theorem dX4_init_4 : decode cX4_init 4 = .ok (.return_, 1) := by decide +kernel
theorem dX4_tellAll_0 : decode cX4_tellAll 0 = .ok (.aload_n 0, 1) := by decide +kernel
theorem dX4_tellAll_1 : decode cX4_tellAll 1 = .ok (.aload_n 1, 1) := by decide +kernel
theorem dX4_tellAll_2 : decode cX4_tellAll 2 = .ok (.putfield 9, 3) := by decide +kernel
theorem dX4_tellAll_5 : decode cX4_tellAll 5 = .ok (.aload_n 0, 1) := by decide +kernel
theorem dX4_tellAll_6 : decode cX4_tellAll 6 = .ok (.iload_n 2, 1) := by decide +kernel
theorem dX4_tellAll_7 : decode cX4_tellAll 7 = .ok (.aload_n 1, 1) := by decide +kernel
theorem dX4_tellAll_8 : decode cX4_tellAll 8 = .ok (.arraylength, 1) := by decide +kernel
theorem dX4_tellAll_9 : decode cX4_tellAll 9 = .ok (.invokestatic 15, 3) := by decide +kernel
theorem dX4_tellAll_12 : decode cX4_tellAll 12 = .ok (.putfield 21, 3) := by decide +kernel
theorem dX4_tellAll_15 : decode cX4_tellAll 15 = .ok (.aload_n 0, 1) := by decide +kernel
theorem dX4_tellAll_16 : decode cX4_tellAll 16 = .ok (.iconst 0, 1) := by decide +kernel
theorem dX4_tellAll_17 : decode cX4_tellAll 17 = .ok (.putfield 25, 3) := by decide +kernel
theorem dX4_tellAll_20 : decode cX4_tellAll 20 = .ok (.aload_n 0, 1) := by decide +kernel
theorem dX4_tellAll_21 : decode cX4_tellAll 21 = .ok (.aload_n 3, 1) := by decide +kernel
theorem dX4_tellAll_22 : decode cX4_tellAll 22 = .ok (.putfield 28, 3) := by decide +kernel
theorem dX4_tellAll_25 : decode cX4_tellAll 25 = .ok (.aload_n 0, 1) := by decide +kernel
theorem dX4_tellAll_26 : decode cX4_tellAll 26 = .ok (.getfield 28, 3) := by decide +kernel
theorem dX4_tellAll_29 : decode cX4_tellAll 29 = .ok (.invokevirtual 32, 3) := by decide +kernel
theorem dX4_tellAll_32 : decode cX4_tellAll 32 = .ok (.aload_n 0, 1) := by decide +kernel
theorem dX4_tellAll_33 : decode cX4_tellAll 33 = .ok (.iconst 0, 1) := by decide +kernel
theorem dX4_tellAll_34 : decode cX4_tellAll 34 = .ok (.putfield 37, 3) := by decide +kernel
theorem dX4_tellAll_37 : decode cX4_tellAll 37 = .ok (.iconst 0, 1) := by decide +kernel
theorem dX4_tellAll_38 : decode cX4_tellAll 38 = .ok (.istore 4, 2) := by decide +kernel
theorem dX4_tellAll_40 : decode cX4_tellAll 40 = .ok (.iload 4, 2) := by decide +kernel
theorem dX4_tellAll_42 : decode cX4_tellAll 42 = .ok (.aload_n 0, 1) := by decide +kernel
theorem dX4_tellAll_43 : decode cX4_tellAll 43 = .ok (.getfield 21, 3) := by decide +kernel
theorem dX4_tellAll_46 : decode cX4_tellAll 46 = .ok (.if_icmp .gt 49, 3) := by decide +kernel
theorem dX4_tellAll_49 : decode cX4_tellAll 49 = .ok (.aload_n 0, 1) := by decide +kernel
theorem dX4_tellAll_50 : decode cX4_tellAll 50 = .ok (.invokevirtual 40, 3) := by decide +kernel
theorem dX4_tellAll_53 : decode cX4_tellAll 53 = .ok (.aload_n 0, 1) := by decide +kernel
theorem dX4_tellAll_54 : decode cX4_tellAll 54 = .ok (.invokevirtual 43, 3) := by decide +kernel
theorem dX4_tellAll_57 : decode cX4_tellAll 57 = .ok (.ifCond .ne 5, 3) := by decide +kernel
theorem dX4_tellAll_60 : decode cX4_tellAll 60 = .ok (.iconst 0, 1) := by decide +kernel
theorem dX4_tellAll_61 : decode cX4_tellAll 61 = .ok (.ireturn, 1) := by decide +kernel
theorem dX4_tellAll_62 : decode cX4_tellAll 62 = .ok (.aload_n 0, 1) := by decide +kernel
theorem dX4_tellAll_63 : decode cX4_tellAll 63 = .ok (.invokevirtual 40, 3) := by decide +kernel
theorem dX4_tellAll_66 : decode cX4_tellAll 66 = .ok (.aload_n 0, 1) := by decide +kernel
theorem dX4_tellAll_67 : decode cX4_tellAll 67 = .ok (.getfield 47, 3) := by decide +kernel
theorem dX4_tellAll_70 : decode cX4_tellAll 70 = .ok (.ifCond .ne 5, 3) := by decide +kernel
theorem dX4_tellAll_73 : decode cX4_tellAll 73 = .ok (.iconst 1, 1) := by decide +kernel
theorem dX4_tellAll_74 : decode cX4_tellAll 74 = .ok (.ireturn, 1) := by decide +kernel
theorem dX4_tellAll_75 : decode cX4_tellAll 75 = .ok (.aload_n 0, 1) := by decide +kernel
theorem dX4_tellAll_76 : decode cX4_tellAll 76 = .ok (.getfield 47, 3) := by decide +kernel
theorem dX4_tellAll_79 : decode cX4_tellAll 79 = .ok (.iconst 3, 1) := by decide +kernel
theorem dX4_tellAll_80 : decode cX4_tellAll 80 = .ok (.if_icmp .eq 9, 3) := by decide +kernel
theorem dX4_tellAll_83 : decode cX4_tellAll 83 = .ok (.aload_n 0, 1) := by decide +kernel
theorem dX4_tellAll_84 : decode cX4_tellAll 84 = .ok (.iconst 1, 1) := by decide +kernel
theorem dX4_tellAll_85 : decode cX4_tellAll 85 = .ok (.invokevirtual 50, 3) := by decide +kernel
theorem dX4_tellAll_88 : decode cX4_tellAll 88 = .ok (.ireturn, 1) := by decide +kernel
theorem dX4_tellAll_89 : decode cX4_tellAll 89 = .ok (.iinc 4 1, 3) := by decide +kernel
theorem dX4_tellAll_92 : decode cX4_tellAll 92 = .ok (.goto (-52), 3) := by decide +kernel
theorem dX4_tellAll_95 : decode cX4_tellAll 95 = .ok (.aload_n 0, 1) := by decide +kernel
theorem dX4_tellAll_96 : decode cX4_tellAll 96 = .ok (.iconst 1, 1) := by decide +kernel
theorem dX4_tellAll_97 : decode cX4_tellAll 97 = .ok (.invokevirtual 50, 3) := by decide +kernel
theorem dX4_tellAll_100 : decode cX4_tellAll 100 = .ok (.ireturn, 1) := by decide +kernel
theorem dX4_fail_0 : decode cX4_fail 0 = .ok (.aload_n 0, 1) := by decide +kernel
theorem dX4_fail_1 : decode cX4_fail 1 = .ok (.iload_n 1, 1) := by decide +kernel
theorem dX4_fail_2 : decode cX4_fail 2 = .ok (.putfield 37, 3) := by decide +kernel
theorem dX4_fail_5 : decode cX4_fail 5 = .ok (.aload_n 0, 1) := by decide +kernel
theorem dX4_fail_6 : decode cX4_fail 6 = .ok (.aload_n 0, 1) := by decide +kernel
theorem dX4_fail_7 : decode cX4_fail 7 = .ok (.getfield 54, 3) := by decide +kernel
theorem dX4_fail_10 : decode cX4_fail 10 = .ok (.putfield 57, 3) := by decide +kernel
theorem dX4_fail_13 : decode cX4_fail 13 = .ok (.iconst 0, 1) := by decide +kernel
theorem dX4_fail_14 : decode cX4_fail 14 = .ok (.ireturn, 1) := by decide +kernel
theorem dX4_takeToken_0 : decode cX4_takeToken 0 = .ok (.aload_n 0, 1) := by decide +kernel
theorem dX4_takeToken_1 : decode cX4_takeToken 1 = .ok (.getfield 25, 3) := by decide +kernel
theorem dX4_takeToken_4 : decode cX4_takeToken 4 = .ok (.aload_n 0, 1) := by decide +kernel
theorem dX4_takeToken_5 : decode cX4_takeToken 5 = .ok (.getfield 21, 3) := by decide +kernel
theorem dX4_takeToken_8 : decode cX4_takeToken 8 = .ok (.if_icmp .ge 30, 3) := by decide +kernel
theorem dX4_takeToken_11 : decode cX4_takeToken 11 = .ok (.aload_n 0, 1) := by decide +kernel
theorem dX4_takeToken_12 : decode cX4_takeToken 12 = .ok (.getfield 9, 3) := by decide +kernel
theorem dX4_takeToken_15 : decode cX4_takeToken 15 = .ok (.aload_n 0, 1) := by decide +kernel
theorem dX4_takeToken_16 : decode cX4_takeToken 16 = .ok (.getfield 25, 3) := by decide +kernel
theorem dX4_takeToken_19 : decode cX4_takeToken 19 = .ok (.baload, 1) := by decide +kernel
theorem dX4_takeToken_20 : decode cX4_takeToken 20 = .ok (.bipush 32, 2) := by decide +kernel
theorem dX4_takeToken_22 : decode cX4_takeToken 22 = .ok (.if_icmp .ne 16, 3) := by decide +kernel
theorem dX4_takeToken_25 : decode cX4_takeToken 25 = .ok (.aload_n 0, 1) := by decide +kernel
theorem dX4_takeToken_26 : decode cX4_takeToken 26 = .ok (.dup, 1) := by decide +kernel
theorem dX4_takeToken_27 : decode cX4_takeToken 27 = .ok (.getfield 25, 3) := by decide +kernel
theorem dX4_takeToken_30 : decode cX4_takeToken 30 = .ok (.iconst 1, 1) := by decide +kernel
theorem dX4_takeToken_31 : decode cX4_takeToken 31 = .ok (.iadd, 1) := by decide +kernel
theorem dX4_takeToken_32 : decode cX4_takeToken 32 = .ok (.putfield 25, 3) := by decide +kernel
theorem dX4_takeToken_35 : decode cX4_takeToken 35 = .ok (.goto (-35), 3) := by decide +kernel
theorem dX4_takeToken_38 : decode cX4_takeToken 38 = .ok (.aload_n 0, 1) := by decide +kernel
theorem dX4_takeToken_39 : decode cX4_takeToken 39 = .ok (.aload_n 0, 1) := by decide +kernel
theorem dX4_takeToken_40 : decode cX4_takeToken 40 = .ok (.getfield 25, 3) := by decide +kernel
theorem dX4_takeToken_43 : decode cX4_takeToken 43 = .ok (.putfield 54, 3) := by decide +kernel
theorem dX4_takeToken_46 : decode cX4_takeToken 46 = .ok (.aload_n 0, 1) := by decide +kernel
theorem dX4_takeToken_47 : decode cX4_takeToken 47 = .ok (.getfield 25, 3) := by decide +kernel
theorem dX4_takeToken_50 : decode cX4_takeToken 50 = .ok (.aload_n 0, 1) := by decide +kernel
theorem dX4_takeToken_51 : decode cX4_takeToken 51 = .ok (.getfield 21, 3) := by decide +kernel
theorem dX4_takeToken_54 : decode cX4_takeToken 54 = .ok (.if_icmp .lt 11, 3) := by decide +kernel
theorem dX4_takeToken_57 : decode cX4_takeToken 57 = .ok (.aload_n 0, 1) := by decide +kernel
theorem dX4_takeToken_58 : decode cX4_takeToken 58 = .ok (.iconst 0, 1) := by decide +kernel
theorem dX4_takeToken_59 : decode cX4_takeToken 59 = .ok (.putfield 47, 3) := by decide +kernel
theorem dX4_takeToken_62 : decode cX4_takeToken 62 = .ok (.goto 163, 3) := by decide +kernel
theorem dX4_takeToken_65 : decode cX4_takeToken 65 = .ok (.aload_n 0, 1) := by decide +kernel
theorem dX4_takeToken_66 : decode cX4_takeToken 66 = .ok (.getfield 9, 3) := by decide +kernel
theorem dX4_takeToken_69 : decode cX4_takeToken 69 = .ok (.aload_n 0, 1) := by decide +kernel
theorem dX4_takeToken_70 : decode cX4_takeToken 70 = .ok (.getfield 25, 3) := by decide +kernel
theorem dX4_takeToken_73 : decode cX4_takeToken 73 = .ok (.baload, 1) := by decide +kernel
theorem dX4_takeToken_74 : decode cX4_takeToken 74 = .ok (.bipush 59, 2) := by decide +kernel
theorem dX4_takeToken_76 : decode cX4_takeToken 76 = .ok (.if_icmp .ne 21, 3) := by decide +kernel
theorem dX4_takeToken_79 : decode cX4_takeToken 79 = .ok (.aload_n 0, 1) := by decide +kernel
theorem dX4_takeToken_80 : decode cX4_takeToken 80 = .ok (.iconst 3, 1) := by decide +kernel
theorem dX4_takeToken_81 : decode cX4_takeToken 81 = .ok (.putfield 47, 3) := by decide +kernel
theorem dX4_takeToken_84 : decode cX4_takeToken 84 = .ok (.aload_n 0, 1) := by decide +kernel
theorem dX4_takeToken_85 : decode cX4_takeToken 85 = .ok (.dup, 1) := by decide +kernel
theorem dX4_takeToken_86 : decode cX4_takeToken 86 = .ok (.getfield 25, 3) := by decide +kernel
theorem dX4_takeToken_89 : decode cX4_takeToken 89 = .ok (.iconst 1, 1) := by decide +kernel
theorem dX4_takeToken_90 : decode cX4_takeToken 90 = .ok (.iadd, 1) := by decide +kernel
theorem dX4_takeToken_91 : decode cX4_takeToken 91 = .ok (.putfield 25, 3) := by decide +kernel
theorem dX4_takeToken_94 : decode cX4_takeToken 94 = .ok (.goto 131, 3) := by decide +kernel
theorem dX4_takeToken_97 : decode cX4_takeToken 97 = .ok (.aload_n 0, 1) := by decide +kernel
theorem dX4_takeToken_98 : decode cX4_takeToken 98 = .ok (.getfield 9, 3) := by decide +kernel
theorem dX4_takeToken_101 : decode cX4_takeToken 101 = .ok (.aload_n 0, 1) := by decide +kernel
theorem dX4_takeToken_102 : decode cX4_takeToken 102 = .ok (.getfield 25, 3) := by decide +kernel
theorem dX4_takeToken_105 : decode cX4_takeToken 105 = .ok (.baload, 1) := by decide +kernel
theorem dX4_takeToken_106 : decode cX4_takeToken 106 = .ok (.bipush 97, 2) := by decide +kernel
theorem dX4_takeToken_108 : decode cX4_takeToken 108 = .ok (.if_icmp .lt 51, 3) := by decide +kernel
theorem dX4_takeToken_111 : decode cX4_takeToken 111 = .ok (.aload_n 0, 1) := by decide +kernel
theorem dX4_takeToken_112 : decode cX4_takeToken 112 = .ok (.getfield 9, 3) := by decide +kernel
theorem dX4_takeToken_115 : decode cX4_takeToken 115 = .ok (.aload_n 0, 1) := by decide +kernel
theorem dX4_takeToken_116 : decode cX4_takeToken 116 = .ok (.getfield 25, 3) := by decide +kernel
theorem dX4_takeToken_119 : decode cX4_takeToken 119 = .ok (.baload, 1) := by decide +kernel
theorem dX4_takeToken_120 : decode cX4_takeToken 120 = .ok (.bipush 122, 2) := by decide +kernel
theorem dX4_takeToken_122 : decode cX4_takeToken 122 = .ok (.if_icmp .gt 37, 3) := by decide +kernel
theorem dX4_takeToken_125 : decode cX4_takeToken 125 = .ok (.aload_n 0, 1) := by decide +kernel
theorem dX4_takeToken_126 : decode cX4_takeToken 126 = .ok (.bipush 97, 2) := by decide +kernel
theorem dX4_takeToken_128 : decode cX4_takeToken 128 = .ok (.bipush 122, 2) := by decide +kernel
theorem dX4_takeToken_130 : decode cX4_takeToken 130 = .ok (.invokevirtual 60, 3) := by decide +kernel
theorem dX4_takeToken_133 : decode cX4_takeToken 133 = .ok (.aload_n 0, 1) := by decide +kernel
theorem dX4_takeToken_134 : decode cX4_takeToken 134 = .ok (.aload_n 0, 1) := by decide +kernel
theorem dX4_takeToken_135 : decode cX4_takeToken 135 = .ok (.getfield 25, 3) := by decide +kernel
theorem dX4_takeToken_138 : decode cX4_takeToken 138 = .ok (.aload_n 0, 1) := by decide +kernel
theorem dX4_takeToken_139 : decode cX4_takeToken 139 = .ok (.getfield 54, 3) := by decide +kernel
theorem dX4_takeToken_142 : decode cX4_takeToken 142 = .ok (.isub, 1) := by decide +kernel
theorem dX4_takeToken_143 : decode cX4_takeToken 143 = .ok (.bipush 8, 2) := by decide +kernel
theorem dX4_takeToken_145 : decode cX4_takeToken 145 = .ok (.if_icmp .gt 7, 3) := by decide +kernel
theorem dX4_takeToken_148 : decode cX4_takeToken 148 = .ok (.iconst 1, 1) := by decide +kernel
theorem dX4_takeToken_149 : decode cX4_takeToken 149 = .ok (.goto 4, 3) := by decide +kernel
theorem dX4_takeToken_152 : decode cX4_takeToken 152 = .ok (.iconst 4, 1) := by decide +kernel
theorem dX4_takeToken_153 : decode cX4_takeToken 153 = .ok (.putfield 47, 3) := by decide +kernel
theorem dX4_takeToken_156 : decode cX4_takeToken 156 = .ok (.goto 69, 3) := by decide +kernel
theorem dX4_takeToken_159 : decode cX4_takeToken 159 = .ok (.aload_n 0, 1) := by decide +kernel
theorem dX4_takeToken_160 : decode cX4_takeToken 160 = .ok (.getfield 9, 3) := by decide +kernel
theorem dX4_takeToken_163 : decode cX4_takeToken 163 = .ok (.aload_n 0, 1) := by decide +kernel
theorem dX4_takeToken_164 : decode cX4_takeToken 164 = .ok (.getfield 25, 3) := by decide +kernel
theorem dX4_takeToken_167 : decode cX4_takeToken 167 = .ok (.baload, 1) := by decide +kernel
theorem dX4_takeToken_168 : decode cX4_takeToken 168 = .ok (.bipush 48, 2) := by decide +kernel
theorem dX4_takeToken_170 : decode cX4_takeToken 170 = .ok (.if_icmp .lt 50, 3) := by decide +kernel
theorem dX4_takeToken_173 : decode cX4_takeToken 173 = .ok (.aload_n 0, 1) := by decide +kernel
theorem dX4_takeToken_174 : decode cX4_takeToken 174 = .ok (.getfield 9, 3) := by decide +kernel
theorem dX4_takeToken_177 : decode cX4_takeToken 177 = .ok (.aload_n 0, 1) := by decide +kernel
theorem dX4_takeToken_178 : decode cX4_takeToken 178 = .ok (.getfield 25, 3) := by decide +kernel
theorem dX4_takeToken_181 : decode cX4_takeToken 181 = .ok (.baload, 1) := by decide +kernel
theorem dX4_takeToken_182 : decode cX4_takeToken 182 = .ok (.bipush 57, 2) := by decide +kernel
theorem dX4_takeToken_184 : decode cX4_takeToken 184 = .ok (.if_icmp .gt 36, 3) := by decide +kernel
theorem dX4_takeToken_187 : decode cX4_takeToken 187 = .ok (.aload_n 0, 1) := by decide +kernel
theorem dX4_takeToken_188 : decode cX4_takeToken 188 = .ok (.bipush 48, 2) := by decide +kernel
theorem dX4_takeToken_190 : decode cX4_takeToken 190 = .ok (.bipush 57, 2) := by decide +kernel
theorem dX4_takeToken_192 : decode cX4_takeToken 192 = .ok (.invokevirtual 60, 3) := by decide +kernel
theorem dX4_takeToken_195 : decode cX4_takeToken 195 = .ok (.aload_n 0, 1) := by decide +kernel
theorem dX4_takeToken_196 : decode cX4_takeToken 196 = .ok (.aload_n 0, 1) := by decide +kernel
theorem dX4_takeToken_197 : decode cX4_takeToken 197 = .ok (.getfield 25, 3) := by decide +kernel
theorem dX4_takeToken_200 : decode cX4_takeToken 200 = .ok (.aload_n 0, 1) := by decide +kernel
theorem dX4_takeToken_201 : decode cX4_takeToken 201 = .ok (.getfield 54, 3) := by decide +kernel
theorem dX4_takeToken_204 : decode cX4_takeToken 204 = .ok (.isub, 1) := by decide +kernel
theorem dX4_takeToken_205 : decode cX4_takeToken 205 = .ok (.iconst 5, 1) := by decide +kernel
theorem dX4_takeToken_206 : decode cX4_takeToken 206 = .ok (.if_icmp .gt 7, 3) := by decide +kernel
theorem dX4_takeToken_209 : decode cX4_takeToken 209 = .ok (.iconst 2, 1) := by decide +kernel
theorem dX4_takeToken_210 : decode cX4_takeToken 210 = .ok (.goto 4, 3) := by decide +kernel
theorem dX4_takeToken_213 : decode cX4_takeToken 213 = .ok (.iconst 4, 1) := by decide +kernel
theorem dX4_takeToken_214 : decode cX4_takeToken 214 = .ok (.putfield 47, 3) := by decide +kernel
theorem dX4_takeToken_217 : decode cX4_takeToken 217 = .ok (.goto 8, 3) := by decide +kernel
theorem dX4_takeToken_220 : decode cX4_takeToken 220 = .ok (.aload_n 0, 1) := by decide +kernel
theorem dX4_takeToken_221 : decode cX4_takeToken 221 = .ok (.iconst 4, 1) := by decide +kernel
theorem dX4_takeToken_222 : decode cX4_takeToken 222 = .ok (.putfield 47, 3) := by decide +kernel
theorem dX4_takeToken_225 : decode cX4_takeToken 225 = .ok (.return_, 1) := by decide +kernel
theorem dX4_takeRun_0 : decode cX4_takeRun 0 = .ok (.aload_n 0, 1) := by decide +kernel
theorem dX4_takeRun_1 : decode cX4_takeRun 1 = .ok (.iconst 0, 1) := by decide +kernel
theorem dX4_takeRun_2 : decode cX4_takeRun 2 = .ok (.putfield 64, 3) := by decide +kernel
theorem dX4_takeRun_5 : decode cX4_takeRun 5 = .ok (.aload_n 0, 1) := by decide +kernel
theorem dX4_takeRun_6 : decode cX4_takeRun 6 = .ok (.getfield 25, 3) := by decide +kernel
theorem dX4_takeRun_9 : decode cX4_takeRun 9 = .ok (.aload_n 0, 1) := by decide +kernel
theorem dX4_takeRun_10 : decode cX4_takeRun 10 = .ok (.getfield 21, 3) := by decide +kernel
theorem dX4_takeRun_13 : decode cX4_takeRun 13 = .ok (.if_icmp .ge 65, 3) := by decide +kernel
theorem dX4_takeRun_16 : decode cX4_takeRun 16 = .ok (.aload_n 0, 1) := by decide +kernel
theorem dX4_takeRun_17 : decode cX4_takeRun 17 = .ok (.getfield 9, 3) := by decide +kernel
theorem dX4_takeRun_20 : decode cX4_takeRun 20 = .ok (.aload_n 0, 1) := by decide +kernel
theorem dX4_takeRun_21 : decode cX4_takeRun 21 = .ok (.getfield 25, 3) := by decide +kernel
theorem dX4_takeRun_24 : decode cX4_takeRun 24 = .ok (.baload, 1) := by decide +kernel
theorem dX4_takeRun_25 : decode cX4_takeRun 25 = .ok (.iload_n 1, 1) := by decide +kernel
theorem dX4_takeRun_26 : decode cX4_takeRun 26 = .ok (.if_icmp .lt 52, 3) := by decide +kernel
theorem dX4_takeRun_29 : decode cX4_takeRun 29 = .ok (.aload_n 0, 1) := by decide +kernel
theorem dX4_takeRun_30 : decode cX4_takeRun 30 = .ok (.getfield 9, 3) := by decide +kernel
theorem dX4_takeRun_33 : decode cX4_takeRun 33 = .ok (.aload_n 0, 1) := by decide +kernel
theorem dX4_takeRun_34 : decode cX4_takeRun 34 = .ok (.getfield 25, 3) := by decide +kernel
theorem dX4_takeRun_37 : decode cX4_takeRun 37 = .ok (.baload, 1) := by decide +kernel
theorem dX4_takeRun_38 : decode cX4_takeRun 38 = .ok (.iload_n 2, 1) := by decide +kernel
theorem dX4_takeRun_39 : decode cX4_takeRun 39 = .ok (.if_icmp .gt 39, 3) := by decide +kernel
theorem dX4_takeRun_42 : decode cX4_takeRun 42 = .ok (.aload_n 0, 1) := by decide +kernel
theorem dX4_takeRun_43 : decode cX4_takeRun 43 = .ok (.bipush 10, 2) := by decide +kernel
theorem dX4_takeRun_45 : decode cX4_takeRun 45 = .ok (.aload_n 0, 1) := by decide +kernel
theorem dX4_takeRun_46 : decode cX4_takeRun 46 = .ok (.getfield 64, 3) := by decide +kernel
theorem dX4_takeRun_49 : decode cX4_takeRun 49 = .ok (.imul, 1) := by decide +kernel
theorem dX4_takeRun_50 : decode cX4_takeRun 50 = .ok (.aload_n 0, 1) := by decide +kernel
theorem dX4_takeRun_51 : decode cX4_takeRun 51 = .ok (.getfield 9, 3) := by decide +kernel
theorem dX4_takeRun_54 : decode cX4_takeRun 54 = .ok (.aload_n 0, 1) := by decide +kernel
theorem dX4_takeRun_55 : decode cX4_takeRun 55 = .ok (.getfield 25, 3) := by decide +kernel
theorem dX4_takeRun_58 : decode cX4_takeRun 58 = .ok (.baload, 1) := by decide +kernel
theorem dX4_takeRun_59 : decode cX4_takeRun 59 = .ok (.iadd, 1) := by decide +kernel
theorem dX4_takeRun_60 : decode cX4_takeRun 60 = .ok (.iload_n 1, 1) := by decide +kernel
theorem dX4_takeRun_61 : decode cX4_takeRun 61 = .ok (.isub, 1) := by decide +kernel
theorem dX4_takeRun_62 : decode cX4_takeRun 62 = .ok (.putfield 64, 3) := by decide +kernel
theorem dX4_takeRun_65 : decode cX4_takeRun 65 = .ok (.aload_n 0, 1) := by decide +kernel
theorem dX4_takeRun_66 : decode cX4_takeRun 66 = .ok (.dup, 1) := by decide +kernel
theorem dX4_takeRun_67 : decode cX4_takeRun 67 = .ok (.getfield 25, 3) := by decide +kernel
theorem dX4_takeRun_70 : decode cX4_takeRun 70 = .ok (.iconst 1, 1) := by decide +kernel
theorem dX4_takeRun_71 : decode cX4_takeRun 71 = .ok (.iadd, 1) := by decide +kernel
theorem dX4_takeRun_72 : decode cX4_takeRun 72 = .ok (.putfield 25, 3) := by decide +kernel
theorem dX4_takeRun_75 : decode cX4_takeRun 75 = .ok (.goto (-70), 3) := by decide +kernel
theorem dX4_takeRun_78 : decode cX4_takeRun 78 = .ok (.return_, 1) := by decide +kernel
theorem dX4_isName_0 : decode cX4_isName 0 = .ok (.aload_n 0, 1) := by decide +kernel
theorem dX4_isName_1 : decode cX4_isName 1 = .ok (.getfield 47, 3) := by decide +kernel
theorem dX4_isName_4 : decode cX4_isName 4 = .ok (.iconst 1, 1) := by decide +kernel
theorem dX4_isName_5 : decode cX4_isName 5 = .ok (.if_icmp .ne 19, 3) := by decide +kernel
theorem dX4_isName_8 : decode cX4_isName 8 = .ok (.aload_n 0, 1) := by decide +kernel
theorem dX4_isName_9 : decode cX4_isName 9 = .ok (.getfield 25, 3) := by decide +kernel
theorem dX4_isName_12 : decode cX4_isName 12 = .ok (.aload_n 0, 1) := by decide +kernel
theorem dX4_isName_13 : decode cX4_isName 13 = .ok (.getfield 54, 3) := by decide +kernel
theorem dX4_isName_16 : decode cX4_isName 16 = .ok (.isub, 1) := by decide +kernel
theorem dX4_isName_17 : decode cX4_isName 17 = .ok (.aload_n 1, 1) := by decide +kernel
theorem dX4_isName_18 : decode cX4_isName 18 = .ok (.invokevirtual 67, 3) := by decide +kernel
theorem dX4_isName_21 : decode cX4_isName 21 = .ok (.if_icmp .eq 5, 3) := by decide +kernel
theorem dX4_isName_24 : decode cX4_isName 24 = .ok (.iconst 0, 1) := by decide +kernel
theorem dX4_isName_25 : decode cX4_isName 25 = .ok (.ireturn, 1) := by decide +kernel
theorem dX4_isName_26 : decode cX4_isName 26 = .ok (.iconst 0, 1) := by decide +kernel
theorem dX4_isName_27 : decode cX4_isName 27 = .ok (.istore_n 2, 1) := by decide +kernel
theorem dX4_isName_28 : decode cX4_isName 28 = .ok (.iload_n 2, 1) := by decide +kernel
theorem dX4_isName_29 : decode cX4_isName 29 = .ok (.aload_n 1, 1) := by decide +kernel
theorem dX4_isName_30 : decode cX4_isName 30 = .ok (.invokevirtual 67, 3) := by decide +kernel
theorem dX4_isName_33 : decode cX4_isName 33 = .ok (.if_icmp .ge 30, 3) := by decide +kernel
theorem dX4_isName_36 : decode cX4_isName 36 = .ok (.aload_n 0, 1) := by decide +kernel
theorem dX4_isName_37 : decode cX4_isName 37 = .ok (.getfield 9, 3) := by decide +kernel
theorem dX4_isName_40 : decode cX4_isName 40 = .ok (.aload_n 0, 1) := by decide +kernel
theorem dX4_isName_41 : decode cX4_isName 41 = .ok (.getfield 54, 3) := by decide +kernel
theorem dX4_isName_44 : decode cX4_isName 44 = .ok (.iload_n 2, 1) := by decide +kernel
theorem dX4_isName_45 : decode cX4_isName 45 = .ok (.iadd, 1) := by decide +kernel
theorem dX4_isName_46 : decode cX4_isName 46 = .ok (.baload, 1) := by decide +kernel
theorem dX4_isName_47 : decode cX4_isName 47 = .ok (.aload_n 1, 1) := by decide +kernel
theorem dX4_isName_48 : decode cX4_isName 48 = .ok (.iload_n 2, 1) := by decide +kernel
theorem dX4_isName_49 : decode cX4_isName 49 = .ok (.invokevirtual 73, 3) := by decide +kernel
theorem dX4_isName_52 : decode cX4_isName 52 = .ok (.if_icmp .eq 5, 3) := by decide +kernel
theorem dX4_isName_55 : decode cX4_isName 55 = .ok (.iconst 0, 1) := by decide +kernel
theorem dX4_isName_56 : decode cX4_isName 56 = .ok (.ireturn, 1) := by decide +kernel
theorem dX4_isName_57 : decode cX4_isName 57 = .ok (.iinc 2 1, 3) := by decide +kernel
theorem dX4_isName_60 : decode cX4_isName 60 = .ok (.goto (-32), 3) := by decide +kernel
theorem dX4_isName_63 : decode cX4_isName 63 = .ok (.iconst 1, 1) := by decide +kernel
theorem dX4_isName_64 : decode cX4_isName 64 = .ok (.ireturn, 1) := by decide +kernel
theorem dX4_takeName_0 : decode cX4_takeName 0 = .ok (.aload_n 0, 1) := by decide +kernel
theorem dX4_takeName_1 : decode cX4_takeName 1 = .ok (.invokevirtual 40, 3) := by decide +kernel
theorem dX4_takeName_4 : decode cX4_takeName 4 = .ok (.aload_n 0, 1) := by decide +kernel
theorem dX4_takeName_5 : decode cX4_takeName 5 = .ok (.aload_n 1, 1) := by decide +kernel
theorem dX4_takeName_6 : decode cX4_takeName 6 = .ok (.invokevirtual 77, 3) := by decide +kernel
theorem dX4_takeName_9 : decode cX4_takeName 9 = .ok (.ifCond .ne 11, 3) := by decide +kernel
theorem dX4_takeName_12 : decode cX4_takeName 12 = .ok (.aload_n 0, 1) := by decide +kernel
theorem dX4_takeName_13 : decode cX4_takeName 13 = .ok (.iconst 1, 1) := by decide +kernel
theorem dX4_takeName_14 : decode cX4_takeName 14 = .ok (.invokevirtual 50, 3) := by decide +kernel
theorem dX4_takeName_17 : decode cX4_takeName 17 = .ok (.ifCond .eq 7, 3) := by decide +kernel
theorem dX4_takeName_20 : decode cX4_takeName 20 = .ok (.iconst 1, 1) := by decide +kernel
theorem dX4_takeName_21 : decode cX4_takeName 21 = .ok (.goto 4, 3) := by decide +kernel
theorem dX4_takeName_24 : decode cX4_takeName 24 = .ok (.iconst 0, 1) := by decide +kernel
theorem dX4_takeName_25 : decode cX4_takeName 25 = .ok (.ireturn, 1) := by decide +kernel
theorem dX4_takeWhole_0 : decode cX4_takeWhole 0 = .ok (.aload_n 0, 1) := by decide +kernel
theorem dX4_takeWhole_1 : decode cX4_takeWhole 1 = .ok (.invokevirtual 40, 3) := by decide +kernel
theorem dX4_takeWhole_4 : decode cX4_takeWhole 4 = .ok (.aload_n 0, 1) := by decide +kernel
theorem dX4_takeWhole_5 : decode cX4_takeWhole 5 = .ok (.getfield 47, 3) := by decide +kernel
theorem dX4_takeWhole_8 : decode cX4_takeWhole 8 = .ok (.iconst 2, 1) := by decide +kernel
theorem dX4_takeWhole_9 : decode cX4_takeWhole 9 = .ok (.if_icmp .eq 11, 3) := by decide +kernel
theorem dX4_takeWhole_12 : decode cX4_takeWhole 12 = .ok (.aload_n 0, 1) := by decide +kernel
theorem dX4_takeWhole_13 : decode cX4_takeWhole 13 = .ok (.iconst 1, 1) := by decide +kernel
theorem dX4_takeWhole_14 : decode cX4_takeWhole 14 = .ok (.invokevirtual 50, 3) := by decide +kernel
theorem dX4_takeWhole_17 : decode cX4_takeWhole 17 = .ok (.ifCond .eq 7, 3) := by decide +kernel
theorem dX4_takeWhole_20 : decode cX4_takeWhole 20 = .ok (.iconst 1, 1) := by decide +kernel
theorem dX4_takeWhole_21 : decode cX4_takeWhole 21 = .ok (.goto 4, 3) := by decide +kernel
theorem dX4_takeWhole_24 : decode cX4_takeWhole 24 = .ok (.iconst 0, 1) := by decide +kernel
theorem dX4_takeWhole_25 : decode cX4_takeWhole 25 = .ok (.ireturn, 1) := by decide +kernel
theorem dX4_takeWithin_0 : decode cX4_takeWithin 0 = .ok (.aload_n 0, 1) := by decide +kernel
theorem dX4_takeWithin_1 : decode cX4_takeWithin 1 = .ok (.invokevirtual 81, 3) := by decide +kernel
theorem dX4_takeWithin_4 : decode cX4_takeWithin 4 = .ok (.ifCond .eq 31, 3) := by decide +kernel
theorem dX4_takeWithin_7 : decode cX4_takeWithin 7 = .ok (.aload_n 0, 1) := by decide +kernel
theorem dX4_takeWithin_8 : decode cX4_takeWithin 8 = .ok (.getfield 64, 3) := by decide +kernel
theorem dX4_takeWithin_11 : decode cX4_takeWithin 11 = .ok (.iload_n 1, 1) := by decide +kernel
theorem dX4_takeWithin_12 : decode cX4_takeWithin 12 = .ok (.if_icmp .lt 11, 3) := by decide +kernel
theorem dX4_takeWithin_15 : decode cX4_takeWithin 15 = .ok (.aload_n 0, 1) := by decide +kernel
theorem dX4_takeWithin_16 : decode cX4_takeWithin 16 = .ok (.getfield 64, 3) := by decide +kernel
theorem dX4_takeWithin_19 : decode cX4_takeWithin 19 = .ok (.iload_n 2, 1) := by decide +kernel
theorem dX4_takeWithin_20 : decode cX4_takeWithin 20 = .ok (.if_icmp .le 11, 3) := by decide +kernel
theorem dX4_takeWithin_23 : decode cX4_takeWithin 23 = .ok (.aload_n 0, 1) := by decide +kernel
theorem dX4_takeWithin_24 : decode cX4_takeWithin 24 = .ok (.iconst 4, 1) := by decide +kernel
theorem dX4_takeWithin_25 : decode cX4_takeWithin 25 = .ok (.invokevirtual 50, 3) := by decide +kernel
theorem dX4_takeWithin_28 : decode cX4_takeWithin 28 = .ok (.ifCond .eq 7, 3) := by decide +kernel
theorem dX4_takeWithin_31 : decode cX4_takeWithin 31 = .ok (.iconst 1, 1) := by decide +kernel
theorem dX4_takeWithin_32 : decode cX4_takeWithin 32 = .ok (.goto 4, 3) := by decide +kernel
theorem dX4_takeWithin_35 : decode cX4_takeWithin 35 = .ok (.iconst 0, 1) := by decide +kernel
theorem dX4_takeWithin_36 : decode cX4_takeWithin 36 = .ok (.ireturn, 1) := by decide +kernel
theorem dX4_tellLine_0 : decode cX4_tellLine 0 = .ok (.aload_n 0, 1) := by decide +kernel
theorem dX4_tellLine_1 : decode cX4_tellLine 1 = .ok (.ldc 84, 2) := by decide +kernel
theorem dX4_tellLine_3 : decode cX4_tellLine 3 = .ok (.invokevirtual 77, 3) := by decide +kernel
theorem dX4_tellLine_6 : decode cX4_tellLine 6 = .ok (.ifCond .eq 26, 3) := by decide +kernel
theorem dX4_tellLine_9 : decode cX4_tellLine 9 = .ok (.aload_n 0, 1) := by decide +kernel
theorem dX4_tellLine_10 : decode cX4_tellLine 10 = .ok (.getfield 28, 3) := by decide +kernel
theorem dX4_tellLine_13 : decode cX4_tellLine 13 = .ok (.getfield 86, 3) := by decide +kernel
theorem dX4_tellLine_16 : decode cX4_tellLine 16 = .ok (.ifCond .le 11, 3) := by decide +kernel
theorem dX4_tellLine_19 : decode cX4_tellLine 19 = .ok (.aload_n 0, 1) := by decide +kernel
theorem dX4_tellLine_20 : decode cX4_tellLine 20 = .ok (.iconst 3, 1) := by decide +kernel
theorem dX4_tellLine_21 : decode cX4_tellLine 21 = .ok (.invokevirtual 50, 3) := by decide +kernel
theorem dX4_tellLine_24 : decode cX4_tellLine 24 = .ok (.goto 7, 3) := by decide +kernel
theorem dX4_tellLine_27 : decode cX4_tellLine 27 = .ok (.aload_n 0, 1) := by decide +kernel
theorem dX4_tellLine_28 : decode cX4_tellLine 28 = .ok (.invokevirtual 89, 3) := by decide +kernel
theorem dX4_tellLine_31 : decode cX4_tellLine 31 = .ok (.ireturn, 1) := by decide +kernel
theorem dX4_tellLine_32 : decode cX4_tellLine 32 = .ok (.aload_n 0, 1) := by decide +kernel
theorem dX4_tellLine_33 : decode cX4_tellLine 33 = .ok (.ldc 92, 2) := by decide +kernel
theorem dX4_tellLine_35 : decode cX4_tellLine 35 = .ok (.invokevirtual 77, 3) := by decide +kernel
theorem dX4_tellLine_38 : decode cX4_tellLine 38 = .ok (.ifCond .eq 32, 3) := by decide +kernel
theorem dX4_tellLine_41 : decode cX4_tellLine 41 = .ok (.aload_n 0, 1) := by decide +kernel
theorem dX4_tellLine_42 : decode cX4_tellLine 42 = .ok (.aload_n 0, 1) := by decide +kernel
theorem dX4_tellLine_43 : decode cX4_tellLine 43 = .ok (.getfield 28, 3) := by decide +kernel
theorem dX4_tellLine_46 : decode cX4_tellLine 46 = .ok (.getfield 94, 3) := by decide +kernel
theorem dX4_tellLine_49 : decode cX4_tellLine 49 = .ok (.bipush 16, 2) := by decide +kernel
theorem dX4_tellLine_51 : decode cX4_tellLine 51 = .ok (.invokevirtual 97, 3) := by decide +kernel
theorem dX4_tellLine_54 : decode cX4_tellLine 54 = .ok (.ifCond .eq 14, 3) := by decide +kernel
theorem dX4_tellLine_57 : decode cX4_tellLine 57 = .ok (.aload_n 0, 1) := by decide +kernel
theorem dX4_tellLine_58 : decode cX4_tellLine 58 = .ok (.invokevirtual 101, 3) := by decide +kernel
theorem dX4_tellLine_61 : decode cX4_tellLine 61 = .ok (.ifCond .eq 7, 3) := by decide +kernel
theorem dX4_tellLine_64 : decode cX4_tellLine 64 = .ok (.iconst 1, 1) := by decide +kernel
theorem dX4_tellLine_65 : decode cX4_tellLine 65 = .ok (.goto 4, 3) := by decide +kernel
theorem dX4_tellLine_68 : decode cX4_tellLine 68 = .ok (.iconst 0, 1) := by decide +kernel
theorem dX4_tellLine_69 : decode cX4_tellLine 69 = .ok (.ireturn, 1) := by decide +kernel
theorem dX4_tellLine_70 : decode cX4_tellLine 70 = .ok (.aload_n 0, 1) := by decide +kernel
theorem dX4_tellLine_71 : decode cX4_tellLine 71 = .ok (.ldc 104, 2) := by decide +kernel
theorem dX4_tellLine_73 : decode cX4_tellLine 73 = .ok (.invokevirtual 77, 3) := by decide +kernel
theorem dX4_tellLine_76 : decode cX4_tellLine 76 = .ok (.ifCond .eq 33, 3) := by decide +kernel
theorem dX4_tellLine_79 : decode cX4_tellLine 79 = .ok (.aload_n 0, 1) := by decide +kernel
theorem dX4_tellLine_80 : decode cX4_tellLine 80 = .ok (.aload_n 0, 1) := by decide +kernel
theorem dX4_tellLine_81 : decode cX4_tellLine 81 = .ok (.getfield 28, 3) := by decide +kernel
theorem dX4_tellLine_84 : decode cX4_tellLine 84 = .ok (.getfield 106, 3) := by decide +kernel
theorem dX4_tellLine_87 : decode cX4_tellLine 87 = .ok (.bipush 16, 2) := by decide +kernel
theorem dX4_tellLine_89 : decode cX4_tellLine 89 = .ok (.invokevirtual 97, 3) := by decide +kernel
theorem dX4_tellLine_92 : decode cX4_tellLine 92 = .ok (.ifCond .eq 15, 3) := by decide +kernel
theorem dX4_tellLine_95 : decode cX4_tellLine 95 = .ok (.aload_n 0, 1) := by decide +kernel
theorem dX4_tellLine_96 : decode cX4_tellLine 96 = .ok (.iconst 0, 1) := by decide +kernel
theorem dX4_tellLine_97 : decode cX4_tellLine 97 = .ok (.invokevirtual 109, 3) := by decide +kernel
theorem dX4_tellLine_100 : decode cX4_tellLine 100 = .ok (.ifCond .eq 7, 3) := by decide +kernel
theorem dX4_tellLine_103 : decode cX4_tellLine 103 = .ok (.iconst 1, 1) := by decide +kernel
theorem dX4_tellLine_104 : decode cX4_tellLine 104 = .ok (.goto 4, 3) := by decide +kernel
theorem dX4_tellLine_107 : decode cX4_tellLine 107 = .ok (.iconst 0, 1) := by decide +kernel
theorem dX4_tellLine_108 : decode cX4_tellLine 108 = .ok (.ireturn, 1) := by decide +kernel
theorem dX4_tellLine_109 : decode cX4_tellLine 109 = .ok (.aload_n 0, 1) := by decide +kernel
theorem dX4_tellLine_110 : decode cX4_tellLine 110 = .ok (.ldc 113, 2) := by decide +kernel
theorem dX4_tellLine_112 : decode cX4_tellLine 112 = .ok (.invokevirtual 77, 3) := by decide +kernel
theorem dX4_tellLine_115 : decode cX4_tellLine 115 = .ok (.ifCond .eq 33, 3) := by decide +kernel
theorem dX4_tellLine_118 : decode cX4_tellLine 118 = .ok (.aload_n 0, 1) := by decide +kernel
theorem dX4_tellLine_119 : decode cX4_tellLine 119 = .ok (.aload_n 0, 1) := by decide +kernel
theorem dX4_tellLine_120 : decode cX4_tellLine 120 = .ok (.getfield 28, 3) := by decide +kernel
theorem dX4_tellLine_123 : decode cX4_tellLine 123 = .ok (.getfield 106, 3) := by decide +kernel
theorem dX4_tellLine_126 : decode cX4_tellLine 126 = .ok (.bipush 16, 2) := by decide +kernel
theorem dX4_tellLine_128 : decode cX4_tellLine 128 = .ok (.invokevirtual 97, 3) := by decide +kernel
