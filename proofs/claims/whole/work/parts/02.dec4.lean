theorem dX7_dirtyIn_24 : decode cX7_dirtyIn 24 = .ok (.aload_n 0, 1) := by decide +kernel
theorem dX7_dirtyIn_25 : decode cX7_dirtyIn 25 = .ok (.getfield 255, 3) := by decide +kernel
theorem dX7_dirtyIn_28 : decode cX7_dirtyIn 28 = .ok (.getfield 141, 3) := by decide +kernel
theorem dX7_dirtyIn_31 : decode cX7_dirtyIn 31 = .ok (.iadd, 1) := by decide +kernel
theorem dX7_dirtyIn_32 : decode cX7_dirtyIn 32 = .ok (.istore_n 3, 1) := by decide +kernel
theorem dX7_dirtyIn_33 : decode cX7_dirtyIn 33 = .ok (.goto (-29), 3) := by decide +kernel
theorem dX7_dirtyIn_36 : decode cX7_dirtyIn 36 = .ok (.iload_n 2, 1) := by decide +kernel
theorem dX7_dirtyIn_37 : decode cX7_dirtyIn 37 = .ok (.ireturn, 1) := by decide +kernel
theorem dX7_set_0 : decode cX7_set 0 = .ok (.aload_n 0, 1) := by decide +kernel
theorem dX7_set_1 : decode cX7_set 1 = .ok (.iconst 0, 1) := by decide +kernel
theorem dX7_set_2 : decode cX7_set 2 = .ok (.putfield 43, 3) := by decide +kernel
theorem dX7_set_5 : decode cX7_set 5 = .ok (.aload_n 0, 1) := by decide +kernel
theorem dX7_set_6 : decode cX7_set 6 = .ok (.iload_n 1, 1) := by decide +kernel
theorem dX7_set_7 : decode cX7_set 7 = .ok (.invokevirtual 387, 3) := by decide +kernel
theorem dX7_set_10 : decode cX7_set 10 = .ok (.ifCond .eq 12, 3) := by decide +kernel
theorem dX7_set_13 : decode cX7_set 13 = .ok (.iload_n 2, 1) := by decide +kernel
theorem dX7_set_14 : decode cX7_set 14 = .ok (.iconst 0, 1) := by decide +kernel
theorem dX7_set_15 : decode cX7_set 15 = .ok (.iconst 3, 1) := by decide +kernel
theorem dX7_set_16 : decode cX7_set 16 = .ok (.invokestatic 122, 3) := by decide +kernel
theorem dX7_set_19 : decode cX7_set 19 = .ok (.ifCond .ne 9, 3) := by decide +kernel
theorem dX7_set_22 : decode cX7_set 22 = .ok (.aload_n 0, 1) := by decide +kernel
theorem dX7_set_23 : decode cX7_set 23 = .ok (.iconst 1, 1) := by decide +kernel
theorem dX7_set_24 : decode cX7_set 24 = .ok (.invokevirtual 49, 3) := by decide +kernel
theorem dX7_set_27 : decode cX7_set 27 = .ok (.ireturn, 1) := by decide +kernel
theorem dX7_set_28 : decode cX7_set 28 = .ok (.aload_n 0, 1) := by decide +kernel
theorem dX7_set_29 : decode cX7_set 29 = .ok (.invokevirtual 380, 3) := by decide +kernel
theorem dX7_set_32 : decode cX7_set 32 = .ok (.iload_n 2, 1) := by decide +kernel
theorem dX7_set_33 : decode cX7_set 33 = .ok (.tableswitch 57 0 2 #[27, 37, 47], 27) := by decide +kernel
theorem dX7_set_60 : decode cX7_set 60 = .ok (.aload_n 0, 1) := by decide +kernel
theorem dX7_set_61 : decode cX7_set 61 = .ok (.aload_n 0, 1) := by decide +kernel
theorem dX7_set_62 : decode cX7_set 62 = .ok (.iload_n 1, 1) := by decide +kernel
theorem dX7_set_63 : decode cX7_set 63 = .ok (.invokevirtual 353, 3) := by decide +kernel
theorem dX7_set_66 : decode cX7_set 66 = .ok (.invokevirtual 53, 3) := by decide +kernel
theorem dX7_set_69 : decode cX7_set 69 = .ok (.ireturn, 1) := by decide +kernel
theorem dX7_set_70 : decode cX7_set 70 = .ok (.aload_n 0, 1) := by decide +kernel
theorem dX7_set_71 : decode cX7_set 71 = .ok (.aload_n 0, 1) := by decide +kernel
theorem dX7_set_72 : decode cX7_set 72 = .ok (.iload_n 1, 1) := by decide +kernel
theorem dX7_set_73 : decode cX7_set 73 = .ok (.invokevirtual 356, 3) := by decide +kernel
theorem dX7_set_76 : decode cX7_set 76 = .ok (.invokevirtual 53, 3) := by decide +kernel
theorem dX7_set_79 : decode cX7_set 79 = .ok (.ireturn, 1) := by decide +kernel
theorem dX7_set_80 : decode cX7_set 80 = .ok (.aload_n 0, 1) := by decide +kernel
theorem dX7_set_81 : decode cX7_set 81 = .ok (.aload_n 0, 1) := by decide +kernel
theorem dX7_set_82 : decode cX7_set 82 = .ok (.iload_n 1, 1) := by decide +kernel
theorem dX7_set_83 : decode cX7_set 83 = .ok (.invokevirtual 390, 3) := by decide +kernel
theorem dX7_set_86 : decode cX7_set 86 = .ok (.invokevirtual 53, 3) := by decide +kernel
theorem dX7_set_89 : decode cX7_set 89 = .ok (.ireturn, 1) := by decide +kernel
theorem dX7_set_90 : decode cX7_set 90 = .ok (.aload_n 0, 1) := by decide +kernel
theorem dX7_set_91 : decode cX7_set 91 = .ok (.iconst 4, 1) := by decide +kernel
theorem dX7_set_92 : decode cX7_set 92 = .ok (.aload_n 0, 1) := by decide +kernel
theorem dX7_set_93 : decode cX7_set 93 = .ok (.getfield 269, 3) := by decide +kernel
theorem dX7_set_96 : decode cX7_set 96 = .ok (.imul, 1) := by decide +kernel
theorem dX7_set_97 : decode cX7_set 97 = .ok (.aload_n 0, 1) := by decide +kernel
theorem dX7_set_98 : decode cX7_set 98 = .ok (.iload_n 1, 1) := by decide +kernel
theorem dX7_set_99 : decode cX7_set 99 = .ok (.invokevirtual 356, 3) := by decide +kernel
theorem dX7_set_102 : decode cX7_set 102 = .ok (.isub, 1) := by decide +kernel
theorem dX7_set_103 : decode cX7_set 103 = .ok (.invokevirtual 53, 3) := by decide +kernel
theorem dX7_set_106 : decode cX7_set 106 = .ok (.ireturn, 1) := by decide +kernel
theorem dX7_since_0 : decode cX7_since 0 = .ok (.aload_n 0, 1) := by decide +kernel
theorem dX7_since_1 : decode cX7_since 1 = .ok (.aload_n 0, 1) := by decide +kernel
theorem dX7_since_2 : decode cX7_since 2 = .ok (.iload_n 1, 1) := by decide +kernel
theorem dX7_since_3 : decode cX7_since 3 = .ok (.invokevirtual 359, 3) := by decide +kernel
theorem dX7_since_6 : decode cX7_since 6 = .ok (.invokevirtual 338, 3) := by decide +kernel
theorem dX7_since_9 : decode cX7_since 9 = .ok (.iconst 0, 1) := by decide +kernel
theorem dX7_since_10 : decode cX7_since 10 = .ok (.istore_n 2, 1) := by decide +kernel
theorem dX7_since_11 : decode cX7_since 11 = .ok (.aload_n 0, 1) := by decide +kernel
theorem dX7_since_12 : decode cX7_since 12 = .ok (.getfield 30, 3) := by decide +kernel
theorem dX7_since_15 : decode cX7_since 15 = .ok (.iload_n 2, 1) := by decide +kernel
theorem dX7_since_16 : decode cX7_since 16 = .ok (.iaload, 1) := by decide +kernel
theorem dX7_since_17 : decode cX7_since 17 = .ok (.iload_n 1, 1) := by decide +kernel
theorem dX7_since_18 : decode cX7_since 18 = .ok (.if_icmp .eq 9, 3) := by decide +kernel
theorem dX7_since_21 : decode cX7_since 21 = .ok (.iinc 2 1, 3) := by decide +kernel
theorem dX7_since_24 : decode cX7_since 24 = .ok (.goto (-13), 3) := by decide +kernel
theorem dX7_since_27 : decode cX7_since 27 = .ok (.aload_n 0, 1) := by decide +kernel
theorem dX7_since_28 : decode cX7_since 28 = .ok (.getfield 335, 3) := by decide +kernel
theorem dX7_since_31 : decode cX7_since 31 = .ok (.iconst 1, 1) := by decide +kernel
theorem dX7_since_32 : decode cX7_since 32 = .ok (.isub, 1) := by decide +kernel
theorem dX7_since_33 : decode cX7_since 33 = .ok (.iload_n 2, 1) := by decide +kernel
theorem dX7_since_34 : decode cX7_since 34 = .ok (.isub, 1) := by decide +kernel
theorem dX7_since_35 : decode cX7_since 35 = .ok (.ireturn, 1) := by decide +kernel
theorem dX7_tag_0 : decode cX7_tag 0 = .ok (.aload_n 0, 1) := by decide +kernel
theorem dX7_tag_1 : decode cX7_tag 1 = .ok (.iconst 0, 1) := by decide +kernel
theorem dX7_tag_2 : decode cX7_tag 2 = .ok (.putfield 43, 3) := by decide +kernel
theorem dX7_tag_5 : decode cX7_tag 5 = .ok (.aload_n 0, 1) := by decide +kernel
theorem dX7_tag_6 : decode cX7_tag 6 = .ok (.iload_n 1, 1) := by decide +kernel
theorem dX7_tag_7 : decode cX7_tag 7 = .ok (.invokevirtual 387, 3) := by decide +kernel
theorem dX7_tag_10 : decode cX7_tag 10 = .ok (.ifCond .ne 9, 3) := by decide +kernel
theorem dX7_tag_13 : decode cX7_tag 13 = .ok (.aload_n 0, 1) := by decide +kernel
theorem dX7_tag_14 : decode cX7_tag 14 = .ok (.iconst 1, 1) := by decide +kernel
theorem dX7_tag_15 : decode cX7_tag 15 = .ok (.invokevirtual 49, 3) := by decide +kernel
theorem dX7_tag_18 : decode cX7_tag 18 = .ok (.ireturn, 1) := by decide +kernel
theorem dX7_tag_19 : decode cX7_tag 19 = .ok (.aload_n 0, 1) := by decide +kernel
theorem dX7_tag_20 : decode cX7_tag 20 = .ok (.invokevirtual 380, 3) := by decide +kernel
theorem dX7_tag_23 : decode cX7_tag 23 = .ok (.aload_n 0, 1) := by decide +kernel
theorem dX7_tag_24 : decode cX7_tag 24 = .ok (.iload_n 1, 1) := by decide +kernel
theorem dX7_tag_25 : decode cX7_tag 25 = .ok (.invokevirtual 338, 3) := by decide +kernel
theorem dX7_tag_28 : decode cX7_tag 28 = .ok (.iload_n 2, 1) := by decide +kernel
theorem dX7_tag_29 : decode cX7_tag 29 = .ok (.ifCond .lt 11, 3) := by decide +kernel
theorem dX7_tag_32 : decode cX7_tag 32 = .ok (.iload_n 2, 1) := by decide +kernel
theorem dX7_tag_33 : decode cX7_tag 33 = .ok (.aload_n 0, 1) := by decide +kernel
theorem dX7_tag_34 : decode cX7_tag 34 = .ok (.getfield 335, 3) := by decide +kernel
theorem dX7_tag_37 : decode cX7_tag 37 = .ok (.if_icmp .lt 9, 3) := by decide +kernel
theorem dX7_tag_40 : decode cX7_tag 40 = .ok (.aload_n 0, 1) := by decide +kernel
theorem dX7_tag_41 : decode cX7_tag 41 = .ok (.iconst 1, 1) := by decide +kernel
theorem dX7_tag_42 : decode cX7_tag 42 = .ok (.invokevirtual 49, 3) := by decide +kernel
theorem dX7_tag_45 : decode cX7_tag 45 = .ok (.ireturn, 1) := by decide +kernel
theorem dX7_tag_46 : decode cX7_tag 46 = .ok (.aload_n 0, 1) := by decide +kernel
theorem dX7_tag_47 : decode cX7_tag 47 = .ok (.aload_n 0, 1) := by decide +kernel
theorem dX7_tag_48 : decode cX7_tag 48 = .ok (.getfield 30, 3) := by decide +kernel
theorem dX7_tag_51 : decode cX7_tag 51 = .ok (.aload_n 0, 1) := by decide +kernel
theorem dX7_tag_52 : decode cX7_tag 52 = .ok (.getfield 335, 3) := by decide +kernel
theorem dX7_tag_55 : decode cX7_tag 55 = .ok (.iconst 1, 1) := by decide +kernel
theorem dX7_tag_56 : decode cX7_tag 56 = .ok (.isub, 1) := by decide +kernel
theorem dX7_tag_57 : decode cX7_tag 57 = .ok (.iload_n 2, 1) := by decide +kernel
theorem dX7_tag_58 : decode cX7_tag 58 = .ok (.isub, 1) := by decide +kernel
theorem dX7_tag_59 : decode cX7_tag 59 = .ok (.iaload, 1) := by decide +kernel
theorem dX7_tag_60 : decode cX7_tag 60 = .ok (.invokevirtual 53, 3) := by decide +kernel
theorem dX7_tag_63 : decode cX7_tag 63 = .ok (.ireturn, 1) := by decide +kernel
theorem dX7_cached_0 : decode cX7_cached 0 = .ok (.aload_n 0, 1) := by decide +kernel
theorem dX7_cached_1 : decode cX7_cached 1 = .ok (.iconst 0, 1) := by decide +kernel
theorem dX7_cached_2 : decode cX7_cached 2 = .ok (.putfield 43, 3) := by decide +kernel
theorem dX7_cached_5 : decode cX7_cached 5 = .ok (.aload_n 0, 1) := by decide +kernel
theorem dX7_cached_6 : decode cX7_cached 6 = .ok (.iload_n 1, 1) := by decide +kernel
theorem dX7_cached_7 : decode cX7_cached 7 = .ok (.invokevirtual 374, 3) := by decide +kernel
theorem dX7_cached_10 : decode cX7_cached 10 = .ok (.ifCond .eq 25, 3) := by decide +kernel
theorem dX7_cached_13 : decode cX7_cached 13 = .ok (.aload_n 0, 1) := by decide +kernel
theorem dX7_cached_14 : decode cX7_cached 14 = .ok (.getfield 17, 3) := by decide +kernel
theorem dX7_cached_17 : decode cX7_cached 17 = .ok (.sipush 512, 3) := by decide +kernel
theorem dX7_cached_20 : decode cX7_cached 20 = .ok (.iload_n 1, 1) := by decide +kernel
theorem dX7_cached_21 : decode cX7_cached 21 = .ok (.iadd, 1) := by decide +kernel
theorem dX7_cached_22 : decode cX7_cached 22 = .ok (.iaload, 1) := by decide +kernel
theorem dX7_cached_23 : decode cX7_cached 23 = .ok (.ifCond .eq 12, 3) := by decide +kernel
theorem dX7_cached_26 : decode cX7_cached 26 = .ok (.iload_n 2, 1) := by decide +kernel
theorem dX7_cached_27 : decode cX7_cached 27 = .ok (.iconst 0, 1) := by decide +kernel
theorem dX7_cached_28 : decode cX7_cached 28 = .ok (.iconst 3, 1) := by decide +kernel
theorem dX7_cached_29 : decode cX7_cached 29 = .ok (.invokestatic 122, 3) := by decide +kernel
theorem dX7_cached_32 : decode cX7_cached 32 = .ok (.ifCond .ne 9, 3) := by decide +kernel
theorem dX7_cached_35 : decode cX7_cached 35 = .ok (.aload_n 0, 1) := by decide +kernel
theorem dX7_cached_36 : decode cX7_cached 36 = .ok (.iconst 1, 1) := by decide +kernel
theorem dX7_cached_37 : decode cX7_cached 37 = .ok (.invokevirtual 49, 3) := by decide +kernel
theorem dX7_cached_40 : decode cX7_cached 40 = .ok (.ireturn, 1) := by decide +kernel
theorem dX7_cached_41 : decode cX7_cached 41 = .ok (.aload_n 0, 1) := by decide +kernel
theorem dX7_cached_42 : decode cX7_cached 42 = .ok (.invokevirtual 380, 3) := by decide +kernel
theorem dX7_cached_45 : decode cX7_cached 45 = .ok (.iload_n 2, 1) := by decide +kernel
theorem dX7_cached_46 : decode cX7_cached 46 = .ok (.tableswitch 66 0 2 #[26, 36, 51], 26) := by decide +kernel
theorem dX7_cached_72 : decode cX7_cached 72 = .ok (.aload_n 0, 1) := by decide +kernel
theorem dX7_cached_73 : decode cX7_cached 73 = .ok (.aload_n 0, 1) := by decide +kernel
theorem dX7_cached_74 : decode cX7_cached 74 = .ok (.iload_n 1, 1) := by decide +kernel
theorem dX7_cached_75 : decode cX7_cached 75 = .ok (.invokevirtual 359, 3) := by decide +kernel
theorem dX7_cached_78 : decode cX7_cached 78 = .ok (.invokevirtual 53, 3) := by decide +kernel
theorem dX7_cached_81 : decode cX7_cached 81 = .ok (.ireturn, 1) := by decide +kernel
theorem dX7_cached_82 : decode cX7_cached 82 = .ok (.aload_n 0, 1) := by decide +kernel
theorem dX7_cached_83 : decode cX7_cached 83 = .ok (.aload_n 0, 1) := by decide +kernel
theorem dX7_cached_84 : decode cX7_cached 84 = .ok (.getfield 21, 3) := by decide +kernel
theorem dX7_cached_87 : decode cX7_cached 87 = .ok (.sipush 512, 3) := by decide +kernel
theorem dX7_cached_90 : decode cX7_cached 90 = .ok (.iload_n 1, 1) := by decide +kernel
theorem dX7_cached_91 : decode cX7_cached 91 = .ok (.iadd, 1) := by decide +kernel
theorem dX7_cached_92 : decode cX7_cached 92 = .ok (.iaload, 1) := by decide +kernel
theorem dX7_cached_93 : decode cX7_cached 93 = .ok (.invokevirtual 53, 3) := by decide +kernel
theorem dX7_cached_96 : decode cX7_cached 96 = .ok (.ireturn, 1) := by decide +kernel
theorem dX7_cached_97 : decode cX7_cached 97 = .ok (.aload_n 0, 1) := by decide +kernel
theorem dX7_cached_98 : decode cX7_cached 98 = .ok (.aload_n 0, 1) := by decide +kernel
theorem dX7_cached_99 : decode cX7_cached 99 = .ok (.getfield 21, 3) := by decide +kernel
theorem dX7_cached_102 : decode cX7_cached 102 = .ok (.sipush 576, 3) := by decide +kernel
theorem dX7_cached_105 : decode cX7_cached 105 = .ok (.iload_n 1, 1) := by decide +kernel
theorem dX7_cached_106 : decode cX7_cached 106 = .ok (.iadd, 1) := by decide +kernel
theorem dX7_cached_107 : decode cX7_cached 107 = .ok (.iaload, 1) := by decide +kernel
theorem dX7_cached_108 : decode cX7_cached 108 = .ok (.invokevirtual 53, 3) := by decide +kernel
theorem dX7_cached_111 : decode cX7_cached 111 = .ok (.ireturn, 1) := by decide +kernel
theorem dX7_cached_112 : decode cX7_cached 112 = .ok (.aload_n 0, 1) := by decide +kernel
theorem dX7_cached_113 : decode cX7_cached 113 = .ok (.aload_n 0, 1) := by decide +kernel
theorem dX7_cached_114 : decode cX7_cached 114 = .ok (.iload_n 1, 1) := by decide +kernel
theorem dX7_cached_115 : decode cX7_cached 115 = .ok (.invokevirtual 393, 3) := by decide +kernel
theorem dX7_cached_118 : decode cX7_cached 118 = .ok (.invokevirtual 53, 3) := by decide +kernel
theorem dX7_cached_121 : decode cX7_cached 121 = .ok (.ireturn, 1) := by decide +kernel
theorem dX7_isCached_0 : decode cX7_isCached 0 = .ok (.aload_n 0, 1) := by decide +kernel
theorem dX7_isCached_1 : decode cX7_isCached 1 = .ok (.iconst 0, 1) := by decide +kernel
theorem dX7_isCached_2 : decode cX7_isCached 2 = .ok (.putfield 43, 3) := by decide +kernel
theorem dX7_isCached_5 : decode cX7_isCached 5 = .ok (.aload_n 0, 1) := by decide +kernel
theorem dX7_isCached_6 : decode cX7_isCached 6 = .ok (.iload_n 1, 1) := by decide +kernel
theorem dX7_isCached_7 : decode cX7_isCached 7 = .ok (.invokevirtual 374, 3) := by decide +kernel
theorem dX7_isCached_10 : decode cX7_isCached 10 = .ok (.ifCond .eq 28, 3) := by decide +kernel
theorem dX7_isCached_13 : decode cX7_isCached 13 = .ok (.aload_n 0, 1) := by decide +kernel
theorem dX7_isCached_14 : decode cX7_isCached 14 = .ok (.aload_n 0, 1) := by decide +kernel
theorem dX7_isCached_15 : decode cX7_isCached 15 = .ok (.getfield 17, 3) := by decide +kernel
theorem dX7_isCached_18 : decode cX7_isCached 18 = .ok (.sipush 512, 3) := by decide +kernel
theorem dX7_isCached_21 : decode cX7_isCached 21 = .ok (.iload_n 1, 1) := by decide +kernel
theorem dX7_isCached_22 : decode cX7_isCached 22 = .ok (.iadd, 1) := by decide +kernel
theorem dX7_isCached_23 : decode cX7_isCached 23 = .ok (.iaload, 1) := by decide +kernel
theorem dX7_isCached_24 : decode cX7_isCached 24 = .ok (.ifCond .le 7, 3) := by decide +kernel
theorem dX7_isCached_27 : decode cX7_isCached 27 = .ok (.iconst 1, 1) := by decide +kernel
theorem dX7_isCached_28 : decode cX7_isCached 28 = .ok (.goto 4, 3) := by decide +kernel
theorem dX7_isCached_31 : decode cX7_isCached 31 = .ok (.iconst 0, 1) := by decide +kernel
theorem dX7_isCached_32 : decode cX7_isCached 32 = .ok (.invokevirtual 53, 3) := by decide +kernel
theorem dX7_isCached_35 : decode cX7_isCached 35 = .ok (.goto 8, 3) := by decide +kernel
theorem dX7_isCached_38 : decode cX7_isCached 38 = .ok (.aload_n 0, 1) := by decide +kernel
theorem dX7_isCached_39 : decode cX7_isCached 39 = .ok (.iconst 1, 1) := by decide +kernel
theorem dX7_isCached_40 : decode cX7_isCached 40 = .ok (.invokevirtual 49, 3) := by decide +kernel
theorem dX7_isCached_43 : decode cX7_isCached 43 = .ok (.ireturn, 1) := by decide +kernel
theorem dX7_victim_0 : decode cX7_victim 0 = .ok (.aload_n 0, 1) := by decide +kernel
theorem dX7_victim_1 : decode cX7_victim 1 = .ok (.iconst 0, 1) := by decide +kernel
theorem dX7_victim_2 : decode cX7_victim 2 = .ok (.putfield 43, 3) := by decide +kernel
theorem dX7_victim_5 : decode cX7_victim 5 = .ok (.aload_n 0, 1) := by decide +kernel
theorem dX7_victim_6 : decode cX7_victim 6 = .ok (.iload_n 1, 1) := by decide +kernel
theorem dX7_victim_7 : decode cX7_victim 7 = .ok (.invokevirtual 387, 3) := by decide +kernel
theorem dX7_victim_10 : decode cX7_victim 10 = .ok (.ifCond .ne 9, 3) := by decide +kernel
theorem dX7_victim_13 : decode cX7_victim 13 = .ok (.aload_n 0, 1) := by decide +kernel
theorem dX7_victim_14 : decode cX7_victim 14 = .ok (.iconst 1, 1) := by decide +kernel
theorem dX7_victim_15 : decode cX7_victim 15 = .ok (.invokevirtual 49, 3) := by decide +kernel
theorem dX7_victim_18 : decode cX7_victim 18 = .ok (.ireturn, 1) := by decide +kernel
theorem dX7_victim_19 : decode cX7_victim 19 = .ok (.aload_n 0, 1) := by decide +kernel
theorem dX7_victim_20 : decode cX7_victim 20 = .ok (.invokevirtual 380, 3) := by decide +kernel
theorem dX7_victim_23 : decode cX7_victim 23 = .ok (.aload_n 0, 1) := by decide +kernel
theorem dX7_victim_24 : decode cX7_victim 24 = .ok (.aload_n 0, 1) := by decide +kernel
theorem dX7_victim_25 : decode cX7_victim 25 = .ok (.iload_n 1, 1) := by decide +kernel
theorem dX7_victim_26 : decode cX7_victim 26 = .ok (.bipush (-2), 2) := by decide +kernel
theorem dX7_victim_28 : decode cX7_victim 28 = .ok (.invokevirtual 347, 3) := by decide +kernel
theorem dX7_victim_31 : decode cX7_victim 31 = .ok (.invokevirtual 53, 3) := by decide +kernel
theorem dX7_victim_34 : decode cX7_victim 34 = .ok (.ireturn, 1) := by decide +kernel
theorem dX7_makesRoom_0 : decode cX7_makesRoom 0 = .ok (.aload_n 0, 1) := by decide +kernel
theorem dX7_makesRoom_1 : decode cX7_makesRoom 1 = .ok (.iconst 0, 1) := by decide +kernel
theorem dX7_makesRoom_2 : decode cX7_makesRoom 2 = .ok (.putfield 43, 3) := by decide +kernel
theorem dX7_makesRoom_5 : decode cX7_makesRoom 5 = .ok (.aload_n 0, 1) := by decide +kernel
theorem dX7_makesRoom_6 : decode cX7_makesRoom 6 = .ok (.iload_n 1, 1) := by decide +kernel
theorem dX7_makesRoom_7 : decode cX7_makesRoom 7 = .ok (.invokevirtual 374, 3) := by decide +kernel
theorem dX7_makesRoom_10 : decode cX7_makesRoom 10 = .ok (.ifCond .ne 9, 3) := by decide +kernel
theorem dX7_makesRoom_13 : decode cX7_makesRoom 13 = .ok (.aload_n 0, 1) := by decide +kernel
theorem dX7_makesRoom_14 : decode cX7_makesRoom 14 = .ok (.iconst 1, 1) := by decide +kernel
theorem dX7_makesRoom_15 : decode cX7_makesRoom 15 = .ok (.invokevirtual 49, 3) := by decide +kernel
theorem dX7_makesRoom_18 : decode cX7_makesRoom 18 = .ok (.ireturn, 1) := by decide +kernel
theorem dX7_makesRoom_19 : decode cX7_makesRoom 19 = .ok (.aload_n 0, 1) := by decide +kernel
theorem dX7_makesRoom_20 : decode cX7_makesRoom 20 = .ok (.invokevirtual 380, 3) := by decide +kernel
theorem dX7_makesRoom_23 : decode cX7_makesRoom 23 = .ok (.aload_n 0, 1) := by decide +kernel
theorem dX7_makesRoom_24 : decode cX7_makesRoom 24 = .ok (.iload_n 1, 1) := by decide +kernel
theorem dX7_makesRoom_25 : decode cX7_makesRoom 25 = .ok (.invokevirtual 371, 3) := by decide +kernel
theorem dX7_makesRoom_28 : decode cX7_makesRoom 28 = .ok (.pop, 1) := by decide +kernel
theorem dX7_makesRoom_29 : decode cX7_makesRoom 29 = .ok (.aload_n 0, 1) := by decide +kernel
theorem dX7_makesRoom_30 : decode cX7_makesRoom 30 = .ok (.aload_n 0, 1) := by decide +kernel
theorem dX7_makesRoom_31 : decode cX7_makesRoom 31 = .ok (.getfield 270, 3) := by decide +kernel
theorem dX7_makesRoom_34 : decode cX7_makesRoom 34 = .ok (.invokevirtual 53, 3) := by decide +kernel
theorem dX7_makesRoom_37 : decode cX7_makesRoom 37 = .ok (.ireturn, 1) := by decide +kernel
theorem dX7_growsOver_0 : decode cX7_growsOver 0 = .ok (.aload_n 0, 1) := by decide +kernel
theorem dX7_growsOver_1 : decode cX7_growsOver 1 = .ok (.iconst 0, 1) := by decide +kernel
theorem dX7_growsOver_2 : decode cX7_growsOver 2 = .ok (.putfield 43, 3) := by decide +kernel
theorem dX7_growsOver_5 : decode cX7_growsOver 5 = .ok (.aload_n 0, 1) := by decide +kernel
theorem dX7_growsOver_6 : decode cX7_growsOver 6 = .ok (.iload_n 1, 1) := by decide +kernel
theorem dX7_growsOver_7 : decode cX7_growsOver 7 = .ok (.iload_n 2, 1) := by decide +kernel
theorem dX7_growsOver_8 : decode cX7_growsOver 8 = .ok (.invokevirtual 377, 3) := by decide +kernel
theorem dX7_growsOver_11 : decode cX7_growsOver 11 = .ok (.ifCond .ne 9, 3) := by decide +kernel
theorem dX7_growsOver_14 : decode cX7_growsOver 14 = .ok (.aload_n 0, 1) := by decide +kernel
theorem dX7_growsOver_15 : decode cX7_growsOver 15 = .ok (.iconst 1, 1) := by decide +kernel
theorem dX7_growsOver_16 : decode cX7_growsOver 16 = .ok (.invokevirtual 49, 3) := by decide +kernel
theorem dX7_growsOver_19 : decode cX7_growsOver 19 = .ok (.ireturn, 1) := by decide +kernel
theorem dX7_growsOver_20 : decode cX7_growsOver 20 = .ok (.iload_n 3, 1) := by decide +kernel
theorem dX7_growsOver_21 : decode cX7_growsOver 21 = .ok (.iconst 0, 1) := by decide +kernel
theorem dX7_growsOver_22 : decode cX7_growsOver 22 = .ok (.ldc 210, 2) := by decide +kernel
theorem dX7_growsOver_24 : decode cX7_growsOver 24 = .ok (.invokestatic 122, 3) := by decide +kernel
theorem dX7_growsOver_27 : decode cX7_growsOver 27 = .ok (.ifCond .ne 9, 3) := by decide +kernel
theorem dX7_growsOver_30 : decode cX7_growsOver 30 = .ok (.aload_n 0, 1) := by decide +kernel
theorem dX7_growsOver_31 : decode cX7_growsOver 31 = .ok (.iconst 2, 1) := by decide +kernel
theorem dX7_growsOver_32 : decode cX7_growsOver 32 = .ok (.invokevirtual 49, 3) := by decide +kernel
theorem dX7_growsOver_35 : decode cX7_growsOver 35 = .ok (.ireturn, 1) := by decide +kernel
theorem dX7_growsOver_36 : decode cX7_growsOver 36 = .ok (.aload_n 0, 1) := by decide +kernel
theorem dX7_growsOver_37 : decode cX7_growsOver 37 = .ok (.invokevirtual 380, 3) := by decide +kernel
theorem dX7_growsOver_40 : decode cX7_growsOver 40 = .ok (.aload_n 0, 1) := by decide +kernel
theorem dX7_growsOver_41 : decode cX7_growsOver 41 = .ok (.iload_n 1, 1) := by decide +kernel
theorem dX7_growsOver_42 : decode cX7_growsOver 42 = .ok (.iload_n 2, 1) := by decide +kernel
theorem dX7_growsOver_43 : decode cX7_growsOver 43 = .ok (.iload_n 3, 1) := by decide +kernel
theorem dX7_growsOver_44 : decode cX7_growsOver 44 = .ok (.invokevirtual 396, 3) := by decide +kernel
theorem dX7_growsOver_47 : decode cX7_growsOver 47 = .ok (.pop, 1) := by decide +kernel
theorem dX7_growsOver_48 : decode cX7_growsOver 48 = .ok (.aload_n 0, 1) := by decide +kernel
theorem dX7_growsOver_49 : decode cX7_growsOver 49 = .ok (.aload_n 0, 1) := by decide +kernel
theorem dX7_growsOver_50 : decode cX7_growsOver 50 = .ok (.getfield 270, 3) := by decide +kernel
theorem dX7_growsOver_53 : decode cX7_growsOver 53 = .ok (.invokevirtual 53, 3) := by decide +kernel
theorem dX7_growsOver_56 : decode cX7_growsOver 56 = .ok (.ireturn, 1) := by decide +kernel
theorem dX7_ratio_0 : decode cX7_ratio 0 = .ok (.aload_n 0, 1) := by decide +kernel
theorem dX7_ratio_1 : decode cX7_ratio 1 = .ok (.iconst 0, 1) := by decide +kernel
theorem dX7_ratio_2 : decode cX7_ratio 2 = .ok (.putfield 43, 3) := by decide +kernel
theorem dX7_ratio_5 : decode cX7_ratio 5 = .ok (.aload_n 0, 1) := by decide +kernel
theorem dX7_ratio_6 : decode cX7_ratio 6 = .ok (.getfield 255, 3) := by decide +kernel
theorem dX7_ratio_9 : decode cX7_ratio 9 = .ok (.ifnonnull 10, 3) := by decide +kernel
theorem dX7_ratio_12 : decode cX7_ratio 12 = .ok (.aload_n 0, 1) := by decide +kernel
theorem dX7_ratio_13 : decode cX7_ratio 13 = .ok (.iconst 1, 1) := by decide +kernel
theorem dX7_ratio_14 : decode cX7_ratio 14 = .ok (.invokevirtual 49, 3) := by decide +kernel
theorem dX7_ratio_17 : decode cX7_ratio 17 = .ok (.i2l, 1) := by decide +kernel
theorem dX7_ratio_18 : decode cX7_ratio 18 = .ok (.lreturn, 1) := by decide +kernel
theorem dX7_ratio_19 : decode cX7_ratio 19 = .ok (.aload_n 0, 1) := by decide +kernel
theorem dX7_ratio_20 : decode cX7_ratio 20 = .ok (.invokevirtual 380, 3) := by decide +kernel
theorem dX7_ratio_23 : decode cX7_ratio 23 = .ok (.iconst 0, 1) := by decide +kernel
theorem dX7_ratio_24 : decode cX7_ratio 24 = .ok (.istore_n 2, 1) := by decide +kernel
theorem dX7_ratio_25 : decode cX7_ratio 25 = .ok (.iconst 0, 1) := by decide +kernel
theorem dX7_ratio_26 : decode cX7_ratio 26 = .ok (.istore_n 3, 1) := by decide +kernel
theorem dX7_ratio_27 : decode cX7_ratio 27 = .ok (.iconst 0, 1) := by decide +kernel
theorem dX7_ratio_28 : decode cX7_ratio 28 = .ok (.istore 4, 2) := by decide +kernel
theorem dX7_ratio_30 : decode cX7_ratio 30 = .ok (.iload 4, 2) := by decide +kernel
theorem dX7_ratio_32 : decode cX7_ratio 32 = .ok (.bipush 32, 2) := by decide +kernel
theorem dX7_ratio_34 : decode cX7_ratio 34 = .ok (.if_icmp .ge 36, 3) := by decide +kernel
theorem dX7_ratio_37 : decode cX7_ratio 37 = .ok (.aload_n 0, 1) := by decide +kernel
theorem dX7_ratio_38 : decode cX7_ratio 38 = .ok (.iload 4, 2) := by decide +kernel
theorem dX7_ratio_40 : decode cX7_ratio 40 = .ok (.invokevirtual 279, 3) := by decide +kernel
theorem dX7_ratio_43 : decode cX7_ratio 43 = .ok (.ifCond .ne 6, 3) := by decide +kernel
theorem dX7_ratio_46 : decode cX7_ratio 46 = .ok (.goto 18, 3) := by decide +kernel
theorem dX7_ratio_49 : decode cX7_ratio 49 = .ok (.iinc 2 16, 3) := by decide +kernel
theorem dX7_ratio_52 : decode cX7_ratio 52 = .ok (.iload_n 3, 1) := by decide +kernel
theorem dX7_ratio_53 : decode cX7_ratio 53 = .ok (.aload_n 0, 1) := by decide +kernel
theorem dX7_ratio_54 : decode cX7_ratio 54 = .ok (.iload 4, 2) := by decide +kernel
theorem dX7_ratio_56 : decode cX7_ratio 56 = .ok (.invokevirtual 326, 3) := by decide +kernel
theorem dX7_ratio_59 : decode cX7_ratio 59 = .ok (.invokestatic 323, 3) := by decide +kernel
theorem dX7_ratio_62 : decode cX7_ratio 62 = .ok (.iadd, 1) := by decide +kernel
theorem dX7_ratio_63 : decode cX7_ratio 63 = .ok (.istore_n 3, 1) := by decide +kernel
theorem dX7_ratio_64 : decode cX7_ratio 64 = .ok (.iinc 4 1, 3) := by decide +kernel
theorem dX7_ratio_67 : decode cX7_ratio 67 = .ok (.goto (-37), 3) := by decide +kernel
theorem dX7_ratio_70 : decode cX7_ratio 70 = .ok (.iload_n 2, 1) := by decide +kernel
theorem dX7_ratio_71 : decode cX7_ratio 71 = .ok (.ifCond .ne 11, 3) := by decide +kernel
theorem dX7_ratio_74 : decode cX7_ratio 74 = .ok (.aload_n 0, 1) := by decide +kernel
theorem dX7_ratio_75 : decode cX7_ratio 75 = .ok (.lconst 1, 1) := by decide +kernel
theorem dX7_ratio_76 : decode cX7_ratio 76 = .ok (.lconst 1, 1) := by decide +kernel
theorem dX7_ratio_77 : decode cX7_ratio 77 = .ok (.iload_n 1, 1) := by decide +kernel
theorem dX7_ratio_78 : decode cX7_ratio 78 = .ok (.invokevirtual 399, 3) := by decide +kernel
theorem dX7_ratio_81 : decode cX7_ratio 81 = .ok (.lreturn, 1) := by decide +kernel
theorem dX7_ratio_82 : decode cX7_ratio 82 = .ok (.aload_n 0, 1) := by decide +kernel
theorem dX7_ratio_83 : decode cX7_ratio 83 = .ok (.iload_n 2, 1) := by decide +kernel
theorem dX7_ratio_84 : decode cX7_ratio 84 = .ok (.i2l, 1) := by decide +kernel
theorem dX7_ratio_85 : decode cX7_ratio 85 = .ok (.iload_n 3, 1) := by decide +kernel
theorem dX7_ratio_86 : decode cX7_ratio 86 = .ok (.i2l, 1) := by decide +kernel
theorem dX7_ratio_87 : decode cX7_ratio 87 = .ok (.iload_n 1, 1) := by decide +kernel
theorem dX7_ratio_88 : decode cX7_ratio 88 = .ok (.invokevirtual 399, 3) := by decide +kernel
theorem dX7_ratio_91 : decode cX7_ratio 91 = .ok (.lreturn, 1) := by decide +kernel
theorem dX7_lines_0 : decode cX7_lines 0 = .ok (.aload_n 0, 1) := by decide +kernel
theorem dX7_lines_1 : decode cX7_lines 1 = .ok (.iconst 0, 1) := by decide +kernel
theorem dX7_lines_2 : decode cX7_lines 2 = .ok (.putfield 43, 3) := by decide +kernel
theorem dX7_lines_5 : decode cX7_lines 5 = .ok (.aload_n 0, 1) := by decide +kernel
theorem dX7_lines_6 : decode cX7_lines 6 = .ok (.getfield 255, 3) := by decide +kernel
theorem dX7_lines_9 : decode cX7_lines 9 = .ok (.ifnonnull 9, 3) := by decide +kernel
theorem dX7_lines_12 : decode cX7_lines 12 = .ok (.aload_n 0, 1) := by decide +kernel
theorem dX7_lines_13 : decode cX7_lines 13 = .ok (.iconst 1, 1) := by decide +kernel
theorem dX7_lines_14 : decode cX7_lines 14 = .ok (.invokevirtual 49, 3) := by decide +kernel
theorem dX7_lines_17 : decode cX7_lines 17 = .ok (.ireturn, 1) := by decide +kernel
theorem dX7_lines_18 : decode cX7_lines 18 = .ok (.iconst 0, 1) := by decide +kernel
theorem dX7_lines_19 : decode cX7_lines 19 = .ok (.istore_n 1, 1) := by decide +kernel
theorem dX7_lines_20 : decode cX7_lines 20 = .ok (.iconst 0, 1) := by decide +kernel
theorem dX7_lines_21 : decode cX7_lines 21 = .ok (.istore_n 2, 1) := by decide +kernel
theorem dX7_lines_22 : decode cX7_lines 22 = .ok (.iload_n 2, 1) := by decide +kernel
theorem dX7_lines_23 : decode cX7_lines 23 = .ok (.bipush 32, 2) := by decide +kernel
theorem dX7_lines_25 : decode cX7_lines 25 = .ok (.if_icmp .ge 30, 3) := by decide +kernel
theorem dX7_lines_28 : decode cX7_lines 28 = .ok (.iload_n 1, 1) := by decide +kernel
theorem dX7_lines_29 : decode cX7_lines 29 = .ok (.aload_n 0, 1) := by decide +kernel
theorem dX7_lines_30 : decode cX7_lines 30 = .ok (.getfield 17, 3) := by decide +kernel
theorem dX7_lines_33 : decode cX7_lines 33 = .ok (.sipush 512, 3) := by decide +kernel
theorem dX7_lines_36 : decode cX7_lines 36 = .ok (.iload_n 2, 1) := by decide +kernel
theorem dX7_lines_37 : decode cX7_lines 37 = .ok (.iadd, 1) := by decide +kernel
theorem dX7_lines_38 : decode cX7_lines 38 = .ok (.iaload, 1) := by decide +kernel
theorem dX7_lines_39 : decode cX7_lines 39 = .ok (.ifCond .le 7, 3) := by decide +kernel
theorem dX7_lines_42 : decode cX7_lines 42 = .ok (.iconst 1, 1) := by decide +kernel
theorem dX7_lines_43 : decode cX7_lines 43 = .ok (.goto 4, 3) := by decide +kernel
theorem dX7_lines_46 : decode cX7_lines 46 = .ok (.iconst 0, 1) := by decide +kernel
theorem dX7_lines_47 : decode cX7_lines 47 = .ok (.iadd, 1) := by decide +kernel
theorem dX7_lines_48 : decode cX7_lines 48 = .ok (.istore_n 1, 1) := by decide +kernel
theorem dX7_lines_49 : decode cX7_lines 49 = .ok (.iinc 2 1, 3) := by decide +kernel
theorem dX7_lines_52 : decode cX7_lines 52 = .ok (.goto (-30), 3) := by decide +kernel
theorem dX7_lines_55 : decode cX7_lines 55 = .ok (.aload_n 0, 1) := by decide +kernel
theorem dX7_lines_56 : decode cX7_lines 56 = .ok (.iload_n 1, 1) := by decide +kernel
theorem dX7_lines_57 : decode cX7_lines 57 = .ok (.invokevirtual 53, 3) := by decide +kernel
theorem dX7_lines_60 : decode cX7_lines 60 = .ok (.ireturn, 1) := by decide +kernel
theorem dX7_steps_0 : decode cX7_steps 0 = .ok (.aload_n 0, 1) := by decide +kernel
theorem dX7_steps_1 : decode cX7_steps 1 = .ok (.iconst 0, 1) := by decide +kernel
theorem dX7_steps_2 : decode cX7_steps 2 = .ok (.putfield 403, 3) := by decide +kernel
theorem dX7_steps_5 : decode cX7_steps 5 = .ok (.aload_n 0, 1) := by decide +kernel
theorem dX7_steps_6 : decode cX7_steps 6 = .ok (.iconst 0, 1) := by decide +kernel
theorem dX7_steps_7 : decode cX7_steps 7 = .ok (.putfield 406, 3) := by decide +kernel
theorem dX7_steps_10 : decode cX7_steps 10 = .ok (.iconst 0, 1) := by decide +kernel
theorem dX7_steps_11 : decode cX7_steps 11 = .ok (.istore_n 1, 1) := by decide +kernel
theorem dX7_steps_12 : decode cX7_steps 12 = .ok (.iload_n 1, 1) := by decide +kernel
theorem dX7_steps_13 : decode cX7_steps 13 = .ok (.aload_n 0, 1) := by decide +kernel
theorem dX7_steps_14 : decode cX7_steps 14 = .ok (.getfield 255, 3) := by decide +kernel
theorem dX7_steps_17 : decode cX7_steps 17 = .ok (.getfield 214, 3) := by decide +kernel
theorem dX7_steps_20 : decode cX7_steps 20 = .ok (.if_icmp .ge 108, 3) := by decide +kernel
theorem dX7_steps_23 : decode cX7_steps 23 = .ok (.aload_n 0, 1) := by decide +kernel
theorem dX7_steps_24 : decode cX7_steps 24 = .ok (.getfield 255, 3) := by decide +kernel
theorem dX7_steps_27 : decode cX7_steps 27 = .ok (.getfield 222, 3) := by decide +kernel
theorem dX7_steps_30 : decode cX7_steps 30 = .ok (.iload_n 1, 1) := by decide +kernel
theorem dX7_steps_31 : decode cX7_steps 31 = .ok (.iaload, 1) := by decide +kernel
theorem dX7_steps_32 : decode cX7_steps 32 = .ok (.iconst (-1), 1) := by decide +kernel
theorem dX7_steps_33 : decode cX7_steps 33 = .ok (.if_icmp .ne 19, 3) := by decide +kernel
theorem dX7_steps_36 : decode cX7_steps 36 = .ok (.aload_n 0, 1) := by decide +kernel
theorem dX7_steps_37 : decode cX7_steps 37 = .ok (.aload_n 0, 1) := by decide +kernel
theorem dX7_steps_38 : decode cX7_steps 38 = .ok (.getfield 255, 3) := by decide +kernel
theorem dX7_steps_41 : decode cX7_steps 41 = .ok (.getfield 217, 3) := by decide +kernel
theorem dX7_steps_44 : decode cX7_steps 44 = .ok (.iload_n 1, 1) := by decide +kernel
theorem dX7_steps_45 : decode cX7_steps 45 = .ok (.iaload, 1) := by decide +kernel
theorem dX7_steps_46 : decode cX7_steps 46 = .ok (.invokevirtual 371, 3) := by decide +kernel
theorem dX7_steps_49 : decode cX7_steps 49 = .ok (.goto 34, 3) := by decide +kernel
theorem dX7_steps_52 : decode cX7_steps 52 = .ok (.aload_n 0, 1) := by decide +kernel
theorem dX7_steps_53 : decode cX7_steps 53 = .ok (.aload_n 0, 1) := by decide +kernel
theorem dX7_steps_54 : decode cX7_steps 54 = .ok (.getfield 255, 3) := by decide +kernel
theorem dX7_steps_57 : decode cX7_steps 57 = .ok (.getfield 217, 3) := by decide +kernel
theorem dX7_steps_60 : decode cX7_steps 60 = .ok (.iload_n 1, 1) := by decide +kernel
theorem dX7_steps_61 : decode cX7_steps 61 = .ok (.iaload, 1) := by decide +kernel
theorem dX7_steps_62 : decode cX7_steps 62 = .ok (.aload_n 0, 1) := by decide +kernel
theorem dX7_steps_63 : decode cX7_steps 63 = .ok (.getfield 255, 3) := by decide +kernel
theorem dX7_steps_66 : decode cX7_steps 66 = .ok (.getfield 219, 3) := by decide +kernel
theorem dX7_steps_69 : decode cX7_steps 69 = .ok (.iload_n 1, 1) := by decide +kernel
theorem dX7_steps_70 : decode cX7_steps 70 = .ok (.iaload, 1) := by decide +kernel
theorem dX7_steps_71 : decode cX7_steps 71 = .ok (.aload_n 0, 1) := by decide +kernel
theorem dX7_steps_72 : decode cX7_steps 72 = .ok (.getfield 255, 3) := by decide +kernel
theorem dX7_steps_75 : decode cX7_steps 75 = .ok (.getfield 222, 3) := by decide +kernel
theorem dX7_steps_78 : decode cX7_steps 78 = .ok (.iload_n 1, 1) := by decide +kernel
theorem dX7_steps_79 : decode cX7_steps 79 = .ok (.iaload, 1) := by decide +kernel
theorem dX7_steps_80 : decode cX7_steps 80 = .ok (.invokevirtual 396, 3) := by decide +kernel
theorem dX7_steps_83 : decode cX7_steps 83 = .ok (.istore_n 2, 1) := by decide +kernel
theorem dX7_steps_84 : decode cX7_steps 84 = .ok (.aload_n 0, 1) := by decide +kernel
theorem dX7_steps_85 : decode cX7_steps 85 = .ok (.dup, 1) := by decide +kernel
theorem dX7_steps_86 : decode cX7_steps 86 = .ok (.getfield 403, 3) := by decide +kernel
theorem dX7_steps_89 : decode cX7_steps 89 = .ok (.iload_n 2, 1) := by decide +kernel
theorem dX7_steps_90 : decode cX7_steps 90 = .ok (.ifCond .eq 9, 3) := by decide +kernel
theorem dX7_steps_93 : decode cX7_steps 93 = .ok (.iconst 1, 1) := by decide +kernel
theorem dX7_steps_94 : decode cX7_steps 94 = .ok (.iload_n 1, 1) := by decide +kernel
theorem dX7_steps_95 : decode cX7_steps 95 = .ok (.ishl, 1) := by decide +kernel
theorem dX7_steps_96 : decode cX7_steps 96 = .ok (.goto 4, 3) := by decide +kernel
theorem dX7_steps_99 : decode cX7_steps 99 = .ok (.iconst 0, 1) := by decide +kernel
theorem dX7_steps_100 : decode cX7_steps 100 = .ok (.ior, 1) := by decide +kernel
theorem dX7_steps_101 : decode cX7_steps 101 = .ok (.putfield 403, 3) := by decide +kernel
theorem dX7_steps_104 : decode cX7_steps 104 = .ok (.aload_n 0, 1) := by decide +kernel
theorem dX7_steps_105 : decode cX7_steps 105 = .ok (.dup, 1) := by decide +kernel
theorem dX7_steps_106 : decode cX7_steps 106 = .ok (.getfield 406, 3) := by decide +kernel
theorem dX7_steps_109 : decode cX7_steps 109 = .ok (.iload_n 2, 1) := by decide +kernel
theorem dX7_steps_110 : decode cX7_steps 110 = .ok (.ifCond .eq 7, 3) := by decide +kernel
theorem dX7_steps_113 : decode cX7_steps 113 = .ok (.iconst 1, 1) := by decide +kernel
theorem dX7_steps_114 : decode cX7_steps 114 = .ok (.goto 4, 3) := by decide +kernel
theorem dX7_steps_117 : decode cX7_steps 117 = .ok (.iconst 0, 1) := by decide +kernel
theorem dX7_steps_118 : decode cX7_steps 118 = .ok (.iadd, 1) := by decide +kernel
theorem dX7_steps_119 : decode cX7_steps 119 = .ok (.putfield 406, 3) := by decide +kernel
theorem dX7_steps_122 : decode cX7_steps 122 = .ok (.iinc 1 1, 3) := by decide +kernel
theorem dX7_steps_125 : decode cX7_steps 125 = .ok (.goto (-113), 3) := by decide +kernel
theorem dX7_steps_128 : decode cX7_steps 128 = .ok (.return_, 1) := by decide +kernel
theorem dX7_runs_0 : decode cX7_runs 0 = .ok (.aload_n 0, 1) := by decide +kernel
theorem dX7_runs_1 : decode cX7_runs 1 = .ok (.iconst 0, 1) := by decide +kernel
theorem dX7_runs_2 : decode cX7_runs 2 = .ok (.invokevirtual 257, 3) := by decide +kernel
theorem dX7_runs_5 : decode cX7_runs 5 = .ok (.aload_n 0, 1) := by decide +kernel
theorem dX7_runs_6 : decode cX7_runs 6 = .ok (.iload_n 1, 1) := by decide +kernel
theorem dX7_runs_7 : decode cX7_runs 7 = .ok (.putfield 269, 3) := by decide +kernel
theorem dX7_runs_10 : decode cX7_runs 10 = .ok (.aload_n 0, 1) := by decide +kernel
theorem dX7_runs_11 : decode cX7_runs 11 = .ok (.invokevirtual 409, 3) := by decide +kernel
theorem dX7_runs_14 : decode cX7_runs 14 = .ok (.return_, 1) := by decide +kernel
theorem dX7_runHits_0 : decode cX7_runHits 0 = .ok (.aload_n 0, 1) := by decide +kernel
theorem dX7_runHits_1 : decode cX7_runHits 1 = .ok (.iconst 0, 1) := by decide +kernel
theorem dX7_runHits_2 : decode cX7_runHits 2 = .ok (.putfield 43, 3) := by decide +kernel
theorem dX7_runHits_5 : decode cX7_runHits 5 = .ok (.aload_n 0, 1) := by decide +kernel
theorem dX7_runHits_6 : decode cX7_runHits 6 = .ok (.getfield 255, 3) := by decide +kernel
theorem dX7_runHits_9 : decode cX7_runHits 9 = .ok (.ifnonnull 9, 3) := by decide +kernel
theorem dX7_runHits_12 : decode cX7_runHits 12 = .ok (.aload_n 0, 1) := by decide +kernel
theorem dX7_runHits_13 : decode cX7_runHits 13 = .ok (.iconst 1, 1) := by decide +kernel
theorem dX7_runHits_14 : decode cX7_runHits 14 = .ok (.invokevirtual 49, 3) := by decide +kernel
theorem dX7_runHits_17 : decode cX7_runHits 17 = .ok (.ireturn, 1) := by decide +kernel
theorem dX7_runHits_18 : decode cX7_runHits 18 = .ok (.aload_n 0, 1) := by decide +kernel
theorem dX7_runHits_19 : decode cX7_runHits 19 = .ok (.aload_n 0, 1) := by decide +kernel
theorem dX7_runHits_20 : decode cX7_runHits 20 = .ok (.getfield 255, 3) := by decide +kernel
theorem dX7_runHits_23 : decode cX7_runHits 23 = .ok (.getfield 191, 3) := by decide +kernel
theorem dX7_runHits_26 : decode cX7_runHits 26 = .ok (.invokevirtual 411, 3) := by decide +kernel
theorem dX7_runHits_29 : decode cX7_runHits 29 = .ok (.aload_n 0, 1) := by decide +kernel
theorem dX7_runHits_30 : decode cX7_runHits 30 = .ok (.aload_n 0, 1) := by decide +kernel
theorem dX7_runHits_31 : decode cX7_runHits 31 = .ok (.getfield 406, 3) := by decide +kernel
theorem dX7_runHits_34 : decode cX7_runHits 34 = .ok (.invokevirtual 53, 3) := by decide +kernel
theorem dX7_runHits_37 : decode cX7_runHits 37 = .ok (.ireturn, 1) := by decide +kernel
theorem dX7_runVictims_0 : decode cX7_runVictims 0 = .ok (.aload_n 0, 1) := by decide +kernel
theorem dX7_runVictims_1 : decode cX7_runVictims 1 = .ok (.iconst 0, 1) := by decide +kernel
theorem dX7_runVictims_2 : decode cX7_runVictims 2 = .ok (.putfield 43, 3) := by decide +kernel
theorem dX7_runVictims_5 : decode cX7_runVictims 5 = .ok (.aload_n 0, 1) := by decide +kernel
theorem dX7_runVictims_6 : decode cX7_runVictims 6 = .ok (.getfield 255, 3) := by decide +kernel
theorem dX7_runVictims_9 : decode cX7_runVictims 9 = .ok (.ifnonnull 9, 3) := by decide +kernel
theorem dX7_runVictims_12 : decode cX7_runVictims 12 = .ok (.aload_n 0, 1) := by decide +kernel
theorem dX7_runVictims_13 : decode cX7_runVictims 13 = .ok (.iconst 1, 1) := by decide +kernel
theorem dX7_runVictims_14 : decode cX7_runVictims 14 = .ok (.invokevirtual 49, 3) := by decide +kernel
theorem dX7_runVictims_17 : decode cX7_runVictims 17 = .ok (.ireturn, 1) := by decide +kernel
theorem dX7_runVictims_18 : decode cX7_runVictims 18 = .ok (.aload_n 0, 1) := by decide +kernel
theorem dX7_runVictims_19 : decode cX7_runVictims 19 = .ok (.aload_n 0, 1) := by decide +kernel
theorem dX7_runVictims_20 : decode cX7_runVictims 20 = .ok (.getfield 255, 3) := by decide +kernel
theorem dX7_runVictims_23 : decode cX7_runVictims 23 = .ok (.getfield 191, 3) := by decide +kernel
theorem dX7_runVictims_26 : decode cX7_runVictims 26 = .ok (.invokevirtual 411, 3) := by decide +kernel
theorem dX7_runVictims_29 : decode cX7_runVictims 29 = .ok (.aload_n 0, 1) := by decide +kernel
theorem dX7_runVictims_30 : decode cX7_runVictims 30 = .ok (.aload_n 0, 1) := by decide +kernel
theorem dX7_runVictims_31 : decode cX7_runVictims 31 = .ok (.getfield 270, 3) := by decide +kernel
theorem dX7_runVictims_34 : decode cX7_runVictims 34 = .ok (.invokevirtual 53, 3) := by decide +kernel
theorem dX7_runVictims_37 : decode cX7_runVictims 37 = .ok (.ireturn, 1) := by decide +kernel
theorem dX7_runBacks_0 : decode cX7_runBacks 0 = .ok (.aload_n 0, 1) := by decide +kernel
theorem dX7_runBacks_1 : decode cX7_runBacks 1 = .ok (.iconst 0, 1) := by decide +kernel
theorem dX7_runBacks_2 : decode cX7_runBacks 2 = .ok (.putfield 43, 3) := by decide +kernel
theorem dX7_runBacks_5 : decode cX7_runBacks 5 = .ok (.aload_n 0, 1) := by decide +kernel
theorem dX7_runBacks_6 : decode cX7_runBacks 6 = .ok (.getfield 255, 3) := by decide +kernel
theorem dX7_runBacks_9 : decode cX7_runBacks 9 = .ok (.ifnonnull 9, 3) := by decide +kernel
theorem dX7_runBacks_12 : decode cX7_runBacks 12 = .ok (.aload_n 0, 1) := by decide +kernel
theorem dX7_runBacks_13 : decode cX7_runBacks 13 = .ok (.iconst 1, 1) := by decide +kernel
theorem dX7_runBacks_14 : decode cX7_runBacks 14 = .ok (.invokevirtual 49, 3) := by decide +kernel
theorem dX7_runBacks_17 : decode cX7_runBacks 17 = .ok (.ireturn, 1) := by decide +kernel
theorem dX7_runBacks_18 : decode cX7_runBacks 18 = .ok (.aload_n 0, 1) := by decide +kernel
theorem dX7_runBacks_19 : decode cX7_runBacks 19 = .ok (.aload_n 0, 1) := by decide +kernel
theorem dX7_runBacks_20 : decode cX7_runBacks 20 = .ok (.getfield 255, 3) := by decide +kernel
theorem dX7_runBacks_23 : decode cX7_runBacks 23 = .ok (.getfield 191, 3) := by decide +kernel
theorem dX7_runBacks_26 : decode cX7_runBacks 26 = .ok (.invokevirtual 411, 3) := by decide +kernel
theorem dX7_runBacks_29 : decode cX7_runBacks 29 = .ok (.aload_n 0, 1) := by decide +kernel
theorem dX7_runBacks_30 : decode cX7_runBacks 30 = .ok (.aload_n 0, 1) := by decide +kernel
theorem dX7_runBacks_31 : decode cX7_runBacks 31 = .ok (.getfield 273, 3) := by decide +kernel
theorem dX7_runBacks_34 : decode cX7_runBacks 34 = .ok (.invokevirtual 53, 3) := by decide +kernel
theorem dX7_runBacks_37 : decode cX7_runBacks 37 = .ok (.ireturn, 1) := by decide +kernel
theorem dX7_runStep_0 : decode cX7_runStep 0 = .ok (.aload_n 0, 1) := by decide +kernel
theorem dX7_runStep_1 : decode cX7_runStep 1 = .ok (.iconst 0, 1) := by decide +kernel
theorem dX7_runStep_2 : decode cX7_runStep 2 = .ok (.putfield 43, 3) := by decide +kernel
theorem dX7_runStep_5 : decode cX7_runStep 5 = .ok (.aload_n 0, 1) := by decide +kernel
theorem dX7_runStep_6 : decode cX7_runStep 6 = .ok (.getfield 255, 3) := by decide +kernel
theorem dX7_runStep_9 : decode cX7_runStep 9 = .ok (.ifnull 18, 3) := by decide +kernel
theorem dX7_runStep_12 : decode cX7_runStep 12 = .ok (.iload_n 1, 1) := by decide +kernel
theorem dX7_runStep_13 : decode cX7_runStep 13 = .ok (.ifCond .lt 14, 3) := by decide +kernel
theorem dX7_runStep_16 : decode cX7_runStep 16 = .ok (.iload_n 1, 1) := by decide +kernel
theorem dX7_runStep_17 : decode cX7_runStep 17 = .ok (.aload_n 0, 1) := by decide +kernel
theorem dX7_runStep_18 : decode cX7_runStep 18 = .ok (.getfield 255, 3) := by decide +kernel
theorem dX7_runStep_21 : decode cX7_runStep 21 = .ok (.getfield 214, 3) := by decide +kernel
theorem dX7_runStep_24 : decode cX7_runStep 24 = .ok (.if_icmp .lt 9, 3) := by decide +kernel
theorem dX7_runStep_27 : decode cX7_runStep 27 = .ok (.aload_n 0, 1) := by decide +kernel
theorem dX7_runStep_28 : decode cX7_runStep 28 = .ok (.iconst 1, 1) := by decide +kernel
theorem dX7_runStep_29 : decode cX7_runStep 29 = .ok (.invokevirtual 49, 3) := by decide +kernel
theorem dX7_runStep_32 : decode cX7_runStep 32 = .ok (.ireturn, 1) := by decide +kernel
theorem dX7_runStep_33 : decode cX7_runStep 33 = .ok (.aload_n 0, 1) := by decide +kernel
theorem dX7_runStep_34 : decode cX7_runStep 34 = .ok (.aload_n 0, 1) := by decide +kernel
theorem dX7_runStep_35 : decode cX7_runStep 35 = .ok (.getfield 255, 3) := by decide +kernel
theorem dX7_runStep_38 : decode cX7_runStep 38 = .ok (.getfield 191, 3) := by decide +kernel
theorem dX7_runStep_41 : decode cX7_runStep 41 = .ok (.invokevirtual 411, 3) := by decide +kernel
theorem dX7_runStep_44 : decode cX7_runStep 44 = .ok (.aload_n 0, 1) := by decide +kernel
theorem dX7_runStep_45 : decode cX7_runStep 45 = .ok (.aload_n 0, 1) := by decide +kernel
theorem dX7_runStep_46 : decode cX7_runStep 46 = .ok (.getfield 403, 3) := by decide +kernel
theorem dX7_runStep_49 : decode cX7_runStep 49 = .ok (.iload_n 1, 1) := by decide +kernel
theorem dX7_runStep_50 : decode cX7_runStep 50 = .ok (.invokestatic 206, 3) := by decide +kernel
theorem dX7_runStep_53 : decode cX7_runStep 53 = .ok (.ifCond .eq 7, 3) := by decide +kernel
theorem dX7_runStep_56 : decode cX7_runStep 56 = .ok (.iconst 1, 1) := by decide +kernel
theorem dX7_runStep_57 : decode cX7_runStep 57 = .ok (.goto 4, 3) := by decide +kernel
theorem dX7_runStep_60 : decode cX7_runStep 60 = .ok (.iconst 0, 1) := by decide +kernel
theorem dX7_runStep_61 : decode cX7_runStep 61 = .ok (.invokevirtual 53, 3) := by decide +kernel
theorem dX7_runStep_64 : decode cX7_runStep 64 = .ok (.ireturn, 1) := by decide +kernel
theorem dX7_plainAt_0 : decode cX7_plainAt 0 = .ok (.iconst 0, 1) := by decide +kernel
theorem dX7_plainAt_1 : decode cX7_plainAt 1 = .ok (.istore_n 2, 1) := by decide +kernel
theorem dX7_plainAt_2 : decode cX7_plainAt 2 = .ok (.iload_n 2, 1) := by decide +kernel
theorem dX7_plainAt_3 : decode cX7_plainAt 3 = .ok (.aload_n 0, 1) := by decide +kernel
theorem dX7_plainAt_4 : decode cX7_plainAt 4 = .ok (.getfield 255, 3) := by decide +kernel
theorem dX7_plainAt_7 : decode cX7_plainAt 7 = .ok (.getfield 191, 3) := by decide +kernel
theorem dX7_plainAt_10 : decode cX7_plainAt 10 = .ok (.if_icmp .ge 27, 3) := by decide +kernel
theorem dX7_plainAt_13 : decode cX7_plainAt 13 = .ok (.aload_n 0, 1) := by decide +kernel
theorem dX7_plainAt_14 : decode cX7_plainAt 14 = .ok (.getfield 33, 3) := by decide +kernel
theorem dX7_plainAt_17 : decode cX7_plainAt 17 = .ok (.iconst 4, 1) := by decide +kernel
theorem dX7_plainAt_18 : decode cX7_plainAt 18 = .ok (.aload_n 0, 1) := by decide +kernel
theorem dX7_plainAt_19 : decode cX7_plainAt 19 = .ok (.iload_n 1, 1) := by decide +kernel
theorem dX7_plainAt_20 : decode cX7_plainAt 20 = .ok (.invokevirtual 359, 3) := by decide +kernel
theorem dX7_plainAt_23 : decode cX7_plainAt 23 = .ok (.imul, 1) := by decide +kernel
theorem dX7_plainAt_24 : decode cX7_plainAt 24 = .ok (.iload_n 2, 1) := by decide +kernel
theorem dX7_plainAt_25 : decode cX7_plainAt 25 = .ok (.iadd, 1) := by decide +kernel
theorem dX7_plainAt_26 : decode cX7_plainAt 26 = .ok (.iaload, 1) := by decide +kernel
theorem dX7_plainAt_27 : decode cX7_plainAt 27 = .ok (.iload_n 1, 1) := by decide +kernel
theorem dX7_plainAt_28 : decode cX7_plainAt 28 = .ok (.if_icmp .eq 9, 3) := by decide +kernel
theorem dX7_plainAt_31 : decode cX7_plainAt 31 = .ok (.iinc 2 1, 3) := by decide +kernel
theorem dX7_plainAt_34 : decode cX7_plainAt 34 = .ok (.goto (-32), 3) := by decide +kernel
theorem dX7_plainAt_37 : decode cX7_plainAt 37 = .ok (.iload_n 2, 1) := by decide +kernel
theorem dX7_plainAt_38 : decode cX7_plainAt 38 = .ok (.ireturn, 1) := by decide +kernel
theorem dX7_plainUse_0 : decode cX7_plainUse 0 = .ok (.iconst 4, 1) := by decide +kernel
theorem dX7_plainUse_1 : decode cX7_plainUse 1 = .ok (.aload_n 0, 1) := by decide +kernel
theorem dX7_plainUse_2 : decode cX7_plainUse 2 = .ok (.iload_n 1, 1) := by decide +kernel
theorem dX7_plainUse_3 : decode cX7_plainUse 3 = .ok (.invokevirtual 359, 3) := by decide +kernel
theorem dX7_plainUse_6 : decode cX7_plainUse 6 = .ok (.imul, 1) := by decide +kernel
theorem dX7_plainUse_7 : decode cX7_plainUse 7 = .ok (.istore_n 3, 1) := by decide +kernel
theorem dX7_plainUse_8 : decode cX7_plainUse 8 = .ok (.aload_n 0, 1) := by decide +kernel
theorem dX7_plainUse_9 : decode cX7_plainUse 9 = .ok (.iload_n 1, 1) := by decide +kernel
theorem dX7_plainUse_10 : decode cX7_plainUse 10 = .ok (.invokevirtual 414, 3) := by decide +kernel
theorem dX7_plainUse_13 : decode cX7_plainUse 13 = .ok (.istore 4, 2) := by decide +kernel
theorem dX7_plainUse_15 : decode cX7_plainUse 15 = .ok (.iload 4, 2) := by decide +kernel
theorem dX7_plainUse_17 : decode cX7_plainUse 17 = .ok (.aload_n 0, 1) := by decide +kernel
theorem dX7_plainUse_18 : decode cX7_plainUse 18 = .ok (.getfield 255, 3) := by decide +kernel
theorem dX7_plainUse_21 : decode cX7_plainUse 21 = .ok (.getfield 191, 3) := by decide +kernel
theorem dX7_plainUse_24 : decode cX7_plainUse 24 = .ok (.if_icmp .ge 7, 3) := by decide +kernel
theorem dX7_plainUse_27 : decode cX7_plainUse 27 = .ok (.iconst 1, 1) := by decide +kernel
theorem dX7_plainUse_28 : decode cX7_plainUse 28 = .ok (.goto 4, 3) := by decide +kernel
theorem dX7_plainUse_31 : decode cX7_plainUse 31 = .ok (.iconst 0, 1) := by decide +kernel
theorem dX7_plainUse_32 : decode cX7_plainUse 32 = .ok (.istore 5, 2) := by decide +kernel
theorem dX7_plainUse_34 : decode cX7_plainUse 34 = .ok (.iload 5, 2) := by decide +kernel
theorem dX7_plainUse_36 : decode cX7_plainUse 36 = .ok (.ifCond .ne 6, 3) := by decide +kernel
theorem dX7_plainUse_39 : decode cX7_plainUse 39 = .ok (.iinc 4 (-1), 3) := by decide +kernel
theorem dX7_plainUse_42 : decode cX7_plainUse 42 = .ok (.aload_n 0, 1) := by decide +kernel
theorem dX7_plainUse_43 : decode cX7_plainUse 43 = .ok (.getfield 36, 3) := by decide +kernel
theorem dX7_plainUse_46 : decode cX7_plainUse 46 = .ok (.iload_n 3, 1) := by decide +kernel
theorem dX7_plainUse_47 : decode cX7_plainUse 47 = .ok (.iload 4, 2) := by decide +kernel
theorem dX7_plainUse_49 : decode cX7_plainUse 49 = .ok (.iadd, 1) := by decide +kernel
theorem dX7_plainUse_50 : decode cX7_plainUse 50 = .ok (.baload, 1) := by decide +kernel
theorem dX7_plainUse_51 : decode cX7_plainUse 51 = .ok (.istore 6, 2) := by decide +kernel
theorem dX7_plainUse_53 : decode cX7_plainUse 53 = .ok (.iload 5, 2) := by decide +kernel
theorem dX7_plainUse_55 : decode cX7_plainUse 55 = .ok (.ifCond .ne 31, 3) := by decide +kernel
theorem dX7_plainUse_58 : decode cX7_plainUse 58 = .ok (.aload_n 0, 1) := by decide +kernel
theorem dX7_plainUse_59 : decode cX7_plainUse 59 = .ok (.getfield 33, 3) := by decide +kernel
theorem dX7_plainUse_62 : decode cX7_plainUse 62 = .ok (.iload_n 3, 1) := by decide +kernel
theorem dX7_plainUse_63 : decode cX7_plainUse 63 = .ok (.iload 4, 2) := by decide +kernel
theorem dX7_plainUse_65 : decode cX7_plainUse 65 = .ok (.iadd, 1) := by decide +kernel
theorem dX7_plainUse_66 : decode cX7_plainUse 66 = .ok (.iaload, 1) := by decide +kernel
theorem dX7_plainUse_67 : decode cX7_plainUse 67 = .ok (.iconst (-1), 1) := by decide +kernel
theorem dX7_plainUse_68 : decode cX7_plainUse 68 = .ok (.if_icmp .eq 18, 3) := by decide +kernel
theorem dX7_plainUse_71 : decode cX7_plainUse 71 = .ok (.iload 6, 2) := by decide +kernel
theorem dX7_plainUse_73 : decode cX7_plainUse 73 = .ok (.ifCond .eq 13, 3) := by decide +kernel
theorem dX7_plainUse_76 : decode cX7_plainUse 76 = .ok (.aload_n 0, 1) := by decide +kernel
theorem dX7_plainUse_77 : decode cX7_plainUse 77 = .ok (.dup, 1) := by decide +kernel
theorem dX7_plainUse_78 : decode cX7_plainUse 78 = .ok (.getfield 417, 3) := by decide +kernel
theorem dX7_plainUse_81 : decode cX7_plainUse 81 = .ok (.iconst 1, 1) := by decide +kernel
theorem dX7_plainUse_82 : decode cX7_plainUse 82 = .ok (.iadd, 1) := by decide +kernel
theorem dX7_plainUse_83 : decode cX7_plainUse 83 = .ok (.putfield 417, 3) := by decide +kernel
theorem dX7_plainUse_86 : decode cX7_plainUse 86 = .ok (.iload 5, 2) := by decide +kernel
theorem dX7_plainUse_88 : decode cX7_plainUse 88 = .ok (.ifCond .eq 13, 3) := by decide +kernel
theorem dX7_plainUse_91 : decode cX7_plainUse 91 = .ok (.aload_n 0, 1) := by decide +kernel
theorem dX7_plainUse_92 : decode cX7_plainUse 92 = .ok (.dup, 1) := by decide +kernel
theorem dX7_plainUse_93 : decode cX7_plainUse 93 = .ok (.getfield 420, 3) := by decide +kernel
theorem dX7_plainUse_96 : decode cX7_plainUse 96 = .ok (.iconst 1, 1) := by decide +kernel
theorem dX7_plainUse_97 : decode cX7_plainUse 97 = .ok (.iadd, 1) := by decide +kernel
theorem dX7_plainUse_98 : decode cX7_plainUse 98 = .ok (.putfield 420, 3) := by decide +kernel
theorem dX7_plainUse_101 : decode cX7_plainUse 101 = .ok (.iload 4, 2) := by decide +kernel
theorem dX7_plainUse_103 : decode cX7_plainUse 103 = .ok (.istore 7, 2) := by decide +kernel
theorem dX7_plainUse_105 : decode cX7_plainUse 105 = .ok (.iload 7, 2) := by decide +kernel
theorem dX7_plainUse_107 : decode cX7_plainUse 107 = .ok (.ifCond .le 49, 3) := by decide +kernel
theorem dX7_plainUse_110 : decode cX7_plainUse 110 = .ok (.aload_n 0, 1) := by decide +kernel
theorem dX7_plainUse_111 : decode cX7_plainUse 111 = .ok (.getfield 33, 3) := by decide +kernel
theorem dX7_plainUse_114 : decode cX7_plainUse 114 = .ok (.iload_n 3, 1) := by decide +kernel
theorem dX7_plainUse_115 : decode cX7_plainUse 115 = .ok (.iload 7, 2) := by decide +kernel
theorem dX7_plainUse_117 : decode cX7_plainUse 117 = .ok (.iadd, 1) := by decide +kernel
theorem dX7_plainUse_118 : decode cX7_plainUse 118 = .ok (.aload_n 0, 1) := by decide +kernel
theorem dX7_plainUse_119 : decode cX7_plainUse 119 = .ok (.getfield 33, 3) := by decide +kernel
theorem dX7_plainUse_122 : decode cX7_plainUse 122 = .ok (.iload_n 3, 1) := by decide +kernel
theorem dX7_plainUse_123 : decode cX7_plainUse 123 = .ok (.iload 7, 2) := by decide +kernel
theorem dX7_plainUse_125 : decode cX7_plainUse 125 = .ok (.iadd, 1) := by decide +kernel
theorem dX7_plainUse_126 : decode cX7_plainUse 126 = .ok (.iconst 1, 1) := by decide +kernel
theorem dX7_plainUse_127 : decode cX7_plainUse 127 = .ok (.isub, 1) := by decide +kernel
theorem dX7_plainUse_128 : decode cX7_plainUse 128 = .ok (.iaload, 1) := by decide +kernel
theorem dX7_plainUse_129 : decode cX7_plainUse 129 = .ok (.iastore, 1) := by decide +kernel
theorem dX7_plainUse_130 : decode cX7_plainUse 130 = .ok (.aload_n 0, 1) := by decide +kernel
theorem dX7_plainUse_131 : decode cX7_plainUse 131 = .ok (.getfield 36, 3) := by decide +kernel
theorem dX7_plainUse_134 : decode cX7_plainUse 134 = .ok (.iload_n 3, 1) := by decide +kernel
theorem dX7_plainUse_135 : decode cX7_plainUse 135 = .ok (.iload 7, 2) := by decide +kernel
theorem dX7_plainUse_137 : decode cX7_plainUse 137 = .ok (.iadd, 1) := by decide +kernel
theorem dX7_plainUse_138 : decode cX7_plainUse 138 = .ok (.aload_n 0, 1) := by decide +kernel
theorem dX7_plainUse_139 : decode cX7_plainUse 139 = .ok (.getfield 36, 3) := by decide +kernel
theorem dX7_plainUse_142 : decode cX7_plainUse 142 = .ok (.iload_n 3, 1) := by decide +kernel
theorem dX7_plainUse_143 : decode cX7_plainUse 143 = .ok (.iload 7, 2) := by decide +kernel
theorem dX7_plainUse_145 : decode cX7_plainUse 145 = .ok (.iadd, 1) := by decide +kernel
theorem dX7_plainUse_146 : decode cX7_plainUse 146 = .ok (.iconst 1, 1) := by decide +kernel
theorem dX7_plainUse_147 : decode cX7_plainUse 147 = .ok (.isub, 1) := by decide +kernel
theorem dX7_plainUse_148 : decode cX7_plainUse 148 = .ok (.baload, 1) := by decide +kernel
theorem dX7_plainUse_149 : decode cX7_plainUse 149 = .ok (.bastore, 1) := by decide +kernel
theorem dX7_plainUse_150 : decode cX7_plainUse 150 = .ok (.iinc 7 (-1), 3) := by decide +kernel
theorem dX7_plainUse_153 : decode cX7_plainUse 153 = .ok (.goto (-48), 3) := by decide +kernel
theorem dX7_plainUse_156 : decode cX7_plainUse 156 = .ok (.aload_n 0, 1) := by decide +kernel
theorem dX7_plainUse_157 : decode cX7_plainUse 157 = .ok (.getfield 33, 3) := by decide +kernel
theorem dX7_plainUse_160 : decode cX7_plainUse 160 = .ok (.iload_n 3, 1) := by decide +kernel
theorem dX7_plainUse_161 : decode cX7_plainUse 161 = .ok (.iload_n 1, 1) := by decide +kernel
theorem dX7_plainUse_162 : decode cX7_plainUse 162 = .ok (.iastore, 1) := by decide +kernel
theorem dX7_plainUse_163 : decode cX7_plainUse 163 = .ok (.aload_n 0, 1) := by decide +kernel
theorem dX7_plainUse_164 : decode cX7_plainUse 164 = .ok (.getfield 36, 3) := by decide +kernel
theorem dX7_plainUse_167 : decode cX7_plainUse 167 = .ok (.iload_n 3, 1) := by decide +kernel
theorem dX7_plainUse_168 : decode cX7_plainUse 168 = .ok (.iload_n 2, 1) := by decide +kernel
theorem dX7_plainUse_169 : decode cX7_plainUse 169 = .ok (.ifCond .ne 13, 3) := by decide +kernel
theorem dX7_plainUse_172 : decode cX7_plainUse 172 = .ok (.iload 5, 2) := by decide +kernel
theorem dX7_plainUse_174 : decode cX7_plainUse 174 = .ok (.ifCond .eq 12, 3) := by decide +kernel
theorem dX7_plainUse_177 : decode cX7_plainUse 177 = .ok (.iload 6, 2) := by decide +kernel
theorem dX7_plainUse_179 : decode cX7_plainUse 179 = .ok (.ifCond .eq 7, 3) := by decide +kernel
theorem dX7_plainUse_182 : decode cX7_plainUse 182 = .ok (.iconst 1, 1) := by decide +kernel
theorem dX7_plainUse_183 : decode cX7_plainUse 183 = .ok (.goto 4, 3) := by decide +kernel
theorem dX7_plainUse_186 : decode cX7_plainUse 186 = .ok (.iconst 0, 1) := by decide +kernel
theorem dX7_plainUse_187 : decode cX7_plainUse 187 = .ok (.bastore, 1) := by decide +kernel
theorem dX7_plainUse_188 : decode cX7_plainUse 188 = .ok (.return_, 1) := by decide +kernel
theorem dX7_plainly_0 : decode cX7_plainly 0 = .ok (.iconst 0, 1) := by decide +kernel
theorem dX7_plainly_1 : decode cX7_plainly 1 = .ok (.istore_n 1, 1) := by decide +kernel
theorem dX7_plainly_2 : decode cX7_plainly 2 = .ok (.iload_n 1, 1) := by decide +kernel
theorem dX7_plainly_3 : decode cX7_plainly 3 = .ok (.bipush 16, 2) := by decide +kernel
theorem dX7_plainly_5 : decode cX7_plainly 5 = .ok (.if_icmp .ge 23, 3) := by decide +kernel
theorem dX7_plainly_8 : decode cX7_plainly 8 = .ok (.aload_n 0, 1) := by decide +kernel
theorem dX7_plainly_9 : decode cX7_plainly 9 = .ok (.getfield 33, 3) := by decide +kernel
theorem dX7_plainly_12 : decode cX7_plainly 12 = .ok (.iload_n 1, 1) := by decide +kernel
theorem dX7_plainly_13 : decode cX7_plainly 13 = .ok (.iconst (-1), 1) := by decide +kernel
theorem dX7_plainly_14 : decode cX7_plainly 14 = .ok (.iastore, 1) := by decide +kernel
theorem dX7_plainly_15 : decode cX7_plainly 15 = .ok (.aload_n 0, 1) := by decide +kernel
theorem dX7_plainly_16 : decode cX7_plainly 16 = .ok (.getfield 36, 3) := by decide +kernel
theorem dX7_plainly_19 : decode cX7_plainly 19 = .ok (.iload_n 1, 1) := by decide +kernel
theorem dX7_plainly_20 : decode cX7_plainly 20 = .ok (.iconst 0, 1) := by decide +kernel
theorem dX7_plainly_21 : decode cX7_plainly 21 = .ok (.bastore, 1) := by decide +kernel
theorem dX7_plainly_22 : decode cX7_plainly 22 = .ok (.iinc 1 1, 3) := by decide +kernel
theorem dX7_plainly_25 : decode cX7_plainly 25 = .ok (.goto (-23), 3) := by decide +kernel
theorem dX7_plainly_28 : decode cX7_plainly 28 = .ok (.aload_n 0, 1) := by decide +kernel
theorem dX7_plainly_29 : decode cX7_plainly 29 = .ok (.iconst 0, 1) := by decide +kernel
theorem dX7_plainly_30 : decode cX7_plainly 30 = .ok (.putfield 420, 3) := by decide +kernel
theorem dX7_plainly_33 : decode cX7_plainly 33 = .ok (.aload_n 0, 1) := by decide +kernel
theorem dX7_plainly_34 : decode cX7_plainly 34 = .ok (.iconst 0, 1) := by decide +kernel
theorem dX7_plainly_35 : decode cX7_plainly 35 = .ok (.putfield 417, 3) := by decide +kernel
theorem dX7_plainly_38 : decode cX7_plainly 38 = .ok (.iconst 0, 1) := by decide +kernel
theorem dX7_plainly_39 : decode cX7_plainly 39 = .ok (.istore_n 1, 1) := by decide +kernel
theorem dX7_plainly_40 : decode cX7_plainly 40 = .ok (.iload_n 1, 1) := by decide +kernel
theorem dX7_plainly_41 : decode cX7_plainly 41 = .ok (.aload_n 0, 1) := by decide +kernel
theorem dX7_plainly_42 : decode cX7_plainly 42 = .ok (.getfield 255, 3) := by decide +kernel
theorem dX7_plainly_45 : decode cX7_plainly 45 = .ok (.getfield 214, 3) := by decide +kernel
theorem dX7_plainly_48 : decode cX7_plainly 48 = .ok (.if_icmp .ge 40, 3) := by decide +kernel
theorem dX7_plainly_51 : decode cX7_plainly 51 = .ok (.aload_n 0, 1) := by decide +kernel
theorem dX7_plainly_52 : decode cX7_plainly 52 = .ok (.aload_n 0, 1) := by decide +kernel
theorem dX7_plainly_53 : decode cX7_plainly 53 = .ok (.getfield 255, 3) := by decide +kernel
theorem dX7_plainly_56 : decode cX7_plainly 56 = .ok (.getfield 217, 3) := by decide +kernel
theorem dX7_plainly_59 : decode cX7_plainly 59 = .ok (.iload_n 1, 1) := by decide +kernel
theorem dX7_plainly_60 : decode cX7_plainly 60 = .ok (.iaload, 1) := by decide +kernel
theorem dX7_plainly_61 : decode cX7_plainly 61 = .ok (.aload_n 0, 1) := by decide +kernel
theorem dX7_plainly_62 : decode cX7_plainly 62 = .ok (.getfield 255, 3) := by decide +kernel
theorem dX7_plainly_65 : decode cX7_plainly 65 = .ok (.getfield 222, 3) := by decide +kernel
theorem dX7_plainly_68 : decode cX7_plainly 68 = .ok (.iload_n 1, 1) := by decide +kernel
theorem dX7_plainly_69 : decode cX7_plainly 69 = .ok (.iaload, 1) := by decide +kernel
theorem dX7_plainly_70 : decode cX7_plainly 70 = .ok (.iconst (-1), 1) := by decide +kernel
theorem dX7_plainly_71 : decode cX7_plainly 71 = .ok (.if_icmp .eq 7, 3) := by decide +kernel
theorem dX7_plainly_74 : decode cX7_plainly 74 = .ok (.iconst 1, 1) := by decide +kernel
theorem dX7_plainly_75 : decode cX7_plainly 75 = .ok (.goto 4, 3) := by decide +kernel
theorem dX7_plainly_78 : decode cX7_plainly 78 = .ok (.iconst 0, 1) := by decide +kernel
theorem dX7_plainly_79 : decode cX7_plainly 79 = .ok (.invokevirtual 423, 3) := by decide +kernel
theorem dX7_plainly_82 : decode cX7_plainly 82 = .ok (.iinc 1 1, 3) := by decide +kernel
theorem dX7_plainly_85 : decode cX7_plainly 85 = .ok (.goto (-45), 3) := by decide +kernel
theorem dX7_plainly_88 : decode cX7_plainly 88 = .ok (.return_, 1) := by decide +kernel
theorem dX7_plainHits_0 : decode cX7_plainHits 0 = .ok (.aload_n 0, 1) := by decide +kernel
theorem dX7_plainHits_1 : decode cX7_plainHits 1 = .ok (.iconst 0, 1) := by decide +kernel
theorem dX7_plainHits_2 : decode cX7_plainHits 2 = .ok (.putfield 43, 3) := by decide +kernel
theorem dX7_plainHits_5 : decode cX7_plainHits 5 = .ok (.aload_n 0, 1) := by decide +kernel
theorem dX7_plainHits_6 : decode cX7_plainHits 6 = .ok (.getfield 255, 3) := by decide +kernel
theorem dX7_plainHits_9 : decode cX7_plainHits 9 = .ok (.ifnonnull 9, 3) := by decide +kernel
theorem dX7_plainHits_12 : decode cX7_plainHits 12 = .ok (.aload_n 0, 1) := by decide +kernel
theorem dX7_plainHits_13 : decode cX7_plainHits 13 = .ok (.iconst 1, 1) := by decide +kernel
theorem dX7_plainHits_14 : decode cX7_plainHits 14 = .ok (.invokevirtual 49, 3) := by decide +kernel
theorem dX7_plainHits_17 : decode cX7_plainHits 17 = .ok (.ireturn, 1) := by decide +kernel
theorem dX7_plainHits_18 : decode cX7_plainHits 18 = .ok (.aload_n 0, 1) := by decide +kernel
theorem dX7_plainHits_19 : decode cX7_plainHits 19 = .ok (.invokevirtual 427, 3) := by decide +kernel
theorem dX7_plainHits_22 : decode cX7_plainHits 22 = .ok (.aload_n 0, 1) := by decide +kernel
theorem dX7_plainHits_23 : decode cX7_plainHits 23 = .ok (.aload_n 0, 1) := by decide +kernel
theorem dX7_plainHits_24 : decode cX7_plainHits 24 = .ok (.getfield 420, 3) := by decide +kernel
theorem dX7_plainHits_27 : decode cX7_plainHits 27 = .ok (.invokevirtual 53, 3) := by decide +kernel
theorem dX7_plainHits_30 : decode cX7_plainHits 30 = .ok (.ireturn, 1) := by decide +kernel
theorem dX7_plainBacks_0 : decode cX7_plainBacks 0 = .ok (.aload_n 0, 1) := by decide +kernel
theorem dX7_plainBacks_1 : decode cX7_plainBacks 1 = .ok (.iconst 0, 1) := by decide +kernel
theorem dX7_plainBacks_2 : decode cX7_plainBacks 2 = .ok (.putfield 43, 3) := by decide +kernel
theorem dX7_plainBacks_5 : decode cX7_plainBacks 5 = .ok (.aload_n 0, 1) := by decide +kernel
theorem dX7_plainBacks_6 : decode cX7_plainBacks 6 = .ok (.getfield 255, 3) := by decide +kernel
theorem dX7_plainBacks_9 : decode cX7_plainBacks 9 = .ok (.ifnonnull 9, 3) := by decide +kernel
theorem dX7_plainBacks_12 : decode cX7_plainBacks 12 = .ok (.aload_n 0, 1) := by decide +kernel
theorem dX7_plainBacks_13 : decode cX7_plainBacks 13 = .ok (.iconst 1, 1) := by decide +kernel
theorem dX7_plainBacks_14 : decode cX7_plainBacks 14 = .ok (.invokevirtual 49, 3) := by decide +kernel
theorem dX7_plainBacks_17 : decode cX7_plainBacks 17 = .ok (.ireturn, 1) := by decide +kernel
theorem dX7_plainBacks_18 : decode cX7_plainBacks 18 = .ok (.aload_n 0, 1) := by decide +kernel
theorem dX7_plainBacks_19 : decode cX7_plainBacks 19 = .ok (.invokevirtual 427, 3) := by decide +kernel
theorem dX7_plainBacks_22 : decode cX7_plainBacks 22 = .ok (.aload_n 0, 1) := by decide +kernel
theorem dX7_plainBacks_23 : decode cX7_plainBacks 23 = .ok (.aload_n 0, 1) := by decide +kernel
theorem dX7_plainBacks_24 : decode cX7_plainBacks 24 = .ok (.getfield 417, 3) := by decide +kernel
theorem dX7_plainBacks_27 : decode cX7_plainBacks 27 = .ok (.invokevirtual 53, 3) := by decide +kernel
theorem dX7_plainBacks_30 : decode cX7_plainBacks 30 = .ok (.ireturn, 1) := by decide +kernel
theorem dX7_hitsBy_0 : decode cX7_hitsBy 0 = .ok (.aload_n 0, 1) := by decide +kernel
theorem dX7_hitsBy_1 : decode cX7_hitsBy 1 = .ok (.iconst 0, 1) := by decide +kernel
theorem dX7_hitsBy_2 : decode cX7_hitsBy 2 = .ok (.putfield 43, 3) := by decide +kernel
theorem dX7_hitsBy_5 : decode cX7_hitsBy 5 = .ok (.aload_n 0, 1) := by decide +kernel
theorem dX7_hitsBy_6 : decode cX7_hitsBy 6 = .ok (.getfield 255, 3) := by decide +kernel
theorem dX7_hitsBy_9 : decode cX7_hitsBy 9 = .ok (.ifnonnull 9, 3) := by decide +kernel
theorem dX7_hitsBy_12 : decode cX7_hitsBy 12 = .ok (.aload_n 0, 1) := by decide +kernel
theorem dX7_hitsBy_13 : decode cX7_hitsBy 13 = .ok (.iconst 1, 1) := by decide +kernel
theorem dX7_hitsBy_14 : decode cX7_hitsBy 14 = .ok (.invokevirtual 49, 3) := by decide +kernel
theorem dX7_hitsBy_17 : decode cX7_hitsBy 17 = .ok (.ireturn, 1) := by decide +kernel
theorem dX7_hitsBy_18 : decode cX7_hitsBy 18 = .ok (.iload_n 1, 1) := by decide +kernel
theorem dX7_hitsBy_19 : decode cX7_hitsBy 19 = .ok (.iconst 1, 1) := by decide +kernel
theorem dX7_hitsBy_20 : decode cX7_hitsBy 20 = .ok (.iconst 4, 1) := by decide +kernel
theorem dX7_hitsBy_21 : decode cX7_hitsBy 21 = .ok (.invokestatic 122, 3) := by decide +kernel
theorem dX7_hitsBy_24 : decode cX7_hitsBy 24 = .ok (.ifCond .ne 9, 3) := by decide +kernel
theorem dX7_hitsBy_27 : decode cX7_hitsBy 27 = .ok (.aload_n 0, 1) := by decide +kernel
theorem dX7_hitsBy_28 : decode cX7_hitsBy 28 = .ok (.iconst 2, 1) := by decide +kernel
theorem dX7_hitsBy_29 : decode cX7_hitsBy 29 = .ok (.invokevirtual 49, 3) := by decide +kernel
theorem dX7_hitsBy_32 : decode cX7_hitsBy 32 = .ok (.ireturn, 1) := by decide +kernel
theorem dX7_hitsBy_33 : decode cX7_hitsBy 33 = .ok (.aload_n 0, 1) := by decide +kernel
theorem dX7_hitsBy_34 : decode cX7_hitsBy 34 = .ok (.iload_n 1, 1) := by decide +kernel
theorem dX7_hitsBy_35 : decode cX7_hitsBy 35 = .ok (.invokevirtual 411, 3) := by decide +kernel
theorem dX7_hitsBy_38 : decode cX7_hitsBy 38 = .ok (.aload_n 0, 1) := by decide +kernel
theorem dX7_hitsBy_39 : decode cX7_hitsBy 39 = .ok (.aload_n 0, 1) := by decide +kernel
theorem dX7_hitsBy_40 : decode cX7_hitsBy 40 = .ok (.getfield 406, 3) := by decide +kernel
theorem dX7_hitsBy_43 : decode cX7_hitsBy 43 = .ok (.invokevirtual 53, 3) := by decide +kernel
theorem dX7_hitsBy_46 : decode cX7_hitsBy 46 = .ok (.ireturn, 1) := by decide +kernel
theorem dX7_waysFor_0 : decode cX7_waysFor 0 = .ok (.aload_n 0, 1) := by decide +kernel
theorem dX7_waysFor_1 : decode cX7_waysFor 1 = .ok (.iconst 0, 1) := by decide +kernel
theorem dX7_waysFor_2 : decode cX7_waysFor 2 = .ok (.putfield 43, 3) := by decide +kernel
theorem dX7_waysFor_5 : decode cX7_waysFor 5 = .ok (.aload_n 0, 1) := by decide +kernel
theorem dX7_waysFor_6 : decode cX7_waysFor 6 = .ok (.getfield 255, 3) := by decide +kernel
theorem dX7_waysFor_9 : decode cX7_waysFor 9 = .ok (.ifnonnull 9, 3) := by decide +kernel
theorem dX7_waysFor_12 : decode cX7_waysFor 12 = .ok (.aload_n 0, 1) := by decide +kernel
theorem dX7_waysFor_13 : decode cX7_waysFor 13 = .ok (.iconst 1, 1) := by decide +kernel
theorem dX7_waysFor_14 : decode cX7_waysFor 14 = .ok (.invokevirtual 49, 3) := by decide +kernel
theorem dX7_waysFor_17 : decode cX7_waysFor 17 = .ok (.ireturn, 1) := by decide +kernel
theorem dX7_waysFor_18 : decode cX7_waysFor 18 = .ok (.iload_n 1, 1) := by decide +kernel
theorem dX7_waysFor_19 : decode cX7_waysFor 19 = .ok (.iconst 0, 1) := by decide +kernel
theorem dX7_waysFor_20 : decode cX7_waysFor 20 = .ok (.bipush 16, 2) := by decide +kernel
theorem dX7_waysFor_22 : decode cX7_waysFor 22 = .ok (.invokestatic 122, 3) := by decide +kernel
theorem dX7_waysFor_25 : decode cX7_waysFor 25 = .ok (.ifCond .ne 9, 3) := by decide +kernel
theorem dX7_waysFor_28 : decode cX7_waysFor 28 = .ok (.aload_n 0, 1) := by decide +kernel
theorem dX7_waysFor_29 : decode cX7_waysFor 29 = .ok (.iconst 2, 1) := by decide +kernel
theorem dX7_waysFor_30 : decode cX7_waysFor 30 = .ok (.invokevirtual 49, 3) := by decide +kernel
theorem dX7_waysFor_33 : decode cX7_waysFor 33 = .ok (.ireturn, 1) := by decide +kernel
theorem dX7_waysFor_34 : decode cX7_waysFor 34 = .ok (.iconst 1, 1) := by decide +kernel
theorem dX7_waysFor_35 : decode cX7_waysFor 35 = .ok (.istore_n 2, 1) := by decide +kernel
theorem dX7_waysFor_36 : decode cX7_waysFor 36 = .ok (.iload_n 2, 1) := by decide +kernel
theorem dX7_waysFor_37 : decode cX7_waysFor 37 = .ok (.iconst 4, 1) := by decide +kernel
theorem dX7_waysFor_38 : decode cX7_waysFor 38 = .ok (.if_icmp .gt 28, 3) := by decide +kernel
theorem dX7_waysFor_41 : decode cX7_waysFor 41 = .ok (.aload_n 0, 1) := by decide +kernel
theorem dX7_waysFor_42 : decode cX7_waysFor 42 = .ok (.iload_n 2, 1) := by decide +kernel
theorem dX7_waysFor_43 : decode cX7_waysFor 43 = .ok (.invokevirtual 411, 3) := by decide +kernel
theorem dX7_waysFor_46 : decode cX7_waysFor 46 = .ok (.aload_n 0, 1) := by decide +kernel
theorem dX7_waysFor_47 : decode cX7_waysFor 47 = .ok (.getfield 406, 3) := by decide +kernel
theorem dX7_waysFor_50 : decode cX7_waysFor 50 = .ok (.iload_n 1, 1) := by decide +kernel
theorem dX7_waysFor_51 : decode cX7_waysFor 51 = .ok (.if_icmp .lt 9, 3) := by decide +kernel
theorem dX7_waysFor_54 : decode cX7_waysFor 54 = .ok (.aload_n 0, 1) := by decide +kernel
theorem dX7_waysFor_55 : decode cX7_waysFor 55 = .ok (.iload_n 2, 1) := by decide +kernel
theorem dX7_waysFor_56 : decode cX7_waysFor 56 = .ok (.invokevirtual 53, 3) := by decide +kernel
theorem dX7_waysFor_59 : decode cX7_waysFor 59 = .ok (.ireturn, 1) := by decide +kernel
theorem dX7_waysFor_60 : decode cX7_waysFor 60 = .ok (.iinc 2 1, 3) := by decide +kernel
theorem dX7_waysFor_63 : decode cX7_waysFor 63 = .ok (.goto (-27), 3) := by decide +kernel
theorem dX7_waysFor_66 : decode cX7_waysFor 66 = .ok (.aload_n 0, 1) := by decide +kernel
theorem dX7_waysFor_67 : decode cX7_waysFor 67 = .ok (.bipush (-2), 2) := by decide +kernel
theorem dX7_waysFor_69 : decode cX7_waysFor 69 = .ok (.invokevirtual 53, 3) := by decide +kernel
theorem dX7_waysFor_72 : decode cX7_waysFor 72 = .ok (.ireturn, 1) := by decide +kernel
theorem dX7_wrongSaw_0 : decode cX7_wrongSaw 0 = .ok (.aload_n 0, 1) := by decide +kernel
theorem dX7_wrongSaw_1 : decode cX7_wrongSaw 1 = .ok (.iload_n 1, 1) := by decide +kernel
theorem dX7_wrongSaw_2 : decode cX7_wrongSaw 2 = .ok (.invokevirtual 257, 3) := by decide +kernel
theorem dX7_wrongSaw_5 : decode cX7_wrongSaw 5 = .ok (.aload_n 0, 1) := by decide +kernel
theorem dX7_wrongSaw_6 : decode cX7_wrongSaw 6 = .ok (.invokevirtual 409, 3) := by decide +kernel
theorem dX7_wrongSaw_9 : decode cX7_wrongSaw 9 = .ok (.iconst 0, 1) := by decide +kernel
theorem dX7_wrongSaw_10 : decode cX7_wrongSaw 10 = .ok (.istore_n 2, 1) := by decide +kernel
theorem dX7_wrongSaw_11 : decode cX7_wrongSaw 11 = .ok (.iload_n 2, 1) := by decide +kernel
theorem dX7_wrongSaw_12 : decode cX7_wrongSaw 12 = .ok (.aload_n 0, 1) := by decide +kernel
theorem dX7_wrongSaw_13 : decode cX7_wrongSaw 13 = .ok (.getfield 255, 3) := by decide +kernel
theorem dX7_wrongSaw_16 : decode cX7_wrongSaw 16 = .ok (.getfield 237, 3) := by decide +kernel
theorem dX7_wrongSaw_19 : decode cX7_wrongSaw 19 = .ok (.if_icmp .ge 41, 3) := by decide +kernel
theorem dX7_wrongSaw_22 : decode cX7_wrongSaw 22 = .ok (.aload_n 0, 1) := by decide +kernel
theorem dX7_wrongSaw_23 : decode cX7_wrongSaw 23 = .ok (.getfield 403, 3) := by decide +kernel
theorem dX7_wrongSaw_26 : decode cX7_wrongSaw 26 = .ok (.aload_n 0, 1) := by decide +kernel
theorem dX7_wrongSaw_27 : decode cX7_wrongSaw 27 = .ok (.getfield 255, 3) := by decide +kernel
theorem dX7_wrongSaw_30 : decode cX7_wrongSaw 30 = .ok (.getfield 240, 3) := by decide +kernel
theorem dX7_wrongSaw_33 : decode cX7_wrongSaw 33 = .ok (.iload_n 2, 1) := by decide +kernel
theorem dX7_wrongSaw_34 : decode cX7_wrongSaw 34 = .ok (.iaload, 1) := by decide +kernel
theorem dX7_wrongSaw_35 : decode cX7_wrongSaw 35 = .ok (.invokestatic 206, 3) := by decide +kernel
theorem dX7_wrongSaw_38 : decode cX7_wrongSaw 38 = .ok (.aload_n 0, 1) := by decide +kernel
theorem dX7_wrongSaw_39 : decode cX7_wrongSaw 39 = .ok (.getfield 255, 3) := by decide +kernel
theorem dX7_wrongSaw_42 : decode cX7_wrongSaw 42 = .ok (.getfield 246, 3) := by decide +kernel
theorem dX7_wrongSaw_45 : decode cX7_wrongSaw 45 = .ok (.iload_n 2, 1) := by decide +kernel
theorem dX7_wrongSaw_46 : decode cX7_wrongSaw 46 = .ok (.invokestatic 206, 3) := by decide +kernel
theorem dX7_wrongSaw_49 : decode cX7_wrongSaw 49 = .ok (.if_icmp .eq 5, 3) := by decide +kernel
theorem dX7_wrongSaw_52 : decode cX7_wrongSaw 52 = .ok (.iload_n 2, 1) := by decide +kernel
theorem dX7_wrongSaw_53 : decode cX7_wrongSaw 53 = .ok (.ireturn, 1) := by decide +kernel
theorem dX7_wrongSaw_54 : decode cX7_wrongSaw 54 = .ok (.iinc 2 1, 3) := by decide +kernel
theorem dX7_wrongSaw_57 : decode cX7_wrongSaw 57 = .ok (.goto (-46), 3) := by decide +kernel
theorem dX7_wrongSaw_60 : decode cX7_wrongSaw 60 = .ok (.bipush (-2), 2) := by decide +kernel
theorem dX7_wrongSaw_62 : decode cX7_wrongSaw 62 = .ok (.ireturn, 1) := by decide +kernel
theorem dX7_fitting_0 : decode cX7_fitting 0 = .ok (.aload_n 0, 1) := by decide +kernel
theorem dX7_fitting_1 : decode cX7_fitting 1 = .ok (.iconst 0, 1) := by decide +kernel
theorem dX7_fitting_2 : decode cX7_fitting 2 = .ok (.putfield 430, 3) := by decide +kernel
theorem dX7_fitting_5 : decode cX7_fitting 5 = .ok (.aload_n 0, 1) := by decide +kernel
theorem dX7_fitting_6 : decode cX7_fitting 6 = .ok (.iconst 0, 1) := by decide +kernel
theorem dX7_fitting_7 : decode cX7_fitting 7 = .ok (.putfield 433, 3) := by decide +kernel
theorem dX7_fitting_10 : decode cX7_fitting 10 = .ok (.aload_n 0, 1) := by decide +kernel
theorem dX7_fitting_11 : decode cX7_fitting 11 = .ok (.iconst 1, 1) := by decide +kernel
theorem dX7_fitting_12 : decode cX7_fitting 12 = .ok (.aload_n 0, 1) := by decide +kernel
theorem dX7_fitting_13 : decode cX7_fitting 13 = .ok (.getfield 255, 3) := by decide +kernel
theorem dX7_fitting_16 : decode cX7_fitting 16 = .ok (.getfield 225, 3) := by decide +kernel
theorem dX7_fitting_19 : decode cX7_fitting 19 = .ok (.ishl, 1) := by decide +kernel
theorem dX7_fitting_20 : decode cX7_fitting 20 = .ok (.iconst 1, 1) := by decide +kernel
theorem dX7_fitting_21 : decode cX7_fitting 21 = .ok (.isub, 1) := by decide +kernel
theorem dX7_fitting_22 : decode cX7_fitting 22 = .ok (.putfield 436, 3) := by decide +kernel
theorem dX7_fitting_25 : decode cX7_fitting 25 = .ok (.iconst (-1), 1) := by decide +kernel
theorem dX7_fitting_26 : decode cX7_fitting 26 = .ok (.istore_n 2, 1) := by decide +kernel
theorem dX7_fitting_27 : decode cX7_fitting 27 = .ok (.iconst 0, 1) := by decide +kernel
theorem dX7_fitting_28 : decode cX7_fitting 28 = .ok (.istore_n 3, 1) := by decide +kernel
theorem dX7_fitting_29 : decode cX7_fitting 29 = .ok (.iload_n 3, 1) := by decide +kernel
theorem dX7_fitting_30 : decode cX7_fitting 30 = .ok (.iconst 4, 1) := by decide +kernel
theorem dX7_fitting_31 : decode cX7_fitting 31 = .ok (.if_icmp .ge 16, 3) := by decide +kernel
theorem dX7_fitting_34 : decode cX7_fitting 34 = .ok (.aload_n 0, 1) := by decide +kernel
theorem dX7_fitting_35 : decode cX7_fitting 35 = .ok (.getfield 40, 3) := by decide +kernel
theorem dX7_fitting_38 : decode cX7_fitting 38 = .ok (.iload_n 3, 1) := by decide +kernel
theorem dX7_fitting_39 : decode cX7_fitting 39 = .ok (.iconst 0, 1) := by decide +kernel
theorem dX7_fitting_40 : decode cX7_fitting 40 = .ok (.iastore, 1) := by decide +kernel
theorem dX7_fitting_41 : decode cX7_fitting 41 = .ok (.iinc 3 1, 3) := by decide +kernel
theorem dX7_fitting_44 : decode cX7_fitting 44 = .ok (.goto (-15), 3) := by decide +kernel
theorem dX7_fitting_47 : decode cX7_fitting 47 = .ok (.iconst 0, 1) := by decide +kernel
theorem dX7_fitting_48 : decode cX7_fitting 48 = .ok (.istore_n 3, 1) := by decide +kernel
theorem dX7_fitting_49 : decode cX7_fitting 49 = .ok (.iload_n 3, 1) := by decide +kernel
theorem dX7_fitting_50 : decode cX7_fitting 50 = .ok (.iconst 1, 1) := by decide +kernel
theorem dX7_fitting_51 : decode cX7_fitting 51 = .ok (.aload_n 0, 1) := by decide +kernel
theorem dX7_fitting_52 : decode cX7_fitting 52 = .ok (.getfield 255, 3) := by decide +kernel
theorem dX7_fitting_55 : decode cX7_fitting 55 = .ok (.getfield 225, 3) := by decide +kernel
theorem dX7_fitting_58 : decode cX7_fitting 58 = .ok (.ishl, 1) := by decide +kernel
theorem dX7_fitting_59 : decode cX7_fitting 59 = .ok (.if_icmp .ge 107, 3) := by decide +kernel
theorem dX7_fitting_62 : decode cX7_fitting 62 = .ok (.aload_n 0, 1) := by decide +kernel
theorem dX7_fitting_63 : decode cX7_fitting 63 = .ok (.iload_n 3, 1) := by decide +kernel
theorem dX7_fitting_64 : decode cX7_fitting 64 = .ok (.invokevirtual 439, 3) := by decide +kernel
theorem dX7_fitting_67 : decode cX7_fitting 67 = .ok (.bipush (-2), 2) := by decide +kernel
theorem dX7_fitting_69 : decode cX7_fitting 69 = .ok (.if_icmp .eq 6, 3) := by decide +kernel
theorem dX7_fitting_72 : decode cX7_fitting 72 = .ok (.goto 88, 3) := by decide +kernel
theorem dX7_fitting_75 : decode cX7_fitting 75 = .ok (.aload_n 0, 1) := by decide +kernel
theorem dX7_fitting_76 : decode cX7_fitting 76 = .ok (.getfield 430, 3) := by decide +kernel
theorem dX7_fitting_79 : decode cX7_fitting 79 = .ok (.iload_n 1, 1) := by decide +kernel
theorem dX7_fitting_80 : decode cX7_fitting 80 = .ok (.if_icmp .ne 5, 3) := by decide +kernel
theorem dX7_fitting_83 : decode cX7_fitting 83 = .ok (.iload_n 3, 1) := by decide +kernel
theorem dX7_fitting_84 : decode cX7_fitting 84 = .ok (.istore_n 2, 1) := by decide +kernel
theorem dX7_fitting_85 : decode cX7_fitting 85 = .ok (.aload_n 0, 1) := by decide +kernel
theorem dX7_fitting_86 : decode cX7_fitting 86 = .ok (.dup, 1) := by decide +kernel
theorem dX7_fitting_87 : decode cX7_fitting 87 = .ok (.getfield 430, 3) := by decide +kernel
theorem dX7_fitting_90 : decode cX7_fitting 90 = .ok (.iconst 1, 1) := by decide +kernel
theorem dX7_fitting_91 : decode cX7_fitting 91 = .ok (.iadd, 1) := by decide +kernel
theorem dX7_fitting_92 : decode cX7_fitting 92 = .ok (.putfield 430, 3) := by decide +kernel
theorem dX7_fitting_95 : decode cX7_fitting 95 = .ok (.aload_n 0, 1) := by decide +kernel
theorem dX7_fitting_96 : decode cX7_fitting 96 = .ok (.dup, 1) := by decide +kernel
theorem dX7_fitting_97 : decode cX7_fitting 97 = .ok (.getfield 433, 3) := by decide +kernel
theorem dX7_fitting_100 : decode cX7_fitting 100 = .ok (.iload_n 3, 1) := by decide +kernel
theorem dX7_fitting_101 : decode cX7_fitting 101 = .ok (.ior, 1) := by decide +kernel
theorem dX7_fitting_102 : decode cX7_fitting 102 = .ok (.putfield 433, 3) := by decide +kernel
theorem dX7_fitting_105 : decode cX7_fitting 105 = .ok (.aload_n 0, 1) := by decide +kernel
theorem dX7_fitting_106 : decode cX7_fitting 106 = .ok (.dup, 1) := by decide +kernel
theorem dX7_fitting_107 : decode cX7_fitting 107 = .ok (.getfield 436, 3) := by decide +kernel
theorem dX7_fitting_110 : decode cX7_fitting 110 = .ok (.iload_n 3, 1) := by decide +kernel
theorem dX7_fitting_111 : decode cX7_fitting 111 = .ok (.iand, 1) := by decide +kernel
theorem dX7_fitting_112 : decode cX7_fitting 112 = .ok (.putfield 436, 3) := by decide +kernel
theorem dX7_fitting_115 : decode cX7_fitting 115 = .ok (.iconst 0, 1) := by decide +kernel
theorem dX7_fitting_116 : decode cX7_fitting 116 = .ok (.istore 4, 2) := by decide +kernel
theorem dX7_fitting_118 : decode cX7_fitting 118 = .ok (.iload 4, 2) := by decide +kernel
theorem dX7_fitting_120 : decode cX7_fitting 120 = .ok (.aload_n 0, 1) := by decide +kernel
theorem dX7_fitting_121 : decode cX7_fitting 121 = .ok (.getfield 255, 3) := by decide +kernel
theorem dX7_fitting_124 : decode cX7_fitting 124 = .ok (.getfield 225, 3) := by decide +kernel
theorem dX7_fitting_127 : decode cX7_fitting 127 = .ok (.if_icmp .ge 33, 3) := by decide +kernel
theorem dX7_fitting_130 : decode cX7_fitting 130 = .ok (.aload_n 0, 1) := by decide +kernel
theorem dX7_fitting_131 : decode cX7_fitting 131 = .ok (.getfield 40, 3) := by decide +kernel
theorem dX7_fitting_134 : decode cX7_fitting 134 = .ok (.iload 4, 2) := by decide +kernel
theorem dX7_fitting_136 : decode cX7_fitting 136 = .ok (.dup2, 1) := by decide +kernel
theorem dX7_fitting_137 : decode cX7_fitting 137 = .ok (.iaload, 1) := by decide +kernel
theorem dX7_fitting_138 : decode cX7_fitting 138 = .ok (.iload_n 3, 1) := by decide +kernel
theorem dX7_fitting_139 : decode cX7_fitting 139 = .ok (.iload 4, 2) := by decide +kernel
theorem dX7_fitting_141 : decode cX7_fitting 141 = .ok (.invokestatic 206, 3) := by decide +kernel
theorem dX7_fitting_144 : decode cX7_fitting 144 = .ok (.ifCond .eq 7, 3) := by decide +kernel
theorem dX7_fitting_147 : decode cX7_fitting 147 = .ok (.iconst 1, 1) := by decide +kernel
theorem dX7_fitting_148 : decode cX7_fitting 148 = .ok (.goto 4, 3) := by decide +kernel
theorem dX7_fitting_151 : decode cX7_fitting 151 = .ok (.iconst 0, 1) := by decide +kernel
theorem dX7_fitting_152 : decode cX7_fitting 152 = .ok (.iadd, 1) := by decide +kernel
theorem dX7_fitting_153 : decode cX7_fitting 153 = .ok (.iastore, 1) := by decide +kernel
theorem dX7_fitting_154 : decode cX7_fitting 154 = .ok (.iinc 4 1, 3) := by decide +kernel
theorem dX7_fitting_157 : decode cX7_fitting 157 = .ok (.goto (-39), 3) := by decide +kernel
theorem dX7_fitting_160 : decode cX7_fitting 160 = .ok (.iinc 3 1, 3) := by decide +kernel
theorem dX7_fitting_163 : decode cX7_fitting 163 = .ok (.goto (-114), 3) := by decide +kernel
theorem dX7_fitting_166 : decode cX7_fitting 166 = .ok (.aload_n 0, 1) := by decide +kernel
theorem dX7_fitting_167 : decode cX7_fitting 167 = .ok (.getfield 430, 3) := by decide +kernel
theorem dX7_fitting_170 : decode cX7_fitting 170 = .ok (.ifCond .ne 8, 3) := by decide +kernel
theorem dX7_fitting_173 : decode cX7_fitting 173 = .ok (.aload_n 0, 1) := by decide +kernel
theorem dX7_fitting_174 : decode cX7_fitting 174 = .ok (.iconst 0, 1) := by decide +kernel
theorem dX7_fitting_175 : decode cX7_fitting 175 = .ok (.putfield 436, 3) := by decide +kernel
theorem dX7_fitting_178 : decode cX7_fitting 178 = .ok (.iload_n 2, 1) := by decide +kernel
theorem dX7_fitting_179 : decode cX7_fitting 179 = .ok (.ireturn, 1) := by decide +kernel
theorem dX7_fits_0 : decode cX7_fits 0 = .ok (.aload_n 0, 1) := by decide +kernel
theorem dX7_fits_1 : decode cX7_fits 1 = .ok (.iconst 0, 1) := by decide +kernel
theorem dX7_fits_2 : decode cX7_fits 2 = .ok (.putfield 43, 3) := by decide +kernel
theorem dX7_fits_5 : decode cX7_fits 5 = .ok (.aload_n 0, 1) := by decide +kernel
theorem dX7_fits_6 : decode cX7_fits 6 = .ok (.getfield 255, 3) := by decide +kernel
theorem dX7_fits_9 : decode cX7_fits 9 = .ok (.ifnonnull 9, 3) := by decide +kernel
theorem dX7_fits_12 : decode cX7_fits 12 = .ok (.aload_n 0, 1) := by decide +kernel
theorem dX7_fits_13 : decode cX7_fits 13 = .ok (.iconst 1, 1) := by decide +kernel
theorem dX7_fits_14 : decode cX7_fits 14 = .ok (.invokevirtual 49, 3) := by decide +kernel
theorem dX7_fits_17 : decode cX7_fits 17 = .ok (.ireturn, 1) := by decide +kernel
theorem dX7_fits_18 : decode cX7_fits 18 = .ok (.aload_n 0, 1) := by decide +kernel
theorem dX7_fits_19 : decode cX7_fits 19 = .ok (.iconst (-1), 1) := by decide +kernel
theorem dX7_fits_20 : decode cX7_fits 20 = .ok (.invokevirtual 442, 3) := by decide +kernel
theorem dX7_fits_23 : decode cX7_fits 23 = .ok (.pop, 1) := by decide +kernel
theorem dX7_fits_24 : decode cX7_fits 24 = .ok (.aload_n 0, 1) := by decide +kernel
theorem dX7_fits_25 : decode cX7_fits 25 = .ok (.aload_n 0, 1) := by decide +kernel
theorem dX7_fits_26 : decode cX7_fits 26 = .ok (.getfield 430, 3) := by decide +kernel
theorem dX7_fits_29 : decode cX7_fits 29 = .ok (.invokevirtual 53, 3) := by decide +kernel
theorem dX7_fits_32 : decode cX7_fits 32 = .ok (.ireturn, 1) := by decide +kernel
theorem dX7_fitAt_0 : decode cX7_fitAt 0 = .ok (.aload_n 0, 1) := by decide +kernel
theorem dX7_fitAt_1 : decode cX7_fitAt 1 = .ok (.iconst 0, 1) := by decide +kernel
theorem dX7_fitAt_2 : decode cX7_fitAt 2 = .ok (.putfield 43, 3) := by decide +kernel
theorem dX7_fitAt_5 : decode cX7_fitAt 5 = .ok (.aload_n 0, 1) := by decide +kernel
theorem dX7_fitAt_6 : decode cX7_fitAt 6 = .ok (.getfield 255, 3) := by decide +kernel
theorem dX7_fitAt_9 : decode cX7_fitAt 9 = .ok (.ifnull 7, 3) := by decide +kernel
theorem dX7_fitAt_12 : decode cX7_fitAt 12 = .ok (.iload_n 1, 1) := by decide +kernel
theorem dX7_fitAt_13 : decode cX7_fitAt 13 = .ok (.ifCond .ge 9, 3) := by decide +kernel
theorem dX7_fitAt_16 : decode cX7_fitAt 16 = .ok (.aload_n 0, 1) := by decide +kernel
theorem dX7_fitAt_17 : decode cX7_fitAt 17 = .ok (.iconst 1, 1) := by decide +kernel
theorem dX7_fitAt_18 : decode cX7_fitAt 18 = .ok (.invokevirtual 49, 3) := by decide +kernel
theorem dX7_fitAt_21 : decode cX7_fitAt 21 = .ok (.ireturn, 1) := by decide +kernel
theorem dX7_fitAt_22 : decode cX7_fitAt 22 = .ok (.aload_n 0, 1) := by decide +kernel
theorem dX7_fitAt_23 : decode cX7_fitAt 23 = .ok (.iload_n 1, 1) := by decide +kernel
theorem dX7_fitAt_24 : decode cX7_fitAt 24 = .ok (.invokevirtual 442, 3) := by decide +kernel
theorem dX7_fitAt_27 : decode cX7_fitAt 27 = .ok (.istore_n 2, 1) := by decide +kernel
theorem dX7_fitAt_28 : decode cX7_fitAt 28 = .ok (.iload_n 2, 1) := by decide +kernel
theorem dX7_fitAt_29 : decode cX7_fitAt 29 = .ok (.iconst (-1), 1) := by decide +kernel
theorem dX7_fitAt_30 : decode cX7_fitAt 30 = .ok (.if_icmp .ne 11, 3) := by decide +kernel
theorem dX7_fitAt_33 : decode cX7_fitAt 33 = .ok (.aload_n 0, 1) := by decide +kernel
theorem dX7_fitAt_34 : decode cX7_fitAt 34 = .ok (.iconst 1, 1) := by decide +kernel
theorem dX7_fitAt_35 : decode cX7_fitAt 35 = .ok (.invokevirtual 49, 3) := by decide +kernel
theorem dX7_fitAt_38 : decode cX7_fitAt 38 = .ok (.goto 8, 3) := by decide +kernel
theorem dX7_fitAt_41 : decode cX7_fitAt 41 = .ok (.aload_n 0, 1) := by decide +kernel
theorem dX7_fitAt_42 : decode cX7_fitAt 42 = .ok (.iload_n 2, 1) := by decide +kernel
theorem dX7_fitAt_43 : decode cX7_fitAt 43 = .ok (.invokevirtual 53, 3) := by decide +kernel
theorem dX7_fitAt_46 : decode cX7_fitAt 46 = .ok (.ireturn, 1) := by decide +kernel
theorem dX7_could_0 : decode cX7_could 0 = .ok (.aload_n 0, 1) := by decide +kernel
theorem dX7_could_1 : decode cX7_could 1 = .ok (.iconst 0, 1) := by decide +kernel
theorem dX7_could_2 : decode cX7_could 2 = .ok (.putfield 43, 3) := by decide +kernel
theorem dX7_could_5 : decode cX7_could 5 = .ok (.aload_n 0, 1) := by decide +kernel
theorem dX7_could_6 : decode cX7_could 6 = .ok (.getfield 255, 3) := by decide +kernel
theorem dX7_could_9 : decode cX7_could 9 = .ok (.ifnonnull 9, 3) := by decide +kernel
theorem dX7_could_12 : decode cX7_could 12 = .ok (.aload_n 0, 1) := by decide +kernel
theorem dX7_could_13 : decode cX7_could 13 = .ok (.iconst 1, 1) := by decide +kernel
theorem dX7_could_14 : decode cX7_could 14 = .ok (.invokevirtual 49, 3) := by decide +kernel
theorem dX7_could_17 : decode cX7_could 17 = .ok (.ireturn, 1) := by decide +kernel
theorem dX7_could_18 : decode cX7_could 18 = .ok (.aload_n 0, 1) := by decide +kernel
theorem dX7_could_19 : decode cX7_could 19 = .ok (.iconst (-1), 1) := by decide +kernel
theorem dX7_could_20 : decode cX7_could 20 = .ok (.invokevirtual 442, 3) := by decide +kernel
theorem dX7_could_23 : decode cX7_could 23 = .ok (.pop, 1) := by decide +kernel
theorem dX7_could_24 : decode cX7_could 24 = .ok (.aload_n 0, 1) := by decide +kernel
theorem dX7_could_25 : decode cX7_could 25 = .ok (.aload_n 0, 1) := by decide +kernel
theorem dX7_could_26 : decode cX7_could 26 = .ok (.getfield 433, 3) := by decide +kernel
theorem dX7_could_29 : decode cX7_could 29 = .ok (.invokevirtual 53, 3) := by decide +kernel
theorem dX7_could_32 : decode cX7_could 32 = .ok (.ireturn, 1) := by decide +kernel
theorem dX7_surely_0 : decode cX7_surely 0 = .ok (.aload_n 0, 1) := by decide +kernel
theorem dX7_surely_1 : decode cX7_surely 1 = .ok (.iconst 0, 1) := by decide +kernel
theorem dX7_surely_2 : decode cX7_surely 2 = .ok (.putfield 43, 3) := by decide +kernel
theorem dX7_surely_5 : decode cX7_surely 5 = .ok (.aload_n 0, 1) := by decide +kernel
theorem dX7_surely_6 : decode cX7_surely 6 = .ok (.getfield 255, 3) := by decide +kernel
theorem dX7_surely_9 : decode cX7_surely 9 = .ok (.ifnonnull 9, 3) := by decide +kernel
theorem dX7_surely_12 : decode cX7_surely 12 = .ok (.aload_n 0, 1) := by decide +kernel
theorem dX7_surely_13 : decode cX7_surely 13 = .ok (.iconst 1, 1) := by decide +kernel
theorem dX7_surely_14 : decode cX7_surely 14 = .ok (.invokevirtual 49, 3) := by decide +kernel
theorem dX7_surely_17 : decode cX7_surely 17 = .ok (.ireturn, 1) := by decide +kernel
theorem dX7_surely_18 : decode cX7_surely 18 = .ok (.aload_n 0, 1) := by decide +kernel
theorem dX7_surely_19 : decode cX7_surely 19 = .ok (.iconst (-1), 1) := by decide +kernel
theorem dX7_surely_20 : decode cX7_surely 20 = .ok (.invokevirtual 442, 3) := by decide +kernel
theorem dX7_surely_23 : decode cX7_surely 23 = .ok (.pop, 1) := by decide +kernel
theorem dX7_surely_24 : decode cX7_surely 24 = .ok (.aload_n 0, 1) := by decide +kernel
theorem dX7_surely_25 : decode cX7_surely 25 = .ok (.aload_n 0, 1) := by decide +kernel
theorem dX7_surely_26 : decode cX7_surely 26 = .ok (.getfield 436, 3) := by decide +kernel
theorem dX7_surely_29 : decode cX7_surely 29 = .ok (.invokevirtual 53, 3) := by decide +kernel
theorem dX7_surely_32 : decode cX7_surely 32 = .ok (.ireturn, 1) := by decide +kernel
theorem dX7_asks_0 : decode cX7_asks 0 = .ok (.aload_n 0, 1) := by decide +kernel
theorem dX7_asks_1 : decode cX7_asks 1 = .ok (.iconst (-1), 1) := by decide +kernel
theorem dX7_asks_2 : decode cX7_asks 2 = .ok (.invokevirtual 442, 3) := by decide +kernel
theorem dX7_asks_5 : decode cX7_asks 5 = .ok (.pop, 1) := by decide +kernel
theorem dX7_asks_6 : decode cX7_asks 6 = .ok (.bipush (-2), 2) := by decide +kernel
theorem dX7_asks_8 : decode cX7_asks 8 = .ok (.istore_n 1, 1) := by decide +kernel
theorem dX7_asks_9 : decode cX7_asks 9 = .ok (.aload_n 0, 1) := by decide +kernel
theorem dX7_asks_10 : decode cX7_asks 10 = .ok (.bipush (-2), 2) := by decide +kernel
theorem dX7_asks_12 : decode cX7_asks 12 = .ok (.putfield 445, 3) := by decide +kernel
theorem dX7_asks_15 : decode cX7_asks 15 = .ok (.iconst 0, 1) := by decide +kernel
theorem dX7_asks_16 : decode cX7_asks 16 = .ok (.istore_n 2, 1) := by decide +kernel
theorem dX7_asks_17 : decode cX7_asks 17 = .ok (.iload_n 2, 1) := by decide +kernel
theorem dX7_asks_18 : decode cX7_asks 18 = .ok (.aload_n 0, 1) := by decide +kernel
theorem dX7_asks_19 : decode cX7_asks 19 = .ok (.getfield 255, 3) := by decide +kernel
theorem dX7_asks_22 : decode cX7_asks 22 = .ok (.getfield 225, 3) := by decide +kernel
theorem dX7_asks_25 : decode cX7_asks 25 = .ok (.if_icmp .ge 81, 3) := by decide +kernel
theorem dX7_asks_28 : decode cX7_asks 28 = .ok (.aload_n 0, 1) := by decide +kernel
theorem dX7_asks_29 : decode cX7_asks 29 = .ok (.getfield 430, 3) := by decide +kernel
theorem dX7_asks_32 : decode cX7_asks 32 = .ok (.ifCond .le 74, 3) := by decide +kernel
theorem dX7_asks_35 : decode cX7_asks 35 = .ok (.aload_n 0, 1) := by decide +kernel
theorem dX7_asks_36 : decode cX7_asks 36 = .ok (.getfield 40, 3) := by decide +kernel
theorem dX7_asks_39 : decode cX7_asks 39 = .ok (.iload_n 2, 1) := by decide +kernel
theorem dX7_asks_40 : decode cX7_asks 40 = .ok (.iaload, 1) := by decide +kernel
theorem dX7_asks_41 : decode cX7_asks 41 = .ok (.aload_n 0, 1) := by decide +kernel
theorem dX7_asks_42 : decode cX7_asks 42 = .ok (.getfield 430, 3) := by decide +kernel
theorem dX7_asks_45 : decode cX7_asks 45 = .ok (.aload_n 0, 1) := by decide +kernel
theorem dX7_asks_46 : decode cX7_asks 46 = .ok (.getfield 40, 3) := by decide +kernel
theorem dX7_asks_49 : decode cX7_asks 49 = .ok (.iload_n 2, 1) := by decide +kernel
theorem dX7_asks_50 : decode cX7_asks 50 = .ok (.iaload, 1) := by decide +kernel
theorem dX7_asks_51 : decode cX7_asks 51 = .ok (.isub, 1) := by decide +kernel
theorem dX7_asks_52 : decode cX7_asks 52 = .ok (.if_icmp .le 12, 3) := by decide +kernel
theorem dX7_asks_55 : decode cX7_asks 55 = .ok (.aload_n 0, 1) := by decide +kernel
theorem dX7_asks_56 : decode cX7_asks 56 = .ok (.getfield 40, 3) := by decide +kernel
theorem dX7_asks_59 : decode cX7_asks 59 = .ok (.iload_n 2, 1) := by decide +kernel
theorem dX7_asks_60 : decode cX7_asks 60 = .ok (.iaload, 1) := by decide +kernel
theorem dX7_asks_61 : decode cX7_asks 61 = .ok (.goto 14, 3) := by decide +kernel
theorem dX7_asks_64 : decode cX7_asks 64 = .ok (.aload_n 0, 1) := by decide +kernel
theorem dX7_asks_65 : decode cX7_asks 65 = .ok (.getfield 430, 3) := by decide +kernel
theorem dX7_asks_68 : decode cX7_asks 68 = .ok (.aload_n 0, 1) := by decide +kernel
theorem dX7_asks_69 : decode cX7_asks 69 = .ok (.getfield 40, 3) := by decide +kernel
theorem dX7_asks_72 : decode cX7_asks 72 = .ok (.iload_n 2, 1) := by decide +kernel
theorem dX7_asks_73 : decode cX7_asks 73 = .ok (.iaload, 1) := by decide +kernel
theorem dX7_asks_74 : decode cX7_asks 74 = .ok (.isub, 1) := by decide +kernel
theorem dX7_asks_75 : decode cX7_asks 75 = .ok (.istore_n 3, 1) := by decide +kernel
theorem dX7_asks_76 : decode cX7_asks 76 = .ok (.iload_n 1, 1) := by decide +kernel
theorem dX7_asks_77 : decode cX7_asks 77 = .ok (.bipush (-2), 2) := by decide +kernel
theorem dX7_asks_79 : decode cX7_asks 79 = .ok (.if_icmp .eq 14, 3) := by decide +kernel
theorem dX7_asks_82 : decode cX7_asks 82 = .ok (.iload_n 3, 1) := by decide +kernel
theorem dX7_asks_83 : decode cX7_asks 83 = .ok (.aload_n 0, 1) := by decide +kernel
theorem dX7_asks_84 : decode cX7_asks 84 = .ok (.getfield 445, 3) := by decide +kernel
theorem dX7_asks_87 : decode cX7_asks 87 = .ok (.if_icmp .lt 6, 3) := by decide +kernel
theorem dX7_asks_90 : decode cX7_asks 90 = .ok (.goto 10, 3) := by decide +kernel
theorem dX7_asks_93 : decode cX7_asks 93 = .ok (.iload_n 2, 1) := by decide +kernel
theorem dX7_asks_94 : decode cX7_asks 94 = .ok (.istore_n 1, 1) := by decide +kernel
theorem dX7_asks_95 : decode cX7_asks 95 = .ok (.aload_n 0, 1) := by decide +kernel
theorem dX7_asks_96 : decode cX7_asks 96 = .ok (.iload_n 3, 1) := by decide +kernel
theorem dX7_asks_97 : decode cX7_asks 97 = .ok (.putfield 445, 3) := by decide +kernel
theorem dX7_asks_100 : decode cX7_asks 100 = .ok (.iinc 2 1, 3) := by decide +kernel
theorem dX7_asks_103 : decode cX7_asks 103 = .ok (.goto (-86), 3) := by decide +kernel
theorem dX7_asks_106 : decode cX7_asks 106 = .ok (.iload_n 1, 1) := by decide +kernel
theorem dX7_asks_107 : decode cX7_asks 107 = .ok (.ireturn, 1) := by decide +kernel
theorem dX7_ask_0 : decode cX7_ask 0 = .ok (.aload_n 0, 1) := by decide +kernel
theorem dX7_ask_1 : decode cX7_ask 1 = .ok (.iconst 0, 1) := by decide +kernel
theorem dX7_ask_2 : decode cX7_ask 2 = .ok (.putfield 43, 3) := by decide +kernel
theorem dX7_ask_5 : decode cX7_ask 5 = .ok (.aload_n 0, 1) := by decide +kernel
theorem dX7_ask_6 : decode cX7_ask 6 = .ok (.getfield 255, 3) := by decide +kernel
theorem dX7_ask_9 : decode cX7_ask 9 = .ok (.ifnonnull 11, 3) := by decide +kernel
theorem dX7_ask_12 : decode cX7_ask 12 = .ok (.aload_n 0, 1) := by decide +kernel
theorem dX7_ask_13 : decode cX7_ask 13 = .ok (.iconst 1, 1) := by decide +kernel
theorem dX7_ask_14 : decode cX7_ask 14 = .ok (.invokevirtual 49, 3) := by decide +kernel
theorem dX7_ask_17 : decode cX7_ask 17 = .ok (.goto 11, 3) := by decide +kernel
theorem dX7_ask_20 : decode cX7_ask 20 = .ok (.aload_n 0, 1) := by decide +kernel
theorem dX7_ask_21 : decode cX7_ask 21 = .ok (.aload_n 0, 1) := by decide +kernel
theorem dX7_ask_22 : decode cX7_ask 22 = .ok (.invokevirtual 448, 3) := by decide +kernel
theorem dX7_ask_25 : decode cX7_ask 25 = .ok (.invokevirtual 53, 3) := by decide +kernel
theorem dX7_ask_28 : decode cX7_ask 28 = .ok (.ireturn, 1) := by decide +kernel
theorem dX7_askLeaves_0 : decode cX7_askLeaves 0 = .ok (.aload_n 0, 1) := by decide +kernel
theorem dX7_askLeaves_1 : decode cX7_askLeaves 1 = .ok (.iconst 0, 1) := by decide +kernel
theorem dX7_askLeaves_2 : decode cX7_askLeaves 2 = .ok (.putfield 43, 3) := by decide +kernel
theorem dX7_askLeaves_5 : decode cX7_askLeaves 5 = .ok (.aload_n 0, 1) := by decide +kernel
theorem dX7_askLeaves_6 : decode cX7_askLeaves 6 = .ok (.getfield 255, 3) := by decide +kernel
theorem dX7_askLeaves_9 : decode cX7_askLeaves 9 = .ok (.ifnonnull 9, 3) := by decide +kernel
theorem dX7_askLeaves_12 : decode cX7_askLeaves 12 = .ok (.aload_n 0, 1) := by decide +kernel
theorem dX7_askLeaves_13 : decode cX7_askLeaves 13 = .ok (.iconst 1, 1) := by decide +kernel
theorem dX7_askLeaves_14 : decode cX7_askLeaves 14 = .ok (.invokevirtual 49, 3) := by decide +kernel
theorem dX7_askLeaves_17 : decode cX7_askLeaves 17 = .ok (.ireturn, 1) := by decide +kernel
theorem dX7_askLeaves_18 : decode cX7_askLeaves 18 = .ok (.aload_n 0, 1) := by decide +kernel
theorem dX7_askLeaves_19 : decode cX7_askLeaves 19 = .ok (.invokevirtual 448, 3) := by decide +kernel
theorem dX7_askLeaves_22 : decode cX7_askLeaves 22 = .ok (.pop, 1) := by decide +kernel
theorem dX7_askLeaves_23 : decode cX7_askLeaves 23 = .ok (.aload_n 0, 1) := by decide +kernel
theorem dX7_askLeaves_24 : decode cX7_askLeaves 24 = .ok (.aload_n 0, 1) := by decide +kernel
theorem dX7_askLeaves_25 : decode cX7_askLeaves 25 = .ok (.getfield 445, 3) := by decide +kernel
theorem dX7_askLeaves_28 : decode cX7_askLeaves 28 = .ok (.invokevirtual 53, 3) := by decide +kernel
theorem dX7_askLeaves_31 : decode cX7_askLeaves 31 = .ok (.ireturn, 1) := by decide +kernel
theorem dX7_judge_0 : decode cX7_judge 0 = .ok (.aload_n 0, 1) := by decide +kernel
theorem dX7_judge_1 : decode cX7_judge 1 = .ok (.iconst 0, 1) := by decide +kernel
theorem dX7_judge_2 : decode cX7_judge 2 = .ok (.putfield 43, 3) := by decide +kernel
theorem dX7_judge_5 : decode cX7_judge 5 = .ok (.aload_n 0, 1) := by decide +kernel
theorem dX7_judge_6 : decode cX7_judge 6 = .ok (.getfield 255, 3) := by decide +kernel
theorem dX7_judge_9 : decode cX7_judge 9 = .ok (.ifnonnull 11, 3) := by decide +kernel
theorem dX7_judge_12 : decode cX7_judge 12 = .ok (.aload_n 0, 1) := by decide +kernel
theorem dX7_judge_13 : decode cX7_judge 13 = .ok (.iconst 1, 1) := by decide +kernel
theorem dX7_judge_14 : decode cX7_judge 14 = .ok (.invokevirtual 49, 3) := by decide +kernel
theorem dX7_judge_17 : decode cX7_judge 17 = .ok (.goto 12, 3) := by decide +kernel
theorem dX7_judge_20 : decode cX7_judge 20 = .ok (.aload_n 0, 1) := by decide +kernel
theorem dX7_judge_21 : decode cX7_judge 21 = .ok (.aload_n 0, 1) := by decide +kernel
theorem dX7_judge_22 : decode cX7_judge 22 = .ok (.iconst 0, 1) := by decide +kernel
theorem dX7_judge_23 : decode cX7_judge 23 = .ok (.invokevirtual 439, 3) := by decide +kernel
theorem dX7_judge_26 : decode cX7_judge 26 = .ok (.invokevirtual 53, 3) := by decide +kernel
theorem dX7_judge_29 : decode cX7_judge 29 = .ok (.ireturn, 1) := by decide +kernel
theorem dX7_draws_0 : decode cX7_draws 0 = .ok (.aload_n 0, 1) := by decide +kernel
theorem dX7_draws_1 : decode cX7_draws 1 = .ok (.ldc2_w 451, 3) := by decide +kernel
theorem dX7_draws_4 : decode cX7_draws 4 = .ok (.aload_n 0, 1) := by decide +kernel
theorem dX7_draws_5 : decode cX7_draws 5 = .ok (.getfield 453, 3) := by decide +kernel
theorem dX7_draws_8 : decode cX7_draws 8 = .ok (.i2l, 1) := by decide +kernel
theorem dX7_draws_9 : decode cX7_draws 9 = .ok (.lmul, 1) := by decide +kernel
theorem dX7_draws_10 : decode cX7_draws 10 = .ok (.ldc2_w 456, 3) := by decide +kernel
theorem dX7_draws_13 : decode cX7_draws 13 = .ok (.ladd, 1) := by decide +kernel
theorem dX7_draws_14 : decode cX7_draws 14 = .ok (.ldc2_w 458, 3) := by decide +kernel
theorem dX7_draws_17 : decode cX7_draws 17 = .ok (.lrem, 1) := by decide +kernel
theorem dX7_draws_18 : decode cX7_draws 18 = .ok (.l2i, 1) := by decide +kernel
theorem dX7_draws_19 : decode cX7_draws 19 = .ok (.putfield 453, 3) := by decide +kernel
theorem dX7_draws_22 : decode cX7_draws 22 = .ok (.aload_n 0, 1) := by decide +kernel
theorem dX7_draws_23 : decode cX7_draws 23 = .ok (.getfield 453, 3) := by decide +kernel
theorem dX7_draws_26 : decode cX7_draws 26 = .ok (.iload_n 1, 1) := by decide +kernel
theorem dX7_draws_27 : decode cX7_draws 27 = .ok (.irem, 1) := by decide +kernel
theorem dX7_draws_28 : decode cX7_draws 28 = .ok (.ireturn, 1) := by decide +kernel
theorem dX7_drawnUses_0 : decode cX7_drawnUses 0 = .ok (.aload_n 0, 1) := by decide +kernel
theorem dX7_drawnUses_1 : decode cX7_drawnUses 1 = .ok (.invokevirtual 380, 3) := by decide +kernel
theorem dX7_drawnUses_4 : decode cX7_drawnUses 4 = .ok (.aload_n 0, 1) := by decide +kernel
theorem dX7_drawnUses_5 : decode cX7_drawnUses 5 = .ok (.iload_n 1, 1) := by decide +kernel
theorem dX7_drawnUses_6 : decode cX7_drawnUses 6 = .ok (.putfield 453, 3) := by decide +kernel
theorem dX7_drawnUses_9 : decode cX7_drawnUses 9 = .ok (.aload_n 0, 1) := by decide +kernel
theorem dX7_drawnUses_10 : decode cX7_drawnUses 10 = .ok (.iconst 0, 1) := by decide +kernel
theorem dX7_drawnUses_11 : decode cX7_drawnUses 11 = .ok (.putfield 406, 3) := by decide +kernel
theorem dX7_drawnUses_14 : decode cX7_drawnUses 14 = .ok (.iconst 0, 1) := by decide +kernel
theorem dX7_drawnUses_15 : decode cX7_drawnUses 15 = .ok (.istore_n 3, 1) := by decide +kernel
theorem dX7_drawnUses_16 : decode cX7_drawnUses 16 = .ok (.iload_n 3, 1) := by decide +kernel
theorem dX7_drawnUses_17 : decode cX7_drawnUses 17 = .ok (.iload_n 2, 1) := by decide +kernel
theorem dX7_drawnUses_18 : decode cX7_drawnUses 18 = .ok (.if_icmp .ge 80, 3) := by decide +kernel
theorem dX7_drawnUses_21 : decode cX7_drawnUses 21 = .ok (.aload_n 0, 1) := by decide +kernel
theorem dX7_drawnUses_22 : decode cX7_drawnUses 22 = .ok (.bipush 32, 2) := by decide +kernel
theorem dX7_drawnUses_24 : decode cX7_drawnUses 24 = .ok (.invokevirtual 460, 3) := by decide +kernel
theorem dX7_drawnUses_27 : decode cX7_drawnUses 27 = .ok (.istore 4, 2) := by decide +kernel
theorem dX7_drawnUses_29 : decode cX7_drawnUses 29 = .ok (.aload_n 0, 1) := by decide +kernel
theorem dX7_drawnUses_30 : decode cX7_drawnUses 30 = .ok (.iconst 4, 1) := by decide +kernel
theorem dX7_drawnUses_31 : decode cX7_drawnUses 31 = .ok (.invokevirtual 460, 3) := by decide +kernel
theorem dX7_drawnUses_34 : decode cX7_drawnUses 34 = .ok (.ifCond .ne 31, 3) := by decide +kernel
theorem dX7_drawnUses_37 : decode cX7_drawnUses 37 = .ok (.aload_n 0, 1) := by decide +kernel
theorem dX7_drawnUses_38 : decode cX7_drawnUses 38 = .ok (.bipush 8, 2) := by decide +kernel
theorem dX7_drawnUses_40 : decode cX7_drawnUses 40 = .ok (.invokevirtual 460, 3) := by decide +kernel
theorem dX7_drawnUses_43 : decode cX7_drawnUses 43 = .ok (.istore 6, 2) := by decide +kernel
theorem dX7_drawnUses_45 : decode cX7_drawnUses 45 = .ok (.aload_n 0, 1) := by decide +kernel
theorem dX7_drawnUses_46 : decode cX7_drawnUses 46 = .ok (.iload 4, 2) := by decide +kernel
theorem dX7_drawnUses_48 : decode cX7_drawnUses 48 = .ok (.iload 6, 2) := by decide +kernel
theorem dX7_drawnUses_50 : decode cX7_drawnUses 50 = .ok (.aload_n 0, 1) := by decide +kernel
theorem dX7_drawnUses_51 : decode cX7_drawnUses 51 = .ok (.sipush 300, 3) := by decide +kernel
theorem dX7_drawnUses_54 : decode cX7_drawnUses 54 = .ok (.invokevirtual 460, 3) := by decide +kernel
theorem dX7_drawnUses_57 : decode cX7_drawnUses 57 = .ok (.invokevirtual 396, 3) := by decide +kernel
theorem dX7_drawnUses_60 : decode cX7_drawnUses 60 = .ok (.istore 5, 2) := by decide +kernel
theorem dX7_drawnUses_62 : decode cX7_drawnUses 62 = .ok (.goto 11, 3) := by decide +kernel
theorem dX7_drawnUses_65 : decode cX7_drawnUses 65 = .ok (.aload_n 0, 1) := by decide +kernel
theorem dX7_drawnUses_66 : decode cX7_drawnUses 66 = .ok (.iload 4, 2) := by decide +kernel
theorem dX7_drawnUses_68 : decode cX7_drawnUses 68 = .ok (.invokevirtual 371, 3) := by decide +kernel
theorem dX7_drawnUses_71 : decode cX7_drawnUses 71 = .ok (.istore 5, 2) := by decide +kernel
theorem dX7_drawnUses_73 : decode cX7_drawnUses 73 = .ok (.aload_n 0, 1) := by decide +kernel
theorem dX7_drawnUses_74 : decode cX7_drawnUses 74 = .ok (.dup, 1) := by decide +kernel
theorem dX7_drawnUses_75 : decode cX7_drawnUses 75 = .ok (.getfield 406, 3) := by decide +kernel
theorem dX7_drawnUses_78 : decode cX7_drawnUses 78 = .ok (.iload 5, 2) := by decide +kernel
theorem dX7_drawnUses_80 : decode cX7_drawnUses 80 = .ok (.ifCond .eq 7, 3) := by decide +kernel
theorem dX7_drawnUses_83 : decode cX7_drawnUses 83 = .ok (.iconst 1, 1) := by decide +kernel
theorem dX7_drawnUses_84 : decode cX7_drawnUses 84 = .ok (.goto 4, 3) := by decide +kernel
theorem dX7_drawnUses_87 : decode cX7_drawnUses 87 = .ok (.iconst 0, 1) := by decide +kernel
theorem dX7_drawnUses_88 : decode cX7_drawnUses 88 = .ok (.iadd, 1) := by decide +kernel
theorem dX7_drawnUses_89 : decode cX7_drawnUses 89 = .ok (.putfield 406, 3) := by decide +kernel
theorem dX7_drawnUses_92 : decode cX7_drawnUses 92 = .ok (.iinc 3 1, 3) := by decide +kernel
theorem dX7_drawnUses_95 : decode cX7_drawnUses 95 = .ok (.goto (-79), 3) := by decide +kernel
theorem dX7_drawnUses_98 : decode cX7_drawnUses 98 = .ok (.return_, 1) := by decide +kernel
theorem dX7_refusesDraw_0 : decode cX7_refusesDraw 0 = .ok (.aload_n 0, 1) := by decide +kernel
theorem dX7_refusesDraw_1 : decode cX7_refusesDraw 1 = .ok (.getfield 255, 3) := by decide +kernel
theorem dX7_refusesDraw_4 : decode cX7_refusesDraw 4 = .ok (.ifnonnull 5, 3) := by decide +kernel
theorem dX7_refusesDraw_7 : decode cX7_refusesDraw 7 = .ok (.iconst 1, 1) := by decide +kernel
theorem dX7_refusesDraw_8 : decode cX7_refusesDraw 8 = .ok (.ireturn, 1) := by decide +kernel
theorem dX7_refusesDraw_9 : decode cX7_refusesDraw 9 = .ok (.iload_n 1, 1) := by decide +kernel
theorem dX7_refusesDraw_10 : decode cX7_refusesDraw 10 = .ok (.iconst 0, 1) := by decide +kernel
theorem dX7_refusesDraw_11 : decode cX7_refusesDraw 11 = .ok (.ldc_w 463, 3) := by decide +kernel
theorem dX7_refusesDraw_14 : decode cX7_refusesDraw 14 = .ok (.invokestatic 122, 3) := by decide +kernel
theorem dX7_refusesDraw_17 : decode cX7_refusesDraw 17 = .ok (.ifCond .eq 18, 3) := by decide +kernel
theorem dX7_refusesDraw_20 : decode cX7_refusesDraw 20 = .ok (.iload_n 2, 1) := by decide +kernel
theorem dX7_refusesDraw_21 : decode cX7_refusesDraw 21 = .ok (.iconst 0, 1) := by decide +kernel
theorem dX7_refusesDraw_22 : decode cX7_refusesDraw 22 = .ok (.sipush 200, 3) := by decide +kernel
theorem dX7_refusesDraw_25 : decode cX7_refusesDraw 25 = .ok (.invokestatic 122, 3) := by decide +kernel
theorem dX7_refusesDraw_28 : decode cX7_refusesDraw 28 = .ok (.ifCond .eq 7, 3) := by decide +kernel
theorem dX7_refusesDraw_31 : decode cX7_refusesDraw 31 = .ok (.iconst 0, 1) := by decide +kernel
theorem dX7_refusesDraw_32 : decode cX7_refusesDraw 32 = .ok (.goto 4, 3) := by decide +kernel
theorem dX7_refusesDraw_35 : decode cX7_refusesDraw 35 = .ok (.iconst 2, 1) := by decide +kernel
theorem dX7_refusesDraw_36 : decode cX7_refusesDraw 36 = .ok (.ireturn, 1) := by decide +kernel
theorem dX7_drawnHits_0 : decode cX7_drawnHits 0 = .ok (.aload_n 0, 1) := by decide +kernel
theorem dX7_drawnHits_1 : decode cX7_drawnHits 1 = .ok (.iconst 0, 1) := by decide +kernel
theorem dX7_drawnHits_2 : decode cX7_drawnHits 2 = .ok (.putfield 43, 3) := by decide +kernel
theorem dX7_drawnHits_5 : decode cX7_drawnHits 5 = .ok (.aload_n 0, 1) := by decide +kernel
theorem dX7_drawnHits_6 : decode cX7_drawnHits 6 = .ok (.iload_n 1, 1) := by decide +kernel
theorem dX7_drawnHits_7 : decode cX7_drawnHits 7 = .ok (.iload_n 2, 1) := by decide +kernel
theorem dX7_drawnHits_8 : decode cX7_drawnHits 8 = .ok (.invokevirtual 464, 3) := by decide +kernel
theorem dX7_drawnHits_11 : decode cX7_drawnHits 11 = .ok (.istore_n 3, 1) := by decide +kernel
theorem dX7_drawnHits_12 : decode cX7_drawnHits 12 = .ok (.iload_n 3, 1) := by decide +kernel
theorem dX7_drawnHits_13 : decode cX7_drawnHits 13 = .ok (.ifCond .le 9, 3) := by decide +kernel
theorem dX7_drawnHits_16 : decode cX7_drawnHits 16 = .ok (.aload_n 0, 1) := by decide +kernel
theorem dX7_drawnHits_17 : decode cX7_drawnHits 17 = .ok (.iload_n 3, 1) := by decide +kernel
theorem dX7_drawnHits_18 : decode cX7_drawnHits 18 = .ok (.invokevirtual 49, 3) := by decide +kernel
theorem dX7_drawnHits_21 : decode cX7_drawnHits 21 = .ok (.ireturn, 1) := by decide +kernel
theorem dX7_drawnHits_22 : decode cX7_drawnHits 22 = .ok (.aload_n 0, 1) := by decide +kernel
theorem dX7_drawnHits_23 : decode cX7_drawnHits 23 = .ok (.iload_n 1, 1) := by decide +kernel
theorem dX7_drawnHits_24 : decode cX7_drawnHits 24 = .ok (.iload_n 2, 1) := by decide +kernel
theorem dX7_drawnHits_25 : decode cX7_drawnHits 25 = .ok (.invokevirtual 467, 3) := by decide +kernel
theorem dX7_drawnHits_28 : decode cX7_drawnHits 28 = .ok (.aload_n 0, 1) := by decide +kernel
theorem dX7_drawnHits_29 : decode cX7_drawnHits 29 = .ok (.aload_n 0, 1) := by decide +kernel
theorem dX7_drawnHits_30 : decode cX7_drawnHits 30 = .ok (.getfield 406, 3) := by decide +kernel
theorem dX7_drawnHits_33 : decode cX7_drawnHits 33 = .ok (.invokevirtual 53, 3) := by decide +kernel
theorem dX7_drawnHits_36 : decode cX7_drawnHits 36 = .ok (.ireturn, 1) := by decide +kernel
theorem dX7_drawnBacks_0 : decode cX7_drawnBacks 0 = .ok (.aload_n 0, 1) := by decide +kernel
theorem dX7_drawnBacks_1 : decode cX7_drawnBacks 1 = .ok (.iconst 0, 1) := by decide +kernel
theorem dX7_drawnBacks_2 : decode cX7_drawnBacks 2 = .ok (.putfield 43, 3) := by decide +kernel
theorem dX7_drawnBacks_5 : decode cX7_drawnBacks 5 = .ok (.aload_n 0, 1) := by decide +kernel
theorem dX7_drawnBacks_6 : decode cX7_drawnBacks 6 = .ok (.iload_n 1, 1) := by decide +kernel
theorem dX7_drawnBacks_7 : decode cX7_drawnBacks 7 = .ok (.iload_n 2, 1) := by decide +kernel
theorem dX7_drawnBacks_8 : decode cX7_drawnBacks 8 = .ok (.invokevirtual 464, 3) := by decide +kernel
theorem dX7_drawnBacks_11 : decode cX7_drawnBacks 11 = .ok (.istore_n 3, 1) := by decide +kernel
theorem dX7_drawnBacks_12 : decode cX7_drawnBacks 12 = .ok (.iload_n 3, 1) := by decide +kernel
theorem dX7_drawnBacks_13 : decode cX7_drawnBacks 13 = .ok (.ifCond .le 9, 3) := by decide +kernel
theorem dX7_drawnBacks_16 : decode cX7_drawnBacks 16 = .ok (.aload_n 0, 1) := by decide +kernel
theorem dX7_drawnBacks_17 : decode cX7_drawnBacks 17 = .ok (.iload_n 3, 1) := by decide +kernel
theorem dX7_drawnBacks_18 : decode cX7_drawnBacks 18 = .ok (.invokevirtual 49, 3) := by decide +kernel
theorem dX7_drawnBacks_21 : decode cX7_drawnBacks 21 = .ok (.ireturn, 1) := by decide +kernel
theorem dX7_drawnBacks_22 : decode cX7_drawnBacks 22 = .ok (.aload_n 0, 1) := by decide +kernel
theorem dX7_drawnBacks_23 : decode cX7_drawnBacks 23 = .ok (.iload_n 1, 1) := by decide +kernel
theorem dX7_drawnBacks_24 : decode cX7_drawnBacks 24 = .ok (.iload_n 2, 1) := by decide +kernel
theorem dX7_drawnBacks_25 : decode cX7_drawnBacks 25 = .ok (.invokevirtual 467, 3) := by decide +kernel
theorem dX7_drawnBacks_28 : decode cX7_drawnBacks 28 = .ok (.aload_n 0, 1) := by decide +kernel
theorem dX7_drawnBacks_29 : decode cX7_drawnBacks 29 = .ok (.aload_n 0, 1) := by decide +kernel
theorem dX7_drawnBacks_30 : decode cX7_drawnBacks 30 = .ok (.getfield 273, 3) := by decide +kernel
theorem dX7_drawnBacks_33 : decode cX7_drawnBacks 33 = .ok (.invokevirtual 53, 3) := by decide +kernel
theorem dX7_drawnBacks_36 : decode cX7_drawnBacks 36 = .ok (.ireturn, 1) := by decide +kernel
theorem dX7_remembers_0 : decode cX7_remembers 0 = .ok (.aload_n 0, 1) := by decide +kernel
theorem dX7_remembers_1 : decode cX7_remembers 1 = .ok (.getfield 263, 3) := by decide +kernel
theorem dX7_remembers_4 : decode cX7_remembers 4 = .ok (.bipush 16, 2) := by decide +kernel
theorem dX7_remembers_6 : decode cX7_remembers 6 = .ok (.if_icmp .ne 44, 3) := by decide +kernel
theorem dX7_remembers_9 : decode cX7_remembers 9 = .ok (.iconst 0, 1) := by decide +kernel
theorem dX7_remembers_10 : decode cX7_remembers 10 = .ok (.istore_n 1, 1) := by decide +kernel
theorem dX7_remembers_11 : decode cX7_remembers 11 = .ok (.iload_n 1, 1) := by decide +kernel
theorem dX7_remembers_12 : decode cX7_remembers 12 = .ok (.sipush 9135, 3) := by decide +kernel
theorem dX7_remembers_15 : decode cX7_remembers 15 = .ok (.if_icmp .ge 25, 3) := by decide +kernel
theorem dX7_remembers_18 : decode cX7_remembers 18 = .ok (.aload_n 0, 1) := by decide +kernel
theorem dX7_remembers_19 : decode cX7_remembers 19 = .ok (.getfield 24, 3) := by decide +kernel
theorem dX7_remembers_22 : decode cX7_remembers 22 = .ok (.iload_n 1, 1) := by decide +kernel
theorem dX7_remembers_23 : decode cX7_remembers 23 = .ok (.aload_n 0, 1) := by decide +kernel
theorem dX7_remembers_24 : decode cX7_remembers 24 = .ok (.getfield 24, 3) := by decide +kernel
theorem dX7_remembers_27 : decode cX7_remembers 27 = .ok (.iload_n 1, 1) := by decide +kernel
theorem dX7_remembers_28 : decode cX7_remembers 28 = .ok (.sipush 609, 3) := by decide +kernel
theorem dX7_remembers_31 : decode cX7_remembers 31 = .ok (.iadd, 1) := by decide +kernel
theorem dX7_remembers_32 : decode cX7_remembers 32 = .ok (.iaload, 1) := by decide +kernel
theorem dX7_remembers_33 : decode cX7_remembers 33 = .ok (.iastore, 1) := by decide +kernel
theorem dX7_remembers_34 : decode cX7_remembers 34 = .ok (.iinc 1 1, 3) := by decide +kernel
theorem dX7_remembers_37 : decode cX7_remembers 37 = .ok (.goto (-26), 3) := by decide +kernel
theorem dX7_remembers_40 : decode cX7_remembers 40 = .ok (.aload_n 0, 1) := by decide +kernel
theorem dX7_remembers_41 : decode cX7_remembers 41 = .ok (.dup, 1) := by decide +kernel
theorem dX7_remembers_42 : decode cX7_remembers 42 = .ok (.getfield 263, 3) := by decide +kernel
theorem dX7_remembers_45 : decode cX7_remembers 45 = .ok (.iconst 1, 1) := by decide +kernel
theorem dX7_remembers_46 : decode cX7_remembers 46 = .ok (.isub, 1) := by decide +kernel
theorem dX7_remembers_47 : decode cX7_remembers 47 = .ok (.putfield 263, 3) := by decide +kernel
theorem dX7_remembers_50 : decode cX7_remembers 50 = .ok (.iconst 0, 1) := by decide +kernel
theorem dX7_remembers_51 : decode cX7_remembers 51 = .ok (.istore_n 1, 1) := by decide +kernel
theorem dX7_remembers_52 : decode cX7_remembers 52 = .ok (.iload_n 1, 1) := by decide +kernel
theorem dX7_remembers_53 : decode cX7_remembers 53 = .ok (.sipush 609, 3) := by decide +kernel
theorem dX7_remembers_56 : decode cX7_remembers 56 = .ok (.if_icmp .ge 30, 3) := by decide +kernel
theorem dX7_remembers_59 : decode cX7_remembers 59 = .ok (.aload_n 0, 1) := by decide +kernel
theorem dX7_remembers_60 : decode cX7_remembers 60 = .ok (.getfield 24, 3) := by decide +kernel
theorem dX7_remembers_63 : decode cX7_remembers 63 = .ok (.sipush 609, 3) := by decide +kernel
theorem dX7_remembers_66 : decode cX7_remembers 66 = .ok (.aload_n 0, 1) := by decide +kernel
theorem dX7_remembers_67 : decode cX7_remembers 67 = .ok (.getfield 263, 3) := by decide +kernel
theorem dX7_remembers_70 : decode cX7_remembers 70 = .ok (.imul, 1) := by decide +kernel
theorem dX7_remembers_71 : decode cX7_remembers 71 = .ok (.iload_n 1, 1) := by decide +kernel
theorem dX7_remembers_72 : decode cX7_remembers 72 = .ok (.iadd, 1) := by decide +kernel
theorem dX7_remembers_73 : decode cX7_remembers 73 = .ok (.aload_n 0, 1) := by decide +kernel
theorem dX7_remembers_74 : decode cX7_remembers 74 = .ok (.getfield 17, 3) := by decide +kernel
theorem dX7_remembers_77 : decode cX7_remembers 77 = .ok (.iload_n 1, 1) := by decide +kernel
theorem dX7_remembers_78 : decode cX7_remembers 78 = .ok (.iaload, 1) := by decide +kernel
theorem dX7_remembers_79 : decode cX7_remembers 79 = .ok (.iastore, 1) := by decide +kernel
theorem dX7_remembers_80 : decode cX7_remembers 80 = .ok (.iinc 1 1, 3) := by decide +kernel
theorem dX7_remembers_83 : decode cX7_remembers 83 = .ok (.goto (-31), 3) := by decide +kernel
theorem dX7_remembers_86 : decode cX7_remembers 86 = .ok (.aload_n 0, 1) := by decide +kernel
theorem dX7_remembers_87 : decode cX7_remembers 87 = .ok (.dup, 1) := by decide +kernel
theorem dX7_remembers_88 : decode cX7_remembers 88 = .ok (.getfield 263, 3) := by decide +kernel
theorem dX7_remembers_91 : decode cX7_remembers 91 = .ok (.iconst 1, 1) := by decide +kernel
theorem dX7_remembers_92 : decode cX7_remembers 92 = .ok (.iadd, 1) := by decide +kernel
theorem dX7_remembers_93 : decode cX7_remembers 93 = .ok (.putfield 263, 3) := by decide +kernel
theorem dX7_remembers_96 : decode cX7_remembers 96 = .ok (.aload_n 0, 1) := by decide +kernel
theorem dX7_remembers_97 : decode cX7_remembers 97 = .ok (.invokevirtual 380, 3) := by decide +kernel
theorem dX7_remembers_100 : decode cX7_remembers 100 = .ok (.return_, 1) := by decide +kernel
theorem dX7_done_0 : decode cX7_done 0 = .ok (.aload_n 0, 1) := by decide +kernel
theorem dX7_done_1 : decode cX7_done 1 = .ok (.invokevirtual 260, 3) := by decide +kernel
theorem dX7_done_4 : decode cX7_done 4 = .ok (.aload_n 0, 1) := by decide +kernel
theorem dX7_done_5 : decode cX7_done 5 = .ok (.iload_n 1, 1) := by decide +kernel
theorem dX7_done_6 : decode cX7_done 6 = .ok (.invokevirtual 53, 3) := by decide +kernel
theorem dX7_done_9 : decode cX7_done 9 = .ok (.ireturn, 1) := by decide +kernel
theorem dX7_read_0 : decode cX7_read 0 = .ok (.aload_n 0, 1) := by decide +kernel
theorem dX7_read_1 : decode cX7_read 1 = .ok (.iconst 0, 1) := by decide +kernel
theorem dX7_read_2 : decode cX7_read 2 = .ok (.putfield 43, 3) := by decide +kernel
theorem dX7_read_5 : decode cX7_read 5 = .ok (.aload_n 0, 1) := by decide +kernel
theorem dX7_read_6 : decode cX7_read 6 = .ok (.iload_n 1, 1) := by decide +kernel
theorem dX7_read_7 : decode cX7_read 7 = .ok (.iload_n 2, 1) := by decide +kernel
theorem dX7_read_8 : decode cX7_read 8 = .ok (.invokevirtual 377, 3) := by decide +kernel
theorem dX7_read_11 : decode cX7_read 11 = .ok (.ifCond .ne 9, 3) := by decide +kernel
theorem dX7_read_14 : decode cX7_read 14 = .ok (.aload_n 0, 1) := by decide +kernel
theorem dX7_read_15 : decode cX7_read 15 = .ok (.iconst 1, 1) := by decide +kernel
theorem dX7_read_16 : decode cX7_read 16 = .ok (.invokevirtual 49, 3) := by decide +kernel
theorem dX7_read_19 : decode cX7_read 19 = .ok (.ireturn, 1) := by decide +kernel
theorem dX7_read_20 : decode cX7_read 20 = .ok (.aload_n 0, 1) := by decide +kernel
theorem dX7_read_21 : decode cX7_read 21 = .ok (.invokevirtual 470, 3) := by decide +kernel
theorem dX7_read_24 : decode cX7_read 24 = .ok (.aload_n 0, 1) := by decide +kernel
theorem dX7_read_25 : decode cX7_read 25 = .ok (.iload_n 1, 1) := by decide +kernel
theorem dX7_read_26 : decode cX7_read 26 = .ok (.invokevirtual 371, 3) := by decide +kernel
theorem dX7_read_29 : decode cX7_read 29 = .ok (.pop, 1) := by decide +kernel
theorem dX7_read_30 : decode cX7_read 30 = .ok (.aload_n 0, 1) := by decide +kernel
theorem dX7_read_31 : decode cX7_read 31 = .ok (.aload_n 0, 1) := by decide +kernel
theorem dX7_read_32 : decode cX7_read 32 = .ok (.iload_n 1, 1) := by decide +kernel
theorem dX7_read_33 : decode cX7_read 33 = .ok (.iload_n 2, 1) := by decide +kernel
theorem dX7_read_34 : decode cX7_read 34 = .ok (.invokevirtual 285, 3) := by decide +kernel
theorem dX7_read_37 : decode cX7_read 37 = .ok (.invokevirtual 473, 3) := by decide +kernel
theorem dX7_read_40 : decode cX7_read 40 = .ok (.ireturn, 1) := by decide +kernel
theorem dX7_write_0 : decode cX7_write 0 = .ok (.aload_n 0, 1) := by decide +kernel
theorem dX7_write_1 : decode cX7_write 1 = .ok (.iconst 0, 1) := by decide +kernel
theorem dX7_write_2 : decode cX7_write 2 = .ok (.putfield 43, 3) := by decide +kernel
theorem dX7_write_5 : decode cX7_write 5 = .ok (.aload_n 0, 1) := by decide +kernel
theorem dX7_write_6 : decode cX7_write 6 = .ok (.iload_n 1, 1) := by decide +kernel
theorem dX7_write_7 : decode cX7_write 7 = .ok (.iload_n 2, 1) := by decide +kernel
theorem dX7_write_8 : decode cX7_write 8 = .ok (.invokevirtual 377, 3) := by decide +kernel
theorem dX7_write_11 : decode cX7_write 11 = .ok (.ifCond .ne 9, 3) := by decide +kernel
theorem dX7_write_14 : decode cX7_write 14 = .ok (.aload_n 0, 1) := by decide +kernel
theorem dX7_write_15 : decode cX7_write 15 = .ok (.iconst 1, 1) := by decide +kernel
theorem dX7_write_16 : decode cX7_write 16 = .ok (.invokevirtual 49, 3) := by decide +kernel
theorem dX7_write_19 : decode cX7_write 19 = .ok (.ireturn, 1) := by decide +kernel
theorem dX7_write_20 : decode cX7_write 20 = .ok (.iload_n 3, 1) := by decide +kernel
theorem dX7_write_21 : decode cX7_write 21 = .ok (.iconst 0, 1) := by decide +kernel
theorem dX7_write_22 : decode cX7_write 22 = .ok (.ldc 210, 2) := by decide +kernel
theorem dX7_write_24 : decode cX7_write 24 = .ok (.invokestatic 122, 3) := by decide +kernel
theorem dX7_write_27 : decode cX7_write 27 = .ok (.ifCond .ne 9, 3) := by decide +kernel
theorem dX7_write_30 : decode cX7_write 30 = .ok (.aload_n 0, 1) := by decide +kernel
theorem dX7_write_31 : decode cX7_write 31 = .ok (.iconst 2, 1) := by decide +kernel
theorem dX7_write_32 : decode cX7_write 32 = .ok (.invokevirtual 49, 3) := by decide +kernel
theorem dX7_write_35 : decode cX7_write 35 = .ok (.ireturn, 1) := by decide +kernel
theorem dX7_write_36 : decode cX7_write 36 = .ok (.aload_n 0, 1) := by decide +kernel
theorem dX7_write_37 : decode cX7_write 37 = .ok (.invokevirtual 470, 3) := by decide +kernel
theorem dX7_write_40 : decode cX7_write 40 = .ok (.aload_n 0, 1) := by decide +kernel
theorem dX7_write_41 : decode cX7_write 41 = .ok (.iload_n 1, 1) := by decide +kernel
theorem dX7_write_42 : decode cX7_write 42 = .ok (.iload_n 2, 1) := by decide +kernel
theorem dX7_write_43 : decode cX7_write 43 = .ok (.iload_n 3, 1) := by decide +kernel
theorem dX7_write_44 : decode cX7_write 44 = .ok (.invokevirtual 396, 3) := by decide +kernel
theorem dX7_write_47 : decode cX7_write 47 = .ok (.pop, 1) := by decide +kernel
theorem dX7_write_48 : decode cX7_write 48 = .ok (.aload_n 0, 1) := by decide +kernel
theorem dX7_write_49 : decode cX7_write 49 = .ok (.aload_n 0, 1) := by decide +kernel
theorem dX7_write_50 : decode cX7_write 50 = .ok (.iload_n 1, 1) := by decide +kernel
theorem dX7_write_51 : decode cX7_write 51 = .ok (.invokevirtual 326, 3) := by decide +kernel
theorem dX7_write_54 : decode cX7_write 54 = .ok (.invokevirtual 473, 3) := by decide +kernel
theorem dX7_write_57 : decode cX7_write 57 = .ok (.ireturn, 1) := by decide +kernel
theorem dX7_drop_0 : decode cX7_drop 0 = .ok (.aload_n 0, 1) := by decide +kernel
theorem dX7_drop_1 : decode cX7_drop 1 = .ok (.iconst 0, 1) := by decide +kernel
theorem dX7_drop_2 : decode cX7_drop 2 = .ok (.putfield 43, 3) := by decide +kernel
theorem dX7_drop_5 : decode cX7_drop 5 = .ok (.aload_n 0, 1) := by decide +kernel
theorem dX7_drop_6 : decode cX7_drop 6 = .ok (.iload_n 1, 1) := by decide +kernel
theorem dX7_drop_7 : decode cX7_drop 7 = .ok (.invokevirtual 374, 3) := by decide +kernel
theorem dX7_drop_10 : decode cX7_drop 10 = .ok (.ifCond .ne 9, 3) := by decide +kernel
theorem dX7_drop_13 : decode cX7_drop 13 = .ok (.aload_n 0, 1) := by decide +kernel
theorem dX7_drop_14 : decode cX7_drop 14 = .ok (.iconst 1, 1) := by decide +kernel
theorem dX7_drop_15 : decode cX7_drop 15 = .ok (.invokevirtual 49, 3) := by decide +kernel
theorem dX7_drop_18 : decode cX7_drop 18 = .ok (.ireturn, 1) := by decide +kernel
theorem dX7_drop_19 : decode cX7_drop 19 = .ok (.aload_n 0, 1) := by decide +kernel
theorem dX7_drop_20 : decode cX7_drop 20 = .ok (.getfield 17, 3) := by decide +kernel
theorem dX7_drop_23 : decode cX7_drop 23 = .ok (.sipush 512, 3) := by decide +kernel
theorem dX7_drop_26 : decode cX7_drop 26 = .ok (.iload_n 1, 1) := by decide +kernel
theorem dX7_drop_27 : decode cX7_drop 27 = .ok (.iadd, 1) := by decide +kernel
theorem dX7_drop_28 : decode cX7_drop 28 = .ok (.iaload, 1) := by decide +kernel
theorem dX7_drop_29 : decode cX7_drop 29 = .ok (.ifCond .ne 9, 3) := by decide +kernel
theorem dX7_drop_32 : decode cX7_drop 32 = .ok (.aload_n 0, 1) := by decide +kernel
theorem dX7_drop_33 : decode cX7_drop 33 = .ok (.iconst 5, 1) := by decide +kernel
theorem dX7_drop_34 : decode cX7_drop 34 = .ok (.invokevirtual 49, 3) := by decide +kernel
theorem dX7_drop_37 : decode cX7_drop 37 = .ok (.ireturn, 1) := by decide +kernel
theorem dX7_drop_38 : decode cX7_drop 38 = .ok (.aload_n 0, 1) := by decide +kernel
theorem dX7_drop_39 : decode cX7_drop 39 = .ok (.invokevirtual 470, 3) := by decide +kernel
theorem dX7_drop_42 : decode cX7_drop 42 = .ok (.aload_n 0, 1) := by decide +kernel
theorem dX7_drop_43 : decode cX7_drop 43 = .ok (.aload_n 0, 1) := by decide +kernel
theorem dX7_drop_44 : decode cX7_drop 44 = .ok (.iload_n 1, 1) := by decide +kernel
theorem dX7_drop_45 : decode cX7_drop 45 = .ok (.invokevirtual 350, 3) := by decide +kernel
theorem dX7_drop_48 : decode cX7_drop 48 = .ok (.ifCond .eq 7, 3) := by decide +kernel
theorem dX7_drop_51 : decode cX7_drop 51 = .ok (.iconst 1, 1) := by decide +kernel
theorem dX7_drop_52 : decode cX7_drop 52 = .ok (.goto 4, 3) := by decide +kernel
theorem dX7_drop_55 : decode cX7_drop 55 = .ok (.iconst 0, 1) := by decide +kernel
theorem dX7_drop_56 : decode cX7_drop 56 = .ok (.invokevirtual 473, 3) := by decide +kernel
theorem dX7_drop_59 : decode cX7_drop 59 = .ok (.ireturn, 1) := by decide +kernel
theorem dX7_clean_0 : decode cX7_clean 0 = .ok (.aload_n 0, 1) := by decide +kernel
theorem dX7_clean_1 : decode cX7_clean 1 = .ok (.iconst 0, 1) := by decide +kernel
theorem dX7_clean_2 : decode cX7_clean 2 = .ok (.putfield 43, 3) := by decide +kernel
theorem dX7_clean_5 : decode cX7_clean 5 = .ok (.aload_n 0, 1) := by decide +kernel
theorem dX7_clean_6 : decode cX7_clean 6 = .ok (.getfield 255, 3) := by decide +kernel
theorem dX7_clean_9 : decode cX7_clean 9 = .ok (.ifnonnull 9, 3) := by decide +kernel
theorem dX7_clean_12 : decode cX7_clean 12 = .ok (.aload_n 0, 1) := by decide +kernel
theorem dX7_clean_13 : decode cX7_clean 13 = .ok (.iconst 1, 1) := by decide +kernel
theorem dX7_clean_14 : decode cX7_clean 14 = .ok (.invokevirtual 49, 3) := by decide +kernel
theorem dX7_clean_17 : decode cX7_clean 17 = .ok (.ireturn, 1) := by decide +kernel
theorem dX7_clean_18 : decode cX7_clean 18 = .ok (.aload_n 0, 1) := by decide +kernel
theorem dX7_clean_19 : decode cX7_clean 19 = .ok (.invokevirtual 380, 3) := by decide +kernel
theorem dX7_clean_22 : decode cX7_clean 22 = .ok (.iconst 0, 1) := by decide +kernel
theorem dX7_clean_23 : decode cX7_clean 23 = .ok (.istore_n 1, 1) := by decide +kernel
theorem dX7_clean_24 : decode cX7_clean 24 = .ok (.iload_n 1, 1) := by decide +kernel
theorem dX7_clean_25 : decode cX7_clean 25 = .ok (.bipush 32, 2) := by decide +kernel
theorem dX7_clean_27 : decode cX7_clean 27 = .ok (.if_icmp .ge 15, 3) := by decide +kernel
theorem dX7_clean_30 : decode cX7_clean 30 = .ok (.aload_n 0, 1) := by decide +kernel
theorem dX7_clean_31 : decode cX7_clean 31 = .ok (.iload_n 1, 1) := by decide +kernel
theorem dX7_clean_32 : decode cX7_clean 32 = .ok (.invokevirtual 344, 3) := by decide +kernel
theorem dX7_clean_35 : decode cX7_clean 35 = .ok (.pop, 1) := by decide +kernel
theorem dX7_clean_36 : decode cX7_clean 36 = .ok (.iinc 1 1, 3) := by decide +kernel
theorem dX7_clean_39 : decode cX7_clean 39 = .ok (.goto (-15), 3) := by decide +kernel
theorem dX7_clean_42 : decode cX7_clean 42 = .ok (.aload_n 0, 1) := by decide +kernel
theorem dX7_clean_43 : decode cX7_clean 43 = .ok (.getfield 273, 3) := by decide +kernel
theorem dX7_clean_46 : decode cX7_clean 46 = .ok (.istore_n 1, 1) := by decide +kernel
theorem dX7_clean_47 : decode cX7_clean 47 = .ok (.iload_n 1, 1) := by decide +kernel
theorem dX7_clean_48 : decode cX7_clean 48 = .ok (.ifCond .ne 10, 3) := by decide +kernel
theorem dX7_clean_51 : decode cX7_clean 51 = .ok (.aload_n 0, 1) := by decide +kernel
theorem dX7_clean_52 : decode cX7_clean 52 = .ok (.bipush 6, 2) := by decide +kernel
theorem dX7_clean_54 : decode cX7_clean 54 = .ok (.invokevirtual 49, 3) := by decide +kernel
theorem dX7_clean_57 : decode cX7_clean 57 = .ok (.ireturn, 1) := by decide +kernel
theorem dX7_clean_58 : decode cX7_clean 58 = .ok (.aload_n 0, 1) := by decide +kernel
theorem dX7_clean_59 : decode cX7_clean 59 = .ok (.invokevirtual 470, 3) := by decide +kernel
theorem dX7_clean_62 : decode cX7_clean 62 = .ok (.iconst 0, 1) := by decide +kernel
theorem dX7_clean_63 : decode cX7_clean 63 = .ok (.istore_n 2, 1) := by decide +kernel
theorem dX7_clean_64 : decode cX7_clean 64 = .ok (.iload_n 2, 1) := by decide +kernel
theorem dX7_clean_65 : decode cX7_clean 65 = .ok (.bipush 32, 2) := by decide +kernel
theorem dX7_clean_67 : decode cX7_clean 67 = .ok (.if_icmp .ge 15, 3) := by decide +kernel
theorem dX7_clean_70 : decode cX7_clean 70 = .ok (.aload_n 0, 1) := by decide +kernel
theorem dX7_clean_71 : decode cX7_clean 71 = .ok (.iload_n 2, 1) := by decide +kernel
theorem dX7_clean_72 : decode cX7_clean 72 = .ok (.invokevirtual 344, 3) := by decide +kernel
theorem dX7_clean_75 : decode cX7_clean 75 = .ok (.pop, 1) := by decide +kernel
theorem dX7_clean_76 : decode cX7_clean 76 = .ok (.iinc 2 1, 3) := by decide +kernel
theorem dX7_clean_79 : decode cX7_clean 79 = .ok (.goto (-15), 3) := by decide +kernel
theorem dX7_clean_82 : decode cX7_clean 82 = .ok (.aload_n 0, 1) := by decide +kernel
theorem dX7_clean_83 : decode cX7_clean 83 = .ok (.iload_n 1, 1) := by decide +kernel
theorem dX7_clean_84 : decode cX7_clean 84 = .ok (.invokevirtual 473, 3) := by decide +kernel
theorem dX7_clean_87 : decode cX7_clean 87 = .ok (.ireturn, 1) := by decide +kernel
theorem dX7_undo_0 : decode cX7_undo 0 = .ok (.aload_n 0, 1) := by decide +kernel
theorem dX7_undo_1 : decode cX7_undo 1 = .ok (.iconst 0, 1) := by decide +kernel
theorem dX7_undo_2 : decode cX7_undo 2 = .ok (.putfield 43, 3) := by decide +kernel
theorem dX7_undo_5 : decode cX7_undo 5 = .ok (.aload_n 0, 1) := by decide +kernel
theorem dX7_undo_6 : decode cX7_undo 6 = .ok (.getfield 255, 3) := by decide +kernel
theorem dX7_undo_9 : decode cX7_undo 9 = .ok (.ifnull 10, 3) := by decide +kernel
theorem dX7_undo_12 : decode cX7_undo 12 = .ok (.aload_n 0, 1) := by decide +kernel
theorem dX7_undo_13 : decode cX7_undo 13 = .ok (.getfield 263, 3) := by decide +kernel
theorem dX7_undo_16 : decode cX7_undo 16 = .ok (.ifCond .ne 10, 3) := by decide +kernel
theorem dX7_undo_19 : decode cX7_undo 19 = .ok (.aload_n 0, 1) := by decide +kernel
theorem dX7_undo_20 : decode cX7_undo 20 = .ok (.bipush 6, 2) := by decide +kernel
theorem dX7_undo_22 : decode cX7_undo 22 = .ok (.invokevirtual 476, 3) := by decide +kernel
theorem dX7_undo_25 : decode cX7_undo 25 = .ok (.ireturn, 1) := by decide +kernel
theorem dX7_undo_26 : decode cX7_undo 26 = .ok (.aload_n 0, 1) := by decide +kernel
theorem dX7_undo_27 : decode cX7_undo 27 = .ok (.dup, 1) := by decide +kernel
theorem dX7_undo_28 : decode cX7_undo 28 = .ok (.getfield 263, 3) := by decide +kernel
