theorem dX5_could_48 : decode cX5_could 48 = .ok (.iload_n 2, 1) := by decide +kernel
theorem dX5_could_49 : decode cX5_could 49 = .ok (.invokevirtual 88, 3) := by decide +kernel
theorem dX5_could_52 : decode cX5_could 52 = .ok (.ireturn, 1) := by decide +kernel
theorem dX5_surely_0 : decode cX5_surely 0 = .ok (.aload_n 0, 1) := by decide +kernel
theorem dX5_surely_1 : decode cX5_surely 1 = .ok (.getfield 67, 3) := by decide +kernel
theorem dX5_surely_4 : decode cX5_surely 4 = .ok (.ifCond .ne 9, 3) := by decide +kernel
theorem dX5_surely_7 : decode cX5_surely 7 = .ok (.aload_n 0, 1) := by decide +kernel
theorem dX5_surely_8 : decode cX5_surely 8 = .ok (.iconst 1, 1) := by decide +kernel
theorem dX5_surely_9 : decode cX5_surely 9 = .ok (.invokevirtual 59, 3) := by decide +kernel
theorem dX5_surely_12 : decode cX5_surely 12 = .ok (.ireturn, 1) := by decide +kernel
theorem dX5_surely_13 : decode cX5_surely 13 = .ok (.aload_n 0, 1) := by decide +kernel
theorem dX5_surely_14 : decode cX5_surely 14 = .ok (.invokevirtual 216, 3) := by decide +kernel
theorem dX5_surely_17 : decode cX5_surely 17 = .ok (.istore_n 1, 1) := by decide +kernel
theorem dX5_surely_18 : decode cX5_surely 18 = .ok (.iload_n 1, 1) := by decide +kernel
theorem dX5_surely_19 : decode cX5_surely 19 = .ok (.ifCond .ne 7, 3) := by decide +kernel
theorem dX5_surely_22 : decode cX5_surely 22 = .ok (.iconst 0, 1) := by decide +kernel
theorem dX5_surely_23 : decode cX5_surely 23 = .ok (.goto 5, 3) := by decide +kernel
theorem dX5_surely_26 : decode cX5_surely 26 = .ok (.bipush 15, 2) := by decide +kernel
theorem dX5_surely_28 : decode cX5_surely 28 = .ok (.istore_n 2, 1) := by decide +kernel
theorem dX5_surely_29 : decode cX5_surely 29 = .ok (.iconst 0, 1) := by decide +kernel
theorem dX5_surely_30 : decode cX5_surely 30 = .ok (.istore_n 3, 1) := by decide +kernel
theorem dX5_surely_31 : decode cX5_surely 31 = .ok (.iload_n 3, 1) := by decide +kernel
theorem dX5_surely_32 : decode cX5_surely 32 = .ok (.bipush 16, 2) := by decide +kernel
theorem dX5_surely_34 : decode cX5_surely 34 = .ok (.if_icmp .ge 22, 3) := by decide +kernel
theorem dX5_surely_37 : decode cX5_surely 37 = .ok (.iload_n 1, 1) := by decide +kernel
theorem dX5_surely_38 : decode cX5_surely 38 = .ok (.iload_n 3, 1) := by decide +kernel
theorem dX5_surely_39 : decode cX5_surely 39 = .ok (.ishr, 1) := by decide +kernel
theorem dX5_surely_40 : decode cX5_surely 40 = .ok (.iconst 1, 1) := by decide +kernel
theorem dX5_surely_41 : decode cX5_surely 41 = .ok (.iand, 1) := by decide +kernel
theorem dX5_surely_42 : decode cX5_surely 42 = .ok (.iconst 1, 1) := by decide +kernel
theorem dX5_surely_43 : decode cX5_surely 43 = .ok (.if_icmp .ne 7, 3) := by decide +kernel
theorem dX5_surely_46 : decode cX5_surely 46 = .ok (.iload_n 2, 1) := by decide +kernel
theorem dX5_surely_47 : decode cX5_surely 47 = .ok (.iload_n 3, 1) := by decide +kernel
theorem dX5_surely_48 : decode cX5_surely 48 = .ok (.iand, 1) := by decide +kernel
theorem dX5_surely_49 : decode cX5_surely 49 = .ok (.istore_n 2, 1) := by decide +kernel
theorem dX5_surely_50 : decode cX5_surely 50 = .ok (.iinc 3 1, 3) := by decide +kernel
theorem dX5_surely_53 : decode cX5_surely 53 = .ok (.goto (-22), 3) := by decide +kernel
theorem dX5_surely_56 : decode cX5_surely 56 = .ok (.aload_n 0, 1) := by decide +kernel
theorem dX5_surely_57 : decode cX5_surely 57 = .ok (.iload_n 2, 1) := by decide +kernel
theorem dX5_surely_58 : decode cX5_surely 58 = .ok (.invokevirtual 88, 3) := by decide +kernel
theorem dX5_surely_61 : decode cX5_surely 61 = .ok (.ireturn, 1) := by decide +kernel
theorem dX5_ask_0 : decode cX5_ask 0 = .ok (.aload_n 0, 1) := by decide +kernel
theorem dX5_ask_1 : decode cX5_ask 1 = .ok (.getfield 67, 3) := by decide +kernel
theorem dX5_ask_4 : decode cX5_ask 4 = .ok (.ifCond .ne 9, 3) := by decide +kernel
theorem dX5_ask_7 : decode cX5_ask 7 = .ok (.aload_n 0, 1) := by decide +kernel
theorem dX5_ask_8 : decode cX5_ask 8 = .ok (.iconst 1, 1) := by decide +kernel
theorem dX5_ask_9 : decode cX5_ask 9 = .ok (.invokevirtual 59, 3) := by decide +kernel
theorem dX5_ask_12 : decode cX5_ask 12 = .ok (.ireturn, 1) := by decide +kernel
theorem dX5_ask_13 : decode cX5_ask 13 = .ok (.aload_n 0, 1) := by decide +kernel
theorem dX5_ask_14 : decode cX5_ask 14 = .ok (.aload_n 0, 1) := by decide +kernel
theorem dX5_ask_15 : decode cX5_ask 15 = .ok (.aload_n 0, 1) := by decide +kernel
theorem dX5_ask_16 : decode cX5_ask 16 = .ok (.invokevirtual 216, 3) := by decide +kernel
theorem dX5_ask_19 : decode cX5_ask 19 = .ok (.invokevirtual 224, 3) := by decide +kernel
theorem dX5_ask_22 : decode cX5_ask 22 = .ok (.invokevirtual 88, 3) := by decide +kernel
theorem dX5_ask_25 : decode cX5_ask 25 = .ok (.ireturn, 1) := by decide +kernel
theorem dX5_askLeaves_0 : decode cX5_askLeaves 0 = .ok (.aload_n 0, 1) := by decide +kernel
theorem dX5_askLeaves_1 : decode cX5_askLeaves 1 = .ok (.getfield 67, 3) := by decide +kernel
theorem dX5_askLeaves_4 : decode cX5_askLeaves 4 = .ok (.ifCond .ne 9, 3) := by decide +kernel
theorem dX5_askLeaves_7 : decode cX5_askLeaves 7 = .ok (.aload_n 0, 1) := by decide +kernel
theorem dX5_askLeaves_8 : decode cX5_askLeaves 8 = .ok (.iconst 1, 1) := by decide +kernel
theorem dX5_askLeaves_9 : decode cX5_askLeaves 9 = .ok (.invokevirtual 59, 3) := by decide +kernel
theorem dX5_askLeaves_12 : decode cX5_askLeaves 12 = .ok (.ireturn, 1) := by decide +kernel
theorem dX5_askLeaves_13 : decode cX5_askLeaves 13 = .ok (.aload_n 0, 1) := by decide +kernel
theorem dX5_askLeaves_14 : decode cX5_askLeaves 14 = .ok (.invokevirtual 216, 3) := by decide +kernel
theorem dX5_askLeaves_17 : decode cX5_askLeaves 17 = .ok (.istore_n 1, 1) := by decide +kernel
theorem dX5_askLeaves_18 : decode cX5_askLeaves 18 = .ok (.aload_n 0, 1) := by decide +kernel
theorem dX5_askLeaves_19 : decode cX5_askLeaves 19 = .ok (.iload_n 1, 1) := by decide +kernel
theorem dX5_askLeaves_20 : decode cX5_askLeaves 20 = .ok (.invokevirtual 224, 3) := by decide +kernel
theorem dX5_askLeaves_23 : decode cX5_askLeaves 23 = .ok (.istore_n 2, 1) := by decide +kernel
theorem dX5_askLeaves_24 : decode cX5_askLeaves 24 = .ok (.aload_n 0, 1) := by decide +kernel
theorem dX5_askLeaves_25 : decode cX5_askLeaves 25 = .ok (.iload_n 2, 1) := by decide +kernel
theorem dX5_askLeaves_26 : decode cX5_askLeaves 26 = .ok (.ifCond .ge 8, 3) := by decide +kernel
theorem dX5_askLeaves_29 : decode cX5_askLeaves 29 = .ok (.bipush (-2), 2) := by decide +kernel
theorem dX5_askLeaves_31 : decode cX5_askLeaves 31 = .ok (.goto 8, 3) := by decide +kernel
theorem dX5_askLeaves_34 : decode cX5_askLeaves 34 = .ok (.iload_n 1, 1) := by decide +kernel
theorem dX5_askLeaves_35 : decode cX5_askLeaves 35 = .ok (.iload_n 2, 1) := by decide +kernel
theorem dX5_askLeaves_36 : decode cX5_askLeaves 36 = .ok (.invokestatic 227, 3) := by decide +kernel
theorem dX5_askLeaves_39 : decode cX5_askLeaves 39 = .ok (.invokevirtual 88, 3) := by decide +kernel
theorem dX5_askLeaves_42 : decode cX5_askLeaves 42 = .ok (.ireturn, 1) := by decide +kernel
theorem dX5_judge_0 : decode cX5_judge 0 = .ok (.aload_n 0, 1) := by decide +kernel
theorem dX5_judge_1 : decode cX5_judge 1 = .ok (.getfield 67, 3) := by decide +kernel
theorem dX5_judge_4 : decode cX5_judge 4 = .ok (.ifCond .ne 9, 3) := by decide +kernel
theorem dX5_judge_7 : decode cX5_judge 7 = .ok (.aload_n 0, 1) := by decide +kernel
theorem dX5_judge_8 : decode cX5_judge 8 = .ok (.iconst 1, 1) := by decide +kernel
theorem dX5_judge_9 : decode cX5_judge 9 = .ok (.invokevirtual 59, 3) := by decide +kernel
theorem dX5_judge_12 : decode cX5_judge 12 = .ok (.ireturn, 1) := by decide +kernel
theorem dX5_judge_13 : decode cX5_judge 13 = .ok (.aload_n 0, 1) := by decide +kernel
theorem dX5_judge_14 : decode cX5_judge 14 = .ok (.aload_n 0, 1) := by decide +kernel
theorem dX5_judge_15 : decode cX5_judge 15 = .ok (.getfield 16, 3) := by decide +kernel
theorem dX5_judge_18 : decode cX5_judge 18 = .ok (.getfield 74, 3) := by decide +kernel
theorem dX5_judge_21 : decode cX5_judge 21 = .ok (.iconst 0, 1) := by decide +kernel
theorem dX5_judge_22 : decode cX5_judge 22 = .ok (.invokevirtual 202, 3) := by decide +kernel
theorem dX5_judge_25 : decode cX5_judge 25 = .ok (.istore_n 1, 1) := by decide +kernel
theorem dX5_judge_26 : decode cX5_judge 26 = .ok (.iconst 0, 1) := by decide +kernel
theorem dX5_judge_27 : decode cX5_judge 27 = .ok (.istore_n 2, 1) := by decide +kernel
theorem dX5_judge_28 : decode cX5_judge 28 = .ok (.iload_n 2, 1) := by decide +kernel
theorem dX5_judge_29 : decode cX5_judge 29 = .ok (.aload_n 0, 1) := by decide +kernel
theorem dX5_judge_30 : decode cX5_judge 30 = .ok (.getfield 16, 3) := by decide +kernel
theorem dX5_judge_33 : decode cX5_judge 33 = .ok (.getfield 230, 3) := by decide +kernel
theorem dX5_judge_36 : decode cX5_judge 36 = .ok (.if_icmp .ge 40, 3) := by decide +kernel
theorem dX5_judge_39 : decode cX5_judge 39 = .ok (.iload_n 1, 1) := by decide +kernel
theorem dX5_judge_40 : decode cX5_judge 40 = .ok (.aload_n 0, 1) := by decide +kernel
theorem dX5_judge_41 : decode cX5_judge 41 = .ok (.getfield 16, 3) := by decide +kernel
theorem dX5_judge_44 : decode cX5_judge 44 = .ok (.getfield 233, 3) := by decide +kernel
theorem dX5_judge_47 : decode cX5_judge 47 = .ok (.iload_n 2, 1) := by decide +kernel
theorem dX5_judge_48 : decode cX5_judge 48 = .ok (.iaload, 1) := by decide +kernel
theorem dX5_judge_49 : decode cX5_judge 49 = .ok (.ishr, 1) := by decide +kernel
theorem dX5_judge_50 : decode cX5_judge 50 = .ok (.iconst 1, 1) := by decide +kernel
theorem dX5_judge_51 : decode cX5_judge 51 = .ok (.iand, 1) := by decide +kernel
theorem dX5_judge_52 : decode cX5_judge 52 = .ok (.aload_n 0, 1) := by decide +kernel
theorem dX5_judge_53 : decode cX5_judge 53 = .ok (.getfield 16, 3) := by decide +kernel
theorem dX5_judge_56 : decode cX5_judge 56 = .ok (.getfield 236, 3) := by decide +kernel
theorem dX5_judge_59 : decode cX5_judge 59 = .ok (.iload_n 2, 1) := by decide +kernel
theorem dX5_judge_60 : decode cX5_judge 60 = .ok (.iaload, 1) := by decide +kernel
theorem dX5_judge_61 : decode cX5_judge 61 = .ok (.if_icmp .eq 9, 3) := by decide +kernel
theorem dX5_judge_64 : decode cX5_judge 64 = .ok (.aload_n 0, 1) := by decide +kernel
theorem dX5_judge_65 : decode cX5_judge 65 = .ok (.iload_n 2, 1) := by decide +kernel
theorem dX5_judge_66 : decode cX5_judge 66 = .ok (.invokevirtual 88, 3) := by decide +kernel
theorem dX5_judge_69 : decode cX5_judge 69 = .ok (.ireturn, 1) := by decide +kernel
theorem dX5_judge_70 : decode cX5_judge 70 = .ok (.iinc 2 1, 3) := by decide +kernel
theorem dX5_judge_73 : decode cX5_judge 73 = .ok (.goto (-45), 3) := by decide +kernel
theorem dX5_judge_76 : decode cX5_judge 76 = .ok (.aload_n 0, 1) := by decide +kernel
theorem dX5_judge_77 : decode cX5_judge 77 = .ok (.bipush (-2), 2) := by decide +kernel
theorem dX5_judge_79 : decode cX5_judge 79 = .ok (.invokevirtual 88, 3) := by decide +kernel
theorem dX5_judge_82 : decode cX5_judge 82 = .ok (.ireturn, 1) := by decide +kernel
theorem dX5_fitBits_0 : decode cX5_fitBits 0 = .ok (.aload_n 0, 1) := by decide +kernel
theorem dX5_fitBits_1 : decode cX5_fitBits 1 = .ok (.getfield 16, 3) := by decide +kernel
theorem dX5_fitBits_4 : decode cX5_fitBits 4 = .ok (.getfield 239, 3) := by decide +kernel
theorem dX5_fitBits_7 : decode cX5_fitBits 7 = .ok (.ifCond .eq 11, 3) := by decide +kernel
theorem dX5_fitBits_10 : decode cX5_fitBits 10 = .ok (.aload_n 0, 1) := by decide +kernel
theorem dX5_fitBits_11 : decode cX5_fitBits 11 = .ok (.getfield 16, 3) := by decide +kernel
theorem dX5_fitBits_14 : decode cX5_fitBits 14 = .ok (.getfield 242, 3) := by decide +kernel
theorem dX5_fitBits_17 : decode cX5_fitBits 17 = .ok (.ireturn, 1) := by decide +kernel
theorem dX5_fitBits_18 : decode cX5_fitBits 18 = .ok (.iconst 0, 1) := by decide +kernel
theorem dX5_fitBits_19 : decode cX5_fitBits 19 = .ok (.istore_n 1, 1) := by decide +kernel
theorem dX5_fitBits_20 : decode cX5_fitBits 20 = .ok (.iconst 0, 1) := by decide +kernel
theorem dX5_fitBits_21 : decode cX5_fitBits 21 = .ok (.istore_n 2, 1) := by decide +kernel
theorem dX5_fitBits_22 : decode cX5_fitBits 22 = .ok (.iload_n 2, 1) := by decide +kernel
theorem dX5_fitBits_23 : decode cX5_fitBits 23 = .ok (.iconst 1, 1) := by decide +kernel
theorem dX5_fitBits_24 : decode cX5_fitBits 24 = .ok (.aload_n 0, 1) := by decide +kernel
theorem dX5_fitBits_25 : decode cX5_fitBits 25 = .ok (.getfield 16, 3) := by decide +kernel
theorem dX5_fitBits_28 : decode cX5_fitBits 28 = .ok (.getfield 244, 3) := by decide +kernel
theorem dX5_fitBits_31 : decode cX5_fitBits 31 = .ok (.ishl, 1) := by decide +kernel
theorem dX5_fitBits_32 : decode cX5_fitBits 32 = .ok (.if_icmp .ge 56, 3) := by decide +kernel
theorem dX5_fitBits_35 : decode cX5_fitBits 35 = .ok (.aload_n 0, 1) := by decide +kernel
theorem dX5_fitBits_36 : decode cX5_fitBits 36 = .ok (.getfield 37, 3) := by decide +kernel
theorem dX5_fitBits_39 : decode cX5_fitBits 39 = .ok (.aload_n 0, 1) := by decide +kernel
theorem dX5_fitBits_40 : decode cX5_fitBits 40 = .ok (.getfield 16, 3) := by decide +kernel
theorem dX5_fitBits_43 : decode cX5_fitBits 43 = .ok (.aload_n 0, 1) := by decide +kernel
theorem dX5_fitBits_44 : decode cX5_fitBits 44 = .ok (.getfield 16, 3) := by decide +kernel
theorem dX5_fitBits_47 : decode cX5_fitBits 47 = .ok (.getfield 74, 3) := by decide +kernel
theorem dX5_fitBits_50 : decode cX5_fitBits 50 = .ok (.iconst 0, 1) := by decide +kernel
theorem dX5_fitBits_51 : decode cX5_fitBits 51 = .ok (.iload_n 2, 1) := by decide +kernel
theorem dX5_fitBits_52 : decode cX5_fitBits 52 = .ok (.invokevirtual 77, 3) := by decide +kernel
theorem dX5_fitBits_55 : decode cX5_fitBits 55 = .ok (.aload_n 0, 1) := by decide +kernel
theorem dX5_fitBits_56 : decode cX5_fitBits 56 = .ok (.getfield 16, 3) := by decide +kernel
theorem dX5_fitBits_59 : decode cX5_fitBits 59 = .ok (.aload_n 0, 1) := by decide +kernel
theorem dX5_fitBits_60 : decode cX5_fitBits 60 = .ok (.getfield 37, 3) := by decide +kernel
theorem dX5_fitBits_63 : decode cX5_fitBits 63 = .ok (.aload_n 0, 1) := by decide +kernel
theorem dX5_fitBits_64 : decode cX5_fitBits 64 = .ok (.getfield 16, 3) := by decide +kernel
theorem dX5_fitBits_67 : decode cX5_fitBits 67 = .ok (.invokevirtual 212, 3) := by decide +kernel
theorem dX5_fitBits_70 : decode cX5_fitBits 70 = .ok (.invokevirtual 247, 3) := by decide +kernel
theorem dX5_fitBits_73 : decode cX5_fitBits 73 = .ok (.ifCond .eq 9, 3) := by decide +kernel
theorem dX5_fitBits_76 : decode cX5_fitBits 76 = .ok (.iload_n 1, 1) := by decide +kernel
theorem dX5_fitBits_77 : decode cX5_fitBits 77 = .ok (.iconst 1, 1) := by decide +kernel
theorem dX5_fitBits_78 : decode cX5_fitBits 78 = .ok (.iload_n 2, 1) := by decide +kernel
theorem dX5_fitBits_79 : decode cX5_fitBits 79 = .ok (.ishl, 1) := by decide +kernel
theorem dX5_fitBits_80 : decode cX5_fitBits 80 = .ok (.ior, 1) := by decide +kernel
theorem dX5_fitBits_81 : decode cX5_fitBits 81 = .ok (.istore_n 1, 1) := by decide +kernel
theorem dX5_fitBits_82 : decode cX5_fitBits 82 = .ok (.iinc 2 1, 3) := by decide +kernel
theorem dX5_fitBits_85 : decode cX5_fitBits 85 = .ok (.goto (-63), 3) := by decide +kernel
theorem dX5_fitBits_88 : decode cX5_fitBits 88 = .ok (.aload_n 0, 1) := by decide +kernel
theorem dX5_fitBits_89 : decode cX5_fitBits 89 = .ok (.getfield 16, 3) := by decide +kernel
theorem dX5_fitBits_92 : decode cX5_fitBits 92 = .ok (.iload_n 1, 1) := by decide +kernel
theorem dX5_fitBits_93 : decode cX5_fitBits 93 = .ok (.putfield 242, 3) := by decide +kernel
theorem dX5_fitBits_96 : decode cX5_fitBits 96 = .ok (.aload_n 0, 1) := by decide +kernel
theorem dX5_fitBits_97 : decode cX5_fitBits 97 = .ok (.getfield 16, 3) := by decide +kernel
theorem dX5_fitBits_100 : decode cX5_fitBits 100 = .ok (.iconst 1, 1) := by decide +kernel
theorem dX5_fitBits_101 : decode cX5_fitBits 101 = .ok (.putfield 239, 3) := by decide +kernel
theorem dX5_fitBits_104 : decode cX5_fitBits 104 = .ok (.iload_n 1, 1) := by decide +kernel
theorem dX5_fitBits_105 : decode cX5_fitBits 105 = .ok (.ireturn, 1) := by decide +kernel
theorem dX5_bestAsked_0 : decode cX5_bestAsked 0 = .ok (.bipush (-2), 2) := by decide +kernel
theorem dX5_bestAsked_2 : decode cX5_bestAsked 2 = .ok (.istore_n 2, 1) := by decide +kernel
theorem dX5_bestAsked_3 : decode cX5_bestAsked 3 = .ok (.iconst 0, 1) := by decide +kernel
theorem dX5_bestAsked_4 : decode cX5_bestAsked 4 = .ok (.istore_n 3, 1) := by decide +kernel
theorem dX5_bestAsked_5 : decode cX5_bestAsked 5 = .ok (.iload_n 1, 1) := by decide +kernel
theorem dX5_bestAsked_6 : decode cX5_bestAsked 6 = .ok (.ifCond .ne 6, 3) := by decide +kernel
theorem dX5_bestAsked_9 : decode cX5_bestAsked 9 = .ok (.bipush (-2), 2) := by decide +kernel
theorem dX5_bestAsked_11 : decode cX5_bestAsked 11 = .ok (.ireturn, 1) := by decide +kernel
theorem dX5_bestAsked_12 : decode cX5_bestAsked 12 = .ok (.iconst 0, 1) := by decide +kernel
theorem dX5_bestAsked_13 : decode cX5_bestAsked 13 = .ok (.istore 4, 2) := by decide +kernel
theorem dX5_bestAsked_15 : decode cX5_bestAsked 15 = .ok (.iload 4, 2) := by decide +kernel
theorem dX5_bestAsked_17 : decode cX5_bestAsked 17 = .ok (.aload_n 0, 1) := by decide +kernel
theorem dX5_bestAsked_18 : decode cX5_bestAsked 18 = .ok (.getfield 16, 3) := by decide +kernel
theorem dX5_bestAsked_21 : decode cX5_bestAsked 21 = .ok (.getfield 244, 3) := by decide +kernel
theorem dX5_bestAsked_24 : decode cX5_bestAsked 24 = .ok (.if_icmp .ge 33, 3) := by decide +kernel
theorem dX5_bestAsked_27 : decode cX5_bestAsked 27 = .ok (.iload_n 1, 1) := by decide +kernel
theorem dX5_bestAsked_28 : decode cX5_bestAsked 28 = .ok (.iload 4, 2) := by decide +kernel
theorem dX5_bestAsked_30 : decode cX5_bestAsked 30 = .ok (.invokestatic 227, 3) := by decide +kernel
theorem dX5_bestAsked_33 : decode cX5_bestAsked 33 = .ok (.istore 5, 2) := by decide +kernel
theorem dX5_bestAsked_35 : decode cX5_bestAsked 35 = .ok (.iload_n 2, 1) := by decide +kernel
theorem dX5_bestAsked_36 : decode cX5_bestAsked 36 = .ok (.ifCond .lt 9, 3) := by decide +kernel
theorem dX5_bestAsked_39 : decode cX5_bestAsked 39 = .ok (.iload 5, 2) := by decide +kernel
theorem dX5_bestAsked_41 : decode cX5_bestAsked 41 = .ok (.iload_n 3, 1) := by decide +kernel
theorem dX5_bestAsked_42 : decode cX5_bestAsked 42 = .ok (.if_icmp .ge 9, 3) := by decide +kernel
theorem dX5_bestAsked_45 : decode cX5_bestAsked 45 = .ok (.iload 4, 2) := by decide +kernel
theorem dX5_bestAsked_47 : decode cX5_bestAsked 47 = .ok (.istore_n 2, 1) := by decide +kernel
theorem dX5_bestAsked_48 : decode cX5_bestAsked 48 = .ok (.iload 5, 2) := by decide +kernel
theorem dX5_bestAsked_50 : decode cX5_bestAsked 50 = .ok (.istore_n 3, 1) := by decide +kernel
theorem dX5_bestAsked_51 : decode cX5_bestAsked 51 = .ok (.iinc 4 1, 3) := by decide +kernel
theorem dX5_bestAsked_54 : decode cX5_bestAsked 54 = .ok (.goto (-39), 3) := by decide +kernel
theorem dX5_bestAsked_57 : decode cX5_bestAsked 57 = .ok (.iload_n 2, 1) := by decide +kernel
theorem dX5_bestAsked_58 : decode cX5_bestAsked 58 = .ok (.ireturn, 1) := by decide +kernel
theorem dX5_leftAtMost_0 : decode cX5_leftAtMost 0 = .ok (.iconst 0, 1) := by decide +kernel
theorem dX5_leftAtMost_1 : decode cX5_leftAtMost 1 = .ok (.istore_n 2, 1) := by decide +kernel
theorem dX5_leftAtMost_2 : decode cX5_leftAtMost 2 = .ok (.iconst 0, 1) := by decide +kernel
theorem dX5_leftAtMost_3 : decode cX5_leftAtMost 3 = .ok (.istore_n 3, 1) := by decide +kernel
theorem dX5_leftAtMost_4 : decode cX5_leftAtMost 4 = .ok (.iload_n 3, 1) := by decide +kernel
theorem dX5_leftAtMost_5 : decode cX5_leftAtMost 5 = .ok (.bipush 16, 2) := by decide +kernel
theorem dX5_leftAtMost_7 : decode cX5_leftAtMost 7 = .ok (.if_icmp .ge 23, 3) := by decide +kernel
theorem dX5_leftAtMost_10 : decode cX5_leftAtMost 10 = .ok (.iload_n 2, 1) := by decide +kernel
theorem dX5_leftAtMost_11 : decode cX5_leftAtMost 11 = .ok (.iload_n 0, 1) := by decide +kernel
theorem dX5_leftAtMost_12 : decode cX5_leftAtMost 12 = .ok (.iload_n 3, 1) := by decide +kernel
theorem dX5_leftAtMost_13 : decode cX5_leftAtMost 13 = .ok (.ishr, 1) := by decide +kernel
theorem dX5_leftAtMost_14 : decode cX5_leftAtMost 14 = .ok (.iconst 1, 1) := by decide +kernel
theorem dX5_leftAtMost_15 : decode cX5_leftAtMost 15 = .ok (.iand, 1) := by decide +kernel
theorem dX5_leftAtMost_16 : decode cX5_leftAtMost 16 = .ok (.iload_n 3, 1) := by decide +kernel
theorem dX5_leftAtMost_17 : decode cX5_leftAtMost 17 = .ok (.iload_n 1, 1) := by decide +kernel
theorem dX5_leftAtMost_18 : decode cX5_leftAtMost 18 = .ok (.ishr, 1) := by decide +kernel
theorem dX5_leftAtMost_19 : decode cX5_leftAtMost 19 = .ok (.iconst 1, 1) := by decide +kernel
theorem dX5_leftAtMost_20 : decode cX5_leftAtMost 20 = .ok (.iand, 1) := by decide +kernel
theorem dX5_leftAtMost_21 : decode cX5_leftAtMost 21 = .ok (.iand, 1) := by decide +kernel
theorem dX5_leftAtMost_22 : decode cX5_leftAtMost 22 = .ok (.iadd, 1) := by decide +kernel
theorem dX5_leftAtMost_23 : decode cX5_leftAtMost 23 = .ok (.istore_n 2, 1) := by decide +kernel
theorem dX5_leftAtMost_24 : decode cX5_leftAtMost 24 = .ok (.iinc 3 1, 3) := by decide +kernel
theorem dX5_leftAtMost_27 : decode cX5_leftAtMost 27 = .ok (.goto (-23), 3) := by decide +kernel
theorem dX5_leftAtMost_30 : decode cX5_leftAtMost 30 = .ok (.iload_n 2, 1) := by decide +kernel
theorem dX5_leftAtMost_31 : decode cX5_leftAtMost 31 = .ok (.iload_n 0, 1) := by decide +kernel
theorem dX5_leftAtMost_32 : decode cX5_leftAtMost 32 = .ok (.invokestatic 219, 3) := by decide +kernel
theorem dX5_leftAtMost_35 : decode cX5_leftAtMost 35 = .ok (.iload_n 2, 1) := by decide +kernel
theorem dX5_leftAtMost_36 : decode cX5_leftAtMost 36 = .ok (.isub, 1) := by decide +kernel
theorem dX5_leftAtMost_37 : decode cX5_leftAtMost 37 = .ok (.invokestatic 250, 3) := by decide +kernel
theorem dX5_leftAtMost_40 : decode cX5_leftAtMost 40 = .ok (.ireturn, 1) := by decide +kernel
theorem dX5_drawnHits_0 : decode cX5_drawnHits 0 = .ok (.aload_n 0, 1) := by decide +kernel
theorem dX5_drawnHits_1 : decode cX5_drawnHits 1 = .ok (.getfield 67, 3) := by decide +kernel
theorem dX5_drawnHits_4 : decode cX5_drawnHits 4 = .ok (.ifCond .ne 9, 3) := by decide +kernel
theorem dX5_drawnHits_7 : decode cX5_drawnHits 7 = .ok (.aload_n 0, 1) := by decide +kernel
theorem dX5_drawnHits_8 : decode cX5_drawnHits 8 = .ok (.iconst 1, 1) := by decide +kernel
theorem dX5_drawnHits_9 : decode cX5_drawnHits 9 = .ok (.invokevirtual 59, 3) := by decide +kernel
theorem dX5_drawnHits_12 : decode cX5_drawnHits 12 = .ok (.ireturn, 1) := by decide +kernel
theorem dX5_drawnHits_13 : decode cX5_drawnHits 13 = .ok (.iload_n 1, 1) := by decide +kernel
theorem dX5_drawnHits_14 : decode cX5_drawnHits 14 = .ok (.iload_n 2, 1) := by decide +kernel
theorem dX5_drawnHits_15 : decode cX5_drawnHits 15 = .ok (.invokestatic 255, 3) := by decide +kernel
theorem dX5_drawnHits_18 : decode cX5_drawnHits 18 = .ok (.ifCond .ne 9, 3) := by decide +kernel
theorem dX5_drawnHits_21 : decode cX5_drawnHits 21 = .ok (.aload_n 0, 1) := by decide +kernel
theorem dX5_drawnHits_22 : decode cX5_drawnHits 22 = .ok (.iconst 2, 1) := by decide +kernel
theorem dX5_drawnHits_23 : decode cX5_drawnHits 23 = .ok (.invokevirtual 59, 3) := by decide +kernel
theorem dX5_drawnHits_26 : decode cX5_drawnHits 26 = .ok (.ireturn, 1) := by decide +kernel
theorem dX5_drawnHits_27 : decode cX5_drawnHits 27 = .ok (.aload_n 0, 1) := by decide +kernel
theorem dX5_drawnHits_28 : decode cX5_drawnHits 28 = .ok (.iload_n 1, 1) := by decide +kernel
theorem dX5_drawnHits_29 : decode cX5_drawnHits 29 = .ok (.iload_n 2, 1) := by decide +kernel
theorem dX5_drawnHits_30 : decode cX5_drawnHits 30 = .ok (.invokevirtual 258, 3) := by decide +kernel
theorem dX5_drawnHits_33 : decode cX5_drawnHits 33 = .ok (.aload_n 0, 1) := by decide +kernel
theorem dX5_drawnHits_34 : decode cX5_drawnHits 34 = .ok (.aload_n 0, 1) := by decide +kernel
theorem dX5_drawnHits_35 : decode cX5_drawnHits 35 = .ok (.getfield 37, 3) := by decide +kernel
theorem dX5_drawnHits_38 : decode cX5_drawnHits 38 = .ok (.getfield 206, 3) := by decide +kernel
theorem dX5_drawnHits_41 : decode cX5_drawnHits 41 = .ok (.invokevirtual 88, 3) := by decide +kernel
theorem dX5_drawnHits_44 : decode cX5_drawnHits 44 = .ok (.ireturn, 1) := by decide +kernel
theorem dX5_drawnBacks_0 : decode cX5_drawnBacks 0 = .ok (.aload_n 0, 1) := by decide +kernel
theorem dX5_drawnBacks_1 : decode cX5_drawnBacks 1 = .ok (.getfield 67, 3) := by decide +kernel
theorem dX5_drawnBacks_4 : decode cX5_drawnBacks 4 = .ok (.ifCond .ne 9, 3) := by decide +kernel
theorem dX5_drawnBacks_7 : decode cX5_drawnBacks 7 = .ok (.aload_n 0, 1) := by decide +kernel
theorem dX5_drawnBacks_8 : decode cX5_drawnBacks 8 = .ok (.iconst 1, 1) := by decide +kernel
theorem dX5_drawnBacks_9 : decode cX5_drawnBacks 9 = .ok (.invokevirtual 59, 3) := by decide +kernel
theorem dX5_drawnBacks_12 : decode cX5_drawnBacks 12 = .ok (.ireturn, 1) := by decide +kernel
theorem dX5_drawnBacks_13 : decode cX5_drawnBacks 13 = .ok (.iload_n 1, 1) := by decide +kernel
theorem dX5_drawnBacks_14 : decode cX5_drawnBacks 14 = .ok (.iload_n 2, 1) := by decide +kernel
theorem dX5_drawnBacks_15 : decode cX5_drawnBacks 15 = .ok (.invokestatic 255, 3) := by decide +kernel
theorem dX5_drawnBacks_18 : decode cX5_drawnBacks 18 = .ok (.ifCond .ne 9, 3) := by decide +kernel
theorem dX5_drawnBacks_21 : decode cX5_drawnBacks 21 = .ok (.aload_n 0, 1) := by decide +kernel
theorem dX5_drawnBacks_22 : decode cX5_drawnBacks 22 = .ok (.iconst 2, 1) := by decide +kernel
theorem dX5_drawnBacks_23 : decode cX5_drawnBacks 23 = .ok (.invokevirtual 59, 3) := by decide +kernel
theorem dX5_drawnBacks_26 : decode cX5_drawnBacks 26 = .ok (.ireturn, 1) := by decide +kernel
theorem dX5_drawnBacks_27 : decode cX5_drawnBacks 27 = .ok (.aload_n 0, 1) := by decide +kernel
theorem dX5_drawnBacks_28 : decode cX5_drawnBacks 28 = .ok (.iload_n 1, 1) := by decide +kernel
theorem dX5_drawnBacks_29 : decode cX5_drawnBacks 29 = .ok (.iload_n 2, 1) := by decide +kernel
theorem dX5_drawnBacks_30 : decode cX5_drawnBacks 30 = .ok (.invokevirtual 258, 3) := by decide +kernel
theorem dX5_drawnBacks_33 : decode cX5_drawnBacks 33 = .ok (.aload_n 0, 1) := by decide +kernel
theorem dX5_drawnBacks_34 : decode cX5_drawnBacks 34 = .ok (.aload_n 0, 1) := by decide +kernel
theorem dX5_drawnBacks_35 : decode cX5_drawnBacks 35 = .ok (.getfield 37, 3) := by decide +kernel
theorem dX5_drawnBacks_38 : decode cX5_drawnBacks 38 = .ok (.getfield 209, 3) := by decide +kernel
theorem dX5_drawnBacks_41 : decode cX5_drawnBacks 41 = .ok (.invokevirtual 88, 3) := by decide +kernel
theorem dX5_drawnBacks_44 : decode cX5_drawnBacks 44 = .ok (.ireturn, 1) := by decide +kernel
theorem dX5_isDrawable_0 : decode cX5_isDrawable 0 = .ok (.iload_n 0, 1) := by decide +kernel
theorem dX5_isDrawable_1 : decode cX5_isDrawable 1 = .ok (.ifCond .lt 25, 3) := by decide +kernel
theorem dX5_isDrawable_4 : decode cX5_isDrawable 4 = .ok (.iload_n 0, 1) := by decide +kernel
theorem dX5_isDrawable_5 : decode cX5_isDrawable 5 = .ok (.ldc_w 262, 3) := by decide +kernel
theorem dX5_isDrawable_8 : decode cX5_isDrawable 8 = .ok (.if_icmp .ge 18, 3) := by decide +kernel
theorem dX5_isDrawable_11 : decode cX5_isDrawable 11 = .ok (.iload_n 1, 1) := by decide +kernel
theorem dX5_isDrawable_12 : decode cX5_isDrawable 12 = .ok (.ifCond .lt 14, 3) := by decide +kernel
theorem dX5_isDrawable_15 : decode cX5_isDrawable 15 = .ok (.iload_n 1, 1) := by decide +kernel
theorem dX5_isDrawable_16 : decode cX5_isDrawable 16 = .ok (.sipush 200, 3) := by decide +kernel
theorem dX5_isDrawable_19 : decode cX5_isDrawable 19 = .ok (.if_icmp .gt 7, 3) := by decide +kernel
theorem dX5_isDrawable_22 : decode cX5_isDrawable 22 = .ok (.iconst 1, 1) := by decide +kernel
theorem dX5_isDrawable_23 : decode cX5_isDrawable 23 = .ok (.goto 4, 3) := by decide +kernel
theorem dX5_isDrawable_26 : decode cX5_isDrawable 26 = .ok (.iconst 0, 1) := by decide +kernel
theorem dX5_isDrawable_27 : decode cX5_isDrawable 27 = .ok (.ireturn, 1) := by decide +kernel
theorem dX5_runDrawn_0 : decode cX5_runDrawn 0 = .ok (.aload_n 0, 1) := by decide +kernel
theorem dX5_runDrawn_1 : decode cX5_runDrawn 1 = .ok (.getfield 37, 3) := by decide +kernel
theorem dX5_runDrawn_4 : decode cX5_runDrawn 4 = .ok (.aload_n 0, 1) := by decide +kernel
theorem dX5_runDrawn_5 : decode cX5_runDrawn 5 = .ok (.getfield 33, 3) := by decide +kernel
theorem dX5_runDrawn_8 : decode cX5_runDrawn 8 = .ok (.invokevirtual 184, 3) := by decide +kernel
theorem dX5_runDrawn_11 : decode cX5_runDrawn 11 = .ok (.iload_n 1, 1) := by decide +kernel
theorem dX5_runDrawn_12 : decode cX5_runDrawn 12 = .ok (.istore_n 3, 1) := by decide +kernel
theorem dX5_runDrawn_13 : decode cX5_runDrawn 13 = .ok (.iconst 0, 1) := by decide +kernel
theorem dX5_runDrawn_14 : decode cX5_runDrawn 14 = .ok (.istore 4, 2) := by decide +kernel
theorem dX5_runDrawn_16 : decode cX5_runDrawn 16 = .ok (.iload 4, 2) := by decide +kernel
theorem dX5_runDrawn_18 : decode cX5_runDrawn 18 = .ok (.iload_n 2, 1) := by decide +kernel
theorem dX5_runDrawn_19 : decode cX5_runDrawn 19 = .ok (.if_icmp .ge 75, 3) := by decide +kernel
theorem dX5_runDrawn_22 : decode cX5_runDrawn 22 = .ok (.iload_n 3, 1) := by decide +kernel
theorem dX5_runDrawn_23 : decode cX5_runDrawn 23 = .ok (.invokestatic 263, 3) := by decide +kernel
theorem dX5_runDrawn_26 : decode cX5_runDrawn 26 = .ok (.istore_n 3, 1) := by decide +kernel
theorem dX5_runDrawn_27 : decode cX5_runDrawn 27 = .ok (.iload_n 3, 1) := by decide +kernel
theorem dX5_runDrawn_28 : decode cX5_runDrawn 28 = .ok (.bipush 32, 2) := by decide +kernel
theorem dX5_runDrawn_30 : decode cX5_runDrawn 30 = .ok (.irem, 1) := by decide +kernel
theorem dX5_runDrawn_31 : decode cX5_runDrawn 31 = .ok (.bipush 8, 2) := by decide +kernel
theorem dX5_runDrawn_33 : decode cX5_runDrawn 33 = .ok (.imul, 1) := by decide +kernel
theorem dX5_runDrawn_34 : decode cX5_runDrawn 34 = .ok (.istore 5, 2) := by decide +kernel
theorem dX5_runDrawn_36 : decode cX5_runDrawn 36 = .ok (.iconst (-1), 1) := by decide +kernel
theorem dX5_runDrawn_37 : decode cX5_runDrawn 37 = .ok (.istore 6, 2) := by decide +kernel
theorem dX5_runDrawn_39 : decode cX5_runDrawn 39 = .ok (.iload_n 3, 1) := by decide +kernel
theorem dX5_runDrawn_40 : decode cX5_runDrawn 40 = .ok (.invokestatic 263, 3) := by decide +kernel
theorem dX5_runDrawn_43 : decode cX5_runDrawn 43 = .ok (.istore_n 3, 1) := by decide +kernel
theorem dX5_runDrawn_44 : decode cX5_runDrawn 44 = .ok (.iload_n 3, 1) := by decide +kernel
theorem dX5_runDrawn_45 : decode cX5_runDrawn 45 = .ok (.iconst 4, 1) := by decide +kernel
theorem dX5_runDrawn_46 : decode cX5_runDrawn 46 = .ok (.irem, 1) := by decide +kernel
theorem dX5_runDrawn_47 : decode cX5_runDrawn 47 = .ok (.ifCond .ne 29, 3) := by decide +kernel
theorem dX5_runDrawn_50 : decode cX5_runDrawn 50 = .ok (.iload_n 3, 1) := by decide +kernel
theorem dX5_runDrawn_51 : decode cX5_runDrawn 51 = .ok (.invokestatic 263, 3) := by decide +kernel
theorem dX5_runDrawn_54 : decode cX5_runDrawn 54 = .ok (.istore_n 3, 1) := by decide +kernel
theorem dX5_runDrawn_55 : decode cX5_runDrawn 55 = .ok (.iload 5, 2) := by decide +kernel
theorem dX5_runDrawn_57 : decode cX5_runDrawn 57 = .ok (.iload_n 3, 1) := by decide +kernel
theorem dX5_runDrawn_58 : decode cX5_runDrawn 58 = .ok (.bipush 8, 2) := by decide +kernel
theorem dX5_runDrawn_60 : decode cX5_runDrawn 60 = .ok (.irem, 1) := by decide +kernel
theorem dX5_runDrawn_61 : decode cX5_runDrawn 61 = .ok (.iadd, 1) := by decide +kernel
theorem dX5_runDrawn_62 : decode cX5_runDrawn 62 = .ok (.istore 5, 2) := by decide +kernel
theorem dX5_runDrawn_64 : decode cX5_runDrawn 64 = .ok (.iload_n 3, 1) := by decide +kernel
theorem dX5_runDrawn_65 : decode cX5_runDrawn 65 = .ok (.invokestatic 263, 3) := by decide +kernel
theorem dX5_runDrawn_68 : decode cX5_runDrawn 68 = .ok (.istore_n 3, 1) := by decide +kernel
theorem dX5_runDrawn_69 : decode cX5_runDrawn 69 = .ok (.iload_n 3, 1) := by decide +kernel
theorem dX5_runDrawn_70 : decode cX5_runDrawn 70 = .ok (.sipush 300, 3) := by decide +kernel
theorem dX5_runDrawn_73 : decode cX5_runDrawn 73 = .ok (.irem, 1) := by decide +kernel
theorem dX5_runDrawn_74 : decode cX5_runDrawn 74 = .ok (.istore 6, 2) := by decide +kernel
theorem dX5_runDrawn_76 : decode cX5_runDrawn 76 = .ok (.aload_n 0, 1) := by decide +kernel
theorem dX5_runDrawn_77 : decode cX5_runDrawn 77 = .ok (.getfield 37, 3) := by decide +kernel
theorem dX5_runDrawn_80 : decode cX5_runDrawn 80 = .ok (.iload 5, 2) := by decide +kernel
theorem dX5_runDrawn_82 : decode cX5_runDrawn 82 = .ok (.iload 6, 2) := by decide +kernel
theorem dX5_runDrawn_84 : decode cX5_runDrawn 84 = .ok (.invokevirtual 187, 3) := by decide +kernel
theorem dX5_runDrawn_87 : decode cX5_runDrawn 87 = .ok (.pop, 1) := by decide +kernel
theorem dX5_runDrawn_88 : decode cX5_runDrawn 88 = .ok (.iinc 4 1, 3) := by decide +kernel
theorem dX5_runDrawn_91 : decode cX5_runDrawn 91 = .ok (.goto (-75), 3) := by decide +kernel
theorem dX5_runDrawn_94 : decode cX5_runDrawn 94 = .ok (.return_, 1) := by decide +kernel
theorem dX5_drawAfter_0 : decode cX5_drawAfter 0 = .ok (.bipush 75, 2) := by decide +kernel
theorem dX5_drawAfter_2 : decode cX5_drawAfter 2 = .ok (.iload_n 0, 1) := by decide +kernel
theorem dX5_drawAfter_3 : decode cX5_drawAfter 3 = .ok (.imul, 1) := by decide +kernel
theorem dX5_drawAfter_4 : decode cX5_drawAfter 4 = .ok (.bipush 74, 2) := by decide +kernel
theorem dX5_drawAfter_6 : decode cX5_drawAfter 6 = .ok (.iadd, 1) := by decide +kernel
theorem dX5_drawAfter_7 : decode cX5_drawAfter 7 = .ok (.ldc_w 262, 3) := by decide +kernel
theorem dX5_drawAfter_10 : decode cX5_drawAfter 10 = .ok (.irem, 1) := by decide +kernel
theorem dX5_drawAfter_11 : decode cX5_drawAfter 11 = .ok (.ireturn, 1) := by decide +kernel
theorem dX5_read_0 : decode cX5_read 0 = .ok (.aload_n 0, 1) := by decide +kernel
theorem dX5_read_1 : decode cX5_read 1 = .ok (.iload_n 1, 1) := by decide +kernel
theorem dX5_read_2 : decode cX5_read 2 = .ok (.iload_n 2, 1) := by decide +kernel
theorem dX5_read_3 : decode cX5_read 3 = .ok (.invokevirtual 100, 3) := by decide +kernel
theorem dX5_read_6 : decode cX5_read 6 = .ok (.ifCond .ne 9, 3) := by decide +kernel
theorem dX5_read_9 : decode cX5_read 9 = .ok (.aload_n 0, 1) := by decide +kernel
theorem dX5_read_10 : decode cX5_read 10 = .ok (.iconst 1, 1) := by decide +kernel
theorem dX5_read_11 : decode cX5_read 11 = .ok (.invokevirtual 59, 3) := by decide +kernel
theorem dX5_read_14 : decode cX5_read 14 = .ok (.ireturn, 1) := by decide +kernel
theorem dX5_read_15 : decode cX5_read 15 = .ok (.aload_n 0, 1) := by decide +kernel
theorem dX5_read_16 : decode cX5_read 16 = .ok (.getfield 43, 3) := by decide +kernel
theorem dX5_read_19 : decode cX5_read 19 = .ok (.aload_n 0, 1) := by decide +kernel
theorem dX5_read_20 : decode cX5_read 20 = .ok (.getfield 33, 3) := by decide +kernel
theorem dX5_read_23 : decode cX5_read 23 = .ok (.iconst 0, 1) := by decide +kernel
theorem dX5_read_24 : decode cX5_read 24 = .ok (.iload_n 1, 1) := by decide +kernel
theorem dX5_read_25 : decode cX5_read 25 = .ok (.bipush 8, 2) := by decide +kernel
theorem dX5_read_27 : decode cX5_read 27 = .ok (.imul, 1) := by decide +kernel
theorem dX5_read_28 : decode cX5_read 28 = .ok (.iload_n 2, 1) := by decide +kernel
theorem dX5_read_29 : decode cX5_read 29 = .ok (.iadd, 1) := by decide +kernel
theorem dX5_read_30 : decode cX5_read 30 = .ok (.iconst (-1), 1) := by decide +kernel
theorem dX5_read_31 : decode cX5_read 31 = .ok (.invokevirtual 266, 3) := by decide +kernel
theorem dX5_read_34 : decode cX5_read 34 = .ok (.aload_n 0, 1) := by decide +kernel
theorem dX5_read_35 : decode cX5_read 35 = .ok (.aload_n 0, 1) := by decide +kernel
theorem dX5_read_36 : decode cX5_read 36 = .ok (.getfield 33, 3) := by decide +kernel
theorem dX5_read_39 : decode cX5_read 39 = .ok (.getfield 104, 3) := by decide +kernel
theorem dX5_read_42 : decode cX5_read 42 = .ok (.iload_n 1, 1) := by decide +kernel
theorem dX5_read_43 : decode cX5_read 43 = .ok (.bipush 8, 2) := by decide +kernel
theorem dX5_read_45 : decode cX5_read 45 = .ok (.imul, 1) := by decide +kernel
theorem dX5_read_46 : decode cX5_read 46 = .ok (.iload_n 2, 1) := by decide +kernel
theorem dX5_read_47 : decode cX5_read 47 = .ok (.iadd, 1) := by decide +kernel
theorem dX5_read_48 : decode cX5_read 48 = .ok (.iaload, 1) := by decide +kernel
theorem dX5_read_49 : decode cX5_read 49 = .ok (.invokevirtual 88, 3) := by decide +kernel
theorem dX5_read_52 : decode cX5_read 52 = .ok (.ireturn, 1) := by decide +kernel
theorem dX5_write_0 : decode cX5_write 0 = .ok (.aload_n 0, 1) := by decide +kernel
theorem dX5_write_1 : decode cX5_write 1 = .ok (.iload_n 1, 1) := by decide +kernel
theorem dX5_write_2 : decode cX5_write 2 = .ok (.iload_n 2, 1) := by decide +kernel
theorem dX5_write_3 : decode cX5_write 3 = .ok (.invokevirtual 100, 3) := by decide +kernel
theorem dX5_write_6 : decode cX5_write 6 = .ok (.ifCond .ne 9, 3) := by decide +kernel
theorem dX5_write_9 : decode cX5_write 9 = .ok (.aload_n 0, 1) := by decide +kernel
theorem dX5_write_10 : decode cX5_write 10 = .ok (.iconst 1, 1) := by decide +kernel
theorem dX5_write_11 : decode cX5_write 11 = .ok (.invokevirtual 59, 3) := by decide +kernel
theorem dX5_write_14 : decode cX5_write 14 = .ok (.ireturn, 1) := by decide +kernel
theorem dX5_write_15 : decode cX5_write 15 = .ok (.iload_n 3, 1) := by decide +kernel
theorem dX5_write_16 : decode cX5_write 16 = .ok (.invokestatic 193, 3) := by decide +kernel
theorem dX5_write_19 : decode cX5_write 19 = .ok (.ifCond .ne 9, 3) := by decide +kernel
theorem dX5_write_22 : decode cX5_write 22 = .ok (.aload_n 0, 1) := by decide +kernel
theorem dX5_write_23 : decode cX5_write 23 = .ok (.iconst 2, 1) := by decide +kernel
theorem dX5_write_24 : decode cX5_write 24 = .ok (.invokevirtual 59, 3) := by decide +kernel
theorem dX5_write_27 : decode cX5_write 27 = .ok (.ireturn, 1) := by decide +kernel
theorem dX5_write_28 : decode cX5_write 28 = .ok (.aload_n 0, 1) := by decide +kernel
theorem dX5_write_29 : decode cX5_write 29 = .ok (.getfield 43, 3) := by decide +kernel
theorem dX5_write_32 : decode cX5_write 32 = .ok (.aload_n 0, 1) := by decide +kernel
theorem dX5_write_33 : decode cX5_write 33 = .ok (.getfield 33, 3) := by decide +kernel
theorem dX5_write_36 : decode cX5_write 36 = .ok (.iconst 1, 1) := by decide +kernel
theorem dX5_write_37 : decode cX5_write 37 = .ok (.iload_n 1, 1) := by decide +kernel
theorem dX5_write_38 : decode cX5_write 38 = .ok (.bipush 8, 2) := by decide +kernel
theorem dX5_write_40 : decode cX5_write 40 = .ok (.imul, 1) := by decide +kernel
theorem dX5_write_41 : decode cX5_write 41 = .ok (.iload_n 2, 1) := by decide +kernel
theorem dX5_write_42 : decode cX5_write 42 = .ok (.iadd, 1) := by decide +kernel
theorem dX5_write_43 : decode cX5_write 43 = .ok (.iload_n 3, 1) := by decide +kernel
theorem dX5_write_44 : decode cX5_write 44 = .ok (.invokevirtual 266, 3) := by decide +kernel
theorem dX5_write_47 : decode cX5_write 47 = .ok (.aload_n 0, 1) := by decide +kernel
theorem dX5_write_48 : decode cX5_write 48 = .ok (.aload_n 0, 1) := by decide +kernel
theorem dX5_write_49 : decode cX5_write 49 = .ok (.getfield 33, 3) := by decide +kernel
theorem dX5_write_52 : decode cX5_write 52 = .ok (.getfield 196, 3) := by decide +kernel
theorem dX5_write_55 : decode cX5_write 55 = .ok (.iload_n 1, 1) := by decide +kernel
theorem dX5_write_56 : decode cX5_write 56 = .ok (.iaload, 1) := by decide +kernel
theorem dX5_write_57 : decode cX5_write 57 = .ok (.invokevirtual 88, 3) := by decide +kernel
theorem dX5_write_60 : decode cX5_write 60 = .ok (.ireturn, 1) := by decide +kernel
theorem dX5_drop_0 : decode cX5_drop 0 = .ok (.aload_n 0, 1) := by decide +kernel
theorem dX5_drop_1 : decode cX5_drop 1 = .ok (.iload_n 1, 1) := by decide +kernel
theorem dX5_drop_2 : decode cX5_drop 2 = .ok (.invokevirtual 111, 3) := by decide +kernel
theorem dX5_drop_5 : decode cX5_drop 5 = .ok (.ifCond .ne 9, 3) := by decide +kernel
theorem dX5_drop_8 : decode cX5_drop 8 = .ok (.aload_n 0, 1) := by decide +kernel
theorem dX5_drop_9 : decode cX5_drop 9 = .ok (.iconst 1, 1) := by decide +kernel
theorem dX5_drop_10 : decode cX5_drop 10 = .ok (.invokevirtual 59, 3) := by decide +kernel
theorem dX5_drop_13 : decode cX5_drop 13 = .ok (.ireturn, 1) := by decide +kernel
theorem dX5_drop_14 : decode cX5_drop 14 = .ok (.aload_n 0, 1) := by decide +kernel
theorem dX5_drop_15 : decode cX5_drop 15 = .ok (.getfield 33, 3) := by decide +kernel
theorem dX5_drop_18 : decode cX5_drop 18 = .ok (.getfield 172, 3) := by decide +kernel
theorem dX5_drop_21 : decode cX5_drop 21 = .ok (.iload_n 1, 1) := by decide +kernel
theorem dX5_drop_22 : decode cX5_drop 22 = .ok (.iaload, 1) := by decide +kernel
theorem dX5_drop_23 : decode cX5_drop 23 = .ok (.ifCond .ne 9, 3) := by decide +kernel
theorem dX5_drop_26 : decode cX5_drop 26 = .ok (.aload_n 0, 1) := by decide +kernel
theorem dX5_drop_27 : decode cX5_drop 27 = .ok (.iconst 5, 1) := by decide +kernel
theorem dX5_drop_28 : decode cX5_drop 28 = .ok (.invokevirtual 59, 3) := by decide +kernel
theorem dX5_drop_31 : decode cX5_drop 31 = .ok (.ireturn, 1) := by decide +kernel
theorem dX5_drop_32 : decode cX5_drop 32 = .ok (.aload_n 0, 1) := by decide +kernel
theorem dX5_drop_33 : decode cX5_drop 33 = .ok (.getfield 33, 3) := by decide +kernel
theorem dX5_drop_36 : decode cX5_drop 36 = .ok (.getfield 178, 3) := by decide +kernel
theorem dX5_drop_39 : decode cX5_drop 39 = .ok (.iload_n 1, 1) := by decide +kernel
theorem dX5_drop_40 : decode cX5_drop 40 = .ok (.iaload, 1) := by decide +kernel
theorem dX5_drop_41 : decode cX5_drop 41 = .ok (.istore_n 2, 1) := by decide +kernel
theorem dX5_drop_42 : decode cX5_drop 42 = .ok (.aload_n 0, 1) := by decide +kernel
theorem dX5_drop_43 : decode cX5_drop 43 = .ok (.getfield 43, 3) := by decide +kernel
theorem dX5_drop_46 : decode cX5_drop 46 = .ok (.aload_n 0, 1) := by decide +kernel
theorem dX5_drop_47 : decode cX5_drop 47 = .ok (.getfield 33, 3) := by decide +kernel
theorem dX5_drop_50 : decode cX5_drop 50 = .ok (.iconst 2, 1) := by decide +kernel
theorem dX5_drop_51 : decode cX5_drop 51 = .ok (.iload_n 1, 1) := by decide +kernel
theorem dX5_drop_52 : decode cX5_drop 52 = .ok (.bipush 8, 2) := by decide +kernel
theorem dX5_drop_54 : decode cX5_drop 54 = .ok (.imul, 1) := by decide +kernel
theorem dX5_drop_55 : decode cX5_drop 55 = .ok (.iconst (-1), 1) := by decide +kernel
theorem dX5_drop_56 : decode cX5_drop 56 = .ok (.invokevirtual 266, 3) := by decide +kernel
theorem dX5_drop_59 : decode cX5_drop 59 = .ok (.aload_n 0, 1) := by decide +kernel
theorem dX5_drop_60 : decode cX5_drop 60 = .ok (.iload_n 2, 1) := by decide +kernel
theorem dX5_drop_61 : decode cX5_drop 61 = .ok (.invokevirtual 88, 3) := by decide +kernel
theorem dX5_drop_64 : decode cX5_drop 64 = .ok (.ireturn, 1) := by decide +kernel
theorem dX5_clean_0 : decode cX5_clean 0 = .ok (.aload_n 0, 1) := by decide +kernel
theorem dX5_clean_1 : decode cX5_clean 1 = .ok (.getfield 67, 3) := by decide +kernel
theorem dX5_clean_4 : decode cX5_clean 4 = .ok (.ifCond .ne 9, 3) := by decide +kernel
theorem dX5_clean_7 : decode cX5_clean 7 = .ok (.aload_n 0, 1) := by decide +kernel
theorem dX5_clean_8 : decode cX5_clean 8 = .ok (.iconst 1, 1) := by decide +kernel
theorem dX5_clean_9 : decode cX5_clean 9 = .ok (.invokevirtual 59, 3) := by decide +kernel
theorem dX5_clean_12 : decode cX5_clean 12 = .ok (.ireturn, 1) := by decide +kernel
theorem dX5_clean_13 : decode cX5_clean 13 = .ok (.iconst 0, 1) := by decide +kernel
theorem dX5_clean_14 : decode cX5_clean 14 = .ok (.istore_n 1, 1) := by decide +kernel
theorem dX5_clean_15 : decode cX5_clean 15 = .ok (.iconst 0, 1) := by decide +kernel
theorem dX5_clean_16 : decode cX5_clean 16 = .ok (.istore_n 2, 1) := by decide +kernel
theorem dX5_clean_17 : decode cX5_clean 17 = .ok (.iload_n 2, 1) := by decide +kernel
theorem dX5_clean_18 : decode cX5_clean 18 = .ok (.bipush 32, 2) := by decide +kernel
theorem dX5_clean_20 : decode cX5_clean 20 = .ok (.if_icmp .ge 21, 3) := by decide +kernel
theorem dX5_clean_23 : decode cX5_clean 23 = .ok (.iload_n 1, 1) := by decide +kernel
theorem dX5_clean_24 : decode cX5_clean 24 = .ok (.aload_n 0, 1) := by decide +kernel
theorem dX5_clean_25 : decode cX5_clean 25 = .ok (.getfield 33, 3) := by decide +kernel
theorem dX5_clean_28 : decode cX5_clean 28 = .ok (.getfield 178, 3) := by decide +kernel
theorem dX5_clean_31 : decode cX5_clean 31 = .ok (.iload_n 2, 1) := by decide +kernel
theorem dX5_clean_32 : decode cX5_clean 32 = .ok (.iaload, 1) := by decide +kernel
theorem dX5_clean_33 : decode cX5_clean 33 = .ok (.iadd, 1) := by decide +kernel
theorem dX5_clean_34 : decode cX5_clean 34 = .ok (.istore_n 1, 1) := by decide +kernel
theorem dX5_clean_35 : decode cX5_clean 35 = .ok (.iinc 2 1, 3) := by decide +kernel
theorem dX5_clean_38 : decode cX5_clean 38 = .ok (.goto (-21), 3) := by decide +kernel
theorem dX5_clean_41 : decode cX5_clean 41 = .ok (.iload_n 1, 1) := by decide +kernel
theorem dX5_clean_42 : decode cX5_clean 42 = .ok (.ifCond .ne 10, 3) := by decide +kernel
theorem dX5_clean_45 : decode cX5_clean 45 = .ok (.aload_n 0, 1) := by decide +kernel
theorem dX5_clean_46 : decode cX5_clean 46 = .ok (.bipush 6, 2) := by decide +kernel
theorem dX5_clean_48 : decode cX5_clean 48 = .ok (.invokevirtual 59, 3) := by decide +kernel
theorem dX5_clean_51 : decode cX5_clean 51 = .ok (.ireturn, 1) := by decide +kernel
theorem dX5_clean_52 : decode cX5_clean 52 = .ok (.aload_n 0, 1) := by decide +kernel
theorem dX5_clean_53 : decode cX5_clean 53 = .ok (.getfield 43, 3) := by decide +kernel
theorem dX5_clean_56 : decode cX5_clean 56 = .ok (.aload_n 0, 1) := by decide +kernel
theorem dX5_clean_57 : decode cX5_clean 57 = .ok (.getfield 33, 3) := by decide +kernel
theorem dX5_clean_60 : decode cX5_clean 60 = .ok (.iconst 3, 1) := by decide +kernel
theorem dX5_clean_61 : decode cX5_clean 61 = .ok (.iconst 0, 1) := by decide +kernel
theorem dX5_clean_62 : decode cX5_clean 62 = .ok (.iconst (-1), 1) := by decide +kernel
theorem dX5_clean_63 : decode cX5_clean 63 = .ok (.invokevirtual 266, 3) := by decide +kernel
theorem dX5_clean_66 : decode cX5_clean 66 = .ok (.aload_n 0, 1) := by decide +kernel
theorem dX5_clean_67 : decode cX5_clean 67 = .ok (.iload_n 1, 1) := by decide +kernel
theorem dX5_clean_68 : decode cX5_clean 68 = .ok (.invokevirtual 88, 3) := by decide +kernel
theorem dX5_clean_71 : decode cX5_clean 71 = .ok (.ireturn, 1) := by decide +kernel
theorem dX5_undo_0 : decode cX5_undo 0 = .ok (.aload_n 0, 1) := by decide +kernel
theorem dX5_undo_1 : decode cX5_undo 1 = .ok (.getfield 43, 3) := by decide +kernel
theorem dX5_undo_4 : decode cX5_undo 4 = .ok (.aload_n 0, 1) := by decide +kernel
theorem dX5_undo_5 : decode cX5_undo 5 = .ok (.getfield 33, 3) := by decide +kernel
theorem dX5_undo_8 : decode cX5_undo 8 = .ok (.invokevirtual 270, 3) := by decide +kernel
theorem dX5_undo_11 : decode cX5_undo 11 = .ok (.ifCond .ne 11, 3) := by decide +kernel
theorem dX5_undo_14 : decode cX5_undo 14 = .ok (.aload_n 0, 1) := by decide +kernel
theorem dX5_undo_15 : decode cX5_undo 15 = .ok (.bipush 6, 2) := by decide +kernel
theorem dX5_undo_17 : decode cX5_undo 17 = .ok (.putfield 94, 3) := by decide +kernel
theorem dX5_undo_20 : decode cX5_undo 20 = .ok (.iconst 0, 1) := by decide +kernel
theorem dX5_undo_21 : decode cX5_undo 21 = .ok (.ireturn, 1) := by decide +kernel
theorem dX5_undo_22 : decode cX5_undo 22 = .ok (.aload_n 0, 1) := by decide +kernel
theorem dX5_undo_23 : decode cX5_undo 23 = .ok (.iconst 0, 1) := by decide +kernel
theorem dX5_undo_24 : decode cX5_undo 24 = .ok (.putfield 94, 3) := by decide +kernel
theorem dX5_undo_27 : decode cX5_undo 27 = .ok (.iconst 1, 1) := by decide +kernel
theorem dX5_undo_28 : decode cX5_undo 28 = .ok (.ireturn, 1) := by decide +kernel
theorem dX5_image_0 : decode cX5_image 0 = .ok (.aload_n 0, 1) := by decide +kernel
theorem dX5_image_1 : decode cX5_image 1 = .ok (.getfield 67, 3) := by decide +kernel
theorem dX5_image_4 : decode cX5_image 4 = .ok (.ifCond .ne 9, 3) := by decide +kernel
theorem dX5_image_7 : decode cX5_image 7 = .ok (.aload_n 0, 1) := by decide +kernel
theorem dX5_image_8 : decode cX5_image 8 = .ok (.iconst 1, 1) := by decide +kernel
theorem dX5_image_9 : decode cX5_image 9 = .ok (.invokevirtual 59, 3) := by decide +kernel
theorem dX5_image_12 : decode cX5_image 12 = .ok (.ireturn, 1) := by decide +kernel
theorem dX5_image_13 : decode cX5_image 13 = .ok (.aload_n 0, 1) := by decide +kernel
theorem dX5_image_14 : decode cX5_image 14 = .ok (.getfield 71, 3) := by decide +kernel
theorem dX5_image_17 : decode cX5_image 17 = .ok (.iconst 3, 1) := by decide +kernel
theorem dX5_image_18 : decode cX5_image 18 = .ok (.if_icmp .lt 9, 3) := by decide +kernel
theorem dX5_image_21 : decode cX5_image 21 = .ok (.aload_n 0, 1) := by decide +kernel
theorem dX5_image_22 : decode cX5_image 22 = .ok (.iconst 3, 1) := by decide +kernel
theorem dX5_image_23 : decode cX5_image 23 = .ok (.invokevirtual 59, 3) := by decide +kernel
theorem dX5_image_26 : decode cX5_image 26 = .ok (.ireturn, 1) := by decide +kernel
theorem dX5_image_27 : decode cX5_image 27 = .ok (.aload_n 0, 1) := by decide +kernel
theorem dX5_image_28 : decode cX5_image 28 = .ok (.getfield 47, 3) := by decide +kernel
theorem dX5_image_31 : decode cX5_image 31 = .ok (.aload_n 0, 1) := by decide +kernel
theorem dX5_image_32 : decode cX5_image 32 = .ok (.getfield 71, 3) := by decide +kernel
theorem dX5_image_35 : decode cX5_image 35 = .ok (.aaload, 1) := by decide +kernel
theorem dX5_image_36 : decode cX5_image 36 = .ok (.ifnonnull 19, 3) := by decide +kernel
theorem dX5_image_39 : decode cX5_image 39 = .ok (.aload_n 0, 1) := by decide +kernel
theorem dX5_image_40 : decode cX5_image 40 = .ok (.getfield 47, 3) := by decide +kernel
theorem dX5_image_43 : decode cX5_image 43 = .ok (.aload_n 0, 1) := by decide +kernel
theorem dX5_image_44 : decode cX5_image 44 = .ok (.getfield 71, 3) := by decide +kernel
theorem dX5_image_47 : decode cX5_image 47 = .ok (.new 30, 3) := by decide +kernel
theorem dX5_image_50 : decode cX5_image 50 = .ok (.dup, 1) := by decide +kernel
theorem dX5_image_51 : decode cX5_image 51 = .ok (.invokespecial 32, 3) := by decide +kernel
theorem dX5_image_54 : decode cX5_image 54 = .ok (.aastore, 1) := by decide +kernel
theorem dX5_image_55 : decode cX5_image 55 = .ok (.aload_n 0, 1) := by decide +kernel
theorem dX5_image_56 : decode cX5_image 56 = .ok (.getfield 47, 3) := by decide +kernel
theorem dX5_image_59 : decode cX5_image 59 = .ok (.aload_n 0, 1) := by decide +kernel
theorem dX5_image_60 : decode cX5_image 60 = .ok (.getfield 71, 3) := by decide +kernel
theorem dX5_image_63 : decode cX5_image 63 = .ok (.aaload, 1) := by decide +kernel
theorem dX5_image_64 : decode cX5_image 64 = .ok (.aload_n 0, 1) := by decide +kernel
theorem dX5_image_65 : decode cX5_image 65 = .ok (.getfield 33, 3) := by decide +kernel
theorem dX5_image_68 : decode cX5_image 68 = .ok (.invokevirtual 184, 3) := by decide +kernel
theorem dX5_image_71 : decode cX5_image 71 = .ok (.aload_n 0, 1) := by decide +kernel
theorem dX5_image_72 : decode cX5_image 72 = .ok (.dup, 1) := by decide +kernel
theorem dX5_image_73 : decode cX5_image 73 = .ok (.getfield 71, 3) := by decide +kernel
theorem dX5_image_76 : decode cX5_image 76 = .ok (.iconst 1, 1) := by decide +kernel
theorem dX5_image_77 : decode cX5_image 77 = .ok (.iadd, 1) := by decide +kernel
theorem dX5_image_78 : decode cX5_image 78 = .ok (.putfield 71, 3) := by decide +kernel
theorem dX5_image_81 : decode cX5_image 81 = .ok (.aload_n 0, 1) := by decide +kernel
theorem dX5_image_82 : decode cX5_image 82 = .ok (.aload_n 0, 1) := by decide +kernel
theorem dX5_image_83 : decode cX5_image 83 = .ok (.getfield 71, 3) := by decide +kernel
theorem dX5_image_86 : decode cX5_image 86 = .ok (.iconst 1, 1) := by decide +kernel
theorem dX5_image_87 : decode cX5_image 87 = .ok (.isub, 1) := by decide +kernel
theorem dX5_image_88 : decode cX5_image 88 = .ok (.invokevirtual 88, 3) := by decide +kernel
theorem dX5_image_91 : decode cX5_image 91 = .ok (.ireturn, 1) := by decide +kernel
theorem dX5_back_0 : decode cX5_back 0 = .ok (.iload_n 1, 1) := by decide +kernel
theorem dX5_back_1 : decode cX5_back 1 = .ok (.ifCond .lt 25, 3) := by decide +kernel
theorem dX5_back_4 : decode cX5_back 4 = .ok (.iload_n 1, 1) := by decide +kernel
theorem dX5_back_5 : decode cX5_back 5 = .ok (.aload_n 0, 1) := by decide +kernel
theorem dX5_back_6 : decode cX5_back 6 = .ok (.getfield 71, 3) := by decide +kernel
theorem dX5_back_9 : decode cX5_back 9 = .ok (.if_icmp .ge 17, 3) := by decide +kernel
theorem dX5_back_12 : decode cX5_back 12 = .ok (.iload_n 1, 1) := by decide +kernel
theorem dX5_back_13 : decode cX5_back 13 = .ok (.iconst 3, 1) := by decide +kernel
theorem dX5_back_14 : decode cX5_back 14 = .ok (.if_icmp .ge 12, 3) := by decide +kernel
theorem dX5_back_17 : decode cX5_back 17 = .ok (.aload_n 0, 1) := by decide +kernel
theorem dX5_back_18 : decode cX5_back 18 = .ok (.getfield 47, 3) := by decide +kernel
theorem dX5_back_21 : decode cX5_back 21 = .ok (.iload_n 1, 1) := by decide +kernel
theorem dX5_back_22 : decode cX5_back 22 = .ok (.aaload, 1) := by decide +kernel
theorem dX5_back_23 : decode cX5_back 23 = .ok (.ifnonnull 10, 3) := by decide +kernel
theorem dX5_back_26 : decode cX5_back 26 = .ok (.aload_n 0, 1) := by decide +kernel
theorem dX5_back_27 : decode cX5_back 27 = .ok (.iconst 1, 1) := by decide +kernel
theorem dX5_back_28 : decode cX5_back 28 = .ok (.putfield 94, 3) := by decide +kernel
theorem dX5_back_31 : decode cX5_back 31 = .ok (.iconst 0, 1) := by decide +kernel
theorem dX5_back_32 : decode cX5_back 32 = .ok (.ireturn, 1) := by decide +kernel
theorem dX5_back_33 : decode cX5_back 33 = .ok (.aload_n 0, 1) := by decide +kernel
theorem dX5_back_34 : decode cX5_back 34 = .ok (.getfield 33, 3) := by decide +kernel
theorem dX5_back_37 : decode cX5_back 37 = .ok (.aload_n 0, 1) := by decide +kernel
theorem dX5_back_38 : decode cX5_back 38 = .ok (.getfield 47, 3) := by decide +kernel
theorem dX5_back_41 : decode cX5_back 41 = .ok (.iload_n 1, 1) := by decide +kernel
theorem dX5_back_42 : decode cX5_back 42 = .ok (.aaload, 1) := by decide +kernel
theorem dX5_back_43 : decode cX5_back 43 = .ok (.invokevirtual 184, 3) := by decide +kernel
theorem dX5_back_46 : decode cX5_back 46 = .ok (.aload_n 0, 1) := by decide +kernel
theorem dX5_back_47 : decode cX5_back 47 = .ok (.getfield 43, 3) := by decide +kernel
theorem dX5_back_50 : decode cX5_back 50 = .ok (.aload_n 0, 1) := by decide +kernel
theorem dX5_back_51 : decode cX5_back 51 = .ok (.getfield 33, 3) := by decide +kernel
theorem dX5_back_54 : decode cX5_back 54 = .ok (.invokevirtual 81, 3) := by decide +kernel
theorem dX5_back_57 : decode cX5_back 57 = .ok (.aload_n 0, 1) := by decide +kernel
theorem dX5_back_58 : decode cX5_back 58 = .ok (.iconst 0, 1) := by decide +kernel
theorem dX5_back_59 : decode cX5_back 59 = .ok (.putfield 94, 3) := by decide +kernel
theorem dX5_back_62 : decode cX5_back 62 = .ok (.iconst 1, 1) := by decide +kernel
theorem dX5_back_63 : decode cX5_back 63 = .ok (.ireturn, 1) := by decide +kernel
theorem dX5_led_0 : decode cX5_led 0 = .ok (.iconst 0, 1) := by decide +kernel
theorem dX5_led_1 : decode cX5_led 1 = .ok (.istore_n 2, 1) := by decide +kernel
theorem dX5_led_2 : decode cX5_led 2 = .ok (.iconst 0, 1) := by decide +kernel
theorem dX5_led_3 : decode cX5_led 3 = .ok (.istore_n 3, 1) := by decide +kernel
theorem dX5_led_4 : decode cX5_led 4 = .ok (.iload_n 3, 1) := by decide +kernel
theorem dX5_led_5 : decode cX5_led 5 = .ok (.bipush 32, 2) := by decide +kernel
theorem dX5_led_7 : decode cX5_led 7 = .ok (.if_icmp .ge 32, 3) := by decide +kernel
theorem dX5_led_10 : decode cX5_led 10 = .ok (.aload_n 0, 1) := by decide +kernel
theorem dX5_led_11 : decode cX5_led 11 = .ok (.getfield 33, 3) := by decide +kernel
theorem dX5_led_14 : decode cX5_led 14 = .ok (.getfield 178, 3) := by decide +kernel
theorem dX5_led_17 : decode cX5_led 17 = .ok (.iload_n 3, 1) := by decide +kernel
theorem dX5_led_18 : decode cX5_led 18 = .ok (.iaload, 1) := by decide +kernel
theorem dX5_led_19 : decode cX5_led 19 = .ok (.iconst 1, 1) := by decide +kernel
theorem dX5_led_20 : decode cX5_led 20 = .ok (.if_icmp .ne 13, 3) := by decide +kernel
theorem dX5_led_23 : decode cX5_led 23 = .ok (.iload_n 2, 1) := by decide +kernel
theorem dX5_led_24 : decode cX5_led 24 = .ok (.iload_n 1, 1) := by decide +kernel
theorem dX5_led_25 : decode cX5_led 25 = .ok (.if_icmp .ne 5, 3) := by decide +kernel
theorem dX5_led_28 : decode cX5_led 28 = .ok (.iload_n 3, 1) := by decide +kernel
theorem dX5_led_29 : decode cX5_led 29 = .ok (.ireturn, 1) := by decide +kernel
theorem dX5_led_30 : decode cX5_led 30 = .ok (.iinc 2 1, 3) := by decide +kernel
theorem dX5_led_33 : decode cX5_led 33 = .ok (.iinc 3 1, 3) := by decide +kernel
theorem dX5_led_36 : decode cX5_led 36 = .ok (.goto (-32), 3) := by decide +kernel
theorem dX5_led_39 : decode cX5_led 39 = .ok (.new 274, 3) := by decide +kernel
theorem dX5_led_42 : decode cX5_led 42 = .ok (.dup, 1) := by decide +kernel
theorem dX5_led_43 : decode cX5_led 43 = .ok (.ldc_w 276, 3) := by decide +kernel
theorem dX5_led_46 : decode cX5_led 46 = .ok (.invokespecial 278, 3) := by decide +kernel
theorem dX5_led_49 : decode cX5_led 49 = .ok (.athrow, 1) := by decide +kernel
theorem dX5_size_0 : decode cX5_size 0 = .ok (.iload_n 1, 1) := by decide +kernel
theorem dX5_size_1 : decode cX5_size 1 = .ok (.tableswitch 137 0 9 #[55, 63, 71, 87, 95, 103, 111, 119, 127, 132], 55) := by decide +kernel
theorem dX5_size_56 : decode cX5_size 56 = .ok (.aload_n 0, 1) := by decide +kernel
theorem dX5_size_57 : decode cX5_size 57 = .ok (.getfield 16, 3) := by decide +kernel
theorem dX5_size_60 : decode cX5_size 60 = .ok (.getfield 281, 3) := by decide +kernel
theorem dX5_size_63 : decode cX5_size 63 = .ok (.ireturn, 1) := by decide +kernel
theorem dX5_size_64 : decode cX5_size 64 = .ok (.aload_n 0, 1) := by decide +kernel
theorem dX5_size_65 : decode cX5_size 65 = .ok (.getfield 16, 3) := by decide +kernel
theorem dX5_size_68 : decode cX5_size 68 = .ok (.getfield 74, 3) := by decide +kernel
theorem dX5_size_71 : decode cX5_size 71 = .ok (.ireturn, 1) := by decide +kernel
theorem dX5_size_72 : decode cX5_size 72 = .ok (.aload_n 0, 1) := by decide +kernel
theorem dX5_size_73 : decode cX5_size 73 = .ok (.getfield 16, 3) := by decide +kernel
theorem dX5_size_76 : decode cX5_size 76 = .ok (.getfield 284, 3) := by decide +kernel
theorem dX5_size_79 : decode cX5_size 79 = .ok (.ifCond .eq 7, 3) := by decide +kernel
theorem dX5_size_82 : decode cX5_size 82 = .ok (.iconst 1, 1) := by decide +kernel
theorem dX5_size_83 : decode cX5_size 83 = .ok (.goto 4, 3) := by decide +kernel
theorem dX5_size_86 : decode cX5_size 86 = .ok (.iconst 0, 1) := by decide +kernel
theorem dX5_size_87 : decode cX5_size 87 = .ok (.ireturn, 1) := by decide +kernel
theorem dX5_size_88 : decode cX5_size 88 = .ok (.aload_n 0, 1) := by decide +kernel
theorem dX5_size_89 : decode cX5_size 89 = .ok (.getfield 16, 3) := by decide +kernel
theorem dX5_size_92 : decode cX5_size 92 = .ok (.getfield 287, 3) := by decide +kernel
theorem dX5_size_95 : decode cX5_size 95 = .ok (.ireturn, 1) := by decide +kernel
theorem dX5_size_96 : decode cX5_size 96 = .ok (.aload_n 0, 1) := by decide +kernel
theorem dX5_size_97 : decode cX5_size 97 = .ok (.getfield 16, 3) := by decide +kernel
theorem dX5_size_100 : decode cX5_size 100 = .ok (.getfield 85, 3) := by decide +kernel
theorem dX5_size_103 : decode cX5_size 103 = .ok (.ireturn, 1) := by decide +kernel
theorem dX5_size_104 : decode cX5_size 104 = .ok (.aload_n 0, 1) := by decide +kernel
theorem dX5_size_105 : decode cX5_size 105 = .ok (.getfield 16, 3) := by decide +kernel
theorem dX5_size_108 : decode cX5_size 108 = .ok (.getfield 244, 3) := by decide +kernel
theorem dX5_size_111 : decode cX5_size 111 = .ok (.ireturn, 1) := by decide +kernel
theorem dX5_size_112 : decode cX5_size 112 = .ok (.aload_n 0, 1) := by decide +kernel
theorem dX5_size_113 : decode cX5_size 113 = .ok (.getfield 16, 3) := by decide +kernel
theorem dX5_size_116 : decode cX5_size 116 = .ok (.getfield 230, 3) := by decide +kernel
theorem dX5_size_119 : decode cX5_size 119 = .ok (.ireturn, 1) := by decide +kernel
theorem dX5_size_120 : decode cX5_size 120 = .ok (.aload_n 0, 1) := by decide +kernel
theorem dX5_size_121 : decode cX5_size 121 = .ok (.getfield 43, 3) := by decide +kernel
theorem dX5_size_124 : decode cX5_size 124 = .ok (.getfield 290, 3) := by decide +kernel
theorem dX5_size_127 : decode cX5_size 127 = .ok (.ireturn, 1) := by decide +kernel
theorem dX5_size_128 : decode cX5_size 128 = .ok (.aload_n 0, 1) := by decide +kernel
theorem dX5_size_129 : decode cX5_size 129 = .ok (.getfield 71, 3) := by decide +kernel
theorem dX5_size_132 : decode cX5_size 132 = .ok (.ireturn, 1) := by decide +kernel
theorem dX5_size_133 : decode cX5_size 133 = .ok (.aload_n 0, 1) := by decide +kernel
theorem dX5_size_134 : decode cX5_size 134 = .ok (.getfield 51, 3) := by decide +kernel
theorem dX5_size_137 : decode cX5_size 137 = .ok (.ireturn, 1) := by decide +kernel
theorem dX5_size_138 : decode cX5_size 138 = .ok (.iconst (-1), 1) := by decide +kernel
theorem dX5_size_139 : decode cX5_size 139 = .ok (.ireturn, 1) := by decide +kernel
theorem dX5_trouble_0 : decode cX5_trouble 0 = .ok (.aload_n 0, 1) := by decide +kernel
theorem dX5_trouble_1 : decode cX5_trouble 1 = .ok (.getfield 94, 3) := by decide +kernel
theorem dX5_trouble_4 : decode cX5_trouble 4 = .ok (.ireturn, 1) := by decide +kernel
theorem dX5_refuse_0 : decode cX5_refuse 0 = .ok (.aload_n 0, 1) := by decide +kernel
theorem dX5_refuse_1 : decode cX5_refuse 1 = .ok (.iload_n 1, 1) := by decide +kernel
theorem dX5_refuse_2 : decode cX5_refuse 2 = .ok (.putfield 94, 3) := by decide +kernel
theorem dX5_refuse_5 : decode cX5_refuse 5 = .ok (.iconst (-1), 1) := by decide +kernel
theorem dX5_refuse_6 : decode cX5_refuse 6 = .ok (.ireturn, 1) := by decide +kernel
theorem dX5_pass_0 : decode cX5_pass 0 = .ok (.aload_n 0, 1) := by decide +kernel
theorem dX5_pass_1 : decode cX5_pass 1 = .ok (.iconst 0, 1) := by decide +kernel
theorem dX5_pass_2 : decode cX5_pass 2 = .ok (.putfield 94, 3) := by decide +kernel
theorem dX5_pass_5 : decode cX5_pass 5 = .ok (.iload_n 1, 1) := by decide +kernel
theorem dX5_pass_6 : decode cX5_pass 6 = .ok (.ireturn, 1) := by decide +kernel
theorem dX5_isLine_0 : decode cX5_isLine 0 = .ok (.aload_n 0, 1) := by decide +kernel
theorem dX5_isLine_1 : decode cX5_isLine 1 = .ok (.getfield 67, 3) := by decide +kernel
theorem dX5_isLine_4 : decode cX5_isLine 4 = .ok (.ifCond .eq 17, 3) := by decide +kernel
theorem dX5_isLine_7 : decode cX5_isLine 7 = .ok (.iload_n 1, 1) := by decide +kernel
theorem dX5_isLine_8 : decode cX5_isLine 8 = .ok (.ifCond .lt 13, 3) := by decide +kernel
theorem dX5_isLine_11 : decode cX5_isLine 11 = .ok (.iload_n 1, 1) := by decide +kernel
theorem dX5_isLine_12 : decode cX5_isLine 12 = .ok (.bipush 32, 2) := by decide +kernel
theorem dX5_isLine_14 : decode cX5_isLine 14 = .ok (.if_icmp .ge 7, 3) := by decide +kernel
theorem dX5_isLine_17 : decode cX5_isLine 17 = .ok (.iconst 1, 1) := by decide +kernel
theorem dX5_isLine_18 : decode cX5_isLine 18 = .ok (.goto 4, 3) := by decide +kernel
theorem dX5_isLine_21 : decode cX5_isLine 21 = .ok (.iconst 0, 1) := by decide +kernel
theorem dX5_isLine_22 : decode cX5_isLine 22 = .ok (.ireturn, 1) := by decide +kernel
theorem dX5_isPlace_0 : decode cX5_isPlace 0 = .ok (.aload_n 0, 1) := by decide +kernel
theorem dX5_isPlace_1 : decode cX5_isPlace 1 = .ok (.iload_n 1, 1) := by decide +kernel
theorem dX5_isPlace_2 : decode cX5_isPlace 2 = .ok (.invokevirtual 111, 3) := by decide +kernel
theorem dX5_isPlace_5 : decode cX5_isPlace 5 = .ok (.ifCond .eq 17, 3) := by decide +kernel
theorem dX5_isPlace_8 : decode cX5_isPlace 8 = .ok (.iload_n 2, 1) := by decide +kernel
theorem dX5_isPlace_9 : decode cX5_isPlace 9 = .ok (.ifCond .lt 13, 3) := by decide +kernel
theorem dX5_isPlace_12 : decode cX5_isPlace 12 = .ok (.iload_n 2, 1) := by decide +kernel
theorem dX5_isPlace_13 : decode cX5_isPlace 13 = .ok (.bipush 8, 2) := by decide +kernel
theorem dX5_isPlace_15 : decode cX5_isPlace 15 = .ok (.if_icmp .ge 7, 3) := by decide +kernel
theorem dX5_isPlace_18 : decode cX5_isPlace 18 = .ok (.iconst 1, 1) := by decide +kernel
theorem dX5_isPlace_19 : decode cX5_isPlace 19 = .ok (.goto 4, 3) := by decide +kernel
theorem dX5_isPlace_22 : decode cX5_isPlace 22 = .ok (.iconst 0, 1) := by decide +kernel
theorem dX5_isPlace_23 : decode cX5_isPlace 23 = .ok (.ireturn, 1) := by decide +kernel
theorem dX5_isSet_0 : decode cX5_isSet 0 = .ok (.aload_n 0, 1) := by decide +kernel
theorem dX5_isSet_1 : decode cX5_isSet 1 = .ok (.getfield 67, 3) := by decide +kernel
theorem dX5_isSet_4 : decode cX5_isSet 4 = .ok (.ifCond .eq 22, 3) := by decide +kernel
theorem dX5_isSet_7 : decode cX5_isSet 7 = .ok (.iload_n 1, 1) := by decide +kernel
theorem dX5_isSet_8 : decode cX5_isSet 8 = .ok (.ifCond .lt 18, 3) := by decide +kernel
theorem dX5_isSet_11 : decode cX5_isSet 11 = .ok (.iload_n 1, 1) := by decide +kernel
theorem dX5_isSet_12 : decode cX5_isSet 12 = .ok (.aload_n 0, 1) := by decide +kernel
theorem dX5_isSet_13 : decode cX5_isSet 13 = .ok (.getfield 16, 3) := by decide +kernel
theorem dX5_isSet_16 : decode cX5_isSet 16 = .ok (.getfield 281, 3) := by decide +kernel
theorem dX5_isSet_19 : decode cX5_isSet 19 = .ok (.if_icmp .ge 7, 3) := by decide +kernel
theorem dX5_isSet_22 : decode cX5_isSet 22 = .ok (.iconst 1, 1) := by decide +kernel
theorem dX5_isSet_23 : decode cX5_isSet 23 = .ok (.goto 4, 3) := by decide +kernel
theorem dX5_isSet_26 : decode cX5_isSet 26 = .ok (.iconst 0, 1) := by decide +kernel
theorem dX5_isSet_27 : decode cX5_isSet 27 = .ok (.ireturn, 1) := by decide +kernel
theorem dX5_isForm_0 : decode cX5_isForm 0 = .ok (.iload_n 0, 1) := by decide +kernel
theorem dX5_isForm_1 : decode cX5_isForm 1 = .ok (.ifCond .lt 13, 3) := by decide +kernel
theorem dX5_isForm_4 : decode cX5_isForm 4 = .ok (.iload_n 0, 1) := by decide +kernel
theorem dX5_isForm_5 : decode cX5_isForm 5 = .ok (.bipush 7, 2) := by decide +kernel
theorem dX5_isForm_7 : decode cX5_isForm 7 = .ok (.if_icmp .gt 7, 3) := by decide +kernel
theorem dX5_isForm_10 : decode cX5_isForm 10 = .ok (.iconst 1, 1) := by decide +kernel
theorem dX5_isForm_11 : decode cX5_isForm 11 = .ok (.goto 4, 3) := by decide +kernel
theorem dX5_isForm_14 : decode cX5_isForm 14 = .ok (.iconst 0, 1) := by decide +kernel
theorem dX5_isForm_15 : decode cX5_isForm 15 = .ok (.ireturn, 1) := by decide +kernel
theorem dX5_isBased_0 : decode cX5_isBased 0 = .ok (.iload_n 0, 1) := by decide +kernel
theorem dX5_isBased_1 : decode cX5_isBased 1 = .ok (.iconst 2, 1) := by decide +kernel
theorem dX5_isBased_2 : decode cX5_isBased 2 = .ok (.if_icmp .lt 13, 3) := by decide +kernel
theorem dX5_isBased_5 : decode cX5_isBased 5 = .ok (.iload_n 0, 1) := by decide +kernel
theorem dX5_isBased_6 : decode cX5_isBased 6 = .ok (.bipush 6, 2) := by decide +kernel
theorem dX5_isBased_8 : decode cX5_isBased 8 = .ok (.if_icmp .gt 7, 3) := by decide +kernel
theorem dX5_isBased_11 : decode cX5_isBased 11 = .ok (.iconst 1, 1) := by decide +kernel
theorem dX5_isBased_12 : decode cX5_isBased 12 = .ok (.goto 4, 3) := by decide +kernel
theorem dX5_isBased_15 : decode cX5_isBased 15 = .ok (.iconst 0, 1) := by decide +kernel
theorem dX5_isBased_16 : decode cX5_isBased 16 = .ok (.ireturn, 1) := by decide +kernel
theorem dX5_isWord_0 : decode cX5_isWord 0 = .ok (.iload_n 0, 1) := by decide +kernel
theorem dX5_isWord_1 : decode cX5_isWord 1 = .ok (.ifCond .lt 14, 3) := by decide +kernel
theorem dX5_isWord_4 : decode cX5_isWord 4 = .ok (.iload_n 0, 1) := by decide +kernel
theorem dX5_isWord_5 : decode cX5_isWord 5 = .ok (.ldc_w 293, 3) := by decide +kernel
theorem dX5_isWord_8 : decode cX5_isWord 8 = .ok (.if_icmp .ge 7, 3) := by decide +kernel
theorem dX5_isWord_11 : decode cX5_isWord 11 = .ok (.iconst 1, 1) := by decide +kernel
theorem dX5_isWord_12 : decode cX5_isWord 12 = .ok (.goto 4, 3) := by decide +kernel
theorem dX5_isWord_15 : decode cX5_isWord 15 = .ok (.iconst 0, 1) := by decide +kernel
theorem dX5_isWord_16 : decode cX5_isWord 16 = .ok (.ireturn, 1) := by decide +kernel
theorem dX6_init_0 : decode cX6_init 0 = .ok (.aload_n 0, 1) := by decide +kernel
theorem dX6_init_1 : decode cX6_init 1 = .ok (.invokespecial 3, 3) := by decide +kernel
theorem dX6_init_4 : decode cX6_init 4 = .ok (.aload_n 0, 1) := by decide +kernel
theorem dX6_init_5 : decode cX6_init 5 = .ok (.sipush 256, 3) := by decide +kernel
theorem dX6_init_8 : decode cX6_init 8 = .ok (.newarray .int, 2) := by decide +kernel
theorem dX6_init_10 : decode cX6_init 10 = .ok (.putfield 9, 3) := by decide +kernel
theorem dX6_init_13 : decode cX6_init 13 = .ok (.aload_n 0, 1) := by decide +kernel
theorem dX6_init_14 : decode cX6_init 14 = .ok (.bipush 16, 2) := by decide +kernel
theorem dX6_init_16 : decode cX6_init 16 = .ok (.newarray .int, 2) := by decide +kernel
theorem dX6_init_18 : decode cX6_init 18 = .ok (.putfield 15, 3) := by decide +kernel
theorem dX6_init_21 : decode cX6_init 21 = .ok (.aload_n 0, 1) := by decide +kernel
theorem dX6_init_22 : decode cX6_init 22 = .ok (.bipush 16, 2) := by decide +kernel
theorem dX6_init_24 : decode cX6_init 24 = .ok (.newarray .int, 2) := by decide +kernel
theorem dX6_init_26 : decode cX6_init 26 = .ok (.putfield 18, 3) := by decide +kernel
theorem dX6_init_29 : decode cX6_init 29 = .ok (.aload_n 0, 1) := by decide +kernel
theorem dX6_init_30 : decode cX6_init 30 = .ok (.bipush 16, 2) := by decide +kernel
theorem dX6_init_32 : decode cX6_init 32 = .ok (.newarray .int, 2) := by decide +kernel
theorem dX6_init_34 : decode cX6_init 34 = .ok (.putfield 21, 3) := by decide +kernel
theorem dX6_init_37 : decode cX6_init 37 = .ok (.aload_n 0, 1) := by decide +kernel
theorem dX6_init_38 : decode cX6_init 38 = .ok (.iconst 4, 1) := by decide +kernel
theorem dX6_init_39 : decode cX6_init 39 = .ok (.newarray .int, 2) := by decide +kernel
theorem dX6_init_41 : decode cX6_init 41 = .ok (.putfield 24, 3) := by decide +kernel
theorem dX6_init_44 : decode cX6_init 44 = .ok (.aload_n 0, 1) := by decide +kernel
theorem dX6_init_45 : decode cX6_init 45 = .ok (.iconst 4, 1) := by decide +kernel
theorem dX6_init_46 : decode cX6_init 46 = .ok (.newarray .int, 2) := by decide +kernel
theorem dX6_init_48 : decode cX6_init 48 = .ok (.putfield 27, 3) := by decide +kernel
theorem dX6_init_51 : decode cX6_init 51 = .ok (.aload_n 0, 1) := by decide +kernel
theorem dX6_init_52 : decode cX6_init 52 = .ok (.bipush 6, 2) := by decide +kernel
theorem dX6_init_54 : decode cX6_init 54 = .ok (.newarray .int, 2) := by decide +kernel
theorem dX6_init_56 : decode cX6_init 56 = .ok (.putfield 30, 3) := by decide +kernel
theorem dX6_init_59 : decode cX6_init 59 = .ok (.return_, 1) := by decide +kernel
theorem dX6_stands_0 : decode cX6_stands 0 = .ok (.iconst 0, 1) := by decide +kernel
theorem dX6_stands_1 : decode cX6_stands 1 = .ok (.istore_n 3, 1) := by decide +kernel
theorem dX6_stands_2 : decode cX6_stands 2 = .ok (.iload_n 3, 1) := by decide +kernel
theorem dX6_stands_3 : decode cX6_stands 3 = .ok (.iload_n 1, 1) := by decide +kernel
theorem dX6_stands_4 : decode cX6_stands 4 = .ok (.if_icmp .ge 18, 3) := by decide +kernel
theorem dX6_stands_7 : decode cX6_stands 7 = .ok (.aload_n 0, 1) := by decide +kernel
theorem dX6_stands_8 : decode cX6_stands 8 = .ok (.iload_n 3, 1) := by decide +kernel
theorem dX6_stands_9 : decode cX6_stands 9 = .ok (.iaload, 1) := by decide +kernel
theorem dX6_stands_10 : decode cX6_stands 10 = .ok (.iload_n 2, 1) := by decide +kernel
theorem dX6_stands_11 : decode cX6_stands 11 = .ok (.if_icmp .ne 5, 3) := by decide +kernel
theorem dX6_stands_14 : decode cX6_stands 14 = .ok (.iconst 1, 1) := by decide +kernel
theorem dX6_stands_15 : decode cX6_stands 15 = .ok (.ireturn, 1) := by decide +kernel
theorem dX6_stands_16 : decode cX6_stands 16 = .ok (.iinc 3 1, 3) := by decide +kernel
theorem dX6_stands_19 : decode cX6_stands 19 = .ok (.goto (-17), 3) := by decide +kernel
theorem dX6_stands_22 : decode cX6_stands 22 = .ok (.iconst 0, 1) := by decide +kernel
theorem dX6_stands_23 : decode cX6_stands 23 = .ok (.ireturn, 1) := by decide +kernel
theorem dX7_init_0 : decode cX7_init 0 = .ok (.aload_n 0, 1) := by decide +kernel
theorem dX7_init_1 : decode cX7_init 1 = .ok (.invokespecial 3, 3) := by decide +kernel
theorem dX7_init_4 : decode cX7_init 4 = .ok (.aload_n 0, 1) := by decide +kernel
theorem dX7_init_5 : decode cX7_init 5 = .ok (.iconst (-1), 1) := by decide +kernel
theorem dX7_init_6 : decode cX7_init 6 = .ok (.putfield 9, 3) := by decide +kernel
theorem dX7_init_9 : decode cX7_init 9 = .ok (.aload_n 0, 1) := by decide +kernel
theorem dX7_init_10 : decode cX7_init 10 = .ok (.sipush 1200, 3) := by decide +kernel
theorem dX7_init_13 : decode cX7_init 13 = .ok (.newarray .byte, 2) := by decide +kernel
theorem dX7_init_15 : decode cX7_init 15 = .ok (.putfield 13, 3) := by decide +kernel
theorem dX7_init_18 : decode cX7_init 18 = .ok (.aload_n 0, 1) := by decide +kernel
theorem dX7_init_19 : decode cX7_init 19 = .ok (.sipush 609, 3) := by decide +kernel
theorem dX7_init_22 : decode cX7_init 22 = .ok (.newarray .int, 2) := by decide +kernel
theorem dX7_init_24 : decode cX7_init 24 = .ok (.putfield 17, 3) := by decide +kernel
theorem dX7_init_27 : decode cX7_init 27 = .ok (.aload_n 0, 1) := by decide +kernel
theorem dX7_init_28 : decode cX7_init 28 = .ok (.sipush 609, 3) := by decide +kernel
theorem dX7_init_31 : decode cX7_init 31 = .ok (.newarray .int, 2) := by decide +kernel
theorem dX7_init_33 : decode cX7_init 33 = .ok (.putfield 21, 3) := by decide +kernel
theorem dX7_init_36 : decode cX7_init 36 = .ok (.aload_n 0, 1) := by decide +kernel
theorem dX7_init_37 : decode cX7_init 37 = .ok (.sipush 9744, 3) := by decide +kernel
theorem dX7_init_40 : decode cX7_init 40 = .ok (.newarray .int, 2) := by decide +kernel
theorem dX7_init_42 : decode cX7_init 42 = .ok (.putfield 24, 3) := by decide +kernel
theorem dX7_init_45 : decode cX7_init 45 = .ok (.aload_n 0, 1) := by decide +kernel
theorem dX7_init_46 : decode cX7_init 46 = .ok (.sipush 1827, 3) := by decide +kernel
theorem dX7_init_49 : decode cX7_init 49 = .ok (.newarray .int, 2) := by decide +kernel
theorem dX7_init_51 : decode cX7_init 51 = .ok (.putfield 27, 3) := by decide +kernel
theorem dX7_init_54 : decode cX7_init 54 = .ok (.aload_n 0, 1) := by decide +kernel
theorem dX7_init_55 : decode cX7_init 55 = .ok (.bipush 32, 2) := by decide +kernel
theorem dX7_init_57 : decode cX7_init 57 = .ok (.newarray .int, 2) := by decide +kernel
theorem dX7_init_59 : decode cX7_init 59 = .ok (.putfield 30, 3) := by decide +kernel
theorem dX7_init_62 : decode cX7_init 62 = .ok (.aload_n 0, 1) := by decide +kernel
theorem dX7_init_63 : decode cX7_init 63 = .ok (.bipush 16, 2) := by decide +kernel
theorem dX7_init_65 : decode cX7_init 65 = .ok (.newarray .int, 2) := by decide +kernel
theorem dX7_init_67 : decode cX7_init 67 = .ok (.putfield 33, 3) := by decide +kernel
theorem dX7_init_70 : decode cX7_init 70 = .ok (.aload_n 0, 1) := by decide +kernel
theorem dX7_init_71 : decode cX7_init 71 = .ok (.bipush 16, 2) := by decide +kernel
theorem dX7_init_73 : decode cX7_init 73 = .ok (.newarray .boolean, 2) := by decide +kernel
theorem dX7_init_75 : decode cX7_init 75 = .ok (.putfield 36, 3) := by decide +kernel
theorem dX7_init_78 : decode cX7_init 78 = .ok (.aload_n 0, 1) := by decide +kernel
theorem dX7_init_79 : decode cX7_init 79 = .ok (.iconst 4, 1) := by decide +kernel
theorem dX7_init_80 : decode cX7_init 80 = .ok (.newarray .int, 2) := by decide +kernel
theorem dX7_init_82 : decode cX7_init 82 = .ok (.putfield 40, 3) := by decide +kernel
theorem dX7_init_85 : decode cX7_init 85 = .ok (.return_, 1) := by decide +kernel
theorem dX7_thrown_0 : decode cX7_thrown 0 = .ok (.aload_n 0, 1) := by decide +kernel
theorem dX7_thrown_1 : decode cX7_thrown 1 = .ok (.getfield 43, 3) := by decide +kernel
theorem dX7_thrown_4 : decode cX7_thrown 4 = .ok (.ireturn, 1) := by decide +kernel
theorem dX7_refused_0 : decode cX7_refused 0 = .ok (.aload_n 0, 1) := by decide +kernel
theorem dX7_refused_1 : decode cX7_refused 1 = .ok (.iload_n 1, 1) := by decide +kernel
theorem dX7_refused_2 : decode cX7_refused 2 = .ok (.putfield 46, 3) := by decide +kernel
theorem dX7_refused_5 : decode cX7_refused 5 = .ok (.aload_n 0, 1) := by decide +kernel
theorem dX7_refused_6 : decode cX7_refused 6 = .ok (.iconst (-1), 1) := by decide +kernel
theorem dX7_refused_7 : decode cX7_refused 7 = .ok (.putfield 9, 3) := by decide +kernel
theorem dX7_refused_10 : decode cX7_refused 10 = .ok (.iconst (-1), 1) := by decide +kernel
theorem dX7_refused_11 : decode cX7_refused 11 = .ok (.ireturn, 1) := by decide +kernel
theorem dX7_denied_0 : decode cX7_denied 0 = .ok (.aload_n 0, 1) := by decide +kernel
theorem dX7_denied_1 : decode cX7_denied 1 = .ok (.iload_n 1, 1) := by decide +kernel
theorem dX7_denied_2 : decode cX7_denied 2 = .ok (.invokevirtual 49, 3) := by decide +kernel
theorem dX7_denied_5 : decode cX7_denied 5 = .ok (.pop, 1) := by decide +kernel
theorem dX7_denied_6 : decode cX7_denied 6 = .ok (.iconst 0, 1) := by decide +kernel
theorem dX7_denied_7 : decode cX7_denied 7 = .ok (.ireturn, 1) := by decide +kernel
theorem dX7_good_0 : decode cX7_good 0 = .ok (.aload_n 0, 1) := by decide +kernel
theorem dX7_good_1 : decode cX7_good 1 = .ok (.iconst 0, 1) := by decide +kernel
theorem dX7_good_2 : decode cX7_good 2 = .ok (.putfield 46, 3) := by decide +kernel
theorem dX7_good_5 : decode cX7_good 5 = .ok (.aload_n 0, 1) := by decide +kernel
theorem dX7_good_6 : decode cX7_good 6 = .ok (.iconst (-1), 1) := by decide +kernel
theorem dX7_good_7 : decode cX7_good 7 = .ok (.putfield 9, 3) := by decide +kernel
theorem dX7_good_10 : decode cX7_good 10 = .ok (.iload_n 1, 1) := by decide +kernel
theorem dX7_good_11 : decode cX7_good 11 = .ok (.ireturn, 1) := by decide +kernel
theorem dX7_granted_0 : decode cX7_granted 0 = .ok (.aload_n 0, 1) := by decide +kernel
theorem dX7_granted_1 : decode cX7_granted 1 = .ok (.iconst 0, 1) := by decide +kernel
theorem dX7_granted_2 : decode cX7_granted 2 = .ok (.invokevirtual 53, 3) := by decide +kernel
theorem dX7_granted_5 : decode cX7_granted 5 = .ok (.pop, 1) := by decide +kernel
theorem dX7_granted_6 : decode cX7_granted 6 = .ok (.iconst 1, 1) := by decide +kernel
theorem dX7_granted_7 : decode cX7_granted 7 = .ok (.ireturn, 1) := by decide +kernel
theorem dX7_in_0 : decode cX7_in 0 = .ok (.iload_n 0, 1) := by decide +kernel
theorem dX7_in_1 : decode cX7_in 1 = .ok (.iload_n 1, 1) := by decide +kernel
theorem dX7_in_2 : decode cX7_in 2 = .ok (.if_icmp .lt 12, 3) := by decide +kernel
theorem dX7_in_5 : decode cX7_in 5 = .ok (.iload_n 0, 1) := by decide +kernel
theorem dX7_in_6 : decode cX7_in 6 = .ok (.iload_n 2, 1) := by decide +kernel
theorem dX7_in_7 : decode cX7_in 7 = .ok (.if_icmp .gt 7, 3) := by decide +kernel
theorem dX7_in_10 : decode cX7_in 10 = .ok (.iconst 1, 1) := by decide +kernel
theorem dX7_in_11 : decode cX7_in 11 = .ok (.goto 4, 3) := by decide +kernel
theorem dX7_in_14 : decode cX7_in 14 = .ok (.iconst 0, 1) := by decide +kernel
theorem dX7_in_15 : decode cX7_in 15 = .ok (.ireturn, 1) := by decide +kernel
theorem dX7_bit_0 : decode cX7_bit 0 = .ok (.iload_n 0, 1) := by decide +kernel
theorem dX7_bit_1 : decode cX7_bit 1 = .ok (.iload_n 1, 1) := by decide +kernel
theorem dX7_bit_2 : decode cX7_bit 2 = .ok (.ishr, 1) := by decide +kernel
theorem dX7_bit_3 : decode cX7_bit 3 = .ok (.iconst 1, 1) := by decide +kernel
theorem dX7_bit_4 : decode cX7_bit 4 = .ok (.iand, 1) := by decide +kernel
theorem dX7_bit_5 : decode cX7_bit 5 = .ok (.iconst 1, 1) := by decide +kernel
theorem dX7_bit_6 : decode cX7_bit 6 = .ok (.if_icmp .ne 7, 3) := by decide +kernel
theorem dX7_bit_9 : decode cX7_bit 9 = .ok (.iconst 1, 1) := by decide +kernel
theorem dX7_bit_10 : decode cX7_bit 10 = .ok (.goto 4, 3) := by decide +kernel
theorem dX7_bit_13 : decode cX7_bit 13 = .ok (.iconst 0, 1) := by decide +kernel
theorem dX7_bit_14 : decode cX7_bit 14 = .ok (.ireturn, 1) := by decide +kernel
theorem dX7_common_0 : decode cX7_common 0 = .ok (.lload_n 0, 1) := by decide +kernel
theorem dX7_common_1 : decode cX7_common 1 = .ok (.lstore 4, 2) := by decide +kernel
theorem dX7_common_3 : decode cX7_common 3 = .ok (.lload_n 2, 1) := by decide +kernel
theorem dX7_common_4 : decode cX7_common 4 = .ok (.lstore 6, 2) := by decide +kernel
theorem dX7_common_6 : decode cX7_common 6 = .ok (.lload 6, 2) := by decide +kernel
theorem dX7_common_8 : decode cX7_common 8 = .ok (.lconst 0, 1) := by decide +kernel
theorem dX7_common_9 : decode cX7_common 9 = .ok (.lcmp, 1) := by decide +kernel
theorem dX7_common_10 : decode cX7_common 10 = .ok (.ifCond .eq 21, 3) := by decide +kernel
theorem dX7_common_13 : decode cX7_common 13 = .ok (.lload 4, 2) := by decide +kernel
theorem dX7_common_15 : decode cX7_common 15 = .ok (.lload 6, 2) := by decide +kernel
theorem dX7_common_17 : decode cX7_common 17 = .ok (.lrem, 1) := by decide +kernel
theorem dX7_common_18 : decode cX7_common 18 = .ok (.lstore 8, 2) := by decide +kernel
theorem dX7_common_20 : decode cX7_common 20 = .ok (.lload 6, 2) := by decide +kernel
theorem dX7_common_22 : decode cX7_common 22 = .ok (.lstore 4, 2) := by decide +kernel
theorem dX7_common_24 : decode cX7_common 24 = .ok (.lload 8, 2) := by decide +kernel
theorem dX7_common_26 : decode cX7_common 26 = .ok (.lstore 6, 2) := by decide +kernel
theorem dX7_common_28 : decode cX7_common 28 = .ok (.goto (-22), 3) := by decide +kernel
theorem dX7_common_31 : decode cX7_common 31 = .ok (.lload 4, 2) := by decide +kernel
theorem dX7_common_33 : decode cX7_common 33 = .ok (.lreturn, 1) := by decide +kernel
theorem dX7_fraction_0 : decode cX7_fraction 0 = .ok (.aload_n 0, 1) := by decide +kernel
theorem dX7_fraction_1 : decode cX7_fraction 1 = .ok (.iconst 0, 1) := by decide +kernel
theorem dX7_fraction_2 : decode cX7_fraction 2 = .ok (.invokevirtual 53, 3) := by decide +kernel
theorem dX7_fraction_5 : decode cX7_fraction 5 = .ok (.pop, 1) := by decide +kernel
theorem dX7_fraction_6 : decode cX7_fraction 6 = .ok (.iload 5, 2) := by decide +kernel
theorem dX7_fraction_8 : decode cX7_fraction 8 = .ok (.ifCond .eq 7, 3) := by decide +kernel
theorem dX7_fraction_11 : decode cX7_fraction 11 = .ok (.lload_n 3, 1) := by decide +kernel
theorem dX7_fraction_12 : decode cX7_fraction 12 = .ok (.goto 4, 3) := by decide +kernel
theorem dX7_fraction_15 : decode cX7_fraction 15 = .ok (.lload_n 1, 1) := by decide +kernel
theorem dX7_fraction_16 : decode cX7_fraction 16 = .ok (.lload_n 1, 1) := by decide +kernel
theorem dX7_fraction_17 : decode cX7_fraction 17 = .ok (.lload_n 3, 1) := by decide +kernel
theorem dX7_fraction_18 : decode cX7_fraction 18 = .ok (.invokestatic 56, 3) := by decide +kernel
theorem dX7_fraction_21 : decode cX7_fraction 21 = .ok (.ldiv, 1) := by decide +kernel
theorem dX7_fraction_22 : decode cX7_fraction 22 = .ok (.lreturn, 1) := by decide +kernel
theorem dX7_byteAt_0 : decode cX7_byteAt 0 = .ok (.iload_n 1, 1) := by decide +kernel
theorem dX7_byteAt_1 : decode cX7_byteAt 1 = .ok (.aload_n 0, 1) := by decide +kernel
theorem dX7_byteAt_2 : decode cX7_byteAt 2 = .ok (.getfield 60, 3) := by decide +kernel
theorem dX7_byteAt_5 : decode cX7_byteAt 5 = .ok (.if_icmp .ge 16, 3) := by decide +kernel
theorem dX7_byteAt_8 : decode cX7_byteAt 8 = .ok (.aload_n 0, 1) := by decide +kernel
theorem dX7_byteAt_9 : decode cX7_byteAt 9 = .ok (.getfield 13, 3) := by decide +kernel
theorem dX7_byteAt_12 : decode cX7_byteAt 12 = .ok (.iload_n 1, 1) := by decide +kernel
theorem dX7_byteAt_13 : decode cX7_byteAt 13 = .ok (.baload, 1) := by decide +kernel
theorem dX7_byteAt_14 : decode cX7_byteAt 14 = .ok (.sipush 255, 3) := by decide +kernel
theorem dX7_byteAt_17 : decode cX7_byteAt 17 = .ok (.iand, 1) := by decide +kernel
theorem dX7_byteAt_18 : decode cX7_byteAt 18 = .ok (.goto 4, 3) := by decide +kernel
theorem dX7_byteAt_21 : decode cX7_byteAt 21 = .ok (.iconst (-1), 1) := by decide +kernel
theorem dX7_byteAt_22 : decode cX7_byteAt 22 = .ok (.ireturn, 1) := by decide +kernel
theorem dX7_isLetter_0 : decode cX7_isLetter 0 = .ok (.iload_n 0, 1) := by decide +kernel
theorem dX7_isLetter_1 : decode cX7_isLetter 1 = .ok (.bipush 97, 2) := by decide +kernel
theorem dX7_isLetter_3 : decode cX7_isLetter 3 = .ok (.if_icmp .lt 13, 3) := by decide +kernel
theorem dX7_isLetter_6 : decode cX7_isLetter 6 = .ok (.iload_n 0, 1) := by decide +kernel
theorem dX7_isLetter_7 : decode cX7_isLetter 7 = .ok (.bipush 122, 2) := by decide +kernel
theorem dX7_isLetter_9 : decode cX7_isLetter 9 = .ok (.if_icmp .gt 7, 3) := by decide +kernel
theorem dX7_isLetter_12 : decode cX7_isLetter 12 = .ok (.iconst 1, 1) := by decide +kernel
theorem dX7_isLetter_13 : decode cX7_isLetter 13 = .ok (.goto 4, 3) := by decide +kernel
theorem dX7_isLetter_16 : decode cX7_isLetter 16 = .ok (.iconst 0, 1) := by decide +kernel
theorem dX7_isLetter_17 : decode cX7_isLetter 17 = .ok (.ireturn, 1) := by decide +kernel
theorem dX7_isDigit_0 : decode cX7_isDigit 0 = .ok (.iload_n 0, 1) := by decide +kernel
theorem dX7_isDigit_1 : decode cX7_isDigit 1 = .ok (.bipush 48, 2) := by decide +kernel
theorem dX7_isDigit_3 : decode cX7_isDigit 3 = .ok (.if_icmp .lt 13, 3) := by decide +kernel
theorem dX7_isDigit_6 : decode cX7_isDigit 6 = .ok (.iload_n 0, 1) := by decide +kernel
theorem dX7_isDigit_7 : decode cX7_isDigit 7 = .ok (.bipush 57, 2) := by decide +kernel
theorem dX7_isDigit_9 : decode cX7_isDigit 9 = .ok (.if_icmp .gt 7, 3) := by decide +kernel
theorem dX7_isDigit_12 : decode cX7_isDigit 12 = .ok (.iconst 1, 1) := by decide +kernel
theorem dX7_isDigit_13 : decode cX7_isDigit 13 = .ok (.goto 4, 3) := by decide +kernel
theorem dX7_isDigit_16 : decode cX7_isDigit 16 = .ok (.iconst 0, 1) := by decide +kernel
theorem dX7_isDigit_17 : decode cX7_isDigit 17 = .ok (.ireturn, 1) := by decide +kernel
theorem dX7_packed_0 : decode cX7_packed 0 = .ok (.lconst 0, 1) := by decide +kernel
theorem dX7_packed_1 : decode cX7_packed 1 = .ok (.lstore_n 1, 1) := by decide +kernel
theorem dX7_packed_2 : decode cX7_packed 2 = .ok (.iconst 0, 1) := by decide +kernel
theorem dX7_packed_3 : decode cX7_packed 3 = .ok (.istore_n 3, 1) := by decide +kernel
theorem dX7_packed_4 : decode cX7_packed 4 = .ok (.iload_n 3, 1) := by decide +kernel
theorem dX7_packed_5 : decode cX7_packed 5 = .ok (.aload_n 0, 1) := by decide +kernel
theorem dX7_packed_6 : decode cX7_packed 6 = .ok (.invokevirtual 63, 3) := by decide +kernel
theorem dX7_packed_9 : decode cX7_packed 9 = .ok (.if_icmp .ge 27, 3) := by decide +kernel
theorem dX7_packed_12 : decode cX7_packed 12 = .ok (.ldc2_w 69, 3) := by decide +kernel
theorem dX7_packed_15 : decode cX7_packed 15 = .ok (.lload_n 1, 1) := by decide +kernel
theorem dX7_packed_16 : decode cX7_packed 16 = .ok (.lmul, 1) := by decide +kernel
theorem dX7_packed_17 : decode cX7_packed 17 = .ok (.aload_n 0, 1) := by decide +kernel
theorem dX7_packed_18 : decode cX7_packed 18 = .ok (.iload_n 3, 1) := by decide +kernel
theorem dX7_packed_19 : decode cX7_packed 19 = .ok (.invokevirtual 71, 3) := by decide +kernel
theorem dX7_packed_22 : decode cX7_packed 22 = .ok (.bipush 97, 2) := by decide +kernel
theorem dX7_packed_24 : decode cX7_packed 24 = .ok (.isub, 1) := by decide +kernel
theorem dX7_packed_25 : decode cX7_packed 25 = .ok (.iconst 1, 1) := by decide +kernel
theorem dX7_packed_26 : decode cX7_packed 26 = .ok (.iadd, 1) := by decide +kernel
theorem dX7_packed_27 : decode cX7_packed 27 = .ok (.i2l, 1) := by decide +kernel
theorem dX7_packed_28 : decode cX7_packed 28 = .ok (.ladd, 1) := by decide +kernel
theorem dX7_packed_29 : decode cX7_packed 29 = .ok (.lstore_n 1, 1) := by decide +kernel
theorem dX7_packed_30 : decode cX7_packed 30 = .ok (.iinc 3 1, 3) := by decide +kernel
theorem dX7_packed_33 : decode cX7_packed 33 = .ok (.goto (-29), 3) := by decide +kernel
theorem dX7_packed_36 : decode cX7_packed 36 = .ok (.lload_n 1, 1) := by decide +kernel
theorem dX7_packed_37 : decode cX7_packed 37 = .ok (.lreturn, 1) := by decide +kernel
theorem dX7_goesOn_0 : decode cX7_goesOn 0 = .ok (.aload_n 0, 1) := by decide +kernel
theorem dX7_goesOn_1 : decode cX7_goesOn 1 = .ok (.getfield 75, 3) := by decide +kernel
theorem dX7_goesOn_4 : decode cX7_goesOn 4 = .ok (.iconst 5, 1) := by decide +kernel
theorem dX7_goesOn_5 : decode cX7_goesOn 5 = .ok (.if_icmp .ne 4, 3) := by decide +kernel
theorem dX7_goesOn_8 : decode cX7_goesOn 8 = .ok (.return_, 1) := by decide +kernel
theorem dX7_goesOn_9 : decode cX7_goesOn 9 = .ok (.aload_n 0, 1) := by decide +kernel
theorem dX7_goesOn_10 : decode cX7_goesOn 10 = .ok (.aload_n 0, 1) := by decide +kernel
theorem dX7_goesOn_11 : decode cX7_goesOn 11 = .ok (.getfield 78, 3) := by decide +kernel
theorem dX7_goesOn_14 : decode cX7_goesOn 14 = .ok (.invokevirtual 81, 3) := by decide +kernel
theorem dX7_goesOn_17 : decode cX7_goesOn 17 = .ok (.bipush 32, 2) := by decide +kernel
theorem dX7_goesOn_19 : decode cX7_goesOn 19 = .ok (.if_icmp .ne 16, 3) := by decide +kernel
theorem dX7_goesOn_22 : decode cX7_goesOn 22 = .ok (.aload_n 0, 1) := by decide +kernel
theorem dX7_goesOn_23 : decode cX7_goesOn 23 = .ok (.dup, 1) := by decide +kernel
theorem dX7_goesOn_24 : decode cX7_goesOn 24 = .ok (.getfield 78, 3) := by decide +kernel
theorem dX7_goesOn_27 : decode cX7_goesOn 27 = .ok (.iconst 1, 1) := by decide +kernel
theorem dX7_goesOn_28 : decode cX7_goesOn 28 = .ok (.iadd, 1) := by decide +kernel
theorem dX7_goesOn_29 : decode cX7_goesOn 29 = .ok (.putfield 78, 3) := by decide +kernel
theorem dX7_goesOn_32 : decode cX7_goesOn 32 = .ok (.goto (-23), 3) := by decide +kernel
theorem dX7_goesOn_35 : decode cX7_goesOn 35 = .ok (.aload_n 0, 1) := by decide +kernel
theorem dX7_goesOn_36 : decode cX7_goesOn 36 = .ok (.aload_n 0, 1) := by decide +kernel
theorem dX7_goesOn_37 : decode cX7_goesOn 37 = .ok (.getfield 78, 3) := by decide +kernel
theorem dX7_goesOn_40 : decode cX7_goesOn 40 = .ok (.putfield 84, 3) := by decide +kernel
theorem dX7_goesOn_43 : decode cX7_goesOn 43 = .ok (.aload_n 0, 1) := by decide +kernel
theorem dX7_goesOn_44 : decode cX7_goesOn 44 = .ok (.iconst 0, 1) := by decide +kernel
theorem dX7_goesOn_45 : decode cX7_goesOn 45 = .ok (.putfield 75, 3) := by decide +kernel
theorem dX7_goesOn_48 : decode cX7_goesOn 48 = .ok (.aload_n 0, 1) := by decide +kernel
theorem dX7_goesOn_49 : decode cX7_goesOn 49 = .ok (.aload_n 0, 1) := by decide +kernel
theorem dX7_goesOn_50 : decode cX7_goesOn 50 = .ok (.getfield 78, 3) := by decide +kernel
theorem dX7_goesOn_53 : decode cX7_goesOn 53 = .ok (.invokevirtual 81, 3) := by decide +kernel
theorem dX7_goesOn_56 : decode cX7_goesOn 56 = .ok (.istore_n 1, 1) := by decide +kernel
theorem dX7_goesOn_57 : decode cX7_goesOn 57 = .ok (.iconst 0, 1) := by decide +kernel
theorem dX7_goesOn_58 : decode cX7_goesOn 58 = .ok (.istore_n 2, 1) := by decide +kernel
theorem dX7_goesOn_59 : decode cX7_goesOn 59 = .ok (.iload_n 1, 1) := by decide +kernel
theorem dX7_goesOn_60 : decode cX7_goesOn 60 = .ok (.iconst (-1), 1) := by decide +kernel
theorem dX7_goesOn_61 : decode cX7_goesOn 61 = .ok (.if_icmp .ne 11, 3) := by decide +kernel
theorem dX7_goesOn_64 : decode cX7_goesOn 64 = .ok (.aload_n 0, 1) := by decide +kernel
theorem dX7_goesOn_65 : decode cX7_goesOn 65 = .ok (.iconst 1, 1) := by decide +kernel
theorem dX7_goesOn_66 : decode cX7_goesOn 66 = .ok (.putfield 75, 3) := by decide +kernel
theorem dX7_goesOn_69 : decode cX7_goesOn 69 = .ok (.goto 196, 3) := by decide +kernel
theorem dX7_goesOn_72 : decode cX7_goesOn 72 = .ok (.iload_n 1, 1) := by decide +kernel
theorem dX7_goesOn_73 : decode cX7_goesOn 73 = .ok (.invokestatic 87, 3) := by decide +kernel
theorem dX7_goesOn_76 : decode cX7_goesOn 76 = .ok (.ifCond .eq 85, 3) := by decide +kernel
theorem dX7_goesOn_79 : decode cX7_goesOn 79 = .ok (.aload_n 0, 1) := by decide +kernel
theorem dX7_goesOn_80 : decode cX7_goesOn 80 = .ok (.lconst 0, 1) := by decide +kernel
theorem dX7_goesOn_81 : decode cX7_goesOn 81 = .ok (.putfield 91, 3) := by decide +kernel
theorem dX7_goesOn_84 : decode cX7_goesOn 84 = .ok (.aload_n 0, 1) := by decide +kernel
theorem dX7_goesOn_85 : decode cX7_goesOn 85 = .ok (.aload_n 0, 1) := by decide +kernel
theorem dX7_goesOn_86 : decode cX7_goesOn 86 = .ok (.getfield 78, 3) := by decide +kernel
theorem dX7_goesOn_89 : decode cX7_goesOn 89 = .ok (.invokevirtual 81, 3) := by decide +kernel
theorem dX7_goesOn_92 : decode cX7_goesOn 92 = .ok (.invokestatic 87, 3) := by decide +kernel
theorem dX7_goesOn_95 : decode cX7_goesOn 95 = .ok (.ifCond .eq 52, 3) := by decide +kernel
theorem dX7_goesOn_98 : decode cX7_goesOn 98 = .ok (.iload_n 2, 1) := by decide +kernel
theorem dX7_goesOn_99 : decode cX7_goesOn 99 = .ok (.bipush 8, 2) := by decide +kernel
theorem dX7_goesOn_101 : decode cX7_goesOn 101 = .ok (.if_icmp .ge 30, 3) := by decide +kernel
theorem dX7_goesOn_104 : decode cX7_goesOn 104 = .ok (.aload_n 0, 1) := by decide +kernel
theorem dX7_goesOn_105 : decode cX7_goesOn 105 = .ok (.ldc2_w 69, 3) := by decide +kernel
theorem dX7_goesOn_108 : decode cX7_goesOn 108 = .ok (.aload_n 0, 1) := by decide +kernel
theorem dX7_goesOn_109 : decode cX7_goesOn 109 = .ok (.getfield 91, 3) := by decide +kernel
theorem dX7_goesOn_112 : decode cX7_goesOn 112 = .ok (.lmul, 1) := by decide +kernel
theorem dX7_goesOn_113 : decode cX7_goesOn 113 = .ok (.aload_n 0, 1) := by decide +kernel
theorem dX7_goesOn_114 : decode cX7_goesOn 114 = .ok (.aload_n 0, 1) := by decide +kernel
theorem dX7_goesOn_115 : decode cX7_goesOn 115 = .ok (.getfield 78, 3) := by decide +kernel
theorem dX7_goesOn_118 : decode cX7_goesOn 118 = .ok (.invokevirtual 81, 3) := by decide +kernel
theorem dX7_goesOn_121 : decode cX7_goesOn 121 = .ok (.bipush 97, 2) := by decide +kernel
theorem dX7_goesOn_123 : decode cX7_goesOn 123 = .ok (.isub, 1) := by decide +kernel
theorem dX7_goesOn_124 : decode cX7_goesOn 124 = .ok (.iconst 1, 1) := by decide +kernel
theorem dX7_goesOn_125 : decode cX7_goesOn 125 = .ok (.iadd, 1) := by decide +kernel
theorem dX7_goesOn_126 : decode cX7_goesOn 126 = .ok (.i2l, 1) := by decide +kernel
theorem dX7_goesOn_127 : decode cX7_goesOn 127 = .ok (.ladd, 1) := by decide +kernel
theorem dX7_goesOn_128 : decode cX7_goesOn 128 = .ok (.putfield 91, 3) := by decide +kernel
theorem dX7_goesOn_131 : decode cX7_goesOn 131 = .ok (.iinc 2 1, 3) := by decide +kernel
theorem dX7_goesOn_134 : decode cX7_goesOn 134 = .ok (.aload_n 0, 1) := by decide +kernel
theorem dX7_goesOn_135 : decode cX7_goesOn 135 = .ok (.dup, 1) := by decide +kernel
theorem dX7_goesOn_136 : decode cX7_goesOn 136 = .ok (.getfield 78, 3) := by decide +kernel
theorem dX7_goesOn_139 : decode cX7_goesOn 139 = .ok (.iconst 1, 1) := by decide +kernel
theorem dX7_goesOn_140 : decode cX7_goesOn 140 = .ok (.iadd, 1) := by decide +kernel
theorem dX7_goesOn_141 : decode cX7_goesOn 141 = .ok (.putfield 78, 3) := by decide +kernel
theorem dX7_goesOn_144 : decode cX7_goesOn 144 = .ok (.goto (-60), 3) := by decide +kernel
theorem dX7_goesOn_147 : decode cX7_goesOn 147 = .ok (.iload_n 2, 1) := by decide +kernel
theorem dX7_goesOn_148 : decode cX7_goesOn 148 = .ok (.bipush 8, 2) := by decide +kernel
theorem dX7_goesOn_150 : decode cX7_goesOn 150 = .ok (.if_icmp .gt 115, 3) := by decide +kernel
theorem dX7_goesOn_153 : decode cX7_goesOn 153 = .ok (.aload_n 0, 1) := by decide +kernel
theorem dX7_goesOn_154 : decode cX7_goesOn 154 = .ok (.iconst 2, 1) := by decide +kernel
theorem dX7_goesOn_155 : decode cX7_goesOn 155 = .ok (.putfield 75, 3) := by decide +kernel
theorem dX7_goesOn_158 : decode cX7_goesOn 158 = .ok (.goto 107, 3) := by decide +kernel
theorem dX7_goesOn_161 : decode cX7_goesOn 161 = .ok (.iload_n 1, 1) := by decide +kernel
theorem dX7_goesOn_162 : decode cX7_goesOn 162 = .ok (.invokestatic 95, 3) := by decide +kernel
theorem dX7_goesOn_165 : decode cX7_goesOn 165 = .ok (.ifCond .eq 79, 3) := by decide +kernel
theorem dX7_goesOn_168 : decode cX7_goesOn 168 = .ok (.aload_n 0, 1) := by decide +kernel
theorem dX7_goesOn_169 : decode cX7_goesOn 169 = .ok (.iconst 0, 1) := by decide +kernel
theorem dX7_goesOn_170 : decode cX7_goesOn 170 = .ok (.putfield 98, 3) := by decide +kernel
theorem dX7_goesOn_173 : decode cX7_goesOn 173 = .ok (.aload_n 0, 1) := by decide +kernel
theorem dX7_goesOn_174 : decode cX7_goesOn 174 = .ok (.aload_n 0, 1) := by decide +kernel
theorem dX7_goesOn_175 : decode cX7_goesOn 175 = .ok (.getfield 78, 3) := by decide +kernel
theorem dX7_goesOn_178 : decode cX7_goesOn 178 = .ok (.invokevirtual 81, 3) := by decide +kernel
theorem dX7_goesOn_181 : decode cX7_goesOn 181 = .ok (.invokestatic 95, 3) := by decide +kernel
theorem dX7_goesOn_184 : decode cX7_goesOn 184 = .ok (.ifCond .eq 47, 3) := by decide +kernel
theorem dX7_goesOn_187 : decode cX7_goesOn 187 = .ok (.iload_n 2, 1) := by decide +kernel
theorem dX7_goesOn_188 : decode cX7_goesOn 188 = .ok (.iconst 5, 1) := by decide +kernel
theorem dX7_goesOn_189 : decode cX7_goesOn 189 = .ok (.if_icmp .ge 26, 3) := by decide +kernel
theorem dX7_goesOn_192 : decode cX7_goesOn 192 = .ok (.aload_n 0, 1) := by decide +kernel
theorem dX7_goesOn_193 : decode cX7_goesOn 193 = .ok (.bipush 10, 2) := by decide +kernel
theorem dX7_goesOn_195 : decode cX7_goesOn 195 = .ok (.aload_n 0, 1) := by decide +kernel
theorem dX7_goesOn_196 : decode cX7_goesOn 196 = .ok (.getfield 98, 3) := by decide +kernel
theorem dX7_goesOn_199 : decode cX7_goesOn 199 = .ok (.imul, 1) := by decide +kernel
theorem dX7_goesOn_200 : decode cX7_goesOn 200 = .ok (.aload_n 0, 1) := by decide +kernel
theorem dX7_goesOn_201 : decode cX7_goesOn 201 = .ok (.aload_n 0, 1) := by decide +kernel
theorem dX7_goesOn_202 : decode cX7_goesOn 202 = .ok (.getfield 78, 3) := by decide +kernel
theorem dX7_goesOn_205 : decode cX7_goesOn 205 = .ok (.invokevirtual 81, 3) := by decide +kernel
theorem dX7_goesOn_208 : decode cX7_goesOn 208 = .ok (.iadd, 1) := by decide +kernel
theorem dX7_goesOn_209 : decode cX7_goesOn 209 = .ok (.bipush 48, 2) := by decide +kernel
theorem dX7_goesOn_211 : decode cX7_goesOn 211 = .ok (.isub, 1) := by decide +kernel
theorem dX7_goesOn_212 : decode cX7_goesOn 212 = .ok (.putfield 98, 3) := by decide +kernel
theorem dX7_goesOn_215 : decode cX7_goesOn 215 = .ok (.iinc 2 1, 3) := by decide +kernel
theorem dX7_goesOn_218 : decode cX7_goesOn 218 = .ok (.aload_n 0, 1) := by decide +kernel
theorem dX7_goesOn_219 : decode cX7_goesOn 219 = .ok (.dup, 1) := by decide +kernel
theorem dX7_goesOn_220 : decode cX7_goesOn 220 = .ok (.getfield 78, 3) := by decide +kernel
theorem dX7_goesOn_223 : decode cX7_goesOn 223 = .ok (.iconst 1, 1) := by decide +kernel
theorem dX7_goesOn_224 : decode cX7_goesOn 224 = .ok (.iadd, 1) := by decide +kernel
theorem dX7_goesOn_225 : decode cX7_goesOn 225 = .ok (.putfield 78, 3) := by decide +kernel
theorem dX7_goesOn_228 : decode cX7_goesOn 228 = .ok (.goto (-55), 3) := by decide +kernel
theorem dX7_goesOn_231 : decode cX7_goesOn 231 = .ok (.iload_n 2, 1) := by decide +kernel
theorem dX7_goesOn_232 : decode cX7_goesOn 232 = .ok (.iconst 5, 1) := by decide +kernel
theorem dX7_goesOn_233 : decode cX7_goesOn 233 = .ok (.if_icmp .gt 32, 3) := by decide +kernel
theorem dX7_goesOn_236 : decode cX7_goesOn 236 = .ok (.aload_n 0, 1) := by decide +kernel
theorem dX7_goesOn_237 : decode cX7_goesOn 237 = .ok (.iconst 3, 1) := by decide +kernel
theorem dX7_goesOn_238 : decode cX7_goesOn 238 = .ok (.putfield 75, 3) := by decide +kernel
theorem dX7_goesOn_241 : decode cX7_goesOn 241 = .ok (.goto 24, 3) := by decide +kernel
theorem dX7_goesOn_244 : decode cX7_goesOn 244 = .ok (.iload_n 1, 1) := by decide +kernel
theorem dX7_goesOn_245 : decode cX7_goesOn 245 = .ok (.bipush 59, 2) := by decide +kernel
theorem dX7_goesOn_247 : decode cX7_goesOn 247 = .ok (.if_icmp .ne 18, 3) := by decide +kernel
theorem dX7_goesOn_250 : decode cX7_goesOn 250 = .ok (.aload_n 0, 1) := by decide +kernel
theorem dX7_goesOn_251 : decode cX7_goesOn 251 = .ok (.iconst 4, 1) := by decide +kernel
theorem dX7_goesOn_252 : decode cX7_goesOn 252 = .ok (.putfield 75, 3) := by decide +kernel
theorem dX7_goesOn_255 : decode cX7_goesOn 255 = .ok (.aload_n 0, 1) := by decide +kernel
theorem dX7_goesOn_256 : decode cX7_goesOn 256 = .ok (.dup, 1) := by decide +kernel
theorem dX7_goesOn_257 : decode cX7_goesOn 257 = .ok (.getfield 78, 3) := by decide +kernel
theorem dX7_goesOn_260 : decode cX7_goesOn 260 = .ok (.iconst 1, 1) := by decide +kernel
theorem dX7_goesOn_261 : decode cX7_goesOn 261 = .ok (.iadd, 1) := by decide +kernel
theorem dX7_goesOn_262 : decode cX7_goesOn 262 = .ok (.putfield 78, 3) := by decide +kernel
theorem dX7_goesOn_265 : decode cX7_goesOn 265 = .ok (.return_, 1) := by decide +kernel
theorem dX7_flaw_0 : decode cX7_flaw 0 = .ok (.aload_n 0, 1) := by decide +kernel
theorem dX7_flaw_1 : decode cX7_flaw 1 = .ok (.getfield 75, 3) := by decide +kernel
theorem dX7_flaw_4 : decode cX7_flaw 4 = .ok (.iconst 5, 1) := by decide +kernel
theorem dX7_flaw_5 : decode cX7_flaw 5 = .ok (.if_icmp .ne 4, 3) := by decide +kernel
theorem dX7_flaw_8 : decode cX7_flaw 8 = .ok (.return_, 1) := by decide +kernel
theorem dX7_flaw_9 : decode cX7_flaw 9 = .ok (.aload_n 0, 1) := by decide +kernel
theorem dX7_flaw_10 : decode cX7_flaw 10 = .ok (.iload_n 1, 1) := by decide +kernel
theorem dX7_flaw_11 : decode cX7_flaw 11 = .ok (.putfield 101, 3) := by decide +kernel
theorem dX7_flaw_14 : decode cX7_flaw 14 = .ok (.aload_n 0, 1) := by decide +kernel
theorem dX7_flaw_15 : decode cX7_flaw 15 = .ok (.aload_n 0, 1) := by decide +kernel
theorem dX7_flaw_16 : decode cX7_flaw 16 = .ok (.getfield 84, 3) := by decide +kernel
theorem dX7_flaw_19 : decode cX7_flaw 19 = .ok (.putfield 104, 3) := by decide +kernel
theorem dX7_flaw_22 : decode cX7_flaw 22 = .ok (.aload_n 0, 1) := by decide +kernel
theorem dX7_flaw_23 : decode cX7_flaw 23 = .ok (.iconst 5, 1) := by decide +kernel
theorem dX7_flaw_24 : decode cX7_flaw 24 = .ok (.putfield 75, 3) := by decide +kernel
theorem dX7_flaw_27 : decode cX7_flaw 27 = .ok (.return_, 1) := by decide +kernel
theorem dX7_isWord_0 : decode cX7_isWord 0 = .ok (.aload_n 0, 1) := by decide +kernel
theorem dX7_isWord_1 : decode cX7_isWord 1 = .ok (.getfield 75, 3) := by decide +kernel
theorem dX7_isWord_4 : decode cX7_isWord 4 = .ok (.iconst 2, 1) := by decide +kernel
theorem dX7_isWord_5 : decode cX7_isWord 5 = .ok (.if_icmp .ne 19, 3) := by decide +kernel
theorem dX7_isWord_8 : decode cX7_isWord 8 = .ok (.aload_n 0, 1) := by decide +kernel
theorem dX7_isWord_9 : decode cX7_isWord 9 = .ok (.getfield 91, 3) := by decide +kernel
theorem dX7_isWord_12 : decode cX7_isWord 12 = .ok (.aload_n 1, 1) := by decide +kernel
theorem dX7_isWord_13 : decode cX7_isWord 13 = .ok (.invokestatic 107, 3) := by decide +kernel
theorem dX7_isWord_16 : decode cX7_isWord 16 = .ok (.lcmp, 1) := by decide +kernel
theorem dX7_isWord_17 : decode cX7_isWord 17 = .ok (.ifCond .ne 7, 3) := by decide +kernel
theorem dX7_isWord_20 : decode cX7_isWord 20 = .ok (.iconst 1, 1) := by decide +kernel
theorem dX7_isWord_21 : decode cX7_isWord 21 = .ok (.goto 4, 3) := by decide +kernel
theorem dX7_isWord_24 : decode cX7_isWord 24 = .ok (.iconst 0, 1) := by decide +kernel
theorem dX7_isWord_25 : decode cX7_isWord 25 = .ok (.ireturn, 1) := by decide +kernel
theorem dX7_eatsSemicolon_0 : decode cX7_eatsSemicolon 0 = .ok (.aload_n 0, 1) := by decide +kernel
theorem dX7_eatsSemicolon_1 : decode cX7_eatsSemicolon 1 = .ok (.getfield 75, 3) := by decide +kernel
theorem dX7_eatsSemicolon_4 : decode cX7_eatsSemicolon 4 = .ok (.iconst 4, 1) := by decide +kernel
theorem dX7_eatsSemicolon_5 : decode cX7_eatsSemicolon 5 = .ok (.if_icmp .ne 7, 3) := by decide +kernel
theorem dX7_eatsSemicolon_8 : decode cX7_eatsSemicolon 8 = .ok (.iconst 1, 1) := by decide +kernel
theorem dX7_eatsSemicolon_9 : decode cX7_eatsSemicolon 9 = .ok (.goto 4, 3) := by decide +kernel
theorem dX7_eatsSemicolon_12 : decode cX7_eatsSemicolon 12 = .ok (.iconst 0, 1) := by decide +kernel
theorem dX7_eatsSemicolon_13 : decode cX7_eatsSemicolon 13 = .ok (.istore_n 1, 1) := by decide +kernel
theorem dX7_eatsSemicolon_14 : decode cX7_eatsSemicolon 14 = .ok (.iload_n 1, 1) := by decide +kernel
theorem dX7_eatsSemicolon_15 : decode cX7_eatsSemicolon 15 = .ok (.ifCond .eq 7, 3) := by decide +kernel
theorem dX7_eatsSemicolon_18 : decode cX7_eatsSemicolon 18 = .ok (.aload_n 0, 1) := by decide +kernel
theorem dX7_eatsSemicolon_19 : decode cX7_eatsSemicolon 19 = .ok (.invokevirtual 111, 3) := by decide +kernel
theorem dX7_eatsSemicolon_22 : decode cX7_eatsSemicolon 22 = .ok (.iload_n 1, 1) := by decide +kernel
theorem dX7_eatsSemicolon_23 : decode cX7_eatsSemicolon 23 = .ok (.ireturn, 1) := by decide +kernel
theorem dX7_needs_0 : decode cX7_needs 0 = .ok (.aload_n 0, 1) := by decide +kernel
theorem dX7_needs_1 : decode cX7_needs 1 = .ok (.aload_n 1, 1) := by decide +kernel
theorem dX7_needs_2 : decode cX7_needs 2 = .ok (.invokevirtual 114, 3) := by decide +kernel
theorem dX7_needs_5 : decode cX7_needs 5 = .ok (.ifCond .ne 8, 3) := by decide +kernel
theorem dX7_needs_8 : decode cX7_needs 8 = .ok (.aload_n 0, 1) := by decide +kernel
theorem dX7_needs_9 : decode cX7_needs 9 = .ok (.iconst 1, 1) := by decide +kernel
theorem dX7_needs_10 : decode cX7_needs 10 = .ok (.invokevirtual 118, 3) := by decide +kernel
theorem dX7_needs_13 : decode cX7_needs 13 = .ok (.aload_n 0, 1) := by decide +kernel
theorem dX7_needs_14 : decode cX7_needs 14 = .ok (.invokevirtual 111, 3) := by decide +kernel
theorem dX7_needs_17 : decode cX7_needs 17 = .ok (.return_, 1) := by decide +kernel
theorem dX7_wholeAt_0 : decode cX7_wholeAt 0 = .ok (.aload_n 0, 1) := by decide +kernel
theorem dX7_wholeAt_1 : decode cX7_wholeAt 1 = .ok (.getfield 75, 3) := by decide +kernel
theorem dX7_wholeAt_4 : decode cX7_wholeAt 4 = .ok (.iconst 3, 1) := by decide +kernel
theorem dX7_wholeAt_5 : decode cX7_wholeAt 5 = .ok (.if_icmp .eq 11, 3) := by decide +kernel
theorem dX7_wholeAt_8 : decode cX7_wholeAt 8 = .ok (.aload_n 0, 1) := by decide +kernel
theorem dX7_wholeAt_9 : decode cX7_wholeAt 9 = .ok (.iconst 1, 1) := by decide +kernel
theorem dX7_wholeAt_10 : decode cX7_wholeAt 10 = .ok (.invokevirtual 118, 3) := by decide +kernel
theorem dX7_wholeAt_13 : decode cX7_wholeAt 13 = .ok (.goto 20, 3) := by decide +kernel
theorem dX7_wholeAt_16 : decode cX7_wholeAt 16 = .ok (.aload_n 0, 1) := by decide +kernel
theorem dX7_wholeAt_17 : decode cX7_wholeAt 17 = .ok (.getfield 98, 3) := by decide +kernel
theorem dX7_wholeAt_20 : decode cX7_wholeAt 20 = .ok (.iload_n 1, 1) := by decide +kernel
theorem dX7_wholeAt_21 : decode cX7_wholeAt 21 = .ok (.iload_n 2, 1) := by decide +kernel
theorem dX7_wholeAt_22 : decode cX7_wholeAt 22 = .ok (.invokestatic 122, 3) := by decide +kernel
theorem dX7_wholeAt_25 : decode cX7_wholeAt 25 = .ok (.ifCond .ne 8, 3) := by decide +kernel
theorem dX7_wholeAt_28 : decode cX7_wholeAt 28 = .ok (.aload_n 0, 1) := by decide +kernel
theorem dX7_wholeAt_29 : decode cX7_wholeAt 29 = .ok (.iconst 4, 1) := by decide +kernel
theorem dX7_wholeAt_30 : decode cX7_wholeAt 30 = .ok (.invokevirtual 118, 3) := by decide +kernel
theorem dX7_wholeAt_33 : decode cX7_wholeAt 33 = .ok (.aload_n 0, 1) := by decide +kernel
theorem dX7_wholeAt_34 : decode cX7_wholeAt 34 = .ok (.getfield 75, 3) := by decide +kernel
theorem dX7_wholeAt_37 : decode cX7_wholeAt 37 = .ok (.iconst 5, 1) := by decide +kernel
theorem dX7_wholeAt_38 : decode cX7_wholeAt 38 = .ok (.if_icmp .ne 7, 3) := by decide +kernel
theorem dX7_wholeAt_41 : decode cX7_wholeAt 41 = .ok (.iload_n 1, 1) := by decide +kernel
theorem dX7_wholeAt_42 : decode cX7_wholeAt 42 = .ok (.goto 7, 3) := by decide +kernel
theorem dX7_wholeAt_45 : decode cX7_wholeAt 45 = .ok (.aload_n 0, 1) := by decide +kernel
theorem dX7_wholeAt_46 : decode cX7_wholeAt 46 = .ok (.getfield 98, 3) := by decide +kernel
theorem dX7_wholeAt_49 : decode cX7_wholeAt 49 = .ok (.ireturn, 1) := by decide +kernel
theorem dX7_readWhole_0 : decode cX7_readWhole 0 = .ok (.aload_n 0, 1) := by decide +kernel
theorem dX7_readWhole_1 : decode cX7_readWhole 1 = .ok (.iload_n 1, 1) := by decide +kernel
theorem dX7_readWhole_2 : decode cX7_readWhole 2 = .ok (.iload_n 2, 1) := by decide +kernel
theorem dX7_readWhole_3 : decode cX7_readWhole 3 = .ok (.invokevirtual 126, 3) := by decide +kernel
theorem dX7_readWhole_6 : decode cX7_readWhole 6 = .ok (.istore_n 3, 1) := by decide +kernel
theorem dX7_readWhole_7 : decode cX7_readWhole 7 = .ok (.aload_n 0, 1) := by decide +kernel
theorem dX7_readWhole_8 : decode cX7_readWhole 8 = .ok (.invokevirtual 111, 3) := by decide +kernel
theorem dX7_readWhole_11 : decode cX7_readWhole 11 = .ok (.iload_n 3, 1) := by decide +kernel
theorem dX7_readWhole_12 : decode cX7_readWhole 12 = .ok (.ireturn, 1) := by decide +kernel
theorem dX7_readPart_0 : decode cX7_readPart 0 = .ok (.aload_n 0, 1) := by decide +kernel
theorem dX7_readPart_1 : decode cX7_readPart 1 = .ok (.aload_n 1, 1) := by decide +kernel
theorem dX7_readPart_2 : decode cX7_readPart 2 = .ok (.invokevirtual 130, 3) := by decide +kernel
theorem dX7_readPart_5 : decode cX7_readPart 5 = .ok (.aload_n 0, 1) := by decide +kernel
theorem dX7_readPart_6 : decode cX7_readPart 6 = .ok (.iload_n 2, 1) := by decide +kernel
theorem dX7_readPart_7 : decode cX7_readPart 7 = .ok (.iload_n 3, 1) := by decide +kernel
theorem dX7_readPart_8 : decode cX7_readPart 8 = .ok (.invokevirtual 134, 3) := by decide +kernel
theorem dX7_readPart_11 : decode cX7_readPart 11 = .ok (.ireturn, 1) := by decide +kernel
theorem dX7_lineBegins_0 : decode cX7_lineBegins 0 = .ok (.iload_n 1, 1) := by decide +kernel
theorem dX7_lineBegins_1 : decode cX7_lineBegins 1 = .ok (.iload_n 2, 1) := by decide +kernel
theorem dX7_lineBegins_2 : decode cX7_lineBegins 2 = .ok (.if_icmp .ne 8, 3) := by decide +kernel
theorem dX7_lineBegins_5 : decode cX7_lineBegins 5 = .ok (.aload_n 0, 1) := by decide +kernel
theorem dX7_lineBegins_6 : decode cX7_lineBegins 6 = .ok (.iconst 5, 1) := by decide +kernel
theorem dX7_lineBegins_7 : decode cX7_lineBegins 7 = .ok (.invokevirtual 118, 3) := by decide +kernel
theorem dX7_lineBegins_10 : decode cX7_lineBegins 10 = .ok (.aload_n 0, 1) := by decide +kernel
theorem dX7_lineBegins_11 : decode cX7_lineBegins 11 = .ok (.getfield 137, 3) := by decide +kernel
theorem dX7_lineBegins_14 : decode cX7_lineBegins 14 = .ok (.getfield 141, 3) := by decide +kernel
theorem dX7_lineBegins_17 : decode cX7_lineBegins 17 = .ok (.ifCond .ne 9, 3) := by decide +kernel
theorem dX7_lineBegins_20 : decode cX7_lineBegins 20 = .ok (.aload_n 0, 1) := by decide +kernel
theorem dX7_lineBegins_21 : decode cX7_lineBegins 21 = .ok (.bipush 6, 2) := by decide +kernel
theorem dX7_lineBegins_23 : decode cX7_lineBegins 23 = .ok (.invokevirtual 118, 3) := by decide +kernel
theorem dX7_lineBegins_26 : decode cX7_lineBegins 26 = .ok (.aload_n 0, 1) := by decide +kernel
theorem dX7_lineBegins_27 : decode cX7_lineBegins 27 = .ok (.invokevirtual 111, 3) := by decide +kernel
theorem dX7_lineBegins_30 : decode cX7_lineBegins 30 = .ok (.return_, 1) := by decide +kernel
theorem dX7_readAll_0 : decode cX7_readAll 0 = .ok (.iconst 1, 1) := by decide +kernel
theorem dX7_readAll_1 : decode cX7_readAll 1 = .ok (.istore_n 1, 1) := by decide +kernel
theorem dX7_readAll_2 : decode cX7_readAll 2 = .ok (.iload_n 1, 1) := by decide +kernel
theorem dX7_readAll_3 : decode cX7_readAll 3 = .ok (.ifCond .eq 15, 3) := by decide +kernel
theorem dX7_readAll_6 : decode cX7_readAll 6 = .ok (.aload_n 0, 1) := by decide +kernel
theorem dX7_readAll_7 : decode cX7_readAll 7 = .ok (.invokevirtual 146, 3) := by decide +kernel
theorem dX7_readAll_10 : decode cX7_readAll 10 = .ok (.aload_n 0, 1) := by decide +kernel
theorem dX7_readAll_11 : decode cX7_readAll 11 = .ok (.invokevirtual 149, 3) := by decide +kernel
theorem dX7_readAll_14 : decode cX7_readAll 14 = .ok (.istore_n 1, 1) := by decide +kernel
theorem dX7_readAll_15 : decode cX7_readAll 15 = .ok (.goto (-13), 3) := by decide +kernel
theorem dX7_readAll_18 : decode cX7_readAll 18 = .ok (.aload_n 0, 1) := by decide +kernel
theorem dX7_readAll_19 : decode cX7_readAll 19 = .ok (.getfield 75, 3) := by decide +kernel
theorem dX7_readAll_22 : decode cX7_readAll 22 = .ok (.iconst 1, 1) := by decide +kernel
theorem dX7_readAll_23 : decode cX7_readAll 23 = .ok (.if_icmp .eq 8, 3) := by decide +kernel
theorem dX7_readAll_26 : decode cX7_readAll 26 = .ok (.aload_n 0, 1) := by decide +kernel
theorem dX7_readAll_27 : decode cX7_readAll 27 = .ok (.iconst 1, 1) := by decide +kernel
theorem dX7_readAll_28 : decode cX7_readAll 28 = .ok (.invokevirtual 118, 3) := by decide +kernel
theorem dX7_readAll_31 : decode cX7_readAll 31 = .ok (.aload_n 0, 1) := by decide +kernel
theorem dX7_readAll_32 : decode cX7_readAll 32 = .ok (.getfield 137, 3) := by decide +kernel
theorem dX7_readAll_35 : decode cX7_readAll 35 = .ok (.getfield 141, 3) := by decide +kernel
theorem dX7_readAll_38 : decode cX7_readAll 38 = .ok (.ifCond .ne 9, 3) := by decide +kernel
theorem dX7_readAll_41 : decode cX7_readAll 41 = .ok (.aload_n 0, 1) := by decide +kernel
theorem dX7_readAll_42 : decode cX7_readAll 42 = .ok (.bipush 6, 2) := by decide +kernel
theorem dX7_readAll_44 : decode cX7_readAll 44 = .ok (.invokevirtual 118, 3) := by decide +kernel
theorem dX7_readAll_47 : decode cX7_readAll 47 = .ok (.return_, 1) := by decide +kernel
theorem dX7_readLine_0 : decode cX7_readLine 0 = .ok (.aload_n 0, 1) := by decide +kernel
theorem dX7_readLine_1 : decode cX7_readLine 1 = .ok (.ldc 153, 2) := by decide +kernel
theorem dX7_readLine_3 : decode cX7_readLine 3 = .ok (.invokevirtual 114, 3) := by decide +kernel
theorem dX7_readLine_6 : decode cX7_readLine 6 = .ok (.ifCond .eq 10, 3) := by decide +kernel
theorem dX7_readLine_9 : decode cX7_readLine 9 = .ok (.aload_n 0, 1) := by decide +kernel
theorem dX7_readLine_10 : decode cX7_readLine 10 = .ok (.invokevirtual 155, 3) := by decide +kernel
theorem dX7_readLine_13 : decode cX7_readLine 13 = .ok (.goto 90, 3) := by decide +kernel
theorem dX7_readLine_16 : decode cX7_readLine 16 = .ok (.aload_n 0, 1) := by decide +kernel
theorem dX7_readLine_17 : decode cX7_readLine 17 = .ok (.ldc 158, 2) := by decide +kernel
theorem dX7_readLine_19 : decode cX7_readLine 19 = .ok (.invokevirtual 114, 3) := by decide +kernel
theorem dX7_readLine_22 : decode cX7_readLine 22 = .ok (.ifCond .eq 10, 3) := by decide +kernel
theorem dX7_readLine_25 : decode cX7_readLine 25 = .ok (.aload_n 0, 1) := by decide +kernel
theorem dX7_readLine_26 : decode cX7_readLine 26 = .ok (.invokevirtual 160, 3) := by decide +kernel
theorem dX7_readLine_29 : decode cX7_readLine 29 = .ok (.goto 74, 3) := by decide +kernel
theorem dX7_readLine_32 : decode cX7_readLine 32 = .ok (.aload_n 0, 1) := by decide +kernel
theorem dX7_readLine_33 : decode cX7_readLine 33 = .ok (.ldc 163, 2) := by decide +kernel
theorem dX7_readLine_35 : decode cX7_readLine 35 = .ok (.invokevirtual 114, 3) := by decide +kernel
theorem dX7_readLine_38 : decode cX7_readLine 38 = .ok (.ifCond .eq 11, 3) := by decide +kernel
theorem dX7_readLine_41 : decode cX7_readLine 41 = .ok (.aload_n 0, 1) := by decide +kernel
theorem dX7_readLine_42 : decode cX7_readLine 42 = .ok (.iconst 0, 1) := by decide +kernel
theorem dX7_readLine_43 : decode cX7_readLine 43 = .ok (.invokevirtual 164, 3) := by decide +kernel
theorem dX7_readLine_46 : decode cX7_readLine 46 = .ok (.goto 57, 3) := by decide +kernel
theorem dX7_readLine_49 : decode cX7_readLine 49 = .ok (.aload_n 0, 1) := by decide +kernel
theorem dX7_readLine_50 : decode cX7_readLine 50 = .ok (.ldc 168, 2) := by decide +kernel
theorem dX7_readLine_52 : decode cX7_readLine 52 = .ok (.invokevirtual 114, 3) := by decide +kernel
theorem dX7_readLine_55 : decode cX7_readLine 55 = .ok (.ifCond .eq 11, 3) := by decide +kernel
theorem dX7_readLine_58 : decode cX7_readLine 58 = .ok (.aload_n 0, 1) := by decide +kernel
theorem dX7_readLine_59 : decode cX7_readLine 59 = .ok (.iconst 1, 1) := by decide +kernel
theorem dX7_readLine_60 : decode cX7_readLine 60 = .ok (.invokevirtual 164, 3) := by decide +kernel
theorem dX7_readLine_63 : decode cX7_readLine 63 = .ok (.goto 40, 3) := by decide +kernel
theorem dX7_readLine_66 : decode cX7_readLine 66 = .ok (.aload_n 0, 1) := by decide +kernel
theorem dX7_readLine_67 : decode cX7_readLine 67 = .ok (.ldc 170, 2) := by decide +kernel
theorem dX7_readLine_69 : decode cX7_readLine 69 = .ok (.invokevirtual 114, 3) := by decide +kernel
theorem dX7_readLine_72 : decode cX7_readLine 72 = .ok (.ifCond .eq 10, 3) := by decide +kernel
theorem dX7_readLine_75 : decode cX7_readLine 75 = .ok (.aload_n 0, 1) := by decide +kernel
theorem dX7_readLine_76 : decode cX7_readLine 76 = .ok (.invokevirtual 172, 3) := by decide +kernel
theorem dX7_readLine_79 : decode cX7_readLine 79 = .ok (.goto 24, 3) := by decide +kernel
theorem dX7_readLine_82 : decode cX7_readLine 82 = .ok (.aload_n 0, 1) := by decide +kernel
theorem dX7_readLine_83 : decode cX7_readLine 83 = .ok (.ldc 175, 2) := by decide +kernel
theorem dX7_readLine_85 : decode cX7_readLine 85 = .ok (.invokevirtual 114, 3) := by decide +kernel
theorem dX7_readLine_88 : decode cX7_readLine 88 = .ok (.ifCond .eq 10, 3) := by decide +kernel
theorem dX7_readLine_91 : decode cX7_readLine 91 = .ok (.aload_n 0, 1) := by decide +kernel
theorem dX7_readLine_92 : decode cX7_readLine 92 = .ok (.invokevirtual 177, 3) := by decide +kernel
theorem dX7_readLine_95 : decode cX7_readLine 95 = .ok (.goto 8, 3) := by decide +kernel
theorem dX7_readLine_98 : decode cX7_readLine 98 = .ok (.aload_n 0, 1) := by decide +kernel
theorem dX7_readLine_99 : decode cX7_readLine 99 = .ok (.iconst 1, 1) := by decide +kernel
theorem dX7_readLine_100 : decode cX7_readLine 100 = .ok (.invokevirtual 118, 3) := by decide +kernel
theorem dX7_readLine_103 : decode cX7_readLine 103 = .ok (.return_, 1) := by decide +kernel
theorem dX7_readCache_0 : decode cX7_readCache 0 = .ok (.aload_n 0, 1) := by decide +kernel
theorem dX7_readCache_1 : decode cX7_readCache 1 = .ok (.getfield 137, 3) := by decide +kernel
theorem dX7_readCache_4 : decode cX7_readCache 4 = .ok (.getfield 141, 3) := by decide +kernel
theorem dX7_readCache_7 : decode cX7_readCache 7 = .ok (.ifCond .le 8, 3) := by decide +kernel
theorem dX7_readCache_10 : decode cX7_readCache 10 = .ok (.aload_n 0, 1) := by decide +kernel
theorem dX7_readCache_11 : decode cX7_readCache 11 = .ok (.iconst 3, 1) := by decide +kernel
theorem dX7_readCache_12 : decode cX7_readCache 12 = .ok (.invokevirtual 118, 3) := by decide +kernel
theorem dX7_readCache_15 : decode cX7_readCache 15 = .ok (.aload_n 0, 1) := by decide +kernel
theorem dX7_readCache_16 : decode cX7_readCache 16 = .ok (.invokevirtual 111, 3) := by decide +kernel
theorem dX7_readCache_19 : decode cX7_readCache 19 = .ok (.aload_n 0, 1) := by decide +kernel
theorem dX7_readCache_20 : decode cX7_readCache 20 = .ok (.ldc 180, 2) := by decide +kernel
theorem dX7_readCache_22 : decode cX7_readCache 22 = .ok (.iconst 1, 1) := by decide +kernel
theorem dX7_readCache_23 : decode cX7_readCache 23 = .ok (.iconst 4, 1) := by decide +kernel
theorem dX7_readCache_24 : decode cX7_readCache 24 = .ok (.invokevirtual 181, 3) := by decide +kernel
theorem dX7_readCache_27 : decode cX7_readCache 27 = .ok (.istore_n 1, 1) := by decide +kernel
theorem dX7_readCache_28 : decode cX7_readCache 28 = .ok (.aload_n 0, 1) := by decide +kernel
theorem dX7_readCache_29 : decode cX7_readCache 29 = .ok (.ldc 185, 2) := by decide +kernel
theorem dX7_readCache_31 : decode cX7_readCache 31 = .ok (.iconst 1, 1) := by decide +kernel
theorem dX7_readCache_32 : decode cX7_readCache 32 = .ok (.iconst 4, 1) := by decide +kernel
theorem dX7_readCache_33 : decode cX7_readCache 33 = .ok (.invokevirtual 181, 3) := by decide +kernel
theorem dX7_readCache_36 : decode cX7_readCache 36 = .ok (.istore_n 2, 1) := by decide +kernel
theorem dX7_readCache_37 : decode cX7_readCache 37 = .ok (.aload_n 0, 1) := by decide +kernel
theorem dX7_readCache_38 : decode cX7_readCache 38 = .ok (.ldc 187, 2) := by decide +kernel
theorem dX7_readCache_40 : decode cX7_readCache 40 = .ok (.invokevirtual 114, 3) := by decide +kernel
theorem dX7_readCache_43 : decode cX7_readCache 43 = .ok (.istore_n 3, 1) := by decide +kernel
theorem dX7_readCache_44 : decode cX7_readCache 44 = .ok (.iload_n 3, 1) := by decide +kernel
theorem dX7_readCache_45 : decode cX7_readCache 45 = .ok (.ifCond .ne 17, 3) := by decide +kernel
theorem dX7_readCache_48 : decode cX7_readCache 48 = .ok (.aload_n 0, 1) := by decide +kernel
theorem dX7_readCache_49 : decode cX7_readCache 49 = .ok (.ldc 189, 2) := by decide +kernel
theorem dX7_readCache_51 : decode cX7_readCache 51 = .ok (.invokevirtual 114, 3) := by decide +kernel
theorem dX7_readCache_54 : decode cX7_readCache 54 = .ok (.ifCond .ne 8, 3) := by decide +kernel
theorem dX7_readCache_57 : decode cX7_readCache 57 = .ok (.aload_n 0, 1) := by decide +kernel
theorem dX7_readCache_58 : decode cX7_readCache 58 = .ok (.iconst 1, 1) := by decide +kernel
theorem dX7_readCache_59 : decode cX7_readCache 59 = .ok (.invokevirtual 118, 3) := by decide +kernel
theorem dX7_readCache_62 : decode cX7_readCache 62 = .ok (.aload_n 0, 1) := by decide +kernel
theorem dX7_readCache_63 : decode cX7_readCache 63 = .ok (.invokevirtual 111, 3) := by decide +kernel
theorem dX7_readCache_66 : decode cX7_readCache 66 = .ok (.aload_n 0, 1) := by decide +kernel
theorem dX7_readCache_67 : decode cX7_readCache 67 = .ok (.getfield 75, 3) := by decide +kernel
theorem dX7_readCache_70 : decode cX7_readCache 70 = .ok (.iconst 5, 1) := by decide +kernel
theorem dX7_readCache_71 : decode cX7_readCache 71 = .ok (.if_icmp .ne 4, 3) := by decide +kernel
theorem dX7_readCache_74 : decode cX7_readCache 74 = .ok (.return_, 1) := by decide +kernel
theorem dX7_readCache_75 : decode cX7_readCache 75 = .ok (.aload_n 0, 1) := by decide +kernel
theorem dX7_readCache_76 : decode cX7_readCache 76 = .ok (.getfield 137, 3) := by decide +kernel
theorem dX7_readCache_79 : decode cX7_readCache 79 = .ok (.iload_n 1, 1) := by decide +kernel
theorem dX7_readCache_80 : decode cX7_readCache 80 = .ok (.putfield 141, 3) := by decide +kernel
theorem dX7_readCache_83 : decode cX7_readCache 83 = .ok (.aload_n 0, 1) := by decide +kernel
theorem dX7_readCache_84 : decode cX7_readCache 84 = .ok (.getfield 137, 3) := by decide +kernel
theorem dX7_readCache_87 : decode cX7_readCache 87 = .ok (.iload_n 2, 1) := by decide +kernel
theorem dX7_readCache_88 : decode cX7_readCache 88 = .ok (.putfield 191, 3) := by decide +kernel
theorem dX7_readCache_91 : decode cX7_readCache 91 = .ok (.aload_n 0, 1) := by decide +kernel
theorem dX7_readCache_92 : decode cX7_readCache 92 = .ok (.getfield 137, 3) := by decide +kernel
theorem dX7_readCache_95 : decode cX7_readCache 95 = .ok (.iload_n 3, 1) := by decide +kernel
theorem dX7_readCache_96 : decode cX7_readCache 96 = .ok (.putfield 193, 3) := by decide +kernel
theorem dX7_readCache_99 : decode cX7_readCache 99 = .ok (.return_, 1) := by decide +kernel
theorem dX7_readTold_0 : decode cX7_readTold 0 = .ok (.aload_n 0, 1) := by decide +kernel
theorem dX7_readTold_1 : decode cX7_readTold 1 = .ok (.aload_n 0, 1) := by decide +kernel
theorem dX7_readTold_2 : decode cX7_readTold 2 = .ok (.getfield 137, 3) := by decide +kernel
theorem dX7_readTold_5 : decode cX7_readTold 5 = .ok (.getfield 196, 3) := by decide +kernel
theorem dX7_readTold_8 : decode cX7_readTold 8 = .ok (.bipush 16, 2) := by decide +kernel
theorem dX7_readTold_10 : decode cX7_readTold 10 = .ok (.invokevirtual 199, 3) := by decide +kernel
theorem dX7_readTold_13 : decode cX7_readTold 13 = .ok (.aload_n 0, 1) := by decide +kernel
theorem dX7_readTold_14 : decode cX7_readTold 14 = .ok (.iconst 0, 1) := by decide +kernel
theorem dX7_readTold_15 : decode cX7_readTold 15 = .ok (.bipush 31, 2) := by decide +kernel
theorem dX7_readTold_17 : decode cX7_readTold 17 = .ok (.invokevirtual 126, 3) := by decide +kernel
theorem dX7_readTold_20 : decode cX7_readTold 20 = .ok (.istore_n 1, 1) := by decide +kernel
theorem dX7_readTold_21 : decode cX7_readTold 21 = .ok (.aload_n 0, 1) := by decide +kernel
theorem dX7_readTold_22 : decode cX7_readTold 22 = .ok (.getfield 75, 3) := by decide +kernel
theorem dX7_readTold_25 : decode cX7_readTold 25 = .ok (.iconst 5, 1) := by decide +kernel
theorem dX7_readTold_26 : decode cX7_readTold 26 = .ok (.if_icmp .eq 22, 3) := by decide +kernel
theorem dX7_readTold_29 : decode cX7_readTold 29 = .ok (.aload_n 0, 1) := by decide +kernel
theorem dX7_readTold_30 : decode cX7_readTold 30 = .ok (.getfield 137, 3) := by decide +kernel
theorem dX7_readTold_33 : decode cX7_readTold 33 = .ok (.getfield 203, 3) := by decide +kernel
theorem dX7_readTold_36 : decode cX7_readTold 36 = .ok (.iload_n 1, 1) := by decide +kernel
theorem dX7_readTold_37 : decode cX7_readTold 37 = .ok (.invokestatic 206, 3) := by decide +kernel
theorem dX7_readTold_40 : decode cX7_readTold 40 = .ok (.ifCond .eq 8, 3) := by decide +kernel
theorem dX7_readTold_43 : decode cX7_readTold 43 = .ok (.aload_n 0, 1) := by decide +kernel
theorem dX7_readTold_44 : decode cX7_readTold 44 = .ok (.iconst 3, 1) := by decide +kernel
theorem dX7_readTold_45 : decode cX7_readTold 45 = .ok (.invokevirtual 118, 3) := by decide +kernel
theorem dX7_readTold_48 : decode cX7_readTold 48 = .ok (.aload_n 0, 1) := by decide +kernel
theorem dX7_readTold_49 : decode cX7_readTold 49 = .ok (.invokevirtual 111, 3) := by decide +kernel
theorem dX7_readTold_52 : decode cX7_readTold 52 = .ok (.iconst 0, 1) := by decide +kernel
theorem dX7_readTold_53 : decode cX7_readTold 53 = .ok (.istore_n 2, 1) := by decide +kernel
theorem dX7_readTold_54 : decode cX7_readTold 54 = .ok (.iload_n 2, 1) := by decide +kernel
theorem dX7_readTold_55 : decode cX7_readTold 55 = .ok (.bipush 8, 2) := by decide +kernel
theorem dX7_readTold_57 : decode cX7_readTold 57 = .ok (.if_icmp .ge 40, 3) := by decide +kernel
theorem dX7_readTold_60 : decode cX7_readTold 60 = .ok (.aload_n 0, 1) := by decide +kernel
theorem dX7_readTold_61 : decode cX7_readTold 61 = .ok (.iconst 0, 1) := by decide +kernel
theorem dX7_readTold_62 : decode cX7_readTold 62 = .ok (.ldc 210, 2) := by decide +kernel
theorem dX7_readTold_64 : decode cX7_readTold 64 = .ok (.invokevirtual 134, 3) := by decide +kernel
theorem dX7_readTold_67 : decode cX7_readTold 67 = .ok (.istore_n 3, 1) := by decide +kernel
theorem dX7_readTold_68 : decode cX7_readTold 68 = .ok (.aload_n 0, 1) := by decide +kernel
theorem dX7_readTold_69 : decode cX7_readTold 69 = .ok (.getfield 75, 3) := by decide +kernel
theorem dX7_readTold_72 : decode cX7_readTold 72 = .ok (.iconst 5, 1) := by decide +kernel
theorem dX7_readTold_73 : decode cX7_readTold 73 = .ok (.if_icmp .eq 18, 3) := by decide +kernel
theorem dX7_readTold_76 : decode cX7_readTold 76 = .ok (.aload_n 0, 1) := by decide +kernel
theorem dX7_readTold_77 : decode cX7_readTold 77 = .ok (.getfield 137, 3) := by decide +kernel
theorem dX7_readTold_80 : decode cX7_readTold 80 = .ok (.getfield 211, 3) := by decide +kernel
theorem dX7_readTold_83 : decode cX7_readTold 83 = .ok (.bipush 8, 2) := by decide +kernel
theorem dX7_readTold_85 : decode cX7_readTold 85 = .ok (.iload_n 1, 1) := by decide +kernel
theorem dX7_readTold_86 : decode cX7_readTold 86 = .ok (.imul, 1) := by decide +kernel
theorem dX7_readTold_87 : decode cX7_readTold 87 = .ok (.iload_n 2, 1) := by decide +kernel
theorem dX7_readTold_88 : decode cX7_readTold 88 = .ok (.iadd, 1) := by decide +kernel
theorem dX7_readTold_89 : decode cX7_readTold 89 = .ok (.iload_n 3, 1) := by decide +kernel
theorem dX7_readTold_90 : decode cX7_readTold 90 = .ok (.iastore, 1) := by decide +kernel
theorem dX7_readTold_91 : decode cX7_readTold 91 = .ok (.iinc 2 1, 3) := by decide +kernel
theorem dX7_readTold_94 : decode cX7_readTold 94 = .ok (.goto (-40), 3) := by decide +kernel
theorem dX7_readTold_97 : decode cX7_readTold 97 = .ok (.aload_n 0, 1) := by decide +kernel
theorem dX7_readTold_98 : decode cX7_readTold 98 = .ok (.getfield 75, 3) := by decide +kernel
theorem dX7_readTold_101 : decode cX7_readTold 101 = .ok (.iconst 5, 1) := by decide +kernel
theorem dX7_readTold_102 : decode cX7_readTold 102 = .ok (.if_icmp .ne 4, 3) := by decide +kernel
theorem dX7_readTold_105 : decode cX7_readTold 105 = .ok (.return_, 1) := by decide +kernel
theorem dX7_readTold_106 : decode cX7_readTold 106 = .ok (.aload_n 0, 1) := by decide +kernel
theorem dX7_readTold_107 : decode cX7_readTold 107 = .ok (.getfield 137, 3) := by decide +kernel
theorem dX7_readTold_110 : decode cX7_readTold 110 = .ok (.dup, 1) := by decide +kernel
theorem dX7_readTold_111 : decode cX7_readTold 111 = .ok (.getfield 203, 3) := by decide +kernel
theorem dX7_readTold_114 : decode cX7_readTold 114 = .ok (.iconst 1, 1) := by decide +kernel
theorem dX7_readTold_115 : decode cX7_readTold 115 = .ok (.iload_n 1, 1) := by decide +kernel
theorem dX7_readTold_116 : decode cX7_readTold 116 = .ok (.ishl, 1) := by decide +kernel
theorem dX7_readTold_117 : decode cX7_readTold 117 = .ok (.ior, 1) := by decide +kernel
theorem dX7_readTold_118 : decode cX7_readTold 118 = .ok (.putfield 203, 3) := by decide +kernel
theorem dX7_readTold_121 : decode cX7_readTold 121 = .ok (.aload_n 0, 1) := by decide +kernel
theorem dX7_readTold_122 : decode cX7_readTold 122 = .ok (.getfield 137, 3) := by decide +kernel
theorem dX7_readTold_125 : decode cX7_readTold 125 = .ok (.dup, 1) := by decide +kernel
theorem dX7_readTold_126 : decode cX7_readTold 126 = .ok (.getfield 196, 3) := by decide +kernel
theorem dX7_readTold_129 : decode cX7_readTold 129 = .ok (.iconst 1, 1) := by decide +kernel
theorem dX7_readTold_130 : decode cX7_readTold 130 = .ok (.iadd, 1) := by decide +kernel
theorem dX7_readTold_131 : decode cX7_readTold 131 = .ok (.putfield 196, 3) := by decide +kernel
theorem dX7_readTold_134 : decode cX7_readTold 134 = .ok (.return_, 1) := by decide +kernel
theorem dX7_readStep_0 : decode cX7_readStep 0 = .ok (.aload_n 0, 1) := by decide +kernel
theorem dX7_readStep_1 : decode cX7_readStep 1 = .ok (.aload_n 0, 1) := by decide +kernel
theorem dX7_readStep_2 : decode cX7_readStep 2 = .ok (.getfield 137, 3) := by decide +kernel
theorem dX7_readStep_5 : decode cX7_readStep 5 = .ok (.getfield 214, 3) := by decide +kernel
theorem dX7_readStep_8 : decode cX7_readStep 8 = .ok (.bipush 16, 2) := by decide +kernel
theorem dX7_readStep_10 : decode cX7_readStep 10 = .ok (.invokevirtual 199, 3) := by decide +kernel
theorem dX7_readStep_13 : decode cX7_readStep 13 = .ok (.aload_n 0, 1) := by decide +kernel
theorem dX7_readStep_14 : decode cX7_readStep 14 = .ok (.iconst 0, 1) := by decide +kernel
theorem dX7_readStep_15 : decode cX7_readStep 15 = .ok (.bipush 31, 2) := by decide +kernel
theorem dX7_readStep_17 : decode cX7_readStep 17 = .ok (.invokevirtual 134, 3) := by decide +kernel
theorem dX7_readStep_20 : decode cX7_readStep 20 = .ok (.istore_n 2, 1) := by decide +kernel
theorem dX7_readStep_21 : decode cX7_readStep 21 = .ok (.aload_n 0, 1) := by decide +kernel
theorem dX7_readStep_22 : decode cX7_readStep 22 = .ok (.iconst 0, 1) := by decide +kernel
theorem dX7_readStep_23 : decode cX7_readStep 23 = .ok (.bipush 7, 2) := by decide +kernel
theorem dX7_readStep_25 : decode cX7_readStep 25 = .ok (.invokevirtual 134, 3) := by decide +kernel
theorem dX7_readStep_28 : decode cX7_readStep 28 = .ok (.istore_n 3, 1) := by decide +kernel
theorem dX7_readStep_29 : decode cX7_readStep 29 = .ok (.iload_n 1, 1) := by decide +kernel
theorem dX7_readStep_30 : decode cX7_readStep 30 = .ok (.ifCond .eq 13, 3) := by decide +kernel
theorem dX7_readStep_33 : decode cX7_readStep 33 = .ok (.aload_n 0, 1) := by decide +kernel
theorem dX7_readStep_34 : decode cX7_readStep 34 = .ok (.iconst 0, 1) := by decide +kernel
theorem dX7_readStep_35 : decode cX7_readStep 35 = .ok (.ldc 210, 2) := by decide +kernel
theorem dX7_readStep_37 : decode cX7_readStep 37 = .ok (.invokevirtual 134, 3) := by decide +kernel
theorem dX7_readStep_40 : decode cX7_readStep 40 = .ok (.goto 4, 3) := by decide +kernel
theorem dX7_readStep_43 : decode cX7_readStep 43 = .ok (.iconst (-1), 1) := by decide +kernel
theorem dX7_readStep_44 : decode cX7_readStep 44 = .ok (.istore 4, 2) := by decide +kernel
theorem dX7_readStep_46 : decode cX7_readStep 46 = .ok (.aload_n 0, 1) := by decide +kernel
theorem dX7_readStep_47 : decode cX7_readStep 47 = .ok (.getfield 75, 3) := by decide +kernel
theorem dX7_readStep_50 : decode cX7_readStep 50 = .ok (.iconst 5, 1) := by decide +kernel
theorem dX7_readStep_51 : decode cX7_readStep 51 = .ok (.if_icmp .ne 4, 3) := by decide +kernel
theorem dX7_readStep_54 : decode cX7_readStep 54 = .ok (.return_, 1) := by decide +kernel
theorem dX7_readStep_55 : decode cX7_readStep 55 = .ok (.aload_n 0, 1) := by decide +kernel
theorem dX7_readStep_56 : decode cX7_readStep 56 = .ok (.getfield 137, 3) := by decide +kernel
theorem dX7_readStep_59 : decode cX7_readStep 59 = .ok (.getfield 217, 3) := by decide +kernel
theorem dX7_readStep_62 : decode cX7_readStep 62 = .ok (.aload_n 0, 1) := by decide +kernel
theorem dX7_readStep_63 : decode cX7_readStep 63 = .ok (.getfield 137, 3) := by decide +kernel
theorem dX7_readStep_66 : decode cX7_readStep 66 = .ok (.getfield 214, 3) := by decide +kernel
theorem dX7_readStep_69 : decode cX7_readStep 69 = .ok (.iload_n 2, 1) := by decide +kernel
theorem dX7_readStep_70 : decode cX7_readStep 70 = .ok (.iastore, 1) := by decide +kernel
theorem dX7_readStep_71 : decode cX7_readStep 71 = .ok (.aload_n 0, 1) := by decide +kernel
